set_option maxHeartbeats 4000000 in
set_option maxRecDepth 100000 in
/-- in(v, a, b) -/
theorem c_X7_in (l : Launch) (D : va_G) (tys : List (ClassId × FieldType)) (ws : va_W) (v : Int32) (a : Int32) (b : Int32) : cx_Mi l D vwCl tys cx_NW yX7_in wsX7_in ({ frames := 0, cells := 0, slots := 0, locals := 0 } : Room) [.int v, .int a, .int b] ws (fun (r : Int32) (uw : Unit) => r = cx_b (a ≤ v ∧ v ≤ b)) (fun _ => ws) := by
  refine cx_Mi.of (cc := cX7_in) (maxL := 3) cx_NW_ok (by decide) rfl (Nat.le_of_ble_eq_true rfl) ?_
  intro p e s m args below meth c Q A ls hx hb hml hown hts hE RET hS hl
  have hl : lv_has ls 3 [(0, .int v), (1, .int a), (2, .int b)] := hl
  have hown : s.vm.findClass RX7 = some m.cls := hown
  refine lv_iload_n hx hb dX7_in_0 rfl (lv_at hl 0 rfl) ?_
  refine lv_iload_n hx hb dX7_in_1 rfl (lv_at hl 1 rfl) ?_
  refine lv_icmp_lt (tgt := 14) hx hb dX7_in_2 (by decide) (fun h2 => ?_) (fun h2 => ?_)
  · skip
    refine lv_iconst (v := (0 : Int32)) hx hb dX7_in_14 (by decide) ?_
    exact RET _ () _ _ _ _ dX7_in_15 rfl (by first | exact cx_bt ⟨Int32.not_lt.mp h2, Int32.not_lt.mp h7⟩ | exact cx_bf (fun z => absurd z.2 (Int32.not_le.mpr h7)) | exact cx_bf (fun z => absurd z.1 (Int32.not_le.mpr h2))) hS
  · skip
    refine lv_iload_n hx hb dX7_in_5 rfl (lv_at hl 0 rfl) ?_
    refine lv_iload_n hx hb dX7_in_6 rfl (lv_at hl 2 rfl) ?_
    refine lv_icmp_gt (tgt := 14) hx hb dX7_in_7 (by decide) (fun h7 => ?_) (fun h7 => ?_)
    · skip
      refine lv_iconst (v := (0 : Int32)) hx hb dX7_in_14 (by decide) ?_
      exact RET _ () _ _ _ _ dX7_in_15 rfl (by first | exact cx_bt ⟨Int32.not_lt.mp h2, Int32.not_lt.mp h7⟩ | exact cx_bf (fun z => absurd z.2 (Int32.not_le.mpr h7)) | exact cx_bf (fun z => absurd z.1 (Int32.not_le.mpr h2))) hS
    · skip
      refine lv_iconst (v := (1 : Int32)) hx hb dX7_in_10 (by decide) ?_
      refine lv_goto (tgt := 15) hx hb dX7_in_11 (by decide) ?_
      exact RET _ () _ _ _ _ dX7_in_15 rfl (by first | exact cx_bt ⟨Int32.not_lt.mp h2, Int32.not_lt.mp h7⟩ | exact cx_bf (fun z => absurd z.2 (Int32.not_le.mpr h7)) | exact cx_bf (fun z => absurd z.1 (Int32.not_le.mpr h2))) hS
set_option maxHeartbeats 4000000 in
set_option maxRecDepth 100000 in
/-- isType(t) -/
theorem c_X7_isType (l : Launch) (D : va_G) (q : Nat → Nat) (cI cZ : ClassId) (n : Nat) (T : Nat → Nat → Int32) (k : Nat) (M : Nat → Nat → Int32) (d : Nat) (Z : Nat → Nat → Int32) (F : Nat → Nat → Int32) (t : Int32) (hn : n ≤ 20) : cx_Mi l D vwCl [(cI, .int), (cZ, .boolean)] cx_NW yX7_isType wsX7_isType ({ frames := 1, cells := 0, slots := 0, locals := 22 } : Room) [.ref (q 0), .int t] (cyW q cI cZ n T k M d Z F) (fun (r : Int32) (uw : Unit) => r = cx_b (0 ≤ t ∧ t < nI n)) (fun _ => (cyW q cI cZ n T k M d Z F)) := by
  refine cx_Mi.of (cc := cX7_isType) (maxL := 2) cx_NW_ok (by decide) rfl (Nat.le_of_ble_eq_true rfl) ?_
  intro p e s m args below meth c Q A ls hx hb hml hown hts hE RET hS hl
  have hl : lv_has ls 2 [(0, .ref (q 0)), (1, .int t)] := hl
  have hown : s.vm.findClass RX7 = some m.cls := hown
  have hinX7 : ∀ w ∈ u_ws RX7 TX7 22, w ∈ wsX7_isType := cx_mem [6, 7, 8, 9, 10, 11, 12, 13, 14, 15, 16, 17, 18, 19, 20, 21, 22, 23, 24, 25, 26, 27] (by decide +kernel)
  refine lv_iload_n hx hb dX7_isType_0 rfl (lv_at hl 1 rfl) ?_
  refine lv_iconst (v := (0 : Int32)) hx hb dX7_isType_1 (by decide) ?_
  refine lv_aload_n hx hb dX7_isType_2 rfl (lv_at hl 0 rfl) ?_
  refine cx_get (own := RX7) (index := 65) (C := RX7) (T := TX7) (N := 22) (k := 0) (ci := 7) (v := .int (nI n)) hx hb hts hown hE hS hinX7 0 rfl rfl (by decide) (List.mem_of_getElem? (i := 1) rfl) rfl dX7_isType_3 ?_
  refine lv_iconst (v := (1 : Int32)) hx hb dX7_isType_6 (by decide) ?_
  refine lv_isub hx hb dX7_isType_7 ?_
  refine cx_cSi (As := [.int t, .int (0 : Int32), .int ((nI n) - (1 : Int32))]) (rest := []) ⟨hx, hb, hml, hown, hts⟩ hE hS (c_X7_in l D [(cI, .int), (cZ, .boolean)] (cyW q cI cZ n T k M d Z F) t (0 : Int32) ((nI n) - (1 : Int32)) ) (va_cwS 3 hts gX7_isType_X7_in rfl rfl rfl (by decide +kernel) ⟨Nat.le_of_ble_eq_true rfl, Nat.le_of_ble_eq_true rfl⟩) rfl hl.1 rfl (Nat.le_of_ble_eq_true rfl) ⟨Nat.zero_le _, Nat.zero_le _⟩ dX7_isType_8 (fun r_8 u_8 H locs hp_8 hS => ?_)
  have hp_8 : r_8 = cx_b ((0 : Int32) ≤ t ∧ t ≤ ((nI n) - (1 : Int32))) := hp_8
  subst hp_8
  exact RET _ () _ _ _ _ dX7_isType_11 cx_bn (cx_bc (cx_m1 n (by omega) t)) hS
set_option maxHeartbeats 4000000 in
set_option maxRecDepth 100000 in
/-- told(a) of the reference -/
theorem c_X7_told (l : Launch) (D : va_G) (q : Nat → Nat) (cI cZ : ClassId) (n : Nat) (T : Nat → Nat → Int32) (k : Nat) (M : Nat → Nat → Int32) (d : Nat) (Z : Nat → Nat → Int32) (F : Nat → Nat → Int32) (a : Int32) : cx_Mi l D vwCl [(cI, .int), (cZ, .boolean)] cx_NW yX7_told wsX7_told ({ frames := 0, cells := 0, slots := 0, locals := 0 } : Room) [.ref (q 0), .int a] (cyW q cI cZ n T k M d Z F) (fun (r : Int32) (uw : Unit) => r = (if a = 0 then nI n else if a = 1 then nI k else (-1 : Int32))) (fun _ => (cyW q cI cZ n T k M d Z F)) := by
  refine cx_Mi.of (cc := cX7_told) (maxL := 2) cx_NW_ok (by decide) rfl (Nat.le_of_ble_eq_true rfl) ?_
  intro p e s m args below meth c Q A ls hx hb hml hown hts hE RET hS hl
  have hl : lv_has ls 2 [(0, .ref (q 0)), (1, .int a)] := hl
  have hown : s.vm.findClass RX7 = some m.cls := hown
  have hinX7 : ∀ w ∈ u_ws RX7 TX7 22, w ∈ wsX7_told := cx_mem [3, 4, 5, 6, 7, 8, 9, 10, 11, 12, 13, 14, 15, 16, 17, 18, 19, 20, 21, 22, 23, 24] (by decide +kernel)
  refine lv_iload_n hx hb dX7_told_0 rfl (lv_at hl 1 rfl) ?_
  refine lv_if_ne (tgt := 11) hx hb dX7_told_1 (by decide) (fun h1 => ?_) (fun h1 => ?_)
  · skip
    refine lv_iload_n hx hb dX7_told_11 rfl (lv_at hl 1 rfl) ?_
    refine lv_iconst (v := (1 : Int32)) hx hb dX7_told_12 (by decide) ?_
    refine lv_icmp_ne (tgt := 23) hx hb dX7_told_13 (by decide) (fun h13 => ?_) (fun h13 => ?_)
    · skip
      refine lv_iconst (v := (-1 : Int32)) hx hb dX7_told_23 (by decide) ?_
      exact RET _ () _ _ _ _ dX7_told_24 rfl (by first | rw [if_pos h1] | rw [if_neg h1, if_pos h13] | rw [if_neg h1, if_neg h13]) hS
    · skip
      refine lv_aload_n hx hb dX7_told_16 rfl (lv_at hl 0 rfl) ?_
      refine cx_get (own := RX7) (index := 81) (C := RX7) (T := TX7) (N := 22) (k := 9) (ci := 7) (v := .int (nI k)) hx hb hts hown hE hS hinX7 0 rfl rfl (by decide) (List.mem_of_getElem? (i := 2) rfl) rfl dX7_told_17 ?_
      refine lv_goto (tgt := 24) hx hb dX7_told_20 (by decide) ?_
      exact RET _ () _ _ _ _ dX7_told_24 rfl (by first | rw [if_pos h1] | rw [if_neg h1, if_pos h13] | rw [if_neg h1, if_neg h13]) hS
  · skip
    refine lv_aload_n hx hb dX7_told_4 rfl (lv_at hl 0 rfl) ?_
    refine cx_get (own := RX7) (index := 65) (C := RX7) (T := TX7) (N := 22) (k := 0) (ci := 7) (v := .int (nI n)) hx hb hts hown hE hS hinX7 0 rfl rfl (by decide) (List.mem_of_getElem? (i := 1) rfl) rfl dX7_told_5 ?_
    refine lv_goto (tgt := 24) hx hb dX7_told_8 (by decide) ?_
    exact RET _ () _ _ _ _ dX7_told_24 rfl (by first | rw [if_pos h1] | rw [if_neg h1, if_pos h13] | rw [if_neg h1, if_neg h13]) hS
set_option maxHeartbeats 4000000 in
set_option maxRecDepth 100000 in
/-- type(kd, mk, pk, pr) of the reference -/
theorem c_X7_type (l : Launch) (D : va_G) (q : Nat → Nat) (cI cZ : ClassId) (n : Nat) (T : Nat → Nat → Int32) (k : Nat) (M : Nat → Nat → Int32) (d : Nat) (Z : Nat → Nat → Int32) (F : Nat → Nat → Int32) (kd : Int32) (mk : Int32) (pk : Int32) (pr : Int32) (hn : n ≤ 20) : cx_Mi l D vwCl [(cI, .int), (cZ, .boolean)] cx_NW yX7_type wsX7_type ({ frames := 1, cells := 0, slots := 0, locals := 22 } : Room) [.ref (q 0), .int kd, .int mk, .int pk, .int pr] (cyW q cI cZ n T k M d Z F) (fun (r : Int32) (uw : (Nat) × (Nat → Nat → Int32) × (Nat → Nat → Int32)) => (¬ cx_okT kd mk pk pr ∧ r = (-1 : Int32) ∧ uw.1 = n ∧ uw.2.1 = T ∧ uw.2.2 = Z) ∨ (cx_okT kd mk pk pr ∧ ¬ n < 20 ∧ r = (-2 : Int32) ∧ uw.1 = n ∧ uw.2.1 = T ∧ uw.2.2 = Z) ∨ (cx_okT kd mk pk pr ∧ n < 20 ∧ r = nI n ∧ uw.1 = n + 1 ∧ uw.2.1 = cx_u (cx_u (cx_u (cx_u T 0 (upd (T 0) n kd)) 1 (upd (T 1) n mk)) 2 (upd (T 2) n pk)) 3 (upd (T 3) n pr) ∧ uw.2.2 = cx_u Z 3 (fun _ => (0 : Int32)))) (fun uw => (cyW q cI cZ uw.1 uw.2.1 k M d uw.2.2 F)) := by
  refine cx_Mi.of (cc := cX7_type) (maxL := 5) cx_NW_ok (by decide) rfl (Nat.le_of_ble_eq_true rfl) ?_
  intro p e s m args below meth c Q A ls hx hb hml hown hts hE RET hS hl
  have hl : lv_has ls 5 [(0, .ref (q 0)), (1, .int kd), (2, .int mk), (3, .int pk), (4, .int pr)] := hl
  have hown : s.vm.findClass RX7 = some m.cls := hown
  have hinX7 : ∀ w ∈ u_ws RX7 TX7 22, w ∈ wsX7_type := cx_mem [11, 12, 13, 14, 15, 16, 17, 18, 19, 20, 21, 22, 23, 24, 25, 26, 27, 28, 29, 30, 31, 32] (by decide +kernel)
  refine lv_iload_n hx hb dX7_type_0 rfl (lv_at hl 1 rfl) ?_
  refine lv_iconst (v := (0 : Int32)) hx hb dX7_type_1 (by decide) ?_
  refine lv_iconst (v := nI 3) hx hb dX7_type_2 (by decide) ?_
  refine cx_cSi (As := [.int kd, .int (0 : Int32), .int (nI 3)]) (rest := []) ⟨hx, hb, hml, hown, hts⟩ hE hS (c_X7_in l D [(cI, .int), (cZ, .boolean)] (cyW q cI cZ n T k M d Z F) kd (0 : Int32) (nI 3) ) (va_cwS 3 hts gX7_type_X7_in rfl rfl rfl (by decide +kernel) ⟨Nat.le_of_ble_eq_true rfl, Nat.le_of_ble_eq_true rfl⟩) rfl hl.1 rfl (Nat.le_of_ble_eq_true rfl) ⟨Nat.zero_le _, Nat.zero_le _⟩ dX7_type_3 (fun r_3 u_3 H locs hp_3 hS => ?_)
  have hp_3 : r_3 = cx_b ((0 : Int32) ≤ kd ∧ kd ≤ (nI 3)) := hp_3
  subst hp_3
  refine lv_if_eq (tgt := 39) hx hb dX7_type_6 (by decide) (fun h6 => ?_) (fun h6 => ?_)
  · skip
    have g6 := cx_b0 h6
    refine lv_iconst (v := (-1 : Int32)) hx hb dX7_type_39 (by decide) ?_
    exact RET _ (n, T, Z) _ _ _ _ dX7_type_40 rfl (by first | exact Or.inl ⟨fun z => g6 ⟨z.1.1, (cx_le3 _).mpr z.1.2⟩, rfl, rfl, rfl, rfl⟩ | exact Or.inl ⟨fun z => g16 ⟨z.2.1.1, (cx_le15 _).mpr z.2.1.2⟩, rfl, rfl, rfl, rfl⟩ | exact Or.inl ⟨fun z => g25 ⟨z.2.2.1.1, (cx_le3 _).mpr z.2.2.1.2⟩, rfl, rfl, rfl, rfl⟩ | exact Or.inl ⟨fun z => g36 ((cx_pr _).mpr z.2.2.2), rfl, rfl, rfl, rfl⟩) hS
  · skip
    have g6 := cx_b1 h6
    refine lv_iload_n hx hb dX7_type_9 rfl (lv_at hl 2 rfl) ?_
    refine lv_iconst (v := (0 : Int32)) hx hb dX7_type_10 (by decide) ?_
    refine lv_bipush (v := nI 15) hx hb dX7_type_11 (by decide) ?_
    refine cx_cSi (As := [.int mk, .int (0 : Int32), .int (nI 15)]) (rest := []) ⟨hx, hb, hml, hown, hts⟩ hE hS (c_X7_in l D [(cI, .int), (cZ, .boolean)] (cyW q cI cZ n T k M d Z F) mk (0 : Int32) (nI 15) ) (va_cwS 3 hts gX7_type_X7_in rfl rfl rfl (by decide +kernel) ⟨Nat.le_of_ble_eq_true rfl, Nat.le_of_ble_eq_true rfl⟩) rfl hl.1 rfl (Nat.le_of_ble_eq_true rfl) ⟨Nat.zero_le _, Nat.zero_le _⟩ dX7_type_13 (fun r_13 u_13 H locs hp_13 hS => ?_)
    have hp_13 : r_13 = cx_b ((0 : Int32) ≤ mk ∧ mk ≤ (nI 15)) := hp_13
    subst hp_13
    refine lv_if_eq (tgt := 39) hx hb dX7_type_16 (by decide) (fun h16 => ?_) (fun h16 => ?_)
    · skip
      have g16 := cx_b0 h16
      refine lv_iconst (v := (-1 : Int32)) hx hb dX7_type_39 (by decide) ?_
      exact RET _ (n, T, Z) _ _ _ _ dX7_type_40 rfl (by first | exact Or.inl ⟨fun z => g6 ⟨z.1.1, (cx_le3 _).mpr z.1.2⟩, rfl, rfl, rfl, rfl⟩ | exact Or.inl ⟨fun z => g16 ⟨z.2.1.1, (cx_le15 _).mpr z.2.1.2⟩, rfl, rfl, rfl, rfl⟩ | exact Or.inl ⟨fun z => g25 ⟨z.2.2.1.1, (cx_le3 _).mpr z.2.2.1.2⟩, rfl, rfl, rfl, rfl⟩ | exact Or.inl ⟨fun z => g36 ((cx_pr _).mpr z.2.2.2), rfl, rfl, rfl, rfl⟩) hS
    · skip
      have g16 := cx_b1 h16
      refine lv_iload_n hx hb dX7_type_19 rfl (lv_at hl 3 rfl) ?_
      refine lv_iconst (v := (0 : Int32)) hx hb dX7_type_20 (by decide) ?_
      refine lv_iconst (v := nI 3) hx hb dX7_type_21 (by decide) ?_
      refine cx_cSi (As := [.int pk, .int (0 : Int32), .int (nI 3)]) (rest := []) ⟨hx, hb, hml, hown, hts⟩ hE hS (c_X7_in l D [(cI, .int), (cZ, .boolean)] (cyW q cI cZ n T k M d Z F) pk (0 : Int32) (nI 3) ) (va_cwS 3 hts gX7_type_X7_in rfl rfl rfl (by decide +kernel) ⟨Nat.le_of_ble_eq_true rfl, Nat.le_of_ble_eq_true rfl⟩) rfl hl.1 rfl (Nat.le_of_ble_eq_true rfl) ⟨Nat.zero_le _, Nat.zero_le _⟩ dX7_type_22 (fun r_22 u_22 H locs hp_22 hS => ?_)
      have hp_22 : r_22 = cx_b ((0 : Int32) ≤ pk ∧ pk ≤ (nI 3)) := hp_22
      subst hp_22
      refine lv_if_eq (tgt := 39) hx hb dX7_type_25 (by decide) (fun h25 => ?_) (fun h25 => ?_)
      · skip
        have g25 := cx_b0 h25
        refine lv_iconst (v := (-1 : Int32)) hx hb dX7_type_39 (by decide) ?_
        exact RET _ (n, T, Z) _ _ _ _ dX7_type_40 rfl (by first | exact Or.inl ⟨fun z => g6 ⟨z.1.1, (cx_le3 _).mpr z.1.2⟩, rfl, rfl, rfl, rfl⟩ | exact Or.inl ⟨fun z => g16 ⟨z.2.1.1, (cx_le15 _).mpr z.2.1.2⟩, rfl, rfl, rfl, rfl⟩ | exact Or.inl ⟨fun z => g25 ⟨z.2.2.1.1, (cx_le3 _).mpr z.2.2.1.2⟩, rfl, rfl, rfl, rfl⟩ | exact Or.inl ⟨fun z => g36 ((cx_pr _).mpr z.2.2.2), rfl, rfl, rfl, rfl⟩) hS
      · skip
        have g25 := cx_b1 h25
        refine lv_iload hx hb dX7_type_28 (lv_at hl 4 rfl) ?_
        refine lv_iconst (v := (-1 : Int32)) hx hb dX7_type_30 (by decide) ?_
        refine lv_bipush (v := nI 19) hx hb dX7_type_31 (by decide) ?_
        refine cx_cSi (As := [.int pr, .int (-1 : Int32), .int (nI 19)]) (rest := []) ⟨hx, hb, hml, hown, hts⟩ hE hS (c_X7_in l D [(cI, .int), (cZ, .boolean)] (cyW q cI cZ n T k M d Z F) pr (-1 : Int32) (nI 19) ) (va_cwS 3 hts gX7_type_X7_in rfl rfl rfl (by decide +kernel) ⟨Nat.le_of_ble_eq_true rfl, Nat.le_of_ble_eq_true rfl⟩) rfl hl.1 rfl (Nat.le_of_ble_eq_true rfl) ⟨Nat.zero_le _, Nat.zero_le _⟩ dX7_type_33 (fun r_33 u_33 H locs hp_33 hS => ?_)
        have hp_33 : r_33 = cx_b ((-1 : Int32) ≤ pr ∧ pr ≤ (nI 19)) := hp_33
        subst hp_33
        refine lv_if_ne (tgt := 41) hx hb dX7_type_36 (by decide) (fun h36 => ?_) (fun h36 => ?_)
        · skip
          have g36 := cx_b1 h36
          refine lv_aload_n hx hb dX7_type_41 rfl (lv_at hl 0 rfl) ?_
          refine cx_get (own := RX7) (index := 65) (C := RX7) (T := TX7) (N := 22) (k := 0) (ci := 7) (v := .int (nI n)) hx hb hts hown hE hS hinX7 0 rfl rfl (by decide) (List.mem_of_getElem? (i := 1) rfl) rfl dX7_type_42 ?_
          refine lv_bipush (v := nI 20) hx hb dX7_type_45 (by decide) ?_
          refine lv_icmp_ne (tgt := 53) hx hb dX7_type_47 (by decide) (fun h47 => ?_) (fun h47 => ?_)
          · skip
            have g47 : ¬ (n = 20) := fun z => h47 ((nI_eq (a := n) (b := 20) (by omega) (by omega)).mpr z)
            refine lv_aload_n hx hb dX7_type_53 rfl (lv_at hl 0 rfl) ?_
            refine cx_get (own := RX7) (index := 7) (C := RX7) (T := TX7) (N := 22) (k := 1) (ci := 7) (v := .ref (q 1)) hx hb hts hown hE hS hinX7 0 rfl rfl (by decide) (List.mem_of_getElem? (i := 2) rfl) rfl dX7_type_54 ?_
            refine lv_aload_n hx hb dX7_type_57 rfl (lv_at hl 0 rfl) ?_
            refine cx_get (own := RX7) (index := 65) (C := RX7) (T := TX7) (N := 22) (k := 0) (ci := 7) (v := .int (nI n)) hx hb hts hown hE hS hinX7 0 rfl rfl (by decide) (List.mem_of_getElem? (i := 1) rfl) rfl dX7_type_58 ?_
            refine lv_iload_n hx hb dX7_type_61 rfl (lv_at hl 1 rfl) ?_
            refine cx_iast (k := n) (f := (T 0)) (n := 20) (cA := cI) (ws' := (cyW q cI cZ n (cx_u T 0 (upd (T 0) n kd)) k M d Z F)) hx hb hE hS 1 0 rfl rfl (by omega) (by decide) rfl dX7_type_62 (fun H locs hS => ?_)
            refine lv_aload_n hx hb dX7_type_63 rfl (lv_at hl 0 rfl) ?_
            refine cx_get (own := RX7) (index := 13) (C := RX7) (T := TX7) (N := 22) (k := 2) (ci := 7) (v := .ref (q 2)) hx hb hts hown hE hS hinX7 0 rfl rfl (by decide) (List.mem_of_getElem? (i := 3) rfl) rfl dX7_type_64 ?_
            refine lv_aload_n hx hb dX7_type_67 rfl (lv_at hl 0 rfl) ?_
            refine cx_get (own := RX7) (index := 65) (C := RX7) (T := TX7) (N := 22) (k := 0) (ci := 7) (v := .int (nI n)) hx hb hts hown hE hS hinX7 0 rfl rfl (by decide) (List.mem_of_getElem? (i := 1) rfl) rfl dX7_type_68 ?_
            refine lv_iload_n hx hb dX7_type_71 rfl (lv_at hl 2 rfl) ?_
            refine cx_iast (k := n) (f := (T 1)) (n := 20) (cA := cI) (ws' := (cyW q cI cZ n (cx_u (cx_u T 0 (upd (T 0) n kd)) 1 (upd (T 1) n mk)) k M d Z F)) hx hb hE hS 2 0 rfl rfl (by omega) (by decide) rfl dX7_type_72 (fun H locs hS => ?_)
            refine lv_aload_n hx hb dX7_type_73 rfl (lv_at hl 0 rfl) ?_
            refine cx_get (own := RX7) (index := 16) (C := RX7) (T := TX7) (N := 22) (k := 3) (ci := 7) (v := .ref (q 3)) hx hb hts hown hE hS hinX7 0 rfl rfl (by decide) (List.mem_of_getElem? (i := 4) rfl) rfl dX7_type_74 ?_
            refine lv_aload_n hx hb dX7_type_77 rfl (lv_at hl 0 rfl) ?_
            refine cx_get (own := RX7) (index := 65) (C := RX7) (T := TX7) (N := 22) (k := 0) (ci := 7) (v := .int (nI n)) hx hb hts hown hE hS hinX7 0 rfl rfl (by decide) (List.mem_of_getElem? (i := 1) rfl) rfl dX7_type_78 ?_
            refine lv_iload_n hx hb dX7_type_81 rfl (lv_at hl 3 rfl) ?_
            refine cx_iast (k := n) (f := (T 2)) (n := 20) (cA := cI) (ws' := (cyW q cI cZ n (cx_u (cx_u (cx_u T 0 (upd (T 0) n kd)) 1 (upd (T 1) n mk)) 2 (upd (T 2) n pk)) k M d Z F)) hx hb hE hS 3 0 rfl rfl (by omega) (by decide) rfl dX7_type_82 (fun H locs hS => ?_)
            refine lv_aload_n hx hb dX7_type_83 rfl (lv_at hl 0 rfl) ?_
            refine cx_get (own := RX7) (index := 19) (C := RX7) (T := TX7) (N := 22) (k := 4) (ci := 7) (v := .ref (q 4)) hx hb hts hown hE hS hinX7 0 rfl rfl (by decide) (List.mem_of_getElem? (i := 5) rfl) rfl dX7_type_84 ?_
            refine lv_aload_n hx hb dX7_type_87 rfl (lv_at hl 0 rfl) ?_
            refine cx_get (own := RX7) (index := 65) (C := RX7) (T := TX7) (N := 22) (k := 0) (ci := 7) (v := .int (nI n)) hx hb hts hown hE hS hinX7 0 rfl rfl (by decide) (List.mem_of_getElem? (i := 1) rfl) rfl dX7_type_88 ?_
            refine lv_iload hx hb dX7_type_91 (lv_at hl 4 rfl) ?_
            refine cx_iast (k := n) (f := (T 3)) (n := 20) (cA := cI) (ws' := (cyW q cI cZ n (cx_u (cx_u (cx_u (cx_u T 0 (upd (T 0) n kd)) 1 (upd (T 1) n mk)) 2 (upd (T 2) n pk)) 3 (upd (T 3) n pr)) k M d Z F)) hx hb hE hS 4 0 rfl rfl (by omega) (by decide) rfl dX7_type_93 (fun H locs hS => ?_)
            refine lv_aload_n hx hb dX7_type_94 rfl (lv_at hl 0 rfl) ?_
            refine lv_dup hx hb dX7_type_95 rfl ?_
            refine cx_get (own := RX7) (index := 65) (C := RX7) (T := TX7) (N := 22) (k := 0) (ci := 7) (v := .int (nI n)) hx hb hts hown hE hS hinX7 0 rfl rfl (by decide) (List.mem_of_getElem? (i := 1) rfl) rfl dX7_type_96 ?_
            refine lv_iconst (v := (1 : Int32)) hx hb dX7_type_99 (by decide) ?_
            refine lv_iadd hx hb dX7_type_100 ?_
            refine cx_topr (z := nI (n + 1)) (nI_1 _) ?_
            refine cx_put (own := RX7) (index := 65) (C := RX7) (T := TX7) (N := 22) (k := 0) (ci := 7) (v := .int (nI (n + 1))) (ty := .int) (ws' := (cyW q cI cZ (n + 1) (cx_u (cx_u (cx_u (cx_u T 0 (upd (T 0) n kd)) 1 (upd (T 1) n mk)) 2 (upd (T 2) n pk)) 3 (upd (T 3) n pr)) k M d Z F)) hx hb hts hown hE hS hinX7 tyX7 tyX7_ok nmX7 0 rfl rfl (by decide) (List.mem_of_getElem? (i := 1) rfl) rfl (by decide +kernel) rfl rfl (Nat.le_of_ble_eq_true rfl) rfl dX7_type_101 (fun H locs hS => ?_)
            refine lv_aload_n hx hb dX7_type_104 rfl (lv_at hl 0 rfl) ?_
            refine lv_iconst (v := (0 : Int32)) hx hb dX7_type_105 (by decide) ?_
            refine cx_put (own := RX7) (index := 73) (C := RX7) (T := TX7) (N := 22) (k := 17) (ci := 7) (v := .int (0 : Int32)) (ty := .boolean) (ws' := (cyW q cI cZ (n + 1) (cx_u (cx_u (cx_u (cx_u T 0 (upd (T 0) n kd)) 1 (upd (T 1) n mk)) 2 (upd (T 2) n pk)) 3 (upd (T 3) n pr)) k M d (cx_u Z 3 (fun _ => (0 : Int32))) F)) hx hb hts hown hE hS hinX7 tyX7 tyX7_ok nmX7 0 rfl rfl (by decide) (List.mem_of_getElem? (i := 6) rfl) rfl (by decide +kernel) rfl rfl (Nat.le_of_ble_eq_true rfl) rfl dX7_type_106 (fun H locs hS => ?_)
            refine lv_aload_n hx hb dX7_type_109 rfl (lv_at hl 0 rfl) ?_
            refine cx_get (own := RX7) (index := 65) (C := RX7) (T := TX7) (N := 22) (k := 0) (ci := 7) (v := .int (nI (n + 1))) hx hb hts hown hE hS hinX7 0 rfl rfl (by decide) (List.mem_of_getElem? (i := 1) rfl) rfl dX7_type_110 ?_
            refine lv_iconst (v := (1 : Int32)) hx hb dX7_type_113 (by decide) ?_
            refine lv_isub hx hb dX7_type_114 ?_
            refine cx_topr (z := nI n) (nI_pred n) ?_
            exact RET _ (n + 1, cx_u (cx_u (cx_u (cx_u T 0 (upd (T 0) n kd)) 1 (upd (T 1) n mk)) 2 (upd (T 2) n pk)) 3 (upd (T 3) n pr), cx_u Z 3 (fun _ => (0 : Int32))) _ _ _ _ dX7_type_115 rfl (Or.inr (Or.inr ⟨⟨⟨g6.1, (cx_le3 _).mp g6.2⟩, ⟨g16.1, (cx_le15 _).mp g16.2⟩, ⟨g25.1, (cx_le3 _).mp g25.2⟩, (cx_pr _).mp g36⟩, by omega, rfl, rfl, rfl, rfl⟩)) hS
          · skip
            have g47 : n = 20 := (nI_eq (a := n) (b := 20) (by omega) (by omega)).mp h47
            refine lv_bipush (v := (-2 : Int32)) hx hb dX7_type_50 (by decide) ?_
            exact RET _ (n, T, Z) _ _ _ _ dX7_type_52 rfl (Or.inr (Or.inl ⟨⟨⟨g6.1, (cx_le3 _).mp g6.2⟩, ⟨g16.1, (cx_le15 _).mp g16.2⟩, ⟨g25.1, (cx_le3 _).mp g25.2⟩, (cx_pr _).mp g36⟩, by omega, rfl, rfl, rfl, rfl⟩)) hS
        · skip
          have g36 := cx_b0 h36
          refine lv_iconst (v := (-1 : Int32)) hx hb dX7_type_39 (by decide) ?_
          exact RET _ (n, T, Z) _ _ _ _ dX7_type_40 rfl (by first | exact Or.inl ⟨fun z => g6 ⟨z.1.1, (cx_le3 _).mpr z.1.2⟩, rfl, rfl, rfl, rfl⟩ | exact Or.inl ⟨fun z => g16 ⟨z.2.1.1, (cx_le15 _).mpr z.2.1.2⟩, rfl, rfl, rfl, rfl⟩ | exact Or.inl ⟨fun z => g25 ⟨z.2.2.1.1, (cx_le3 _).mpr z.2.2.1.2⟩, rfl, rfl, rfl, rfl⟩ | exact Or.inl ⟨fun z => g36 ((cx_pr _).mpr z.2.2.2), rfl, rfl, rfl, rfl⟩) hS
set_option maxHeartbeats 4000000 in
set_option maxRecDepth 100000 in
theorem c_X7_marked (l : Launch) (D : va_G) (q : Nat → Nat) (cI cZ : ClassId) (n : Nat) (T : Nat → Nat → Int32) (k : Nat) (M : Nat → Nat → Int32) (d : Nat) (Z : Nat → Nat → Int32) (F : Nat → Nat → Int32) (t : Nat) (mk : Int32) (ht : t < 20) : cx_Mi l D vwCl [(cI, .int), (cZ, .boolean)] cx_NW yX7_marked wsX7_marked ({ frames := 0, cells := 0, slots := 0, locals := 0 } : Room) [.ref (q 0), .int (nI t), .int mk] (cyW q cI cZ n T k M d Z F) (fun (r : Int32) (uw : Unit) => r = 0 ∨ r = 1) (fun _ => (cyW q cI cZ n T k M d Z F)) := by
  refine cx_Mi.of (cc := cX7_marked) (maxL := 3) cx_NW_ok (by decide) rfl (Nat.le_of_ble_eq_true rfl) ?_
  intro p e s m args below meth c Q A ls hx hb hml hown hts hE RET hS hl
  have hl : lv_has ls 3 [(0, .ref (q 0)), (1, .int (nI t)), (2, .int mk)] := hl
  have hown : s.vm.findClass RX7 = some m.cls := hown
  have hinX7 : ∀ w ∈ u_ws RX7 TX7 22, w ∈ wsX7_marked := cx_mem [2, 3, 4, 5, 6, 7, 8, 9, 10, 11, 12, 13, 14, 15, 16, 17, 18, 19, 20, 21, 22, 23] (by decide +kernel)
  refine lv_aload_n hx hb dX7_marked_0 rfl (lv_at hl 0 rfl) ?_
  refine cx_get (own := RX7) (index := 13) (C := RX7) (T := TX7) (N := 22) (k := 2) (ci := 7) (v := .ref (q 2)) hx hb hts hown hE hS hinX7 0 rfl rfl (by decide) (List.mem_of_getElem? (i := 1) rfl) rfl dX7_marked_1 ?_
  refine lv_iload_n hx hb dX7_marked_4 rfl (lv_at hl 1 rfl) ?_
  refine cx_iald (f := (T 1)) (n := 20) (cA := cI) hx hb hE hS 2 0 rfl rfl (by omega) (by decide) dX7_marked_5 ?_
  refine lv_iload_n hx hb dX7_marked_6 rfl (lv_at hl 2 rfl) ?_
  refine lv_iand hx hb dX7_marked_7 ?_
  have J16 : ∀ (v16_s0 : Int32) (H : Heap) (locs : List Loc) (ls : Array Slot), (v16_s0 = 0 ∨ v16_s0 = 1) → cx_S D vwCl A s (cyW q cI cZ n T k M d Z F) H locs → lv_has ls 3 [(0, .ref (q 0)), (1, .int (nI t)), (2, .int mk)] → W p l e ({ frames := 0, cells := 0, slots := 0, locals := 0 } : Room) s m args below meth c H locs 0 0 Q (F0 m 16 ls [.int v16_s0]) := by
    intro v16_s0 H locs ls hb16 hS hl
    exact RET _ () _ _ _ _ dX7_marked_16 (cx_nb (by first | assumption | exact cx_bb)) (by first | exact Or.inl rfl | exact Or.inr rfl | assumption | exact cx_bb) hS
  refine lv_if_eq (tgt := 15) hx hb dX7_marked_8 (by decide) (fun h8 => ?_) (fun h8 => ?_)
  · skip
    refine lv_iconst (v := (0 : Int32)) hx hb dX7_marked_15 (by decide) ?_
    exact J16 (0 : Int32) _ _ _ (by first | exact Or.inl rfl | exact Or.inr rfl | assumption | exact cx_bb) hS (lv_sub hl [0, 1, 2] rfl)
  · skip
    refine lv_iconst (v := (1 : Int32)) hx hb dX7_marked_11 (by decide) ?_
    refine lv_goto (tgt := 16) hx hb dX7_marked_12 (by decide) ?_
    exact J16 (1 : Int32) _ _ _ (by first | exact Or.inl rfl | exact Or.inr rfl | assumption | exact cx_bb) hS (lv_sub hl [0, 1, 2] rfl)
set_option maxHeartbeats 4000000 in
set_option maxRecDepth 100000 in
theorem c_X7_is (l : Launch) (D : va_G) (q : Nat → Nat) (cI cZ : ClassId) (n : Nat) (T : Nat → Nat → Int32) (k : Nat) (M : Nat → Nat → Int32) (d : Nat) (Z : Nat → Nat → Int32) (F : Nat → Nat → Int32) (mm : Nat) (st : Int32) (mk : Int32) (hm : mm < 80) : cx_Mi l D vwCl [(cI, .int), (cZ, .boolean)] cx_NW yX7_is wsX7_is ({ frames := 0, cells := 0, slots := 0, locals := 0 } : Room) [.ref (q 0), .int (nI mm), .int st, .int mk] (cyW q cI cZ n T k M d Z F) (fun (r : Int32) (uw : Unit) => r = cx_b ((cx_b (¬ (((M 3) mm) &&& mk) = 0)) = st)) (fun _ => (cyW q cI cZ n T k M d Z F)) := by
  refine cx_Mi.of (cc := cX7_is) (maxL := 4) cx_NW_ok (by decide) rfl (Nat.le_of_ble_eq_true rfl) ?_
  intro p e s m args below meth c Q A ls hx hb hml hown hts hE RET hS hl
  have hl : lv_has ls 4 [(0, .ref (q 0)), (1, .int (nI mm)), (2, .int st), (3, .int mk)] := hl
  have hown : s.vm.findClass RX7 = some m.cls := hown
  have hinX7 : ∀ w ∈ u_ws RX7 TX7 22, w ∈ wsX7_is := cx_mem [2, 3, 4, 5, 6, 7, 8, 9, 10, 11, 12, 13, 14, 15, 16, 17, 18, 19, 20, 21, 22, 23] (by decide +kernel)
  refine lv_aload_n hx hb dX7_is_0 rfl (lv_at hl 0 rfl) ?_
  refine cx_get (own := RX7) (index := 43) (C := RX7) (T := TX7) (N := 22) (k := 13) (ci := 7) (v := .ref (q 12)) hx hb hts hown hE hS hinX7 0 rfl rfl (by decide) (List.mem_of_getElem? (i := 1) rfl) rfl dX7_is_1 ?_
  refine lv_iload_n hx hb dX7_is_4 rfl (lv_at hl 1 rfl) ?_
  refine cx_iald (f := (M 3)) (n := 80) (cA := cI) hx hb hE hS 12 0 rfl rfl (by omega) (by decide) dX7_is_5 ?_
  refine lv_iload_n hx hb dX7_is_6 rfl (lv_at hl 3 rfl) ?_
  refine lv_iand hx hb dX7_is_7 ?_
  have J16 : ∀ (v16_s0 : Int32) (H : Heap) (locs : List Loc) (ls : Array Slot), (v16_s0 = cx_b (¬ (((M 3) mm) &&& mk) = 0)) → cx_S D vwCl A s (cyW q cI cZ n T k M d Z F) H locs → lv_has ls 4 [(0, .ref (q 0)), (1, .int (nI mm)), (2, .int st), (3, .int mk)] → W p l e ({ frames := 0, cells := 0, slots := 0, locals := 0 } : Room) s m args below meth c H locs 0 0 Q (F0 m 16 ls [.int v16_s0]) := by
    intro v16_s0 H locs ls hv hS hl
    refine lv_iload_n hx hb dX7_is_16 rfl (lv_at hl 2 rfl) ?_
    have J25 : ∀ (v25_s0 : Int32) (H : Heap) (locs : List Loc) (ls : Array Slot), (v25_s0 = cx_b ((cx_b (¬ (((M 3) mm) &&& mk) = 0)) = st)) → cx_S D vwCl A s (cyW q cI cZ n T k M d Z F) H locs → lv_has ls 4 [(0, .ref (q 0)), (1, .int (nI mm)), (2, .int st), (3, .int mk)] → W p l e ({ frames := 0, cells := 0, slots := 0, locals := 0 } : Room) s m args below meth c H locs 0 0 Q (F0 m 25 ls [.int v25_s0]) := by
      intro v25_s0 H locs ls hw hS hl
      exact RET _ () _ _ _ _ dX7_is_25 (by rw [hw]; exact cx_bn) hw hS
    refine lv_icmp_ne (tgt := 24) hx hb dX7_is_17 (by decide) (fun h17 => ?_) (fun h17 => ?_)
    · skip
      refine lv_iconst (v := (0 : Int32)) hx hb dX7_is_24 (by decide) ?_
      exact J25 (0 : Int32) _ _ _ (by rw [← hv]; first | exact cx_bt h17 | exact cx_bf h17) hS (lv_sub hl [0, 1, 2, 3] rfl)
    · skip
      refine lv_iconst (v := (1 : Int32)) hx hb dX7_is_20 (by decide) ?_
      refine lv_goto (tgt := 25) hx hb dX7_is_21 (by decide) ?_
      exact J25 (1 : Int32) _ _ _ (by rw [← hv]; first | exact cx_bt h17 | exact cx_bf h17) hS (lv_sub hl [0, 1, 2, 3] rfl)
  refine lv_if_eq (tgt := 15) hx hb dX7_is_8 (by decide) (fun h8 => ?_) (fun h8 => ?_)
  · skip
    refine lv_iconst (v := (0 : Int32)) hx hb dX7_is_15 (by decide) ?_
    exact J16 (0 : Int32) _ _ _ (by first | exact cx_bt h8 | exact cx_bf (fun z => z h8)) hS (lv_sub hl [0, 1, 2, 3] rfl)
  · skip
    refine lv_iconst (v := (1 : Int32)) hx hb dX7_is_11 (by decide) ?_
    refine lv_goto (tgt := 16) hx hb dX7_is_12 (by decide) ?_
    exact J16 (1 : Int32) _ _ _ (by first | exact cx_bt h8 | exact cx_bf (fun z => z h8)) hS (lv_sub hl [0, 1, 2, 3] rfl)
set_option maxHeartbeats 4000000 in
set_option maxRecDepth 100000 in
theorem c_X7_know (l : Launch) (D : va_G) (q : Nat → Nat) (cI cZ : ClassId) (n : Nat) (T : Nat → Nat → Int32) (k : Nat) (M : Nat → Nat → Int32) (d : Nat) (Z : Nat → Nat → Int32) (F : Nat → Nat → Int32) (hn : n ≤ 20) (hP : cx_P (T 3) 20) (hU : cx_R (T 4) 20) (hV : cx_R (T 5) 4) (hKN : cx_KN n T (Z 0) ((Z 3) 0)) : cx_Mv l D vwCl [(cI, .int), (cZ, .boolean)] cx_NW yX7_know wsX7_know ({ frames := 2, cells := 0, slots := 0, locals := 43 } : Room) [.ref (q 0)] (cyW q cI cZ n T k M d Z F) (fun (uw : (Nat → Int32) × (Int32)) => cx_KN n T uw.1 uw.2 ∧ (∀ a u, a < n → u < n → (¬ uw.1 (20 * a + u) = 0 ↔ (cx_w3 n (cx_Er T n) n) a u))) (fun uw => (cyW q cI cZ n T k M d (cx_u (cx_u Z 0 uw.1) 3 (fun _ => uw.2)) F)) := by
  refine cx_Mv.of (cc := cX7_know) (maxL := 4) cx_NW_ok (by decide) rfl (Nat.le_of_ble_eq_true rfl) ?_
  intro p e s m args below meth c Q A ls hx hb hml hown hts hE RET hS hl
  have hl : lv_has ls 4 [(0, .ref (q 0))] := hl
  have hown : s.vm.findClass RX7 = some m.cls := hown
  have hinX7 : ∀ w ∈ u_ws RX7 TX7 22, w ∈ wsX7_know := cx_mem [15, 16, 17, 18, 19, 20, 21, 22, 23, 24, 25, 26, 27, 28, 29, 30, 31, 32, 33, 34, 35, 36] (by decide +kernel)
  refine lv_aload_n hx hb dX7_know_0 rfl (lv_at hl 0 rfl) ?_
  refine cx_get (own := RX7) (index := 73) (C := RX7) (T := TX7) (N := 22) (k := 17) (ci := 7) (v := .int ((Z 3) 0)) hx hb hts hown hE hS hinX7 0 rfl rfl (by decide) (List.mem_of_getElem? (i := 1) rfl) rfl dX7_know_1 ?_
  refine lv_if_eq (tgt := 8) hx hb dX7_know_4 (by decide) (fun h4 => ?_) (fun h4 => ?_)
  · skip
    refine lv_aload_n hx hb dX7_know_8 rfl (lv_at hl 0 rfl) ?_
    refine lv_iconst (v := (1 : Int32)) hx hb dX7_know_9 (by decide) ?_
    refine cx_put (own := RX7) (index := 73) (C := RX7) (T := TX7) (N := 22) (k := 17) (ci := 7) (v := .int (1 : Int32)) (ty := .boolean) (ws' := (cyW q cI cZ n T k M d (cx_u Z 3 (fun _ => (1 : Int32))) F)) hx hb hts hown hE hS hinX7 tyX7 tyX7_ok nmX7 0 rfl rfl (by decide) (List.mem_of_getElem? (i := 1) rfl) rfl (by decide +kernel) rfl rfl (Nat.le_of_ble_eq_true rfl) rfl dX7_know_10 (fun H locs hS => ?_)
    refine lv_iconst (v := (0 : Int32)) hx hb dX7_know_13 (by decide) ?_
    refine cx_topr (z := nI 0) (by decide) ?_
    refine lv_istore_n (lv' := [(1, .int (nI 0)), (0, .ref (q 0))]) hx hb dX7_know_14 rfl hl (by decide) rfl (fun ls hl => ?_)
    have J15 : ∀ (N : Nat) (i15 : Nat) (Z_0_15 : Nat → Int32) (H : Heap) (locs : List Loc) (ls : Array Slot), (400 - i15 < N) → (i15 ≤ 400) → (∀ j, j < i15 → Z_0_15 j = 0) → cx_S D vwCl A s (cyW q cI cZ n T k M d (cx_u (cx_u Z 3 (fun _ => (1 : Int32))) 0 Z_0_15) F) H locs → lv_has ls 4 [(0, .ref (q 0)), (1, .int (nI i15))] → W p l e ({ frames := 2, cells := 0, slots := 0, locals := 43 } : Room) s m args below meth c H locs 0 0 Q (F0 m 15 ls []) := by
      intro N15
      induction N15 with
      | zero => intro i15 Z_0_15 H locs ls hN; exact absurd hN (by omega)
      | succ N15 ih15 =>
        intro i15 Z_0_15 H locs ls hN15 hi15 hz hS hl
        refine lv_iload_n hx hb dX7_know_15 rfl (lv_at hl 1 rfl) ?_
        refine lv_sipush (v := nI 400) hx hb dX7_know_16 (by decide) ?_
        refine lv_icmp_ge (tgt := 35) hx hb dX7_know_19 (by decide) (fun h19 => ?_) (fun h19 => ?_)
        · skip
          have g19 : 400 ≤ i15 := (nI_leI (a := 400) (b := i15) (by omega) (by omega)).mp h19
          refine lv_iconst (v := (0 : Int32)) hx hb dX7_know_35 (by decide) ?_
          refine cx_topr (z := nI 0) (by decide) ?_
          refine lv_istore_n (lv' := [(1, .int (nI 0)), (0, .ref (q 0))]) hx hb dX7_know_36 rfl hl (by decide) rfl (fun ls hl => ?_)
          have J37 : ∀ (N : Nat) (i37 : Nat) (Z_0_37 : Nat → Int32) (H : Heap) (locs : List Loc) (ls : Array Slot), (n - i37 < N) → (i37 ≤ n) → (∀ a u, a < 20 → u < 20 → (¬ Z_0_37 (20 * a + u) = 0 ↔ (a < i37 ∧ cx_Er T n a u))) → cx_S D vwCl A s (cyW q cI cZ n T k M d (cx_u (cx_u Z 3 (fun _ => (1 : Int32))) 0 Z_0_37) F) H locs → lv_has ls 4 [(0, .ref (q 0)), (1, .int (nI i37))] → W p l e ({ frames := 2, cells := 0, slots := 0, locals := 43 } : Room) s m args below meth c H locs 0 0 Q (F0 m 37 ls []) := by
            intro N37
            induction N37 with
            | zero => intro i37 Z_0_37 H locs ls hN; exact absurd hN (by omega)
            | succ N37 ih37 =>
              intro i37 Z_0_37 H locs ls hN37 hi37 hy hS hl
              refine lv_iload_n hx hb dX7_know_37 rfl (lv_at hl 1 rfl) ?_
              refine lv_aload_n hx hb dX7_know_38 rfl (lv_at hl 0 rfl) ?_
              refine cx_get (own := RX7) (index := 65) (C := RX7) (T := TX7) (N := 22) (k := 0) (ci := 7) (v := .int (nI n)) hx hb hts hown hE hS hinX7 0 rfl rfl (by decide) (List.mem_of_getElem? (i := 3) rfl) rfl dX7_know_39 ?_
              refine lv_icmp_ge (tgt := 137) hx hb dX7_know_42 (by decide) (fun h42 => ?_) (fun h42 => ?_)
              · skip
                have g42 : n ≤ i37 := (nI_leI (a := n) (b := i37) (by omega) (by omega)).mp h42
                refine lv_iconst (v := (0 : Int32)) hx hb dX7_know_137 (by decide) ?_
                refine cx_topr (z := nI 0) (by decide) ?_
                refine lv_istore_n (lv' := [(1, .int (nI 0)), (0, .ref (q 0))]) hx hb dX7_know_138 rfl hl (by decide) rfl (fun ls hl => ?_)
                have J139 : ∀ (N : Nat) (i139 : Nat) (Z_0_139 : Nat → Int32) (H : Heap) (locs : List Loc) (ls : Array Slot), (n - i139 < N) → (i139 ≤ n) → (∀ a u, a < n → u < n → (¬ Z_0_139 (20 * a + u) = 0 ↔ (cx_w3 n (cx_Er T n) i139) a u)) → cx_S D vwCl A s (cyW q cI cZ n T k M d (cx_u (cx_u Z 3 (fun _ => (1 : Int32))) 0 Z_0_139) F) H locs → lv_has ls 4 [(0, .ref (q 0)), (1, .int (nI i139))] → W p l e ({ frames := 2, cells := 0, slots := 0, locals := 43 } : Room) s m args below meth c H locs 0 0 Q (F0 m 139 ls []) := by
                  intro N139
                  induction N139 with
                  | zero => intro i139 Z_0_139 H locs ls hN; exact absurd hN (by omega)
                  | succ N139 ih139 =>
                    intro i139 Z_0_139 H locs ls hN139 hi139 hw hS hl
                    refine lv_iload_n hx hb dX7_know_139 rfl (lv_at hl 1 rfl) ?_
                    refine lv_aload_n hx hb dX7_know_140 rfl (lv_at hl 0 rfl) ?_
                    refine cx_get (own := RX7) (index := 65) (C := RX7) (T := TX7) (N := 22) (k := 0) (ci := 7) (v := .int (nI n)) hx hb hts hown hE hS hinX7 0 rfl rfl (by decide) (List.mem_of_getElem? (i := 3) rfl) rfl dX7_know_141 ?_
                    refine lv_icmp_ge (tgt := 243) hx hb dX7_know_144 (by decide) (fun h144 => ?_) (fun h144 => ?_)
                    · skip
                      have g144 : n ≤ i139 := (nI_leI (a := n) (b := i139) (by omega) (by omega)).mp h144
                      have hfin : ∀ a u, a < n → u < n → (¬ Z_0_139 (20 * a + u) = 0 ↔ (cx_w3 n (cx_Er T n) n) a u) := by have e : i139 = n := (by omega); rw [e] at hw; exact hw
                      have hKNf : cx_KN n T Z_0_139 (1 : Int32) := Or.inr hfin
                      exact RET (Z_0_139, (1 : Int32)) _ _ _ _ dX7_know_243 (⟨(by first | assumption | exact hKN), hfin⟩) hS
                    · skip
                      have g144 : ¬ (n ≤ i139) := fun z => h144 ((nI_leI (a := n) (b := i139) (by omega) (by omega)).mpr z)
                      refine lv_iconst (v := (0 : Int32)) hx hb dX7_know_147 (by decide) ?_
                      refine cx_topr (z := nI 0) (by decide) ?_
                      refine lv_istore_n (lv' := [(2, .int (nI 0)), (0, .ref (q 0)), (1, .int (nI i139))]) hx hb dX7_know_148 rfl hl (by decide) rfl (fun ls hl => ?_)
                      have J149 : ∀ (N : Nat) (i149 : Nat) (Z_0_149 : Nat → Int32) (H : Heap) (locs : List Loc) (ls : Array Slot), (n - i149 < N) → (i149 ≤ n) → (∀ a u, a < n → u < n → (¬ Z_0_149 (20 * a + u) = 0 ↔ (cx_w2 (cx_w3 n (cx_Er T n) i139) i139 i149) a u)) → cx_S D vwCl A s (cyW q cI cZ n T k M d (cx_u (cx_u Z 3 (fun _ => (1 : Int32))) 0 Z_0_149) F) H locs → lv_has ls 4 [(0, .ref (q 0)), (1, .int (nI i139)), (2, .int (nI i149))] → W p l e ({ frames := 2, cells := 0, slots := 0, locals := 43 } : Room) s m args below meth c H locs 0 0 Q (F0 m 149 ls []) := by
                        intro N149
                        induction N149 with
                        | zero => intro i149 Z_0_149 H locs ls hN; exact absurd hN (by omega)
                        | succ N149 ih149 =>
                          intro i149 Z_0_149 H locs ls hN149 hi149 hw2 hS hl
                          refine lv_iload_n hx hb dX7_know_149 rfl (lv_at hl 2 rfl) ?_
                          refine lv_aload_n hx hb dX7_know_150 rfl (lv_at hl 0 rfl) ?_
                          refine cx_get (own := RX7) (index := 65) (C := RX7) (T := TX7) (N := 22) (k := 0) (ci := 7) (v := .int (nI n)) hx hb hts hown hE hS hinX7 0 rfl rfl (by decide) (List.mem_of_getElem? (i := 3) rfl) rfl dX7_know_151 ?_
                          refine lv_icmp_ge (tgt := 237) hx hb dX7_know_154 (by decide) (fun h154 => ?_) (fun h154 => ?_)
                          · skip
                            have g154 : n ≤ i149 := (nI_leI (a := n) (b := i149) (by omega) (by omega)).mp h154
                            have hw14 : ∀ a u, a < n → u < n → (¬ Z_0_149 (20 * a + u) = 0 ↔ (cx_w3 n (cx_Er T n) (i139 + 1)) a u) := by have e : i149 = n := (by omega); rw [e] at hw2; exact hw2
                            refine lv_iinc (v := nI (i139 + 1)) (lv' := [(1, .int (nI (i139 + 1))), (0, .ref (q 0)), (2, .int (nI i149))]) hx hb dX7_know_237 hl (k := 1) rfl (cx_inc _) (by decide) rfl (fun ls hl => ?_)
                            refine lv_goto (tgt := 139) hx hb dX7_know_240 (by decide) ?_
                            exact ih139 (i139 + 1) Z_0_149 _ _ _ (by omega) (by omega) (by first | exact hw14 | exact fun a u ha hu => by rw [hy a u (by omega) (by omega)]; exact ⟨fun z => z.2, fun z => ⟨by omega, z⟩⟩) hS (lv_sub hl [1, 0] rfl)
                          · skip
                            have g154 : ¬ (n ≤ i149) := fun z => h154 ((nI_leI (a := n) (b := i149) (by omega) (by omega)).mpr z)
                            refine lv_iconst (v := (0 : Int32)) hx hb dX7_know_157 (by decide) ?_
                            refine cx_topr (z := nI 0) (by decide) ?_
                            refine lv_istore_n (lv' := [(3, .int (nI 0)), (0, .ref (q 0)), (1, .int (nI i139)), (2, .int (nI i149))]) hx hb dX7_know_158 rfl hl (by decide) rfl (fun ls hl => ?_)
                            have J159 : ∀ (N : Nat) (i159 : Nat) (Z_0_159 : Nat → Int32) (H : Heap) (locs : List Loc) (ls : Array Slot), (n - i159 < N) → (i159 ≤ n) → (cx_k (cx_w2 (cx_w3 n (cx_Er T n) i139) i139 i149) i139 i149 i159 Z_0_159 n) → cx_S D vwCl A s (cyW q cI cZ n T k M d (cx_u (cx_u Z 3 (fun _ => (1 : Int32))) 0 Z_0_159) F) H locs → lv_has ls 4 [(0, .ref (q 0)), (1, .int (nI i139)), (2, .int (nI i149)), (3, .int (nI i159))] → W p l e ({ frames := 2, cells := 0, slots := 0, locals := 43 } : Room) s m args below meth c H locs 0 0 Q (F0 m 159 ls []) := by
                              intro N159
                              induction N159 with
                              | zero => intro i159 Z_0_159 H locs ls hN; exact absurd hN (by omega)
                              | succ N159 ih159 =>
                                intro i159 Z_0_159 H locs ls hN159 hi159 hk3 hS hl
                                refine lv_iload_n hx hb dX7_know_159 rfl (lv_at hl 3 rfl) ?_
                                refine lv_aload_n hx hb dX7_know_160 rfl (lv_at hl 0 rfl) ?_
                                refine cx_get (own := RX7) (index := 65) (C := RX7) (T := TX7) (N := 22) (k := 0) (ci := 7) (v := .int (nI n)) hx hb hts hown hE hS hinX7 0 rfl rfl (by decide) (List.mem_of_getElem? (i := 3) rfl) rfl dX7_know_161 ?_
                                have J231 : ∀ (H : Heap) (locs : List Loc) (ls : Array Slot), (∀ a u, a < n → u < n → (¬ Z_0_159 (20 * a + u) = 0 ↔ (cx_w2 (cx_w3 n (cx_Er T n) i139) i139 (i149 + 1)) a u)) → cx_S D vwCl A s (cyW q cI cZ n T k M d (cx_u (cx_u Z 3 (fun _ => (1 : Int32))) 0 Z_0_159) F) H locs → lv_has ls 4 [(0, .ref (q 0)), (1, .int (nI i139)), (2, .int (nI i149)), (3, .int (nI i159))] → W p l e ({ frames := 2, cells := 0, slots := 0, locals := 43 } : Room) s m args below meth c H locs 0 0 Q (F0 m 231 ls []) := by
                                  intro  H locs ls hw231 hS hl
                                  refine lv_iinc (v := nI (i149 + 1)) (lv' := [(2, .int (nI (i149 + 1))), (0, .ref (q 0)), (1, .int (nI i139)), (3, .int (nI i159))]) hx hb dX7_know_231 hl (k := 2) rfl (cx_inc _) (by decide) rfl (fun ls hl => ?_)
                                  refine lv_goto (tgt := 149) hx hb dX7_know_234 (by decide) ?_
                                  exact ih149 (i149 + 1) Z_0_159 _ _ _ (by omega) (by omega) (by first | exact hw231 | exact hw) hS (lv_sub hl [1, 2, 0] rfl)
                                refine lv_icmp_ge (tgt := 231) hx hb dX7_know_164 (by decide) (fun h164 => ?_) (fun h164 => ?_)
                                · skip
                                  have g164 : n ≤ i159 := (nI_leI (a := n) (b := i159) (by omega) (by omega)).mp h164
                                  exact J231  _ _ _ (by first | exact cx_k12 (by omega) hk3 | exact cx_k13 (by omega) (by omega) hk3 h178) hS (lv_sub hl [0, 1, 2, 3] rfl)
                                · skip
                                  have g164 : ¬ (n ≤ i159) := fun z => h164 ((nI_leI (a := n) (b := i159) (by omega) (by omega)).mpr z)
                                  refine lv_aload_n hx hb dX7_know_167 rfl (lv_at hl 0 rfl) ?_
                                  refine cx_get (own := RX7) (index := 52) (C := RX7) (T := TX7) (N := 22) (k := 16) (ci := 7) (v := .ref (q 15)) hx hb hts hown hE hS hinX7 0 rfl rfl (by decide) (List.mem_of_getElem? (i := 2) rfl) rfl dX7_know_168 ?_
                                  refine lv_bipush (v := nI 20) hx hb dX7_know_171 (by decide) ?_
                                  refine lv_iload_n hx hb dX7_know_173 rfl (lv_at hl 2 rfl) ?_
                                  refine lv_imul hx hb dX7_know_174 ?_
                                  refine cx_topr (z := nI (20 * i149)) (pk_mul _ _) ?_
                                  refine lv_iload_n hx hb dX7_know_175 rfl (lv_at hl 1 rfl) ?_
                                  refine lv_iadd hx hb dX7_know_176 ?_
                                  refine cx_topr (z := nI (20 * i149 + i139)) (nI_add _ _) ?_
                                  refine cx_zald (f := Z_0_159) (n := 400) (cA := cZ) hx hb hE hS 15 1 rfl rfl (by omega) (by decide) dX7_know_177 ?_
                                  refine lv_if_eq (tgt := 231) hx hb dX7_know_178 (by decide) (fun h178 => ?_) (fun h178 => ?_)
                                  · skip
                                    exact J231  _ _ _ (by first | exact cx_k12 (by omega) hk3 | exact cx_k13 (by omega) (by omega) hk3 h178) hS (lv_sub hl [0, 1, 2, 3] rfl)
                                  · skip
                                    refine lv_aload_n hx hb dX7_know_181 rfl (lv_at hl 0 rfl) ?_
                                    refine cx_get (own := RX7) (index := 52) (C := RX7) (T := TX7) (N := 22) (k := 16) (ci := 7) (v := .ref (q 15)) hx hb hts hown hE hS hinX7 0 rfl rfl (by decide) (List.mem_of_getElem? (i := 2) rfl) rfl dX7_know_182 ?_
                                    refine lv_bipush (v := nI 20) hx hb dX7_know_185 (by decide) ?_
                                    refine lv_iload_n hx hb dX7_know_187 rfl (lv_at hl 2 rfl) ?_
                                    refine lv_imul hx hb dX7_know_188 ?_
                                    refine cx_topr (z := nI (20 * i149)) (pk_mul _ _) ?_
                                    refine lv_iload_n hx hb dX7_know_189 rfl (lv_at hl 3 rfl) ?_
                                    refine lv_iadd hx hb dX7_know_190 ?_
                                    refine cx_topr (z := nI (20 * i149 + i159)) (nI_add _ _) ?_
                                    refine lv_aload_n hx hb dX7_know_191 rfl (lv_at hl 0 rfl) ?_
                                    refine cx_get (own := RX7) (index := 52) (C := RX7) (T := TX7) (N := 22) (k := 16) (ci := 7) (v := .ref (q 15)) hx hb hts hown hE hS hinX7 0 rfl rfl (by decide) (List.mem_of_getElem? (i := 2) rfl) rfl dX7_know_192 ?_
                                    refine lv_bipush (v := nI 20) hx hb dX7_know_195 (by decide) ?_
                                    refine lv_iload_n hx hb dX7_know_197 rfl (lv_at hl 2 rfl) ?_
                                    refine lv_imul hx hb dX7_know_198 ?_
                                    refine cx_topr (z := nI (20 * i149)) (pk_mul _ _) ?_
                                    refine lv_iload_n hx hb dX7_know_199 rfl (lv_at hl 3 rfl) ?_
                                    refine lv_iadd hx hb dX7_know_200 ?_
                                    refine cx_topr (z := nI (20 * i149 + i159)) (nI_add _ _) ?_
                                    refine cx_zald (f := Z_0_159) (n := 400) (cA := cZ) hx hb hE hS 15 1 rfl rfl (by omega) (by decide) dX7_know_201 ?_
                                    have J224 : ∀ (v224_s0 : Int32) (H : Heap) (locs : List Loc) (ls : Array Slot), (v224_s0 = 0 ∨ v224_s0 = 1) → (¬ v224_s0 = 0 ↔ (¬ Z_0_159 (20 * i149 + i159) = 0 ∨ ¬ Z_0_159 (20 * i139 + i159) = 0)) → cx_S D vwCl A s (cyW q cI cZ n T k M d (cx_u (cx_u Z 3 (fun _ => (1 : Int32))) 0 Z_0_159) F) H locs → lv_has ls 4 [(0, .ref (q 0)), (1, .int (nI i139)), (2, .int (nI i149)), (3, .int (nI i159))] → W p l e ({ frames := 2, cells := 0, slots := 0, locals := 43 } : Room) s m args below meth c H locs 0 0 Q (F0 m 224 ls [.int v224_s0, .int (nI (20 * i149 + i159)), .ref (q 15)]) := by
                                      intro v224_s0 H locs ls hv01 hv02 hS hl
                                      refine cx_zast (k := 20 * i149 + i159) (f := Z_0_159) (n := 400) (cA := cZ) (ws' := (cyW q cI cZ n T k M d (cx_u (cx_u Z 3 (fun _ => (1 : Int32))) 0 (upd Z_0_159 (20 * i149 + i159) (vp_nar .boolean v224_s0))) F)) hx hb hE hS 15 1 rfl rfl (by omega) (by decide) rfl dX7_know_224 (fun H locs hS => ?_)
                                      refine lv_iinc (v := nI (i159 + 1)) (lv' := [(3, .int (nI (i159 + 1))), (0, .ref (q 0)), (1, .int (nI i139)), (2, .int (nI i149))]) hx hb dX7_know_225 hl (k := 3) rfl (cx_inc _) (by decide) rfl (fun ls hl => ?_)
                                      refine lv_goto (tgt := 159) hx hb dX7_know_228 (by decide) ?_
                                      exact ih159 (i159 + 1) (upd Z_0_159 (20 * i149 + i159) (vp_nar .boolean v224_s0)) _ _ _ (by omega) (by omega) (by first | exact cx_k11 hn (by omega) (by omega) (by omega) hk3 h178 hv01 hv02 | exact cx_k10 hw2) hS (lv_sub hl [1, 2, 3, 0] rfl)
                                    have J219 : ∀ (H : Heap) (locs : List Loc) (ls : Array Slot), (¬ Z_0_159 (20 * i149 + i159) = 0 ∨ ¬ Z_0_159 (20 * i139 + i159) = 0) → cx_S D vwCl A s (cyW q cI cZ n T k M d (cx_u (cx_u Z 3 (fun _ => (1 : Int32))) 0 Z_0_159) F) H locs → lv_has ls 4 [(0, .ref (q 0)), (1, .int (nI i139)), (2, .int (nI i149)), (3, .int (nI i159))] → W p l e ({ frames := 2, cells := 0, slots := 0, locals := 43 } : Room) s m args below meth c H locs 0 0 Q (F0 m 219 ls [.int (nI (20 * i149 + i159)), .ref (q 15)]) := by
                                      intro  H locs ls h219 hS hl
                                      refine lv_iconst (v := (1 : Int32)) hx hb dX7_know_219 (by decide) ?_
                                      refine lv_goto (tgt := 224) hx hb dX7_know_220 (by decide) ?_
                                      exact J224 (1 : Int32) _ _ _ (by first | exact Or.inl rfl | exact Or.inr rfl) (by first | exact ⟨fun _ => h219, fun _ => by decide⟩ | exact ⟨fun z => absurd rfl z, fun z => z.elim (fun y => absurd h202 y) (fun y => absurd h216 y)⟩) hS (lv_sub hl [0, 1, 2, 3] rfl)
                                    refine lv_if_ne (tgt := 219) hx hb dX7_know_202 (by decide) (fun h202 => ?_) (fun h202 => ?_)
                                    · skip
                                      exact J219  _ _ _ (by first | exact Or.inl h202 | exact Or.inr h216) hS (lv_sub hl [0, 1, 2, 3] rfl)
                                    · skip
                                      refine lv_aload_n hx hb dX7_know_205 rfl (lv_at hl 0 rfl) ?_
                                      refine cx_get (own := RX7) (index := 52) (C := RX7) (T := TX7) (N := 22) (k := 16) (ci := 7) (v := .ref (q 15)) hx hb hts hown hE hS hinX7 0 rfl rfl (by decide) (List.mem_of_getElem? (i := 2) rfl) rfl dX7_know_206 ?_
                                      refine lv_bipush (v := nI 20) hx hb dX7_know_209 (by decide) ?_
                                      refine lv_iload_n hx hb dX7_know_211 rfl (lv_at hl 1 rfl) ?_
                                      refine lv_imul hx hb dX7_know_212 ?_
                                      refine cx_topr (z := nI (20 * i139)) (pk_mul _ _) ?_
                                      refine lv_iload_n hx hb dX7_know_213 rfl (lv_at hl 3 rfl) ?_
                                      refine lv_iadd hx hb dX7_know_214 ?_
                                      refine cx_topr (z := nI (20 * i139 + i159)) (nI_add _ _) ?_
                                      refine cx_zald (f := Z_0_159) (n := 400) (cA := cZ) hx hb hE hS 15 1 rfl rfl (by omega) (by decide) dX7_know_215 ?_
                                      refine lv_if_eq (tgt := 223) hx hb dX7_know_216 (by decide) (fun h216 => ?_) (fun h216 => ?_)
                                      · skip
                                        refine lv_iconst (v := (0 : Int32)) hx hb dX7_know_223 (by decide) ?_
                                        exact J224 (0 : Int32) _ _ _ (by first | exact Or.inl rfl | exact Or.inr rfl) (by first | exact ⟨fun _ => h219, fun _ => by decide⟩ | exact ⟨fun z => absurd rfl z, fun z => z.elim (fun y => absurd h202 y) (fun y => absurd h216 y)⟩) hS (lv_sub hl [0, 1, 2, 3] rfl)
                                      · skip
                                        exact J219  _ _ _ (by first | exact Or.inl h202 | exact Or.inr h216) hS (lv_sub hl [0, 1, 2, 3] rfl)
                            exact J159 (n - 0 + 1) 0 Z_0_149 _ _ _ (Nat.lt_succ_self _) (by omega) (by first | exact cx_k11 hn (by omega) (by omega) (by omega) hk3 h178 hv01 hv02 | exact cx_k10 hw2) hS (lv_sub hl [1, 2, 3, 0] rfl)
                      exact J149 (n - 0 + 1) 0 Z_0_139 _ _ _ (Nat.lt_succ_self _) (by omega) (by first | exact hw231 | exact hw) hS (lv_sub hl [1, 2, 0] rfl)
                exact J139 (n - 0 + 1) 0 Z_0_37 _ _ _ (Nat.lt_succ_self _) (by omega) (by first | exact hw14 | exact fun a u ha hu => by rw [hy a u (by omega) (by omega)]; exact ⟨fun z => z.2, fun z => ⟨by omega, z⟩⟩) hS (lv_sub hl [1, 0] rfl)
              · skip
                have g42 : ¬ (n ≤ i37) := fun z => h42 ((nI_leI (a := n) (b := i37) (by omega) (by omega)).mpr z)
                refine lv_aload_n hx hb dX7_know_45 rfl (lv_at hl 0 rfl) ?_
                refine lv_aload_n hx hb dX7_know_46 rfl (lv_at hl 0 rfl) ?_
                refine cx_get (own := RX7) (index := 19) (C := RX7) (T := TX7) (N := 22) (k := 4) (ci := 7) (v := .ref (q 4)) hx hb hts hown hE hS hinX7 0 rfl rfl (by decide) (List.mem_of_getElem? (i := 4) rfl) rfl dX7_know_47 ?_
                refine lv_iload_n hx hb dX7_know_50 rfl (lv_at hl 1 rfl) ?_
                refine cx_iald (f := (T 3)) (n := 20) (cA := cI) hx hb hE hS 4 0 rfl rfl (by omega) (by decide) dX7_know_51 ?_
                refine cx_cVi (As := [.int ((T 3) i37)]) (rest := []) ⟨hx, hb, hml, hown, hts⟩ hE hS (c_X7_isType l D q cI cZ n T k M d (cx_u (cx_u Z 3 (fun _ => (1 : Int32))) 0 Z_0_37) F ((T 3) i37) (by first | assumption | omega)) (cwV 1 hts gX7_know_X7_isType rfl rfl rfl (by decide +kernel) ⟨Nat.le_of_ble_eq_true rfl, Nat.le_of_ble_eq_true rfl⟩) 0 7 rfl rfl rfl hl.1 rfl (Nat.le_of_ble_eq_true rfl) ⟨Nat.zero_le _, Nat.zero_le _⟩ dX7_know_52 (fun r_52 u_52 H locs hp_52 hS => ?_)
                have hp_52 : r_52 = cx_b (0 ≤ ((T 3) i37) ∧ ((T 3) i37) < nI n) := hp_52
                subst hp_52
                have J75 : ∀ (Z_0_75 : Nat → Int32) (H : Heap) (locs : List Loc) (ls : Array Slot), (∀ a u, a < 20 → u < 20 → (¬ Z_0_75 (20 * a + u) = 0 ↔ (a < i37 ∧ cx_Er T n a u) ∨ (a = i37 ∧ cx_Eu T n a 0 u))) → cx_S D vwCl A s (cyW q cI cZ n T k M d (cx_u (cx_u Z 3 (fun _ => (1 : Int32))) 0 Z_0_75) F) H locs → lv_has ls 4 [(0, .ref (q 0)), (1, .int (nI i37))] → W p l e ({ frames := 2, cells := 0, slots := 0, locals := 43 } : Room) s m args below meth c H locs 0 0 Q (F0 m 75 ls []) := by
                  intro Z_0_75 H locs ls hy75 hS hl
                  refine lv_iconst (v := (0 : Int32)) hx hb dX7_know_75 (by decide) ?_
                  refine cx_topr (z := nI 0) (by decide) ?_
                  refine lv_istore_n (lv' := [(2, .int (nI 0)), (0, .ref (q 0)), (1, .int (nI i37))]) hx hb dX7_know_76 rfl hl (by decide) rfl (fun ls hl => ?_)
                  have J77 : ∀ (N : Nat) (i77 : Nat) (Z_0_77 : Nat → Int32) (H : Heap) (locs : List Loc) (ls : Array Slot), (((T 5) i37).toNatClampNeg - i77 < N) → (i77 ≤ ((T 5) i37).toNatClampNeg) → (∀ a u, a < 20 → u < 20 → (¬ Z_0_77 (20 * a + u) = 0 ↔ (a < i37 ∧ cx_Er T n a u) ∨ (a = i37 ∧ cx_Eu T n a i77 u))) → cx_S D vwCl A s (cyW q cI cZ n T k M d (cx_u (cx_u Z 3 (fun _ => (1 : Int32))) 0 Z_0_77) F) H locs → lv_has ls 4 [(0, .ref (q 0)), (1, .int (nI i37)), (2, .int (nI i77))] → W p l e ({ frames := 2, cells := 0, slots := 0, locals := 43 } : Room) s m args below meth c H locs 0 0 Q (F0 m 77 ls []) := by
                    intro N77
                    induction N77 with
                    | zero => intro i77 Z_0_77 H locs ls hN; exact absurd hN (by omega)
                    | succ N77 ih77 =>
                      intro i77 Z_0_77 H locs ls hN77 hi77 hy2 hS hl
                      refine lv_iload_n hx hb dX7_know_77 rfl (lv_at hl 2 rfl) ?_
                      refine lv_aload_n hx hb dX7_know_78 rfl (lv_at hl 0 rfl) ?_
                      refine cx_get (own := RX7) (index := 25) (C := RX7) (T := TX7) (N := 22) (k := 6) (ci := 7) (v := .ref (q 6)) hx hb hts hown hE hS hinX7 0 rfl rfl (by decide) (List.mem_of_getElem? (i := 5) rfl) rfl dX7_know_79 ?_
                      refine lv_iload_n hx hb dX7_know_82 rfl (lv_at hl 1 rfl) ?_
                      refine cx_iald (f := (T 5)) (n := 20) (cA := cI) hx hb hE hS 6 0 rfl rfl (by omega) (by decide) dX7_know_83 ?_
                      have ho83 := (hV i37).2
                      refine cx_topr (z := nI (((T 5) i37).toNatClampNeg)) (hV i37).1 ?_
                      refine lv_icmp_ge (tgt := 131) hx hb dX7_know_84 (by decide) (fun h84 => ?_) (fun h84 => ?_)
                      · skip
                        have g84 : (((T 5) i37).toNatClampNeg) ≤ i77 := (nI_leI (a := ((T 5) i37).toNatClampNeg) (b := i77) (by omega) (by omega)).mp h84
                        refine lv_iinc (v := nI (i37 + 1)) (lv' := [(1, .int (nI (i37 + 1))), (0, .ref (q 0)), (2, .int (nI i77))]) hx hb dX7_know_131 hl (k := 1) rfl (cx_inc _) (by decide) rfl (fun ls hl => ?_)
                        refine lv_goto (tgt := 37) hx hb dX7_know_134 (by decide) ?_
                        exact ih37 (i37 + 1) Z_0_77 _ _ _ (by omega) (by omega) (by first | exact cx_k7 (by omega) hy2 | exact cx_k2 (fun j hj => hz j (by omega))) hS (lv_sub hl [1, 0] rfl)
                      · skip
                        have g84 : ¬ ((((T 5) i37).toNatClampNeg) ≤ i77) := fun z => h84 ((nI_leI (a := ((T 5) i37).toNatClampNeg) (b := i77) (by omega) (by omega)).mpr z)
                        refine lv_aload_n hx hb dX7_know_87 rfl (lv_at hl 0 rfl) ?_
                        refine lv_aload_n hx hb dX7_know_88 rfl (lv_at hl 0 rfl) ?_
                        refine cx_get (own := RX7) (index := 22) (C := RX7) (T := TX7) (N := 22) (k := 5) (ci := 7) (v := .ref (q 5)) hx hb hts hown hE hS hinX7 0 rfl rfl (by decide) (List.mem_of_getElem? (i := 6) rfl) rfl dX7_know_89 ?_
                        refine lv_iconst (v := nI 3) hx hb dX7_know_92 (by decide) ?_
                        refine lv_iload_n hx hb dX7_know_93 rfl (lv_at hl 1 rfl) ?_
                        refine lv_imul hx hb dX7_know_94 ?_
                        refine cx_topr (z := nI (3 * i37)) (pk_mul _ _) ?_
                        refine lv_iload_n hx hb dX7_know_95 rfl (lv_at hl 2 rfl) ?_
                        refine lv_iadd hx hb dX7_know_96 ?_
                        refine cx_topr (z := nI (3 * i37 + i77)) (nI_add _ _) ?_
                        refine cx_iald (f := (T 4)) (n := 60) (cA := cI) hx hb hE hS 5 0 rfl rfl (by omega) (by decide) dX7_know_97 ?_
                        have ho97 := (hU (3 * i37 + i77)).2
                        refine cx_topr (z := nI (((T 4) (3 * i37 + i77)).toNatClampNeg)) (hU (3 * i37 + i77)).1 ?_
                        refine cx_cVi (As := [.int (nI (((T 4) (3 * i37 + i77)).toNatClampNeg))]) (rest := []) ⟨hx, hb, hml, hown, hts⟩ hE hS (c_X7_isType l D q cI cZ n T k M d (cx_u (cx_u Z 3 (fun _ => (1 : Int32))) 0 Z_0_77) F (nI (((T 4) (3 * i37 + i77)).toNatClampNeg)) (by first | assumption | omega)) (cwV 1 hts gX7_know_X7_isType rfl rfl rfl (by decide +kernel) ⟨Nat.le_of_ble_eq_true rfl, Nat.le_of_ble_eq_true rfl⟩) 0 7 rfl rfl rfl hl.1 rfl (Nat.le_of_ble_eq_true rfl) ⟨Nat.zero_le _, Nat.zero_le _⟩ dX7_know_98 (fun r_98 u_98 H locs hp_98 hS => ?_)
                        have hp_98 : r_98 = cx_b (0 ≤ (nI (((T 4) (3 * i37 + i77)).toNatClampNeg)) ∧ (nI (((T 4) (3 * i37 + i77)).toNatClampNeg)) < nI n) := hp_98
                        subst hp_98
                        have J125 : ∀ (Z_0_125 : Nat → Int32) (H : Heap) (locs : List Loc) (ls : Array Slot), (∀ a u, a < 20 → u < 20 → (¬ Z_0_125 (20 * a + u) = 0 ↔ (a < i37 ∧ cx_Er T n a u) ∨ (a = i37 ∧ cx_Eu T n a (i77 + 1) u))) → cx_S D vwCl A s (cyW q cI cZ n T k M d (cx_u (cx_u Z 3 (fun _ => (1 : Int32))) 0 Z_0_125) F) H locs → lv_has ls 4 [(0, .ref (q 0)), (1, .int (nI i37)), (2, .int (nI i77))] → W p l e ({ frames := 2, cells := 0, slots := 0, locals := 43 } : Room) s m args below meth c H locs 0 0 Q (F0 m 125 ls []) := by
                          intro Z_0_125 H locs ls hy125 hS hl
                          refine lv_iinc (v := nI (i77 + 1)) (lv' := [(2, .int (nI (i77 + 1))), (0, .ref (q 0)), (1, .int (nI i37))]) hx hb dX7_know_125 hl (k := 2) rfl (cx_inc _) (by decide) rfl (fun ls hl => ?_)
                          refine lv_goto (tgt := 77) hx hb dX7_know_128 (by decide) ?_
                          exact ih77 (i77 + 1) Z_0_125 _ _ _ (by omega) (by omega) (by first | assumption | exact hy75 | exact hy125) hS (lv_sub hl [1, 2, 0] rfl)
                        refine lv_if_eq (tgt := 125) hx hb dX7_know_101 (by decide) (fun h101 => ?_) (fun h101 => ?_)
                        · skip
                          have g101 := cx_b0 h101
                          have hu101 := hU (3 * i37 + i77)
                          exact J125 Z_0_77 _ _ _ (by first | exact cx_k5 hn hu101 hy2 g101 | exact cx_k6 hn (by omega) hu101 hy2 g101) hS (lv_sub hl [0, 1, 2] rfl)
                        · skip
                          have g101 := cx_b1 h101
                          have hu101 := hU (3 * i37 + i77)
                          refine lv_aload_n hx hb dX7_know_104 rfl (lv_at hl 0 rfl) ?_
                          refine cx_get (own := RX7) (index := 52) (C := RX7) (T := TX7) (N := 22) (k := 16) (ci := 7) (v := .ref (q 15)) hx hb hts hown hE hS hinX7 0 rfl rfl (by decide) (List.mem_of_getElem? (i := 2) rfl) rfl dX7_know_105 ?_
                          refine lv_bipush (v := nI 20) hx hb dX7_know_108 (by decide) ?_
                          refine lv_iload_n hx hb dX7_know_110 rfl (lv_at hl 1 rfl) ?_
                          refine lv_imul hx hb dX7_know_111 ?_
                          refine cx_topr (z := nI (20 * i37)) (pk_mul _ _) ?_
                          refine lv_aload_n hx hb dX7_know_112 rfl (lv_at hl 0 rfl) ?_
                          refine cx_get (own := RX7) (index := 22) (C := RX7) (T := TX7) (N := 22) (k := 5) (ci := 7) (v := .ref (q 5)) hx hb hts hown hE hS hinX7 0 rfl rfl (by decide) (List.mem_of_getElem? (i := 6) rfl) rfl dX7_know_113 ?_
                          refine lv_iconst (v := nI 3) hx hb dX7_know_116 (by decide) ?_
                          refine lv_iload_n hx hb dX7_know_117 rfl (lv_at hl 1 rfl) ?_
                          refine lv_imul hx hb dX7_know_118 ?_
                          refine cx_topr (z := nI (3 * i37)) (pk_mul _ _) ?_
                          refine lv_iload_n hx hb dX7_know_119 rfl (lv_at hl 2 rfl) ?_
                          refine lv_iadd hx hb dX7_know_120 ?_
                          refine cx_topr (z := nI (3 * i37 + i77)) (nI_add _ _) ?_
                          refine cx_iald (f := (T 4)) (n := 60) (cA := cI) hx hb hE hS 5 0 rfl rfl (by omega) (by decide) dX7_know_121 ?_
                          have ho121 := (hU (3 * i37 + i77)).2
                          refine cx_topr (z := nI (((T 4) (3 * i37 + i77)).toNatClampNeg)) (hU (3 * i37 + i77)).1 ?_
                          refine lv_iadd hx hb dX7_know_122 ?_
                          refine cx_topr (z := nI (20 * i37 + ((T 4) (3 * i37 + i77)).toNatClampNeg)) (nI_add _ _) ?_
                          refine lv_iconst (v := (1 : Int32)) hx hb dX7_know_123 (by decide) ?_
                          refine cx_zast (k := 20 * i37 + ((T 4) (3 * i37 + i77)).toNatClampNeg) (f := Z_0_77) (n := 400) (cA := cZ) (ws' := (cyW q cI cZ n T k M d (cx_u (cx_u Z 3 (fun _ => (1 : Int32))) 0 (upd Z_0_77 (20 * i37 + ((T 4) (3 * i37 + i77)).toNatClampNeg) (vp_nar .boolean (1 : Int32)))) F)) hx hb hE hS 15 1 rfl rfl (by omega) (by decide) rfl dX7_know_124 (fun H locs hS => ?_)
                          exact J125 (upd Z_0_77 (20 * i37 + ((T 4) (3 * i37 + i77)).toNatClampNeg) (vp_nar .boolean (1 : Int32))) _ _ _ (by first | exact cx_k5 hn hu101 hy2 g101 | exact cx_k6 hn (by omega) hu101 hy2 g101) hS (lv_sub hl [0, 1, 2] rfl)
                  exact J77 (((T 5) i37).toNatClampNeg - 0 + 1) 0 Z_0_75 _ _ _ (Nat.lt_succ_self _) (by omega) (by first | assumption | exact hy75 | exact hy125) hS (lv_sub hl [1, 2, 0] rfl)
                refine lv_if_eq (tgt := 75) hx hb dX7_know_55 (by decide) (fun h55 => ?_) (fun h55 => ?_)
                · skip
                  have g55 := cx_b0 h55
                  exact J75 Z_0_37 _ _ _ (by first | exact cx_k3 hn hy g55 | exact cx_k4 hn (by omega) hy g55) hS (lv_sub hl [0, 1] rfl)
                · skip
                  have g55 := cx_b1 h55
                  have hq55 := (cx_ixT (by omega) g55).2
                  refine lv_aload_n hx hb dX7_know_58 rfl (lv_at hl 0 rfl) ?_
                  refine cx_get (own := RX7) (index := 52) (C := RX7) (T := TX7) (N := 22) (k := 16) (ci := 7) (v := .ref (q 15)) hx hb hts hown hE hS hinX7 0 rfl rfl (by decide) (List.mem_of_getElem? (i := 2) rfl) rfl dX7_know_59 ?_
                  refine lv_bipush (v := nI 20) hx hb dX7_know_62 (by decide) ?_
                  refine lv_iload_n hx hb dX7_know_64 rfl (lv_at hl 1 rfl) ?_
                  refine lv_imul hx hb dX7_know_65 ?_
                  refine cx_topr (z := nI (20 * i37)) (pk_mul _ _) ?_
                  refine lv_aload_n hx hb dX7_know_66 rfl (lv_at hl 0 rfl) ?_
                  refine cx_get (own := RX7) (index := 19) (C := RX7) (T := TX7) (N := 22) (k := 4) (ci := 7) (v := .ref (q 4)) hx hb hts hown hE hS hinX7 0 rfl rfl (by decide) (List.mem_of_getElem? (i := 4) rfl) rfl dX7_know_67 ?_
                  refine lv_iload_n hx hb dX7_know_70 rfl (lv_at hl 1 rfl) ?_
                  refine cx_iald (f := (T 3)) (n := 20) (cA := cI) hx hb hE hS 4 0 rfl rfl (by omega) (by decide) dX7_know_71 ?_
                  refine cx_topr (z := nI (((T 3) i37).toNatClampNeg)) (cx_ixT (by omega) g55).1 ?_
                  refine lv_iadd hx hb dX7_know_72 ?_
                  refine cx_topr (z := nI (20 * i37 + ((T 3) i37).toNatClampNeg)) (nI_add _ _) ?_
                  refine lv_iconst (v := (1 : Int32)) hx hb dX7_know_73 (by decide) ?_
                  refine cx_zast (k := 20 * i37 + ((T 3) i37).toNatClampNeg) (f := Z_0_37) (n := 400) (cA := cZ) (ws' := (cyW q cI cZ n T k M d (cx_u (cx_u Z 3 (fun _ => (1 : Int32))) 0 (upd Z_0_37 (20 * i37 + ((T 3) i37).toNatClampNeg) (vp_nar .boolean (1 : Int32)))) F)) hx hb hE hS 15 1 rfl rfl (by omega) (by decide) rfl dX7_know_74 (fun H locs hS => ?_)
                  exact J75 (upd Z_0_37 (20 * i37 + ((T 3) i37).toNatClampNeg) (vp_nar .boolean (1 : Int32))) _ _ _ (by first | exact cx_k3 hn hy g55 | exact cx_k4 hn (by omega) hy g55) hS (lv_sub hl [0, 1] rfl)
          exact J37 (n - 0 + 1) 0 Z_0_15 _ _ _ (Nat.lt_succ_self _) (by omega) (by first | exact cx_k7 (by omega) hy2 | exact cx_k2 (fun j hj => hz j (by omega))) hS (lv_sub hl [1, 0] rfl)
        · skip
          have g19 : ¬ (400 ≤ i15) := fun z => h19 ((nI_leI (a := 400) (b := i15) (by omega) (by omega)).mpr z)
          refine lv_aload_n hx hb dX7_know_22 rfl (lv_at hl 0 rfl) ?_
          refine cx_get (own := RX7) (index := 52) (C := RX7) (T := TX7) (N := 22) (k := 16) (ci := 7) (v := .ref (q 15)) hx hb hts hown hE hS hinX7 0 rfl rfl (by decide) (List.mem_of_getElem? (i := 2) rfl) rfl dX7_know_23 ?_
          refine lv_iload_n hx hb dX7_know_26 rfl (lv_at hl 1 rfl) ?_
          refine lv_iconst (v := (0 : Int32)) hx hb dX7_know_27 (by decide) ?_
          refine cx_zast (k := i15) (f := Z_0_15) (n := 400) (cA := cZ) (ws' := (cyW q cI cZ n T k M d (cx_u (cx_u Z 3 (fun _ => (1 : Int32))) 0 (upd Z_0_15 i15 (vp_nar .boolean (0 : Int32)))) F)) hx hb hE hS 15 1 rfl rfl (by omega) (by decide) rfl dX7_know_28 (fun H locs hS => ?_)
          refine lv_iinc (v := nI (i15 + 1)) (lv' := [(1, .int (nI (i15 + 1))), (0, .ref (q 0))]) hx hb dX7_know_29 hl (k := 1) rfl (cx_inc _) (by decide) rfl (fun ls hl => ?_)
          refine lv_goto (tgt := 15) hx hb dX7_know_32 (by decide) ?_
          exact ih15 (i15 + 1) (upd Z_0_15 i15 (vp_nar .boolean (0 : Int32))) _ _ _ (by omega) (by omega) (by first | exact fun j hj => absurd hj (by omega) | exact cx_k1 hz) hS (lv_sub hl [1, 0] rfl)
    exact J15 (400 - 0 + 1) 0 (Z 0) _ _ _ (Nat.lt_succ_self _) (by omega) (by first | exact fun j hj => absurd hj (by omega) | exact cx_k1 hz) hS (lv_sub hl [1, 0] rfl)
  · skip
    exact RET (Z 0, (Z 3) 0) _ _ _ _ dX7_know_7 (⟨(by first | assumption | exact hKN), hKN.resolve_left h4⟩) hS
set_option maxHeartbeats 4000000 in
set_option maxRecDepth 100000 in
theorem c_X7_isOf (l : Launch) (D : va_G) (q : Nat → Nat) (cI cZ : ClassId) (n : Nat) (T : Nat → Nat → Int32) (k : Nat) (M : Nat → Nat → Int32) (d : Nat) (Z : Nat → Nat → Int32) (F : Nat → Nat → Int32) (t : Nat) (u : Nat) (hn : n ≤ 20) (hP : cx_P (T 3) 20) (hU : cx_R (T 4) 20) (hV : cx_R (T 5) 4) (hKN : cx_KN n T (Z 0) ((Z 3) 0)) (ht : t < 20) (hu : u < 20) : cx_Mi l D vwCl [(cI, .int), (cZ, .boolean)] cx_NW yX7_isOf wsX7_isOf ({ frames := 3, cells := 0, slots := 0, locals := 66 } : Room) [.ref (q 0), .int (nI t), .int (nI u)] (cyW q cI cZ n T k M d Z F) (fun (r : Int32) (uw : (Nat → Int32) × (Int32)) => cx_KN n T uw.1 uw.2 ∧ ((r = 0 ∨ r = 1) ∧ (t < n → u < n → (¬ r = 0 ↔ (t = u ∨ cx_w3 n (cx_Er T n) n t u))))) (fun uw => (cyW q cI cZ n T k M d (cx_u (cx_u Z 0 uw.1) 3 (fun _ => uw.2)) F)) := by
  refine cx_Mi.of (cc := cX7_isOf) (maxL := 3) cx_NW_ok (by decide) rfl (Nat.le_of_ble_eq_true rfl) ?_
  intro p e s m args below meth c Q A ls hx hb hml hown hts hE RET hS hl
  have hl : lv_has ls 3 [(0, .ref (q 0)), (1, .int (nI t)), (2, .int (nI u))] := hl
  have hown : s.vm.findClass RX7 = some m.cls := hown
  have hinX7 : ∀ w ∈ u_ws RX7 TX7 22, w ∈ wsX7_isOf := cx_mem [19, 20, 21, 22, 23, 24, 25, 26, 27, 28, 29, 30, 31, 32, 33, 34, 35, 36, 37, 38, 39, 40] (by decide +kernel)
  refine lv_aload_n hx hb dX7_isOf_0 rfl (lv_at hl 0 rfl) ?_
  refine cx_cVv (As := []) (rest := []) ⟨hx, hb, hml, hown, hts⟩ hE hS (c_X7_know l D q cI cZ n T k M d Z F  (by first | assumption | omega) (by first | assumption | omega) (by first | assumption | omega) (by first | assumption | omega) (by first | assumption | omega)) (cwV 0 hts gX7_isOf_X7_know rfl rfl rfl (by decide +kernel) ⟨Nat.le_of_ble_eq_true rfl, Nat.le_of_ble_eq_true rfl⟩) 0 7 rfl rfl rfl hl.1 rfl (Nat.le_of_ble_eq_true rfl) ⟨Nat.zero_le _, Nat.zero_le _⟩ dX7_isOf_1 (fun u_1 H locs hp_1 hS => ?_)
  obtain ⟨za_1, kn_1⟩ := u_1
  have hS : cx_S D vwCl A s (cyW q cI cZ n T k M d (cx_u (cx_u Z 0 za_1) 3 (fun _ => kn_1)) F) H locs := hS
  obtain ⟨hKN_1, hp_1⟩ := hp_1
  have hKN_1 : cx_KN n T za_1 kn_1 := hKN_1
  have hp_1 : ∀ a u, a < n → u < n → (¬ za_1 (20 * a + u) = 0 ↔ (cx_w3 n (cx_Er T n) n) a u) := hp_1
  refine lv_iload_n hx hb dX7_isOf_4 rfl (lv_at hl 1 rfl) ?_
  refine lv_iload_n hx hb dX7_isOf_5 rfl (lv_at hl 2 rfl) ?_
  have J28 : ∀ (v28_s0 : Int32) (H : Heap) (locs : List Loc) (ls : Array Slot), (v28_s0 = 0 ∨ v28_s0 = 1) → (t < n → u < n → (¬ v28_s0 = 0 ↔ (t = u ∨ cx_w3 n (cx_Er T n) n t u))) → (v28_s0 = 0 ∨ v28_s0 = 1) → cx_S D vwCl A s (cyW q cI cZ n T k M d (cx_u (cx_u Z 0 za_1) 3 (fun _ => kn_1)) F) H locs → lv_has ls 3 [(0, .ref (q 0)), (1, .int (nI t)), (2, .int (nI u))] → W p l e ({ frames := 3, cells := 0, slots := 0, locals := 66 } : Room) s m args below meth c H locs 0 0 Q (F0 m 28 ls [.int v28_s0]) := by
    intro v28_s0 H locs ls h28 h29 hb28 hS hl
    exact RET _ (za_1, kn_1) _ _ _ _ dX7_isOf_28 (cx_nb h28) (⟨(by first | assumption | exact hKN), ⟨h28, h29⟩⟩) hS
  have J23 : ∀ (H : Heap) (locs : List Loc) (ls : Array Slot), (t < n → u < n → (t = u ∨ cx_w3 n (cx_Er T n) n t u)) → cx_S D vwCl A s (cyW q cI cZ n T k M d (cx_u (cx_u Z 0 za_1) 3 (fun _ => kn_1)) F) H locs → lv_has ls 3 [(0, .ref (q 0)), (1, .int (nI t)), (2, .int (nI u))] → W p l e ({ frames := 3, cells := 0, slots := 0, locals := 66 } : Room) s m args below meth c H locs 0 0 Q (F0 m 23 ls []) := by
    intro  H locs ls h23 hS hl
    refine lv_iconst (v := (1 : Int32)) hx hb dX7_isOf_23 (by decide) ?_
    refine lv_goto (tgt := 28) hx hb dX7_isOf_24 (by decide) ?_
    exact J28 (1 : Int32) _ _ _ (by first | exact Or.inl rfl | exact Or.inr rfl) (by first | exact fun y z => ⟨fun _ => h23 y z, fun _ => by decide⟩ | exact fun y z => ⟨fun x => absurd rfl x, fun x => x.elim (fun w => absurd w g6) (fun w => absurd h20 ((hp_1 t u y z).mpr w))⟩) (by first | exact Or.inl rfl | exact Or.inr rfl | assumption | exact cx_bb) hS (lv_sub hl [0, 1, 2] rfl)
  refine lv_icmp_eq (tgt := 23) hx hb dX7_isOf_6 (by decide) (fun h6 => ?_) (fun h6 => ?_)
  · skip
    have g6 : t = u := (nI_eq (a := t) (b := u) (by omega) (by omega)).mp h6
    exact J23  _ _ _ (by first | exact fun _ _ => Or.inl g6 | exact fun y z => Or.inr ((hp_1 t u y z).mp h20)) hS (lv_sub hl [0, 1, 2] rfl)
  · skip
    have g6 : ¬ (t = u) := fun z => h6 ((nI_eq (a := t) (b := u) (by omega) (by omega)).mpr z)
    refine lv_aload_n hx hb dX7_isOf_9 rfl (lv_at hl 0 rfl) ?_
    refine cx_get (own := RX7) (index := 52) (C := RX7) (T := TX7) (N := 22) (k := 16) (ci := 7) (v := .ref (q 15)) hx hb hts hown hE hS hinX7 0 rfl rfl (by decide) (List.mem_of_getElem? (i := 1) rfl) rfl dX7_isOf_10 ?_
    refine lv_bipush (v := nI 20) hx hb dX7_isOf_13 (by decide) ?_
    refine lv_iload_n hx hb dX7_isOf_15 rfl (lv_at hl 1 rfl) ?_
    refine lv_imul hx hb dX7_isOf_16 ?_
    refine cx_topr (z := nI (20 * t)) (pk_mul _ _) ?_
    refine lv_iload_n hx hb dX7_isOf_17 rfl (lv_at hl 2 rfl) ?_
    refine lv_iadd hx hb dX7_isOf_18 ?_
    refine cx_topr (z := nI (20 * t + u)) (nI_add _ _) ?_
    refine cx_zald (f := za_1) (n := 400) (cA := cZ) hx hb hE hS 15 1 rfl rfl (by omega) (by decide) dX7_isOf_19 ?_
    refine lv_if_eq (tgt := 27) hx hb dX7_isOf_20 (by decide) (fun h20 => ?_) (fun h20 => ?_)
    · skip
      refine lv_iconst (v := (0 : Int32)) hx hb dX7_isOf_27 (by decide) ?_
      exact J28 (0 : Int32) _ _ _ (by first | exact Or.inl rfl | exact Or.inr rfl) (by first | exact fun y z => ⟨fun _ => h23 y z, fun _ => by decide⟩ | exact fun y z => ⟨fun x => absurd rfl x, fun x => x.elim (fun w => absurd w g6) (fun w => absurd h20 ((hp_1 t u y z).mpr w))⟩) (by first | exact Or.inl rfl | exact Or.inr rfl | assumption | exact cx_bb) hS (lv_sub hl [0, 1, 2] rfl)
    · skip
      exact J23  _ _ _ (by first | exact fun _ _ => Or.inl g6 | exact fun y z => Or.inr ((hp_1 t u y z).mp h20)) hS (lv_sub hl [0, 1, 2] rfl)
set_option maxHeartbeats 4000000 in
set_option maxRecDepth 100000 in
theorem c_X7_areLike (l : Launch) (D : va_G) (q : Nat → Nat) (cI cZ : ClassId) (n : Nat) (T : Nat → Nat → Int32) (k : Nat) (M : Nat → Nat → Int32) (d : Nat) (Z : Nat → Nat → Int32) (F : Nat → Nat → Int32) (mm : Nat) (oo : Nat) (hm : mm < 80) (ho : oo < 80) : cx_Mi l D vwCl [(cI, .int), (cZ, .boolean)] cx_NW yX7_areLike wsX7_areLike ({ frames := 0, cells := 0, slots := 0, locals := 0 } : Room) [.ref (q 0), .int (nI mm), .int (nI oo)] (cyW q cI cZ n T k M d Z F) (fun (r : Int32) (uw : Unit) => r = 0 ∨ r = 1) (fun _ => (cyW q cI cZ n T k M d Z F)) := by
  refine cx_Mi.of (cc := cX7_areLike) (maxL := 3) cx_NW_ok (by decide) rfl (Nat.le_of_ble_eq_true rfl) ?_
  intro p e s m args below meth c Q A ls hx hb hml hown hts hE RET hS hl
  have hl : lv_has ls 3 [(0, .ref (q 0)), (1, .int (nI mm)), (2, .int (nI oo))] := hl
  have hown : s.vm.findClass RX7 = some m.cls := hown
  have hinX7 : ∀ w ∈ u_ws RX7 TX7 22, w ∈ wsX7_areLike := cx_mem [3, 4, 5, 6, 7, 8, 9, 10, 11, 12, 13, 14, 15, 16, 17, 18, 19, 20, 21, 22, 23, 24] (by decide +kernel)
  refine lv_aload_n hx hb dX7_areLike_0 rfl (lv_at hl 0 rfl) ?_
  refine cx_get (own := RX7) (index := 37) (C := RX7) (T := TX7) (N := 22) (k := 11) (ci := 7) (v := .ref (q 10)) hx hb hts hown hE hS hinX7 0 rfl rfl (by decide) (List.mem_of_getElem? (i := 1) rfl) rfl dX7_areLike_1 ?_
  refine lv_iload_n hx hb dX7_areLike_4 rfl (lv_at hl 1 rfl) ?_
  refine cx_iald (f := (M 1)) (n := 80) (cA := cI) hx hb hE hS 10 0 rfl rfl (by omega) (by decide) dX7_areLike_5 ?_
  refine lv_aload_n hx hb dX7_areLike_6 rfl (lv_at hl 0 rfl) ?_
  refine cx_get (own := RX7) (index := 37) (C := RX7) (T := TX7) (N := 22) (k := 11) (ci := 7) (v := .ref (q 10)) hx hb hts hown hE hS hinX7 0 rfl rfl (by decide) (List.mem_of_getElem? (i := 1) rfl) rfl dX7_areLike_7 ?_
  refine lv_iload_n hx hb dX7_areLike_10 rfl (lv_at hl 2 rfl) ?_
  refine cx_iald (f := (M 1)) (n := 80) (cA := cI) hx hb hE hS 10 0 rfl rfl (by omega) (by decide) dX7_areLike_11 ?_
  have J35 : ∀ (v35_s0 : Int32) (H : Heap) (locs : List Loc) (ls : Array Slot), (v35_s0 = 0 ∨ v35_s0 = 1) → cx_S D vwCl A s (cyW q cI cZ n T k M d Z F) H locs → lv_has ls 3 [(0, .ref (q 0)), (1, .int (nI mm)), (2, .int (nI oo))] → W p l e ({ frames := 0, cells := 0, slots := 0, locals := 0 } : Room) s m args below meth c H locs 0 0 Q (F0 m 35 ls [.int v35_s0]) := by
    intro v35_s0 H locs ls hb35 hS hl
    exact RET _ () _ _ _ _ dX7_areLike_35 (cx_nb (by first | assumption | exact cx_bb)) (by first | exact Or.inl rfl | exact Or.inr rfl | assumption | exact cx_bb) hS
  have J34 : ∀ (H : Heap) (locs : List Loc) (ls : Array Slot), cx_S D vwCl A s (cyW q cI cZ n T k M d Z F) H locs → lv_has ls 3 [(0, .ref (q 0)), (1, .int (nI mm)), (2, .int (nI oo))] → W p l e ({ frames := 0, cells := 0, slots := 0, locals := 0 } : Room) s m args below meth c H locs 0 0 Q (F0 m 34 ls []) := by
    intro  H locs ls  hS hl
    refine lv_iconst (v := (0 : Int32)) hx hb dX7_areLike_34 (by decide) ?_
    exact J35 (0 : Int32) _ _ _ (by first | exact Or.inl rfl | exact Or.inr rfl | assumption | exact cx_bb) hS (lv_sub hl [0, 1, 2] rfl)
  refine lv_icmp_ne (tgt := 34) hx hb dX7_areLike_12 (by decide) (fun h12 => ?_) (fun h12 => ?_)
  · skip
    exact J34  _ _ _  hS (lv_sub hl [0, 1, 2] rfl)
  · skip
    refine lv_aload_n hx hb dX7_areLike_15 rfl (lv_at hl 0 rfl) ?_
    refine cx_get (own := RX7) (index := 40) (C := RX7) (T := TX7) (N := 22) (k := 12) (ci := 7) (v := .ref (q 11)) hx hb hts hown hE hS hinX7 0 rfl rfl (by decide) (List.mem_of_getElem? (i := 2) rfl) rfl dX7_areLike_16 ?_
    refine lv_iload_n hx hb dX7_areLike_19 rfl (lv_at hl 1 rfl) ?_
    refine cx_iald (f := (M 2)) (n := 80) (cA := cI) hx hb hE hS 11 0 rfl rfl (by omega) (by decide) dX7_areLike_20 ?_
    refine lv_aload_n hx hb dX7_areLike_21 rfl (lv_at hl 0 rfl) ?_
    refine cx_get (own := RX7) (index := 40) (C := RX7) (T := TX7) (N := 22) (k := 12) (ci := 7) (v := .ref (q 11)) hx hb hts hown hE hS hinX7 0 rfl rfl (by decide) (List.mem_of_getElem? (i := 2) rfl) rfl dX7_areLike_22 ?_
    refine lv_iload_n hx hb dX7_areLike_25 rfl (lv_at hl 2 rfl) ?_
    refine cx_iald (f := (M 2)) (n := 80) (cA := cI) hx hb hE hS 11 0 rfl rfl (by omega) (by decide) dX7_areLike_26 ?_
    refine lv_icmp_ne (tgt := 34) hx hb dX7_areLike_27 (by decide) (fun h27 => ?_) (fun h27 => ?_)
    · skip
      exact J34  _ _ _  hS (lv_sub hl [0, 1, 2] rfl)
    · skip
      refine lv_iconst (v := (1 : Int32)) hx hb dX7_areLike_30 (by decide) ?_
      refine lv_goto (tgt := 35) hx hb dX7_areLike_31 (by decide) ?_
      exact J35 (1 : Int32) _ _ _ (by first | exact Or.inl rfl | exact Or.inr rfl | assumption | exact cx_bb) hS (lv_sub hl [0, 1, 2] rfl)
set_option maxHeartbeats 4000000 in
set_option maxRecDepth 100000 in
theorem c_X7_isShared (l : Launch) (D : va_G) (q : Nat → Nat) (cI cZ : ClassId) (n : Nat) (T : Nat → Nat → Int32) (k : Nat) (M : Nat → Nat → Int32) (d : Nat) (Z : Nat → Nat → Int32) (F : Nat → Nat → Int32) (mm : Nat) (t : Nat) (hn : n ≤ 20) (hP : cx_P (T 3) 20) (hU : cx_R (T 4) 20) (hV : cx_R (T 5) 4) (hKN : cx_KN n T (Z 0) ((Z 3) 0)) (hO : cx_R (M 0) 20) (hm : mm < 80) (ht : t < 20) : cx_Mi l D vwCl [(cI, .int), (cZ, .boolean)] cx_NW yX7_isShared wsX7_isShared ({ frames := 3, cells := 0, slots := 0, locals := 66 } : Room) [.ref (q 0), .int (nI mm), .int (nI t)] (cyW q cI cZ n T k M d Z F) (fun (r : Int32) (uw : (Nat → Int32) × (Int32)) => cx_KN n T uw.1 uw.2 ∧ (r = 0 ∨ r = 1)) (fun uw => (cyW q cI cZ n T k M d (cx_u (cx_u Z 0 uw.1) 3 (fun _ => uw.2)) F)) := by
  refine cx_Mi.of (cc := cX7_isShared) (maxL := 4) cx_NW_ok (by decide) rfl (Nat.le_of_ble_eq_true rfl) ?_
  intro p e s m args below meth c Q A ls hx hb hml hown hts hE RET hS hl
  have hl : lv_has ls 4 [(0, .ref (q 0)), (1, .int (nI mm)), (2, .int (nI t))] := hl
  have hown : s.vm.findClass RX7 = some m.cls := hown
  have hinX7 : ∀ w ∈ u_ws RX7 TX7 22, w ∈ wsX7_isShared := cx_mem [28, 29, 30, 31, 32, 33, 34, 35, 36, 37, 38, 39, 40, 41, 42, 43, 44, 45, 46, 47, 48, 49] (by decide +kernel)
  refine lv_aload_n hx hb dX7_isShared_0 rfl (lv_at hl 0 rfl) ?_
  refine cx_cVv (As := []) (rest := []) ⟨hx, hb, hml, hown, hts⟩ hE hS (c_X7_know l D q cI cZ n T k M d Z F  (by first | assumption | omega) (by first | assumption | omega) (by first | assumption | omega) (by first | assumption | omega) (by first | assumption | omega)) (cwV 0 hts gX7_isShared_X7_know rfl rfl rfl (by decide +kernel) ⟨Nat.le_of_ble_eq_true rfl, Nat.le_of_ble_eq_true rfl⟩) 0 7 rfl rfl rfl hl.1 rfl (Nat.le_of_ble_eq_true rfl) ⟨Nat.zero_le _, Nat.zero_le _⟩ dX7_isShared_1 (fun u_1 H locs hp_1 hS => ?_)
  obtain ⟨za_1, kn_1⟩ := u_1
  have hS : cx_S D vwCl A s (cyW q cI cZ n T k M d (cx_u (cx_u Z 0 za_1) 3 (fun _ => kn_1)) F) H locs := hS
  obtain ⟨hKN_1, hp_1⟩ := hp_1
  have hKN_1 : cx_KN n T za_1 kn_1 := hKN_1
  have hp_1 : ∀ a u, a < n → u < n → (¬ za_1 (20 * a + u) = 0 ↔ (cx_w3 n (cx_Er T n) n) a u) := hp_1
  refine lv_aload_n hx hb dX7_isShared_4 rfl (lv_at hl 0 rfl) ?_
  refine cx_get (own := RX7) (index := 46) (C := RX7) (T := TX7) (N := 22) (k := 14) (ci := 7) (v := .ref (q 13)) hx hb hts hown hE hS hinX7 0 rfl rfl (by decide) (List.mem_of_getElem? (i := 1) rfl) rfl dX7_isShared_5 ?_
  refine lv_iload_n hx hb dX7_isShared_8 rfl (lv_at hl 1 rfl) ?_
  refine cx_iald (f := (M 4)) (n := 80) (cA := cI) hx hb hE hS 13 0 rfl rfl (by omega) (by decide) dX7_isShared_9 ?_
  refine lv_iconst (v := (1 : Int32)) hx hb dX7_isShared_10 (by decide) ?_
  have J49 : ∀ (v49_s0 : Int32) (H : Heap) (locs : List Loc) (ls : Array Slot), cx_S D vwCl A s (cyW q cI cZ n T k M d (cx_u (cx_u Z 0 za_1) 3 (fun _ => kn_1)) F) H locs → lv_has ls 4 [(0, .ref (q 0)), (1, .int (nI mm)), (2, .int (nI t))] → W p l e ({ frames := 3, cells := 0, slots := 0, locals := 66 } : Room) s m args below meth c H locs 0 0 Q (F0 m 49 ls [.int v49_s0]) := by
    intro v49_s0 H locs ls  hS hl
    refine lv_istore_n (lv' := [(3, .int v49_s0), (0, .ref (q 0)), (1, .int (nI mm)), (2, .int (nI t))]) hx hb dX7_isShared_49 rfl hl (by decide) rfl (fun ls hl => ?_)
    refine lv_aload_n hx hb dX7_isShared_50 rfl (lv_at hl 1 rfl) ?_
    refine cx_get (own := RX7) (index := 52) (C := RX7) (T := TX7) (N := 22) (k := 16) (ci := 7) (v := .ref (q 15)) hx hb hts hown hE hS hinX7 0 rfl rfl (by decide) (List.mem_of_getElem? (i := 4) rfl) rfl dX7_isShared_51 ?_
    refine lv_bipush (v := nI 20) hx hb dX7_isShared_54 (by decide) ?_
    refine lv_iload_n hx hb dX7_isShared_56 rfl (lv_at hl 3 rfl) ?_
    refine lv_imul hx hb dX7_isShared_57 ?_
    refine cx_topr (z := nI (20 * t)) (pk_mul _ _) ?_
    refine lv_aload_n hx hb dX7_isShared_58 rfl (lv_at hl 1 rfl) ?_
    refine cx_get (own := RX7) (index := 34) (C := RX7) (T := TX7) (N := 22) (k := 10) (ci := 7) (v := .ref (q 9)) hx hb hts hown hE hS hinX7 0 rfl rfl (by decide) (List.mem_of_getElem? (i := 3) rfl) rfl dX7_isShared_59 ?_
    refine lv_iload_n hx hb dX7_isShared_62 rfl (lv_at hl 2 rfl) ?_
    refine cx_iald (f := (M 0)) (n := 80) (cA := cI) hx hb hE hS 9 0 rfl rfl (by omega) (by decide) dX7_isShared_63 ?_
    have ho63 := (hO mm).2
    refine cx_topr (z := nI (((M 0) mm).toNatClampNeg)) (hO mm).1 ?_
    refine lv_iadd hx hb dX7_isShared_64 ?_
    refine cx_topr (z := nI (20 * t + ((M 0) mm).toNatClampNeg)) (nI_add _ _) ?_
    refine cx_zald (f := za_1) (n := 400) (cA := cZ) hx hb hE hS 15 1 rfl rfl (by omega) (by decide) dX7_isShared_65 ?_
    have J103 : ∀ (v103_s0 : Int32) (H : Heap) (locs : List Loc) (ls : Array Slot), (v103_s0 = 0 ∨ v103_s0 = 1) → cx_S D vwCl A s (cyW q cI cZ n T k M d (cx_u (cx_u Z 0 za_1) 3 (fun _ => kn_1)) F) H locs → lv_has ls 4 [(0, .ref (q 0)), (1, .int (nI mm)), (2, .int (nI t)), (3, .int v49_s0)] → W p l e ({ frames := 3, cells := 0, slots := 0, locals := 66 } : Room) s m args below meth c H locs 0 0 Q (F0 m 103 ls [.int v103_s0]) := by
      intro v103_s0 H locs ls hb103 hS hl
      exact RET _ (za_1, kn_1) _ _ _ _ dX7_isShared_103 (cx_nb (by first | assumption | exact cx_bb)) (⟨(by first | assumption | exact hKN), (by first | exact Or.inl rfl | exact Or.inr rfl | assumption | exact cx_bb)⟩) hS
    have J102 : ∀ (H : Heap) (locs : List Loc) (ls : Array Slot), cx_S D vwCl A s (cyW q cI cZ n T k M d (cx_u (cx_u Z 0 za_1) 3 (fun _ => kn_1)) F) H locs → lv_has ls 4 [(0, .ref (q 0)), (1, .int (nI mm)), (2, .int (nI t)), (3, .int v49_s0)] → W p l e ({ frames := 3, cells := 0, slots := 0, locals := 66 } : Room) s m args below meth c H locs 0 0 Q (F0 m 102 ls []) := by
      intro  H locs ls  hS hl
      refine lv_iconst (v := (0 : Int32)) hx hb dX7_isShared_102 (by decide) ?_
      exact J103 (0 : Int32) _ _ _ (by first | exact Or.inl rfl | exact Or.inr rfl | assumption | exact cx_bb) hS (lv_sub hl [0, 1, 2, 3] rfl)
    refine lv_if_eq (tgt := 102) hx hb dX7_isShared_66 (by decide) (fun h66 => ?_) (fun h66 => ?_)
    · skip
      exact J102  _ _ _  hS (lv_sub hl [1, 2, 3, 0] rfl)
    · skip
      refine lv_iload_n hx hb dX7_isShared_69 rfl (lv_at hl 0 rfl) ?_
      refine lv_if_eq (tgt := 102) hx hb dX7_isShared_70 (by decide) (fun h70 => ?_) (fun h70 => ?_)
      · skip
        exact J102  _ _ _  hS (lv_sub hl [1, 2, 3, 0] rfl)
      · skip
        refine lv_aload_n hx hb dX7_isShared_73 rfl (lv_at hl 1 rfl) ?_
        refine lv_iload_n hx hb dX7_isShared_74 rfl (lv_at hl 2 rfl) ?_
        refine lv_iconst (v := (1 : Int32)) hx hb dX7_isShared_75 (by decide) ?_
        refine lv_iconst (v := nI 4) hx hb dX7_isShared_76 (by decide) ?_
        refine cx_cVi (As := [.int (nI mm), .int (1 : Int32), .int (nI 4)]) (rest := []) ⟨hx, hb, hml, hown, hts⟩ hE hS (c_X7_is l D q cI cZ n T k M d (cx_u (cx_u Z 0 za_1) 3 (fun _ => kn_1)) F mm (1 : Int32) (nI 4) (by first | assumption | omega)) (cwV 3 hts gX7_isShared_X7_is rfl rfl rfl (by decide +kernel) ⟨Nat.le_of_ble_eq_true rfl, Nat.le_of_ble_eq_true rfl⟩) 0 7 rfl rfl rfl hl.1 rfl (Nat.le_of_ble_eq_true rfl) ⟨Nat.zero_le _, Nat.zero_le _⟩ dX7_isShared_77 (fun r_77 u_77 H locs hp_77 hS => ?_)
        have hp_77 : r_77 = cx_b ((cx_b (¬ (((M 3) mm) &&& (nI 4)) = 0)) = (1 : Int32)) := hp_77
        subst hp_77
        have J98 : ∀ (H : Heap) (locs : List Loc) (ls : Array Slot), cx_S D vwCl A s (cyW q cI cZ n T k M d (cx_u (cx_u Z 0 za_1) 3 (fun _ => kn_1)) F) H locs → lv_has ls 4 [(0, .ref (q 0)), (1, .int (nI mm)), (2, .int (nI t)), (3, .int v49_s0)] → W p l e ({ frames := 3, cells := 0, slots := 0, locals := 66 } : Room) s m args below meth c H locs 0 0 Q (F0 m 98 ls []) := by
          intro  H locs ls  hS hl
          refine lv_iconst (v := (1 : Int32)) hx hb dX7_isShared_98 (by decide) ?_
          refine lv_goto (tgt := 103) hx hb dX7_isShared_99 (by decide) ?_
          exact J103 (1 : Int32) _ _ _ (by first | exact Or.inl rfl | exact Or.inr rfl | assumption | exact cx_bb) hS (lv_sub hl [0, 1, 2, 3] rfl)
        refine lv_if_eq (tgt := 98) hx hb dX7_isShared_80 (by decide) (fun h80 => ?_) (fun h80 => ?_)
        · skip
          have g80 := cx_b0 h80
          exact J98  _ _ _  hS (lv_sub hl [1, 2, 3, 0] rfl)
        · skip
          have g80 := cx_b1 h80
          refine lv_aload_n hx hb dX7_isShared_83 rfl (lv_at hl 1 rfl) ?_
          refine cx_get (own := RX7) (index := 7) (C := RX7) (T := TX7) (N := 22) (k := 1) (ci := 7) (v := .ref (q 1)) hx hb hts hown hE hS hinX7 0 rfl rfl (by decide) (List.mem_of_getElem? (i := 5) rfl) rfl dX7_isShared_84 ?_
          refine lv_aload_n hx hb dX7_isShared_87 rfl (lv_at hl 1 rfl) ?_
          refine cx_get (own := RX7) (index := 34) (C := RX7) (T := TX7) (N := 22) (k := 10) (ci := 7) (v := .ref (q 9)) hx hb hts hown hE hS hinX7 0 rfl rfl (by decide) (List.mem_of_getElem? (i := 3) rfl) rfl dX7_isShared_88 ?_
          refine lv_iload_n hx hb dX7_isShared_91 rfl (lv_at hl 2 rfl) ?_
          refine cx_iald (f := (M 0)) (n := 80) (cA := cI) hx hb hE hS 9 0 rfl rfl (by omega) (by decide) dX7_isShared_92 ?_
          have ho92 := (hO mm).2
          refine cx_topr (z := nI (((M 0) mm).toNatClampNeg)) (hO mm).1 ?_
          refine cx_iald (f := (T 0)) (n := 20) (cA := cI) hx hb hE hS 1 0 rfl rfl (by omega) (by decide) dX7_isShared_93 ?_
          refine lv_iconst (v := (1 : Int32)) hx hb dX7_isShared_94 (by decide) ?_
          refine lv_icmp_eq (tgt := 102) hx hb dX7_isShared_95 (by decide) (fun h95 => ?_) (fun h95 => ?_)
          · skip
            exact J102  _ _ _  hS (lv_sub hl [1, 2, 3, 0] rfl)
          · skip
            exact J98  _ _ _  hS (lv_sub hl [1, 2, 3, 0] rfl)
  have J44 : ∀ (H : Heap) (locs : List Loc) (ls : Array Slot), cx_S D vwCl A s (cyW q cI cZ n T k M d (cx_u (cx_u Z 0 za_1) 3 (fun _ => kn_1)) F) H locs → lv_has ls 4 [(0, .ref (q 0)), (1, .int (nI mm)), (2, .int (nI t))] → W p l e ({ frames := 3, cells := 0, slots := 0, locals := 66 } : Room) s m args below meth c H locs 0 0 Q (F0 m 44 ls []) := by
    intro  H locs ls  hS hl
    refine lv_iconst (v := (1 : Int32)) hx hb dX7_isShared_44 (by decide) ?_
    refine lv_goto (tgt := 49) hx hb dX7_isShared_45 (by decide) ?_
    exact J49 (1 : Int32) _ _ _  hS (lv_sub hl [0, 1, 2] rfl)
  refine lv_icmp_gt (tgt := 44) hx hb dX7_isShared_11 (by decide) (fun h11 => ?_) (fun h11 => ?_)
  · skip
    exact J44  _ _ _  hS (lv_sub hl [0, 1, 2] rfl)
  · skip
    refine lv_aload_n hx hb dX7_isShared_14 rfl (lv_at hl 0 rfl) ?_
    refine cx_get (own := RX7) (index := 46) (C := RX7) (T := TX7) (N := 22) (k := 14) (ci := 7) (v := .ref (q 13)) hx hb hts hown hE hS hinX7 0 rfl rfl (by decide) (List.mem_of_getElem? (i := 1) rfl) rfl dX7_isShared_15 ?_
    refine lv_iload_n hx hb dX7_isShared_18 rfl (lv_at hl 1 rfl) ?_
    refine cx_iald (f := (M 4)) (n := 80) (cA := cI) hx hb hE hS 13 0 rfl rfl (by omega) (by decide) dX7_isShared_19 ?_
    refine lv_iconst (v := (1 : Int32)) hx hb dX7_isShared_20 (by decide) ?_
    have J48 : ∀ (H : Heap) (locs : List Loc) (ls : Array Slot), cx_S D vwCl A s (cyW q cI cZ n T k M d (cx_u (cx_u Z 0 za_1) 3 (fun _ => kn_1)) F) H locs → lv_has ls 4 [(0, .ref (q 0)), (1, .int (nI mm)), (2, .int (nI t))] → W p l e ({ frames := 3, cells := 0, slots := 0, locals := 66 } : Room) s m args below meth c H locs 0 0 Q (F0 m 48 ls []) := by
      intro  H locs ls  hS hl
      refine lv_iconst (v := (0 : Int32)) hx hb dX7_isShared_48 (by decide) ?_
      exact J49 (0 : Int32) _ _ _  hS (lv_sub hl [0, 1, 2] rfl)
    refine lv_icmp_ne (tgt := 48) hx hb dX7_isShared_21 (by decide) (fun h21 => ?_) (fun h21 => ?_)
    · skip
      exact J48  _ _ _  hS (lv_sub hl [0, 1, 2] rfl)
    · skip
      refine lv_aload_n hx hb dX7_isShared_24 rfl (lv_at hl 0 rfl) ?_
      refine cx_get (own := RX7) (index := 16) (C := RX7) (T := TX7) (N := 22) (k := 3) (ci := 7) (v := .ref (q 3)) hx hb hts hown hE hS hinX7 0 rfl rfl (by decide) (List.mem_of_getElem? (i := 2) rfl) rfl dX7_isShared_25 ?_
      refine lv_aload_n hx hb dX7_isShared_28 rfl (lv_at hl 0 rfl) ?_
      refine cx_get (own := RX7) (index := 34) (C := RX7) (T := TX7) (N := 22) (k := 10) (ci := 7) (v := .ref (q 9)) hx hb hts hown hE hS hinX7 0 rfl rfl (by decide) (List.mem_of_getElem? (i := 3) rfl) rfl dX7_isShared_29 ?_
      refine lv_iload_n hx hb dX7_isShared_32 rfl (lv_at hl 1 rfl) ?_
      refine cx_iald (f := (M 0)) (n := 80) (cA := cI) hx hb hE hS 9 0 rfl rfl (by omega) (by decide) dX7_isShared_33 ?_
      have ho33 := (hO mm).2
      refine cx_topr (z := nI (((M 0) mm).toNatClampNeg)) (hO mm).1 ?_
      refine cx_iald (f := (T 2)) (n := 20) (cA := cI) hx hb hE hS 3 0 rfl rfl (by omega) (by decide) dX7_isShared_34 ?_
      refine lv_aload_n hx hb dX7_isShared_35 rfl (lv_at hl 0 rfl) ?_
      refine cx_get (own := RX7) (index := 16) (C := RX7) (T := TX7) (N := 22) (k := 3) (ci := 7) (v := .ref (q 3)) hx hb hts hown hE hS hinX7 0 rfl rfl (by decide) (List.mem_of_getElem? (i := 2) rfl) rfl dX7_isShared_36 ?_
      refine lv_iload_n hx hb dX7_isShared_39 rfl (lv_at hl 2 rfl) ?_
      refine cx_iald (f := (T 2)) (n := 20) (cA := cI) hx hb hE hS 3 0 rfl rfl (by omega) (by decide) dX7_isShared_40 ?_
      refine lv_icmp_ne (tgt := 48) hx hb dX7_isShared_41 (by decide) (fun h41 => ?_) (fun h41 => ?_)
      · skip
        exact J48  _ _ _  hS (lv_sub hl [0, 1, 2] rfl)
      · skip
        exact J44  _ _ _  hS (lv_sub hl [0, 1, 2] rfl)
set_option maxHeartbeats 4000000 in
set_option maxRecDepth 100000 in
theorem c_X7_mark (l : Launch) (D : va_G) (q : Nat → Nat) (cI cZ : ClassId) (n : Nat) (T : Nat → Nat → Int32) (k : Nat) (M : Nat → Nat → Int32) (d : Nat) (Z : Nat → Nat → Int32) (F : Nat → Nat → Int32) (kd : Nat) (nb : Nat) (wr : Int32) (hkd : kd < 20) (hnb : nb < 80) : cx_Mv l D vwCl [(cI, .int), (cZ, .boolean)] cx_NW yX7_mark wsX7_mark ({ frames := 0, cells := 0, slots := 0, locals := 0 } : Room) [.ref (q 0), .int (nI kd), .int (nI nb), .int wr] (cyW q cI cZ n T k M d Z F) (fun (uw : (Nat → Int32)) => True) (fun uw => (cyW q cI cZ n T k M d (cx_u Z 1 uw) F)) := by
  refine cx_Mv.of (cc := cX7_mark) (maxL := 4) cx_NW_ok (by decide) rfl (Nat.le_of_ble_eq_true rfl) ?_
  intro p e s m args below meth c Q A ls hx hb hml hown hts hE RET hS hl
  have hl : lv_has ls 4 [(0, .ref (q 0)), (1, .int (nI kd)), (2, .int (nI nb)), (3, .int wr)] := hl
  have hown : s.vm.findClass RX7 = some m.cls := hown
  have hinX7 : ∀ w ∈ u_ws RX7 TX7 22, w ∈ wsX7_mark := cx_mem [2, 3, 4, 5, 6, 7, 8, 9, 10, 11, 12, 13, 14, 15, 16, 17, 18, 19, 20, 21, 22, 23] (by decide +kernel)
  refine lv_aload_n hx hb dX7_mark_0 rfl (lv_at hl 0 rfl) ?_
  refine cx_get (own := RX7) (index := 56) (C := RX7) (T := TX7) (N := 22) (k := 18) (ci := 7) (v := .ref (q 16)) hx hb hts hown hE hS hinX7 0 rfl rfl (by decide) (List.mem_of_getElem? (i := 1) rfl) rfl dX7_mark_1 ?_
  refine lv_bipush (v := nI 80) hx hb dX7_mark_4 (by decide) ?_
  refine lv_iload_n hx hb dX7_mark_6 rfl (lv_at hl 1 rfl) ?_
  refine lv_imul hx hb dX7_mark_7 ?_
  refine cx_topr (z := nI (80 * kd)) (pk_mul _ _) ?_
  refine lv_iload_n hx hb dX7_mark_8 rfl (lv_at hl 2 rfl) ?_
  refine lv_iadd hx hb dX7_mark_9 ?_
  refine cx_topr (z := nI (80 * kd + nb)) (nI_add _ _) ?_
  refine lv_aload_n hx hb dX7_mark_10 rfl (lv_at hl 0 rfl) ?_
  refine cx_get (own := RX7) (index := 56) (C := RX7) (T := TX7) (N := 22) (k := 18) (ci := 7) (v := .ref (q 16)) hx hb hts hown hE hS hinX7 0 rfl rfl (by decide) (List.mem_of_getElem? (i := 1) rfl) rfl dX7_mark_11 ?_
  refine lv_bipush (v := nI 80) hx hb dX7_mark_14 (by decide) ?_
  refine lv_iload_n hx hb dX7_mark_16 rfl (lv_at hl 1 rfl) ?_
  refine lv_imul hx hb dX7_mark_17 ?_
  refine cx_topr (z := nI (80 * kd)) (pk_mul _ _) ?_
  refine lv_iload_n hx hb dX7_mark_18 rfl (lv_at hl 2 rfl) ?_
  refine lv_iadd hx hb dX7_mark_19 ?_
  refine cx_topr (z := nI (80 * kd + nb)) (nI_add _ _) ?_
  refine cx_zald (f := (Z 1)) (n := 1600) (cA := cZ) hx hb hE hS 16 1 rfl rfl (by omega) (by decide) dX7_mark_20 ?_
  have J33 : ∀ (v33_s0 : Int32) (H : Heap) (locs : List Loc) (ls : Array Slot), cx_S D vwCl A s (cyW q cI cZ n T k M d Z F) H locs → lv_has ls 4 [(0, .ref (q 0)), (1, .int (nI kd)), (2, .int (nI nb)), (3, .int wr)] → W p l e ({ frames := 0, cells := 0, slots := 0, locals := 0 } : Room) s m args below meth c H locs 0 0 Q (F0 m 33 ls [.int v33_s0, .int (nI (80 * kd + nb)), .ref (q 16)]) := by
    intro v33_s0 H locs ls  hS hl
    refine cx_zast (k := 80 * kd + nb) (f := (Z 1)) (n := 1600) (cA := cZ) (ws' := (cyW q cI cZ n T k M d (cx_u Z 1 (upd (Z 1) (80 * kd + nb) (vp_nar .boolean v33_s0))) F)) hx hb hE hS 16 1 rfl rfl (by omega) (by decide) rfl dX7_mark_33 (fun H locs hS => ?_)
    exact RET (upd (Z 1) (80 * kd + nb) (vp_nar .boolean v33_s0)) _ _ _ _ dX7_mark_34 trivial hS
  have J28 : ∀ (H : Heap) (locs : List Loc) (ls : Array Slot), cx_S D vwCl A s (cyW q cI cZ n T k M d Z F) H locs → lv_has ls 4 [(0, .ref (q 0)), (1, .int (nI kd)), (2, .int (nI nb)), (3, .int wr)] → W p l e ({ frames := 0, cells := 0, slots := 0, locals := 0 } : Room) s m args below meth c H locs 0 0 Q (F0 m 28 ls [.int (nI (80 * kd + nb)), .ref (q 16)]) := by
    intro  H locs ls  hS hl
    refine lv_iconst (v := (1 : Int32)) hx hb dX7_mark_28 (by decide) ?_
    refine lv_goto (tgt := 33) hx hb dX7_mark_29 (by decide) ?_
    exact J33 (1 : Int32) _ _ _  hS (lv_sub hl [0, 1, 2, 3] rfl)
  refine lv_if_ne (tgt := 28) hx hb dX7_mark_21 (by decide) (fun h21 => ?_) (fun h21 => ?_)
  · skip
    exact J28  _ _ _  hS (lv_sub hl [0, 1, 2, 3] rfl)
  · skip
    refine lv_iload_n hx hb dX7_mark_24 rfl (lv_at hl 3 rfl) ?_
    refine lv_if_eq (tgt := 32) hx hb dX7_mark_25 (by decide) (fun h25 => ?_) (fun h25 => ?_)
    · skip
      refine lv_iconst (v := (0 : Int32)) hx hb dX7_mark_32 (by decide) ?_
      exact J33 (0 : Int32) _ _ _  hS (lv_sub hl [0, 1, 2, 3] rfl)
    · skip
      exact J28  _ _ _  hS (lv_sub hl [0, 1, 2, 3] rfl)
set_option maxHeartbeats 4000000 in
set_option maxRecDepth 100000 in
theorem c_X7_firstFaults (l : Launch) (D : va_G) (q : Nat → Nat) (cI cZ : ClassId) (n : Nat) (T : Nat → Nat → Int32) (k : Nat) (M : Nat → Nat → Int32) (d : Nat) (Z : Nat → Nat → Int32) (F : Nat → Nat → Int32) (t : Nat) (hn : n ≤ 20) (hP : cx_P (T 3) 20) (hU : cx_R (T 4) 20) (hV : cx_R (T 5) 4) (hKN : cx_KN n T (Z 0) ((Z 3) 0)) (hQ : cx_R (T 6) 20) (hW : cx_R (T 7) 4) (ht : t < 20) : cx_Mv l D vwCl [(cI, .int), (cZ, .boolean)] cx_NW yX7_firstFaults wsX7_firstFaults ({ frames := 3, cells := 0, slots := 0, locals := 66 } : Room) [.ref (q 0), .int (nI t)] (cyW q cI cZ n T k M d Z F) (fun (uw : (Nat → Int32) × (Int32) × (Nat → Int32)) => cx_KN n T uw.1 uw.2.1 ∧ (True)) (fun uw => (cyW q cI cZ n T k M d (cx_u (cx_u (cx_u Z 0 uw.1) 3 (fun _ => uw.2.1)) 1 uw.2.2) F)) := by
  refine cx_Mv.of (cc := cX7_firstFaults) (maxL := 5) cx_NW_ok (by decide) rfl (Nat.le_of_ble_eq_true rfl) ?_
  intro p e s m args below meth c Q A ls hx hb hml hown hts hE RET hS hl
  have hl : lv_has ls 5 [(0, .ref (q 0)), (1, .int (nI t))] := hl
  have hown : s.vm.findClass RX7 = some m.cls := hown
  have hinX7 : ∀ w ∈ u_ws RX7 TX7 22, w ∈ wsX7_firstFaults := cx_mem [27, 28, 29, 30, 31, 32, 33, 34, 35, 36, 37, 38, 39, 40, 41, 42, 43, 44, 45, 46, 47, 48] (by decide +kernel)
  refine lv_aload_n hx hb dX7_firstFaults_0 rfl (lv_at hl 0 rfl) ?_
  refine cx_cVv (As := []) (rest := []) ⟨hx, hb, hml, hown, hts⟩ hE hS (c_X7_know l D q cI cZ n T k M d Z F  (by first | assumption | omega) (by first | assumption | omega) (by first | assumption | omega) (by first | assumption | omega) (by first | assumption | omega)) (cwV 0 hts gX7_firstFaults_X7_know rfl rfl rfl (by decide +kernel) ⟨Nat.le_of_ble_eq_true rfl, Nat.le_of_ble_eq_true rfl⟩) 0 7 rfl rfl rfl hl.1 rfl (Nat.le_of_ble_eq_true rfl) ⟨Nat.zero_le _, Nat.zero_le _⟩ dX7_firstFaults_1 (fun u_1 H locs hp_1 hS => ?_)
  obtain ⟨za_1, kn_1⟩ := u_1
  have hS : cx_S D vwCl A s (cyW q cI cZ n T k M d (cx_u (cx_u Z 0 za_1) 3 (fun _ => kn_1)) F) H locs := hS
  obtain ⟨hKN_1, hp_1⟩ := hp_1
  have hKN_1 : cx_KN n T za_1 kn_1 := hKN_1
  have hp_1 : ∀ a u, a < n → u < n → (¬ za_1 (20 * a + u) = 0 ↔ (cx_w3 n (cx_Er T n) n) a u) := hp_1
  refine lv_iconst (v := (0 : Int32)) hx hb dX7_firstFaults_4 (by decide) ?_
  refine cx_topr (z := nI 0) (by decide) ?_
  refine lv_istore_n (lv' := [(2, .int (nI 0)), (0, .ref (q 0)), (1, .int (nI t))]) hx hb dX7_firstFaults_5 rfl hl (by decide) rfl (fun ls hl => ?_)
  have J6 : ∀ (N : Nat) (i6 : Nat) (Z_1_6 : Nat → Int32) (H : Heap) (locs : List Loc) (ls : Array Slot), (1600 - i6 < N) → (i6 ≤ 1600) → cx_S D vwCl A s (cyW q cI cZ n T k M d (cx_u (cx_u (cx_u Z 0 za_1) 3 (fun _ => kn_1)) 1 Z_1_6) F) H locs → lv_has ls 5 [(0, .ref (q 0)), (1, .int (nI t)), (2, .int (nI i6))] → W p l e ({ frames := 3, cells := 0, slots := 0, locals := 66 } : Room) s m args below meth c H locs 0 0 Q (F0 m 6 ls []) := by
    intro N6
    induction N6 with
    | zero => intro i6 Z_1_6 H locs ls hN; exact absurd hN (by omega)
    | succ N6 ih6 =>
      intro i6 Z_1_6 H locs ls hN6 hi6 hS hl
      refine lv_iload_n hx hb dX7_firstFaults_6 rfl (lv_at hl 2 rfl) ?_
      refine lv_sipush (v := nI 1600) hx hb dX7_firstFaults_7 (by decide) ?_
      refine lv_icmp_ge (tgt := 26) hx hb dX7_firstFaults_10 (by decide) (fun h10 => ?_) (fun h10 => ?_)
      · skip
        have g10 : 1600 ≤ i6 := (nI_leI (a := 1600) (b := i6) (by omega) (by omega)).mp h10
        refine lv_aload_n hx hb dX7_firstFaults_26 rfl (lv_at hl 0 rfl) ?_
        refine cx_get (own := RX7) (index := 19) (C := RX7) (T := TX7) (N := 22) (k := 4) (ci := 7) (v := .ref (q 4)) hx hb hts hown hE hS hinX7 0 rfl rfl (by decide) (List.mem_of_getElem? (i := 2) rfl) rfl dX7_firstFaults_27 ?_
        refine lv_iload_n hx hb dX7_firstFaults_30 rfl (lv_at hl 1 rfl) ?_
        refine cx_iald (f := (T 3)) (n := 20) (cA := cI) hx hb hE hS 4 0 rfl rfl (by omega) (by decide) dX7_firstFaults_31 ?_
        refine lv_istore_n (lv' := [(2, .int ((T 3) t)), (0, .ref (q 0)), (1, .int (nI t))]) hx hb dX7_firstFaults_32 rfl hl (by decide) rfl (fun ls hl => ?_)
        refine lv_iload_n hx hb dX7_firstFaults_33 rfl (lv_at hl 0 rfl) ?_
        have J93 : ∀ (Z_1_93 : Nat → Int32) (H : Heap) (locs : List Loc) (ls : Array Slot), cx_S D vwCl A s (cyW q cI cZ n T k M d (cx_u (cx_u (cx_u Z 0 za_1) 3 (fun _ => kn_1)) 1 Z_1_93) F) H locs → lv_has ls 5 [(0, .ref (q 0)), (1, .int (nI t)), (2, .int ((T 3) t))] → W p l e ({ frames := 3, cells := 0, slots := 0, locals := 66 } : Room) s m args below meth c H locs 0 0 Q (F0 m 93 ls []) := by
          intro Z_1_93 H locs ls  hS hl
          refine lv_iconst (v := (0 : Int32)) hx hb dX7_firstFaults_93 (by decide) ?_
          refine cx_topr (z := nI 0) (by decide) ?_
          refine lv_istore_n (lv' := [(3, .int (nI 0)), (0, .ref (q 0)), (1, .int (nI t)), (2, .int ((T 3) t))]) hx hb dX7_firstFaults_94 rfl hl (by decide) rfl (fun ls hl => ?_)
          have J95 : ∀ (N : Nat) (i95 : Nat) (Z_1_95 : Nat → Int32) (H : Heap) (locs : List Loc) (ls : Array Slot), (((T 5) t).toNatClampNeg - i95 < N) → (i95 ≤ ((T 5) t).toNatClampNeg) → cx_S D vwCl A s (cyW q cI cZ n T k M d (cx_u (cx_u (cx_u Z 0 za_1) 3 (fun _ => kn_1)) 1 Z_1_95) F) H locs → lv_has ls 5 [(0, .ref (q 0)), (1, .int (nI t)), (2, .int ((T 3) t)), (3, .int (nI i95))] → W p l e ({ frames := 3, cells := 0, slots := 0, locals := 66 } : Room) s m args below meth c H locs 0 0 Q (F0 m 95 ls []) := by
            intro N95
            induction N95 with
            | zero => intro i95 Z_1_95 H locs ls hN; exact absurd hN (by omega)
            | succ N95 ih95 =>
              intro i95 Z_1_95 H locs ls hN95 hi95 hS hl
              refine lv_iload_n hx hb dX7_firstFaults_95 rfl (lv_at hl 3 rfl) ?_
              refine lv_aload_n hx hb dX7_firstFaults_96 rfl (lv_at hl 0 rfl) ?_
              refine cx_get (own := RX7) (index := 25) (C := RX7) (T := TX7) (N := 22) (k := 6) (ci := 7) (v := .ref (q 6)) hx hb hts hown hE hS hinX7 0 rfl rfl (by decide) (List.mem_of_getElem? (i := 5) rfl) rfl dX7_firstFaults_97 ?_
              refine lv_iload_n hx hb dX7_firstFaults_100 rfl (lv_at hl 1 rfl) ?_
              refine cx_iald (f := (T 5)) (n := 20) (cA := cI) hx hb hE hS 6 0 rfl rfl (by omega) (by decide) dX7_firstFaults_101 ?_
              have ho101 := (hV t).2
              refine cx_topr (z := nI (((T 5) t).toNatClampNeg)) (hV t).1 ?_
              refine lv_icmp_ge (tgt := 176) hx hb dX7_firstFaults_102 (by decide) (fun h102 => ?_) (fun h102 => ?_)
              · skip
                have g102 : (((T 5) t).toNatClampNeg) ≤ i95 := (nI_leI (a := ((T 5) t).toNatClampNeg) (b := i95) (by omega) (by omega)).mp h102
                refine lv_iconst (v := (0 : Int32)) hx hb dX7_firstFaults_176 (by decide) ?_
                refine cx_topr (z := nI 0) (by decide) ?_
                refine lv_istore_n (lv' := [(3, .int (nI 0)), (0, .ref (q 0)), (1, .int (nI t)), (2, .int ((T 3) t))]) hx hb dX7_firstFaults_177 rfl hl (by decide) rfl (fun ls hl => ?_)
                have J178 : ∀ (N : Nat) (i178 : Nat) (Z_1_178 : Nat → Int32) (H : Heap) (locs : List Loc) (ls : Array Slot), (((T 7) t).toNatClampNeg - i178 < N) → (i178 ≤ ((T 7) t).toNatClampNeg) → cx_S D vwCl A s (cyW q cI cZ n T k M d (cx_u (cx_u (cx_u Z 0 za_1) 3 (fun _ => kn_1)) 1 Z_1_178) F) H locs → lv_has ls 5 [(0, .ref (q 0)), (1, .int (nI t)), (2, .int ((T 3) t)), (3, .int (nI i178))] → W p l e ({ frames := 3, cells := 0, slots := 0, locals := 66 } : Room) s m args below meth c H locs 0 0 Q (F0 m 178 ls []) := by
                  intro N178
                  induction N178 with
                  | zero => intro i178 Z_1_178 H locs ls hN; exact absurd hN (by omega)
                  | succ N178 ih178 =>
                    intro i178 Z_1_178 H locs ls hN178 hi178 hS hl
                    refine lv_iload_n hx hb dX7_firstFaults_178 rfl (lv_at hl 3 rfl) ?_
                    refine lv_aload_n hx hb dX7_firstFaults_179 rfl (lv_at hl 0 rfl) ?_
                    refine cx_get (own := RX7) (index := 31) (C := RX7) (T := TX7) (N := 22) (k := 8) (ci := 7) (v := .ref (q 8)) hx hb hts hown hE hS hinX7 0 rfl rfl (by decide) (List.mem_of_getElem? (i := 7) rfl) rfl dX7_firstFaults_180 ?_
                    refine lv_iload_n hx hb dX7_firstFaults_183 rfl (lv_at hl 1 rfl) ?_
                    refine cx_iald (f := (T 7)) (n := 20) (cA := cI) hx hb hE hS 8 0 rfl rfl (by omega) (by decide) dX7_firstFaults_184 ?_
                    have ho184 := (hW t).2
                    refine cx_topr (z := nI (((T 7) t).toNatClampNeg)) (hW t).1 ?_
                    refine lv_icmp_ge (tgt := 231) hx hb dX7_firstFaults_185 (by decide) (fun h185 => ?_) (fun h185 => ?_)
                    · skip
                      have g185 : (((T 7) t).toNatClampNeg) ≤ i178 := (nI_leI (a := ((T 7) t).toNatClampNeg) (b := i178) (by omega) (by omega)).mp h185
                      refine lv_aload_n hx hb dX7_firstFaults_231 rfl (lv_at hl 0 rfl) ?_
                      refine lv_iconst (v := nI 2) hx hb dX7_firstFaults_232 (by decide) ?_
                      refine lv_iload_n hx hb dX7_firstFaults_233 rfl (lv_at hl 1 rfl) ?_
                      refine lv_aload_n hx hb dX7_firstFaults_234 rfl (lv_at hl 0 rfl) ?_
                      refine cx_get (own := RX7) (index := 52) (C := RX7) (T := TX7) (N := 22) (k := 16) (ci := 7) (v := .ref (q 15)) hx hb hts hown hE hS hinX7 0 rfl rfl (by decide) (List.mem_of_getElem? (i := 9) rfl) rfl dX7_firstFaults_235 ?_
                      refine lv_bipush (v := nI 20) hx hb dX7_firstFaults_238 (by decide) ?_
                      refine lv_iload_n hx hb dX7_firstFaults_240 rfl (lv_at hl 1 rfl) ?_
                      refine lv_imul hx hb dX7_firstFaults_241 ?_
                      refine cx_topr (z := nI (20 * t)) (pk_mul _ _) ?_
                      refine lv_iload_n hx hb dX7_firstFaults_242 rfl (lv_at hl 1 rfl) ?_
                      refine lv_iadd hx hb dX7_firstFaults_243 ?_
                      refine cx_topr (z := nI (20 * t + t)) (nI_add _ _) ?_
                      refine cx_zald (f := za_1) (n := 400) (cA := cZ) hx hb hE hS 15 1 rfl rfl (by omega) (by decide) dX7_firstFaults_244 ?_
                      refine cx_cVv (As := [.int (nI 2), .int (nI t), .int (za_1 (20 * t + t))]) (rest := []) ⟨hx, hb, hml, hown, hts⟩ hE hS (c_X7_mark l D q cI cZ n T k M d (cx_u (cx_u (cx_u Z 0 za_1) 3 (fun _ => kn_1)) 1 Z_1_178) F 2 t (za_1 (20 * t + t)) (by first | assumption | omega) (by first | assumption | omega)) (cwV 3 hts gX7_firstFaults_X7_mark rfl rfl rfl (by decide +kernel) ⟨Nat.le_of_ble_eq_true rfl, Nat.le_of_ble_eq_true rfl⟩) 0 7 rfl rfl rfl hl.1 rfl (Nat.le_of_ble_eq_true rfl) ⟨Nat.zero_le _, Nat.zero_le _⟩ dX7_firstFaults_245 (fun u_245 H locs hp_245 hS => ?_)
                      obtain ⟨zf_245, rfl⟩ : ∃ z, z = u_245 := ⟨_, rfl⟩
                      have hS : cx_S D vwCl A s (cyW q cI cZ n T k M d (cx_u (cx_u (cx_u Z 0 za_1) 3 (fun _ => kn_1)) 1 zf_245) F) H locs := hS
                      exact RET (za_1, kn_1, zf_245) _ _ _ _ dX7_firstFaults_248 (⟨(by first | assumption | exact hKN), trivial⟩) hS
                    · skip
                      have g185 : ¬ ((((T 7) t).toNatClampNeg) ≤ i178) := fun z => h185 ((nI_leI (a := ((T 7) t).toNatClampNeg) (b := i178) (by omega) (by omega)).mpr z)
                      refine lv_aload_n hx hb dX7_firstFaults_188 rfl (lv_at hl 0 rfl) ?_
                      refine lv_iconst (v := (1 : Int32)) hx hb dX7_firstFaults_189 (by decide) ?_
                      refine lv_aload_n hx hb dX7_firstFaults_190 rfl (lv_at hl 0 rfl) ?_
                      refine cx_get (own := RX7) (index := 28) (C := RX7) (T := TX7) (N := 22) (k := 7) (ci := 7) (v := .ref (q 7)) hx hb hts hown hE hS hinX7 0 rfl rfl (by decide) (List.mem_of_getElem? (i := 8) rfl) rfl dX7_firstFaults_191 ?_
                      refine lv_iconst (v := nI 3) hx hb dX7_firstFaults_194 (by decide) ?_
                      refine lv_iload_n hx hb dX7_firstFaults_195 rfl (lv_at hl 1 rfl) ?_
                      refine lv_imul hx hb dX7_firstFaults_196 ?_
                      refine cx_topr (z := nI (3 * t)) (pk_mul _ _) ?_
                      refine lv_iload_n hx hb dX7_firstFaults_197 rfl (lv_at hl 3 rfl) ?_
                      refine lv_iadd hx hb dX7_firstFaults_198 ?_
                      refine cx_topr (z := nI (3 * t + i178)) (nI_add _ _) ?_
                      refine cx_iald (f := (T 6)) (n := 60) (cA := cI) hx hb hE hS 7 0 rfl rfl (by omega) (by decide) dX7_firstFaults_199 ?_
                      have ho199 := (hQ (3 * t + i178)).2
                      refine cx_topr (z := nI (((T 6) (3 * t + i178)).toNatClampNeg)) (hQ (3 * t + i178)).1 ?_
                      refine lv_aload_n hx hb dX7_firstFaults_200 rfl (lv_at hl 0 rfl) ?_
                      refine cx_get (own := RX7) (index := 28) (C := RX7) (T := TX7) (N := 22) (k := 7) (ci := 7) (v := .ref (q 7)) hx hb hts hown hE hS hinX7 0 rfl rfl (by decide) (List.mem_of_getElem? (i := 8) rfl) rfl dX7_firstFaults_201 ?_
                      refine lv_iconst (v := nI 3) hx hb dX7_firstFaults_204 (by decide) ?_
                      refine lv_iload_n hx hb dX7_firstFaults_205 rfl (lv_at hl 1 rfl) ?_
                      refine lv_imul hx hb dX7_firstFaults_206 ?_
                      refine cx_topr (z := nI (3 * t)) (pk_mul _ _) ?_
                      refine lv_iload_n hx hb dX7_firstFaults_207 rfl (lv_at hl 3 rfl) ?_
                      refine lv_iadd hx hb dX7_firstFaults_208 ?_
                      refine cx_topr (z := nI (3 * t + i178)) (nI_add _ _) ?_
                      refine cx_iald (f := (T 6)) (n := 60) (cA := cI) hx hb hE hS 7 0 rfl rfl (by omega) (by decide) dX7_firstFaults_209 ?_
                      have ho209 := (hQ (3 * t + i178)).2
                      refine cx_topr (z := nI (((T 6) (3 * t + i178)).toNatClampNeg)) (hQ (3 * t + i178)).1 ?_
                      refine lv_aload_n hx hb dX7_firstFaults_210 rfl (lv_at hl 0 rfl) ?_
                      refine cx_get (own := RX7) (index := 65) (C := RX7) (T := TX7) (N := 22) (k := 0) (ci := 7) (v := .int (nI n)) hx hb hts hown hE hS hinX7 0 rfl rfl (by decide) (List.mem_of_getElem? (i := 3) rfl) rfl dX7_firstFaults_211 ?_
                      have J222 : ∀ (v222_s0 : Int32) (H : Heap) (locs : List Loc) (ls : Array Slot), cx_S D vwCl A s (cyW q cI cZ n T k M d (cx_u (cx_u (cx_u Z 0 za_1) 3 (fun _ => kn_1)) 1 Z_1_178) F) H locs → lv_has ls 5 [(0, .ref (q 0)), (1, .int (nI t)), (2, .int ((T 3) t)), (3, .int (nI i178))] → W p l e ({ frames := 3, cells := 0, slots := 0, locals := 66 } : Room) s m args below meth c H locs 0 0 Q (F0 m 222 ls [.int v222_s0, .int (nI (((T 6) (3 * t + i178)).toNatClampNeg)), .int (1 : Int32), .ref (q 0)]) := by
                        intro v222_s0 H locs ls  hS hl
                        refine cx_cVv (As := [.int (1 : Int32), .int (nI (((T 6) (3 * t + i178)).toNatClampNeg)), .int v222_s0]) (rest := []) ⟨hx, hb, hml, hown, hts⟩ hE hS (c_X7_mark l D q cI cZ n T k M d (cx_u (cx_u (cx_u Z 0 za_1) 3 (fun _ => kn_1)) 1 Z_1_178) F 1 (((T 6) (3 * t + i178)).toNatClampNeg) v222_s0 (by first | assumption | omega) (by first | assumption | omega)) (cwV 3 hts gX7_firstFaults_X7_mark rfl rfl rfl (by decide +kernel) ⟨Nat.le_of_ble_eq_true rfl, Nat.le_of_ble_eq_true rfl⟩) 0 7 rfl rfl rfl hl.1 rfl (Nat.le_of_ble_eq_true rfl) ⟨Nat.zero_le _, Nat.zero_le _⟩ dX7_firstFaults_222 (fun u_222 H locs hp_222 hS => ?_)
                        obtain ⟨zf_222, rfl⟩ : ∃ z, z = u_222 := ⟨_, rfl⟩
                        have hS : cx_S D vwCl A s (cyW q cI cZ n T k M d (cx_u (cx_u (cx_u Z 0 za_1) 3 (fun _ => kn_1)) 1 zf_222) F) H locs := hS
                        refine lv_iinc (v := nI (i178 + 1)) (lv' := [(3, .int (nI (i178 + 1))), (0, .ref (q 0)), (1, .int (nI t)), (2, .int ((T 3) t))]) hx hb dX7_firstFaults_225 hl (k := 3) rfl (cx_inc _) (by decide) rfl (fun ls hl => ?_)
                        refine lv_goto (tgt := 178) hx hb dX7_firstFaults_228 (by decide) ?_
                        exact ih178 (i178 + 1) zf_222 _ _ _ (by omega) (by omega) hS (lv_sub hl [1, 2, 3, 0] rfl)
                      refine lv_icmp_lt (tgt := 221) hx hb dX7_firstFaults_214 (by decide) (fun h214 => ?_) (fun h214 => ?_)
                      · skip
                        have g214 : (((T 6) (3 * t + i178)).toNatClampNeg) < n := (nI_ltI (a := ((T 6) (3 * t + i178)).toNatClampNeg) (b := n) (by omega) (by omega)).mp h214
                        refine lv_iconst (v := (0 : Int32)) hx hb dX7_firstFaults_221 (by decide) ?_
                        exact J222 (0 : Int32) _ _ _  hS (lv_sub hl [0, 1, 2, 3] rfl)
                      · skip
                        have g214 : ¬ ((((T 6) (3 * t + i178)).toNatClampNeg) < n) := fun z => h214 ((nI_ltI (a := ((T 6) (3 * t + i178)).toNatClampNeg) (b := n) (by omega) (by omega)).mpr z)
                        refine lv_iconst (v := (1 : Int32)) hx hb dX7_firstFaults_217 (by decide) ?_
                        refine lv_goto (tgt := 222) hx hb dX7_firstFaults_218 (by decide) ?_
                        exact J222 (1 : Int32) _ _ _  hS (lv_sub hl [0, 1, 2, 3] rfl)
                exact J178 (((T 7) t).toNatClampNeg - 0 + 1) 0 Z_1_95 _ _ _ (Nat.lt_succ_self _) (by omega) hS (lv_sub hl [1, 2, 3, 0] rfl)
              · skip
                have g102 : ¬ ((((T 5) t).toNatClampNeg) ≤ i95) := fun z => h102 ((nI_leI (a := ((T 5) t).toNatClampNeg) (b := i95) (by omega) (by omega)).mpr z)
                refine lv_aload_n hx hb dX7_firstFaults_105 rfl (lv_at hl 0 rfl) ?_
                refine cx_get (own := RX7) (index := 22) (C := RX7) (T := TX7) (N := 22) (k := 5) (ci := 7) (v := .ref (q 5)) hx hb hts hown hE hS hinX7 0 rfl rfl (by decide) (List.mem_of_getElem? (i := 6) rfl) rfl dX7_firstFaults_106 ?_
                refine lv_iconst (v := nI 3) hx hb dX7_firstFaults_109 (by decide) ?_
                refine lv_iload_n hx hb dX7_firstFaults_110 rfl (lv_at hl 1 rfl) ?_
                refine lv_imul hx hb dX7_firstFaults_111 ?_
                refine cx_topr (z := nI (3 * t)) (pk_mul _ _) ?_
                refine lv_iload_n hx hb dX7_firstFaults_112 rfl (lv_at hl 3 rfl) ?_
                refine lv_iadd hx hb dX7_firstFaults_113 ?_
                refine cx_topr (z := nI (3 * t + i95)) (nI_add _ _) ?_
                refine cx_iald (f := (T 4)) (n := 60) (cA := cI) hx hb hE hS 5 0 rfl rfl (by omega) (by decide) dX7_firstFaults_114 ?_
                have ho114 := (hU (3 * t + i95)).2
                refine cx_topr (z := nI (((T 4) (3 * t + i95)).toNatClampNeg)) (hU (3 * t + i95)).1 ?_
                refine lv_istore (lv' := [(4, .int (nI (((T 4) (3 * t + i95)).toNatClampNeg))), (0, .ref (q 0)), (1, .int (nI t)), (2, .int ((T 3) t)), (3, .int (nI i95))]) hx hb dX7_firstFaults_115 hl (by decide) rfl (fun ls hl => ?_)
                refine lv_aload_n hx hb dX7_firstFaults_117 rfl (lv_at hl 1 rfl) ?_
                refine lv_iconst (v := (1 : Int32)) hx hb dX7_firstFaults_118 (by decide) ?_
                refine lv_iload hx hb dX7_firstFaults_119 (lv_at hl 0 rfl) ?_
                refine lv_iload hx hb dX7_firstFaults_121 (lv_at hl 0 rfl) ?_
                refine lv_aload_n hx hb dX7_firstFaults_123 rfl (lv_at hl 1 rfl) ?_
                refine cx_get (own := RX7) (index := 65) (C := RX7) (T := TX7) (N := 22) (k := 0) (ci := 7) (v := .int (nI n)) hx hb hts hown hE hS hinX7 0 rfl rfl (by decide) (List.mem_of_getElem? (i := 3) rfl) rfl dX7_firstFaults_124 ?_
                have J135 : ∀ (v135_s0 : Int32) (H : Heap) (locs : List Loc) (ls : Array Slot), cx_S D vwCl A s (cyW q cI cZ n T k M d (cx_u (cx_u (cx_u Z 0 za_1) 3 (fun _ => kn_1)) 1 Z_1_95) F) H locs → lv_has ls 5 [(0, .ref (q 0)), (1, .int (nI t)), (2, .int ((T 3) t)), (3, .int (nI i95)), (4, .int (nI (((T 4) (3 * t + i95)).toNatClampNeg)))] → W p l e ({ frames := 3, cells := 0, slots := 0, locals := 66 } : Room) s m args below meth c H locs 0 0 Q (F0 m 135 ls [.int v135_s0, .int (nI (((T 4) (3 * t + i95)).toNatClampNeg)), .int (1 : Int32), .ref (q 0)]) := by
                  intro v135_s0 H locs ls  hS hl
                  refine cx_cVv (As := [.int (1 : Int32), .int (nI (((T 4) (3 * t + i95)).toNatClampNeg)), .int v135_s0]) (rest := []) ⟨hx, hb, hml, hown, hts⟩ hE hS (c_X7_mark l D q cI cZ n T k M d (cx_u (cx_u (cx_u Z 0 za_1) 3 (fun _ => kn_1)) 1 Z_1_95) F 1 (((T 4) (3 * t + i95)).toNatClampNeg) v135_s0 (by first | assumption | omega) (by first | assumption | omega)) (cwV 3 hts gX7_firstFaults_X7_mark rfl rfl rfl (by decide +kernel) ⟨Nat.le_of_ble_eq_true rfl, Nat.le_of_ble_eq_true rfl⟩) 0 7 rfl rfl rfl hl.1 rfl (Nat.le_of_ble_eq_true rfl) ⟨Nat.zero_le _, Nat.zero_le _⟩ dX7_firstFaults_135 (fun u_135 H locs hp_135 hS => ?_)
                  obtain ⟨zf_135, rfl⟩ : ∃ z, z = u_135 := ⟨_, rfl⟩
                  have hS : cx_S D vwCl A s (cyW q cI cZ n T k M d (cx_u (cx_u (cx_u Z 0 za_1) 3 (fun _ => kn_1)) 1 zf_135) F) H locs := hS
                  refine lv_aload_n hx hb dX7_firstFaults_138 rfl (lv_at hl 0 rfl) ?_
                  refine lv_iconst (v := nI 3) hx hb dX7_firstFaults_139 (by decide) ?_
                  refine lv_iload hx hb dX7_firstFaults_140 (lv_at hl 4 rfl) ?_
                  refine lv_iload hx hb dX7_firstFaults_142 (lv_at hl 4 rfl) ?_
                  refine lv_aload_n hx hb dX7_firstFaults_144 rfl (lv_at hl 0 rfl) ?_
                  refine cx_get (own := RX7) (index := 65) (C := RX7) (T := TX7) (N := 22) (k := 0) (ci := 7) (v := .int (nI n)) hx hb hts hown hE hS hinX7 0 rfl rfl (by decide) (List.mem_of_getElem? (i := 3) rfl) rfl dX7_firstFaults_145 ?_
                  have J167 : ∀ (v167_s0 : Int32) (H : Heap) (locs : List Loc) (ls : Array Slot), cx_S D vwCl A s (cyW q cI cZ n T k M d (cx_u (cx_u (cx_u Z 0 za_1) 3 (fun _ => kn_1)) 1 zf_135) F) H locs → lv_has ls 5 [(0, .ref (q 0)), (1, .int (nI t)), (2, .int ((T 3) t)), (3, .int (nI i95)), (4, .int (nI (((T 4) (3 * t + i95)).toNatClampNeg)))] → W p l e ({ frames := 3, cells := 0, slots := 0, locals := 66 } : Room) s m args below meth c H locs 0 0 Q (F0 m 167 ls [.int v167_s0, .int (nI (((T 4) (3 * t + i95)).toNatClampNeg)), .int (nI 3), .ref (q 0)]) := by
                    intro v167_s0 H locs ls  hS hl
                    refine cx_cVv (As := [.int (nI 3), .int (nI (((T 4) (3 * t + i95)).toNatClampNeg)), .int v167_s0]) (rest := []) ⟨hx, hb, hml, hown, hts⟩ hE hS (c_X7_mark l D q cI cZ n T k M d (cx_u (cx_u (cx_u Z 0 za_1) 3 (fun _ => kn_1)) 1 zf_135) F 3 (((T 4) (3 * t + i95)).toNatClampNeg) v167_s0 (by first | assumption | omega) (by first | assumption | omega)) (cwV 3 hts gX7_firstFaults_X7_mark rfl rfl rfl (by decide +kernel) ⟨Nat.le_of_ble_eq_true rfl, Nat.le_of_ble_eq_true rfl⟩) 0 7 rfl rfl rfl hl.1 rfl (Nat.le_of_ble_eq_true rfl) ⟨Nat.zero_le _, Nat.zero_le _⟩ dX7_firstFaults_167 (fun u_167 H locs hp_167 hS => ?_)
                    obtain ⟨zf_167, rfl⟩ : ∃ z, z = u_167 := ⟨_, rfl⟩
                    have hS : cx_S D vwCl A s (cyW q cI cZ n T k M d (cx_u (cx_u (cx_u Z 0 za_1) 3 (fun _ => kn_1)) 1 zf_167) F) H locs := hS
                    refine lv_iinc (v := nI (i95 + 1)) (lv' := [(3, .int (nI (i95 + 1))), (0, .ref (q 0)), (1, .int (nI t)), (2, .int ((T 3) t)), (4, .int (nI (((T 4) (3 * t + i95)).toNatClampNeg)))]) hx hb dX7_firstFaults_170 hl (k := 3) rfl (cx_inc _) (by decide) rfl (fun ls hl => ?_)
                    refine lv_goto (tgt := 95) hx hb dX7_firstFaults_173 (by decide) ?_
                    exact ih95 (i95 + 1) zf_167 _ _ _ (by omega) (by omega) hS (lv_sub hl [1, 2, 3, 0] rfl)
                  have J166 : ∀ (H : Heap) (locs : List Loc) (ls : Array Slot), cx_S D vwCl A s (cyW q cI cZ n T k M d (cx_u (cx_u (cx_u Z 0 za_1) 3 (fun _ => kn_1)) 1 zf_135) F) H locs → lv_has ls 5 [(0, .ref (q 0)), (1, .int (nI t)), (2, .int ((T 3) t)), (3, .int (nI i95)), (4, .int (nI (((T 4) (3 * t + i95)).toNatClampNeg)))] → W p l e ({ frames := 3, cells := 0, slots := 0, locals := 66 } : Room) s m args below meth c H locs 0 0 Q (F0 m 166 ls [.int (nI (((T 4) (3 * t + i95)).toNatClampNeg)), .int (nI 3), .ref (q 0)]) := by
                    intro  H locs ls  hS hl
                    refine lv_iconst (v := (0 : Int32)) hx hb dX7_firstFaults_166 (by decide) ?_
                    exact J167 (0 : Int32) _ _ _  hS (lv_sub hl [0, 1, 2, 3, 4] rfl)
                  refine lv_icmp_ge (tgt := 166) hx hb dX7_firstFaults_148 (by decide) (fun h148 => ?_) (fun h148 => ?_)
                  · skip
                    have g148 : n ≤ (((T 4) (3 * t + i95)).toNatClampNeg) := (nI_leI (a := n) (b := ((T 4) (3 * t + i95)).toNatClampNeg) (by omega) (by omega)).mp h148
                    exact J166  _ _ _  hS (lv_sub hl [0, 1, 2, 3, 4] rfl)
                  · skip
                    have g148 : ¬ (n ≤ (((T 4) (3 * t + i95)).toNatClampNeg)) := fun z => h148 ((nI_leI (a := n) (b := ((T 4) (3 * t + i95)).toNatClampNeg) (by omega) (by omega)).mpr z)
                    refine lv_aload_n hx hb dX7_firstFaults_151 rfl (lv_at hl 0 rfl) ?_
                    refine cx_get (own := RX7) (index := 7) (C := RX7) (T := TX7) (N := 22) (k := 1) (ci := 7) (v := .ref (q 1)) hx hb hts hown hE hS hinX7 0 rfl rfl (by decide) (List.mem_of_getElem? (i := 4) rfl) rfl dX7_firstFaults_152 ?_
                    refine lv_iload hx hb dX7_firstFaults_155 (lv_at hl 4 rfl) ?_
                    refine cx_iald (f := (T 0)) (n := 20) (cA := cI) hx hb hE hS 1 0 rfl rfl (by omega) (by decide) dX7_firstFaults_157 ?_
                    refine lv_iconst (v := (1 : Int32)) hx hb dX7_firstFaults_158 (by decide) ?_
                    refine lv_icmp_eq (tgt := 166) hx hb dX7_firstFaults_159 (by decide) (fun h159 => ?_) (fun h159 => ?_)
                    · skip
                      exact J166  _ _ _  hS (lv_sub hl [0, 1, 2, 3, 4] rfl)
                    · skip
                      refine lv_iconst (v := (1 : Int32)) hx hb dX7_firstFaults_162 (by decide) ?_
                      refine lv_goto (tgt := 167) hx hb dX7_firstFaults_163 (by decide) ?_
                      exact J167 (1 : Int32) _ _ _  hS (lv_sub hl [0, 1, 2, 3, 4] rfl)
                refine lv_icmp_lt (tgt := 134) hx hb dX7_firstFaults_127 (by decide) (fun h127 => ?_) (fun h127 => ?_)
                · skip
                  have g127 : (((T 4) (3 * t + i95)).toNatClampNeg) < n := (nI_ltI (a := ((T 4) (3 * t + i95)).toNatClampNeg) (b := n) (by omega) (by omega)).mp h127
                  refine lv_iconst (v := (0 : Int32)) hx hb dX7_firstFaults_134 (by decide) ?_
                  exact J135 (0 : Int32) _ _ _  hS (lv_sub hl [1, 2, 3, 4, 0] rfl)
                · skip
                  have g127 : ¬ ((((T 4) (3 * t + i95)).toNatClampNeg) < n) := fun z => h127 ((nI_ltI (a := ((T 4) (3 * t + i95)).toNatClampNeg) (b := n) (by omega) (by omega)).mpr z)
                  refine lv_iconst (v := (1 : Int32)) hx hb dX7_firstFaults_130 (by decide) ?_
                  refine lv_goto (tgt := 135) hx hb dX7_firstFaults_131 (by decide) ?_
                  exact J135 (1 : Int32) _ _ _  hS (lv_sub hl [1, 2, 3, 4, 0] rfl)
          exact J95 (((T 5) t).toNatClampNeg - 0 + 1) 0 Z_1_93 _ _ _ (Nat.lt_succ_self _) (by omega) hS (lv_sub hl [1, 2, 3, 0] rfl)
        refine lv_if_lt (tgt := 93) hx hb dX7_firstFaults_34 (by decide) (fun h34 => ?_) (fun h34 => ?_)
        · skip
          exact J93 Z_1_6 _ _ _  hS (lv_sub hl [1, 2, 0] rfl)
        · skip
          have hq34 := cx_pp (hP t) h34
          have hq35 := hq34.2
          refine lv_aload_n hx hb dX7_firstFaults_37 rfl (lv_at hl 1 rfl) ?_
          refine lv_iconst (v := (1 : Int32)) hx hb dX7_firstFaults_38 (by decide) ?_
          refine lv_iload_n hx hb dX7_firstFaults_39 rfl (lv_at hl 0 rfl) ?_
          refine cx_topr (z := nI (((T 3) t).toNatClampNeg)) hq34.1 ?_
          refine lv_iload_n hx hb dX7_firstFaults_40 rfl (lv_at hl 0 rfl) ?_
          refine lv_aload_n hx hb dX7_firstFaults_41 rfl (lv_at hl 1 rfl) ?_
          refine cx_get (own := RX7) (index := 65) (C := RX7) (T := TX7) (N := 22) (k := 0) (ci := 7) (v := .int (nI n)) hx hb hts hown hE hS hinX7 0 rfl rfl (by decide) (List.mem_of_getElem? (i := 3) rfl) rfl dX7_firstFaults_42 ?_
          have J53 : ∀ (v53_s0 : Int32) (H : Heap) (locs : List Loc) (ls : Array Slot), cx_S D vwCl A s (cyW q cI cZ n T k M d (cx_u (cx_u (cx_u Z 0 za_1) 3 (fun _ => kn_1)) 1 Z_1_6) F) H locs → lv_has ls 5 [(0, .ref (q 0)), (1, .int (nI t)), (2, .int ((T 3) t))] → W p l e ({ frames := 3, cells := 0, slots := 0, locals := 66 } : Room) s m args below meth c H locs 0 0 Q (F0 m 53 ls [.int v53_s0, .int (nI (((T 3) t).toNatClampNeg)), .int (1 : Int32), .ref (q 0)]) := by
            intro v53_s0 H locs ls  hS hl
            refine cx_cVv (As := [.int (1 : Int32), .int (nI (((T 3) t).toNatClampNeg)), .int v53_s0]) (rest := []) ⟨hx, hb, hml, hown, hts⟩ hE hS (c_X7_mark l D q cI cZ n T k M d (cx_u (cx_u (cx_u Z 0 za_1) 3 (fun _ => kn_1)) 1 Z_1_6) F 1 (((T 3) t).toNatClampNeg) v53_s0 (by first | assumption | omega) (by first | assumption | omega)) (cwV 3 hts gX7_firstFaults_X7_mark rfl rfl rfl (by decide +kernel) ⟨Nat.le_of_ble_eq_true rfl, Nat.le_of_ble_eq_true rfl⟩) 0 7 rfl rfl rfl hl.1 rfl (Nat.le_of_ble_eq_true rfl) ⟨Nat.zero_le _, Nat.zero_le _⟩ dX7_firstFaults_53 (fun u_53 H locs hp_53 hS => ?_)
            obtain ⟨zf_53, rfl⟩ : ∃ z, z = u_53 := ⟨_, rfl⟩
            have hS : cx_S D vwCl A s (cyW q cI cZ n T k M d (cx_u (cx_u (cx_u Z 0 za_1) 3 (fun _ => kn_1)) 1 zf_53) F) H locs := hS
            refine lv_aload_n hx hb dX7_firstFaults_56 rfl (lv_at hl 0 rfl) ?_
            refine lv_iconst (v := nI 3) hx hb dX7_firstFaults_57 (by decide) ?_
            refine lv_iload_n hx hb dX7_firstFaults_58 rfl (lv_at hl 2 rfl) ?_
            refine cx_topr (z := nI (((T 3) t).toNatClampNeg)) hq34.1 ?_
            refine lv_aload_n hx hb dX7_firstFaults_59 rfl (lv_at hl 0 rfl) ?_
            refine cx_get (own := RX7) (index := 7) (C := RX7) (T := TX7) (N := 22) (k := 1) (ci := 7) (v := .ref (q 1)) hx hb hts hown hE hS hinX7 0 rfl rfl (by decide) (List.mem_of_getElem? (i := 4) rfl) rfl dX7_firstFaults_60 ?_
            refine lv_iload_n hx hb dX7_firstFaults_63 rfl (lv_at hl 1 rfl) ?_
            refine cx_iald (f := (T 0)) (n := 20) (cA := cI) hx hb hE hS 1 0 rfl rfl (by omega) (by decide) dX7_firstFaults_64 ?_
            have J90 : ∀ (v90_s0 : Int32) (H : Heap) (locs : List Loc) (ls : Array Slot), cx_S D vwCl A s (cyW q cI cZ n T k M d (cx_u (cx_u (cx_u Z 0 za_1) 3 (fun _ => kn_1)) 1 zf_53) F) H locs → lv_has ls 5 [(0, .ref (q 0)), (1, .int (nI t)), (2, .int ((T 3) t))] → W p l e ({ frames := 3, cells := 0, slots := 0, locals := 66 } : Room) s m args below meth c H locs 0 0 Q (F0 m 90 ls [.int v90_s0, .int (nI (((T 3) t).toNatClampNeg)), .int (nI 3), .ref (q 0)]) := by
              intro v90_s0 H locs ls  hS hl
              refine cx_cVv (As := [.int (nI 3), .int (nI (((T 3) t).toNatClampNeg)), .int v90_s0]) (rest := []) ⟨hx, hb, hml, hown, hts⟩ hE hS (c_X7_mark l D q cI cZ n T k M d (cx_u (cx_u (cx_u Z 0 za_1) 3 (fun _ => kn_1)) 1 zf_53) F 3 (((T 3) t).toNatClampNeg) v90_s0 (by first | assumption | omega) (by first | assumption | omega)) (cwV 3 hts gX7_firstFaults_X7_mark rfl rfl rfl (by decide +kernel) ⟨Nat.le_of_ble_eq_true rfl, Nat.le_of_ble_eq_true rfl⟩) 0 7 rfl rfl rfl hl.1 rfl (Nat.le_of_ble_eq_true rfl) ⟨Nat.zero_le _, Nat.zero_le _⟩ dX7_firstFaults_90 (fun u_90 H locs hp_90 hS => ?_)
              obtain ⟨zf_90, rfl⟩ : ∃ z, z = u_90 := ⟨_, rfl⟩
              have hS : cx_S D vwCl A s (cyW q cI cZ n T k M d (cx_u (cx_u (cx_u Z 0 za_1) 3 (fun _ => kn_1)) 1 zf_90) F) H locs := hS
              exact J93 zf_90 _ _ _  hS (lv_sub hl [0, 1, 2] rfl)
            have J85 : ∀ (H : Heap) (locs : List Loc) (ls : Array Slot), cx_S D vwCl A s (cyW q cI cZ n T k M d (cx_u (cx_u (cx_u Z 0 za_1) 3 (fun _ => kn_1)) 1 zf_53) F) H locs → lv_has ls 5 [(0, .ref (q 0)), (1, .int (nI t)), (2, .int ((T 3) t))] → W p l e ({ frames := 3, cells := 0, slots := 0, locals := 66 } : Room) s m args below meth c H locs 0 0 Q (F0 m 85 ls [.int (nI (((T 3) t).toNatClampNeg)), .int (nI 3), .ref (q 0)]) := by
              intro  H locs ls  hS hl
              refine lv_iconst (v := (1 : Int32)) hx hb dX7_firstFaults_85 (by decide) ?_
              refine lv_goto (tgt := 90) hx hb dX7_firstFaults_86 (by decide) ?_
              exact J90 (1 : Int32) _ _ _  hS (lv_sub hl [0, 1, 2] rfl)
            refine lv_if_ne (tgt := 85) hx hb dX7_firstFaults_65 (by decide) (fun h65 => ?_) (fun h65 => ?_)
            · skip
              exact J85  _ _ _  hS (lv_sub hl [0, 1, 2] rfl)
            · skip
              refine lv_iload_n hx hb dX7_firstFaults_68 rfl (lv_at hl 2 rfl) ?_
              refine lv_aload_n hx hb dX7_firstFaults_69 rfl (lv_at hl 0 rfl) ?_
              refine cx_get (own := RX7) (index := 65) (C := RX7) (T := TX7) (N := 22) (k := 0) (ci := 7) (v := .int (nI n)) hx hb hts hown hE hS hinX7 0 rfl rfl (by decide) (List.mem_of_getElem? (i := 3) rfl) rfl dX7_firstFaults_70 ?_
              have J89 : ∀ (H : Heap) (locs : List Loc) (ls : Array Slot), cx_S D vwCl A s (cyW q cI cZ n T k M d (cx_u (cx_u (cx_u Z 0 za_1) 3 (fun _ => kn_1)) 1 zf_53) F) H locs → lv_has ls 5 [(0, .ref (q 0)), (1, .int (nI t)), (2, .int ((T 3) t))] → W p l e ({ frames := 3, cells := 0, slots := 0, locals := 66 } : Room) s m args below meth c H locs 0 0 Q (F0 m 89 ls [.int (nI (((T 3) t).toNatClampNeg)), .int (nI 3), .ref (q 0)]) := by
                intro  H locs ls  hS hl
                refine lv_iconst (v := (0 : Int32)) hx hb dX7_firstFaults_89 (by decide) ?_
                exact J90 (0 : Int32) _ _ _  hS (lv_sub hl [0, 1, 2] rfl)
              refine lv_icmp_ge (tgt := 89) hx hb dX7_firstFaults_73 (by decide) (fun h73 => ?_) (fun h73 => ?_)
              · skip
                exact J89  _ _ _  hS (lv_sub hl [0, 1, 2] rfl)
              · skip
                refine lv_aload_n hx hb dX7_firstFaults_76 rfl (lv_at hl 0 rfl) ?_
                refine cx_get (own := RX7) (index := 7) (C := RX7) (T := TX7) (N := 22) (k := 1) (ci := 7) (v := .ref (q 1)) hx hb hts hown hE hS hinX7 0 rfl rfl (by decide) (List.mem_of_getElem? (i := 4) rfl) rfl dX7_firstFaults_77 ?_
                refine lv_iload_n hx hb dX7_firstFaults_80 rfl (lv_at hl 2 rfl) ?_
                refine cx_topr (z := nI (((T 3) t).toNatClampNeg)) hq34.1 ?_
                refine cx_iald (f := (T 0)) (n := 20) (cA := cI) hx hb hE hS 1 0 rfl rfl (by omega) (by decide) dX7_firstFaults_81 ?_
                refine lv_if_eq (tgt := 89) hx hb dX7_firstFaults_82 (by decide) (fun h82 => ?_) (fun h82 => ?_)
                · skip
                  exact J89  _ _ _  hS (lv_sub hl [0, 1, 2] rfl)
                · skip
                  exact J85  _ _ _  hS (lv_sub hl [0, 1, 2] rfl)
          refine lv_icmp_lt (tgt := 52) hx hb dX7_firstFaults_45 (by decide) (fun h45 => ?_) (fun h45 => ?_)
          · skip
            refine lv_iconst (v := (0 : Int32)) hx hb dX7_firstFaults_52 (by decide) ?_
            exact J53 (0 : Int32) _ _ _  hS (lv_sub hl [1, 2, 0] rfl)
          · skip
            refine lv_iconst (v := (1 : Int32)) hx hb dX7_firstFaults_48 (by decide) ?_
            refine lv_goto (tgt := 53) hx hb dX7_firstFaults_49 (by decide) ?_
            exact J53 (1 : Int32) _ _ _  hS (lv_sub hl [1, 2, 0] rfl)
      · skip
        have g10 : ¬ (1600 ≤ i6) := fun z => h10 ((nI_leI (a := 1600) (b := i6) (by omega) (by omega)).mpr z)
        refine lv_aload_n hx hb dX7_firstFaults_13 rfl (lv_at hl 0 rfl) ?_
        refine cx_get (own := RX7) (index := 56) (C := RX7) (T := TX7) (N := 22) (k := 18) (ci := 7) (v := .ref (q 16)) hx hb hts hown hE hS hinX7 0 rfl rfl (by decide) (List.mem_of_getElem? (i := 1) rfl) rfl dX7_firstFaults_14 ?_
        refine lv_iload_n hx hb dX7_firstFaults_17 rfl (lv_at hl 2 rfl) ?_
        refine lv_iconst (v := (0 : Int32)) hx hb dX7_firstFaults_18 (by decide) ?_
        refine cx_zast (k := i6) (f := Z_1_6) (n := 1600) (cA := cZ) (ws' := (cyW q cI cZ n T k M d (cx_u (cx_u (cx_u Z 0 za_1) 3 (fun _ => kn_1)) 1 (upd Z_1_6 i6 (vp_nar .boolean (0 : Int32)))) F)) hx hb hE hS 16 1 rfl rfl (by omega) (by decide) rfl dX7_firstFaults_19 (fun H locs hS => ?_)
        refine lv_iinc (v := nI (i6 + 1)) (lv' := [(2, .int (nI (i6 + 1))), (0, .ref (q 0)), (1, .int (nI t))]) hx hb dX7_firstFaults_20 hl (k := 2) rfl (cx_inc _) (by decide) rfl (fun ls hl => ?_)
        refine lv_goto (tgt := 6) hx hb dX7_firstFaults_23 (by decide) ?_
        exact ih6 (i6 + 1) (upd Z_1_6 i6 (vp_nar .boolean (0 : Int32))) _ _ _ (by omega) (by omega) hS (lv_sub hl [1, 2, 0] rfl)
  exact J6 (1600 - 0 + 1) 0 (Z 1) _ _ _ (Nat.lt_succ_self _) (by omega) hS (lv_sub hl [1, 2, 0] rfl)
set_option maxHeartbeats 4000000 in
set_option maxRecDepth 100000 in
theorem c_X7_haveAny (l : Launch) (D : va_G) (q : Nat → Nat) (cI cZ : ClassId) (n : Nat) (T : Nat → Nat → Int32) (k : Nat) (M : Nat → Nat → Int32) (d : Nat) (Z : Nat → Nat → Int32) (F : Nat → Nat → Int32) : cx_Mi l D vwCl [(cI, .int), (cZ, .boolean)] cx_NW yX7_haveAny wsX7_haveAny ({ frames := 0, cells := 0, slots := 0, locals := 0 } : Room) [.ref (q 0)] (cyW q cI cZ n T k M d Z F) (fun (r : Int32) (uw : Unit) => r = 0 ∨ r = 1) (fun _ => (cyW q cI cZ n T k M d Z F)) := by
  refine cx_Mi.of (cc := cX7_haveAny) (maxL := 3) cx_NW_ok (by decide) rfl (Nat.le_of_ble_eq_true rfl) ?_
  intro p e s m args below meth c Q A ls hx hb hml hown hts hE RET hS hl
  have hl : lv_has ls 3 [(0, .ref (q 0))] := hl
  have hown : s.vm.findClass RX7 = some m.cls := hown
  have hinX7 : ∀ w ∈ u_ws RX7 TX7 22, w ∈ wsX7_haveAny := cx_mem [2, 3, 4, 5, 6, 7, 8, 9, 10, 11, 12, 13, 14, 15, 16, 17, 18, 19, 20, 21, 22, 23] (by decide +kernel)
  refine lv_iconst (v := (0 : Int32)) hx hb dX7_haveAny_0 (by decide) ?_
  refine cx_topr (z := nI 0) (by decide) ?_
  refine lv_istore_n (lv' := [(1, .int (nI 0)), (0, .ref (q 0))]) hx hb dX7_haveAny_1 rfl hl (by decide) rfl (fun ls hl => ?_)
  refine lv_iconst (v := (0 : Int32)) hx hb dX7_haveAny_2 (by decide) ?_
  refine cx_topr (z := nI 0) (by decide) ?_
  refine lv_istore_n (lv' := [(2, .int (nI 0)), (1, .int (nI 0)), (0, .ref (q 0))]) hx hb dX7_haveAny_3 rfl hl (by decide) rfl (fun ls hl => ?_)
  have J4 : ∀ (N : Nat) (v4_l1 : Int32) (i4 : Nat) (H : Heap) (locs : List Loc) (ls : Array Slot), (1600 - i4 < N) → (i4 ≤ 1600) → (v4_l1 = 0 ∨ v4_l1 = 1) → cx_S D vwCl A s (cyW q cI cZ n T k M d Z F) H locs → lv_has ls 3 [(0, .ref (q 0)), (1, .int v4_l1), (2, .int (nI i4))] → W p l e ({ frames := 0, cells := 0, slots := 0, locals := 0 } : Room) s m args below meth c H locs 0 0 Q (F0 m 4 ls []) := by
    intro N4
    induction N4 with
    | zero => intro v4_l1 i4 H locs ls hN; exact absurd hN (by omega)
    | succ N4 ih4 =>
      intro v4_l1 i4 H locs ls hN4 hi4 hbo hS hl
      refine lv_iload_n hx hb dX7_haveAny_4 rfl (lv_at hl 2 rfl) ?_
      refine lv_sipush (v := nI 1600) hx hb dX7_haveAny_5 (by decide) ?_
      refine lv_icmp_ge (tgt := 36) hx hb dX7_haveAny_8 (by decide) (fun h8 => ?_) (fun h8 => ?_)
      · skip
        have g8 : 1600 ≤ i4 := (nI_leI (a := 1600) (b := i4) (by omega) (by omega)).mp h8
        refine lv_iload_n hx hb dX7_haveAny_36 rfl (lv_at hl 1 rfl) ?_
        exact RET _ () _ _ _ _ dX7_haveAny_37 (cx_nb (by first | assumption | exact cx_bb)) (by first | exact Or.inl rfl | exact Or.inr rfl | assumption | exact cx_bb) hS
      · skip
        have g8 : ¬ (1600 ≤ i4) := fun z => h8 ((nI_leI (a := 1600) (b := i4) (by omega) (by omega)).mpr z)
        refine lv_iload_n hx hb dX7_haveAny_11 rfl (lv_at hl 1 rfl) ?_
        have J29 : ∀ (v29_s0 : Int32) (H : Heap) (locs : List Loc) (ls : Array Slot), (v29_s0 = 0 ∨ v29_s0 = 1) → cx_S D vwCl A s (cyW q cI cZ n T k M d Z F) H locs → lv_has ls 3 [(0, .ref (q 0)), (1, .int v4_l1), (2, .int (nI i4))] → W p l e ({ frames := 0, cells := 0, slots := 0, locals := 0 } : Room) s m args below meth c H locs 0 0 Q (F0 m 29 ls [.int v29_s0]) := by
          intro v29_s0 H locs ls hb29 hS hl
          refine lv_istore_n (lv' := [(1, .int v29_s0), (0, .ref (q 0)), (2, .int (nI i4))]) hx hb dX7_haveAny_29 rfl hl (by decide) rfl (fun ls hl => ?_)
          refine lv_iinc (v := nI (i4 + 1)) (lv' := [(2, .int (nI (i4 + 1))), (1, .int v29_s0), (0, .ref (q 0))]) hx hb dX7_haveAny_30 hl (k := 2) rfl (cx_inc _) (by decide) rfl (fun ls hl => ?_)
          refine lv_goto (tgt := 4) hx hb dX7_haveAny_33 (by decide) ?_
          exact ih4 v29_s0 (i4 + 1) _ _ _ (by omega) (by omega) (by first | exact Or.inl rfl | exact Or.inr rfl | assumption | exact cx_bb) hS (lv_sub hl [2, 1, 0] rfl)
        have J24 : ∀ (H : Heap) (locs : List Loc) (ls : Array Slot), cx_S D vwCl A s (cyW q cI cZ n T k M d Z F) H locs → lv_has ls 3 [(0, .ref (q 0)), (1, .int v4_l1), (2, .int (nI i4))] → W p l e ({ frames := 0, cells := 0, slots := 0, locals := 0 } : Room) s m args below meth c H locs 0 0 Q (F0 m 24 ls []) := by
          intro  H locs ls  hS hl
          refine lv_iconst (v := (1 : Int32)) hx hb dX7_haveAny_24 (by decide) ?_
          refine lv_goto (tgt := 29) hx hb dX7_haveAny_25 (by decide) ?_
          exact J29 (1 : Int32) _ _ _ (by first | exact Or.inl rfl | exact Or.inr rfl | assumption | exact cx_bb) hS (lv_sub hl [0, 1, 2] rfl)
        refine lv_if_ne (tgt := 24) hx hb dX7_haveAny_12 (by decide) (fun h12 => ?_) (fun h12 => ?_)
        · skip
          exact J24  _ _ _  hS (lv_sub hl [0, 1, 2] rfl)
        · skip
          refine lv_aload_n hx hb dX7_haveAny_15 rfl (lv_at hl 0 rfl) ?_
          refine cx_get (own := RX7) (index := 56) (C := RX7) (T := TX7) (N := 22) (k := 18) (ci := 7) (v := .ref (q 16)) hx hb hts hown hE hS hinX7 0 rfl rfl (by decide) (List.mem_of_getElem? (i := 1) rfl) rfl dX7_haveAny_16 ?_
          refine lv_iload_n hx hb dX7_haveAny_19 rfl (lv_at hl 2 rfl) ?_
          refine cx_zald (f := (Z 1)) (n := 1600) (cA := cZ) hx hb hE hS 16 1 rfl rfl (by omega) (by decide) dX7_haveAny_20 ?_
          refine lv_if_eq (tgt := 28) hx hb dX7_haveAny_21 (by decide) (fun h21 => ?_) (fun h21 => ?_)
          · skip
            refine lv_iconst (v := (0 : Int32)) hx hb dX7_haveAny_28 (by decide) ?_
            exact J29 (0 : Int32) _ _ _ (by first | exact Or.inl rfl | exact Or.inr rfl | assumption | exact cx_bb) hS (lv_sub hl [0, 1, 2] rfl)
          · skip
            exact J24  _ _ _  hS (lv_sub hl [0, 1, 2] rfl)
  exact J4 (1600 - 0 + 1) (nI 0) 0 _ _ _ (Nat.lt_succ_self _) (by omega) (by first | exact Or.inl rfl | exact Or.inr rfl | assumption | exact cx_bb) hS (lv_sub hl [2, 1, 0] rfl)
set_option maxHeartbeats 4000000 in
set_option maxRecDepth 100000 in
theorem c_X7_permitsIt (l : Launch) (D : va_G) (q : Nat → Nat) (cI cZ : ClassId) (n : Nat) (T : Nat → Nat → Int32) (k : Nat) (M : Nat → Nat → Int32) (d : Nat) (Z : Nat → Nat → Int32) (F : Nat → Nat → Int32) (t : Nat) (ot : Int32) (ht : t < 20) (hW : cx_R (T 7) 4) : cx_Mi l D vwCl [(cI, .int), (cZ, .boolean)] cx_NW yX7_permitsIt wsX7_permitsIt ({ frames := 0, cells := 0, slots := 0, locals := 0 } : Room) [.ref (q 0), .int (nI t), .int ot] (cyW q cI cZ n T k M d Z F) (fun (r : Int32) (uw : Unit) => r = 0 ∨ r = 1) (fun _ => (cyW q cI cZ n T k M d Z F)) := by
  refine cx_Mi.of (cc := cX7_permitsIt) (maxL := 5) cx_NW_ok (by decide) rfl (Nat.le_of_ble_eq_true rfl) ?_
  intro p e s m args below meth c Q A ls hx hb hml hown hts hE RET hS hl
  have hl : lv_has ls 5 [(0, .ref (q 0)), (1, .int (nI t)), (2, .int ot)] := hl
  have hown : s.vm.findClass RX7 = some m.cls := hown
  have hinX7 : ∀ w ∈ u_ws RX7 TX7 22, w ∈ wsX7_permitsIt := cx_mem [3, 4, 5, 6, 7, 8, 9, 10, 11, 12, 13, 14, 15, 16, 17, 18, 19, 20, 21, 22, 23, 24] (by decide +kernel)
  refine lv_iconst (v := (0 : Int32)) hx hb dX7_permitsIt_0 (by decide) ?_
  refine cx_topr (z := nI 0) (by decide) ?_
  refine lv_istore_n (lv' := [(3, .int (nI 0)), (0, .ref (q 0)), (1, .int (nI t)), (2, .int ot)]) hx hb dX7_permitsIt_1 rfl hl (by decide) rfl (fun ls hl => ?_)
  refine lv_iconst (v := (0 : Int32)) hx hb dX7_permitsIt_2 (by decide) ?_
  refine cx_topr (z := nI 0) (by decide) ?_
  refine lv_istore (lv' := [(4, .int (nI 0)), (3, .int (nI 0)), (0, .ref (q 0)), (1, .int (nI t)), (2, .int ot)]) hx hb dX7_permitsIt_3 hl (by decide) rfl (fun ls hl => ?_)
  have J5 : ∀ (N : Nat) (v5_l3 : Int32) (i5 : Nat) (H : Heap) (locs : List Loc) (ls : Array Slot), (((T 7) t).toNatClampNeg - i5 < N) → (i5 ≤ ((T 7) t).toNatClampNeg) → (v5_l3 = 0 ∨ v5_l3 = 1) → cx_S D vwCl A s (cyW q cI cZ n T k M d Z F) H locs → lv_has ls 5 [(0, .ref (q 0)), (1, .int (nI t)), (2, .int ot), (3, .int v5_l3), (4, .int (nI i5))] → W p l e ({ frames := 0, cells := 0, slots := 0, locals := 0 } : Room) s m args below meth c H locs 0 0 Q (F0 m 5 ls []) := by
    intro N5
    induction N5 with
    | zero => intro v5_l3 i5 H locs ls hN; exact absurd hN (by omega)
    | succ N5 ih5 =>
      intro v5_l3 i5 H locs ls hN5 hi5 hbo hS hl
      refine lv_iload hx hb dX7_permitsIt_5 (lv_at hl 4 rfl) ?_
      refine lv_aload_n hx hb dX7_permitsIt_7 rfl (lv_at hl 0 rfl) ?_
      refine cx_get (own := RX7) (index := 31) (C := RX7) (T := TX7) (N := 22) (k := 8) (ci := 7) (v := .ref (q 8)) hx hb hts hown hE hS hinX7 0 rfl rfl (by decide) (List.mem_of_getElem? (i := 1) rfl) rfl dX7_permitsIt_8 ?_
      refine lv_iload_n hx hb dX7_permitsIt_11 rfl (lv_at hl 1 rfl) ?_
      refine cx_iald (f := (T 7)) (n := 20) (cA := cI) hx hb hE hS 8 0 rfl rfl (by omega) (by decide) dX7_permitsIt_12 ?_
      have ho12 := (hW t).2
      refine cx_topr (z := nI (((T 7) t).toNatClampNeg)) (hW t).1 ?_
      refine lv_icmp_ge (tgt := 47) hx hb dX7_permitsIt_13 (by decide) (fun h13 => ?_) (fun h13 => ?_)
      · skip
        have g13 : (((T 7) t).toNatClampNeg) ≤ i5 := (nI_leI (a := ((T 7) t).toNatClampNeg) (b := i5) (by omega) (by omega)).mp h13
        refine lv_iload_n hx hb dX7_permitsIt_47 rfl (lv_at hl 3 rfl) ?_
        exact RET _ () _ _ _ _ dX7_permitsIt_48 (cx_nb (by first | assumption | exact cx_bb)) (by first | exact Or.inl rfl | exact Or.inr rfl | assumption | exact cx_bb) hS
      · skip
        have g13 : ¬ ((((T 7) t).toNatClampNeg) ≤ i5) := fun z => h13 ((nI_leI (a := ((T 7) t).toNatClampNeg) (b := i5) (by omega) (by omega)).mpr z)
        refine lv_iload_n hx hb dX7_permitsIt_16 rfl (lv_at hl 3 rfl) ?_
        have J40 : ∀ (v40_s0 : Int32) (H : Heap) (locs : List Loc) (ls : Array Slot), (v40_s0 = 0 ∨ v40_s0 = 1) → cx_S D vwCl A s (cyW q cI cZ n T k M d Z F) H locs → lv_has ls 5 [(0, .ref (q 0)), (1, .int (nI t)), (2, .int ot), (3, .int v5_l3), (4, .int (nI i5))] → W p l e ({ frames := 0, cells := 0, slots := 0, locals := 0 } : Room) s m args below meth c H locs 0 0 Q (F0 m 40 ls [.int v40_s0]) := by
          intro v40_s0 H locs ls hb40 hS hl
          refine lv_istore_n (lv' := [(3, .int v40_s0), (0, .ref (q 0)), (1, .int (nI t)), (2, .int ot), (4, .int (nI i5))]) hx hb dX7_permitsIt_40 rfl hl (by decide) rfl (fun ls hl => ?_)
          refine lv_iinc (v := nI (i5 + 1)) (lv' := [(4, .int (nI (i5 + 1))), (3, .int v40_s0), (0, .ref (q 0)), (1, .int (nI t)), (2, .int ot)]) hx hb dX7_permitsIt_41 hl (k := 4) rfl (cx_inc _) (by decide) rfl (fun ls hl => ?_)
          refine lv_goto (tgt := 5) hx hb dX7_permitsIt_44 (by decide) ?_
          exact ih5 v40_s0 (i5 + 1) _ _ _ (by omega) (by omega) (by first | exact Or.inl rfl | exact Or.inr rfl | assumption | exact cx_bb) hS (lv_sub hl [2, 3, 4, 1, 0] rfl)
        have J35 : ∀ (H : Heap) (locs : List Loc) (ls : Array Slot), cx_S D vwCl A s (cyW q cI cZ n T k M d Z F) H locs → lv_has ls 5 [(0, .ref (q 0)), (1, .int (nI t)), (2, .int ot), (3, .int v5_l3), (4, .int (nI i5))] → W p l e ({ frames := 0, cells := 0, slots := 0, locals := 0 } : Room) s m args below meth c H locs 0 0 Q (F0 m 35 ls []) := by
          intro  H locs ls  hS hl
          refine lv_iconst (v := (1 : Int32)) hx hb dX7_permitsIt_35 (by decide) ?_
          refine lv_goto (tgt := 40) hx hb dX7_permitsIt_36 (by decide) ?_
          exact J40 (1 : Int32) _ _ _ (by first | exact Or.inl rfl | exact Or.inr rfl | assumption | exact cx_bb) hS (lv_sub hl [0, 1, 2, 3, 4] rfl)
        refine lv_if_ne (tgt := 35) hx hb dX7_permitsIt_17 (by decide) (fun h17 => ?_) (fun h17 => ?_)
        · skip
          exact J35  _ _ _  hS (lv_sub hl [0, 1, 2, 3, 4] rfl)
        · skip
          refine lv_aload_n hx hb dX7_permitsIt_20 rfl (lv_at hl 0 rfl) ?_
          refine cx_get (own := RX7) (index := 28) (C := RX7) (T := TX7) (N := 22) (k := 7) (ci := 7) (v := .ref (q 7)) hx hb hts hown hE hS hinX7 0 rfl rfl (by decide) (List.mem_of_getElem? (i := 2) rfl) rfl dX7_permitsIt_21 ?_
          refine lv_iconst (v := nI 3) hx hb dX7_permitsIt_24 (by decide) ?_
          refine lv_iload_n hx hb dX7_permitsIt_25 rfl (lv_at hl 1 rfl) ?_
          refine lv_imul hx hb dX7_permitsIt_26 ?_
          refine cx_topr (z := nI (3 * t)) (pk_mul _ _) ?_
          refine lv_iload hx hb dX7_permitsIt_27 (lv_at hl 4 rfl) ?_
          refine lv_iadd hx hb dX7_permitsIt_29 ?_
          refine cx_topr (z := nI (3 * t + i5)) (nI_add _ _) ?_
          refine cx_iald (f := (T 6)) (n := 60) (cA := cI) hx hb hE hS 7 0 rfl rfl (by omega) (by decide) dX7_permitsIt_30 ?_
          refine lv_iload_n hx hb dX7_permitsIt_31 rfl (lv_at hl 2 rfl) ?_
          refine lv_icmp_ne (tgt := 39) hx hb dX7_permitsIt_32 (by decide) (fun h32 => ?_) (fun h32 => ?_)
          · skip
            refine lv_iconst (v := (0 : Int32)) hx hb dX7_permitsIt_39 (by decide) ?_
            exact J40 (0 : Int32) _ _ _ (by first | exact Or.inl rfl | exact Or.inr rfl | assumption | exact cx_bb) hS (lv_sub hl [0, 1, 2, 3, 4] rfl)
          · skip
            exact J35  _ _ _  hS (lv_sub hl [0, 1, 2, 3, 4] rfl)
  exact J5 (((T 7) t).toNatClampNeg - 0 + 1) (nI 0) 0 _ _ _ (Nat.lt_succ_self _) (by omega) (by first | exact Or.inl rfl | exact Or.inr rfl | assumption | exact cx_bb) hS (lv_sub hl [2, 3, 4, 1, 0] rfl)
set_option maxHeartbeats 4000000 in
set_option maxRecDepth 100000 in
theorem c_X7_isUpper (l : Launch) (D : va_G) (q : Nat → Nat) (cI cZ : ClassId) (n : Nat) (T : Nat → Nat → Int32) (k : Nat) (M : Nat → Nat → Int32) (d : Nat) (Z : Nat → Nat → Int32) (F : Nat → Nat → Int32) (t : Nat) (ot : Int32) (ht : t < 20) (hV : cx_R (T 5) 4) : cx_Mi l D vwCl [(cI, .int), (cZ, .boolean)] cx_NW yX7_isUpper wsX7_isUpper ({ frames := 0, cells := 0, slots := 0, locals := 0 } : Room) [.ref (q 0), .int (nI t), .int ot] (cyW q cI cZ n T k M d Z F) (fun (r : Int32) (uw : Unit) => r = 0 ∨ r = 1) (fun _ => (cyW q cI cZ n T k M d Z F)) := by
  refine cx_Mi.of (cc := cX7_isUpper) (maxL := 5) cx_NW_ok (by decide) rfl (Nat.le_of_ble_eq_true rfl) ?_
  intro p e s m args below meth c Q A ls hx hb hml hown hts hE RET hS hl
  have hl : lv_has ls 5 [(0, .ref (q 0)), (1, .int (nI t)), (2, .int ot)] := hl
  have hown : s.vm.findClass RX7 = some m.cls := hown
  have hinX7 : ∀ w ∈ u_ws RX7 TX7 22, w ∈ wsX7_isUpper := cx_mem [4, 5, 6, 7, 8, 9, 10, 11, 12, 13, 14, 15, 16, 17, 18, 19, 20, 21, 22, 23, 24, 25] (by decide +kernel)
  refine lv_aload_n hx hb dX7_isUpper_0 rfl (lv_at hl 0 rfl) ?_
  refine cx_get (own := RX7) (index := 19) (C := RX7) (T := TX7) (N := 22) (k := 4) (ci := 7) (v := .ref (q 4)) hx hb hts hown hE hS hinX7 0 rfl rfl (by decide) (List.mem_of_getElem? (i := 1) rfl) rfl dX7_isUpper_1 ?_
  refine lv_iload_n hx hb dX7_isUpper_4 rfl (lv_at hl 1 rfl) ?_
  refine cx_iald (f := (T 3)) (n := 20) (cA := cI) hx hb hE hS 4 0 rfl rfl (by omega) (by decide) dX7_isUpper_5 ?_
  refine lv_iload_n hx hb dX7_isUpper_6 rfl (lv_at hl 2 rfl) ?_
  have J15 : ∀ (v15_s0 : Int32) (H : Heap) (locs : List Loc) (ls : Array Slot), (v15_s0 = 0 ∨ v15_s0 = 1) → cx_S D vwCl A s (cyW q cI cZ n T k M d Z F) H locs → lv_has ls 5 [(0, .ref (q 0)), (1, .int (nI t)), (2, .int ot)] → W p l e ({ frames := 0, cells := 0, slots := 0, locals := 0 } : Room) s m args below meth c H locs 0 0 Q (F0 m 15 ls [.int v15_s0]) := by
    intro v15_s0 H locs ls hb15 hS hl
    refine lv_istore_n (lv' := [(3, .int v15_s0), (0, .ref (q 0)), (1, .int (nI t)), (2, .int ot)]) hx hb dX7_isUpper_15 rfl hl (by decide) rfl (fun ls hl => ?_)
    refine lv_iconst (v := (0 : Int32)) hx hb dX7_isUpper_16 (by decide) ?_
    refine cx_topr (z := nI 0) (by decide) ?_
    refine lv_istore (lv' := [(4, .int (nI 0)), (3, .int v15_s0), (0, .ref (q 0)), (1, .int (nI t)), (2, .int ot)]) hx hb dX7_isUpper_17 hl (by decide) rfl (fun ls hl => ?_)
    have J19 : ∀ (N : Nat) (v19_l3 : Int32) (i19 : Nat) (H : Heap) (locs : List Loc) (ls : Array Slot), (((T 5) t).toNatClampNeg - i19 < N) → (i19 ≤ ((T 5) t).toNatClampNeg) → (v19_l3 = 0 ∨ v19_l3 = 1) → cx_S D vwCl A s (cyW q cI cZ n T k M d Z F) H locs → lv_has ls 5 [(0, .ref (q 0)), (1, .int (nI t)), (2, .int ot), (3, .int v19_l3), (4, .int (nI i19))] → W p l e ({ frames := 0, cells := 0, slots := 0, locals := 0 } : Room) s m args below meth c H locs 0 0 Q (F0 m 19 ls []) := by
      intro N19
      induction N19 with
      | zero => intro v19_l3 i19 H locs ls hN; exact absurd hN (by omega)
      | succ N19 ih19 =>
        intro v19_l3 i19 H locs ls hN19 hi19 hbo hS hl
        refine lv_iload hx hb dX7_isUpper_19 (lv_at hl 4 rfl) ?_
        refine lv_aload_n hx hb dX7_isUpper_21 rfl (lv_at hl 0 rfl) ?_
        refine cx_get (own := RX7) (index := 25) (C := RX7) (T := TX7) (N := 22) (k := 6) (ci := 7) (v := .ref (q 6)) hx hb hts hown hE hS hinX7 0 rfl rfl (by decide) (List.mem_of_getElem? (i := 2) rfl) rfl dX7_isUpper_22 ?_
        refine lv_iload_n hx hb dX7_isUpper_25 rfl (lv_at hl 1 rfl) ?_
        refine cx_iald (f := (T 5)) (n := 20) (cA := cI) hx hb hE hS 6 0 rfl rfl (by omega) (by decide) dX7_isUpper_26 ?_
        have ho26 := (hV t).2
        refine cx_topr (z := nI (((T 5) t).toNatClampNeg)) (hV t).1 ?_
        refine lv_icmp_ge (tgt := 61) hx hb dX7_isUpper_27 (by decide) (fun h27 => ?_) (fun h27 => ?_)
        · skip
          have g27 : (((T 5) t).toNatClampNeg) ≤ i19 := (nI_leI (a := ((T 5) t).toNatClampNeg) (b := i19) (by omega) (by omega)).mp h27
          refine lv_iload_n hx hb dX7_isUpper_61 rfl (lv_at hl 3 rfl) ?_
          exact RET _ () _ _ _ _ dX7_isUpper_62 (cx_nb (by first | assumption | exact cx_bb)) (by first | exact Or.inl rfl | exact Or.inr rfl | assumption | exact cx_bb) hS
        · skip
          have g27 : ¬ ((((T 5) t).toNatClampNeg) ≤ i19) := fun z => h27 ((nI_leI (a := ((T 5) t).toNatClampNeg) (b := i19) (by omega) (by omega)).mpr z)
          refine lv_iload_n hx hb dX7_isUpper_30 rfl (lv_at hl 3 rfl) ?_
          have J54 : ∀ (v54_s0 : Int32) (H : Heap) (locs : List Loc) (ls : Array Slot), (v54_s0 = 0 ∨ v54_s0 = 1) → cx_S D vwCl A s (cyW q cI cZ n T k M d Z F) H locs → lv_has ls 5 [(0, .ref (q 0)), (1, .int (nI t)), (2, .int ot), (3, .int v19_l3), (4, .int (nI i19))] → W p l e ({ frames := 0, cells := 0, slots := 0, locals := 0 } : Room) s m args below meth c H locs 0 0 Q (F0 m 54 ls [.int v54_s0]) := by
            intro v54_s0 H locs ls hb54 hS hl
            refine lv_istore_n (lv' := [(3, .int v54_s0), (0, .ref (q 0)), (1, .int (nI t)), (2, .int ot), (4, .int (nI i19))]) hx hb dX7_isUpper_54 rfl hl (by decide) rfl (fun ls hl => ?_)
            refine lv_iinc (v := nI (i19 + 1)) (lv' := [(4, .int (nI (i19 + 1))), (3, .int v54_s0), (0, .ref (q 0)), (1, .int (nI t)), (2, .int ot)]) hx hb dX7_isUpper_55 hl (k := 4) rfl (cx_inc _) (by decide) rfl (fun ls hl => ?_)
            refine lv_goto (tgt := 19) hx hb dX7_isUpper_58 (by decide) ?_
            exact ih19 v54_s0 (i19 + 1) _ _ _ (by omega) (by omega) (by first | exact Or.inl rfl | exact Or.inr rfl | assumption | exact cx_bb) hS (lv_sub hl [2, 3, 4, 1, 0] rfl)
          have J49 : ∀ (H : Heap) (locs : List Loc) (ls : Array Slot), cx_S D vwCl A s (cyW q cI cZ n T k M d Z F) H locs → lv_has ls 5 [(0, .ref (q 0)), (1, .int (nI t)), (2, .int ot), (3, .int v19_l3), (4, .int (nI i19))] → W p l e ({ frames := 0, cells := 0, slots := 0, locals := 0 } : Room) s m args below meth c H locs 0 0 Q (F0 m 49 ls []) := by
            intro  H locs ls  hS hl
            refine lv_iconst (v := (1 : Int32)) hx hb dX7_isUpper_49 (by decide) ?_
            refine lv_goto (tgt := 54) hx hb dX7_isUpper_50 (by decide) ?_
            exact J54 (1 : Int32) _ _ _ (by first | exact Or.inl rfl | exact Or.inr rfl | assumption | exact cx_bb) hS (lv_sub hl [0, 1, 2, 3, 4] rfl)
          refine lv_if_ne (tgt := 49) hx hb dX7_isUpper_31 (by decide) (fun h31 => ?_) (fun h31 => ?_)
          · skip
            exact J49  _ _ _  hS (lv_sub hl [0, 1, 2, 3, 4] rfl)
          · skip
            refine lv_aload_n hx hb dX7_isUpper_34 rfl (lv_at hl 0 rfl) ?_
            refine cx_get (own := RX7) (index := 22) (C := RX7) (T := TX7) (N := 22) (k := 5) (ci := 7) (v := .ref (q 5)) hx hb hts hown hE hS hinX7 0 rfl rfl (by decide) (List.mem_of_getElem? (i := 3) rfl) rfl dX7_isUpper_35 ?_
            refine lv_iconst (v := nI 3) hx hb dX7_isUpper_38 (by decide) ?_
            refine lv_iload_n hx hb dX7_isUpper_39 rfl (lv_at hl 1 rfl) ?_
            refine lv_imul hx hb dX7_isUpper_40 ?_
            refine cx_topr (z := nI (3 * t)) (pk_mul _ _) ?_
            refine lv_iload hx hb dX7_isUpper_41 (lv_at hl 4 rfl) ?_
            refine lv_iadd hx hb dX7_isUpper_43 ?_
            refine cx_topr (z := nI (3 * t + i19)) (nI_add _ _) ?_
            refine cx_iald (f := (T 4)) (n := 60) (cA := cI) hx hb hE hS 5 0 rfl rfl (by omega) (by decide) dX7_isUpper_44 ?_
            refine lv_iload_n hx hb dX7_isUpper_45 rfl (lv_at hl 2 rfl) ?_
            refine lv_icmp_ne (tgt := 53) hx hb dX7_isUpper_46 (by decide) (fun h46 => ?_) (fun h46 => ?_)
            · skip
              refine lv_iconst (v := (0 : Int32)) hx hb dX7_isUpper_53 (by decide) ?_
              exact J54 (0 : Int32) _ _ _ (by first | exact Or.inl rfl | exact Or.inr rfl | assumption | exact cx_bb) hS (lv_sub hl [0, 1, 2, 3, 4] rfl)
            · skip
              exact J49  _ _ _  hS (lv_sub hl [0, 1, 2, 3, 4] rfl)
    exact J19 (((T 5) t).toNatClampNeg - 0 + 1) v15_s0 0 _ _ _ (Nat.lt_succ_self _) (by omega) (by first | exact Or.inl rfl | exact Or.inr rfl | assumption | exact cx_bb) hS (lv_sub hl [2, 3, 4, 1, 0] rfl)
  refine lv_icmp_ne (tgt := 14) hx hb dX7_isUpper_7 (by decide) (fun h7 => ?_) (fun h7 => ?_)
  · skip
    refine lv_iconst (v := (0 : Int32)) hx hb dX7_isUpper_14 (by decide) ?_
    exact J15 (0 : Int32) _ _ _ (by first | exact Or.inl rfl | exact Or.inr rfl | assumption | exact cx_bb) hS (lv_sub hl [0, 1, 2] rfl)
  · skip
    refine lv_iconst (v := (1 : Int32)) hx hb dX7_isUpper_10 (by decide) ?_
    refine lv_goto (tgt := 15) hx hb dX7_isUpper_11 (by decide) ?_
    exact J15 (1 : Int32) _ _ _ (by first | exact Or.inl rfl | exact Or.inr rfl | assumption | exact cx_bb) hS (lv_sub hl [0, 1, 2] rfl)
set_option maxHeartbeats 4000000 in
set_option maxRecDepth 100000 in
theorem c_X7_sealedBy (l : Launch) (D : va_G) (q : Nat → Nat) (cI cZ : ClassId) (n : Nat) (T : Nat → Nat → Int32) (k : Nat) (M : Nat → Nat → Int32) (d : Nat) (Z : Nat → Nat → Int32) (F : Nat → Nat → Int32) (t : Nat) (up : Int32) (hn : n ≤ 20) (hW : cx_R (T 7) 4) (ht : t < 20) : cx_Mv l D vwCl [(cI, .int), (cZ, .boolean)] cx_NW yX7_sealedBy wsX7_sealedBy ({ frames := 2, cells := 0, slots := 0, locals := 43 } : Room) [.ref (q 0), .int (nI t), .int up] (cyW q cI cZ n T k M d Z F) (fun (uw : (Nat → Int32)) => True) (fun uw => (cyW q cI cZ n T k M d (cx_u Z 1 uw) F)) := by
  refine cx_Mv.of (cc := cX7_sealedBy) (maxL := 4) cx_NW_ok (by decide) rfl (Nat.le_of_ble_eq_true rfl) ?_
  intro p e s m args below meth c Q A ls hx hb hml hown hts hE RET hS hl
  have hl : lv_has ls 4 [(0, .ref (q 0)), (1, .int (nI t)), (2, .int up)] := hl
  have hown : s.vm.findClass RX7 = some m.cls := hown
  have hinX7 : ∀ w ∈ u_ws RX7 TX7 22, w ∈ wsX7_sealedBy := cx_mem [27, 28, 29, 30, 31, 32, 33, 34, 35, 36, 37, 38, 39, 40, 41, 42, 43, 44, 45, 46, 47, 48] (by decide +kernel)
  refine lv_aload_n hx hb dX7_sealedBy_0 rfl (lv_at hl 0 rfl) ?_
  refine lv_iload_n hx hb dX7_sealedBy_1 rfl (lv_at hl 2 rfl) ?_
  refine cx_cVi (As := [.int up]) (rest := []) ⟨hx, hb, hml, hown, hts⟩ hE hS (c_X7_isType l D q cI cZ n T k M d Z F up (by first | assumption | omega)) (cwV 1 hts gX7_sealedBy_X7_isType rfl rfl rfl (by decide +kernel) ⟨Nat.le_of_ble_eq_true rfl, Nat.le_of_ble_eq_true rfl⟩) 0 7 rfl rfl rfl hl.1 rfl (Nat.le_of_ble_eq_true rfl) ⟨Nat.zero_le _, Nat.zero_le _⟩ dX7_sealedBy_2 (fun r_2 u_2 H locs hp_2 hS => ?_)
  have hp_2 : r_2 = cx_b (0 ≤ up ∧ up < nI n) := hp_2
  subst hp_2
  have J86 : ∀ (Z_1_86 : Nat → Int32) (H : Heap) (locs : List Loc) (ls : Array Slot), cx_S D vwCl A s (cyW q cI cZ n T k M d (cx_u Z 1 Z_1_86) F) H locs → lv_has ls 4 [(0, .ref (q 0)), (1, .int (nI t)), (2, .int up)] → W p l e ({ frames := 2, cells := 0, slots := 0, locals := 43 } : Room) s m args below meth c H locs 0 0 Q (F0 m 86 ls []) := by
    intro Z_1_86 H locs ls  hS hl
    exact RET (Z_1_86) _ _ _ _ dX7_sealedBy_86 trivial hS
  refine lv_if_eq (tgt := 86) hx hb dX7_sealedBy_5 (by decide) (fun h5 => ?_) (fun h5 => ?_)
  · skip
    have g5 := cx_b0 h5
    exact J86 (Z 1) _ _ _  hS (lv_sub hl [0, 1, 2] rfl)
  · skip
    have g5 := cx_b1 h5
    have hq5 := (cx_ixT (by omega) g5).2
    refine lv_aload_n hx hb dX7_sealedBy_8 rfl (lv_at hl 0 rfl) ?_
    refine lv_iload_n hx hb dX7_sealedBy_9 rfl (lv_at hl 2 rfl) ?_
    refine cx_topr (z := nI (up.toNatClampNeg)) (cx_ixT (by omega) g5).1 ?_
    refine lv_iconst (v := nI 4) hx hb dX7_sealedBy_10 (by decide) ?_
    refine cx_cVi (As := [.int (nI (up.toNatClampNeg)), .int (nI 4)]) (rest := []) ⟨hx, hb, hml, hown, hts⟩ hE hS (c_X7_marked l D q cI cZ n T k M d Z F up.toNatClampNeg (nI 4) (by first | assumption | omega)) (cwV 2 hts gX7_sealedBy_X7_marked rfl rfl rfl (by decide +kernel) ⟨Nat.le_of_ble_eq_true rfl, Nat.le_of_ble_eq_true rfl⟩) 0 7 rfl rfl rfl hl.1 rfl (Nat.le_of_ble_eq_true rfl) ⟨Nat.zero_le _, Nat.zero_le _⟩ dX7_sealedBy_11 (fun r_11 u_11 H locs hp_11 hS => ?_)
    have hp_11 : r_11 = 0 ∨ r_11 = 1 := hp_11
    refine lv_if_eq (tgt := 86) hx hb dX7_sealedBy_14 (by decide) (fun h14 => ?_) (fun h14 => ?_)
    · skip
      exact J86 (Z 1) _ _ _  hS (lv_sub hl [0, 1, 2] rfl)
    · skip
      refine lv_aload_n hx hb dX7_sealedBy_17 rfl (lv_at hl 0 rfl) ?_
      refine cx_get (own := RX7) (index := 7) (C := RX7) (T := TX7) (N := 22) (k := 1) (ci := 7) (v := .ref (q 1)) hx hb hts hown hE hS hinX7 0 rfl rfl (by decide) (List.mem_of_getElem? (i := 1) rfl) rfl dX7_sealedBy_18 ?_
      refine lv_iload_n hx hb dX7_sealedBy_21 rfl (lv_at hl 1 rfl) ?_
      refine cx_iald (f := (T 0)) (n := 20) (cA := cI) hx hb hE hS 1 0 rfl rfl (by omega) (by decide) dX7_sealedBy_22 ?_
      refine lv_iconst (v := nI 2) hx hb dX7_sealedBy_23 (by decide) ?_
      have J60 : ∀ (v60_s0 : Int32) (H : Heap) (locs : List Loc) (ls : Array Slot), cx_S D vwCl A s (cyW q cI cZ n T k M d Z F) H locs → lv_has ls 4 [(0, .ref (q 0)), (1, .int (nI t)), (2, .int up)] → W p l e ({ frames := 2, cells := 0, slots := 0, locals := 43 } : Room) s m args below meth c H locs 0 0 Q (F0 m 60 ls [.int v60_s0]) := by
        intro v60_s0 H locs ls  hS hl
        refine lv_istore_n (lv' := [(3, .int v60_s0), (0, .ref (q 0)), (1, .int (nI t)), (2, .int up)]) hx hb dX7_sealedBy_60 rfl hl (by decide) rfl (fun ls hl => ?_)
        refine lv_aload_n hx hb dX7_sealedBy_61 rfl (lv_at hl 1 rfl) ?_
        refine lv_bipush (v := nI 6) hx hb dX7_sealedBy_62 (by decide) ?_
        refine lv_iload_n hx hb dX7_sealedBy_64 rfl (lv_at hl 3 rfl) ?_
        refine cx_topr (z := nI (up.toNatClampNeg)) (cx_ixT (by omega) g5).1 ?_
        refine lv_aload_n hx hb dX7_sealedBy_65 rfl (lv_at hl 1 rfl) ?_
        refine lv_iload_n hx hb dX7_sealedBy_66 rfl (lv_at hl 3 rfl) ?_
        refine cx_topr (z := nI (up.toNatClampNeg)) (cx_ixT (by omega) g5).1 ?_
        refine lv_iload_n hx hb dX7_sealedBy_67 rfl (lv_at hl 2 rfl) ?_
        refine cx_cVi (As := [.int (nI (up.toNatClampNeg)), .int (nI t)]) (rest := [.int (nI (up.toNatClampNeg)), .int (nI 6), .ref (q 0)]) ⟨hx, hb, hml, hown, hts⟩ hE hS (c_X7_permitsIt l D q cI cZ n T k M d Z F up.toNatClampNeg (nI t) (by first | assumption | omega) (by first | assumption | omega)) (cwV 2 hts gX7_sealedBy_X7_permitsIt rfl rfl rfl (by decide +kernel) ⟨Nat.le_of_ble_eq_true rfl, Nat.le_of_ble_eq_true rfl⟩) 0 7 rfl rfl rfl hl.1 rfl (Nat.le_of_ble_eq_true rfl) ⟨Nat.zero_le _, Nat.zero_le _⟩ dX7_sealedBy_68 (fun r_68 u_68 H locs hp_68 hS => ?_)
        have hp_68 : r_68 = 0 ∨ r_68 = 1 := hp_68
        have J83 : ∀ (v83_s0 : Int32) (H : Heap) (locs : List Loc) (ls : Array Slot), cx_S D vwCl A s (cyW q cI cZ n T k M d Z F) H locs → lv_has ls 4 [(0, .ref (q 0)), (1, .int (nI t)), (2, .int up), (3, .int v60_s0)] → W p l e ({ frames := 2, cells := 0, slots := 0, locals := 43 } : Room) s m args below meth c H locs 0 0 Q (F0 m 83 ls [.int v83_s0, .int (nI (up.toNatClampNeg)), .int (nI 6), .ref (q 0)]) := by
          intro v83_s0 H locs ls  hS hl
          refine cx_cVv (As := [.int (nI 6), .int (nI (up.toNatClampNeg)), .int v83_s0]) (rest := []) ⟨hx, hb, hml, hown, hts⟩ hE hS (c_X7_mark l D q cI cZ n T k M d Z F 6 up.toNatClampNeg v83_s0 (by first | assumption | omega) (by first | assumption | omega)) (cwV 3 hts gX7_sealedBy_X7_mark rfl rfl rfl (by decide +kernel) ⟨Nat.le_of_ble_eq_true rfl, Nat.le_of_ble_eq_true rfl⟩) 0 7 rfl rfl rfl hl.1 rfl (Nat.le_of_ble_eq_true rfl) ⟨Nat.zero_le _, Nat.zero_le _⟩ dX7_sealedBy_83 (fun u_83 H locs hp_83 hS => ?_)
          obtain ⟨zf_83, rfl⟩ : ∃ z, z = u_83 := ⟨_, rfl⟩
          have hS : cx_S D vwCl A s (cyW q cI cZ n T k M d (cx_u Z 1 zf_83) F) H locs := hS
          exact J86 zf_83 _ _ _  hS (lv_sub hl [0, 1, 2] rfl)
        have J78 : ∀ (H : Heap) (locs : List Loc) (ls : Array Slot), cx_S D vwCl A s (cyW q cI cZ n T k M d Z F) H locs → lv_has ls 4 [(0, .ref (q 0)), (1, .int (nI t)), (2, .int up), (3, .int v60_s0)] → W p l e ({ frames := 2, cells := 0, slots := 0, locals := 43 } : Room) s m args below meth c H locs 0 0 Q (F0 m 78 ls [.int (nI (up.toNatClampNeg)), .int (nI 6), .ref (q 0)]) := by
          intro  H locs ls  hS hl
          refine lv_iconst (v := (1 : Int32)) hx hb dX7_sealedBy_78 (by decide) ?_
          refine lv_goto (tgt := 83) hx hb dX7_sealedBy_79 (by decide) ?_
          exact J83 (1 : Int32) _ _ _  hS (lv_sub hl [0, 1, 2, 3] rfl)
        refine lv_if_eq (tgt := 78) hx hb dX7_sealedBy_71 (by decide) (fun h71 => ?_) (fun h71 => ?_)
        · skip
          exact J78  _ _ _  hS (lv_sub hl [1, 2, 3, 0] rfl)
        · skip
          refine lv_iload_n hx hb dX7_sealedBy_74 rfl (lv_at hl 0 rfl) ?_
          refine lv_if_eq (tgt := 82) hx hb dX7_sealedBy_75 (by decide) (fun h75 => ?_) (fun h75 => ?_)
          · skip
            refine lv_iconst (v := (0 : Int32)) hx hb dX7_sealedBy_82 (by decide) ?_
            exact J83 (0 : Int32) _ _ _  hS (lv_sub hl [1, 2, 3, 0] rfl)
          · skip
            exact J78  _ _ _  hS (lv_sub hl [1, 2, 3, 0] rfl)
      have J59 : ∀ (H : Heap) (locs : List Loc) (ls : Array Slot), cx_S D vwCl A s (cyW q cI cZ n T k M d Z F) H locs → lv_has ls 4 [(0, .ref (q 0)), (1, .int (nI t)), (2, .int up)] → W p l e ({ frames := 2, cells := 0, slots := 0, locals := 43 } : Room) s m args below meth c H locs 0 0 Q (F0 m 59 ls []) := by
        intro  H locs ls  hS hl
        refine lv_iconst (v := (0 : Int32)) hx hb dX7_sealedBy_59 (by decide) ?_
        exact J60 (0 : Int32) _ _ _  hS (lv_sub hl [0, 1, 2] rfl)
      refine lv_icmp_ge (tgt := 59) hx hb dX7_sealedBy_24 (by decide) (fun h24 => ?_) (fun h24 => ?_)
      · skip
        exact J59  _ _ _  hS (lv_sub hl [0, 1, 2] rfl)
      · skip
        refine lv_aload_n hx hb dX7_sealedBy_27 rfl (lv_at hl 0 rfl) ?_
        refine lv_iload_n hx hb dX7_sealedBy_28 rfl (lv_at hl 1 rfl) ?_
        refine lv_iconst (v := nI 2) hx hb dX7_sealedBy_29 (by decide) ?_
        refine cx_cVi (As := [.int (nI t), .int (nI 2)]) (rest := []) ⟨hx, hb, hml, hown, hts⟩ hE hS (c_X7_marked l D q cI cZ n T k M d Z F t (nI 2) (by first | assumption | omega)) (cwV 2 hts gX7_sealedBy_X7_marked rfl rfl rfl (by decide +kernel) ⟨Nat.le_of_ble_eq_true rfl, Nat.le_of_ble_eq_true rfl⟩) 0 7 rfl rfl rfl hl.1 rfl (Nat.le_of_ble_eq_true rfl) ⟨Nat.zero_le _, Nat.zero_le _⟩ dX7_sealedBy_30 (fun r_30 u_30 H locs hp_30 hS => ?_)
        have hp_30 : r_30 = 0 ∨ r_30 = 1 := hp_30
        refine lv_if_ne (tgt := 59) hx hb dX7_sealedBy_33 (by decide) (fun h33 => ?_) (fun h33 => ?_)
        · skip
          exact J59  _ _ _  hS (lv_sub hl [0, 1, 2] rfl)
        · skip
          refine lv_aload_n hx hb dX7_sealedBy_36 rfl (lv_at hl 0 rfl) ?_
          refine lv_iload_n hx hb dX7_sealedBy_37 rfl (lv_at hl 1 rfl) ?_
          refine lv_iconst (v := nI 4) hx hb dX7_sealedBy_38 (by decide) ?_
          refine cx_cVi (As := [.int (nI t), .int (nI 4)]) (rest := []) ⟨hx, hb, hml, hown, hts⟩ hE hS (c_X7_marked l D q cI cZ n T k M d Z F t (nI 4) (by first | assumption | omega)) (cwV 2 hts gX7_sealedBy_X7_marked rfl rfl rfl (by decide +kernel) ⟨Nat.le_of_ble_eq_true rfl, Nat.le_of_ble_eq_true rfl⟩) 0 7 rfl rfl rfl hl.1 rfl (Nat.le_of_ble_eq_true rfl) ⟨Nat.zero_le _, Nat.zero_le _⟩ dX7_sealedBy_39 (fun r_39 u_39 H locs hp_39 hS => ?_)
          have hp_39 : r_39 = 0 ∨ r_39 = 1 := hp_39
          refine lv_if_ne (tgt := 59) hx hb dX7_sealedBy_42 (by decide) (fun h42 => ?_) (fun h42 => ?_)
          · skip
            exact J59  _ _ _  hS (lv_sub hl [0, 1, 2] rfl)
          · skip
            refine lv_aload_n hx hb dX7_sealedBy_45 rfl (lv_at hl 0 rfl) ?_
            refine lv_iload_n hx hb dX7_sealedBy_46 rfl (lv_at hl 1 rfl) ?_
            refine lv_bipush (v := nI 8) hx hb dX7_sealedBy_47 (by decide) ?_
            refine cx_cVi (As := [.int (nI t), .int (nI 8)]) (rest := []) ⟨hx, hb, hml, hown, hts⟩ hE hS (c_X7_marked l D q cI cZ n T k M d Z F t (nI 8) (by first | assumption | omega)) (cwV 2 hts gX7_sealedBy_X7_marked rfl rfl rfl (by decide +kernel) ⟨Nat.le_of_ble_eq_true rfl, Nat.le_of_ble_eq_true rfl⟩) 0 7 rfl rfl rfl hl.1 rfl (Nat.le_of_ble_eq_true rfl) ⟨Nat.zero_le _, Nat.zero_le _⟩ dX7_sealedBy_49 (fun r_49 u_49 H locs hp_49 hS => ?_)
            have hp_49 : r_49 = 0 ∨ r_49 = 1 := hp_49
            refine lv_if_ne (tgt := 59) hx hb dX7_sealedBy_52 (by decide) (fun h52 => ?_) (fun h52 => ?_)
            · skip
              exact J59  _ _ _  hS (lv_sub hl [0, 1, 2] rfl)
            · skip
              refine lv_iconst (v := (1 : Int32)) hx hb dX7_sealedBy_55 (by decide) ?_
              refine lv_goto (tgt := 60) hx hb dX7_sealedBy_56 (by decide) ?_
              exact J60 (1 : Int32) _ _ _  hS (lv_sub hl [0, 1, 2] rfl)
set_option maxHeartbeats 4000000 in
set_option maxRecDepth 100000 in
theorem c_X7_isSealed (l : Launch) (D : va_G) (q : Nat → Nat) (cI cZ : ClassId) (n : Nat) (T : Nat → Nat → Int32) (k : Nat) (M : Nat → Nat → Int32) (d : Nat) (Z : Nat → Nat → Int32) (F : Nat → Nat → Int32) (up : Int32) (hn : n ≤ 20) : cx_Mi l D vwCl [(cI, .int), (cZ, .boolean)] cx_NW yX7_isSealed wsX7_isSealed ({ frames := 2, cells := 0, slots := 0, locals := 43 } : Room) [.ref (q 0), .int up] (cyW q cI cZ n T k M d Z F) (fun (r : Int32) (uw : Unit) => r = 0 ∨ r = 1) (fun _ => (cyW q cI cZ n T k M d Z F)) := by
  refine cx_Mi.of (cc := cX7_isSealed) (maxL := 2) cx_NW_ok (by decide) rfl (Nat.le_of_ble_eq_true rfl) ?_
  intro p e s m args below meth c Q A ls hx hb hml hown hts hE RET hS hl
  have hl : lv_has ls 2 [(0, .ref (q 0)), (1, .int up)] := hl
  have hown : s.vm.findClass RX7 = some m.cls := hown
  refine lv_aload_n hx hb dX7_isSealed_0 rfl (lv_at hl 0 rfl) ?_
  refine lv_iload_n hx hb dX7_isSealed_1 rfl (lv_at hl 1 rfl) ?_
  refine cx_cVi (As := [.int up]) (rest := []) ⟨hx, hb, hml, hown, hts⟩ hE hS (c_X7_isType l D q cI cZ n T k M d Z F up (by first | assumption | omega)) (cwV 1 hts gX7_isSealed_X7_isType rfl rfl rfl (by decide +kernel) ⟨Nat.le_of_ble_eq_true rfl, Nat.le_of_ble_eq_true rfl⟩) 0 7 rfl rfl rfl hl.1 rfl (Nat.le_of_ble_eq_true rfl) ⟨Nat.zero_le _, Nat.zero_le _⟩ dX7_isSealed_2 (fun r_2 u_2 H locs hp_2 hS => ?_)
  have hp_2 : r_2 = cx_b (0 ≤ up ∧ up < nI n) := hp_2
  subst hp_2
  have J22 : ∀ (v22_s0 : Int32) (H : Heap) (locs : List Loc) (ls : Array Slot), (v22_s0 = 0 ∨ v22_s0 = 1) → cx_S D vwCl A s (cyW q cI cZ n T k M d Z F) H locs → lv_has ls 2 [(0, .ref (q 0)), (1, .int up)] → W p l e ({ frames := 2, cells := 0, slots := 0, locals := 43 } : Room) s m args below meth c H locs 0 0 Q (F0 m 22 ls [.int v22_s0]) := by
    intro v22_s0 H locs ls hb22 hS hl
    exact RET _ () _ _ _ _ dX7_isSealed_22 (cx_nb (by first | assumption | exact cx_bb)) (by first | exact Or.inl rfl | exact Or.inr rfl | assumption | exact cx_bb) hS
  have J21 : ∀ (H : Heap) (locs : List Loc) (ls : Array Slot), cx_S D vwCl A s (cyW q cI cZ n T k M d Z F) H locs → lv_has ls 2 [(0, .ref (q 0)), (1, .int up)] → W p l e ({ frames := 2, cells := 0, slots := 0, locals := 43 } : Room) s m args below meth c H locs 0 0 Q (F0 m 21 ls []) := by
    intro  H locs ls  hS hl
    refine lv_iconst (v := (0 : Int32)) hx hb dX7_isSealed_21 (by decide) ?_
    exact J22 (0 : Int32) _ _ _ (by first | exact Or.inl rfl | exact Or.inr rfl | assumption | exact cx_bb) hS (lv_sub hl [0, 1] rfl)
  refine lv_if_eq (tgt := 21) hx hb dX7_isSealed_5 (by decide) (fun h5 => ?_) (fun h5 => ?_)
  · skip
    have g5 := cx_b0 h5
    exact J21  _ _ _  hS (lv_sub hl [0, 1] rfl)
  · skip
    have g5 := cx_b1 h5
    have hq5 := (cx_ixT (by omega) g5).2
    refine lv_aload_n hx hb dX7_isSealed_8 rfl (lv_at hl 0 rfl) ?_
    refine lv_iload_n hx hb dX7_isSealed_9 rfl (lv_at hl 1 rfl) ?_
    refine cx_topr (z := nI (up.toNatClampNeg)) (cx_ixT (by omega) g5).1 ?_
    refine lv_iconst (v := nI 4) hx hb dX7_isSealed_10 (by decide) ?_
    refine cx_cVi (As := [.int (nI (up.toNatClampNeg)), .int (nI 4)]) (rest := []) ⟨hx, hb, hml, hown, hts⟩ hE hS (c_X7_marked l D q cI cZ n T k M d Z F up.toNatClampNeg (nI 4) (by first | assumption | omega)) (cwV 2 hts gX7_isSealed_X7_marked rfl rfl rfl (by decide +kernel) ⟨Nat.le_of_ble_eq_true rfl, Nat.le_of_ble_eq_true rfl⟩) 0 7 rfl rfl rfl hl.1 rfl (Nat.le_of_ble_eq_true rfl) ⟨Nat.zero_le _, Nat.zero_le _⟩ dX7_isSealed_11 (fun r_11 u_11 H locs hp_11 hS => ?_)
    have hp_11 : r_11 = 0 ∨ r_11 = 1 := hp_11
    refine lv_if_eq (tgt := 21) hx hb dX7_isSealed_14 (by decide) (fun h14 => ?_) (fun h14 => ?_)
    · skip
      exact J21  _ _ _  hS (lv_sub hl [0, 1] rfl)
    · skip
      refine lv_iconst (v := (1 : Int32)) hx hb dX7_isSealed_17 (by decide) ?_
      refine lv_goto (tgt := 22) hx hb dX7_isSealed_18 (by decide) ?_
      exact J22 (1 : Int32) _ _ _ (by first | exact Or.inl rfl | exact Or.inr rfl | assumption | exact cx_bb) hS (lv_sub hl [0, 1] rfl)
set_option maxHeartbeats 4000000 in
set_option maxRecDepth 100000 in
theorem c_X7_typeFaults (l : Launch) (D : va_G) (q : Nat → Nat) (cI cZ : ClassId) (n : Nat) (T : Nat → Nat → Int32) (k : Nat) (M : Nat → Nat → Int32) (d : Nat) (Z : Nat → Nat → Int32) (F : Nat → Nat → Int32) (t : Nat) (hn : n ≤ 20) (hU : cx_R (T 4) 20) (hQ : cx_R (T 6) 20) (hV : cx_R (T 5) 4) (hW : cx_R (T 7) 4) (ht : t < 20) : cx_Mv l D vwCl [(cI, .int), (cZ, .boolean)] cx_NW yX7_typeFaults wsX7_typeFaults ({ frames := 3, cells := 0, slots := 0, locals := 66 } : Room) [.ref (q 0), .int (nI t)] (cyW q cI cZ n T k M d Z F) (fun (uw : (Nat → Int32)) => True) (fun uw => (cyW q cI cZ n T k M d (cx_u Z 1 uw) F)) := by
  refine cx_Mv.of (cc := cX7_typeFaults) (maxL := 8) cx_NW_ok (by decide) rfl (Nat.le_of_ble_eq_true rfl) ?_
  intro p e s m args below meth c Q A ls hx hb hml hown hts hE RET hS hl
  have hl : lv_has ls 8 [(0, .ref (q 0)), (1, .int (nI t))] := hl
  have hown : s.vm.findClass RX7 = some m.cls := hown
  have hinX7 : ∀ w ∈ u_ws RX7 TX7 22, w ∈ wsX7_typeFaults := cx_mem [42, 43, 44, 45, 46, 47, 48, 49, 50, 51, 52, 53, 54, 55, 56, 57, 58, 59, 60, 61, 62, 63] (by decide +kernel)
  refine lv_aload_n hx hb dX7_typeFaults_0 rfl (lv_at hl 0 rfl) ?_
  refine cx_get (own := RX7) (index := 19) (C := RX7) (T := TX7) (N := 22) (k := 4) (ci := 7) (v := .ref (q 4)) hx hb hts hown hE hS hinX7 0 rfl rfl (by decide) (List.mem_of_getElem? (i := 1) rfl) rfl dX7_typeFaults_1 ?_
  refine lv_iload_n hx hb dX7_typeFaults_4 rfl (lv_at hl 1 rfl) ?_
  refine cx_iald (f := (T 3)) (n := 20) (cA := cI) hx hb hE hS 4 0 rfl rfl (by omega) (by decide) dX7_typeFaults_5 ?_
  refine lv_istore_n (lv' := [(2, .int ((T 3) t)), (0, .ref (q 0)), (1, .int (nI t))]) hx hb dX7_typeFaults_6 rfl hl (by decide) rfl (fun ls hl => ?_)
  refine lv_aload_n hx hb dX7_typeFaults_7 rfl (lv_at hl 1 rfl) ?_
  refine lv_iload_n hx hb dX7_typeFaults_8 rfl (lv_at hl 0 rfl) ?_
  refine cx_cVi (As := [.int ((T 3) t)]) (rest := []) ⟨hx, hb, hml, hown, hts⟩ hE hS (c_X7_isType l D q cI cZ n T k M d Z F ((T 3) t) (by first | assumption | omega)) (cwV 1 hts gX7_typeFaults_X7_isType rfl rfl rfl (by decide +kernel) ⟨Nat.le_of_ble_eq_true rfl, Nat.le_of_ble_eq_true rfl⟩) 0 7 rfl rfl rfl hl.1 rfl (Nat.le_of_ble_eq_true rfl) ⟨Nat.zero_le _, Nat.zero_le _⟩ dX7_typeFaults_9 (fun r_9 u_9 H locs hp_9 hS => ?_)
  have hp_9 : r_9 = cx_b (0 ≤ ((T 3) t) ∧ ((T 3) t) < nI n) := hp_9
  subst hp_9
  have J27 : ∀ (Z_1_27 : Nat → Int32) (H : Heap) (locs : List Loc) (ls : Array Slot), cx_S D vwCl A s (cyW q cI cZ n T k M d (cx_u Z 1 Z_1_27) F) H locs → lv_has ls 8 [(0, .ref (q 0)), (1, .int (nI t)), (2, .int ((T 3) t))] → W p l e ({ frames := 3, cells := 0, slots := 0, locals := 66 } : Room) s m args below meth c H locs 0 0 Q (F0 m 27 ls []) := by
    intro Z_1_27 H locs ls  hS hl
    refine lv_aload_n hx hb dX7_typeFaults_27 rfl (lv_at hl 0 rfl) ?_
    refine lv_iload_n hx hb dX7_typeFaults_28 rfl (lv_at hl 1 rfl) ?_
    refine lv_iconst (v := nI 2) hx hb dX7_typeFaults_29 (by decide) ?_
    refine cx_cVi (As := [.int (nI t), .int (nI 2)]) (rest := []) ⟨hx, hb, hml, hown, hts⟩ hE hS (c_X7_marked l D q cI cZ n T k M d (cx_u Z 1 Z_1_27) F t (nI 2) (by first | assumption | omega)) (cwV 2 hts gX7_typeFaults_X7_marked rfl rfl rfl (by decide +kernel) ⟨Nat.le_of_ble_eq_true rfl, Nat.le_of_ble_eq_true rfl⟩) 0 7 rfl rfl rfl hl.1 rfl (Nat.le_of_ble_eq_true rfl) ⟨Nat.zero_le _, Nat.zero_le _⟩ dX7_typeFaults_30 (fun r_30 u_30 H locs hp_30 hS => ?_)
    have hp_30 : r_30 = 0 ∨ r_30 = 1 := hp_30
    have J41 : ∀ (v41_s0 : Int32) (H : Heap) (locs : List Loc) (ls : Array Slot), cx_S D vwCl A s (cyW q cI cZ n T k M d (cx_u Z 1 Z_1_27) F) H locs → lv_has ls 8 [(0, .ref (q 0)), (1, .int (nI t)), (2, .int ((T 3) t))] → W p l e ({ frames := 3, cells := 0, slots := 0, locals := 66 } : Room) s m args below meth c H locs 0 0 Q (F0 m 41 ls [.int v41_s0]) := by
      intro v41_s0 H locs ls  hS hl
      refine lv_aload_n hx hb dX7_typeFaults_41 rfl (lv_at hl 0 rfl) ?_
      refine lv_iload_n hx hb dX7_typeFaults_42 rfl (lv_at hl 1 rfl) ?_
      refine lv_iconst (v := nI 4) hx hb dX7_typeFaults_43 (by decide) ?_
      refine cx_cVi (As := [.int (nI t), .int (nI 4)]) (rest := [.int v41_s0]) ⟨hx, hb, hml, hown, hts⟩ hE hS (c_X7_marked l D q cI cZ n T k M d (cx_u Z 1 Z_1_27) F t (nI 4) (by first | assumption | omega)) (cwV 2 hts gX7_typeFaults_X7_marked rfl rfl rfl (by decide +kernel) ⟨Nat.le_of_ble_eq_true rfl, Nat.le_of_ble_eq_true rfl⟩) 0 7 rfl rfl rfl hl.1 rfl (Nat.le_of_ble_eq_true rfl) ⟨Nat.zero_le _, Nat.zero_le _⟩ dX7_typeFaults_44 (fun r_44 u_44 H locs hp_44 hS => ?_)
      have hp_44 : r_44 = 0 ∨ r_44 = 1 := hp_44
      have J55 : ∀ (v55_s0 : Int32) (H : Heap) (locs : List Loc) (ls : Array Slot), cx_S D vwCl A s (cyW q cI cZ n T k M d (cx_u Z 1 Z_1_27) F) H locs → lv_has ls 8 [(0, .ref (q 0)), (1, .int (nI t)), (2, .int ((T 3) t))] → W p l e ({ frames := 3, cells := 0, slots := 0, locals := 66 } : Room) s m args below meth c H locs 0 0 Q (F0 m 55 ls [.int v55_s0, .int v41_s0]) := by
        intro v55_s0 H locs ls  hS hl
        refine lv_iadd hx hb dX7_typeFaults_55 ?_
        refine lv_aload_n hx hb dX7_typeFaults_56 rfl (lv_at hl 0 rfl) ?_
        refine lv_iload_n hx hb dX7_typeFaults_57 rfl (lv_at hl 1 rfl) ?_
        refine lv_bipush (v := nI 8) hx hb dX7_typeFaults_58 (by decide) ?_
        refine cx_cVi (As := [.int (nI t), .int (nI 8)]) (rest := [.int (v41_s0 + v55_s0)]) ⟨hx, hb, hml, hown, hts⟩ hE hS (c_X7_marked l D q cI cZ n T k M d (cx_u Z 1 Z_1_27) F t (nI 8) (by first | assumption | omega)) (cwV 2 hts gX7_typeFaults_X7_marked rfl rfl rfl (by decide +kernel) ⟨Nat.le_of_ble_eq_true rfl, Nat.le_of_ble_eq_true rfl⟩) 0 7 rfl rfl rfl hl.1 rfl (Nat.le_of_ble_eq_true rfl) ⟨Nat.zero_le _, Nat.zero_le _⟩ dX7_typeFaults_60 (fun r_60 u_60 H locs hp_60 hS => ?_)
        have hp_60 : r_60 = 0 ∨ r_60 = 1 := hp_60
        have J71 : ∀ (v71_s0 : Int32) (H : Heap) (locs : List Loc) (ls : Array Slot), cx_S D vwCl A s (cyW q cI cZ n T k M d (cx_u Z 1 Z_1_27) F) H locs → lv_has ls 8 [(0, .ref (q 0)), (1, .int (nI t)), (2, .int ((T 3) t))] → W p l e ({ frames := 3, cells := 0, slots := 0, locals := 66 } : Room) s m args below meth c H locs 0 0 Q (F0 m 71 ls [.int v71_s0, .int (v41_s0 + v55_s0)]) := by
          intro v71_s0 H locs ls  hS hl
          refine lv_iadd hx hb dX7_typeFaults_71 ?_
          refine lv_istore_n (lv' := [(3, .int ((v41_s0 + v55_s0) + v71_s0)), (0, .ref (q 0)), (1, .int (nI t)), (2, .int ((T 3) t))]) hx hb dX7_typeFaults_72 rfl hl (by decide) rfl (fun ls hl => ?_)
          refine lv_aload_n hx hb dX7_typeFaults_73 rfl (lv_at hl 1 rfl) ?_
          refine lv_iconst (v := nI 5) hx hb dX7_typeFaults_74 (by decide) ?_
          refine lv_iload_n hx hb dX7_typeFaults_75 rfl (lv_at hl 2 rfl) ?_
          refine lv_iload_n hx hb dX7_typeFaults_76 rfl (lv_at hl 0 rfl) ?_
          refine lv_iconst (v := (1 : Int32)) hx hb dX7_typeFaults_77 (by decide) ?_
          have J142 : ∀ (v142_s0 : Int32) (H : Heap) (locs : List Loc) (ls : Array Slot), cx_S D vwCl A s (cyW q cI cZ n T k M d (cx_u Z 1 Z_1_27) F) H locs → lv_has ls 8 [(0, .ref (q 0)), (1, .int (nI t)), (2, .int ((T 3) t)), (3, .int ((v41_s0 + v55_s0) + v71_s0))] → W p l e ({ frames := 3, cells := 0, slots := 0, locals := 66 } : Room) s m args below meth c H locs 0 0 Q (F0 m 142 ls [.int v142_s0, .int (nI t), .int (nI 5), .ref (q 0)]) := by
            intro v142_s0 H locs ls  hS hl
            refine cx_cVv (As := [.int (nI 5), .int (nI t), .int v142_s0]) (rest := []) ⟨hx, hb, hml, hown, hts⟩ hE hS (c_X7_mark l D q cI cZ n T k M d (cx_u Z 1 Z_1_27) F 5 t v142_s0 (by first | assumption | omega) (by first | assumption | omega)) (cwV 3 hts gX7_typeFaults_X7_mark rfl rfl rfl (by decide +kernel) ⟨Nat.le_of_ble_eq_true rfl, Nat.le_of_ble_eq_true rfl⟩) 0 7 rfl rfl rfl hl.1 rfl (Nat.le_of_ble_eq_true rfl) ⟨Nat.zero_le _, Nat.zero_le _⟩ dX7_typeFaults_142 (fun u_142 H locs hp_142 hS => ?_)
            obtain ⟨zf_142, rfl⟩ : ∃ z, z = u_142 := ⟨_, rfl⟩
            have hS : cx_S D vwCl A s (cyW q cI cZ n T k M d (cx_u Z 1 zf_142) F) H locs := hS
            refine lv_aload_n hx hb dX7_typeFaults_145 rfl (lv_at hl 0 rfl) ?_
            refine lv_iload_n hx hb dX7_typeFaults_146 rfl (lv_at hl 1 rfl) ?_
            refine lv_iload_n hx hb dX7_typeFaults_147 rfl (lv_at hl 2 rfl) ?_
            refine cx_cVv (As := [.int (nI t), .int ((T 3) t)]) (rest := []) ⟨hx, hb, hml, hown, hts⟩ hE hS (c_X7_sealedBy l D q cI cZ n T k M d (cx_u Z 1 zf_142) F t ((T 3) t) (by first | assumption | omega) (by first | assumption | omega) (by first | assumption | omega)) (cwV 2 hts gX7_typeFaults_X7_sealedBy rfl rfl rfl (by decide +kernel) ⟨Nat.le_of_ble_eq_true rfl, Nat.le_of_ble_eq_true rfl⟩) 0 7 rfl rfl rfl hl.1 rfl (Nat.le_of_ble_eq_true rfl) ⟨Nat.zero_le _, Nat.zero_le _⟩ dX7_typeFaults_148 (fun u_148 H locs hp_148 hS => ?_)
            obtain ⟨zf_148, rfl⟩ : ∃ z, z = u_148 := ⟨_, rfl⟩
            have hS : cx_S D vwCl A s (cyW q cI cZ n T k M d (cx_u Z 1 zf_148) F) H locs := hS
            refine lv_aload_n hx hb dX7_typeFaults_151 rfl (lv_at hl 0 rfl) ?_
            refine lv_iload_n hx hb dX7_typeFaults_152 rfl (lv_at hl 2 rfl) ?_
            refine cx_cVi (As := [.int ((T 3) t)]) (rest := []) ⟨hx, hb, hml, hown, hts⟩ hE hS (c_X7_isSealed l D q cI cZ n T k M d (cx_u Z 1 zf_148) F ((T 3) t) (by first | assumption | omega)) (cwV 1 hts gX7_typeFaults_X7_isSealed rfl rfl rfl (by decide +kernel) ⟨Nat.le_of_ble_eq_true rfl, Nat.le_of_ble_eq_true rfl⟩) 0 7 rfl rfl rfl hl.1 rfl (Nat.le_of_ble_eq_true rfl) ⟨Nat.zero_le _, Nat.zero_le _⟩ dX7_typeFaults_153 (fun r_153 u_153 H locs hp_153 hS => ?_)
            have hp_153 : r_153 = 0 ∨ r_153 = 1 := hp_153
            refine lv_istore (lv' := [(4, .int r_153), (0, .ref (q 0)), (1, .int (nI t)), (2, .int ((T 3) t)), (3, .int ((v41_s0 + v55_s0) + v71_s0))]) hx hb dX7_typeFaults_156 hl (by decide) rfl (fun ls hl => ?_)
            refine lv_iconst (v := (0 : Int32)) hx hb dX7_typeFaults_158 (by decide) ?_
            refine cx_topr (z := nI 0) (by decide) ?_
            refine lv_istore (lv' := [(5, .int (nI 0)), (4, .int r_153), (0, .ref (q 0)), (1, .int (nI t)), (2, .int ((T 3) t)), (3, .int ((v41_s0 + v55_s0) + v71_s0))]) hx hb dX7_typeFaults_159 hl (by decide) rfl (fun ls hl => ?_)
            have J161 : ∀ (N : Nat) (v161_l4 : Int32) (i161 : Nat) (Z_1_161 : Nat → Int32) (H : Heap) (locs : List Loc) (ls : Array Slot), (((T 5) t).toNatClampNeg - i161 < N) → (i161 ≤ ((T 5) t).toNatClampNeg) → cx_S D vwCl A s (cyW q cI cZ n T k M d (cx_u Z 1 Z_1_161) F) H locs → lv_has ls 8 [(0, .ref (q 0)), (1, .int (nI t)), (2, .int ((T 3) t)), (3, .int ((v41_s0 + v55_s0) + v71_s0)), (4, .int v161_l4), (5, .int (nI i161))] → W p l e ({ frames := 3, cells := 0, slots := 0, locals := 66 } : Room) s m args below meth c H locs 0 0 Q (F0 m 161 ls []) := by
              intro N161
              induction N161 with
              | zero => intro v161_l4 i161 Z_1_161 H locs ls hN; exact absurd hN (by omega)
              | succ N161 ih161 =>
                intro v161_l4 i161 Z_1_161 H locs ls hN161 hi161 hS hl
                refine lv_iload hx hb dX7_typeFaults_161 (lv_at hl 5 rfl) ?_
                refine lv_aload_n hx hb dX7_typeFaults_163 rfl (lv_at hl 0 rfl) ?_
                refine cx_get (own := RX7) (index := 25) (C := RX7) (T := TX7) (N := 22) (k := 6) (ci := 7) (v := .ref (q 6)) hx hb hts hown hE hS hinX7 0 rfl rfl (by decide) (List.mem_of_getElem? (i := 4) rfl) rfl dX7_typeFaults_164 ?_
                refine lv_iload_n hx hb dX7_typeFaults_167 rfl (lv_at hl 1 rfl) ?_
                refine cx_iald (f := (T 5)) (n := 20) (cA := cI) hx hb hE hS 6 0 rfl rfl (by omega) (by decide) dX7_typeFaults_168 ?_
                have ho168 := (hV t).2
                refine cx_topr (z := nI (((T 5) t).toNatClampNeg)) (hV t).1 ?_
                refine lv_icmp_ge (tgt := 273) hx hb dX7_typeFaults_169 (by decide) (fun h169 => ?_) (fun h169 => ?_)
                · skip
                  have g169 : (((T 5) t).toNatClampNeg) ≤ i161 := (nI_leI (a := ((T 5) t).toNatClampNeg) (b := i161) (by omega) (by omega)).mp h169
                  refine lv_aload_n hx hb dX7_typeFaults_273 rfl (lv_at hl 0 rfl) ?_
                  refine lv_bipush (v := nI 6) hx hb dX7_typeFaults_274 (by decide) ?_
                  refine lv_iload_n hx hb dX7_typeFaults_276 rfl (lv_at hl 1 rfl) ?_
                  refine lv_aload_n hx hb dX7_typeFaults_277 rfl (lv_at hl 0 rfl) ?_
                  refine lv_iload_n hx hb dX7_typeFaults_278 rfl (lv_at hl 1 rfl) ?_
                  refine lv_bipush (v := nI 8) hx hb dX7_typeFaults_279 (by decide) ?_
                  refine cx_cVi (As := [.int (nI t), .int (nI 8)]) (rest := [.int (nI t), .int (nI 6), .ref (q 0)]) ⟨hx, hb, hml, hown, hts⟩ hE hS (c_X7_marked l D q cI cZ n T k M d (cx_u Z 1 Z_1_161) F t (nI 8) (by first | assumption | omega)) (cwV 2 hts gX7_typeFaults_X7_marked rfl rfl rfl (by decide +kernel) ⟨Nat.le_of_ble_eq_true rfl, Nat.le_of_ble_eq_true rfl⟩) 0 7 rfl rfl rfl hl.1 rfl (Nat.le_of_ble_eq_true rfl) ⟨Nat.zero_le _, Nat.zero_le _⟩ dX7_typeFaults_281 (fun r_281 u_281 H locs hp_281 hS => ?_)
                  have hp_281 : r_281 = 0 ∨ r_281 = 1 := hp_281
                  have J297 : ∀ (v297_s0 : Int32) (H : Heap) (locs : List Loc) (ls : Array Slot), cx_S D vwCl A s (cyW q cI cZ n T k M d (cx_u Z 1 Z_1_161) F) H locs → lv_has ls 8 [(0, .ref (q 0)), (1, .int (nI t)), (2, .int ((T 3) t)), (3, .int ((v41_s0 + v55_s0) + v71_s0)), (4, .int v161_l4), (5, .int (nI i161))] → W p l e ({ frames := 3, cells := 0, slots := 0, locals := 66 } : Room) s m args below meth c H locs 0 0 Q (F0 m 297 ls [.int v297_s0, .int (nI t), .int (nI 6), .ref (q 0)]) := by
                    intro v297_s0 H locs ls  hS hl
                    refine cx_cVv (As := [.int (nI 6), .int (nI t), .int v297_s0]) (rest := []) ⟨hx, hb, hml, hown, hts⟩ hE hS (c_X7_mark l D q cI cZ n T k M d (cx_u Z 1 Z_1_161) F 6 t v297_s0 (by first | assumption | omega) (by first | assumption | omega)) (cwV 3 hts gX7_typeFaults_X7_mark rfl rfl rfl (by decide +kernel) ⟨Nat.le_of_ble_eq_true rfl, Nat.le_of_ble_eq_true rfl⟩) 0 7 rfl rfl rfl hl.1 rfl (Nat.le_of_ble_eq_true rfl) ⟨Nat.zero_le _, Nat.zero_le _⟩ dX7_typeFaults_297 (fun u_297 H locs hp_297 hS => ?_)
                    obtain ⟨zf_297, rfl⟩ : ∃ z, z = u_297 := ⟨_, rfl⟩
                    have hS : cx_S D vwCl A s (cyW q cI cZ n T k M d (cx_u Z 1 zf_297) F) H locs := hS
                    refine lv_aload_n hx hb dX7_typeFaults_300 rfl (lv_at hl 0 rfl) ?_
                    refine lv_bipush (v := nI 7) hx hb dX7_typeFaults_301 (by decide) ?_
                    refine lv_iload_n hx hb dX7_typeFaults_303 rfl (lv_at hl 1 rfl) ?_
                    refine lv_aload_n hx hb dX7_typeFaults_304 rfl (lv_at hl 0 rfl) ?_
                    refine cx_get (own := RX7) (index := 31) (C := RX7) (T := TX7) (N := 22) (k := 8) (ci := 7) (v := .ref (q 8)) hx hb hts hown hE hS hinX7 0 rfl rfl (by decide) (List.mem_of_getElem? (i := 6) rfl) rfl dX7_typeFaults_305 ?_
                    refine lv_iload_n hx hb dX7_typeFaults_308 rfl (lv_at hl 1 rfl) ?_
                    refine cx_iald (f := (T 7)) (n := 20) (cA := cI) hx hb hE hS 8 0 rfl rfl (by omega) (by decide) dX7_typeFaults_309 ?_
                    have ho309 := (hW t).2
                    refine cx_topr (z := nI (((T 7) t).toNatClampNeg)) (hW t).1 ?_
                    have J318 : ∀ (v318_s0 : Int32) (H : Heap) (locs : List Loc) (ls : Array Slot), cx_S D vwCl A s (cyW q cI cZ n T k M d (cx_u Z 1 zf_297) F) H locs → lv_has ls 8 [(0, .ref (q 0)), (1, .int (nI t)), (2, .int ((T 3) t)), (3, .int ((v41_s0 + v55_s0) + v71_s0)), (4, .int v161_l4), (5, .int (nI i161))] → W p l e ({ frames := 3, cells := 0, slots := 0, locals := 66 } : Room) s m args below meth c H locs 0 0 Q (F0 m 318 ls [.int v318_s0, .int (nI t), .int (nI 7), .ref (q 0)]) := by
                      intro v318_s0 H locs ls  hS hl
                      refine lv_aload_n hx hb dX7_typeFaults_318 rfl (lv_at hl 0 rfl) ?_
                      refine lv_iload_n hx hb dX7_typeFaults_319 rfl (lv_at hl 1 rfl) ?_
                      refine lv_iconst (v := nI 4) hx hb dX7_typeFaults_320 (by decide) ?_
                      refine cx_cVi (As := [.int (nI t), .int (nI 4)]) (rest := [.int v318_s0, .int (nI t), .int (nI 7), .ref (q 0)]) ⟨hx, hb, hml, hown, hts⟩ hE hS (c_X7_marked l D q cI cZ n T k M d (cx_u Z 1 zf_297) F t (nI 4) (by first | assumption | omega)) (cwV 2 hts gX7_typeFaults_X7_marked rfl rfl rfl (by decide +kernel) ⟨Nat.le_of_ble_eq_true rfl, Nat.le_of_ble_eq_true rfl⟩) 0 7 rfl rfl rfl hl.1 rfl (Nat.le_of_ble_eq_true rfl) ⟨Nat.zero_le _, Nat.zero_le _⟩ dX7_typeFaults_321 (fun r_321 u_321 H locs hp_321 hS => ?_)
                      have hp_321 : r_321 = 0 ∨ r_321 = 1 := hp_321
                      have J332 : ∀ (v332_s0 : Int32) (H : Heap) (locs : List Loc) (ls : Array Slot), cx_S D vwCl A s (cyW q cI cZ n T k M d (cx_u Z 1 zf_297) F) H locs → lv_has ls 8 [(0, .ref (q 0)), (1, .int (nI t)), (2, .int ((T 3) t)), (3, .int ((v41_s0 + v55_s0) + v71_s0)), (4, .int v161_l4), (5, .int (nI i161))] → W p l e ({ frames := 3, cells := 0, slots := 0, locals := 66 } : Room) s m args below meth c H locs 0 0 Q (F0 m 332 ls [.int v332_s0, .int (nI t), .int (nI 7), .ref (q 0)]) := by
                        intro v332_s0 H locs ls  hS hl
                        refine cx_cVv (As := [.int (nI 7), .int (nI t), .int v332_s0]) (rest := []) ⟨hx, hb, hml, hown, hts⟩ hE hS (c_X7_mark l D q cI cZ n T k M d (cx_u Z 1 zf_297) F 7 t v332_s0 (by first | assumption | omega) (by first | assumption | omega)) (cwV 3 hts gX7_typeFaults_X7_mark rfl rfl rfl (by decide +kernel) ⟨Nat.le_of_ble_eq_true rfl, Nat.le_of_ble_eq_true rfl⟩) 0 7 rfl rfl rfl hl.1 rfl (Nat.le_of_ble_eq_true rfl) ⟨Nat.zero_le _, Nat.zero_le _⟩ dX7_typeFaults_332 (fun u_332 H locs hp_332 hS => ?_)
                        obtain ⟨zf_332, rfl⟩ : ∃ z, z = u_332 := ⟨_, rfl⟩
                        have hS : cx_S D vwCl A s (cyW q cI cZ n T k M d (cx_u Z 1 zf_332) F) H locs := hS
                        refine lv_iconst (v := (0 : Int32)) hx hb dX7_typeFaults_335 (by decide) ?_
                        refine cx_topr (z := nI 0) (by decide) ?_
                        refine lv_istore (lv' := [(5, .int (nI 0)), (0, .ref (q 0)), (1, .int (nI t)), (2, .int ((T 3) t)), (3, .int ((v41_s0 + v55_s0) + v71_s0)), (4, .int v161_l4)]) hx hb dX7_typeFaults_336 hl (by decide) rfl (fun ls hl => ?_)
                        have J338 : ∀ (N : Nat) (i338 : Nat) (Z_1_338 : Nat → Int32) (H : Heap) (locs : List Loc) (ls : Array Slot), (((T 7) t).toNatClampNeg - i338 < N) → (i338 ≤ ((T 7) t).toNatClampNeg) → cx_S D vwCl A s (cyW q cI cZ n T k M d (cx_u Z 1 Z_1_338) F) H locs → lv_has ls 8 [(0, .ref (q 0)), (1, .int (nI t)), (2, .int ((T 3) t)), (3, .int ((v41_s0 + v55_s0) + v71_s0)), (4, .int v161_l4), (5, .int (nI i338))] → W p l e ({ frames := 3, cells := 0, slots := 0, locals := 66 } : Room) s m args below meth c H locs 0 0 Q (F0 m 338 ls []) := by
                          intro N338
                          induction N338 with
                          | zero => intro i338 Z_1_338 H locs ls hN; exact absurd hN (by omega)
                          | succ N338 ih338 =>
                            intro i338 Z_1_338 H locs ls hN338 hi338 hS hl
                            refine lv_iload hx hb dX7_typeFaults_338 (lv_at hl 5 rfl) ?_
                            refine lv_aload_n hx hb dX7_typeFaults_340 rfl (lv_at hl 0 rfl) ?_
                            refine cx_get (own := RX7) (index := 31) (C := RX7) (T := TX7) (N := 22) (k := 8) (ci := 7) (v := .ref (q 8)) hx hb hts hown hE hS hinX7 0 rfl rfl (by decide) (List.mem_of_getElem? (i := 6) rfl) rfl dX7_typeFaults_341 ?_
                            refine lv_iload_n hx hb dX7_typeFaults_344 rfl (lv_at hl 1 rfl) ?_
                            refine cx_iald (f := (T 7)) (n := 20) (cA := cI) hx hb hE hS 8 0 rfl rfl (by omega) (by decide) dX7_typeFaults_345 ?_
                            have ho345 := (hW t).2
                            refine cx_topr (z := nI (((T 7) t).toNatClampNeg)) (hW t).1 ?_
                            refine lv_icmp_ge (tgt := 400) hx hb dX7_typeFaults_346 (by decide) (fun h346 => ?_) (fun h346 => ?_)
                            · skip
                              have g346 : (((T 7) t).toNatClampNeg) ≤ i338 := (nI_leI (a := ((T 7) t).toNatClampNeg) (b := i338) (by omega) (by omega)).mp h346
                              exact RET (Z_1_338) _ _ _ _ dX7_typeFaults_400 trivial hS
                            · skip
                              have g346 : ¬ ((((T 7) t).toNatClampNeg) ≤ i338) := fun z => h346 ((nI_leI (a := ((T 7) t).toNatClampNeg) (b := i338) (by omega) (by omega)).mpr z)
                              refine lv_aload_n hx hb dX7_typeFaults_349 rfl (lv_at hl 0 rfl) ?_
                              refine cx_get (own := RX7) (index := 28) (C := RX7) (T := TX7) (N := 22) (k := 7) (ci := 7) (v := .ref (q 7)) hx hb hts hown hE hS hinX7 0 rfl rfl (by decide) (List.mem_of_getElem? (i := 7) rfl) rfl dX7_typeFaults_350 ?_
                              refine lv_iconst (v := nI 3) hx hb dX7_typeFaults_353 (by decide) ?_
                              refine lv_iload_n hx hb dX7_typeFaults_354 rfl (lv_at hl 1 rfl) ?_
                              refine lv_imul hx hb dX7_typeFaults_355 ?_
                              refine cx_topr (z := nI (3 * t)) (pk_mul _ _) ?_
                              refine lv_iload hx hb dX7_typeFaults_356 (lv_at hl 5 rfl) ?_
                              refine lv_iadd hx hb dX7_typeFaults_358 ?_
                              refine cx_topr (z := nI (3 * t + i338)) (nI_add _ _) ?_
                              refine cx_iald (f := (T 6)) (n := 60) (cA := cI) hx hb hE hS 7 0 rfl rfl (by omega) (by decide) dX7_typeFaults_359 ?_
                              have ho359 := (hQ (3 * t + i338)).2
                              refine cx_topr (z := nI (((T 6) (3 * t + i338)).toNatClampNeg)) (hQ (3 * t + i338)).1 ?_
                              refine lv_istore (lv' := [(6, .int (nI (((T 6) (3 * t + i338)).toNatClampNeg))), (0, .ref (q 0)), (1, .int (nI t)), (2, .int ((T 3) t)), (3, .int ((v41_s0 + v55_s0) + v71_s0)), (4, .int v161_l4), (5, .int (nI i338))]) hx hb dX7_typeFaults_360 hl (by decide) rfl (fun ls hl => ?_)
                              refine lv_aload_n hx hb dX7_typeFaults_362 rfl (lv_at hl 1 rfl) ?_
                              refine lv_bipush (v := nI 7) hx hb dX7_typeFaults_363 (by decide) ?_
                              refine lv_iload hx hb dX7_typeFaults_365 (lv_at hl 0 rfl) ?_
                              refine lv_aload_n hx hb dX7_typeFaults_367 rfl (lv_at hl 1 rfl) ?_
                              refine lv_iload hx hb dX7_typeFaults_368 (lv_at hl 0 rfl) ?_
                              refine cx_cVi (As := [.int (nI (((T 6) (3 * t + i338)).toNatClampNeg))]) (rest := [.int (nI (((T 6) (3 * t + i338)).toNatClampNeg)), .int (nI 7), .ref (q 0)]) ⟨hx, hb, hml, hown, hts⟩ hE hS (c_X7_isType l D q cI cZ n T k M d (cx_u Z 1 Z_1_338) F (nI (((T 6) (3 * t + i338)).toNatClampNeg)) (by first | assumption | omega)) (cwV 1 hts gX7_typeFaults_X7_isType rfl rfl rfl (by decide +kernel) ⟨Nat.le_of_ble_eq_true rfl, Nat.le_of_ble_eq_true rfl⟩) 0 7 rfl rfl rfl hl.1 rfl (Nat.le_of_ble_eq_true rfl) ⟨Nat.zero_le _, Nat.zero_le _⟩ dX7_typeFaults_370 (fun r_370 u_370 H locs hp_370 hS => ?_)
                              have hp_370 : r_370 = cx_b (0 ≤ (nI (((T 6) (3 * t + i338)).toNatClampNeg)) ∧ (nI (((T 6) (3 * t + i338)).toNatClampNeg)) < nI n) := hp_370
                              subst hp_370
                              have J391 : ∀ (v391_s0 : Int32) (H : Heap) (locs : List Loc) (ls : Array Slot), cx_S D vwCl A s (cyW q cI cZ n T k M d (cx_u Z 1 Z_1_338) F) H locs → lv_has ls 8 [(0, .ref (q 0)), (1, .int (nI t)), (2, .int ((T 3) t)), (3, .int ((v41_s0 + v55_s0) + v71_s0)), (4, .int v161_l4), (5, .int (nI i338)), (6, .int (nI (((T 6) (3 * t + i338)).toNatClampNeg)))] → W p l e ({ frames := 3, cells := 0, slots := 0, locals := 66 } : Room) s m args below meth c H locs 0 0 Q (F0 m 391 ls [.int v391_s0, .int (nI (((T 6) (3 * t + i338)).toNatClampNeg)), .int (nI 7), .ref (q 0)]) := by
                                intro v391_s0 H locs ls  hS hl
                                refine cx_cVv (As := [.int (nI 7), .int (nI (((T 6) (3 * t + i338)).toNatClampNeg)), .int v391_s0]) (rest := []) ⟨hx, hb, hml, hown, hts⟩ hE hS (c_X7_mark l D q cI cZ n T k M d (cx_u Z 1 Z_1_338) F 7 (((T 6) (3 * t + i338)).toNatClampNeg) v391_s0 (by first | assumption | omega) (by first | assumption | omega)) (cwV 3 hts gX7_typeFaults_X7_mark rfl rfl rfl (by decide +kernel) ⟨Nat.le_of_ble_eq_true rfl, Nat.le_of_ble_eq_true rfl⟩) 0 7 rfl rfl rfl hl.1 rfl (Nat.le_of_ble_eq_true rfl) ⟨Nat.zero_le _, Nat.zero_le _⟩ dX7_typeFaults_391 (fun u_391 H locs hp_391 hS => ?_)
                                obtain ⟨zf_391, rfl⟩ : ∃ z, z = u_391 := ⟨_, rfl⟩
                                have hS : cx_S D vwCl A s (cyW q cI cZ n T k M d (cx_u Z 1 zf_391) F) H locs := hS
                                refine lv_iinc (v := nI (i338 + 1)) (lv' := [(5, .int (nI (i338 + 1))), (0, .ref (q 0)), (1, .int (nI t)), (2, .int ((T 3) t)), (3, .int ((v41_s0 + v55_s0) + v71_s0)), (4, .int v161_l4), (6, .int (nI (((T 6) (3 * t + i338)).toNatClampNeg)))]) hx hb dX7_typeFaults_394 hl (k := 5) rfl (cx_inc _) (by decide) rfl (fun ls hl => ?_)
                                refine lv_goto (tgt := 338) hx hb dX7_typeFaults_397 (by decide) ?_
                                exact ih338 (i338 + 1) zf_391 _ _ _ (by omega) (by omega) hS (lv_sub hl [1, 2, 3, 4, 5, 0] rfl)
                              have J390 : ∀ (H : Heap) (locs : List Loc) (ls : Array Slot), cx_S D vwCl A s (cyW q cI cZ n T k M d (cx_u Z 1 Z_1_338) F) H locs → lv_has ls 8 [(0, .ref (q 0)), (1, .int (nI t)), (2, .int ((T 3) t)), (3, .int ((v41_s0 + v55_s0) + v71_s0)), (4, .int v161_l4), (5, .int (nI i338)), (6, .int (nI (((T 6) (3 * t + i338)).toNatClampNeg)))] → W p l e ({ frames := 3, cells := 0, slots := 0, locals := 66 } : Room) s m args below meth c H locs 0 0 Q (F0 m 390 ls [.int (nI (((T 6) (3 * t + i338)).toNatClampNeg)), .int (nI 7), .ref (q 0)]) := by
                                intro  H locs ls  hS hl
                                refine lv_iconst (v := (0 : Int32)) hx hb dX7_typeFaults_390 (by decide) ?_
                                exact J391 (0 : Int32) _ _ _  hS (lv_sub hl [0, 1, 2, 3, 4, 5, 6] rfl)
                              refine lv_if_eq (tgt := 390) hx hb dX7_typeFaults_373 (by decide) (fun h373 => ?_) (fun h373 => ?_)
                              · skip
                                have g373 := cx_b0 h373
                                exact J390  _ _ _  hS (lv_sub hl [1, 2, 3, 4, 5, 6, 0] rfl)
                              · skip
                                have g373 := cx_b1 h373
                                refine lv_aload_n hx hb dX7_typeFaults_376 rfl (lv_at hl 1 rfl) ?_
                                refine lv_iload hx hb dX7_typeFaults_377 (lv_at hl 0 rfl) ?_
                                refine lv_iload_n hx hb dX7_typeFaults_379 rfl (lv_at hl 2 rfl) ?_
                                refine cx_cVi (As := [.int (nI (((T 6) (3 * t + i338)).toNatClampNeg)), .int (nI t)]) (rest := [.int (nI (((T 6) (3 * t + i338)).toNatClampNeg)), .int (nI 7), .ref (q 0)]) ⟨hx, hb, hml, hown, hts⟩ hE hS (c_X7_isUpper l D q cI cZ n T k M d (cx_u Z 1 Z_1_338) F (((T 6) (3 * t + i338)).toNatClampNeg) (nI t) (by first | assumption | omega) (by first | assumption | omega)) (cwV 2 hts gX7_typeFaults_X7_isUpper rfl rfl rfl (by decide +kernel) ⟨Nat.le_of_ble_eq_true rfl, Nat.le_of_ble_eq_true rfl⟩) 0 7 rfl rfl rfl hl.1 rfl (Nat.le_of_ble_eq_true rfl) ⟨Nat.zero_le _, Nat.zero_le _⟩ dX7_typeFaults_380 (fun r_380 u_380 H locs hp_380 hS => ?_)
                                have hp_380 : r_380 = 0 ∨ r_380 = 1 := hp_380
                                refine lv_if_ne (tgt := 390) hx hb dX7_typeFaults_383 (by decide) (fun h383 => ?_) (fun h383 => ?_)
                                · skip
                                  exact J390  _ _ _  hS (lv_sub hl [1, 2, 3, 4, 5, 6, 0] rfl)
                                · skip
                                  refine lv_iconst (v := (1 : Int32)) hx hb dX7_typeFaults_386 (by decide) ?_
                                  refine lv_goto (tgt := 391) hx hb dX7_typeFaults_387 (by decide) ?_
                                  exact J391 (1 : Int32) _ _ _  hS (lv_sub hl [1, 2, 3, 4, 5, 6, 0] rfl)
                        exact J338 (((T 7) t).toNatClampNeg - 0 + 1) 0 zf_332 _ _ _ (Nat.lt_succ_self _) (by omega) hS (lv_sub hl [1, 2, 3, 4, 5, 0] rfl)
                      refine lv_icmp_eq (tgt := 331) hx hb dX7_typeFaults_324 (by decide) (fun h324 => ?_) (fun h324 => ?_)
                      · skip
                        refine lv_iconst (v := (0 : Int32)) hx hb dX7_typeFaults_331 (by decide) ?_
                        exact J332 (0 : Int32) _ _ _  hS (lv_sub hl [0, 1, 2, 3, 4, 5] rfl)
                      · skip
                        refine lv_iconst (v := (1 : Int32)) hx hb dX7_typeFaults_327 (by decide) ?_
                        refine lv_goto (tgt := 332) hx hb dX7_typeFaults_328 (by decide) ?_
                        exact J332 (1 : Int32) _ _ _  hS (lv_sub hl [0, 1, 2, 3, 4, 5] rfl)
                    refine lv_if_le (tgt := 317) hx hb dX7_typeFaults_310 (by decide) (fun h310 => ?_) (fun h310 => ?_)
                    · skip
                      refine lv_iconst (v := (0 : Int32)) hx hb dX7_typeFaults_317 (by decide) ?_
                      exact J318 (0 : Int32) _ _ _  hS (lv_sub hl [0, 1, 2, 3, 4, 5] rfl)
                    · skip
                      refine lv_iconst (v := (1 : Int32)) hx hb dX7_typeFaults_313 (by decide) ?_
                      refine lv_goto (tgt := 318) hx hb dX7_typeFaults_314 (by decide) ?_
                      exact J318 (1 : Int32) _ _ _  hS (lv_sub hl [0, 1, 2, 3, 4, 5] rfl)
                  have J296 : ∀ (H : Heap) (locs : List Loc) (ls : Array Slot), cx_S D vwCl A s (cyW q cI cZ n T k M d (cx_u Z 1 Z_1_161) F) H locs → lv_has ls 8 [(0, .ref (q 0)), (1, .int (nI t)), (2, .int ((T 3) t)), (3, .int ((v41_s0 + v55_s0) + v71_s0)), (4, .int v161_l4), (5, .int (nI i161))] → W p l e ({ frames := 3, cells := 0, slots := 0, locals := 66 } : Room) s m args below meth c H locs 0 0 Q (F0 m 296 ls [.int (nI t), .int (nI 6), .ref (q 0)]) := by
                    intro  H locs ls  hS hl
                    refine lv_iconst (v := (0 : Int32)) hx hb dX7_typeFaults_296 (by decide) ?_
                    exact J297 (0 : Int32) _ _ _  hS (lv_sub hl [0, 1, 2, 3, 4, 5] rfl)
                  refine lv_if_eq (tgt := 296) hx hb dX7_typeFaults_284 (by decide) (fun h284 => ?_) (fun h284 => ?_)
                  · skip
                    exact J296  _ _ _  hS (lv_sub hl [0, 1, 2, 3, 4, 5] rfl)
                  · skip
                    refine lv_iload hx hb dX7_typeFaults_287 (lv_at hl 4 rfl) ?_
                    refine lv_if_ne (tgt := 296) hx hb dX7_typeFaults_289 (by decide) (fun h289 => ?_) (fun h289 => ?_)
                    · skip
                      exact J296  _ _ _  hS (lv_sub hl [0, 1, 2, 3, 4, 5] rfl)
                    · skip
                      refine lv_iconst (v := (1 : Int32)) hx hb dX7_typeFaults_292 (by decide) ?_
                      refine lv_goto (tgt := 297) hx hb dX7_typeFaults_293 (by decide) ?_
                      exact J297 (1 : Int32) _ _ _  hS (lv_sub hl [0, 1, 2, 3, 4, 5] rfl)
                · skip
                  have g169 : ¬ ((((T 5) t).toNatClampNeg) ≤ i161) := fun z => h169 ((nI_leI (a := ((T 5) t).toNatClampNeg) (b := i161) (by omega) (by omega)).mpr z)
                  refine lv_aload_n hx hb dX7_typeFaults_172 rfl (lv_at hl 0 rfl) ?_
                  refine cx_get (own := RX7) (index := 22) (C := RX7) (T := TX7) (N := 22) (k := 5) (ci := 7) (v := .ref (q 5)) hx hb hts hown hE hS hinX7 0 rfl rfl (by decide) (List.mem_of_getElem? (i := 5) rfl) rfl dX7_typeFaults_173 ?_
                  refine lv_iconst (v := nI 3) hx hb dX7_typeFaults_176 (by decide) ?_
                  refine lv_iload_n hx hb dX7_typeFaults_177 rfl (lv_at hl 1 rfl) ?_
                  refine lv_imul hx hb dX7_typeFaults_178 ?_
                  refine cx_topr (z := nI (3 * t)) (pk_mul _ _) ?_
                  refine lv_iload hx hb dX7_typeFaults_179 (lv_at hl 5 rfl) ?_
                  refine lv_iadd hx hb dX7_typeFaults_181 ?_
                  refine cx_topr (z := nI (3 * t + i161)) (nI_add _ _) ?_
                  refine cx_iald (f := (T 4)) (n := 60) (cA := cI) hx hb hE hS 5 0 rfl rfl (by omega) (by decide) dX7_typeFaults_182 ?_
                  have ho182 := (hU (3 * t + i161)).2
                  refine cx_topr (z := nI (((T 4) (3 * t + i161)).toNatClampNeg)) (hU (3 * t + i161)).1 ?_
                  refine lv_istore (lv' := [(6, .int (nI (((T 4) (3 * t + i161)).toNatClampNeg))), (0, .ref (q 0)), (1, .int (nI t)), (2, .int ((T 3) t)), (3, .int ((v41_s0 + v55_s0) + v71_s0)), (4, .int v161_l4), (5, .int (nI i161))]) hx hb dX7_typeFaults_183 hl (by decide) rfl (fun ls hl => ?_)
                  refine lv_aload_n hx hb dX7_typeFaults_185 rfl (lv_at hl 1 rfl) ?_
                  refine lv_iload_n hx hb dX7_typeFaults_186 rfl (lv_at hl 2 rfl) ?_
                  refine lv_iload hx hb dX7_typeFaults_187 (lv_at hl 0 rfl) ?_
                  refine cx_cVv (As := [.int (nI t), .int (nI (((T 4) (3 * t + i161)).toNatClampNeg))]) (rest := []) ⟨hx, hb, hml, hown, hts⟩ hE hS (c_X7_sealedBy l D q cI cZ n T k M d (cx_u Z 1 Z_1_161) F t (nI (((T 4) (3 * t + i161)).toNatClampNeg)) (by first | assumption | omega) (by first | assumption | omega) (by first | assumption | omega)) (cwV 2 hts gX7_typeFaults_X7_sealedBy rfl rfl rfl (by decide +kernel) ⟨Nat.le_of_ble_eq_true rfl, Nat.le_of_ble_eq_true rfl⟩) 0 7 rfl rfl rfl hl.1 rfl (Nat.le_of_ble_eq_true rfl) ⟨Nat.zero_le _, Nat.zero_le _⟩ dX7_typeFaults_189 (fun u_189 H locs hp_189 hS => ?_)
                  obtain ⟨zf_189, rfl⟩ : ∃ z, z = u_189 := ⟨_, rfl⟩
                  have hS : cx_S D vwCl A s (cyW q cI cZ n T k M d (cx_u Z 1 zf_189) F) H locs := hS
                  refine lv_iload hx hb dX7_typeFaults_192 (lv_at hl 5 rfl) ?_
                  have J211 : ∀ (v211_s0 : Int32) (H : Heap) (locs : List Loc) (ls : Array Slot), cx_S D vwCl A s (cyW q cI cZ n T k M d (cx_u Z 1 zf_189) F) H locs → lv_has ls 8 [(0, .ref (q 0)), (1, .int (nI t)), (2, .int ((T 3) t)), (3, .int ((v41_s0 + v55_s0) + v71_s0)), (4, .int v161_l4), (5, .int (nI i161)), (6, .int (nI (((T 4) (3 * t + i161)).toNatClampNeg)))] → W p l e ({ frames := 3, cells := 0, slots := 0, locals := 66 } : Room) s m args below meth c H locs 0 0 Q (F0 m 211 ls [.int v211_s0]) := by
                    intro v211_s0 H locs ls  hS hl
                    refine lv_istore (lv' := [(4, .int v211_s0), (0, .ref (q 0)), (1, .int (nI t)), (2, .int ((T 3) t)), (3, .int ((v41_s0 + v55_s0) + v71_s0)), (5, .int (nI i161)), (6, .int (nI (((T 4) (3 * t + i161)).toNatClampNeg)))]) hx hb dX7_typeFaults_211 hl (by decide) rfl (fun ls hl => ?_)
                    refine lv_iconst (v := (0 : Int32)) hx hb dX7_typeFaults_213 (by decide) ?_
                    refine cx_topr (z := nI 0) (by decide) ?_
                    refine lv_istore (lv' := [(7, .int (nI 0)), (4, .int v211_s0), (0, .ref (q 0)), (1, .int (nI t)), (2, .int ((T 3) t)), (3, .int ((v41_s0 + v55_s0) + v71_s0)), (5, .int (nI i161)), (6, .int (nI (((T 4) (3 * t + i161)).toNatClampNeg)))]) hx hb dX7_typeFaults_214 hl (by decide) rfl (fun ls hl => ?_)
                    have J216 : ∀ (N : Nat) (i216 : Nat) (Z_1_216 : Nat → Int32) (H : Heap) (locs : List Loc) (ls : Array Slot), (i161 - i216 < N) → (i216 ≤ i161) → cx_S D vwCl A s (cyW q cI cZ n T k M d (cx_u Z 1 Z_1_216) F) H locs → lv_has ls 8 [(0, .ref (q 0)), (1, .int (nI t)), (2, .int ((T 3) t)), (3, .int ((v41_s0 + v55_s0) + v71_s0)), (4, .int v211_s0), (5, .int (nI i161)), (6, .int (nI (((T 4) (3 * t + i161)).toNatClampNeg))), (7, .int (nI i216))] → W p l e ({ frames := 3, cells := 0, slots := 0, locals := 66 } : Room) s m args below meth c H locs 0 0 Q (F0 m 216 ls []) := by
                      intro N216
                      induction N216 with
                      | zero => intro i216 Z_1_216 H locs ls hN; exact absurd hN (by omega)
                      | succ N216 ih216 =>
                        intro i216 Z_1_216 H locs ls hN216 hi216 hS hl
                        refine lv_iload hx hb dX7_typeFaults_216 (lv_at hl 7 rfl) ?_
                        refine lv_iload hx hb dX7_typeFaults_218 (lv_at hl 5 rfl) ?_
                        refine lv_icmp_ge (tgt := 267) hx hb dX7_typeFaults_220 (by decide) (fun h220 => ?_) (fun h220 => ?_)
                        · skip
                          have g220 : i161 ≤ i216 := (nI_leI (a := i161) (b := i216) (by omega) (by omega)).mp h220
                          refine lv_iinc (v := nI (i161 + 1)) (lv' := [(5, .int (nI (i161 + 1))), (0, .ref (q 0)), (1, .int (nI t)), (2, .int ((T 3) t)), (3, .int ((v41_s0 + v55_s0) + v71_s0)), (4, .int v211_s0), (6, .int (nI (((T 4) (3 * t + i161)).toNatClampNeg))), (7, .int (nI i216))]) hx hb dX7_typeFaults_267 hl (k := 5) rfl (cx_inc _) (by decide) rfl (fun ls hl => ?_)
                          refine lv_goto (tgt := 161) hx hb dX7_typeFaults_270 (by decide) ?_
                          exact ih161 v211_s0 (i161 + 1) Z_1_216 _ _ _ (by omega) (by omega) hS (lv_sub hl [1, 2, 3, 4, 5, 0] rfl)
                        · skip
                          have g220 : ¬ (i161 ≤ i216) := fun z => h220 ((nI_leI (a := i161) (b := i216) (by omega) (by omega)).mpr z)
                          refine lv_aload_n hx hb dX7_typeFaults_223 rfl (lv_at hl 0 rfl) ?_
                          refine lv_bipush (v := nI 8) hx hb dX7_typeFaults_224 (by decide) ?_
                          refine lv_iload hx hb dX7_typeFaults_226 (lv_at hl 6 rfl) ?_
                          refine lv_aload_n hx hb dX7_typeFaults_228 rfl (lv_at hl 0 rfl) ?_
                          refine lv_iload hx hb dX7_typeFaults_229 (lv_at hl 6 rfl) ?_
                          refine cx_cVi (As := [.int (nI (((T 4) (3 * t + i161)).toNatClampNeg))]) (rest := [.int (nI (((T 4) (3 * t + i161)).toNatClampNeg)), .int (nI 8), .ref (q 0)]) ⟨hx, hb, hml, hown, hts⟩ hE hS (c_X7_isType l D q cI cZ n T k M d (cx_u Z 1 Z_1_216) F (nI (((T 4) (3 * t + i161)).toNatClampNeg)) (by first | assumption | omega)) (cwV 1 hts gX7_typeFaults_X7_isType rfl rfl rfl (by decide +kernel) ⟨Nat.le_of_ble_eq_true rfl, Nat.le_of_ble_eq_true rfl⟩) 0 7 rfl rfl rfl hl.1 rfl (Nat.le_of_ble_eq_true rfl) ⟨Nat.zero_le _, Nat.zero_le _⟩ dX7_typeFaults_231 (fun r_231 u_231 H locs hp_231 hS => ?_)
                          have hp_231 : r_231 = cx_b (0 ≤ (nI (((T 4) (3 * t + i161)).toNatClampNeg)) ∧ (nI (((T 4) (3 * t + i161)).toNatClampNeg)) < nI n) := hp_231
                          subst hp_231
                          have J258 : ∀ (v258_s0 : Int32) (H : Heap) (locs : List Loc) (ls : Array Slot), cx_S D vwCl A s (cyW q cI cZ n T k M d (cx_u Z 1 Z_1_216) F) H locs → lv_has ls 8 [(0, .ref (q 0)), (1, .int (nI t)), (2, .int ((T 3) t)), (3, .int ((v41_s0 + v55_s0) + v71_s0)), (4, .int v211_s0), (5, .int (nI i161)), (6, .int (nI (((T 4) (3 * t + i161)).toNatClampNeg))), (7, .int (nI i216))] → W p l e ({ frames := 3, cells := 0, slots := 0, locals := 66 } : Room) s m args below meth c H locs 0 0 Q (F0 m 258 ls [.int v258_s0, .int (nI (((T 4) (3 * t + i161)).toNatClampNeg)), .int (nI 8), .ref (q 0)]) := by
                            intro v258_s0 H locs ls  hS hl
                            refine cx_cVv (As := [.int (nI 8), .int (nI (((T 4) (3 * t + i161)).toNatClampNeg)), .int v258_s0]) (rest := []) ⟨hx, hb, hml, hown, hts⟩ hE hS (c_X7_mark l D q cI cZ n T k M d (cx_u Z 1 Z_1_216) F 8 (((T 4) (3 * t + i161)).toNatClampNeg) v258_s0 (by first | assumption | omega) (by first | assumption | omega)) (cwV 3 hts gX7_typeFaults_X7_mark rfl rfl rfl (by decide +kernel) ⟨Nat.le_of_ble_eq_true rfl, Nat.le_of_ble_eq_true rfl⟩) 0 7 rfl rfl rfl hl.1 rfl (Nat.le_of_ble_eq_true rfl) ⟨Nat.zero_le _, Nat.zero_le _⟩ dX7_typeFaults_258 (fun u_258 H locs hp_258 hS => ?_)
                            obtain ⟨zf_258, rfl⟩ : ∃ z, z = u_258 := ⟨_, rfl⟩
                            have hS : cx_S D vwCl A s (cyW q cI cZ n T k M d (cx_u Z 1 zf_258) F) H locs := hS
                            refine lv_iinc (v := nI (i216 + 1)) (lv' := [(7, .int (nI (i216 + 1))), (0, .ref (q 0)), (1, .int (nI t)), (2, .int ((T 3) t)), (3, .int ((v41_s0 + v55_s0) + v71_s0)), (4, .int v211_s0), (5, .int (nI i161)), (6, .int (nI (((T 4) (3 * t + i161)).toNatClampNeg)))]) hx hb dX7_typeFaults_261 hl (k := 7) rfl (cx_inc _) (by decide) rfl (fun ls hl => ?_)
                            refine lv_goto (tgt := 216) hx hb dX7_typeFaults_264 (by decide) ?_
                            exact ih216 (i216 + 1) zf_258 _ _ _ (by omega) (by omega) hS (lv_sub hl [1, 2, 3, 4, 5, 6, 7, 0] rfl)
                          have J257 : ∀ (H : Heap) (locs : List Loc) (ls : Array Slot), cx_S D vwCl A s (cyW q cI cZ n T k M d (cx_u Z 1 Z_1_216) F) H locs → lv_has ls 8 [(0, .ref (q 0)), (1, .int (nI t)), (2, .int ((T 3) t)), (3, .int ((v41_s0 + v55_s0) + v71_s0)), (4, .int v211_s0), (5, .int (nI i161)), (6, .int (nI (((T 4) (3 * t + i161)).toNatClampNeg))), (7, .int (nI i216))] → W p l e ({ frames := 3, cells := 0, slots := 0, locals := 66 } : Room) s m args below meth c H locs 0 0 Q (F0 m 257 ls [.int (nI (((T 4) (3 * t + i161)).toNatClampNeg)), .int (nI 8), .ref (q 0)]) := by
                            intro  H locs ls  hS hl
                            refine lv_iconst (v := (0 : Int32)) hx hb dX7_typeFaults_257 (by decide) ?_
                            exact J258 (0 : Int32) _ _ _  hS (lv_sub hl [0, 1, 2, 3, 4, 5, 6, 7] rfl)
                          refine lv_if_eq (tgt := 257) hx hb dX7_typeFaults_234 (by decide) (fun h234 => ?_) (fun h234 => ?_)
                          · skip
                            have g234 := cx_b0 h234
                            exact J257  _ _ _  hS (lv_sub hl [0, 1, 2, 3, 4, 5, 6, 7] rfl)
                          · skip
                            have g234 := cx_b1 h234
                            refine lv_aload_n hx hb dX7_typeFaults_237 rfl (lv_at hl 0 rfl) ?_
                            refine cx_get (own := RX7) (index := 22) (C := RX7) (T := TX7) (N := 22) (k := 5) (ci := 7) (v := .ref (q 5)) hx hb hts hown hE hS hinX7 0 rfl rfl (by decide) (List.mem_of_getElem? (i := 5) rfl) rfl dX7_typeFaults_238 ?_
                            refine lv_iconst (v := nI 3) hx hb dX7_typeFaults_241 (by decide) ?_
                            refine lv_iload_n hx hb dX7_typeFaults_242 rfl (lv_at hl 1 rfl) ?_
                            refine lv_imul hx hb dX7_typeFaults_243 ?_
                            refine cx_topr (z := nI (3 * t)) (pk_mul _ _) ?_
                            refine lv_iload hx hb dX7_typeFaults_244 (lv_at hl 7 rfl) ?_
                            refine lv_iadd hx hb dX7_typeFaults_246 ?_
                            refine cx_topr (z := nI (3 * t + i216)) (nI_add _ _) ?_
                            refine cx_iald (f := (T 4)) (n := 60) (cA := cI) hx hb hE hS 5 0 rfl rfl (by omega) (by decide) dX7_typeFaults_247 ?_
                            have ho247 := (hU (3 * t + i216)).2
                            refine cx_topr (z := nI (((T 4) (3 * t + i216)).toNatClampNeg)) (hU (3 * t + i216)).1 ?_
                            refine lv_iload hx hb dX7_typeFaults_248 (lv_at hl 6 rfl) ?_
                            refine lv_icmp_ne (tgt := 257) hx hb dX7_typeFaults_250 (by decide) (fun h250 => ?_) (fun h250 => ?_)
                            · skip
                              have g250 : ¬ ((((T 4) (3 * t + i216)).toNatClampNeg) = (((T 4) (3 * t + i161)).toNatClampNeg)) := fun z => h250 ((nI_eq (a := ((T 4) (3 * t + i216)).toNatClampNeg) (b := ((T 4) (3 * t + i161)).toNatClampNeg) (by omega) (by omega)).mpr z)
                              exact J257  _ _ _  hS (lv_sub hl [0, 1, 2, 3, 4, 5, 6, 7] rfl)
                            · skip
                              have g250 : (((T 4) (3 * t + i216)).toNatClampNeg) = (((T 4) (3 * t + i161)).toNatClampNeg) := (nI_eq (a := ((T 4) (3 * t + i216)).toNatClampNeg) (b := ((T 4) (3 * t + i161)).toNatClampNeg) (by omega) (by omega)).mp h250
                              refine lv_iconst (v := (1 : Int32)) hx hb dX7_typeFaults_253 (by decide) ?_
                              refine lv_goto (tgt := 258) hx hb dX7_typeFaults_254 (by decide) ?_
                              exact J258 (1 : Int32) _ _ _  hS (lv_sub hl [0, 1, 2, 3, 4, 5, 6, 7] rfl)
                    exact J216 (i161 - 0 + 1) 0 zf_189 _ _ _ (Nat.lt_succ_self _) (by omega) hS (lv_sub hl [2, 3, 4, 5, 1, 6, 7, 0] rfl)
                  have J206 : ∀ (H : Heap) (locs : List Loc) (ls : Array Slot), cx_S D vwCl A s (cyW q cI cZ n T k M d (cx_u Z 1 zf_189) F) H locs → lv_has ls 8 [(0, .ref (q 0)), (1, .int (nI t)), (2, .int ((T 3) t)), (3, .int ((v41_s0 + v55_s0) + v71_s0)), (4, .int v161_l4), (5, .int (nI i161)), (6, .int (nI (((T 4) (3 * t + i161)).toNatClampNeg)))] → W p l e ({ frames := 3, cells := 0, slots := 0, locals := 66 } : Room) s m args below meth c H locs 0 0 Q (F0 m 206 ls []) := by
                    intro  H locs ls  hS hl
                    refine lv_iconst (v := (1 : Int32)) hx hb dX7_typeFaults_206 (by decide) ?_
                    refine lv_goto (tgt := 211) hx hb dX7_typeFaults_207 (by decide) ?_
                    exact J211 (1 : Int32) _ _ _  hS (lv_sub hl [0, 1, 2, 3, 4, 5, 6] rfl)
                  refine lv_if_ne (tgt := 206) hx hb dX7_typeFaults_194 (by decide) (fun h194 => ?_) (fun h194 => ?_)
                  · skip
                    exact J206  _ _ _  hS (lv_sub hl [1, 2, 3, 4, 5, 6, 0] rfl)
                  · skip
                    refine lv_aload_n hx hb dX7_typeFaults_197 rfl (lv_at hl 1 rfl) ?_
                    refine lv_iload hx hb dX7_typeFaults_198 (lv_at hl 0 rfl) ?_
                    refine cx_cVi (As := [.int (nI (((T 4) (3 * t + i161)).toNatClampNeg))]) (rest := []) ⟨hx, hb, hml, hown, hts⟩ hE hS (c_X7_isSealed l D q cI cZ n T k M d (cx_u Z 1 zf_189) F (nI (((T 4) (3 * t + i161)).toNatClampNeg)) (by first | assumption | omega)) (cwV 1 hts gX7_typeFaults_X7_isSealed rfl rfl rfl (by decide +kernel) ⟨Nat.le_of_ble_eq_true rfl, Nat.le_of_ble_eq_true rfl⟩) 0 7 rfl rfl rfl hl.1 rfl (Nat.le_of_ble_eq_true rfl) ⟨Nat.zero_le _, Nat.zero_le _⟩ dX7_typeFaults_200 (fun r_200 u_200 H locs hp_200 hS => ?_)
                    have hp_200 : r_200 = 0 ∨ r_200 = 1 := hp_200
                    refine lv_if_eq (tgt := 210) hx hb dX7_typeFaults_203 (by decide) (fun h203 => ?_) (fun h203 => ?_)
                    · skip
                      refine lv_iconst (v := (0 : Int32)) hx hb dX7_typeFaults_210 (by decide) ?_
                      exact J211 (0 : Int32) _ _ _  hS (lv_sub hl [1, 2, 3, 4, 5, 6, 0] rfl)
                    · skip
                      exact J206  _ _ _  hS (lv_sub hl [1, 2, 3, 4, 5, 6, 0] rfl)
            exact J161 (((T 5) t).toNatClampNeg - 0 + 1) r_153 0 zf_148 _ _ _ (Nat.lt_succ_self _) (by omega) hS (lv_sub hl [2, 3, 4, 5, 1, 0] rfl)
          have J137 : ∀ (H : Heap) (locs : List Loc) (ls : Array Slot), cx_S D vwCl A s (cyW q cI cZ n T k M d (cx_u Z 1 Z_1_27) F) H locs → lv_has ls 8 [(0, .ref (q 0)), (1, .int (nI t)), (2, .int ((T 3) t)), (3, .int ((v41_s0 + v55_s0) + v71_s0))] → W p l e ({ frames := 3, cells := 0, slots := 0, locals := 66 } : Room) s m args below meth c H locs 0 0 Q (F0 m 137 ls [.int (nI t), .int (nI 5), .ref (q 0)]) := by
            intro  H locs ls  hS hl
            refine lv_iconst (v := (1 : Int32)) hx hb dX7_typeFaults_137 (by decide) ?_
            refine lv_goto (tgt := 142) hx hb dX7_typeFaults_138 (by decide) ?_
            exact J142 (1 : Int32) _ _ _  hS (lv_sub hl [0, 1, 2, 3] rfl)
          refine lv_icmp_gt (tgt := 137) hx hb dX7_typeFaults_78 (by decide) (fun h78 => ?_) (fun h78 => ?_)
          · skip
            exact J137  _ _ _  hS (lv_sub hl [1, 2, 3, 0] rfl)
          · skip
            refine lv_aload_n hx hb dX7_typeFaults_81 rfl (lv_at hl 1 rfl) ?_
            refine lv_iload_n hx hb dX7_typeFaults_82 rfl (lv_at hl 2 rfl) ?_
            refine lv_iconst (v := (1 : Int32)) hx hb dX7_typeFaults_83 (by decide) ?_
            refine cx_cVi (As := [.int (nI t), .int (1 : Int32)]) (rest := [.int (nI t), .int (nI 5), .ref (q 0)]) ⟨hx, hb, hml, hown, hts⟩ hE hS (c_X7_marked l D q cI cZ n T k M d (cx_u Z 1 Z_1_27) F t (1 : Int32) (by first | assumption | omega)) (cwV 2 hts gX7_typeFaults_X7_marked rfl rfl rfl (by decide +kernel) ⟨Nat.le_of_ble_eq_true rfl, Nat.le_of_ble_eq_true rfl⟩) 0 7 rfl rfl rfl hl.1 rfl (Nat.le_of_ble_eq_true rfl) ⟨Nat.zero_le _, Nat.zero_le _⟩ dX7_typeFaults_84 (fun r_84 u_84 H locs hp_84 hS => ?_)
            have hp_84 : r_84 = 0 ∨ r_84 = 1 := hp_84
            have J99 : ∀ (H : Heap) (locs : List Loc) (ls : Array Slot), cx_S D vwCl A s (cyW q cI cZ n T k M d (cx_u Z 1 Z_1_27) F) H locs → lv_has ls 8 [(0, .ref (q 0)), (1, .int (nI t)), (2, .int ((T 3) t)), (3, .int ((v41_s0 + v55_s0) + v71_s0))] → W p l e ({ frames := 3, cells := 0, slots := 0, locals := 66 } : Room) s m args below meth c H locs 0 0 Q (F0 m 99 ls [.int (nI t), .int (nI 5), .ref (q 0)]) := by
              intro  H locs ls  hS hl
              refine lv_aload_n hx hb dX7_typeFaults_99 rfl (lv_at hl 0 rfl) ?_
              refine lv_iload_n hx hb dX7_typeFaults_100 rfl (lv_at hl 1 rfl) ?_
              refine lv_iconst (v := nI 2) hx hb dX7_typeFaults_101 (by decide) ?_
              refine cx_cVi (As := [.int (nI t), .int (nI 2)]) (rest := [.int (nI t), .int (nI 5), .ref (q 0)]) ⟨hx, hb, hml, hown, hts⟩ hE hS (c_X7_marked l D q cI cZ n T k M d (cx_u Z 1 Z_1_27) F t (nI 2) (by first | assumption | omega)) (cwV 2 hts gX7_typeFaults_X7_marked rfl rfl rfl (by decide +kernel) ⟨Nat.le_of_ble_eq_true rfl, Nat.le_of_ble_eq_true rfl⟩) 0 7 rfl rfl rfl hl.1 rfl (Nat.le_of_ble_eq_true rfl) ⟨Nat.zero_le _, Nat.zero_le _⟩ dX7_typeFaults_102 (fun r_102 u_102 H locs hp_102 hS => ?_)
              have hp_102 : r_102 = 0 ∨ r_102 = 1 := hp_102
              have J118 : ∀ (H : Heap) (locs : List Loc) (ls : Array Slot), cx_S D vwCl A s (cyW q cI cZ n T k M d (cx_u Z 1 Z_1_27) F) H locs → lv_has ls 8 [(0, .ref (q 0)), (1, .int (nI t)), (2, .int ((T 3) t)), (3, .int ((v41_s0 + v55_s0) + v71_s0))] → W p l e ({ frames := 3, cells := 0, slots := 0, locals := 66 } : Room) s m args below meth c H locs 0 0 Q (F0 m 118 ls [.int (nI t), .int (nI 5), .ref (q 0)]) := by
                intro  H locs ls  hS hl
                refine lv_aload_n hx hb dX7_typeFaults_118 rfl (lv_at hl 0 rfl) ?_
                refine cx_get (own := RX7) (index := 13) (C := RX7) (T := TX7) (N := 22) (k := 2) (ci := 7) (v := .ref (q 2)) hx hb hts hown hE hS hinX7 0 rfl rfl (by decide) (List.mem_of_getElem? (i := 3) rfl) rfl dX7_typeFaults_119 ?_
                refine lv_iload_n hx hb dX7_typeFaults_122 rfl (lv_at hl 1 rfl) ?_
                refine cx_iald (f := (T 1)) (n := 20) (cA := cI) hx hb hE hS 2 0 rfl rfl (by omega) (by decide) dX7_typeFaults_123 ?_
                have J141 : ∀ (H : Heap) (locs : List Loc) (ls : Array Slot), cx_S D vwCl A s (cyW q cI cZ n T k M d (cx_u Z 1 Z_1_27) F) H locs → lv_has ls 8 [(0, .ref (q 0)), (1, .int (nI t)), (2, .int ((T 3) t)), (3, .int ((v41_s0 + v55_s0) + v71_s0))] → W p l e ({ frames := 3, cells := 0, slots := 0, locals := 66 } : Room) s m args below meth c H locs 0 0 Q (F0 m 141 ls [.int (nI t), .int (nI 5), .ref (q 0)]) := by
                  intro  H locs ls  hS hl
                  refine lv_iconst (v := (0 : Int32)) hx hb dX7_typeFaults_141 (by decide) ?_
                  exact J142 (0 : Int32) _ _ _  hS (lv_sub hl [0, 1, 2, 3] rfl)
                refine lv_if_eq (tgt := 141) hx hb dX7_typeFaults_124 (by decide) (fun h124 => ?_) (fun h124 => ?_)
                · skip
                  exact J141  _ _ _  hS (lv_sub hl [0, 1, 2, 3] rfl)
                · skip
                  refine lv_aload_n hx hb dX7_typeFaults_127 rfl (lv_at hl 0 rfl) ?_
                  refine cx_get (own := RX7) (index := 7) (C := RX7) (T := TX7) (N := 22) (k := 1) (ci := 7) (v := .ref (q 1)) hx hb hts hown hE hS hinX7 0 rfl rfl (by decide) (List.mem_of_getElem? (i := 2) rfl) rfl dX7_typeFaults_128 ?_
                  refine lv_iload_n hx hb dX7_typeFaults_131 rfl (lv_at hl 1 rfl) ?_
                  refine cx_iald (f := (T 0)) (n := 20) (cA := cI) hx hb hE hS 1 0 rfl rfl (by omega) (by decide) dX7_typeFaults_132 ?_
                  refine lv_iconst (v := nI 2) hx hb dX7_typeFaults_133 (by decide) ?_
                  refine lv_icmp_lt (tgt := 141) hx hb dX7_typeFaults_134 (by decide) (fun h134 => ?_) (fun h134 => ?_)
                  · skip
                    exact J141  _ _ _  hS (lv_sub hl [0, 1, 2, 3] rfl)
                  · skip
                    exact J137  _ _ _  hS (lv_sub hl [0, 1, 2, 3] rfl)
              refine lv_if_eq (tgt := 118) hx hb dX7_typeFaults_105 (by decide) (fun h105 => ?_) (fun h105 => ?_)
              · skip
                exact J118  _ _ _  hS (lv_sub hl [0, 1, 2, 3] rfl)
              · skip
                refine lv_aload_n hx hb dX7_typeFaults_108 rfl (lv_at hl 0 rfl) ?_
                refine cx_get (own := RX7) (index := 7) (C := RX7) (T := TX7) (N := 22) (k := 1) (ci := 7) (v := .ref (q 1)) hx hb hts hown hE hS hinX7 0 rfl rfl (by decide) (List.mem_of_getElem? (i := 2) rfl) rfl dX7_typeFaults_109 ?_
                refine lv_iload_n hx hb dX7_typeFaults_112 rfl (lv_at hl 1 rfl) ?_
                refine cx_iald (f := (T 0)) (n := 20) (cA := cI) hx hb hE hS 1 0 rfl rfl (by omega) (by decide) dX7_typeFaults_113 ?_
                refine lv_iconst (v := (1 : Int32)) hx hb dX7_typeFaults_114 (by decide) ?_
                refine lv_icmp_eq (tgt := 137) hx hb dX7_typeFaults_115 (by decide) (fun h115 => ?_) (fun h115 => ?_)
                · skip
                  exact J137  _ _ _  hS (lv_sub hl [0, 1, 2, 3] rfl)
                · skip
                  exact J118  _ _ _  hS (lv_sub hl [0, 1, 2, 3] rfl)
            refine lv_if_eq (tgt := 99) hx hb dX7_typeFaults_87 (by decide) (fun h87 => ?_) (fun h87 => ?_)
            · skip
              exact J99  _ _ _  hS (lv_sub hl [1, 2, 3, 0] rfl)
            · skip
              refine lv_aload_n hx hb dX7_typeFaults_90 rfl (lv_at hl 1 rfl) ?_
              refine lv_iload_n hx hb dX7_typeFaults_91 rfl (lv_at hl 2 rfl) ?_
              refine lv_iconst (v := nI 2) hx hb dX7_typeFaults_92 (by decide) ?_
              refine cx_cVi (As := [.int (nI t), .int (nI 2)]) (rest := [.int (nI t), .int (nI 5), .ref (q 0)]) ⟨hx, hb, hml, hown, hts⟩ hE hS (c_X7_marked l D q cI cZ n T k M d (cx_u Z 1 Z_1_27) F t (nI 2) (by first | assumption | omega)) (cwV 2 hts gX7_typeFaults_X7_marked rfl rfl rfl (by decide +kernel) ⟨Nat.le_of_ble_eq_true rfl, Nat.le_of_ble_eq_true rfl⟩) 0 7 rfl rfl rfl hl.1 rfl (Nat.le_of_ble_eq_true rfl) ⟨Nat.zero_le _, Nat.zero_le _⟩ dX7_typeFaults_93 (fun r_93 u_93 H locs hp_93 hS => ?_)
              have hp_93 : r_93 = 0 ∨ r_93 = 1 := hp_93
              refine lv_if_ne (tgt := 137) hx hb dX7_typeFaults_96 (by decide) (fun h96 => ?_) (fun h96 => ?_)
              · skip
                exact J137  _ _ _  hS (lv_sub hl [1, 2, 3, 0] rfl)
              · skip
                exact J99  _ _ _  hS (lv_sub hl [1, 2, 3, 0] rfl)
        refine lv_if_eq (tgt := 70) hx hb dX7_typeFaults_63 (by decide) (fun h63 => ?_) (fun h63 => ?_)
        · skip
          refine lv_iconst (v := (0 : Int32)) hx hb dX7_typeFaults_70 (by decide) ?_
          exact J71 (0 : Int32) _ _ _  hS (lv_sub hl [0, 1, 2] rfl)
        · skip
          refine lv_iconst (v := (1 : Int32)) hx hb dX7_typeFaults_66 (by decide) ?_
          refine lv_goto (tgt := 71) hx hb dX7_typeFaults_67 (by decide) ?_
          exact J71 (1 : Int32) _ _ _  hS (lv_sub hl [0, 1, 2] rfl)
      refine lv_if_eq (tgt := 54) hx hb dX7_typeFaults_47 (by decide) (fun h47 => ?_) (fun h47 => ?_)
      · skip
        refine lv_iconst (v := (0 : Int32)) hx hb dX7_typeFaults_54 (by decide) ?_
        exact J55 (0 : Int32) _ _ _  hS (lv_sub hl [0, 1, 2] rfl)
      · skip
        refine lv_iconst (v := (1 : Int32)) hx hb dX7_typeFaults_50 (by decide) ?_
        refine lv_goto (tgt := 55) hx hb dX7_typeFaults_51 (by decide) ?_
        exact J55 (1 : Int32) _ _ _  hS (lv_sub hl [0, 1, 2] rfl)
    refine lv_if_eq (tgt := 40) hx hb dX7_typeFaults_33 (by decide) (fun h33 => ?_) (fun h33 => ?_)
    · skip
      refine lv_iconst (v := (0 : Int32)) hx hb dX7_typeFaults_40 (by decide) ?_
      exact J41 (0 : Int32) _ _ _  hS (lv_sub hl [0, 1, 2] rfl)
    · skip
      refine lv_iconst (v := (1 : Int32)) hx hb dX7_typeFaults_36 (by decide) ?_
      refine lv_goto (tgt := 41) hx hb dX7_typeFaults_37 (by decide) ?_
      exact J41 (1 : Int32) _ _ _  hS (lv_sub hl [0, 1, 2] rfl)
  refine lv_if_eq (tgt := 27) hx hb dX7_typeFaults_12 (by decide) (fun h12 => ?_) (fun h12 => ?_)
  · skip
    have g12 := cx_b0 h12
    exact J27 (Z 1) _ _ _  hS (lv_sub hl [1, 2, 0] rfl)
  · skip
    have g12 := cx_b1 h12
    have hq12 := (cx_ixT (by omega) g12).2
    refine lv_aload_n hx hb dX7_typeFaults_15 rfl (lv_at hl 1 rfl) ?_
    refine lv_iconst (v := nI 4) hx hb dX7_typeFaults_16 (by decide) ?_
    refine lv_iload_n hx hb dX7_typeFaults_17 rfl (lv_at hl 0 rfl) ?_
    refine cx_topr (z := nI (((T 3) t).toNatClampNeg)) (cx_ixT (by omega) g12).1 ?_
    refine lv_aload_n hx hb dX7_typeFaults_18 rfl (lv_at hl 1 rfl) ?_
    refine lv_iload_n hx hb dX7_typeFaults_19 rfl (lv_at hl 0 rfl) ?_
    refine cx_topr (z := nI (((T 3) t).toNatClampNeg)) (cx_ixT (by omega) g12).1 ?_
    refine lv_iconst (v := nI 2) hx hb dX7_typeFaults_20 (by decide) ?_
    refine cx_cVi (As := [.int (nI (((T 3) t).toNatClampNeg)), .int (nI 2)]) (rest := [.int (nI (((T 3) t).toNatClampNeg)), .int (nI 4), .ref (q 0)]) ⟨hx, hb, hml, hown, hts⟩ hE hS (c_X7_marked l D q cI cZ n T k M d Z F (((T 3) t).toNatClampNeg) (nI 2) (by first | assumption | omega)) (cwV 2 hts gX7_typeFaults_X7_marked rfl rfl rfl (by decide +kernel) ⟨Nat.le_of_ble_eq_true rfl, Nat.le_of_ble_eq_true rfl⟩) 0 7 rfl rfl rfl hl.1 rfl (Nat.le_of_ble_eq_true rfl) ⟨Nat.zero_le _, Nat.zero_le _⟩ dX7_typeFaults_21 (fun r_21 u_21 H locs hp_21 hS => ?_)
    have hp_21 : r_21 = 0 ∨ r_21 = 1 := hp_21
    refine cx_cVv (As := [.int (nI 4), .int (nI (((T 3) t).toNatClampNeg)), .int r_21]) (rest := []) ⟨hx, hb, hml, hown, hts⟩ hE hS (c_X7_mark l D q cI cZ n T k M d Z F 4 (((T 3) t).toNatClampNeg) r_21 (by first | assumption | omega) (by first | assumption | omega)) (cwV 3 hts gX7_typeFaults_X7_mark rfl rfl rfl (by decide +kernel) ⟨Nat.le_of_ble_eq_true rfl, Nat.le_of_ble_eq_true rfl⟩) 0 7 rfl rfl rfl hl.1 rfl (Nat.le_of_ble_eq_true rfl) ⟨Nat.zero_le _, Nat.zero_le _⟩ dX7_typeFaults_24 (fun u_24 H locs hp_24 hS => ?_)
    obtain ⟨zf_24, rfl⟩ : ∃ z, z = u_24 := ⟨_, rfl⟩
    have hS : cx_S D vwCl A s (cyW q cI cZ n T k M d (cx_u Z 1 zf_24) F) H locs := hS
    exact J27 zf_24 _ _ _  hS (lv_sub hl [1, 2, 0] rfl)
set_option maxHeartbeats 4000000 in
set_option maxRecDepth 100000 in
theorem c_X7_isWrong (l : Launch) (D : va_G) (q : Nat → Nat) (cI cZ : ClassId) (n : Nat) (T : Nat → Nat → Int32) (k : Nat) (M : Nat → Nat → Int32) (d : Nat) (Z : Nat → Nat → Int32) (F : Nat → Nat → Int32) (mm : Nat) (t : Nat) (hm : mm < 80) (ht : t < 20) : cx_Mi l D vwCl [(cI, .int), (cZ, .boolean)] cx_NW yX7_isWrong wsX7_isWrong ({ frames := 1, cells := 0, slots := 0, locals := 23 } : Room) [.ref (q 0), .int (nI mm), .int (nI t)] (cyW q cI cZ n T k M d Z F) (fun (r : Int32) (uw : Unit) => r = 0 ∨ r = 1) (fun _ => (cyW q cI cZ n T k M d Z F)) := by
  refine cx_Mi.of (cc := cX7_isWrong) (maxL := 6) cx_NW_ok (by decide) rfl (Nat.le_of_ble_eq_true rfl) ?_
  intro p e s m args below meth c Q A ls hx hb hml hown hts hE RET hS hl
  have hl : lv_has ls 6 [(0, .ref (q 0)), (1, .int (nI mm)), (2, .int (nI t))] := hl
  have hown : s.vm.findClass RX7 = some m.cls := hown
  have hinX7 : ∀ w ∈ u_ws RX7 TX7 22, w ∈ wsX7_isWrong := cx_mem [17, 18, 19, 20, 21, 22, 23, 24, 25, 26, 27, 28, 29, 30, 31, 32, 33, 34, 35, 36, 37, 38] (by decide +kernel)
  refine lv_aload_n hx hb dX7_isWrong_0 rfl (lv_at hl 0 rfl) ?_
  refine lv_iload_n hx hb dX7_isWrong_1 rfl (lv_at hl 1 rfl) ?_
  refine lv_iconst (v := (1 : Int32)) hx hb dX7_isWrong_2 (by decide) ?_
  refine lv_iconst (v := (1 : Int32)) hx hb dX7_isWrong_3 (by decide) ?_
  refine cx_cVi (As := [.int (nI mm), .int (1 : Int32), .int (1 : Int32)]) (rest := []) ⟨hx, hb, hml, hown, hts⟩ hE hS (c_X7_is l D q cI cZ n T k M d Z F mm (1 : Int32) (1 : Int32) (by first | assumption | omega)) (cwV 3 hts gX7_isWrong_X7_is rfl rfl rfl (by decide +kernel) ⟨Nat.le_of_ble_eq_true rfl, Nat.le_of_ble_eq_true rfl⟩) 0 7 rfl rfl rfl hl.1 rfl (Nat.le_of_ble_eq_true rfl) ⟨Nat.zero_le _, Nat.zero_le _⟩ dX7_isWrong_4 (fun r_4 u_4 H locs hp_4 hS => ?_)
  have hp_4 : r_4 = cx_b ((cx_b (¬ (((M 3) mm) &&& (1 : Int32)) = 0)) = (1 : Int32)) := hp_4
  subst hp_4
  refine lv_topi (fun x7 ex7 => ?_)
  refine lv_istore_n (lv' := [(3, .int x7), (0, .ref (q 0)), (1, .int (nI mm)), (2, .int (nI t))]) hx hb dX7_isWrong_7 rfl hl (by decide) rfl (fun ls hl => ?_)
  refine lv_aload_n hx hb dX7_isWrong_8 rfl (lv_at hl 1 rfl) ?_
  refine cx_get (own := RX7) (index := 46) (C := RX7) (T := TX7) (N := 22) (k := 14) (ci := 7) (v := .ref (q 13)) hx hb hts hown hE hS hinX7 0 rfl rfl (by decide) (List.mem_of_getElem? (i := 1) rfl) rfl dX7_isWrong_9 ?_
  refine lv_iload_n hx hb dX7_isWrong_12 rfl (lv_at hl 2 rfl) ?_
  refine cx_iald (f := (M 4)) (n := 80) (cA := cI) hx hb hE hS 13 0 rfl rfl (by omega) (by decide) dX7_isWrong_13 ?_
  have J22 : ∀ (v22_s0 : Int32) (H : Heap) (locs : List Loc) (ls : Array Slot), cx_S D vwCl A s (cyW q cI cZ n T k M d Z F) H locs → lv_has ls 6 [(0, .ref (q 0)), (1, .int (nI mm)), (2, .int (nI t)), (3, .int x7)] → W p l e ({ frames := 1, cells := 0, slots := 0, locals := 23 } : Room) s m args below meth c H locs 0 0 Q (F0 m 22 ls [.int v22_s0]) := by
    intro v22_s0 H locs ls  hS hl
    refine lv_istore (lv' := [(4, .int v22_s0), (0, .ref (q 0)), (1, .int (nI mm)), (2, .int (nI t)), (3, .int x7)]) hx hb dX7_isWrong_22 hl (by decide) rfl (fun ls hl => ?_)
    refine lv_aload_n hx hb dX7_isWrong_24 rfl (lv_at hl 1 rfl) ?_
    refine cx_get (own := RX7) (index := 7) (C := RX7) (T := TX7) (N := 22) (k := 1) (ci := 7) (v := .ref (q 1)) hx hb hts hown hE hS hinX7 0 rfl rfl (by decide) (List.mem_of_getElem? (i := 2) rfl) rfl dX7_isWrong_25 ?_
    refine lv_iload_n hx hb dX7_isWrong_28 rfl (lv_at hl 3 rfl) ?_
    refine cx_iald (f := (T 0)) (n := 20) (cA := cI) hx hb hE hS 1 0 rfl rfl (by omega) (by decide) dX7_isWrong_29 ?_
    refine lv_iconst (v := (1 : Int32)) hx hb dX7_isWrong_30 (by decide) ?_
    refine lv_icmp_ne (tgt := 125) hx hb dX7_isWrong_31 (by decide) (fun h31 => ?_) (fun h31 => ?_)
    · skip
      refine lv_aload_n hx hb dX7_isWrong_125 rfl (lv_at hl 1 rfl) ?_
      refine cx_get (own := RX7) (index := 7) (C := RX7) (T := TX7) (N := 22) (k := 1) (ci := 7) (v := .ref (q 1)) hx hb hts hown hE hS hinX7 0 rfl rfl (by decide) (List.mem_of_getElem? (i := 2) rfl) rfl dX7_isWrong_126 ?_
      refine lv_iload_n hx hb dX7_isWrong_129 rfl (lv_at hl 3 rfl) ?_
      refine cx_iald (f := (T 0)) (n := 20) (cA := cI) hx hb hE hS 1 0 rfl rfl (by omega) (by decide) dX7_isWrong_130 ?_
      have J148 : ∀ (v148_s0 : Int32) (H : Heap) (locs : List Loc) (ls : Array Slot), cx_S D vwCl A s (cyW q cI cZ n T k M d Z F) H locs → lv_has ls 6 [(0, .ref (q 0)), (1, .int (nI mm)), (2, .int (nI t)), (3, .int x7), (4, .int v22_s0)] → W p l e ({ frames := 1, cells := 0, slots := 0, locals := 23 } : Room) s m args below meth c H locs 0 0 Q (F0 m 148 ls [.int v148_s0]) := by
        intro v148_s0 H locs ls  hS hl
        refine lv_istore (lv' := [(5, .int v148_s0), (0, .ref (q 0)), (1, .int (nI mm)), (2, .int (nI t)), (3, .int x7), (4, .int v22_s0)]) hx hb dX7_isWrong_148 hl (by decide) rfl (fun ls hl => ?_)
        refine lv_aload_n hx hb dX7_isWrong_150 rfl (lv_at hl 1 rfl) ?_
        refine lv_iload_n hx hb dX7_isWrong_151 rfl (lv_at hl 2 rfl) ?_
        refine lv_iconst (v := (1 : Int32)) hx hb dX7_isWrong_152 (by decide) ?_
        refine lv_bipush (v := nI 8) hx hb dX7_isWrong_153 (by decide) ?_
        refine cx_cVi (As := [.int (nI mm), .int (1 : Int32), .int (nI 8)]) (rest := []) ⟨hx, hb, hml, hown, hts⟩ hE hS (c_X7_is l D q cI cZ n T k M d Z F mm (1 : Int32) (nI 8) (by first | assumption | omega)) (cwV 3 hts gX7_isWrong_X7_is rfl rfl rfl (by decide +kernel) ⟨Nat.le_of_ble_eq_true rfl, Nat.le_of_ble_eq_true rfl⟩) 0 7 rfl rfl rfl hl.1 rfl (Nat.le_of_ble_eq_true rfl) ⟨Nat.zero_le _, Nat.zero_le _⟩ dX7_isWrong_155 (fun r_155 u_155 H locs hp_155 hS => ?_)
        have hp_155 : r_155 = cx_b ((cx_b (¬ (((M 3) mm) &&& (nI 8)) = 0)) = (1 : Int32)) := hp_155
        subst hp_155
        have J200 : ∀ (v200_s0 : Int32) (H : Heap) (locs : List Loc) (ls : Array Slot), (v200_s0 = 0 ∨ v200_s0 = 1) → cx_S D vwCl A s (cyW q cI cZ n T k M d Z F) H locs → lv_has ls 6 [(0, .ref (q 0)), (1, .int (nI mm)), (2, .int (nI t)), (3, .int x7), (4, .int v22_s0), (5, .int v148_s0)] → W p l e ({ frames := 1, cells := 0, slots := 0, locals := 23 } : Room) s m args below meth c H locs 0 0 Q (F0 m 200 ls [.int v200_s0]) := by
          intro v200_s0 H locs ls hb200 hS hl
          exact RET _ () _ _ _ _ dX7_isWrong_200 (cx_nb (by first | assumption | exact cx_bb)) (by first | exact Or.inl rfl | exact Or.inr rfl | assumption | exact cx_bb) hS
        have J195 : ∀ (H : Heap) (locs : List Loc) (ls : Array Slot), cx_S D vwCl A s (cyW q cI cZ n T k M d Z F) H locs → lv_has ls 6 [(0, .ref (q 0)), (1, .int (nI mm)), (2, .int (nI t)), (3, .int x7), (4, .int v22_s0), (5, .int v148_s0)] → W p l e ({ frames := 1, cells := 0, slots := 0, locals := 23 } : Room) s m args below meth c H locs 0 0 Q (F0 m 195 ls []) := by
          intro  H locs ls  hS hl
          refine lv_iconst (v := (1 : Int32)) hx hb dX7_isWrong_195 (by decide) ?_
          refine lv_goto (tgt := 200) hx hb dX7_isWrong_196 (by decide) ?_
          exact J200 (1 : Int32) _ _ _ (by first | exact Or.inl rfl | exact Or.inr rfl | assumption | exact cx_bb) hS (lv_sub hl [0, 1, 2, 3, 4, 5] rfl)
        refine lv_if_ne (tgt := 195) hx hb dX7_isWrong_158 (by decide) (fun h158 => ?_) (fun h158 => ?_)
        · skip
          have g158 := cx_b1 h158
          exact J195  _ _ _  hS (lv_sub hl [1, 2, 3, 4, 5, 0] rfl)
        · skip
          have g158 := cx_b0 h158
          refine lv_iload_n hx hb dX7_isWrong_161 rfl (lv_at hl 4 rfl) ?_
          have J199 : ∀ (H : Heap) (locs : List Loc) (ls : Array Slot), cx_S D vwCl A s (cyW q cI cZ n T k M d Z F) H locs → lv_has ls 6 [(0, .ref (q 0)), (1, .int (nI mm)), (2, .int (nI t)), (3, .int x7), (4, .int v22_s0), (5, .int v148_s0)] → W p l e ({ frames := 1, cells := 0, slots := 0, locals := 23 } : Room) s m args below meth c H locs 0 0 Q (F0 m 199 ls []) := by
            intro  H locs ls  hS hl
            refine lv_iconst (v := (0 : Int32)) hx hb dX7_isWrong_199 (by decide) ?_
            exact J200 (0 : Int32) _ _ _ (by first | exact Or.inl rfl | exact Or.inr rfl | assumption | exact cx_bb) hS (lv_sub hl [0, 1, 2, 3, 4, 5] rfl)
          refine lv_if_eq (tgt := 199) hx hb dX7_isWrong_162 (by decide) (fun h162 => ?_) (fun h162 => ?_)
          · skip
            exact J199  _ _ _  hS (lv_sub hl [1, 2, 3, 4, 5, 0] rfl)
          · skip
            refine lv_aload_n hx hb dX7_isWrong_165 rfl (lv_at hl 1 rfl) ?_
            refine lv_iload_n hx hb dX7_isWrong_166 rfl (lv_at hl 2 rfl) ?_
            refine lv_iconst (v := (1 : Int32)) hx hb dX7_isWrong_167 (by decide) ?_
            refine lv_iconst (v := nI 2) hx hb dX7_isWrong_168 (by decide) ?_
            refine cx_cVi (As := [.int (nI mm), .int (1 : Int32), .int (nI 2)]) (rest := []) ⟨hx, hb, hml, hown, hts⟩ hE hS (c_X7_is l D q cI cZ n T k M d Z F mm (1 : Int32) (nI 2) (by first | assumption | omega)) (cwV 3 hts gX7_isWrong_X7_is rfl rfl rfl (by decide +kernel) ⟨Nat.le_of_ble_eq_true rfl, Nat.le_of_ble_eq_true rfl⟩) 0 7 rfl rfl rfl hl.1 rfl (Nat.le_of_ble_eq_true rfl) ⟨Nat.zero_le _, Nat.zero_le _⟩ dX7_isWrong_169 (fun r_169 u_169 H locs hp_169 hS => ?_)
            have hp_169 : r_169 = cx_b ((cx_b (¬ (((M 3) mm) &&& (nI 2)) = 0)) = (1 : Int32)) := hp_169
            subst hp_169
            refine lv_if_ne (tgt := 195) hx hb dX7_isWrong_172 (by decide) (fun h172 => ?_) (fun h172 => ?_)
            · skip
              have g172 := cx_b1 h172
              exact J195  _ _ _  hS (lv_sub hl [1, 2, 3, 4, 5, 0] rfl)
            · skip
              have g172 := cx_b0 h172
              refine lv_aload_n hx hb dX7_isWrong_175 rfl (lv_at hl 1 rfl) ?_
              refine lv_iload_n hx hb dX7_isWrong_176 rfl (lv_at hl 2 rfl) ?_
              refine lv_iconst (v := (1 : Int32)) hx hb dX7_isWrong_177 (by decide) ?_
              refine lv_iconst (v := nI 4) hx hb dX7_isWrong_178 (by decide) ?_
              refine cx_cVi (As := [.int (nI mm), .int (1 : Int32), .int (nI 4)]) (rest := []) ⟨hx, hb, hml, hown, hts⟩ hE hS (c_X7_is l D q cI cZ n T k M d Z F mm (1 : Int32) (nI 4) (by first | assumption | omega)) (cwV 3 hts gX7_isWrong_X7_is rfl rfl rfl (by decide +kernel) ⟨Nat.le_of_ble_eq_true rfl, Nat.le_of_ble_eq_true rfl⟩) 0 7 rfl rfl rfl hl.1 rfl (Nat.le_of_ble_eq_true rfl) ⟨Nat.zero_le _, Nat.zero_le _⟩ dX7_isWrong_179 (fun r_179 u_179 H locs hp_179 hS => ?_)
              have hp_179 : r_179 = cx_b ((cx_b (¬ (((M 3) mm) &&& (nI 4)) = 0)) = (1 : Int32)) := hp_179
              subst hp_179
              refine lv_if_ne (tgt := 195) hx hb dX7_isWrong_182 (by decide) (fun h182 => ?_) (fun h182 => ?_)
              · skip
                have g182 := cx_b1 h182
                exact J195  _ _ _  hS (lv_sub hl [1, 2, 3, 4, 5, 0] rfl)
              · skip
                have g182 := cx_b0 h182
                refine lv_iload hx hb dX7_isWrong_185 (lv_at hl 5 rfl) ?_
                refine lv_if_ne (tgt := 195) hx hb dX7_isWrong_187 (by decide) (fun h187 => ?_) (fun h187 => ?_)
                · skip
                  exact J195  _ _ _  hS (lv_sub hl [1, 2, 3, 4, 5, 0] rfl)
                · skip
                  refine lv_iload hx hb dX7_isWrong_190 (lv_at hl 0 rfl) ?_
                  refine lv_if_ne (tgt := 199) hx hb dX7_isWrong_192 (by decide) (fun h192 => ?_) (fun h192 => ?_)
                  · skip
                    exact J199  _ _ _  hS (lv_sub hl [1, 2, 3, 4, 5, 0] rfl)
                  · skip
                    exact J195  _ _ _  hS (lv_sub hl [1, 2, 3, 4, 5, 0] rfl)
      have J147 : ∀ (H : Heap) (locs : List Loc) (ls : Array Slot), cx_S D vwCl A s (cyW q cI cZ n T k M d Z F) H locs → lv_has ls 6 [(0, .ref (q 0)), (1, .int (nI mm)), (2, .int (nI t)), (3, .int x7), (4, .int v22_s0)] → W p l e ({ frames := 1, cells := 0, slots := 0, locals := 23 } : Room) s m args below meth c H locs 0 0 Q (F0 m 147 ls []) := by
        intro  H locs ls  hS hl
        refine lv_iconst (v := (0 : Int32)) hx hb dX7_isWrong_147 (by decide) ?_
        exact J148 (0 : Int32) _ _ _  hS (lv_sub hl [0, 1, 2, 3, 4] rfl)
      refine lv_if_ne (tgt := 147) hx hb dX7_isWrong_131 (by decide) (fun h131 => ?_) (fun h131 => ?_)
      · skip
        exact J147  _ _ _  hS (lv_sub hl [1, 2, 3, 4, 0] rfl)
      · skip
        refine lv_aload_n hx hb dX7_isWrong_134 rfl (lv_at hl 1 rfl) ?_
        refine lv_iload_n hx hb dX7_isWrong_135 rfl (lv_at hl 3 rfl) ?_
        refine lv_iconst (v := (1 : Int32)) hx hb dX7_isWrong_136 (by decide) ?_
        refine cx_cVi (As := [.int (nI t), .int (1 : Int32)]) (rest := []) ⟨hx, hb, hml, hown, hts⟩ hE hS (c_X7_marked l D q cI cZ n T k M d Z F t (1 : Int32) (by first | assumption | omega)) (cwV 2 hts gX7_isWrong_X7_marked rfl rfl rfl (by decide +kernel) ⟨Nat.le_of_ble_eq_true rfl, Nat.le_of_ble_eq_true rfl⟩) 0 7 rfl rfl rfl hl.1 rfl (Nat.le_of_ble_eq_true rfl) ⟨Nat.zero_le _, Nat.zero_le _⟩ dX7_isWrong_137 (fun r_137 u_137 H locs hp_137 hS => ?_)
        have hp_137 : r_137 = 0 ∨ r_137 = 1 := hp_137
        refine lv_if_eq (tgt := 147) hx hb dX7_isWrong_140 (by decide) (fun h140 => ?_) (fun h140 => ?_)
        · skip
          exact J147  _ _ _  hS (lv_sub hl [1, 2, 3, 4, 0] rfl)
        · skip
          refine lv_iconst (v := (1 : Int32)) hx hb dX7_isWrong_143 (by decide) ?_
          refine lv_goto (tgt := 148) hx hb dX7_isWrong_144 (by decide) ?_
          exact J148 (1 : Int32) _ _ _  hS (lv_sub hl [1, 2, 3, 4, 0] rfl)
    · skip
      refine lv_iload_n hx hb dX7_isWrong_34 rfl (lv_at hl 4 rfl) ?_
      have J43 : ∀ (v43_s0 : Int32) (H : Heap) (locs : List Loc) (ls : Array Slot), cx_S D vwCl A s (cyW q cI cZ n T k M d Z F) H locs → lv_has ls 6 [(0, .ref (q 0)), (1, .int (nI mm)), (2, .int (nI t)), (3, .int x7), (4, .int v22_s0)] → W p l e ({ frames := 1, cells := 0, slots := 0, locals := 23 } : Room) s m args below meth c H locs 0 0 Q (F0 m 43 ls [.int v43_s0]) := by
        intro v43_s0 H locs ls  hS hl
        refine lv_aload_n hx hb dX7_isWrong_43 rfl (lv_at hl 0 rfl) ?_
        refine lv_iload_n hx hb dX7_isWrong_44 rfl (lv_at hl 1 rfl) ?_
        refine lv_iconst (v := (1 : Int32)) hx hb dX7_isWrong_45 (by decide) ?_
        refine lv_bipush (v := nI 8) hx hb dX7_isWrong_46 (by decide) ?_
        refine cx_cVi (As := [.int (nI mm), .int (1 : Int32), .int (nI 8)]) (rest := [.int v43_s0]) ⟨hx, hb, hml, hown, hts⟩ hE hS (c_X7_is l D q cI cZ n T k M d Z F mm (1 : Int32) (nI 8) (by first | assumption | omega)) (cwV 3 hts gX7_isWrong_X7_is rfl rfl rfl (by decide +kernel) ⟨Nat.le_of_ble_eq_true rfl, Nat.le_of_ble_eq_true rfl⟩) 0 7 rfl rfl rfl hl.1 rfl (Nat.le_of_ble_eq_true rfl) ⟨Nat.zero_le _, Nat.zero_le _⟩ dX7_isWrong_48 (fun r_48 u_48 H locs hp_48 hS => ?_)
        have hp_48 : r_48 = cx_b ((cx_b (¬ (((M 3) mm) &&& (nI 8)) = 0)) = (1 : Int32)) := hp_48
        subst hp_48
        have J59 : ∀ (v59_s0 : Int32) (H : Heap) (locs : List Loc) (ls : Array Slot), cx_S D vwCl A s (cyW q cI cZ n T k M d Z F) H locs → lv_has ls 6 [(0, .ref (q 0)), (1, .int (nI mm)), (2, .int (nI t)), (3, .int x7), (4, .int v22_s0)] → W p l e ({ frames := 1, cells := 0, slots := 0, locals := 23 } : Room) s m args below meth c H locs 0 0 Q (F0 m 59 ls [.int v59_s0, .int v43_s0]) := by
          intro v59_s0 H locs ls  hS hl
          refine lv_iadd hx hb dX7_isWrong_59 ?_
          refine lv_aload_n hx hb dX7_isWrong_60 rfl (lv_at hl 0 rfl) ?_
          refine lv_iload_n hx hb dX7_isWrong_61 rfl (lv_at hl 1 rfl) ?_
          refine lv_iconst (v := (1 : Int32)) hx hb dX7_isWrong_62 (by decide) ?_
          refine lv_iconst (v := nI 4) hx hb dX7_isWrong_63 (by decide) ?_
          refine cx_cVi (As := [.int (nI mm), .int (1 : Int32), .int (nI 4)]) (rest := [.int (v43_s0 + v59_s0)]) ⟨hx, hb, hml, hown, hts⟩ hE hS (c_X7_is l D q cI cZ n T k M d Z F mm (1 : Int32) (nI 4) (by first | assumption | omega)) (cwV 3 hts gX7_isWrong_X7_is rfl rfl rfl (by decide +kernel) ⟨Nat.le_of_ble_eq_true rfl, Nat.le_of_ble_eq_true rfl⟩) 0 7 rfl rfl rfl hl.1 rfl (Nat.le_of_ble_eq_true rfl) ⟨Nat.zero_le _, Nat.zero_le _⟩ dX7_isWrong_64 (fun r_64 u_64 H locs hp_64 hS => ?_)
          have hp_64 : r_64 = cx_b ((cx_b (¬ (((M 3) mm) &&& (nI 4)) = 0)) = (1 : Int32)) := hp_64
          subst hp_64
          have J75 : ∀ (v75_s0 : Int32) (H : Heap) (locs : List Loc) (ls : Array Slot), cx_S D vwCl A s (cyW q cI cZ n T k M d Z F) H locs → lv_has ls 6 [(0, .ref (q 0)), (1, .int (nI mm)), (2, .int (nI t)), (3, .int x7), (4, .int v22_s0)] → W p l e ({ frames := 1, cells := 0, slots := 0, locals := 23 } : Room) s m args below meth c H locs 0 0 Q (F0 m 75 ls [.int v75_s0, .int (v43_s0 + v59_s0)]) := by
            intro v75_s0 H locs ls  hS hl
            refine lv_iadd hx hb dX7_isWrong_75 ?_
            refine lv_iload hx hb dX7_isWrong_76 (lv_at hl 4 rfl) ?_
            have J86 : ∀ (v86_s0 : Int32) (H : Heap) (locs : List Loc) (ls : Array Slot), cx_S D vwCl A s (cyW q cI cZ n T k M d Z F) H locs → lv_has ls 6 [(0, .ref (q 0)), (1, .int (nI mm)), (2, .int (nI t)), (3, .int x7), (4, .int v22_s0)] → W p l e ({ frames := 1, cells := 0, slots := 0, locals := 23 } : Room) s m args below meth c H locs 0 0 Q (F0 m 86 ls [.int v86_s0, .int ((v43_s0 + v59_s0) + v75_s0)]) := by
              intro v86_s0 H locs ls  hS hl
              refine lv_iadd hx hb dX7_isWrong_86 ?_
              refine lv_istore (lv' := [(5, .int (((v43_s0 + v59_s0) + v75_s0) + v86_s0)), (0, .ref (q 0)), (1, .int (nI mm)), (2, .int (nI t)), (3, .int x7), (4, .int v22_s0)]) hx hb dX7_isWrong_87 hl (by decide) rfl (fun ls hl => ?_)
              refine lv_aload_n hx hb dX7_isWrong_89 rfl (lv_at hl 1 rfl) ?_
              refine lv_iload_n hx hb dX7_isWrong_90 rfl (lv_at hl 2 rfl) ?_
              refine lv_iconst (v := (1 : Int32)) hx hb dX7_isWrong_91 (by decide) ?_
              refine lv_iconst (v := nI 2) hx hb dX7_isWrong_92 (by decide) ?_
              refine cx_cVi (As := [.int (nI mm), .int (1 : Int32), .int (nI 2)]) (rest := []) ⟨hx, hb, hml, hown, hts⟩ hE hS (c_X7_is l D q cI cZ n T k M d Z F mm (1 : Int32) (nI 2) (by first | assumption | omega)) (cwV 3 hts gX7_isWrong_X7_is rfl rfl rfl (by decide +kernel) ⟨Nat.le_of_ble_eq_true rfl, Nat.le_of_ble_eq_true rfl⟩) 0 7 rfl rfl rfl hl.1 rfl (Nat.le_of_ble_eq_true rfl) ⟨Nat.zero_le _, Nat.zero_le _⟩ dX7_isWrong_93 (fun r_93 u_93 H locs hp_93 hS => ?_)
              have hp_93 : r_93 = cx_b ((cx_b (¬ (((M 3) mm) &&& (nI 2)) = 0)) = (1 : Int32)) := hp_93
              subst hp_93
              have J124 : ∀ (v124_s0 : Int32) (H : Heap) (locs : List Loc) (ls : Array Slot), (v124_s0 = 0 ∨ v124_s0 = 1) → cx_S D vwCl A s (cyW q cI cZ n T k M d Z F) H locs → lv_has ls 6 [(0, .ref (q 0)), (1, .int (nI mm)), (2, .int (nI t)), (3, .int x7), (4, .int v22_s0), (5, .int (((v43_s0 + v59_s0) + v75_s0) + v86_s0))] → W p l e ({ frames := 1, cells := 0, slots := 0, locals := 23 } : Room) s m args below meth c H locs 0 0 Q (F0 m 124 ls [.int v124_s0]) := by
                intro v124_s0 H locs ls hb124 hS hl
                exact RET _ () _ _ _ _ dX7_isWrong_124 (cx_nb (by first | assumption | exact cx_bb)) (by first | exact Or.inl rfl | exact Or.inr rfl | assumption | exact cx_bb) hS
              have J119 : ∀ (H : Heap) (locs : List Loc) (ls : Array Slot), cx_S D vwCl A s (cyW q cI cZ n T k M d Z F) H locs → lv_has ls 6 [(0, .ref (q 0)), (1, .int (nI mm)), (2, .int (nI t)), (3, .int x7), (4, .int v22_s0), (5, .int (((v43_s0 + v59_s0) + v75_s0) + v86_s0))] → W p l e ({ frames := 1, cells := 0, slots := 0, locals := 23 } : Room) s m args below meth c H locs 0 0 Q (F0 m 119 ls []) := by
                intro  H locs ls  hS hl
                refine lv_iconst (v := (1 : Int32)) hx hb dX7_isWrong_119 (by decide) ?_
                refine lv_goto (tgt := 124) hx hb dX7_isWrong_120 (by decide) ?_
                exact J124 (1 : Int32) _ _ _ (by first | exact Or.inl rfl | exact Or.inr rfl | assumption | exact cx_bb) hS (lv_sub hl [0, 1, 2, 3, 4, 5] rfl)
              refine lv_if_ne (tgt := 119) hx hb dX7_isWrong_96 (by decide) (fun h96 => ?_) (fun h96 => ?_)
              · skip
                have g96 := cx_b1 h96
                exact J119  _ _ _  hS (lv_sub hl [1, 2, 3, 4, 5, 0] rfl)
              · skip
                have g96 := cx_b0 h96
                refine lv_aload_n hx hb dX7_isWrong_99 rfl (lv_at hl 1 rfl) ?_
                refine cx_get (own := RX7) (index := 46) (C := RX7) (T := TX7) (N := 22) (k := 14) (ci := 7) (v := .ref (q 13)) hx hb hts hown hE hS hinX7 0 rfl rfl (by decide) (List.mem_of_getElem? (i := 1) rfl) rfl dX7_isWrong_100 ?_
                refine lv_iload_n hx hb dX7_isWrong_103 rfl (lv_at hl 2 rfl) ?_
                refine cx_iald (f := (M 4)) (n := 80) (cA := cI) hx hb hE hS 13 0 rfl rfl (by omega) (by decide) dX7_isWrong_104 ?_
                refine lv_iconst (v := (1 : Int32)) hx hb dX7_isWrong_105 (by decide) ?_
                refine lv_iconst (v := nI 2) hx hb dX7_isWrong_106 (by decide) ?_
                refine cx_cSi (As := [.int ((M 4) mm), .int (1 : Int32), .int (nI 2)]) (rest := []) ⟨hx, hb, hml, hown, hts⟩ hE hS (c_X7_in l D [(cI, .int), (cZ, .boolean)] (cyW q cI cZ n T k M d Z F) ((M 4) mm) (1 : Int32) (nI 2) ) (va_cwS 3 hts gX7_isWrong_X7_in rfl rfl rfl (by decide +kernel) ⟨Nat.le_of_ble_eq_true rfl, Nat.le_of_ble_eq_true rfl⟩) rfl hl.1 rfl (Nat.le_of_ble_eq_true rfl) ⟨Nat.zero_le _, Nat.zero_le _⟩ dX7_isWrong_107 (fun r_107 u_107 H locs hp_107 hS => ?_)
                have hp_107 : r_107 = cx_b ((1 : Int32) ≤ ((M 4) mm) ∧ ((M 4) mm) ≤ (nI 2)) := hp_107
                subst hp_107
                refine lv_if_ne (tgt := 119) hx hb dX7_isWrong_110 (by decide) (fun h110 => ?_) (fun h110 => ?_)
                · skip
                  have g110 := cx_b1 h110
                  exact J119  _ _ _  hS (lv_sub hl [1, 2, 3, 4, 5, 0] rfl)
                · skip
                  have g110 := cx_b0 h110
                  refine lv_iload hx hb dX7_isWrong_113 (lv_at hl 0 rfl) ?_
                  refine lv_iconst (v := (1 : Int32)) hx hb dX7_isWrong_115 (by decide) ?_
                  refine lv_icmp_eq (tgt := 123) hx hb dX7_isWrong_116 (by decide) (fun h116 => ?_) (fun h116 => ?_)
                  · skip
                    refine lv_iconst (v := (0 : Int32)) hx hb dX7_isWrong_123 (by decide) ?_
                    exact J124 (0 : Int32) _ _ _ (by first | exact Or.inl rfl | exact Or.inr rfl | assumption | exact cx_bb) hS (lv_sub hl [1, 2, 3, 4, 5, 0] rfl)
                  · skip
                    exact J119  _ _ _  hS (lv_sub hl [1, 2, 3, 4, 5, 0] rfl)
            refine lv_if_eq (tgt := 85) hx hb dX7_isWrong_78 (by decide) (fun h78 => ?_) (fun h78 => ?_)
            · skip
              refine lv_iconst (v := (0 : Int32)) hx hb dX7_isWrong_85 (by decide) ?_
              exact J86 (0 : Int32) _ _ _  hS (lv_sub hl [0, 1, 2, 3, 4] rfl)
            · skip
              refine lv_iconst (v := (1 : Int32)) hx hb dX7_isWrong_81 (by decide) ?_
              refine lv_goto (tgt := 86) hx hb dX7_isWrong_82 (by decide) ?_
              exact J86 (1 : Int32) _ _ _  hS (lv_sub hl [0, 1, 2, 3, 4] rfl)
          refine lv_if_eq (tgt := 74) hx hb dX7_isWrong_67 (by decide) (fun h67 => ?_) (fun h67 => ?_)
          · skip
            have g67 := cx_b0 h67
            refine lv_iconst (v := (0 : Int32)) hx hb dX7_isWrong_74 (by decide) ?_
            exact J75 (0 : Int32) _ _ _  hS (lv_sub hl [0, 1, 2, 3, 4] rfl)
          · skip
            have g67 := cx_b1 h67
            refine lv_iconst (v := (1 : Int32)) hx hb dX7_isWrong_70 (by decide) ?_
            refine lv_goto (tgt := 75) hx hb dX7_isWrong_71 (by decide) ?_
            exact J75 (1 : Int32) _ _ _  hS (lv_sub hl [0, 1, 2, 3, 4] rfl)
        refine lv_if_eq (tgt := 58) hx hb dX7_isWrong_51 (by decide) (fun h51 => ?_) (fun h51 => ?_)
        · skip
          have g51 := cx_b0 h51
          refine lv_iconst (v := (0 : Int32)) hx hb dX7_isWrong_58 (by decide) ?_
          exact J59 (0 : Int32) _ _ _  hS (lv_sub hl [0, 1, 2, 3, 4] rfl)
        · skip
          have g51 := cx_b1 h51
          refine lv_iconst (v := (1 : Int32)) hx hb dX7_isWrong_54 (by decide) ?_
          refine lv_goto (tgt := 59) hx hb dX7_isWrong_55 (by decide) ?_
          exact J59 (1 : Int32) _ _ _  hS (lv_sub hl [0, 1, 2, 3, 4] rfl)
      refine lv_if_eq (tgt := 42) hx hb dX7_isWrong_35 (by decide) (fun h35 => ?_) (fun h35 => ?_)
      · skip
        refine lv_iconst (v := (0 : Int32)) hx hb dX7_isWrong_42 (by decide) ?_
        exact J43 (0 : Int32) _ _ _  hS (lv_sub hl [1, 2, 3, 4, 0] rfl)
      · skip
        refine lv_iconst (v := (1 : Int32)) hx hb dX7_isWrong_38 (by decide) ?_
        refine lv_goto (tgt := 43) hx hb dX7_isWrong_39 (by decide) ?_
        exact J43 (1 : Int32) _ _ _  hS (lv_sub hl [1, 2, 3, 4, 0] rfl)
  refine lv_if_ne (tgt := 21) hx hb dX7_isWrong_14 (by decide) (fun h14 => ?_) (fun h14 => ?_)
  · skip
    refine lv_iconst (v := (0 : Int32)) hx hb dX7_isWrong_21 (by decide) ?_
    exact J22 (0 : Int32) _ _ _  hS (lv_sub hl [1, 2, 3, 0] rfl)
  · skip
    refine lv_iconst (v := (1 : Int32)) hx hb dX7_isWrong_17 (by decide) ?_
    refine lv_goto (tgt := 22) hx hb dX7_isWrong_18 (by decide) ?_
    exact J22 (1 : Int32) _ _ _  hS (lv_sub hl [1, 2, 3, 0] rfl)
set_option maxHeartbeats 4000000 in
set_option maxRecDepth 100000 in
theorem c_X7_memberFaults (l : Launch) (D : va_G) (q : Nat → Nat) (cI cZ : ClassId) (n : Nat) (T : Nat → Nat → Int32) (k : Nat) (M : Nat → Nat → Int32) (d : Nat) (Z : Nat → Nat → Int32) (F : Nat → Nat → Int32) (t : Nat) (hk : k ≤ 80) (ht : t < 20) : cx_Mv l D vwCl [(cI, .int), (cZ, .boolean)] cx_NW yX7_memberFaults wsX7_memberFaults ({ frames := 2, cells := 0, slots := 0, locals := 48 } : Room) [.ref (q 0), .int (nI t)] (cyW q cI cZ n T k M d Z F) (fun (uw : (Nat → Int32)) => True) (fun uw => (cyW q cI cZ n T k M d (cx_u Z 1 uw) F)) := by
  refine cx_Mv.of (cc := cX7_memberFaults) (maxL := 4) cx_NW_ok (by decide) rfl (Nat.le_of_ble_eq_true rfl) ?_
  intro p e s m args below meth c Q A ls hx hb hml hown hts hE RET hS hl
  have hl : lv_has ls 4 [(0, .ref (q 0)), (1, .int (nI t))] := hl
  have hown : s.vm.findClass RX7 = some m.cls := hown
  have hinX7 : ∀ w ∈ u_ws RX7 TX7 22, w ∈ wsX7_memberFaults := cx_mem [34, 35, 36, 37, 38, 39, 40, 41, 42, 43, 44, 45, 46, 47, 48, 49, 50, 51, 52, 53, 54, 55] (by decide +kernel)
  refine lv_iconst (v := (0 : Int32)) hx hb dX7_memberFaults_0 (by decide) ?_
  refine cx_topr (z := nI 0) (by decide) ?_
  refine lv_istore_n (lv' := [(2, .int (nI 0)), (0, .ref (q 0)), (1, .int (nI t))]) hx hb dX7_memberFaults_1 rfl hl (by decide) rfl (fun ls hl => ?_)
  have J2 : ∀ (N : Nat) (i2 : Nat) (Z_1_2 : Nat → Int32) (H : Heap) (locs : List Loc) (ls : Array Slot), (k - i2 < N) → (i2 ≤ k) → cx_S D vwCl A s (cyW q cI cZ n T k M d (cx_u Z 1 Z_1_2) F) H locs → lv_has ls 4 [(0, .ref (q 0)), (1, .int (nI t)), (2, .int (nI i2))] → W p l e ({ frames := 2, cells := 0, slots := 0, locals := 48 } : Room) s m args below meth c H locs 0 0 Q (F0 m 2 ls []) := by
    intro N2
    induction N2 with
    | zero => intro i2 Z_1_2 H locs ls hN; exact absurd hN (by omega)
    | succ N2 ih2 =>
      intro i2 Z_1_2 H locs ls hN2 hi2 hS hl
      refine lv_iload_n hx hb dX7_memberFaults_2 rfl (lv_at hl 2 rfl) ?_
      refine lv_aload_n hx hb dX7_memberFaults_3 rfl (lv_at hl 0 rfl) ?_
      refine cx_get (own := RX7) (index := 81) (C := RX7) (T := TX7) (N := 22) (k := 9) (ci := 7) (v := .int (nI k)) hx hb hts hown hE hS hinX7 0 rfl rfl (by decide) (List.mem_of_getElem? (i := 1) rfl) rfl dX7_memberFaults_4 ?_
      refine lv_icmp_ge (tgt := 83) hx hb dX7_memberFaults_7 (by decide) (fun h7 => ?_) (fun h7 => ?_)
      · skip
        have g7 : k ≤ i2 := (nI_leI (a := k) (b := i2) (by omega) (by omega)).mp h7
        exact RET (Z_1_2) _ _ _ _ dX7_memberFaults_83 trivial hS
      · skip
        have g7 : ¬ (k ≤ i2) := fun z => h7 ((nI_leI (a := k) (b := i2) (by omega) (by omega)).mpr z)
        refine lv_aload_n hx hb dX7_memberFaults_10 rfl (lv_at hl 0 rfl) ?_
        refine cx_get (own := RX7) (index := 34) (C := RX7) (T := TX7) (N := 22) (k := 10) (ci := 7) (v := .ref (q 9)) hx hb hts hown hE hS hinX7 0 rfl rfl (by decide) (List.mem_of_getElem? (i := 2) rfl) rfl dX7_memberFaults_11 ?_
        refine lv_iload_n hx hb dX7_memberFaults_14 rfl (lv_at hl 2 rfl) ?_
        refine cx_iald (f := (M 0)) (n := 80) (cA := cI) hx hb hE hS 9 0 rfl rfl (by omega) (by decide) dX7_memberFaults_15 ?_
        refine lv_iload_n hx hb dX7_memberFaults_16 rfl (lv_at hl 1 rfl) ?_
        have J77 : ∀ (Z_1_77 : Nat → Int32) (H : Heap) (locs : List Loc) (ls : Array Slot), cx_S D vwCl A s (cyW q cI cZ n T k M d (cx_u Z 1 Z_1_77) F) H locs → lv_has ls 4 [(0, .ref (q 0)), (1, .int (nI t)), (2, .int (nI i2))] → W p l e ({ frames := 2, cells := 0, slots := 0, locals := 48 } : Room) s m args below meth c H locs 0 0 Q (F0 m 77 ls []) := by
          intro Z_1_77 H locs ls  hS hl
          refine lv_iinc (v := nI (i2 + 1)) (lv' := [(2, .int (nI (i2 + 1))), (0, .ref (q 0)), (1, .int (nI t))]) hx hb dX7_memberFaults_77 hl (k := 2) rfl (cx_inc _) (by decide) rfl (fun ls hl => ?_)
          refine lv_goto (tgt := 2) hx hb dX7_memberFaults_80 (by decide) ?_
          exact ih2 (i2 + 1) Z_1_77 _ _ _ (by omega) (by omega) hS (lv_sub hl [1, 2, 0] rfl)
        refine lv_icmp_ne (tgt := 77) hx hb dX7_memberFaults_17 (by decide) (fun h17 => ?_) (fun h17 => ?_)
        · skip
          exact J77 Z_1_2 _ _ _  hS (lv_sub hl [0, 1, 2] rfl)
        · skip
          refine lv_iconst (v := (0 : Int32)) hx hb dX7_memberFaults_20 (by decide) ?_
          refine cx_topr (z := nI 0) (by decide) ?_
          refine lv_istore_n (lv' := [(3, .int (nI 0)), (0, .ref (q 0)), (1, .int (nI t)), (2, .int (nI i2))]) hx hb dX7_memberFaults_21 rfl hl (by decide) rfl (fun ls hl => ?_)
          have J22 : ∀ (N : Nat) (i22 : Nat) (Z_1_22 : Nat → Int32) (H : Heap) (locs : List Loc) (ls : Array Slot), (i2 - i22 < N) → (i22 ≤ i2) → cx_S D vwCl A s (cyW q cI cZ n T k M d (cx_u Z 1 Z_1_22) F) H locs → lv_has ls 4 [(0, .ref (q 0)), (1, .int (nI t)), (2, .int (nI i2)), (3, .int (nI i22))] → W p l e ({ frames := 2, cells := 0, slots := 0, locals := 48 } : Room) s m args below meth c H locs 0 0 Q (F0 m 22 ls []) := by
            intro N22
            induction N22 with
            | zero => intro i22 Z_1_22 H locs ls hN; exact absurd hN (by omega)
            | succ N22 ih22 =>
              intro i22 Z_1_22 H locs ls hN22 hi22 hS hl
              refine lv_iload_n hx hb dX7_memberFaults_22 rfl (lv_at hl 3 rfl) ?_
              refine lv_iload_n hx hb dX7_memberFaults_23 rfl (lv_at hl 2 rfl) ?_
              refine lv_icmp_ge (tgt := 64) hx hb dX7_memberFaults_24 (by decide) (fun h24 => ?_) (fun h24 => ?_)
              · skip
                have g24 : i2 ≤ i22 := (nI_leI (a := i2) (b := i22) (by omega) (by omega)).mp h24
                refine lv_aload_n hx hb dX7_memberFaults_64 rfl (lv_at hl 0 rfl) ?_
                refine lv_bipush (v := nI 11) hx hb dX7_memberFaults_65 (by decide) ?_
                refine lv_iload_n hx hb dX7_memberFaults_67 rfl (lv_at hl 2 rfl) ?_
                refine lv_aload_n hx hb dX7_memberFaults_68 rfl (lv_at hl 0 rfl) ?_
                refine lv_iload_n hx hb dX7_memberFaults_69 rfl (lv_at hl 2 rfl) ?_
                refine lv_iload_n hx hb dX7_memberFaults_70 rfl (lv_at hl 1 rfl) ?_
                refine cx_cVi (As := [.int (nI i2), .int (nI t)]) (rest := [.int (nI i2), .int (nI 11), .ref (q 0)]) ⟨hx, hb, hml, hown, hts⟩ hE hS (c_X7_isWrong l D q cI cZ n T k M d (cx_u Z 1 Z_1_22) F i2 t (by first | assumption | omega) (by first | assumption | omega)) (cwV 2 hts gX7_memberFaults_X7_isWrong rfl rfl rfl (by decide +kernel) ⟨Nat.le_of_ble_eq_true rfl, Nat.le_of_ble_eq_true rfl⟩) 0 7 rfl rfl rfl hl.1 rfl (Nat.le_of_ble_eq_true rfl) ⟨Nat.zero_le _, Nat.zero_le _⟩ dX7_memberFaults_71 (fun r_71 u_71 H locs hp_71 hS => ?_)
                have hp_71 : r_71 = 0 ∨ r_71 = 1 := hp_71
                refine cx_cVv (As := [.int (nI 11), .int (nI i2), .int r_71]) (rest := []) ⟨hx, hb, hml, hown, hts⟩ hE hS (c_X7_mark l D q cI cZ n T k M d (cx_u Z 1 Z_1_22) F 11 i2 r_71 (by first | assumption | omega) (by first | assumption | omega)) (cwV 3 hts gX7_memberFaults_X7_mark rfl rfl rfl (by decide +kernel) ⟨Nat.le_of_ble_eq_true rfl, Nat.le_of_ble_eq_true rfl⟩) 0 7 rfl rfl rfl hl.1 rfl (Nat.le_of_ble_eq_true rfl) ⟨Nat.zero_le _, Nat.zero_le _⟩ dX7_memberFaults_74 (fun u_74 H locs hp_74 hS => ?_)
                obtain ⟨zf_74, rfl⟩ : ∃ z, z = u_74 := ⟨_, rfl⟩
                have hS : cx_S D vwCl A s (cyW q cI cZ n T k M d (cx_u Z 1 zf_74) F) H locs := hS
                exact J77 zf_74 _ _ _  hS (lv_sub hl [0, 1, 2] rfl)
              · skip
                have g24 : ¬ (i2 ≤ i22) := fun z => h24 ((nI_leI (a := i2) (b := i22) (by omega) (by omega)).mpr z)
                refine lv_aload_n hx hb dX7_memberFaults_27 rfl (lv_at hl 0 rfl) ?_
                refine lv_bipush (v := nI 10) hx hb dX7_memberFaults_28 (by decide) ?_
                refine lv_iload_n hx hb dX7_memberFaults_30 rfl (lv_at hl 2 rfl) ?_
                refine lv_aload_n hx hb dX7_memberFaults_31 rfl (lv_at hl 0 rfl) ?_
                refine cx_get (own := RX7) (index := 34) (C := RX7) (T := TX7) (N := 22) (k := 10) (ci := 7) (v := .ref (q 9)) hx hb hts hown hE hS hinX7 0 rfl rfl (by decide) (List.mem_of_getElem? (i := 2) rfl) rfl dX7_memberFaults_32 ?_
                refine lv_iload_n hx hb dX7_memberFaults_35 rfl (lv_at hl 3 rfl) ?_
                refine cx_iald (f := (M 0)) (n := 80) (cA := cI) hx hb hE hS 9 0 rfl rfl (by omega) (by decide) dX7_memberFaults_36 ?_
                refine lv_iload_n hx hb dX7_memberFaults_37 rfl (lv_at hl 1 rfl) ?_
                have J55 : ∀ (v55_s0 : Int32) (H : Heap) (locs : List Loc) (ls : Array Slot), cx_S D vwCl A s (cyW q cI cZ n T k M d (cx_u Z 1 Z_1_22) F) H locs → lv_has ls 4 [(0, .ref (q 0)), (1, .int (nI t)), (2, .int (nI i2)), (3, .int (nI i22))] → W p l e ({ frames := 2, cells := 0, slots := 0, locals := 48 } : Room) s m args below meth c H locs 0 0 Q (F0 m 55 ls [.int v55_s0, .int (nI i2), .int (nI 10), .ref (q 0)]) := by
                  intro v55_s0 H locs ls  hS hl
                  refine cx_cVv (As := [.int (nI 10), .int (nI i2), .int v55_s0]) (rest := []) ⟨hx, hb, hml, hown, hts⟩ hE hS (c_X7_mark l D q cI cZ n T k M d (cx_u Z 1 Z_1_22) F 10 i2 v55_s0 (by first | assumption | omega) (by first | assumption | omega)) (cwV 3 hts gX7_memberFaults_X7_mark rfl rfl rfl (by decide +kernel) ⟨Nat.le_of_ble_eq_true rfl, Nat.le_of_ble_eq_true rfl⟩) 0 7 rfl rfl rfl hl.1 rfl (Nat.le_of_ble_eq_true rfl) ⟨Nat.zero_le _, Nat.zero_le _⟩ dX7_memberFaults_55 (fun u_55 H locs hp_55 hS => ?_)
                  obtain ⟨zf_55, rfl⟩ : ∃ z, z = u_55 := ⟨_, rfl⟩
                  have hS : cx_S D vwCl A s (cyW q cI cZ n T k M d (cx_u Z 1 zf_55) F) H locs := hS
                  refine lv_iinc (v := nI (i22 + 1)) (lv' := [(3, .int (nI (i22 + 1))), (0, .ref (q 0)), (1, .int (nI t)), (2, .int (nI i2))]) hx hb dX7_memberFaults_58 hl (k := 3) rfl (cx_inc _) (by decide) rfl (fun ls hl => ?_)
                  refine lv_goto (tgt := 22) hx hb dX7_memberFaults_61 (by decide) ?_
                  exact ih22 (i22 + 1) zf_55 _ _ _ (by omega) (by omega) hS (lv_sub hl [1, 2, 3, 0] rfl)
                have J54 : ∀ (H : Heap) (locs : List Loc) (ls : Array Slot), cx_S D vwCl A s (cyW q cI cZ n T k M d (cx_u Z 1 Z_1_22) F) H locs → lv_has ls 4 [(0, .ref (q 0)), (1, .int (nI t)), (2, .int (nI i2)), (3, .int (nI i22))] → W p l e ({ frames := 2, cells := 0, slots := 0, locals := 48 } : Room) s m args below meth c H locs 0 0 Q (F0 m 54 ls [.int (nI i2), .int (nI 10), .ref (q 0)]) := by
                  intro  H locs ls  hS hl
                  refine lv_iconst (v := (0 : Int32)) hx hb dX7_memberFaults_54 (by decide) ?_
                  exact J55 (0 : Int32) _ _ _  hS (lv_sub hl [0, 1, 2, 3] rfl)
                refine lv_icmp_ne (tgt := 54) hx hb dX7_memberFaults_38 (by decide) (fun h38 => ?_) (fun h38 => ?_)
                · skip
                  exact J54  _ _ _  hS (lv_sub hl [0, 1, 2, 3] rfl)
                · skip
                  refine lv_aload_n hx hb dX7_memberFaults_41 rfl (lv_at hl 0 rfl) ?_
                  refine lv_iload_n hx hb dX7_memberFaults_42 rfl (lv_at hl 2 rfl) ?_
                  refine lv_iload_n hx hb dX7_memberFaults_43 rfl (lv_at hl 3 rfl) ?_
                  refine cx_cVi (As := [.int (nI i2), .int (nI i22)]) (rest := [.int (nI i2), .int (nI 10), .ref (q 0)]) ⟨hx, hb, hml, hown, hts⟩ hE hS (c_X7_areLike l D q cI cZ n T k M d (cx_u Z 1 Z_1_22) F i2 i22 (by first | assumption | omega) (by first | assumption | omega)) (cwV 2 hts gX7_memberFaults_X7_areLike rfl rfl rfl (by decide +kernel) ⟨Nat.le_of_ble_eq_true rfl, Nat.le_of_ble_eq_true rfl⟩) 0 7 rfl rfl rfl hl.1 rfl (Nat.le_of_ble_eq_true rfl) ⟨Nat.zero_le _, Nat.zero_le _⟩ dX7_memberFaults_44 (fun r_44 u_44 H locs hp_44 hS => ?_)
                  have hp_44 : r_44 = 0 ∨ r_44 = 1 := hp_44
                  refine lv_if_eq (tgt := 54) hx hb dX7_memberFaults_47 (by decide) (fun h47 => ?_) (fun h47 => ?_)
                  · skip
                    exact J54  _ _ _  hS (lv_sub hl [0, 1, 2, 3] rfl)
                  · skip
                    refine lv_iconst (v := (1 : Int32)) hx hb dX7_memberFaults_50 (by decide) ?_
                    refine lv_goto (tgt := 55) hx hb dX7_memberFaults_51 (by decide) ?_
                    exact J55 (1 : Int32) _ _ _  hS (lv_sub hl [0, 1, 2, 3] rfl)
          exact J22 (i2 - 0 + 1) 0 Z_1_2 _ _ _ (Nat.lt_succ_self _) (by omega) hS (lv_sub hl [1, 2, 3, 0] rfl)
  exact J2 (k - 0 + 1) 0 (Z 1) _ _ _ (Nat.lt_succ_self _) (by omega) hS (lv_sub hl [1, 2, 0] rfl)
set_option maxHeartbeats 4000000 in
set_option maxRecDepth 100000 in
theorem c_X7_fitsResult (l : Launch) (D : va_G) (q : Nat → Nat) (cI cZ : ClassId) (n : Nat) (T : Nat → Nat → Int32) (k : Nat) (M : Nat → Nat → Int32) (d : Nat) (Z : Nat → Nat → Int32) (F : Nat → Nat → Int32) (ra : Int32) (sa : Int32) (hn : n ≤ 20) (hP : cx_P (T 3) 20) (hU : cx_R (T 4) 20) (hV : cx_R (T 5) 4) (hKN : cx_KN n T (Z 0) ((Z 3) 0)) : cx_Mi l D vwCl [(cI, .int), (cZ, .boolean)] cx_NW yX7_fitsResult wsX7_fitsResult ({ frames := 4, cells := 0, slots := 0, locals := 88 } : Room) [.ref (q 0), .int ra, .int sa] (cyW q cI cZ n T k M d Z F) (fun (r : Int32) (uw : (Nat → Int32) × (Int32)) => cx_KN n T uw.1 uw.2 ∧ (r = 0 ∨ r = 1)) (fun uw => (cyW q cI cZ n T k M d (cx_u (cx_u Z 0 uw.1) 3 (fun _ => uw.2)) F)) := by
  refine cx_Mi.of (cc := cX7_fitsResult) (maxL := 3) cx_NW_ok (by decide) rfl (Nat.le_of_ble_eq_true rfl) ?_
  intro p e s m args below meth c Q A ls hx hb hml hown hts hE RET hS hl
  have hl : lv_has ls 3 [(0, .ref (q 0)), (1, .int ra), (2, .int sa)] := hl
  have hown : s.vm.findClass RX7 = some m.cls := hown
  refine lv_iload_n hx hb dX7_fitsResult_0 rfl (lv_at hl 1 rfl) ?_
  refine lv_iload_n hx hb dX7_fitsResult_1 rfl (lv_at hl 2 rfl) ?_
  have J59 : ∀ (v59_s0 : Int32) (Z_0_59 : Nat → Int32) (Z_3_59 : Nat → Int32) (H : Heap) (locs : List Loc) (ls : Array Slot), (cx_KN n T Z_0_59 (Z_3_59 0)) → (v59_s0 = 0 ∨ v59_s0 = 1) → cx_S D vwCl A s (cyW q cI cZ n T k M d (cx_u (cx_u Z 0 Z_0_59) 3 Z_3_59) F) H locs → lv_has ls 3 [(0, .ref (q 0)), (1, .int ra), (2, .int sa)] → W p l e ({ frames := 4, cells := 0, slots := 0, locals := 88 } : Room) s m args below meth c H locs 0 0 Q (F0 m 59 ls [.int v59_s0]) := by
    intro v59_s0 Z_0_59 Z_3_59 H locs ls hKN59 hb59 hS hl
    exact RET _ (Z_0_59, Z_3_59 0) _ _ _ _ dX7_fitsResult_59 (cx_nb (by first | assumption | exact cx_bb)) (⟨(by first | assumption | exact hKN), (by first | exact Or.inl rfl | exact Or.inr rfl | assumption | exact cx_bb)⟩) hS
  have J54 : ∀ (Z_0_54 : Nat → Int32) (Z_3_54 : Nat → Int32) (H : Heap) (locs : List Loc) (ls : Array Slot), (cx_KN n T Z_0_54 (Z_3_54 0)) → cx_S D vwCl A s (cyW q cI cZ n T k M d (cx_u (cx_u Z 0 Z_0_54) 3 Z_3_54) F) H locs → lv_has ls 3 [(0, .ref (q 0)), (1, .int ra), (2, .int sa)] → W p l e ({ frames := 4, cells := 0, slots := 0, locals := 88 } : Room) s m args below meth c H locs 0 0 Q (F0 m 54 ls []) := by
    intro Z_0_54 Z_3_54 H locs ls hKN54 hS hl
    refine lv_iconst (v := (1 : Int32)) hx hb dX7_fitsResult_54 (by decide) ?_
    refine lv_goto (tgt := 59) hx hb dX7_fitsResult_55 (by decide) ?_
    exact J59 (1 : Int32) Z_0_54 Z_3_54 _ _ _ (by first | assumption | exact hKN) (by first | exact Or.inl rfl | exact Or.inr rfl | assumption | exact cx_bb) hS (lv_sub hl [0, 1, 2] rfl)
  refine lv_icmp_eq (tgt := 54) hx hb dX7_fitsResult_2 (by decide) (fun h2 => ?_) (fun h2 => ?_)
  · skip
    exact J54 (Z 0) (Z 3) _ _ _ (by first | assumption | exact hKN) hS (lv_sub hl [0, 1, 2] rfl)
  · skip
    refine lv_iload_n hx hb dX7_fitsResult_5 rfl (lv_at hl 1 rfl) ?_
    refine lv_bipush (v := nI 9) hx hb dX7_fitsResult_6 (by decide) ?_
    have J58 : ∀ (Z_0_58 : Nat → Int32) (Z_3_58 : Nat → Int32) (H : Heap) (locs : List Loc) (ls : Array Slot), (cx_KN n T Z_0_58 (Z_3_58 0)) → cx_S D vwCl A s (cyW q cI cZ n T k M d (cx_u (cx_u Z 0 Z_0_58) 3 Z_3_58) F) H locs → lv_has ls 3 [(0, .ref (q 0)), (1, .int ra), (2, .int sa)] → W p l e ({ frames := 4, cells := 0, slots := 0, locals := 88 } : Room) s m args below meth c H locs 0 0 Q (F0 m 58 ls []) := by
      intro Z_0_58 Z_3_58 H locs ls hKN58 hS hl
      refine lv_iconst (v := (0 : Int32)) hx hb dX7_fitsResult_58 (by decide) ?_
      exact J59 (0 : Int32) Z_0_58 Z_3_58 _ _ _ (by first | assumption | exact hKN) (by first | exact Or.inl rfl | exact Or.inr rfl | assumption | exact cx_bb) hS (lv_sub hl [0, 1, 2] rfl)
    refine lv_icmp_le (tgt := 58) hx hb dX7_fitsResult_8 (by decide) (fun h8 => ?_) (fun h8 => ?_)
    · skip
      exact J58 (Z 0) (Z 3) _ _ _ (by first | assumption | exact hKN) hS (lv_sub hl [0, 1, 2] rfl)
    · skip
      refine lv_iload_n hx hb dX7_fitsResult_11 rfl (lv_at hl 2 rfl) ?_
      refine lv_bipush (v := nI 9) hx hb dX7_fitsResult_12 (by decide) ?_
      refine lv_icmp_le (tgt := 58) hx hb dX7_fitsResult_14 (by decide) (fun h14 => ?_) (fun h14 => ?_)
      · skip
        exact J58 (Z 0) (Z 3) _ _ _ (by first | assumption | exact hKN) hS (lv_sub hl [0, 1, 2] rfl)
      · skip
        refine lv_aload_n hx hb dX7_fitsResult_17 rfl (lv_at hl 0 rfl) ?_
        refine lv_iload_n hx hb dX7_fitsResult_18 rfl (lv_at hl 1 rfl) ?_
        refine lv_bipush (v := nI 10) hx hb dX7_fitsResult_19 (by decide) ?_
        refine lv_isub hx hb dX7_fitsResult_21 ?_
        refine cx_cVi (As := [.int (ra - (nI 10))]) (rest := []) ⟨hx, hb, hml, hown, hts⟩ hE hS (c_X7_isType l D q cI cZ n T k M d Z F (ra - (nI 10)) (by first | assumption | omega)) (cwV 1 hts gX7_fitsResult_X7_isType rfl rfl rfl (by decide +kernel) ⟨Nat.le_of_ble_eq_true rfl, Nat.le_of_ble_eq_true rfl⟩) 0 7 rfl rfl rfl hl.1 rfl (Nat.le_of_ble_eq_true rfl) ⟨Nat.zero_le _, Nat.zero_le _⟩ dX7_fitsResult_22 (fun r_22 u_22 H locs hp_22 hS => ?_)
        have hp_22 : r_22 = cx_b (0 ≤ (ra - (nI 10)) ∧ (ra - (nI 10)) < nI n) := hp_22
        subst hp_22
        refine lv_if_eq (tgt := 58) hx hb dX7_fitsResult_25 (by decide) (fun h25 => ?_) (fun h25 => ?_)
        · skip
          have g25 := cx_b0 h25
          exact J58 (Z 0) (Z 3) _ _ _ (by first | assumption | exact hKN) hS (lv_sub hl [0, 1, 2] rfl)
        · skip
          have g25 := cx_b1 h25
          refine lv_aload_n hx hb dX7_fitsResult_28 rfl (lv_at hl 0 rfl) ?_
          refine lv_iload_n hx hb dX7_fitsResult_29 rfl (lv_at hl 2 rfl) ?_
          refine lv_bipush (v := nI 10) hx hb dX7_fitsResult_30 (by decide) ?_
          refine lv_isub hx hb dX7_fitsResult_32 ?_
          refine cx_cVi (As := [.int (sa - (nI 10))]) (rest := []) ⟨hx, hb, hml, hown, hts⟩ hE hS (c_X7_isType l D q cI cZ n T k M d Z F (sa - (nI 10)) (by first | assumption | omega)) (cwV 1 hts gX7_fitsResult_X7_isType rfl rfl rfl (by decide +kernel) ⟨Nat.le_of_ble_eq_true rfl, Nat.le_of_ble_eq_true rfl⟩) 0 7 rfl rfl rfl hl.1 rfl (Nat.le_of_ble_eq_true rfl) ⟨Nat.zero_le _, Nat.zero_le _⟩ dX7_fitsResult_33 (fun r_33 u_33 H locs hp_33 hS => ?_)
          have hp_33 : r_33 = cx_b (0 ≤ (sa - (nI 10)) ∧ (sa - (nI 10)) < nI n) := hp_33
          subst hp_33
          refine lv_if_eq (tgt := 58) hx hb dX7_fitsResult_36 (by decide) (fun h36 => ?_) (fun h36 => ?_)
          · skip
            have g36 := cx_b0 h36
            exact J58 (Z 0) (Z 3) _ _ _ (by first | assumption | exact hKN) hS (lv_sub hl [0, 1, 2] rfl)
          · skip
            have g36 := cx_b1 h36
            refine lv_aload_n hx hb dX7_fitsResult_39 rfl (lv_at hl 0 rfl) ?_
            refine lv_iload_n hx hb dX7_fitsResult_40 rfl (lv_at hl 1 rfl) ?_
            refine lv_bipush (v := nI 10) hx hb dX7_fitsResult_41 (by decide) ?_
            refine lv_isub hx hb dX7_fitsResult_43 ?_
            refine cx_topr (z := nI ((ra - nI 10).toNatClampNeg)) (cx_ixT (by omega) g25).1 ?_
            refine lv_iload_n hx hb dX7_fitsResult_44 rfl (lv_at hl 2 rfl) ?_
            refine lv_bipush (v := nI 10) hx hb dX7_fitsResult_45 (by decide) ?_
            refine lv_isub hx hb dX7_fitsResult_47 ?_
            refine cx_topr (z := nI ((sa - nI 10).toNatClampNeg)) (cx_ixT (by omega) g36).1 ?_
            refine cx_cVi (As := [.int (nI ((ra - nI 10).toNatClampNeg)), .int (nI ((sa - nI 10).toNatClampNeg))]) (rest := []) ⟨hx, hb, hml, hown, hts⟩ hE hS (c_X7_isOf l D q cI cZ n T k M d Z F ((ra - nI 10).toNatClampNeg) ((sa - nI 10).toNatClampNeg) (by first | assumption | omega) (by first | assumption | omega) (by first | assumption | omega) (by first | assumption | omega) (by first | assumption | omega) (by have := (cx_ixT (by omega) g25).2; omega) (by have := (cx_ixT (by omega) g36).2; omega)) (cwV 2 hts gX7_fitsResult_X7_isOf rfl rfl rfl (by decide +kernel) ⟨Nat.le_of_ble_eq_true rfl, Nat.le_of_ble_eq_true rfl⟩) 0 7 rfl rfl rfl hl.1 rfl (Nat.le_of_ble_eq_true rfl) ⟨Nat.zero_le _, Nat.zero_le _⟩ dX7_fitsResult_48 (fun r_48 u_48 H locs hp_48 hS => ?_)
            obtain ⟨za_48, kn_48⟩ := u_48
            have hS : cx_S D vwCl A s (cyW q cI cZ n T k M d (cx_u (cx_u Z 0 za_48) 3 (fun _ => kn_48)) F) H locs := hS
            obtain ⟨hKN_48, hp_48⟩ := hp_48
            have hKN_48 : cx_KN n T za_48 kn_48 := hKN_48
            have hp_48 : (r_48 = 0 ∨ r_48 = 1) ∧ (((ra - nI 10).toNatClampNeg) < n → ((sa - nI 10).toNatClampNeg) < n → (¬ r_48 = 0 ↔ (((ra - nI 10).toNatClampNeg) = ((sa - nI 10).toNatClampNeg) ∨ cx_w3 n (cx_Er T n) n ((ra - nI 10).toNatClampNeg) ((sa - nI 10).toNatClampNeg)))) := hp_48
            refine lv_if_eq (tgt := 58) hx hb dX7_fitsResult_51 (by decide) (fun h51 => ?_) (fun h51 => ?_)
            · skip
              exact J58 za_48 (fun _ => kn_48) _ _ _ (by first | assumption | exact hKN) hS (lv_sub hl [0, 1, 2] rfl)
            · skip
              exact J54 za_48 (fun _ => kn_48) _ _ _ (by first | assumption | exact hKN) hS (lv_sub hl [0, 1, 2] rfl)
set_option maxHeartbeats 4000000 in
set_option maxRecDepth 100000 in
theorem c_X7_overFaults (l : Launch) (D : va_G) (q : Nat → Nat) (cI cZ : ClassId) (n : Nat) (T : Nat → Nat → Int32) (k : Nat) (M : Nat → Nat → Int32) (d : Nat) (Z : Nat → Nat → Int32) (F : Nat → Nat → Int32) (t : Nat) (hn : n ≤ 20) (hP : cx_P (T 3) 20) (hU : cx_R (T 4) 20) (hV : cx_R (T 5) 4) (hKN : cx_KN n T (Z 0) ((Z 3) 0)) (hO : cx_R (M 0) 20) (hk : k ≤ 80) (ht : t < 20) : cx_Mv l D vwCl [(cI, .int), (cZ, .boolean)] cx_NW yX7_overFaults wsX7_overFaults ({ frames := 5, cells := 0, slots := 0, locals := 110 } : Room) [.ref (q 0), .int (nI t)] (cyW q cI cZ n T k M d Z F) (fun (uw : (Nat → Int32) × (Int32) × (Nat → Int32)) => cx_KN n T uw.1 uw.2.1 ∧ (True)) (fun uw => (cyW q cI cZ n T k M d (cx_u (cx_u (cx_u Z 0 uw.1) 3 (fun _ => uw.2.1)) 1 uw.2.2) F)) := by
  refine cx_Mv.of (cc := cX7_overFaults) (maxL := 4) cx_NW_ok (by decide) rfl (Nat.le_of_ble_eq_true rfl) ?_
  intro p e s m args below meth c Q A ls hx hb hml hown hts hE RET hS hl
  have hl : lv_has ls 4 [(0, .ref (q 0)), (1, .int (nI t))] := hl
  have hown : s.vm.findClass RX7 = some m.cls := hown
  have hinX7 : ∀ w ∈ u_ws RX7 TX7 22, w ∈ wsX7_overFaults := cx_mem [53, 54, 55, 56, 57, 58, 59, 60, 61, 62, 63, 64, 65, 66, 67, 68, 69, 70, 71, 72, 73, 74] (by decide +kernel)
  refine lv_iconst (v := (0 : Int32)) hx hb dX7_overFaults_0 (by decide) ?_
  refine cx_topr (z := nI 0) (by decide) ?_
  refine lv_istore_n (lv' := [(2, .int (nI 0)), (0, .ref (q 0)), (1, .int (nI t))]) hx hb dX7_overFaults_1 rfl hl (by decide) rfl (fun ls hl => ?_)
  have J2 : ∀ (N : Nat) (i2 : Nat) (Z_0_2 : Nat → Int32) (Z_1_2 : Nat → Int32) (Z_3_2 : Nat → Int32) (H : Heap) (locs : List Loc) (ls : Array Slot), (k - i2 < N) → (i2 ≤ k) → (cx_KN n T Z_0_2 (Z_3_2 0)) → cx_S D vwCl A s (cyW q cI cZ n T k M d (cx_u (cx_u (cx_u Z 0 Z_0_2) 1 Z_1_2) 3 Z_3_2) F) H locs → lv_has ls 4 [(0, .ref (q 0)), (1, .int (nI t)), (2, .int (nI i2))] → W p l e ({ frames := 5, cells := 0, slots := 0, locals := 110 } : Room) s m args below meth c H locs 0 0 Q (F0 m 2 ls []) := by
    intro N2
    induction N2 with
    | zero => intro i2 Z_0_2 Z_1_2 Z_3_2 H locs ls hN; exact absurd hN (by omega)
    | succ N2 ih2 =>
      intro i2 Z_0_2 Z_1_2 Z_3_2 H locs ls hN2 hi2 hKN2 hS hl
      refine lv_iload_n hx hb dX7_overFaults_2 rfl (lv_at hl 2 rfl) ?_
      refine lv_aload_n hx hb dX7_overFaults_3 rfl (lv_at hl 0 rfl) ?_
      refine cx_get (own := RX7) (index := 81) (C := RX7) (T := TX7) (N := 22) (k := 9) (ci := 7) (v := .int (nI k)) hx hb hts hown hE hS hinX7 0 rfl rfl (by decide) (List.mem_of_getElem? (i := 1) rfl) rfl dX7_overFaults_4 ?_
      refine lv_icmp_ge (tgt := 170) hx hb dX7_overFaults_7 (by decide) (fun h7 => ?_) (fun h7 => ?_)
      · skip
        have g7 : k ≤ i2 := (nI_leI (a := k) (b := i2) (by omega) (by omega)).mp h7
        exact RET (Z_0_2, Z_3_2 0, Z_1_2) _ _ _ _ dX7_overFaults_170 (⟨(by first | assumption | exact hKN), trivial⟩) hS
      · skip
        have g7 : ¬ (k ≤ i2) := fun z => h7 ((nI_leI (a := k) (b := i2) (by omega) (by omega)).mpr z)
        refine lv_iconst (v := (0 : Int32)) hx hb dX7_overFaults_10 (by decide) ?_
        refine cx_topr (z := nI 0) (by decide) ?_
        refine lv_istore_n (lv' := [(3, .int (nI 0)), (0, .ref (q 0)), (1, .int (nI t)), (2, .int (nI i2))]) hx hb dX7_overFaults_11 rfl hl (by decide) rfl (fun ls hl => ?_)
        have J12 : ∀ (N : Nat) (i12 : Nat) (Z_0_12 : Nat → Int32) (Z_1_12 : Nat → Int32) (Z_3_12 : Nat → Int32) (H : Heap) (locs : List Loc) (ls : Array Slot), (k - i12 < N) → (i12 ≤ k) → (cx_KN n T Z_0_12 (Z_3_12 0)) → cx_S D vwCl A s (cyW q cI cZ n T k M d (cx_u (cx_u (cx_u Z 0 Z_0_12) 1 Z_1_12) 3 Z_3_12) F) H locs → lv_has ls 4 [(0, .ref (q 0)), (1, .int (nI t)), (2, .int (nI i2)), (3, .int (nI i12))] → W p l e ({ frames := 5, cells := 0, slots := 0, locals := 110 } : Room) s m args below meth c H locs 0 0 Q (F0 m 12 ls []) := by
          intro N12
          induction N12 with
          | zero => intro i12 Z_0_12 Z_1_12 Z_3_12 H locs ls hN; exact absurd hN (by omega)
          | succ N12 ih12 =>
            intro i12 Z_0_12 Z_1_12 Z_3_12 H locs ls hN12 hi12 hKN12 hS hl
            refine lv_iload_n hx hb dX7_overFaults_12 rfl (lv_at hl 3 rfl) ?_
            refine lv_aload_n hx hb dX7_overFaults_13 rfl (lv_at hl 0 rfl) ?_
            refine cx_get (own := RX7) (index := 81) (C := RX7) (T := TX7) (N := 22) (k := 9) (ci := 7) (v := .int (nI k)) hx hb hts hown hE hS hinX7 0 rfl rfl (by decide) (List.mem_of_getElem? (i := 1) rfl) rfl dX7_overFaults_14 ?_
            have J164 : ∀ (H : Heap) (locs : List Loc) (ls : Array Slot), cx_S D vwCl A s (cyW q cI cZ n T k M d (cx_u (cx_u (cx_u Z 0 Z_0_12) 1 Z_1_12) 3 Z_3_12) F) H locs → lv_has ls 4 [(0, .ref (q 0)), (1, .int (nI t)), (2, .int (nI i2)), (3, .int (nI i12))] → W p l e ({ frames := 5, cells := 0, slots := 0, locals := 110 } : Room) s m args below meth c H locs 0 0 Q (F0 m 164 ls []) := by
              intro  H locs ls  hS hl
              refine lv_iinc (v := nI (i2 + 1)) (lv' := [(2, .int (nI (i2 + 1))), (0, .ref (q 0)), (1, .int (nI t)), (3, .int (nI i12))]) hx hb dX7_overFaults_164 hl (k := 2) rfl (cx_inc _) (by decide) rfl (fun ls hl => ?_)
              refine lv_goto (tgt := 2) hx hb dX7_overFaults_167 (by decide) ?_
              exact ih2 (i2 + 1) Z_0_12 Z_1_12 Z_3_12 _ _ _ (by omega) (by omega) (by first | assumption | exact hKN) hS (lv_sub hl [1, 2, 0] rfl)
            refine lv_icmp_ge (tgt := 164) hx hb dX7_overFaults_17 (by decide) (fun h17 => ?_) (fun h17 => ?_)
            · skip
              have g17 : k ≤ i12 := (nI_leI (a := k) (b := i12) (by omega) (by omega)).mp h17
              exact J164  _ _ _  hS (lv_sub hl [0, 1, 2, 3] rfl)
            · skip
              have g17 : ¬ (k ≤ i12) := fun z => h17 ((nI_leI (a := k) (b := i12) (by omega) (by omega)).mpr z)
              refine lv_aload_n hx hb dX7_overFaults_20 rfl (lv_at hl 0 rfl) ?_
              refine cx_get (own := RX7) (index := 34) (C := RX7) (T := TX7) (N := 22) (k := 10) (ci := 7) (v := .ref (q 9)) hx hb hts hown hE hS hinX7 0 rfl rfl (by decide) (List.mem_of_getElem? (i := 2) rfl) rfl dX7_overFaults_21 ?_
              refine lv_iload_n hx hb dX7_overFaults_24 rfl (lv_at hl 2 rfl) ?_
              refine cx_iald (f := (M 0)) (n := 80) (cA := cI) hx hb hE hS 9 0 rfl rfl (by omega) (by decide) dX7_overFaults_25 ?_
              have ho25 := (hO i2).2
              refine cx_topr (z := nI (((M 0) i2).toNatClampNeg)) (hO i2).1 ?_
              refine lv_iload_n hx hb dX7_overFaults_26 rfl (lv_at hl 1 rfl) ?_
              refine lv_icmp_ne (tgt := 164) hx hb dX7_overFaults_27 (by decide) (fun h27 => ?_) (fun h27 => ?_)
              · skip
                have g27 : ¬ ((((M 0) i2).toNatClampNeg) = t) := fun z => h27 ((nI_eq (a := ((M 0) i2).toNatClampNeg) (b := t) (by omega) (by omega)).mpr z)
                exact J164  _ _ _  hS (lv_sub hl [0, 1, 2, 3] rfl)
              · skip
                have g27 : (((M 0) i2).toNatClampNeg) = t := (nI_eq (a := ((M 0) i2).toNatClampNeg) (b := t) (by omega) (by omega)).mp h27
                refine lv_aload_n hx hb dX7_overFaults_30 rfl (lv_at hl 0 rfl) ?_
                refine cx_get (own := RX7) (index := 46) (C := RX7) (T := TX7) (N := 22) (k := 14) (ci := 7) (v := .ref (q 13)) hx hb hts hown hE hS hinX7 0 rfl rfl (by decide) (List.mem_of_getElem? (i := 3) rfl) rfl dX7_overFaults_31 ?_
                refine lv_iload_n hx hb dX7_overFaults_34 rfl (lv_at hl 2 rfl) ?_
                refine cx_iald (f := (M 4)) (n := 80) (cA := cI) hx hb hE hS 13 0 rfl rfl (by omega) (by decide) dX7_overFaults_35 ?_
                refine lv_if_le (tgt := 164) hx hb dX7_overFaults_36 (by decide) (fun h36 => ?_) (fun h36 => ?_)
                · skip
                  exact J164  _ _ _  hS (lv_sub hl [0, 1, 2, 3] rfl)
                · skip
                  refine lv_aload_n hx hb dX7_overFaults_39 rfl (lv_at hl 0 rfl) ?_
                  refine lv_iload_n hx hb dX7_overFaults_40 rfl (lv_at hl 2 rfl) ?_
                  refine lv_iload_n hx hb dX7_overFaults_41 rfl (lv_at hl 3 rfl) ?_
                  refine cx_cVi (As := [.int (nI i2), .int (nI i12)]) (rest := []) ⟨hx, hb, hml, hown, hts⟩ hE hS (c_X7_areLike l D q cI cZ n T k M d (cx_u (cx_u (cx_u Z 0 Z_0_12) 1 Z_1_12) 3 Z_3_12) F i2 i12 (by first | assumption | omega) (by first | assumption | omega)) (cwV 2 hts gX7_overFaults_X7_areLike rfl rfl rfl (by decide +kernel) ⟨Nat.le_of_ble_eq_true rfl, Nat.le_of_ble_eq_true rfl⟩) 0 7 rfl rfl rfl hl.1 rfl (Nat.le_of_ble_eq_true rfl) ⟨Nat.zero_le _, Nat.zero_le _⟩ dX7_overFaults_42 (fun r_42 u_42 H locs hp_42 hS => ?_)
                  have hp_42 : r_42 = 0 ∨ r_42 = 1 := hp_42
                  have J158 : ∀ (Z_0_158 : Nat → Int32) (Z_3_158 : Nat → Int32) (Z_1_158 : Nat → Int32) (H : Heap) (locs : List Loc) (ls : Array Slot), (cx_KN n T Z_0_158 (Z_3_158 0)) → cx_S D vwCl A s (cyW q cI cZ n T k M d (cx_u (cx_u (cx_u Z 0 Z_0_158) 3 Z_3_158) 1 Z_1_158) F) H locs → lv_has ls 4 [(0, .ref (q 0)), (1, .int (nI t)), (2, .int (nI i2)), (3, .int (nI i12))] → W p l e ({ frames := 5, cells := 0, slots := 0, locals := 110 } : Room) s m args below meth c H locs 0 0 Q (F0 m 158 ls []) := by
                    intro Z_0_158 Z_3_158 Z_1_158 H locs ls hKN158 hS hl
                    refine lv_iinc (v := nI (i12 + 1)) (lv' := [(3, .int (nI (i12 + 1))), (0, .ref (q 0)), (1, .int (nI t)), (2, .int (nI i2))]) hx hb dX7_overFaults_158 hl (k := 3) rfl (cx_inc _) (by decide) rfl (fun ls hl => ?_)
                    refine lv_goto (tgt := 12) hx hb dX7_overFaults_161 (by decide) ?_
                    exact ih12 (i12 + 1) Z_0_158 Z_1_158 Z_3_158 _ _ _ (by omega) (by omega) (by first | assumption | exact hKN) hS (lv_sub hl [1, 2, 3, 0] rfl)
                  refine lv_if_eq (tgt := 158) hx hb dX7_overFaults_45 (by decide) (fun h45 => ?_) (fun h45 => ?_)
                  · skip
                    exact J158 Z_0_12 Z_3_12 Z_1_12 _ _ _ (by first | assumption | exact hKN) hS (lv_sub hl [0, 1, 2, 3] rfl)
                  · skip
                    refine lv_aload_n hx hb dX7_overFaults_48 rfl (lv_at hl 0 rfl) ?_
                    refine lv_iload_n hx hb dX7_overFaults_49 rfl (lv_at hl 3 rfl) ?_
                    refine lv_iload_n hx hb dX7_overFaults_50 rfl (lv_at hl 1 rfl) ?_
                    refine cx_cVi (As := [.int (nI i12), .int (nI t)]) (rest := []) ⟨hx, hb, hml, hown, hts⟩ hE hS (c_X7_isShared l D q cI cZ n T k M d (cx_u (cx_u (cx_u Z 0 Z_0_12) 1 Z_1_12) 3 Z_3_12) F i12 t (by first | assumption | omega) (by first | assumption | omega) (by first | assumption | omega) (by first | assumption | omega) (by first | assumption | omega) (by first | assumption | omega) (by first | assumption | omega) (by first | assumption | omega)) (cwV 2 hts gX7_overFaults_X7_isShared rfl rfl rfl (by decide +kernel) ⟨Nat.le_of_ble_eq_true rfl, Nat.le_of_ble_eq_true rfl⟩) 0 7 rfl rfl rfl hl.1 rfl (Nat.le_of_ble_eq_true rfl) ⟨Nat.zero_le _, Nat.zero_le _⟩ dX7_overFaults_51 (fun r_51 u_51 H locs hp_51 hS => ?_)
                    obtain ⟨za_51, kn_51⟩ := u_51
                    have hS : cx_S D vwCl A s (cyW q cI cZ n T k M d (cx_u (cx_u (cx_u Z 1 Z_1_12) 0 za_51) 3 (fun _ => kn_51)) F) H locs := hS
                    obtain ⟨hKN_51, hp_51⟩ := hp_51
                    have hKN_51 : cx_KN n T za_51 kn_51 := hKN_51
                    have hp_51 : r_51 = 0 ∨ r_51 = 1 := hp_51
                    refine lv_if_eq (tgt := 158) hx hb dX7_overFaults_54 (by decide) (fun h54 => ?_) (fun h54 => ?_)
                    · skip
                      exact J158 za_51 (fun _ => kn_51) Z_1_12 _ _ _ (by first | assumption | exact hKN) hS (lv_sub hl [0, 1, 2, 3] rfl)
                    · skip
                      refine lv_aload_n hx hb dX7_overFaults_57 rfl (lv_at hl 0 rfl) ?_
                      refine lv_bipush (v := nI 12) hx hb dX7_overFaults_58 (by decide) ?_
                      refine lv_iload_n hx hb dX7_overFaults_60 rfl (lv_at hl 2 rfl) ?_
                      refine lv_aload_n hx hb dX7_overFaults_61 rfl (lv_at hl 0 rfl) ?_
                      refine lv_iload_n hx hb dX7_overFaults_62 rfl (lv_at hl 3 rfl) ?_
                      refine lv_iconst (v := (1 : Int32)) hx hb dX7_overFaults_63 (by decide) ?_
                      refine lv_iconst (v := nI 2) hx hb dX7_overFaults_64 (by decide) ?_
                      refine cx_cVi (As := [.int (nI i12), .int (1 : Int32), .int (nI 2)]) (rest := [.int (nI i2), .int (nI 12), .ref (q 0)]) ⟨hx, hb, hml, hown, hts⟩ hE hS (c_X7_is l D q cI cZ n T k M d (cx_u (cx_u (cx_u Z 1 Z_1_12) 0 za_51) 3 (fun _ => kn_51)) F i12 (1 : Int32) (nI 2) (by first | assumption | omega)) (cwV 3 hts gX7_overFaults_X7_is rfl rfl rfl (by decide +kernel) ⟨Nat.le_of_ble_eq_true rfl, Nat.le_of_ble_eq_true rfl⟩) 0 7 rfl rfl rfl hl.1 rfl (Nat.le_of_ble_eq_true rfl) ⟨Nat.zero_le _, Nat.zero_le _⟩ dX7_overFaults_65 (fun r_65 u_65 H locs hp_65 hS => ?_)
                      have hp_65 : r_65 = cx_b ((cx_b (¬ (((M 3) i12) &&& (nI 2)) = 0)) = (1 : Int32)) := hp_65
                      subst hp_65
                      refine cx_cVv (As := [.int (nI 12), .int (nI i2), .int (cx_b ((cx_b (¬ (((M 3) i12) &&& (nI 2)) = 0)) = (1 : Int32)))]) (rest := []) ⟨hx, hb, hml, hown, hts⟩ hE hS (c_X7_mark l D q cI cZ n T k M d (cx_u (cx_u (cx_u Z 1 Z_1_12) 0 za_51) 3 (fun _ => kn_51)) F 12 i2 (cx_b ((cx_b (¬ (((M 3) i12) &&& (nI 2)) = 0)) = (1 : Int32))) (by first | assumption | omega) (by first | assumption | omega)) (cwV 3 hts gX7_overFaults_X7_mark rfl rfl rfl (by decide +kernel) ⟨Nat.le_of_ble_eq_true rfl, Nat.le_of_ble_eq_true rfl⟩) 0 7 rfl rfl rfl hl.1 rfl (Nat.le_of_ble_eq_true rfl) ⟨Nat.zero_le _, Nat.zero_le _⟩ dX7_overFaults_68 (fun u_68 H locs hp_68 hS => ?_)
                      obtain ⟨zf_68, rfl⟩ : ∃ z, z = u_68 := ⟨_, rfl⟩
                      have hS : cx_S D vwCl A s (cyW q cI cZ n T k M d (cx_u (cx_u (cx_u Z 0 za_51) 3 (fun _ => kn_51)) 1 zf_68) F) H locs := hS
                      refine lv_aload_n hx hb dX7_overFaults_71 rfl (lv_at hl 0 rfl) ?_
                      refine lv_bipush (v := nI 13) hx hb dX7_overFaults_72 (by decide) ?_
                      refine lv_iload_n hx hb dX7_overFaults_74 rfl (lv_at hl 2 rfl) ?_
                      refine lv_aload_n hx hb dX7_overFaults_75 rfl (lv_at hl 0 rfl) ?_
                      refine lv_iload_n hx hb dX7_overFaults_76 rfl (lv_at hl 2 rfl) ?_
                      refine lv_iconst (v := (1 : Int32)) hx hb dX7_overFaults_77 (by decide) ?_
                      refine lv_iconst (v := nI 4) hx hb dX7_overFaults_78 (by decide) ?_
                      refine cx_cVi (As := [.int (nI i2), .int (1 : Int32), .int (nI 4)]) (rest := [.int (nI i2), .int (nI 13), .ref (q 0)]) ⟨hx, hb, hml, hown, hts⟩ hE hS (c_X7_is l D q cI cZ n T k M d (cx_u (cx_u (cx_u Z 0 za_51) 3 (fun _ => kn_51)) 1 zf_68) F i2 (1 : Int32) (nI 4) (by first | assumption | omega)) (cwV 3 hts gX7_overFaults_X7_is rfl rfl rfl (by decide +kernel) ⟨Nat.le_of_ble_eq_true rfl, Nat.le_of_ble_eq_true rfl⟩) 0 7 rfl rfl rfl hl.1 rfl (Nat.le_of_ble_eq_true rfl) ⟨Nat.zero_le _, Nat.zero_le _⟩ dX7_overFaults_79 (fun r_79 u_79 H locs hp_79 hS => ?_)
                      have hp_79 : r_79 = cx_b ((cx_b (¬ (((M 3) i2) &&& (nI 4)) = 0)) = (1 : Int32)) := hp_79
                      subst hp_79
                      refine lv_aload_n hx hb dX7_overFaults_82 rfl (lv_at hl 0 rfl) ?_
                      refine lv_iload_n hx hb dX7_overFaults_83 rfl (lv_at hl 3 rfl) ?_
                      refine lv_iconst (v := (1 : Int32)) hx hb dX7_overFaults_84 (by decide) ?_
                      refine lv_iconst (v := nI 4) hx hb dX7_overFaults_85 (by decide) ?_
                      refine cx_cVi (As := [.int (nI i12), .int (1 : Int32), .int (nI 4)]) (rest := [.int (cx_b ((cx_b (¬ (((M 3) i2) &&& (nI 4)) = 0)) = (1 : Int32))), .int (nI i2), .int (nI 13), .ref (q 0)]) ⟨hx, hb, hml, hown, hts⟩ hE hS (c_X7_is l D q cI cZ n T k M d (cx_u (cx_u (cx_u Z 0 za_51) 3 (fun _ => kn_51)) 1 zf_68) F i12 (1 : Int32) (nI 4) (by first | assumption | omega)) (cwV 3 hts gX7_overFaults_X7_is rfl rfl rfl (by decide +kernel) ⟨Nat.le_of_ble_eq_true rfl, Nat.le_of_ble_eq_true rfl⟩) 0 7 rfl rfl rfl hl.1 rfl (Nat.le_of_ble_eq_true rfl) ⟨Nat.zero_le _, Nat.zero_le _⟩ dX7_overFaults_86 (fun r_86 u_86 H locs hp_86 hS => ?_)
                      have hp_86 : r_86 = cx_b ((cx_b (¬ (((M 3) i12) &&& (nI 4)) = 0)) = (1 : Int32)) := hp_86
                      subst hp_86
                      have J97 : ∀ (v97_s0 : Int32) (H : Heap) (locs : List Loc) (ls : Array Slot), cx_S D vwCl A s (cyW q cI cZ n T k M d (cx_u (cx_u (cx_u Z 0 za_51) 3 (fun _ => kn_51)) 1 zf_68) F) H locs → lv_has ls 4 [(0, .ref (q 0)), (1, .int (nI t)), (2, .int (nI i2)), (3, .int (nI i12))] → W p l e ({ frames := 5, cells := 0, slots := 0, locals := 110 } : Room) s m args below meth c H locs 0 0 Q (F0 m 97 ls [.int v97_s0, .int (nI i2), .int (nI 13), .ref (q 0)]) := by
                        intro v97_s0 H locs ls  hS hl
                        refine cx_cVv (As := [.int (nI 13), .int (nI i2), .int v97_s0]) (rest := []) ⟨hx, hb, hml, hown, hts⟩ hE hS (c_X7_mark l D q cI cZ n T k M d (cx_u (cx_u (cx_u Z 0 za_51) 3 (fun _ => kn_51)) 1 zf_68) F 13 i2 v97_s0 (by first | assumption | omega) (by first | assumption | omega)) (cwV 3 hts gX7_overFaults_X7_mark rfl rfl rfl (by decide +kernel) ⟨Nat.le_of_ble_eq_true rfl, Nat.le_of_ble_eq_true rfl⟩) 0 7 rfl rfl rfl hl.1 rfl (Nat.le_of_ble_eq_true rfl) ⟨Nat.zero_le _, Nat.zero_le _⟩ dX7_overFaults_97 (fun u_97 H locs hp_97 hS => ?_)
                        obtain ⟨zf_97, rfl⟩ : ∃ z, z = u_97 := ⟨_, rfl⟩
                        have hS : cx_S D vwCl A s (cyW q cI cZ n T k M d (cx_u (cx_u (cx_u Z 0 za_51) 3 (fun _ => kn_51)) 1 zf_97) F) H locs := hS
                        refine lv_aload_n hx hb dX7_overFaults_100 rfl (lv_at hl 0 rfl) ?_
                        refine lv_bipush (v := nI 14) hx hb dX7_overFaults_101 (by decide) ?_
                        refine lv_iload_n hx hb dX7_overFaults_103 rfl (lv_at hl 2 rfl) ?_
                        refine lv_aload_n hx hb dX7_overFaults_104 rfl (lv_at hl 0 rfl) ?_
                        refine cx_get (own := RX7) (index := 46) (C := RX7) (T := TX7) (N := 22) (k := 14) (ci := 7) (v := .ref (q 13)) hx hb hts hown hE hS hinX7 0 rfl rfl (by decide) (List.mem_of_getElem? (i := 3) rfl) rfl dX7_overFaults_105 ?_
                        refine lv_iload_n hx hb dX7_overFaults_108 rfl (lv_at hl 3 rfl) ?_
                        refine cx_iald (f := (M 4)) (n := 80) (cA := cI) hx hb hE hS 13 0 rfl rfl (by omega) (by decide) dX7_overFaults_109 ?_
                        refine lv_aload_n hx hb dX7_overFaults_110 rfl (lv_at hl 0 rfl) ?_
                        refine cx_get (own := RX7) (index := 46) (C := RX7) (T := TX7) (N := 22) (k := 14) (ci := 7) (v := .ref (q 13)) hx hb hts hown hE hS hinX7 0 rfl rfl (by decide) (List.mem_of_getElem? (i := 3) rfl) rfl dX7_overFaults_111 ?_
                        refine lv_iload_n hx hb dX7_overFaults_114 rfl (lv_at hl 2 rfl) ?_
                        refine cx_iald (f := (M 4)) (n := 80) (cA := cI) hx hb hE hS 13 0 rfl rfl (by omega) (by decide) dX7_overFaults_115 ?_
                        have J124 : ∀ (v124_s0 : Int32) (H : Heap) (locs : List Loc) (ls : Array Slot), cx_S D vwCl A s (cyW q cI cZ n T k M d (cx_u (cx_u (cx_u Z 0 za_51) 3 (fun _ => kn_51)) 1 zf_97) F) H locs → lv_has ls 4 [(0, .ref (q 0)), (1, .int (nI t)), (2, .int (nI i2)), (3, .int (nI i12))] → W p l e ({ frames := 5, cells := 0, slots := 0, locals := 110 } : Room) s m args below meth c H locs 0 0 Q (F0 m 124 ls [.int v124_s0, .int (nI i2), .int (nI 14), .ref (q 0)]) := by
                          intro v124_s0 H locs ls  hS hl
                          refine cx_cVv (As := [.int (nI 14), .int (nI i2), .int v124_s0]) (rest := []) ⟨hx, hb, hml, hown, hts⟩ hE hS (c_X7_mark l D q cI cZ n T k M d (cx_u (cx_u (cx_u Z 0 za_51) 3 (fun _ => kn_51)) 1 zf_97) F 14 i2 v124_s0 (by first | assumption | omega) (by first | assumption | omega)) (cwV 3 hts gX7_overFaults_X7_mark rfl rfl rfl (by decide +kernel) ⟨Nat.le_of_ble_eq_true rfl, Nat.le_of_ble_eq_true rfl⟩) 0 7 rfl rfl rfl hl.1 rfl (Nat.le_of_ble_eq_true rfl) ⟨Nat.zero_le _, Nat.zero_le _⟩ dX7_overFaults_124 (fun u_124 H locs hp_124 hS => ?_)
                          obtain ⟨zf_124, rfl⟩ : ∃ z, z = u_124 := ⟨_, rfl⟩
                          have hS : cx_S D vwCl A s (cyW q cI cZ n T k M d (cx_u (cx_u (cx_u Z 0 za_51) 3 (fun _ => kn_51)) 1 zf_124) F) H locs := hS
                          refine lv_aload_n hx hb dX7_overFaults_127 rfl (lv_at hl 0 rfl) ?_
                          refine lv_bipush (v := nI 15) hx hb dX7_overFaults_128 (by decide) ?_
                          refine lv_iload_n hx hb dX7_overFaults_130 rfl (lv_at hl 2 rfl) ?_
                          refine lv_aload_n hx hb dX7_overFaults_131 rfl (lv_at hl 0 rfl) ?_
                          refine lv_aload_n hx hb dX7_overFaults_132 rfl (lv_at hl 0 rfl) ?_
                          refine cx_get (own := RX7) (index := 49) (C := RX7) (T := TX7) (N := 22) (k := 15) (ci := 7) (v := .ref (q 14)) hx hb hts hown hE hS hinX7 0 rfl rfl (by decide) (List.mem_of_getElem? (i := 4) rfl) rfl dX7_overFaults_133 ?_
                          refine lv_iload_n hx hb dX7_overFaults_136 rfl (lv_at hl 2 rfl) ?_
                          refine cx_iald (f := (M 5)) (n := 80) (cA := cI) hx hb hE hS 14 0 rfl rfl (by omega) (by decide) dX7_overFaults_137 ?_
                          refine lv_aload_n hx hb dX7_overFaults_138 rfl (lv_at hl 0 rfl) ?_
                          refine cx_get (own := RX7) (index := 49) (C := RX7) (T := TX7) (N := 22) (k := 15) (ci := 7) (v := .ref (q 14)) hx hb hts hown hE hS hinX7 0 rfl rfl (by decide) (List.mem_of_getElem? (i := 4) rfl) rfl dX7_overFaults_139 ?_
                          refine lv_iload_n hx hb dX7_overFaults_142 rfl (lv_at hl 3 rfl) ?_
                          refine cx_iald (f := (M 5)) (n := 80) (cA := cI) hx hb hE hS 14 0 rfl rfl (by omega) (by decide) dX7_overFaults_143 ?_
                          refine cx_cVi (As := [.int ((M 5) i2), .int ((M 5) i12)]) (rest := [.int (nI i2), .int (nI 15), .ref (q 0)]) ⟨hx, hb, hml, hown, hts⟩ hE hS (c_X7_fitsResult l D q cI cZ n T k M d (cx_u (cx_u (cx_u Z 0 za_51) 3 (fun _ => kn_51)) 1 zf_124) F ((M 5) i2) ((M 5) i12) (by first | assumption | omega) (by first | assumption | omega) (by first | assumption | omega) (by first | assumption | omega) (by first | assumption | omega)) (cwV 2 hts gX7_overFaults_X7_fitsResult rfl rfl rfl (by decide +kernel) ⟨Nat.le_of_ble_eq_true rfl, Nat.le_of_ble_eq_true rfl⟩) 0 7 rfl rfl rfl hl.1 rfl (Nat.le_of_ble_eq_true rfl) ⟨Nat.zero_le _, Nat.zero_le _⟩ dX7_overFaults_144 (fun r_144 u_144 H locs hp_144 hS => ?_)
                          obtain ⟨za_144, kn_144⟩ := u_144
                          have hS : cx_S D vwCl A s (cyW q cI cZ n T k M d (cx_u (cx_u (cx_u Z 1 zf_124) 0 za_144) 3 (fun _ => kn_144)) F) H locs := hS
                          obtain ⟨hKN_144, hp_144⟩ := hp_144
                          have hKN_144 : cx_KN n T za_144 kn_144 := hKN_144
                          have hp_144 : r_144 = 0 ∨ r_144 = 1 := hp_144
                          have J155 : ∀ (v155_s0 : Int32) (H : Heap) (locs : List Loc) (ls : Array Slot), cx_S D vwCl A s (cyW q cI cZ n T k M d (cx_u (cx_u (cx_u Z 1 zf_124) 0 za_144) 3 (fun _ => kn_144)) F) H locs → lv_has ls 4 [(0, .ref (q 0)), (1, .int (nI t)), (2, .int (nI i2)), (3, .int (nI i12))] → W p l e ({ frames := 5, cells := 0, slots := 0, locals := 110 } : Room) s m args below meth c H locs 0 0 Q (F0 m 155 ls [.int v155_s0, .int (nI i2), .int (nI 15), .ref (q 0)]) := by
                            intro v155_s0 H locs ls  hS hl
                            refine cx_cVv (As := [.int (nI 15), .int (nI i2), .int v155_s0]) (rest := []) ⟨hx, hb, hml, hown, hts⟩ hE hS (c_X7_mark l D q cI cZ n T k M d (cx_u (cx_u (cx_u Z 1 zf_124) 0 za_144) 3 (fun _ => kn_144)) F 15 i2 v155_s0 (by first | assumption | omega) (by first | assumption | omega)) (cwV 3 hts gX7_overFaults_X7_mark rfl rfl rfl (by decide +kernel) ⟨Nat.le_of_ble_eq_true rfl, Nat.le_of_ble_eq_true rfl⟩) 0 7 rfl rfl rfl hl.1 rfl (Nat.le_of_ble_eq_true rfl) ⟨Nat.zero_le _, Nat.zero_le _⟩ dX7_overFaults_155 (fun u_155 H locs hp_155 hS => ?_)
                            obtain ⟨zf_155, rfl⟩ : ∃ z, z = u_155 := ⟨_, rfl⟩
                            have hS : cx_S D vwCl A s (cyW q cI cZ n T k M d (cx_u (cx_u (cx_u Z 0 za_144) 3 (fun _ => kn_144)) 1 zf_155) F) H locs := hS
                            exact J158 za_144 (fun _ => kn_144) zf_155 _ _ _ (by first | assumption | exact hKN) hS (lv_sub hl [0, 1, 2, 3] rfl)
                          refine lv_if_ne (tgt := 154) hx hb dX7_overFaults_147 (by decide) (fun h147 => ?_) (fun h147 => ?_)
                          · skip
                            refine lv_iconst (v := (0 : Int32)) hx hb dX7_overFaults_154 (by decide) ?_
                            exact J155 (0 : Int32) _ _ _  hS (lv_sub hl [0, 1, 2, 3] rfl)
                          · skip
                            refine lv_iconst (v := (1 : Int32)) hx hb dX7_overFaults_150 (by decide) ?_
                            refine lv_goto (tgt := 155) hx hb dX7_overFaults_151 (by decide) ?_
                            exact J155 (1 : Int32) _ _ _  hS (lv_sub hl [0, 1, 2, 3] rfl)
                        refine lv_icmp_le (tgt := 123) hx hb dX7_overFaults_116 (by decide) (fun h116 => ?_) (fun h116 => ?_)
                        · skip
                          refine lv_iconst (v := (0 : Int32)) hx hb dX7_overFaults_123 (by decide) ?_
                          exact J124 (0 : Int32) _ _ _  hS (lv_sub hl [0, 1, 2, 3] rfl)
                        · skip
                          refine lv_iconst (v := (1 : Int32)) hx hb dX7_overFaults_119 (by decide) ?_
                          refine lv_goto (tgt := 124) hx hb dX7_overFaults_120 (by decide) ?_
                          exact J124 (1 : Int32) _ _ _  hS (lv_sub hl [0, 1, 2, 3] rfl)
                      refine lv_icmp_eq (tgt := 96) hx hb dX7_overFaults_89 (by decide) (fun h89 => ?_) (fun h89 => ?_)
                      · skip
                        refine lv_iconst (v := (0 : Int32)) hx hb dX7_overFaults_96 (by decide) ?_
                        exact J97 (0 : Int32) _ _ _  hS (lv_sub hl [0, 1, 2, 3] rfl)
                      · skip
                        refine lv_iconst (v := (1 : Int32)) hx hb dX7_overFaults_92 (by decide) ?_
                        refine lv_goto (tgt := 97) hx hb dX7_overFaults_93 (by decide) ?_
                        exact J97 (1 : Int32) _ _ _  hS (lv_sub hl [0, 1, 2, 3] rfl)
        exact J12 (k - 0 + 1) 0 Z_0_2 Z_1_2 Z_3_2 _ _ _ (Nat.lt_succ_self _) (by omega) (by first | assumption | exact hKN) hS (lv_sub hl [1, 2, 3, 0] rfl)
  exact J2 (k - 0 + 1) 0 (Z 0) (Z 1) (Z 3) _ _ _ (Nat.lt_succ_self _) (by omega) (by first | assumption | exact hKN) hS (lv_sub hl [1, 2, 0] rfl)
set_option maxHeartbeats 4000000 in
set_option maxRecDepth 100000 in
theorem c_X7_classOne (l : Launch) (D : va_G) (q : Nat → Nat) (cI cZ : ClassId) (n : Nat) (T : Nat → Nat → Int32) (k : Nat) (M : Nat → Nat → Int32) (d : Nat) (Z : Nat → Nat → Int32) (F : Nat → Nat → Int32) (t : Nat) (nm : Int32) (pm : Int32) (hn : n ≤ 20) (hP : cx_P (T 3) 20) (hU : cx_R (T 4) 20) (hV : cx_R (T 5) 4) (hKN : cx_KN n T (Z 0) ((Z 3) 0)) (hO : cx_R (M 0) 20) (hk : k ≤ 80) (ht : t < 20) : cx_Mi l D vwCl [(cI, .int), (cZ, .boolean)] cx_NW yX7_classOne wsX7_classOne ({ frames := 4, cells := 0, slots := 0, locals := 89 } : Room) [.ref (q 0), .int (nI t), .int nm, .int pm] (cyW q cI cZ n T k M d Z F) (fun (r : Int32) (uw : (Nat → Int32) × (Int32)) => cx_KN n T uw.1 uw.2 ∧ (r = -1 ∨ cx_ix r 80)) (fun uw => (cyW q cI cZ n T k M d (cx_u (cx_u Z 0 uw.1) 3 (fun _ => uw.2)) F)) := by
  refine cx_Mi.of (cc := cX7_classOne) (maxL := 7) cx_NW_ok (by decide) rfl (Nat.le_of_ble_eq_true rfl) ?_
  intro p e s m args below meth c Q A ls hx hb hml hown hts hE RET hS hl
  have hl : lv_has ls 7 [(0, .ref (q 0)), (1, .int (nI t)), (2, .int nm), (3, .int pm)] := hl
  have hown : s.vm.findClass RX7 = some m.cls := hown
  have hinX7 : ∀ w ∈ u_ws RX7 TX7 22, w ∈ wsX7_classOne := cx_mem [35, 36, 37, 38, 39, 40, 41, 42, 43, 44, 45, 46, 47, 48, 49, 50, 51, 52, 53, 54, 55, 56] (by decide +kernel)
  refine lv_aload_n hx hb dX7_classOne_0 rfl (lv_at hl 0 rfl) ?_
  refine cx_get (own := RX7) (index := 7) (C := RX7) (T := TX7) (N := 22) (k := 1) (ci := 7) (v := .ref (q 1)) hx hb hts hown hE hS hinX7 0 rfl rfl (by decide) (List.mem_of_getElem? (i := 1) rfl) rfl dX7_classOne_1 ?_
  refine lv_iload_n hx hb dX7_classOne_4 rfl (lv_at hl 1 rfl) ?_
  refine cx_iald (f := (T 0)) (n := 20) (cA := cI) hx hb hE hS 1 0 rfl rfl (by omega) (by decide) dX7_classOne_5 ?_
  refine lv_iconst (v := (1 : Int32)) hx hb dX7_classOne_6 (by decide) ?_
  refine lv_icmp_ne (tgt := 12) hx hb dX7_classOne_7 (by decide) (fun h7 => ?_) (fun h7 => ?_)
  · skip
    refine lv_iload_n hx hb dX7_classOne_12 rfl (lv_at hl 1 rfl) ?_
    refine lv_istore (lv' := [(4, .int (nI t)), (0, .ref (q 0)), (1, .int (nI t)), (2, .int nm), (3, .int pm)]) hx hb dX7_classOne_13 hl (by decide) rfl (fun ls hl => ?_)
    refine lv_iconst (v := (0 : Int32)) hx hb dX7_classOne_15 (by decide) ?_
    refine cx_topr (z := nI 0) (by decide) ?_
    refine lv_istore (lv' := [(5, .int (nI 0)), (4, .int (nI t)), (0, .ref (q 0)), (1, .int (nI t)), (2, .int nm), (3, .int pm)]) hx hb dX7_classOne_16 hl (by decide) rfl (fun ls hl => ?_)
    have J18 : ∀ (N : Nat) (v18_l4 : Int32) (i18 : Nat) (Z_0_18 : Nat → Int32) (Z_3_18 : Nat → Int32) (H : Heap) (locs : List Loc) (ls : Array Slot), (20 - i18 < N) → (i18 ≤ 20) → (cx_KN n T Z_0_18 (Z_3_18 0)) → cx_S D vwCl A s (cyW q cI cZ n T k M d (cx_u (cx_u Z 0 Z_0_18) 3 Z_3_18) F) H locs → lv_has ls 7 [(0, .ref (q 0)), (1, .int (nI t)), (2, .int nm), (3, .int pm), (4, .int v18_l4), (5, .int (nI i18))] → W p l e ({ frames := 4, cells := 0, slots := 0, locals := 89 } : Room) s m args below meth c H locs 0 0 Q (F0 m 18 ls []) := by
      intro N18
      induction N18 with
      | zero => intro v18_l4 i18 Z_0_18 Z_3_18 H locs ls hN; exact absurd hN (by omega)
      | succ N18 ih18 =>
        intro v18_l4 i18 Z_0_18 Z_3_18 H locs ls hN18 hi18 hKN18 hS hl
        refine lv_iload hx hb dX7_classOne_18 (lv_at hl 5 rfl) ?_
        refine lv_bipush (v := nI 20) hx hb dX7_classOne_20 (by decide) ?_
        have J131 : ∀ (H : Heap) (locs : List Loc) (ls : Array Slot), cx_S D vwCl A s (cyW q cI cZ n T k M d (cx_u (cx_u Z 0 Z_0_18) 3 Z_3_18) F) H locs → lv_has ls 7 [(0, .ref (q 0)), (1, .int (nI t)), (2, .int nm), (3, .int pm), (4, .int v18_l4), (5, .int (nI i18))] → W p l e ({ frames := 4, cells := 0, slots := 0, locals := 89 } : Room) s m args below meth c H locs 0 0 Q (F0 m 131 ls []) := by
          intro  H locs ls  hS hl
          refine lv_iconst (v := (-1 : Int32)) hx hb dX7_classOne_131 (by decide) ?_
          exact RET _ (Z_0_18, Z_3_18 0) _ _ _ _ dX7_classOne_132 rfl (⟨(by first | assumption | exact hKN), Or.inl rfl⟩) hS
        refine lv_icmp_ge (tgt := 131) hx hb dX7_classOne_22 (by decide) (fun h22 => ?_) (fun h22 => ?_)
        · skip
          have g22 : 20 ≤ i18 := (nI_leI (a := 20) (b := i18) (by omega) (by omega)).mp h22
          exact J131  _ _ _  hS (lv_sub hl [0, 1, 2, 3, 4, 5] rfl)
        · skip
          have g22 : ¬ (20 ≤ i18) := fun z => h22 ((nI_leI (a := 20) (b := i18) (by omega) (by omega)).mpr z)
          refine lv_aload_n hx hb dX7_classOne_25 rfl (lv_at hl 0 rfl) ?_
          refine lv_iload hx hb dX7_classOne_26 (lv_at hl 4 rfl) ?_
          refine cx_cVi (As := [.int v18_l4]) (rest := []) ⟨hx, hb, hml, hown, hts⟩ hE hS (c_X7_isType l D q cI cZ n T k M d (cx_u (cx_u Z 0 Z_0_18) 3 Z_3_18) F v18_l4 (by first | assumption | omega)) (cwV 1 hts gX7_classOne_X7_isType rfl rfl rfl (by decide +kernel) ⟨Nat.le_of_ble_eq_true rfl, Nat.le_of_ble_eq_true rfl⟩) 0 7 rfl rfl rfl hl.1 rfl (Nat.le_of_ble_eq_true rfl) ⟨Nat.zero_le _, Nat.zero_le _⟩ dX7_classOne_28 (fun r_28 u_28 H locs hp_28 hS => ?_)
          have hp_28 : r_28 = cx_b (0 ≤ v18_l4 ∧ v18_l4 < nI n) := hp_28
          subst hp_28
          refine lv_if_eq (tgt := 131) hx hb dX7_classOne_31 (by decide) (fun h31 => ?_) (fun h31 => ?_)
          · skip
            have g31 := cx_b0 h31
            exact J131  _ _ _  hS (lv_sub hl [0, 1, 2, 3, 4, 5] rfl)
          · skip
            have g31 := cx_b1 h31
            refine lv_iconst (v := (0 : Int32)) hx hb dX7_classOne_34 (by decide) ?_
            refine cx_topr (z := nI 0) (by decide) ?_
            refine lv_istore (lv' := [(6, .int (nI 0)), (0, .ref (q 0)), (1, .int (nI t)), (2, .int nm), (3, .int pm), (4, .int v18_l4), (5, .int (nI i18))]) hx hb dX7_classOne_35 hl (by decide) rfl (fun ls hl => ?_)
            have J37 : ∀ (N : Nat) (i37 : Nat) (Z_0_37 : Nat → Int32) (Z_3_37 : Nat → Int32) (H : Heap) (locs : List Loc) (ls : Array Slot), (k - i37 < N) → (i37 ≤ k) → (cx_KN n T Z_0_37 (Z_3_37 0)) → cx_S D vwCl A s (cyW q cI cZ n T k M d (cx_u (cx_u Z 0 Z_0_37) 3 Z_3_37) F) H locs → lv_has ls 7 [(0, .ref (q 0)), (1, .int (nI t)), (2, .int nm), (3, .int pm), (4, .int v18_l4), (5, .int (nI i18)), (6, .int (nI i37))] → W p l e ({ frames := 4, cells := 0, slots := 0, locals := 89 } : Room) s m args below meth c H locs 0 0 Q (F0 m 37 ls []) := by
              intro N37
              induction N37 with
              | zero => intro i37 Z_0_37 Z_3_37 H locs ls hN; exact absurd hN (by omega)
              | succ N37 ih37 =>
                intro i37 Z_0_37 Z_3_37 H locs ls hN37 hi37 hKN37 hS hl
                refine lv_iload hx hb dX7_classOne_37 (lv_at hl 6 rfl) ?_
                refine lv_aload_n hx hb dX7_classOne_39 rfl (lv_at hl 0 rfl) ?_
                refine cx_get (own := RX7) (index := 81) (C := RX7) (T := TX7) (N := 22) (k := 9) (ci := 7) (v := .int (nI k)) hx hb hts hown hE hS hinX7 0 rfl rfl (by decide) (List.mem_of_getElem? (i := 2) rfl) rfl dX7_classOne_40 ?_
                refine lv_icmp_ge (tgt := 116) hx hb dX7_classOne_43 (by decide) (fun h43 => ?_) (fun h43 => ?_)
                · skip
                  have g43 : k ≤ i37 := (nI_leI (a := k) (b := i37) (by omega) (by omega)).mp h43
                  refine lv_aload_n hx hb dX7_classOne_116 rfl (lv_at hl 0 rfl) ?_
                  refine cx_get (own := RX7) (index := 19) (C := RX7) (T := TX7) (N := 22) (k := 4) (ci := 7) (v := .ref (q 4)) hx hb hts hown hE hS hinX7 0 rfl rfl (by decide) (List.mem_of_getElem? (i := 6) rfl) rfl dX7_classOne_117 ?_
                  refine lv_iload hx hb dX7_classOne_120 (lv_at hl 4 rfl) ?_
                  refine cx_topr (z := nI (v18_l4.toNatClampNeg)) (cx_ixT (by omega) g31).1 ?_
                  refine cx_iald (f := (T 3)) (n := 20) (cA := cI) hx hb hE hS 4 0 rfl rfl (by have := (cx_ixT (by omega) g31).2; omega) (by decide) dX7_classOne_122 ?_
                  refine lv_istore (lv' := [(4, .int ((T 3) v18_l4.toNatClampNeg)), (0, .ref (q 0)), (1, .int (nI t)), (2, .int nm), (3, .int pm), (5, .int (nI i18)), (6, .int (nI i37))]) hx hb dX7_classOne_123 hl (by decide) rfl (fun ls hl => ?_)
                  refine lv_iinc (v := nI (i18 + 1)) (lv' := [(5, .int (nI (i18 + 1))), (4, .int ((T 3) v18_l4.toNatClampNeg)), (0, .ref (q 0)), (1, .int (nI t)), (2, .int nm), (3, .int pm), (6, .int (nI i37))]) hx hb dX7_classOne_125 hl (k := 5) rfl (cx_inc _) (by decide) rfl (fun ls hl => ?_)
                  refine lv_goto (tgt := 18) hx hb dX7_classOne_128 (by decide) ?_
                  exact ih18 ((T 3) v18_l4.toNatClampNeg) (i18 + 1) Z_0_37 Z_3_37 _ _ _ (by omega) (by omega) (by first | assumption | exact hKN) hS (lv_sub hl [2, 3, 4, 5, 1, 0] rfl)
                · skip
                  have g43 : ¬ (k ≤ i37) := fun z => h43 ((nI_leI (a := k) (b := i37) (by omega) (by omega)).mpr z)
                  refine lv_aload_n hx hb dX7_classOne_46 rfl (lv_at hl 0 rfl) ?_
                  refine cx_get (own := RX7) (index := 34) (C := RX7) (T := TX7) (N := 22) (k := 10) (ci := 7) (v := .ref (q 9)) hx hb hts hown hE hS hinX7 0 rfl rfl (by decide) (List.mem_of_getElem? (i := 3) rfl) rfl dX7_classOne_47 ?_
                  refine lv_iload hx hb dX7_classOne_50 (lv_at hl 6 rfl) ?_
                  refine cx_iald (f := (M 0)) (n := 80) (cA := cI) hx hb hE hS 9 0 rfl rfl (by omega) (by decide) dX7_classOne_52 ?_
                  refine lv_iload hx hb dX7_classOne_53 (lv_at hl 4 rfl) ?_
                  have J110 : ∀ (Z_0_110 : Nat → Int32) (Z_3_110 : Nat → Int32) (H : Heap) (locs : List Loc) (ls : Array Slot), (cx_KN n T Z_0_110 (Z_3_110 0)) → cx_S D vwCl A s (cyW q cI cZ n T k M d (cx_u (cx_u Z 0 Z_0_110) 3 Z_3_110) F) H locs → lv_has ls 7 [(0, .ref (q 0)), (1, .int (nI t)), (2, .int nm), (3, .int pm), (4, .int v18_l4), (5, .int (nI i18)), (6, .int (nI i37))] → W p l e ({ frames := 4, cells := 0, slots := 0, locals := 89 } : Room) s m args below meth c H locs 0 0 Q (F0 m 110 ls []) := by
                    intro Z_0_110 Z_3_110 H locs ls hKN110 hS hl
                    refine lv_iinc (v := nI (i37 + 1)) (lv' := [(6, .int (nI (i37 + 1))), (0, .ref (q 0)), (1, .int (nI t)), (2, .int nm), (3, .int pm), (4, .int v18_l4), (5, .int (nI i18))]) hx hb dX7_classOne_110 hl (k := 6) rfl (cx_inc _) (by decide) rfl (fun ls hl => ?_)
                    refine lv_goto (tgt := 37) hx hb dX7_classOne_113 (by decide) ?_
                    exact ih37 (i37 + 1) Z_0_110 Z_3_110 _ _ _ (by omega) (by omega) (by first | assumption | exact hKN) hS (lv_sub hl [1, 2, 3, 4, 5, 6, 0] rfl)
                  refine lv_icmp_ne (tgt := 110) hx hb dX7_classOne_55 (by decide) (fun h55 => ?_) (fun h55 => ?_)
                  · skip
                    exact J110 Z_0_37 Z_3_37 _ _ _ (by first | assumption | exact hKN) hS (lv_sub hl [0, 1, 2, 3, 4, 5, 6] rfl)
                  · skip
                    refine lv_aload_n hx hb dX7_classOne_58 rfl (lv_at hl 0 rfl) ?_
                    refine cx_get (own := RX7) (index := 37) (C := RX7) (T := TX7) (N := 22) (k := 11) (ci := 7) (v := .ref (q 10)) hx hb hts hown hE hS hinX7 0 rfl rfl (by decide) (List.mem_of_getElem? (i := 4) rfl) rfl dX7_classOne_59 ?_
                    refine lv_iload hx hb dX7_classOne_62 (lv_at hl 6 rfl) ?_
                    refine cx_iald (f := (M 1)) (n := 80) (cA := cI) hx hb hE hS 10 0 rfl rfl (by omega) (by decide) dX7_classOne_64 ?_
                    refine lv_iload_n hx hb dX7_classOne_65 rfl (lv_at hl 2 rfl) ?_
                    refine lv_icmp_ne (tgt := 110) hx hb dX7_classOne_66 (by decide) (fun h66 => ?_) (fun h66 => ?_)
                    · skip
                      exact J110 Z_0_37 Z_3_37 _ _ _ (by first | assumption | exact hKN) hS (lv_sub hl [0, 1, 2, 3, 4, 5, 6] rfl)
                    · skip
                      refine lv_aload_n hx hb dX7_classOne_69 rfl (lv_at hl 0 rfl) ?_
                      refine cx_get (own := RX7) (index := 40) (C := RX7) (T := TX7) (N := 22) (k := 12) (ci := 7) (v := .ref (q 11)) hx hb hts hown hE hS hinX7 0 rfl rfl (by decide) (List.mem_of_getElem? (i := 5) rfl) rfl dX7_classOne_70 ?_
                      refine lv_iload hx hb dX7_classOne_73 (lv_at hl 6 rfl) ?_
                      refine cx_iald (f := (M 2)) (n := 80) (cA := cI) hx hb hE hS 11 0 rfl rfl (by omega) (by decide) dX7_classOne_75 ?_
                      refine lv_iload_n hx hb dX7_classOne_76 rfl (lv_at hl 3 rfl) ?_
                      refine lv_icmp_ne (tgt := 110) hx hb dX7_classOne_77 (by decide) (fun h77 => ?_) (fun h77 => ?_)
                      · skip
                        exact J110 Z_0_37 Z_3_37 _ _ _ (by first | assumption | exact hKN) hS (lv_sub hl [0, 1, 2, 3, 4, 5, 6] rfl)
                      · skip
                        refine lv_aload_n hx hb dX7_classOne_80 rfl (lv_at hl 0 rfl) ?_
                        refine lv_iload hx hb dX7_classOne_81 (lv_at hl 6 rfl) ?_
                        refine lv_iconst (v := (0 : Int32)) hx hb dX7_classOne_83 (by decide) ?_
                        refine lv_iconst (v := nI 4) hx hb dX7_classOne_84 (by decide) ?_
                        refine cx_cVi (As := [.int (nI i37), .int (0 : Int32), .int (nI 4)]) (rest := []) ⟨hx, hb, hml, hown, hts⟩ hE hS (c_X7_is l D q cI cZ n T k M d (cx_u (cx_u Z 0 Z_0_37) 3 Z_3_37) F i37 (0 : Int32) (nI 4) (by first | assumption | omega)) (cwV 3 hts gX7_classOne_X7_is rfl rfl rfl (by decide +kernel) ⟨Nat.le_of_ble_eq_true rfl, Nat.le_of_ble_eq_true rfl⟩) 0 7 rfl rfl rfl hl.1 rfl (Nat.le_of_ble_eq_true rfl) ⟨Nat.zero_le _, Nat.zero_le _⟩ dX7_classOne_85 (fun r_85 u_85 H locs hp_85 hS => ?_)
                        have hp_85 : r_85 = cx_b ((cx_b (¬ (((M 3) i37) &&& (nI 4)) = 0)) = (0 : Int32)) := hp_85
                        subst hp_85
                        refine lv_if_eq (tgt := 110) hx hb dX7_classOne_88 (by decide) (fun h88 => ?_) (fun h88 => ?_)
                        · skip
                          have g88 := cx_b0 h88
                          exact J110 Z_0_37 Z_3_37 _ _ _ (by first | assumption | exact hKN) hS (lv_sub hl [0, 1, 2, 3, 4, 5, 6] rfl)
                        · skip
                          have g88 := cx_b1 h88
                          refine lv_iload hx hb dX7_classOne_91 (lv_at hl 4 rfl) ?_
                          refine lv_iload_n hx hb dX7_classOne_93 rfl (lv_at hl 1 rfl) ?_
                          have J107 : ∀ (Z_0_107 : Nat → Int32) (Z_3_107 : Nat → Int32) (H : Heap) (locs : List Loc) (ls : Array Slot), (cx_KN n T Z_0_107 (Z_3_107 0)) → cx_S D vwCl A s (cyW q cI cZ n T k M d (cx_u (cx_u Z 0 Z_0_107) 3 Z_3_107) F) H locs → lv_has ls 7 [(0, .ref (q 0)), (1, .int (nI t)), (2, .int nm), (3, .int pm), (4, .int v18_l4), (5, .int (nI i18)), (6, .int (nI i37))] → W p l e ({ frames := 4, cells := 0, slots := 0, locals := 89 } : Room) s m args below meth c H locs 0 0 Q (F0 m 107 ls []) := by
                            intro Z_0_107 Z_3_107 H locs ls hKN107 hS hl
                            refine lv_iload hx hb dX7_classOne_107 (lv_at hl 6 rfl) ?_
                            exact RET _ (Z_0_107, Z_3_107 0) _ _ _ _ dX7_classOne_109 rfl (⟨(by first | assumption | exact hKN), Or.inr (cx_ixI (by omega) (by decide))⟩) hS
                          refine lv_icmp_eq (tgt := 107) hx hb dX7_classOne_94 (by decide) (fun h94 => ?_) (fun h94 => ?_)
                          · skip
                            exact J107 Z_0_37 Z_3_37 _ _ _ (by first | assumption | exact hKN) hS (lv_sub hl [0, 1, 2, 3, 4, 5, 6] rfl)
                          · skip
                            refine lv_aload_n hx hb dX7_classOne_97 rfl (lv_at hl 0 rfl) ?_
                            refine lv_iload hx hb dX7_classOne_98 (lv_at hl 6 rfl) ?_
                            refine lv_iload_n hx hb dX7_classOne_100 rfl (lv_at hl 1 rfl) ?_
                            refine cx_cVi (As := [.int (nI i37), .int (nI t)]) (rest := []) ⟨hx, hb, hml, hown, hts⟩ hE hS (c_X7_isShared l D q cI cZ n T k M d (cx_u (cx_u Z 0 Z_0_37) 3 Z_3_37) F i37 t (by first | assumption | omega) (by first | assumption | omega) (by first | assumption | omega) (by first | assumption | omega) (by first | assumption | omega) (by first | assumption | omega) (by first | assumption | omega) (by first | assumption | omega)) (cwV 2 hts gX7_classOne_X7_isShared rfl rfl rfl (by decide +kernel) ⟨Nat.le_of_ble_eq_true rfl, Nat.le_of_ble_eq_true rfl⟩) 0 7 rfl rfl rfl hl.1 rfl (Nat.le_of_ble_eq_true rfl) ⟨Nat.zero_le _, Nat.zero_le _⟩ dX7_classOne_101 (fun r_101 u_101 H locs hp_101 hS => ?_)
                            obtain ⟨za_101, kn_101⟩ := u_101
                            have hS : cx_S D vwCl A s (cyW q cI cZ n T k M d (cx_u (cx_u Z 0 za_101) 3 (fun _ => kn_101)) F) H locs := hS
                            obtain ⟨hKN_101, hp_101⟩ := hp_101
                            have hKN_101 : cx_KN n T za_101 kn_101 := hKN_101
                            have hp_101 : r_101 = 0 ∨ r_101 = 1 := hp_101
                            refine lv_if_eq (tgt := 110) hx hb dX7_classOne_104 (by decide) (fun h104 => ?_) (fun h104 => ?_)
                            · skip
                              exact J110 za_101 (fun _ => kn_101) _ _ _ (by first | assumption | exact hKN) hS (lv_sub hl [0, 1, 2, 3, 4, 5, 6] rfl)
                            · skip
                              exact J107 za_101 (fun _ => kn_101) _ _ _ (by first | assumption | exact hKN) hS (lv_sub hl [0, 1, 2, 3, 4, 5, 6] rfl)
            exact J37 (k - 0 + 1) 0 Z_0_18 Z_3_18 _ _ _ (Nat.lt_succ_self _) (by omega) (by first | assumption | exact hKN) hS (lv_sub hl [1, 2, 3, 4, 5, 6, 0] rfl)
    exact J18 (20 - 0 + 1) (nI t) 0 (Z 0) (Z 3) _ _ _ (Nat.lt_succ_self _) (by omega) (by first | assumption | exact hKN) hS (lv_sub hl [2, 3, 4, 5, 1, 0] rfl)
  · skip
    refine lv_iconst (v := (-1 : Int32)) hx hb dX7_classOne_10 (by decide) ?_
    exact RET _ (Z 0, (Z 3) 0) _ _ _ _ dX7_classOne_11 rfl (⟨(by first | assumption | exact hKN), Or.inl rfl⟩) hS
set_option maxHeartbeats 4000000 in
set_option maxRecDepth 100000 in
theorem c_X7_ofFace (l : Launch) (D : va_G) (q : Nat → Nat) (cI cZ : ClassId) (n : Nat) (T : Nat → Nat → Int32) (k : Nat) (M : Nat → Nat → Int32) (d : Nat) (Z : Nat → Nat → Int32) (F : Nat → Nat → Int32) (fc : Int32) (nm : Int32) (pm : Int32) (hk : k ≤ 80) : cx_Mi l D vwCl [(cI, .int), (cZ, .boolean)] cx_NW yX7_ofFace wsX7_ofFace ({ frames := 1, cells := 0, slots := 0, locals := 23 } : Room) [.ref (q 0), .int fc, .int nm, .int pm] (cyW q cI cZ n T k M d Z F) (fun (r : Int32) (uw : Unit) => cx_Lst (cx_ofP M fc nm pm) k r) (fun _ => (cyW q cI cZ n T k M d Z F)) := by
  refine cx_Mi.of (cc := cX7_ofFace) (maxL := 5) cx_NW_ok (by decide) rfl (Nat.le_of_ble_eq_true rfl) ?_
  intro p e s m args below meth c Q A ls hx hb hml hown hts hE RET hS hl
  have hl : lv_has ls 5 [(0, .ref (q 0)), (1, .int fc), (2, .int nm), (3, .int pm)] := hl
  have hown : s.vm.findClass RX7 = some m.cls := hown
  have hinX7 : ∀ w ∈ u_ws RX7 TX7 22, w ∈ wsX7_ofFace := cx_mem [12, 13, 14, 15, 16, 17, 18, 19, 20, 21, 22, 23, 24, 25, 26, 27, 28, 29, 30, 31, 32, 33] (by decide +kernel)
  refine lv_iconst (v := (0 : Int32)) hx hb dX7_ofFace_0 (by decide) ?_
  refine cx_topr (z := nI 0) (by decide) ?_
  refine lv_istore (lv' := [(4, .int (nI 0)), (0, .ref (q 0)), (1, .int fc), (2, .int nm), (3, .int pm)]) hx hb dX7_ofFace_1 hl (by decide) rfl (fun ls hl => ?_)
  have J3 : ∀ (N : Nat) (i3 : Nat) (H : Heap) (locs : List Loc) (ls : Array Slot), (k - i3 < N) → (i3 ≤ k) → (∀ j, j < i3 → ¬ cx_ofP M fc nm pm j) → cx_S D vwCl A s (cyW q cI cZ n T k M d Z F) H locs → lv_has ls 5 [(0, .ref (q 0)), (1, .int fc), (2, .int nm), (3, .int pm), (4, .int (nI i3))] → W p l e ({ frames := 1, cells := 0, slots := 0, locals := 23 } : Room) s m args below meth c H locs 0 0 Q (F0 m 3 ls []) := by
    intro N3
    induction N3 with
    | zero => intro i3 H locs ls hN; exact absurd hN (by omega)
    | succ N3 ih3 =>
      intro i3 H locs ls hN3 hi3 hl0 hS hl
      refine lv_iload hx hb dX7_ofFace_3 (lv_at hl 4 rfl) ?_
      refine lv_aload_n hx hb dX7_ofFace_5 rfl (lv_at hl 0 rfl) ?_
      refine cx_get (own := RX7) (index := 81) (C := RX7) (T := TX7) (N := 22) (k := 9) (ci := 7) (v := .int (nI k)) hx hb hts hown hE hS hinX7 0 rfl rfl (by decide) (List.mem_of_getElem? (i := 1) rfl) rfl dX7_ofFace_6 ?_
      refine lv_icmp_ge (tgt := 75) hx hb dX7_ofFace_9 (by decide) (fun h9 => ?_) (fun h9 => ?_)
      · skip
        have g9 : k ≤ i3 := (nI_leI (a := k) (b := i3) (by omega) (by omega)).mp h9
        refine lv_iconst (v := (-1 : Int32)) hx hb dX7_ofFace_75 (by decide) ?_
        exact RET _ () _ _ _ _ dX7_ofFace_76 rfl (Or.inl ⟨rfl, fun j hj => hl0 j (by omega)⟩) hS
      · skip
        have g9 : ¬ (k ≤ i3) := fun z => h9 ((nI_leI (a := k) (b := i3) (by omega) (by omega)).mpr z)
        refine lv_aload_n hx hb dX7_ofFace_12 rfl (lv_at hl 0 rfl) ?_
        refine cx_get (own := RX7) (index := 34) (C := RX7) (T := TX7) (N := 22) (k := 10) (ci := 7) (v := .ref (q 9)) hx hb hts hown hE hS hinX7 0 rfl rfl (by decide) (List.mem_of_getElem? (i := 2) rfl) rfl dX7_ofFace_13 ?_
        refine lv_iload hx hb dX7_ofFace_16 (lv_at hl 4 rfl) ?_
        refine cx_iald (f := (M 0)) (n := 80) (cA := cI) hx hb hE hS 9 0 rfl rfl (by omega) (by decide) dX7_ofFace_18 ?_
        refine lv_iload_n hx hb dX7_ofFace_19 rfl (lv_at hl 1 rfl) ?_
        have J69 : ∀ (H : Heap) (locs : List Loc) (ls : Array Slot), (¬ cx_ofP M fc nm pm i3) → cx_S D vwCl A s (cyW q cI cZ n T k M d Z F) H locs → lv_has ls 5 [(0, .ref (q 0)), (1, .int fc), (2, .int nm), (3, .int pm), (4, .int (nI i3))] → W p l e ({ frames := 1, cells := 0, slots := 0, locals := 23 } : Room) s m args below meth c H locs 0 0 Q (F0 m 69 ls []) := by
          intro  H locs ls hnp hS hl
          refine lv_iinc (v := nI (i3 + 1)) (lv' := [(4, .int (nI (i3 + 1))), (0, .ref (q 0)), (1, .int fc), (2, .int nm), (3, .int pm)]) hx hb dX7_ofFace_69 hl (k := 4) rfl (cx_inc _) (by decide) rfl (fun ls hl => ?_)
          refine lv_goto (tgt := 3) hx hb dX7_ofFace_72 (by decide) ?_
          exact ih3 (i3 + 1) _ _ _ (by omega) (by omega) (by first | exact fun j hj => absurd hj (by omega) | exact fun j hj => (Nat.lt_or_ge j i3).elim (hl0 j) (fun z => by rw [show j = i3 by omega]; exact hnp)) hS (lv_sub hl [1, 2, 3, 4, 0] rfl)
        refine lv_icmp_ne (tgt := 69) hx hb dX7_ofFace_20 (by decide) (fun h20 => ?_) (fun h20 => ?_)
        · skip
          exact J69  _ _ _ (by first | exact fun z => h20 z.1 | exact fun z => h31 z.2.1 | exact fun z => h42 z.2.2.1 | exact fun z => g53 z.2.2.2.1 | exact fun z => z.2.2.2.2 h63) hS (lv_sub hl [0, 1, 2, 3, 4] rfl)
        · skip
          refine lv_aload_n hx hb dX7_ofFace_23 rfl (lv_at hl 0 rfl) ?_
          refine cx_get (own := RX7) (index := 37) (C := RX7) (T := TX7) (N := 22) (k := 11) (ci := 7) (v := .ref (q 10)) hx hb hts hown hE hS hinX7 0 rfl rfl (by decide) (List.mem_of_getElem? (i := 3) rfl) rfl dX7_ofFace_24 ?_
          refine lv_iload hx hb dX7_ofFace_27 (lv_at hl 4 rfl) ?_
          refine cx_iald (f := (M 1)) (n := 80) (cA := cI) hx hb hE hS 10 0 rfl rfl (by omega) (by decide) dX7_ofFace_29 ?_
          refine lv_iload_n hx hb dX7_ofFace_30 rfl (lv_at hl 2 rfl) ?_
          refine lv_icmp_ne (tgt := 69) hx hb dX7_ofFace_31 (by decide) (fun h31 => ?_) (fun h31 => ?_)
          · skip
            exact J69  _ _ _ (by first | exact fun z => h20 z.1 | exact fun z => h31 z.2.1 | exact fun z => h42 z.2.2.1 | exact fun z => g53 z.2.2.2.1 | exact fun z => z.2.2.2.2 h63) hS (lv_sub hl [0, 1, 2, 3, 4] rfl)
          · skip
            refine lv_aload_n hx hb dX7_ofFace_34 rfl (lv_at hl 0 rfl) ?_
            refine cx_get (own := RX7) (index := 40) (C := RX7) (T := TX7) (N := 22) (k := 12) (ci := 7) (v := .ref (q 11)) hx hb hts hown hE hS hinX7 0 rfl rfl (by decide) (List.mem_of_getElem? (i := 4) rfl) rfl dX7_ofFace_35 ?_
            refine lv_iload hx hb dX7_ofFace_38 (lv_at hl 4 rfl) ?_
            refine cx_iald (f := (M 2)) (n := 80) (cA := cI) hx hb hE hS 11 0 rfl rfl (by omega) (by decide) dX7_ofFace_40 ?_
            refine lv_iload_n hx hb dX7_ofFace_41 rfl (lv_at hl 3 rfl) ?_
            refine lv_icmp_ne (tgt := 69) hx hb dX7_ofFace_42 (by decide) (fun h42 => ?_) (fun h42 => ?_)
            · skip
              exact J69  _ _ _ (by first | exact fun z => h20 z.1 | exact fun z => h31 z.2.1 | exact fun z => h42 z.2.2.1 | exact fun z => g53 z.2.2.2.1 | exact fun z => z.2.2.2.2 h63) hS (lv_sub hl [0, 1, 2, 3, 4] rfl)
            · skip
              refine lv_aload_n hx hb dX7_ofFace_45 rfl (lv_at hl 0 rfl) ?_
              refine lv_iload hx hb dX7_ofFace_46 (lv_at hl 4 rfl) ?_
              refine lv_iconst (v := (0 : Int32)) hx hb dX7_ofFace_48 (by decide) ?_
              refine lv_iconst (v := nI 4) hx hb dX7_ofFace_49 (by decide) ?_
              refine cx_cVi (As := [.int (nI i3), .int (0 : Int32), .int (nI 4)]) (rest := []) ⟨hx, hb, hml, hown, hts⟩ hE hS (c_X7_is l D q cI cZ n T k M d Z F i3 (0 : Int32) (nI 4) (by first | assumption | omega)) (cwV 3 hts gX7_ofFace_X7_is rfl rfl rfl (by decide +kernel) ⟨Nat.le_of_ble_eq_true rfl, Nat.le_of_ble_eq_true rfl⟩) 0 7 rfl rfl rfl hl.1 rfl (Nat.le_of_ble_eq_true rfl) ⟨Nat.zero_le _, Nat.zero_le _⟩ dX7_ofFace_50 (fun r_50 u_50 H locs hp_50 hS => ?_)
              have hp_50 : r_50 = cx_b ((cx_b (¬ (((M 3) i3) &&& (nI 4)) = 0)) = (0 : Int32)) := hp_50
              subst hp_50
              refine lv_if_eq (tgt := 69) hx hb dX7_ofFace_53 (by decide) (fun h53 => ?_) (fun h53 => ?_)
              · skip
                have g53 := cx_b0 h53
                exact J69  _ _ _ (by first | exact fun z => h20 z.1 | exact fun z => h31 z.2.1 | exact fun z => h42 z.2.2.1 | exact fun z => g53 z.2.2.2.1 | exact fun z => z.2.2.2.2 h63) hS (lv_sub hl [0, 1, 2, 3, 4] rfl)
              · skip
                have g53 := cx_b1 h53
                refine lv_aload_n hx hb dX7_ofFace_56 rfl (lv_at hl 0 rfl) ?_
                refine cx_get (own := RX7) (index := 46) (C := RX7) (T := TX7) (N := 22) (k := 14) (ci := 7) (v := .ref (q 13)) hx hb hts hown hE hS hinX7 0 rfl rfl (by decide) (List.mem_of_getElem? (i := 5) rfl) rfl dX7_ofFace_57 ?_
                refine lv_iload hx hb dX7_ofFace_60 (lv_at hl 4 rfl) ?_
                refine cx_iald (f := (M 4)) (n := 80) (cA := cI) hx hb hE hS 13 0 rfl rfl (by omega) (by decide) dX7_ofFace_62 ?_
                refine lv_if_le (tgt := 69) hx hb dX7_ofFace_63 (by decide) (fun h63 => ?_) (fun h63 => ?_)
                · skip
                  exact J69  _ _ _ (by first | exact fun z => h20 z.1 | exact fun z => h31 z.2.1 | exact fun z => h42 z.2.2.1 | exact fun z => g53 z.2.2.2.1 | exact fun z => z.2.2.2.2 h63) hS (lv_sub hl [0, 1, 2, 3, 4] rfl)
                · skip
                  refine lv_iload hx hb dX7_ofFace_66 (lv_at hl 4 rfl) ?_
                  exact RET _ () _ _ _ _ dX7_ofFace_68 rfl (Or.inr ⟨i3, by omega, ⟨h20, h31, h42, g53, h63⟩, hl0, rfl⟩) hS
  exact J3 (k - 0 + 1) 0 _ _ _ (Nat.lt_succ_self _) (by omega) (by first | exact fun j hj => absurd hj (by omega) | exact fun j hj => (Nat.lt_or_ge j i3).elim (hl0 j) (fun z => by rw [show j = i3 by omega]; exact hnp)) hS (lv_sub hl [1, 2, 3, 4, 0] rfl)
set_option maxHeartbeats 4000000 in
set_option maxRecDepth 100000 in
theorem c_X7_findFaceOnes (l : Launch) (D : va_G) (q : Nat → Nat) (cI cZ : ClassId) (n : Nat) (T : Nat → Nat → Int32) (k : Nat) (M : Nat → Nat → Int32) (d : Nat) (Z : Nat → Nat → Int32) (F : Nat → Nat → Int32) (t : Nat) (nm : Int32) (pm : Int32) (hn : n ≤ 20) (hP : cx_P (T 3) 20) (hU : cx_R (T 4) 20) (hV : cx_R (T 5) 4) (hKN : cx_KN n T (Z 0) ((Z 3) 0)) (hk : k ≤ 80) (ht : t < 20) : cx_Mv l D vwCl [(cI, .int), (cZ, .boolean)] cx_NW yX7_findFaceOnes wsX7_findFaceOnes ({ frames := 4, cells := 0, slots := 0, locals := 88 } : Room) [.ref (q 0), .int (nI t), .int nm, .int pm] (cyW q cI cZ n T k M d Z F) (fun (uw : (Nat → Int32) × (Int32) × (Nat) × (Nat → Int32)) => cx_KN n T uw.1 uw.2.1 ∧ (uw.2.2.1 ≤ 20 ∧ ∀ j, j < uw.2.2.1 → cx_ix (uw.2.2.2 j) 80)) (fun uw => (cyW q cI cZ n T k M uw.2.2.1 (cx_u (cx_u Z 0 uw.1) 3 (fun _ => uw.2.1)) (cx_u F 0 uw.2.2.2))) := by
  refine cx_Mv.of (cc := cX7_findFaceOnes) (maxL := 7) cx_NW_ok (by decide) rfl (Nat.le_of_ble_eq_true rfl) ?_
  intro p e s m args below meth c Q A ls hx hb hml hown hts hE RET hS hl
  have hl : lv_has ls 7 [(0, .ref (q 0)), (1, .int (nI t)), (2, .int nm), (3, .int pm)] := hl
  have hown : s.vm.findClass RX7 = some m.cls := hown
  have hinX7 : ∀ w ∈ u_ws RX7 TX7 22, w ∈ wsX7_findFaceOnes := cx_mem [40, 41, 42, 43, 44, 45, 46, 47, 48, 49, 50, 51, 52, 53, 54, 55, 56, 57, 58, 59, 60, 61] (by decide +kernel)
  refine lv_aload_n hx hb dX7_findFaceOnes_0 rfl (lv_at hl 0 rfl) ?_
  refine lv_iconst (v := (0 : Int32)) hx hb dX7_findFaceOnes_1 (by decide) ?_
  refine cx_topr (z := nI 0) cx_n0 ?_
  refine cx_put (own := RX7) (index := 127) (C := RX7) (T := TX7) (N := 22) (k := 20) (ci := 7) (v := .int (nI 0)) (ty := .int) (ws' := (cyW q cI cZ n T k M 0 Z F)) hx hb hts hown hE hS hinX7 tyX7 tyX7_ok nmX7 0 rfl rfl (by decide) (List.mem_of_getElem? (i := 1) rfl) rfl (by decide +kernel) rfl rfl (Nat.le_of_ble_eq_true rfl) rfl dX7_findFaceOnes_2 (fun H locs hS => ?_)
  refine lv_iconst (v := (0 : Int32)) hx hb dX7_findFaceOnes_5 (by decide) ?_
  refine cx_topr (z := nI 0) (by decide) ?_
  refine lv_istore (lv' := [(4, .int (nI 0)), (0, .ref (q 0)), (1, .int (nI t)), (2, .int nm), (3, .int pm)]) hx hb dX7_findFaceOnes_6 hl (by decide) rfl (fun ls hl => ?_)
  have J8 : ∀ (N : Nat) (i8 : Nat) (d_8 : Nat) (Z_0_8 : Nat → Int32) (Z_3_8 : Nat → Int32) (F_0_8 : Nat → Int32) (H : Heap) (locs : List Loc) (ls : Array Slot), (n - i8 < N) → (i8 ≤ n) → (cx_KN n T Z_0_8 (Z_3_8 0)) → (d_8 ≤ i8) → (∀ j, j < d_8 → cx_ix (F_0_8 j) 80) → cx_S D vwCl A s (cyW q cI cZ n T k M d_8 (cx_u (cx_u Z 0 Z_0_8) 3 Z_3_8) (cx_u F 0 F_0_8)) H locs → lv_has ls 7 [(0, .ref (q 0)), (1, .int (nI t)), (2, .int nm), (3, .int pm), (4, .int (nI i8))] → W p l e ({ frames := 4, cells := 0, slots := 0, locals := 88 } : Room) s m args below meth c H locs 0 0 Q (F0 m 8 ls []) := by
    intro N8
    induction N8 with
    | zero => intro i8 d_8 Z_0_8 Z_3_8 F_0_8 H locs ls hN; exact absurd hN (by omega)
    | succ N8 ih8 =>
      intro i8 d_8 Z_0_8 Z_3_8 F_0_8 H locs ls hN8 hi8 hKN8 hd hf hS hl
      refine lv_iload hx hb dX7_findFaceOnes_8 (lv_at hl 4 rfl) ?_
      refine lv_aload_n hx hb dX7_findFaceOnes_10 rfl (lv_at hl 0 rfl) ?_
      refine cx_get (own := RX7) (index := 65) (C := RX7) (T := TX7) (N := 22) (k := 0) (ci := 7) (v := .int (nI n)) hx hb hts hown hE hS hinX7 0 rfl rfl (by decide) (List.mem_of_getElem? (i := 2) rfl) rfl dX7_findFaceOnes_11 ?_
      refine lv_icmp_ge (tgt := 179) hx hb dX7_findFaceOnes_14 (by decide) (fun h14 => ?_) (fun h14 => ?_)
      · skip
        have g14 : n ≤ i8 := (nI_leI (a := n) (b := i8) (by omega) (by omega)).mp h14
        exact RET (Z_0_8, Z_3_8 0, d_8, F_0_8) _ _ _ _ dX7_findFaceOnes_179 (⟨(by first | assumption | exact hKN), ⟨(show d_8 ≤ 20 by omega), hf⟩⟩) hS
      · skip
        have g14 : ¬ (n ≤ i8) := fun z => h14 ((nI_leI (a := n) (b := i8) (by omega) (by omega)).mpr z)
        refine lv_aload_n hx hb dX7_findFaceOnes_17 rfl (lv_at hl 0 rfl) ?_
        refine cx_get (own := RX7) (index := 7) (C := RX7) (T := TX7) (N := 22) (k := 1) (ci := 7) (v := .ref (q 1)) hx hb hts hown hE hS hinX7 0 rfl rfl (by decide) (List.mem_of_getElem? (i := 3) rfl) rfl dX7_findFaceOnes_18 ?_
        refine lv_iload hx hb dX7_findFaceOnes_21 (lv_at hl 4 rfl) ?_
        refine cx_iald (f := (T 0)) (n := 20) (cA := cI) hx hb hE hS 1 0 rfl rfl (by omega) (by decide) dX7_findFaceOnes_23 ?_
        refine lv_iconst (v := (1 : Int32)) hx hb dX7_findFaceOnes_24 (by decide) ?_
        have J54 : ∀ (v54_s0 : Int32) (Z_0_54 : Nat → Int32) (Z_3_54 : Nat → Int32) (H : Heap) (locs : List Loc) (ls : Array Slot), (cx_KN n T Z_0_54 (Z_3_54 0)) → (v54_s0 = 0 ∨ (∃ r0, cx_Lst (cx_ofP M (nI i8) nm pm) k r0 ∧ ¬ r0 < 0)) → cx_S D vwCl A s (cyW q cI cZ n T k M d_8 (cx_u (cx_u Z 0 Z_0_54) 3 Z_3_54) (cx_u F 0 F_0_8)) H locs → lv_has ls 7 [(0, .ref (q 0)), (1, .int (nI t)), (2, .int nm), (3, .int pm), (4, .int (nI i8))] → W p l e ({ frames := 4, cells := 0, slots := 0, locals := 88 } : Room) s m args below meth c H locs 0 0 Q (F0 m 54 ls [.int v54_s0]) := by
          intro v54_s0 Z_0_54 Z_3_54 H locs ls hKN54 hz hS hl
          refine lv_istore (lv' := [(5, .int v54_s0), (0, .ref (q 0)), (1, .int (nI t)), (2, .int nm), (3, .int pm), (4, .int (nI i8))]) hx hb dX7_findFaceOnes_54 hl (by decide) rfl (fun ls hl => ?_)
          refine lv_iconst (v := (0 : Int32)) hx hb dX7_findFaceOnes_56 (by decide) ?_
          refine cx_topr (z := nI 0) (by decide) ?_
          refine lv_istore (lv' := [(6, .int (nI 0)), (5, .int v54_s0), (0, .ref (q 0)), (1, .int (nI t)), (2, .int nm), (3, .int pm), (4, .int (nI i8))]) hx hb dX7_findFaceOnes_57 hl (by decide) rfl (fun ls hl => ?_)
          have J59 : ∀ (N : Nat) (v59_l5 : Int32) (i59 : Nat) (Z_0_59 : Nat → Int32) (Z_3_59 : Nat → Int32) (H : Heap) (locs : List Loc) (ls : Array Slot), (n - i59 < N) → (i59 ≤ n) → (cx_KN n T Z_0_59 (Z_3_59 0)) → (v59_l5 = 0 ∨ (∃ r0, cx_Lst (cx_ofP M (nI i8) nm pm) k r0 ∧ ¬ r0 < 0)) → cx_S D vwCl A s (cyW q cI cZ n T k M d_8 (cx_u (cx_u Z 0 Z_0_59) 3 Z_3_59) (cx_u F 0 F_0_8)) H locs → lv_has ls 7 [(0, .ref (q 0)), (1, .int (nI t)), (2, .int nm), (3, .int pm), (4, .int (nI i8)), (5, .int v59_l5), (6, .int (nI i59))] → W p l e ({ frames := 4, cells := 0, slots := 0, locals := 88 } : Room) s m args below meth c H locs 0 0 Q (F0 m 59 ls []) := by
            intro N59
            induction N59 with
            | zero => intro v59_l5 i59 Z_0_59 Z_3_59 H locs ls hN; exact absurd hN (by omega)
            | succ N59 ih59 =>
              intro v59_l5 i59 Z_0_59 Z_3_59 H locs ls hN59 hi59 hKN59 hz2 hS hl
              refine lv_iload hx hb dX7_findFaceOnes_59 (lv_at hl 6 rfl) ?_
              refine lv_aload_n hx hb dX7_findFaceOnes_61 rfl (lv_at hl 0 rfl) ?_
              refine cx_get (own := RX7) (index := 65) (C := RX7) (T := TX7) (N := 22) (k := 0) (ci := 7) (v := .int (nI n)) hx hb hts hown hE hS hinX7 0 rfl rfl (by decide) (List.mem_of_getElem? (i := 2) rfl) rfl dX7_findFaceOnes_62 ?_
              have J141 : ∀ (H : Heap) (locs : List Loc) (ls : Array Slot), cx_S D vwCl A s (cyW q cI cZ n T k M d_8 (cx_u (cx_u Z 0 Z_0_59) 3 Z_3_59) (cx_u F 0 F_0_8)) H locs → lv_has ls 7 [(0, .ref (q 0)), (1, .int (nI t)), (2, .int nm), (3, .int pm), (4, .int (nI i8)), (5, .int v59_l5), (6, .int (nI i59))] → W p l e ({ frames := 4, cells := 0, slots := 0, locals := 88 } : Room) s m args below meth c H locs 0 0 Q (F0 m 141 ls []) := by
                intro  H locs ls  hS hl
                refine lv_iload hx hb dX7_findFaceOnes_141 (lv_at hl 5 rfl) ?_
                have J173 : ∀ (d_173 : Nat) (F_0_173 : Nat → Int32) (H : Heap) (locs : List Loc) (ls : Array Slot), (d_173 ≤ i8 + 1) → (∀ j, j < d_173 → cx_ix (F_0_173 j) 80) → cx_S D vwCl A s (cyW q cI cZ n T k M d_173 (cx_u (cx_u Z 0 Z_0_59) 3 Z_3_59) (cx_u F 0 F_0_173)) H locs → lv_has ls 7 [(0, .ref (q 0)), (1, .int (nI t)), (2, .int nm), (3, .int pm), (4, .int (nI i8)), (5, .int v59_l5), (6, .int (nI i59))] → W p l e ({ frames := 4, cells := 0, slots := 0, locals := 88 } : Room) s m args below meth c H locs 0 0 Q (F0 m 173 ls []) := by
                  intro d_173 F_0_173 H locs ls hd2 hf2 hS hl
                  refine lv_iinc (v := nI (i8 + 1)) (lv' := [(4, .int (nI (i8 + 1))), (0, .ref (q 0)), (1, .int (nI t)), (2, .int nm), (3, .int pm), (5, .int v59_l5), (6, .int (nI i59))]) hx hb dX7_findFaceOnes_173 hl (k := 4) rfl (cx_inc _) (by decide) rfl (fun ls hl => ?_)
                  refine lv_goto (tgt := 8) hx hb dX7_findFaceOnes_176 (by decide) ?_
                  exact ih8 (i8 + 1) d_173 Z_0_59 Z_3_59 F_0_173 _ _ _ (by omega) (by omega) (by first | assumption | exact hKN) (by omega) (by first | assumption | exact fun j hj => absurd hj (by omega)) hS (lv_sub hl [1, 2, 3, 4, 0] rfl)
                refine lv_if_eq (tgt := 173) hx hb dX7_findFaceOnes_143 (by decide) (fun h143 => ?_) (fun h143 => ?_)
                · skip
                  exact J173 d_8 F_0_8 _ _ _ (by omega) (by first | assumption | exact cx_tkS hf (hp_159.of hk (hz2.resolve_left h143))) hS (lv_sub hl [0, 1, 2, 3, 4, 5, 6] rfl)
                · skip
                  refine lv_aload_n hx hb dX7_findFaceOnes_146 rfl (lv_at hl 0 rfl) ?_
                  refine cx_get (own := RX7) (index := 59) (C := RX7) (T := TX7) (N := 22) (k := 19) (ci := 7) (v := .ref (q 17)) hx hb hts hown hE hS hinX7 0 rfl rfl (by decide) (List.mem_of_getElem? (i := 5) rfl) rfl dX7_findFaceOnes_147 ?_
                  refine lv_aload_n hx hb dX7_findFaceOnes_150 rfl (lv_at hl 0 rfl) ?_
                  refine cx_get (own := RX7) (index := 127) (C := RX7) (T := TX7) (N := 22) (k := 20) (ci := 7) (v := .int (nI d_8)) hx hb hts hown hE hS hinX7 0 rfl rfl (by decide) (List.mem_of_getElem? (i := 1) rfl) rfl dX7_findFaceOnes_151 ?_
                  refine lv_aload_n hx hb dX7_findFaceOnes_154 rfl (lv_at hl 0 rfl) ?_
                  refine lv_iload hx hb dX7_findFaceOnes_155 (lv_at hl 4 rfl) ?_
                  refine lv_iload_n hx hb dX7_findFaceOnes_157 rfl (lv_at hl 2 rfl) ?_
                  refine lv_iload_n hx hb dX7_findFaceOnes_158 rfl (lv_at hl 3 rfl) ?_
                  refine cx_cVi (As := [.int (nI i8), .int nm, .int pm]) (rest := [.int (nI d_8), .ref (q 17)]) ⟨hx, hb, hml, hown, hts⟩ hE hS (c_X7_ofFace l D q cI cZ n T k M d_8 (cx_u (cx_u Z 0 Z_0_59) 3 Z_3_59) (cx_u F 0 F_0_8) (nI i8) nm pm (by first | assumption | omega)) (cwV 3 hts gX7_findFaceOnes_X7_ofFace rfl rfl rfl (by decide +kernel) ⟨Nat.le_of_ble_eq_true rfl, Nat.le_of_ble_eq_true rfl⟩) 0 7 rfl rfl rfl hl.1 rfl (Nat.le_of_ble_eq_true rfl) ⟨Nat.zero_le _, Nat.zero_le _⟩ dX7_findFaceOnes_159 (fun r_159 u_159 H locs hp_159 hS => ?_)
                  have hp_159 : cx_Lst (cx_ofP M (nI i8) nm pm) k r_159 := hp_159
                  refine cx_iast (k := d_8) (f := F_0_8) (n := 20) (cA := cI) (ws' := (cyW q cI cZ n T k M d_8 (cx_u (cx_u Z 0 Z_0_59) 3 Z_3_59) (cx_u F 0 (upd F_0_8 d_8 r_159)))) hx hb hE hS 17 0 rfl rfl (by omega) (by decide) rfl dX7_findFaceOnes_162 (fun H locs hS => ?_)
                  refine lv_aload_n hx hb dX7_findFaceOnes_163 rfl (lv_at hl 0 rfl) ?_
                  refine lv_dup hx hb dX7_findFaceOnes_164 rfl ?_
                  refine cx_get (own := RX7) (index := 127) (C := RX7) (T := TX7) (N := 22) (k := 20) (ci := 7) (v := .int (nI d_8)) hx hb hts hown hE hS hinX7 0 rfl rfl (by decide) (List.mem_of_getElem? (i := 1) rfl) rfl dX7_findFaceOnes_165 ?_
                  refine lv_iconst (v := (1 : Int32)) hx hb dX7_findFaceOnes_168 (by decide) ?_
                  refine lv_iadd hx hb dX7_findFaceOnes_169 ?_
                  refine cx_topr (z := nI (d_8 + 1)) (nI_1 _) ?_
                  refine cx_put (own := RX7) (index := 127) (C := RX7) (T := TX7) (N := 22) (k := 20) (ci := 7) (v := .int (nI (d_8 + 1))) (ty := .int) (ws' := (cyW q cI cZ n T k M (d_8 + 1) (cx_u (cx_u Z 0 Z_0_59) 3 Z_3_59) (cx_u F 0 (upd F_0_8 d_8 r_159)))) hx hb hts hown hE hS hinX7 tyX7 tyX7_ok nmX7 0 rfl rfl (by decide) (List.mem_of_getElem? (i := 1) rfl) rfl (by decide +kernel) rfl rfl (Nat.le_of_ble_eq_true rfl) rfl dX7_findFaceOnes_170 (fun H locs hS => ?_)
                  exact J173 (d_8 + 1) (upd F_0_8 d_8 r_159) _ _ _ (by omega) (by first | assumption | exact cx_tkS hf (hp_159.of hk (hz2.resolve_left h143))) hS (lv_sub hl [0, 1, 2, 3, 4, 5, 6] rfl)
              refine lv_icmp_ge (tgt := 141) hx hb dX7_findFaceOnes_65 (by decide) (fun h65 => ?_) (fun h65 => ?_)
              · skip
                have g65 : n ≤ i59 := (nI_leI (a := n) (b := i59) (by omega) (by omega)).mp h65
                exact J141  _ _ _  hS (lv_sub hl [0, 1, 2, 3, 4, 5, 6] rfl)
              · skip
                have g65 : ¬ (n ≤ i59) := fun z => h65 ((nI_leI (a := n) (b := i59) (by omega) (by omega)).mpr z)
                refine lv_iload hx hb dX7_findFaceOnes_68 (lv_at hl 5 rfl) ?_
                refine lv_if_eq (tgt := 141) hx hb dX7_findFaceOnes_70 (by decide) (fun h70 => ?_) (fun h70 => ?_)
                · skip
                  exact J141  _ _ _  hS (lv_sub hl [0, 1, 2, 3, 4, 5, 6] rfl)
                · skip
                  refine lv_iload hx hb dX7_findFaceOnes_73 (lv_at hl 6 rfl) ?_
                  refine lv_iload hx hb dX7_findFaceOnes_75 (lv_at hl 4 rfl) ?_
                  have J133 : ∀ (v133_s0 : Int32) (Z_0_133 : Nat → Int32) (Z_3_133 : Nat → Int32) (H : Heap) (locs : List Loc) (ls : Array Slot), (cx_KN n T Z_0_133 (Z_3_133 0)) → cx_S D vwCl A s (cyW q cI cZ n T k M d_8 (cx_u (cx_u Z 0 Z_0_133) 3 Z_3_133) (cx_u F 0 F_0_8)) H locs → lv_has ls 7 [(0, .ref (q 0)), (1, .int (nI t)), (2, .int nm), (3, .int pm), (4, .int (nI i8)), (5, .int v59_l5), (6, .int (nI i59))] → W p l e ({ frames := 4, cells := 0, slots := 0, locals := 88 } : Room) s m args below meth c H locs 0 0 Q (F0 m 133 ls [.int v133_s0]) := by
                    intro v133_s0 Z_0_133 Z_3_133 H locs ls hKN133 hS hl
                    refine lv_istore (lv' := [(5, .int v133_s0), (0, .ref (q 0)), (1, .int (nI t)), (2, .int nm), (3, .int pm), (4, .int (nI i8)), (6, .int (nI i59))]) hx hb dX7_findFaceOnes_133 hl (by decide) rfl (fun ls hl => ?_)
                    refine lv_iinc (v := nI (i59 + 1)) (lv' := [(6, .int (nI (i59 + 1))), (5, .int v133_s0), (0, .ref (q 0)), (1, .int (nI t)), (2, .int nm), (3, .int pm), (4, .int (nI i8))]) hx hb dX7_findFaceOnes_135 hl (k := 6) rfl (cx_inc _) (by decide) rfl (fun ls hl => ?_)
                    refine lv_goto (tgt := 59) hx hb dX7_findFaceOnes_138 (by decide) ?_
                    exact ih59 v133_s0 (i59 + 1) Z_0_133 Z_3_133 _ _ _ (by omega) (by omega) (by first | assumption | exact hKN) (by first | assumption | exact Or.inr (hz2.resolve_left h70)) hS (lv_sub hl [2, 3, 4, 5, 6, 1, 0] rfl)
                  have J128 : ∀ (Z_0_128 : Nat → Int32) (Z_3_128 : Nat → Int32) (H : Heap) (locs : List Loc) (ls : Array Slot), (cx_KN n T Z_0_128 (Z_3_128 0)) → cx_S D vwCl A s (cyW q cI cZ n T k M d_8 (cx_u (cx_u Z 0 Z_0_128) 3 Z_3_128) (cx_u F 0 F_0_8)) H locs → lv_has ls 7 [(0, .ref (q 0)), (1, .int (nI t)), (2, .int nm), (3, .int pm), (4, .int (nI i8)), (5, .int v59_l5), (6, .int (nI i59))] → W p l e ({ frames := 4, cells := 0, slots := 0, locals := 88 } : Room) s m args below meth c H locs 0 0 Q (F0 m 128 ls []) := by
                    intro Z_0_128 Z_3_128 H locs ls hKN128 hS hl
                    refine lv_iconst (v := (1 : Int32)) hx hb dX7_findFaceOnes_128 (by decide) ?_
                    refine lv_goto (tgt := 133) hx hb dX7_findFaceOnes_129 (by decide) ?_
                    exact J133 (1 : Int32) Z_0_128 Z_3_128 _ _ _ (by first | assumption | exact hKN) hS (lv_sub hl [0, 1, 2, 3, 4, 5, 6] rfl)
                  refine lv_icmp_eq (tgt := 128) hx hb dX7_findFaceOnes_77 (by decide) (fun h77 => ?_) (fun h77 => ?_)
                  · skip
                    have g77 : i59 = i8 := (nI_eq (a := i59) (b := i8) (by omega) (by omega)).mp h77
                    exact J128 Z_0_59 Z_3_59 _ _ _ (by first | assumption | exact hKN) hS (lv_sub hl [0, 1, 2, 3, 4, 5, 6] rfl)
                  · skip
                    have g77 : ¬ (i59 = i8) := fun z => h77 ((nI_eq (a := i59) (b := i8) (by omega) (by omega)).mpr z)
                    refine lv_aload_n hx hb dX7_findFaceOnes_80 rfl (lv_at hl 0 rfl) ?_
                    refine cx_get (own := RX7) (index := 7) (C := RX7) (T := TX7) (N := 22) (k := 1) (ci := 7) (v := .ref (q 1)) hx hb hts hown hE hS hinX7 0 rfl rfl (by decide) (List.mem_of_getElem? (i := 3) rfl) rfl dX7_findFaceOnes_81 ?_
                    refine lv_iload hx hb dX7_findFaceOnes_84 (lv_at hl 6 rfl) ?_
                    refine cx_iald (f := (T 0)) (n := 20) (cA := cI) hx hb hE hS 1 0 rfl rfl (by omega) (by decide) dX7_findFaceOnes_86 ?_
                    refine lv_iconst (v := (1 : Int32)) hx hb dX7_findFaceOnes_87 (by decide) ?_
                    refine lv_icmp_ne (tgt := 128) hx hb dX7_findFaceOnes_88 (by decide) (fun h88 => ?_) (fun h88 => ?_)
                    · skip
                      exact J128 Z_0_59 Z_3_59 _ _ _ (by first | assumption | exact hKN) hS (lv_sub hl [0, 1, 2, 3, 4, 5, 6] rfl)
                    · skip
                      refine lv_aload_n hx hb dX7_findFaceOnes_91 rfl (lv_at hl 0 rfl) ?_
                      refine lv_iload_n hx hb dX7_findFaceOnes_92 rfl (lv_at hl 1 rfl) ?_
                      refine lv_iload hx hb dX7_findFaceOnes_93 (lv_at hl 6 rfl) ?_
                      refine cx_cVi (As := [.int (nI t), .int (nI i59)]) (rest := []) ⟨hx, hb, hml, hown, hts⟩ hE hS (c_X7_isOf l D q cI cZ n T k M d_8 (cx_u (cx_u Z 0 Z_0_59) 3 Z_3_59) (cx_u F 0 F_0_8) t i59 (by first | assumption | omega) (by first | assumption | omega) (by first | assumption | omega) (by first | assumption | omega) (by first | assumption | omega) (by first | assumption | omega) (by first | assumption | omega)) (cwV 2 hts gX7_findFaceOnes_X7_isOf rfl rfl rfl (by decide +kernel) ⟨Nat.le_of_ble_eq_true rfl, Nat.le_of_ble_eq_true rfl⟩) 0 7 rfl rfl rfl hl.1 rfl (Nat.le_of_ble_eq_true rfl) ⟨Nat.zero_le _, Nat.zero_le _⟩ dX7_findFaceOnes_95 (fun r_95 u_95 H locs hp_95 hS => ?_)
                      obtain ⟨za_95, kn_95⟩ := u_95
                      have hS : cx_S D vwCl A s (cyW q cI cZ n T k M d_8 (cx_u (cx_u Z 0 za_95) 3 (fun _ => kn_95)) (cx_u F 0 F_0_8)) H locs := hS
                      obtain ⟨hKN_95, hp_95⟩ := hp_95
                      have hKN_95 : cx_KN n T za_95 kn_95 := hKN_95
                      have hp_95 : (r_95 = 0 ∨ r_95 = 1) ∧ (t < n → i59 < n → (¬ r_95 = 0 ↔ (t = i59 ∨ cx_w3 n (cx_Er T n) n t i59))) := hp_95
                      refine lv_if_eq (tgt := 128) hx hb dX7_findFaceOnes_98 (by decide) (fun h98 => ?_) (fun h98 => ?_)
                      · skip
                        exact J128 za_95 (fun _ => kn_95) _ _ _ (by first | assumption | exact hKN) hS (lv_sub hl [0, 1, 2, 3, 4, 5, 6] rfl)
                      · skip
                        refine lv_aload_n hx hb dX7_findFaceOnes_101 rfl (lv_at hl 0 rfl) ?_
                        refine cx_get (own := RX7) (index := 52) (C := RX7) (T := TX7) (N := 22) (k := 16) (ci := 7) (v := .ref (q 15)) hx hb hts hown hE hS hinX7 0 rfl rfl (by decide) (List.mem_of_getElem? (i := 4) rfl) rfl dX7_findFaceOnes_102 ?_
                        refine lv_bipush (v := nI 20) hx hb dX7_findFaceOnes_105 (by decide) ?_
                        refine lv_iload hx hb dX7_findFaceOnes_107 (lv_at hl 6 rfl) ?_
                        refine lv_imul hx hb dX7_findFaceOnes_109 ?_
                        refine cx_topr (z := nI (20 * i59)) (pk_mul _ _) ?_
                        refine lv_iload hx hb dX7_findFaceOnes_110 (lv_at hl 4 rfl) ?_
                        refine lv_iadd hx hb dX7_findFaceOnes_112 ?_
                        refine cx_topr (z := nI (20 * i59 + i8)) (nI_add _ _) ?_
                        refine cx_zald (f := za_95) (n := 400) (cA := cZ) hx hb hE hS 15 1 rfl rfl (by omega) (by decide) dX7_findFaceOnes_113 ?_
                        refine lv_if_eq (tgt := 128) hx hb dX7_findFaceOnes_114 (by decide) (fun h114 => ?_) (fun h114 => ?_)
                        · skip
                          exact J128 za_95 (fun _ => kn_95) _ _ _ (by first | assumption | exact hKN) hS (lv_sub hl [0, 1, 2, 3, 4, 5, 6] rfl)
                        · skip
                          refine lv_aload_n hx hb dX7_findFaceOnes_117 rfl (lv_at hl 0 rfl) ?_
                          refine lv_iload hx hb dX7_findFaceOnes_118 (lv_at hl 6 rfl) ?_
                          refine lv_iload_n hx hb dX7_findFaceOnes_120 rfl (lv_at hl 2 rfl) ?_
                          refine lv_iload_n hx hb dX7_findFaceOnes_121 rfl (lv_at hl 3 rfl) ?_
                          refine cx_cVi (As := [.int (nI i59), .int nm, .int pm]) (rest := []) ⟨hx, hb, hml, hown, hts⟩ hE hS (c_X7_ofFace l D q cI cZ n T k M d_8 (cx_u (cx_u Z 0 za_95) 3 (fun _ => kn_95)) (cx_u F 0 F_0_8) (nI i59) nm pm (by first | assumption | omega)) (cwV 3 hts gX7_findFaceOnes_X7_ofFace rfl rfl rfl (by decide +kernel) ⟨Nat.le_of_ble_eq_true rfl, Nat.le_of_ble_eq_true rfl⟩) 0 7 rfl rfl rfl hl.1 rfl (Nat.le_of_ble_eq_true rfl) ⟨Nat.zero_le _, Nat.zero_le _⟩ dX7_findFaceOnes_122 (fun r_122 u_122 H locs hp_122 hS => ?_)
                          have hp_122 : cx_Lst (cx_ofP M (nI i59) nm pm) k r_122 := hp_122
                          refine lv_if_ge (tgt := 132) hx hb dX7_findFaceOnes_125 (by decide) (fun h125 => ?_) (fun h125 => ?_)
                          · skip
                            refine lv_iconst (v := (0 : Int32)) hx hb dX7_findFaceOnes_132 (by decide) ?_
                            exact J133 (0 : Int32) za_95 (fun _ => kn_95) _ _ _ (by first | assumption | exact hKN) hS (lv_sub hl [0, 1, 2, 3, 4, 5, 6] rfl)
                          · skip
                            exact J128 za_95 (fun _ => kn_95) _ _ _ (by first | assumption | exact hKN) hS (lv_sub hl [0, 1, 2, 3, 4, 5, 6] rfl)
          exact J59 (n - 0 + 1) v54_s0 0 Z_0_54 Z_3_54 _ _ _ (Nat.lt_succ_self _) (by omega) (by first | assumption | exact hKN) (by first | assumption | exact Or.inr (hz2.resolve_left h70)) hS (lv_sub hl [2, 3, 4, 5, 6, 1, 0] rfl)
        have J53 : ∀ (Z_0_53 : Nat → Int32) (Z_3_53 : Nat → Int32) (H : Heap) (locs : List Loc) (ls : Array Slot), (cx_KN n T Z_0_53 (Z_3_53 0)) → cx_S D vwCl A s (cyW q cI cZ n T k M d_8 (cx_u (cx_u Z 0 Z_0_53) 3 Z_3_53) (cx_u F 0 F_0_8)) H locs → lv_has ls 7 [(0, .ref (q 0)), (1, .int (nI t)), (2, .int nm), (3, .int pm), (4, .int (nI i8))] → W p l e ({ frames := 4, cells := 0, slots := 0, locals := 88 } : Room) s m args below meth c H locs 0 0 Q (F0 m 53 ls []) := by
          intro Z_0_53 Z_3_53 H locs ls hKN53 hS hl
          refine lv_iconst (v := (0 : Int32)) hx hb dX7_findFaceOnes_53 (by decide) ?_
          exact J54 (0 : Int32) Z_0_53 Z_3_53 _ _ _ (by first | assumption | exact hKN) (by first | exact Or.inl rfl | exact Or.inr ⟨_, hp_43, h46⟩) hS (lv_sub hl [0, 1, 2, 3, 4] rfl)
        refine lv_icmp_ne (tgt := 53) hx hb dX7_findFaceOnes_25 (by decide) (fun h25 => ?_) (fun h25 => ?_)
        · skip
          exact J53 Z_0_8 Z_3_8 _ _ _ (by first | assumption | exact hKN) hS (lv_sub hl [0, 1, 2, 3, 4] rfl)
        · skip
          refine lv_aload_n hx hb dX7_findFaceOnes_28 rfl (lv_at hl 0 rfl) ?_
          refine lv_iload_n hx hb dX7_findFaceOnes_29 rfl (lv_at hl 1 rfl) ?_
          refine lv_iload hx hb dX7_findFaceOnes_30 (lv_at hl 4 rfl) ?_
          refine cx_cVi (As := [.int (nI t), .int (nI i8)]) (rest := []) ⟨hx, hb, hml, hown, hts⟩ hE hS (c_X7_isOf l D q cI cZ n T k M d_8 (cx_u (cx_u Z 0 Z_0_8) 3 Z_3_8) (cx_u F 0 F_0_8) t i8 (by first | assumption | omega) (by first | assumption | omega) (by first | assumption | omega) (by first | assumption | omega) (by first | assumption | omega) (by first | assumption | omega) (by first | assumption | omega)) (cwV 2 hts gX7_findFaceOnes_X7_isOf rfl rfl rfl (by decide +kernel) ⟨Nat.le_of_ble_eq_true rfl, Nat.le_of_ble_eq_true rfl⟩) 0 7 rfl rfl rfl hl.1 rfl (Nat.le_of_ble_eq_true rfl) ⟨Nat.zero_le _, Nat.zero_le _⟩ dX7_findFaceOnes_32 (fun r_32 u_32 H locs hp_32 hS => ?_)
          obtain ⟨za_32, kn_32⟩ := u_32
          have hS : cx_S D vwCl A s (cyW q cI cZ n T k M d_8 (cx_u (cx_u Z 0 za_32) 3 (fun _ => kn_32)) (cx_u F 0 F_0_8)) H locs := hS
          obtain ⟨hKN_32, hp_32⟩ := hp_32
          have hKN_32 : cx_KN n T za_32 kn_32 := hKN_32
          have hp_32 : (r_32 = 0 ∨ r_32 = 1) ∧ (t < n → i8 < n → (¬ r_32 = 0 ↔ (t = i8 ∨ cx_w3 n (cx_Er T n) n t i8))) := hp_32
          refine lv_if_eq (tgt := 53) hx hb dX7_findFaceOnes_35 (by decide) (fun h35 => ?_) (fun h35 => ?_)
          · skip
            exact J53 za_32 (fun _ => kn_32) _ _ _ (by first | assumption | exact hKN) hS (lv_sub hl [0, 1, 2, 3, 4] rfl)
          · skip
            refine lv_aload_n hx hb dX7_findFaceOnes_38 rfl (lv_at hl 0 rfl) ?_
            refine lv_iload hx hb dX7_findFaceOnes_39 (lv_at hl 4 rfl) ?_
            refine lv_iload_n hx hb dX7_findFaceOnes_41 rfl (lv_at hl 2 rfl) ?_
            refine lv_iload_n hx hb dX7_findFaceOnes_42 rfl (lv_at hl 3 rfl) ?_
            refine cx_cVi (As := [.int (nI i8), .int nm, .int pm]) (rest := []) ⟨hx, hb, hml, hown, hts⟩ hE hS (c_X7_ofFace l D q cI cZ n T k M d_8 (cx_u (cx_u Z 0 za_32) 3 (fun _ => kn_32)) (cx_u F 0 F_0_8) (nI i8) nm pm (by first | assumption | omega)) (cwV 3 hts gX7_findFaceOnes_X7_ofFace rfl rfl rfl (by decide +kernel) ⟨Nat.le_of_ble_eq_true rfl, Nat.le_of_ble_eq_true rfl⟩) 0 7 rfl rfl rfl hl.1 rfl (Nat.le_of_ble_eq_true rfl) ⟨Nat.zero_le _, Nat.zero_le _⟩ dX7_findFaceOnes_43 (fun r_43 u_43 H locs hp_43 hS => ?_)
            have hp_43 : cx_Lst (cx_ofP M (nI i8) nm pm) k r_43 := hp_43
            refine lv_if_lt (tgt := 53) hx hb dX7_findFaceOnes_46 (by decide) (fun h46 => ?_) (fun h46 => ?_)
            · skip
              exact J53 za_32 (fun _ => kn_32) _ _ _ (by first | assumption | exact hKN) hS (lv_sub hl [0, 1, 2, 3, 4] rfl)
            · skip
              refine lv_iconst (v := (1 : Int32)) hx hb dX7_findFaceOnes_49 (by decide) ?_
              refine lv_goto (tgt := 54) hx hb dX7_findFaceOnes_50 (by decide) ?_
              exact J54 (1 : Int32) za_32 (fun _ => kn_32) _ _ _ (by first | assumption | exact hKN) (by first | exact Or.inl rfl | exact Or.inr ⟨_, hp_43, h46⟩) hS (lv_sub hl [0, 1, 2, 3, 4] rfl)
  exact J8 (n - 0 + 1) 0 0 (Z 0) (Z 3) (F 0) _ _ _ (Nat.lt_succ_self _) (by omega) (by first | assumption | exact hKN) (by omega) (by first | assumption | exact fun j hj => absurd hj (by omega)) hS (lv_sub hl [1, 2, 3, 4, 0] rfl)
set_option maxHeartbeats 4000000 in
set_option maxRecDepth 100000 in
theorem c_X7_leastFaceOne (l : Launch) (D : va_G) (q : Nat → Nat) (cI cZ : ClassId) (n : Nat) (T : Nat → Nat → Int32) (k : Nat) (M : Nat → Nat → Int32) (d : Nat) (Z : Nat → Nat → Int32) (F : Nat → Nat → Int32) (ja : Int32) (hd : d ≤ 20) (hF : ∀ j, j < d → cx_ix ((F 0) j) 80) : cx_Mi l D vwCl [(cI, .int), (cZ, .boolean)] cx_NW yX7_leastFaceOne wsX7_leastFaceOne ({ frames := 1, cells := 0, slots := 0, locals := 23 } : Room) [.ref (q 0), .int ja] (cyW q cI cZ n T k M d Z F) (fun (r : Int32) (uw : Unit) => (r = -1 ∨ cx_ix r 80) ∧ (ja = 0 → 0 < d → cx_ix r 80)) (fun _ => (cyW q cI cZ n T k M d Z F)) := by
  refine cx_Mi.of (cc := cX7_leastFaceOne) (maxL := 6) cx_NW_ok (by decide) rfl (Nat.le_of_ble_eq_true rfl) ?_
  intro p e s m args below meth c Q A ls hx hb hml hown hts hE RET hS hl
  have hl : lv_has ls 6 [(0, .ref (q 0)), (1, .int ja)] := hl
  have hown : s.vm.findClass RX7 = some m.cls := hown
  have hinX7 : ∀ w ∈ u_ws RX7 TX7 22, w ∈ wsX7_leastFaceOne := cx_mem [9, 10, 11, 12, 13, 14, 15, 16, 17, 18, 19, 20, 21, 22, 23, 24, 25, 26, 27, 28, 29, 30] (by decide +kernel)
  refine lv_iconst (v := (-1 : Int32)) hx hb dX7_leastFaceOne_0 (by decide) ?_
  refine lv_istore_n (lv' := [(2, .int (-1 : Int32)), (0, .ref (q 0)), (1, .int ja)]) hx hb dX7_leastFaceOne_1 rfl hl (by decide) rfl (fun ls hl => ?_)
  refine lv_iconst (v := (0 : Int32)) hx hb dX7_leastFaceOne_2 (by decide) ?_
  refine cx_topr (z := nI 0) (by decide) ?_
  refine lv_istore_n (lv' := [(3, .int (nI 0)), (2, .int (-1 : Int32)), (0, .ref (q 0)), (1, .int ja)]) hx hb dX7_leastFaceOne_3 rfl hl (by decide) rfl (fun ls hl => ?_)
  have J4 : ∀ (N : Nat) (v4_l2 : Int32) (i4 : Nat) (H : Heap) (locs : List Loc) (ls : Array Slot), (d - i4 < N) → (i4 ≤ d) → (v4_l2 = -1 ∨ cx_ix v4_l2 80) → (ja = 0 → 0 < i4 → cx_ix v4_l2 80) → cx_S D vwCl A s (cyW q cI cZ n T k M d Z F) H locs → lv_has ls 6 [(0, .ref (q 0)), (1, .int ja), (2, .int v4_l2), (3, .int (nI i4))] → W p l e ({ frames := 1, cells := 0, slots := 0, locals := 23 } : Room) s m args below meth c H locs 0 0 Q (F0 m 4 ls []) := by
    intro N4
    induction N4 with
    | zero => intro v4_l2 i4 H locs ls hN; exact absurd hN (by omega)
    | succ N4 ih4 =>
      intro v4_l2 i4 H locs ls hN4 hi4 ha hbj hS hl
      refine lv_iload_n hx hb dX7_leastFaceOne_4 rfl (lv_at hl 3 rfl) ?_
      refine lv_aload_n hx hb dX7_leastFaceOne_5 rfl (lv_at hl 0 rfl) ?_
      refine cx_get (own := RX7) (index := 127) (C := RX7) (T := TX7) (N := 22) (k := 20) (ci := 7) (v := .int (nI d)) hx hb hts hown hE hS hinX7 0 rfl rfl (by decide) (List.mem_of_getElem? (i := 1) rfl) rfl dX7_leastFaceOne_6 ?_
      refine lv_icmp_ge (tgt := 70) hx hb dX7_leastFaceOne_9 (by decide) (fun h9 => ?_) (fun h9 => ?_)
      · skip
        have g9 : d ≤ i4 := (nI_leI (a := d) (b := i4) (by omega) (by omega)).mp h9
        refine lv_iload_n hx hb dX7_leastFaceOne_70 rfl (lv_at hl 2 rfl) ?_
        exact RET _ () _ _ _ _ dX7_leastFaceOne_71 rfl (⟨ha, fun z y => hbj z (by omega)⟩) hS
      · skip
        have g9 : ¬ (d ≤ i4) := fun z => h9 ((nI_leI (a := d) (b := i4) (by omega) (by omega)).mpr z)
        refine lv_aload_n hx hb dX7_leastFaceOne_12 rfl (lv_at hl 0 rfl) ?_
        refine cx_get (own := RX7) (index := 59) (C := RX7) (T := TX7) (N := 22) (k := 19) (ci := 7) (v := .ref (q 17)) hx hb hts hown hE hS hinX7 0 rfl rfl (by decide) (List.mem_of_getElem? (i := 2) rfl) rfl dX7_leastFaceOne_13 ?_
        refine lv_iload_n hx hb dX7_leastFaceOne_16 rfl (lv_at hl 3 rfl) ?_
        refine cx_iald (f := (F 0)) (n := 20) (cA := cI) hx hb hE hS 17 0 rfl rfl (by omega) (by decide) dX7_leastFaceOne_17 ?_
        refine lv_istore (lv' := [(4, .int ((F 0) i4)), (0, .ref (q 0)), (1, .int ja), (2, .int v4_l2), (3, .int (nI i4))]) hx hb dX7_leastFaceOne_18 hl (by decide) rfl (fun ls hl => ?_)
        refine lv_iload_n hx hb dX7_leastFaceOne_20 rfl (lv_at hl 2 rfl) ?_
        have J40 : ∀ (v40_s0 : Int32) (H : Heap) (locs : List Loc) (ls : Array Slot), (ja = 0 → v40_s0 = 1) → cx_S D vwCl A s (cyW q cI cZ n T k M d Z F) H locs → lv_has ls 6 [(0, .ref (q 0)), (1, .int ja), (2, .int v4_l2), (3, .int (nI i4)), (4, .int ((F 0) i4))] → W p l e ({ frames := 1, cells := 0, slots := 0, locals := 23 } : Room) s m args below meth c H locs 0 0 Q (F0 m 40 ls [.int v40_s0]) := by
          intro v40_s0 H locs ls hj hS hl
          refine lv_istore (lv' := [(5, .int v40_s0), (0, .ref (q 0)), (1, .int ja), (2, .int v4_l2), (3, .int (nI i4)), (4, .int ((F 0) i4))]) hx hb dX7_leastFaceOne_40 hl (by decide) rfl (fun ls hl => ?_)
          refine lv_iload hx hb dX7_leastFaceOne_42 (lv_at hl 0 rfl) ?_
          have J63 : ∀ (v63_s0 : Int32) (H : Heap) (locs : List Loc) (ls : Array Slot), (v63_s0 = -1 ∨ cx_ix v63_s0 80) → (ja = 0 → cx_ix v63_s0 80) → cx_S D vwCl A s (cyW q cI cZ n T k M d Z F) H locs → lv_has ls 6 [(0, .ref (q 0)), (1, .int ja), (2, .int v4_l2), (3, .int (nI i4)), (4, .int ((F 0) i4)), (5, .int v40_s0)] → W p l e ({ frames := 1, cells := 0, slots := 0, locals := 23 } : Room) s m args below meth c H locs 0 0 Q (F0 m 63 ls [.int v63_s0]) := by
            intro v63_s0 H locs ls hc1 hc2 hS hl
            refine lv_istore_n (lv' := [(2, .int v63_s0), (0, .ref (q 0)), (1, .int ja), (3, .int (nI i4)), (4, .int ((F 0) i4)), (5, .int v40_s0)]) hx hb dX7_leastFaceOne_63 rfl hl (by decide) rfl (fun ls hl => ?_)
            refine lv_iinc (v := nI (i4 + 1)) (lv' := [(3, .int (nI (i4 + 1))), (2, .int v63_s0), (0, .ref (q 0)), (1, .int ja), (4, .int ((F 0) i4)), (5, .int v40_s0)]) hx hb dX7_leastFaceOne_64 hl (k := 3) rfl (cx_inc _) (by decide) rfl (fun ls hl => ?_)
            refine lv_goto (tgt := 4) hx hb dX7_leastFaceOne_67 (by decide) ?_
            exact ih4 v63_s0 (i4 + 1) _ _ _ (by omega) (by omega) (by first | exact Or.inl rfl | assumption) (by first | exact fun _ z => absurd z (by omega) | exact fun z _ => hc2 z) hS (lv_sub hl [2, 3, 1, 0] rfl)
          have J62 : ∀ (H : Heap) (locs : List Loc) (ls : Array Slot), (ja = 0 → cx_ix v4_l2 80) → cx_S D vwCl A s (cyW q cI cZ n T k M d Z F) H locs → lv_has ls 6 [(0, .ref (q 0)), (1, .int ja), (2, .int v4_l2), (3, .int (nI i4)), (4, .int ((F 0) i4)), (5, .int v40_s0)] → W p l e ({ frames := 1, cells := 0, slots := 0, locals := 23 } : Room) s m args below meth c H locs 0 0 Q (F0 m 62 ls []) := by
            intro  H locs ls hk2 hS hl
            refine lv_iload_n hx hb dX7_leastFaceOne_62 rfl (lv_at hl 2 rfl) ?_
            exact J63 v4_l2 _ _ _ (by first | exact Or.inr (hF _ (by omega)) | exact ha) (by first | exact fun _ => hF _ (by omega) | exact hk2) hS (lv_sub hl [0, 1, 2, 3, 4, 5] rfl)
          refine lv_if_eq (tgt := 62) hx hb dX7_leastFaceOne_44 (by decide) (fun h44 => ?_) (fun h44 => ?_)
          · skip
            exact J62  _ _ _ (by first | exact fun z => absurd ((hj z).symm.trans h44) (by decide) | exact fun _ => cx_pp ha h48) hS (lv_sub hl [1, 2, 3, 4, 5, 0] rfl)
          · skip
            refine lv_iload_n hx hb dX7_leastFaceOne_47 rfl (lv_at hl 3 rfl) ?_
            have J57 : ∀ (H : Heap) (locs : List Loc) (ls : Array Slot), cx_S D vwCl A s (cyW q cI cZ n T k M d Z F) H locs → lv_has ls 6 [(0, .ref (q 0)), (1, .int ja), (2, .int v4_l2), (3, .int (nI i4)), (4, .int ((F 0) i4)), (5, .int v40_s0)] → W p l e ({ frames := 1, cells := 0, slots := 0, locals := 23 } : Room) s m args below meth c H locs 0 0 Q (F0 m 57 ls []) := by
              intro  H locs ls  hS hl
              refine lv_iload hx hb dX7_leastFaceOne_57 (lv_at hl 4 rfl) ?_
              refine lv_goto (tgt := 63) hx hb dX7_leastFaceOne_59 (by decide) ?_
              exact J63 ((F 0) i4) _ _ _ (by first | exact Or.inr (hF _ (by omega)) | exact ha) (by first | exact fun _ => hF _ (by omega) | exact hk2) hS (lv_sub hl [0, 1, 2, 3, 4, 5] rfl)
            refine lv_if_lt (tgt := 57) hx hb dX7_leastFaceOne_48 (by decide) (fun h48 => ?_) (fun h48 => ?_)
            · skip
              exact J57  _ _ _  hS (lv_sub hl [1, 2, 3, 4, 5, 0] rfl)
            · skip
              refine lv_iload hx hb dX7_leastFaceOne_51 (lv_at hl 5 rfl) ?_
              refine lv_iload_n hx hb dX7_leastFaceOne_53 rfl (lv_at hl 3 rfl) ?_
              refine lv_icmp_ge (tgt := 62) hx hb dX7_leastFaceOne_54 (by decide) (fun h54 => ?_) (fun h54 => ?_)
              · skip
                exact J62  _ _ _ (by first | exact fun z => absurd ((hj z).symm.trans h44) (by decide) | exact fun _ => cx_pp ha h48) hS (lv_sub hl [1, 2, 3, 4, 5, 0] rfl)
              · skip
                exact J57  _ _ _  hS (lv_sub hl [1, 2, 3, 4, 5, 0] rfl)
        have J35 : ∀ (H : Heap) (locs : List Loc) (ls : Array Slot), cx_S D vwCl A s (cyW q cI cZ n T k M d Z F) H locs → lv_has ls 6 [(0, .ref (q 0)), (1, .int ja), (2, .int v4_l2), (3, .int (nI i4)), (4, .int ((F 0) i4))] → W p l e ({ frames := 1, cells := 0, slots := 0, locals := 23 } : Room) s m args below meth c H locs 0 0 Q (F0 m 35 ls []) := by
          intro  H locs ls  hS hl
          refine lv_iconst (v := (1 : Int32)) hx hb dX7_leastFaceOne_35 (by decide) ?_
          refine lv_goto (tgt := 40) hx hb dX7_leastFaceOne_36 (by decide) ?_
          exact J40 (1 : Int32) _ _ _ (by first | exact fun _ => rfl | exact fun z => absurd z h21) hS (lv_sub hl [0, 1, 2, 3, 4] rfl)
        refine lv_if_eq (tgt := 35) hx hb dX7_leastFaceOne_21 (by decide) (fun h21 => ?_) (fun h21 => ?_)
        · skip
          exact J35  _ _ _  hS (lv_sub hl [1, 2, 3, 4, 0] rfl)
        · skip
          refine lv_aload_n hx hb dX7_leastFaceOne_24 rfl (lv_at hl 1 rfl) ?_
          refine lv_iload hx hb dX7_leastFaceOne_25 (lv_at hl 0 rfl) ?_
          refine cx_topr (z := nI (((F 0) i4).toNatClampNeg)) (hF _ (by omega)).1 ?_
          refine lv_iconst (v := (1 : Int32)) hx hb dX7_leastFaceOne_27 (by decide) ?_
          refine lv_iconst (v := (1 : Int32)) hx hb dX7_leastFaceOne_28 (by decide) ?_
          refine cx_cVi (As := [.int (nI (((F 0) i4).toNatClampNeg)), .int (1 : Int32), .int (1 : Int32)]) (rest := []) ⟨hx, hb, hml, hown, hts⟩ hE hS (c_X7_is l D q cI cZ n T k M d Z F (((F 0) i4).toNatClampNeg) (1 : Int32) (1 : Int32) ((hF _ (by omega)).2)) (cwV 3 hts gX7_leastFaceOne_X7_is rfl rfl rfl (by decide +kernel) ⟨Nat.le_of_ble_eq_true rfl, Nat.le_of_ble_eq_true rfl⟩) 0 7 rfl rfl rfl hl.1 rfl (Nat.le_of_ble_eq_true rfl) ⟨Nat.zero_le _, Nat.zero_le _⟩ dX7_leastFaceOne_29 (fun r_29 u_29 H locs hp_29 hS => ?_)
          have hp_29 : r_29 = cx_b ((cx_b (¬ (((M 3) (((F 0) i4).toNatClampNeg)) &&& (1 : Int32)) = 0)) = (1 : Int32)) := hp_29
          subst hp_29
          refine lv_if_eq (tgt := 39) hx hb dX7_leastFaceOne_32 (by decide) (fun h32 => ?_) (fun h32 => ?_)
          · skip
            have g32 := cx_b0 h32
            refine lv_iconst (v := (0 : Int32)) hx hb dX7_leastFaceOne_39 (by decide) ?_
            exact J40 (0 : Int32) _ _ _ (by first | exact fun _ => rfl | exact fun z => absurd z h21) hS (lv_sub hl [1, 2, 3, 4, 0] rfl)
          · skip
            have g32 := cx_b1 h32
            exact J35  _ _ _  hS (lv_sub hl [1, 2, 3, 4, 0] rfl)
  exact J4 (d - 0 + 1) (-1 : Int32) 0 _ _ _ (Nat.lt_succ_self _) (by omega) (by first | exact Or.inl rfl | assumption) (by first | exact fun _ z => absurd z (by omega) | exact fun z _ => hc2 z) hS (lv_sub hl [2, 3, 1, 0] rfl)
set_option maxHeartbeats 4000000 in
set_option maxRecDepth 100000 in
theorem c_X7_hasDefault (l : Launch) (D : va_G) (q : Nat → Nat) (cI cZ : ClassId) (n : Nat) (T : Nat → Nat → Int32) (k : Nat) (M : Nat → Nat → Int32) (d : Nat) (Z : Nat → Nat → Int32) (F : Nat → Nat → Int32) (hd : d ≤ 20) (hF : ∀ j, j < d → cx_ix ((F 0) j) 80) : cx_Mi l D vwCl [(cI, .int), (cZ, .boolean)] cx_NW yX7_hasDefault wsX7_hasDefault ({ frames := 1, cells := 0, slots := 0, locals := 23 } : Room) [.ref (q 0)] (cyW q cI cZ n T k M d Z F) (fun (r : Int32) (uw : Unit) => r = 0 ∨ r = 1) (fun _ => (cyW q cI cZ n T k M d Z F)) := by
  refine cx_Mi.of (cc := cX7_hasDefault) (maxL := 3) cx_NW_ok (by decide) rfl (Nat.le_of_ble_eq_true rfl) ?_
  intro p e s m args below meth c Q A ls hx hb hml hown hts hE RET hS hl
  have hl : lv_has ls 3 [(0, .ref (q 0))] := hl
  have hown : s.vm.findClass RX7 = some m.cls := hown
  have hinX7 : ∀ w ∈ u_ws RX7 TX7 22, w ∈ wsX7_hasDefault := cx_mem [9, 10, 11, 12, 13, 14, 15, 16, 17, 18, 19, 20, 21, 22, 23, 24, 25, 26, 27, 28, 29, 30] (by decide +kernel)
  refine lv_iconst (v := (0 : Int32)) hx hb dX7_hasDefault_0 (by decide) ?_
  refine cx_topr (z := nI 0) (by decide) ?_
  refine lv_istore_n (lv' := [(1, .int (nI 0)), (0, .ref (q 0))]) hx hb dX7_hasDefault_1 rfl hl (by decide) rfl (fun ls hl => ?_)
  refine lv_iconst (v := (0 : Int32)) hx hb dX7_hasDefault_2 (by decide) ?_
  refine cx_topr (z := nI 0) (by decide) ?_
  refine lv_istore_n (lv' := [(2, .int (nI 0)), (1, .int (nI 0)), (0, .ref (q 0))]) hx hb dX7_hasDefault_3 rfl hl (by decide) rfl (fun ls hl => ?_)
  have J4 : ∀ (N : Nat) (v4_l1 : Int32) (i4 : Nat) (H : Heap) (locs : List Loc) (ls : Array Slot), (d - i4 < N) → (i4 ≤ d) → (v4_l1 = 0 ∨ v4_l1 = 1) → cx_S D vwCl A s (cyW q cI cZ n T k M d Z F) H locs → lv_has ls 3 [(0, .ref (q 0)), (1, .int v4_l1), (2, .int (nI i4))] → W p l e ({ frames := 1, cells := 0, slots := 0, locals := 23 } : Room) s m args below meth c H locs 0 0 Q (F0 m 4 ls []) := by
    intro N4
    induction N4 with
    | zero => intro v4_l1 i4 H locs ls hN; exact absurd hN (by omega)
    | succ N4 ih4 =>
      intro v4_l1 i4 H locs ls hN4 hi4 hbo hS hl
      refine lv_iload_n hx hb dX7_hasDefault_4 rfl (lv_at hl 2 rfl) ?_
      refine lv_aload_n hx hb dX7_hasDefault_5 rfl (lv_at hl 0 rfl) ?_
      refine cx_get (own := RX7) (index := 127) (C := RX7) (T := TX7) (N := 22) (k := 20) (ci := 7) (v := .int (nI d)) hx hb hts hown hE hS hinX7 0 rfl rfl (by decide) (List.mem_of_getElem? (i := 1) rfl) rfl dX7_hasDefault_6 ?_
      refine lv_icmp_ge (tgt := 44) hx hb dX7_hasDefault_9 (by decide) (fun h9 => ?_) (fun h9 => ?_)
      · skip
        have g9 : d ≤ i4 := (nI_leI (a := d) (b := i4) (by omega) (by omega)).mp h9
        refine lv_iload_n hx hb dX7_hasDefault_44 rfl (lv_at hl 1 rfl) ?_
        exact RET _ () _ _ _ _ dX7_hasDefault_45 (cx_nb (by first | assumption | exact cx_bb)) (by first | exact Or.inl rfl | exact Or.inr rfl | assumption | exact cx_bb) hS
      · skip
        have g9 : ¬ (d ≤ i4) := fun z => h9 ((nI_leI (a := d) (b := i4) (by omega) (by omega)).mpr z)
        refine lv_iload_n hx hb dX7_hasDefault_12 rfl (lv_at hl 1 rfl) ?_
        have J37 : ∀ (v37_s0 : Int32) (H : Heap) (locs : List Loc) (ls : Array Slot), (v37_s0 = 0 ∨ v37_s0 = 1) → cx_S D vwCl A s (cyW q cI cZ n T k M d Z F) H locs → lv_has ls 3 [(0, .ref (q 0)), (1, .int v4_l1), (2, .int (nI i4))] → W p l e ({ frames := 1, cells := 0, slots := 0, locals := 23 } : Room) s m args below meth c H locs 0 0 Q (F0 m 37 ls [.int v37_s0]) := by
          intro v37_s0 H locs ls hb37 hS hl
          refine lv_istore_n (lv' := [(1, .int v37_s0), (0, .ref (q 0)), (2, .int (nI i4))]) hx hb dX7_hasDefault_37 rfl hl (by decide) rfl (fun ls hl => ?_)
          refine lv_iinc (v := nI (i4 + 1)) (lv' := [(2, .int (nI (i4 + 1))), (1, .int v37_s0), (0, .ref (q 0))]) hx hb dX7_hasDefault_38 hl (k := 2) rfl (cx_inc _) (by decide) rfl (fun ls hl => ?_)
          refine lv_goto (tgt := 4) hx hb dX7_hasDefault_41 (by decide) ?_
          exact ih4 v37_s0 (i4 + 1) _ _ _ (by omega) (by omega) (by first | exact Or.inl rfl | exact Or.inr rfl | assumption | exact cx_bb) hS (lv_sub hl [2, 1, 0] rfl)
        have J32 : ∀ (H : Heap) (locs : List Loc) (ls : Array Slot), cx_S D vwCl A s (cyW q cI cZ n T k M d Z F) H locs → lv_has ls 3 [(0, .ref (q 0)), (1, .int v4_l1), (2, .int (nI i4))] → W p l e ({ frames := 1, cells := 0, slots := 0, locals := 23 } : Room) s m args below meth c H locs 0 0 Q (F0 m 32 ls []) := by
          intro  H locs ls  hS hl
          refine lv_iconst (v := (1 : Int32)) hx hb dX7_hasDefault_32 (by decide) ?_
          refine lv_goto (tgt := 37) hx hb dX7_hasDefault_33 (by decide) ?_
          exact J37 (1 : Int32) _ _ _ (by first | exact Or.inl rfl | exact Or.inr rfl | assumption | exact cx_bb) hS (lv_sub hl [0, 1, 2] rfl)
        refine lv_if_ne (tgt := 32) hx hb dX7_hasDefault_13 (by decide) (fun h13 => ?_) (fun h13 => ?_)
        · skip
          exact J32  _ _ _  hS (lv_sub hl [0, 1, 2] rfl)
        · skip
          refine lv_aload_n hx hb dX7_hasDefault_16 rfl (lv_at hl 0 rfl) ?_
          refine lv_aload_n hx hb dX7_hasDefault_17 rfl (lv_at hl 0 rfl) ?_
          refine cx_get (own := RX7) (index := 59) (C := RX7) (T := TX7) (N := 22) (k := 19) (ci := 7) (v := .ref (q 17)) hx hb hts hown hE hS hinX7 0 rfl rfl (by decide) (List.mem_of_getElem? (i := 2) rfl) rfl dX7_hasDefault_18 ?_
          refine lv_iload_n hx hb dX7_hasDefault_21 rfl (lv_at hl 2 rfl) ?_
          refine cx_iald (f := (F 0)) (n := 20) (cA := cI) hx hb hE hS 17 0 rfl rfl (by omega) (by decide) dX7_hasDefault_22 ?_
          refine cx_topr (z := nI (((F 0) i4).toNatClampNeg)) (hF _ (by omega)).1 ?_
          refine lv_iconst (v := (1 : Int32)) hx hb dX7_hasDefault_23 (by decide) ?_
          refine lv_bipush (v := nI 8) hx hb dX7_hasDefault_24 (by decide) ?_
          refine cx_cVi (As := [.int (nI (((F 0) i4).toNatClampNeg)), .int (1 : Int32), .int (nI 8)]) (rest := []) ⟨hx, hb, hml, hown, hts⟩ hE hS (c_X7_is l D q cI cZ n T k M d Z F (((F 0) i4).toNatClampNeg) (1 : Int32) (nI 8) ((hF _ (by omega)).2)) (cwV 3 hts gX7_hasDefault_X7_is rfl rfl rfl (by decide +kernel) ⟨Nat.le_of_ble_eq_true rfl, Nat.le_of_ble_eq_true rfl⟩) 0 7 rfl rfl rfl hl.1 rfl (Nat.le_of_ble_eq_true rfl) ⟨Nat.zero_le _, Nat.zero_le _⟩ dX7_hasDefault_26 (fun r_26 u_26 H locs hp_26 hS => ?_)
          have hp_26 : r_26 = cx_b ((cx_b (¬ (((M 3) (((F 0) i4).toNatClampNeg)) &&& (nI 8)) = 0)) = (1 : Int32)) := hp_26
          subst hp_26
          refine lv_if_eq (tgt := 36) hx hb dX7_hasDefault_29 (by decide) (fun h29 => ?_) (fun h29 => ?_)
          · skip
            have g29 := cx_b0 h29
            refine lv_iconst (v := (0 : Int32)) hx hb dX7_hasDefault_36 (by decide) ?_
            exact J37 (0 : Int32) _ _ _ (by first | exact Or.inl rfl | exact Or.inr rfl | assumption | exact cx_bb) hS (lv_sub hl [0, 1, 2] rfl)
          · skip
            have g29 := cx_b1 h29
            exact J32  _ _ _  hS (lv_sub hl [0, 1, 2] rfl)
  exact J4 (d - 0 + 1) (nI 0) 0 _ _ _ (Nat.lt_succ_self _) (by omega) (by first | exact Or.inl rfl | exact Or.inr rfl | assumption | exact cx_bb) hS (lv_sub hl [2, 1, 0] rfl)
set_option maxHeartbeats 4000000 in
set_option maxRecDepth 100000 in
theorem c_X7_givenFaults (l : Launch) (D : va_G) (q : Nat → Nat) (cI cZ : ClassId) (n : Nat) (T : Nat → Nat → Int32) (k : Nat) (M : Nat → Nat → Int32) (d : Nat) (Z : Nat → Nat → Int32) (F : Nat → Nat → Int32) (t : Nat) (hn : n ≤ 20) (hP : cx_P (T 3) 20) (hU : cx_R (T 4) 20) (hV : cx_R (T 5) 4) (hKN : cx_KN n T (Z 0) ((Z 3) 0)) (hO : cx_R (M 0) 20) (hk : k ≤ 80) (ht : t < 20) : cx_Mv l D vwCl [(cI, .int), (cZ, .boolean)] cx_NW yX7_givenFaults wsX7_givenFaults ({ frames := 5, cells := 0, slots := 0, locals := 115 } : Room) [.ref (q 0), .int (nI t)] (cyW q cI cZ n T k M d Z F) (fun (uw : (Nat → Int32) × (Int32) × (Nat) × (Nat → Int32) × (Nat → Int32)) => cx_KN n T uw.1 uw.2.1 ∧ (True)) (fun uw => (cyW q cI cZ n T k M uw.2.2.1 (cx_u (cx_u (cx_u Z 0 uw.1) 3 (fun _ => uw.2.1)) 1 uw.2.2.2.2) (cx_u F 0 uw.2.2.2.1))) := by
  refine cx_Mv.of (cc := cX7_givenFaults) (maxL := 7) cx_NW_ok (by decide) rfl (Nat.le_of_ble_eq_true rfl) ?_
  intro p e s m args below meth c Q A ls hx hb hml hown hts hE RET hS hl
  have hl : lv_has ls 7 [(0, .ref (q 0)), (1, .int (nI t))] := hl
  have hown : s.vm.findClass RX7 = some m.cls := hown
  have hinX7 : ∀ w ∈ u_ws RX7 TX7 22, w ∈ wsX7_givenFaults := cx_mem [71, 72, 73, 74, 75, 76, 77, 78, 79, 80, 81, 82, 83, 84, 85, 86, 87, 88, 89, 90, 91, 92] (by decide +kernel)
  refine lv_aload_n hx hb dX7_givenFaults_0 rfl (lv_at hl 0 rfl) ?_
  refine cx_get (own := RX7) (index := 7) (C := RX7) (T := TX7) (N := 22) (k := 1) (ci := 7) (v := .ref (q 1)) hx hb hts hown hE hS hinX7 0 rfl rfl (by decide) (List.mem_of_getElem? (i := 1) rfl) rfl dX7_givenFaults_1 ?_
  refine lv_iload_n hx hb dX7_givenFaults_4 rfl (lv_at hl 1 rfl) ?_
  refine cx_iald (f := (T 0)) (n := 20) (cA := cI) hx hb hE hS 1 0 rfl rfl (by omega) (by decide) dX7_givenFaults_5 ?_
  refine lv_iconst (v := (1 : Int32)) hx hb dX7_givenFaults_6 (by decide) ?_
  have J24 : ∀ (v24_s0 : Int32) (H : Heap) (locs : List Loc) (ls : Array Slot), cx_S D vwCl A s (cyW q cI cZ n T k M d Z F) H locs → lv_has ls 7 [(0, .ref (q 0)), (1, .int (nI t))] → W p l e ({ frames := 5, cells := 0, slots := 0, locals := 115 } : Room) s m args below meth c H locs 0 0 Q (F0 m 24 ls [.int v24_s0]) := by
    intro v24_s0 H locs ls  hS hl
    refine lv_istore_n (lv' := [(2, .int v24_s0), (0, .ref (q 0)), (1, .int (nI t))]) hx hb dX7_givenFaults_24 rfl hl (by decide) rfl (fun ls hl => ?_)
    refine lv_iconst (v := (0 : Int32)) hx hb dX7_givenFaults_25 (by decide) ?_
    refine cx_topr (z := nI 0) (by decide) ?_
    refine lv_istore_n (lv' := [(3, .int (nI 0)), (2, .int v24_s0), (0, .ref (q 0)), (1, .int (nI t))]) hx hb dX7_givenFaults_26 rfl hl (by decide) rfl (fun ls hl => ?_)
    have J27 : ∀ (N : Nat) (i27 : Nat) (d_27 : Nat) (Z_0_27 : Nat → Int32) (Z_1_27 : Nat → Int32) (Z_3_27 : Nat → Int32) (F_0_27 : Nat → Int32) (H : Heap) (locs : List Loc) (ls : Array Slot), (10 - i27 < N) → (i27 ≤ 10) → (cx_KN n T Z_0_27 (Z_3_27 0)) → cx_S D vwCl A s (cyW q cI cZ n T k M d_27 (cx_u (cx_u (cx_u Z 0 Z_0_27) 1 Z_1_27) 3 Z_3_27) (cx_u F 0 F_0_27)) H locs → lv_has ls 7 [(0, .ref (q 0)), (1, .int (nI t)), (2, .int v24_s0), (3, .int (nI i27))] → W p l e ({ frames := 5, cells := 0, slots := 0, locals := 115 } : Room) s m args below meth c H locs 0 0 Q (F0 m 27 ls []) := by
      intro N27
      induction N27 with
      | zero => intro i27 d_27 Z_0_27 Z_1_27 Z_3_27 F_0_27 H locs ls hN; exact absurd hN (by omega)
      | succ N27 ih27 =>
        intro i27 d_27 Z_0_27 Z_1_27 Z_3_27 F_0_27 H locs ls hN27 hi27 hKN27 hS hl
        refine lv_iload_n hx hb dX7_givenFaults_27 rfl (lv_at hl 3 rfl) ?_
        refine lv_bipush (v := nI 10) hx hb dX7_givenFaults_28 (by decide) ?_
        refine lv_icmp_ge (tgt := 165) hx hb dX7_givenFaults_30 (by decide) (fun h30 => ?_) (fun h30 => ?_)
        · skip
          have g30 : 10 ≤ i27 := (nI_leI (a := 10) (b := i27) (by omega) (by omega)).mp h30
          exact RET (Z_0_27, Z_3_27 0, d_27, F_0_27, Z_1_27) _ _ _ _ dX7_givenFaults_165 (⟨(by first | assumption | exact hKN), trivial⟩) hS
        · skip
          have g30 : ¬ (10 ≤ i27) := fun z => h30 ((nI_leI (a := 10) (b := i27) (by omega) (by omega)).mpr z)
          refine lv_iconst (v := (0 : Int32)) hx hb dX7_givenFaults_33 (by decide) ?_
          refine cx_topr (z := nI 0) (by decide) ?_
          refine lv_istore (lv' := [(4, .int (nI 0)), (0, .ref (q 0)), (1, .int (nI t)), (2, .int v24_s0), (3, .int (nI i27))]) hx hb dX7_givenFaults_34 hl (by decide) rfl (fun ls hl => ?_)
          have J36 : ∀ (N : Nat) (i36 : Nat) (d_36 : Nat) (Z_0_36 : Nat → Int32) (Z_1_36 : Nat → Int32) (Z_3_36 : Nat → Int32) (F_0_36 : Nat → Int32) (H : Heap) (locs : List Loc) (ls : Array Slot), (5 - i36 < N) → (i36 ≤ 5) → (cx_KN n T Z_0_36 (Z_3_36 0)) → cx_S D vwCl A s (cyW q cI cZ n T k M d_36 (cx_u (cx_u (cx_u Z 0 Z_0_36) 1 Z_1_36) 3 Z_3_36) (cx_u F 0 F_0_36)) H locs → lv_has ls 7 [(0, .ref (q 0)), (1, .int (nI t)), (2, .int v24_s0), (3, .int (nI i27)), (4, .int (nI i36))] → W p l e ({ frames := 5, cells := 0, slots := 0, locals := 115 } : Room) s m args below meth c H locs 0 0 Q (F0 m 36 ls []) := by
            intro N36
            induction N36 with
            | zero => intro i36 d_36 Z_0_36 Z_1_36 Z_3_36 F_0_36 H locs ls hN; exact absurd hN (by omega)
            | succ N36 ih36 =>
              intro i36 d_36 Z_0_36 Z_1_36 Z_3_36 F_0_36 H locs ls hN36 hi36 hKN36 hS hl
              refine lv_iload hx hb dX7_givenFaults_36 (lv_at hl 4 rfl) ?_
              refine lv_iconst (v := nI 5) hx hb dX7_givenFaults_38 (by decide) ?_
              refine lv_icmp_ge (tgt := 159) hx hb dX7_givenFaults_39 (by decide) (fun h39 => ?_) (fun h39 => ?_)
              · skip
                have g39 : 5 ≤ i36 := (nI_leI (a := 5) (b := i36) (by omega) (by omega)).mp h39
                refine lv_iinc (v := nI (i27 + 1)) (lv' := [(3, .int (nI (i27 + 1))), (0, .ref (q 0)), (1, .int (nI t)), (2, .int v24_s0), (4, .int (nI i36))]) hx hb dX7_givenFaults_159 hl (k := 3) rfl (cx_inc _) (by decide) rfl (fun ls hl => ?_)
                refine lv_goto (tgt := 27) hx hb dX7_givenFaults_162 (by decide) ?_
                exact ih27 (i27 + 1) d_36 Z_0_36 Z_1_36 Z_3_36 F_0_36 _ _ _ (by omega) (by omega) (by first | assumption | exact hKN) hS (lv_sub hl [1, 2, 3, 0] rfl)
              · skip
                have g39 : ¬ (5 ≤ i36) := fun z => h39 ((nI_leI (a := 5) (b := i36) (by omega) (by omega)).mpr z)
                refine lv_aload_n hx hb dX7_givenFaults_42 rfl (lv_at hl 0 rfl) ?_
                refine lv_iload_n hx hb dX7_givenFaults_43 rfl (lv_at hl 1 rfl) ?_
                refine lv_iload_n hx hb dX7_givenFaults_44 rfl (lv_at hl 3 rfl) ?_
                refine lv_iload hx hb dX7_givenFaults_45 (lv_at hl 4 rfl) ?_
                refine cx_cVi (As := [.int (nI t), .int (nI i27), .int (nI i36)]) (rest := []) ⟨hx, hb, hml, hown, hts⟩ hE hS (c_X7_classOne l D q cI cZ n T k M d_36 (cx_u (cx_u (cx_u Z 0 Z_0_36) 1 Z_1_36) 3 Z_3_36) (cx_u F 0 F_0_36) t (nI i27) (nI i36) (by first | assumption | omega) (by first | assumption | omega) (by first | assumption | omega) (by first | assumption | omega) (by first | assumption | omega) (by first | assumption | omega) (by first | assumption | omega) (by first | assumption | omega)) (cwV 3 hts gX7_givenFaults_X7_classOne rfl rfl rfl (by decide +kernel) ⟨Nat.le_of_ble_eq_true rfl, Nat.le_of_ble_eq_true rfl⟩) 0 7 rfl rfl rfl hl.1 rfl (Nat.le_of_ble_eq_true rfl) ⟨Nat.zero_le _, Nat.zero_le _⟩ dX7_givenFaults_47 (fun r_47 u_47 H locs hp_47 hS => ?_)
                obtain ⟨za_47, kn_47⟩ := u_47
                have hS : cx_S D vwCl A s (cyW q cI cZ n T k M d_36 (cx_u (cx_u (cx_u Z 1 Z_1_36) 0 za_47) 3 (fun _ => kn_47)) (cx_u F 0 F_0_36)) H locs := hS
                obtain ⟨hKN_47, hp_47⟩ := hp_47
                have hKN_47 : cx_KN n T za_47 kn_47 := hKN_47
                have hp_47 : r_47 = -1 ∨ cx_ix r_47 80 := hp_47
                refine lv_istore (lv' := [(5, .int r_47), (0, .ref (q 0)), (1, .int (nI t)), (2, .int v24_s0), (3, .int (nI i27)), (4, .int (nI i36))]) hx hb dX7_givenFaults_50 hl (by decide) rfl (fun ls hl => ?_)
                refine lv_aload_n hx hb dX7_givenFaults_52 rfl (lv_at hl 1 rfl) ?_
                refine lv_iload_n hx hb dX7_givenFaults_53 rfl (lv_at hl 2 rfl) ?_
                refine lv_iload_n hx hb dX7_givenFaults_54 rfl (lv_at hl 4 rfl) ?_
                refine lv_iload hx hb dX7_givenFaults_55 (lv_at hl 5 rfl) ?_
                refine cx_cVv (As := [.int (nI t), .int (nI i27), .int (nI i36)]) (rest := []) ⟨hx, hb, hml, hown, hts⟩ hE hS (c_X7_findFaceOnes l D q cI cZ n T k M d_36 (cx_u (cx_u (cx_u Z 1 Z_1_36) 0 za_47) 3 (fun _ => kn_47)) (cx_u F 0 F_0_36) t (nI i27) (nI i36) (by first | assumption | omega) (by first | assumption | omega) (by first | assumption | omega) (by first | assumption | omega) (by first | assumption | omega) (by first | assumption | omega) (by first | assumption | omega)) (cwV 3 hts gX7_givenFaults_X7_findFaceOnes rfl rfl rfl (by decide +kernel) ⟨Nat.le_of_ble_eq_true rfl, Nat.le_of_ble_eq_true rfl⟩) 0 7 rfl rfl rfl hl.1 rfl (Nat.le_of_ble_eq_true rfl) ⟨Nat.zero_le _, Nat.zero_le _⟩ dX7_givenFaults_57 (fun u_57 H locs hp_57 hS => ?_)
                obtain ⟨za_57, kn_57, d1_57, fo_57⟩ := u_57
                have hS : cx_S D vwCl A s (cyW q cI cZ n T k M d1_57 (cx_u (cx_u (cx_u Z 1 Z_1_36) 0 za_57) 3 (fun _ => kn_57)) (cx_u F 0 fo_57)) H locs := hS
                obtain ⟨hKN_57, hp_57⟩ := hp_57
                have hKN_57 : cx_KN n T za_57 kn_57 := hKN_57
                have hp_57 : d1_57 ≤ 20 ∧ ∀ j, j < d1_57 → cx_ix (fo_57 j) 80 := hp_57
                have hd_57 := hp_57.1
                refine lv_iload hx hb dX7_givenFaults_60 (lv_at hl 0 rfl) ?_
                have J101 : ∀ (v101_s0 : Int32) (H : Heap) (locs : List Loc) (ls : Array Slot), (v101_s0 = -1 ∨ cx_ix v101_s0 80) → cx_S D vwCl A s (cyW q cI cZ n T k M d1_57 (cx_u (cx_u (cx_u Z 1 Z_1_36) 0 za_57) 3 (fun _ => kn_57)) (cx_u F 0 fo_57)) H locs → lv_has ls 7 [(0, .ref (q 0)), (1, .int (nI t)), (2, .int v24_s0), (3, .int (nI i27)), (4, .int (nI i36)), (5, .int r_47)] → W p l e ({ frames := 5, cells := 0, slots := 0, locals := 115 } : Room) s m args below meth c H locs 0 0 Q (F0 m 101 ls [.int v101_s0]) := by
                  intro v101_s0 H locs ls hv hS hl
                  refine lv_istore (lv' := [(6, .int v101_s0), (0, .ref (q 0)), (1, .int (nI t)), (2, .int v24_s0), (3, .int (nI i27)), (4, .int (nI i36)), (5, .int r_47)]) hx hb dX7_givenFaults_101 hl (by decide) rfl (fun ls hl => ?_)
                  refine lv_iload_n hx hb dX7_givenFaults_103 rfl (lv_at hl 3 rfl) ?_
                  have J121 : ∀ (Z_1_121 : Nat → Int32) (H : Heap) (locs : List Loc) (ls : Array Slot), cx_S D vwCl A s (cyW q cI cZ n T k M d1_57 (cx_u (cx_u (cx_u Z 0 za_57) 3 (fun _ => kn_57)) 1 Z_1_121) (cx_u F 0 fo_57)) H locs → lv_has ls 7 [(0, .ref (q 0)), (1, .int (nI t)), (2, .int v24_s0), (3, .int (nI i27)), (4, .int (nI i36)), (5, .int r_47), (6, .int v101_s0)] → W p l e ({ frames := 5, cells := 0, slots := 0, locals := 115 } : Room) s m args below meth c H locs 0 0 Q (F0 m 121 ls []) := by
                    intro Z_1_121 H locs ls  hS hl
                    refine lv_iload hx hb dX7_givenFaults_121 (lv_at hl 5 rfl) ?_
                    have J153 : ∀ (Z_1_153 : Nat → Int32) (H : Heap) (locs : List Loc) (ls : Array Slot), cx_S D vwCl A s (cyW q cI cZ n T k M d1_57 (cx_u (cx_u (cx_u Z 0 za_57) 3 (fun _ => kn_57)) 1 Z_1_153) (cx_u F 0 fo_57)) H locs → lv_has ls 7 [(0, .ref (q 0)), (1, .int (nI t)), (2, .int v24_s0), (3, .int (nI i27)), (4, .int (nI i36)), (5, .int r_47), (6, .int v101_s0)] → W p l e ({ frames := 5, cells := 0, slots := 0, locals := 115 } : Room) s m args below meth c H locs 0 0 Q (F0 m 153 ls []) := by
                      intro Z_1_153 H locs ls  hS hl
                      refine lv_iinc (v := nI (i36 + 1)) (lv' := [(4, .int (nI (i36 + 1))), (0, .ref (q 0)), (1, .int (nI t)), (2, .int v24_s0), (3, .int (nI i27)), (5, .int r_47), (6, .int v101_s0)]) hx hb dX7_givenFaults_153 hl (k := 4) rfl (cx_inc _) (by decide) rfl (fun ls hl => ?_)
                      refine lv_goto (tgt := 36) hx hb dX7_givenFaults_156 (by decide) ?_
                      exact ih36 (i36 + 1) d1_57 za_57 Z_1_153 (fun _ => kn_57) fo_57 _ _ _ (by omega) (by omega) (by first | assumption | exact hKN) hS (lv_sub hl [1, 2, 3, 4, 0] rfl)
                    refine lv_if_ge (tgt := 153) hx hb dX7_givenFaults_123 (by decide) (fun h123 => ?_) (fun h123 => ?_)
                    · skip
                      exact J153 Z_1_121 _ _ _  hS (lv_sub hl [0, 1, 2, 3, 4, 5, 6] rfl)
                    · skip
                      refine lv_aload_n hx hb dX7_givenFaults_126 rfl (lv_at hl 0 rfl) ?_
                      refine cx_get (own := RX7) (index := 127) (C := RX7) (T := TX7) (N := 22) (k := 20) (ci := 7) (v := .int (nI d1_57)) hx hb hts hown hE hS hinX7 0 rfl rfl (by decide) (List.mem_of_getElem? (i := 2) rfl) rfl dX7_givenFaults_127 ?_
                      refine lv_iconst (v := (1 : Int32)) hx hb dX7_givenFaults_130 (by decide) ?_
                      refine lv_icmp_le (tgt := 153) hx hb dX7_givenFaults_131 (by decide) (fun h131 => ?_) (fun h131 => ?_)
                      · skip
                        have g131 : d1_57 ≤ 1 := (nI_leI (a := d1_57) (b := 1) (by omega) (by omega)).mp h131
                        exact J153 Z_1_121 _ _ _  hS (lv_sub hl [0, 1, 2, 3, 4, 5, 6] rfl)
                      · skip
                        have g131 : ¬ (d1_57 ≤ 1) := fun z => h131 ((nI_leI (a := d1_57) (b := 1) (by omega) (by omega)).mpr z)
                        refine lv_aload_n hx hb dX7_givenFaults_134 rfl (lv_at hl 0 rfl) ?_
                        refine cx_cVi (As := []) (rest := []) ⟨hx, hb, hml, hown, hts⟩ hE hS (c_X7_hasDefault l D q cI cZ n T k M d1_57 (cx_u (cx_u (cx_u Z 0 za_57) 3 (fun _ => kn_57)) 1 Z_1_121) (cx_u F 0 fo_57)  hp_57.1 hp_57.2) (cwV 0 hts gX7_givenFaults_X7_hasDefault rfl rfl rfl (by decide +kernel) ⟨Nat.le_of_ble_eq_true rfl, Nat.le_of_ble_eq_true rfl⟩) 0 7 rfl rfl rfl hl.1 rfl (Nat.le_of_ble_eq_true rfl) ⟨Nat.zero_le _, Nat.zero_le _⟩ dX7_givenFaults_135 (fun r_135 u_135 H locs hp_135 hS => ?_)
                        have hp_135 : r_135 = 0 ∨ r_135 = 1 := hp_135
                        refine lv_if_eq (tgt := 153) hx hb dX7_givenFaults_138 (by decide) (fun h138 => ?_) (fun h138 => ?_)
                        · skip
                          exact J153 Z_1_121 _ _ _  hS (lv_sub hl [0, 1, 2, 3, 4, 5, 6] rfl)
                        · skip
                          refine lv_aload_n hx hb dX7_givenFaults_141 rfl (lv_at hl 0 rfl) ?_
                          refine lv_bipush (v := nI 17) hx hb dX7_givenFaults_142 (by decide) ?_
                          refine lv_aload_n hx hb dX7_givenFaults_144 rfl (lv_at hl 0 rfl) ?_
                          refine lv_iconst (v := (0 : Int32)) hx hb dX7_givenFaults_145 (by decide) ?_
                          refine cx_cVi (As := [.int (0 : Int32)]) (rest := [.int (nI 17), .ref (q 0)]) ⟨hx, hb, hml, hown, hts⟩ hE hS (c_X7_leastFaceOne l D q cI cZ n T k M d1_57 (cx_u (cx_u (cx_u Z 0 za_57) 3 (fun _ => kn_57)) 1 Z_1_121) (cx_u F 0 fo_57) (0 : Int32) hp_57.1 hp_57.2) (cwV 1 hts gX7_givenFaults_X7_leastFaceOne rfl rfl rfl (by decide +kernel) ⟨Nat.le_of_ble_eq_true rfl, Nat.le_of_ble_eq_true rfl⟩) 0 7 rfl rfl rfl hl.1 rfl (Nat.le_of_ble_eq_true rfl) ⟨Nat.zero_le _, Nat.zero_le _⟩ dX7_givenFaults_146 (fun r_146 u_146 H locs hp_146 hS => ?_)
                          have hp_146 : (r_146 = -1 ∨ cx_ix r_146 80) ∧ ((0 : Int32) = 0 → 0 < d1_57 → cx_ix r_146 80) := hp_146
                          refine cx_topr (z := nI (r_146.toNatClampNeg)) (hp_146.2 rfl (by omega)).1 ?_
                          refine lv_iconst (v := (1 : Int32)) hx hb dX7_givenFaults_149 (by decide) ?_
                          refine cx_cVv (As := [.int (nI 17), .int (nI (r_146.toNatClampNeg)), .int (1 : Int32)]) (rest := []) ⟨hx, hb, hml, hown, hts⟩ hE hS (c_X7_mark l D q cI cZ n T k M d1_57 (cx_u (cx_u (cx_u Z 0 za_57) 3 (fun _ => kn_57)) 1 Z_1_121) (cx_u F 0 fo_57) 17 r_146.toNatClampNeg (1 : Int32) (by first | assumption | omega) ((hp_146.2 rfl (by omega)).2)) (cwV 3 hts gX7_givenFaults_X7_mark rfl rfl rfl (by decide +kernel) ⟨Nat.le_of_ble_eq_true rfl, Nat.le_of_ble_eq_true rfl⟩) 0 7 rfl rfl rfl hl.1 rfl (Nat.le_of_ble_eq_true rfl) ⟨Nat.zero_le _, Nat.zero_le _⟩ dX7_givenFaults_150 (fun u_150 H locs hp_150 hS => ?_)
                          obtain ⟨zf_150, rfl⟩ : ∃ z, z = u_150 := ⟨_, rfl⟩
                          have hS : cx_S D vwCl A s (cyW q cI cZ n T k M d1_57 (cx_u (cx_u (cx_u Z 0 za_57) 3 (fun _ => kn_57)) 1 zf_150) (cx_u F 0 fo_57)) H locs := hS
                          exact J153 zf_150 _ _ _  hS (lv_sub hl [0, 1, 2, 3, 4, 5, 6] rfl)
                  refine lv_if_eq (tgt := 121) hx hb dX7_givenFaults_104 (by decide) (fun h104 => ?_) (fun h104 => ?_)
                  · skip
                    exact J121 Z_1_36 _ _ _  hS (lv_sub hl [1, 2, 3, 4, 5, 6, 0] rfl)
                  · skip
                    refine lv_iload hx hb dX7_givenFaults_107 (lv_at hl 0 rfl) ?_
                    refine lv_if_lt (tgt := 121) hx hb dX7_givenFaults_109 (by decide) (fun h109 => ?_) (fun h109 => ?_)
                    · skip
                      exact J121 Z_1_36 _ _ _  hS (lv_sub hl [1, 2, 3, 4, 5, 6, 0] rfl)
                    · skip
                      refine lv_aload_n hx hb dX7_givenFaults_112 rfl (lv_at hl 1 rfl) ?_
                      refine lv_bipush (v := nI 16) hx hb dX7_givenFaults_113 (by decide) ?_
                      refine lv_iload hx hb dX7_givenFaults_115 (lv_at hl 0 rfl) ?_
                      refine cx_topr (z := nI (v101_s0.toNatClampNeg)) (cx_pp hv h109).1 ?_
                      refine lv_iconst (v := (1 : Int32)) hx hb dX7_givenFaults_117 (by decide) ?_
                      refine cx_cVv (As := [.int (nI 16), .int (nI (v101_s0.toNatClampNeg)), .int (1 : Int32)]) (rest := []) ⟨hx, hb, hml, hown, hts⟩ hE hS (c_X7_mark l D q cI cZ n T k M d1_57 (cx_u (cx_u (cx_u Z 1 Z_1_36) 0 za_57) 3 (fun _ => kn_57)) (cx_u F 0 fo_57) 16 v101_s0.toNatClampNeg (1 : Int32) (by first | assumption | omega) ((cx_pp hv h109).2)) (cwV 3 hts gX7_givenFaults_X7_mark rfl rfl rfl (by decide +kernel) ⟨Nat.le_of_ble_eq_true rfl, Nat.le_of_ble_eq_true rfl⟩) 0 7 rfl rfl rfl hl.1 rfl (Nat.le_of_ble_eq_true rfl) ⟨Nat.zero_le _, Nat.zero_le _⟩ dX7_givenFaults_118 (fun u_118 H locs hp_118 hS => ?_)
                      obtain ⟨zf_118, rfl⟩ : ∃ z, z = u_118 := ⟨_, rfl⟩
                      have hS : cx_S D vwCl A s (cyW q cI cZ n T k M d1_57 (cx_u (cx_u (cx_u Z 0 za_57) 3 (fun _ => kn_57)) 1 zf_118) (cx_u F 0 fo_57)) H locs := hS
                      exact J121 zf_118 _ _ _  hS (lv_sub hl [1, 2, 3, 4, 5, 6, 0] rfl)
                refine lv_if_lt (tgt := 85) hx hb dX7_givenFaults_62 (by decide) (fun h62 => ?_) (fun h62 => ?_)
                · skip
                  refine lv_aload_n hx hb dX7_givenFaults_85 rfl (lv_at hl 1 rfl) ?_
                  refine cx_cVi (As := []) (rest := []) ⟨hx, hb, hml, hown, hts⟩ hE hS (c_X7_hasDefault l D q cI cZ n T k M d1_57 (cx_u (cx_u (cx_u Z 1 Z_1_36) 0 za_57) 3 (fun _ => kn_57)) (cx_u F 0 fo_57)  hp_57.1 hp_57.2) (cwV 0 hts gX7_givenFaults_X7_hasDefault rfl rfl rfl (by decide +kernel) ⟨Nat.le_of_ble_eq_true rfl, Nat.le_of_ble_eq_true rfl⟩) 0 7 rfl rfl rfl hl.1 rfl (Nat.le_of_ble_eq_true rfl) ⟨Nat.zero_le _, Nat.zero_le _⟩ dX7_givenFaults_86 (fun r_86 u_86 H locs hp_86 hS => ?_)
                  have hp_86 : r_86 = 0 ∨ r_86 = 1 := hp_86
                  refine lv_if_eq (tgt := 96) hx hb dX7_givenFaults_89 (by decide) (fun h89 => ?_) (fun h89 => ?_)
                  · skip
                    refine lv_aload_n hx hb dX7_givenFaults_96 rfl (lv_at hl 1 rfl) ?_
                    refine lv_iconst (v := (1 : Int32)) hx hb dX7_givenFaults_97 (by decide) ?_
                    refine cx_cVi (As := [.int (1 : Int32)]) (rest := []) ⟨hx, hb, hml, hown, hts⟩ hE hS (c_X7_leastFaceOne l D q cI cZ n T k M d1_57 (cx_u (cx_u (cx_u Z 1 Z_1_36) 0 za_57) 3 (fun _ => kn_57)) (cx_u F 0 fo_57) (1 : Int32) hp_57.1 hp_57.2) (cwV 1 hts gX7_givenFaults_X7_leastFaceOne rfl rfl rfl (by decide +kernel) ⟨Nat.le_of_ble_eq_true rfl, Nat.le_of_ble_eq_true rfl⟩) 0 7 rfl rfl rfl hl.1 rfl (Nat.le_of_ble_eq_true rfl) ⟨Nat.zero_le _, Nat.zero_le _⟩ dX7_givenFaults_98 (fun r_98 u_98 H locs hp_98 hS => ?_)
                    have hp_98 : (r_98 = -1 ∨ cx_ix r_98 80) ∧ ((1 : Int32) = 0 → 0 < d1_57 → cx_ix r_98 80) := hp_98
                    exact J101 r_98 _ _ _ (by first | exact Or.inl rfl | exact hp_47 | exact hp_98.1) hS (lv_sub hl [1, 2, 3, 4, 5, 0] rfl)
                  · skip
                    refine lv_iconst (v := (-1 : Int32)) hx hb dX7_givenFaults_92 (by decide) ?_
                    refine lv_goto (tgt := 101) hx hb dX7_givenFaults_93 (by decide) ?_
                    exact J101 (-1 : Int32) _ _ _ (by first | exact Or.inl rfl | exact hp_47 | exact hp_98.1) hS (lv_sub hl [1, 2, 3, 4, 5, 0] rfl)
                · skip
                  refine lv_aload_n hx hb dX7_givenFaults_65 rfl (lv_at hl 1 rfl) ?_
                  refine lv_iload hx hb dX7_givenFaults_66 (lv_at hl 0 rfl) ?_
                  refine cx_topr (z := nI (r_47.toNatClampNeg)) (cx_pp hp_47 h62).1 ?_
                  refine lv_iconst (v := (1 : Int32)) hx hb dX7_givenFaults_68 (by decide) ?_
                  refine lv_iconst (v := (1 : Int32)) hx hb dX7_givenFaults_69 (by decide) ?_
                  refine cx_cVi (As := [.int (nI (r_47.toNatClampNeg)), .int (1 : Int32), .int (1 : Int32)]) (rest := []) ⟨hx, hb, hml, hown, hts⟩ hE hS (c_X7_is l D q cI cZ n T k M d1_57 (cx_u (cx_u (cx_u Z 1 Z_1_36) 0 za_57) 3 (fun _ => kn_57)) (cx_u F 0 fo_57) r_47.toNatClampNeg (1 : Int32) (1 : Int32) ((cx_pp hp_47 h62).2)) (cwV 3 hts gX7_givenFaults_X7_is rfl rfl rfl (by decide +kernel) ⟨Nat.le_of_ble_eq_true rfl, Nat.le_of_ble_eq_true rfl⟩) 0 7 rfl rfl rfl hl.1 rfl (Nat.le_of_ble_eq_true rfl) ⟨Nat.zero_le _, Nat.zero_le _⟩ dX7_givenFaults_70 (fun r_70 u_70 H locs hp_70 hS => ?_)
                  have hp_70 : r_70 = cx_b ((cx_b (¬ (((M 3) r_47.toNatClampNeg) &&& (1 : Int32)) = 0)) = (1 : Int32)) := hp_70
                  subst hp_70
                  refine lv_if_eq (tgt := 81) hx hb dX7_givenFaults_73 (by decide) (fun h73 => ?_) (fun h73 => ?_)
                  · skip
                    have g73 := cx_b0 h73
                    refine lv_iconst (v := (-1 : Int32)) hx hb dX7_givenFaults_81 (by decide) ?_
                    refine lv_goto (tgt := 101) hx hb dX7_givenFaults_82 (by decide) ?_
                    exact J101 (-1 : Int32) _ _ _ (by first | exact Or.inl rfl | exact hp_47 | exact hp_98.1) hS (lv_sub hl [1, 2, 3, 4, 5, 0] rfl)
                  · skip
                    have g73 := cx_b1 h73
                    refine lv_iload hx hb dX7_givenFaults_76 (lv_at hl 0 rfl) ?_
                    refine lv_goto (tgt := 101) hx hb dX7_givenFaults_78 (by decide) ?_
                    exact J101 r_47 _ _ _ (by first | exact Or.inl rfl | exact hp_47 | exact hp_98.1) hS (lv_sub hl [1, 2, 3, 4, 5, 0] rfl)
          exact J36 (5 - 0 + 1) 0 d_27 Z_0_27 Z_1_27 Z_3_27 F_0_27 _ _ _ (Nat.lt_succ_self _) (by omega) (by first | assumption | exact hKN) hS (lv_sub hl [1, 2, 3, 4, 0] rfl)
    exact J27 (10 - 0 + 1) 0 d (Z 0) (Z 1) (Z 3) (F 0) _ _ _ (Nat.lt_succ_self _) (by omega) (by first | assumption | exact hKN) hS (lv_sub hl [2, 3, 1, 0] rfl)
  have J23 : ∀ (H : Heap) (locs : List Loc) (ls : Array Slot), cx_S D vwCl A s (cyW q cI cZ n T k M d Z F) H locs → lv_has ls 7 [(0, .ref (q 0)), (1, .int (nI t))] → W p l e ({ frames := 5, cells := 0, slots := 0, locals := 115 } : Room) s m args below meth c H locs 0 0 Q (F0 m 23 ls []) := by
    intro  H locs ls  hS hl
    refine lv_iconst (v := (0 : Int32)) hx hb dX7_givenFaults_23 (by decide) ?_
    exact J24 (0 : Int32) _ _ _  hS (lv_sub hl [0, 1] rfl)
  refine lv_icmp_eq (tgt := 23) hx hb dX7_givenFaults_7 (by decide) (fun h7 => ?_) (fun h7 => ?_)
  · skip
    exact J23  _ _ _  hS (lv_sub hl [0, 1] rfl)
  · skip
    refine lv_aload_n hx hb dX7_givenFaults_10 rfl (lv_at hl 0 rfl) ?_
    refine lv_iload_n hx hb dX7_givenFaults_11 rfl (lv_at hl 1 rfl) ?_
    refine lv_iconst (v := (1 : Int32)) hx hb dX7_givenFaults_12 (by decide) ?_
    refine cx_cVi (As := [.int (nI t), .int (1 : Int32)]) (rest := []) ⟨hx, hb, hml, hown, hts⟩ hE hS (c_X7_marked l D q cI cZ n T k M d Z F t (1 : Int32) (by first | assumption | omega)) (cwV 2 hts gX7_givenFaults_X7_marked rfl rfl rfl (by decide +kernel) ⟨Nat.le_of_ble_eq_true rfl, Nat.le_of_ble_eq_true rfl⟩) 0 7 rfl rfl rfl hl.1 rfl (Nat.le_of_ble_eq_true rfl) ⟨Nat.zero_le _, Nat.zero_le _⟩ dX7_givenFaults_13 (fun r_13 u_13 H locs hp_13 hS => ?_)
    have hp_13 : r_13 = 0 ∨ r_13 = 1 := hp_13
    refine lv_if_ne (tgt := 23) hx hb dX7_givenFaults_16 (by decide) (fun h16 => ?_) (fun h16 => ?_)
    · skip
      exact J23  _ _ _  hS (lv_sub hl [0, 1] rfl)
    · skip
      refine lv_iconst (v := (1 : Int32)) hx hb dX7_givenFaults_19 (by decide) ?_
      refine lv_goto (tgt := 24) hx hb dX7_givenFaults_20 (by decide) ?_
      exact J24 (1 : Int32) _ _ _  hS (lv_sub hl [0, 1] rfl)
set_option maxHeartbeats 4000000 in
set_option maxRecDepth 100000 in
theorem c_X7_faultsOf (l : Launch) (D : va_G) (q : Nat → Nat) (cI cZ : ClassId) (n : Nat) (T : Nat → Nat → Int32) (k : Nat) (M : Nat → Nat → Int32) (d : Nat) (Z : Nat → Nat → Int32) (F : Nat → Nat → Int32) (t : Nat) (hn : n ≤ 20) (hP : cx_P (T 3) 20) (hU : cx_R (T 4) 20) (hV : cx_R (T 5) 4) (hKN : cx_KN n T (Z 0) ((Z 3) 0)) (hQ : cx_R (T 6) 20) (hW : cx_R (T 7) 4) (hO : cx_R (M 0) 20) (hk : k ≤ 80) (ht : t < 20) : cx_Mv l D vwCl [(cI, .int), (cZ, .boolean)] cx_NW yX7_faultsOf wsX7_faultsOf ({ frames := 6, cells := 0, slots := 0, locals := 141 } : Room) [.ref (q 0), .int (nI t)] (cyW q cI cZ n T k M d Z F) (fun (uw : (Nat → Int32) × (Int32) × (Nat) × (Nat → Int32) × (Nat → Int32)) => cx_KN n T uw.1 uw.2.1 ∧ (True)) (fun uw => (cyW q cI cZ n T k M uw.2.2.1 (cx_u (cx_u (cx_u Z 0 uw.1) 3 (fun _ => uw.2.1)) 1 uw.2.2.2.2) (cx_u F 0 uw.2.2.2.1))) := by
  refine cx_Mv.of (cc := cX7_faultsOf) (maxL := 4) cx_NW_ok (by decide) rfl (Nat.le_of_ble_eq_true rfl) ?_
  intro p e s m args below meth c Q A ls hx hb hml hown hts hE RET hS hl
  have hl : lv_has ls 4 [(0, .ref (q 0)), (1, .int (nI t))] := hl
  have hown : s.vm.findClass RX7 = some m.cls := hown
  have hinX7 : ∀ w ∈ u_ws RX7 TX7 22, w ∈ wsX7_faultsOf := cx_mem [126, 127, 128, 129, 130, 131, 132, 133, 134, 135, 136, 137, 138, 139, 140, 141, 142, 143, 144, 145, 146, 147] (by decide +kernel)
  refine lv_aload_n hx hb dX7_faultsOf_0 rfl (lv_at hl 0 rfl) ?_
  refine cx_cVv (As := []) (rest := []) ⟨hx, hb, hml, hown, hts⟩ hE hS (c_X7_know l D q cI cZ n T k M d Z F  (by first | assumption | omega) (by first | assumption | omega) (by first | assumption | omega) (by first | assumption | omega) (by first | assumption | omega)) (cwV 0 hts gX7_faultsOf_X7_know rfl rfl rfl (by decide +kernel) ⟨Nat.le_of_ble_eq_true rfl, Nat.le_of_ble_eq_true rfl⟩) 0 7 rfl rfl rfl hl.1 rfl (Nat.le_of_ble_eq_true rfl) ⟨Nat.zero_le _, Nat.zero_le _⟩ dX7_faultsOf_1 (fun u_1 H locs hp_1 hS => ?_)
  obtain ⟨za_1, kn_1⟩ := u_1
  have hS : cx_S D vwCl A s (cyW q cI cZ n T k M d (cx_u (cx_u Z 0 za_1) 3 (fun _ => kn_1)) F) H locs := hS
  obtain ⟨hKN_1, hp_1⟩ := hp_1
  have hKN_1 : cx_KN n T za_1 kn_1 := hKN_1
  have hp_1 : ∀ a u, a < n → u < n → (¬ za_1 (20 * a + u) = 0 ↔ (cx_w3 n (cx_Er T n) n) a u) := hp_1
  refine lv_iconst (v := (1 : Int32)) hx hb dX7_faultsOf_4 (by decide) ?_
  refine cx_topr (z := nI 1) (by decide) ?_
  refine lv_istore_n (lv' := [(2, .int (nI 1)), (0, .ref (q 0)), (1, .int (nI t))]) hx hb dX7_faultsOf_5 rfl hl (by decide) rfl (fun ls hl => ?_)
  refine lv_iconst (v := (0 : Int32)) hx hb dX7_faultsOf_6 (by decide) ?_
  refine cx_topr (z := nI 0) (by decide) ?_
  refine lv_istore_n (lv' := [(3, .int (nI 0)), (2, .int (nI 1)), (0, .ref (q 0)), (1, .int (nI t))]) hx hb dX7_faultsOf_7 rfl hl (by decide) rfl (fun ls hl => ?_)
  have J8 : ∀ (N : Nat) (v8_l2 : Int32) (i8 : Nat) (Z_0_8 : Nat → Int32) (Z_1_8 : Nat → Int32) (Z_3_8 : Nat → Int32) (H : Heap) (locs : List Loc) (ls : Array Slot), (n - i8 < N) → (i8 ≤ n) → (cx_KN n T Z_0_8 (Z_3_8 0)) → cx_S D vwCl A s (cyW q cI cZ n T k M d (cx_u (cx_u (cx_u Z 0 Z_0_8) 1 Z_1_8) 3 Z_3_8) F) H locs → lv_has ls 4 [(0, .ref (q 0)), (1, .int (nI t)), (2, .int v8_l2), (3, .int (nI i8))] → W p l e ({ frames := 6, cells := 0, slots := 0, locals := 141 } : Room) s m args below meth c H locs 0 0 Q (F0 m 8 ls []) := by
    intro N8
    induction N8 with
    | zero => intro v8_l2 i8 Z_0_8 Z_1_8 Z_3_8 H locs ls hN; exact absurd hN (by omega)
    | succ N8 ih8 =>
      intro v8_l2 i8 Z_0_8 Z_1_8 Z_3_8 H locs ls hN8 hi8 hKN8 hS hl
      refine lv_iload_n hx hb dX7_faultsOf_8 rfl (lv_at hl 3 rfl) ?_
      refine lv_aload_n hx hb dX7_faultsOf_9 rfl (lv_at hl 0 rfl) ?_
      refine cx_get (own := RX7) (index := 65) (C := RX7) (T := TX7) (N := 22) (k := 0) (ci := 7) (v := .int (nI n)) hx hb hts hown hE hS hinX7 0 rfl rfl (by decide) (List.mem_of_getElem? (i := 1) rfl) rfl dX7_faultsOf_10 ?_
      have J63 : ∀ (H : Heap) (locs : List Loc) (ls : Array Slot), cx_S D vwCl A s (cyW q cI cZ n T k M d (cx_u (cx_u (cx_u Z 0 Z_0_8) 1 Z_1_8) 3 Z_3_8) F) H locs → lv_has ls 4 [(0, .ref (q 0)), (1, .int (nI t)), (2, .int v8_l2), (3, .int (nI i8))] → W p l e ({ frames := 6, cells := 0, slots := 0, locals := 141 } : Room) s m args below meth c H locs 0 0 Q (F0 m 63 ls []) := by
        intro  H locs ls  hS hl
        refine lv_aload_n hx hb dX7_faultsOf_63 rfl (lv_at hl 0 rfl) ?_
        refine lv_iload_n hx hb dX7_faultsOf_64 rfl (lv_at hl 1 rfl) ?_
        refine cx_cVv (As := [.int (nI t)]) (rest := []) ⟨hx, hb, hml, hown, hts⟩ hE hS (c_X7_firstFaults l D q cI cZ n T k M d (cx_u (cx_u (cx_u Z 0 Z_0_8) 1 Z_1_8) 3 Z_3_8) F t (by first | assumption | omega) (by first | assumption | omega) (by first | assumption | omega) (by first | assumption | omega) (by first | assumption | omega) (by first | assumption | omega) (by first | assumption | omega) (by first | assumption | omega)) (cwV 1 hts gX7_faultsOf_X7_firstFaults rfl rfl rfl (by decide +kernel) ⟨Nat.le_of_ble_eq_true rfl, Nat.le_of_ble_eq_true rfl⟩) 0 7 rfl rfl rfl hl.1 rfl (Nat.le_of_ble_eq_true rfl) ⟨Nat.zero_le _, Nat.zero_le _⟩ dX7_faultsOf_65 (fun u_65 H locs hp_65 hS => ?_)
        obtain ⟨za_65, kn_65, zf_65⟩ := u_65
        have hS : cx_S D vwCl A s (cyW q cI cZ n T k M d (cx_u (cx_u (cx_u Z 0 za_65) 3 (fun _ => kn_65)) 1 zf_65) F) H locs := hS
        obtain ⟨hKN_65, hp_65⟩ := hp_65
        have hKN_65 : cx_KN n T za_65 kn_65 := hKN_65
        refine lv_iload_n hx hb dX7_faultsOf_68 rfl (lv_at hl 2 rfl) ?_
        have J84 : ∀ (v84_s0 : Int32) (H : Heap) (locs : List Loc) (ls : Array Slot), cx_S D vwCl A s (cyW q cI cZ n T k M d (cx_u (cx_u (cx_u Z 0 za_65) 3 (fun _ => kn_65)) 1 zf_65) F) H locs → lv_has ls 4 [(0, .ref (q 0)), (1, .int (nI t)), (2, .int v8_l2), (3, .int (nI i8))] → W p l e ({ frames := 6, cells := 0, slots := 0, locals := 141 } : Room) s m args below meth c H locs 0 0 Q (F0 m 84 ls [.int v84_s0]) := by
          intro v84_s0 H locs ls  hS hl
          refine lv_istore_n (lv' := [(2, .int v84_s0), (0, .ref (q 0)), (1, .int (nI t)), (3, .int (nI i8))]) hx hb dX7_faultsOf_84 rfl hl (by decide) rfl (fun ls hl => ?_)
          refine lv_aload_n hx hb dX7_faultsOf_85 rfl (lv_at hl 1 rfl) ?_
          refine lv_iload_n hx hb dX7_faultsOf_86 rfl (lv_at hl 2 rfl) ?_
          refine cx_cVv (As := [.int (nI t)]) (rest := []) ⟨hx, hb, hml, hown, hts⟩ hE hS (c_X7_typeFaults l D q cI cZ n T k M d (cx_u (cx_u (cx_u Z 0 za_65) 3 (fun _ => kn_65)) 1 zf_65) F t (by first | assumption | omega) (by first | assumption | omega) (by first | assumption | omega) (by first | assumption | omega) (by first | assumption | omega) (by first | assumption | omega)) (cwV 1 hts gX7_faultsOf_X7_typeFaults rfl rfl rfl (by decide +kernel) ⟨Nat.le_of_ble_eq_true rfl, Nat.le_of_ble_eq_true rfl⟩) 0 7 rfl rfl rfl hl.1 rfl (Nat.le_of_ble_eq_true rfl) ⟨Nat.zero_le _, Nat.zero_le _⟩ dX7_faultsOf_87 (fun u_87 H locs hp_87 hS => ?_)
          obtain ⟨zf_87, rfl⟩ : ∃ z, z = u_87 := ⟨_, rfl⟩
          have hS : cx_S D vwCl A s (cyW q cI cZ n T k M d (cx_u (cx_u (cx_u Z 0 za_65) 3 (fun _ => kn_65)) 1 zf_87) F) H locs := hS
          refine lv_aload_n hx hb dX7_faultsOf_90 rfl (lv_at hl 1 rfl) ?_
          refine lv_iload_n hx hb dX7_faultsOf_91 rfl (lv_at hl 2 rfl) ?_
          refine cx_cVv (As := [.int (nI t)]) (rest := []) ⟨hx, hb, hml, hown, hts⟩ hE hS (c_X7_memberFaults l D q cI cZ n T k M d (cx_u (cx_u (cx_u Z 0 za_65) 3 (fun _ => kn_65)) 1 zf_87) F t (by first | assumption | omega) (by first | assumption | omega)) (cwV 1 hts gX7_faultsOf_X7_memberFaults rfl rfl rfl (by decide +kernel) ⟨Nat.le_of_ble_eq_true rfl, Nat.le_of_ble_eq_true rfl⟩) 0 7 rfl rfl rfl hl.1 rfl (Nat.le_of_ble_eq_true rfl) ⟨Nat.zero_le _, Nat.zero_le _⟩ dX7_faultsOf_92 (fun u_92 H locs hp_92 hS => ?_)
          obtain ⟨zf_92, rfl⟩ : ∃ z, z = u_92 := ⟨_, rfl⟩
          have hS : cx_S D vwCl A s (cyW q cI cZ n T k M d (cx_u (cx_u (cx_u Z 0 za_65) 3 (fun _ => kn_65)) 1 zf_92) F) H locs := hS
          refine lv_iload_n hx hb dX7_faultsOf_95 rfl (lv_at hl 0 rfl) ?_
          have J109 : ∀ (d_109 : Nat) (Z_0_109 : Nat → Int32) (Z_1_109 : Nat → Int32) (Z_3_109 : Nat → Int32) (F_0_109 : Nat → Int32) (H : Heap) (locs : List Loc) (ls : Array Slot), (cx_KN n T Z_0_109 (Z_3_109 0)) → cx_S D vwCl A s (cyW q cI cZ n T k M d_109 (cx_u (cx_u (cx_u Z 0 Z_0_109) 1 Z_1_109) 3 Z_3_109) (cx_u F 0 F_0_109)) H locs → lv_has ls 4 [(0, .ref (q 0)), (1, .int (nI t)), (2, .int v84_s0), (3, .int (nI i8))] → W p l e ({ frames := 6, cells := 0, slots := 0, locals := 141 } : Room) s m args below meth c H locs 0 0 Q (F0 m 109 ls []) := by
            intro d_109 Z_0_109 Z_1_109 Z_3_109 F_0_109 H locs ls hKN109 hS hl
            exact RET (Z_0_109, Z_3_109 0, d_109, F_0_109, Z_1_109) _ _ _ _ dX7_faultsOf_109 (⟨(by first | assumption | exact hKN), trivial⟩) hS
          refine lv_if_eq (tgt := 109) hx hb dX7_faultsOf_96 (by decide) (fun h96 => ?_) (fun h96 => ?_)
          · skip
            exact J109 d za_65 zf_92 (fun _ => kn_65) (F 0) _ _ _ (by first | assumption | exact hKN) hS (lv_sub hl [1, 2, 0, 3] rfl)
          · skip
            refine lv_aload_n hx hb dX7_faultsOf_99 rfl (lv_at hl 1 rfl) ?_
            refine lv_iload_n hx hb dX7_faultsOf_100 rfl (lv_at hl 2 rfl) ?_
            refine cx_cVv (As := [.int (nI t)]) (rest := []) ⟨hx, hb, hml, hown, hts⟩ hE hS (c_X7_overFaults l D q cI cZ n T k M d (cx_u (cx_u (cx_u Z 0 za_65) 3 (fun _ => kn_65)) 1 zf_92) F t (by first | assumption | omega) (by first | assumption | omega) (by first | assumption | omega) (by first | assumption | omega) (by first | assumption | omega) (by first | assumption | omega) (by first | assumption | omega) (by first | assumption | omega)) (cwV 1 hts gX7_faultsOf_X7_overFaults rfl rfl rfl (by decide +kernel) ⟨Nat.le_of_ble_eq_true rfl, Nat.le_of_ble_eq_true rfl⟩) 0 7 rfl rfl rfl hl.1 rfl (Nat.le_of_ble_eq_true rfl) ⟨Nat.zero_le _, Nat.zero_le _⟩ dX7_faultsOf_101 (fun u_101 H locs hp_101 hS => ?_)
            obtain ⟨za_101, kn_101, zf_101⟩ := u_101
            have hS : cx_S D vwCl A s (cyW q cI cZ n T k M d (cx_u (cx_u (cx_u Z 0 za_101) 3 (fun _ => kn_101)) 1 zf_101) F) H locs := hS
            obtain ⟨hKN_101, hp_101⟩ := hp_101
            have hKN_101 : cx_KN n T za_101 kn_101 := hKN_101
            refine lv_aload_n hx hb dX7_faultsOf_104 rfl (lv_at hl 1 rfl) ?_
            refine lv_iload_n hx hb dX7_faultsOf_105 rfl (lv_at hl 2 rfl) ?_
            refine cx_cVv (As := [.int (nI t)]) (rest := []) ⟨hx, hb, hml, hown, hts⟩ hE hS (c_X7_givenFaults l D q cI cZ n T k M d (cx_u (cx_u (cx_u Z 0 za_101) 3 (fun _ => kn_101)) 1 zf_101) F t (by first | assumption | omega) (by first | assumption | omega) (by first | assumption | omega) (by first | assumption | omega) (by first | assumption | omega) (by first | assumption | omega) (by first | assumption | omega) (by first | assumption | omega)) (cwV 1 hts gX7_faultsOf_X7_givenFaults rfl rfl rfl (by decide +kernel) ⟨Nat.le_of_ble_eq_true rfl, Nat.le_of_ble_eq_true rfl⟩) 0 7 rfl rfl rfl hl.1 rfl (Nat.le_of_ble_eq_true rfl) ⟨Nat.zero_le _, Nat.zero_le _⟩ dX7_faultsOf_106 (fun u_106 H locs hp_106 hS => ?_)
            obtain ⟨za_106, kn_106, d1_106, fo_106, zf_106⟩ := u_106
            have hS : cx_S D vwCl A s (cyW q cI cZ n T k M d1_106 (cx_u (cx_u (cx_u Z 0 za_106) 3 (fun _ => kn_106)) 1 zf_106) (cx_u F 0 fo_106)) H locs := hS
            obtain ⟨hKN_106, hp_106⟩ := hp_106
            have hKN_106 : cx_KN n T za_106 kn_106 := hKN_106
            exact J109 d1_106 za_106 zf_106 (fun _ => kn_106) fo_106 _ _ _ (by first | assumption | exact hKN) hS (lv_sub hl [1, 2, 0, 3] rfl)
        have J83 : ∀ (H : Heap) (locs : List Loc) (ls : Array Slot), cx_S D vwCl A s (cyW q cI cZ n T k M d (cx_u (cx_u (cx_u Z 0 za_65) 3 (fun _ => kn_65)) 1 zf_65) F) H locs → lv_has ls 4 [(0, .ref (q 0)), (1, .int (nI t)), (2, .int v8_l2), (3, .int (nI i8))] → W p l e ({ frames := 6, cells := 0, slots := 0, locals := 141 } : Room) s m args below meth c H locs 0 0 Q (F0 m 83 ls []) := by
          intro  H locs ls  hS hl
          refine lv_iconst (v := (0 : Int32)) hx hb dX7_faultsOf_83 (by decide) ?_
          exact J84 (0 : Int32) _ _ _  hS (lv_sub hl [0, 1, 2, 3] rfl)
        refine lv_if_eq (tgt := 83) hx hb dX7_faultsOf_69 (by decide) (fun h69 => ?_) (fun h69 => ?_)
        · skip
          exact J83  _ _ _  hS (lv_sub hl [0, 1, 2, 3] rfl)
        · skip
          refine lv_aload_n hx hb dX7_faultsOf_72 rfl (lv_at hl 0 rfl) ?_
          refine cx_cVi (As := []) (rest := []) ⟨hx, hb, hml, hown, hts⟩ hE hS (c_X7_haveAny l D q cI cZ n T k M d (cx_u (cx_u (cx_u Z 0 za_65) 3 (fun _ => kn_65)) 1 zf_65) F  ) (cwV 0 hts gX7_faultsOf_X7_haveAny rfl rfl rfl (by decide +kernel) ⟨Nat.le_of_ble_eq_true rfl, Nat.le_of_ble_eq_true rfl⟩) 0 7 rfl rfl rfl hl.1 rfl (Nat.le_of_ble_eq_true rfl) ⟨Nat.zero_le _, Nat.zero_le _⟩ dX7_faultsOf_73 (fun r_73 u_73 H locs hp_73 hS => ?_)
          have hp_73 : r_73 = 0 ∨ r_73 = 1 := hp_73
          refine lv_if_ne (tgt := 83) hx hb dX7_faultsOf_76 (by decide) (fun h76 => ?_) (fun h76 => ?_)
          · skip
            exact J83  _ _ _  hS (lv_sub hl [0, 1, 2, 3] rfl)
          · skip
            refine lv_iconst (v := (1 : Int32)) hx hb dX7_faultsOf_79 (by decide) ?_
            refine lv_goto (tgt := 84) hx hb dX7_faultsOf_80 (by decide) ?_
            exact J84 (1 : Int32) _ _ _  hS (lv_sub hl [0, 1, 2, 3] rfl)
      refine lv_icmp_ge (tgt := 63) hx hb dX7_faultsOf_13 (by decide) (fun h13 => ?_) (fun h13 => ?_)
      · skip
        have g13 : n ≤ i8 := (nI_leI (a := n) (b := i8) (by omega) (by omega)).mp h13
        exact J63  _ _ _  hS (lv_sub hl [0, 1, 2, 3] rfl)
      · skip
        have g13 : ¬ (n ≤ i8) := fun z => h13 ((nI_leI (a := n) (b := i8) (by omega) (by omega)).mpr z)
        refine lv_iload_n hx hb dX7_faultsOf_16 rfl (lv_at hl 2 rfl) ?_
        refine lv_if_eq (tgt := 63) hx hb dX7_faultsOf_17 (by decide) (fun h17 => ?_) (fun h17 => ?_)
        · skip
          exact J63  _ _ _  hS (lv_sub hl [0, 1, 2, 3] rfl)
        · skip
          refine lv_iload_n hx hb dX7_faultsOf_20 rfl (lv_at hl 3 rfl) ?_
          refine lv_iload_n hx hb dX7_faultsOf_21 rfl (lv_at hl 1 rfl) ?_
          have J57 : ∀ (v57_l2 : Int32) (Z_0_57 : Nat → Int32) (Z_1_57 : Nat → Int32) (Z_3_57 : Nat → Int32) (H : Heap) (locs : List Loc) (ls : Array Slot), (cx_KN n T Z_0_57 (Z_3_57 0)) → cx_S D vwCl A s (cyW q cI cZ n T k M d (cx_u (cx_u (cx_u Z 0 Z_0_57) 1 Z_1_57) 3 Z_3_57) F) H locs → lv_has ls 4 [(0, .ref (q 0)), (1, .int (nI t)), (2, .int v57_l2), (3, .int (nI i8))] → W p l e ({ frames := 6, cells := 0, slots := 0, locals := 141 } : Room) s m args below meth c H locs 0 0 Q (F0 m 57 ls []) := by
            intro v57_l2 Z_0_57 Z_1_57 Z_3_57 H locs ls hKN57 hS hl
            refine lv_iinc (v := nI (i8 + 1)) (lv' := [(3, .int (nI (i8 + 1))), (0, .ref (q 0)), (1, .int (nI t)), (2, .int v57_l2)]) hx hb dX7_faultsOf_57 hl (k := 3) rfl (cx_inc _) (by decide) rfl (fun ls hl => ?_)
            refine lv_goto (tgt := 8) hx hb dX7_faultsOf_60 (by decide) ?_
            exact ih8 v57_l2 (i8 + 1) Z_0_57 Z_1_57 Z_3_57 _ _ _ (by omega) (by omega) (by first | assumption | exact hKN) hS (lv_sub hl [1, 2, 3, 0] rfl)
          refine lv_icmp_eq (tgt := 57) hx hb dX7_faultsOf_22 (by decide) (fun h22 => ?_) (fun h22 => ?_)
          · skip
            have g22 : i8 = t := (nI_eq (a := i8) (b := t) (by omega) (by omega)).mp h22
            exact J57 v8_l2 Z_0_8 Z_1_8 Z_3_8 _ _ _ (by first | assumption | exact hKN) hS (lv_sub hl [0, 1, 2, 3] rfl)
          · skip
            have g22 : ¬ (i8 = t) := fun z => h22 ((nI_eq (a := i8) (b := t) (by omega) (by omega)).mpr z)
            refine lv_aload_n hx hb dX7_faultsOf_25 rfl (lv_at hl 0 rfl) ?_
            refine cx_get (own := RX7) (index := 52) (C := RX7) (T := TX7) (N := 22) (k := 16) (ci := 7) (v := .ref (q 15)) hx hb hts hown hE hS hinX7 0 rfl rfl (by decide) (List.mem_of_getElem? (i := 2) rfl) rfl dX7_faultsOf_26 ?_
            refine lv_bipush (v := nI 20) hx hb dX7_faultsOf_29 (by decide) ?_
            refine lv_iload_n hx hb dX7_faultsOf_31 rfl (lv_at hl 1 rfl) ?_
            refine lv_imul hx hb dX7_faultsOf_32 ?_
            refine cx_topr (z := nI (20 * t)) (pk_mul _ _) ?_
            refine lv_iload_n hx hb dX7_faultsOf_33 rfl (lv_at hl 3 rfl) ?_
            refine lv_iadd hx hb dX7_faultsOf_34 ?_
            refine cx_topr (z := nI (20 * t + i8)) (nI_add _ _) ?_
            refine cx_zald (f := Z_0_8) (n := 400) (cA := cZ) hx hb hE hS 15 1 rfl rfl (by omega) (by decide) dX7_faultsOf_35 ?_
            refine lv_if_eq (tgt := 57) hx hb dX7_faultsOf_36 (by decide) (fun h36 => ?_) (fun h36 => ?_)
            · skip
              exact J57 v8_l2 Z_0_8 Z_1_8 Z_3_8 _ _ _ (by first | assumption | exact hKN) hS (lv_sub hl [0, 1, 2, 3] rfl)
            · skip
              refine lv_aload_n hx hb dX7_faultsOf_39 rfl (lv_at hl 0 rfl) ?_
              refine lv_iload_n hx hb dX7_faultsOf_40 rfl (lv_at hl 3 rfl) ?_
              refine cx_cVv (As := [.int (nI i8)]) (rest := []) ⟨hx, hb, hml, hown, hts⟩ hE hS (c_X7_firstFaults l D q cI cZ n T k M d (cx_u (cx_u (cx_u Z 0 Z_0_8) 1 Z_1_8) 3 Z_3_8) F i8 (by first | assumption | omega) (by first | assumption | omega) (by first | assumption | omega) (by first | assumption | omega) (by first | assumption | omega) (by first | assumption | omega) (by first | assumption | omega) (by first | assumption | omega)) (cwV 1 hts gX7_faultsOf_X7_firstFaults rfl rfl rfl (by decide +kernel) ⟨Nat.le_of_ble_eq_true rfl, Nat.le_of_ble_eq_true rfl⟩) 0 7 rfl rfl rfl hl.1 rfl (Nat.le_of_ble_eq_true rfl) ⟨Nat.zero_le _, Nat.zero_le _⟩ dX7_faultsOf_41 (fun u_41 H locs hp_41 hS => ?_)
              obtain ⟨za_41, kn_41, zf_41⟩ := u_41
              have hS : cx_S D vwCl A s (cyW q cI cZ n T k M d (cx_u (cx_u (cx_u Z 0 za_41) 3 (fun _ => kn_41)) 1 zf_41) F) H locs := hS
              obtain ⟨hKN_41, hp_41⟩ := hp_41
              have hKN_41 : cx_KN n T za_41 kn_41 := hKN_41
              refine lv_aload_n hx hb dX7_faultsOf_44 rfl (lv_at hl 0 rfl) ?_
              refine cx_cVi (As := []) (rest := []) ⟨hx, hb, hml, hown, hts⟩ hE hS (c_X7_haveAny l D q cI cZ n T k M d (cx_u (cx_u (cx_u Z 0 za_41) 3 (fun _ => kn_41)) 1 zf_41) F  ) (cwV 0 hts gX7_faultsOf_X7_haveAny rfl rfl rfl (by decide +kernel) ⟨Nat.le_of_ble_eq_true rfl, Nat.le_of_ble_eq_true rfl⟩) 0 7 rfl rfl rfl hl.1 rfl (Nat.le_of_ble_eq_true rfl) ⟨Nat.zero_le _, Nat.zero_le _⟩ dX7_faultsOf_45 (fun r_45 u_45 H locs hp_45 hS => ?_)
              have hp_45 : r_45 = 0 ∨ r_45 = 1 := hp_45
              have J56 : ∀ (v56_s0 : Int32) (H : Heap) (locs : List Loc) (ls : Array Slot), cx_S D vwCl A s (cyW q cI cZ n T k M d (cx_u (cx_u (cx_u Z 0 za_41) 3 (fun _ => kn_41)) 1 zf_41) F) H locs → lv_has ls 4 [(0, .ref (q 0)), (1, .int (nI t)), (2, .int v8_l2), (3, .int (nI i8))] → W p l e ({ frames := 6, cells := 0, slots := 0, locals := 141 } : Room) s m args below meth c H locs 0 0 Q (F0 m 56 ls [.int v56_s0]) := by
                intro v56_s0 H locs ls  hS hl
                refine lv_istore_n (lv' := [(2, .int v56_s0), (0, .ref (q 0)), (1, .int (nI t)), (3, .int (nI i8))]) hx hb dX7_faultsOf_56 rfl hl (by decide) rfl (fun ls hl => ?_)
                exact J57 v56_s0 za_41 zf_41 (fun _ => kn_41) _ _ _ (by first | assumption | exact hKN) hS (lv_sub hl [1, 2, 0, 3] rfl)
              refine lv_if_ne (tgt := 55) hx hb dX7_faultsOf_48 (by decide) (fun h48 => ?_) (fun h48 => ?_)
              · skip
                refine lv_iconst (v := (0 : Int32)) hx hb dX7_faultsOf_55 (by decide) ?_
                exact J56 (0 : Int32) _ _ _  hS (lv_sub hl [0, 1, 2, 3] rfl)
              · skip
                refine lv_iconst (v := (1 : Int32)) hx hb dX7_faultsOf_51 (by decide) ?_
                refine lv_goto (tgt := 56) hx hb dX7_faultsOf_52 (by decide) ?_
                exact J56 (1 : Int32) _ _ _  hS (lv_sub hl [0, 1, 2, 3] rfl)
  exact J8 (n - 0 + 1) (nI 1) 0 za_1 (Z 1) (fun _ => kn_1) _ _ _ (Nat.lt_succ_self _) (by omega) (by first | assumption | exact hKN) hS (lv_sub hl [2, 3, 1, 0] rfl)
set_option maxHeartbeats 4000000 in
set_option maxRecDepth 100000 in
theorem c_X7_count (l : Launch) (D : va_G) (q : Nat → Nat) (cI cZ : ClassId) (n : Nat) (T : Nat → Nat → Int32) (k : Nat) (M : Nat → Nat → Int32) (d : Nat) (Z : Nat → Nat → Int32) (F : Nat → Nat → Int32) : cx_Mi l D vwCl [(cI, .int), (cZ, .boolean)] cx_NW yX7_count wsX7_count ({ frames := 0, cells := 0, slots := 0, locals := 0 } : Room) [.ref (q 0)] (cyW q cI cZ n T k M d Z F) (fun (r : Int32) (uw : Unit) => True) (fun _ => (cyW q cI cZ n T k M d Z F)) := by
  refine cx_Mi.of (cc := cX7_count) (maxL := 3) cx_NW_ok (by decide) rfl (Nat.le_of_ble_eq_true rfl) ?_
  intro p e s m args below meth c Q A ls hx hb hml hown hts hE RET hS hl
  have hl : lv_has ls 3 [(0, .ref (q 0))] := hl
  have hown : s.vm.findClass RX7 = some m.cls := hown
  have hinX7 : ∀ w ∈ u_ws RX7 TX7 22, w ∈ wsX7_count := cx_mem [2, 3, 4, 5, 6, 7, 8, 9, 10, 11, 12, 13, 14, 15, 16, 17, 18, 19, 20, 21, 22, 23] (by decide +kernel)
  refine lv_iconst (v := (0 : Int32)) hx hb dX7_count_0 (by decide) ?_
  refine cx_topr (z := nI 0) (by decide) ?_
  refine lv_istore_n (lv' := [(1, .int (nI 0)), (0, .ref (q 0))]) hx hb dX7_count_1 rfl hl (by decide) rfl (fun ls hl => ?_)
  refine lv_iconst (v := (0 : Int32)) hx hb dX7_count_2 (by decide) ?_
  refine cx_topr (z := nI 0) (by decide) ?_
  refine lv_istore_n (lv' := [(2, .int (nI 0)), (1, .int (nI 0)), (0, .ref (q 0))]) hx hb dX7_count_3 rfl hl (by decide) rfl (fun ls hl => ?_)
  have J4 : ∀ (N : Nat) (v4_l1 : Int32) (i4 : Nat) (H : Heap) (locs : List Loc) (ls : Array Slot), (1600 - i4 < N) → (i4 ≤ 1600) → cx_S D vwCl A s (cyW q cI cZ n T k M d Z F) H locs → lv_has ls 3 [(0, .ref (q 0)), (1, .int v4_l1), (2, .int (nI i4))] → W p l e ({ frames := 0, cells := 0, slots := 0, locals := 0 } : Room) s m args below meth c H locs 0 0 Q (F0 m 4 ls []) := by
    intro N4
    induction N4 with
    | zero => intro v4_l1 i4 H locs ls hN; exact absurd hN (by omega)
    | succ N4 ih4 =>
      intro v4_l1 i4 H locs ls hN4 hi4 hS hl
      refine lv_iload_n hx hb dX7_count_4 rfl (lv_at hl 2 rfl) ?_
      refine lv_sipush (v := nI 1600) hx hb dX7_count_5 (by decide) ?_
      refine lv_icmp_ge (tgt := 34) hx hb dX7_count_8 (by decide) (fun h8 => ?_) (fun h8 => ?_)
      · skip
        have g8 : 1600 ≤ i4 := (nI_leI (a := 1600) (b := i4) (by omega) (by omega)).mp h8
        refine lv_iload_n hx hb dX7_count_34 rfl (lv_at hl 1 rfl) ?_
        exact RET _ () _ _ _ _ dX7_count_35 rfl trivial hS
      · skip
        have g8 : ¬ (1600 ≤ i4) := fun z => h8 ((nI_leI (a := 1600) (b := i4) (by omega) (by omega)).mpr z)
        refine lv_iload_n hx hb dX7_count_11 rfl (lv_at hl 1 rfl) ?_
        refine lv_aload_n hx hb dX7_count_12 rfl (lv_at hl 0 rfl) ?_
        refine cx_get (own := RX7) (index := 56) (C := RX7) (T := TX7) (N := 22) (k := 18) (ci := 7) (v := .ref (q 16)) hx hb hts hown hE hS hinX7 0 rfl rfl (by decide) (List.mem_of_getElem? (i := 1) rfl) rfl dX7_count_13 ?_
        refine lv_iload_n hx hb dX7_count_16 rfl (lv_at hl 2 rfl) ?_
        refine cx_zald (f := (Z 1)) (n := 1600) (cA := cZ) hx hb hE hS 16 1 rfl rfl (by omega) (by decide) dX7_count_17 ?_
        have J26 : ∀ (v26_s0 : Int32) (H : Heap) (locs : List Loc) (ls : Array Slot), cx_S D vwCl A s (cyW q cI cZ n T k M d Z F) H locs → lv_has ls 3 [(0, .ref (q 0)), (1, .int v4_l1), (2, .int (nI i4))] → W p l e ({ frames := 0, cells := 0, slots := 0, locals := 0 } : Room) s m args below meth c H locs 0 0 Q (F0 m 26 ls [.int v26_s0, .int v4_l1]) := by
          intro v26_s0 H locs ls  hS hl
          refine lv_iadd hx hb dX7_count_26 ?_
          refine lv_istore_n (lv' := [(1, .int (v4_l1 + v26_s0)), (0, .ref (q 0)), (2, .int (nI i4))]) hx hb dX7_count_27 rfl hl (by decide) rfl (fun ls hl => ?_)
          refine lv_iinc (v := nI (i4 + 1)) (lv' := [(2, .int (nI (i4 + 1))), (1, .int (v4_l1 + v26_s0)), (0, .ref (q 0))]) hx hb dX7_count_28 hl (k := 2) rfl (cx_inc _) (by decide) rfl (fun ls hl => ?_)
          refine lv_goto (tgt := 4) hx hb dX7_count_31 (by decide) ?_
          exact ih4 (v4_l1 + v26_s0) (i4 + 1) _ _ _ (by omega) (by omega) hS (lv_sub hl [2, 1, 0] rfl)
        refine lv_if_eq (tgt := 25) hx hb dX7_count_18 (by decide) (fun h18 => ?_) (fun h18 => ?_)
        · skip
          refine lv_iconst (v := (0 : Int32)) hx hb dX7_count_25 (by decide) ?_
          exact J26 (0 : Int32) _ _ _  hS (lv_sub hl [0, 1, 2] rfl)
        · skip
          refine lv_iconst (v := (1 : Int32)) hx hb dX7_count_21 (by decide) ?_
          refine lv_goto (tgt := 26) hx hb dX7_count_22 (by decide) ?_
          exact J26 (1 : Int32) _ _ _  hS (lv_sub hl [0, 1, 2] rfl)
  exact J4 (1600 - 0 + 1) (nI 0) 0 _ _ _ (Nat.lt_succ_self _) (by omega) hS (lv_sub hl [2, 1, 0] rfl)
set_option maxHeartbeats 4000000 in
set_option maxRecDepth 100000 in
theorem c_X7_faults (l : Launch) (D : va_G) (q : Nat → Nat) (cI cZ : ClassId) (n : Nat) (T : Nat → Nat → Int32) (k : Nat) (M : Nat → Nat → Int32) (d : Nat) (Z : Nat → Nat → Int32) (F : Nat → Nat → Int32) (xa : Int32) (hn : n ≤ 20) (hP : cx_P (T 3) 20) (hU : cx_R (T 4) 20) (hV : cx_R (T 5) 4) (hKN : cx_KN n T (Z 0) ((Z 3) 0)) (hQ : cx_R (T 6) 20) (hW : cx_R (T 7) 4) (hO : cx_R (M 0) 20) (hk : k ≤ 80) : cx_Mi l D vwCl [(cI, .int), (cZ, .boolean)] cx_NW yX7_faults wsX7_faults ({ frames := 7, cells := 0, slots := 0, locals := 164 } : Room) [.ref (q 0), .int xa] (cyW q cI cZ n T k M d Z F) (fun (r : Int32) (uw : (Nat → Int32) × (Int32) × (Nat) × (Nat → Int32) × (Nat → Int32)) => cx_KN n T uw.1 uw.2.1 ∧ (True)) (fun uw => (cyW q cI cZ n T k M uw.2.2.1 (cx_u (cx_u (cx_u Z 0 uw.1) 3 (fun _ => uw.2.1)) 1 uw.2.2.2.2) (cx_u F 0 uw.2.2.2.1))) := by
  refine cx_Mi.of (cc := cX7_faults) (maxL := 2) cx_NW_ok (by decide) rfl (Nat.le_of_ble_eq_true rfl) ?_
  intro p e s m args below meth c Q A ls hx hb hml hown hts hE RET hS hl
  have hl : lv_has ls 2 [(0, .ref (q 0)), (1, .int xa)] := hl
  have hown : s.vm.findClass RX7 = some m.cls := hown
  refine lv_aload_n hx hb dX7_faults_0 rfl (lv_at hl 0 rfl) ?_
  refine lv_iload_n hx hb dX7_faults_1 rfl (lv_at hl 1 rfl) ?_
  refine cx_cVi (As := [.int xa]) (rest := []) ⟨hx, hb, hml, hown, hts⟩ hE hS (c_X7_isType l D q cI cZ n T k M d Z F xa (by first | assumption | omega)) (cwV 1 hts gX7_faults_X7_isType rfl rfl rfl (by decide +kernel) ⟨Nat.le_of_ble_eq_true rfl, Nat.le_of_ble_eq_true rfl⟩) 0 7 rfl rfl rfl hl.1 rfl (Nat.le_of_ble_eq_true rfl) ⟨Nat.zero_le _, Nat.zero_le _⟩ dX7_faults_2 (fun r_2 u_2 H locs hp_2 hS => ?_)
  have hp_2 : r_2 = cx_b (0 ≤ xa ∧ xa < nI n) := hp_2
  subst hp_2
  refine lv_if_ne (tgt := 10) hx hb dX7_faults_5 (by decide) (fun h5 => ?_) (fun h5 => ?_)
  · skip
    have g5 := cx_b1 h5
    have hq5 := (cx_ixT (by omega) g5).2
    refine lv_aload_n hx hb dX7_faults_10 rfl (lv_at hl 0 rfl) ?_
    refine lv_iload_n hx hb dX7_faults_11 rfl (lv_at hl 1 rfl) ?_
    refine cx_topr (z := nI (xa.toNatClampNeg)) (cx_ixT (by omega) g5).1 ?_
    refine cx_cVv (As := [.int (nI (xa.toNatClampNeg))]) (rest := []) ⟨hx, hb, hml, hown, hts⟩ hE hS (c_X7_faultsOf l D q cI cZ n T k M d Z F xa.toNatClampNeg (by first | assumption | omega) (by first | assumption | omega) (by first | assumption | omega) (by first | assumption | omega) (by first | assumption | omega) (by first | assumption | omega) (by first | assumption | omega) (by first | assumption | omega) (by first | assumption | omega) (by first | assumption | omega)) (cwV 1 hts gX7_faults_X7_faultsOf rfl rfl rfl (by decide +kernel) ⟨Nat.le_of_ble_eq_true rfl, Nat.le_of_ble_eq_true rfl⟩) 0 7 rfl rfl rfl hl.1 rfl (Nat.le_of_ble_eq_true rfl) ⟨Nat.zero_le _, Nat.zero_le _⟩ dX7_faults_12 (fun u_12 H locs hp_12 hS => ?_)
    obtain ⟨za_12, kn_12, d1_12, fo_12, zf_12⟩ := u_12
    have hS : cx_S D vwCl A s (cyW q cI cZ n T k M d1_12 (cx_u (cx_u (cx_u Z 0 za_12) 3 (fun _ => kn_12)) 1 zf_12) (cx_u F 0 fo_12)) H locs := hS
    obtain ⟨hKN_12, hp_12⟩ := hp_12
    have hKN_12 : cx_KN n T za_12 kn_12 := hKN_12
    refine lv_aload_n hx hb dX7_faults_15 rfl (lv_at hl 0 rfl) ?_
    refine cx_cVi (As := []) (rest := []) ⟨hx, hb, hml, hown, hts⟩ hE hS (c_X7_count l D q cI cZ n T k M d1_12 (cx_u (cx_u (cx_u Z 0 za_12) 3 (fun _ => kn_12)) 1 zf_12) (cx_u F 0 fo_12)  ) (cwV 0 hts gX7_faults_X7_count rfl rfl rfl (by decide +kernel) ⟨Nat.le_of_ble_eq_true rfl, Nat.le_of_ble_eq_true rfl⟩) 0 7 rfl rfl rfl hl.1 rfl (Nat.le_of_ble_eq_true rfl) ⟨Nat.zero_le _, Nat.zero_le _⟩ dX7_faults_16 (fun r_16 u_16 H locs hp_16 hS => ?_)
    exact RET _ (za_12, kn_12, d1_12, fo_12, zf_12) _ _ _ _ dX7_faults_19 rfl (⟨(by first | assumption | exact hKN), trivial⟩) hS
  · skip
    have g5 := cx_b0 h5
    refine lv_iconst (v := (-1 : Int32)) hx hb dX7_faults_8 (by decide) ?_
    exact RET _ (Z 0, (Z 3) 0, d, F 0, Z 1) _ _ _ _ dX7_faults_9 rfl (⟨(by first | assumption | exact hKN), trivial⟩) hS
set_option maxHeartbeats 4000000 in
set_option maxRecDepth 100000 in
theorem c_X7_fault (l : Launch) (D : va_G) (q : Nat → Nat) (cI cZ : ClassId) (n : Nat) (T : Nat → Nat → Int32) (k : Nat) (M : Nat → Nat → Int32) (d : Nat) (Z : Nat → Nat → Int32) (F : Nat → Nat → Int32) (xa : Int32) (xb : Int32) (xe : Int32) (hn : n ≤ 20) (hP : cx_P (T 3) 20) (hU : cx_R (T 4) 20) (hV : cx_R (T 5) 4) (hKN : cx_KN n T (Z 0) ((Z 3) 0)) (hQ : cx_R (T 6) 20) (hW : cx_R (T 7) 4) (hO : cx_R (M 0) 20) (hk : k ≤ 80) : cx_Mi l D vwCl [(cI, .int), (cZ, .boolean)] cx_NW yX7_fault wsX7_fault ({ frames := 7, cells := 0, slots := 0, locals := 164 } : Room) [.ref (q 0), .int xa, .int xb, .int xe] (cyW q cI cZ n T k M d Z F) (fun (r : Int32) (uw : (Nat → Int32) × (Int32) × (Nat) × (Nat → Int32) × (Nat → Int32)) => cx_KN n T uw.1 uw.2.1 ∧ (True)) (fun uw => (cyW q cI cZ n T k M uw.2.2.1 (cx_u (cx_u (cx_u Z 0 uw.1) 3 (fun _ => uw.2.1)) 1 uw.2.2.2.2) (cx_u F 0 uw.2.2.2.1))) := by
  refine cx_Mi.of (cc := cX7_fault) (maxL := 6) cx_NW_ok (by decide) rfl (Nat.le_of_ble_eq_true rfl) ?_
  intro p e s m args below meth c Q A ls hx hb hml hown hts hE RET hS hl
  have hl : lv_has ls 6 [(0, .ref (q 0)), (1, .int xa), (2, .int xb), (3, .int xe)] := hl
  have hown : s.vm.findClass RX7 = some m.cls := hown
  have hinX7 : ∀ w ∈ u_ws RX7 TX7 22, w ∈ wsX7_fault := cx_mem [130, 131, 132, 133, 134, 135, 136, 137, 138, 139, 140, 141, 142, 143, 144, 145, 146, 147, 148, 149, 150, 151] (by decide +kernel)
  refine lv_aload_n hx hb dX7_fault_0 rfl (lv_at hl 0 rfl) ?_
  refine lv_iload_n hx hb dX7_fault_1 rfl (lv_at hl 1 rfl) ?_
  refine cx_cVi (As := [.int xa]) (rest := []) ⟨hx, hb, hml, hown, hts⟩ hE hS (c_X7_isType l D q cI cZ n T k M d Z F xa (by first | assumption | omega)) (cwV 1 hts gX7_fault_X7_isType rfl rfl rfl (by decide +kernel) ⟨Nat.le_of_ble_eq_true rfl, Nat.le_of_ble_eq_true rfl⟩) 0 7 rfl rfl rfl hl.1 rfl (Nat.le_of_ble_eq_true rfl) ⟨Nat.zero_le _, Nat.zero_le _⟩ dX7_fault_2 (fun r_2 u_2 H locs hp_2 hS => ?_)
  have hp_2 : r_2 = cx_b (0 ≤ xa ∧ xa < nI n) := hp_2
  subst hp_2
  have J21 : ∀ (H : Heap) (locs : List Loc) (ls : Array Slot), cx_S D vwCl A s (cyW q cI cZ n T k M d Z F) H locs → lv_has ls 6 [(0, .ref (q 0)), (1, .int xa), (2, .int xb), (3, .int xe)] → W p l e ({ frames := 7, cells := 0, slots := 0, locals := 164 } : Room) s m args below meth c H locs 0 0 Q (F0 m 21 ls []) := by
    intro  H locs ls  hS hl
    refine lv_iconst (v := (-1 : Int32)) hx hb dX7_fault_21 (by decide) ?_
    exact RET _ (Z 0, (Z 3) 0, d, F 0, Z 1) _ _ _ _ dX7_fault_22 rfl (⟨(by first | assumption | exact hKN), trivial⟩) hS
  refine lv_if_eq (tgt := 21) hx hb dX7_fault_5 (by decide) (fun h5 => ?_) (fun h5 => ?_)
  · skip
    have g5 := cx_b0 h5
    exact J21  _ _ _  hS (lv_sub hl [0, 1, 2, 3] rfl)
  · skip
    have g5 := cx_b1 h5
    have hq5 := (cx_ixT (by omega) g5).2
    refine lv_iload_n hx hb dX7_fault_8 rfl (lv_at hl 3 rfl) ?_
    refine lv_iconst (v := (0 : Int32)) hx hb dX7_fault_9 (by decide) ?_
    refine lv_iconst (v := (1 : Int32)) hx hb dX7_fault_10 (by decide) ?_
    refine cx_cSi (As := [.int xe, .int (0 : Int32), .int (1 : Int32)]) (rest := []) ⟨hx, hb, hml, hown, hts⟩ hE hS (c_X7_in l D [(cI, .int), (cZ, .boolean)] (cyW q cI cZ n T k M d Z F) xe (0 : Int32) (1 : Int32) ) (va_cwS 3 hts gX7_fault_X7_in rfl rfl rfl (by decide +kernel) ⟨Nat.le_of_ble_eq_true rfl, Nat.le_of_ble_eq_true rfl⟩) rfl hl.1 rfl (Nat.le_of_ble_eq_true rfl) ⟨Nat.zero_le _, Nat.zero_le _⟩ dX7_fault_11 (fun r_11 u_11 H locs hp_11 hS => ?_)
    have hp_11 : r_11 = cx_b ((0 : Int32) ≤ xe ∧ xe ≤ (1 : Int32)) := hp_11
    subst hp_11
    refine lv_if_eq (tgt := 21) hx hb dX7_fault_14 (by decide) (fun h14 => ?_) (fun h14 => ?_)
    · skip
      have g14 := cx_b0 h14
      exact J21  _ _ _  hS (lv_sub hl [0, 1, 2, 3] rfl)
    · skip
      have g14 := cx_b1 h14
      refine lv_iload_n hx hb dX7_fault_17 rfl (lv_at hl 2 rfl) ?_
      refine lv_if_ge (tgt := 23) hx hb dX7_fault_18 (by decide) (fun h18 => ?_) (fun h18 => ?_)
      · skip
        refine lv_aload_n hx hb dX7_fault_23 rfl (lv_at hl 0 rfl) ?_
        refine lv_iload_n hx hb dX7_fault_24 rfl (lv_at hl 1 rfl) ?_
        refine cx_topr (z := nI (xa.toNatClampNeg)) (cx_ixT (by omega) g5).1 ?_
        refine cx_cVv (As := [.int (nI (xa.toNatClampNeg))]) (rest := []) ⟨hx, hb, hml, hown, hts⟩ hE hS (c_X7_faultsOf l D q cI cZ n T k M d Z F xa.toNatClampNeg (by first | assumption | omega) (by first | assumption | omega) (by first | assumption | omega) (by first | assumption | omega) (by first | assumption | omega) (by first | assumption | omega) (by first | assumption | omega) (by first | assumption | omega) (by first | assumption | omega) (by first | assumption | omega)) (cwV 1 hts gX7_fault_X7_faultsOf rfl rfl rfl (by decide +kernel) ⟨Nat.le_of_ble_eq_true rfl, Nat.le_of_ble_eq_true rfl⟩) 0 7 rfl rfl rfl hl.1 rfl (Nat.le_of_ble_eq_true rfl) ⟨Nat.zero_le _, Nat.zero_le _⟩ dX7_fault_25 (fun u_25 H locs hp_25 hS => ?_)
        obtain ⟨za_25, kn_25, d1_25, fo_25, zf_25⟩ := u_25
        have hS : cx_S D vwCl A s (cyW q cI cZ n T k M d1_25 (cx_u (cx_u (cx_u Z 0 za_25) 3 (fun _ => kn_25)) 1 zf_25) (cx_u F 0 fo_25)) H locs := hS
        obtain ⟨hKN_25, hp_25⟩ := hp_25
        have hKN_25 : cx_KN n T za_25 kn_25 := hKN_25
        refine lv_iload_n hx hb dX7_fault_28 rfl (lv_at hl 2 rfl) ?_
        refine lv_istore (lv' := [(4, .int xb), (0, .ref (q 0)), (1, .int xa), (2, .int xb), (3, .int xe)]) hx hb dX7_fault_29 hl (by decide) rfl (fun ls hl => ?_)
        refine lv_iconst (v := (0 : Int32)) hx hb dX7_fault_31 (by decide) ?_
        refine cx_topr (z := nI 0) (by decide) ?_
        refine lv_istore (lv' := [(5, .int (nI 0)), (4, .int xb), (0, .ref (q 0)), (1, .int xa), (2, .int xb), (3, .int xe)]) hx hb dX7_fault_32 hl (by decide) rfl (fun ls hl => ?_)
        have J34 : ∀ (N : Nat) (v34_l4 : Int32) (i34 : Nat) (H : Heap) (locs : List Loc) (ls : Array Slot), (1600 - i34 < N) → (i34 ≤ 1600) → cx_S D vwCl A s (cyW q cI cZ n T k M d1_25 (cx_u (cx_u (cx_u Z 0 za_25) 3 (fun _ => kn_25)) 1 zf_25) (cx_u F 0 fo_25)) H locs → lv_has ls 6 [(0, .ref (q 0)), (1, .int xa), (2, .int xb), (3, .int xe), (4, .int v34_l4), (5, .int (nI i34))] → W p l e ({ frames := 7, cells := 0, slots := 0, locals := 164 } : Room) s m args below meth c H locs 0 0 Q (F0 m 34 ls []) := by
          intro N34
          induction N34 with
          | zero => intro v34_l4 i34 H locs ls hN; exact absurd hN (by omega)
          | succ N34 ih34 =>
            intro v34_l4 i34 H locs ls hN34 hi34 hS hl
            refine lv_iload hx hb dX7_fault_34 (lv_at hl 5 rfl) ?_
            refine lv_sipush (v := nI 1600) hx hb dX7_fault_36 (by decide) ?_
            refine lv_icmp_ge (tgt := 101) hx hb dX7_fault_39 (by decide) (fun h39 => ?_) (fun h39 => ?_)
            · skip
              have g39 : 1600 ≤ i34 := (nI_leI (a := 1600) (b := i34) (by omega) (by omega)).mp h39
              refine lv_iconst (v := (-1 : Int32)) hx hb dX7_fault_101 (by decide) ?_
              exact RET _ (za_25, kn_25, d1_25, fo_25, zf_25) _ _ _ _ dX7_fault_102 rfl (⟨(by first | assumption | exact hKN), trivial⟩) hS
            · skip
              have g39 : ¬ (1600 ≤ i34) := fun z => h39 ((nI_leI (a := 1600) (b := i34) (by omega) (by omega)).mpr z)
              refine lv_aload_n hx hb dX7_fault_42 rfl (lv_at hl 0 rfl) ?_
              refine cx_get (own := RX7) (index := 56) (C := RX7) (T := TX7) (N := 22) (k := 18) (ci := 7) (v := .ref (q 16)) hx hb hts hown hE hS hinX7 0 rfl rfl (by decide) (List.mem_of_getElem? (i := 1) rfl) rfl dX7_fault_43 ?_
              refine lv_iload hx hb dX7_fault_46 (lv_at hl 5 rfl) ?_
              refine cx_zald (f := zf_25) (n := 1600) (cA := cZ) hx hb hE hS 16 1 rfl rfl (by omega) (by decide) dX7_fault_48 ?_
              have J75 : ∀ (H : Heap) (locs : List Loc) (ls : Array Slot), cx_S D vwCl A s (cyW q cI cZ n T k M d1_25 (cx_u (cx_u (cx_u Z 0 za_25) 3 (fun _ => kn_25)) 1 zf_25) (cx_u F 0 fo_25)) H locs → lv_has ls 6 [(0, .ref (q 0)), (1, .int xa), (2, .int xb), (3, .int xe), (4, .int v34_l4), (5, .int (nI i34))] → W p l e ({ frames := 7, cells := 0, slots := 0, locals := 164 } : Room) s m args below meth c H locs 0 0 Q (F0 m 75 ls []) := by
                intro  H locs ls  hS hl
                refine lv_iload hx hb dX7_fault_75 (lv_at hl 4 rfl) ?_
                refine lv_aload_n hx hb dX7_fault_77 rfl (lv_at hl 0 rfl) ?_
                refine cx_get (own := RX7) (index := 56) (C := RX7) (T := TX7) (N := 22) (k := 18) (ci := 7) (v := .ref (q 16)) hx hb hts hown hE hS hinX7 0 rfl rfl (by decide) (List.mem_of_getElem? (i := 1) rfl) rfl dX7_fault_78 ?_
                refine lv_iload hx hb dX7_fault_81 (lv_at hl 5 rfl) ?_
                refine cx_zald (f := zf_25) (n := 1600) (cA := cZ) hx hb hE hS 16 1 rfl rfl (by omega) (by decide) dX7_fault_83 ?_
                have J92 : ∀ (v92_s0 : Int32) (H : Heap) (locs : List Loc) (ls : Array Slot), cx_S D vwCl A s (cyW q cI cZ n T k M d1_25 (cx_u (cx_u (cx_u Z 0 za_25) 3 (fun _ => kn_25)) 1 zf_25) (cx_u F 0 fo_25)) H locs → lv_has ls 6 [(0, .ref (q 0)), (1, .int xa), (2, .int xb), (3, .int xe), (4, .int v34_l4), (5, .int (nI i34))] → W p l e ({ frames := 7, cells := 0, slots := 0, locals := 164 } : Room) s m args below meth c H locs 0 0 Q (F0 m 92 ls [.int v92_s0, .int v34_l4]) := by
                  intro v92_s0 H locs ls  hS hl
                  refine lv_isub hx hb dX7_fault_92 ?_
                  refine lv_istore (lv' := [(4, .int (v34_l4 - v92_s0)), (0, .ref (q 0)), (1, .int xa), (2, .int xb), (3, .int xe), (5, .int (nI i34))]) hx hb dX7_fault_93 hl (by decide) rfl (fun ls hl => ?_)
                  refine lv_iinc (v := nI (i34 + 1)) (lv' := [(5, .int (nI (i34 + 1))), (4, .int (v34_l4 - v92_s0)), (0, .ref (q 0)), (1, .int xa), (2, .int xb), (3, .int xe)]) hx hb dX7_fault_95 hl (k := 5) rfl (cx_inc _) (by decide) rfl (fun ls hl => ?_)
                  refine lv_goto (tgt := 34) hx hb dX7_fault_98 (by decide) ?_
                  exact ih34 (v34_l4 - v92_s0) (i34 + 1) _ _ _ (by omega) (by omega) hS (lv_sub hl [2, 3, 4, 5, 1, 0] rfl)
                refine lv_if_eq (tgt := 91) hx hb dX7_fault_84 (by decide) (fun h84 => ?_) (fun h84 => ?_)
                · skip
                  refine lv_iconst (v := (0 : Int32)) hx hb dX7_fault_91 (by decide) ?_
                  exact J92 (0 : Int32) _ _ _  hS (lv_sub hl [0, 1, 2, 3, 4, 5] rfl)
                · skip
                  refine lv_iconst (v := (1 : Int32)) hx hb dX7_fault_87 (by decide) ?_
                  refine lv_goto (tgt := 92) hx hb dX7_fault_88 (by decide) ?_
                  exact J92 (1 : Int32) _ _ _  hS (lv_sub hl [0, 1, 2, 3, 4, 5] rfl)
              refine lv_if_eq (tgt := 75) hx hb dX7_fault_49 (by decide) (fun h49 => ?_) (fun h49 => ?_)
              · skip
                exact J75  _ _ _  hS (lv_sub hl [0, 1, 2, 3, 4, 5] rfl)
              · skip
                refine lv_iload hx hb dX7_fault_52 (lv_at hl 4 rfl) ?_
                refine lv_if_ne (tgt := 75) hx hb dX7_fault_54 (by decide) (fun h54 => ?_) (fun h54 => ?_)
                · skip
                  exact J75  _ _ _  hS (lv_sub hl [0, 1, 2, 3, 4, 5] rfl)
                · skip
                  refine lv_iload_n hx hb dX7_fault_57 rfl (lv_at hl 3 rfl) ?_
                  have J74 : ∀ (v74_s0 : Int32) (H : Heap) (locs : List Loc) (ls : Array Slot), cx_S D vwCl A s (cyW q cI cZ n T k M d1_25 (cx_u (cx_u (cx_u Z 0 za_25) 3 (fun _ => kn_25)) 1 zf_25) (cx_u F 0 fo_25)) H locs → lv_has ls 6 [(0, .ref (q 0)), (1, .int xa), (2, .int xb), (3, .int xe), (4, .int v34_l4), (5, .int (nI i34))] → W p l e ({ frames := 7, cells := 0, slots := 0, locals := 164 } : Room) s m args below meth c H locs 0 0 Q (F0 m 74 ls [.int v74_s0]) := by
                    intro v74_s0 H locs ls  hS hl
                    exact RET _ (za_25, kn_25, d1_25, fo_25, zf_25) _ _ _ _ dX7_fault_74 rfl (⟨(by first | assumption | exact hKN), trivial⟩) hS
                  refine lv_if_ne (tgt := 69) hx hb dX7_fault_58 (by decide) (fun h58 => ?_) (fun h58 => ?_)
                  · skip
                    refine lv_iload hx hb dX7_fault_69 (lv_at hl 5 rfl) ?_
                    refine lv_bipush (v := nI 80) hx hb dX7_fault_71 (by decide) ?_
                    refine lv_irem hx hb dX7_fault_73 (by decide) ?_
                    exact J74 ((nI i34) - (nI i34) / (nI 80) * (nI 80)) _ _ _  hS (lv_sub hl [0, 1, 2, 3, 4, 5] rfl)
                  · skip
                    refine lv_iload hx hb dX7_fault_61 (lv_at hl 5 rfl) ?_
                    refine lv_bipush (v := nI 80) hx hb dX7_fault_63 (by decide) ?_
                    refine lv_idiv hx hb dX7_fault_65 (by decide) ?_
                    refine cx_topr (z := nI (i34 / 80)) (pk_div (by omega) (by decide) (by decide)) ?_
                    refine lv_goto (tgt := 74) hx hb dX7_fault_66 (by decide) ?_
                    exact J74 (nI (i34 / 80)) _ _ _  hS (lv_sub hl [0, 1, 2, 3, 4, 5] rfl)
        exact J34 (1600 - 0 + 1) xb 0 _ _ _ (Nat.lt_succ_self _) (by omega) hS (lv_sub hl [2, 3, 4, 5, 1, 0] rfl)
      · skip
        exact J21  _ _ _  hS (lv_sub hl [0, 1, 2, 3] rfl)
set_option maxHeartbeats 4000000 in
set_option maxRecDepth 100000 in
theorem c_X7_all (l : Launch) (D : va_G) (q : Nat → Nat) (cI cZ : ClassId) (n : Nat) (T : Nat → Nat → Int32) (k : Nat) (M : Nat → Nat → Int32) (d : Nat) (Z : Nat → Nat → Int32) (F : Nat → Nat → Int32) (hn : n ≤ 20) (hP : cx_P (T 3) 20) (hU : cx_R (T 4) 20) (hV : cx_R (T 5) 4) (hKN : cx_KN n T (Z 0) ((Z 3) 0)) (hQ : cx_R (T 6) 20) (hW : cx_R (T 7) 4) (hO : cx_R (M 0) 20) (hk : k ≤ 80) : cx_Mi l D vwCl [(cI, .int), (cZ, .boolean)] cx_NW yX7_all wsX7_all ({ frames := 8, cells := 0, slots := 0, locals := 185 } : Room) [.ref (q 0)] (cyW q cI cZ n T k M d Z F) (fun (r : Int32) (uw : (Nat → Int32) × (Int32) × (Nat) × (Nat → Int32) × (Nat → Int32)) => cx_KN n T uw.1 uw.2.1 ∧ (True)) (fun uw => (cyW q cI cZ n T k M uw.2.2.1 (cx_u (cx_u (cx_u Z 0 uw.1) 3 (fun _ => uw.2.1)) 1 uw.2.2.2.2) (cx_u F 0 uw.2.2.2.1))) := by
  refine cx_Mi.of (cc := cX7_all) (maxL := 3) cx_NW_ok (by decide) rfl (Nat.le_of_ble_eq_true rfl) ?_
  intro p e s m args below meth c Q A ls hx hb hml hown hts hE RET hS hl
  have hl : lv_has ls 3 [(0, .ref (q 0))] := hl
  have hown : s.vm.findClass RX7 = some m.cls := hown
  have hinX7 : ∀ w ∈ u_ws RX7 TX7 22, w ∈ wsX7_all := cx_mem [138, 139, 140, 141, 142, 143, 144, 145, 146, 147, 148, 149, 150, 151, 152, 153, 154, 155, 156, 157, 158, 159] (by decide +kernel)
  refine lv_iconst (v := (0 : Int32)) hx hb dX7_all_0 (by decide) ?_
  refine cx_topr (z := nI 0) (by decide) ?_
  refine lv_istore_n (lv' := [(1, .int (nI 0)), (0, .ref (q 0))]) hx hb dX7_all_1 rfl hl (by decide) rfl (fun ls hl => ?_)
  refine lv_iconst (v := (0 : Int32)) hx hb dX7_all_2 (by decide) ?_
  refine cx_topr (z := nI 0) (by decide) ?_
  refine lv_istore_n (lv' := [(2, .int (nI 0)), (1, .int (nI 0)), (0, .ref (q 0))]) hx hb dX7_all_3 rfl hl (by decide) rfl (fun ls hl => ?_)
  have J4 : ∀ (N : Nat) (v4_l1 : Int32) (i4 : Nat) (d_4 : Nat) (Z_0_4 : Nat → Int32) (Z_1_4 : Nat → Int32) (Z_3_4 : Nat → Int32) (F_0_4 : Nat → Int32) (H : Heap) (locs : List Loc) (ls : Array Slot), (n - i4 < N) → (i4 ≤ n) → (cx_KN n T Z_0_4 (Z_3_4 0)) → cx_S D vwCl A s (cyW q cI cZ n T k M d_4 (cx_u (cx_u (cx_u Z 0 Z_0_4) 1 Z_1_4) 3 Z_3_4) (cx_u F 0 F_0_4)) H locs → lv_has ls 3 [(0, .ref (q 0)), (1, .int v4_l1), (2, .int (nI i4))] → W p l e ({ frames := 8, cells := 0, slots := 0, locals := 185 } : Room) s m args below meth c H locs 0 0 Q (F0 m 4 ls []) := by
    intro N4
    induction N4 with
    | zero => intro v4_l1 i4 d_4 Z_0_4 Z_1_4 Z_3_4 F_0_4 H locs ls hN; exact absurd hN (by omega)
    | succ N4 ih4 =>
      intro v4_l1 i4 d_4 Z_0_4 Z_1_4 Z_3_4 F_0_4 H locs ls hN4 hi4 hKN4 hS hl
      refine lv_iload_n hx hb dX7_all_4 rfl (lv_at hl 2 rfl) ?_
      refine lv_aload_n hx hb dX7_all_5 rfl (lv_at hl 0 rfl) ?_
      refine cx_get (own := RX7) (index := 65) (C := RX7) (T := TX7) (N := 22) (k := 0) (ci := 7) (v := .int (nI n)) hx hb hts hown hE hS hinX7 0 rfl rfl (by decide) (List.mem_of_getElem? (i := 1) rfl) rfl dX7_all_6 ?_
      refine lv_icmp_ge (tgt := 26) hx hb dX7_all_9 (by decide) (fun h9 => ?_) (fun h9 => ?_)
      · skip
        have g9 : n ≤ i4 := (nI_leI (a := n) (b := i4) (by omega) (by omega)).mp h9
        refine lv_iload_n hx hb dX7_all_26 rfl (lv_at hl 1 rfl) ?_
        exact RET _ (Z_0_4, Z_3_4 0, d_4, F_0_4, Z_1_4) _ _ _ _ dX7_all_27 rfl (⟨(by first | assumption | exact hKN), trivial⟩) hS
      · skip
        have g9 : ¬ (n ≤ i4) := fun z => h9 ((nI_leI (a := n) (b := i4) (by omega) (by omega)).mpr z)
        refine lv_iload_n hx hb dX7_all_12 rfl (lv_at hl 1 rfl) ?_
        refine lv_aload_n hx hb dX7_all_13 rfl (lv_at hl 0 rfl) ?_
        refine lv_iload_n hx hb dX7_all_14 rfl (lv_at hl 2 rfl) ?_
        refine cx_cVi (As := [.int (nI i4)]) (rest := [.int v4_l1]) ⟨hx, hb, hml, hown, hts⟩ hE hS (c_X7_faults l D q cI cZ n T k M d_4 (cx_u (cx_u (cx_u Z 0 Z_0_4) 1 Z_1_4) 3 Z_3_4) (cx_u F 0 F_0_4) (nI i4) (by first | assumption | omega) (by first | assumption | omega) (by first | assumption | omega) (by first | assumption | omega) (by first | assumption | omega) (by first | assumption | omega) (by first | assumption | omega) (by first | assumption | omega) (by first | assumption | omega)) (cwV 1 hts gX7_all_X7_faults rfl rfl rfl (by decide +kernel) ⟨Nat.le_of_ble_eq_true rfl, Nat.le_of_ble_eq_true rfl⟩) 0 7 rfl rfl rfl hl.1 rfl (Nat.le_of_ble_eq_true rfl) ⟨Nat.zero_le _, Nat.zero_le _⟩ dX7_all_15 (fun r_15 u_15 H locs hp_15 hS => ?_)
        obtain ⟨za_15, kn_15, d1_15, fo_15, zf_15⟩ := u_15
        have hS : cx_S D vwCl A s (cyW q cI cZ n T k M d1_15 (cx_u (cx_u (cx_u Z 0 za_15) 3 (fun _ => kn_15)) 1 zf_15) (cx_u F 0 fo_15)) H locs := hS
        obtain ⟨hKN_15, hp_15⟩ := hp_15
        have hKN_15 : cx_KN n T za_15 kn_15 := hKN_15
        refine lv_iadd hx hb dX7_all_18 ?_
        refine lv_istore_n (lv' := [(1, .int (v4_l1 + r_15)), (0, .ref (q 0)), (2, .int (nI i4))]) hx hb dX7_all_19 rfl hl (by decide) rfl (fun ls hl => ?_)
        refine lv_iinc (v := nI (i4 + 1)) (lv' := [(2, .int (nI (i4 + 1))), (1, .int (v4_l1 + r_15)), (0, .ref (q 0))]) hx hb dX7_all_20 hl (k := 2) rfl (cx_inc _) (by decide) rfl (fun ls hl => ?_)
        refine lv_goto (tgt := 4) hx hb dX7_all_23 (by decide) ?_
        exact ih4 (v4_l1 + r_15) (i4 + 1) d1_15 za_15 zf_15 (fun _ => kn_15) fo_15 _ _ _ (by omega) (by omega) (by first | assumption | exact hKN) hS (lv_sub hl [2, 1, 0] rfl)
  exact J4 (n - 0 + 1) (nI 0) 0 d (Z 0) (Z 1) (Z 3) (F 0) _ _ _ (Nat.lt_succ_self _) (by omega) (by first | assumption | exact hKN) hS (lv_sub hl [2, 1, 0] rfl)
set_option maxHeartbeats 4000000 in
set_option maxRecDepth 100000 in
theorem c_X7_is_ (l : Launch) (D : va_G) (q : Nat → Nat) (cI cZ : ClassId) (n : Nat) (T : Nat → Nat → Int32) (k : Nat) (M : Nat → Nat → Int32) (d : Nat) (Z : Nat → Nat → Int32) (F : Nat → Nat → Int32) (xa : Int32) (xb : Int32) (hn : n ≤ 20) (hP : cx_P (T 3) 20) (hU : cx_R (T 4) 20) (hV : cx_R (T 5) 4) (hKN : cx_KN n T (Z 0) ((Z 3) 0)) (hQ : cx_R (T 6) 20) (hW : cx_R (T 7) 4) (hO : cx_R (M 0) 20) (hk : k ≤ 80) : cx_Mi l D vwCl [(cI, .int), (cZ, .boolean)] cx_NW yX7_is_ wsX7_is_ ({ frames := 4, cells := 0, slots := 0, locals := 88 } : Room) [.ref (q 0), .int xa, .int xb] (cyW q cI cZ n T k M d Z F) (fun (r : Int32) (uw : (Nat → Int32) × (Int32)) => cx_KN n T uw.1 uw.2 ∧ ((¬ ((0 ≤ xa ∧ xa < nI n) ∧ (0 ≤ xb ∧ xb < nI n)) ∧ r = (-1 : Int32)) ∨ (((0 ≤ xa ∧ xa < nI n) ∧ (0 ≤ xb ∧ xb < nI n)) ∧ (r = 0 ∨ r = 1) ∧ (¬ r = 0 ↔ ((xa.toNatClampNeg) = (xb.toNatClampNeg) ∨ cx_w3 n (cx_Er T n) n (xa.toNatClampNeg) (xb.toNatClampNeg)))))) (fun uw => (cyW q cI cZ n T k M d (cx_u (cx_u Z 0 uw.1) 3 (fun _ => uw.2)) F)) := by
  refine cx_Mi.of (cc := cX7_is_) (maxL := 3) cx_NW_ok (by decide) rfl (Nat.le_of_ble_eq_true rfl) ?_
  intro p e s m args below meth c Q A ls hx hb hml hown hts hE RET hS hl
  have hl : lv_has ls 3 [(0, .ref (q 0)), (1, .int xa), (2, .int xb)] := hl
  have hown : s.vm.findClass RX7 = some m.cls := hown
  refine lv_aload_n hx hb dX7_is__0 rfl (lv_at hl 0 rfl) ?_
  refine lv_iload_n hx hb dX7_is__1 rfl (lv_at hl 1 rfl) ?_
  refine cx_cVi (As := [.int xa]) (rest := []) ⟨hx, hb, hml, hown, hts⟩ hE hS (c_X7_isType l D q cI cZ n T k M d Z F xa (by first | assumption | omega)) (cwV 1 hts gX7_is__X7_isType rfl rfl rfl (by decide +kernel) ⟨Nat.le_of_ble_eq_true rfl, Nat.le_of_ble_eq_true rfl⟩) 0 7 rfl rfl rfl hl.1 rfl (Nat.le_of_ble_eq_true rfl) ⟨Nat.zero_le _, Nat.zero_le _⟩ dX7_is__2 (fun r_2 u_2 H locs hp_2 hS => ?_)
  have hp_2 : r_2 = cx_b (0 ≤ xa ∧ xa < nI n) := hp_2
  subst hp_2
  have J34 : ∀ (v34_s0 : Int32) (Z_0_34 : Nat → Int32) (Z_3_34 : Nat → Int32) (H : Heap) (locs : List Loc) (ls : Array Slot), (cx_KN n T Z_0_34 (Z_3_34 0)) → ((¬ ((0 ≤ xa ∧ xa < nI n) ∧ (0 ≤ xb ∧ xb < nI n)) ∧ v34_s0 = (-1 : Int32)) ∨ (((0 ≤ xa ∧ xa < nI n) ∧ (0 ≤ xb ∧ xb < nI n)) ∧ (v34_s0 = 0 ∨ v34_s0 = 1) ∧ (¬ v34_s0 = 0 ↔ ((xa.toNatClampNeg) = (xb.toNatClampNeg) ∨ cx_w3 n (cx_Er T n) n (xa.toNatClampNeg) (xb.toNatClampNeg))))) → cx_S D vwCl A s (cyW q cI cZ n T k M d (cx_u (cx_u Z 0 Z_0_34) 3 Z_3_34) F) H locs → lv_has ls 3 [(0, .ref (q 0)), (1, .int xa), (2, .int xb)] → W p l e ({ frames := 4, cells := 0, slots := 0, locals := 88 } : Room) s m args below meth c H locs 0 0 Q (F0 m 34 ls [.int v34_s0]) := by
    intro v34_s0 Z_0_34 Z_3_34 H locs ls hKN34 h34 hS hl
    exact RET _ (Z_0_34, Z_3_34 0) _ _ _ _ dX7_is__34 rfl (⟨(by first | assumption | exact hKN), h34⟩) hS
  have J33 : ∀ (H : Heap) (locs : List Loc) (ls : Array Slot), (¬ ((0 ≤ xa ∧ xa < nI n) ∧ (0 ≤ xb ∧ xb < nI n))) → cx_S D vwCl A s (cyW q cI cZ n T k M d Z F) H locs → lv_has ls 3 [(0, .ref (q 0)), (1, .int xa), (2, .int xb)] → W p l e ({ frames := 4, cells := 0, slots := 0, locals := 88 } : Room) s m args below meth c H locs 0 0 Q (F0 m 33 ls []) := by
    intro  H locs ls hb33 hS hl
    refine lv_iconst (v := (-1 : Int32)) hx hb dX7_is__33 (by decide) ?_
    exact J34 (-1 : Int32) (Z 0) (Z 3) _ _ _ (by first | assumption | exact hKN) (by first | exact Or.inl ⟨hb33, rfl⟩ | exact Or.inr ⟨⟨g5, g13⟩, Or.inr rfl, ⟨fun _ => (hp_19.2 (cx_ixT (by omega) g5).2 (cx_ixT (by omega) g13).2).mp h22, fun _ => by decide⟩⟩ | exact Or.inr ⟨⟨g5, g13⟩, Or.inl rfl, ⟨fun z => absurd rfl z, fun z => absurd h22 ((hp_19.2 (cx_ixT (by omega) g5).2 (cx_ixT (by omega) g13).2).mpr z)⟩⟩) hS (lv_sub hl [0, 1, 2] rfl)
  refine lv_if_eq (tgt := 33) hx hb dX7_is__5 (by decide) (fun h5 => ?_) (fun h5 => ?_)
  · skip
    have g5 := cx_b0 h5
    exact J33  _ _ _ (by first | exact fun z => g5 z.1 | exact fun z => g13 z.2) hS (lv_sub hl [0, 1, 2] rfl)
  · skip
    have g5 := cx_b1 h5
    refine lv_aload_n hx hb dX7_is__8 rfl (lv_at hl 0 rfl) ?_
    refine lv_iload_n hx hb dX7_is__9 rfl (lv_at hl 2 rfl) ?_
    refine cx_cVi (As := [.int xb]) (rest := []) ⟨hx, hb, hml, hown, hts⟩ hE hS (c_X7_isType l D q cI cZ n T k M d Z F xb (by first | assumption | omega)) (cwV 1 hts gX7_is__X7_isType rfl rfl rfl (by decide +kernel) ⟨Nat.le_of_ble_eq_true rfl, Nat.le_of_ble_eq_true rfl⟩) 0 7 rfl rfl rfl hl.1 rfl (Nat.le_of_ble_eq_true rfl) ⟨Nat.zero_le _, Nat.zero_le _⟩ dX7_is__10 (fun r_10 u_10 H locs hp_10 hS => ?_)
    have hp_10 : r_10 = cx_b (0 ≤ xb ∧ xb < nI n) := hp_10
    subst hp_10
    refine lv_if_eq (tgt := 33) hx hb dX7_is__13 (by decide) (fun h13 => ?_) (fun h13 => ?_)
    · skip
      have g13 := cx_b0 h13
      exact J33  _ _ _ (by first | exact fun z => g5 z.1 | exact fun z => g13 z.2) hS (lv_sub hl [0, 1, 2] rfl)
    · skip
      have g13 := cx_b1 h13
      refine lv_aload_n hx hb dX7_is__16 rfl (lv_at hl 0 rfl) ?_
      refine lv_iload_n hx hb dX7_is__17 rfl (lv_at hl 1 rfl) ?_
      refine cx_topr (z := nI (xa.toNatClampNeg)) (cx_ixT (by omega) g5).1 ?_
      refine lv_iload_n hx hb dX7_is__18 rfl (lv_at hl 2 rfl) ?_
      refine cx_topr (z := nI (xb.toNatClampNeg)) (cx_ixT (by omega) g13).1 ?_
      refine cx_cVi (As := [.int (nI (xa.toNatClampNeg)), .int (nI (xb.toNatClampNeg))]) (rest := []) ⟨hx, hb, hml, hown, hts⟩ hE hS (c_X7_isOf l D q cI cZ n T k M d Z F xa.toNatClampNeg xb.toNatClampNeg (by first | assumption | omega) (by first | assumption | omega) (by first | assumption | omega) (by first | assumption | omega) (by first | assumption | omega) (by have := (cx_ixT (by omega) g5).2; omega) (by have := (cx_ixT (by omega) g13).2; omega)) (cwV 2 hts gX7_is__X7_isOf rfl rfl rfl (by decide +kernel) ⟨Nat.le_of_ble_eq_true rfl, Nat.le_of_ble_eq_true rfl⟩) 0 7 rfl rfl rfl hl.1 rfl (Nat.le_of_ble_eq_true rfl) ⟨Nat.zero_le _, Nat.zero_le _⟩ dX7_is__19 (fun r_19 u_19 H locs hp_19 hS => ?_)
      obtain ⟨za_19, kn_19⟩ := u_19
      have hS : cx_S D vwCl A s (cyW q cI cZ n T k M d (cx_u (cx_u Z 0 za_19) 3 (fun _ => kn_19)) F) H locs := hS
      obtain ⟨hKN_19, hp_19⟩ := hp_19
      have hKN_19 : cx_KN n T za_19 kn_19 := hKN_19
      have hp_19 : (r_19 = 0 ∨ r_19 = 1) ∧ (xa.toNatClampNeg < n → xb.toNatClampNeg < n → (¬ r_19 = 0 ↔ (xa.toNatClampNeg = xb.toNatClampNeg ∨ cx_w3 n (cx_Er T n) n xa.toNatClampNeg xb.toNatClampNeg))) := hp_19
      refine lv_if_eq (tgt := 29) hx hb dX7_is__22 (by decide) (fun h22 => ?_) (fun h22 => ?_)
      · skip
        refine lv_iconst (v := (0 : Int32)) hx hb dX7_is__29 (by decide) ?_
        refine lv_goto (tgt := 34) hx hb dX7_is__30 (by decide) ?_
        exact J34 (0 : Int32) za_19 (fun _ => kn_19) _ _ _ (by first | assumption | exact hKN) (by first | exact Or.inl ⟨hb33, rfl⟩ | exact Or.inr ⟨⟨g5, g13⟩, Or.inr rfl, ⟨fun _ => (hp_19.2 (cx_ixT (by omega) g5).2 (cx_ixT (by omega) g13).2).mp h22, fun _ => by decide⟩⟩ | exact Or.inr ⟨⟨g5, g13⟩, Or.inl rfl, ⟨fun z => absurd rfl z, fun z => absurd h22 ((hp_19.2 (cx_ixT (by omega) g5).2 (cx_ixT (by omega) g13).2).mpr z)⟩⟩) hS (lv_sub hl [0, 1, 2] rfl)
      · skip
        refine lv_iconst (v := (1 : Int32)) hx hb dX7_is__25 (by decide) ?_
        refine lv_goto (tgt := 34) hx hb dX7_is__26 (by decide) ?_
        exact J34 (1 : Int32) za_19 (fun _ => kn_19) _ _ _ (by first | assumption | exact hKN) (by first | exact Or.inl ⟨hb33, rfl⟩ | exact Or.inr ⟨⟨g5, g13⟩, Or.inr rfl, ⟨fun _ => (hp_19.2 (cx_ixT (by omega) g5).2 (cx_ixT (by omega) g13).2).mp h22, fun _ => by decide⟩⟩ | exact Or.inr ⟨⟨g5, g13⟩, Or.inl rfl, ⟨fun z => absurd rfl z, fun z => absurd h22 ((hp_19.2 (cx_ixT (by omega) g5).2 (cx_ixT (by omega) g13).2).mpr z)⟩⟩) hS (lv_sub hl [0, 1, 2] rfl)
set_option maxHeartbeats 4000000 in
set_option maxRecDepth 100000 in
theorem c_X7_isWrongType (l : Launch) (D : va_G) (q : Nat → Nat) (cI cZ : ClassId) (n : Nat) (T : Nat → Nat → Int32) (k : Nat) (M : Nat → Nat → Int32) (d : Nat) (Z : Nat → Nat → Int32) (F : Nat → Nat → Int32) (t : Nat) (hn : n ≤ 20) (hP : cx_P (T 3) 20) (hU : cx_R (T 4) 20) (hV : cx_R (T 5) 4) (hKN : cx_KN n T (Z 0) ((Z 3) 0)) (hQ : cx_R (T 6) 20) (hW : cx_R (T 7) 4) (hO : cx_R (M 0) 20) (hk : k ≤ 80) (ht : t < 20) : cx_Mi l D vwCl [(cI, .int), (cZ, .boolean)] cx_NW yX7_isWrongType wsX7_isWrongType ({ frames := 7, cells := 0, slots := 0, locals := 164 } : Room) [.ref (q 0), .int (nI t)] (cyW q cI cZ n T k M d Z F) (fun (r : Int32) (uw : (Nat → Int32) × (Int32) × (Nat) × (Nat → Int32) × (Nat → Int32)) => cx_KN n T uw.1 uw.2.1 ∧ (r = 0 ∨ r = 1)) (fun uw => (cyW q cI cZ n T k M uw.2.2.1 (cx_u (cx_u (cx_u Z 0 uw.1) 3 (fun _ => uw.2.1)) 1 uw.2.2.2.2) (cx_u F 0 uw.2.2.2.1))) := by
  refine cx_Mi.of (cc := cX7_isWrongType) (maxL := 4) cx_NW_ok (by decide) rfl (Nat.le_of_ble_eq_true rfl) ?_
  intro p e s m args below meth c Q A ls hx hb hml hown hts hE RET hS hl
  have hl : lv_has ls 4 [(0, .ref (q 0)), (1, .int (nI t))] := hl
  have hown : s.vm.findClass RX7 = some m.cls := hown
  have hinX7 : ∀ w ∈ u_ws RX7 TX7 22, w ∈ wsX7_isWrongType := cx_mem [130, 131, 132, 133, 134, 135, 136, 137, 138, 139, 140, 141, 142, 143, 144, 145, 146, 147, 148, 149, 150, 151] (by decide +kernel)
  refine lv_aload_n hx hb dX7_isWrongType_0 rfl (lv_at hl 0 rfl) ?_
  refine cx_get (own := RX7) (index := 7) (C := RX7) (T := TX7) (N := 22) (k := 1) (ci := 7) (v := .ref (q 1)) hx hb hts hown hE hS hinX7 0 rfl rfl (by decide) (List.mem_of_getElem? (i := 1) rfl) rfl dX7_isWrongType_1 ?_
  refine lv_iload_n hx hb dX7_isWrongType_4 rfl (lv_at hl 1 rfl) ?_
  refine cx_iald (f := (T 0)) (n := 20) (cA := cI) hx hb hE hS 1 0 rfl rfl (by omega) (by decide) dX7_isWrongType_5 ?_
  refine lv_iconst (v := (1 : Int32)) hx hb dX7_isWrongType_6 (by decide) ?_
  have J24 : ∀ (v24_s0 : Int32) (H : Heap) (locs : List Loc) (ls : Array Slot), (v24_s0 = 0 ∨ v24_s0 = 1) → cx_S D vwCl A s (cyW q cI cZ n T k M d Z F) H locs → lv_has ls 4 [(0, .ref (q 0)), (1, .int (nI t))] → W p l e ({ frames := 7, cells := 0, slots := 0, locals := 164 } : Room) s m args below meth c H locs 0 0 Q (F0 m 24 ls [.int v24_s0]) := by
    intro v24_s0 H locs ls hb24 hS hl
    refine lv_istore_n (lv' := [(2, .int v24_s0), (0, .ref (q 0)), (1, .int (nI t))]) hx hb dX7_isWrongType_24 rfl hl (by decide) rfl (fun ls hl => ?_)
    refine lv_iconst (v := (0 : Int32)) hx hb dX7_isWrongType_25 (by decide) ?_
    refine cx_topr (z := nI 0) (by decide) ?_
    refine lv_istore_n (lv' := [(3, .int (nI 0)), (2, .int v24_s0), (0, .ref (q 0)), (1, .int (nI t))]) hx hb dX7_isWrongType_26 rfl hl (by decide) rfl (fun ls hl => ?_)
    have J27 : ∀ (N : Nat) (v27_l2 : Int32) (i27 : Nat) (d_27 : Nat) (Z_0_27 : Nat → Int32) (Z_1_27 : Nat → Int32) (Z_3_27 : Nat → Int32) (F_0_27 : Nat → Int32) (H : Heap) (locs : List Loc) (ls : Array Slot), (n - i27 < N) → (i27 ≤ n) → (cx_KN n T Z_0_27 (Z_3_27 0)) → (v27_l2 = 0 ∨ v27_l2 = 1) → cx_S D vwCl A s (cyW q cI cZ n T k M d_27 (cx_u (cx_u (cx_u Z 0 Z_0_27) 1 Z_1_27) 3 Z_3_27) (cx_u F 0 F_0_27)) H locs → lv_has ls 4 [(0, .ref (q 0)), (1, .int (nI t)), (2, .int v27_l2), (3, .int (nI i27))] → W p l e ({ frames := 7, cells := 0, slots := 0, locals := 164 } : Room) s m args below meth c H locs 0 0 Q (F0 m 27 ls []) := by
      intro N27
      induction N27 with
      | zero => intro v27_l2 i27 d_27 Z_0_27 Z_1_27 Z_3_27 F_0_27 H locs ls hN; exact absurd hN (by omega)
      | succ N27 ih27 =>
        intro v27_l2 i27 d_27 Z_0_27 Z_1_27 Z_3_27 F_0_27 H locs ls hN27 hi27 hKN27 hbo hS hl
        refine lv_iload_n hx hb dX7_isWrongType_27 rfl (lv_at hl 3 rfl) ?_
        refine lv_aload_n hx hb dX7_isWrongType_28 rfl (lv_at hl 0 rfl) ?_
        refine cx_get (own := RX7) (index := 65) (C := RX7) (T := TX7) (N := 22) (k := 0) (ci := 7) (v := .int (nI n)) hx hb hts hown hE hS hinX7 0 rfl rfl (by decide) (List.mem_of_getElem? (i := 2) rfl) rfl dX7_isWrongType_29 ?_
        have J64 : ∀ (H : Heap) (locs : List Loc) (ls : Array Slot), cx_S D vwCl A s (cyW q cI cZ n T k M d_27 (cx_u (cx_u (cx_u Z 0 Z_0_27) 1 Z_1_27) 3 Z_3_27) (cx_u F 0 F_0_27)) H locs → lv_has ls 4 [(0, .ref (q 0)), (1, .int (nI t)), (2, .int v27_l2), (3, .int (nI i27))] → W p l e ({ frames := 7, cells := 0, slots := 0, locals := 164 } : Room) s m args below meth c H locs 0 0 Q (F0 m 64 ls []) := by
          intro  H locs ls  hS hl
          refine lv_iload_n hx hb dX7_isWrongType_64 rfl (lv_at hl 2 rfl) ?_
          exact RET _ (Z_0_27, Z_3_27 0, d_27, F_0_27, Z_1_27) _ _ _ _ dX7_isWrongType_65 (cx_nb (by first | assumption | exact cx_bb)) (⟨(by first | assumption | exact hKN), (by first | exact Or.inl rfl | exact Or.inr rfl | assumption | exact cx_bb)⟩) hS
        refine lv_icmp_ge (tgt := 64) hx hb dX7_isWrongType_32 (by decide) (fun h32 => ?_) (fun h32 => ?_)
        · skip
          have g32 : n ≤ i27 := (nI_leI (a := n) (b := i27) (by omega) (by omega)).mp h32
          exact J64  _ _ _  hS (lv_sub hl [0, 1, 2, 3] rfl)
        · skip
          have g32 : ¬ (n ≤ i27) := fun z => h32 ((nI_leI (a := n) (b := i27) (by omega) (by omega)).mpr z)
          refine lv_iload_n hx hb dX7_isWrongType_35 rfl (lv_at hl 2 rfl) ?_
          refine lv_if_ne (tgt := 64) hx hb dX7_isWrongType_36 (by decide) (fun h36 => ?_) (fun h36 => ?_)
          · skip
            exact J64  _ _ _  hS (lv_sub hl [0, 1, 2, 3] rfl)
          · skip
            refine lv_aload_n hx hb dX7_isWrongType_39 rfl (lv_at hl 0 rfl) ?_
            refine lv_iload_n hx hb dX7_isWrongType_40 rfl (lv_at hl 1 rfl) ?_
            refine lv_iload_n hx hb dX7_isWrongType_41 rfl (lv_at hl 3 rfl) ?_
            refine cx_cVi (As := [.int (nI t), .int (nI i27)]) (rest := []) ⟨hx, hb, hml, hown, hts⟩ hE hS (c_X7_isOf l D q cI cZ n T k M d_27 (cx_u (cx_u (cx_u Z 0 Z_0_27) 1 Z_1_27) 3 Z_3_27) (cx_u F 0 F_0_27) t i27 (by first | assumption | omega) (by first | assumption | omega) (by first | assumption | omega) (by first | assumption | omega) (by first | assumption | omega) (by first | assumption | omega) (by first | assumption | omega)) (cwV 2 hts gX7_isWrongType_X7_isOf rfl rfl rfl (by decide +kernel) ⟨Nat.le_of_ble_eq_true rfl, Nat.le_of_ble_eq_true rfl⟩) 0 7 rfl rfl rfl hl.1 rfl (Nat.le_of_ble_eq_true rfl) ⟨Nat.zero_le _, Nat.zero_le _⟩ dX7_isWrongType_42 (fun r_42 u_42 H locs hp_42 hS => ?_)
            obtain ⟨za_42, kn_42⟩ := u_42
            have hS : cx_S D vwCl A s (cyW q cI cZ n T k M d_27 (cx_u (cx_u (cx_u Z 1 Z_1_27) 0 za_42) 3 (fun _ => kn_42)) (cx_u F 0 F_0_27)) H locs := hS
            obtain ⟨hKN_42, hp_42⟩ := hp_42
            have hKN_42 : cx_KN n T za_42 kn_42 := hKN_42
            have hp_42 : (r_42 = 0 ∨ r_42 = 1) ∧ (t < n → i27 < n → (¬ r_42 = 0 ↔ (t = i27 ∨ cx_w3 n (cx_Er T n) n t i27))) := hp_42
            have J58 : ∀ (v58_l2 : Int32) (d_58 : Nat) (Z_0_58 : Nat → Int32) (Z_1_58 : Nat → Int32) (Z_3_58 : Nat → Int32) (F_0_58 : Nat → Int32) (H : Heap) (locs : List Loc) (ls : Array Slot), (cx_KN n T Z_0_58 (Z_3_58 0)) → (v58_l2 = 0 ∨ v58_l2 = 1) → cx_S D vwCl A s (cyW q cI cZ n T k M d_58 (cx_u (cx_u (cx_u Z 0 Z_0_58) 1 Z_1_58) 3 Z_3_58) (cx_u F 0 F_0_58)) H locs → lv_has ls 4 [(0, .ref (q 0)), (1, .int (nI t)), (2, .int v58_l2), (3, .int (nI i27))] → W p l e ({ frames := 7, cells := 0, slots := 0, locals := 164 } : Room) s m args below meth c H locs 0 0 Q (F0 m 58 ls []) := by
              intro v58_l2 d_58 Z_0_58 Z_1_58 Z_3_58 F_0_58 H locs ls hKN58 hb58 hS hl
              refine lv_iinc (v := nI (i27 + 1)) (lv' := [(3, .int (nI (i27 + 1))), (0, .ref (q 0)), (1, .int (nI t)), (2, .int v58_l2)]) hx hb dX7_isWrongType_58 hl (k := 3) rfl (cx_inc _) (by decide) rfl (fun ls hl => ?_)
              refine lv_goto (tgt := 27) hx hb dX7_isWrongType_61 (by decide) ?_
              exact ih27 v58_l2 (i27 + 1) d_58 Z_0_58 Z_1_58 Z_3_58 F_0_58 _ _ _ (by omega) (by omega) (by first | assumption | exact hKN) (by first | exact Or.inl rfl | exact Or.inr rfl | assumption | exact cx_bb) hS (lv_sub hl [1, 2, 3, 0] rfl)
            refine lv_if_eq (tgt := 58) hx hb dX7_isWrongType_45 (by decide) (fun h45 => ?_) (fun h45 => ?_)
            · skip
              exact J58 v27_l2 d_27 za_42 Z_1_27 (fun _ => kn_42) F_0_27 _ _ _ (by first | assumption | exact hKN) (by first | exact Or.inl rfl | exact Or.inr rfl | assumption | exact cx_bb) hS (lv_sub hl [0, 1, 2, 3] rfl)
            · skip
              refine lv_aload_n hx hb dX7_isWrongType_48 rfl (lv_at hl 0 rfl) ?_
              refine lv_iload_n hx hb dX7_isWrongType_49 rfl (lv_at hl 3 rfl) ?_
              refine cx_cVv (As := [.int (nI i27)]) (rest := []) ⟨hx, hb, hml, hown, hts⟩ hE hS (c_X7_faultsOf l D q cI cZ n T k M d_27 (cx_u (cx_u (cx_u Z 1 Z_1_27) 0 za_42) 3 (fun _ => kn_42)) (cx_u F 0 F_0_27) i27 (by first | assumption | omega) (by first | assumption | omega) (by first | assumption | omega) (by first | assumption | omega) (by first | assumption | omega) (by first | assumption | omega) (by first | assumption | omega) (by first | assumption | omega) (by first | assumption | omega) (by first | assumption | omega)) (cwV 1 hts gX7_isWrongType_X7_faultsOf rfl rfl rfl (by decide +kernel) ⟨Nat.le_of_ble_eq_true rfl, Nat.le_of_ble_eq_true rfl⟩) 0 7 rfl rfl rfl hl.1 rfl (Nat.le_of_ble_eq_true rfl) ⟨Nat.zero_le _, Nat.zero_le _⟩ dX7_isWrongType_50 (fun u_50 H locs hp_50 hS => ?_)
              obtain ⟨za_50, kn_50, d1_50, fo_50, zf_50⟩ := u_50
              have hS : cx_S D vwCl A s (cyW q cI cZ n T k M d1_50 (cx_u (cx_u (cx_u Z 0 za_50) 3 (fun _ => kn_50)) 1 zf_50) (cx_u F 0 fo_50)) H locs := hS
              obtain ⟨hKN_50, hp_50⟩ := hp_50
              have hKN_50 : cx_KN n T za_50 kn_50 := hKN_50
              refine lv_aload_n hx hb dX7_isWrongType_53 rfl (lv_at hl 0 rfl) ?_
              refine cx_cVi (As := []) (rest := []) ⟨hx, hb, hml, hown, hts⟩ hE hS (c_X7_haveAny l D q cI cZ n T k M d1_50 (cx_u (cx_u (cx_u Z 0 za_50) 3 (fun _ => kn_50)) 1 zf_50) (cx_u F 0 fo_50)  ) (cwV 0 hts gX7_isWrongType_X7_haveAny rfl rfl rfl (by decide +kernel) ⟨Nat.le_of_ble_eq_true rfl, Nat.le_of_ble_eq_true rfl⟩) 0 7 rfl rfl rfl hl.1 rfl (Nat.le_of_ble_eq_true rfl) ⟨Nat.zero_le _, Nat.zero_le _⟩ dX7_isWrongType_54 (fun r_54 u_54 H locs hp_54 hS => ?_)
              have hp_54 : r_54 = 0 ∨ r_54 = 1 := hp_54
              refine lv_istore_n (lv' := [(2, .int r_54), (0, .ref (q 0)), (1, .int (nI t)), (3, .int (nI i27))]) hx hb dX7_isWrongType_57 rfl hl (by decide) rfl (fun ls hl => ?_)
              exact J58 r_54 d1_50 za_50 zf_50 (fun _ => kn_50) fo_50 _ _ _ (by first | assumption | exact hKN) (by first | exact Or.inl rfl | exact Or.inr rfl | assumption | exact cx_bb) hS (lv_sub hl [1, 2, 0, 3] rfl)
    exact J27 (n - 0 + 1) v24_s0 0 d (Z 0) (Z 1) (Z 3) (F 0) _ _ _ (Nat.lt_succ_self _) (by omega) (by first | assumption | exact hKN) (by first | exact Or.inl rfl | exact Or.inr rfl | assumption | exact cx_bb) hS (lv_sub hl [2, 3, 1, 0] rfl)
  have J19 : ∀ (H : Heap) (locs : List Loc) (ls : Array Slot), cx_S D vwCl A s (cyW q cI cZ n T k M d Z F) H locs → lv_has ls 4 [(0, .ref (q 0)), (1, .int (nI t))] → W p l e ({ frames := 7, cells := 0, slots := 0, locals := 164 } : Room) s m args below meth c H locs 0 0 Q (F0 m 19 ls []) := by
    intro  H locs ls  hS hl
    refine lv_iconst (v := (1 : Int32)) hx hb dX7_isWrongType_19 (by decide) ?_
    refine lv_goto (tgt := 24) hx hb dX7_isWrongType_20 (by decide) ?_
    exact J24 (1 : Int32) _ _ _ (by first | exact Or.inl rfl | exact Or.inr rfl | assumption | exact cx_bb) hS (lv_sub hl [0, 1] rfl)
  refine lv_icmp_eq (tgt := 19) hx hb dX7_isWrongType_7 (by decide) (fun h7 => ?_) (fun h7 => ?_)
  · skip
    exact J19  _ _ _  hS (lv_sub hl [0, 1] rfl)
  · skip
    refine lv_aload_n hx hb dX7_isWrongType_10 rfl (lv_at hl 0 rfl) ?_
    refine lv_iload_n hx hb dX7_isWrongType_11 rfl (lv_at hl 1 rfl) ?_
    refine lv_iconst (v := (1 : Int32)) hx hb dX7_isWrongType_12 (by decide) ?_
    refine cx_cVi (As := [.int (nI t), .int (1 : Int32)]) (rest := []) ⟨hx, hb, hml, hown, hts⟩ hE hS (c_X7_marked l D q cI cZ n T k M d Z F t (1 : Int32) (by first | assumption | omega)) (cwV 2 hts gX7_isWrongType_X7_marked rfl rfl rfl (by decide +kernel) ⟨Nat.le_of_ble_eq_true rfl, Nat.le_of_ble_eq_true rfl⟩) 0 7 rfl rfl rfl hl.1 rfl (Nat.le_of_ble_eq_true rfl) ⟨Nat.zero_le _, Nat.zero_le _⟩ dX7_isWrongType_13 (fun r_13 u_13 H locs hp_13 hS => ?_)
    have hp_13 : r_13 = 0 ∨ r_13 = 1 := hp_13
    refine lv_if_eq (tgt := 23) hx hb dX7_isWrongType_16 (by decide) (fun h16 => ?_) (fun h16 => ?_)
    · skip
      refine lv_iconst (v := (0 : Int32)) hx hb dX7_isWrongType_23 (by decide) ?_
      exact J24 (0 : Int32) _ _ _ (by first | exact Or.inl rfl | exact Or.inr rfl | assumption | exact cx_bb) hS (lv_sub hl [0, 1] rfl)
    · skip
      exact J19  _ _ _  hS (lv_sub hl [0, 1] rfl)
set_option maxHeartbeats 4000000 in
set_option maxRecDepth 100000 in
theorem c_X7_running (l : Launch) (D : va_G) (q : Nat → Nat) (cI cZ : ClassId) (n : Nat) (T : Nat → Nat → Int32) (k : Nat) (M : Nat → Nat → Int32) (d : Nat) (Z : Nat → Nat → Int32) (F : Nat → Nat → Int32) (t : Nat) (nm : Int32) (pm : Int32) (hn : n ≤ 20) (hP : cx_P (T 3) 20) (hU : cx_R (T 4) 20) (hV : cx_R (T 5) 4) (hKN : cx_KN n T (Z 0) ((Z 3) 0)) (hO : cx_R (M 0) 20) (hk : k ≤ 80) (ht : t < 20) : cx_Mi l D vwCl [(cI, .int), (cZ, .boolean)] cx_NW yX7_running wsX7_running ({ frames := 5, cells := 0, slots := 0, locals := 115 } : Room) [.ref (q 0), .int (nI t), .int nm, .int pm] (cyW q cI cZ n T k M d Z F) (fun (r : Int32) (uw : (Nat → Int32) × (Int32) × (Nat) × (Nat → Int32)) => cx_KN n T uw.1 uw.2.1 ∧ (True)) (fun uw => (cyW q cI cZ n T k M uw.2.2.1 (cx_u (cx_u Z 0 uw.1) 3 (fun _ => uw.2.1)) (cx_u F 0 uw.2.2.2))) := by
  refine cx_Mi.of (cc := cX7_running) (maxL := 5) cx_NW_ok (by decide) rfl (Nat.le_of_ble_eq_true rfl) ?_
  intro p e s m args below meth c Q A ls hx hb hml hown hts hE RET hS hl
  have hl : lv_has ls 5 [(0, .ref (q 0)), (1, .int (nI t)), (2, .int nm), (3, .int pm)] := hl
  have hown : s.vm.findClass RX7 = some m.cls := hown
  have hinX7 : ∀ w ∈ u_ws RX7 TX7 22, w ∈ wsX7_running := cx_mem [53, 54, 55, 56, 57, 58, 59, 60, 61, 62, 63, 64, 65, 66, 67, 68, 69, 70, 71, 72, 73, 74] (by decide +kernel)
  refine lv_aload_n hx hb dX7_running_0 rfl (lv_at hl 0 rfl) ?_
  refine lv_iload_n hx hb dX7_running_1 rfl (lv_at hl 1 rfl) ?_
  refine lv_iload_n hx hb dX7_running_2 rfl (lv_at hl 2 rfl) ?_
  refine lv_iload_n hx hb dX7_running_3 rfl (lv_at hl 3 rfl) ?_
  refine cx_cVi (As := [.int (nI t), .int nm, .int pm]) (rest := []) ⟨hx, hb, hml, hown, hts⟩ hE hS (c_X7_classOne l D q cI cZ n T k M d Z F t nm pm (by first | assumption | omega) (by first | assumption | omega) (by first | assumption | omega) (by first | assumption | omega) (by first | assumption | omega) (by first | assumption | omega) (by first | assumption | omega) (by first | assumption | omega)) (cwV 3 hts gX7_running_X7_classOne rfl rfl rfl (by decide +kernel) ⟨Nat.le_of_ble_eq_true rfl, Nat.le_of_ble_eq_true rfl⟩) 0 7 rfl rfl rfl hl.1 rfl (Nat.le_of_ble_eq_true rfl) ⟨Nat.zero_le _, Nat.zero_le _⟩ dX7_running_4 (fun r_4 u_4 H locs hp_4 hS => ?_)
  obtain ⟨za_4, kn_4⟩ := u_4
  have hS : cx_S D vwCl A s (cyW q cI cZ n T k M d (cx_u (cx_u Z 0 za_4) 3 (fun _ => kn_4)) F) H locs := hS
  obtain ⟨hKN_4, hp_4⟩ := hp_4
  have hKN_4 : cx_KN n T za_4 kn_4 := hKN_4
  have hp_4 : r_4 = -1 ∨ cx_ix r_4 80 := hp_4
  refine lv_istore (lv' := [(4, .int r_4), (0, .ref (q 0)), (1, .int (nI t)), (2, .int nm), (3, .int pm)]) hx hb dX7_running_7 hl (by decide) rfl (fun ls hl => ?_)
  refine lv_iload hx hb dX7_running_9 (lv_at hl 0 rfl) ?_
  refine lv_if_lt (tgt := 33) hx hb dX7_running_11 (by decide) (fun h11 => ?_) (fun h11 => ?_)
  · skip
    refine lv_aload_n hx hb dX7_running_33 rfl (lv_at hl 1 rfl) ?_
    refine lv_iload_n hx hb dX7_running_34 rfl (lv_at hl 2 rfl) ?_
    refine lv_iload_n hx hb dX7_running_35 rfl (lv_at hl 3 rfl) ?_
    refine lv_iload_n hx hb dX7_running_36 rfl (lv_at hl 4 rfl) ?_
    refine cx_cVv (As := [.int (nI t), .int nm, .int pm]) (rest := []) ⟨hx, hb, hml, hown, hts⟩ hE hS (c_X7_findFaceOnes l D q cI cZ n T k M d (cx_u (cx_u Z 0 za_4) 3 (fun _ => kn_4)) F t nm pm (by first | assumption | omega) (by first | assumption | omega) (by first | assumption | omega) (by first | assumption | omega) (by first | assumption | omega) (by first | assumption | omega) (by first | assumption | omega)) (cwV 3 hts gX7_running_X7_findFaceOnes rfl rfl rfl (by decide +kernel) ⟨Nat.le_of_ble_eq_true rfl, Nat.le_of_ble_eq_true rfl⟩) 0 7 rfl rfl rfl hl.1 rfl (Nat.le_of_ble_eq_true rfl) ⟨Nat.zero_le _, Nat.zero_le _⟩ dX7_running_37 (fun u_37 H locs hp_37 hS => ?_)
    obtain ⟨za_37, kn_37, d1_37, fo_37⟩ := u_37
    have hS : cx_S D vwCl A s (cyW q cI cZ n T k M d1_37 (cx_u (cx_u Z 0 za_37) 3 (fun _ => kn_37)) (cx_u F 0 fo_37)) H locs := hS
    obtain ⟨hKN_37, hp_37⟩ := hp_37
    have hKN_37 : cx_KN n T za_37 kn_37 := hKN_37
    have hp_37 : d1_37 ≤ 20 ∧ ∀ j, j < d1_37 → cx_ix (fo_37 j) 80 := hp_37
    have hd_37 := hp_37.1
    refine lv_aload_n hx hb dX7_running_40 rfl (lv_at hl 1 rfl) ?_
    refine cx_get (own := RX7) (index := 127) (C := RX7) (T := TX7) (N := 22) (k := 20) (ci := 7) (v := .int (nI d1_37)) hx hb hts hown hE hS hinX7 0 rfl rfl (by decide) (List.mem_of_getElem? (i := 1) rfl) rfl dX7_running_41 ?_
    refine lv_iconst (v := (1 : Int32)) hx hb dX7_running_44 (by decide) ?_
    have J75 : ∀ (v75_s0 : Int32) (H : Heap) (locs : List Loc) (ls : Array Slot), cx_S D vwCl A s (cyW q cI cZ n T k M d1_37 (cx_u (cx_u Z 0 za_37) 3 (fun _ => kn_37)) (cx_u F 0 fo_37)) H locs → lv_has ls 5 [(0, .ref (q 0)), (1, .int (nI t)), (2, .int nm), (3, .int pm), (4, .int r_4)] → W p l e ({ frames := 5, cells := 0, slots := 0, locals := 115 } : Room) s m args below meth c H locs 0 0 Q (F0 m 75 ls [.int v75_s0]) := by
      intro v75_s0 H locs ls  hS hl
      exact RET _ (za_37, kn_37, d1_37, fo_37) _ _ _ _ dX7_running_75 rfl (⟨(by first | assumption | exact hKN), trivial⟩) hS
    have J73 : ∀ (H : Heap) (locs : List Loc) (ls : Array Slot), cx_S D vwCl A s (cyW q cI cZ n T k M d1_37 (cx_u (cx_u Z 0 za_37) 3 (fun _ => kn_37)) (cx_u F 0 fo_37)) H locs → lv_has ls 5 [(0, .ref (q 0)), (1, .int (nI t)), (2, .int nm), (3, .int pm), (4, .int r_4)] → W p l e ({ frames := 5, cells := 0, slots := 0, locals := 115 } : Room) s m args below meth c H locs 0 0 Q (F0 m 73 ls []) := by
      intro  H locs ls  hS hl
      refine lv_bipush (v := (-3 : Int32)) hx hb dX7_running_73 (by decide) ?_
      exact J75 (-3 : Int32) _ _ _  hS (lv_sub hl [0, 1, 2, 3, 4] rfl)
    refine lv_icmp_ne (tgt := 73) hx hb dX7_running_45 (by decide) (fun h45 => ?_) (fun h45 => ?_)
    · skip
      have g45 : ¬ (d1_37 = 1) := fun z => h45 ((nI_eq (a := d1_37) (b := 1) (by omega) (by omega)).mpr z)
      exact J73  _ _ _  hS (lv_sub hl [1, 2, 3, 4, 0] rfl)
    · skip
      have g45 : d1_37 = 1 := (nI_eq (a := d1_37) (b := 1) (by omega) (by omega)).mp h45
      refine lv_aload_n hx hb dX7_running_48 rfl (lv_at hl 1 rfl) ?_
      refine lv_aload_n hx hb dX7_running_49 rfl (lv_at hl 1 rfl) ?_
      refine cx_get (own := RX7) (index := 59) (C := RX7) (T := TX7) (N := 22) (k := 19) (ci := 7) (v := .ref (q 17)) hx hb hts hown hE hS hinX7 0 rfl rfl (by decide) (List.mem_of_getElem? (i := 2) rfl) rfl dX7_running_50 ?_
      refine lv_iconst (v := (0 : Int32)) hx hb dX7_running_53 (by decide) ?_
      refine cx_topr (z := nI 0) (by decide) ?_
      refine cx_iald (f := fo_37) (n := 20) (cA := cI) hx hb hE hS 17 0 rfl rfl (by omega) (by decide) dX7_running_54 ?_
      refine cx_topr (z := nI ((fo_37 0).toNatClampNeg)) (hp_37.2 _ (by omega)).1 ?_
      refine lv_iconst (v := (1 : Int32)) hx hb dX7_running_55 (by decide) ?_
      refine lv_bipush (v := nI 8) hx hb dX7_running_56 (by decide) ?_
      refine cx_cVi (As := [.int (nI ((fo_37 0).toNatClampNeg)), .int (1 : Int32), .int (nI 8)]) (rest := []) ⟨hx, hb, hml, hown, hts⟩ hE hS (c_X7_is l D q cI cZ n T k M d1_37 (cx_u (cx_u Z 0 za_37) 3 (fun _ => kn_37)) (cx_u F 0 fo_37) ((fo_37 0).toNatClampNeg) (1 : Int32) (nI 8) ((hp_37.2 _ (by omega)).2)) (cwV 3 hts gX7_running_X7_is rfl rfl rfl (by decide +kernel) ⟨Nat.le_of_ble_eq_true rfl, Nat.le_of_ble_eq_true rfl⟩) 0 7 rfl rfl rfl hl.1 rfl (Nat.le_of_ble_eq_true rfl) ⟨Nat.zero_le _, Nat.zero_le _⟩ dX7_running_58 (fun r_58 u_58 H locs hp_58 hS => ?_)
      have hp_58 : r_58 = cx_b ((cx_b (¬ (((M 3) ((fo_37 0).toNatClampNeg)) &&& (nI 8)) = 0)) = (1 : Int32)) := hp_58
      subst hp_58
      refine lv_if_eq (tgt := 73) hx hb dX7_running_61 (by decide) (fun h61 => ?_) (fun h61 => ?_)
      · skip
        have g61 := cx_b0 h61
        exact J73  _ _ _  hS (lv_sub hl [1, 2, 3, 4, 0] rfl)
      · skip
        have g61 := cx_b1 h61
        refine lv_aload_n hx hb dX7_running_64 rfl (lv_at hl 1 rfl) ?_
        refine cx_get (own := RX7) (index := 59) (C := RX7) (T := TX7) (N := 22) (k := 19) (ci := 7) (v := .ref (q 17)) hx hb hts hown hE hS hinX7 0 rfl rfl (by decide) (List.mem_of_getElem? (i := 2) rfl) rfl dX7_running_65 ?_
        refine lv_iconst (v := (0 : Int32)) hx hb dX7_running_68 (by decide) ?_
        refine cx_topr (z := nI 0) (by decide) ?_
        refine cx_iald (f := fo_37) (n := 20) (cA := cI) hx hb hE hS 17 0 rfl rfl (by omega) (by decide) dX7_running_69 ?_
        refine lv_goto (tgt := 75) hx hb dX7_running_70 (by decide) ?_
        exact J75 (fo_37 0) _ _ _  hS (lv_sub hl [1, 2, 3, 4, 0] rfl)
  · skip
    refine lv_aload_n hx hb dX7_running_14 rfl (lv_at hl 1 rfl) ?_
    refine lv_iload hx hb dX7_running_15 (lv_at hl 0 rfl) ?_
    refine cx_topr (z := nI (r_4.toNatClampNeg)) (cx_pp hp_4 h11).1 ?_
    refine lv_iconst (v := (1 : Int32)) hx hb dX7_running_17 (by decide) ?_
    refine lv_iconst (v := (1 : Int32)) hx hb dX7_running_18 (by decide) ?_
    refine cx_cVi (As := [.int (nI (r_4.toNatClampNeg)), .int (1 : Int32), .int (1 : Int32)]) (rest := []) ⟨hx, hb, hml, hown, hts⟩ hE hS (c_X7_is l D q cI cZ n T k M d (cx_u (cx_u Z 0 za_4) 3 (fun _ => kn_4)) F r_4.toNatClampNeg (1 : Int32) (1 : Int32) ((cx_pp hp_4 h11).2)) (cwV 3 hts gX7_running_X7_is rfl rfl rfl (by decide +kernel) ⟨Nat.le_of_ble_eq_true rfl, Nat.le_of_ble_eq_true rfl⟩) 0 7 rfl rfl rfl hl.1 rfl (Nat.le_of_ble_eq_true rfl) ⟨Nat.zero_le _, Nat.zero_le _⟩ dX7_running_19 (fun r_19 u_19 H locs hp_19 hS => ?_)
    have hp_19 : r_19 = cx_b ((cx_b (¬ (((M 3) r_4.toNatClampNeg) &&& (1 : Int32)) = 0)) = (1 : Int32)) := hp_19
    subst hp_19
    have J32 : ∀ (v32_s0 : Int32) (H : Heap) (locs : List Loc) (ls : Array Slot), cx_S D vwCl A s (cyW q cI cZ n T k M d (cx_u (cx_u Z 0 za_4) 3 (fun _ => kn_4)) F) H locs → lv_has ls 5 [(0, .ref (q 0)), (1, .int (nI t)), (2, .int nm), (3, .int pm), (4, .int r_4)] → W p l e ({ frames := 5, cells := 0, slots := 0, locals := 115 } : Room) s m args below meth c H locs 0 0 Q (F0 m 32 ls [.int v32_s0]) := by
      intro v32_s0 H locs ls  hS hl
      exact RET _ (za_4, kn_4, d, F 0) _ _ _ _ dX7_running_32 rfl (⟨(by first | assumption | exact hKN), trivial⟩) hS
    refine lv_if_eq (tgt := 30) hx hb dX7_running_22 (by decide) (fun h22 => ?_) (fun h22 => ?_)
    · skip
      have g22 := cx_b0 h22
      refine lv_iload hx hb dX7_running_30 (lv_at hl 0 rfl) ?_
      exact J32 r_4 _ _ _  hS (lv_sub hl [1, 2, 3, 4, 0] rfl)
    · skip
      have g22 := cx_b1 h22
      refine lv_bipush (v := (-3 : Int32)) hx hb dX7_running_25 (by decide) ?_
      refine lv_goto (tgt := 32) hx hb dX7_running_27 (by decide) ?_
      exact J32 (-3 : Int32) _ _ _  hS (lv_sub hl [1, 2, 3, 4, 0] rfl)
set_option maxHeartbeats 4000000 in
set_option maxRecDepth 100000 in
theorem c_X7_runs (l : Launch) (D : va_G) (q : Nat → Nat) (cI cZ : ClassId) (n : Nat) (T : Nat → Nat → Int32) (k : Nat) (M : Nat → Nat → Int32) (d : Nat) (Z : Nat → Nat → Int32) (F : Nat → Nat → Int32) (xa : Int32) (xb : Int32) (xe : Int32) (hn : n ≤ 20) (hP : cx_P (T 3) 20) (hU : cx_R (T 4) 20) (hV : cx_R (T 5) 4) (hKN : cx_KN n T (Z 0) ((Z 3) 0)) (hQ : cx_R (T 6) 20) (hW : cx_R (T 7) 4) (hO : cx_R (M 0) 20) (hk : k ≤ 80) : cx_Mi l D vwCl [(cI, .int), (cZ, .boolean)] cx_NW yX7_runs wsX7_runs ({ frames := 8, cells := 0, slots := 0, locals := 187 } : Room) [.ref (q 0), .int xa, .int xb, .int xe] (cyW q cI cZ n T k M d Z F) (fun (r : Int32) (uw : (Nat → Int32) × (Int32) × (Nat) × (Nat → Int32) × (Nat → Int32)) => cx_KN n T uw.1 uw.2.1 ∧ (True)) (fun uw => (cyW q cI cZ n T k M uw.2.2.1 (cx_u (cx_u (cx_u Z 0 uw.1) 3 (fun _ => uw.2.1)) 1 uw.2.2.2.2) (cx_u F 0 uw.2.2.2.1))) := by
  refine cx_Mi.of (cc := cX7_runs) (maxL := 4) cx_NW_ok (by decide) rfl (Nat.le_of_ble_eq_true rfl) ?_
  intro p e s m args below meth c Q A ls hx hb hml hown hts hE RET hS hl
  have hl : lv_has ls 4 [(0, .ref (q 0)), (1, .int xa), (2, .int xb), (3, .int xe)] := hl
  have hown : s.vm.findClass RX7 = some m.cls := hown
  refine lv_aload_n hx hb dX7_runs_0 rfl (lv_at hl 0 rfl) ?_
  refine lv_iload_n hx hb dX7_runs_1 rfl (lv_at hl 1 rfl) ?_
  refine cx_cVi (As := [.int xa]) (rest := []) ⟨hx, hb, hml, hown, hts⟩ hE hS (c_X7_isType l D q cI cZ n T k M d Z F xa (by first | assumption | omega)) (cwV 1 hts gX7_runs_X7_isType rfl rfl rfl (by decide +kernel) ⟨Nat.le_of_ble_eq_true rfl, Nat.le_of_ble_eq_true rfl⟩) 0 7 rfl rfl rfl hl.1 rfl (Nat.le_of_ble_eq_true rfl) ⟨Nat.zero_le _, Nat.zero_le _⟩ dX7_runs_2 (fun r_2 u_2 H locs hp_2 hS => ?_)
  have hp_2 : r_2 = cx_b (0 ≤ xa ∧ xa < nI n) := hp_2
  subst hp_2
  have J27 : ∀ (H : Heap) (locs : List Loc) (ls : Array Slot), cx_S D vwCl A s (cyW q cI cZ n T k M d Z F) H locs → lv_has ls 4 [(0, .ref (q 0)), (1, .int xa), (2, .int xb), (3, .int xe)] → W p l e ({ frames := 8, cells := 0, slots := 0, locals := 187 } : Room) s m args below meth c H locs 0 0 Q (F0 m 27 ls []) := by
    intro  H locs ls  hS hl
    refine lv_iconst (v := (-1 : Int32)) hx hb dX7_runs_27 (by decide) ?_
    exact RET _ (Z 0, (Z 3) 0, d, F 0, Z 1) _ _ _ _ dX7_runs_28 rfl (⟨(by first | assumption | exact hKN), trivial⟩) hS
  refine lv_if_eq (tgt := 27) hx hb dX7_runs_5 (by decide) (fun h5 => ?_) (fun h5 => ?_)
  · skip
    have g5 := cx_b0 h5
    exact J27  _ _ _  hS (lv_sub hl [0, 1, 2, 3] rfl)
  · skip
    have g5 := cx_b1 h5
    have hq5 := (cx_ixT (by omega) g5).2
    refine lv_iload_n hx hb dX7_runs_8 rfl (lv_at hl 2 rfl) ?_
    refine lv_iconst (v := (0 : Int32)) hx hb dX7_runs_9 (by decide) ?_
    refine lv_bipush (v := nI 9) hx hb dX7_runs_10 (by decide) ?_
    refine cx_cSi (As := [.int xb, .int (0 : Int32), .int (nI 9)]) (rest := []) ⟨hx, hb, hml, hown, hts⟩ hE hS (c_X7_in l D [(cI, .int), (cZ, .boolean)] (cyW q cI cZ n T k M d Z F) xb (0 : Int32) (nI 9) ) (va_cwS 3 hts gX7_runs_X7_in rfl rfl rfl (by decide +kernel) ⟨Nat.le_of_ble_eq_true rfl, Nat.le_of_ble_eq_true rfl⟩) rfl hl.1 rfl (Nat.le_of_ble_eq_true rfl) ⟨Nat.zero_le _, Nat.zero_le _⟩ dX7_runs_12 (fun r_12 u_12 H locs hp_12 hS => ?_)
    have hp_12 : r_12 = cx_b ((0 : Int32) ≤ xb ∧ xb ≤ (nI 9)) := hp_12
    subst hp_12
    refine lv_if_eq (tgt := 27) hx hb dX7_runs_15 (by decide) (fun h15 => ?_) (fun h15 => ?_)
    · skip
      have g15 := cx_b0 h15
      exact J27  _ _ _  hS (lv_sub hl [0, 1, 2, 3] rfl)
    · skip
      have g15 := cx_b1 h15
      refine lv_iload_n hx hb dX7_runs_18 rfl (lv_at hl 3 rfl) ?_
      refine lv_iconst (v := (0 : Int32)) hx hb dX7_runs_19 (by decide) ?_
      refine lv_iconst (v := nI 4) hx hb dX7_runs_20 (by decide) ?_
      refine cx_cSi (As := [.int xe, .int (0 : Int32), .int (nI 4)]) (rest := []) ⟨hx, hb, hml, hown, hts⟩ hE hS (c_X7_in l D [(cI, .int), (cZ, .boolean)] (cyW q cI cZ n T k M d Z F) xe (0 : Int32) (nI 4) ) (va_cwS 3 hts gX7_runs_X7_in rfl rfl rfl (by decide +kernel) ⟨Nat.le_of_ble_eq_true rfl, Nat.le_of_ble_eq_true rfl⟩) rfl hl.1 rfl (Nat.le_of_ble_eq_true rfl) ⟨Nat.zero_le _, Nat.zero_le _⟩ dX7_runs_21 (fun r_21 u_21 H locs hp_21 hS => ?_)
      have hp_21 : r_21 = cx_b ((0 : Int32) ≤ xe ∧ xe ≤ (nI 4)) := hp_21
      subst hp_21
      refine lv_if_ne (tgt := 29) hx hb dX7_runs_24 (by decide) (fun h24 => ?_) (fun h24 => ?_)
      · skip
        have g24 := cx_b1 h24
        refine lv_aload_n hx hb dX7_runs_29 rfl (lv_at hl 0 rfl) ?_
        refine lv_iload_n hx hb dX7_runs_30 rfl (lv_at hl 1 rfl) ?_
        refine cx_topr (z := nI (xa.toNatClampNeg)) (cx_ixT (by omega) g5).1 ?_
        refine cx_cVi (As := [.int (nI (xa.toNatClampNeg))]) (rest := []) ⟨hx, hb, hml, hown, hts⟩ hE hS (c_X7_isWrongType l D q cI cZ n T k M d Z F xa.toNatClampNeg (by first | assumption | omega) (by first | assumption | omega) (by first | assumption | omega) (by first | assumption | omega) (by first | assumption | omega) (by first | assumption | omega) (by first | assumption | omega) (by first | assumption | omega) (by first | assumption | omega) (by first | assumption | omega)) (cwV 1 hts gX7_runs_X7_isWrongType rfl rfl rfl (by decide +kernel) ⟨Nat.le_of_ble_eq_true rfl, Nat.le_of_ble_eq_true rfl⟩) 0 7 rfl rfl rfl hl.1 rfl (Nat.le_of_ble_eq_true rfl) ⟨Nat.zero_le _, Nat.zero_le _⟩ dX7_runs_31 (fun r_31 u_31 H locs hp_31 hS => ?_)
        obtain ⟨za_31, kn_31, d1_31, fo_31, zf_31⟩ := u_31
        have hS : cx_S D vwCl A s (cyW q cI cZ n T k M d1_31 (cx_u (cx_u (cx_u Z 0 za_31) 3 (fun _ => kn_31)) 1 zf_31) (cx_u F 0 fo_31)) H locs := hS
        obtain ⟨hKN_31, hp_31⟩ := hp_31
        have hKN_31 : cx_KN n T za_31 kn_31 := hKN_31
        have hp_31 : r_31 = 0 ∨ r_31 = 1 := hp_31
        have J49 : ∀ (v49_s0 : Int32) (d_49 : Nat) (Z_0_49 : Nat → Int32) (Z_3_49 : Nat → Int32) (F_0_49 : Nat → Int32) (H : Heap) (locs : List Loc) (ls : Array Slot), (cx_KN n T Z_0_49 (Z_3_49 0)) → cx_S D vwCl A s (cyW q cI cZ n T k M d_49 (cx_u (cx_u (cx_u Z 1 zf_31) 0 Z_0_49) 3 Z_3_49) (cx_u F 0 F_0_49)) H locs → lv_has ls 4 [(0, .ref (q 0)), (1, .int xa), (2, .int xb), (3, .int xe)] → W p l e ({ frames := 8, cells := 0, slots := 0, locals := 187 } : Room) s m args below meth c H locs 0 0 Q (F0 m 49 ls [.int v49_s0]) := by
          intro v49_s0 d_49 Z_0_49 Z_3_49 F_0_49 H locs ls hKN49 hS hl
          exact RET _ (Z_0_49, Z_3_49 0, d_49, F_0_49, zf_31) _ _ _ _ dX7_runs_49 rfl (⟨(by first | assumption | exact hKN), trivial⟩) hS
        refine lv_if_eq (tgt := 42) hx hb dX7_runs_34 (by decide) (fun h34 => ?_) (fun h34 => ?_)
        · skip
          refine lv_aload_n hx hb dX7_runs_42 rfl (lv_at hl 0 rfl) ?_
          refine lv_iload_n hx hb dX7_runs_43 rfl (lv_at hl 1 rfl) ?_
          refine cx_topr (z := nI (xa.toNatClampNeg)) (cx_ixT (by omega) g5).1 ?_
          refine lv_iload_n hx hb dX7_runs_44 rfl (lv_at hl 2 rfl) ?_
          refine lv_iload_n hx hb dX7_runs_45 rfl (lv_at hl 3 rfl) ?_
          refine cx_cVi (As := [.int (nI (xa.toNatClampNeg)), .int xb, .int xe]) (rest := []) ⟨hx, hb, hml, hown, hts⟩ hE hS (c_X7_running l D q cI cZ n T k M d1_31 (cx_u (cx_u (cx_u Z 0 za_31) 3 (fun _ => kn_31)) 1 zf_31) (cx_u F 0 fo_31) xa.toNatClampNeg xb xe (by first | assumption | omega) (by first | assumption | omega) (by first | assumption | omega) (by first | assumption | omega) (by first | assumption | omega) (by first | assumption | omega) (by first | assumption | omega) (by first | assumption | omega)) (cwV 3 hts gX7_runs_X7_running rfl rfl rfl (by decide +kernel) ⟨Nat.le_of_ble_eq_true rfl, Nat.le_of_ble_eq_true rfl⟩) 0 7 rfl rfl rfl hl.1 rfl (Nat.le_of_ble_eq_true rfl) ⟨Nat.zero_le _, Nat.zero_le _⟩ dX7_runs_46 (fun r_46 u_46 H locs hp_46 hS => ?_)
          obtain ⟨za_46, kn_46, d1_46, fo_46⟩ := u_46
          have hS : cx_S D vwCl A s (cyW q cI cZ n T k M d1_46 (cx_u (cx_u (cx_u Z 1 zf_31) 0 za_46) 3 (fun _ => kn_46)) (cx_u F 0 fo_46)) H locs := hS
          obtain ⟨hKN_46, hp_46⟩ := hp_46
          have hKN_46 : cx_KN n T za_46 kn_46 := hKN_46
          exact J49 r_46 d1_46 za_46 (fun _ => kn_46) fo_46 _ _ _ (by first | assumption | exact hKN) hS (lv_sub hl [0, 1, 2, 3] rfl)
        · skip
          refine lv_bipush (v := (-4 : Int32)) hx hb dX7_runs_37 (by decide) ?_
          refine lv_goto (tgt := 49) hx hb dX7_runs_39 (by decide) ?_
          exact J49 (-4 : Int32) d1_31 za_31 (fun _ => kn_31) fo_31 _ _ _ (by first | assumption | exact hKN) hS (lv_sub hl [0, 1, 2, 3] rfl)
      · skip
        have g24 := cx_b0 h24
        exact J27  _ _ _  hS (lv_sub hl [0, 1, 2, 3] rfl)
set_option maxHeartbeats 4000000 in
set_option maxRecDepth 100000 in
theorem c_X7_mayTake (l : Launch) (D : va_G) (q : Nat → Nat) (cI cZ : ClassId) (n : Nat) (T : Nat → Nat → Int32) (k : Nat) (M : Nat → Nat → Int32) (d : Nat) (Z : Nat → Nat → Int32) (F : Nat → Nat → Int32) (mm : Nat) (hO : cx_R (M 0) 20) (hm : mm < 80) : cx_Mi l D vwCl [(cI, .int), (cZ, .boolean)] cx_NW yX7_mayTake wsX7_mayTake ({ frames := 1, cells := 0, slots := 0, locals := 23 } : Room) [.ref (q 0), .int (nI mm)] (cyW q cI cZ n T k M d Z F) (fun (r : Int32) (uw : Unit) => r = 0 ∨ r = 1) (fun _ => (cyW q cI cZ n T k M d Z F)) := by
  refine cx_Mi.of (cc := cX7_mayTake) (maxL := 2) cx_NW_ok (by decide) rfl (Nat.le_of_ble_eq_true rfl) ?_
  intro p e s m args below meth c Q A ls hx hb hml hown hts hE RET hS hl
  have hl : lv_has ls 2 [(0, .ref (q 0)), (1, .int (nI mm))] := hl
  have hown : s.vm.findClass RX7 = some m.cls := hown
  have hinX7 : ∀ w ∈ u_ws RX7 TX7 22, w ∈ wsX7_mayTake := cx_mem [10, 11, 12, 13, 14, 15, 16, 17, 18, 19, 20, 21, 22, 23, 24, 25, 26, 27, 28, 29, 30, 31] (by decide +kernel)
  refine lv_aload_n hx hb dX7_mayTake_0 rfl (lv_at hl 0 rfl) ?_
  refine lv_iload_n hx hb dX7_mayTake_1 rfl (lv_at hl 1 rfl) ?_
  refine lv_iconst (v := (0 : Int32)) hx hb dX7_mayTake_2 (by decide) ?_
  refine lv_iconst (v := nI 4) hx hb dX7_mayTake_3 (by decide) ?_
  refine cx_cVi (As := [.int (nI mm), .int (0 : Int32), .int (nI 4)]) (rest := []) ⟨hx, hb, hml, hown, hts⟩ hE hS (c_X7_is l D q cI cZ n T k M d Z F mm (0 : Int32) (nI 4) (by first | assumption | omega)) (cwV 3 hts gX7_mayTake_X7_is rfl rfl rfl (by decide +kernel) ⟨Nat.le_of_ble_eq_true rfl, Nat.le_of_ble_eq_true rfl⟩) 0 7 rfl rfl rfl hl.1 rfl (Nat.le_of_ble_eq_true rfl) ⟨Nat.zero_le _, Nat.zero_le _⟩ dX7_mayTake_4 (fun r_4 u_4 H locs hp_4 hS => ?_)
  have hp_4 : r_4 = cx_b ((cx_b (¬ (((M 3) mm) &&& (nI 4)) = 0)) = (0 : Int32)) := hp_4
  subst hp_4
  have J39 : ∀ (v39_s0 : Int32) (H : Heap) (locs : List Loc) (ls : Array Slot), (v39_s0 = 0 ∨ v39_s0 = 1) → cx_S D vwCl A s (cyW q cI cZ n T k M d Z F) H locs → lv_has ls 2 [(0, .ref (q 0)), (1, .int (nI mm))] → W p l e ({ frames := 1, cells := 0, slots := 0, locals := 23 } : Room) s m args below meth c H locs 0 0 Q (F0 m 39 ls [.int v39_s0]) := by
    intro v39_s0 H locs ls hb39 hS hl
    exact RET _ () _ _ _ _ dX7_mayTake_39 (cx_nb (by first | assumption | exact cx_bb)) (by first | exact Or.inl rfl | exact Or.inr rfl | assumption | exact cx_bb) hS
  have J38 : ∀ (H : Heap) (locs : List Loc) (ls : Array Slot), cx_S D vwCl A s (cyW q cI cZ n T k M d Z F) H locs → lv_has ls 2 [(0, .ref (q 0)), (1, .int (nI mm))] → W p l e ({ frames := 1, cells := 0, slots := 0, locals := 23 } : Room) s m args below meth c H locs 0 0 Q (F0 m 38 ls []) := by
    intro  H locs ls  hS hl
    refine lv_iconst (v := (0 : Int32)) hx hb dX7_mayTake_38 (by decide) ?_
    exact J39 (0 : Int32) _ _ _ (by first | exact Or.inl rfl | exact Or.inr rfl | assumption | exact cx_bb) hS (lv_sub hl [0, 1] rfl)
  refine lv_if_eq (tgt := 38) hx hb dX7_mayTake_7 (by decide) (fun h7 => ?_) (fun h7 => ?_)
  · skip
    have g7 := cx_b0 h7
    exact J38  _ _ _  hS (lv_sub hl [0, 1] rfl)
  · skip
    have g7 := cx_b1 h7
    refine lv_aload_n hx hb dX7_mayTake_10 rfl (lv_at hl 0 rfl) ?_
    refine cx_get (own := RX7) (index := 46) (C := RX7) (T := TX7) (N := 22) (k := 14) (ci := 7) (v := .ref (q 13)) hx hb hts hown hE hS hinX7 0 rfl rfl (by decide) (List.mem_of_getElem? (i := 1) rfl) rfl dX7_mayTake_11 ?_
    refine lv_iload_n hx hb dX7_mayTake_14 rfl (lv_at hl 1 rfl) ?_
    refine cx_iald (f := (M 4)) (n := 80) (cA := cI) hx hb hE hS 13 0 rfl rfl (by omega) (by decide) dX7_mayTake_15 ?_
    refine lv_if_le (tgt := 38) hx hb dX7_mayTake_16 (by decide) (fun h16 => ?_) (fun h16 => ?_)
    · skip
      exact J38  _ _ _  hS (lv_sub hl [0, 1] rfl)
    · skip
      refine lv_aload_n hx hb dX7_mayTake_19 rfl (lv_at hl 0 rfl) ?_
      refine cx_get (own := RX7) (index := 7) (C := RX7) (T := TX7) (N := 22) (k := 1) (ci := 7) (v := .ref (q 1)) hx hb hts hown hE hS hinX7 0 rfl rfl (by decide) (List.mem_of_getElem? (i := 2) rfl) rfl dX7_mayTake_20 ?_
      refine lv_aload_n hx hb dX7_mayTake_23 rfl (lv_at hl 0 rfl) ?_
      refine cx_get (own := RX7) (index := 34) (C := RX7) (T := TX7) (N := 22) (k := 10) (ci := 7) (v := .ref (q 9)) hx hb hts hown hE hS hinX7 0 rfl rfl (by decide) (List.mem_of_getElem? (i := 3) rfl) rfl dX7_mayTake_24 ?_
      refine lv_iload_n hx hb dX7_mayTake_27 rfl (lv_at hl 1 rfl) ?_
      refine cx_iald (f := (M 0)) (n := 80) (cA := cI) hx hb hE hS 9 0 rfl rfl (by omega) (by decide) dX7_mayTake_28 ?_
      have ho28 := (hO mm).2
      refine cx_topr (z := nI (((M 0) mm).toNatClampNeg)) (hO mm).1 ?_
      refine cx_iald (f := (T 0)) (n := 20) (cA := cI) hx hb hE hS 1 0 rfl rfl (by omega) (by decide) dX7_mayTake_29 ?_
      refine lv_iconst (v := (1 : Int32)) hx hb dX7_mayTake_30 (by decide) ?_
      refine lv_icmp_eq (tgt := 38) hx hb dX7_mayTake_31 (by decide) (fun h31 => ?_) (fun h31 => ?_)
      · skip
        exact J38  _ _ _  hS (lv_sub hl [0, 1] rfl)
      · skip
        refine lv_iconst (v := (1 : Int32)) hx hb dX7_mayTake_34 (by decide) ?_
        refine lv_goto (tgt := 39) hx hb dX7_mayTake_35 (by decide) ?_
        exact J39 (1 : Int32) _ _ _ (by first | exact Or.inl rfl | exact Or.inr rfl | assumption | exact cx_bb) hS (lv_sub hl [0, 1] rfl)
set_option maxHeartbeats 4000000 in
set_option maxRecDepth 100000 in
theorem c_X7_findTaking (l : Launch) (D : va_G) (q : Nat → Nat) (cI cZ : ClassId) (n : Nat) (T : Nat → Nat → Int32) (k : Nat) (M : Nat → Nat → Int32) (d : Nat) (Z : Nat → Nat → Int32) (F : Nat → Nat → Int32) (lk : Nat) (hO : cx_R (M 0) 20) (hk : k ≤ 80) (hlk : lk < 80) : cx_Mv l D vwCl [(cI, .int), (cZ, .boolean)] cx_NW yX7_findTaking wsX7_findTaking ({ frames := 2, cells := 0, slots := 0, locals := 44 } : Room) [.ref (q 0), .int (nI lk)] (cyW q cI cZ n T k M d Z F) (fun (uw : (Nat → Int32)) => True) (fun uw => (cyW q cI cZ n T k M d (cx_u Z 2 uw) F)) := by
  refine cx_Mv.of (cc := cX7_findTaking) (maxL := 5) cx_NW_ok (by decide) rfl (Nat.le_of_ble_eq_true rfl) ?_
  intro p e s m args below meth c Q A ls hx hb hml hown hts hE RET hS hl
  have hl : lv_has ls 5 [(0, .ref (q 0)), (1, .int (nI lk))] := hl
  have hown : s.vm.findClass RX7 = some m.cls := hown
  have hinX7 : ∀ w ∈ u_ws RX7 TX7 22, w ∈ wsX7_findTaking := cx_mem [24, 25, 26, 27, 28, 29, 30, 31, 32, 33, 34, 35, 36, 37, 38, 39, 40, 41, 42, 43, 44, 45] (by decide +kernel)
  refine lv_iconst (v := (0 : Int32)) hx hb dX7_findTaking_0 (by decide) ?_
  refine cx_topr (z := nI 0) (by decide) ?_
  refine lv_istore_n (lv' := [(2, .int (nI 0)), (0, .ref (q 0)), (1, .int (nI lk))]) hx hb dX7_findTaking_1 rfl hl (by decide) rfl (fun ls hl => ?_)
  have J2 : ∀ (N : Nat) (i2 : Nat) (Z_2_2 : Nat → Int32) (H : Heap) (locs : List Loc) (ls : Array Slot), (k - i2 < N) → (i2 ≤ k) → cx_S D vwCl A s (cyW q cI cZ n T k M d (cx_u Z 2 Z_2_2) F) H locs → lv_has ls 5 [(0, .ref (q 0)), (1, .int (nI lk)), (2, .int (nI i2))] → W p l e ({ frames := 2, cells := 0, slots := 0, locals := 44 } : Room) s m args below meth c H locs 0 0 Q (F0 m 2 ls []) := by
    intro N2
    induction N2 with
    | zero => intro i2 Z_2_2 H locs ls hN; exact absurd hN (by omega)
    | succ N2 ih2 =>
      intro i2 Z_2_2 H locs ls hN2 hi2 hS hl
      refine lv_iload_n hx hb dX7_findTaking_2 rfl (lv_at hl 2 rfl) ?_
      refine lv_aload_n hx hb dX7_findTaking_3 rfl (lv_at hl 0 rfl) ?_
      refine cx_get (own := RX7) (index := 81) (C := RX7) (T := TX7) (N := 22) (k := 9) (ci := 7) (v := .int (nI k)) hx hb hts hown hE hS hinX7 0 rfl rfl (by decide) (List.mem_of_getElem? (i := 1) rfl) rfl dX7_findTaking_4 ?_
      refine lv_icmp_ge (tgt := 168) hx hb dX7_findTaking_7 (by decide) (fun h7 => ?_) (fun h7 => ?_)
      · skip
        have g7 : k ≤ i2 := (nI_leI (a := k) (b := i2) (by omega) (by omega)).mp h7
        refine lv_iconst (v := (0 : Int32)) hx hb dX7_findTaking_168 (by decide) ?_
        refine cx_topr (z := nI 0) (by decide) ?_
        refine lv_istore_n (lv' := [(2, .int (nI 0)), (0, .ref (q 0)), (1, .int (nI lk))]) hx hb dX7_findTaking_169 rfl hl (by decide) rfl (fun ls hl => ?_)
        have J170 : ∀ (N : Nat) (i170 : Nat) (Z_2_170 : Nat → Int32) (H : Heap) (locs : List Loc) (ls : Array Slot), (k - i170 < N) → (i170 ≤ k) → cx_S D vwCl A s (cyW q cI cZ n T k M d (cx_u Z 2 Z_2_170) F) H locs → lv_has ls 5 [(0, .ref (q 0)), (1, .int (nI lk)), (2, .int (nI i170))] → W p l e ({ frames := 2, cells := 0, slots := 0, locals := 44 } : Room) s m args below meth c H locs 0 0 Q (F0 m 170 ls []) := by
          intro N170
          induction N170 with
          | zero => intro i170 Z_2_170 H locs ls hN; exact absurd hN (by omega)
          | succ N170 ih170 =>
            intro i170 Z_2_170 H locs ls hN170 hi170 hS hl
            refine lv_iload_n hx hb dX7_findTaking_170 rfl (lv_at hl 2 rfl) ?_
            refine lv_aload_n hx hb dX7_findTaking_171 rfl (lv_at hl 0 rfl) ?_
            refine cx_get (own := RX7) (index := 81) (C := RX7) (T := TX7) (N := 22) (k := 9) (ci := 7) (v := .int (nI k)) hx hb hts hown hE hS hinX7 0 rfl rfl (by decide) (List.mem_of_getElem? (i := 1) rfl) rfl dX7_findTaking_172 ?_
            refine lv_icmp_ge (tgt := 279) hx hb dX7_findTaking_175 (by decide) (fun h175 => ?_) (fun h175 => ?_)
            · skip
              have g175 : k ≤ i170 := (nI_leI (a := k) (b := i170) (by omega) (by omega)).mp h175
              exact RET (Z_2_170) _ _ _ _ dX7_findTaking_279 trivial hS
            · skip
              have g175 : ¬ (k ≤ i170) := fun z => h175 ((nI_leI (a := k) (b := i170) (by omega) (by omega)).mpr z)
              refine lv_iconst (v := (0 : Int32)) hx hb dX7_findTaking_178 (by decide) ?_
              refine cx_topr (z := nI 0) (by decide) ?_
              refine lv_istore_n (lv' := [(3, .int (nI 0)), (0, .ref (q 0)), (1, .int (nI lk)), (2, .int (nI i170))]) hx hb dX7_findTaking_179 rfl hl (by decide) rfl (fun ls hl => ?_)
              have J180 : ∀ (N : Nat) (i180 : Nat) (Z_2_180 : Nat → Int32) (H : Heap) (locs : List Loc) (ls : Array Slot), (k - i180 < N) → (i180 ≤ k) → cx_S D vwCl A s (cyW q cI cZ n T k M d (cx_u Z 2 Z_2_180) F) H locs → lv_has ls 5 [(0, .ref (q 0)), (1, .int (nI lk)), (2, .int (nI i170)), (3, .int (nI i180))] → W p l e ({ frames := 2, cells := 0, slots := 0, locals := 44 } : Room) s m args below meth c H locs 0 0 Q (F0 m 180 ls []) := by
                intro N180
                induction N180 with
                | zero => intro i180 Z_2_180 H locs ls hN; exact absurd hN (by omega)
                | succ N180 ih180 =>
                  intro i180 Z_2_180 H locs ls hN180 hi180 hS hl
                  refine lv_iload_n hx hb dX7_findTaking_180 rfl (lv_at hl 3 rfl) ?_
                  refine lv_aload_n hx hb dX7_findTaking_181 rfl (lv_at hl 0 rfl) ?_
                  refine cx_get (own := RX7) (index := 81) (C := RX7) (T := TX7) (N := 22) (k := 9) (ci := 7) (v := .int (nI k)) hx hb hts hown hE hS hinX7 0 rfl rfl (by decide) (List.mem_of_getElem? (i := 1) rfl) rfl dX7_findTaking_182 ?_
                  refine lv_icmp_ge (tgt := 273) hx hb dX7_findTaking_185 (by decide) (fun h185 => ?_) (fun h185 => ?_)
                  · skip
                    have g185 : k ≤ i180 := (nI_leI (a := k) (b := i180) (by omega) (by omega)).mp h185
                    refine lv_iinc (v := nI (i170 + 1)) (lv' := [(2, .int (nI (i170 + 1))), (0, .ref (q 0)), (1, .int (nI lk)), (3, .int (nI i180))]) hx hb dX7_findTaking_273 hl (k := 2) rfl (cx_inc _) (by decide) rfl (fun ls hl => ?_)
                    refine lv_goto (tgt := 170) hx hb dX7_findTaking_276 (by decide) ?_
                    exact ih170 (i170 + 1) Z_2_180 _ _ _ (by omega) (by omega) hS (lv_sub hl [1, 2, 0] rfl)
                  · skip
                    have g185 : ¬ (k ≤ i180) := fun z => h185 ((nI_leI (a := k) (b := i180) (by omega) (by omega)).mpr z)
                    refine lv_iconst (v := (0 : Int32)) hx hb dX7_findTaking_188 (by decide) ?_
                    refine cx_topr (z := nI 0) (by decide) ?_
                    refine lv_istore (lv' := [(4, .int (nI 0)), (0, .ref (q 0)), (1, .int (nI lk)), (2, .int (nI i170)), (3, .int (nI i180))]) hx hb dX7_findTaking_189 hl (by decide) rfl (fun ls hl => ?_)
                    have J191 : ∀ (N : Nat) (i191 : Nat) (Z_2_191 : Nat → Int32) (H : Heap) (locs : List Loc) (ls : Array Slot), (k - i191 < N) → (i191 ≤ k) → cx_S D vwCl A s (cyW q cI cZ n T k M d (cx_u Z 2 Z_2_191) F) H locs → lv_has ls 5 [(0, .ref (q 0)), (1, .int (nI lk)), (2, .int (nI i170)), (3, .int (nI i180)), (4, .int (nI i191))] → W p l e ({ frames := 2, cells := 0, slots := 0, locals := 44 } : Room) s m args below meth c H locs 0 0 Q (F0 m 191 ls []) := by
                      intro N191
                      induction N191 with
                      | zero => intro i191 Z_2_191 H locs ls hN; exact absurd hN (by omega)
                      | succ N191 ih191 =>
                        intro i191 Z_2_191 H locs ls hN191 hi191 hS hl
                        refine lv_iload hx hb dX7_findTaking_191 (lv_at hl 4 rfl) ?_
                        refine lv_aload_n hx hb dX7_findTaking_193 rfl (lv_at hl 0 rfl) ?_
                        refine cx_get (own := RX7) (index := 81) (C := RX7) (T := TX7) (N := 22) (k := 9) (ci := 7) (v := .int (nI k)) hx hb hts hown hE hS hinX7 0 rfl rfl (by decide) (List.mem_of_getElem? (i := 1) rfl) rfl dX7_findTaking_194 ?_
                        have J267 : ∀ (H : Heap) (locs : List Loc) (ls : Array Slot), cx_S D vwCl A s (cyW q cI cZ n T k M d (cx_u Z 2 Z_2_191) F) H locs → lv_has ls 5 [(0, .ref (q 0)), (1, .int (nI lk)), (2, .int (nI i170)), (3, .int (nI i180)), (4, .int (nI i191))] → W p l e ({ frames := 2, cells := 0, slots := 0, locals := 44 } : Room) s m args below meth c H locs 0 0 Q (F0 m 267 ls []) := by
                          intro  H locs ls  hS hl
                          refine lv_iinc (v := nI (i180 + 1)) (lv' := [(3, .int (nI (i180 + 1))), (0, .ref (q 0)), (1, .int (nI lk)), (2, .int (nI i170)), (4, .int (nI i191))]) hx hb dX7_findTaking_267 hl (k := 3) rfl (cx_inc _) (by decide) rfl (fun ls hl => ?_)
                          refine lv_goto (tgt := 180) hx hb dX7_findTaking_270 (by decide) ?_
                          exact ih180 (i180 + 1) Z_2_191 _ _ _ (by omega) (by omega) hS (lv_sub hl [1, 2, 3, 0] rfl)
                        refine lv_icmp_ge (tgt := 267) hx hb dX7_findTaking_197 (by decide) (fun h197 => ?_) (fun h197 => ?_)
                        · skip
                          have g197 : k ≤ i191 := (nI_leI (a := k) (b := i191) (by omega) (by omega)).mp h197
                          exact J267  _ _ _  hS (lv_sub hl [0, 1, 2, 3, 4] rfl)
                        · skip
                          have g197 : ¬ (k ≤ i191) := fun z => h197 ((nI_leI (a := k) (b := i191) (by omega) (by omega)).mpr z)
                          refine lv_aload_n hx hb dX7_findTaking_200 rfl (lv_at hl 0 rfl) ?_
                          refine cx_get (own := RX7) (index := 62) (C := RX7) (T := TX7) (N := 22) (k := 21) (ci := 7) (v := .ref (q 18)) hx hb hts hown hE hS hinX7 0 rfl rfl (by decide) (List.mem_of_getElem? (i := 4) rfl) rfl dX7_findTaking_201 ?_
                          refine lv_bipush (v := nI 80) hx hb dX7_findTaking_204 (by decide) ?_
                          refine lv_iload_n hx hb dX7_findTaking_206 rfl (lv_at hl 3 rfl) ?_
                          refine lv_imul hx hb dX7_findTaking_207 ?_
                          refine cx_topr (z := nI (80 * i180)) (pk_mul _ _) ?_
                          refine lv_iload_n hx hb dX7_findTaking_208 rfl (lv_at hl 2 rfl) ?_
                          refine lv_iadd hx hb dX7_findTaking_209 ?_
                          refine cx_topr (z := nI (80 * i180 + i170)) (nI_add _ _) ?_
                          refine cx_zald (f := Z_2_191) (n := 6400) (cA := cZ) hx hb hE hS 18 1 rfl rfl (by omega) (by decide) dX7_findTaking_210 ?_
                          refine lv_if_eq (tgt := 267) hx hb dX7_findTaking_211 (by decide) (fun h211 => ?_) (fun h211 => ?_)
                          · skip
                            exact J267  _ _ _  hS (lv_sub hl [0, 1, 2, 3, 4] rfl)
                          · skip
                            refine lv_aload_n hx hb dX7_findTaking_214 rfl (lv_at hl 0 rfl) ?_
                            refine cx_get (own := RX7) (index := 62) (C := RX7) (T := TX7) (N := 22) (k := 21) (ci := 7) (v := .ref (q 18)) hx hb hts hown hE hS hinX7 0 rfl rfl (by decide) (List.mem_of_getElem? (i := 4) rfl) rfl dX7_findTaking_215 ?_
                            refine lv_bipush (v := nI 80) hx hb dX7_findTaking_218 (by decide) ?_
                            refine lv_iload_n hx hb dX7_findTaking_220 rfl (lv_at hl 3 rfl) ?_
                            refine lv_imul hx hb dX7_findTaking_221 ?_
                            refine cx_topr (z := nI (80 * i180)) (pk_mul _ _) ?_
                            refine lv_iload hx hb dX7_findTaking_222 (lv_at hl 4 rfl) ?_
                            refine lv_iadd hx hb dX7_findTaking_224 ?_
                            refine cx_topr (z := nI (80 * i180 + i191)) (nI_add _ _) ?_
                            refine lv_aload_n hx hb dX7_findTaking_225 rfl (lv_at hl 0 rfl) ?_
                            refine cx_get (own := RX7) (index := 62) (C := RX7) (T := TX7) (N := 22) (k := 21) (ci := 7) (v := .ref (q 18)) hx hb hts hown hE hS hinX7 0 rfl rfl (by decide) (List.mem_of_getElem? (i := 4) rfl) rfl dX7_findTaking_226 ?_
                            refine lv_bipush (v := nI 80) hx hb dX7_findTaking_229 (by decide) ?_
                            refine lv_iload_n hx hb dX7_findTaking_231 rfl (lv_at hl 3 rfl) ?_
                            refine lv_imul hx hb dX7_findTaking_232 ?_
                            refine cx_topr (z := nI (80 * i180)) (pk_mul _ _) ?_
                            refine lv_iload hx hb dX7_findTaking_233 (lv_at hl 4 rfl) ?_
                            refine lv_iadd hx hb dX7_findTaking_235 ?_
                            refine cx_topr (z := nI (80 * i180 + i191)) (nI_add _ _) ?_
                            refine cx_zald (f := Z_2_191) (n := 6400) (cA := cZ) hx hb hE hS 18 1 rfl rfl (by omega) (by decide) dX7_findTaking_236 ?_
                            have J260 : ∀ (v260_s0 : Int32) (H : Heap) (locs : List Loc) (ls : Array Slot), cx_S D vwCl A s (cyW q cI cZ n T k M d (cx_u Z 2 Z_2_191) F) H locs → lv_has ls 5 [(0, .ref (q 0)), (1, .int (nI lk)), (2, .int (nI i170)), (3, .int (nI i180)), (4, .int (nI i191))] → W p l e ({ frames := 2, cells := 0, slots := 0, locals := 44 } : Room) s m args below meth c H locs 0 0 Q (F0 m 260 ls [.int v260_s0, .int (nI (80 * i180 + i191)), .ref (q 18)]) := by
                              intro v260_s0 H locs ls  hS hl
                              refine cx_zast (k := 80 * i180 + i191) (f := Z_2_191) (n := 6400) (cA := cZ) (ws' := (cyW q cI cZ n T k M d (cx_u Z 2 (upd Z_2_191 (80 * i180 + i191) (vp_nar .boolean v260_s0))) F)) hx hb hE hS 18 1 rfl rfl (by omega) (by decide) rfl dX7_findTaking_260 (fun H locs hS => ?_)
                              refine lv_iinc (v := nI (i191 + 1)) (lv' := [(4, .int (nI (i191 + 1))), (0, .ref (q 0)), (1, .int (nI lk)), (2, .int (nI i170)), (3, .int (nI i180))]) hx hb dX7_findTaking_261 hl (k := 4) rfl (cx_inc _) (by decide) rfl (fun ls hl => ?_)
                              refine lv_goto (tgt := 191) hx hb dX7_findTaking_264 (by decide) ?_
                              exact ih191 (i191 + 1) (upd Z_2_191 (80 * i180 + i191) (vp_nar .boolean v260_s0)) _ _ _ (by omega) (by omega) hS (lv_sub hl [1, 2, 3, 4, 0] rfl)
                            have J255 : ∀ (H : Heap) (locs : List Loc) (ls : Array Slot), cx_S D vwCl A s (cyW q cI cZ n T k M d (cx_u Z 2 Z_2_191) F) H locs → lv_has ls 5 [(0, .ref (q 0)), (1, .int (nI lk)), (2, .int (nI i170)), (3, .int (nI i180)), (4, .int (nI i191))] → W p l e ({ frames := 2, cells := 0, slots := 0, locals := 44 } : Room) s m args below meth c H locs 0 0 Q (F0 m 255 ls [.int (nI (80 * i180 + i191)), .ref (q 18)]) := by
                              intro  H locs ls  hS hl
                              refine lv_iconst (v := (1 : Int32)) hx hb dX7_findTaking_255 (by decide) ?_
                              refine lv_goto (tgt := 260) hx hb dX7_findTaking_256 (by decide) ?_
                              exact J260 (1 : Int32) _ _ _  hS (lv_sub hl [0, 1, 2, 3, 4] rfl)
                            refine lv_if_ne (tgt := 255) hx hb dX7_findTaking_237 (by decide) (fun h237 => ?_) (fun h237 => ?_)
                            · skip
                              exact J255  _ _ _  hS (lv_sub hl [0, 1, 2, 3, 4] rfl)
                            · skip
                              refine lv_aload_n hx hb dX7_findTaking_240 rfl (lv_at hl 0 rfl) ?_
                              refine cx_get (own := RX7) (index := 62) (C := RX7) (T := TX7) (N := 22) (k := 21) (ci := 7) (v := .ref (q 18)) hx hb hts hown hE hS hinX7 0 rfl rfl (by decide) (List.mem_of_getElem? (i := 4) rfl) rfl dX7_findTaking_241 ?_
                              refine lv_bipush (v := nI 80) hx hb dX7_findTaking_244 (by decide) ?_
                              refine lv_iload_n hx hb dX7_findTaking_246 rfl (lv_at hl 2 rfl) ?_
                              refine lv_imul hx hb dX7_findTaking_247 ?_
                              refine cx_topr (z := nI (80 * i170)) (pk_mul _ _) ?_
                              refine lv_iload hx hb dX7_findTaking_248 (lv_at hl 4 rfl) ?_
                              refine lv_iadd hx hb dX7_findTaking_250 ?_
                              refine cx_topr (z := nI (80 * i170 + i191)) (nI_add _ _) ?_
                              refine cx_zald (f := Z_2_191) (n := 6400) (cA := cZ) hx hb hE hS 18 1 rfl rfl (by omega) (by decide) dX7_findTaking_251 ?_
                              refine lv_if_eq (tgt := 259) hx hb dX7_findTaking_252 (by decide) (fun h252 => ?_) (fun h252 => ?_)
                              · skip
                                refine lv_iconst (v := (0 : Int32)) hx hb dX7_findTaking_259 (by decide) ?_
                                exact J260 (0 : Int32) _ _ _  hS (lv_sub hl [0, 1, 2, 3, 4] rfl)
                              · skip
                                exact J255  _ _ _  hS (lv_sub hl [0, 1, 2, 3, 4] rfl)
                    exact J191 (k - 0 + 1) 0 Z_2_180 _ _ _ (Nat.lt_succ_self _) (by omega) hS (lv_sub hl [1, 2, 3, 4, 0] rfl)
              exact J180 (k - 0 + 1) 0 Z_2_170 _ _ _ (Nat.lt_succ_self _) (by omega) hS (lv_sub hl [1, 2, 3, 0] rfl)
        exact J170 (k - 0 + 1) 0 Z_2_2 _ _ _ (Nat.lt_succ_self _) (by omega) hS (lv_sub hl [1, 2, 0] rfl)
      · skip
        have g7 : ¬ (k ≤ i2) := fun z => h7 ((nI_leI (a := k) (b := i2) (by omega) (by omega)).mpr z)
        refine lv_iconst (v := (0 : Int32)) hx hb dX7_findTaking_10 (by decide) ?_
        refine cx_topr (z := nI 0) (by decide) ?_
        refine lv_istore_n (lv' := [(3, .int (nI 0)), (0, .ref (q 0)), (1, .int (nI lk)), (2, .int (nI i2))]) hx hb dX7_findTaking_11 rfl hl (by decide) rfl (fun ls hl => ?_)
        have J12 : ∀ (N : Nat) (i12 : Nat) (Z_2_12 : Nat → Int32) (H : Heap) (locs : List Loc) (ls : Array Slot), (k - i12 < N) → (i12 ≤ k) → cx_S D vwCl A s (cyW q cI cZ n T k M d (cx_u Z 2 Z_2_12) F) H locs → lv_has ls 5 [(0, .ref (q 0)), (1, .int (nI lk)), (2, .int (nI i2)), (3, .int (nI i12))] → W p l e ({ frames := 2, cells := 0, slots := 0, locals := 44 } : Room) s m args below meth c H locs 0 0 Q (F0 m 12 ls []) := by
          intro N12
          induction N12 with
          | zero => intro i12 Z_2_12 H locs ls hN; exact absurd hN (by omega)
          | succ N12 ih12 =>
            intro i12 Z_2_12 H locs ls hN12 hi12 hS hl
            refine lv_iload_n hx hb dX7_findTaking_12 rfl (lv_at hl 3 rfl) ?_
            refine lv_aload_n hx hb dX7_findTaking_13 rfl (lv_at hl 0 rfl) ?_
            refine cx_get (own := RX7) (index := 81) (C := RX7) (T := TX7) (N := 22) (k := 9) (ci := 7) (v := .int (nI k)) hx hb hts hown hE hS hinX7 0 rfl rfl (by decide) (List.mem_of_getElem? (i := 1) rfl) rfl dX7_findTaking_14 ?_
            refine lv_icmp_ge (tgt := 162) hx hb dX7_findTaking_17 (by decide) (fun h17 => ?_) (fun h17 => ?_)
            · skip
              have g17 : k ≤ i12 := (nI_leI (a := k) (b := i12) (by omega) (by omega)).mp h17
              refine lv_iinc (v := nI (i2 + 1)) (lv' := [(2, .int (nI (i2 + 1))), (0, .ref (q 0)), (1, .int (nI lk)), (3, .int (nI i12))]) hx hb dX7_findTaking_162 hl (k := 2) rfl (cx_inc _) (by decide) rfl (fun ls hl => ?_)
              refine lv_goto (tgt := 2) hx hb dX7_findTaking_165 (by decide) ?_
              exact ih2 (i2 + 1) Z_2_12 _ _ _ (by omega) (by omega) hS (lv_sub hl [1, 2, 0] rfl)
            · skip
              have g17 : ¬ (k ≤ i12) := fun z => h17 ((nI_leI (a := k) (b := i12) (by omega) (by omega)).mpr z)
              refine lv_aload_n hx hb dX7_findTaking_20 rfl (lv_at hl 0 rfl) ?_
              refine lv_iload_n hx hb dX7_findTaking_21 rfl (lv_at hl 2 rfl) ?_
              refine lv_iload_n hx hb dX7_findTaking_22 rfl (lv_at hl 1 rfl) ?_
              refine cx_cVi (As := [.int (nI i2), .int (nI lk)]) (rest := []) ⟨hx, hb, hml, hown, hts⟩ hE hS (c_X7_areLike l D q cI cZ n T k M d (cx_u Z 2 Z_2_12) F i2 lk (by first | assumption | omega) (by first | assumption | omega)) (cwV 2 hts gX7_findTaking_X7_areLike rfl rfl rfl (by decide +kernel) ⟨Nat.le_of_ble_eq_true rfl, Nat.le_of_ble_eq_true rfl⟩) 0 7 rfl rfl rfl hl.1 rfl (Nat.le_of_ble_eq_true rfl) ⟨Nat.zero_le _, Nat.zero_le _⟩ dX7_findTaking_23 (fun r_23 u_23 H locs hp_23 hS => ?_)
              have hp_23 : r_23 = 0 ∨ r_23 = 1 := hp_23
              have J98 : ∀ (v98_s0 : Int32) (H : Heap) (locs : List Loc) (ls : Array Slot), cx_S D vwCl A s (cyW q cI cZ n T k M d (cx_u Z 2 Z_2_12) F) H locs → lv_has ls 5 [(0, .ref (q 0)), (1, .int (nI lk)), (2, .int (nI i2)), (3, .int (nI i12))] → W p l e ({ frames := 2, cells := 0, slots := 0, locals := 44 } : Room) s m args below meth c H locs 0 0 Q (F0 m 98 ls [.int v98_s0]) := by
                intro v98_s0 H locs ls  hS hl
                refine lv_istore (lv' := [(4, .int v98_s0), (0, .ref (q 0)), (1, .int (nI lk)), (2, .int (nI i2)), (3, .int (nI i12))]) hx hb dX7_findTaking_98 hl (by decide) rfl (fun ls hl => ?_)
                refine lv_aload_n hx hb dX7_findTaking_100 rfl (lv_at hl 1 rfl) ?_
                refine cx_get (own := RX7) (index := 62) (C := RX7) (T := TX7) (N := 22) (k := 21) (ci := 7) (v := .ref (q 18)) hx hb hts hown hE hS hinX7 0 rfl rfl (by decide) (List.mem_of_getElem? (i := 4) rfl) rfl dX7_findTaking_101 ?_
                refine lv_bipush (v := nI 80) hx hb dX7_findTaking_104 (by decide) ?_
                refine lv_iload_n hx hb dX7_findTaking_106 rfl (lv_at hl 3 rfl) ?_
                refine lv_imul hx hb dX7_findTaking_107 ?_
                refine cx_topr (z := nI (80 * i2)) (pk_mul _ _) ?_
                refine lv_iload_n hx hb dX7_findTaking_108 rfl (lv_at hl 4 rfl) ?_
                refine lv_iadd hx hb dX7_findTaking_109 ?_
                refine cx_topr (z := nI (80 * i2 + i12)) (nI_add _ _) ?_
                refine lv_iload hx hb dX7_findTaking_110 (lv_at hl 0 rfl) ?_
                have J155 : ∀ (v155_s0 : Int32) (H : Heap) (locs : List Loc) (ls : Array Slot), cx_S D vwCl A s (cyW q cI cZ n T k M d (cx_u Z 2 Z_2_12) F) H locs → lv_has ls 5 [(0, .ref (q 0)), (1, .int (nI lk)), (2, .int (nI i2)), (3, .int (nI i12)), (4, .int v98_s0)] → W p l e ({ frames := 2, cells := 0, slots := 0, locals := 44 } : Room) s m args below meth c H locs 0 0 Q (F0 m 155 ls [.int v155_s0, .int (nI (80 * i2 + i12)), .ref (q 18)]) := by
                  intro v155_s0 H locs ls  hS hl
                  refine cx_zast (k := 80 * i2 + i12) (f := Z_2_12) (n := 6400) (cA := cZ) (ws' := (cyW q cI cZ n T k M d (cx_u Z 2 (upd Z_2_12 (80 * i2 + i12) (vp_nar .boolean v155_s0))) F)) hx hb hE hS 18 1 rfl rfl (by omega) (by decide) rfl dX7_findTaking_155 (fun H locs hS => ?_)
                  refine lv_iinc (v := nI (i12 + 1)) (lv' := [(3, .int (nI (i12 + 1))), (0, .ref (q 0)), (1, .int (nI lk)), (2, .int (nI i2)), (4, .int v98_s0)]) hx hb dX7_findTaking_156 hl (k := 3) rfl (cx_inc _) (by decide) rfl (fun ls hl => ?_)
                  refine lv_goto (tgt := 12) hx hb dX7_findTaking_159 (by decide) ?_
                  exact ih12 (i12 + 1) (upd Z_2_12 (80 * i2 + i12) (vp_nar .boolean v155_s0)) _ _ _ (by omega) (by omega) hS (lv_sub hl [1, 2, 3, 0] rfl)
                have J154 : ∀ (H : Heap) (locs : List Loc) (ls : Array Slot), cx_S D vwCl A s (cyW q cI cZ n T k M d (cx_u Z 2 Z_2_12) F) H locs → lv_has ls 5 [(0, .ref (q 0)), (1, .int (nI lk)), (2, .int (nI i2)), (3, .int (nI i12)), (4, .int v98_s0)] → W p l e ({ frames := 2, cells := 0, slots := 0, locals := 44 } : Room) s m args below meth c H locs 0 0 Q (F0 m 154 ls [.int (nI (80 * i2 + i12)), .ref (q 18)]) := by
                  intro  H locs ls  hS hl
                  refine lv_iconst (v := (0 : Int32)) hx hb dX7_findTaking_154 (by decide) ?_
                  exact J155 (0 : Int32) _ _ _  hS (lv_sub hl [0, 1, 2, 3, 4] rfl)
                refine lv_if_eq (tgt := 154) hx hb dX7_findTaking_112 (by decide) (fun h112 => ?_) (fun h112 => ?_)
                · skip
                  exact J154  _ _ _  hS (lv_sub hl [1, 2, 3, 4, 0] rfl)
                · skip
                  refine lv_aload_n hx hb dX7_findTaking_115 rfl (lv_at hl 1 rfl) ?_
                  refine cx_get (own := RX7) (index := 46) (C := RX7) (T := TX7) (N := 22) (k := 14) (ci := 7) (v := .ref (q 13)) hx hb hts hown hE hS hinX7 0 rfl rfl (by decide) (List.mem_of_getElem? (i := 5) rfl) rfl dX7_findTaking_116 ?_
                  refine lv_iload_n hx hb dX7_findTaking_119 rfl (lv_at hl 4 rfl) ?_
                  refine cx_iald (f := (M 4)) (n := 80) (cA := cI) hx hb hE hS 13 0 rfl rfl (by omega) (by decide) dX7_findTaking_120 ?_
                  refine lv_iconst (v := (1 : Int32)) hx hb dX7_findTaking_121 (by decide) ?_
                  have J150 : ∀ (H : Heap) (locs : List Loc) (ls : Array Slot), cx_S D vwCl A s (cyW q cI cZ n T k M d (cx_u Z 2 Z_2_12) F) H locs → lv_has ls 5 [(0, .ref (q 0)), (1, .int (nI lk)), (2, .int (nI i2)), (3, .int (nI i12)), (4, .int v98_s0)] → W p l e ({ frames := 2, cells := 0, slots := 0, locals := 44 } : Room) s m args below meth c H locs 0 0 Q (F0 m 150 ls [.int (nI (80 * i2 + i12)), .ref (q 18)]) := by
                    intro  H locs ls  hS hl
                    refine lv_iconst (v := (1 : Int32)) hx hb dX7_findTaking_150 (by decide) ?_
                    refine lv_goto (tgt := 155) hx hb dX7_findTaking_151 (by decide) ?_
                    exact J155 (1 : Int32) _ _ _  hS (lv_sub hl [0, 1, 2, 3, 4] rfl)
                  refine lv_icmp_gt (tgt := 150) hx hb dX7_findTaking_122 (by decide) (fun h122 => ?_) (fun h122 => ?_)
                  · skip
                    exact J150  _ _ _  hS (lv_sub hl [1, 2, 3, 4, 0] rfl)
                  · skip
                    refine lv_aload_n hx hb dX7_findTaking_125 rfl (lv_at hl 1 rfl) ?_
                    refine cx_get (own := RX7) (index := 16) (C := RX7) (T := TX7) (N := 22) (k := 3) (ci := 7) (v := .ref (q 3)) hx hb hts hown hE hS hinX7 0 rfl rfl (by decide) (List.mem_of_getElem? (i := 6) rfl) rfl dX7_findTaking_126 ?_
                    refine lv_aload_n hx hb dX7_findTaking_129 rfl (lv_at hl 1 rfl) ?_
                    refine cx_get (own := RX7) (index := 34) (C := RX7) (T := TX7) (N := 22) (k := 10) (ci := 7) (v := .ref (q 9)) hx hb hts hown hE hS hinX7 0 rfl rfl (by decide) (List.mem_of_getElem? (i := 2) rfl) rfl dX7_findTaking_130 ?_
                    refine lv_iload_n hx hb dX7_findTaking_133 rfl (lv_at hl 3 rfl) ?_
                    refine cx_iald (f := (M 0)) (n := 80) (cA := cI) hx hb hE hS 9 0 rfl rfl (by omega) (by decide) dX7_findTaking_134 ?_
                    have ho134 := (hO i2).2
                    refine cx_topr (z := nI (((M 0) i2).toNatClampNeg)) (hO i2).1 ?_
                    refine cx_iald (f := (T 2)) (n := 20) (cA := cI) hx hb hE hS 3 0 rfl rfl (by omega) (by decide) dX7_findTaking_135 ?_
                    refine lv_aload_n hx hb dX7_findTaking_136 rfl (lv_at hl 1 rfl) ?_
                    refine cx_get (own := RX7) (index := 16) (C := RX7) (T := TX7) (N := 22) (k := 3) (ci := 7) (v := .ref (q 3)) hx hb hts hown hE hS hinX7 0 rfl rfl (by decide) (List.mem_of_getElem? (i := 6) rfl) rfl dX7_findTaking_137 ?_
                    refine lv_aload_n hx hb dX7_findTaking_140 rfl (lv_at hl 1 rfl) ?_
                    refine cx_get (own := RX7) (index := 34) (C := RX7) (T := TX7) (N := 22) (k := 10) (ci := 7) (v := .ref (q 9)) hx hb hts hown hE hS hinX7 0 rfl rfl (by decide) (List.mem_of_getElem? (i := 2) rfl) rfl dX7_findTaking_141 ?_
                    refine lv_iload_n hx hb dX7_findTaking_144 rfl (lv_at hl 4 rfl) ?_
                    refine cx_iald (f := (M 0)) (n := 80) (cA := cI) hx hb hE hS 9 0 rfl rfl (by omega) (by decide) dX7_findTaking_145 ?_
                    have ho145 := (hO i12).2
                    refine cx_topr (z := nI (((M 0) i12).toNatClampNeg)) (hO i12).1 ?_
                    refine cx_iald (f := (T 2)) (n := 20) (cA := cI) hx hb hE hS 3 0 rfl rfl (by omega) (by decide) dX7_findTaking_146 ?_
                    refine lv_icmp_ne (tgt := 154) hx hb dX7_findTaking_147 (by decide) (fun h147 => ?_) (fun h147 => ?_)
                    · skip
                      exact J154  _ _ _  hS (lv_sub hl [1, 2, 3, 4, 0] rfl)
                    · skip
                      exact J150  _ _ _  hS (lv_sub hl [1, 2, 3, 4, 0] rfl)
              have J97 : ∀ (H : Heap) (locs : List Loc) (ls : Array Slot), cx_S D vwCl A s (cyW q cI cZ n T k M d (cx_u Z 2 Z_2_12) F) H locs → lv_has ls 5 [(0, .ref (q 0)), (1, .int (nI lk)), (2, .int (nI i2)), (3, .int (nI i12))] → W p l e ({ frames := 2, cells := 0, slots := 0, locals := 44 } : Room) s m args below meth c H locs 0 0 Q (F0 m 97 ls []) := by
                intro  H locs ls  hS hl
                refine lv_iconst (v := (0 : Int32)) hx hb dX7_findTaking_97 (by decide) ?_
                exact J98 (0 : Int32) _ _ _  hS (lv_sub hl [0, 1, 2, 3] rfl)
              refine lv_if_eq (tgt := 97) hx hb dX7_findTaking_26 (by decide) (fun h26 => ?_) (fun h26 => ?_)
              · skip
                exact J97  _ _ _  hS (lv_sub hl [0, 1, 2, 3] rfl)
              · skip
                refine lv_aload_n hx hb dX7_findTaking_29 rfl (lv_at hl 0 rfl) ?_
                refine lv_iload_n hx hb dX7_findTaking_30 rfl (lv_at hl 3 rfl) ?_
                refine lv_iload_n hx hb dX7_findTaking_31 rfl (lv_at hl 1 rfl) ?_
                refine cx_cVi (As := [.int (nI i12), .int (nI lk)]) (rest := []) ⟨hx, hb, hml, hown, hts⟩ hE hS (c_X7_areLike l D q cI cZ n T k M d (cx_u Z 2 Z_2_12) F i12 lk (by first | assumption | omega) (by first | assumption | omega)) (cwV 2 hts gX7_findTaking_X7_areLike rfl rfl rfl (by decide +kernel) ⟨Nat.le_of_ble_eq_true rfl, Nat.le_of_ble_eq_true rfl⟩) 0 7 rfl rfl rfl hl.1 rfl (Nat.le_of_ble_eq_true rfl) ⟨Nat.zero_le _, Nat.zero_le _⟩ dX7_findTaking_32 (fun r_32 u_32 H locs hp_32 hS => ?_)
                have hp_32 : r_32 = 0 ∨ r_32 = 1 := hp_32
                refine lv_if_eq (tgt := 97) hx hb dX7_findTaking_35 (by decide) (fun h35 => ?_) (fun h35 => ?_)
                · skip
                  exact J97  _ _ _  hS (lv_sub hl [0, 1, 2, 3] rfl)
                · skip
                  refine lv_aload_n hx hb dX7_findTaking_38 rfl (lv_at hl 0 rfl) ?_
                  refine lv_iload_n hx hb dX7_findTaking_39 rfl (lv_at hl 2 rfl) ?_
                  refine cx_cVi (As := [.int (nI i2)]) (rest := []) ⟨hx, hb, hml, hown, hts⟩ hE hS (c_X7_mayTake l D q cI cZ n T k M d (cx_u Z 2 Z_2_12) F i2 (by first | assumption | omega) (by first | assumption | omega)) (cwV 1 hts gX7_findTaking_X7_mayTake rfl rfl rfl (by decide +kernel) ⟨Nat.le_of_ble_eq_true rfl, Nat.le_of_ble_eq_true rfl⟩) 0 7 rfl rfl rfl hl.1 rfl (Nat.le_of_ble_eq_true rfl) ⟨Nat.zero_le _, Nat.zero_le _⟩ dX7_findTaking_40 (fun r_40 u_40 H locs hp_40 hS => ?_)
                  have hp_40 : r_40 = 0 ∨ r_40 = 1 := hp_40
                  refine lv_if_eq (tgt := 97) hx hb dX7_findTaking_43 (by decide) (fun h43 => ?_) (fun h43 => ?_)
                  · skip
                    exact J97  _ _ _  hS (lv_sub hl [0, 1, 2, 3] rfl)
                  · skip
                    refine lv_aload_n hx hb dX7_findTaking_46 rfl (lv_at hl 0 rfl) ?_
                    refine lv_iload_n hx hb dX7_findTaking_47 rfl (lv_at hl 3 rfl) ?_
                    refine cx_cVi (As := [.int (nI i12)]) (rest := []) ⟨hx, hb, hml, hown, hts⟩ hE hS (c_X7_mayTake l D q cI cZ n T k M d (cx_u Z 2 Z_2_12) F i12 (by first | assumption | omega) (by first | assumption | omega)) (cwV 1 hts gX7_findTaking_X7_mayTake rfl rfl rfl (by decide +kernel) ⟨Nat.le_of_ble_eq_true rfl, Nat.le_of_ble_eq_true rfl⟩) 0 7 rfl rfl rfl hl.1 rfl (Nat.le_of_ble_eq_true rfl) ⟨Nat.zero_le _, Nat.zero_le _⟩ dX7_findTaking_48 (fun r_48 u_48 H locs hp_48 hS => ?_)
                    have hp_48 : r_48 = 0 ∨ r_48 = 1 := hp_48
                    refine lv_if_eq (tgt := 97) hx hb dX7_findTaking_51 (by decide) (fun h51 => ?_) (fun h51 => ?_)
                    · skip
                      exact J97  _ _ _  hS (lv_sub hl [0, 1, 2, 3] rfl)
                    · skip
                      refine lv_aload_n hx hb dX7_findTaking_54 rfl (lv_at hl 0 rfl) ?_
                      refine cx_get (own := RX7) (index := 34) (C := RX7) (T := TX7) (N := 22) (k := 10) (ci := 7) (v := .ref (q 9)) hx hb hts hown hE hS hinX7 0 rfl rfl (by decide) (List.mem_of_getElem? (i := 2) rfl) rfl dX7_findTaking_55 ?_
                      refine lv_iload_n hx hb dX7_findTaking_58 rfl (lv_at hl 2 rfl) ?_
                      refine cx_iald (f := (M 0)) (n := 80) (cA := cI) hx hb hE hS 9 0 rfl rfl (by omega) (by decide) dX7_findTaking_59 ?_
                      have ho59 := (hO i2).2
                      refine cx_topr (z := nI (((M 0) i2).toNatClampNeg)) (hO i2).1 ?_
                      refine lv_aload_n hx hb dX7_findTaking_60 rfl (lv_at hl 0 rfl) ?_
                      refine cx_get (own := RX7) (index := 34) (C := RX7) (T := TX7) (N := 22) (k := 10) (ci := 7) (v := .ref (q 9)) hx hb hts hown hE hS hinX7 0 rfl rfl (by decide) (List.mem_of_getElem? (i := 2) rfl) rfl dX7_findTaking_61 ?_
                      refine lv_iload_n hx hb dX7_findTaking_64 rfl (lv_at hl 3 rfl) ?_
                      refine cx_iald (f := (M 0)) (n := 80) (cA := cI) hx hb hE hS 9 0 rfl rfl (by omega) (by decide) dX7_findTaking_65 ?_
                      have ho65 := (hO i12).2
                      refine cx_topr (z := nI (((M 0) i12).toNatClampNeg)) (hO i12).1 ?_
                      refine lv_icmp_eq (tgt := 97) hx hb dX7_findTaking_66 (by decide) (fun h66 => ?_) (fun h66 => ?_)
                      · skip
                        have g66 : (((M 0) i2).toNatClampNeg) = (((M 0) i12).toNatClampNeg) := (nI_eq (a := ((M 0) i2).toNatClampNeg) (b := ((M 0) i12).toNatClampNeg) (by omega) (by omega)).mp h66
                        exact J97  _ _ _  hS (lv_sub hl [0, 1, 2, 3] rfl)
                      · skip
                        have g66 : ¬ ((((M 0) i2).toNatClampNeg) = (((M 0) i12).toNatClampNeg)) := fun z => h66 ((nI_eq (a := ((M 0) i2).toNatClampNeg) (b := ((M 0) i12).toNatClampNeg) (by omega) (by omega)).mpr z)
                        refine lv_aload_n hx hb dX7_findTaking_69 rfl (lv_at hl 0 rfl) ?_
                        refine cx_get (own := RX7) (index := 52) (C := RX7) (T := TX7) (N := 22) (k := 16) (ci := 7) (v := .ref (q 15)) hx hb hts hown hE hS hinX7 0 rfl rfl (by decide) (List.mem_of_getElem? (i := 3) rfl) rfl dX7_findTaking_70 ?_
                        refine lv_bipush (v := nI 20) hx hb dX7_findTaking_73 (by decide) ?_
                        refine lv_aload_n hx hb dX7_findTaking_75 rfl (lv_at hl 0 rfl) ?_
                        refine cx_get (own := RX7) (index := 34) (C := RX7) (T := TX7) (N := 22) (k := 10) (ci := 7) (v := .ref (q 9)) hx hb hts hown hE hS hinX7 0 rfl rfl (by decide) (List.mem_of_getElem? (i := 2) rfl) rfl dX7_findTaking_76 ?_
                        refine lv_iload_n hx hb dX7_findTaking_79 rfl (lv_at hl 2 rfl) ?_
                        refine cx_iald (f := (M 0)) (n := 80) (cA := cI) hx hb hE hS 9 0 rfl rfl (by omega) (by decide) dX7_findTaking_80 ?_
                        have ho80 := (hO i2).2
                        refine cx_topr (z := nI (((M 0) i2).toNatClampNeg)) (hO i2).1 ?_
                        refine lv_imul hx hb dX7_findTaking_81 ?_
                        refine cx_topr (z := nI (20 * (((M 0) i2).toNatClampNeg))) (pk_mul _ _) ?_
                        refine lv_aload_n hx hb dX7_findTaking_82 rfl (lv_at hl 0 rfl) ?_
                        refine cx_get (own := RX7) (index := 34) (C := RX7) (T := TX7) (N := 22) (k := 10) (ci := 7) (v := .ref (q 9)) hx hb hts hown hE hS hinX7 0 rfl rfl (by decide) (List.mem_of_getElem? (i := 2) rfl) rfl dX7_findTaking_83 ?_
                        refine lv_iload_n hx hb dX7_findTaking_86 rfl (lv_at hl 3 rfl) ?_
                        refine cx_iald (f := (M 0)) (n := 80) (cA := cI) hx hb hE hS 9 0 rfl rfl (by omega) (by decide) dX7_findTaking_87 ?_
                        have ho87 := (hO i12).2
                        refine cx_topr (z := nI (((M 0) i12).toNatClampNeg)) (hO i12).1 ?_
                        refine lv_iadd hx hb dX7_findTaking_88 ?_
                        refine cx_topr (z := nI (20 * (((M 0) i2).toNatClampNeg) + ((M 0) i12).toNatClampNeg)) (nI_add _ _) ?_
                        refine cx_zald (f := (Z 0)) (n := 400) (cA := cZ) hx hb hE hS 15 1 rfl rfl (by omega) (by decide) dX7_findTaking_89 ?_
                        refine lv_if_eq (tgt := 97) hx hb dX7_findTaking_90 (by decide) (fun h90 => ?_) (fun h90 => ?_)
                        · skip
                          exact J97  _ _ _  hS (lv_sub hl [0, 1, 2, 3] rfl)
                        · skip
                          refine lv_iconst (v := (1 : Int32)) hx hb dX7_findTaking_93 (by decide) ?_
                          refine lv_goto (tgt := 98) hx hb dX7_findTaking_94 (by decide) ?_
                          exact J98 (1 : Int32) _ _ _  hS (lv_sub hl [0, 1, 2, 3] rfl)
        exact J12 (k - 0 + 1) 0 Z_2_2 _ _ _ (Nat.lt_succ_self _) (by omega) hS (lv_sub hl [1, 2, 3, 0] rfl)
  exact J2 (k - 0 + 1) 0 (Z 2) _ _ _ (Nat.lt_succ_self _) (by omega) hS (lv_sub hl [1, 2, 0] rfl)
set_option maxHeartbeats 4000000 in
set_option maxRecDepth 100000 in
theorem c_X7_call (l : Launch) (D : va_G) (q : Nat → Nat) (cI cZ : ClassId) (n : Nat) (T : Nat → Nat → Int32) (k : Nat) (M : Nat → Nat → Int32) (d : Nat) (Z : Nat → Nat → Int32) (F : Nat → Nat → Int32) (xa : Int32) (xb : Int32) (xe : Int32) (xf : Int32) (hn : n ≤ 20) (hP : cx_P (T 3) 20) (hU : cx_R (T 4) 20) (hV : cx_R (T 5) 4) (hKN : cx_KN n T (Z 0) ((Z 3) 0)) (hQ : cx_R (T 6) 20) (hW : cx_R (T 7) 4) (hO : cx_R (M 0) 20) (hk : k ≤ 80) : cx_Mi l D vwCl [(cI, .int), (cZ, .boolean)] cx_NW yX7_call wsX7_call ({ frames := 8, cells := 0, slots := 0, locals := 187 } : Room) [.ref (q 0), .int xa, .int xb, .int xe, .int xf] (cyW q cI cZ n T k M d Z F) (fun (r : Int32) (uw : (Nat → Int32) × (Int32) × (Nat) × (Nat → Int32) × (Nat → Int32) × (Nat → Int32)) => cx_KN n T uw.1 uw.2.1 ∧ (True)) (fun uw => (cyW q cI cZ n T k M uw.2.2.1 (cx_u (cx_u (cx_u (cx_u Z 0 uw.1) 3 (fun _ => uw.2.1)) 1 uw.2.2.2.2.1) 2 uw.2.2.2.2.2) (cx_u F 0 uw.2.2.2.1))) := by
  refine cx_Mi.of (cc := cX7_call) (maxL := 9) cx_NW_ok (by decide) rfl (Nat.le_of_ble_eq_true rfl) ?_
  intro p e s m args below meth c Q A ls hx hb hml hown hts hE RET hS hl
  have hl : lv_has ls 9 [(0, .ref (q 0)), (1, .int xa), (2, .int xb), (3, .int xe), (4, .int xf)] := hl
  have hown : s.vm.findClass RX7 = some m.cls := hown
  have hinX7 : ∀ w ∈ u_ws RX7 TX7 22, w ∈ wsX7_call := cx_mem [147, 148, 149, 150, 151, 152, 153, 154, 155, 156, 157, 158, 159, 160, 161, 162, 163, 164, 165, 166, 167, 168] (by decide +kernel)
  refine lv_aload_n hx hb dX7_call_0 rfl (lv_at hl 0 rfl) ?_
  refine lv_iload_n hx hb dX7_call_1 rfl (lv_at hl 1 rfl) ?_
  refine cx_cVi (As := [.int xa]) (rest := []) ⟨hx, hb, hml, hown, hts⟩ hE hS (c_X7_isType l D q cI cZ n T k M d Z F xa (by first | assumption | omega)) (cwV 1 hts gX7_call_X7_isType rfl rfl rfl (by decide +kernel) ⟨Nat.le_of_ble_eq_true rfl, Nat.le_of_ble_eq_true rfl⟩) 0 7 rfl rfl rfl hl.1 rfl (Nat.le_of_ble_eq_true rfl) ⟨Nat.zero_le _, Nat.zero_le _⟩ dX7_call_2 (fun r_2 u_2 H locs hp_2 hS => ?_)
  have hp_2 : r_2 = cx_b (0 ≤ xa ∧ xa < nI n) := hp_2
  subst hp_2
  have J36 : ∀ (H : Heap) (locs : List Loc) (ls : Array Slot), cx_S D vwCl A s (cyW q cI cZ n T k M d Z F) H locs → lv_has ls 9 [(0, .ref (q 0)), (1, .int xa), (2, .int xb), (3, .int xe), (4, .int xf)] → W p l e ({ frames := 8, cells := 0, slots := 0, locals := 187 } : Room) s m args below meth c H locs 0 0 Q (F0 m 36 ls []) := by
    intro  H locs ls  hS hl
    refine lv_iconst (v := (-1 : Int32)) hx hb dX7_call_36 (by decide) ?_
    exact RET _ (Z 0, (Z 3) 0, d, F 0, Z 1, Z 2) _ _ _ _ dX7_call_37 rfl (⟨(by first | assumption | exact hKN), trivial⟩) hS
  refine lv_if_eq (tgt := 36) hx hb dX7_call_5 (by decide) (fun h5 => ?_) (fun h5 => ?_)
  · skip
    have g5 := cx_b0 h5
    exact J36  _ _ _  hS (lv_sub hl [0, 1, 2, 3, 4] rfl)
  · skip
    have g5 := cx_b1 h5
    have hq5 := (cx_ixT (by omega) g5).2
    refine lv_aload_n hx hb dX7_call_8 rfl (lv_at hl 0 rfl) ?_
    refine lv_iload_n hx hb dX7_call_9 rfl (lv_at hl 2 rfl) ?_
    refine cx_cVi (As := [.int xb]) (rest := []) ⟨hx, hb, hml, hown, hts⟩ hE hS (c_X7_isType l D q cI cZ n T k M d Z F xb (by first | assumption | omega)) (cwV 1 hts gX7_call_X7_isType rfl rfl rfl (by decide +kernel) ⟨Nat.le_of_ble_eq_true rfl, Nat.le_of_ble_eq_true rfl⟩) 0 7 rfl rfl rfl hl.1 rfl (Nat.le_of_ble_eq_true rfl) ⟨Nat.zero_le _, Nat.zero_le _⟩ dX7_call_10 (fun r_10 u_10 H locs hp_10 hS => ?_)
    have hp_10 : r_10 = cx_b (0 ≤ xb ∧ xb < nI n) := hp_10
    subst hp_10
    refine lv_if_eq (tgt := 36) hx hb dX7_call_13 (by decide) (fun h13 => ?_) (fun h13 => ?_)
    · skip
      have g13 := cx_b0 h13
      exact J36  _ _ _  hS (lv_sub hl [0, 1, 2, 3, 4] rfl)
    · skip
      have g13 := cx_b1 h13
      have hq13 := (cx_ixT (by omega) g13).2
      refine lv_iload_n hx hb dX7_call_16 rfl (lv_at hl 3 rfl) ?_
      refine lv_iconst (v := (0 : Int32)) hx hb dX7_call_17 (by decide) ?_
      refine lv_bipush (v := nI 9) hx hb dX7_call_18 (by decide) ?_
      refine cx_cSi (As := [.int xe, .int (0 : Int32), .int (nI 9)]) (rest := []) ⟨hx, hb, hml, hown, hts⟩ hE hS (c_X7_in l D [(cI, .int), (cZ, .boolean)] (cyW q cI cZ n T k M d Z F) xe (0 : Int32) (nI 9) ) (va_cwS 3 hts gX7_call_X7_in rfl rfl rfl (by decide +kernel) ⟨Nat.le_of_ble_eq_true rfl, Nat.le_of_ble_eq_true rfl⟩) rfl hl.1 rfl (Nat.le_of_ble_eq_true rfl) ⟨Nat.zero_le _, Nat.zero_le _⟩ dX7_call_20 (fun r_20 u_20 H locs hp_20 hS => ?_)
      have hp_20 : r_20 = cx_b ((0 : Int32) ≤ xe ∧ xe ≤ (nI 9)) := hp_20
      subst hp_20
      refine lv_if_eq (tgt := 36) hx hb dX7_call_23 (by decide) (fun h23 => ?_) (fun h23 => ?_)
      · skip
        have g23 := cx_b0 h23
        exact J36  _ _ _  hS (lv_sub hl [0, 1, 2, 3, 4] rfl)
      · skip
        have g23 := cx_b1 h23
        refine lv_iload hx hb dX7_call_26 (lv_at hl 4 rfl) ?_
        refine lv_iconst (v := (0 : Int32)) hx hb dX7_call_28 (by decide) ?_
        refine lv_iconst (v := nI 4) hx hb dX7_call_29 (by decide) ?_
        refine cx_cSi (As := [.int xf, .int (0 : Int32), .int (nI 4)]) (rest := []) ⟨hx, hb, hml, hown, hts⟩ hE hS (c_X7_in l D [(cI, .int), (cZ, .boolean)] (cyW q cI cZ n T k M d Z F) xf (0 : Int32) (nI 4) ) (va_cwS 3 hts gX7_call_X7_in rfl rfl rfl (by decide +kernel) ⟨Nat.le_of_ble_eq_true rfl, Nat.le_of_ble_eq_true rfl⟩) rfl hl.1 rfl (Nat.le_of_ble_eq_true rfl) ⟨Nat.zero_le _, Nat.zero_le _⟩ dX7_call_30 (fun r_30 u_30 H locs hp_30 hS => ?_)
        have hp_30 : r_30 = cx_b ((0 : Int32) ≤ xf ∧ xf ≤ (nI 4)) := hp_30
        subst hp_30
        refine lv_if_ne (tgt := 38) hx hb dX7_call_33 (by decide) (fun h33 => ?_) (fun h33 => ?_)
        · skip
          have g33 := cx_b1 h33
          refine lv_aload_n hx hb dX7_call_38 rfl (lv_at hl 0 rfl) ?_
          refine lv_iload_n hx hb dX7_call_39 rfl (lv_at hl 2 rfl) ?_
          refine cx_topr (z := nI (xb.toNatClampNeg)) (cx_ixT (by omega) g13).1 ?_
          refine cx_cVi (As := [.int (nI (xb.toNatClampNeg))]) (rest := []) ⟨hx, hb, hml, hown, hts⟩ hE hS (c_X7_isWrongType l D q cI cZ n T k M d Z F xb.toNatClampNeg (by first | assumption | omega) (by first | assumption | omega) (by first | assumption | omega) (by first | assumption | omega) (by first | assumption | omega) (by first | assumption | omega) (by first | assumption | omega) (by first | assumption | omega) (by first | assumption | omega) (by first | assumption | omega)) (cwV 1 hts gX7_call_X7_isWrongType rfl rfl rfl (by decide +kernel) ⟨Nat.le_of_ble_eq_true rfl, Nat.le_of_ble_eq_true rfl⟩) 0 7 rfl rfl rfl hl.1 rfl (Nat.le_of_ble_eq_true rfl) ⟨Nat.zero_le _, Nat.zero_le _⟩ dX7_call_40 (fun r_40 u_40 H locs hp_40 hS => ?_)
          obtain ⟨za_40, kn_40, d1_40, fo_40, zf_40⟩ := u_40
          have hS : cx_S D vwCl A s (cyW q cI cZ n T k M d1_40 (cx_u (cx_u (cx_u Z 0 za_40) 3 (fun _ => kn_40)) 1 zf_40) (cx_u F 0 fo_40)) H locs := hS
          obtain ⟨hKN_40, hp_40⟩ := hp_40
          have hKN_40 : cx_KN n T za_40 kn_40 := hKN_40
          have hp_40 : r_40 = 0 ∨ r_40 = 1 := hp_40
          have J55 : ∀ (Z_0_55 : Nat → Int32) (Z_3_55 : Nat → Int32) (H : Heap) (locs : List Loc) (ls : Array Slot), (cx_KN n T Z_0_55 (Z_3_55 0)) → cx_S D vwCl A s (cyW q cI cZ n T k M d1_40 (cx_u (cx_u (cx_u Z 1 zf_40) 0 Z_0_55) 3 Z_3_55) (cx_u F 0 fo_40)) H locs → lv_has ls 9 [(0, .ref (q 0)), (1, .int xa), (2, .int xb), (3, .int xe), (4, .int xf)] → W p l e ({ frames := 8, cells := 0, slots := 0, locals := 187 } : Room) s m args below meth c H locs 0 0 Q (F0 m 55 ls []) := by
            intro Z_0_55 Z_3_55 H locs ls hKN55 hS hl
            refine lv_bipush (v := (-4 : Int32)) hx hb dX7_call_55 (by decide) ?_
            exact RET _ (Z_0_55, Z_3_55 0, d1_40, fo_40, zf_40, Z 2) _ _ _ _ dX7_call_57 rfl (⟨(by first | assumption | exact hKN), trivial⟩) hS
          refine lv_if_ne (tgt := 55) hx hb dX7_call_43 (by decide) (fun h43 => ?_) (fun h43 => ?_)
          · skip
            exact J55 za_40 (fun _ => kn_40) _ _ _ (by first | assumption | exact hKN) hS (lv_sub hl [0, 1, 2, 3, 4] rfl)
          · skip
            refine lv_aload_n hx hb dX7_call_46 rfl (lv_at hl 0 rfl) ?_
            refine lv_iload_n hx hb dX7_call_47 rfl (lv_at hl 2 rfl) ?_
            refine cx_topr (z := nI (xb.toNatClampNeg)) (cx_ixT (by omega) g13).1 ?_
            refine lv_iload_n hx hb dX7_call_48 rfl (lv_at hl 1 rfl) ?_
            refine cx_topr (z := nI (xa.toNatClampNeg)) (cx_ixT (by omega) g5).1 ?_
            refine cx_cVi (As := [.int (nI (xb.toNatClampNeg)), .int (nI (xa.toNatClampNeg))]) (rest := []) ⟨hx, hb, hml, hown, hts⟩ hE hS (c_X7_isOf l D q cI cZ n T k M d1_40 (cx_u (cx_u (cx_u Z 0 za_40) 3 (fun _ => kn_40)) 1 zf_40) (cx_u F 0 fo_40) xb.toNatClampNeg xa.toNatClampNeg (by first | assumption | omega) (by first | assumption | omega) (by first | assumption | omega) (by first | assumption | omega) (by first | assumption | omega) (by first | assumption | omega) (by first | assumption | omega)) (cwV 2 hts gX7_call_X7_isOf rfl rfl rfl (by decide +kernel) ⟨Nat.le_of_ble_eq_true rfl, Nat.le_of_ble_eq_true rfl⟩) 0 7 rfl rfl rfl hl.1 rfl (Nat.le_of_ble_eq_true rfl) ⟨Nat.zero_le _, Nat.zero_le _⟩ dX7_call_49 (fun r_49 u_49 H locs hp_49 hS => ?_)
            obtain ⟨za_49, kn_49⟩ := u_49
            have hS : cx_S D vwCl A s (cyW q cI cZ n T k M d1_40 (cx_u (cx_u (cx_u Z 1 zf_40) 0 za_49) 3 (fun _ => kn_49)) (cx_u F 0 fo_40)) H locs := hS
            obtain ⟨hKN_49, hp_49⟩ := hp_49
            have hKN_49 : cx_KN n T za_49 kn_49 := hKN_49
            have hp_49 : (r_49 = 0 ∨ r_49 = 1) ∧ (xb.toNatClampNeg < n → xa.toNatClampNeg < n → (¬ r_49 = 0 ↔ (xb.toNatClampNeg = xa.toNatClampNeg ∨ cx_w3 n (cx_Er T n) n xb.toNatClampNeg xa.toNatClampNeg))) := hp_49
            refine lv_if_ne (tgt := 58) hx hb dX7_call_52 (by decide) (fun h52 => ?_) (fun h52 => ?_)
            · skip
              refine lv_aload_n hx hb dX7_call_58 rfl (lv_at hl 0 rfl) ?_
              refine lv_iload_n hx hb dX7_call_59 rfl (lv_at hl 1 rfl) ?_
              refine cx_topr (z := nI (xa.toNatClampNeg)) (cx_ixT (by omega) g5).1 ?_
              refine lv_iload_n hx hb dX7_call_60 rfl (lv_at hl 3 rfl) ?_
              refine lv_iload hx hb dX7_call_61 (lv_at hl 4 rfl) ?_
              refine cx_cVi (As := [.int (nI (xa.toNatClampNeg)), .int xe, .int xf]) (rest := []) ⟨hx, hb, hml, hown, hts⟩ hE hS (c_X7_classOne l D q cI cZ n T k M d1_40 (cx_u (cx_u (cx_u Z 1 zf_40) 0 za_49) 3 (fun _ => kn_49)) (cx_u F 0 fo_40) xa.toNatClampNeg xe xf (by first | assumption | omega) (by first | assumption | omega) (by first | assumption | omega) (by first | assumption | omega) (by first | assumption | omega) (by first | assumption | omega) (by first | assumption | omega) (by first | assumption | omega)) (cwV 3 hts gX7_call_X7_classOne rfl rfl rfl (by decide +kernel) ⟨Nat.le_of_ble_eq_true rfl, Nat.le_of_ble_eq_true rfl⟩) 0 7 rfl rfl rfl hl.1 rfl (Nat.le_of_ble_eq_true rfl) ⟨Nat.zero_le _, Nat.zero_le _⟩ dX7_call_63 (fun r_63 u_63 H locs hp_63 hS => ?_)
              obtain ⟨za_63, kn_63⟩ := u_63
              have hS : cx_S D vwCl A s (cyW q cI cZ n T k M d1_40 (cx_u (cx_u (cx_u Z 1 zf_40) 0 za_63) 3 (fun _ => kn_63)) (cx_u F 0 fo_40)) H locs := hS
              obtain ⟨hKN_63, hp_63⟩ := hp_63
              have hKN_63 : cx_KN n T za_63 kn_63 := hKN_63
              have hp_63 : r_63 = -1 ∨ cx_ix r_63 80 := hp_63
              refine lv_istore (lv' := [(5, .int r_63), (0, .ref (q 0)), (1, .int xa), (2, .int xb), (3, .int xe), (4, .int xf)]) hx hb dX7_call_66 hl (by decide) rfl (fun ls hl => ?_)
              refine lv_iload hx hb dX7_call_68 (lv_at hl 0 rfl) ?_
              have J88 : ∀ (v88_l5 : Int32) (d_88 : Nat) (Z_0_88 : Nat → Int32) (Z_3_88 : Nat → Int32) (F_0_88 : Nat → Int32) (H : Heap) (locs : List Loc) (ls : Array Slot), (cx_KN n T Z_0_88 (Z_3_88 0)) → (v88_l5 = -1 ∨ cx_ix v88_l5 80) → cx_S D vwCl A s (cyW q cI cZ n T k M d_88 (cx_u (cx_u (cx_u Z 1 zf_40) 0 Z_0_88) 3 Z_3_88) (cx_u F 0 F_0_88)) H locs → lv_has ls 9 [(0, .ref (q 0)), (1, .int xa), (2, .int xb), (3, .int xe), (4, .int xf), (5, .int v88_l5)] → W p l e ({ frames := 8, cells := 0, slots := 0, locals := 187 } : Room) s m args below meth c H locs 0 0 Q (F0 m 88 ls []) := by
                intro v88_l5 d_88 Z_0_88 Z_3_88 F_0_88 H locs ls hKN88 hv hS hl
                refine lv_iload hx hb dX7_call_88 (lv_at hl 5 rfl) ?_
                refine lv_if_ge (tgt := 96) hx hb dX7_call_90 (by decide) (fun h90 => ?_) (fun h90 => ?_)
                · skip
                  have hq90 := (cx_pg hv h90).2
                  refine lv_aload_n hx hb dX7_call_96 rfl (lv_at hl 0 rfl) ?_
                  refine cx_get (own := RX7) (index := 46) (C := RX7) (T := TX7) (N := 22) (k := 14) (ci := 7) (v := .ref (q 13)) hx hb hts hown hE hS hinX7 0 rfl rfl (by decide) (List.mem_of_getElem? (i := 1) rfl) rfl dX7_call_97 ?_
                  refine lv_iload hx hb dX7_call_100 (lv_at hl 5 rfl) ?_
                  refine cx_topr (z := nI (v88_l5.toNatClampNeg)) (cx_pg hv h90).1 ?_
                  refine cx_iald (f := (M 4)) (n := 80) (cA := cI) hx hb hE hS 13 0 rfl rfl (by omega) (by decide) dX7_call_102 ?_
                  refine lv_if_ne (tgt := 109) hx hb dX7_call_103 (by decide) (fun h103 => ?_) (fun h103 => ?_)
                  · skip
                    refine lv_aload_n hx hb dX7_call_109 rfl (lv_at hl 0 rfl) ?_
                    refine cx_get (own := RX7) (index := 7) (C := RX7) (T := TX7) (N := 22) (k := 1) (ci := 7) (v := .ref (q 1)) hx hb hts hown hE hS hinX7 0 rfl rfl (by decide) (List.mem_of_getElem? (i := 2) rfl) rfl dX7_call_110 ?_
                    refine lv_aload_n hx hb dX7_call_113 rfl (lv_at hl 0 rfl) ?_
                    refine cx_get (own := RX7) (index := 34) (C := RX7) (T := TX7) (N := 22) (k := 10) (ci := 7) (v := .ref (q 9)) hx hb hts hown hE hS hinX7 0 rfl rfl (by decide) (List.mem_of_getElem? (i := 3) rfl) rfl dX7_call_114 ?_
                    refine lv_iload hx hb dX7_call_117 (lv_at hl 5 rfl) ?_
                    refine cx_topr (z := nI (v88_l5.toNatClampNeg)) (cx_pg hv h90).1 ?_
                    refine cx_iald (f := (M 0)) (n := 80) (cA := cI) hx hb hE hS 9 0 rfl rfl (by omega) (by decide) dX7_call_119 ?_
                    have ho119 := (hO v88_l5.toNatClampNeg).2
                    refine cx_topr (z := nI (((M 0) v88_l5.toNatClampNeg).toNatClampNeg)) (hO v88_l5.toNatClampNeg).1 ?_
                    refine cx_iald (f := (T 0)) (n := 20) (cA := cI) hx hb hE hS 1 0 rfl rfl (by omega) (by decide) dX7_call_120 ?_
                    refine lv_iconst (v := (1 : Int32)) hx hb dX7_call_121 (by decide) ?_
                    refine lv_icmp_ne (tgt := 134) hx hb dX7_call_122 (by decide) (fun h122 => ?_) (fun h122 => ?_)
                    · skip
                      refine lv_aload_n hx hb dX7_call_134 rfl (lv_at hl 0 rfl) ?_
                      refine lv_iload hx hb dX7_call_135 (lv_at hl 5 rfl) ?_
                      refine cx_topr (z := nI (v88_l5.toNatClampNeg)) (cx_pg hv h90).1 ?_
                      refine cx_cVv (As := [.int (nI (v88_l5.toNatClampNeg))]) (rest := []) ⟨hx, hb, hml, hown, hts⟩ hE hS (c_X7_findTaking l D q cI cZ n T k M d_88 (cx_u (cx_u (cx_u Z 1 zf_40) 0 Z_0_88) 3 Z_3_88) (cx_u F 0 F_0_88) v88_l5.toNatClampNeg (by first | assumption | omega) (by first | assumption | omega) (by first | assumption | omega)) (cwV 1 hts gX7_call_X7_findTaking rfl rfl rfl (by decide +kernel) ⟨Nat.le_of_ble_eq_true rfl, Nat.le_of_ble_eq_true rfl⟩) 0 7 rfl rfl rfl hl.1 rfl (Nat.le_of_ble_eq_true rfl) ⟨Nat.zero_le _, Nat.zero_le _⟩ dX7_call_137 (fun u_137 H locs hp_137 hS => ?_)
                      obtain ⟨zt_137, rfl⟩ : ∃ z, z = u_137 := ⟨_, rfl⟩
                      have hS : cx_S D vwCl A s (cyW q cI cZ n T k M d_88 (cx_u (cx_u (cx_u (cx_u Z 1 zf_40) 0 Z_0_88) 3 Z_3_88) 2 zt_137) (cx_u F 0 F_0_88)) H locs := hS
                      refine lv_iload_n hx hb dX7_call_140 rfl (lv_at hl 2 rfl) ?_
                      refine lv_istore (lv' := [(6, .int xb), (0, .ref (q 0)), (1, .int xa), (2, .int xb), (3, .int xe), (4, .int xf), (5, .int v88_l5)]) hx hb dX7_call_141 hl (by decide) rfl (fun ls hl => ?_)
                      refine lv_iconst (v := (0 : Int32)) hx hb dX7_call_143 (by decide) ?_
                      refine cx_topr (z := nI 0) (by decide) ?_
                      refine lv_istore (lv' := [(7, .int (nI 0)), (6, .int xb), (0, .ref (q 0)), (1, .int xa), (2, .int xb), (3, .int xe), (4, .int xf), (5, .int v88_l5)]) hx hb dX7_call_144 hl (by decide) rfl (fun ls hl => ?_)
                      have J146 : ∀ (N : Nat) (v146_l6 : Int32) (i146 : Nat) (H : Heap) (locs : List Loc) (ls : Array Slot), (20 - i146 < N) → (i146 ≤ 20) → cx_S D vwCl A s (cyW q cI cZ n T k M d_88 (cx_u (cx_u (cx_u (cx_u Z 1 zf_40) 0 Z_0_88) 3 Z_3_88) 2 zt_137) (cx_u F 0 F_0_88)) H locs → lv_has ls 9 [(0, .ref (q 0)), (1, .int xa), (2, .int xb), (3, .int xe), (4, .int xf), (5, .int v88_l5), (6, .int v146_l6), (7, .int (nI i146))] → W p l e ({ frames := 8, cells := 0, slots := 0, locals := 187 } : Room) s m args below meth c H locs 0 0 Q (F0 m 146 ls []) := by
                        intro N146
                        induction N146 with
                        | zero => intro v146_l6 i146 H locs ls hN; exact absurd hN (by omega)
                        | succ N146 ih146 =>
                          intro v146_l6 i146 H locs ls hN146 hi146 hS hl
                          refine lv_iload hx hb dX7_call_146 (lv_at hl 7 rfl) ?_
                          refine lv_bipush (v := nI 20) hx hb dX7_call_148 (by decide) ?_
                          have J249 : ∀ (H : Heap) (locs : List Loc) (ls : Array Slot), cx_S D vwCl A s (cyW q cI cZ n T k M d_88 (cx_u (cx_u (cx_u (cx_u Z 1 zf_40) 0 Z_0_88) 3 Z_3_88) 2 zt_137) (cx_u F 0 F_0_88)) H locs → lv_has ls 9 [(0, .ref (q 0)), (1, .int xa), (2, .int xb), (3, .int xe), (4, .int xf), (5, .int v88_l5), (6, .int v146_l6), (7, .int (nI i146))] → W p l e ({ frames := 8, cells := 0, slots := 0, locals := 187 } : Room) s m args below meth c H locs 0 0 Q (F0 m 249 ls []) := by
                            intro  H locs ls  hS hl
                            refine lv_bipush (v := (-3 : Int32)) hx hb dX7_call_249 (by decide) ?_
                            exact RET _ (Z_0_88, Z_3_88 0, d_88, F_0_88, zf_40, zt_137) _ _ _ _ dX7_call_251 rfl (⟨(by first | assumption | exact hKN), trivial⟩) hS
                          refine lv_icmp_ge (tgt := 249) hx hb dX7_call_150 (by decide) (fun h150 => ?_) (fun h150 => ?_)
                          · skip
                            have g150 : 20 ≤ i146 := (nI_leI (a := 20) (b := i146) (by omega) (by omega)).mp h150
                            exact J249  _ _ _  hS (lv_sub hl [0, 1, 2, 3, 4, 5, 6, 7] rfl)
                          · skip
                            have g150 : ¬ (20 ≤ i146) := fun z => h150 ((nI_leI (a := 20) (b := i146) (by omega) (by omega)).mpr z)
                            refine lv_aload_n hx hb dX7_call_153 rfl (lv_at hl 0 rfl) ?_
                            refine lv_iload hx hb dX7_call_154 (lv_at hl 6 rfl) ?_
                            refine cx_cVi (As := [.int v146_l6]) (rest := []) ⟨hx, hb, hml, hown, hts⟩ hE hS (c_X7_isType l D q cI cZ n T k M d_88 (cx_u (cx_u (cx_u (cx_u Z 1 zf_40) 0 Z_0_88) 3 Z_3_88) 2 zt_137) (cx_u F 0 F_0_88) v146_l6 (by first | assumption | omega)) (cwV 1 hts gX7_call_X7_isType rfl rfl rfl (by decide +kernel) ⟨Nat.le_of_ble_eq_true rfl, Nat.le_of_ble_eq_true rfl⟩) 0 7 rfl rfl rfl hl.1 rfl (Nat.le_of_ble_eq_true rfl) ⟨Nat.zero_le _, Nat.zero_le _⟩ dX7_call_156 (fun r_156 u_156 H locs hp_156 hS => ?_)
                            have hp_156 : r_156 = cx_b (0 ≤ v146_l6 ∧ v146_l6 < nI n) := hp_156
                            subst hp_156
                            refine lv_if_eq (tgt := 249) hx hb dX7_call_159 (by decide) (fun h159 => ?_) (fun h159 => ?_)
                            · skip
                              have g159 := cx_b0 h159
                              exact J249  _ _ _  hS (lv_sub hl [0, 1, 2, 3, 4, 5, 6, 7] rfl)
                            · skip
                              have g159 := cx_b1 h159
                              refine lv_iconst (v := (0 : Int32)) hx hb dX7_call_162 (by decide) ?_
                              refine cx_topr (z := nI 0) (by decide) ?_
                              refine lv_istore (lv' := [(8, .int (nI 0)), (0, .ref (q 0)), (1, .int xa), (2, .int xb), (3, .int xe), (4, .int xf), (5, .int v88_l5), (6, .int v146_l6), (7, .int (nI i146))]) hx hb dX7_call_163 hl (by decide) rfl (fun ls hl => ?_)
                              have J165 : ∀ (N : Nat) (i165 : Nat) (H : Heap) (locs : List Loc) (ls : Array Slot), (k - i165 < N) → (i165 ≤ k) → cx_S D vwCl A s (cyW q cI cZ n T k M d_88 (cx_u (cx_u (cx_u (cx_u Z 1 zf_40) 0 Z_0_88) 3 Z_3_88) 2 zt_137) (cx_u F 0 F_0_88)) H locs → lv_has ls 9 [(0, .ref (q 0)), (1, .int xa), (2, .int xb), (3, .int xe), (4, .int xf), (5, .int v88_l5), (6, .int v146_l6), (7, .int (nI i146)), (8, .int (nI i165))] → W p l e ({ frames := 8, cells := 0, slots := 0, locals := 187 } : Room) s m args below meth c H locs 0 0 Q (F0 m 165 ls []) := by
                                intro N165
                                induction N165 with
                                | zero => intro i165 H locs ls hN; exact absurd hN (by omega)
                                | succ N165 ih165 =>
                                  intro i165 H locs ls hN165 hi165 hS hl
                                  refine lv_iload hx hb dX7_call_165 (lv_at hl 8 rfl) ?_
                                  refine lv_aload_n hx hb dX7_call_167 rfl (lv_at hl 0 rfl) ?_
                                  refine cx_get (own := RX7) (index := 81) (C := RX7) (T := TX7) (N := 22) (k := 9) (ci := 7) (v := .int (nI k)) hx hb hts hown hE hS hinX7 0 rfl rfl (by decide) (List.mem_of_getElem? (i := 4) rfl) rfl dX7_call_168 ?_
                                  refine lv_icmp_ge (tgt := 234) hx hb dX7_call_171 (by decide) (fun h171 => ?_) (fun h171 => ?_)
                                  · skip
                                    have g171 : k ≤ i165 := (nI_leI (a := k) (b := i165) (by omega) (by omega)).mp h171
                                    refine lv_aload_n hx hb dX7_call_234 rfl (lv_at hl 0 rfl) ?_
                                    refine cx_get (own := RX7) (index := 19) (C := RX7) (T := TX7) (N := 22) (k := 4) (ci := 7) (v := .ref (q 4)) hx hb hts hown hE hS hinX7 0 rfl rfl (by decide) (List.mem_of_getElem? (i := 6) rfl) rfl dX7_call_235 ?_
                                    refine lv_iload hx hb dX7_call_238 (lv_at hl 6 rfl) ?_
                                    refine cx_topr (z := nI (v146_l6.toNatClampNeg)) (cx_ixT (by omega) g159).1 ?_
                                    refine cx_iald (f := (T 3)) (n := 20) (cA := cI) hx hb hE hS 4 0 rfl rfl (by have := (cx_ixT (by omega) g159).2; omega) (by decide) dX7_call_240 ?_
                                    refine lv_istore (lv' := [(6, .int ((T 3) v146_l6.toNatClampNeg)), (0, .ref (q 0)), (1, .int xa), (2, .int xb), (3, .int xe), (4, .int xf), (5, .int v88_l5), (7, .int (nI i146)), (8, .int (nI i165))]) hx hb dX7_call_241 hl (by decide) rfl (fun ls hl => ?_)
                                    refine lv_iinc (v := nI (i146 + 1)) (lv' := [(7, .int (nI (i146 + 1))), (6, .int ((T 3) v146_l6.toNatClampNeg)), (0, .ref (q 0)), (1, .int xa), (2, .int xb), (3, .int xe), (4, .int xf), (5, .int v88_l5), (8, .int (nI i165))]) hx hb dX7_call_243 hl (k := 7) rfl (cx_inc _) (by decide) rfl (fun ls hl => ?_)
                                    refine lv_goto (tgt := 146) hx hb dX7_call_246 (by decide) ?_
                                    exact ih146 ((T 3) v146_l6.toNatClampNeg) (i146 + 1) _ _ _ (by omega) (by omega) hS (lv_sub hl [2, 3, 4, 5, 6, 7, 1, 0] rfl)
                                  · skip
                                    have g171 : ¬ (k ≤ i165) := fun z => h171 ((nI_leI (a := k) (b := i165) (by omega) (by omega)).mpr z)
                                    refine lv_aload_n hx hb dX7_call_174 rfl (lv_at hl 0 rfl) ?_
                                    refine cx_get (own := RX7) (index := 34) (C := RX7) (T := TX7) (N := 22) (k := 10) (ci := 7) (v := .ref (q 9)) hx hb hts hown hE hS hinX7 0 rfl rfl (by decide) (List.mem_of_getElem? (i := 3) rfl) rfl dX7_call_175 ?_
                                    refine lv_iload hx hb dX7_call_178 (lv_at hl 8 rfl) ?_
                                    refine cx_iald (f := (M 0)) (n := 80) (cA := cI) hx hb hE hS 9 0 rfl rfl (by omega) (by decide) dX7_call_180 ?_
                                    refine lv_iload hx hb dX7_call_181 (lv_at hl 6 rfl) ?_
                                    have J228 : ∀ (H : Heap) (locs : List Loc) (ls : Array Slot), cx_S D vwCl A s (cyW q cI cZ n T k M d_88 (cx_u (cx_u (cx_u (cx_u Z 1 zf_40) 0 Z_0_88) 3 Z_3_88) 2 zt_137) (cx_u F 0 F_0_88)) H locs → lv_has ls 9 [(0, .ref (q 0)), (1, .int xa), (2, .int xb), (3, .int xe), (4, .int xf), (5, .int v88_l5), (6, .int v146_l6), (7, .int (nI i146)), (8, .int (nI i165))] → W p l e ({ frames := 8, cells := 0, slots := 0, locals := 187 } : Room) s m args below meth c H locs 0 0 Q (F0 m 228 ls []) := by
                                      intro  H locs ls  hS hl
                                      refine lv_iinc (v := nI (i165 + 1)) (lv' := [(8, .int (nI (i165 + 1))), (0, .ref (q 0)), (1, .int xa), (2, .int xb), (3, .int xe), (4, .int xf), (5, .int v88_l5), (6, .int v146_l6), (7, .int (nI i146))]) hx hb dX7_call_228 hl (k := 8) rfl (cx_inc _) (by decide) rfl (fun ls hl => ?_)
                                      refine lv_goto (tgt := 165) hx hb dX7_call_231 (by decide) ?_
                                      exact ih165 (i165 + 1) _ _ _ (by omega) (by omega) hS (lv_sub hl [1, 2, 3, 4, 5, 6, 7, 8, 0] rfl)
                                    refine lv_icmp_ne (tgt := 228) hx hb dX7_call_183 (by decide) (fun h183 => ?_) (fun h183 => ?_)
                                    · skip
                                      exact J228  _ _ _  hS (lv_sub hl [0, 1, 2, 3, 4, 5, 6, 7, 8] rfl)
                                    · skip
                                      refine lv_iload hx hb dX7_call_186 (lv_at hl 8 rfl) ?_
                                      refine lv_iload hx hb dX7_call_188 (lv_at hl 5 rfl) ?_
                                      have J209 : ∀ (H : Heap) (locs : List Loc) (ls : Array Slot), cx_S D vwCl A s (cyW q cI cZ n T k M d_88 (cx_u (cx_u (cx_u (cx_u Z 1 zf_40) 0 Z_0_88) 3 Z_3_88) 2 zt_137) (cx_u F 0 F_0_88)) H locs → lv_has ls 9 [(0, .ref (q 0)), (1, .int xa), (2, .int xb), (3, .int xe), (4, .int xf), (5, .int v88_l5), (6, .int v146_l6), (7, .int (nI i146)), (8, .int (nI i165))] → W p l e ({ frames := 8, cells := 0, slots := 0, locals := 187 } : Room) s m args below meth c H locs 0 0 Q (F0 m 209 ls []) := by
                                        intro  H locs ls  hS hl
                                        refine lv_aload_n hx hb dX7_call_209 rfl (lv_at hl 0 rfl) ?_
                                        refine lv_iload hx hb dX7_call_210 (lv_at hl 8 rfl) ?_
                                        refine lv_iconst (v := (1 : Int32)) hx hb dX7_call_212 (by decide) ?_
                                        refine lv_iconst (v := (1 : Int32)) hx hb dX7_call_213 (by decide) ?_
                                        refine cx_cVi (As := [.int (nI i165), .int (1 : Int32), .int (1 : Int32)]) (rest := []) ⟨hx, hb, hml, hown, hts⟩ hE hS (c_X7_is l D q cI cZ n T k M d_88 (cx_u (cx_u (cx_u (cx_u Z 1 zf_40) 0 Z_0_88) 3 Z_3_88) 2 zt_137) (cx_u F 0 F_0_88) i165 (1 : Int32) (1 : Int32) (by first | assumption | omega)) (cwV 3 hts gX7_call_X7_is rfl rfl rfl (by decide +kernel) ⟨Nat.le_of_ble_eq_true rfl, Nat.le_of_ble_eq_true rfl⟩) 0 7 rfl rfl rfl hl.1 rfl (Nat.le_of_ble_eq_true rfl) ⟨Nat.zero_le _, Nat.zero_le _⟩ dX7_call_214 (fun r_214 u_214 H locs hp_214 hS => ?_)
                                        have hp_214 : r_214 = cx_b ((cx_b (¬ (((M 3) i165) &&& (1 : Int32)) = 0)) = (1 : Int32)) := hp_214
                                        subst hp_214
                                        have J227 : ∀ (v227_s0 : Int32) (H : Heap) (locs : List Loc) (ls : Array Slot), cx_S D vwCl A s (cyW q cI cZ n T k M d_88 (cx_u (cx_u (cx_u (cx_u Z 1 zf_40) 0 Z_0_88) 3 Z_3_88) 2 zt_137) (cx_u F 0 F_0_88)) H locs → lv_has ls 9 [(0, .ref (q 0)), (1, .int xa), (2, .int xb), (3, .int xe), (4, .int xf), (5, .int v88_l5), (6, .int v146_l6), (7, .int (nI i146)), (8, .int (nI i165))] → W p l e ({ frames := 8, cells := 0, slots := 0, locals := 187 } : Room) s m args below meth c H locs 0 0 Q (F0 m 227 ls [.int v227_s0]) := by
                                          intro v227_s0 H locs ls  hS hl
                                          exact RET _ (Z_0_88, Z_3_88 0, d_88, F_0_88, zf_40, zt_137) _ _ _ _ dX7_call_227 rfl (⟨(by first | assumption | exact hKN), trivial⟩) hS
                                        refine lv_if_eq (tgt := 225) hx hb dX7_call_217 (by decide) (fun h217 => ?_) (fun h217 => ?_)
                                        · skip
                                          have g217 := cx_b0 h217
                                          refine lv_iload hx hb dX7_call_225 (lv_at hl 8 rfl) ?_
                                          exact J227 (nI i165) _ _ _  hS (lv_sub hl [0, 1, 2, 3, 4, 5, 6, 7, 8] rfl)
                                        · skip
                                          have g217 := cx_b1 h217
                                          refine lv_bipush (v := (-3 : Int32)) hx hb dX7_call_220 (by decide) ?_
                                          refine lv_goto (tgt := 227) hx hb dX7_call_222 (by decide) ?_
                                          exact J227 (-3 : Int32) _ _ _  hS (lv_sub hl [0, 1, 2, 3, 4, 5, 6, 7, 8] rfl)
                                      refine lv_icmp_eq (tgt := 209) hx hb dX7_call_190 (by decide) (fun h190 => ?_) (fun h190 => ?_)
                                      · skip
                                        exact J209  _ _ _  hS (lv_sub hl [0, 1, 2, 3, 4, 5, 6, 7, 8] rfl)
                                      · skip
                                        refine lv_aload_n hx hb dX7_call_193 rfl (lv_at hl 0 rfl) ?_
                                        refine cx_get (own := RX7) (index := 62) (C := RX7) (T := TX7) (N := 22) (k := 21) (ci := 7) (v := .ref (q 18)) hx hb hts hown hE hS hinX7 0 rfl rfl (by decide) (List.mem_of_getElem? (i := 5) rfl) rfl dX7_call_194 ?_
                                        refine lv_bipush (v := nI 80) hx hb dX7_call_197 (by decide) ?_
                                        refine lv_iload hx hb dX7_call_199 (lv_at hl 8 rfl) ?_
                                        refine lv_imul hx hb dX7_call_201 ?_
                                        refine cx_topr (z := nI (80 * i165)) (pk_mul _ _) ?_
                                        refine lv_iload hx hb dX7_call_202 (lv_at hl 5 rfl) ?_
                                        refine cx_topr (z := nI (v88_l5.toNatClampNeg)) (cx_pg hv h90).1 ?_
                                        refine lv_iadd hx hb dX7_call_204 ?_
                                        refine cx_topr (z := nI (80 * i165 + v88_l5.toNatClampNeg)) (nI_add _ _) ?_
                                        refine cx_zald (f := zt_137) (n := 6400) (cA := cZ) hx hb hE hS 18 1 rfl rfl (by omega) (by decide) dX7_call_205 ?_
                                        refine lv_if_eq (tgt := 228) hx hb dX7_call_206 (by decide) (fun h206 => ?_) (fun h206 => ?_)
                                        · skip
                                          exact J228  _ _ _  hS (lv_sub hl [0, 1, 2, 3, 4, 5, 6, 7, 8] rfl)
                                        · skip
                                          exact J209  _ _ _  hS (lv_sub hl [0, 1, 2, 3, 4, 5, 6, 7, 8] rfl)
                              exact J165 (k - 0 + 1) 0 _ _ _ (Nat.lt_succ_self _) (by omega) hS (lv_sub hl [1, 2, 3, 4, 5, 6, 7, 8, 0] rfl)
                      exact J146 (20 - 0 + 1) xb 0 _ _ _ (Nat.lt_succ_self _) (by omega) hS (lv_sub hl [2, 3, 4, 5, 6, 7, 1, 0] rfl)
                    · skip
                      refine lv_aload_n hx hb dX7_call_125 rfl (lv_at hl 0 rfl) ?_
                      refine lv_iload_n hx hb dX7_call_126 rfl (lv_at hl 2 rfl) ?_
                      refine cx_topr (z := nI (xb.toNatClampNeg)) (cx_ixT (by omega) g13).1 ?_
                      refine lv_iload_n hx hb dX7_call_127 rfl (lv_at hl 3 rfl) ?_
                      refine lv_iload hx hb dX7_call_128 (lv_at hl 4 rfl) ?_
                      refine cx_cVi (As := [.int (nI (xb.toNatClampNeg)), .int xe, .int xf]) (rest := []) ⟨hx, hb, hml, hown, hts⟩ hE hS (c_X7_running l D q cI cZ n T k M d_88 (cx_u (cx_u (cx_u Z 1 zf_40) 0 Z_0_88) 3 Z_3_88) (cx_u F 0 F_0_88) xb.toNatClampNeg xe xf (by first | assumption | omega) (by first | assumption | omega) (by first | assumption | omega) (by first | assumption | omega) (by first | assumption | omega) (by first | assumption | omega) (by first | assumption | omega) (by first | assumption | omega)) (cwV 3 hts gX7_call_X7_running rfl rfl rfl (by decide +kernel) ⟨Nat.le_of_ble_eq_true rfl, Nat.le_of_ble_eq_true rfl⟩) 0 7 rfl rfl rfl hl.1 rfl (Nat.le_of_ble_eq_true rfl) ⟨Nat.zero_le _, Nat.zero_le _⟩ dX7_call_130 (fun r_130 u_130 H locs hp_130 hS => ?_)
                      obtain ⟨za_130, kn_130, d1_130, fo_130⟩ := u_130
                      have hS : cx_S D vwCl A s (cyW q cI cZ n T k M d1_130 (cx_u (cx_u (cx_u Z 1 zf_40) 0 za_130) 3 (fun _ => kn_130)) (cx_u F 0 fo_130)) H locs := hS
                      obtain ⟨hKN_130, hp_130⟩ := hp_130
                      have hKN_130 : cx_KN n T za_130 kn_130 := hKN_130
                      exact RET _ (za_130, kn_130, d1_130, fo_130, zf_40, Z 2) _ _ _ _ dX7_call_133 rfl (⟨(by first | assumption | exact hKN), trivial⟩) hS
                  · skip
                    refine lv_iload hx hb dX7_call_106 (lv_at hl 5 rfl) ?_
                    exact RET _ (Z_0_88, Z_3_88 0, d_88, F_0_88, zf_40, Z 2) _ _ _ _ dX7_call_108 rfl (⟨(by first | assumption | exact hKN), trivial⟩) hS
                · skip
                  refine lv_bipush (v := (-3 : Int32)) hx hb dX7_call_93 (by decide) ?_
                  exact RET _ (Z_0_88, Z_3_88 0, d_88, F_0_88, zf_40, Z 2) _ _ _ _ dX7_call_95 rfl (⟨(by first | assumption | exact hKN), trivial⟩) hS
              refine lv_if_ge (tgt := 88) hx hb dX7_call_70 (by decide) (fun h70 => ?_) (fun h70 => ?_)
              · skip
                exact J88 r_63 d1_40 za_63 (fun _ => kn_63) fo_40 _ _ _ (by first | assumption | exact hKN) (by first | exact hp_63 | exact hp_83.1) hS (lv_sub hl [1, 2, 3, 4, 5, 0] rfl)
              · skip
                refine lv_aload_n hx hb dX7_call_73 rfl (lv_at hl 1 rfl) ?_
                refine lv_iload_n hx hb dX7_call_74 rfl (lv_at hl 2 rfl) ?_
                refine cx_topr (z := nI (xa.toNatClampNeg)) (cx_ixT (by omega) g5).1 ?_
                refine lv_iload_n hx hb dX7_call_75 rfl (lv_at hl 4 rfl) ?_
                refine lv_iload hx hb dX7_call_76 (lv_at hl 5 rfl) ?_
                refine cx_cVv (As := [.int (nI (xa.toNatClampNeg)), .int xe, .int xf]) (rest := []) ⟨hx, hb, hml, hown, hts⟩ hE hS (c_X7_findFaceOnes l D q cI cZ n T k M d1_40 (cx_u (cx_u (cx_u Z 1 zf_40) 0 za_63) 3 (fun _ => kn_63)) (cx_u F 0 fo_40) xa.toNatClampNeg xe xf (by first | assumption | omega) (by first | assumption | omega) (by first | assumption | omega) (by first | assumption | omega) (by first | assumption | omega) (by first | assumption | omega) (by first | assumption | omega)) (cwV 3 hts gX7_call_X7_findFaceOnes rfl rfl rfl (by decide +kernel) ⟨Nat.le_of_ble_eq_true rfl, Nat.le_of_ble_eq_true rfl⟩) 0 7 rfl rfl rfl hl.1 rfl (Nat.le_of_ble_eq_true rfl) ⟨Nat.zero_le _, Nat.zero_le _⟩ dX7_call_78 (fun u_78 H locs hp_78 hS => ?_)
                obtain ⟨za_78, kn_78, d1_78, fo_78⟩ := u_78
                have hS : cx_S D vwCl A s (cyW q cI cZ n T k M d1_78 (cx_u (cx_u (cx_u Z 1 zf_40) 0 za_78) 3 (fun _ => kn_78)) (cx_u F 0 fo_78)) H locs := hS
                obtain ⟨hKN_78, hp_78⟩ := hp_78
                have hKN_78 : cx_KN n T za_78 kn_78 := hKN_78
                have hp_78 : d1_78 ≤ 20 ∧ ∀ j, j < d1_78 → cx_ix (fo_78 j) 80 := hp_78
                refine lv_aload_n hx hb dX7_call_81 rfl (lv_at hl 1 rfl) ?_
                refine lv_iconst (v := (0 : Int32)) hx hb dX7_call_82 (by decide) ?_
                refine cx_cVi (As := [.int (0 : Int32)]) (rest := []) ⟨hx, hb, hml, hown, hts⟩ hE hS (c_X7_leastFaceOne l D q cI cZ n T k M d1_78 (cx_u (cx_u (cx_u Z 1 zf_40) 0 za_78) 3 (fun _ => kn_78)) (cx_u F 0 fo_78) (0 : Int32) hp_78.1 hp_78.2) (cwV 1 hts gX7_call_X7_leastFaceOne rfl rfl rfl (by decide +kernel) ⟨Nat.le_of_ble_eq_true rfl, Nat.le_of_ble_eq_true rfl⟩) 0 7 rfl rfl rfl hl.1 rfl (Nat.le_of_ble_eq_true rfl) ⟨Nat.zero_le _, Nat.zero_le _⟩ dX7_call_83 (fun r_83 u_83 H locs hp_83 hS => ?_)
                have hp_83 : (r_83 = -1 ∨ cx_ix r_83 80) ∧ ((0 : Int32) = 0 → 0 < d1_78 → cx_ix r_83 80) := hp_83
                refine lv_istore (lv' := [(5, .int r_83), (0, .ref (q 0)), (1, .int xa), (2, .int xb), (3, .int xe), (4, .int xf)]) hx hb dX7_call_86 hl (by decide) rfl (fun ls hl => ?_)
                exact J88 r_83 d1_78 za_78 (fun _ => kn_78) fo_78 _ _ _ (by first | assumption | exact hKN) (by first | exact hp_63 | exact hp_83.1) hS (lv_sub hl [1, 2, 3, 4, 5, 0] rfl)
            · skip
              exact J55 za_49 (fun _ => kn_49) _ _ _ (by first | assumption | exact hKN) hS (lv_sub hl [0, 1, 2, 3, 4] rfl)
        · skip
          have g33 := cx_b0 h33
          exact J36  _ _ _  hS (lv_sub hl [0, 1, 2, 3, 4] rfl)
set_option maxHeartbeats 4000000 in
set_option maxRecDepth 100000 in
theorem c_X7_upper (l : Launch) (D : va_G) (q : Nat → Nat) (cI cZ : ClassId) (n : Nat) (T : Nat → Nat → Int32) (k : Nat) (M : Nat → Nat → Int32) (d : Nat) (Z : Nat → Nat → Int32) (F : Nat → Nat → Int32) (xa : Int32) (xb : Int32) (hn : n ≤ 20) (hV : cx_R (T 5) 4) : cx_Mi l D vwCl [(cI, .int), (cZ, .boolean)] cx_NW yX7_upper wsX7_upper ({ frames := 2, cells := 0, slots := 0, locals := 43 } : Room) [.ref (q 0), .int xa, .int xb] (cyW q cI cZ n T k M d Z F) (fun (r : Int32) (uw : (Nat → Nat → Int32) × (Nat → Nat → Int32)) => (¬ ((0 ≤ xa ∧ xa < nI n) ∧ (0 ≤ xb ∧ xb < nI 20)) ∧ r = (-1 : Int32) ∧ uw.1 = T ∧ uw.2 = Z) ∨ (((0 ≤ xa ∧ xa < nI n) ∧ (0 ≤ xb ∧ xb < nI 20)) ∧ (((T 5) (xa.toNatClampNeg)).toNatClampNeg) = 3 ∧ r = (-2 : Int32) ∧ uw.1 = T ∧ uw.2 = Z) ∨ (((0 ≤ xa ∧ xa < nI n) ∧ (0 ≤ xb ∧ xb < nI 20)) ∧ (((T 5) (xa.toNatClampNeg)).toNatClampNeg) < 3 ∧ r = nI ((((T 5) (xa.toNatClampNeg)).toNatClampNeg) + 1) ∧ uw.1 = cx_u (cx_u T 4 (upd (T 4) (3 * (xa.toNatClampNeg) + (((T 5) (xa.toNatClampNeg)).toNatClampNeg)) xb)) 5 (upd (T 5) (xa.toNatClampNeg) (nI ((((T 5) (xa.toNatClampNeg)).toNatClampNeg) + 1))) ∧ uw.2 = cx_u Z 3 (fun _ => (0 : Int32)))) (fun uw => (cyW q cI cZ n uw.1 k M d uw.2 F)) := by
  refine cx_Mi.of (cc := cX7_upper) (maxL := 3) cx_NW_ok (by decide) rfl (Nat.le_of_ble_eq_true rfl) ?_
  intro p e s m args below meth c Q A ls hx hb hml hown hts hE RET hS hl
  have hl : lv_has ls 3 [(0, .ref (q 0)), (1, .int xa), (2, .int xb)] := hl
  have hown : s.vm.findClass RX7 = some m.cls := hown
  have hinX7 : ∀ w ∈ u_ws RX7 TX7 22, w ∈ wsX7_upper := cx_mem [13, 14, 15, 16, 17, 18, 19, 20, 21, 22, 23, 24, 25, 26, 27, 28, 29, 30, 31, 32, 33, 34] (by decide +kernel)
  refine lv_aload_n hx hb dX7_upper_0 rfl (lv_at hl 0 rfl) ?_
  refine lv_iload_n hx hb dX7_upper_1 rfl (lv_at hl 1 rfl) ?_
  refine cx_cVi (As := [.int xa]) (rest := []) ⟨hx, hb, hml, hown, hts⟩ hE hS (c_X7_isType l D q cI cZ n T k M d Z F xa (by first | assumption | omega)) (cwV 1 hts gX7_upper_X7_isType rfl rfl rfl (by decide +kernel) ⟨Nat.le_of_ble_eq_true rfl, Nat.le_of_ble_eq_true rfl⟩) 0 7 rfl rfl rfl hl.1 rfl (Nat.le_of_ble_eq_true rfl) ⟨Nat.zero_le _, Nat.zero_le _⟩ dX7_upper_2 (fun r_2 u_2 H locs hp_2 hS => ?_)
  have hp_2 : r_2 = cx_b (0 ≤ xa ∧ xa < nI n) := hp_2
  subst hp_2
  have J18 : ∀ (H : Heap) (locs : List Loc) (ls : Array Slot), (¬ ((0 ≤ xa ∧ xa < nI n) ∧ (0 ≤ xb ∧ xb < nI 20))) → cx_S D vwCl A s (cyW q cI cZ n T k M d Z F) H locs → lv_has ls 3 [(0, .ref (q 0)), (1, .int xa), (2, .int xb)] → W p l e ({ frames := 2, cells := 0, slots := 0, locals := 43 } : Room) s m args below meth c H locs 0 0 Q (F0 m 18 ls []) := by
    intro  H locs ls hb18 hS hl
    refine lv_iconst (v := (-1 : Int32)) hx hb dX7_upper_18 (by decide) ?_
    exact RET _ (T, Z) _ _ _ _ dX7_upper_19 rfl (Or.inl ⟨hb18, rfl, rfl, rfl⟩) hS
  refine lv_if_eq (tgt := 18) hx hb dX7_upper_5 (by decide) (fun h5 => ?_) (fun h5 => ?_)
  · skip
    have g5 := cx_b0 h5
    exact J18  _ _ _ (by first | exact fun z => g5 z.1 | exact fun z => g15 ⟨z.2.1, (cx_le19 _).mpr z.2.2⟩) hS (lv_sub hl [0, 1, 2] rfl)
  · skip
    have g5 := cx_b1 h5
    have hq5 := (cx_ixT (by omega) g5).2
    refine lv_iload_n hx hb dX7_upper_8 rfl (lv_at hl 2 rfl) ?_
    refine lv_iconst (v := (0 : Int32)) hx hb dX7_upper_9 (by decide) ?_
    refine lv_bipush (v := nI 19) hx hb dX7_upper_10 (by decide) ?_
    refine cx_cSi (As := [.int xb, .int (0 : Int32), .int (nI 19)]) (rest := []) ⟨hx, hb, hml, hown, hts⟩ hE hS (c_X7_in l D [(cI, .int), (cZ, .boolean)] (cyW q cI cZ n T k M d Z F) xb (0 : Int32) (nI 19) ) (va_cwS 3 hts gX7_upper_X7_in rfl rfl rfl (by decide +kernel) ⟨Nat.le_of_ble_eq_true rfl, Nat.le_of_ble_eq_true rfl⟩) rfl hl.1 rfl (Nat.le_of_ble_eq_true rfl) ⟨Nat.zero_le _, Nat.zero_le _⟩ dX7_upper_12 (fun r_12 u_12 H locs hp_12 hS => ?_)
    have hp_12 : r_12 = cx_b ((0 : Int32) ≤ xb ∧ xb ≤ (nI 19)) := hp_12
    subst hp_12
    refine lv_if_ne (tgt := 20) hx hb dX7_upper_15 (by decide) (fun h15 => ?_) (fun h15 => ?_)
    · skip
      have g15 := cx_b1 h15
      refine lv_aload_n hx hb dX7_upper_20 rfl (lv_at hl 0 rfl) ?_
      refine cx_get (own := RX7) (index := 25) (C := RX7) (T := TX7) (N := 22) (k := 6) (ci := 7) (v := .ref (q 6)) hx hb hts hown hE hS hinX7 0 rfl rfl (by decide) (List.mem_of_getElem? (i := 1) rfl) rfl dX7_upper_21 ?_
      refine lv_iload_n hx hb dX7_upper_24 rfl (lv_at hl 1 rfl) ?_
      refine cx_topr (z := nI (xa.toNatClampNeg)) (cx_ixT (by omega) g5).1 ?_
      refine cx_iald (f := (T 5)) (n := 20) (cA := cI) hx hb hE hS 6 0 rfl rfl (by omega) (by decide) dX7_upper_25 ?_
      have ho25 := (hV xa.toNatClampNeg).2
      refine cx_topr (z := nI (((T 5) xa.toNatClampNeg).toNatClampNeg)) (hV xa.toNatClampNeg).1 ?_
      refine lv_iconst (v := nI 3) hx hb dX7_upper_26 (by decide) ?_
      refine lv_icmp_ne (tgt := 33) hx hb dX7_upper_27 (by decide) (fun h27 => ?_) (fun h27 => ?_)
      · skip
        have g27 : ¬ ((((T 5) xa.toNatClampNeg).toNatClampNeg) = 3) := fun z => h27 ((nI_eq (a := ((T 5) xa.toNatClampNeg).toNatClampNeg) (b := 3) (by omega) (by omega)).mpr z)
        refine lv_aload_n hx hb dX7_upper_33 rfl (lv_at hl 0 rfl) ?_
        refine cx_get (own := RX7) (index := 22) (C := RX7) (T := TX7) (N := 22) (k := 5) (ci := 7) (v := .ref (q 5)) hx hb hts hown hE hS hinX7 0 rfl rfl (by decide) (List.mem_of_getElem? (i := 2) rfl) rfl dX7_upper_34 ?_
        refine lv_iconst (v := nI 3) hx hb dX7_upper_37 (by decide) ?_
        refine lv_iload_n hx hb dX7_upper_38 rfl (lv_at hl 1 rfl) ?_
        refine cx_topr (z := nI (xa.toNatClampNeg)) (cx_ixT (by omega) g5).1 ?_
        refine lv_imul hx hb dX7_upper_39 ?_
        refine cx_topr (z := nI (3 * xa.toNatClampNeg)) (pk_mul _ _) ?_
        refine lv_aload_n hx hb dX7_upper_40 rfl (lv_at hl 0 rfl) ?_
        refine cx_get (own := RX7) (index := 25) (C := RX7) (T := TX7) (N := 22) (k := 6) (ci := 7) (v := .ref (q 6)) hx hb hts hown hE hS hinX7 0 rfl rfl (by decide) (List.mem_of_getElem? (i := 1) rfl) rfl dX7_upper_41 ?_
        refine lv_iload_n hx hb dX7_upper_44 rfl (lv_at hl 1 rfl) ?_
        refine cx_topr (z := nI (xa.toNatClampNeg)) (cx_ixT (by omega) g5).1 ?_
        refine cx_iald (f := (T 5)) (n := 20) (cA := cI) hx hb hE hS 6 0 rfl rfl (by omega) (by decide) dX7_upper_45 ?_
        have ho45 := (hV xa.toNatClampNeg).2
        refine cx_topr (z := nI (((T 5) xa.toNatClampNeg).toNatClampNeg)) (hV xa.toNatClampNeg).1 ?_
        refine lv_iadd hx hb dX7_upper_46 ?_
        refine cx_topr (z := nI (3 * xa.toNatClampNeg + ((T 5) xa.toNatClampNeg).toNatClampNeg)) (nI_add _ _) ?_
        refine lv_iload_n hx hb dX7_upper_47 rfl (lv_at hl 2 rfl) ?_
        refine cx_iast (k := 3 * xa.toNatClampNeg + ((T 5) xa.toNatClampNeg).toNatClampNeg) (f := (T 4)) (n := 60) (cA := cI) (ws' := (cyW q cI cZ n (cx_u T 4 (upd (T 4) (3 * xa.toNatClampNeg + ((T 5) xa.toNatClampNeg).toNatClampNeg) xb)) k M d Z F)) hx hb hE hS 5 0 rfl rfl (by omega) (by decide) rfl dX7_upper_48 (fun H locs hS => ?_)
        refine lv_aload_n hx hb dX7_upper_49 rfl (lv_at hl 0 rfl) ?_
        refine cx_get (own := RX7) (index := 25) (C := RX7) (T := TX7) (N := 22) (k := 6) (ci := 7) (v := .ref (q 6)) hx hb hts hown hE hS hinX7 0 rfl rfl (by decide) (List.mem_of_getElem? (i := 1) rfl) rfl dX7_upper_50 ?_
        refine lv_iload_n hx hb dX7_upper_53 rfl (lv_at hl 1 rfl) ?_
        refine cx_topr (z := nI (xa.toNatClampNeg)) (cx_ixT (by omega) g5).1 ?_
        refine lv_dup2_11 hx hb dX7_upper_54 rfl rfl ?_
        refine cx_iald (f := (T 5)) (n := 20) (cA := cI) hx hb hE hS 6 0 rfl rfl (by omega) (by decide) dX7_upper_55 ?_
        have ho55 := (hV xa.toNatClampNeg).2
        refine cx_topr (z := nI (((T 5) xa.toNatClampNeg).toNatClampNeg)) (hV xa.toNatClampNeg).1 ?_
        refine lv_iconst (v := (1 : Int32)) hx hb dX7_upper_56 (by decide) ?_
        refine lv_iadd hx hb dX7_upper_57 ?_
        refine cx_topr (z := nI (((T 5) xa.toNatClampNeg).toNatClampNeg + 1)) (nI_1 _) ?_
        refine cx_iast (k := xa.toNatClampNeg) (f := (T 5)) (n := 20) (cA := cI) (ws' := (cyW q cI cZ n (cx_u (cx_u T 4 (upd (T 4) (3 * xa.toNatClampNeg + ((T 5) xa.toNatClampNeg).toNatClampNeg) xb)) 5 (upd (T 5) xa.toNatClampNeg (nI (((T 5) xa.toNatClampNeg).toNatClampNeg + 1)))) k M d Z F)) hx hb hE hS 6 0 rfl rfl (by omega) (by decide) rfl dX7_upper_58 (fun H locs hS => ?_)
        refine lv_aload_n hx hb dX7_upper_59 rfl (lv_at hl 0 rfl) ?_
        refine lv_iconst (v := (0 : Int32)) hx hb dX7_upper_60 (by decide) ?_
        refine cx_put (own := RX7) (index := 73) (C := RX7) (T := TX7) (N := 22) (k := 17) (ci := 7) (v := .int (0 : Int32)) (ty := .boolean) (ws' := (cyW q cI cZ n (cx_u (cx_u T 4 (upd (T 4) (3 * xa.toNatClampNeg + ((T 5) xa.toNatClampNeg).toNatClampNeg) xb)) 5 (upd (T 5) xa.toNatClampNeg (nI (((T 5) xa.toNatClampNeg).toNatClampNeg + 1)))) k M d (cx_u Z 3 (fun _ => (0 : Int32))) F)) hx hb hts hown hE hS hinX7 tyX7 tyX7_ok nmX7 0 rfl rfl (by decide) (List.mem_of_getElem? (i := 3) rfl) rfl (by decide +kernel) rfl rfl (Nat.le_of_ble_eq_true rfl) rfl dX7_upper_61 (fun H locs hS => ?_)
        refine lv_aload_n hx hb dX7_upper_64 rfl (lv_at hl 0 rfl) ?_
        refine cx_get (own := RX7) (index := 25) (C := RX7) (T := TX7) (N := 22) (k := 6) (ci := 7) (v := .ref (q 6)) hx hb hts hown hE hS hinX7 0 rfl rfl (by decide) (List.mem_of_getElem? (i := 1) rfl) rfl dX7_upper_65 ?_
        refine lv_iload_n hx hb dX7_upper_68 rfl (lv_at hl 1 rfl) ?_
        refine cx_topr (z := nI (xa.toNatClampNeg)) (cx_ixT (by omega) g5).1 ?_
        refine cx_iald (f := (upd (T 5) xa.toNatClampNeg (nI (((T 5) xa.toNatClampNeg).toNatClampNeg + 1)))) (n := 20) (cA := cI) hx hb hE hS 6 0 rfl rfl (by omega) (by decide) dX7_upper_69 ?_
        exact RET _ (cx_u (cx_u T 4 (upd (T 4) (3 * xa.toNatClampNeg + ((T 5) xa.toNatClampNeg).toNatClampNeg) xb)) 5 (upd (T 5) xa.toNatClampNeg (nI (((T 5) xa.toNatClampNeg).toNatClampNeg + 1))), cx_u Z 3 (fun _ => (0 : Int32))) _ _ _ _ dX7_upper_70 rfl (Or.inr (Or.inr ⟨⟨g5, ⟨g15.1, (cx_le19 _).mp g15.2⟩⟩, by omega, cx_updn, rfl, rfl⟩)) hS
      · skip
        have g27 : (((T 5) xa.toNatClampNeg).toNatClampNeg) = 3 := (nI_eq (a := ((T 5) xa.toNatClampNeg).toNatClampNeg) (b := 3) (by omega) (by omega)).mp h27
        refine lv_bipush (v := (-2 : Int32)) hx hb dX7_upper_30 (by decide) ?_
        exact RET _ (T, Z) _ _ _ _ dX7_upper_32 rfl (Or.inr (Or.inl ⟨⟨g5, ⟨g15.1, (cx_le19 _).mp g15.2⟩⟩, g27, rfl, rfl, rfl⟩)) hS
    · skip
      have g15 := cx_b0 h15
      exact J18  _ _ _ (by first | exact fun z => g5 z.1 | exact fun z => g15 ⟨z.2.1, (cx_le19 _).mpr z.2.2⟩) hS (lv_sub hl [0, 1, 2] rfl)
set_option maxHeartbeats 4000000 in
set_option maxRecDepth 100000 in
theorem c_X7_permit (l : Launch) (D : va_G) (q : Nat → Nat) (cI cZ : ClassId) (n : Nat) (T : Nat → Nat → Int32) (k : Nat) (M : Nat → Nat → Int32) (d : Nat) (Z : Nat → Nat → Int32) (F : Nat → Nat → Int32) (xa : Int32) (xb : Int32) (hn : n ≤ 20) (hW : cx_R (T 7) 4) : cx_Mi l D vwCl [(cI, .int), (cZ, .boolean)] cx_NW yX7_permit wsX7_permit ({ frames := 2, cells := 0, slots := 0, locals := 43 } : Room) [.ref (q 0), .int xa, .int xb] (cyW q cI cZ n T k M d Z F) (fun (r : Int32) (uw : (Nat → Nat → Int32)) => (¬ ((0 ≤ xa ∧ xa < nI n) ∧ (0 ≤ xb ∧ xb < nI 20)) ∧ r = (-1 : Int32) ∧ uw = T) ∨ (((0 ≤ xa ∧ xa < nI n) ∧ (0 ≤ xb ∧ xb < nI 20)) ∧ (((T 7) (xa.toNatClampNeg)).toNatClampNeg) = 3 ∧ r = (-2 : Int32) ∧ uw = T) ∨ (((0 ≤ xa ∧ xa < nI n) ∧ (0 ≤ xb ∧ xb < nI 20)) ∧ (((T 7) (xa.toNatClampNeg)).toNatClampNeg) < 3 ∧ r = nI ((((T 7) (xa.toNatClampNeg)).toNatClampNeg) + 1) ∧ uw = cx_u (cx_u T 6 (upd (T 6) (3 * (xa.toNatClampNeg) + (((T 7) (xa.toNatClampNeg)).toNatClampNeg)) xb)) 7 (upd (T 7) (xa.toNatClampNeg) (nI ((((T 7) (xa.toNatClampNeg)).toNatClampNeg) + 1))))) (fun uw => (cyW q cI cZ n uw k M d Z F)) := by
  refine cx_Mi.of (cc := cX7_permit) (maxL := 3) cx_NW_ok (by decide) rfl (Nat.le_of_ble_eq_true rfl) ?_
  intro p e s m args below meth c Q A ls hx hb hml hown hts hE RET hS hl
  have hl : lv_has ls 3 [(0, .ref (q 0)), (1, .int xa), (2, .int xb)] := hl
  have hown : s.vm.findClass RX7 = some m.cls := hown
  have hinX7 : ∀ w ∈ u_ws RX7 TX7 22, w ∈ wsX7_permit := cx_mem [12, 13, 14, 15, 16, 17, 18, 19, 20, 21, 22, 23, 24, 25, 26, 27, 28, 29, 30, 31, 32, 33] (by decide +kernel)
  refine lv_aload_n hx hb dX7_permit_0 rfl (lv_at hl 0 rfl) ?_
  refine lv_iload_n hx hb dX7_permit_1 rfl (lv_at hl 1 rfl) ?_
  refine cx_cVi (As := [.int xa]) (rest := []) ⟨hx, hb, hml, hown, hts⟩ hE hS (c_X7_isType l D q cI cZ n T k M d Z F xa (by first | assumption | omega)) (cwV 1 hts gX7_permit_X7_isType rfl rfl rfl (by decide +kernel) ⟨Nat.le_of_ble_eq_true rfl, Nat.le_of_ble_eq_true rfl⟩) 0 7 rfl rfl rfl hl.1 rfl (Nat.le_of_ble_eq_true rfl) ⟨Nat.zero_le _, Nat.zero_le _⟩ dX7_permit_2 (fun r_2 u_2 H locs hp_2 hS => ?_)
  have hp_2 : r_2 = cx_b (0 ≤ xa ∧ xa < nI n) := hp_2
  subst hp_2
  have J18 : ∀ (H : Heap) (locs : List Loc) (ls : Array Slot), (¬ ((0 ≤ xa ∧ xa < nI n) ∧ (0 ≤ xb ∧ xb < nI 20))) → cx_S D vwCl A s (cyW q cI cZ n T k M d Z F) H locs → lv_has ls 3 [(0, .ref (q 0)), (1, .int xa), (2, .int xb)] → W p l e ({ frames := 2, cells := 0, slots := 0, locals := 43 } : Room) s m args below meth c H locs 0 0 Q (F0 m 18 ls []) := by
    intro  H locs ls hb18 hS hl
    refine lv_iconst (v := (-1 : Int32)) hx hb dX7_permit_18 (by decide) ?_
    exact RET _ (T) _ _ _ _ dX7_permit_19 rfl (Or.inl ⟨hb18, rfl, rfl⟩) hS
  refine lv_if_eq (tgt := 18) hx hb dX7_permit_5 (by decide) (fun h5 => ?_) (fun h5 => ?_)
  · skip
    have g5 := cx_b0 h5
    exact J18  _ _ _ (by first | exact fun z => g5 z.1 | exact fun z => g15 ⟨z.2.1, (cx_le19 _).mpr z.2.2⟩) hS (lv_sub hl [0, 1, 2] rfl)
  · skip
    have g5 := cx_b1 h5
    have hq5 := (cx_ixT (by omega) g5).2
    refine lv_iload_n hx hb dX7_permit_8 rfl (lv_at hl 2 rfl) ?_
    refine lv_iconst (v := (0 : Int32)) hx hb dX7_permit_9 (by decide) ?_
    refine lv_bipush (v := nI 19) hx hb dX7_permit_10 (by decide) ?_
    refine cx_cSi (As := [.int xb, .int (0 : Int32), .int (nI 19)]) (rest := []) ⟨hx, hb, hml, hown, hts⟩ hE hS (c_X7_in l D [(cI, .int), (cZ, .boolean)] (cyW q cI cZ n T k M d Z F) xb (0 : Int32) (nI 19) ) (va_cwS 3 hts gX7_permit_X7_in rfl rfl rfl (by decide +kernel) ⟨Nat.le_of_ble_eq_true rfl, Nat.le_of_ble_eq_true rfl⟩) rfl hl.1 rfl (Nat.le_of_ble_eq_true rfl) ⟨Nat.zero_le _, Nat.zero_le _⟩ dX7_permit_12 (fun r_12 u_12 H locs hp_12 hS => ?_)
    have hp_12 : r_12 = cx_b ((0 : Int32) ≤ xb ∧ xb ≤ (nI 19)) := hp_12
    subst hp_12
    refine lv_if_ne (tgt := 20) hx hb dX7_permit_15 (by decide) (fun h15 => ?_) (fun h15 => ?_)
    · skip
      have g15 := cx_b1 h15
      refine lv_aload_n hx hb dX7_permit_20 rfl (lv_at hl 0 rfl) ?_
      refine cx_get (own := RX7) (index := 31) (C := RX7) (T := TX7) (N := 22) (k := 8) (ci := 7) (v := .ref (q 8)) hx hb hts hown hE hS hinX7 0 rfl rfl (by decide) (List.mem_of_getElem? (i := 1) rfl) rfl dX7_permit_21 ?_
      refine lv_iload_n hx hb dX7_permit_24 rfl (lv_at hl 1 rfl) ?_
      refine cx_topr (z := nI (xa.toNatClampNeg)) (cx_ixT (by omega) g5).1 ?_
      refine cx_iald (f := (T 7)) (n := 20) (cA := cI) hx hb hE hS 8 0 rfl rfl (by omega) (by decide) dX7_permit_25 ?_
      have ho25 := (hW xa.toNatClampNeg).2
      refine cx_topr (z := nI (((T 7) xa.toNatClampNeg).toNatClampNeg)) (hW xa.toNatClampNeg).1 ?_
      refine lv_iconst (v := nI 3) hx hb dX7_permit_26 (by decide) ?_
      refine lv_icmp_ne (tgt := 33) hx hb dX7_permit_27 (by decide) (fun h27 => ?_) (fun h27 => ?_)
      · skip
        have g27 : ¬ ((((T 7) xa.toNatClampNeg).toNatClampNeg) = 3) := fun z => h27 ((nI_eq (a := ((T 7) xa.toNatClampNeg).toNatClampNeg) (b := 3) (by omega) (by omega)).mpr z)
        refine lv_aload_n hx hb dX7_permit_33 rfl (lv_at hl 0 rfl) ?_
        refine cx_get (own := RX7) (index := 28) (C := RX7) (T := TX7) (N := 22) (k := 7) (ci := 7) (v := .ref (q 7)) hx hb hts hown hE hS hinX7 0 rfl rfl (by decide) (List.mem_of_getElem? (i := 2) rfl) rfl dX7_permit_34 ?_
        refine lv_iconst (v := nI 3) hx hb dX7_permit_37 (by decide) ?_
        refine lv_iload_n hx hb dX7_permit_38 rfl (lv_at hl 1 rfl) ?_
        refine cx_topr (z := nI (xa.toNatClampNeg)) (cx_ixT (by omega) g5).1 ?_
        refine lv_imul hx hb dX7_permit_39 ?_
        refine cx_topr (z := nI (3 * xa.toNatClampNeg)) (pk_mul _ _) ?_
        refine lv_aload_n hx hb dX7_permit_40 rfl (lv_at hl 0 rfl) ?_
        refine cx_get (own := RX7) (index := 31) (C := RX7) (T := TX7) (N := 22) (k := 8) (ci := 7) (v := .ref (q 8)) hx hb hts hown hE hS hinX7 0 rfl rfl (by decide) (List.mem_of_getElem? (i := 1) rfl) rfl dX7_permit_41 ?_
        refine lv_iload_n hx hb dX7_permit_44 rfl (lv_at hl 1 rfl) ?_
        refine cx_topr (z := nI (xa.toNatClampNeg)) (cx_ixT (by omega) g5).1 ?_
        refine cx_iald (f := (T 7)) (n := 20) (cA := cI) hx hb hE hS 8 0 rfl rfl (by omega) (by decide) dX7_permit_45 ?_
        have ho45 := (hW xa.toNatClampNeg).2
        refine cx_topr (z := nI (((T 7) xa.toNatClampNeg).toNatClampNeg)) (hW xa.toNatClampNeg).1 ?_
        refine lv_iadd hx hb dX7_permit_46 ?_
        refine cx_topr (z := nI (3 * xa.toNatClampNeg + ((T 7) xa.toNatClampNeg).toNatClampNeg)) (nI_add _ _) ?_
        refine lv_iload_n hx hb dX7_permit_47 rfl (lv_at hl 2 rfl) ?_
        refine cx_iast (k := 3 * xa.toNatClampNeg + ((T 7) xa.toNatClampNeg).toNatClampNeg) (f := (T 6)) (n := 60) (cA := cI) (ws' := (cyW q cI cZ n (cx_u T 6 (upd (T 6) (3 * xa.toNatClampNeg + ((T 7) xa.toNatClampNeg).toNatClampNeg) xb)) k M d Z F)) hx hb hE hS 7 0 rfl rfl (by omega) (by decide) rfl dX7_permit_48 (fun H locs hS => ?_)
        refine lv_aload_n hx hb dX7_permit_49 rfl (lv_at hl 0 rfl) ?_
        refine cx_get (own := RX7) (index := 31) (C := RX7) (T := TX7) (N := 22) (k := 8) (ci := 7) (v := .ref (q 8)) hx hb hts hown hE hS hinX7 0 rfl rfl (by decide) (List.mem_of_getElem? (i := 1) rfl) rfl dX7_permit_50 ?_
        refine lv_iload_n hx hb dX7_permit_53 rfl (lv_at hl 1 rfl) ?_
        refine cx_topr (z := nI (xa.toNatClampNeg)) (cx_ixT (by omega) g5).1 ?_
        refine lv_dup2_11 hx hb dX7_permit_54 rfl rfl ?_
        refine cx_iald (f := (T 7)) (n := 20) (cA := cI) hx hb hE hS 8 0 rfl rfl (by omega) (by decide) dX7_permit_55 ?_
        have ho55 := (hW xa.toNatClampNeg).2
        refine cx_topr (z := nI (((T 7) xa.toNatClampNeg).toNatClampNeg)) (hW xa.toNatClampNeg).1 ?_
        refine lv_iconst (v := (1 : Int32)) hx hb dX7_permit_56 (by decide) ?_
        refine lv_iadd hx hb dX7_permit_57 ?_
        refine cx_topr (z := nI (((T 7) xa.toNatClampNeg).toNatClampNeg + 1)) (nI_1 _) ?_
        refine cx_iast (k := xa.toNatClampNeg) (f := (T 7)) (n := 20) (cA := cI) (ws' := (cyW q cI cZ n (cx_u (cx_u T 6 (upd (T 6) (3 * xa.toNatClampNeg + ((T 7) xa.toNatClampNeg).toNatClampNeg) xb)) 7 (upd (T 7) xa.toNatClampNeg (nI (((T 7) xa.toNatClampNeg).toNatClampNeg + 1)))) k M d Z F)) hx hb hE hS 8 0 rfl rfl (by omega) (by decide) rfl dX7_permit_58 (fun H locs hS => ?_)
        refine lv_aload_n hx hb dX7_permit_59 rfl (lv_at hl 0 rfl) ?_
        refine cx_get (own := RX7) (index := 31) (C := RX7) (T := TX7) (N := 22) (k := 8) (ci := 7) (v := .ref (q 8)) hx hb hts hown hE hS hinX7 0 rfl rfl (by decide) (List.mem_of_getElem? (i := 1) rfl) rfl dX7_permit_60 ?_
        refine lv_iload_n hx hb dX7_permit_63 rfl (lv_at hl 1 rfl) ?_
        refine cx_topr (z := nI (xa.toNatClampNeg)) (cx_ixT (by omega) g5).1 ?_
        refine cx_iald (f := (upd (T 7) xa.toNatClampNeg (nI (((T 7) xa.toNatClampNeg).toNatClampNeg + 1)))) (n := 20) (cA := cI) hx hb hE hS 8 0 rfl rfl (by omega) (by decide) dX7_permit_64 ?_
        exact RET _ (cx_u (cx_u T 6 (upd (T 6) (3 * xa.toNatClampNeg + ((T 7) xa.toNatClampNeg).toNatClampNeg) xb)) 7 (upd (T 7) xa.toNatClampNeg (nI (((T 7) xa.toNatClampNeg).toNatClampNeg + 1)))) _ _ _ _ dX7_permit_65 rfl (Or.inr (Or.inr ⟨⟨g5, ⟨g15.1, (cx_le19 _).mp g15.2⟩⟩, by omega, cx_updn, rfl⟩)) hS
      · skip
        have g27 : (((T 7) xa.toNatClampNeg).toNatClampNeg) = 3 := (nI_eq (a := ((T 7) xa.toNatClampNeg).toNatClampNeg) (b := 3) (by omega) (by omega)).mp h27
        refine lv_bipush (v := (-2 : Int32)) hx hb dX7_permit_30 (by decide) ?_
        exact RET _ (T) _ _ _ _ dX7_permit_32 rfl (Or.inr (Or.inl ⟨⟨g5, ⟨g15.1, (cx_le19 _).mp g15.2⟩⟩, g27, rfl, rfl⟩)) hS
    · skip
      have g15 := cx_b0 h15
      exact J18  _ _ _ (by first | exact fun z => g5 z.1 | exact fun z => g15 ⟨z.2.1, (cx_le19 _).mpr z.2.2⟩) hS (lv_sub hl [0, 1, 2] rfl)
set_option maxHeartbeats 4000000 in
set_option maxRecDepth 100000 in
theorem c_X7_member (l : Launch) (D : va_G) (q : Nat → Nat) (cI cZ : ClassId) (n : Nat) (T : Nat → Nat → Int32) (k : Nat) (M : Nat → Nat → Int32) (d : Nat) (Z : Nat → Nat → Int32) (F : Nat → Nat → Int32) (xa : Int32) (xb : Int32) (xe : Int32) (xf : Int32) (xh : Int32) (xi : Int32) (hn : n ≤ 20) (hk : k ≤ 80) : cx_Mi l D vwCl [(cI, .int), (cZ, .boolean)] cx_NW yX7_member wsX7_member ({ frames := 2, cells := 0, slots := 0, locals := 43 } : Room) [.ref (q 0), .int xa, .int xb, .int xe, .int xf, .int xh, .int xi] (cyW q cI cZ n T k M d Z F) (fun (r : Int32) (uw : (Nat) × (Nat → Nat → Int32)) => (¬ ((0 ≤ xa ∧ xa < nI n) ∧ (0 ≤ xb ∧ xb < nI 10) ∧ (0 ≤ xe ∧ xe < nI 5) ∧ (0 ≤ xf ∧ xf < nI 16) ∧ (0 ≤ xh ∧ xh < nI 4) ∧ (0 ≤ xi ∧ xi < nI 30)) ∧ r = (-1 : Int32) ∧ uw.1 = k ∧ uw.2 = M) ∨ (((0 ≤ xa ∧ xa < nI n) ∧ (0 ≤ xb ∧ xb < nI 10) ∧ (0 ≤ xe ∧ xe < nI 5) ∧ (0 ≤ xf ∧ xf < nI 16) ∧ (0 ≤ xh ∧ xh < nI 4) ∧ (0 ≤ xi ∧ xi < nI 30)) ∧ ¬ k < 80 ∧ r = (-2 : Int32) ∧ uw.1 = k ∧ uw.2 = M) ∨ (((0 ≤ xa ∧ xa < nI n) ∧ (0 ≤ xb ∧ xb < nI 10) ∧ (0 ≤ xe ∧ xe < nI 5) ∧ (0 ≤ xf ∧ xf < nI 16) ∧ (0 ≤ xh ∧ xh < nI 4) ∧ (0 ≤ xi ∧ xi < nI 30)) ∧ k < 80 ∧ r = nI k ∧ uw.1 = k + 1 ∧ uw.2 = cx_u (cx_u (cx_u (cx_u (cx_u (cx_u M 0 (upd (M 0) k xa)) 1 (upd (M 1) k xb)) 2 (upd (M 2) k xe)) 3 (upd (M 3) k xf)) 4 (upd (M 4) k xh)) 5 (upd (M 5) k xi))) (fun uw => (cyW q cI cZ n T uw.1 uw.2 d Z F)) := by
  refine cx_Mi.of (cc := cX7_member) (maxL := 7) cx_NW_ok (by decide) rfl (Nat.le_of_ble_eq_true rfl) ?_
  intro p e s m args below meth c Q A ls hx hb hml hown hts hE RET hS hl
  have hl : lv_has ls 7 [(0, .ref (q 0)), (1, .int xa), (2, .int xb), (3, .int xe), (4, .int xf), (5, .int xh), (6, .int xi)] := hl
  have hown : s.vm.findClass RX7 = some m.cls := hown
  have hinX7 : ∀ w ∈ u_ws RX7 TX7 22, w ∈ wsX7_member := cx_mem [17, 18, 19, 20, 21, 22, 23, 24, 25, 26, 27, 28, 29, 30, 31, 32, 33, 34, 35, 36, 37, 38] (by decide +kernel)
  refine lv_aload_n hx hb dX7_member_0 rfl (lv_at hl 0 rfl) ?_
  refine lv_iload_n hx hb dX7_member_1 rfl (lv_at hl 1 rfl) ?_
  refine cx_cVi (As := [.int xa]) (rest := []) ⟨hx, hb, hml, hown, hts⟩ hE hS (c_X7_isType l D q cI cZ n T k M d Z F xa (by first | assumption | omega)) (cwV 1 hts gX7_member_X7_isType rfl rfl rfl (by decide +kernel) ⟨Nat.le_of_ble_eq_true rfl, Nat.le_of_ble_eq_true rfl⟩) 0 7 rfl rfl rfl hl.1 rfl (Nat.le_of_ble_eq_true rfl) ⟨Nat.zero_le _, Nat.zero_le _⟩ dX7_member_2 (fun r_2 u_2 H locs hp_2 hS => ?_)
  have hp_2 : r_2 = cx_b (0 ≤ xa ∧ xa < nI n) := hp_2
  subst hp_2
  have J59 : ∀ (H : Heap) (locs : List Loc) (ls : Array Slot), (¬ ((0 ≤ xa ∧ xa < nI n) ∧ (0 ≤ xb ∧ xb < nI 10) ∧ (0 ≤ xe ∧ xe < nI 5) ∧ (0 ≤ xf ∧ xf < nI 16) ∧ (0 ≤ xh ∧ xh < nI 4) ∧ (0 ≤ xi ∧ xi < nI 30))) → cx_S D vwCl A s (cyW q cI cZ n T k M d Z F) H locs → lv_has ls 7 [(0, .ref (q 0)), (1, .int xa), (2, .int xb), (3, .int xe), (4, .int xf), (5, .int xh), (6, .int xi)] → W p l e ({ frames := 2, cells := 0, slots := 0, locals := 43 } : Room) s m args below meth c H locs 0 0 Q (F0 m 59 ls []) := by
    intro  H locs ls hb59 hS hl
    refine lv_iconst (v := (-1 : Int32)) hx hb dX7_member_59 (by decide) ?_
    exact RET _ (k, M) _ _ _ _ dX7_member_60 rfl (Or.inl ⟨hb59, rfl, rfl, rfl⟩) hS
  refine lv_if_eq (tgt := 59) hx hb dX7_member_5 (by decide) (fun h5 => ?_) (fun h5 => ?_)
  · skip
    have g5 := cx_b0 h5
    exact J59  _ _ _ (by first | exact fun z => g5 z.1 | exact fun z => g15 ⟨z.2.1.1, (cx_leL _ 9 (by decide)).mpr z.2.1.2⟩ | exact fun z => g24 ⟨z.2.2.1.1, (cx_leL _ 4 (by decide)).mpr z.2.2.1.2⟩ | exact fun z => g35 ⟨z.2.2.2.1.1, (cx_leL _ 15 (by decide)).mpr z.2.2.2.1.2⟩ | exact fun z => g45 ⟨z.2.2.2.2.1.1, (cx_leL _ 3 (by decide)).mpr z.2.2.2.2.1.2⟩ | exact fun z => g56 ⟨z.2.2.2.2.2.1, (cx_leL _ 29 (by decide)).mpr z.2.2.2.2.2.2⟩) hS (lv_sub hl [0, 1, 2, 3, 4, 5, 6] rfl)
  · skip
    have g5 := cx_b1 h5
    refine lv_iload_n hx hb dX7_member_8 rfl (lv_at hl 2 rfl) ?_
    refine lv_iconst (v := (0 : Int32)) hx hb dX7_member_9 (by decide) ?_
    refine lv_bipush (v := nI 9) hx hb dX7_member_10 (by decide) ?_
    refine cx_cSi (As := [.int xb, .int (0 : Int32), .int (nI 9)]) (rest := []) ⟨hx, hb, hml, hown, hts⟩ hE hS (c_X7_in l D [(cI, .int), (cZ, .boolean)] (cyW q cI cZ n T k M d Z F) xb (0 : Int32) (nI 9) ) (va_cwS 3 hts gX7_member_X7_in rfl rfl rfl (by decide +kernel) ⟨Nat.le_of_ble_eq_true rfl, Nat.le_of_ble_eq_true rfl⟩) rfl hl.1 rfl (Nat.le_of_ble_eq_true rfl) ⟨Nat.zero_le _, Nat.zero_le _⟩ dX7_member_12 (fun r_12 u_12 H locs hp_12 hS => ?_)
    have hp_12 : r_12 = cx_b ((0 : Int32) ≤ xb ∧ xb ≤ (nI 9)) := hp_12
    subst hp_12
    refine lv_if_eq (tgt := 59) hx hb dX7_member_15 (by decide) (fun h15 => ?_) (fun h15 => ?_)
    · skip
      have g15 := cx_b0 h15
      exact J59  _ _ _ (by first | exact fun z => g5 z.1 | exact fun z => g15 ⟨z.2.1.1, (cx_leL _ 9 (by decide)).mpr z.2.1.2⟩ | exact fun z => g24 ⟨z.2.2.1.1, (cx_leL _ 4 (by decide)).mpr z.2.2.1.2⟩ | exact fun z => g35 ⟨z.2.2.2.1.1, (cx_leL _ 15 (by decide)).mpr z.2.2.2.1.2⟩ | exact fun z => g45 ⟨z.2.2.2.2.1.1, (cx_leL _ 3 (by decide)).mpr z.2.2.2.2.1.2⟩ | exact fun z => g56 ⟨z.2.2.2.2.2.1, (cx_leL _ 29 (by decide)).mpr z.2.2.2.2.2.2⟩) hS (lv_sub hl [0, 1, 2, 3, 4, 5, 6] rfl)
    · skip
      have g15 := cx_b1 h15
      refine lv_iload_n hx hb dX7_member_18 rfl (lv_at hl 3 rfl) ?_
      refine lv_iconst (v := (0 : Int32)) hx hb dX7_member_19 (by decide) ?_
      refine lv_iconst (v := nI 4) hx hb dX7_member_20 (by decide) ?_
      refine cx_cSi (As := [.int xe, .int (0 : Int32), .int (nI 4)]) (rest := []) ⟨hx, hb, hml, hown, hts⟩ hE hS (c_X7_in l D [(cI, .int), (cZ, .boolean)] (cyW q cI cZ n T k M d Z F) xe (0 : Int32) (nI 4) ) (va_cwS 3 hts gX7_member_X7_in rfl rfl rfl (by decide +kernel) ⟨Nat.le_of_ble_eq_true rfl, Nat.le_of_ble_eq_true rfl⟩) rfl hl.1 rfl (Nat.le_of_ble_eq_true rfl) ⟨Nat.zero_le _, Nat.zero_le _⟩ dX7_member_21 (fun r_21 u_21 H locs hp_21 hS => ?_)
      have hp_21 : r_21 = cx_b ((0 : Int32) ≤ xe ∧ xe ≤ (nI 4)) := hp_21
      subst hp_21
      refine lv_if_eq (tgt := 59) hx hb dX7_member_24 (by decide) (fun h24 => ?_) (fun h24 => ?_)
      · skip
        have g24 := cx_b0 h24
        exact J59  _ _ _ (by first | exact fun z => g5 z.1 | exact fun z => g15 ⟨z.2.1.1, (cx_leL _ 9 (by decide)).mpr z.2.1.2⟩ | exact fun z => g24 ⟨z.2.2.1.1, (cx_leL _ 4 (by decide)).mpr z.2.2.1.2⟩ | exact fun z => g35 ⟨z.2.2.2.1.1, (cx_leL _ 15 (by decide)).mpr z.2.2.2.1.2⟩ | exact fun z => g45 ⟨z.2.2.2.2.1.1, (cx_leL _ 3 (by decide)).mpr z.2.2.2.2.1.2⟩ | exact fun z => g56 ⟨z.2.2.2.2.2.1, (cx_leL _ 29 (by decide)).mpr z.2.2.2.2.2.2⟩) hS (lv_sub hl [0, 1, 2, 3, 4, 5, 6] rfl)
      · skip
        have g24 := cx_b1 h24
        refine lv_iload hx hb dX7_member_27 (lv_at hl 4 rfl) ?_
        refine lv_iconst (v := (0 : Int32)) hx hb dX7_member_29 (by decide) ?_
        refine lv_bipush (v := nI 15) hx hb dX7_member_30 (by decide) ?_
        refine cx_cSi (As := [.int xf, .int (0 : Int32), .int (nI 15)]) (rest := []) ⟨hx, hb, hml, hown, hts⟩ hE hS (c_X7_in l D [(cI, .int), (cZ, .boolean)] (cyW q cI cZ n T k M d Z F) xf (0 : Int32) (nI 15) ) (va_cwS 3 hts gX7_member_X7_in rfl rfl rfl (by decide +kernel) ⟨Nat.le_of_ble_eq_true rfl, Nat.le_of_ble_eq_true rfl⟩) rfl hl.1 rfl (Nat.le_of_ble_eq_true rfl) ⟨Nat.zero_le _, Nat.zero_le _⟩ dX7_member_32 (fun r_32 u_32 H locs hp_32 hS => ?_)
        have hp_32 : r_32 = cx_b ((0 : Int32) ≤ xf ∧ xf ≤ (nI 15)) := hp_32
        subst hp_32
        refine lv_if_eq (tgt := 59) hx hb dX7_member_35 (by decide) (fun h35 => ?_) (fun h35 => ?_)
        · skip
          have g35 := cx_b0 h35
          exact J59  _ _ _ (by first | exact fun z => g5 z.1 | exact fun z => g15 ⟨z.2.1.1, (cx_leL _ 9 (by decide)).mpr z.2.1.2⟩ | exact fun z => g24 ⟨z.2.2.1.1, (cx_leL _ 4 (by decide)).mpr z.2.2.1.2⟩ | exact fun z => g35 ⟨z.2.2.2.1.1, (cx_leL _ 15 (by decide)).mpr z.2.2.2.1.2⟩ | exact fun z => g45 ⟨z.2.2.2.2.1.1, (cx_leL _ 3 (by decide)).mpr z.2.2.2.2.1.2⟩ | exact fun z => g56 ⟨z.2.2.2.2.2.1, (cx_leL _ 29 (by decide)).mpr z.2.2.2.2.2.2⟩) hS (lv_sub hl [0, 1, 2, 3, 4, 5, 6] rfl)
        · skip
          have g35 := cx_b1 h35
          refine lv_iload hx hb dX7_member_38 (lv_at hl 5 rfl) ?_
          refine lv_iconst (v := (0 : Int32)) hx hb dX7_member_40 (by decide) ?_
          refine lv_iconst (v := nI 3) hx hb dX7_member_41 (by decide) ?_
          refine cx_cSi (As := [.int xh, .int (0 : Int32), .int (nI 3)]) (rest := []) ⟨hx, hb, hml, hown, hts⟩ hE hS (c_X7_in l D [(cI, .int), (cZ, .boolean)] (cyW q cI cZ n T k M d Z F) xh (0 : Int32) (nI 3) ) (va_cwS 3 hts gX7_member_X7_in rfl rfl rfl (by decide +kernel) ⟨Nat.le_of_ble_eq_true rfl, Nat.le_of_ble_eq_true rfl⟩) rfl hl.1 rfl (Nat.le_of_ble_eq_true rfl) ⟨Nat.zero_le _, Nat.zero_le _⟩ dX7_member_42 (fun r_42 u_42 H locs hp_42 hS => ?_)
          have hp_42 : r_42 = cx_b ((0 : Int32) ≤ xh ∧ xh ≤ (nI 3)) := hp_42
          subst hp_42
          refine lv_if_eq (tgt := 59) hx hb dX7_member_45 (by decide) (fun h45 => ?_) (fun h45 => ?_)
          · skip
            have g45 := cx_b0 h45
            exact J59  _ _ _ (by first | exact fun z => g5 z.1 | exact fun z => g15 ⟨z.2.1.1, (cx_leL _ 9 (by decide)).mpr z.2.1.2⟩ | exact fun z => g24 ⟨z.2.2.1.1, (cx_leL _ 4 (by decide)).mpr z.2.2.1.2⟩ | exact fun z => g35 ⟨z.2.2.2.1.1, (cx_leL _ 15 (by decide)).mpr z.2.2.2.1.2⟩ | exact fun z => g45 ⟨z.2.2.2.2.1.1, (cx_leL _ 3 (by decide)).mpr z.2.2.2.2.1.2⟩ | exact fun z => g56 ⟨z.2.2.2.2.2.1, (cx_leL _ 29 (by decide)).mpr z.2.2.2.2.2.2⟩) hS (lv_sub hl [0, 1, 2, 3, 4, 5, 6] rfl)
          · skip
            have g45 := cx_b1 h45
            refine lv_iload hx hb dX7_member_48 (lv_at hl 6 rfl) ?_
            refine lv_iconst (v := (0 : Int32)) hx hb dX7_member_50 (by decide) ?_
            refine lv_bipush (v := nI 29) hx hb dX7_member_51 (by decide) ?_
            refine cx_cSi (As := [.int xi, .int (0 : Int32), .int (nI 29)]) (rest := []) ⟨hx, hb, hml, hown, hts⟩ hE hS (c_X7_in l D [(cI, .int), (cZ, .boolean)] (cyW q cI cZ n T k M d Z F) xi (0 : Int32) (nI 29) ) (va_cwS 3 hts gX7_member_X7_in rfl rfl rfl (by decide +kernel) ⟨Nat.le_of_ble_eq_true rfl, Nat.le_of_ble_eq_true rfl⟩) rfl hl.1 rfl (Nat.le_of_ble_eq_true rfl) ⟨Nat.zero_le _, Nat.zero_le _⟩ dX7_member_53 (fun r_53 u_53 H locs hp_53 hS => ?_)
            have hp_53 : r_53 = cx_b ((0 : Int32) ≤ xi ∧ xi ≤ (nI 29)) := hp_53
            subst hp_53
            refine lv_if_ne (tgt := 61) hx hb dX7_member_56 (by decide) (fun h56 => ?_) (fun h56 => ?_)
            · skip
              have g56 := cx_b1 h56
              refine lv_aload_n hx hb dX7_member_61 rfl (lv_at hl 0 rfl) ?_
              refine cx_get (own := RX7) (index := 81) (C := RX7) (T := TX7) (N := 22) (k := 9) (ci := 7) (v := .int (nI k)) hx hb hts hown hE hS hinX7 0 rfl rfl (by decide) (List.mem_of_getElem? (i := 1) rfl) rfl dX7_member_62 ?_
              refine lv_bipush (v := nI 80) hx hb dX7_member_65 (by decide) ?_
              refine lv_icmp_ne (tgt := 73) hx hb dX7_member_67 (by decide) (fun h67 => ?_) (fun h67 => ?_)
              · skip
                have g67 : ¬ (k = 80) := fun z => h67 ((nI_eq (a := k) (b := 80) (by omega) (by omega)).mpr z)
                refine lv_aload_n hx hb dX7_member_73 rfl (lv_at hl 0 rfl) ?_
                refine cx_get (own := RX7) (index := 34) (C := RX7) (T := TX7) (N := 22) (k := 10) (ci := 7) (v := .ref (q 9)) hx hb hts hown hE hS hinX7 0 rfl rfl (by decide) (List.mem_of_getElem? (i := 2) rfl) rfl dX7_member_74 ?_
                refine lv_aload_n hx hb dX7_member_77 rfl (lv_at hl 0 rfl) ?_
                refine cx_get (own := RX7) (index := 81) (C := RX7) (T := TX7) (N := 22) (k := 9) (ci := 7) (v := .int (nI k)) hx hb hts hown hE hS hinX7 0 rfl rfl (by decide) (List.mem_of_getElem? (i := 1) rfl) rfl dX7_member_78 ?_
                refine lv_iload_n hx hb dX7_member_81 rfl (lv_at hl 1 rfl) ?_
                refine cx_iast (k := k) (f := (M 0)) (n := 80) (cA := cI) (ws' := (cyW q cI cZ n T k (cx_u M 0 (upd (M 0) k xa)) d Z F)) hx hb hE hS 9 0 rfl rfl (by omega) (by decide) rfl dX7_member_82 (fun H locs hS => ?_)
                refine lv_aload_n hx hb dX7_member_83 rfl (lv_at hl 0 rfl) ?_
                refine cx_get (own := RX7) (index := 37) (C := RX7) (T := TX7) (N := 22) (k := 11) (ci := 7) (v := .ref (q 10)) hx hb hts hown hE hS hinX7 0 rfl rfl (by decide) (List.mem_of_getElem? (i := 3) rfl) rfl dX7_member_84 ?_
                refine lv_aload_n hx hb dX7_member_87 rfl (lv_at hl 0 rfl) ?_
                refine cx_get (own := RX7) (index := 81) (C := RX7) (T := TX7) (N := 22) (k := 9) (ci := 7) (v := .int (nI k)) hx hb hts hown hE hS hinX7 0 rfl rfl (by decide) (List.mem_of_getElem? (i := 1) rfl) rfl dX7_member_88 ?_
                refine lv_iload_n hx hb dX7_member_91 rfl (lv_at hl 2 rfl) ?_
                refine cx_iast (k := k) (f := (M 1)) (n := 80) (cA := cI) (ws' := (cyW q cI cZ n T k (cx_u (cx_u M 0 (upd (M 0) k xa)) 1 (upd (M 1) k xb)) d Z F)) hx hb hE hS 10 0 rfl rfl (by omega) (by decide) rfl dX7_member_92 (fun H locs hS => ?_)
                refine lv_aload_n hx hb dX7_member_93 rfl (lv_at hl 0 rfl) ?_
                refine cx_get (own := RX7) (index := 40) (C := RX7) (T := TX7) (N := 22) (k := 12) (ci := 7) (v := .ref (q 11)) hx hb hts hown hE hS hinX7 0 rfl rfl (by decide) (List.mem_of_getElem? (i := 4) rfl) rfl dX7_member_94 ?_
                refine lv_aload_n hx hb dX7_member_97 rfl (lv_at hl 0 rfl) ?_
                refine cx_get (own := RX7) (index := 81) (C := RX7) (T := TX7) (N := 22) (k := 9) (ci := 7) (v := .int (nI k)) hx hb hts hown hE hS hinX7 0 rfl rfl (by decide) (List.mem_of_getElem? (i := 1) rfl) rfl dX7_member_98 ?_
                refine lv_iload_n hx hb dX7_member_101 rfl (lv_at hl 3 rfl) ?_
                refine cx_iast (k := k) (f := (M 2)) (n := 80) (cA := cI) (ws' := (cyW q cI cZ n T k (cx_u (cx_u (cx_u M 0 (upd (M 0) k xa)) 1 (upd (M 1) k xb)) 2 (upd (M 2) k xe)) d Z F)) hx hb hE hS 11 0 rfl rfl (by omega) (by decide) rfl dX7_member_102 (fun H locs hS => ?_)
                refine lv_aload_n hx hb dX7_member_103 rfl (lv_at hl 0 rfl) ?_
                refine cx_get (own := RX7) (index := 43) (C := RX7) (T := TX7) (N := 22) (k := 13) (ci := 7) (v := .ref (q 12)) hx hb hts hown hE hS hinX7 0 rfl rfl (by decide) (List.mem_of_getElem? (i := 5) rfl) rfl dX7_member_104 ?_
                refine lv_aload_n hx hb dX7_member_107 rfl (lv_at hl 0 rfl) ?_
                refine cx_get (own := RX7) (index := 81) (C := RX7) (T := TX7) (N := 22) (k := 9) (ci := 7) (v := .int (nI k)) hx hb hts hown hE hS hinX7 0 rfl rfl (by decide) (List.mem_of_getElem? (i := 1) rfl) rfl dX7_member_108 ?_
                refine lv_iload hx hb dX7_member_111 (lv_at hl 4 rfl) ?_
                refine cx_iast (k := k) (f := (M 3)) (n := 80) (cA := cI) (ws' := (cyW q cI cZ n T k (cx_u (cx_u (cx_u (cx_u M 0 (upd (M 0) k xa)) 1 (upd (M 1) k xb)) 2 (upd (M 2) k xe)) 3 (upd (M 3) k xf)) d Z F)) hx hb hE hS 12 0 rfl rfl (by omega) (by decide) rfl dX7_member_113 (fun H locs hS => ?_)
                refine lv_aload_n hx hb dX7_member_114 rfl (lv_at hl 0 rfl) ?_
                refine cx_get (own := RX7) (index := 46) (C := RX7) (T := TX7) (N := 22) (k := 14) (ci := 7) (v := .ref (q 13)) hx hb hts hown hE hS hinX7 0 rfl rfl (by decide) (List.mem_of_getElem? (i := 6) rfl) rfl dX7_member_115 ?_
                refine lv_aload_n hx hb dX7_member_118 rfl (lv_at hl 0 rfl) ?_
                refine cx_get (own := RX7) (index := 81) (C := RX7) (T := TX7) (N := 22) (k := 9) (ci := 7) (v := .int (nI k)) hx hb hts hown hE hS hinX7 0 rfl rfl (by decide) (List.mem_of_getElem? (i := 1) rfl) rfl dX7_member_119 ?_
                refine lv_iload hx hb dX7_member_122 (lv_at hl 5 rfl) ?_
                refine cx_iast (k := k) (f := (M 4)) (n := 80) (cA := cI) (ws' := (cyW q cI cZ n T k (cx_u (cx_u (cx_u (cx_u (cx_u M 0 (upd (M 0) k xa)) 1 (upd (M 1) k xb)) 2 (upd (M 2) k xe)) 3 (upd (M 3) k xf)) 4 (upd (M 4) k xh)) d Z F)) hx hb hE hS 13 0 rfl rfl (by omega) (by decide) rfl dX7_member_124 (fun H locs hS => ?_)
                refine lv_aload_n hx hb dX7_member_125 rfl (lv_at hl 0 rfl) ?_
                refine cx_get (own := RX7) (index := 49) (C := RX7) (T := TX7) (N := 22) (k := 15) (ci := 7) (v := .ref (q 14)) hx hb hts hown hE hS hinX7 0 rfl rfl (by decide) (List.mem_of_getElem? (i := 7) rfl) rfl dX7_member_126 ?_
                refine lv_aload_n hx hb dX7_member_129 rfl (lv_at hl 0 rfl) ?_
                refine cx_get (own := RX7) (index := 81) (C := RX7) (T := TX7) (N := 22) (k := 9) (ci := 7) (v := .int (nI k)) hx hb hts hown hE hS hinX7 0 rfl rfl (by decide) (List.mem_of_getElem? (i := 1) rfl) rfl dX7_member_130 ?_
                refine lv_iload hx hb dX7_member_133 (lv_at hl 6 rfl) ?_
                refine cx_iast (k := k) (f := (M 5)) (n := 80) (cA := cI) (ws' := (cyW q cI cZ n T k (cx_u (cx_u (cx_u (cx_u (cx_u (cx_u M 0 (upd (M 0) k xa)) 1 (upd (M 1) k xb)) 2 (upd (M 2) k xe)) 3 (upd (M 3) k xf)) 4 (upd (M 4) k xh)) 5 (upd (M 5) k xi)) d Z F)) hx hb hE hS 14 0 rfl rfl (by omega) (by decide) rfl dX7_member_135 (fun H locs hS => ?_)
                refine lv_aload_n hx hb dX7_member_136 rfl (lv_at hl 0 rfl) ?_
                refine lv_dup hx hb dX7_member_137 rfl ?_
                refine cx_get (own := RX7) (index := 81) (C := RX7) (T := TX7) (N := 22) (k := 9) (ci := 7) (v := .int (nI k)) hx hb hts hown hE hS hinX7 0 rfl rfl (by decide) (List.mem_of_getElem? (i := 1) rfl) rfl dX7_member_138 ?_
                refine lv_iconst (v := (1 : Int32)) hx hb dX7_member_141 (by decide) ?_
                refine lv_iadd hx hb dX7_member_142 ?_
                refine cx_topr (z := nI (k + 1)) (nI_1 _) ?_
                refine cx_put (own := RX7) (index := 81) (C := RX7) (T := TX7) (N := 22) (k := 9) (ci := 7) (v := .int (nI (k + 1))) (ty := .int) (ws' := (cyW q cI cZ n T (k + 1) (cx_u (cx_u (cx_u (cx_u (cx_u (cx_u M 0 (upd (M 0) k xa)) 1 (upd (M 1) k xb)) 2 (upd (M 2) k xe)) 3 (upd (M 3) k xf)) 4 (upd (M 4) k xh)) 5 (upd (M 5) k xi)) d Z F)) hx hb hts hown hE hS hinX7 tyX7 tyX7_ok nmX7 0 rfl rfl (by decide) (List.mem_of_getElem? (i := 1) rfl) rfl (by decide +kernel) rfl rfl (Nat.le_of_ble_eq_true rfl) rfl dX7_member_143 (fun H locs hS => ?_)
                refine lv_aload_n hx hb dX7_member_146 rfl (lv_at hl 0 rfl) ?_
                refine cx_get (own := RX7) (index := 81) (C := RX7) (T := TX7) (N := 22) (k := 9) (ci := 7) (v := .int (nI (k + 1))) hx hb hts hown hE hS hinX7 0 rfl rfl (by decide) (List.mem_of_getElem? (i := 1) rfl) rfl dX7_member_147 ?_
                refine lv_iconst (v := (1 : Int32)) hx hb dX7_member_150 (by decide) ?_
                refine lv_isub hx hb dX7_member_151 ?_
                refine cx_topr (z := nI k) (nI_pred k) ?_
                exact RET _ (k + 1, cx_u (cx_u (cx_u (cx_u (cx_u (cx_u M 0 (upd (M 0) k xa)) 1 (upd (M 1) k xb)) 2 (upd (M 2) k xe)) 3 (upd (M 3) k xf)) 4 (upd (M 4) k xh)) 5 (upd (M 5) k xi)) _ _ _ _ dX7_member_152 rfl (Or.inr (Or.inr ⟨⟨g5, ⟨g15.1, (cx_leL _ 9 (by decide)).mp g15.2⟩, ⟨g24.1, (cx_leL _ 4 (by decide)).mp g24.2⟩, ⟨g35.1, (cx_leL _ 15 (by decide)).mp g35.2⟩, ⟨g45.1, (cx_leL _ 3 (by decide)).mp g45.2⟩, ⟨g56.1, (cx_leL _ 29 (by decide)).mp g56.2⟩⟩, by omega, rfl, rfl, rfl⟩)) hS
              · skip
                have g67 : k = 80 := (nI_eq (a := k) (b := 80) (by omega) (by omega)).mp h67
                refine lv_bipush (v := (-2 : Int32)) hx hb dX7_member_70 (by decide) ?_
                exact RET _ (k, M) _ _ _ _ dX7_member_72 rfl (Or.inr (Or.inl ⟨⟨g5, ⟨g15.1, (cx_leL _ 9 (by decide)).mp g15.2⟩, ⟨g24.1, (cx_leL _ 4 (by decide)).mp g24.2⟩, ⟨g35.1, (cx_leL _ 15 (by decide)).mp g35.2⟩, ⟨g45.1, (cx_leL _ 3 (by decide)).mp g45.2⟩, ⟨g56.1, (cx_leL _ 29 (by decide)).mp g56.2⟩⟩, by omega, rfl, rfl, rfl⟩)) hS
            · skip
              have g56 := cx_b0 h56
              exact J59  _ _ _ (by first | exact fun z => g5 z.1 | exact fun z => g15 ⟨z.2.1.1, (cx_leL _ 9 (by decide)).mpr z.2.1.2⟩ | exact fun z => g24 ⟨z.2.2.1.1, (cx_leL _ 4 (by decide)).mpr z.2.2.1.2⟩ | exact fun z => g35 ⟨z.2.2.2.1.1, (cx_leL _ 15 (by decide)).mpr z.2.2.2.1.2⟩ | exact fun z => g45 ⟨z.2.2.2.2.1.1, (cx_leL _ 3 (by decide)).mpr z.2.2.2.2.1.2⟩ | exact fun z => g56 ⟨z.2.2.2.2.2.1, (cx_leL _ 29 (by decide)).mpr z.2.2.2.2.2.2⟩) hS (lv_sub hl [0, 1, 2, 3, 4, 5, 6] rfl)
