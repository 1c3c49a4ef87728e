set_option maxHeartbeats 4000000 in
set_option maxRecDepth 100000 in
theorem c_X0_unlessAbstract (l : Launch) (D : va_G) (q : Nat → Nat) (cI cJ : ClassId) (n : Nat) (T : Nat → Nat → Int32) (k : Nat) (M : Nat → Nat → Int32) (d : Nat) (C : Nat → Nat → Int32) (J : Nat → Nat → Int32) (g : Nat → Int64) (mm : Nat) (hm : mm < 80) : cx_Mi l D vwCl [(cI, .int), (cJ, .long)] cx_NW yX0_unlessAbstract wsX0_unlessAbstract ({ frames := 1, cells := 0, slots := 0, locals := 22 } : Room) [.ref (q 3), .int (nI mm)] (cxW q cI cJ n T k M d C J g) (fun (r : Int32) (uw : Unit) => (cx_mk (M 3) mm 1 ∧ r = -1) ∨ (¬ cx_mk (M 3) mm 1 ∧ r = nI mm)) (fun _ => (cxW q cI cJ n T k M d C J g)) := by
  refine cx_Mi.of (cc := cX0_unlessAbstract) (maxL := 2) cx_NW_ok (by decide) rfl (Nat.le_of_ble_eq_true rfl) ?_
  intro p e s m args below meth c Q A ls hx hb hml hown hts hE RET hS hl
  have hl : lv_has ls 2 [(0, .ref (q 3)), (1, .int (nI mm))] := hl
  have hown : s.vm.findClass RX0 = some m.cls := hown
  have hinX0 : ∀ w ∈ u_ws RX0 TX0 7, w ∈ wsX0_unlessAbstract := cx_mem [8, 9, 10, 11, 12, 13, 14] (by decide +kernel)
  refine lv_aload_n hx hb dX0_unlessAbstract_0 rfl (lv_at hl 0 rfl) ?_
  refine cx_get (own := RX0) (index := 32) (C := RX0) (T := TX0) (N := 7) (k := 1) (ci := 0) (v := .ref (q 2)) hx hb hts hown hE hS hinX0 3 rfl rfl (by decide) (List.mem_of_getElem? (i := 1) rfl) rfl dX0_unlessAbstract_1 ?_
  refine lv_iload_n hx hb dX0_unlessAbstract_4 rfl (lv_at hl 1 rfl) ?_
  refine lv_iconst (v := (1 : Int32)) hx hb dX0_unlessAbstract_5 (by decide) ?_
  refine cx_cVi (As := [.int (nI mm), .int (1 : Int32)]) (rest := []) ⟨hx, hb, hml, hown, hts⟩ hE hS (c_X3_marked l D q cI cJ n T k M d C J g mm (1 : Int32) (by first | assumption | omega | rfl)) (cwV 2 hts gX0_unlessAbstract_X3_marked rfl rfl rfl (by decide +kernel) ⟨Nat.le_of_ble_eq_true rfl, Nat.le_of_ble_eq_true rfl⟩) 2 3 rfl rfl rfl hl.1 rfl (Nat.le_of_ble_eq_true rfl) ⟨Nat.zero_le _, Nat.zero_le _⟩ dX0_unlessAbstract_6 (fun r_6 u_6 H locs hp_6 hS => ?_)
  have hp_6 : (r_6 = 0 ∨ r_6 = 1) ∧ (¬ r_6 = 0 ↔ cx_mk ((M 3)) mm (1 : Int32)) := hp_6
  have J17 : ∀ (v17_s0 : Int32) (H : Heap) (locs : List Loc) (ls : Array Slot), ((cx_mk (M 3) mm 1 ∧ v17_s0 = -1) ∨ (¬ cx_mk (M 3) mm 1 ∧ v17_s0 = nI mm)) → cx_S D vwCl A s (cxW q cI cJ n T k M d C J g) H locs → lv_has ls 2 [(0, .ref (q 3)), (1, .int (nI mm))] → W p l e ({ frames := 1, cells := 0, slots := 0, locals := 22 } : Room) s m args below meth c H locs 0 0 Q (F0 m 17 ls [.int v17_s0]) := by
    intro v17_s0 H locs ls hv hS hl
    exact RET _ () _ _ _ _ dX0_unlessAbstract_17 rfl hv hS
  refine lv_if_eq (tgt := 16) hx hb dX0_unlessAbstract_9 (by decide) (fun h9 => ?_) (fun h9 => ?_)
  · skip
    have g9 : ¬ (cx_mk ((M 3)) mm (1 : Int32)) := fun z => hp_6.2.mpr z h9
    refine lv_iload_n hx hb dX0_unlessAbstract_16 rfl (lv_at hl 1 rfl) ?_
    exact J17 (nI mm) _ _ _ (by first | exact Or.inl ⟨g9, rfl⟩ | exact Or.inr ⟨g9, rfl⟩) hS (lv_sub hl [0, 1] rfl)
  · skip
    have g9 : cx_mk ((M 3)) mm (1 : Int32) := hp_6.2.mp h9
    refine lv_iconst (v := (-1 : Int32)) hx hb dX0_unlessAbstract_12 (by decide) ?_
    refine lv_goto (tgt := 17) hx hb dX0_unlessAbstract_13 (by decide) ?_
    exact J17 (-1 : Int32) _ _ _ (by first | exact Or.inl ⟨g9, rfl⟩ | exact Or.inr ⟨g9, rfl⟩) hS (lv_sub hl [0, 1] rfl)
set_option maxHeartbeats 4000000 in
set_option maxRecDepth 100000 in
theorem c_X0_givenByFace (l : Launch) (D : va_G) (q : Nat → Nat) (cI cJ : ClassId) (n : Nat) (T : Nat → Nat → Int32) (k : Nat) (M : Nat → Nat → Int32) (d : Nat) (C : Nat → Nat → Int32) (J : Nat → Nat → Int32) (g : Nat → Int64) (mm : Nat) (t : Nat) (nm : Int32) (pm : Int32) (hn : n ≤ 20) (hk : k ≤ 80) (hm : mm < k) (ht : t < n) (hO : cx_R (M 0) 20) (hOn : ∀ j, j < k → (M 0 j).toNatClampNeg < n) : cx_Mi l D vwCl [(cI, .int), (cJ, .long)] cx_NW yX0_givenByFace wsX0_givenByFace ({ frames := 1, cells := 0, slots := 0, locals := 23 } : Room) [.ref (q 3), .int (nI mm), .int (nI t), .int nm, .int pm] (cxW q cI cJ n T k M d C J g) (fun (r : Int32) (uw : Unit) => (r = 0 ∨ r = 1) ∧ (¬ r = 0 ↔ cx_gv (T 0) M (cx_Ac T n) t nm pm mm)) (fun _ => (cxW q cI cJ n T k M d C J g)) := by
  refine cx_Mi.of (cc := cX0_givenByFace) (maxL := 5) cx_NW_ok (by decide) rfl (Nat.le_of_ble_eq_true rfl) ?_
  intro p e s m args below meth c Q A ls hx hb hml hown hts hE RET hS hl
  have hl : lv_has ls 5 [(0, .ref (q 3)), (1, .int (nI mm)), (2, .int (nI t)), (3, .int nm), (4, .int pm)] := hl
  have hown : s.vm.findClass RX0 = some m.cls := hown
  have hinX0 : ∀ w ∈ u_ws RX0 TX0 7, w ∈ wsX0_givenByFace := cx_mem [27, 28, 29, 30, 31, 32, 33] (by decide +kernel)
  have hinX3 : ∀ w ∈ u_ws RX3 TX3 8, w ∈ wsX0_givenByFace := cx_mem [34, 35, 36, 37, 38, 39, 40, 41] (by decide +kernel)
  have hom := hOn mm hm
  refine lv_aload_n hx hb dX0_givenByFace_0 rfl (lv_at hl 0 rfl) ?_
  refine cx_get (own := RX0) (index := 32) (C := RX0) (T := TX0) (N := 7) (k := 1) (ci := 0) (v := .ref (q 2)) hx hb hts hown hE hS hinX0 3 rfl rfl (by decide) (List.mem_of_getElem? (i := 1) rfl) rfl dX0_givenByFace_1 ?_
  refine lv_iload_n hx hb dX0_givenByFace_4 rfl (lv_at hl 1 rfl) ?_
  refine lv_iload_n hx hb dX0_givenByFace_5 rfl (lv_at hl 3 rfl) ?_
  refine lv_iload hx hb dX0_givenByFace_6 (lv_at hl 4 rfl) ?_
  refine cx_cVi (As := [.int (nI mm), .int nm, .int pm]) (rest := []) ⟨hx, hb, hml, hown, hts⟩ hE hS (c_X3_named l D q cI cJ n T k M d C J g mm nm pm (by first | assumption | omega | rfl)) (cwV 3 hts gX0_givenByFace_X3_named rfl rfl rfl (by decide +kernel) ⟨Nat.le_of_ble_eq_true rfl, Nat.le_of_ble_eq_true rfl⟩) 2 3 rfl rfl rfl hl.1 rfl (Nat.le_of_ble_eq_true rfl) ⟨Nat.zero_le _, Nat.zero_le _⟩ dX0_givenByFace_8 (fun r_8 u_8 H locs hp_8 hS => ?_)
  have hp_8 : (r_8 = 0 ∨ r_8 = 1) ∧ (¬ r_8 = 0 ↔ cx_nmd M mm nm pm) := hp_8
  have J74 : ∀ (v74_s0 : Int32) (H : Heap) (locs : List Loc) (ls : Array Slot), ((v74_s0 = 0 ∨ v74_s0 = 1) ∧ (¬ v74_s0 = 0 ↔ cx_gv (T 0) M (cx_Ac T n) t nm pm mm)) → cx_S D vwCl A s (cxW q cI cJ n T k M d C J g) H locs → lv_has ls 5 [(0, .ref (q 3)), (1, .int (nI mm)), (2, .int (nI t)), (3, .int nm), (4, .int pm)] → W p l e ({ frames := 1, cells := 0, slots := 0, locals := 23 } : Room) s m args below meth c H locs 0 0 Q (F0 m 74 ls [.int v74_s0]) := by
    intro v74_s0 H locs ls b74 hS hl
    exact RET _ () _ _ _ _ dX0_givenByFace_74 (cx_nb b74.1) (by first | exact b74 | (try clear RET); (try clear hS); (try clear hl); (try clear hE); (try clear hts); (try clear hb); (try clear hx); (try clear hml); (try clear hown); (try clear hinX0); (try clear hinX3); (try clear J74); have y10 : ¬ (1 : Int32) = 0 := (by decide); first | assumption | (unfold cx_gv; grind)) hS
  have J73 : ∀ (H : Heap) (locs : List Loc) (ls : Array Slot), (¬ (cx_gv (T 0) M (cx_Ac T n) t nm pm mm)) → cx_S D vwCl A s (cxW q cI cJ n T k M d C J g) H locs → lv_has ls 5 [(0, .ref (q 3)), (1, .int (nI mm)), (2, .int (nI t)), (3, .int nm), (4, .int pm)] → W p l e ({ frames := 1, cells := 0, slots := 0, locals := 23 } : Room) s m args below meth c H locs 0 0 Q (F0 m 73 ls []) := by
    intro  H locs ls f73 hS hl
    refine lv_iconst (v := (0 : Int32)) hx hb dX0_givenByFace_73 (by decide) ?_
    exact J74 (0 : Int32) _ _ _ (cx_e0 (by (try clear RET); (try clear hS); (try clear hl); (try clear hE); (try clear hts); (try clear hb); (try clear hx); (try clear hml); (try clear hown); (try clear hinX0); (try clear hinX3); (try clear J74); (try clear J73); have y10 : ¬ (1 : Int32) = 0 := (by decide); first | assumption | (unfold cx_gv; grind))) hS (lv_sub hl [0, 1, 2, 3, 4] rfl)
  refine lv_if_eq (tgt := 73) hx hb dX0_givenByFace_11 (by decide) (fun h11 => ?_) (fun h11 => ?_)
  · skip
    have g11 : ¬ (cx_nmd M mm nm pm) := fun z => hp_8.2.mpr z h11
    exact J73  _ _ _ (by (try clear RET); (try clear hS); (try clear hl); (try clear hE); (try clear hts); (try clear hb); (try clear hx); (try clear hml); (try clear hown); (try clear hinX0); (try clear hinX3); (try clear J74); (try clear J73); have y10 : ¬ (1 : Int32) = 0 := (by decide); first | assumption | (unfold cx_gv; grind)) hS (lv_sub hl [0, 1, 2, 3, 4] rfl)
  · skip
    have g11 : cx_nmd M mm nm pm := hp_8.2.mp h11
    refine lv_aload_n hx hb dX0_givenByFace_14 rfl (lv_at hl 0 rfl) ?_
    refine cx_get (own := RX0) (index := 32) (C := RX0) (T := TX0) (N := 7) (k := 1) (ci := 0) (v := .ref (q 2)) hx hb hts hown hE hS hinX0 3 rfl rfl (by decide) (List.mem_of_getElem? (i := 1) rfl) rfl dX0_givenByFace_15 ?_
    refine lv_iload_n hx hb dX0_givenByFace_18 rfl (lv_at hl 1 rfl) ?_
    refine cx_cVi (As := [.int (nI mm)]) (rest := []) ⟨hx, hb, hml, hown, hts⟩ hE hS (c_X3_ofFace l D q cI cJ n T k M d C J g mm (by first | assumption | omega | rfl) (by first | assumption | omega | rfl)) (cwV 1 hts gX0_givenByFace_X3_ofFace rfl rfl rfl (by decide +kernel) ⟨Nat.le_of_ble_eq_true rfl, Nat.le_of_ble_eq_true rfl⟩) 2 3 rfl rfl rfl hl.1 rfl (Nat.le_of_ble_eq_true rfl) ⟨Nat.zero_le _, Nat.zero_le _⟩ dX0_givenByFace_19 (fun r_19 u_19 H locs hp_19 hS => ?_)
    have hp_19 : (r_19 = 0 ∨ r_19 = 1) ∧ (¬ r_19 = 0 ↔ cx_fc ((T 0)) M mm) := hp_19
    refine lv_if_eq (tgt := 73) hx hb dX0_givenByFace_22 (by decide) (fun h22 => ?_) (fun h22 => ?_)
    · skip
      have g22 : ¬ (cx_fc ((T 0)) M mm) := fun z => hp_19.2.mpr z h22
      exact J73  _ _ _ (by (try clear RET); (try clear hS); (try clear hl); (try clear hE); (try clear hts); (try clear hb); (try clear hx); (try clear hml); (try clear hown); (try clear hinX0); (try clear hinX3); (try clear J74); (try clear J73); have y10 : ¬ (1 : Int32) = 0 := (by decide); first | assumption | (unfold cx_gv; grind)) hS (lv_sub hl [0, 1, 2, 3, 4] rfl)
    · skip
      have g22 : cx_fc ((T 0)) M mm := hp_19.2.mp h22
      refine lv_aload_n hx hb dX0_givenByFace_25 rfl (lv_at hl 0 rfl) ?_
      refine cx_get (own := RX0) (index := 28) (C := RX0) (T := TX0) (N := 7) (k := 0) (ci := 0) (v := .ref (q 1)) hx hb hts hown hE hS hinX0 3 rfl rfl (by decide) (List.mem_of_getElem? (i := 2) rfl) rfl dX0_givenByFace_26 ?_
      refine lv_iload_n hx hb dX0_givenByFace_29 rfl (lv_at hl 2 rfl) ?_
      refine lv_aload_n hx hb dX0_givenByFace_30 rfl (lv_at hl 0 rfl) ?_
      refine cx_get (own := RX0) (index := 32) (C := RX0) (T := TX0) (N := 7) (k := 1) (ci := 0) (v := .ref (q 2)) hx hb hts hown hE hS hinX0 3 rfl rfl (by decide) (List.mem_of_getElem? (i := 1) rfl) rfl dX0_givenByFace_31 ?_
      refine cx_getN (own := RX0) (index := 46) (C := RX3) (T := TX3) (N := 8) (k := 1) (ci := 3) (host := "ClassRules") (v := .ref (q 18)) hx hb hts hown hE hS hinX3 2 rfl rfl (by decide) (List.mem_of_getElem? (i := 20) rfl) rfl dX0_givenByFace_34 ?_
      refine lv_iload_n hx hb dX0_givenByFace_37 rfl (lv_at hl 1 rfl) ?_
      refine cx_iald (f := (M 0)) (n := 80) (cA := cI) hx hb hE hS 18 0 rfl rfl (by omega) (by decide) dX0_givenByFace_38 ?_
      have ho38 := (hO mm).2
      refine cx_topr (z := nI (((M 0) mm).toNatClampNeg)) (hO mm).1 ?_
      refine cx_cVi (As := [.int (nI t), .int (nI (((M 0) mm).toNatClampNeg))]) (rest := []) ⟨hx, hb, hml, hown, hts⟩ hE hS (c_X5_stands_at_b l D q cI cJ n T k M d C J g t (((M 0) mm).toNatClampNeg) (by first | assumption | omega | rfl) (by first | assumption | omega | rfl)) (cwV 2 hts gX0_givenByFace_X5_stands rfl rfl rfl (by decide +kernel) ⟨Nat.le_of_ble_eq_true rfl, Nat.le_of_ble_eq_true rfl⟩) 1 5 rfl rfl rfl hl.1 rfl (Nat.le_of_ble_eq_true rfl) ⟨Nat.zero_le _, Nat.zero_le _⟩ dX0_givenByFace_39 (fun r_39 u_39 H locs hp_39 hS => ?_)
      have hp_39 : (r_39 = 0 ∨ r_39 = 1) ∧ (¬ r_39 = 0 ↔ t = (((M 0) mm).toNatClampNeg) ∨ bt ((T 10) t) (((M 0) mm).toNatClampNeg) = true) := hp_39
      refine lv_if_eq (tgt := 73) hx hb dX0_givenByFace_42 (by decide) (fun h42 => ?_) (fun h42 => ?_)
      · skip
        have g42 : ¬ (t = (((M 0) mm).toNatClampNeg) ∨ bt ((T 10) t) (((M 0) mm).toNatClampNeg) = true) := fun z => hp_39.2.mpr z h42
        exact J73  _ _ _ (by (try clear RET); (try clear hS); (try clear hl); (try clear hE); (try clear hts); (try clear hb); (try clear hx); (try clear hml); (try clear hown); (try clear hinX0); (try clear hinX3); (try clear J74); (try clear J73); have y10 : ¬ (1 : Int32) = 0 := (by decide); first | assumption | (unfold cx_gv; grind)) hS (lv_sub hl [0, 1, 2, 3, 4] rfl)
      · skip
        have g42 : t = (((M 0) mm).toNatClampNeg) ∨ bt ((T 10) t) (((M 0) mm).toNatClampNeg) = true := hp_39.2.mp h42
        refine lv_aload_n hx hb dX0_givenByFace_45 rfl (lv_at hl 0 rfl) ?_
        refine cx_get (own := RX0) (index := 32) (C := RX0) (T := TX0) (N := 7) (k := 1) (ci := 0) (v := .ref (q 2)) hx hb hts hown hE hS hinX0 3 rfl rfl (by decide) (List.mem_of_getElem? (i := 1) rfl) rfl dX0_givenByFace_46 ?_
        refine lv_iload_n hx hb dX0_givenByFace_49 rfl (lv_at hl 1 rfl) ?_
        refine lv_iconst (v := nI 4) hx hb dX0_givenByFace_50 (by decide) ?_
        refine cx_cVi (As := [.int (nI mm), .int (nI 4)]) (rest := []) ⟨hx, hb, hml, hown, hts⟩ hE hS (c_X3_marked l D q cI cJ n T k M d C J g mm (nI 4) (by first | assumption | omega | rfl)) (cwV 2 hts gX0_givenByFace_X3_marked rfl rfl rfl (by decide +kernel) ⟨Nat.le_of_ble_eq_true rfl, Nat.le_of_ble_eq_true rfl⟩) 2 3 rfl rfl rfl hl.1 rfl (Nat.le_of_ble_eq_true rfl) ⟨Nat.zero_le _, Nat.zero_le _⟩ dX0_givenByFace_51 (fun r_51 u_51 H locs hp_51 hS => ?_)
        have hp_51 : (r_51 = 0 ∨ r_51 = 1) ∧ (¬ r_51 = 0 ↔ cx_mk ((M 3)) mm (nI 4)) := hp_51
        refine lv_if_ne (tgt := 73) hx hb dX0_givenByFace_54 (by decide) (fun h54 => ?_) (fun h54 => ?_)
        · skip
          have g54 : cx_mk ((M 3)) mm (nI 4) := hp_51.2.mp h54
          exact J73  _ _ _ (by (try clear RET); (try clear hS); (try clear hl); (try clear hE); (try clear hts); (try clear hb); (try clear hx); (try clear hml); (try clear hown); (try clear hinX0); (try clear hinX3); (try clear J74); (try clear J73); have y10 : ¬ (1 : Int32) = 0 := (by decide); first | assumption | (unfold cx_gv; grind)) hS (lv_sub hl [0, 1, 2, 3, 4] rfl)
        · skip
          have g54 : ¬ (cx_mk ((M 3)) mm (nI 4)) := fun z => hp_51.2.mpr z h54
          refine lv_aload_n hx hb dX0_givenByFace_57 rfl (lv_at hl 0 rfl) ?_
          refine cx_get (own := RX0) (index := 32) (C := RX0) (T := TX0) (N := 7) (k := 1) (ci := 0) (v := .ref (q 2)) hx hb hts hown hE hS hinX0 3 rfl rfl (by decide) (List.mem_of_getElem? (i := 1) rfl) rfl dX0_givenByFace_58 ?_
          refine cx_getN (own := RX0) (index := 84) (C := RX3) (T := TX3) (N := 8) (k := 5) (ci := 3) (host := "ClassRules") (v := .ref (q 22)) hx hb hts hown hE hS hinX3 2 rfl rfl (by decide) (List.mem_of_getElem? (i := 26) rfl) rfl dX0_givenByFace_61 ?_
          refine lv_iload_n hx hb dX0_givenByFace_64 rfl (lv_at hl 1 rfl) ?_
          refine cx_iald (f := (M 4)) (n := 80) (cA := cI) hx hb hE hS 22 0 rfl rfl (by omega) (by decide) dX0_givenByFace_65 ?_
          refine lv_if_eq (tgt := 73) hx hb dX0_givenByFace_66 (by decide) (fun h66 => ?_) (fun h66 => ?_)
          · skip
            exact J73  _ _ _ (by (try clear RET); (try clear hS); (try clear hl); (try clear hE); (try clear hts); (try clear hb); (try clear hx); (try clear hml); (try clear hown); (try clear hinX0); (try clear hinX3); (try clear J74); (try clear J73); have y10 : ¬ (1 : Int32) = 0 := (by decide); first | assumption | (unfold cx_gv; grind)) hS (lv_sub hl [0, 1, 2, 3, 4] rfl)
          · skip
            refine lv_iconst (v := (1 : Int32)) hx hb dX0_givenByFace_69 (by decide) ?_
            refine lv_goto (tgt := 74) hx hb dX0_givenByFace_70 (by decide) ?_
            exact J74 (1 : Int32) _ _ _ (cx_e1 (by (try clear RET); (try clear hS); (try clear hl); (try clear hE); (try clear hts); (try clear hb); (try clear hx); (try clear hml); (try clear hown); (try clear hinX0); (try clear hinX3); (try clear J74); (try clear J73); have y10 : ¬ (1 : Int32) = 0 := (by decide); first | assumption | (unfold cx_gv; grind))) hS (lv_sub hl [0, 1, 2, 3, 4] rfl)
set_option maxHeartbeats 4000000 in
set_option maxRecDepth 100000 in
theorem c_X0_leastFaceOneWith (l : Launch) (D : va_G) (q : Nat → Nat) (cI cJ : ClassId) (n : Nat) (T : Nat → Nat → Int32) (k : Nat) (M : Nat → Nat → Int32) (d : Nat) (C : Nat → Nat → Int32) (J : Nat → Nat → Int32) (g : Nat → Int64) (mk : Int32) (hd : d ≤ 20) (hF : ∀ j, j < d → cx_ix ((C 0) j) 80) : cx_Mi l D vwCl [(cI, .int), (cJ, .long)] cx_NW yX0_leastFaceOneWith wsX0_leastFaceOneWith ({ frames := 1, cells := 0, slots := 0, locals := 22 } : Room) [.ref (q 3), .int mk] (cxW q cI cJ n T k M d C J g) (fun (r : Int32) (uw : Unit) => cx_Lw M (C 0) d mk r) (fun _ => (cxW q cI cJ n T k M d C J g)) := by
  refine cx_Mi.of (cc := cX0_leastFaceOneWith) (maxL := 3) cx_NW_ok (by decide) rfl (Nat.le_of_ble_eq_true rfl) ?_
  intro p e s m args below meth c Q A ls hx hb hml hown hts hE RET hS hl
  have hl : lv_has ls 3 [(0, .ref (q 3)), (1, .int mk)] := hl
  have hown : s.vm.findClass RX0 = some m.cls := hown
  have hinX0 : ∀ w ∈ u_ws RX0 TX0 7, w ∈ wsX0_leastFaceOneWith := cx_mem [10, 11, 12, 13, 14, 15, 16] (by decide +kernel)
  refine lv_iconst (v := (0 : Int32)) hx hb dX0_leastFaceOneWith_0 (by decide) ?_
  refine cx_topr (z := nI 0) (by decide) ?_
  refine lv_istore_n (lv' := [(2, .int (nI 0)), (0, .ref (q 3)), (1, .int mk)]) hx hb dX0_leastFaceOneWith_1 rfl hl (by decide) rfl (fun ls hl => ?_)
  have J2 : ∀ (N : Nat) (i2 : Nat) (H : Heap) (locs : List Loc) (ls : Array Slot), (d - i2 < N) → (i2 ≤ d) → (∀ j, j < i2 → ¬ cx_mk (M 3) (C 0 j).toNatClampNeg mk) → cx_S D vwCl A s (cxW q cI cJ n T k M d C J g) H locs → lv_has ls 3 [(0, .ref (q 3)), (1, .int mk), (2, .int (nI i2))] → W p l e ({ frames := 1, cells := 0, slots := 0, locals := 22 } : Room) s m args below meth c H locs 0 0 Q (F0 m 2 ls []) := by
    intro N2
    induction N2 with
    | zero => intro i2 H locs ls hN; exact absurd hN (by omega)
    | succ N2 ih2 =>
      intro i2 H locs ls hN2 hi2 hl0 hS hl
      refine lv_iload_n hx hb dX0_leastFaceOneWith_2 rfl (lv_at hl 2 rfl) ?_
      refine lv_aload_n hx hb dX0_leastFaceOneWith_3 rfl (lv_at hl 0 rfl) ?_
      refine cx_get (own := RX0) (index := 21) (C := RX0) (T := TX0) (N := 7) (k := 5) (ci := 0) (v := .int (nI d)) hx hb hts hown hE hS hinX0 3 rfl rfl (by decide) (List.mem_of_getElem? (i := 1) rfl) rfl dX0_leastFaceOneWith_4 ?_
      refine lv_icmp_ge (tgt := 40) hx hb dX0_leastFaceOneWith_7 (by decide) (fun h7 => ?_) (fun h7 => ?_)
      · skip
        have g7 : d ≤ i2 := (nI_leI (a := d) (b := i2) (by omega) (by omega)).mp h7
        refine lv_iconst (v := (-1 : Int32)) hx hb dX0_leastFaceOneWith_40 (by decide) ?_
        exact RET _ () _ _ _ _ dX0_leastFaceOneWith_41 rfl (Or.inl ⟨rfl, fun j hj => hl0 j (by omega)⟩) hS
      · skip
        have g7 : ¬ (d ≤ i2) := fun z => h7 ((nI_leI (a := d) (b := i2) (by omega) (by omega)).mpr z)
        refine lv_aload_n hx hb dX0_leastFaceOneWith_10 rfl (lv_at hl 0 rfl) ?_
        refine cx_get (own := RX0) (index := 32) (C := RX0) (T := TX0) (N := 7) (k := 1) (ci := 0) (v := .ref (q 2)) hx hb hts hown hE hS hinX0 3 rfl rfl (by decide) (List.mem_of_getElem? (i := 2) rfl) rfl dX0_leastFaceOneWith_11 ?_
        refine lv_aload_n hx hb dX0_leastFaceOneWith_14 rfl (lv_at hl 0 rfl) ?_
        refine cx_get (own := RX0) (index := 9) (C := RX0) (T := TX0) (N := 7) (k := 2) (ci := 0) (v := .ref (q 24)) hx hb hts hown hE hS hinX0 3 rfl rfl (by decide) (List.mem_of_getElem? (i := 3) rfl) rfl dX0_leastFaceOneWith_15 ?_
        refine lv_iload_n hx hb dX0_leastFaceOneWith_18 rfl (lv_at hl 2 rfl) ?_
        refine cx_iald (f := (C 0)) (n := 20) (cA := cI) hx hb hE hS 24 0 rfl rfl (by omega) (by decide) dX0_leastFaceOneWith_19 ?_
        refine cx_topr (z := nI (((C 0) i2).toNatClampNeg)) (hF _ (by omega)).1 ?_
        refine lv_iload_n hx hb dX0_leastFaceOneWith_20 rfl (lv_at hl 1 rfl) ?_
        refine cx_cVi (As := [.int (nI (((C 0) i2).toNatClampNeg)), .int mk]) (rest := []) ⟨hx, hb, hml, hown, hts⟩ hE hS (c_X3_marked l D q cI cJ n T k M d C J g (((C 0) i2).toNatClampNeg) mk ((hF _ (by omega)).2)) (cwV 2 hts gX0_leastFaceOneWith_X3_marked rfl rfl rfl (by decide +kernel) ⟨Nat.le_of_ble_eq_true rfl, Nat.le_of_ble_eq_true rfl⟩) 2 3 rfl rfl rfl hl.1 rfl (Nat.le_of_ble_eq_true rfl) ⟨Nat.zero_le _, Nat.zero_le _⟩ dX0_leastFaceOneWith_21 (fun r_21 u_21 H locs hp_21 hS => ?_)
        have hp_21 : (r_21 = 0 ∨ r_21 = 1) ∧ (¬ r_21 = 0 ↔ cx_mk ((M 3)) (((C 0) i2).toNatClampNeg) mk) := hp_21
        refine lv_if_eq (tgt := 34) hx hb dX0_leastFaceOneWith_24 (by decide) (fun h24 => ?_) (fun h24 => ?_)
        · skip
          have g24 : ¬ (cx_mk ((M 3)) (((C 0) i2).toNatClampNeg) mk) := fun z => hp_21.2.mpr z h24
          refine lv_iinc (v := nI (i2 + 1)) (lv' := [(2, .int (nI (i2 + 1))), (0, .ref (q 3)), (1, .int mk)]) hx hb dX0_leastFaceOneWith_34 hl (k := 2) rfl (cx_inc _) (by decide) rfl (fun ls hl => ?_)
          refine lv_goto (tgt := 2) hx hb dX0_leastFaceOneWith_37 (by decide) ?_
          exact ih2 (i2 + 1) _ _ _ (by omega) (by omega) (by first | exact cx_all0 | exact cx_allS hl0 g24) hS (lv_sub hl [1, 2, 0] rfl)
        · skip
          have g24 : cx_mk ((M 3)) (((C 0) i2).toNatClampNeg) mk := hp_21.2.mp h24
          refine lv_aload_n hx hb dX0_leastFaceOneWith_27 rfl (lv_at hl 0 rfl) ?_
          refine cx_get (own := RX0) (index := 9) (C := RX0) (T := TX0) (N := 7) (k := 2) (ci := 0) (v := .ref (q 24)) hx hb hts hown hE hS hinX0 3 rfl rfl (by decide) (List.mem_of_getElem? (i := 3) rfl) rfl dX0_leastFaceOneWith_28 ?_
          refine lv_iload_n hx hb dX0_leastFaceOneWith_31 rfl (lv_at hl 2 rfl) ?_
          refine cx_iald (f := (C 0)) (n := 20) (cA := cI) hx hb hE hS 24 0 rfl rfl (by omega) (by decide) dX0_leastFaceOneWith_32 ?_
          exact RET _ () _ _ _ _ dX0_leastFaceOneWith_33 rfl (Or.inr ⟨i2, by omega, g24, hl0, rfl⟩) hS
  exact J2 (d - 0 + 1) 0 _ _ _ (Nat.lt_succ_self _) (by omega) (by first | exact cx_all0 | exact cx_allS hl0 g24) hS (lv_sub hl [1, 2, 0] rfl)
set_option maxHeartbeats 4000000 in
set_option maxRecDepth 100000 in
theorem c_X0_leastToBeGiven (l : Launch) (D : va_G) (q : Nat → Nat) (cI cJ : ClassId) (n : Nat) (T : Nat → Nat → Int32) (k : Nat) (M : Nat → Nat → Int32) (d : Nat) (C : Nat → Nat → Int32) (J : Nat → Nat → Int32) (g : Nat → Int64) (hd : d ≤ 20) (hF : ∀ j, j < d → cx_ix ((C 0) j) 80) (hC : (C 4) 0 = -1 ∨ cx_ix ((C 4) 0) 80) : cx_Mi l D vwCl [(cI, .int), (cJ, .long)] cx_NW yX0_leastToBeGiven wsX0_leastToBeGiven ({ frames := 2, cells := 0, slots := 0, locals := 44 } : Room) [.ref (q 3)] (cxW q cI cJ n T k M d C J g) (fun (r : Int32) (uw : Unit) => (¬ r = -1 ↔ (¬ (C 4) 0 = -1 ∧ cx_mk (M 3) ((C 4) 0).toNatClampNeg 1) ∨ ((C 4) 0 = -1 ∧ (¬ ∃ j, j < d ∧ cx_mk (M 3) ((C 0) j).toNatClampNeg (nI 8)) ∧ ∃ j, j < d ∧ cx_mk (M 3) ((C 0) j).toNatClampNeg 1)) ∧ (r = -1 ∨ cx_ix r 80)) (fun _ => (cxW q cI cJ n T k M d C J g)) := by
  refine cx_Mi.of (cc := cX0_leastToBeGiven) (maxL := 1) cx_NW_ok (by decide) rfl (Nat.le_of_ble_eq_true rfl) ?_
  intro p e s m args below meth c Q A ls hx hb hml hown hts hE RET hS hl
  have hl : lv_has ls 1 [(0, .ref (q 3))] := hl
  have hown : s.vm.findClass RX0 = some m.cls := hown
  have hinX0 : ∀ w ∈ u_ws RX0 TX0 7, w ∈ wsX0_leastToBeGiven := cx_mem [16, 17, 18, 19, 20, 21, 22] (by decide +kernel)
  refine lv_aload_n hx hb dX0_leastToBeGiven_0 rfl (lv_at hl 0 rfl) ?_
  refine cx_get (own := RX0) (index := 25) (C := RX0) (T := TX0) (N := 7) (k := 6) (ci := 0) (v := .int ((C 4) 0)) hx hb hts hown hE hS hinX0 3 rfl rfl (by decide) (List.mem_of_getElem? (i := 1) rfl) rfl dX0_leastToBeGiven_1 ?_
  refine lv_iconst (v := (-1 : Int32)) hx hb dX0_leastToBeGiven_4 (by decide) ?_
  refine lv_icmp_eq (tgt := 32) hx hb dX0_leastToBeGiven_5 (by decide) (fun h5 => ?_) (fun h5 => ?_)
  · skip
    refine lv_aload_n hx hb dX0_leastToBeGiven_32 rfl (lv_at hl 0 rfl) ?_
    refine lv_bipush (v := nI 8) hx hb dX0_leastToBeGiven_33 (by decide) ?_
    refine cx_cVi (As := [.int (nI 8)]) (rest := []) ⟨hx, hb, hml, hown, hts⟩ hE hS (c_X0_leastFaceOneWith l D q cI cJ n T k M d C J g (nI 8) (by first | assumption | omega | rfl) (by first | assumption | omega | rfl)) (cwV 1 hts gX0_leastToBeGiven_X0_leastFaceOneWith rfl rfl rfl (by decide +kernel) ⟨Nat.le_of_ble_eq_true rfl, Nat.le_of_ble_eq_true rfl⟩) 3 0 rfl rfl rfl hl.1 rfl (Nat.le_of_ble_eq_true rfl) ⟨Nat.zero_le _, Nat.zero_le _⟩ dX0_leastToBeGiven_35 (fun r_35 u_35 H locs hp_35 hS => ?_)
    have hp_35 : cx_Lw M ((C 0)) d (nI 8) r_35 := hp_35
    refine lv_iconst (v := (-1 : Int32)) hx hb dX0_leastToBeGiven_38 (by decide) ?_
    have J51 : ∀ (v51_s0 : Int32) (H : Heap) (locs : List Loc) (ls : Array Slot), ((¬ v51_s0 = -1 ↔ (¬ (C 4) 0 = -1 ∧ cx_mk (M 3) ((C 4) 0).toNatClampNeg 1) ∨ ((C 4) 0 = -1 ∧ (¬ ∃ j, j < d ∧ cx_mk (M 3) ((C 0) j).toNatClampNeg (nI 8)) ∧ ∃ j, j < d ∧ cx_mk (M 3) ((C 0) j).toNatClampNeg 1)) ∧ (v51_s0 = -1 ∨ cx_ix v51_s0 80)) → cx_S D vwCl A s (cxW q cI cJ n T k M d C J g) H locs → lv_has ls 1 [(0, .ref (q 3))] → W p l e ({ frames := 2, cells := 0, slots := 0, locals := 44 } : Room) s m args below meth c H locs 0 0 Q (F0 m 51 ls [.int v51_s0]) := by
      intro v51_s0 H locs ls hv hS hl
      exact RET _ () _ _ _ _ dX0_leastToBeGiven_51 rfl hv hS
    refine lv_icmp_ne (tgt := 50) hx hb dX0_leastToBeGiven_39 (by decide) (fun h39 => ?_) (fun h39 => ?_)
    · skip
      refine lv_iconst (v := (-1 : Int32)) hx hb dX0_leastToBeGiven_50 (by decide) ?_
      exact J51 (-1 : Int32) _ _ _ (by first | exact cx_tg3 h5 hF hp_35 h39 | exact cx_tg4 h5 hF hp_35 hp_44 h39) hS (lv_sub hl [0] rfl)
    · skip
      refine lv_aload_n hx hb dX0_leastToBeGiven_42 rfl (lv_at hl 0 rfl) ?_
      refine lv_iconst (v := (1 : Int32)) hx hb dX0_leastToBeGiven_43 (by decide) ?_
      refine cx_cVi (As := [.int (1 : Int32)]) (rest := []) ⟨hx, hb, hml, hown, hts⟩ hE hS (c_X0_leastFaceOneWith l D q cI cJ n T k M d C J g (1 : Int32) (by first | assumption | omega | rfl) (by first | assumption | omega | rfl)) (cwV 1 hts gX0_leastToBeGiven_X0_leastFaceOneWith rfl rfl rfl (by decide +kernel) ⟨Nat.le_of_ble_eq_true rfl, Nat.le_of_ble_eq_true rfl⟩) 3 0 rfl rfl rfl hl.1 rfl (Nat.le_of_ble_eq_true rfl) ⟨Nat.zero_le _, Nat.zero_le _⟩ dX0_leastToBeGiven_44 (fun r_44 u_44 H locs hp_44 hS => ?_)
      have hp_44 : cx_Lw M ((C 0)) d (1 : Int32) r_44 := hp_44
      refine lv_goto (tgt := 51) hx hb dX0_leastToBeGiven_47 (by decide) ?_
      exact J51 r_44 _ _ _ (by first | exact cx_tg3 h5 hF hp_35 h39 | exact cx_tg4 h5 hF hp_35 hp_44 h39) hS (lv_sub hl [0] rfl)
  · skip
    refine lv_aload_n hx hb dX0_leastToBeGiven_8 rfl (lv_at hl 0 rfl) ?_
    refine cx_get (own := RX0) (index := 32) (C := RX0) (T := TX0) (N := 7) (k := 1) (ci := 0) (v := .ref (q 2)) hx hb hts hown hE hS hinX0 3 rfl rfl (by decide) (List.mem_of_getElem? (i := 2) rfl) rfl dX0_leastToBeGiven_9 ?_
    refine lv_aload_n hx hb dX0_leastToBeGiven_12 rfl (lv_at hl 0 rfl) ?_
    refine cx_get (own := RX0) (index := 25) (C := RX0) (T := TX0) (N := 7) (k := 6) (ci := 0) (v := .int ((C 4) 0)) hx hb hts hown hE hS hinX0 3 rfl rfl (by decide) (List.mem_of_getElem? (i := 1) rfl) rfl dX0_leastToBeGiven_13 ?_
    refine cx_topr (z := nI (((C 4) 0).toNatClampNeg)) (hC.resolve_left h5).1 ?_
    refine lv_iconst (v := (1 : Int32)) hx hb dX0_leastToBeGiven_16 (by decide) ?_
    refine cx_cVi (As := [.int (nI (((C 4) 0).toNatClampNeg)), .int (1 : Int32)]) (rest := []) ⟨hx, hb, hml, hown, hts⟩ hE hS (c_X3_marked l D q cI cJ n T k M d C J g (((C 4) 0).toNatClampNeg) (1 : Int32) ((hC.resolve_left h5).2)) (cwV 2 hts gX0_leastToBeGiven_X3_marked rfl rfl rfl (by decide +kernel) ⟨Nat.le_of_ble_eq_true rfl, Nat.le_of_ble_eq_true rfl⟩) 2 3 rfl rfl rfl hl.1 rfl (Nat.le_of_ble_eq_true rfl) ⟨Nat.zero_le _, Nat.zero_le _⟩ dX0_leastToBeGiven_17 (fun r_17 u_17 H locs hp_17 hS => ?_)
    have hp_17 : (r_17 = 0 ∨ r_17 = 1) ∧ (¬ r_17 = 0 ↔ cx_mk ((M 3)) (((C 4) 0).toNatClampNeg) (1 : Int32)) := hp_17
    have J31 : ∀ (v31_s0 : Int32) (H : Heap) (locs : List Loc) (ls : Array Slot), ((¬ v31_s0 = -1 ↔ (¬ (C 4) 0 = -1 ∧ cx_mk (M 3) ((C 4) 0).toNatClampNeg 1) ∨ ((C 4) 0 = -1 ∧ (¬ ∃ j, j < d ∧ cx_mk (M 3) ((C 0) j).toNatClampNeg (nI 8)) ∧ ∃ j, j < d ∧ cx_mk (M 3) ((C 0) j).toNatClampNeg 1)) ∧ (v31_s0 = -1 ∨ cx_ix v31_s0 80)) → cx_S D vwCl A s (cxW q cI cJ n T k M d C J g) H locs → lv_has ls 1 [(0, .ref (q 3))] → W p l e ({ frames := 2, cells := 0, slots := 0, locals := 44 } : Room) s m args below meth c H locs 0 0 Q (F0 m 31 ls [.int v31_s0]) := by
      intro v31_s0 H locs ls hv hS hl
      exact RET _ () _ _ _ _ dX0_leastToBeGiven_31 rfl hv hS
    refine lv_if_eq (tgt := 30) hx hb dX0_leastToBeGiven_20 (by decide) (fun h20 => ?_) (fun h20 => ?_)
    · skip
      have g20 : ¬ (cx_mk ((M 3)) (((C 4) 0).toNatClampNeg) (1 : Int32)) := fun z => hp_17.2.mpr z h20
      refine lv_iconst (v := (-1 : Int32)) hx hb dX0_leastToBeGiven_30 (by decide) ?_
      exact J31 (-1 : Int32) _ _ _ (by first | exact cx_tg1 h5 g20 hC | exact cx_tg2 h5 g20) hS (lv_sub hl [0] rfl)
    · skip
      have g20 : cx_mk ((M 3)) (((C 4) 0).toNatClampNeg) (1 : Int32) := hp_17.2.mp h20
      refine lv_aload_n hx hb dX0_leastToBeGiven_23 rfl (lv_at hl 0 rfl) ?_
      refine cx_get (own := RX0) (index := 25) (C := RX0) (T := TX0) (N := 7) (k := 6) (ci := 0) (v := .int ((C 4) 0)) hx hb hts hown hE hS hinX0 3 rfl rfl (by decide) (List.mem_of_getElem? (i := 1) rfl) rfl dX0_leastToBeGiven_24 ?_
      refine lv_goto (tgt := 31) hx hb dX0_leastToBeGiven_27 (by decide) ?_
      exact J31 ((C 4) 0) _ _ _ (by first | exact cx_tg1 h5 g20 hC | exact cx_tg2 h5 g20) hS (lv_sub hl [0] rfl)
set_option maxHeartbeats 4000000 in
set_option maxRecDepth 100000 in
theorem c_X0_leastOfRivals (l : Launch) (D : va_G) (q : Nat → Nat) (cI cJ : ClassId) (n : Nat) (T : Nat → Nat → Int32) (k : Nat) (M : Nat → Nat → Int32) (d : Nat) (C : Nat → Nat → Int32) (J : Nat → Nat → Int32) (g : Nat → Int64) (hd : d ≤ 20) (hF : ∀ j, j < d → cx_ix ((C 0) j) 80) (hC : (C 4) 0 = -1 ∨ cx_ix ((C 4) 0) 80) : cx_Mi l D vwCl [(cI, .int), (cJ, .long)] cx_NW yX0_leastOfRivals wsX0_leastOfRivals ({ frames := 2, cells := 0, slots := 0, locals := 44 } : Room) [.ref (q 3)] (cxW q cI cJ n T k M d C J g) (fun (r : Int32) (uw : Unit) => (¬ r = -1 ↔ (C 4) 0 = -1 ∧ 1 < d ∧ ∃ j, j < d ∧ cx_mk (M 3) ((C 0) j).toNatClampNeg (nI 8)) ∧ (r = -1 ∨ cx_ix r 80)) (fun _ => (cxW q cI cJ n T k M d C J g)) := by
  refine cx_Mi.of (cc := cX0_leastOfRivals) (maxL := 2) cx_NW_ok (by decide) rfl (Nat.le_of_ble_eq_true rfl) ?_
  intro p e s m args below meth c Q A ls hx hb hml hown hts hE RET hS hl
  have hl : lv_has ls 2 [(0, .ref (q 3))] := hl
  have hown : s.vm.findClass RX0 = some m.cls := hown
  have hinX0 : ∀ w ∈ u_ws RX0 TX0 7, w ∈ wsX0_leastOfRivals := cx_mem [16, 17, 18, 19, 20, 21, 22] (by decide +kernel)
  refine lv_aload_n hx hb dX0_leastOfRivals_0 rfl (lv_at hl 0 rfl) ?_
  refine cx_get (own := RX0) (index := 25) (C := RX0) (T := TX0) (N := 7) (k := 6) (ci := 0) (v := .int ((C 4) 0)) hx hb hts hown hE hS hinX0 3 rfl rfl (by decide) (List.mem_of_getElem? (i := 1) rfl) rfl dX0_leastOfRivals_1 ?_
  refine lv_iconst (v := (-1 : Int32)) hx hb dX0_leastOfRivals_4 (by decide) ?_
  have J31 : ∀ (v31_s0 : Int32) (H : Heap) (locs : List Loc) (ls : Array Slot), ((v31_s0 = 0 ∨ v31_s0 = 1) ∧ (¬ v31_s0 = 0 ↔ (C 4) 0 = -1 ∧ 1 < d ∧ ∃ j, j < d ∧ cx_mk (M 3) ((C 0) j).toNatClampNeg (nI 8))) → cx_S D vwCl A s (cxW q cI cJ n T k M d C J g) H locs → lv_has ls 2 [(0, .ref (q 3))] → W p l e ({ frames := 2, cells := 0, slots := 0, locals := 44 } : Room) s m args below meth c H locs 0 0 Q (F0 m 31 ls [.int v31_s0]) := by
    intro v31_s0 H locs ls b31 hS hl
    refine lv_istore_n (lv' := [(1, .int v31_s0), (0, .ref (q 3))]) hx hb dX0_leastOfRivals_31 rfl hl (by decide) rfl (fun ls hl => ?_)
    refine lv_iload_n hx hb dX0_leastOfRivals_32 rfl (lv_at hl 0 rfl) ?_
    have J46 : ∀ (v46_s0 : Int32) (H : Heap) (locs : List Loc) (ls : Array Slot), ((¬ v46_s0 = -1 ↔ (C 4) 0 = -1 ∧ 1 < d ∧ ∃ j, j < d ∧ cx_mk (M 3) ((C 0) j).toNatClampNeg (nI 8)) ∧ (v46_s0 = -1 ∨ cx_ix v46_s0 80)) → cx_S D vwCl A s (cxW q cI cJ n T k M d C J g) H locs → lv_has ls 2 [(0, .ref (q 3)), (1, .int v31_s0)] → W p l e ({ frames := 2, cells := 0, slots := 0, locals := 44 } : Room) s m args below meth c H locs 0 0 Q (F0 m 46 ls [.int v46_s0]) := by
      intro v46_s0 H locs ls hv hS hl
      exact RET _ () _ _ _ _ dX0_leastOfRivals_46 rfl hv hS
    refine lv_if_eq (tgt := 45) hx hb dX0_leastOfRivals_33 (by decide) (fun h33 => ?_) (fun h33 => ?_)
    · skip
      have g33 : ¬ ((C 4) 0 = -1 ∧ 1 < d ∧ ∃ j, j < d ∧ cx_mk (M 3) ((C 0) j).toNatClampNeg (nI 8)) := fun z => b31.2.mpr z h33
      refine lv_iconst (v := (-1 : Int32)) hx hb dX0_leastOfRivals_45 (by decide) ?_
      exact J46 (-1 : Int32) _ _ _ (by first | exact ⟨⟨fun _ => g33, fun _ => cx_ixm (hF _ (by have := g33.2.1; omega)) (by decide)⟩, Or.inr (hF _ (by have := g33.2.1; omega))⟩ | exact ⟨⟨fun z => absurd rfl z, fun z => absurd z g33⟩, Or.inl rfl⟩) hS (lv_sub hl [1, 0] rfl)
    · skip
      have g33 : (C 4) 0 = -1 ∧ 1 < d ∧ ∃ j, j < d ∧ cx_mk (M 3) ((C 0) j).toNatClampNeg (nI 8) := b31.2.mp h33
      refine lv_aload_n hx hb dX0_leastOfRivals_36 rfl (lv_at hl 1 rfl) ?_
      refine cx_get (own := RX0) (index := 9) (C := RX0) (T := TX0) (N := 7) (k := 2) (ci := 0) (v := .ref (q 24)) hx hb hts hown hE hS hinX0 3 rfl rfl (by decide) (List.mem_of_getElem? (i := 3) rfl) rfl dX0_leastOfRivals_37 ?_
      refine lv_iconst (v := (0 : Int32)) hx hb dX0_leastOfRivals_40 (by decide) ?_
      refine cx_topr (z := nI 0) (by decide) ?_
      refine cx_iald (f := (C 0)) (n := 20) (cA := cI) hx hb hE hS 24 0 rfl rfl (by have := g33.2.1; omega) (by decide) dX0_leastOfRivals_41 ?_
      refine lv_goto (tgt := 46) hx hb dX0_leastOfRivals_42 (by decide) ?_
      exact J46 ((C 0) 0) _ _ _ (by first | exact ⟨⟨fun _ => g33, fun _ => cx_ixm (hF _ (by have := g33.2.1; omega)) (by decide)⟩, Or.inr (hF _ (by have := g33.2.1; omega))⟩ | exact ⟨⟨fun z => absurd rfl z, fun z => absurd z g33⟩, Or.inl rfl⟩) hS (lv_sub hl [1, 0] rfl)
  have J30 : ∀ (H : Heap) (locs : List Loc) (ls : Array Slot), (¬ ((C 4) 0 = -1 ∧ 1 < d ∧ ∃ j, j < d ∧ cx_mk (M 3) ((C 0) j).toNatClampNeg (nI 8))) → cx_S D vwCl A s (cxW q cI cJ n T k M d C J g) H locs → lv_has ls 2 [(0, .ref (q 3))] → W p l e ({ frames := 2, cells := 0, slots := 0, locals := 44 } : Room) s m args below meth c H locs 0 0 Q (F0 m 30 ls []) := by
    intro  H locs ls f30 hS hl
    refine lv_iconst (v := (0 : Int32)) hx hb dX0_leastOfRivals_30 (by decide) ?_
    exact J31 (0 : Int32) _ _ _ (cx_e0 (by (try clear RET); (try clear hS); (try clear hl); (try clear hE); (try clear hts); (try clear hb); (try clear hx); (try clear hml); (try clear hown); (try clear hinX0); (try clear J31); (try clear J30); have y10 : ¬ (1 : Int32) = 0 := (by decide); first | assumption | ((try (have y19 := hp_19.ex hF)); grind))) hS (lv_sub hl [0] rfl)
  refine lv_icmp_ne (tgt := 30) hx hb dX0_leastOfRivals_5 (by decide) (fun h5 => ?_) (fun h5 => ?_)
  · skip
    exact J30  _ _ _ (by (try clear RET); (try clear hS); (try clear hl); (try clear hE); (try clear hts); (try clear hb); (try clear hx); (try clear hml); (try clear hown); (try clear hinX0); (try clear J31); (try clear J30); have y10 : ¬ (1 : Int32) = 0 := (by decide); first | assumption | ((try (have y19 := hp_19.ex hF)); grind)) hS (lv_sub hl [0] rfl)
  · skip
    refine lv_aload_n hx hb dX0_leastOfRivals_8 rfl (lv_at hl 0 rfl) ?_
    refine cx_get (own := RX0) (index := 21) (C := RX0) (T := TX0) (N := 7) (k := 5) (ci := 0) (v := .int (nI d)) hx hb hts hown hE hS hinX0 3 rfl rfl (by decide) (List.mem_of_getElem? (i := 2) rfl) rfl dX0_leastOfRivals_9 ?_
    refine lv_iconst (v := (1 : Int32)) hx hb dX0_leastOfRivals_12 (by decide) ?_
    refine lv_icmp_le (tgt := 30) hx hb dX0_leastOfRivals_13 (by decide) (fun h13 => ?_) (fun h13 => ?_)
    · skip
      have g13 : d ≤ 1 := (nI_leI (a := d) (b := 1) (by omega) (by omega)).mp h13
      exact J30  _ _ _ (by (try clear RET); (try clear hS); (try clear hl); (try clear hE); (try clear hts); (try clear hb); (try clear hx); (try clear hml); (try clear hown); (try clear hinX0); (try clear J31); (try clear J30); have y10 : ¬ (1 : Int32) = 0 := (by decide); first | assumption | ((try (have y19 := hp_19.ex hF)); grind)) hS (lv_sub hl [0] rfl)
    · skip
      have g13 : ¬ (d ≤ 1) := fun z => h13 ((nI_leI (a := d) (b := 1) (by omega) (by omega)).mpr z)
      refine lv_aload_n hx hb dX0_leastOfRivals_16 rfl (lv_at hl 0 rfl) ?_
      refine lv_bipush (v := nI 8) hx hb dX0_leastOfRivals_17 (by decide) ?_
      refine cx_cVi (As := [.int (nI 8)]) (rest := []) ⟨hx, hb, hml, hown, hts⟩ hE hS (c_X0_leastFaceOneWith l D q cI cJ n T k M d C J g (nI 8) (by first | assumption | omega | rfl) (by first | assumption | omega | rfl)) (cwV 1 hts gX0_leastOfRivals_X0_leastFaceOneWith rfl rfl rfl (by decide +kernel) ⟨Nat.le_of_ble_eq_true rfl, Nat.le_of_ble_eq_true rfl⟩) 3 0 rfl rfl rfl hl.1 rfl (Nat.le_of_ble_eq_true rfl) ⟨Nat.zero_le _, Nat.zero_le _⟩ dX0_leastOfRivals_19 (fun r_19 u_19 H locs hp_19 hS => ?_)
      have hp_19 : cx_Lw M ((C 0)) d (nI 8) r_19 := hp_19
      refine lv_iconst (v := (-1 : Int32)) hx hb dX0_leastOfRivals_22 (by decide) ?_
      refine lv_icmp_eq (tgt := 30) hx hb dX0_leastOfRivals_23 (by decide) (fun h23 => ?_) (fun h23 => ?_)
      · skip
        exact J30  _ _ _ (by (try clear RET); (try clear hS); (try clear hl); (try clear hE); (try clear hts); (try clear hb); (try clear hx); (try clear hml); (try clear hown); (try clear hinX0); (try clear J31); (try clear J30); have y10 : ¬ (1 : Int32) = 0 := (by decide); first | assumption | ((try (have y19 := hp_19.ex hF)); grind)) hS (lv_sub hl [0] rfl)
      · skip
        refine lv_iconst (v := (1 : Int32)) hx hb dX0_leastOfRivals_26 (by decide) ?_
        refine lv_goto (tgt := 31) hx hb dX0_leastOfRivals_27 (by decide) ?_
        exact J31 (1 : Int32) _ _ _ (cx_e1 (by (try clear RET); (try clear hS); (try clear hl); (try clear hE); (try clear hts); (try clear hb); (try clear hx); (try clear hml); (try clear hown); (try clear hinX0); (try clear J31); (try clear J30); have y10 : ¬ (1 : Int32) = 0 := (by decide); first | assumption | ((try (have y19 := hp_19.ex hF)); grind))) hS (lv_sub hl [0] rfl)
set_option maxHeartbeats 4000000 in
set_option maxRecDepth 100000 in
theorem c_X0_seekClassOne (l : Launch) (D : va_G) (q : Nat → Nat) (cI cJ : ClassId) (n : Nat) (T : Nat → Nat → Int32) (k : Nat) (M : Nat → Nat → Int32) (d : Nat) (C : Nat → Nat → Int32) (J : Nat → Nat → Int32) (g : Nat → Int64) (t : Nat) (nm : Int32) (pm : Int32) (hn : n ≤ 20) (hk : k ≤ 80) (ht : t < n) (hO : cx_R (M 0) 20) (hP : cx_P (T 3) 20) (hOn : ∀ j, j < k → (M 0 j).toNatClampNeg < n) : cx_Mv l D vwCl [(cI, .int), (cJ, .long)] cx_NW yX0_seekClassOne wsX0_seekClassOne ({ frames := 2, cells := 0, slots := 0, locals := 45 } : Room) [.ref (q 3), .int (nI t), .int nm, .int pm] (cxW q cI cJ n T k M d C J g) (fun (uw : (Int32)) => (cx_co n k (T 0) (T 2) (T 3) M (cx_Ac T n) t nm pm uw) ∧ (uw = -1 ∨ cx_ix uw 80)) (fun uw => (cxW q cI cJ n T k M d (cx_u C 4 (fun _ => uw)) J g)) := by
  refine cx_Mv.of (cc := cX0_seekClassOne) (maxL := 7) cx_NW_ok (by decide) rfl (Nat.le_of_ble_eq_true rfl) ?_
  intro p e s m args below meth c Q A ls hx hb hml hown hts hE RET hS hl
  have hl : lv_has ls 7 [(0, .ref (q 3)), (1, .int (nI t)), (2, .int nm), (3, .int pm)] := hl
  have hown : s.vm.findClass RX0 = some m.cls := hown
  have hinX0 : ∀ w ∈ u_ws RX0 TX0 7, w ∈ wsX0_seekClassOne := cx_mem [42, 43, 44, 45, 46, 47, 48] (by decide +kernel)
  have hinX3 : ∀ w ∈ u_ws RX3 TX3 8, w ∈ wsX0_seekClassOne := cx_mem [61, 62, 63, 64, 65, 66, 67, 68] (by decide +kernel)
  have hinX5 : ∀ w ∈ u_ws RX5 TX5 12, w ∈ wsX0_seekClassOne := cx_mem [49, 50, 51, 52, 53, 54, 55, 56, 57, 58, 59, 60] (by decide +kernel)
  refine lv_aload_n hx hb dX0_seekClassOne_0 rfl (lv_at hl 0 rfl) ?_
  refine lv_iconst (v := (-1 : Int32)) hx hb dX0_seekClassOne_1 (by decide) ?_
  refine cx_put (own := RX0) (index := 25) (C := RX0) (T := TX0) (N := 7) (k := 6) (ci := 0) (v := .int (-1 : Int32)) (ty := .int) (ws' := (cxW q cI cJ n T k M d (cx_u C 4 (fun _ => (-1 : Int32))) J g)) hx hb hts hown hE hS hinX0 tyX0 tyX0_ok nmX0 3 rfl rfl (by decide) (List.mem_of_getElem? (i := 1) rfl) rfl (by decide +kernel) rfl rfl (Nat.le_of_ble_eq_true rfl) rfl dX0_seekClassOne_2 (fun H locs hS => ?_)
  refine lv_aload_n hx hb dX0_seekClassOne_5 rfl (lv_at hl 0 rfl) ?_
  refine cx_get (own := RX0) (index := 28) (C := RX0) (T := TX0) (N := 7) (k := 0) (ci := 0) (v := .ref (q 1)) hx hb hts hown hE hS hinX0 3 rfl rfl (by decide) (List.mem_of_getElem? (i := 2) rfl) rfl dX0_seekClassOne_6 ?_
  refine cx_getN (own := RX0) (index := 36) (C := RX5) (T := TX5) (N := 12) (k := 0) (ci := 5) (host := "ClassRules") (v := .ref (q 7)) hx hb hts hown hE hS hinX5 1 rfl rfl (by decide) (List.mem_of_getElem? (i := 0) rfl) rfl dX0_seekClassOne_9 ?_
  refine lv_iload_n hx hb dX0_seekClassOne_12 rfl (lv_at hl 1 rfl) ?_
  refine cx_iald (f := (T 0)) (n := 20) (cA := cI) hx hb hE hS 7 0 rfl rfl (by omega) (by decide) dX0_seekClassOne_13 ?_
  refine lv_iconst (v := (1 : Int32)) hx hb dX0_seekClassOne_14 (by decide) ?_
  have J23 : ∀ (v23_s0 : Int32) (H : Heap) (locs : List Loc) (ls : Array Slot), ((T 0 t = 1 ∧ v23_s0 = -1) ∨ (¬ T 0 t = 1 ∧ v23_s0 = nI t)) → cx_S D vwCl A s (cxW q cI cJ n T k M d (cx_u C 4 (fun _ => (-1 : Int32))) J g) H locs → lv_has ls 7 [(0, .ref (q 3)), (1, .int (nI t)), (2, .int nm), (3, .int pm)] → W p l e ({ frames := 2, cells := 0, slots := 0, locals := 45 } : Room) s m args below meth c H locs 0 0 Q (F0 m 23 ls [.int v23_s0]) := by
    intro v23_s0 H locs ls hv hS hl
    refine lv_istore (lv' := [(4, .int v23_s0), (0, .ref (q 3)), (1, .int (nI t)), (2, .int nm), (3, .int pm)]) hx hb dX0_seekClassOne_23 hl (by decide) rfl (fun ls hl => ?_)
    refine lv_iconst (v := (0 : Int32)) hx hb dX0_seekClassOne_25 (by decide) ?_
    refine cx_topr (z := nI 0) (by decide) ?_
    refine lv_istore (lv' := [(5, .int (nI 0)), (4, .int v23_s0), (0, .ref (q 3)), (1, .int (nI t)), (2, .int nm), (3, .int pm)]) hx hb dX0_seekClassOne_26 hl (by decide) rfl (fun ls hl => ?_)
    have J28 : ∀ (N : Nat) (v28_l4 : Int32) (i28 : Nat) (H : Heap) (locs : List Loc) (ls : Array Slot), (20 - i28 < N) → (i28 ≤ 20) → (v28_l4 = -1 ∨ cx_ix v28_l4 n) → (T 0 t = 1 → v28_l4 = -1) → (¬ T 0 t = 1 → ∀ r, cx_one n k (T 3) (cx_c1 (T 0) (T 2) M (cx_Ac T n) t nm pm) (20 - i28) v28_l4 r → cx_one n k (T 3) (cx_c1 (T 0) (T 2) M (cx_Ac T n) t nm pm) 20 (nI t) r) → cx_S D vwCl A s (cxW q cI cJ n T k M d (cx_u C 4 (fun _ => (-1 : Int32))) J g) H locs → lv_has ls 7 [(0, .ref (q 3)), (1, .int (nI t)), (2, .int nm), (3, .int pm), (4, .int v28_l4), (5, .int (nI i28))] → W p l e ({ frames := 2, cells := 0, slots := 0, locals := 45 } : Room) s m args below meth c H locs 0 0 Q (F0 m 28 ls []) := by
      intro N28
      induction N28 with
      | zero => intro v28_l4 i28 H locs ls hN; exact absurd hN (by omega)
      | succ N28 ih28 =>
        intro v28_l4 i28 H locs ls hN28 hi28 ha hk1 hq hS hl
        refine lv_iload hx hb dX0_seekClassOne_28 (lv_at hl 5 rfl) ?_
        refine lv_bipush (v := nI 20) hx hb dX0_seekClassOne_30 (by decide) ?_
        have J147 : ∀ (H : Heap) (locs : List Loc) (ls : Array Slot), ((cx_co n k (T 0) (T 2) (T 3) M (cx_Ac T n) t nm pm (-1))) → cx_S D vwCl A s (cxW q cI cJ n T k M d (cx_u C 4 (fun _ => (-1 : Int32))) J g) H locs → lv_has ls 7 [(0, .ref (q 3)), (1, .int (nI t)), (2, .int nm), (3, .int pm), (4, .int v28_l4), (5, .int (nI i28))] → W p l e ({ frames := 2, cells := 0, slots := 0, locals := 45 } : Room) s m args below meth c H locs 0 0 Q (F0 m 147 ls []) := by
          intro  H locs ls hfin hS hl
          exact RET ((-1 : Int32)) _ _ _ _ dX0_seekClassOne_147 (⟨(by first | exact cx_s4 (fun z => hq z _ (by rw [show 20 - i28 = 0 by omega]; exact rfl)) | exact cx_s4 (fun z => hq z _ (by rw [h38]; exact cx_one_end cx_m1no _)) | exact hfin), Or.inl rfl⟩) hS
        refine lv_icmp_ge (tgt := 147) hx hb dX0_seekClassOne_32 (by decide) (fun h32 => ?_) (fun h32 => ?_)
        · skip
          have g32 : 20 ≤ i28 := (nI_leI (a := 20) (b := i28) (by omega) (by omega)).mp h32
          exact J147  _ _ _ (by first | exact cx_s4 (fun z => hq z _ (by rw [show 20 - i28 = 0 by omega]; exact rfl)) | exact cx_s4 (fun z => hq z _ (by rw [h38]; exact cx_one_end cx_m1no _))) hS (lv_sub hl [0, 1, 2, 3, 4, 5] rfl)
        · skip
          have g32 : ¬ (20 ≤ i28) := fun z => h32 ((nI_leI (a := 20) (b := i28) (by omega) (by omega)).mpr z)
          refine lv_iload hx hb dX0_seekClassOne_35 (lv_at hl 4 rfl) ?_
          refine lv_iconst (v := (-1 : Int32)) hx hb dX0_seekClassOne_37 (by decide) ?_
          refine lv_icmp_eq (tgt := 147) hx hb dX0_seekClassOne_38 (by decide) (fun h38 => ?_) (fun h38 => ?_)
          · skip
            exact J147  _ _ _ (by first | exact cx_s4 (fun z => hq z _ (by rw [show 20 - i28 = 0 by omega]; exact rfl)) | exact cx_s4 (fun z => hq z _ (by rw [h38]; exact cx_one_end cx_m1no _))) hS (lv_sub hl [0, 1, 2, 3, 4, 5] rfl)
          · skip
            refine lv_iconst (v := (0 : Int32)) hx hb dX0_seekClassOne_41 (by decide) ?_
            refine cx_topr (z := nI 0) (by decide) ?_
            refine lv_istore (lv' := [(6, .int (nI 0)), (0, .ref (q 3)), (1, .int (nI t)), (2, .int nm), (3, .int pm), (4, .int v28_l4), (5, .int (nI i28))]) hx hb dX0_seekClassOne_42 hl (by decide) rfl (fun ls hl => ?_)
            have J44 : ∀ (N : Nat) (i44 : Nat) (H : Heap) (locs : List Loc) (ls : Array Slot), (k - i44 < N) → (i44 ≤ k) → (∀ j, j < i44 → ¬ (cx_c1 (T 0) (T 2) M (cx_Ac T n) t nm pm) v28_l4.toNatClampNeg j) → cx_S D vwCl A s (cxW q cI cJ n T k M d (cx_u C 4 (fun _ => (-1 : Int32))) J g) H locs → lv_has ls 7 [(0, .ref (q 3)), (1, .int (nI t)), (2, .int nm), (3, .int pm), (4, .int v28_l4), (5, .int (nI i28)), (6, .int (nI i44))] → W p l e ({ frames := 2, cells := 0, slots := 0, locals := 45 } : Room) s m args below meth c H locs 0 0 Q (F0 m 44 ls []) := by
              intro N44
              induction N44 with
              | zero => intro i44 H locs ls hN; exact absurd hN (by omega)
              | succ N44 ih44 =>
                intro i44 H locs ls hN44 hi44 hnone hS hl
                refine lv_iload hx hb dX0_seekClassOne_44 (lv_at hl 6 rfl) ?_
                refine lv_aload_n hx hb dX0_seekClassOne_46 rfl (lv_at hl 0 rfl) ?_
                refine cx_get (own := RX0) (index := 32) (C := RX0) (T := TX0) (N := 7) (k := 1) (ci := 0) (v := .ref (q 2)) hx hb hts hown hE hS hinX0 3 rfl rfl (by decide) (List.mem_of_getElem? (i := 3) rfl) rfl dX0_seekClassOne_47 ?_
                refine cx_getN (own := RX0) (index := 41) (C := RX3) (T := TX3) (N := 8) (k := 7) (ci := 3) (host := "ClassRules") (v := .int (nI k)) hx hb hts hown hE hS hinX3 2 rfl rfl (by decide) (List.mem_of_getElem? (i := 29) rfl) rfl dX0_seekClassOne_50 ?_
                refine lv_icmp_ge (tgt := 130) hx hb dX0_seekClassOne_53 (by decide) (fun h53 => ?_) (fun h53 => ?_)
                · skip
                  have g53 : k ≤ i44 := (nI_leI (a := k) (b := i44) (by omega) (by omega)).mp h53
                  refine lv_aload_n hx hb dX0_seekClassOne_130 rfl (lv_at hl 0 rfl) ?_
                  refine cx_get (own := RX0) (index := 28) (C := RX0) (T := TX0) (N := 7) (k := 0) (ci := 0) (v := .ref (q 1)) hx hb hts hown hE hS hinX0 3 rfl rfl (by decide) (List.mem_of_getElem? (i := 2) rfl) rfl dX0_seekClassOne_131 ?_
                  refine lv_iload hx hb dX0_seekClassOne_134 (lv_at hl 4 rfl) ?_
                  refine cx_topr (z := nI (v28_l4.toNatClampNeg)) (ha.resolve_left h38).1 ?_
                  refine cx_cVi (As := [.int (nI (v28_l4.toNatClampNeg))]) (rest := []) ⟨hx, hb, hml, hown, hts⟩ hE hS (c_X5_parentThere l D q cI cJ n T k M d (cx_u C 4 (fun _ => (-1 : Int32))) J g v28_l4.toNatClampNeg (by first | assumption | omega | rfl) (by have := (ha.resolve_left h38).2; omega) (by first | assumption | omega | rfl)) (cwV 1 hts gX0_seekClassOne_X5_parentThere rfl rfl rfl (by decide +kernel) ⟨Nat.le_of_ble_eq_true rfl, Nat.le_of_ble_eq_true rfl⟩) 1 5 rfl rfl rfl hl.1 rfl (Nat.le_of_ble_eq_true rfl) ⟨Nat.zero_le _, Nat.zero_le _⟩ dX0_seekClassOne_136 (fun r_136 u_136 H locs hp_136 hS => ?_)
                  have hp_136 : ((T 3) v28_l4.toNatClampNeg < nI n ∧ r_136 = (T 3) v28_l4.toNatClampNeg) ∨ (¬ (T 3) v28_l4.toNatClampNeg < nI n ∧ r_136 = -1) := hp_136
                  refine lv_istore (lv' := [(4, .int r_136), (0, .ref (q 3)), (1, .int (nI t)), (2, .int nm), (3, .int pm), (5, .int (nI i28)), (6, .int (nI i44))]) hx hb dX0_seekClassOne_139 hl (by decide) rfl (fun ls hl => ?_)
                  refine lv_iinc (v := nI (i28 + 1)) (lv' := [(5, .int (nI (i28 + 1))), (4, .int r_136), (0, .ref (q 3)), (1, .int (nI t)), (2, .int nm), (3, .int pm), (6, .int (nI i44))]) hx hb dX0_seekClassOne_141 hl (k := 5) rfl (cx_inc _) (by decide) rfl (fun ls hl => ?_)
                  refine lv_goto (tgt := 28) hx hb dX0_seekClassOne_144 (by decide) ?_
                  exact ih28 r_136 (i28 + 1) _ _ _ (by omega) (by omega) (by first | exact hv.imp (fun z => z.2) (fun z => by rw [z.2]; exact cx_ixI ht (by omega)) | exact cx_ptix hn (hP _) hp_136) (by first | exact fun z => hv.elim (fun y => y.2) (fun y => absurd z y.1) | exact fun z => absurd (hk1 z) h38) (by first | exact fun z r hr => by rw [(hv.resolve_left (fun y => z y.1)).2] at hr; exact hr | exact fun z r hr => hq z r (by rw [show 20 - i28 = (20 - (i28 + 1)) + 1 by omega]; exact cx_one_nxt (cx_ixn hn (ha.resolve_left h38)) (fun j hj => hnone j (by omega)) (cx_one_pt hp_136 hr))) hS (lv_sub hl [2, 3, 4, 5, 1, 0] rfl)
                · skip
                  have g53 : ¬ (k ≤ i44) := fun z => h53 ((nI_leI (a := k) (b := i44) (by omega) (by omega)).mpr z)
                  refine lv_aload_n hx hb dX0_seekClassOne_56 rfl (lv_at hl 0 rfl) ?_
                  refine cx_get (own := RX0) (index := 32) (C := RX0) (T := TX0) (N := 7) (k := 1) (ci := 0) (v := .ref (q 2)) hx hb hts hown hE hS hinX0 3 rfl rfl (by decide) (List.mem_of_getElem? (i := 3) rfl) rfl dX0_seekClassOne_57 ?_
                  refine cx_getN (own := RX0) (index := 46) (C := RX3) (T := TX3) (N := 8) (k := 1) (ci := 3) (host := "ClassRules") (v := .ref (q 18)) hx hb hts hown hE hS hinX3 2 rfl rfl (by decide) (List.mem_of_getElem? (i := 20) rfl) rfl dX0_seekClassOne_60 ?_
                  refine lv_iload hx hb dX0_seekClassOne_63 (lv_at hl 6 rfl) ?_
                  refine cx_iald (f := (M 0)) (n := 80) (cA := cI) hx hb hE hS 18 0 rfl rfl (by omega) (by decide) dX0_seekClassOne_65 ?_
                  refine lv_iload hx hb dX0_seekClassOne_66 (lv_at hl 4 rfl) ?_
                  have J124 : ∀ (H : Heap) (locs : List Loc) (ls : Array Slot), (¬ (cx_c1 (T 0) (T 2) M (cx_Ac T n) t nm pm) v28_l4.toNatClampNeg i44) → cx_S D vwCl A s (cxW q cI cJ n T k M d (cx_u C 4 (fun _ => (-1 : Int32))) J g) H locs → lv_has ls 7 [(0, .ref (q 3)), (1, .int (nI t)), (2, .int nm), (3, .int pm), (4, .int v28_l4), (5, .int (nI i28)), (6, .int (nI i44))] → W p l e ({ frames := 2, cells := 0, slots := 0, locals := 45 } : Room) s m args below meth c H locs 0 0 Q (F0 m 124 ls []) := by
                    intro  H locs ls h124 hS hl
                    refine lv_iinc (v := nI (i44 + 1)) (lv' := [(6, .int (nI (i44 + 1))), (0, .ref (q 3)), (1, .int (nI t)), (2, .int nm), (3, .int pm), (4, .int v28_l4), (5, .int (nI i28))]) hx hb dX0_seekClassOne_124 hl (k := 6) rfl (cx_inc _) (by decide) rfl (fun ls hl => ?_)
                    refine lv_goto (tgt := 44) hx hb dX0_seekClassOne_127 (by decide) ?_
                    exact ih44 (i44 + 1) _ _ _ (by omega) (by omega) (by first | exact cx_all0 | exact cx_allS hnone h124) hS (lv_sub hl [1, 2, 3, 4, 5, 6, 0] rfl)
                  refine lv_icmp_ne (tgt := 124) hx hb dX0_seekClassOne_68 (by decide) (fun h68 => ?_) (fun h68 => ?_)
                  · skip
                    exact J124  _ _ _ (by first | exact cx_s1 hO ha h38 h68 | exact fun z => g82 z.2.1 | exact fun z => z.2.2.1 g95 | exact cx_s2 h101 ha h38 g114) hS (lv_sub hl [0, 1, 2, 3, 4, 5, 6] rfl)
                  · skip
                    refine lv_aload_n hx hb dX0_seekClassOne_71 rfl (lv_at hl 0 rfl) ?_
                    refine cx_get (own := RX0) (index := 32) (C := RX0) (T := TX0) (N := 7) (k := 1) (ci := 0) (v := .ref (q 2)) hx hb hts hown hE hS hinX0 3 rfl rfl (by decide) (List.mem_of_getElem? (i := 3) rfl) rfl dX0_seekClassOne_72 ?_
                    refine lv_iload hx hb dX0_seekClassOne_75 (lv_at hl 6 rfl) ?_
                    refine lv_iload_n hx hb dX0_seekClassOne_77 rfl (lv_at hl 2 rfl) ?_
                    refine lv_iload_n hx hb dX0_seekClassOne_78 rfl (lv_at hl 3 rfl) ?_
                    refine cx_cVi (As := [.int (nI i44), .int nm, .int pm]) (rest := []) ⟨hx, hb, hml, hown, hts⟩ hE hS (c_X3_named l D q cI cJ n T k M d (cx_u C 4 (fun _ => (-1 : Int32))) J g i44 nm pm (by first | assumption | omega | rfl)) (cwV 3 hts gX0_seekClassOne_X3_named rfl rfl rfl (by decide +kernel) ⟨Nat.le_of_ble_eq_true rfl, Nat.le_of_ble_eq_true rfl⟩) 2 3 rfl rfl rfl hl.1 rfl (Nat.le_of_ble_eq_true rfl) ⟨Nat.zero_le _, Nat.zero_le _⟩ dX0_seekClassOne_79 (fun r_79 u_79 H locs hp_79 hS => ?_)
                    have hp_79 : (r_79 = 0 ∨ r_79 = 1) ∧ (¬ r_79 = 0 ↔ cx_nmd M i44 nm pm) := hp_79
                    refine lv_if_eq (tgt := 124) hx hb dX0_seekClassOne_82 (by decide) (fun h82 => ?_) (fun h82 => ?_)
                    · skip
                      have g82 : ¬ (cx_nmd M i44 nm pm) := fun z => hp_79.2.mpr z h82
                      exact J124  _ _ _ (by first | exact cx_s1 hO ha h38 h68 | exact fun z => g82 z.2.1 | exact fun z => z.2.2.1 g95 | exact cx_s2 h101 ha h38 g114) hS (lv_sub hl [0, 1, 2, 3, 4, 5, 6] rfl)
                    · skip
                      have g82 : cx_nmd M i44 nm pm := hp_79.2.mp h82
                      refine lv_aload_n hx hb dX0_seekClassOne_85 rfl (lv_at hl 0 rfl) ?_
                      refine cx_get (own := RX0) (index := 32) (C := RX0) (T := TX0) (N := 7) (k := 1) (ci := 0) (v := .ref (q 2)) hx hb hts hown hE hS hinX0 3 rfl rfl (by decide) (List.mem_of_getElem? (i := 3) rfl) rfl dX0_seekClassOne_86 ?_
                      refine lv_iload hx hb dX0_seekClassOne_89 (lv_at hl 6 rfl) ?_
                      refine lv_iconst (v := nI 4) hx hb dX0_seekClassOne_91 (by decide) ?_
                      refine cx_cVi (As := [.int (nI i44), .int (nI 4)]) (rest := []) ⟨hx, hb, hml, hown, hts⟩ hE hS (c_X3_marked l D q cI cJ n T k M d (cx_u C 4 (fun _ => (-1 : Int32))) J g i44 (nI 4) (by first | assumption | omega | rfl)) (cwV 2 hts gX0_seekClassOne_X3_marked rfl rfl rfl (by decide +kernel) ⟨Nat.le_of_ble_eq_true rfl, Nat.le_of_ble_eq_true rfl⟩) 2 3 rfl rfl rfl hl.1 rfl (Nat.le_of_ble_eq_true rfl) ⟨Nat.zero_le _, Nat.zero_le _⟩ dX0_seekClassOne_92 (fun r_92 u_92 H locs hp_92 hS => ?_)
                      have hp_92 : (r_92 = 0 ∨ r_92 = 1) ∧ (¬ r_92 = 0 ↔ cx_mk ((M 3)) i44 (nI 4)) := hp_92
                      refine lv_if_ne (tgt := 124) hx hb dX0_seekClassOne_95 (by decide) (fun h95 => ?_) (fun h95 => ?_)
                      · skip
                        have g95 : cx_mk ((M 3)) i44 (nI 4) := hp_92.2.mp h95
                        exact J124  _ _ _ (by first | exact cx_s1 hO ha h38 h68 | exact fun z => g82 z.2.1 | exact fun z => z.2.2.1 g95 | exact cx_s2 h101 ha h38 g114) hS (lv_sub hl [0, 1, 2, 3, 4, 5, 6] rfl)
                      · skip
                        have g95 : ¬ (cx_mk ((M 3)) i44 (nI 4)) := fun z => hp_92.2.mpr z h95
                        refine lv_iload hx hb dX0_seekClassOne_98 (lv_at hl 4 rfl) ?_
                        refine lv_iload_n hx hb dX0_seekClassOne_100 rfl (lv_at hl 1 rfl) ?_
                        have J117 : ∀ (H : Heap) (locs : List Loc) (ls : Array Slot), (v28_l4 = nI t ∨ cx_sh (T 0) (T 2) M (cx_Ac T n) i44 t) → cx_S D vwCl A s (cxW q cI cJ n T k M d (cx_u C 4 (fun _ => (-1 : Int32))) J g) H locs → lv_has ls 7 [(0, .ref (q 3)), (1, .int (nI t)), (2, .int nm), (3, .int pm), (4, .int v28_l4), (5, .int (nI i28)), (6, .int (nI i44))] → W p l e ({ frames := 2, cells := 0, slots := 0, locals := 45 } : Room) s m args below meth c H locs 0 0 Q (F0 m 117 ls []) := by
                          intro  H locs ls h117 hS hl
                          refine lv_aload_n hx hb dX0_seekClassOne_117 rfl (lv_at hl 0 rfl) ?_
                          refine lv_iload hx hb dX0_seekClassOne_118 (lv_at hl 6 rfl) ?_
                          refine cx_put (own := RX0) (index := 25) (C := RX0) (T := TX0) (N := 7) (k := 6) (ci := 0) (v := .int (nI i44)) (ty := .int) (ws' := (cxW q cI cJ n T k M d (cx_u C 4 (fun _ => nI i44)) J g)) hx hb hts hown hE hS hinX0 tyX0 tyX0_ok nmX0 3 rfl rfl (by decide) (List.mem_of_getElem? (i := 1) rfl) rfl (by decide +kernel) rfl rfl (Nat.le_of_ble_eq_true rfl) rfl dX0_seekClassOne_120 (fun H locs hS => ?_)
                          exact RET (nI i44) _ _ _ _ dX0_seekClassOne_123 (⟨Or.inr ⟨fun z => h38 (hk1 z), hq (fun z => h38 (hk1 z)) _ (by rw [show 20 - i28 = (20 - (i28 + 1)) + 1 by omega]; exact cx_one_hit (cx_ixn hn (ha.resolve_left h38)) (by omega) hk (cx_s3 ht hn h68 g82 g95 h117) hnone)⟩, Or.inr (cx_ixI (by omega) (by decide))⟩) hS
                        refine lv_icmp_eq (tgt := 117) hx hb dX0_seekClassOne_101 (by decide) (fun h101 => ?_) (fun h101 => ?_)
                        · skip
                          exact J117  _ _ _ (by first | exact Or.inl h101 | exact Or.inr g114) hS (lv_sub hl [0, 1, 2, 3, 4, 5, 6] rfl)
                        · skip
                          refine lv_aload_n hx hb dX0_seekClassOne_104 rfl (lv_at hl 0 rfl) ?_
                          refine cx_get (own := RX0) (index := 32) (C := RX0) (T := TX0) (N := 7) (k := 1) (ci := 0) (v := .ref (q 2)) hx hb hts hown hE hS hinX0 3 rfl rfl (by decide) (List.mem_of_getElem? (i := 3) rfl) rfl dX0_seekClassOne_105 ?_
                          refine lv_iload hx hb dX0_seekClassOne_108 (lv_at hl 6 rfl) ?_
                          refine lv_iload_n hx hb dX0_seekClassOne_110 rfl (lv_at hl 1 rfl) ?_
                          refine cx_cVi (As := [.int (nI i44), .int (nI t)]) (rest := []) ⟨hx, hb, hml, hown, hts⟩ hE hS (c_X3_shared l D q cI cJ n T k M d (cx_u C 4 (fun _ => (-1 : Int32))) J g i44 t (by first | assumption | omega | rfl) (by first | assumption | omega | rfl) (by first | assumption | omega | rfl) (by first | assumption | omega | rfl) (by first | assumption | omega | rfl) (by first | assumption | omega | rfl)) (cwV 2 hts gX0_seekClassOne_X3_shared rfl rfl rfl (by decide +kernel) ⟨Nat.le_of_ble_eq_true rfl, Nat.le_of_ble_eq_true rfl⟩) 2 3 rfl rfl rfl hl.1 rfl (Nat.le_of_ble_eq_true rfl) ⟨Nat.zero_le _, Nat.zero_le _⟩ dX0_seekClassOne_111 (fun r_111 u_111 H locs hp_111 hS => ?_)
                          have hp_111 : (r_111 = 0 ∨ r_111 = 1) ∧ (¬ r_111 = 0 ↔ cx_sh ((T 0)) ((T 2)) M (cx_Ac T n) i44 t) := hp_111
                          refine lv_if_eq (tgt := 124) hx hb dX0_seekClassOne_114 (by decide) (fun h114 => ?_) (fun h114 => ?_)
                          · skip
                            have g114 : ¬ (cx_sh ((T 0)) ((T 2)) M (cx_Ac T n) i44 t) := fun z => hp_111.2.mpr z h114
                            exact J124  _ _ _ (by first | exact cx_s1 hO ha h38 h68 | exact fun z => g82 z.2.1 | exact fun z => z.2.2.1 g95 | exact cx_s2 h101 ha h38 g114) hS (lv_sub hl [0, 1, 2, 3, 4, 5, 6] rfl)
                          · skip
                            have g114 : cx_sh ((T 0)) ((T 2)) M (cx_Ac T n) i44 t := hp_111.2.mp h114
                            exact J117  _ _ _ (by first | exact Or.inl h101 | exact Or.inr g114) hS (lv_sub hl [0, 1, 2, 3, 4, 5, 6] rfl)
            exact J44 (k - 0 + 1) 0 _ _ _ (Nat.lt_succ_self _) (by omega) (by first | exact cx_all0 | exact cx_allS hnone h124) hS (lv_sub hl [1, 2, 3, 4, 5, 6, 0] rfl)
    exact J28 (20 - 0 + 1) v23_s0 0 _ _ _ (Nat.lt_succ_self _) (by omega) (by first | exact hv.imp (fun z => z.2) (fun z => by rw [z.2]; exact cx_ixI ht (by omega)) | exact cx_ptix hn (hP _) hp_136) (by first | exact fun z => hv.elim (fun y => y.2) (fun y => absurd z y.1) | exact fun z => absurd (hk1 z) h38) (by first | exact fun z r hr => by rw [(hv.resolve_left (fun y => z y.1)).2] at hr; exact hr | exact fun z r hr => hq z r (by rw [show 20 - i28 = (20 - (i28 + 1)) + 1 by omega]; exact cx_one_nxt (cx_ixn hn (ha.resolve_left h38)) (fun j hj => hnone j (by omega)) (cx_one_pt hp_136 hr))) hS (lv_sub hl [2, 3, 4, 5, 1, 0] rfl)
  refine lv_icmp_ne (tgt := 22) hx hb dX0_seekClassOne_15 (by decide) (fun h15 => ?_) (fun h15 => ?_)
  · skip
    refine lv_iload_n hx hb dX0_seekClassOne_22 rfl (lv_at hl 1 rfl) ?_
    exact J23 (nI t) _ _ _ (by first | exact Or.inl ⟨h15, rfl⟩ | exact Or.inr ⟨h15, rfl⟩ | exact Or.inl ⟨Decidable.not_not.mp h15, rfl⟩) hS (lv_sub hl [0, 1, 2, 3] rfl)
  · skip
    refine lv_iconst (v := (-1 : Int32)) hx hb dX0_seekClassOne_18 (by decide) ?_
    refine lv_goto (tgt := 23) hx hb dX0_seekClassOne_19 (by decide) ?_
    exact J23 (-1 : Int32) _ _ _ (by first | exact Or.inl ⟨h15, rfl⟩ | exact Or.inr ⟨h15, rfl⟩ | exact Or.inl ⟨Decidable.not_not.mp h15, rfl⟩) hS (lv_sub hl [0, 1, 2, 3] rfl)
set_option maxHeartbeats 4000000 in
set_option maxRecDepth 100000 in
theorem c_X0_seekFaceOnes (l : Launch) (D : va_G) (q : Nat → Nat) (cI cJ : ClassId) (n : Nat) (T : Nat → Nat → Int32) (k : Nat) (M : Nat → Nat → Int32) (d : Nat) (C : Nat → Nat → Int32) (J : Nat → Nat → Int32) (g : Nat → Int64) (t : Nat) (nm : Int32) (pm : Int32) (hn : n ≤ 20) (hk : k ≤ 80) (ht : t < n) (hO : cx_R (M 0) 20) (hOn : ∀ j, j < k → (M 0 j).toNatClampNeg < n) : cx_Mv l D vwCl [(cI, .int), (cJ, .long)] cx_NW yX0_seekFaceOnes wsX0_seekFaceOnes ({ frames := 2, cells := 0, slots := 0, locals := 47 } : Room) [.ref (q 3), .int (nI t), .int nm, .int pm] (cxW q cI cJ n T k M d C J g) (fun (uw : (Nat) × (Nat → Int32)) => uw.1 ≤ 20 ∧ cx_LS (cx_fo k (T 0) M (cx_Ac T n) t nm pm) uw.2 uw.1 k) (fun uw => (cxW q cI cJ n T k M uw.1 (cx_u C 0 uw.2) J g)) := by
  refine cx_Mv.of (cc := cX0_seekFaceOnes) (maxL := 8) cx_NW_ok (by decide) rfl (Nat.le_of_ble_eq_true rfl) ?_
  intro p e s m args below meth c Q A ls hx hb hml hown hts hE RET hS hl
  have hl : lv_has ls 8 [(0, .ref (q 3)), (1, .int (nI t)), (2, .int nm), (3, .int pm)] := hl
  have hown : s.vm.findClass RX0 = some m.cls := hown
  have hinX0 : ∀ w ∈ u_ws RX0 TX0 7, w ∈ wsX0_seekFaceOnes := cx_mem [39, 40, 41, 42, 43, 44, 45] (by decide +kernel)
  have hinX3 : ∀ w ∈ u_ws RX3 TX3 8, w ∈ wsX0_seekFaceOnes := cx_mem [46, 47, 48, 49, 50, 51, 52, 53] (by decide +kernel)
  have hinX5 : ∀ w ∈ u_ws RX5 TX5 12, w ∈ wsX0_seekFaceOnes := cx_mem [54, 55, 56, 57, 58, 59, 60, 61, 62, 63, 64, 65] (by decide +kernel)
  refine lv_iconst (v := (0 : Int32)) hx hb dX0_seekFaceOnes_0 (by decide) ?_
  refine cx_topr (z := nI 0) (by decide) ?_
  refine lv_istore (lv' := [(4, .int (nI 0)), (0, .ref (q 3)), (1, .int (nI t)), (2, .int nm), (3, .int pm)]) hx hb dX0_seekFaceOnes_1 hl (by decide) rfl (fun ls hl => ?_)
  refine lv_iconst (v := (0 : Int32)) hx hb dX0_seekFaceOnes_3 (by decide) ?_
  refine cx_topr (z := nI 0) (by decide) ?_
  refine lv_istore (lv' := [(5, .int (nI 0)), (4, .int (nI 0)), (0, .ref (q 3)), (1, .int (nI t)), (2, .int nm), (3, .int pm)]) hx hb dX0_seekFaceOnes_4 hl (by decide) rfl (fun ls hl => ?_)
  refine lv_iconst (v := (0 : Int32)) hx hb dX0_seekFaceOnes_6 (by decide) ?_
  refine cx_topr (z := nI 0) (by decide) ?_
  refine lv_istore (lv' := [(6, .int (nI 0)), (5, .int (nI 0)), (4, .int (nI 0)), (0, .ref (q 3)), (1, .int (nI t)), (2, .int nm), (3, .int pm)]) hx hb dX0_seekFaceOnes_7 hl (by decide) rfl (fun ls hl => ?_)
  have J9 : ∀ (N : Nat) (v9_l4 : Int32) (v9_l5 : Int32) (i9 : Nat) (H : Heap) (locs : List Loc) (ls : Array Slot), (k - i9 < N) → (i9 ≤ k) → (∀ u, u < 32 → (bt v9_l4 u = true ↔ ∃ j, j < i9 ∧ ((cx_gv (T 0) M (cx_Ac T n) t nm pm) j ∧ cx_ow M j = u))) → (∀ u, u < 32 → (bt v9_l5 u = true ↔ ∃ j, j < i9 ∧ ((cx_gv (T 0) M (cx_Ac T n) t nm pm) j ∧ bt (T 10 (cx_ow M j)) u = true))) → cx_S D vwCl A s (cxW q cI cJ n T k M d C J g) H locs → lv_has ls 8 [(0, .ref (q 3)), (1, .int (nI t)), (2, .int nm), (3, .int pm), (4, .int v9_l4), (5, .int v9_l5), (6, .int (nI i9))] → W p l e ({ frames := 2, cells := 0, slots := 0, locals := 47 } : Room) s m args below meth c H locs 0 0 Q (F0 m 9 ls []) := by
    intro N9
    induction N9 with
    | zero => intro v9_l4 v9_l5 i9 H locs ls hN; exact absurd hN (by omega)
    | succ N9 ih9 =>
      intro v9_l4 v9_l5 i9 H locs ls hN9 hi9 hg hc hS hl
      refine lv_iload hx hb dX0_seekFaceOnes_9 (lv_at hl 6 rfl) ?_
      refine lv_aload_n hx hb dX0_seekFaceOnes_11 rfl (lv_at hl 0 rfl) ?_
      refine cx_get (own := RX0) (index := 32) (C := RX0) (T := TX0) (N := 7) (k := 1) (ci := 0) (v := .ref (q 2)) hx hb hts hown hE hS hinX0 3 rfl rfl (by decide) (List.mem_of_getElem? (i := 1) rfl) rfl dX0_seekFaceOnes_12 ?_
      refine cx_getN (own := RX0) (index := 41) (C := RX3) (T := TX3) (N := 8) (k := 7) (ci := 3) (host := "ClassRules") (v := .int (nI k)) hx hb hts hown hE hS hinX3 2 rfl rfl (by decide) (List.mem_of_getElem? (i := 29) rfl) rfl dX0_seekFaceOnes_15 ?_
      refine lv_icmp_ge (tgt := 80) hx hb dX0_seekFaceOnes_18 (by decide) (fun h18 => ?_) (fun h18 => ?_)
      · skip
        have g18 : k ≤ i9 := (nI_leI (a := k) (b := i9) (by omega) (by omega)).mp h18
        refine lv_iload hx hb dX0_seekFaceOnes_80 (lv_at hl 4 rfl) ?_
        refine lv_iload hx hb dX0_seekFaceOnes_82 (lv_at hl 5 rfl) ?_
        refine lv_iconst (v := (-1 : Int32)) hx hb dX0_seekFaceOnes_84 (by decide) ?_
        refine lv_ixor hx hb dX0_seekFaceOnes_85 ?_
        refine lv_iand hx hb dX0_seekFaceOnes_86 ?_
        refine lv_istore (lv' := [(6, .int (v9_l4 &&& (v9_l5 ^^^ (-1 : Int32)))), (0, .ref (q 3)), (1, .int (nI t)), (2, .int nm), (3, .int pm), (4, .int v9_l4), (5, .int v9_l5)]) hx hb dX0_seekFaceOnes_87 hl (by decide) rfl (fun ls hl => ?_)
        refine lv_aload_n hx hb dX0_seekFaceOnes_89 rfl (lv_at hl 1 rfl) ?_
        refine lv_iconst (v := (0 : Int32)) hx hb dX0_seekFaceOnes_90 (by decide) ?_
        refine cx_topr (z := nI 0) cx_n0 ?_
        refine cx_put (own := RX0) (index := 21) (C := RX0) (T := TX0) (N := 7) (k := 5) (ci := 0) (v := .int (nI 0)) (ty := .int) (ws' := (cxW q cI cJ n T k M 0 C J g)) hx hb hts hown hE hS hinX0 tyX0 tyX0_ok nmX0 3 rfl rfl (by decide) (List.mem_of_getElem? (i := 3) rfl) rfl (by decide +kernel) rfl rfl (Nat.le_of_ble_eq_true rfl) rfl dX0_seekFaceOnes_91 (fun H locs hS => ?_)
        refine lv_iconst (v := (0 : Int32)) hx hb dX0_seekFaceOnes_94 (by decide) ?_
        refine cx_topr (z := nI 0) (by decide) ?_
        refine lv_istore (lv' := [(7, .int (nI 0)), (6, .int (v9_l4 &&& (v9_l5 ^^^ (-1 : Int32)))), (0, .ref (q 3)), (1, .int (nI t)), (2, .int nm), (3, .int pm), (4, .int v9_l4), (5, .int v9_l5)]) hx hb dX0_seekFaceOnes_95 hl (by decide) rfl (fun ls hl => ?_)
        have J97 : ∀ (N : Nat) (v97_l6 : Int32) (i97 : Nat) (d_97 : Nat) (C_0_97 : Nat → Int32) (H : Heap) (locs : List Loc) (ls : Array Slot), (k - i97 < N) → (i97 ≤ k) → (d_97 + cx_ct (bt v97_l6) 20 ≤ 20) → (cx_lf k (T 0) M T n t nm pm v97_l6 i97) → (cx_LS (cx_fo k (T 0) M (cx_Ac T n) t nm pm) C_0_97 d_97 i97) → cx_S D vwCl A s (cxW q cI cJ n T k M d_97 (cx_u C 0 C_0_97) J g) H locs → lv_has ls 8 [(0, .ref (q 3)), (1, .int (nI t)), (2, .int nm), (3, .int pm), (4, .int v9_l4), (5, .int v9_l5), (6, .int v97_l6), (7, .int (nI i97))] → W p l e ({ frames := 2, cells := 0, slots := 0, locals := 47 } : Room) s m args below meth c H locs 0 0 Q (F0 m 97 ls []) := by
          intro N97
          induction N97 with
          | zero => intro v97_l6 i97 d_97 C_0_97 H locs ls hN; exact absurd hN (by omega)
          | succ N97 ih97 =>
            intro v97_l6 i97 d_97 C_0_97 H locs ls hN97 hi97 hd hlf hls hS hl
            refine lv_iload hx hb dX0_seekFaceOnes_97 (lv_at hl 7 rfl) ?_
            refine lv_aload_n hx hb dX0_seekFaceOnes_99 rfl (lv_at hl 0 rfl) ?_
            refine cx_get (own := RX0) (index := 32) (C := RX0) (T := TX0) (N := 7) (k := 1) (ci := 0) (v := .ref (q 2)) hx hb hts hown hE hS hinX0 3 rfl rfl (by decide) (List.mem_of_getElem? (i := 1) rfl) rfl dX0_seekFaceOnes_100 ?_
            refine cx_getN (own := RX0) (index := 41) (C := RX3) (T := TX3) (N := 8) (k := 7) (ci := 3) (host := "ClassRules") (v := .int (nI k)) hx hb hts hown hE hS hinX3 2 rfl rfl (by decide) (List.mem_of_getElem? (i := 29) rfl) rfl dX0_seekFaceOnes_103 ?_
            have J191 : ∀ (H : Heap) (locs : List Loc) (ls : Array Slot), (cx_LS (cx_fo k (T 0) M (cx_Ac T n) t nm pm) C_0_97 d_97 k) → cx_S D vwCl A s (cxW q cI cJ n T k M d_97 (cx_u C 0 C_0_97) J g) H locs → lv_has ls 8 [(0, .ref (q 3)), (1, .int (nI t)), (2, .int nm), (3, .int pm), (4, .int v9_l4), (5, .int v9_l5), (6, .int v97_l6), (7, .int (nI i97))] → W p l e ({ frames := 2, cells := 0, slots := 0, locals := 47 } : Room) s m args below meth c H locs 0 0 Q (F0 m 191 ls []) := by
              intro  H locs ls hend hS hl
              exact RET (d_97, C_0_97) _ _ _ _ dX0_seekFaceOnes_191 (⟨by omega, hend⟩) hS
            refine lv_icmp_ge (tgt := 191) hx hb dX0_seekFaceOnes_106 (by decide) (fun h106 => ?_) (fun h106 => ?_)
            · skip
              have g106 : k ≤ i97 := (nI_leI (a := k) (b := i97) (by omega) (by omega)).mp h106
              exact J191  _ _ _ (by first | exact cx_LS_end hOn hn hlf h111 hls (by omega) | (have e : i97 = k := (by omega); rw [e] at hls; exact hls)) hS (lv_sub hl [0, 1, 2, 3, 4, 5, 6, 7] rfl)
            · skip
              have g106 : ¬ (k ≤ i97) := fun z => h106 ((nI_leI (a := k) (b := i97) (by omega) (by omega)).mpr z)
              refine lv_iload hx hb dX0_seekFaceOnes_109 (lv_at hl 6 rfl) ?_
              refine lv_if_eq (tgt := 191) hx hb dX0_seekFaceOnes_111 (by decide) (fun h111 => ?_) (fun h111 => ?_)
              · skip
                exact J191  _ _ _ (by first | exact cx_LS_end hOn hn hlf h111 hls (by omega) | (have e : i97 = k := (by omega); rw [e] at hls; exact hls)) hS (lv_sub hl [0, 1, 2, 3, 4, 5, 6, 7] rfl)
              · skip
                refine lv_iload hx hb dX0_seekFaceOnes_114 (lv_at hl 6 rfl) ?_
                refine lv_aload_n hx hb dX0_seekFaceOnes_116 rfl (lv_at hl 0 rfl) ?_
                refine cx_get (own := RX0) (index := 32) (C := RX0) (T := TX0) (N := 7) (k := 1) (ci := 0) (v := .ref (q 2)) hx hb hts hown hE hS hinX0 3 rfl rfl (by decide) (List.mem_of_getElem? (i := 1) rfl) rfl dX0_seekFaceOnes_117 ?_
                refine cx_getN (own := RX0) (index := 46) (C := RX3) (T := TX3) (N := 8) (k := 1) (ci := 3) (host := "ClassRules") (v := .ref (q 18)) hx hb hts hown hE hS hinX3 2 rfl rfl (by decide) (List.mem_of_getElem? (i := 20) rfl) rfl dX0_seekFaceOnes_120 ?_
                refine lv_iload hx hb dX0_seekFaceOnes_123 (lv_at hl 7 rfl) ?_
                refine cx_iald (f := (M 0)) (n := 80) (cA := cI) hx hb hE hS 18 0 rfl rfl (by omega) (by decide) dX0_seekFaceOnes_125 ?_
                have ho125 := (hO i97).2
                refine cx_topr (z := nI (((M 0) i97).toNatClampNeg)) (hO i97).1 ?_
                refine cx_cNi (As := [.int v97_l6, .int (nI (((M 0) i97).toNatClampNeg))]) (rest := []) ⟨hx, hb, hml, hown, hts⟩ hE hS (c_X6_holds_at_b l D [(cI, .int), (cJ, .long)] (cxW q cI cJ n T k M d_97 (cx_u C 0 C_0_97) J g) v97_l6 (((M 0) i97).toNatClampNeg) (by first | assumption | omega | rfl)) ⟨va_cnB (own := RX0) (index := 74) (host := "ClassRules") 2 hts gX0_seekFaceOnes_X6_holds_n74 rfl rfl rfl (hE.2.1 _ (List.mem_of_getElem? (i := 40) rfl)) (hts (.initialized RX6) (List.mem_of_getElem? (i := 35) rfl)) (by decide +kernel) ⟨Nat.le_of_ble_eq_true rfl, Nat.le_of_ble_eq_true rfl⟩, hts (.static yX6_holds) (List.mem_of_getElem? (i := 37) rfl), trivial⟩ rfl hl.1 rfl (Nat.le_of_ble_eq_true rfl) ⟨Nat.zero_le _, Nat.zero_le _⟩ dX0_seekFaceOnes_126 (fun r_126 u_126 H locs hp_126 hS => ?_)
                have hp_126 : r_126 = cx_b (bt v97_l6 (((M 0) i97).toNatClampNeg) = true) := hp_126
                subst hp_126
                have J185 : ∀ (v185_l6 : Int32) (d_185 : Nat) (C_0_185 : Nat → Int32) (H : Heap) (locs : List Loc) (ls : Array Slot), (d_185 + cx_ct (bt v185_l6) 20 ≤ 20) → (cx_lf k (T 0) M T n t nm pm v185_l6 (i97 + 1)) → (cx_LS (cx_fo k (T 0) M (cx_Ac T n) t nm pm) C_0_185 d_185 (i97 + 1)) → cx_S D vwCl A s (cxW q cI cJ n T k M d_185 (cx_u C 0 C_0_185) J g) H locs → lv_has ls 8 [(0, .ref (q 3)), (1, .int (nI t)), (2, .int nm), (3, .int pm), (4, .int v9_l4), (5, .int v9_l5), (6, .int v185_l6), (7, .int (nI i97))] → W p l e ({ frames := 2, cells := 0, slots := 0, locals := 47 } : Room) s m args below meth c H locs 0 0 Q (F0 m 185 ls []) := by
                  intro v185_l6 d_185 C_0_185 H locs ls hd hlf2 hls2 hS hl
                  refine lv_iinc (v := nI (i97 + 1)) (lv' := [(7, .int (nI (i97 + 1))), (0, .ref (q 3)), (1, .int (nI t)), (2, .int nm), (3, .int pm), (4, .int v9_l4), (5, .int v9_l5), (6, .int v185_l6)]) hx hb dX0_seekFaceOnes_185 hl (k := 7) rfl (cx_inc _) (by decide) rfl (fun ls hl => ?_)
                  refine lv_goto (tgt := 97) hx hb dX0_seekFaceOnes_188 (by decide) ?_
                  exact ih97 v185_l6 (i97 + 1) d_185 C_0_185 _ _ _ (by (try clear hc); (try clear hg); omega) (by (try clear hc); (try clear hg); omega) (by first | assumption | (have := cx_ct_le (bt (v9_l4 &&& (v9_l5 ^^^ (-1 : Int32)))) 20; omega) | (have := cx_ct_le (bt x87) 20; omega)) (by first | assumption | exact cx_lf0 (by omega) (by omega) hg hc) (by first | assumption | exact cx_LS0) hS (lv_sub hl [1, 2, 3, 4, 5, 6, 7, 0] rfl)
                refine lv_if_eq (tgt := 185) hx hb dX0_seekFaceOnes_129 (by decide) (fun h129 => ?_) (fun h129 => ?_)
                · skip
                  have g129 := cx_b0 h129
                  exact J185 v97_l6 d_97 C_0_97 _ _ _ (by first | assumption | (rw [ex183]; have := cx_clr ho125 y129; omega)) (by first | exact cx_lf_skip hlf (Or.inl g129) | exact cx_lf_skip hlf (Or.inr g141) | (rw [ex183]; exact cx_lf_take ho125 hlf g141)) (by first | exact cx_LS.skip hls (fun z => g129 (cx_lf_no hOn hn hlf (Nat.le_refl _) z)) | exact cx_LS.skip hls (fun z => g141 z.2.1) | exact cx_LS.take hls (by omega) (cx_lf_fo hOn hn hlf (by omega) g129 g141)) hS (lv_sub hl [0, 1, 2, 3, 4, 5, 6, 7] rfl)
                · skip
                  have g129 := cx_b1 h129
                  have y129 := (cx_hb ho125).mpr g129
                  refine lv_aload_n hx hb dX0_seekFaceOnes_132 rfl (lv_at hl 0 rfl) ?_
                  refine lv_iload hx hb dX0_seekFaceOnes_133 (lv_at hl 7 rfl) ?_
                  refine lv_iload_n hx hb dX0_seekFaceOnes_135 rfl (lv_at hl 1 rfl) ?_
                  refine lv_iload_n hx hb dX0_seekFaceOnes_136 rfl (lv_at hl 2 rfl) ?_
                  refine lv_iload_n hx hb dX0_seekFaceOnes_137 rfl (lv_at hl 3 rfl) ?_
                  refine cx_cVi (As := [.int (nI i97), .int (nI t), .int nm, .int pm]) (rest := []) ⟨hx, hb, hml, hown, hts⟩ hE hS (c_X0_givenByFace l D q cI cJ n T k M d_97 (cx_u C 0 C_0_97) J g i97 t nm pm (by first | assumption | omega | rfl) (by first | assumption | omega | rfl) (by first | assumption | omega | rfl) (by first | assumption | omega | rfl) (by first | assumption | omega | rfl) (by first | assumption | omega | rfl)) (cwV 4 hts gX0_seekFaceOnes_X0_givenByFace rfl rfl rfl (by decide +kernel) ⟨Nat.le_of_ble_eq_true rfl, Nat.le_of_ble_eq_true rfl⟩) 3 0 rfl rfl rfl hl.1 rfl (Nat.le_of_ble_eq_true rfl) ⟨Nat.zero_le _, Nat.zero_le _⟩ dX0_seekFaceOnes_138 (fun r_138 u_138 H locs hp_138 hS => ?_)
                  have hp_138 : (r_138 = 0 ∨ r_138 = 1) ∧ (¬ r_138 = 0 ↔ cx_gv ((T 0)) M (cx_Ac T n) t nm pm i97) := hp_138
                  refine lv_if_eq (tgt := 185) hx hb dX0_seekFaceOnes_141 (by decide) (fun h141 => ?_) (fun h141 => ?_)
                  · skip
                    have g141 : ¬ (cx_gv ((T 0)) M (cx_Ac T n) t nm pm i97) := fun z => hp_138.2.mpr z h141
                    exact J185 v97_l6 d_97 C_0_97 _ _ _ (by first | assumption | (rw [ex183]; have := cx_clr ho125 y129; omega)) (by first | exact cx_lf_skip hlf (Or.inl g129) | exact cx_lf_skip hlf (Or.inr g141) | (rw [ex183]; exact cx_lf_take ho125 hlf g141)) (by first | exact cx_LS.skip hls (fun z => g129 (cx_lf_no hOn hn hlf (Nat.le_refl _) z)) | exact cx_LS.skip hls (fun z => g141 z.2.1) | exact cx_LS.take hls (by omega) (cx_lf_fo hOn hn hlf (by omega) g129 g141)) hS (lv_sub hl [0, 1, 2, 3, 4, 5, 6, 7] rfl)
                  · skip
                    have g141 : cx_gv ((T 0)) M (cx_Ac T n) t nm pm i97 := hp_138.2.mp h141
                    refine lv_aload_n hx hb dX0_seekFaceOnes_144 rfl (lv_at hl 0 rfl) ?_
                    refine cx_get (own := RX0) (index := 9) (C := RX0) (T := TX0) (N := 7) (k := 2) (ci := 0) (v := .ref (q 24)) hx hb hts hown hE hS hinX0 3 rfl rfl (by decide) (List.mem_of_getElem? (i := 4) rfl) rfl dX0_seekFaceOnes_145 ?_
                    refine lv_aload_n hx hb dX0_seekFaceOnes_148 rfl (lv_at hl 0 rfl) ?_
                    refine cx_get (own := RX0) (index := 21) (C := RX0) (T := TX0) (N := 7) (k := 5) (ci := 0) (v := .int (nI d_97)) hx hb hts hown hE hS hinX0 3 rfl rfl (by decide) (List.mem_of_getElem? (i := 3) rfl) rfl dX0_seekFaceOnes_149 ?_
                    refine lv_iload hx hb dX0_seekFaceOnes_152 (lv_at hl 7 rfl) ?_
                    refine cx_iast (k := d_97) (f := C_0_97) (n := 20) (cA := cI) (ws' := (cxW q cI cJ n T k M d_97 (cx_u C 0 (upd C_0_97 d_97 (nI i97))) J g)) hx hb hE hS 24 0 rfl rfl (by have := cx_clr ho125 y129; omega) (by decide) rfl dX0_seekFaceOnes_154 (fun H locs hS => ?_)
                    refine lv_aload_n hx hb dX0_seekFaceOnes_155 rfl (lv_at hl 0 rfl) ?_
                    refine lv_dup hx hb dX0_seekFaceOnes_156 rfl ?_
                    refine cx_get (own := RX0) (index := 21) (C := RX0) (T := TX0) (N := 7) (k := 5) (ci := 0) (v := .int (nI d_97)) hx hb hts hown hE hS hinX0 3 rfl rfl (by decide) (List.mem_of_getElem? (i := 3) rfl) rfl dX0_seekFaceOnes_157 ?_
                    refine lv_iconst (v := (1 : Int32)) hx hb dX0_seekFaceOnes_160 (by decide) ?_
                    refine lv_iadd hx hb dX0_seekFaceOnes_161 ?_
                    refine cx_topr (z := nI (d_97 + 1)) (nI_1 _) ?_
                    refine cx_put (own := RX0) (index := 21) (C := RX0) (T := TX0) (N := 7) (k := 5) (ci := 0) (v := .int (nI (d_97 + 1))) (ty := .int) (ws' := (cxW q cI cJ n T k M (d_97 + 1) (cx_u C 0 (upd C_0_97 d_97 (nI i97))) J g)) hx hb hts hown hE hS hinX0 tyX0 tyX0_ok nmX0 3 rfl rfl (by decide) (List.mem_of_getElem? (i := 3) rfl) rfl (by decide +kernel) rfl rfl (Nat.le_of_ble_eq_true rfl) rfl dX0_seekFaceOnes_162 (fun H locs hS => ?_)
                    refine lv_iload hx hb dX0_seekFaceOnes_165 (lv_at hl 6 rfl) ?_
                    refine lv_aload_n hx hb dX0_seekFaceOnes_167 rfl (lv_at hl 0 rfl) ?_
                    refine cx_get (own := RX0) (index := 32) (C := RX0) (T := TX0) (N := 7) (k := 1) (ci := 0) (v := .ref (q 2)) hx hb hts hown hE hS hinX0 3 rfl rfl (by decide) (List.mem_of_getElem? (i := 1) rfl) rfl dX0_seekFaceOnes_168 ?_
                    refine cx_getN (own := RX0) (index := 46) (C := RX3) (T := TX3) (N := 8) (k := 1) (ci := 3) (host := "ClassRules") (v := .ref (q 18)) hx hb hts hown hE hS hinX3 2 rfl rfl (by decide) (List.mem_of_getElem? (i := 20) rfl) rfl dX0_seekFaceOnes_171 ?_
                    refine lv_iload hx hb dX0_seekFaceOnes_174 (lv_at hl 7 rfl) ?_
                    refine cx_iald (f := (M 0)) (n := 80) (cA := cI) hx hb hE hS 18 0 rfl rfl (by omega) (by decide) dX0_seekFaceOnes_176 ?_
                    have ho176 := (hO i97).2
                    refine cx_topr (z := nI (((M 0) i97).toNatClampNeg)) (hO i97).1 ?_
                    refine cx_cNi (As := [.int (nI (((M 0) i97).toNatClampNeg))]) (rest := [.int v97_l6]) ⟨hx, hb, hml, hown, hts⟩ hE hS (c_X6_bit l D [(cI, .int), (cJ, .long)] (cxW q cI cJ n T k M (d_97 + 1) (cx_u C 0 (upd C_0_97 d_97 (nI i97))) J g) (nI (((M 0) i97).toNatClampNeg)) ) ⟨va_cnB (own := RX0) (index := 68) (host := "ClassRules") 1 hts gX0_seekFaceOnes_X6_bit_n68 rfl rfl rfl (hE.2.1 _ (List.mem_of_getElem? (i := 39) rfl)) (hts (.initialized RX6) (List.mem_of_getElem? (i := 35) rfl)) (by decide +kernel) ⟨Nat.le_of_ble_eq_true rfl, Nat.le_of_ble_eq_true rfl⟩, hts (.static yX6_bit) (List.mem_of_getElem? (i := 34) rfl), trivial⟩ rfl hl.1 rfl (Nat.le_of_ble_eq_true rfl) ⟨Nat.zero_le _, Nat.zero_le _⟩ dX0_seekFaceOnes_177 (fun r_177 u_177 H locs hp_177 hS => ?_)
                    have hp_177 : r_177 = ((1 : Int32) <<< ((nI (((M 0) i97).toNatClampNeg)) &&& 31)) := hp_177
                    subst hp_177
                    refine lv_iconst (v := (-1 : Int32)) hx hb dX0_seekFaceOnes_180 (by decide) ?_
                    refine lv_ixor hx hb dX0_seekFaceOnes_181 ?_
                    refine lv_iand hx hb dX0_seekFaceOnes_182 ?_
                    refine lv_topi (fun x183 ex183 => ?_)
                    refine lv_istore (lv' := [(6, .int x183), (0, .ref (q 3)), (1, .int (nI t)), (2, .int nm), (3, .int pm), (4, .int v9_l4), (5, .int v9_l5), (7, .int (nI i97))]) hx hb dX0_seekFaceOnes_183 hl (by decide) rfl (fun ls hl => ?_)
                    exact J185 x183 (d_97 + 1) (upd C_0_97 d_97 (nI i97)) _ _ _ (by first | assumption | (rw [ex183]; have := cx_clr ho125 y129; omega)) (by first | exact cx_lf_skip hlf (Or.inl g129) | exact cx_lf_skip hlf (Or.inr g141) | (rw [ex183]; exact cx_lf_take ho125 hlf g141)) (by first | exact cx_LS.skip hls (fun z => g129 (cx_lf_no hOn hn hlf (Nat.le_refl _) z)) | exact cx_LS.skip hls (fun z => g141 z.2.1) | exact cx_LS.take hls (by omega) (cx_lf_fo hOn hn hlf (by omega) g129 g141)) hS (lv_sub hl [1, 2, 3, 4, 5, 6, 0, 7] rfl)
        exact J97 (k - 0 + 1) (v9_l4 &&& (v9_l5 ^^^ (-1 : Int32))) 0 0 (C 0) _ _ _ (Nat.lt_succ_self _) (by (try clear hc); (try clear hg); omega) (by first | assumption | (have := cx_ct_le (bt (v9_l4 &&& (v9_l5 ^^^ (-1 : Int32)))) 20; omega) | (have := cx_ct_le (bt x87) 20; omega)) (by first | assumption | exact cx_lf0 (by omega) (by omega) hg hc) (by first | assumption | exact cx_LS0) hS (lv_sub hl [2, 3, 4, 5, 6, 7, 1, 0] rfl)
      · skip
        have g18 : ¬ (k ≤ i9) := fun z => h18 ((nI_leI (a := k) (b := i9) (by omega) (by omega)).mpr z)
        refine lv_aload_n hx hb dX0_seekFaceOnes_21 rfl (lv_at hl 0 rfl) ?_
        refine lv_iload hx hb dX0_seekFaceOnes_22 (lv_at hl 6 rfl) ?_
        refine lv_iload_n hx hb dX0_seekFaceOnes_24 rfl (lv_at hl 1 rfl) ?_
        refine lv_iload_n hx hb dX0_seekFaceOnes_25 rfl (lv_at hl 2 rfl) ?_
        refine lv_iload_n hx hb dX0_seekFaceOnes_26 rfl (lv_at hl 3 rfl) ?_
        refine cx_cVi (As := [.int (nI i9), .int (nI t), .int nm, .int pm]) (rest := []) ⟨hx, hb, hml, hown, hts⟩ hE hS (c_X0_givenByFace l D q cI cJ n T k M d C J g i9 t nm pm (by first | assumption | omega | rfl) (by first | assumption | omega | rfl) (by first | assumption | omega | rfl) (by first | assumption | omega | rfl) (by first | assumption | omega | rfl) (by first | assumption | omega | rfl)) (cwV 4 hts gX0_seekFaceOnes_X0_givenByFace rfl rfl rfl (by decide +kernel) ⟨Nat.le_of_ble_eq_true rfl, Nat.le_of_ble_eq_true rfl⟩) 3 0 rfl rfl rfl hl.1 rfl (Nat.le_of_ble_eq_true rfl) ⟨Nat.zero_le _, Nat.zero_le _⟩ dX0_seekFaceOnes_27 (fun r_27 u_27 H locs hp_27 hS => ?_)
        have hp_27 : (r_27 = 0 ∨ r_27 = 1) ∧ (¬ r_27 = 0 ↔ cx_gv ((T 0)) M (cx_Ac T n) t nm pm i9) := hp_27
        have J74 : ∀ (v74_l4 : Int32) (v74_l5 : Int32) (H : Heap) (locs : List Loc) (ls : Array Slot), (∀ u, u < 32 → (bt v74_l4 u = true ↔ ∃ j, j < (i9 + 1) ∧ ((cx_gv (T 0) M (cx_Ac T n) t nm pm) j ∧ cx_ow M j = u))) → (∀ u, u < 32 → (bt v74_l5 u = true ↔ ∃ j, j < (i9 + 1) ∧ ((cx_gv (T 0) M (cx_Ac T n) t nm pm) j ∧ bt (T 10 (cx_ow M j)) u = true))) → cx_S D vwCl A s (cxW q cI cJ n T k M d C J g) H locs → lv_has ls 8 [(0, .ref (q 3)), (1, .int (nI t)), (2, .int nm), (3, .int pm), (4, .int v74_l4), (5, .int v74_l5), (6, .int (nI i9))] → W p l e ({ frames := 2, cells := 0, slots := 0, locals := 47 } : Room) s m args below meth c H locs 0 0 Q (F0 m 74 ls []) := by
          intro v74_l4 v74_l5 H locs ls hg74 hc74 hS hl
          refine lv_iinc (v := nI (i9 + 1)) (lv' := [(6, .int (nI (i9 + 1))), (0, .ref (q 3)), (1, .int (nI t)), (2, .int nm), (3, .int pm), (4, .int v74_l4), (5, .int v74_l5)]) hx hb dX0_seekFaceOnes_74 hl (k := 6) rfl (cx_inc _) (by decide) rfl (fun ls hl => ?_)
          refine lv_goto (tgt := 9) hx hb dX0_seekFaceOnes_77 (by decide) ?_
          exact ih9 v74_l4 v74_l5 (i9 + 1) _ _ _ (by (try clear hc74); (try clear hg74); (try clear hc); (try clear hg); omega) (by (try clear hc74); (try clear hg74); (try clear hc); (try clear hg); omega) (by first | exact cx_bits0 | exact hg74) (by first | exact cx_bits0 | exact hc74) hS (lv_sub hl [1, 2, 3, 4, 5, 6, 0] rfl)
        refine lv_if_eq (tgt := 74) hx hb dX0_seekFaceOnes_30 (by decide) (fun h30 => ?_) (fun h30 => ?_)
        · skip
          have g30 : ¬ (cx_gv ((T 0)) M (cx_Ac T n) t nm pm i9) := fun z => hp_27.2.mpr z h30
          exact J74 v9_l4 v9_l5 _ _ _ (by first | exact cx_bitsN (P := fun j u => (cx_gv (T 0) M (cx_Ac T n) t nm pm) j ∧ cx_ow M j = u) hg (fun u z => g30 z.1) | exact cx_bitsS (P := fun j u => (cx_gv (T 0) M (cx_Ac T n) t nm pm) j ∧ cx_ow M j = u) hg (fun u hu => by rw [cx_1bit ho44 hu]; exact ⟨fun z => ⟨g30, z.symm⟩, fun z => z.2.symm⟩) (by first | exact ex49 | rfl)) (by first | exact cx_bitsN (P := fun j u => (cx_gv (T 0) M (cx_Ac T n) t nm pm) j ∧ bt (T 10 (cx_ow M j)) u = true) hc (fun u z => g30 z.1) | exact cx_bitsS (P := fun j u => (cx_gv (T 0) M (cx_Ac T n) t nm pm) j ∧ bt (T 10 (cx_ow M j)) u = true) hc (fun u hu => ⟨fun z => ⟨g30, z⟩, fun z => z.2⟩) (by first | exact ex72 | rfl)) hS (lv_sub hl [0, 1, 2, 3, 4, 5, 6] rfl)
        · skip
          have g30 : cx_gv ((T 0)) M (cx_Ac T n) t nm pm i9 := hp_27.2.mp h30
          refine lv_iload hx hb dX0_seekFaceOnes_33 (lv_at hl 4 rfl) ?_
          refine lv_aload_n hx hb dX0_seekFaceOnes_35 rfl (lv_at hl 0 rfl) ?_
          refine cx_get (own := RX0) (index := 32) (C := RX0) (T := TX0) (N := 7) (k := 1) (ci := 0) (v := .ref (q 2)) hx hb hts hown hE hS hinX0 3 rfl rfl (by decide) (List.mem_of_getElem? (i := 1) rfl) rfl dX0_seekFaceOnes_36 ?_
          refine cx_getN (own := RX0) (index := 46) (C := RX3) (T := TX3) (N := 8) (k := 1) (ci := 3) (host := "ClassRules") (v := .ref (q 18)) hx hb hts hown hE hS hinX3 2 rfl rfl (by decide) (List.mem_of_getElem? (i := 20) rfl) rfl dX0_seekFaceOnes_39 ?_
          refine lv_iload hx hb dX0_seekFaceOnes_42 (lv_at hl 6 rfl) ?_
          refine cx_iald (f := (M 0)) (n := 80) (cA := cI) hx hb hE hS 18 0 rfl rfl (by omega) (by decide) dX0_seekFaceOnes_44 ?_
          have ho44 := (hO i9).2
          refine cx_topr (z := nI (((M 0) i9).toNatClampNeg)) (hO i9).1 ?_
          refine cx_cNi (As := [.int (nI (((M 0) i9).toNatClampNeg))]) (rest := [.int v9_l4]) ⟨hx, hb, hml, hown, hts⟩ hE hS (c_X6_bit l D [(cI, .int), (cJ, .long)] (cxW q cI cJ n T k M d C J g) (nI (((M 0) i9).toNatClampNeg)) ) ⟨va_cnB (own := RX0) (index := 68) (host := "ClassRules") 1 hts gX0_seekFaceOnes_X6_bit_n68 rfl rfl rfl (hE.2.1 _ (List.mem_of_getElem? (i := 39) rfl)) (hts (.initialized RX6) (List.mem_of_getElem? (i := 35) rfl)) (by decide +kernel) ⟨Nat.le_of_ble_eq_true rfl, Nat.le_of_ble_eq_true rfl⟩, hts (.static yX6_bit) (List.mem_of_getElem? (i := 34) rfl), trivial⟩ rfl hl.1 rfl (Nat.le_of_ble_eq_true rfl) ⟨Nat.zero_le _, Nat.zero_le _⟩ dX0_seekFaceOnes_45 (fun r_45 u_45 H locs hp_45 hS => ?_)
          have hp_45 : r_45 = ((1 : Int32) <<< ((nI (((M 0) i9).toNatClampNeg)) &&& 31)) := hp_45
          subst hp_45
          refine lv_ior hx hb dX0_seekFaceOnes_48 ?_
          refine lv_topi (fun x49 ex49 => ?_)
          refine lv_istore (lv' := [(4, .int x49), (0, .ref (q 3)), (1, .int (nI t)), (2, .int nm), (3, .int pm), (5, .int v9_l5), (6, .int (nI i9))]) hx hb dX0_seekFaceOnes_49 hl (by decide) rfl (fun ls hl => ?_)
          refine lv_iload hx hb dX0_seekFaceOnes_51 (lv_at hl 5 rfl) ?_
          refine lv_aload_n hx hb dX0_seekFaceOnes_53 rfl (lv_at hl 1 rfl) ?_
          refine cx_get (own := RX0) (index := 28) (C := RX0) (T := TX0) (N := 7) (k := 0) (ci := 0) (v := .ref (q 1)) hx hb hts hown hE hS hinX0 3 rfl rfl (by decide) (List.mem_of_getElem? (i := 2) rfl) rfl dX0_seekFaceOnes_54 ?_
          refine cx_getN (own := RX0) (index := 71) (C := RX5) (T := TX5) (N := 12) (k := 10) (ci := 5) (host := "ClassRules") (v := .ref (q 17)) hx hb hts hown hE hS hinX5 1 rfl rfl (by decide) (List.mem_of_getElem? (i := 15) rfl) rfl dX0_seekFaceOnes_57 ?_
          refine lv_aload_n hx hb dX0_seekFaceOnes_60 rfl (lv_at hl 1 rfl) ?_
          refine cx_get (own := RX0) (index := 32) (C := RX0) (T := TX0) (N := 7) (k := 1) (ci := 0) (v := .ref (q 2)) hx hb hts hown hE hS hinX0 3 rfl rfl (by decide) (List.mem_of_getElem? (i := 1) rfl) rfl dX0_seekFaceOnes_61 ?_
          refine cx_getN (own := RX0) (index := 46) (C := RX3) (T := TX3) (N := 8) (k := 1) (ci := 3) (host := "ClassRules") (v := .ref (q 18)) hx hb hts hown hE hS hinX3 2 rfl rfl (by decide) (List.mem_of_getElem? (i := 20) rfl) rfl dX0_seekFaceOnes_64 ?_
          refine lv_iload hx hb dX0_seekFaceOnes_67 (lv_at hl 6 rfl) ?_
          refine cx_iald (f := (M 0)) (n := 80) (cA := cI) hx hb hE hS 18 0 rfl rfl (by omega) (by decide) dX0_seekFaceOnes_69 ?_
          have ho69 := (hO i9).2
          refine cx_topr (z := nI (((M 0) i9).toNatClampNeg)) (hO i9).1 ?_
          refine cx_iald (f := (T 10)) (n := 20) (cA := cI) hx hb hE hS 17 0 rfl rfl (by omega) (by decide) dX0_seekFaceOnes_70 ?_
          refine lv_ior hx hb dX0_seekFaceOnes_71 ?_
          refine lv_istore (lv' := [(5, .int (v9_l5 ||| ((T 10) (((M 0) i9).toNatClampNeg)))), (4, .int x49), (0, .ref (q 3)), (1, .int (nI t)), (2, .int nm), (3, .int pm), (6, .int (nI i9))]) hx hb dX0_seekFaceOnes_72 hl (by decide) rfl (fun ls hl => ?_)
          exact J74 x49 (v9_l5 ||| ((T 10) (((M 0) i9).toNatClampNeg))) _ _ _ (by first | exact cx_bitsN (P := fun j u => (cx_gv (T 0) M (cx_Ac T n) t nm pm) j ∧ cx_ow M j = u) hg (fun u z => g30 z.1) | exact cx_bitsS (P := fun j u => (cx_gv (T 0) M (cx_Ac T n) t nm pm) j ∧ cx_ow M j = u) hg (fun u hu => by rw [cx_1bit ho44 hu]; exact ⟨fun z => ⟨g30, z.symm⟩, fun z => z.2.symm⟩) (by first | exact ex49 | rfl)) (by first | exact cx_bitsN (P := fun j u => (cx_gv (T 0) M (cx_Ac T n) t nm pm) j ∧ bt (T 10 (cx_ow M j)) u = true) hc (fun u z => g30 z.1) | exact cx_bitsS (P := fun j u => (cx_gv (T 0) M (cx_Ac T n) t nm pm) j ∧ bt (T 10 (cx_ow M j)) u = true) hc (fun u hu => ⟨fun z => ⟨g30, z⟩, fun z => z.2⟩) (by first | exact ex72 | rfl)) hS (lv_sub hl [2, 3, 4, 5, 1, 0, 6] rfl)
  exact J9 (k - 0 + 1) (nI 0) (nI 0) 0 _ _ _ (Nat.lt_succ_self _) (by (try clear hc); (try clear hg); omega) (by first | exact cx_bits0 | exact hg74) (by first | exact cx_bits0 | exact hc74) hS (lv_sub hl [3, 4, 5, 6, 2, 1, 0] rfl)
set_option maxHeartbeats 4000000 in
set_option maxRecDepth 100000 in
theorem c_X0_running (l : Launch) (D : va_G) (q : Nat → Nat) (cI cJ : ClassId) (n : Nat) (T : Nat → Nat → Int32) (k : Nat) (M : Nat → Nat → Int32) (d : Nat) (C : Nat → Nat → Int32) (J : Nat → Nat → Int32) (g : Nat → Int64) (t : Nat) (nm : Int32) (pm : Int32) (hn : n ≤ 20) (hk : k ≤ 80) (ht : t < n) (hO : cx_R (M 0) 20) (hP : cx_P (T 3) 20) (hOn : ∀ j, j < k → (M 0 j).toNatClampNeg < n) : cx_Mi l D vwCl [(cI, .int), (cJ, .long)] cx_NW yX0_running wsX0_running ({ frames := 3, cells := 0, slots := 0, locals := 74 } : Room) [.ref (q 3), .int (nI t), .int nm, .int pm] (cxW q cI cJ n T k M d C J g) (fun (r : Int32) (uw : (Int32) × (Nat) × (Nat → Int32)) => (cx_rn n k (T 0) (T 2) (T 3) M (cx_Ac T n) t nm pm r) ∧ (r = -1 ∨ cx_ix r 80)) (fun uw => (cxW q cI cJ n T k M uw.2.1 (cx_u (cx_u C 4 (fun _ => uw.1)) 0 uw.2.2) J g)) := by
  refine cx_Mi.of (cc := cX0_running) (maxL := 4) cx_NW_ok (by decide) rfl (Nat.le_of_ble_eq_true rfl) ?_
  intro p e s m args below meth c Q A ls hx hb hml hown hts hE RET hS hl
  have hl : lv_has ls 4 [(0, .ref (q 3)), (1, .int (nI t)), (2, .int nm), (3, .int pm)] := hl
  have hown : s.vm.findClass RX0 = some m.cls := hown
  have hinX0 : ∀ w ∈ u_ws RX0 TX0 7, w ∈ wsX0_running := cx_mem [73, 74, 75, 76, 77, 78, 79] (by decide +kernel)
  refine lv_aload_n hx hb dX0_running_0 rfl (lv_at hl 0 rfl) ?_
  refine lv_iload_n hx hb dX0_running_1 rfl (lv_at hl 1 rfl) ?_
  refine lv_iload_n hx hb dX0_running_2 rfl (lv_at hl 2 rfl) ?_
  refine lv_iload_n hx hb dX0_running_3 rfl (lv_at hl 3 rfl) ?_
  refine cx_cVv (As := [.int (nI t), .int nm, .int pm]) (rest := []) ⟨hx, hb, hml, hown, hts⟩ hE hS (c_X0_seekClassOne l D q cI cJ n T k M d C J g t nm pm (by first | assumption | omega | rfl) (by first | assumption | omega | rfl) (by first | assumption | omega | rfl) (by first | assumption | omega | rfl) (by first | assumption | omega | rfl) (by first | assumption | omega | rfl)) (cwV 3 hts gX0_running_X0_seekClassOne rfl rfl rfl (by decide +kernel) ⟨Nat.le_of_ble_eq_true rfl, Nat.le_of_ble_eq_true rfl⟩) 3 0 rfl rfl rfl hl.1 rfl (Nat.le_of_ble_eq_true rfl) ⟨Nat.zero_le _, Nat.zero_le _⟩ dX0_running_4 (fun u_4 H locs hp_4 hS => ?_)
  obtain ⟨co_4, rfl⟩ : ∃ z, z = u_4 := ⟨_, rfl⟩
  have hS : cx_S D vwCl A s (cxW q cI cJ n T k M d (cx_u C 4 (fun _ => co_4)) J g) H locs := hS
  have hp_4 : (cx_co n k ((T 0)) ((T 2)) ((T 3)) M (cx_Ac T n) t nm pm co_4) ∧ (co_4 = -1 ∨ cx_ix co_4 80) := hp_4
  refine lv_aload_n hx hb dX0_running_7 rfl (lv_at hl 0 rfl) ?_
  refine cx_get (own := RX0) (index := 25) (C := RX0) (T := TX0) (N := 7) (k := 6) (ci := 0) (v := .int co_4) hx hb hts hown hE hS hinX0 3 rfl rfl (by decide) (List.mem_of_getElem? (i := 1) rfl) rfl dX0_running_8 ?_
  refine lv_iconst (v := (-1 : Int32)) hx hb dX0_running_11 (by decide) ?_
  refine lv_icmp_eq (tgt := 24) hx hb dX0_running_12 (by decide) (fun h12 => ?_) (fun h12 => ?_)
  · skip
    refine lv_aload_n hx hb dX0_running_24 rfl (lv_at hl 0 rfl) ?_
    refine lv_iload_n hx hb dX0_running_25 rfl (lv_at hl 1 rfl) ?_
    refine lv_iload_n hx hb dX0_running_26 rfl (lv_at hl 2 rfl) ?_
    refine lv_iload_n hx hb dX0_running_27 rfl (lv_at hl 3 rfl) ?_
    refine cx_cVv (As := [.int (nI t), .int nm, .int pm]) (rest := []) ⟨hx, hb, hml, hown, hts⟩ hE hS (c_X0_seekFaceOnes l D q cI cJ n T k M d (cx_u C 4 (fun _ => co_4)) J g t nm pm (by first | assumption | omega | rfl) (by first | assumption | omega | rfl) (by first | assumption | omega | rfl) (by first | assumption | omega | rfl) (by first | assumption | omega | rfl)) (cwV 3 hts gX0_running_X0_seekFaceOnes rfl rfl rfl (by decide +kernel) ⟨Nat.le_of_ble_eq_true rfl, Nat.le_of_ble_eq_true rfl⟩) 3 0 rfl rfl rfl hl.1 rfl (Nat.le_of_ble_eq_true rfl) ⟨Nat.zero_le _, Nat.zero_le _⟩ dX0_running_28 (fun u_28 H locs hp_28 hS => ?_)
    obtain ⟨d1_28, fo_28⟩ := u_28
    have hS : cx_S D vwCl A s (cxW q cI cJ n T k M d1_28 (cx_u (cx_u C 4 (fun _ => co_4)) 0 fo_28) J g) H locs := hS
    have hp_28 : d1_28 ≤ 20 ∧ cx_LS (cx_fo k ((T 0)) M (cx_Ac T n) t nm pm) fo_28 d1_28 k := hp_28
    have hd_28 := hp_28.1
    refine lv_aload_n hx hb dX0_running_31 rfl (lv_at hl 0 rfl) ?_
    refine cx_get (own := RX0) (index := 21) (C := RX0) (T := TX0) (N := 7) (k := 5) (ci := 0) (v := .int (nI d1_28)) hx hb hts hown hE hS hinX0 3 rfl rfl (by decide) (List.mem_of_getElem? (i := 2) rfl) rfl dX0_running_32 ?_
    refine lv_iconst (v := (1 : Int32)) hx hb dX0_running_35 (by decide) ?_
    have J49 : ∀ (v49_s0 : Int32) (H : Heap) (locs : List Loc) (ls : Array Slot), ((cx_rn n k (T 0) (T 2) (T 3) M (cx_Ac T n) t nm pm v49_s0) ∧ (v49_s0 = -1 ∨ cx_ix v49_s0 80)) → cx_S D vwCl A s (cxW q cI cJ n T k M d1_28 (cx_u (cx_u C 4 (fun _ => co_4)) 0 fo_28) J g) H locs → lv_has ls 4 [(0, .ref (q 3)), (1, .int (nI t)), (2, .int nm), (3, .int pm)] → W p l e ({ frames := 3, cells := 0, slots := 0, locals := 74 } : Room) s m args below meth c H locs 0 0 Q (F0 m 49 ls [.int v49_s0]) := by
      intro v49_s0 H locs ls hv hS hl
      exact RET _ (co_4, d1_28, fo_28) _ _ _ _ dX0_running_49 rfl hv hS
    refine lv_icmp_ne (tgt := 48) hx hb dX0_running_36 (by decide) (fun h36 => ?_) (fun h36 => ?_)
    · skip
      have g36 : ¬ (d1_28 = 1) := fun z => h36 ((nI_eq (a := d1_28) (b := 1) (by omega) (by omega)).mpr z)
      refine lv_iconst (v := (-1 : Int32)) hx hb dX0_running_48 (by decide) ?_
      exact J49 (-1 : Int32) _ _ _ (by first | exact ⟨cx_rn2 hp_4.1 h12 (hp_28.2.li hk (fun m z => z.1)) (by omega), Or.inl rfl⟩ | exact ⟨cx_rn3 hp_4.1 h12 (hp_28.2.li hk (fun m z => z.1)) (by omega) hp_42, hp_42.ix (hp_28.2.li hk (fun m z => z.1)).ix⟩) hS (lv_sub hl [0, 1, 2, 3] rfl)
    · skip
      have g36 : d1_28 = 1 := (nI_eq (a := d1_28) (b := 1) (by omega) (by omega)).mp h36
      refine lv_aload_n hx hb dX0_running_39 rfl (lv_at hl 0 rfl) ?_
      refine lv_bipush (v := nI 8) hx hb dX0_running_40 (by decide) ?_
      refine cx_cVi (As := [.int (nI 8)]) (rest := []) ⟨hx, hb, hml, hown, hts⟩ hE hS (c_X0_leastFaceOneWith l D q cI cJ n T k M d1_28 (cx_u (cx_u C 4 (fun _ => co_4)) 0 fo_28) J g (nI 8) hp_28.1 ((hp_28.2.li hk (fun m z => z.1)).ix)) (cwV 1 hts gX0_running_X0_leastFaceOneWith rfl rfl rfl (by decide +kernel) ⟨Nat.le_of_ble_eq_true rfl, Nat.le_of_ble_eq_true rfl⟩) 3 0 rfl rfl rfl hl.1 rfl (Nat.le_of_ble_eq_true rfl) ⟨Nat.zero_le _, Nat.zero_le _⟩ dX0_running_42 (fun r_42 u_42 H locs hp_42 hS => ?_)
      have hp_42 : cx_Lw M (fo_28) d1_28 (nI 8) r_42 := hp_42
      refine lv_goto (tgt := 49) hx hb dX0_running_45 (by decide) ?_
      exact J49 r_42 _ _ _ (by first | exact ⟨cx_rn2 hp_4.1 h12 (hp_28.2.li hk (fun m z => z.1)) (by omega), Or.inl rfl⟩ | exact ⟨cx_rn3 hp_4.1 h12 (hp_28.2.li hk (fun m z => z.1)) (by omega) hp_42, hp_42.ix (hp_28.2.li hk (fun m z => z.1)).ix⟩) hS (lv_sub hl [0, 1, 2, 3] rfl)
  · skip
    refine lv_aload_n hx hb dX0_running_15 rfl (lv_at hl 0 rfl) ?_
    refine lv_aload_n hx hb dX0_running_16 rfl (lv_at hl 0 rfl) ?_
    refine cx_get (own := RX0) (index := 25) (C := RX0) (T := TX0) (N := 7) (k := 6) (ci := 0) (v := .int co_4) hx hb hts hown hE hS hinX0 3 rfl rfl (by decide) (List.mem_of_getElem? (i := 1) rfl) rfl dX0_running_17 ?_
    refine cx_topr (z := nI (co_4.toNatClampNeg)) (hp_4.2.resolve_left h12).1 ?_
    refine cx_cVi (As := [.int (nI (co_4.toNatClampNeg))]) (rest := []) ⟨hx, hb, hml, hown, hts⟩ hE hS (c_X0_unlessAbstract l D q cI cJ n T k M d (cx_u C 4 (fun _ => co_4)) J g co_4.toNatClampNeg ((hp_4.2.resolve_left h12).2)) (cwV 1 hts gX0_running_X0_unlessAbstract rfl rfl rfl (by decide +kernel) ⟨Nat.le_of_ble_eq_true rfl, Nat.le_of_ble_eq_true rfl⟩) 3 0 rfl rfl rfl hl.1 rfl (Nat.le_of_ble_eq_true rfl) ⟨Nat.zero_le _, Nat.zero_le _⟩ dX0_running_20 (fun r_20 u_20 H locs hp_20 hS => ?_)
    have hp_20 : (cx_mk ((M 3)) co_4.toNatClampNeg 1 ∧ r_20 = -1) ∨ (¬ cx_mk ((M 3)) co_4.toNatClampNeg 1 ∧ r_20 = nI co_4.toNatClampNeg) := hp_20
    exact RET _ (co_4, d, C 0) _ _ _ _ dX0_running_23 rfl (⟨cx_rn1 hp_4 h12 hp_20, cx_rn1i hp_4 h12 hp_20⟩) hS
set_option maxHeartbeats 4000000 in
set_option maxRecDepth 100000 in
theorem c_X0_meantBy (l : Launch) (D : va_G) (q : Nat → Nat) (cI cJ : ClassId) (n : Nat) (T : Nat → Nat → Int32) (k : Nat) (M : Nat → Nat → Int32) (d : Nat) (C : Nat → Nat → Int32) (J : Nat → Nat → Int32) (g : Nat → Int64) (t : Nat) (nm : Int32) (pm : Int32) (hn : n ≤ 20) (hk : k ≤ 80) (ht : t < n) (hO : cx_R (M 0) 20) (hP : cx_P (T 3) 20) (hOn : ∀ j, j < k → (M 0 j).toNatClampNeg < n) : cx_Mi l D vwCl [(cI, .int), (cJ, .long)] cx_NW yX0_meantBy wsX0_meantBy ({ frames := 3, cells := 0, slots := 0, locals := 74 } : Room) [.ref (q 3), .int (nI t), .int nm, .int pm] (cxW q cI cJ n T k M d C J g) (fun (r : Int32) (uw : (Int32) × (Nat) × (Nat → Int32)) => (cx_mt n k (T 0) (T 2) (T 3) M (cx_Ac T n) t nm pm r) ∧ (r = -1 ∨ cx_ix r 80)) (fun uw => (cxW q cI cJ n T k M uw.2.1 (cx_u (cx_u C 4 (fun _ => uw.1)) 0 uw.2.2) J g)) := by
  refine cx_Mi.of (cc := cX0_meantBy) (maxL := 4) cx_NW_ok (by decide) rfl (Nat.le_of_ble_eq_true rfl) ?_
  intro p e s m args below meth c Q A ls hx hb hml hown hts hE RET hS hl
  have hl : lv_has ls 4 [(0, .ref (q 3)), (1, .int (nI t)), (2, .int nm), (3, .int pm)] := hl
  have hown : s.vm.findClass RX0 = some m.cls := hown
  have hinX0 : ∀ w ∈ u_ws RX0 TX0 7, w ∈ wsX0_meantBy := cx_mem [65, 66, 67, 68, 69, 70, 71] (by decide +kernel)
  refine lv_aload_n hx hb dX0_meantBy_0 rfl (lv_at hl 0 rfl) ?_
  refine lv_iload_n hx hb dX0_meantBy_1 rfl (lv_at hl 1 rfl) ?_
  refine lv_iload_n hx hb dX0_meantBy_2 rfl (lv_at hl 2 rfl) ?_
  refine lv_iload_n hx hb dX0_meantBy_3 rfl (lv_at hl 3 rfl) ?_
  refine cx_cVv (As := [.int (nI t), .int nm, .int pm]) (rest := []) ⟨hx, hb, hml, hown, hts⟩ hE hS (c_X0_seekClassOne l D q cI cJ n T k M d C J g t nm pm (by first | assumption | omega | rfl) (by first | assumption | omega | rfl) (by first | assumption | omega | rfl) (by first | assumption | omega | rfl) (by first | assumption | omega | rfl) (by first | assumption | omega | rfl)) (cwV 3 hts gX0_meantBy_X0_seekClassOne rfl rfl rfl (by decide +kernel) ⟨Nat.le_of_ble_eq_true rfl, Nat.le_of_ble_eq_true rfl⟩) 3 0 rfl rfl rfl hl.1 rfl (Nat.le_of_ble_eq_true rfl) ⟨Nat.zero_le _, Nat.zero_le _⟩ dX0_meantBy_4 (fun u_4 H locs hp_4 hS => ?_)
  obtain ⟨co_4, rfl⟩ : ∃ z, z = u_4 := ⟨_, rfl⟩
  have hS : cx_S D vwCl A s (cxW q cI cJ n T k M d (cx_u C 4 (fun _ => co_4)) J g) H locs := hS
  have hp_4 : (cx_co n k ((T 0)) ((T 2)) ((T 3)) M (cx_Ac T n) t nm pm co_4) ∧ (co_4 = -1 ∨ cx_ix co_4 80) := hp_4
  refine lv_aload_n hx hb dX0_meantBy_7 rfl (lv_at hl 0 rfl) ?_
  refine cx_get (own := RX0) (index := 25) (C := RX0) (T := TX0) (N := 7) (k := 6) (ci := 0) (v := .int co_4) hx hb hts hown hE hS hinX0 3 rfl rfl (by decide) (List.mem_of_getElem? (i := 1) rfl) rfl dX0_meantBy_8 ?_
  refine lv_iconst (v := (-1 : Int32)) hx hb dX0_meantBy_11 (by decide) ?_
  refine lv_icmp_eq (tgt := 20) hx hb dX0_meantBy_12 (by decide) (fun h12 => ?_) (fun h12 => ?_)
  · skip
    refine lv_aload_n hx hb dX0_meantBy_20 rfl (lv_at hl 0 rfl) ?_
    refine lv_iload_n hx hb dX0_meantBy_21 rfl (lv_at hl 1 rfl) ?_
    refine lv_iload_n hx hb dX0_meantBy_22 rfl (lv_at hl 2 rfl) ?_
    refine lv_iload_n hx hb dX0_meantBy_23 rfl (lv_at hl 3 rfl) ?_
    refine cx_cVv (As := [.int (nI t), .int nm, .int pm]) (rest := []) ⟨hx, hb, hml, hown, hts⟩ hE hS (c_X0_seekFaceOnes l D q cI cJ n T k M d (cx_u C 4 (fun _ => co_4)) J g t nm pm (by first | assumption | omega | rfl) (by first | assumption | omega | rfl) (by first | assumption | omega | rfl) (by first | assumption | omega | rfl) (by first | assumption | omega | rfl)) (cwV 3 hts gX0_meantBy_X0_seekFaceOnes rfl rfl rfl (by decide +kernel) ⟨Nat.le_of_ble_eq_true rfl, Nat.le_of_ble_eq_true rfl⟩) 3 0 rfl rfl rfl hl.1 rfl (Nat.le_of_ble_eq_true rfl) ⟨Nat.zero_le _, Nat.zero_le _⟩ dX0_meantBy_24 (fun u_24 H locs hp_24 hS => ?_)
    obtain ⟨d1_24, fo_24⟩ := u_24
    have hS : cx_S D vwCl A s (cxW q cI cJ n T k M d1_24 (cx_u (cx_u C 4 (fun _ => co_4)) 0 fo_24) J g) H locs := hS
    have hp_24 : d1_24 ≤ 20 ∧ cx_LS (cx_fo k ((T 0)) M (cx_Ac T n) t nm pm) fo_24 d1_24 k := hp_24
    have hd_24 := hp_24.1
    refine lv_aload_n hx hb dX0_meantBy_27 rfl (lv_at hl 0 rfl) ?_
    refine cx_get (own := RX0) (index := 21) (C := RX0) (T := TX0) (N := 7) (k := 5) (ci := 0) (v := .int (nI d1_24)) hx hb hts hown hE hS hinX0 3 rfl rfl (by decide) (List.mem_of_getElem? (i := 2) rfl) rfl dX0_meantBy_28 ?_
    have J44 : ∀ (v44_s0 : Int32) (H : Heap) (locs : List Loc) (ls : Array Slot), ((cx_mt n k (T 0) (T 2) (T 3) M (cx_Ac T n) t nm pm v44_s0) ∧ (v44_s0 = -1 ∨ cx_ix v44_s0 80)) → cx_S D vwCl A s (cxW q cI cJ n T k M d1_24 (cx_u (cx_u C 4 (fun _ => co_4)) 0 fo_24) J g) H locs → lv_has ls 4 [(0, .ref (q 3)), (1, .int (nI t)), (2, .int nm), (3, .int pm)] → W p l e ({ frames := 3, cells := 0, slots := 0, locals := 74 } : Room) s m args below meth c H locs 0 0 Q (F0 m 44 ls [.int v44_s0]) := by
      intro v44_s0 H locs ls hv hS hl
      exact RET _ (co_4, d1_24, fo_24) _ _ _ _ dX0_meantBy_44 rfl hv hS
    refine lv_if_le (tgt := 43) hx hb dX0_meantBy_31 (by decide) (fun h31 => ?_) (fun h31 => ?_)
    · skip
      refine lv_iconst (v := (-1 : Int32)) hx hb dX0_meantBy_43 (by decide) ?_
      exact J44 (-1 : Int32) _ _ _ (by first | exact ⟨⟨_, hp_4.1, Or.inr ⟨h12, cx_LS.lst0 hp_24.2 (cx_npos (by omega) h31)⟩⟩, Or.inl rfl⟩ | exact ⟨⟨_, hp_4.1, Or.inr ⟨h12, cx_LS.lst hp_24.2 hk (cx_pos h31)⟩⟩, Or.inr ((hp_24.2.li hk (fun m z => z.1)).ix _ (cx_pos h31))⟩) hS (lv_sub hl [0, 1, 2, 3] rfl)
    · skip
      refine lv_aload_n hx hb dX0_meantBy_34 rfl (lv_at hl 0 rfl) ?_
      refine cx_get (own := RX0) (index := 9) (C := RX0) (T := TX0) (N := 7) (k := 2) (ci := 0) (v := .ref (q 24)) hx hb hts hown hE hS hinX0 3 rfl rfl (by decide) (List.mem_of_getElem? (i := 3) rfl) rfl dX0_meantBy_35 ?_
      refine lv_iconst (v := (0 : Int32)) hx hb dX0_meantBy_38 (by decide) ?_
      refine cx_topr (z := nI 0) (by decide) ?_
      refine cx_iald (f := fo_24) (n := 20) (cA := cI) hx hb hE hS 24 0 rfl rfl (by omega) (by decide) dX0_meantBy_39 ?_
      refine lv_goto (tgt := 44) hx hb dX0_meantBy_40 (by decide) ?_
      exact J44 (fo_24 0) _ _ _ (by first | exact ⟨⟨_, hp_4.1, Or.inr ⟨h12, cx_LS.lst0 hp_24.2 (cx_npos (by omega) h31)⟩⟩, Or.inl rfl⟩ | exact ⟨⟨_, hp_4.1, Or.inr ⟨h12, cx_LS.lst hp_24.2 hk (cx_pos h31)⟩⟩, Or.inr ((hp_24.2.li hk (fun m z => z.1)).ix _ (cx_pos h31))⟩) hS (lv_sub hl [0, 1, 2, 3] rfl)
  · skip
    refine lv_aload_n hx hb dX0_meantBy_15 rfl (lv_at hl 0 rfl) ?_
    refine cx_get (own := RX0) (index := 25) (C := RX0) (T := TX0) (N := 7) (k := 6) (ci := 0) (v := .int co_4) hx hb hts hown hE hS hinX0 3 rfl rfl (by decide) (List.mem_of_getElem? (i := 1) rfl) rfl dX0_meantBy_16 ?_
    exact RET _ (co_4, d, C 0) _ _ _ _ dX0_meantBy_19 rfl (⟨⟨_, hp_4.1, Or.inl ⟨h12, rfl⟩⟩, hp_4.2⟩) hS
set_option maxHeartbeats 4000000 in
set_option maxRecDepth 100000 in
theorem c_X0_chainUpTo (l : Launch) (D : va_G) (q : Nat → Nat) (cI cJ : ClassId) (n : Nat) (T : Nat → Nat → Int32) (k : Nat) (M : Nat → Nat → Int32) (d : Nat) (C : Nat → Nat → Int32) (J : Nat → Nat → Int32) (g : Nat → Int64) (tp : Int32) (ob : Nat) (hn : n ≤ 20) (hob : ob < n) (hP : cx_P (T 3) 20) : cx_Mi l D vwCl [(cI, .int), (cJ, .long)] cx_NW yX0_chainUpTo wsX0_chainUpTo ({ frames := 1, cells := 0, slots := 0, locals := 21 } : Room) [.ref (q 3), .int tp, .int (nI ob)] (cxW q cI cJ n T k M d C J g) (fun (r : Int32) (uw : (Nat → Int32)) => (cx_ix r 21) ∧ ((r = nI 0 ∧ ¬ cx_up n (T 3) 20 (nI ob) tp) ∨ ∃ L : Nat, (1 ≤ L ∧ L ≤ 20) ∧ r = nI L ∧ (∀ j, j < L → uw j = nI (cx_cf (T 3) ob j)) ∧ cx_vl n (T 3) ob L ∧ nI (cx_cf (T 3) ob (L - 1)) = tp)) (fun uw => (cxW q cI cJ n T k M d (cx_u C 1 uw) J g)) := by
  refine cx_Mi.of (cc := cX0_chainUpTo) (maxL := 5) cx_NW_ok (by decide) rfl (Nat.le_of_ble_eq_true rfl) ?_
  intro p e s m args below meth c Q A ls hx hb hml hown hts hE RET hS hl
  have hl : lv_has ls 5 [(0, .ref (q 3)), (1, .int tp), (2, .int (nI ob))] := hl
  have hown : s.vm.findClass RX0 = some m.cls := hown
  have hinX0 : ∀ w ∈ u_ws RX0 TX0 7, w ∈ wsX0_chainUpTo := cx_mem [10, 11, 12, 13, 14, 15, 16] (by decide +kernel)
  refine lv_iload_n hx hb dX0_chainUpTo_0 rfl (lv_at hl 2 rfl) ?_
  refine lv_istore_n (lv' := [(3, .int (nI ob)), (0, .ref (q 3)), (1, .int tp), (2, .int (nI ob))]) hx hb dX0_chainUpTo_1 rfl hl (by decide) rfl (fun ls hl => ?_)
  refine lv_iconst (v := (0 : Int32)) hx hb dX0_chainUpTo_2 (by decide) ?_
  refine cx_topr (z := nI 0) (by decide) ?_
  refine lv_istore (lv' := [(4, .int (nI 0)), (3, .int (nI ob)), (0, .ref (q 3)), (1, .int tp), (2, .int (nI ob))]) hx hb dX0_chainUpTo_3 hl (by decide) rfl (fun ls hl => ?_)
  have J5 : ∀ (N : Nat) (v5_l3 : Int32) (i5 : Nat) (C_1_5 : Nat → Int32) (H : Heap) (locs : List Loc) (ls : Array Slot), (20 - i5 < N) → (i5 ≤ 20) → (v5_l3 = -1 ∨ cx_ix v5_l3 n) → (¬ v5_l3 = -1 → v5_l3 = nI (cx_cf (T 3) ob i5) ∧ cx_vl n (T 3) ob (i5 + 1)) → (∀ j, j < i5 → C_1_5 j = nI (cx_cf (T 3) ob j)) → (cx_up n (T 3) 20 (nI ob) tp → cx_up n (T 3) (20 - i5) v5_l3 tp) → cx_S D vwCl A s (cxW q cI cJ n T k M d (cx_u C 1 C_1_5) J g) H locs → lv_has ls 5 [(0, .ref (q 3)), (1, .int tp), (2, .int (nI ob)), (3, .int v5_l3), (4, .int (nI i5))] → W p l e ({ frames := 1, cells := 0, slots := 0, locals := 21 } : Room) s m args below meth c H locs 0 0 Q (F0 m 5 ls []) := by
    intro N5
    induction N5 with
    | zero => intro v5_l3 i5 C_1_5 H locs ls hN; exact absurd hN (by omega)
    | succ N5 ih5 =>
      intro v5_l3 i5 C_1_5 H locs ls hN5 hi5 ha hv hch hup hS hl
      refine lv_iload hx hb dX0_chainUpTo_5 (lv_at hl 4 rfl) ?_
      refine lv_bipush (v := nI 20) hx hb dX0_chainUpTo_7 (by decide) ?_
      have J50 : ∀ (H : Heap) (locs : List Loc) (ls : Array Slot), (¬ cx_up n (T 3) 20 (nI ob) tp) → cx_S D vwCl A s (cxW q cI cJ n T k M d (cx_u C 1 C_1_5) J g) H locs → lv_has ls 5 [(0, .ref (q 3)), (1, .int tp), (2, .int (nI ob)), (3, .int v5_l3), (4, .int (nI i5))] → W p l e ({ frames := 1, cells := 0, slots := 0, locals := 21 } : Room) s m args below meth c H locs 0 0 Q (F0 m 50 ls []) := by
        intro  H locs ls h50 hS hl
        refine lv_iconst (v := (0 : Int32)) hx hb dX0_chainUpTo_50 (by decide) ?_
        exact RET _ (C_1_5) _ _ _ _ dX0_chainUpTo_51 rfl (⟨cx_ixI (j := 0) (by decide) (by decide), Or.inl ⟨cx_n0, h50⟩⟩) hS
      refine lv_icmp_ge (tgt := 50) hx hb dX0_chainUpTo_9 (by decide) (fun h9 => ?_) (fun h9 => ?_)
      · skip
        have g9 : 20 ≤ i5 := (nI_leI (a := 20) (b := i5) (by omega) (by omega)).mp h9
        exact J50  _ _ _ (by first | exact fun z => cx_up0 (by omega) (hup z) | exact fun z => cx_up_m1 (by have y := hup z; rw [h14] at y; exact y)) hS (lv_sub hl [0, 1, 2, 3, 4] rfl)
      · skip
        have g9 : ¬ (20 ≤ i5) := fun z => h9 ((nI_leI (a := 20) (b := i5) (by omega) (by omega)).mpr z)
        refine lv_iload_n hx hb dX0_chainUpTo_12 rfl (lv_at hl 3 rfl) ?_
        refine lv_iconst (v := (-1 : Int32)) hx hb dX0_chainUpTo_13 (by decide) ?_
        refine lv_icmp_eq (tgt := 50) hx hb dX0_chainUpTo_14 (by decide) (fun h14 => ?_) (fun h14 => ?_)
        · skip
          exact J50  _ _ _ (by first | exact fun z => cx_up0 (by omega) (hup z) | exact fun z => cx_up_m1 (by have y := hup z; rw [h14] at y; exact y)) hS (lv_sub hl [0, 1, 2, 3, 4] rfl)
        · skip
          refine lv_aload_n hx hb dX0_chainUpTo_17 rfl (lv_at hl 0 rfl) ?_
          refine cx_get (own := RX0) (index := 15) (C := RX0) (T := TX0) (N := 7) (k := 3) (ci := 0) (v := .ref (q 25)) hx hb hts hown hE hS hinX0 3 rfl rfl (by decide) (List.mem_of_getElem? (i := 1) rfl) rfl dX0_chainUpTo_18 ?_
          refine lv_iload hx hb dX0_chainUpTo_21 (lv_at hl 4 rfl) ?_
          refine lv_iload_n hx hb dX0_chainUpTo_23 rfl (lv_at hl 3 rfl) ?_
          refine cx_iast (k := i5) (f := C_1_5) (n := 20) (cA := cI) (ws' := (cxW q cI cJ n T k M d (cx_u C 1 (upd C_1_5 i5 v5_l3)) J g)) hx hb hE hS 25 0 rfl rfl (by omega) (by decide) rfl dX0_chainUpTo_24 (fun H locs hS => ?_)
          refine lv_iload_n hx hb dX0_chainUpTo_25 rfl (lv_at hl 3 rfl) ?_
          refine lv_iload_n hx hb dX0_chainUpTo_26 rfl (lv_at hl 1 rfl) ?_
          refine lv_icmp_ne (tgt := 35) hx hb dX0_chainUpTo_27 (by decide) (fun h27 => ?_) (fun h27 => ?_)
          · skip
            refine lv_aload_n hx hb dX0_chainUpTo_35 rfl (lv_at hl 0 rfl) ?_
            refine cx_get (own := RX0) (index := 28) (C := RX0) (T := TX0) (N := 7) (k := 0) (ci := 0) (v := .ref (q 1)) hx hb hts hown hE hS hinX0 3 rfl rfl (by decide) (List.mem_of_getElem? (i := 2) rfl) rfl dX0_chainUpTo_36 ?_
            refine lv_iload_n hx hb dX0_chainUpTo_39 rfl (lv_at hl 3 rfl) ?_
            refine cx_topr (z := nI (v5_l3.toNatClampNeg)) (ha.resolve_left h14).1 ?_
            refine cx_cVi (As := [.int (nI (v5_l3.toNatClampNeg))]) (rest := []) ⟨hx, hb, hml, hown, hts⟩ hE hS (c_X5_parentThere l D q cI cJ n T k M d (cx_u C 1 (upd C_1_5 i5 v5_l3)) J g v5_l3.toNatClampNeg (by first | assumption | omega | rfl) (by have := (ha.resolve_left h14).2; omega) (by first | assumption | omega | rfl)) (cwV 1 hts gX0_chainUpTo_X5_parentThere rfl rfl rfl (by decide +kernel) ⟨Nat.le_of_ble_eq_true rfl, Nat.le_of_ble_eq_true rfl⟩) 1 5 rfl rfl rfl hl.1 rfl (Nat.le_of_ble_eq_true rfl) ⟨Nat.zero_le _, Nat.zero_le _⟩ dX0_chainUpTo_40 (fun r_40 u_40 H locs hp_40 hS => ?_)
            have hp_40 : ((T 3) v5_l3.toNatClampNeg < nI n ∧ r_40 = (T 3) v5_l3.toNatClampNeg) ∨ (¬ (T 3) v5_l3.toNatClampNeg < nI n ∧ r_40 = -1) := hp_40
            refine lv_istore_n (lv' := [(3, .int r_40), (0, .ref (q 3)), (1, .int tp), (2, .int (nI ob)), (4, .int (nI i5))]) hx hb dX0_chainUpTo_43 rfl hl (by decide) rfl (fun ls hl => ?_)
            refine lv_iinc (v := nI (i5 + 1)) (lv' := [(4, .int (nI (i5 + 1))), (3, .int r_40), (0, .ref (q 3)), (1, .int tp), (2, .int (nI ob))]) hx hb dX0_chainUpTo_44 hl (k := 4) rfl (cx_inc _) (by decide) rfl (fun ls hl => ?_)
            refine lv_goto (tgt := 5) hx hb dX0_chainUpTo_47 (by decide) ?_
            exact ih5 r_40 (i5 + 1) (upd C_1_5 i5 v5_l3) _ _ _ (by omega) (by omega) (by first | exact Or.inr (cx_ixI hob (by omega)) | exact cx_ptix hn (hP _) hp_40) (by first | exact fun _ => ⟨rfl, cx_vl1 hob⟩ | exact fun z => cx_vlT hn hP (hv h14) hp_40 z) (by first | exact cx_all0 | exact cx_chS hch (hv h14).1) (by first | exact id | exact fun z => cx_upS (by omega) (hup z) h27 hp_40) hS (lv_sub hl [2, 3, 4, 1, 0] rfl)
          · skip
            refine lv_iload hx hb dX0_chainUpTo_30 (lv_at hl 4 rfl) ?_
            refine lv_iconst (v := (1 : Int32)) hx hb dX0_chainUpTo_32 (by decide) ?_
            refine lv_iadd hx hb dX0_chainUpTo_33 ?_
            refine cx_topr (z := nI (i5 + 1)) (nI_1 _) ?_
            exact RET _ (upd C_1_5 i5 v5_l3) _ _ _ _ dX0_chainUpTo_34 rfl (⟨cx_ixI (by omega) (by decide), Or.inr ⟨i5 + 1, ⟨by omega, by omega⟩, rfl, cx_chS hch (hv h14).1, (hv h14).2, (by rw [show i5 + 1 - 1 = i5 by omega]; exact (hv h14).1.symm.trans h27)⟩⟩) hS
  exact J5 (20 - 0 + 1) (nI ob) 0 (C 1) _ _ _ (Nat.lt_succ_self _) (by omega) (by first | exact Or.inr (cx_ixI hob (by omega)) | exact cx_ptix hn (hP _) hp_40) (by first | exact fun _ => ⟨rfl, cx_vl1 hob⟩ | exact fun z => cx_vlT hn hP (hv h14) hp_40 z) (by first | exact cx_all0 | exact cx_chS hch (hv h14).1) (by first | exact id | exact fun z => cx_upS (by omega) (hup z) h27 hp_40) hS (lv_sub hl [2, 3, 4, 1, 0] rfl)
set_option maxHeartbeats 4000000 in
set_option maxRecDepth 100000 in
theorem c_X0_overriderIn (l : Launch) (D : va_G) (q : Nat → Nat) (cI cJ : ClassId) (n : Nat) (T : Nat → Nat → Int32) (k : Nat) (M : Nat → Nat → Int32) (d : Nat) (C : Nat → Nat → Int32) (J : Nat → Nat → Int32) (g : Nat → Int64) (ow : Int32) (mm : Nat) (hk : k ≤ 80) (hm : mm < 80) : cx_Mi l D vwCl [(cI, .int), (cJ, .long)] cx_NW yX0_overriderIn wsX0_overriderIn ({ frames := 2, cells := 0, slots := 0, locals := 45 } : Room) [.ref (q 3), .int ow, .int (nI mm)] (cxW q cI cJ n T k M d C J g) (fun (r : Int32) (uw : Unit) => cx_Lst (cx_ovr M mm ow) k r) (fun _ => (cxW q cI cJ n T k M d C J g)) := by
  refine cx_Mi.of (cc := cX0_overriderIn) (maxL := 4) cx_NW_ok (by decide) rfl (Nat.le_of_ble_eq_true rfl) ?_
  intro p e s m args below meth c Q A ls hx hb hml hown hts hE RET hS hl
  have hl : lv_has ls 4 [(0, .ref (q 3)), (1, .int ow), (2, .int (nI mm))] := hl
  have hown : s.vm.findClass RX0 = some m.cls := hown
  have hinX0 : ∀ w ∈ u_ws RX0 TX0 7, w ∈ wsX0_overriderIn := cx_mem [18, 19, 20, 21, 22, 23, 24] (by decide +kernel)
  have hinX3 : ∀ w ∈ u_ws RX3 TX3 8, w ∈ wsX0_overriderIn := cx_mem [25, 26, 27, 28, 29, 30, 31, 32] (by decide +kernel)
  refine lv_iconst (v := (0 : Int32)) hx hb dX0_overriderIn_0 (by decide) ?_
  refine cx_topr (z := nI 0) (by decide) ?_
  refine lv_istore_n (lv' := [(3, .int (nI 0)), (0, .ref (q 3)), (1, .int ow), (2, .int (nI mm))]) hx hb dX0_overriderIn_1 rfl hl (by decide) rfl (fun ls hl => ?_)
  have J2 : ∀ (N : Nat) (i2 : Nat) (H : Heap) (locs : List Loc) (ls : Array Slot), (k - i2 < N) → (i2 ≤ k) → (∀ j, j < i2 → ¬ cx_ovr M mm ow j) → cx_S D vwCl A s (cxW q cI cJ n T k M d C J g) H locs → lv_has ls 4 [(0, .ref (q 3)), (1, .int ow), (2, .int (nI mm)), (3, .int (nI i2))] → W p l e ({ frames := 2, cells := 0, slots := 0, locals := 45 } : Room) s m args below meth c H locs 0 0 Q (F0 m 2 ls []) := by
    intro N2
    induction N2 with
    | zero => intro i2 H locs ls hN; exact absurd hN (by omega)
    | succ N2 ih2 =>
      intro i2 H locs ls hN2 hi2 hl0 hS hl
      refine lv_iload_n hx hb dX0_overriderIn_2 rfl (lv_at hl 3 rfl) ?_
      refine lv_aload_n hx hb dX0_overriderIn_3 rfl (lv_at hl 0 rfl) ?_
      refine cx_get (own := RX0) (index := 32) (C := RX0) (T := TX0) (N := 7) (k := 1) (ci := 0) (v := .ref (q 2)) hx hb hts hown hE hS hinX0 3 rfl rfl (by decide) (List.mem_of_getElem? (i := 1) rfl) rfl dX0_overriderIn_4 ?_
      refine cx_getN (own := RX0) (index := 41) (C := RX3) (T := TX3) (N := 8) (k := 7) (ci := 3) (host := "ClassRules") (v := .int (nI k)) hx hb hts hown hE hS hinX3 2 rfl rfl (by decide) (List.mem_of_getElem? (i := 29) rfl) rfl dX0_overriderIn_7 ?_
      refine lv_icmp_ge (tgt := 70) hx hb dX0_overriderIn_10 (by decide) (fun h10 => ?_) (fun h10 => ?_)
      · skip
        have g10 : k ≤ i2 := (nI_leI (a := k) (b := i2) (by omega) (by omega)).mp h10
        refine lv_iconst (v := (-1 : Int32)) hx hb dX0_overriderIn_70 (by decide) ?_
        exact RET _ () _ _ _ _ dX0_overriderIn_71 rfl (Or.inl ⟨rfl, fun j hj => hl0 j (by omega)⟩) hS
      · skip
        have g10 : ¬ (k ≤ i2) := fun z => h10 ((nI_leI (a := k) (b := i2) (by omega) (by omega)).mpr z)
        refine lv_aload_n hx hb dX0_overriderIn_13 rfl (lv_at hl 0 rfl) ?_
        refine cx_get (own := RX0) (index := 32) (C := RX0) (T := TX0) (N := 7) (k := 1) (ci := 0) (v := .ref (q 2)) hx hb hts hown hE hS hinX0 3 rfl rfl (by decide) (List.mem_of_getElem? (i := 1) rfl) rfl dX0_overriderIn_14 ?_
        refine cx_getN (own := RX0) (index := 46) (C := RX3) (T := TX3) (N := 8) (k := 1) (ci := 3) (host := "ClassRules") (v := .ref (q 18)) hx hb hts hown hE hS hinX3 2 rfl rfl (by decide) (List.mem_of_getElem? (i := 20) rfl) rfl dX0_overriderIn_17 ?_
        refine lv_iload_n hx hb dX0_overriderIn_20 rfl (lv_at hl 3 rfl) ?_
        refine cx_iald (f := (M 0)) (n := 80) (cA := cI) hx hb hE hS 18 0 rfl rfl (by omega) (by decide) dX0_overriderIn_21 ?_
        refine lv_iload_n hx hb dX0_overriderIn_22 rfl (lv_at hl 1 rfl) ?_
        have J64 : ∀ (H : Heap) (locs : List Loc) (ls : Array Slot), (¬ cx_ovr M mm ow i2) → cx_S D vwCl A s (cxW q cI cJ n T k M d C J g) H locs → lv_has ls 4 [(0, .ref (q 3)), (1, .int ow), (2, .int (nI mm)), (3, .int (nI i2))] → W p l e ({ frames := 2, cells := 0, slots := 0, locals := 45 } : Room) s m args below meth c H locs 0 0 Q (F0 m 64 ls []) := by
          intro  H locs ls hnp hS hl
          refine lv_iinc (v := nI (i2 + 1)) (lv' := [(3, .int (nI (i2 + 1))), (0, .ref (q 3)), (1, .int ow), (2, .int (nI mm))]) hx hb dX0_overriderIn_64 hl (k := 3) rfl (cx_inc _) (by decide) rfl (fun ls hl => ?_)
          refine lv_goto (tgt := 2) hx hb dX0_overriderIn_67 (by decide) ?_
          exact ih2 (i2 + 1) _ _ _ (by omega) (by omega) (by first | exact cx_all0 | exact cx_allS hl0 hnp) hS (lv_sub hl [1, 2, 3, 0] rfl)
        refine lv_icmp_ne (tgt := 64) hx hb dX0_overriderIn_23 (by decide) (fun h23 => ?_) (fun h23 => ?_)
        · skip
          exact J64  _ _ _ (by first | exact fun z => h23 z.1 | exact fun z => g35 z.2.1 | exact fun z => z.2.2.1 g47 | exact fun z => z.2.2.2 h59) hS (lv_sub hl [0, 1, 2, 3] rfl)
        · skip
          refine lv_aload_n hx hb dX0_overriderIn_26 rfl (lv_at hl 0 rfl) ?_
          refine cx_get (own := RX0) (index := 32) (C := RX0) (T := TX0) (N := 7) (k := 1) (ci := 0) (v := .ref (q 2)) hx hb hts hown hE hS hinX0 3 rfl rfl (by decide) (List.mem_of_getElem? (i := 1) rfl) rfl dX0_overriderIn_27 ?_
          refine lv_iload_n hx hb dX0_overriderIn_30 rfl (lv_at hl 3 rfl) ?_
          refine lv_iload_n hx hb dX0_overriderIn_31 rfl (lv_at hl 2 rfl) ?_
          refine cx_cVi (As := [.int (nI i2), .int (nI mm)]) (rest := []) ⟨hx, hb, hml, hown, hts⟩ hE hS (c_X3_alike l D q cI cJ n T k M d C J g i2 mm (by first | assumption | omega | rfl) (by first | assumption | omega | rfl)) (cwV 2 hts gX0_overriderIn_X3_alike rfl rfl rfl (by decide +kernel) ⟨Nat.le_of_ble_eq_true rfl, Nat.le_of_ble_eq_true rfl⟩) 2 3 rfl rfl rfl hl.1 rfl (Nat.le_of_ble_eq_true rfl) ⟨Nat.zero_le _, Nat.zero_le _⟩ dX0_overriderIn_32 (fun r_32 u_32 H locs hp_32 hS => ?_)
          have hp_32 : (r_32 = 0 ∨ r_32 = 1) ∧ (¬ r_32 = 0 ↔ cx_lk M i2 mm) := hp_32
          refine lv_if_eq (tgt := 64) hx hb dX0_overriderIn_35 (by decide) (fun h35 => ?_) (fun h35 => ?_)
          · skip
            have g35 : ¬ (cx_lk M i2 mm) := fun z => hp_32.2.mpr z h35
            exact J64  _ _ _ (by first | exact fun z => h23 z.1 | exact fun z => g35 z.2.1 | exact fun z => z.2.2.1 g47 | exact fun z => z.2.2.2 h59) hS (lv_sub hl [0, 1, 2, 3] rfl)
          · skip
            have g35 : cx_lk M i2 mm := hp_32.2.mp h35
            refine lv_aload_n hx hb dX0_overriderIn_38 rfl (lv_at hl 0 rfl) ?_
            refine cx_get (own := RX0) (index := 32) (C := RX0) (T := TX0) (N := 7) (k := 1) (ci := 0) (v := .ref (q 2)) hx hb hts hown hE hS hinX0 3 rfl rfl (by decide) (List.mem_of_getElem? (i := 1) rfl) rfl dX0_overriderIn_39 ?_
            refine lv_iload_n hx hb dX0_overriderIn_42 rfl (lv_at hl 3 rfl) ?_
            refine lv_iconst (v := nI 4) hx hb dX0_overriderIn_43 (by decide) ?_
            refine cx_cVi (As := [.int (nI i2), .int (nI 4)]) (rest := []) ⟨hx, hb, hml, hown, hts⟩ hE hS (c_X3_marked l D q cI cJ n T k M d C J g i2 (nI 4) (by first | assumption | omega | rfl)) (cwV 2 hts gX0_overriderIn_X3_marked rfl rfl rfl (by decide +kernel) ⟨Nat.le_of_ble_eq_true rfl, Nat.le_of_ble_eq_true rfl⟩) 2 3 rfl rfl rfl hl.1 rfl (Nat.le_of_ble_eq_true rfl) ⟨Nat.zero_le _, Nat.zero_le _⟩ dX0_overriderIn_44 (fun r_44 u_44 H locs hp_44 hS => ?_)
            have hp_44 : (r_44 = 0 ∨ r_44 = 1) ∧ (¬ r_44 = 0 ↔ cx_mk ((M 3)) i2 (nI 4)) := hp_44
            refine lv_if_ne (tgt := 64) hx hb dX0_overriderIn_47 (by decide) (fun h47 => ?_) (fun h47 => ?_)
            · skip
              have g47 : cx_mk ((M 3)) i2 (nI 4) := hp_44.2.mp h47
              exact J64  _ _ _ (by first | exact fun z => h23 z.1 | exact fun z => g35 z.2.1 | exact fun z => z.2.2.1 g47 | exact fun z => z.2.2.2 h59) hS (lv_sub hl [0, 1, 2, 3] rfl)
            · skip
              have g47 : ¬ (cx_mk ((M 3)) i2 (nI 4)) := fun z => hp_44.2.mpr z h47
              refine lv_aload_n hx hb dX0_overriderIn_50 rfl (lv_at hl 0 rfl) ?_
              refine cx_get (own := RX0) (index := 32) (C := RX0) (T := TX0) (N := 7) (k := 1) (ci := 0) (v := .ref (q 2)) hx hb hts hown hE hS hinX0 3 rfl rfl (by decide) (List.mem_of_getElem? (i := 1) rfl) rfl dX0_overriderIn_51 ?_
              refine cx_getN (own := RX0) (index := 84) (C := RX3) (T := TX3) (N := 8) (k := 5) (ci := 3) (host := "ClassRules") (v := .ref (q 22)) hx hb hts hown hE hS hinX3 2 rfl rfl (by decide) (List.mem_of_getElem? (i := 26) rfl) rfl dX0_overriderIn_54 ?_
              refine lv_iload_n hx hb dX0_overriderIn_57 rfl (lv_at hl 3 rfl) ?_
              refine cx_iald (f := (M 4)) (n := 80) (cA := cI) hx hb hE hS 22 0 rfl rfl (by omega) (by decide) dX0_overriderIn_58 ?_
              refine lv_if_eq (tgt := 64) hx hb dX0_overriderIn_59 (by decide) (fun h59 => ?_) (fun h59 => ?_)
              · skip
                exact J64  _ _ _ (by first | exact fun z => h23 z.1 | exact fun z => g35 z.2.1 | exact fun z => z.2.2.1 g47 | exact fun z => z.2.2.2 h59) hS (lv_sub hl [0, 1, 2, 3] rfl)
              · skip
                refine lv_iload_n hx hb dX0_overriderIn_62 rfl (lv_at hl 3 rfl) ?_
                exact RET _ () _ _ _ _ dX0_overriderIn_63 rfl (Or.inr ⟨i2, by omega, ⟨h23, g35, g47, h59⟩, hl0, rfl⟩) hS
  exact J2 (k - 0 + 1) 0 _ _ _ (Nat.lt_succ_self _) (by omega) (by first | exact cx_all0 | exact cx_allS hl0 hnp) hS (lv_sub hl [1, 2, 3, 0] rfl)
set_option maxHeartbeats 4000000 in
set_option maxRecDepth 100000 in
theorem c_X0_takesPlace (l : Launch) (D : va_G) (q : Nat → Nat) (cI cJ : ClassId) (n : Nat) (T : Nat → Nat → Int32) (k : Nat) (M : Nat → Nat → Int32) (d : Nat) (C : Nat → Nat → Int32) (J : Nat → Nat → Int32) (g : Nat → Int64) (mm : Nat) (fd : Nat) (hm : mm < 80) (hfd : fd ≤ 20) (htk : ∀ j, j < fd → cx_ix ((C 2) j) 80) (hO : cx_R (M 0) 20) : cx_Mi l D vwCl [(cI, .int), (cJ, .long)] cx_NW yX0_takesPlace wsX0_takesPlace ({ frames := 1, cells := 0, slots := 0, locals := 22 } : Room) [.ref (q 3), .int (nI mm), .int (nI fd)] (cxW q cI cJ n T k M d C J g) (fun (r : Int32) (uw : Unit) => (r = 0 ∨ r = 1) ∧ (¬ r = 0 ↔ ∃ j, j < fd ∧ cx_se (T 2) M ((C 2) j).toNatClampNeg (cx_ow M mm))) (fun _ => (cxW q cI cJ n T k M d C J g)) := by
  refine cx_Mi.of (cc := cX0_takesPlace) (maxL := 4) cx_NW_ok (by decide) rfl (Nat.le_of_ble_eq_true rfl) ?_
  intro p e s m args below meth c Q A ls hx hb hml hown hts hE RET hS hl
  have hl : lv_has ls 4 [(0, .ref (q 3)), (1, .int (nI mm)), (2, .int (nI fd))] := hl
  have hown : s.vm.findClass RX0 = some m.cls := hown
  have hinX0 : ∀ w ∈ u_ws RX0 TX0 7, w ∈ wsX0_takesPlace := cx_mem [11, 12, 13, 14, 15, 16, 17] (by decide +kernel)
  have hinX3 : ∀ w ∈ u_ws RX3 TX3 8, w ∈ wsX0_takesPlace := cx_mem [18, 19, 20, 21, 22, 23, 24, 25] (by decide +kernel)
  refine lv_iconst (v := (0 : Int32)) hx hb dX0_takesPlace_0 (by decide) ?_
  refine cx_topr (z := nI 0) (by decide) ?_
  refine lv_istore_n (lv' := [(3, .int (nI 0)), (0, .ref (q 3)), (1, .int (nI mm)), (2, .int (nI fd))]) hx hb dX0_takesPlace_1 rfl hl (by decide) rfl (fun ls hl => ?_)
  have J2 : ∀ (N : Nat) (i2 : Nat) (H : Heap) (locs : List Loc) (ls : Array Slot), (fd - i2 < N) → (i2 ≤ fd) → (∀ j, j < i2 → ¬ cx_se (T 2) M ((C 2) j).toNatClampNeg (cx_ow M mm)) → cx_S D vwCl A s (cxW q cI cJ n T k M d C J g) H locs → lv_has ls 4 [(0, .ref (q 3)), (1, .int (nI mm)), (2, .int (nI fd)), (3, .int (nI i2))] → W p l e ({ frames := 1, cells := 0, slots := 0, locals := 22 } : Room) s m args below meth c H locs 0 0 Q (F0 m 2 ls []) := by
    intro N2
    induction N2 with
    | zero => intro i2 H locs ls hN; exact absurd hN (by omega)
    | succ N2 ih2 =>
      intro i2 H locs ls hN2 hi2 hno hS hl
      refine lv_iload_n hx hb dX0_takesPlace_2 rfl (lv_at hl 3 rfl) ?_
      refine lv_iload_n hx hb dX0_takesPlace_3 rfl (lv_at hl 2 rfl) ?_
      refine lv_icmp_ge (tgt := 40) hx hb dX0_takesPlace_4 (by decide) (fun h4 => ?_) (fun h4 => ?_)
      · skip
        have g4 : fd ≤ i2 := (nI_leI (a := fd) (b := i2) (by omega) (by omega)).mp h4
        refine lv_iconst (v := (0 : Int32)) hx hb dX0_takesPlace_40 (by decide) ?_
        exact RET _ () _ _ _ _ dX0_takesPlace_41 rfl (cx_e0 (fun ⟨j, hj, z⟩ => hno j (by omega) z)) hS
      · skip
        have g4 : ¬ (fd ≤ i2) := fun z => h4 ((nI_leI (a := fd) (b := i2) (by omega) (by omega)).mpr z)
        refine lv_aload_n hx hb dX0_takesPlace_7 rfl (lv_at hl 0 rfl) ?_
        refine cx_get (own := RX0) (index := 32) (C := RX0) (T := TX0) (N := 7) (k := 1) (ci := 0) (v := .ref (q 2)) hx hb hts hown hE hS hinX0 3 rfl rfl (by decide) (List.mem_of_getElem? (i := 1) rfl) rfl dX0_takesPlace_8 ?_
        refine lv_aload_n hx hb dX0_takesPlace_11 rfl (lv_at hl 0 rfl) ?_
        refine cx_get (own := RX0) (index := 18) (C := RX0) (T := TX0) (N := 7) (k := 4) (ci := 0) (v := .ref (q 26)) hx hb hts hown hE hS hinX0 3 rfl rfl (by decide) (List.mem_of_getElem? (i := 2) rfl) rfl dX0_takesPlace_12 ?_
        refine lv_iload_n hx hb dX0_takesPlace_15 rfl (lv_at hl 3 rfl) ?_
        refine cx_iald (f := (C 2)) (n := 20) (cA := cI) hx hb hE hS 26 0 rfl rfl (by omega) (by decide) dX0_takesPlace_16 ?_
        refine cx_topr (z := nI (((C 2) i2).toNatClampNeg)) (htk _ (by omega)).1 ?_
        refine lv_aload_n hx hb dX0_takesPlace_17 rfl (lv_at hl 0 rfl) ?_
        refine cx_get (own := RX0) (index := 32) (C := RX0) (T := TX0) (N := 7) (k := 1) (ci := 0) (v := .ref (q 2)) hx hb hts hown hE hS hinX0 3 rfl rfl (by decide) (List.mem_of_getElem? (i := 1) rfl) rfl dX0_takesPlace_18 ?_
        refine cx_getN (own := RX0) (index := 46) (C := RX3) (T := TX3) (N := 8) (k := 1) (ci := 3) (host := "ClassRules") (v := .ref (q 18)) hx hb hts hown hE hS hinX3 2 rfl rfl (by decide) (List.mem_of_getElem? (i := 20) rfl) rfl dX0_takesPlace_21 ?_
        refine lv_iload_n hx hb dX0_takesPlace_24 rfl (lv_at hl 1 rfl) ?_
        refine cx_iald (f := (M 0)) (n := 80) (cA := cI) hx hb hE hS 18 0 rfl rfl (by omega) (by decide) dX0_takesPlace_25 ?_
        have ho25 := (hO mm).2
        refine cx_topr (z := nI (((M 0) mm).toNatClampNeg)) (hO mm).1 ?_
        refine cx_cVi (As := [.int (nI (((C 2) i2).toNatClampNeg)), .int (nI (((M 0) mm).toNatClampNeg))]) (rest := []) ⟨hx, hb, hml, hown, hts⟩ hE hS (c_X3_seenFrom l D q cI cJ n T k M d C J g (((C 2) i2).toNatClampNeg) (((M 0) mm).toNatClampNeg) ((htk _ (by omega)).2) (by first | assumption | omega | rfl) (by first | assumption | omega | rfl)) (cwV 2 hts gX0_takesPlace_X3_seenFrom rfl rfl rfl (by decide +kernel) ⟨Nat.le_of_ble_eq_true rfl, Nat.le_of_ble_eq_true rfl⟩) 2 3 rfl rfl rfl hl.1 rfl (Nat.le_of_ble_eq_true rfl) ⟨Nat.zero_le _, Nat.zero_le _⟩ dX0_takesPlace_26 (fun r_26 u_26 H locs hp_26 hS => ?_)
        have hp_26 : (r_26 = 0 ∨ r_26 = 1) ∧ (¬ r_26 = 0 ↔ cx_se ((T 2)) M (((C 2) i2).toNatClampNeg) (((M 0) mm).toNatClampNeg)) := hp_26
        refine lv_if_eq (tgt := 34) hx hb dX0_takesPlace_29 (by decide) (fun h29 => ?_) (fun h29 => ?_)
        · skip
          have g29 : ¬ (cx_se ((T 2)) M (((C 2) i2).toNatClampNeg) (((M 0) mm).toNatClampNeg)) := fun z => hp_26.2.mpr z h29
          refine lv_iinc (v := nI (i2 + 1)) (lv' := [(3, .int (nI (i2 + 1))), (0, .ref (q 3)), (1, .int (nI mm)), (2, .int (nI fd))]) hx hb dX0_takesPlace_34 hl (k := 3) rfl (cx_inc _) (by decide) rfl (fun ls hl => ?_)
          refine lv_goto (tgt := 2) hx hb dX0_takesPlace_37 (by decide) ?_
          exact ih2 (i2 + 1) _ _ _ (by omega) (by omega) (by first | exact cx_all0 | exact cx_allS (P := fun j => cx_se (T 2) M ((C 2) j).toNatClampNeg (cx_ow M mm)) hno g29) hS (lv_sub hl [1, 2, 3, 0] rfl)
        · skip
          have g29 : cx_se ((T 2)) M (((C 2) i2).toNatClampNeg) (((M 0) mm).toNatClampNeg) := hp_26.2.mp h29
          refine lv_iconst (v := (1 : Int32)) hx hb dX0_takesPlace_32 (by decide) ?_
          exact RET _ () _ _ _ _ dX0_takesPlace_33 rfl (cx_e1 ⟨i2, by omega, g29⟩) hS
  exact J2 (fd - 0 + 1) 0 _ _ _ (Nat.lt_succ_self _) (by omega) (by first | exact cx_all0 | exact cx_allS (P := fun j => cx_se (T 2) M ((C 2) j).toNatClampNeg (cx_ow M mm)) hno g29) hS (lv_sub hl [1, 2, 3, 0] rfl)
set_option maxHeartbeats 4000000 in
set_option maxRecDepth 100000 in
theorem c_X0_inPlaceOf (l : Launch) (D : va_G) (q : Nat → Nat) (cI cJ : ClassId) (n : Nat) (T : Nat → Nat → Int32) (k : Nat) (M : Nat → Nat → Int32) (d : Nat) (C : Nat → Nat → Int32) (J : Nat → Nat → Int32) (g : Nat → Int64) (mm : Nat) (ob : Nat) (hn : n ≤ 20) (hk : k ≤ 80) (hm : mm < k) (hob : ob < n) (hO : cx_R (M 0) 20) (hP : cx_P (T 3) 20) (hAX : cx_AX n (T 3) (cx_Uc T) (cx_Ac T n)) (hGD : cx_GD n k (T 0) (T 3) M (cx_Uc T) (cx_Ac T n) ob) (hmo : cx_mo n k (T 0) M (cx_Ac T n) ob mm) : cx_Mi l D vwCl [(cI, .int), (cJ, .long)] cx_NW yX0_inPlaceOf wsX0_inPlaceOf ({ frames := 3, cells := 0, slots := 0, locals := 68 } : Room) [.ref (q 3), .int (nI mm), .int (nI ob)] (cxW q cI cJ n T k M d C J g) (fun (r : Int32) (uw : (Nat → Int32) × (Nat → Int32)) => (cx_one n k (T 3) (cx_tq k (T 0) (T 2) M (cx_Ac T n) mm) 20 (nI ob) r) ∧ (cx_ix r 80)) (fun uw => (cxW q cI cJ n T k M d (cx_u (cx_u C 1 uw.1) 2 uw.2) J g)) := by
  refine cx_Mi.of (cc := cX0_inPlaceOf) (maxL := 7) cx_NW_ok (by decide) rfl (Nat.le_of_ble_eq_true rfl) ?_
  intro p e s m args below meth c Q A ls hx hb hml hown hts hE RET hS hl
  have hl : lv_has ls 7 [(0, .ref (q 3)), (1, .int (nI mm)), (2, .int (nI ob))] := hl
  have hown : s.vm.findClass RX0 = some m.cls := hown
  have hinX0 : ∀ w ∈ u_ws RX0 TX0 7, w ∈ wsX0_inPlaceOf := cx_mem [48, 49, 50, 51, 52, 53, 54] (by decide +kernel)
  have hinX3 : ∀ w ∈ u_ws RX3 TX3 8, w ∈ wsX0_inPlaceOf := cx_mem [55, 56, 57, 58, 59, 60, 61, 62] (by decide +kernel)
  refine lv_aload_n hx hb dX0_inPlaceOf_0 rfl (lv_at hl 0 rfl) ?_
  refine lv_aload_n hx hb dX0_inPlaceOf_1 rfl (lv_at hl 0 rfl) ?_
  refine cx_get (own := RX0) (index := 32) (C := RX0) (T := TX0) (N := 7) (k := 1) (ci := 0) (v := .ref (q 2)) hx hb hts hown hE hS hinX0 3 rfl rfl (by decide) (List.mem_of_getElem? (i := 1) rfl) rfl dX0_inPlaceOf_2 ?_
  refine cx_getN (own := RX0) (index := 46) (C := RX3) (T := TX3) (N := 8) (k := 1) (ci := 3) (host := "ClassRules") (v := .ref (q 18)) hx hb hts hown hE hS hinX3 2 rfl rfl (by decide) (List.mem_of_getElem? (i := 20) rfl) rfl dX0_inPlaceOf_5 ?_
  refine lv_iload_n hx hb dX0_inPlaceOf_8 rfl (lv_at hl 1 rfl) ?_
  refine cx_iald (f := (M 0)) (n := 80) (cA := cI) hx hb hE hS 18 0 rfl rfl (by omega) (by decide) dX0_inPlaceOf_9 ?_
  refine lv_iload_n hx hb dX0_inPlaceOf_10 rfl (lv_at hl 2 rfl) ?_
  refine cx_cVi (As := [.int ((M 0) mm), .int (nI ob)]) (rest := []) ⟨hx, hb, hml, hown, hts⟩ hE hS (c_X0_chainUpTo l D q cI cJ n T k M d C J g ((M 0) mm) ob (by first | assumption | omega | rfl) (by first | assumption | omega | rfl) (by first | assumption | omega | rfl)) (cwV 2 hts gX0_inPlaceOf_X0_chainUpTo rfl rfl rfl (by decide +kernel) ⟨Nat.le_of_ble_eq_true rfl, Nat.le_of_ble_eq_true rfl⟩) 3 0 rfl rfl rfl hl.1 rfl (Nat.le_of_ble_eq_true rfl) ⟨Nat.zero_le _, Nat.zero_le _⟩ dX0_inPlaceOf_11 (fun r_11 u_11 H locs hp_11 hS => ?_)
  obtain ⟨ch_11, rfl⟩ : ∃ z, z = u_11 := ⟨_, rfl⟩
  have hS : cx_S D vwCl A s (cxW q cI cJ n T k M d (cx_u C 1 ch_11) J g) H locs := hS
  have hp_11 : (cx_ix r_11 21) ∧ ((r_11 = nI 0 ∧ ¬ cx_up n ((T 3)) 20 (nI ob) ((M 0) mm)) ∨ ∃ L : Nat, (1 ≤ L ∧ L ≤ 20) ∧ r_11 = nI L ∧ (∀ j, j < L → ch_11 j = nI (cx_cf ((T 3)) ob j)) ∧ cx_vl n ((T 3)) ob L ∧ nI (cx_cf ((T 3)) ob (L - 1)) = ((M 0) mm)) := hp_11
  obtain ⟨L, ⟨hL1, hL20⟩, hrL, hch, hvl, htp⟩ := hp_11.2.resolve_left (fun z => z.2 (by rw [(hO mm).1]; exact cx_met hAX hn hGD hob hmo.2.2 hmo.2.1.2.2))
  have ht : cx_ow M mm = cx_cf (T 3) ob (L - 1) := cx_owt (by have := (hvl (L - 1) (by omega)).1; omega) htp
  have hw0 := cx_rL hL20 hrL
  clear hp_11
  refine lv_istore_n (lv' := [(3, .int r_11), (0, .ref (q 3)), (1, .int (nI mm)), (2, .int (nI ob))]) hx hb dX0_inPlaceOf_14 rfl hl (by decide) rfl (fun ls hl => ?_)
  refine lv_aload_n hx hb dX0_inPlaceOf_15 rfl (lv_at hl 1 rfl) ?_
  refine cx_get (own := RX0) (index := 18) (C := RX0) (T := TX0) (N := 7) (k := 4) (ci := 0) (v := .ref (q 26)) hx hb hts hown hE hS hinX0 3 rfl rfl (by decide) (List.mem_of_getElem? (i := 2) rfl) rfl dX0_inPlaceOf_16 ?_
  refine lv_iconst (v := (0 : Int32)) hx hb dX0_inPlaceOf_19 (by decide) ?_
  refine lv_iload_n hx hb dX0_inPlaceOf_20 rfl (lv_at hl 2 rfl) ?_
  refine cx_iast (k := 0) (f := (C 2)) (n := 20) (cA := cI) (ws' := (cxW q cI cJ n T k M d (cx_u (cx_u C 1 ch_11) 2 (upd (C 2) 0 (nI mm))) J g)) hx hb hE hS 26 0 rfl rfl (by omega) (by decide) rfl dX0_inPlaceOf_21 (fun H locs hS => ?_)
  refine lv_iconst (v := (1 : Int32)) hx hb dX0_inPlaceOf_22 (by decide) ?_
  refine cx_topr (z := nI 1) (by decide) ?_
  refine lv_istore (lv' := [(4, .int (nI 1)), (3, .int r_11), (0, .ref (q 3)), (1, .int (nI mm)), (2, .int (nI ob))]) hx hb dX0_inPlaceOf_23 hl (by decide) rfl (fun ls hl => ?_)
  refine lv_iload_n hx hb dX0_inPlaceOf_25 rfl (lv_at hl 1 rfl) ?_
  refine lv_iconst (v := nI 2) hx hb dX0_inPlaceOf_26 (by decide) ?_
  refine lv_isub hx hb dX0_inPlaceOf_27 ?_
  refine lv_istore (lv' := [(5, .int (r_11 - (nI 2))), (4, .int (nI 1)), (3, .int r_11), (0, .ref (q 3)), (1, .int (nI mm)), (2, .int (nI ob))]) hx hb dX0_inPlaceOf_28 hl (by decide) rfl (fun ls hl => ?_)
  have J30 : ∀ (N : Nat) (fd : Nat) (w5 : Int32) (C_2_30 : Nat → Int32) (H : Heap) (locs : List Loc) (ls : Array Slot), ((w5.toInt + 3).toNat < N) → (1 ≤ fd) → (fd ≤ 20) → (-1 ≤ w5.toInt) → (w5.toInt + 2 ≤ (L : Int)) → ((fd : Int) + w5.toInt + 1 ≤ 20) → (∀ j, j < fd → cx_ix (C_2_30 j) 80) → (cx_IV k (T 0) (T 2) (T 3) M (cx_Ac T n) mm ob L (w5.toInt + 1).toNat fd C_2_30) → cx_S D vwCl A s (cxW q cI cJ n T k M d (cx_u (cx_u C 1 ch_11) 2 C_2_30) J g) H locs → lv_has ls 7 [(0, .ref (q 3)), (1, .int (nI mm)), (2, .int (nI ob)), (3, .int r_11), (4, .int (nI fd)), (5, .int w5)] → W p l e ({ frames := 3, cells := 0, slots := 0, locals := 68 } : Room) s m args below meth c H locs 0 0 Q (F0 m 30 ls []) := by
    intro N30
    induction N30 with
    | zero => intro fd w5 C_2_30 H locs ls hN; exact absurd hN (by omega)
    | succ N30 ih30 =>
      intro fd w5 C_2_30 H locs ls hN30 hf1 hf20 hw hwL hs htk hIV hS hl
      refine lv_iload hx hb dX0_inPlaceOf_30 (lv_at hl 5 rfl) ?_
      refine lv_if_lt (tgt := 84) hx hb dX0_inPlaceOf_32 (by decide) (fun h32 => ?_) (fun h32 => ?_)
      · skip
        refine lv_aload_n hx hb dX0_inPlaceOf_84 rfl (lv_at hl 0 rfl) ?_
        refine cx_get (own := RX0) (index := 18) (C := RX0) (T := TX0) (N := 7) (k := 4) (ci := 0) (v := .ref (q 26)) hx hb hts hown hE hS hinX0 3 rfl rfl (by decide) (List.mem_of_getElem? (i := 2) rfl) rfl dX0_inPlaceOf_85 ?_
        refine lv_iload hx hb dX0_inPlaceOf_88 (lv_at hl 4 rfl) ?_
        refine lv_iconst (v := (1 : Int32)) hx hb dX0_inPlaceOf_90 (by decide) ?_
        refine lv_isub hx hb dX0_inPlaceOf_91 ?_
        refine cx_topr (z := nI (fd - 1)) (cx_sub1 hf1) ?_
        refine cx_iald (f := C_2_30) (n := 20) (cA := cI) hx hb hE hS 26 0 rfl rfl (by omega) (by decide) dX0_inPlaceOf_92 ?_
        exact RET _ (ch_11, C_2_30) _ _ _ _ dX0_inPlaceOf_93 rfl (⟨cx_IVe hAX hn hk hGD hmo hL20 hvl (by rw [show (w5.toInt + 1).toNat = 0 by have := cx_ltz h32; omega] at hIV; exact hIV), htk _ (by omega)⟩) hS
      · skip
        have hwn := cx_toN h32
        have hqL : w5.toNatClampNeg + 1 < L := by omega
        rw [show (w5.toInt + 1).toNat = w5.toNatClampNeg + 1 by omega] at hIV
        refine lv_aload_n hx hb dX0_inPlaceOf_35 rfl (lv_at hl 0 rfl) ?_
        refine lv_aload_n hx hb dX0_inPlaceOf_36 rfl (lv_at hl 0 rfl) ?_
        refine cx_get (own := RX0) (index := 15) (C := RX0) (T := TX0) (N := 7) (k := 3) (ci := 0) (v := .ref (q 25)) hx hb hts hown hE hS hinX0 3 rfl rfl (by decide) (List.mem_of_getElem? (i := 3) rfl) rfl dX0_inPlaceOf_37 ?_
        refine lv_iload hx hb dX0_inPlaceOf_40 (lv_at hl 5 rfl) ?_
        refine cx_topr (z := nI (w5.toNatClampNeg)) (cx_nn h32) ?_
        refine cx_iald (f := ch_11) (n := 20) (cA := cI) hx hb hE hS 25 0 rfl rfl (cx_nnb h32 (by omega)) (by decide) dX0_inPlaceOf_42 ?_
        refine lv_iload_n hx hb dX0_inPlaceOf_43 rfl (lv_at hl 1 rfl) ?_
        refine cx_cVi (As := [.int (ch_11 w5.toNatClampNeg), .int (nI mm)]) (rest := []) ⟨hx, hb, hml, hown, hts⟩ hE hS (c_X0_overriderIn l D q cI cJ n T k M d (cx_u (cx_u C 1 ch_11) 2 C_2_30) J g (ch_11 w5.toNatClampNeg) mm (by first | assumption | omega | rfl) (by omega)) (cwV 2 hts gX0_inPlaceOf_X0_overriderIn rfl rfl rfl (by decide +kernel) ⟨Nat.le_of_ble_eq_true rfl, Nat.le_of_ble_eq_true rfl⟩) 3 0 rfl rfl rfl hl.1 rfl (Nat.le_of_ble_eq_true rfl) ⟨Nat.zero_le _, Nat.zero_le _⟩ dX0_inPlaceOf_44 (fun r_44 u_44 H locs hp_44 hS => ?_)
        have hp_44 : cx_Lst (cx_ovr M mm (ch_11 w5.toNatClampNeg)) k r_44 := hp_44
        rw [hch _ (by omega)] at hp_44
        have hx44 := cx_Lst.ix hp_44 hk
        refine lv_istore (lv' := [(6, .int r_44), (0, .ref (q 3)), (1, .int (nI mm)), (2, .int (nI ob)), (3, .int r_11), (4, .int (nI fd)), (5, .int w5)]) hx hb dX0_inPlaceOf_47 hl (by decide) rfl (fun ls hl => ?_)
        refine lv_iload hx hb dX0_inPlaceOf_49 (lv_at hl 0 rfl) ?_
        refine lv_iconst (v := (-1 : Int32)) hx hb dX0_inPlaceOf_51 (by decide) ?_
        have J78 : ∀ (fe : Nat) (C_2_78 : Nat → Int32) (H : Heap) (locs : List Loc) (ls : Array Slot), (1 ≤ fe) → (fe ≤ 20) → ((fe : Int) + w5.toInt ≤ 20) → (∀ j, j < fe → cx_ix (C_2_78 j) 80) → (cx_IV k (T 0) (T 2) (T 3) M (cx_Ac T n) mm ob L (w5.toNatClampNeg) fe C_2_78) → cx_S D vwCl A s (cxW q cI cJ n T k M d (cx_u (cx_u C 1 ch_11) 2 C_2_78) J g) H locs → lv_has ls 7 [(0, .ref (q 3)), (1, .int (nI mm)), (2, .int (nI ob)), (3, .int r_11), (4, .int (nI fe)), (5, .int w5), (6, .int r_44)] → W p l e ({ frames := 3, cells := 0, slots := 0, locals := 68 } : Room) s m args below meth c H locs 0 0 Q (F0 m 78 ls []) := by
          intro fe C_2_78 H locs ls hf2 hf3 hs2 htk2 hIV2 hS hl
          obtain ⟨w6, ew6⟩ : ∃ z : Int32, z = w5 + Int32.ofInt (-1) := ⟨_, rfl⟩
          have hw6 := cx_dec h32
          rw [← ew6] at hw6
          refine lv_iinc (v := w6) (lv' := [(5, .int w6), (0, .ref (q 3)), (1, .int (nI mm)), (2, .int (nI ob)), (3, .int r_11), (4, .int (nI fe)), (6, .int r_44)]) hx hb dX0_inPlaceOf_78 hl (k := 5) rfl ew6.symm (by decide) rfl (fun ls hl => ?_)
          refine lv_goto (tgt := 30) hx hb dX0_inPlaceOf_81 (by decide) ?_
          exact ih30 fe w6 C_2_78 _ _ _ (by (try clear hIV); (try clear hIV2); have := cx_ge0 h32; omega) (by (try clear hp_60); (try clear hp_11); omega) (by (try clear hp_60); (try clear hp_11); omega) (by first | (have := cx_ge0 h32; omega) | (rw [hw0]; omega)) (by first | omega | (rw [hw0]; omega)) (by first | (have := cx_ge0 h32; omega) | (rw [hw0]; omega)) (by first | assumption | exact cx_tkS (d := 0) (fun j hj => absurd hj (by omega)) (cx_ixI (by omega) (by decide))) (by first | (rw [show (w6.toInt + 1).toNat = w5.toNatClampNeg by omega]; exact hIV2) | (rw [show (((r_11 - nI 2).toInt) + 1).toNat = L - 1 by rw [hw0]; omega]; exact cx_IV0 hAX hn hGD hmo hL1 hvl ht cx_updS)) hS (lv_sub hl [1, 2, 3, 4, 5, 0] rfl)
        refine lv_icmp_eq (tgt := 78) hx hb dX0_inPlaceOf_52 (by decide) (fun h52 => ?_) (fun h52 => ?_)
        · skip
          exact J78 fd C_2_30 _ _ _ (by (try clear hp_60); (try clear hp_11); omega) (by have := cx_ge0 h32; omega) (by (try clear hp_60); (try clear hp_11); omega) (by first | assumption | exact cx_tkS htk (hx44.resolve_left h52)) (by first | exact cx_IV1 hAX hn hO hGD hmo hL1 hvl ht hqL hIV hp_44 h52 hk | exact cx_IV2 hAX hn hO hGD hmo hL1 hvl ht hqL hIV hp_44 hk g63 h52 | exact cx_IV3 hAX hn hO hGD hmo hL1 hvl ht hqL hIV hp_44 hk g63 h52) hS (lv_sub hl [1, 2, 3, 4, 5, 6, 0] rfl)
        · skip
          refine lv_aload_n hx hb dX0_inPlaceOf_55 rfl (lv_at hl 1 rfl) ?_
          refine lv_iload hx hb dX0_inPlaceOf_56 (lv_at hl 0 rfl) ?_
          refine cx_topr (z := nI (r_44.toNatClampNeg)) (hx44.resolve_left h52).1 ?_
          refine lv_iload hx hb dX0_inPlaceOf_58 (lv_at hl 5 rfl) ?_
          refine cx_cVi (As := [.int (nI (r_44.toNatClampNeg)), .int (nI fd)]) (rest := []) ⟨hx, hb, hml, hown, hts⟩ hE hS (c_X0_takesPlace l D q cI cJ n T k M d (cx_u (cx_u C 1 ch_11) 2 C_2_30) J g r_44.toNatClampNeg fd ((hx44.resolve_left h52).2) (by have := cx_ge0 h32; omega) (by first | assumption | omega | rfl) (by first | assumption | omega | rfl)) (cwV 2 hts gX0_inPlaceOf_X0_takesPlace rfl rfl rfl (by decide +kernel) ⟨Nat.le_of_ble_eq_true rfl, Nat.le_of_ble_eq_true rfl⟩) 3 0 rfl rfl rfl hl.1 rfl (Nat.le_of_ble_eq_true rfl) ⟨Nat.zero_le _, Nat.zero_le _⟩ dX0_inPlaceOf_60 (fun r_60 u_60 H locs hp_60 hS => ?_)
          have hp_60 : (r_60 = 0 ∨ r_60 = 1) ∧ (¬ r_60 = 0 ↔ ∃ j, j < fd ∧ cx_se ((T 2)) M ((C_2_30) j).toNatClampNeg (cx_ow M r_44.toNatClampNeg)) := hp_60
          refine lv_if_eq (tgt := 78) hx hb dX0_inPlaceOf_63 (by decide) (fun h63 => ?_) (fun h63 => ?_)
          · skip
            have g63 : ¬ (∃ j, j < fd ∧ cx_se ((T 2)) M ((C_2_30) j).toNatClampNeg (cx_ow M r_44.toNatClampNeg)) := fun z => hp_60.2.mpr z h63
            exact J78 fd C_2_30 _ _ _ (by (try clear g63); (try clear hp_60); (try clear hp_11); omega) (by have := cx_ge0 h32; omega) (by (try clear g63); (try clear hp_60); (try clear hp_11); omega) (by first | assumption | exact cx_tkS htk (hx44.resolve_left h52)) (by first | exact cx_IV1 hAX hn hO hGD hmo hL1 hvl ht hqL hIV hp_44 h52 hk | exact cx_IV2 hAX hn hO hGD hmo hL1 hvl ht hqL hIV hp_44 hk g63 h52 | exact cx_IV3 hAX hn hO hGD hmo hL1 hvl ht hqL hIV hp_44 hk g63 h52) hS (lv_sub hl [1, 2, 3, 4, 5, 6, 0] rfl)
          · skip
            have g63 : ∃ j, j < fd ∧ cx_se ((T 2)) M ((C_2_30) j).toNatClampNeg (cx_ow M r_44.toNatClampNeg) := hp_60.2.mp h63
            refine lv_aload_n hx hb dX0_inPlaceOf_66 rfl (lv_at hl 1 rfl) ?_
            refine cx_get (own := RX0) (index := 18) (C := RX0) (T := TX0) (N := 7) (k := 4) (ci := 0) (v := .ref (q 26)) hx hb hts hown hE hS hinX0 3 rfl rfl (by decide) (List.mem_of_getElem? (i := 2) rfl) rfl dX0_inPlaceOf_67 ?_
            refine lv_iload hx hb dX0_inPlaceOf_70 (lv_at hl 5 rfl) ?_
            refine lv_iload hx hb dX0_inPlaceOf_72 (lv_at hl 0 rfl) ?_
            refine cx_topr (z := r_44) rfl ?_
            refine cx_iast (k := fd) (f := C_2_30) (n := 20) (cA := cI) (ws' := (cxW q cI cJ n T k M d (cx_u (cx_u C 1 ch_11) 2 (upd C_2_30 fd r_44)) J g)) hx hb hE hS 26 0 rfl rfl (by have := cx_ge0 h32; omega) (by decide) rfl dX0_inPlaceOf_74 (fun H locs hS => ?_)
            refine lv_iinc (v := nI (fd + 1)) (lv' := [(4, .int (nI (fd + 1))), (6, .int r_44), (0, .ref (q 3)), (1, .int (nI mm)), (2, .int (nI ob)), (3, .int r_11), (5, .int w5)]) hx hb dX0_inPlaceOf_75 hl (k := 5) rfl (cx_inc _) (by decide) rfl (fun ls hl => ?_)
            exact J78 (fd + 1) (upd C_2_30 fd r_44) _ _ _ (by (try clear g63); (try clear hp_60); (try clear hp_11); omega) (by have := cx_ge0 h32; omega) (by (try clear g63); (try clear hp_60); (try clear hp_11); omega) (by first | assumption | exact cx_tkS htk (hx44.resolve_left h52)) (by first | exact cx_IV1 hAX hn hO hGD hmo hL1 hvl ht hqL hIV hp_44 h52 hk | exact cx_IV2 hAX hn hO hGD hmo hL1 hvl ht hqL hIV hp_44 hk g63 h52 | exact cx_IV3 hAX hn hO hGD hmo hL1 hvl ht hqL hIV hp_44 hk g63 h52) hS (lv_sub hl [2, 3, 4, 5, 0, 6, 1] rfl)
  exact J30 (((r_11 - (nI 2)).toInt + 3).toNat + 1) 1 (r_11 - (nI 2)) (upd (C 2) 0 (nI mm)) _ _ _ (Nat.lt_succ_self _) (by (try clear g63); (try clear hp_60); (try clear hp_11); omega) (by (try clear g63); (try clear hp_60); (try clear hp_11); omega) (by first | (have := cx_ge0 h32; omega) | (rw [hw0]; omega)) (by first | omega | (rw [hw0]; omega)) (by first | (have := cx_ge0 h32; omega) | (rw [hw0]; omega)) (by first | assumption | exact cx_tkS (d := 0) (fun j hj => absurd hj (by omega)) (cx_ixI (by omega) (by decide))) (by first | (rw [show (w6.toInt + 1).toNat = w5.toNatClampNeg by omega]; exact hIV2) | (rw [show (((r_11 - nI 2).toInt) + 1).toNat = L - 1 by rw [hw0]; omega]; exact cx_IV0 hAX hn hGD hmo hL1 hvl ht cx_updS)) hS (lv_sub hl [3, 4, 5, 2, 1, 0] rfl)
set_option maxHeartbeats 4000000 in
set_option maxRecDepth 100000 in
theorem c_X0_reached (l : Launch) (D : va_G) (q : Nat → Nat) (cI cJ : ClassId) (n : Nat) (T : Nat → Nat → Int32) (k : Nat) (M : Nat → Nat → Int32) (d : Nat) (C : Nat → Nat → Int32) (J : Nat → Nat → Int32) (g : Nat → Int64) (t : Nat) (ob : Nat) (nm : Int32) (pm : Int32) (hn : n ≤ 20) (hk : k ≤ 80) (ht : t < n) (hob : ob < n) (hO : cx_R (M 0) 20) (hP : cx_P (T 3) 20) (hOn : ∀ j, j < k → (M 0 j).toNatClampNeg < n) (hAX : cx_AX n (T 3) (cx_Uc T) (cx_Ac T n)) (hGD : cx_GD n k (T 0) (T 3) M (cx_Uc T) (cx_Ac T n) ob) (hst : cx_is (cx_Ac T n) ob t) : cx_Mi l D vwCl [(cI, .int), (cJ, .long)] cx_NW yX0_reached wsX0_reached ({ frames := 4, cells := 0, slots := 0, locals := 97 } : Room) [.ref (q 3), .int (nI t), .int (nI ob), .int nm, .int pm] (cxW q cI cJ n T k M d C J g) (fun (r : Int32) (uw : (Int32) × (Nat) × (Nat → Int32) × (Nat → Int32) × (Nat → Int32)) => (cx_cal n k (T 0) (T 2) (T 3) M (cx_Ac T n) t ob nm pm r) ∧ (r = -1 ∨ cx_ix r 80)) (fun uw => (cxW q cI cJ n T k M uw.2.1 (cx_u (cx_u (cx_u (cx_u C 4 (fun _ => uw.1)) 0 uw.2.2.1) 1 uw.2.2.2.1) 2 uw.2.2.2.2) J g)) := by
  refine cx_Mi.of (cc := cX0_reached) (maxL := 6) cx_NW_ok (by decide) rfl (Nat.le_of_ble_eq_true rfl) ?_
  intro p e s m args below meth c Q A ls hx hb hml hown hts hE RET hS hl
  have hl : lv_has ls 6 [(0, .ref (q 3)), (1, .int (nI t)), (2, .int (nI ob)), (3, .int nm), (4, .int pm)] := hl
  have hown : s.vm.findClass RX0 = some m.cls := hown
  have hinX0 : ∀ w ∈ u_ws RX0 TX0 7, w ∈ wsX0_reached := cx_mem [105, 106, 107, 108, 109, 110, 111] (by decide +kernel)
  have hinX3 : ∀ w ∈ u_ws RX3 TX3 8, w ∈ wsX0_reached := cx_mem [112, 113, 114, 115, 116, 117, 118, 119] (by decide +kernel)
  refine lv_aload_n hx hb dX0_reached_0 rfl (lv_at hl 0 rfl) ?_
  refine lv_iload_n hx hb dX0_reached_1 rfl (lv_at hl 1 rfl) ?_
  refine lv_iload_n hx hb dX0_reached_2 rfl (lv_at hl 3 rfl) ?_
  refine lv_iload hx hb dX0_reached_3 (lv_at hl 4 rfl) ?_
  refine cx_cVi (As := [.int (nI t), .int nm, .int pm]) (rest := []) ⟨hx, hb, hml, hown, hts⟩ hE hS (c_X0_meantBy l D q cI cJ n T k M d C J g t nm pm (by first | assumption | omega | rfl) (by first | assumption | omega | rfl) (by first | assumption | omega | rfl) (by first | assumption | omega | rfl) (by first | assumption | omega | rfl) (by first | assumption | omega | rfl)) (cwV 3 hts gX0_reached_X0_meantBy rfl rfl rfl (by decide +kernel) ⟨Nat.le_of_ble_eq_true rfl, Nat.le_of_ble_eq_true rfl⟩) 3 0 rfl rfl rfl hl.1 rfl (Nat.le_of_ble_eq_true rfl) ⟨Nat.zero_le _, Nat.zero_le _⟩ dX0_reached_5 (fun r_5 u_5 H locs hp_5 hS => ?_)
  obtain ⟨co_5, d1_5, fo_5⟩ := u_5
  have hS : cx_S D vwCl A s (cxW q cI cJ n T k M d1_5 (cx_u (cx_u C 4 (fun _ => co_5)) 0 fo_5) J g) H locs := hS
  have hp_5 : (cx_mt n k ((T 0)) ((T 2)) ((T 3)) M (cx_Ac T n) t nm pm r_5) ∧ (r_5 = -1 ∨ cx_ix r_5 80) := hp_5
  refine lv_istore (lv' := [(5, .int r_5), (0, .ref (q 3)), (1, .int (nI t)), (2, .int (nI ob)), (3, .int nm), (4, .int pm)]) hx hb dX0_reached_8 hl (by decide) rfl (fun ls hl => ?_)
  refine lv_iload hx hb dX0_reached_10 (lv_at hl 0 rfl) ?_
  refine lv_iconst (v := (-1 : Int32)) hx hb dX0_reached_12 (by decide) ?_
  have J29 : ∀ (H : Heap) (locs : List Loc) (ls : Array Slot), (cx_cal n k (T 0) (T 2) (T 3) M (cx_Ac T n) t ob nm pm r_5) → cx_S D vwCl A s (cxW q cI cJ n T k M d1_5 (cx_u (cx_u C 4 (fun _ => co_5)) 0 fo_5) J g) H locs → lv_has ls 6 [(0, .ref (q 3)), (1, .int (nI t)), (2, .int (nI ob)), (3, .int nm), (4, .int pm), (5, .int r_5)] → W p l e ({ frames := 4, cells := 0, slots := 0, locals := 97 } : Room) s m args below meth c H locs 0 0 Q (F0 m 29 ls []) := by
    intro  H locs ls h29 hS hl
    refine lv_iload hx hb dX0_reached_29 (lv_at hl 5 rfl) ?_
    exact RET _ (co_5, d1_5, fo_5, C 1, C 2) _ _ _ _ dX0_reached_31 rfl (⟨h29, hp_5.2⟩) hS
  refine lv_icmp_eq (tgt := 29) hx hb dX0_reached_13 (by decide) (fun h13 => ?_) (fun h13 => ?_)
  · skip
    exact J29  _ _ _ (by first | exact ⟨_, hp_5.1, Or.inl ⟨h13, h13⟩⟩ | exact ⟨_, hp_5.1, Or.inr ⟨h13, Or.inl ⟨h26, rfl⟩⟩⟩) hS (lv_sub hl [1, 2, 3, 4, 5, 0] rfl)
  · skip
    refine lv_aload_n hx hb dX0_reached_16 rfl (lv_at hl 1 rfl) ?_
    refine cx_get (own := RX0) (index := 32) (C := RX0) (T := TX0) (N := 7) (k := 1) (ci := 0) (v := .ref (q 2)) hx hb hts hown hE hS hinX0 3 rfl rfl (by decide) (List.mem_of_getElem? (i := 1) rfl) rfl dX0_reached_17 ?_
    refine cx_getN (own := RX0) (index := 84) (C := RX3) (T := TX3) (N := 8) (k := 5) (ci := 3) (host := "ClassRules") (v := .ref (q 22)) hx hb hts hown hE hS hinX3 2 rfl rfl (by decide) (List.mem_of_getElem? (i := 26) rfl) rfl dX0_reached_20 ?_
    refine lv_iload hx hb dX0_reached_23 (lv_at hl 0 rfl) ?_
    refine cx_topr (z := nI (r_5.toNatClampNeg)) (hp_5.2.resolve_left h13).1 ?_
    refine cx_iald (f := (M 4)) (n := 80) (cA := cI) hx hb hE hS 22 0 rfl rfl (hp_5.2.resolve_left h13).2 (by decide) dX0_reached_25 ?_
    refine lv_if_ne (tgt := 32) hx hb dX0_reached_26 (by decide) (fun h26 => ?_) (fun h26 => ?_)
    · skip
      refine lv_aload_n hx hb dX0_reached_32 rfl (lv_at hl 1 rfl) ?_
      refine cx_get (own := RX0) (index := 32) (C := RX0) (T := TX0) (N := 7) (k := 1) (ci := 0) (v := .ref (q 2)) hx hb hts hown hE hS hinX0 3 rfl rfl (by decide) (List.mem_of_getElem? (i := 1) rfl) rfl dX0_reached_33 ?_
      refine lv_iload hx hb dX0_reached_36 (lv_at hl 0 rfl) ?_
      refine cx_topr (z := nI (r_5.toNatClampNeg)) (hp_5.2.resolve_left h13).1 ?_
      refine cx_cVi (As := [.int (nI (r_5.toNatClampNeg))]) (rest := []) ⟨hx, hb, hml, hown, hts⟩ hE hS (c_X3_ofFace l D q cI cJ n T k M d1_5 (cx_u (cx_u C 4 (fun _ => co_5)) 0 fo_5) J g r_5.toNatClampNeg ((hp_5.2.resolve_left h13).2) (by first | assumption | omega | rfl)) (cwV 1 hts gX0_reached_X3_ofFace rfl rfl rfl (by decide +kernel) ⟨Nat.le_of_ble_eq_true rfl, Nat.le_of_ble_eq_true rfl⟩) 2 3 rfl rfl rfl hl.1 rfl (Nat.le_of_ble_eq_true rfl) ⟨Nat.zero_le _, Nat.zero_le _⟩ dX0_reached_38 (fun r_38 u_38 H locs hp_38 hS => ?_)
      have hp_38 : (r_38 = 0 ∨ r_38 = 1) ∧ (¬ r_38 = 0 ↔ cx_fc ((T 0)) M r_5.toNatClampNeg) := hp_38
      refine lv_if_eq (tgt := 53) hx hb dX0_reached_41 (by decide) (fun h41 => ?_) (fun h41 => ?_)
      · skip
        have g41 : ¬ (cx_fc ((T 0)) M r_5.toNatClampNeg) := fun z => hp_38.2.mpr z h41
        refine lv_aload_n hx hb dX0_reached_53 rfl (lv_at hl 1 rfl) ?_
        refine lv_aload_n hx hb dX0_reached_54 rfl (lv_at hl 1 rfl) ?_
        refine lv_iload hx hb dX0_reached_55 (lv_at hl 0 rfl) ?_
        refine cx_topr (z := nI (r_5.toNatClampNeg)) (hp_5.2.resolve_left h13).1 ?_
        refine lv_iload_n hx hb dX0_reached_57 rfl (lv_at hl 3 rfl) ?_
        refine cx_cVi (As := [.int (nI (r_5.toNatClampNeg)), .int (nI ob)]) (rest := [.ref (q 3)]) ⟨hx, hb, hml, hown, hts⟩ hE hS (c_X0_inPlaceOf l D q cI cJ n T k M d1_5 (cx_u (cx_u C 4 (fun _ => co_5)) 0 fo_5) J g r_5.toNatClampNeg ob (by first | assumption | omega | rfl) (by first | assumption | omega | rfl) (((cx_mt.ix hk hp_5.1).resolve_left h13).2) (by first | assumption | omega | rfl) (by first | assumption | omega | rfl) (by first | assumption | omega | rfl) (by first | assumption | omega | rfl) (by first | assumption | omega | rfl) (cx_mtc hAX hst hp_5.1 hk h13 g41 h26)) (cwV 2 hts gX0_reached_X0_inPlaceOf rfl rfl rfl (by decide +kernel) ⟨Nat.le_of_ble_eq_true rfl, Nat.le_of_ble_eq_true rfl⟩) 3 0 rfl rfl rfl hl.1 rfl (Nat.le_of_ble_eq_true rfl) ⟨Nat.zero_le _, Nat.zero_le _⟩ dX0_reached_58 (fun r_58 u_58 H locs hp_58 hS => ?_)
        obtain ⟨ch_58, tk_58⟩ := u_58
        have hS : cx_S D vwCl A s (cxW q cI cJ n T k M d1_5 (cx_u (cx_u (cx_u (cx_u C 4 (fun _ => co_5)) 0 fo_5) 1 ch_58) 2 tk_58) J g) H locs := hS
        have hp_58 : (cx_one n k ((T 3)) (cx_tq k ((T 0)) ((T 2)) M (cx_Ac T n) r_5.toNatClampNeg) 20 (nI ob) r_58) ∧ (cx_ix r_58 80) := hp_58
        refine cx_topr (z := nI (r_58.toNatClampNeg)) hp_58.2.1 ?_
        refine cx_cVi (As := [.int (nI (r_58.toNatClampNeg))]) (rest := []) ⟨hx, hb, hml, hown, hts⟩ hE hS (c_X0_unlessAbstract l D q cI cJ n T k M d1_5 (cx_u (cx_u (cx_u (cx_u C 4 (fun _ => co_5)) 0 fo_5) 1 ch_58) 2 tk_58) J g r_58.toNatClampNeg hp_58.2.2) (cwV 1 hts gX0_reached_X0_unlessAbstract rfl rfl rfl (by decide +kernel) ⟨Nat.le_of_ble_eq_true rfl, Nat.le_of_ble_eq_true rfl⟩) 3 0 rfl rfl rfl hl.1 rfl (Nat.le_of_ble_eq_true rfl) ⟨Nat.zero_le _, Nat.zero_le _⟩ dX0_reached_61 (fun r_61 u_61 H locs hp_61 hS => ?_)
        have hp_61 : (cx_mk ((M 3)) r_58.toNatClampNeg 1 ∧ r_61 = -1) ∨ (¬ cx_mk ((M 3)) r_58.toNatClampNeg 1 ∧ r_61 = nI r_58.toNatClampNeg) := hp_61
        exact RET _ (co_5, d1_5, fo_5, ch_58, tk_58) _ _ _ _ dX0_reached_64 rfl (⟨⟨_, hp_5.1, Or.inr ⟨h13, Or.inr ⟨h26, Or.inr ⟨g41, _, hp_58.1, Or.inr ⟨cx_ixm hp_58.2 (by decide), hp_61.imp id (fun z => ⟨z.1, z.2.trans hp_58.2.1.symm⟩)⟩⟩⟩⟩⟩, hp_61.elim (fun z => Or.inl z.2) (fun z => Or.inr (by rw [z.2]; exact cx_ixI hp_58.2.2 (by decide)))⟩) hS
      · skip
        have g41 : cx_fc ((T 0)) M r_5.toNatClampNeg := hp_38.2.mp h41
        refine lv_aload_n hx hb dX0_reached_44 rfl (lv_at hl 1 rfl) ?_
        refine lv_iload_n hx hb dX0_reached_45 rfl (lv_at hl 3 rfl) ?_
        refine lv_iload_n hx hb dX0_reached_46 rfl (lv_at hl 4 rfl) ?_
        refine lv_iload hx hb dX0_reached_47 (lv_at hl 5 rfl) ?_
        refine cx_cVi (As := [.int (nI ob), .int nm, .int pm]) (rest := []) ⟨hx, hb, hml, hown, hts⟩ hE hS (c_X0_running l D q cI cJ n T k M d1_5 (cx_u (cx_u C 4 (fun _ => co_5)) 0 fo_5) J g ob nm pm (by first | assumption | omega | rfl) (by first | assumption | omega | rfl) (by first | assumption | omega | rfl) (by first | assumption | omega | rfl) (by first | assumption | omega | rfl) (by first | assumption | omega | rfl)) (cwV 3 hts gX0_reached_X0_running rfl rfl rfl (by decide +kernel) ⟨Nat.le_of_ble_eq_true rfl, Nat.le_of_ble_eq_true rfl⟩) 3 0 rfl rfl rfl hl.1 rfl (Nat.le_of_ble_eq_true rfl) ⟨Nat.zero_le _, Nat.zero_le _⟩ dX0_reached_49 (fun r_49 u_49 H locs hp_49 hS => ?_)
        obtain ⟨co_49, d1_49, fo_49⟩ := u_49
        have hS : cx_S D vwCl A s (cxW q cI cJ n T k M d1_49 (cx_u (cx_u C 4 (fun _ => co_49)) 0 fo_49) J g) H locs := hS
        have hp_49 : (cx_rn n k ((T 0)) ((T 2)) ((T 3)) M (cx_Ac T n) ob nm pm r_49) ∧ (r_49 = -1 ∨ cx_ix r_49 80) := hp_49
        exact RET _ (co_49, d1_49, fo_49, C 1, C 2) _ _ _ _ dX0_reached_52 rfl (⟨⟨_, hp_5.1, Or.inr ⟨h13, Or.inr ⟨h26, Or.inl ⟨g41, hp_49.1⟩⟩⟩⟩, hp_49.2⟩) hS
    · skip
      exact J29  _ _ _ (by first | exact ⟨_, hp_5.1, Or.inl ⟨h13, h13⟩⟩ | exact ⟨_, hp_5.1, Or.inr ⟨h13, Or.inl ⟨h26, rfl⟩⟩⟩) hS (lv_sub hl [1, 2, 3, 4, 5, 0] rfl)
