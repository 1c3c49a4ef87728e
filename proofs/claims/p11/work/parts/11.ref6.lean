set_option maxHeartbeats 4000000 in
set_option maxRecDepth 100000 in
theorem c_X7_know_at_k (l : Launch) (D : va_G) (q : Nat → Nat) (cI cZ : ClassId) (n : Nat) (T : Nat → Nat → Int32) (k : Nat) (M : Nat → Nat → Int32) (d : Nat) (Z : Nat → Nat → Int32) (F : Nat → Nat → Int32) (hn : n ≤ 20) (hP : cx_P (T 3) 20) (hU : cx_R (T 4) 20) (hV : cx_R (T 5) 4) (hKN : cx_KN n T (Z 0) ((Z 3) 0)) (hkn : ¬ (Z 3) 0 = 0) : cx_Mv l D vwCl [(cI, .int), (cZ, .boolean)] cx_NW yX7_know wsX7_know ({ frames := 2, cells := 0, slots := 0, locals := 43 } : Room) [.ref (q 0)] (cyW q cI cZ n T k M d Z F) (fun (uw : Unit) => (∀ wa wu, wa < n → wu < n → (¬ (Z 0) (20 * wa + wu) = 0 ↔ (cx_w3 n (cx_Er T n) n) wa wu)) ∧ ¬ (Z 3) 0 = 0) (fun _ => (cyW q cI cZ n T k M d Z F)) := by
  refine cx_Mv.of (cc := cX7_know) (maxL := 4) cx_NW_ok (by decide) rfl (Nat.le_of_ble_eq_true rfl) ?_
  intro p e s m args below meth c Q A ls hx hb hml hown hts hE RET hS hl
  have hl : lv_has ls 4 [(0, .ref (q 0))] := hl
  have hown : s.vm.findClass RX7 = some m.cls := hown
  have hinX7 : ∀ w ∈ u_ws RX7 TX7 22, w ∈ wsX7_know := cx_mem [15, 16, 17, 18, 19, 20, 21, 22, 23, 24, 25, 26, 27, 28, 29, 30, 31, 32, 33, 34, 35, 36] (by decide +kernel)
  refine lv_aload_n hx hb dX7_know_0 rfl (lv_at hl 0 rfl) ?_
  refine cx_get (own := RX7) (index := 73) (C := RX7) (T := TX7) (N := 22) (k := 17) (ci := 7) (v := .int ((Z 3) 0)) hx hb hts hown hE hS hinX7 0 rfl rfl (by decide) (List.mem_of_getElem? (i := 1) rfl) rfl dX7_know_1 ?_
  refine lv_if_eq (tgt := 8) hx hb dX7_know_4 (by decide) (fun h4 => ?_) (fun h4 => ?_)
  · skip
    exact absurd h4 hkn
  · skip
    exact RET () _ _ _ _ dX7_know_7 (⟨hKN.resolve_left hkn, hkn⟩) hS
set_option maxHeartbeats 4000000 in
set_option maxRecDepth 100000 in
theorem c_X7_isOf_at_k (l : Launch) (D : va_G) (q : Nat → Nat) (cI cZ : ClassId) (n : Nat) (T : Nat → Nat → Int32) (k : Nat) (M : Nat → Nat → Int32) (d : Nat) (Z : Nat → Nat → Int32) (F : Nat → Nat → Int32) (t : Nat) (u : Nat) (hn : n ≤ 20) (hP : cx_P (T 3) 20) (hU : cx_R (T 4) 20) (hV : cx_R (T 5) 4) (hKN : cx_KN n T (Z 0) ((Z 3) 0)) (ht : t < n) (hu : u < n) (hkn : ¬ (Z 3) 0 = 0) : cx_Mi l D vwCl [(cI, .int), (cZ, .boolean)] cx_NW yX7_isOf wsX7_isOf ({ frames := 3, cells := 0, slots := 0, locals := 66 } : Room) [.ref (q 0), .int (nI t), .int (nI u)] (cyW q cI cZ n T k M d Z F) (fun (r : Int32) (uw : Unit) => ((r = 0 ∨ r = 1) ∧ (¬ r = 0 ↔ cx_is (cx_Ar T n) t u)) ∧ ((∀ wa wu, wa < n → wu < n → (¬ (Z 0) (20 * wa + wu) = 0 ↔ (cx_w3 n (cx_Er T n) n) wa wu)) ∧ ¬ (Z 3) 0 = 0)) (fun _ => (cyW q cI cZ n T k M d Z F)) := by
  refine cx_Mi.of (cc := cX7_isOf) (maxL := 3) cx_NW_ok (by decide) rfl (Nat.le_of_ble_eq_true rfl) ?_
  intro p e s m args below meth c Q A ls hx hb hml hown hts hE RET hS hl
  have hl : lv_has ls 3 [(0, .ref (q 0)), (1, .int (nI t)), (2, .int (nI u))] := hl
  have hown : s.vm.findClass RX7 = some m.cls := hown
  have hinX7 : ∀ w ∈ u_ws RX7 TX7 22, w ∈ wsX7_isOf := cx_mem [19, 20, 21, 22, 23, 24, 25, 26, 27, 28, 29, 30, 31, 32, 33, 34, 35, 36, 37, 38, 39, 40] (by decide +kernel)
  refine lv_aload_n hx hb dX7_isOf_0 rfl (lv_at hl 0 rfl) ?_
  refine cx_cVv (As := []) (rest := []) ⟨hx, hb, hml, hown, hts⟩ hE hS (c_X7_know_at_k l D q cI cZ n T k M d Z F  (by first | assumption | omega | rfl) (by first | assumption | omega | rfl) (by first | assumption | omega | rfl) (by first | assumption | omega | rfl) (by first | assumption | omega | rfl) (by first | assumption | omega | rfl)) (cwV 0 hts gX7_isOf_X7_know rfl rfl rfl (by decide +kernel) ⟨Nat.le_of_ble_eq_true rfl, Nat.le_of_ble_eq_true rfl⟩) 0 7 rfl rfl rfl hl.1 rfl (Nat.le_of_ble_eq_true rfl) ⟨Nat.zero_le _, Nat.zero_le _⟩ dX7_isOf_1 (fun u_1 H locs hp_1 hS => ?_)
  have hp_1 : (∀ wa wu, wa < n → wu < n → (¬ ((Z 0)) (20 * wa + wu) = 0 ↔ (cx_w3 n (cx_Er T n) n) wa wu)) ∧ ¬ (Z 3) 0 = 0 := hp_1
  refine lv_iload_n hx hb dX7_isOf_4 rfl (lv_at hl 1 rfl) ?_
  refine lv_iload_n hx hb dX7_isOf_5 rfl (lv_at hl 2 rfl) ?_
  have J28 : ∀ (v28_s0 : Int32) (H : Heap) (locs : List Loc) (ls : Array Slot), ((v28_s0 = 0 ∨ v28_s0 = 1) ∧ (¬ v28_s0 = 0 ↔ cx_is (cx_Ar T n) t u)) → cx_S D vwCl A s (cyW q cI cZ n T k M d Z F) H locs → lv_has ls 3 [(0, .ref (q 0)), (1, .int (nI t)), (2, .int (nI u))] → W p l e ({ frames := 3, cells := 0, slots := 0, locals := 66 } : Room) s m args below meth c H locs 0 0 Q (F0 m 28 ls [.int v28_s0]) := by
    intro v28_s0 H locs ls b28 hS hl
    exact RET _ () _ _ _ _ dX7_isOf_28 (cx_nb b28.1) (⟨(by first | exact b28 | (try clear RET); (try clear hS); (try clear hl); (try clear hE); (try clear hts); (try clear hb); (try clear hx); (try clear hml); (try clear hown); (try clear hinX7); (try clear J28); have y10 : ¬ (1 : Int32) = 0 := (by decide); first | assumption | (grind)), hp_1⟩) hS
  have J23 : ∀ (H : Heap) (locs : List Loc) (ls : Array Slot), (cx_is (cx_Ar T n) t u) → cx_S D vwCl A s (cyW q cI cZ n T k M d Z F) H locs → lv_has ls 3 [(0, .ref (q 0)), (1, .int (nI t)), (2, .int (nI u))] → W p l e ({ frames := 3, cells := 0, slots := 0, locals := 66 } : Room) s m args below meth c H locs 0 0 Q (F0 m 23 ls []) := by
    intro  H locs ls f23 hS hl
    refine lv_iconst (v := (1 : Int32)) hx hb dX7_isOf_23 (by decide) ?_
    refine lv_goto (tgt := 28) hx hb dX7_isOf_24 (by decide) ?_
    exact J28 (1 : Int32) _ _ _ (cx_e1 (by (try clear RET); (try clear hS); (try clear hl); (try clear hE); (try clear hts); (try clear hb); (try clear hx); (try clear hml); (try clear hown); (try clear hinX7); (try clear J28); (try clear J23); have y10 : ¬ (1 : Int32) = 0 := (by decide); first | assumption | (grind))) hS (lv_sub hl [0, 1, 2] rfl)
  refine lv_icmp_eq (tgt := 23) hx hb dX7_isOf_6 (by decide) (fun h6 => ?_) (fun h6 => ?_)
  · skip
    have g6 : t = u := (nI_eq (a := t) (b := u) (by omega) (by omega)).mp h6
    exact J23  _ _ _ (by (try clear RET); (try clear hS); (try clear hl); (try clear hE); (try clear hts); (try clear hb); (try clear hx); (try clear hml); (try clear hown); (try clear hinX7); (try clear J28); (try clear J23); have y10 : ¬ (1 : Int32) = 0 := (by decide); first | assumption | (grind)) hS (lv_sub hl [0, 1, 2] rfl)
  · skip
    have g6 : ¬ (t = u) := fun z => h6 ((nI_eq (a := t) (b := u) (by omega) (by omega)).mpr z)
    refine lv_aload_n hx hb dX7_isOf_9 rfl (lv_at hl 0 rfl) ?_
    refine cx_get (own := RX7) (index := 52) (C := RX7) (T := TX7) (N := 22) (k := 16) (ci := 7) (v := .ref (q 15)) hx hb hts hown hE hS hinX7 0 rfl rfl (by decide) (List.mem_of_getElem? (i := 1) rfl) rfl dX7_isOf_10 ?_
    refine lv_bipush (v := nI 20) hx hb dX7_isOf_13 (by decide) ?_
    refine lv_iload_n hx hb dX7_isOf_15 rfl (lv_at hl 1 rfl) ?_
    refine lv_imul hx hb dX7_isOf_16 ?_
    refine cx_topr (z := nI (20 * t)) (pk_mul _ _) ?_
    refine lv_iload_n hx hb dX7_isOf_17 rfl (lv_at hl 2 rfl) ?_
    refine lv_iadd hx hb dX7_isOf_18 ?_
    refine cx_topr (z := nI (20 * t + u)) (nI_add _ _) ?_
    refine cx_zald (f := (Z 0)) (n := 400) (cA := cZ) hx hb hE hS 15 1 rfl rfl (by omega) (by decide) dX7_isOf_19 ?_
    refine lv_if_eq (tgt := 27) hx hb dX7_isOf_20 (by decide) (fun h20 => ?_) (fun h20 => ?_)
    · skip
      have y20 : ¬ cx_Ar T n t u := fun z => (hp_1.1 _ _ ht hu).mpr z.2.2 h20
      refine lv_iconst (v := (0 : Int32)) hx hb dX7_isOf_27 (by decide) ?_
      exact J28 (0 : Int32) _ _ _ (cx_e0 (by (try clear RET); (try clear hS); (try clear hl); (try clear hE); (try clear hts); (try clear hb); (try clear hx); (try clear hml); (try clear hown); (try clear hinX7); (try clear J28); (try clear J23); have y10 : ¬ (1 : Int32) = 0 := (by decide); first | assumption | (grind))) hS (lv_sub hl [0, 1, 2] rfl)
    · skip
      have y20 : cx_Ar T n t u := ⟨ht, hu, (hp_1.1 _ _ ht hu).mp h20⟩
      exact J23  _ _ _ (by (try clear RET); (try clear hS); (try clear hl); (try clear hE); (try clear hts); (try clear hb); (try clear hx); (try clear hml); (try clear hown); (try clear hinX7); (try clear J28); (try clear J23); have y10 : ¬ (1 : Int32) = 0 := (by decide); first | assumption | (grind)) hS (lv_sub hl [0, 1, 2] rfl)
set_option maxHeartbeats 4000000 in
set_option maxRecDepth 100000 in
theorem c_X7_isShared_at_k (l : Launch) (D : va_G) (q : Nat → Nat) (cI cZ : ClassId) (n : Nat) (T : Nat → Nat → Int32) (k : Nat) (M : Nat → Nat → Int32) (d : Nat) (Z : Nat → Nat → Int32) (F : Nat → Nat → Int32) (mm : Nat) (t : Nat) (hn : n ≤ 20) (hP : cx_P (T 3) 20) (hU : cx_R (T 4) 20) (hV : cx_R (T 5) 4) (hKN : cx_KN n T (Z 0) ((Z 3) 0)) (hO : cx_R (M 0) 20) (hk : k ≤ 80) (hOn : ∀ j, j < k → (M 0 j).toNatClampNeg < n) (hX : cx_R (M 4) 4) (hm : mm < k) (ht : t < n) (hkn : ¬ (Z 3) 0 = 0) : cx_Mi l D vwCl [(cI, .int), (cZ, .boolean)] cx_NW yX7_isShared wsX7_isShared ({ frames := 3, cells := 0, slots := 0, locals := 66 } : Room) [.ref (q 0), .int (nI mm), .int (nI t)] (cyW q cI cZ n T k M d Z F) (fun (r : Int32) (uw : Unit) => (r = 0 ∨ r = 1) ∧ (¬ r = 0 ↔ cx_sh (T 0) (T 2) M (cx_Ar T n) mm t)) (fun _ => (cyW q cI cZ n T k M d Z F)) := by
  refine cx_Mi.of (cc := cX7_isShared) (maxL := 4) cx_NW_ok (by decide) rfl (Nat.le_of_ble_eq_true rfl) ?_
  intro p e s m args below meth c Q A ls hx hb hml hown hts hE RET hS hl
  have hl : lv_has ls 4 [(0, .ref (q 0)), (1, .int (nI mm)), (2, .int (nI t))] := hl
  have hown : s.vm.findClass RX7 = some m.cls := hown
  have hinX7 : ∀ w ∈ u_ws RX7 TX7 22, w ∈ wsX7_isShared := cx_mem [28, 29, 30, 31, 32, 33, 34, 35, 36, 37, 38, 39, 40, 41, 42, 43, 44, 45, 46, 47, 48, 49] (by decide +kernel)
  have hom := hOn mm hm
  have yac := cx_ac (hX mm)
  refine lv_aload_n hx hb dX7_isShared_0 rfl (lv_at hl 0 rfl) ?_
  refine cx_cVv (As := []) (rest := []) ⟨hx, hb, hml, hown, hts⟩ hE hS (c_X7_know_at_k l D q cI cZ n T k M d Z F  (by first | assumption | omega | rfl) (by first | assumption | omega | rfl) (by first | assumption | omega | rfl) (by first | assumption | omega | rfl) (by first | assumption | omega | rfl) (by first | assumption | omega | rfl)) (cwV 0 hts gX7_isShared_X7_know rfl rfl rfl (by decide +kernel) ⟨Nat.le_of_ble_eq_true rfl, Nat.le_of_ble_eq_true rfl⟩) 0 7 rfl rfl rfl hl.1 rfl (Nat.le_of_ble_eq_true rfl) ⟨Nat.zero_le _, Nat.zero_le _⟩ dX7_isShared_1 (fun u_1 H locs hp_1 hS => ?_)
  have hp_1 : (∀ wa wu, wa < n → wu < n → (¬ ((Z 0)) (20 * wa + wu) = 0 ↔ (cx_w3 n (cx_Er T n) n) wa wu)) ∧ ¬ (Z 3) 0 = 0 := hp_1
  refine lv_aload_n hx hb dX7_isShared_4 rfl (lv_at hl 0 rfl) ?_
  refine cx_get (own := RX7) (index := 46) (C := RX7) (T := TX7) (N := 22) (k := 14) (ci := 7) (v := .ref (q 13)) hx hb hts hown hE hS hinX7 0 rfl rfl (by decide) (List.mem_of_getElem? (i := 1) rfl) rfl dX7_isShared_5 ?_
  refine lv_iload_n hx hb dX7_isShared_8 rfl (lv_at hl 1 rfl) ?_
  refine cx_iald (f := (M 4)) (n := 80) (cA := cI) hx hb hE hS 13 0 rfl rfl (by omega) (by decide) dX7_isShared_9 ?_
  refine lv_iconst (v := (1 : Int32)) hx hb dX7_isShared_10 (by decide) ?_
  have J49 : ∀ (v49_s0 : Int32) (H : Heap) (locs : List Loc) (ls : Array Slot), ((v49_s0 = 0 ∨ v49_s0 = 1) ∧ (¬ v49_s0 = 0 ↔ cx_se (T 2) M mm t)) → cx_S D vwCl A s (cyW q cI cZ n T k M d Z F) H locs → lv_has ls 4 [(0, .ref (q 0)), (1, .int (nI mm)), (2, .int (nI t))] → W p l e ({ frames := 3, cells := 0, slots := 0, locals := 66 } : Room) s m args below meth c H locs 0 0 Q (F0 m 49 ls [.int v49_s0]) := by
    intro v49_s0 H locs ls b49 hS hl
    refine lv_istore_n (lv' := [(3, .int v49_s0), (0, .ref (q 0)), (1, .int (nI mm)), (2, .int (nI t))]) hx hb dX7_isShared_49 rfl hl (by decide) rfl (fun ls hl => ?_)
    refine lv_aload_n hx hb dX7_isShared_50 rfl (lv_at hl 1 rfl) ?_
    refine cx_get (own := RX7) (index := 52) (C := RX7) (T := TX7) (N := 22) (k := 16) (ci := 7) (v := .ref (q 15)) hx hb hts hown hE hS hinX7 0 rfl rfl (by decide) (List.mem_of_getElem? (i := 4) rfl) rfl dX7_isShared_51 ?_
    refine lv_bipush (v := nI 20) hx hb dX7_isShared_54 (by decide) ?_
    refine lv_iload_n hx hb dX7_isShared_56 rfl (lv_at hl 3 rfl) ?_
    refine lv_imul hx hb dX7_isShared_57 ?_
    refine cx_topr (z := nI (20 * t)) (pk_mul _ _) ?_
    refine lv_aload_n hx hb dX7_isShared_58 rfl (lv_at hl 1 rfl) ?_
    refine cx_get (own := RX7) (index := 34) (C := RX7) (T := TX7) (N := 22) (k := 10) (ci := 7) (v := .ref (q 9)) hx hb hts hown hE hS hinX7 0 rfl rfl (by decide) (List.mem_of_getElem? (i := 3) rfl) rfl dX7_isShared_59 ?_
    refine lv_iload_n hx hb dX7_isShared_62 rfl (lv_at hl 2 rfl) ?_
    refine cx_iald (f := (M 0)) (n := 80) (cA := cI) hx hb hE hS 9 0 rfl rfl (by omega) (by decide) dX7_isShared_63 ?_
    have ho63 := (hO mm).2
    refine cx_topr (z := nI (((M 0) mm).toNatClampNeg)) (hO mm).1 ?_
    refine lv_iadd hx hb dX7_isShared_64 ?_
    refine cx_topr (z := nI (20 * t + ((M 0) mm).toNatClampNeg)) (nI_add _ _) ?_
    refine cx_zald (f := (Z 0)) (n := 400) (cA := cZ) hx hb hE hS 15 1 rfl rfl (by omega) (by decide) dX7_isShared_65 ?_
    have J103 : ∀ (v103_s0 : Int32) (H : Heap) (locs : List Loc) (ls : Array Slot), ((v103_s0 = 0 ∨ v103_s0 = 1) ∧ (¬ v103_s0 = 0 ↔ cx_sh (T 0) (T 2) M (cx_Ar T n) mm t)) → cx_S D vwCl A s (cyW q cI cZ n T k M d Z F) H locs → lv_has ls 4 [(0, .ref (q 0)), (1, .int (nI mm)), (2, .int (nI t)), (3, .int v49_s0)] → W p l e ({ frames := 3, cells := 0, slots := 0, locals := 66 } : Room) s m args below meth c H locs 0 0 Q (F0 m 103 ls [.int v103_s0]) := by
      intro v103_s0 H locs ls b103 hS hl
      exact RET _ () _ _ _ _ dX7_isShared_103 (cx_nb b103.1) (by first | exact b103 | (try clear RET); (try clear hS); (try clear hl); (try clear hE); (try clear hts); (try clear hb); (try clear hx); (try clear hml); (try clear hown); (try clear hinX7); (try clear J49); (try clear J103); have y10 : ¬ (1 : Int32) = 0 := (by decide); first | assumption | (grind)) hS
    have J102 : ∀ (H : Heap) (locs : List Loc) (ls : Array Slot), (¬ (cx_sh (T 0) (T 2) M (cx_Ar T n) mm t)) → cx_S D vwCl A s (cyW q cI cZ n T k M d Z F) H locs → lv_has ls 4 [(0, .ref (q 0)), (1, .int (nI mm)), (2, .int (nI t)), (3, .int v49_s0)] → W p l e ({ frames := 3, cells := 0, slots := 0, locals := 66 } : Room) s m args below meth c H locs 0 0 Q (F0 m 102 ls []) := by
      intro  H locs ls f102 hS hl
      refine lv_iconst (v := (0 : Int32)) hx hb dX7_isShared_102 (by decide) ?_
      exact J103 (0 : Int32) _ _ _ (cx_e0 (by (try clear RET); (try clear hS); (try clear hl); (try clear hE); (try clear hts); (try clear hb); (try clear hx); (try clear hml); (try clear hown); (try clear hinX7); (try clear J49); (try clear J103); (try clear J102); have y10 : ¬ (1 : Int32) = 0 := (by decide); first | assumption | (grind))) hS (lv_sub hl [0, 1, 2, 3] rfl)
    refine lv_if_eq (tgt := 102) hx hb dX7_isShared_66 (by decide) (fun h66 => ?_) (fun h66 => ?_)
    · skip
      have y66 : ¬ cx_Ar T n t (((M 0) mm).toNatClampNeg) := fun z => (hp_1.1 _ _ ht hom).mpr z.2.2 h66
      exact J102  _ _ _ (by (try clear RET); (try clear hS); (try clear hl); (try clear hE); (try clear hts); (try clear hb); (try clear hx); (try clear hml); (try clear hown); (try clear hinX7); (try clear J49); (try clear J103); (try clear J102); have y10 : ¬ (1 : Int32) = 0 := (by decide); first | assumption | (grind)) hS (lv_sub hl [1, 2, 3, 0] rfl)
    · skip
      have y66 : cx_Ar T n t (((M 0) mm).toNatClampNeg) := ⟨ht, hom, (hp_1.1 _ _ ht hom).mp h66⟩
      refine lv_iload_n hx hb dX7_isShared_69 rfl (lv_at hl 0 rfl) ?_
      refine lv_if_eq (tgt := 102) hx hb dX7_isShared_70 (by decide) (fun h70 => ?_) (fun h70 => ?_)
      · skip
        have g70 : ¬ (cx_se (T 2) M mm t) := fun z => b49.2.mpr z h70
        exact J102  _ _ _ (by (try clear RET); (try clear hS); (try clear hl); (try clear hE); (try clear hts); (try clear hb); (try clear hx); (try clear hml); (try clear hown); (try clear hinX7); (try clear J49); (try clear J103); (try clear J102); have y10 : ¬ (1 : Int32) = 0 := (by decide); first | assumption | (grind)) hS (lv_sub hl [1, 2, 3, 0] rfl)
      · skip
        have g70 : cx_se (T 2) M mm t := b49.2.mp h70
        refine lv_aload_n hx hb dX7_isShared_73 rfl (lv_at hl 1 rfl) ?_
        refine lv_iload_n hx hb dX7_isShared_74 rfl (lv_at hl 2 rfl) ?_
        refine lv_iconst (v := (1 : Int32)) hx hb dX7_isShared_75 (by decide) ?_
        refine lv_iconst (v := nI 4) hx hb dX7_isShared_76 (by decide) ?_
        refine cx_cVi (As := [.int (nI mm), .int (1 : Int32), .int (nI 4)]) (rest := []) ⟨hx, hb, hml, hown, hts⟩ hE hS (c_X7_is_at_1 l D q cI cZ n T k M d Z F mm (1 : Int32) (nI 4) (by first | assumption | omega | rfl) (by first | assumption | omega | rfl)) (cwV 3 hts gX7_isShared_X7_is rfl rfl rfl (by decide +kernel) ⟨Nat.le_of_ble_eq_true rfl, Nat.le_of_ble_eq_true rfl⟩) 0 7 rfl rfl rfl hl.1 rfl (Nat.le_of_ble_eq_true rfl) ⟨Nat.zero_le _, Nat.zero_le _⟩ dX7_isShared_77 (fun r_77 u_77 H locs hp_77 hS => ?_)
        have hp_77 : (r_77 = 0 ∨ r_77 = 1) ∧ (¬ r_77 = 0 ↔ cx_mk ((M 3)) mm (nI 4)) := hp_77
        have J98 : ∀ (H : Heap) (locs : List Loc) (ls : Array Slot), (cx_sh (T 0) (T 2) M (cx_Ar T n) mm t) → cx_S D vwCl A s (cyW q cI cZ n T k M d Z F) H locs → lv_has ls 4 [(0, .ref (q 0)), (1, .int (nI mm)), (2, .int (nI t)), (3, .int v49_s0)] → W p l e ({ frames := 3, cells := 0, slots := 0, locals := 66 } : Room) s m args below meth c H locs 0 0 Q (F0 m 98 ls []) := by
          intro  H locs ls f98 hS hl
          refine lv_iconst (v := (1 : Int32)) hx hb dX7_isShared_98 (by decide) ?_
          refine lv_goto (tgt := 103) hx hb dX7_isShared_99 (by decide) ?_
          exact J103 (1 : Int32) _ _ _ (cx_e1 (by (try clear RET); (try clear hS); (try clear hl); (try clear hE); (try clear hts); (try clear hb); (try clear hx); (try clear hml); (try clear hown); (try clear hinX7); (try clear J49); (try clear J103); (try clear J102); (try clear J98); have y10 : ¬ (1 : Int32) = 0 := (by decide); first | assumption | (grind))) hS (lv_sub hl [0, 1, 2, 3] rfl)
        refine lv_if_eq (tgt := 98) hx hb dX7_isShared_80 (by decide) (fun h80 => ?_) (fun h80 => ?_)
        · skip
          have g80 : ¬ (cx_mk ((M 3)) mm (nI 4)) := fun z => hp_77.2.mpr z h80
          exact J98  _ _ _ (by (try clear RET); (try clear hS); (try clear hl); (try clear hE); (try clear hts); (try clear hb); (try clear hx); (try clear hml); (try clear hown); (try clear hinX7); (try clear J49); (try clear J103); (try clear J102); (try clear J98); have y10 : ¬ (1 : Int32) = 0 := (by decide); first | assumption | (grind)) hS (lv_sub hl [1, 2, 3, 0] rfl)
        · skip
          have g80 : cx_mk ((M 3)) mm (nI 4) := hp_77.2.mp h80
          refine lv_aload_n hx hb dX7_isShared_83 rfl (lv_at hl 1 rfl) ?_
          refine cx_get (own := RX7) (index := 7) (C := RX7) (T := TX7) (N := 22) (k := 1) (ci := 7) (v := .ref (q 1)) hx hb hts hown hE hS hinX7 0 rfl rfl (by decide) (List.mem_of_getElem? (i := 5) rfl) rfl dX7_isShared_84 ?_
          refine lv_aload_n hx hb dX7_isShared_87 rfl (lv_at hl 1 rfl) ?_
          refine cx_get (own := RX7) (index := 34) (C := RX7) (T := TX7) (N := 22) (k := 10) (ci := 7) (v := .ref (q 9)) hx hb hts hown hE hS hinX7 0 rfl rfl (by decide) (List.mem_of_getElem? (i := 3) rfl) rfl dX7_isShared_88 ?_
          refine lv_iload_n hx hb dX7_isShared_91 rfl (lv_at hl 2 rfl) ?_
          refine cx_iald (f := (M 0)) (n := 80) (cA := cI) hx hb hE hS 9 0 rfl rfl (by omega) (by decide) dX7_isShared_92 ?_
          have ho92 := (hO mm).2
          refine cx_topr (z := nI (((M 0) mm).toNatClampNeg)) (hO mm).1 ?_
          refine cx_iald (f := (T 0)) (n := 20) (cA := cI) hx hb hE hS 1 0 rfl rfl (by omega) (by decide) dX7_isShared_93 ?_
          refine lv_iconst (v := (1 : Int32)) hx hb dX7_isShared_94 (by decide) ?_
          refine lv_icmp_eq (tgt := 102) hx hb dX7_isShared_95 (by decide) (fun h95 => ?_) (fun h95 => ?_)
          · skip
            exact J102  _ _ _ (by (try clear RET); (try clear hS); (try clear hl); (try clear hE); (try clear hts); (try clear hb); (try clear hx); (try clear hml); (try clear hown); (try clear hinX7); (try clear J49); (try clear J103); (try clear J102); (try clear J98); have y10 : ¬ (1 : Int32) = 0 := (by decide); first | assumption | (grind)) hS (lv_sub hl [1, 2, 3, 0] rfl)
          · skip
            exact J98  _ _ _ (by (try clear RET); (try clear hS); (try clear hl); (try clear hE); (try clear hts); (try clear hb); (try clear hx); (try clear hml); (try clear hown); (try clear hinX7); (try clear J49); (try clear J103); (try clear J102); (try clear J98); have y10 : ¬ (1 : Int32) = 0 := (by decide); first | assumption | (grind)) hS (lv_sub hl [1, 2, 3, 0] rfl)
  have J44 : ∀ (H : Heap) (locs : List Loc) (ls : Array Slot), (cx_se (T 2) M mm t) → cx_S D vwCl A s (cyW q cI cZ n T k M d Z F) H locs → lv_has ls 4 [(0, .ref (q 0)), (1, .int (nI mm)), (2, .int (nI t))] → W p l e ({ frames := 3, cells := 0, slots := 0, locals := 66 } : Room) s m args below meth c H locs 0 0 Q (F0 m 44 ls []) := by
    intro  H locs ls f44 hS hl
    refine lv_iconst (v := (1 : Int32)) hx hb dX7_isShared_44 (by decide) ?_
    refine lv_goto (tgt := 49) hx hb dX7_isShared_45 (by decide) ?_
    exact J49 (1 : Int32) _ _ _ (cx_e1 (by (try clear RET); (try clear hS); (try clear hl); (try clear hE); (try clear hts); (try clear hb); (try clear hx); (try clear hml); (try clear hown); (try clear hinX7); (try clear J49); (try clear J44); have y10 : ¬ (1 : Int32) = 0 := (by decide); first | assumption | (grind))) hS (lv_sub hl [0, 1, 2] rfl)
  refine lv_icmp_gt (tgt := 44) hx hb dX7_isShared_11 (by decide) (fun h11 => ?_) (fun h11 => ?_)
  · skip
    exact J44  _ _ _ (by (try clear RET); (try clear hS); (try clear hl); (try clear hE); (try clear hts); (try clear hb); (try clear hx); (try clear hml); (try clear hown); (try clear hinX7); (try clear J49); (try clear J44); have y10 : ¬ (1 : Int32) = 0 := (by decide); first | assumption | (grind)) hS (lv_sub hl [0, 1, 2] rfl)
  · skip
    refine lv_aload_n hx hb dX7_isShared_14 rfl (lv_at hl 0 rfl) ?_
    refine cx_get (own := RX7) (index := 46) (C := RX7) (T := TX7) (N := 22) (k := 14) (ci := 7) (v := .ref (q 13)) hx hb hts hown hE hS hinX7 0 rfl rfl (by decide) (List.mem_of_getElem? (i := 1) rfl) rfl dX7_isShared_15 ?_
    refine lv_iload_n hx hb dX7_isShared_18 rfl (lv_at hl 1 rfl) ?_
    refine cx_iald (f := (M 4)) (n := 80) (cA := cI) hx hb hE hS 13 0 rfl rfl (by omega) (by decide) dX7_isShared_19 ?_
    refine lv_iconst (v := (1 : Int32)) hx hb dX7_isShared_20 (by decide) ?_
    have J48 : ∀ (H : Heap) (locs : List Loc) (ls : Array Slot), (¬ (cx_se (T 2) M mm t)) → cx_S D vwCl A s (cyW q cI cZ n T k M d Z F) H locs → lv_has ls 4 [(0, .ref (q 0)), (1, .int (nI mm)), (2, .int (nI t))] → W p l e ({ frames := 3, cells := 0, slots := 0, locals := 66 } : Room) s m args below meth c H locs 0 0 Q (F0 m 48 ls []) := by
      intro  H locs ls f48 hS hl
      refine lv_iconst (v := (0 : Int32)) hx hb dX7_isShared_48 (by decide) ?_
      exact J49 (0 : Int32) _ _ _ (cx_e0 (by (try clear RET); (try clear hS); (try clear hl); (try clear hE); (try clear hts); (try clear hb); (try clear hx); (try clear hml); (try clear hown); (try clear hinX7); (try clear J49); (try clear J44); (try clear J48); have y10 : ¬ (1 : Int32) = 0 := (by decide); first | assumption | (grind))) hS (lv_sub hl [0, 1, 2] rfl)
    refine lv_icmp_ne (tgt := 48) hx hb dX7_isShared_21 (by decide) (fun h21 => ?_) (fun h21 => ?_)
    · skip
      exact J48  _ _ _ (by (try clear RET); (try clear hS); (try clear hl); (try clear hE); (try clear hts); (try clear hb); (try clear hx); (try clear hml); (try clear hown); (try clear hinX7); (try clear J49); (try clear J44); (try clear J48); have y10 : ¬ (1 : Int32) = 0 := (by decide); first | assumption | (grind)) hS (lv_sub hl [0, 1, 2] rfl)
    · skip
      refine lv_aload_n hx hb dX7_isShared_24 rfl (lv_at hl 0 rfl) ?_
      refine cx_get (own := RX7) (index := 16) (C := RX7) (T := TX7) (N := 22) (k := 3) (ci := 7) (v := .ref (q 3)) hx hb hts hown hE hS hinX7 0 rfl rfl (by decide) (List.mem_of_getElem? (i := 2) rfl) rfl dX7_isShared_25 ?_
      refine lv_aload_n hx hb dX7_isShared_28 rfl (lv_at hl 0 rfl) ?_
      refine cx_get (own := RX7) (index := 34) (C := RX7) (T := TX7) (N := 22) (k := 10) (ci := 7) (v := .ref (q 9)) hx hb hts hown hE hS hinX7 0 rfl rfl (by decide) (List.mem_of_getElem? (i := 3) rfl) rfl dX7_isShared_29 ?_
      refine lv_iload_n hx hb dX7_isShared_32 rfl (lv_at hl 1 rfl) ?_
      refine cx_iald (f := (M 0)) (n := 80) (cA := cI) hx hb hE hS 9 0 rfl rfl (by omega) (by decide) dX7_isShared_33 ?_
      have ho33 := (hO mm).2
      refine cx_topr (z := nI (((M 0) mm).toNatClampNeg)) (hO mm).1 ?_
      refine cx_iald (f := (T 2)) (n := 20) (cA := cI) hx hb hE hS 3 0 rfl rfl (by omega) (by decide) dX7_isShared_34 ?_
      refine lv_aload_n hx hb dX7_isShared_35 rfl (lv_at hl 0 rfl) ?_
      refine cx_get (own := RX7) (index := 16) (C := RX7) (T := TX7) (N := 22) (k := 3) (ci := 7) (v := .ref (q 3)) hx hb hts hown hE hS hinX7 0 rfl rfl (by decide) (List.mem_of_getElem? (i := 2) rfl) rfl dX7_isShared_36 ?_
      refine lv_iload_n hx hb dX7_isShared_39 rfl (lv_at hl 2 rfl) ?_
      refine cx_iald (f := (T 2)) (n := 20) (cA := cI) hx hb hE hS 3 0 rfl rfl (by omega) (by decide) dX7_isShared_40 ?_
      refine lv_icmp_ne (tgt := 48) hx hb dX7_isShared_41 (by decide) (fun h41 => ?_) (fun h41 => ?_)
      · skip
        exact J48  _ _ _ (by (try clear RET); (try clear hS); (try clear hl); (try clear hE); (try clear hts); (try clear hb); (try clear hx); (try clear hml); (try clear hown); (try clear hinX7); (try clear J49); (try clear J44); (try clear J48); have y10 : ¬ (1 : Int32) = 0 := (by decide); first | assumption | (grind)) hS (lv_sub hl [0, 1, 2] rfl)
      · skip
        exact J44  _ _ _ (by (try clear RET); (try clear hS); (try clear hl); (try clear hE); (try clear hts); (try clear hb); (try clear hx); (try clear hml); (try clear hown); (try clear hinX7); (try clear J49); (try clear J44); (try clear J48); have y10 : ¬ (1 : Int32) = 0 := (by decide); first | assumption | (grind)) hS (lv_sub hl [0, 1, 2] rfl)
set_option maxHeartbeats 4000000 in
set_option maxRecDepth 100000 in
theorem c_X7_classOne_at_k (l : Launch) (D : va_G) (q : Nat → Nat) (cI cZ : ClassId) (n : Nat) (T : Nat → Nat → Int32) (k : Nat) (M : Nat → Nat → Int32) (d : Nat) (Z : Nat → Nat → Int32) (F : Nat → Nat → Int32) (t : Nat) (nm : Int32) (pm : Int32) (hn : n ≤ 20) (hP : cx_P (T 3) 20) (hU : cx_R (T 4) 20) (hV : cx_R (T 5) 4) (hKN : cx_KN n T (Z 0) ((Z 3) 0)) (hO : cx_R (M 0) 20) (hk : k ≤ 80) (hOn : ∀ j, j < k → (M 0 j).toNatClampNeg < n) (hX : cx_R (M 4) 4) (ht : t < n) (hkn : ¬ (Z 3) 0 = 0) : cx_Mi l D vwCl [(cI, .int), (cZ, .boolean)] cx_NW yX7_classOne wsX7_classOne ({ frames := 4, cells := 0, slots := 0, locals := 89 } : Room) [.ref (q 0), .int (nI t), .int nm, .int pm] (cyW q cI cZ n T k M d Z F) (fun (r : Int32) (uw : Unit) => (cx_co n k (T 0) (T 2) (T 3) M (cx_Ar T n) t nm pm r) ∧ (r = -1 ∨ cx_ix r 80)) (fun _ => (cyW q cI cZ n T k M d Z F)) := by
  refine cx_Mi.of (cc := cX7_classOne) (maxL := 7) cx_NW_ok (by decide) rfl (Nat.le_of_ble_eq_true rfl) ?_
  intro p e s m args below meth c Q A ls hx hb hml hown hts hE RET hS hl
  have hl : lv_has ls 7 [(0, .ref (q 0)), (1, .int (nI t)), (2, .int nm), (3, .int pm)] := hl
  have hown : s.vm.findClass RX7 = some m.cls := hown
  have hinX7 : ∀ w ∈ u_ws RX7 TX7 22, w ∈ wsX7_classOne := cx_mem [35, 36, 37, 38, 39, 40, 41, 42, 43, 44, 45, 46, 47, 48, 49, 50, 51, 52, 53, 54, 55, 56] (by decide +kernel)
  refine lv_aload_n hx hb dX7_classOne_0 rfl (lv_at hl 0 rfl) ?_
  refine cx_get (own := RX7) (index := 7) (C := RX7) (T := TX7) (N := 22) (k := 1) (ci := 7) (v := .ref (q 1)) hx hb hts hown hE hS hinX7 0 rfl rfl (by decide) (List.mem_of_getElem? (i := 1) rfl) rfl dX7_classOne_1 ?_
  refine lv_iload_n hx hb dX7_classOne_4 rfl (lv_at hl 1 rfl) ?_
  refine cx_iald (f := (T 0)) (n := 20) (cA := cI) hx hb hE hS 1 0 rfl rfl (by omega) (by decide) dX7_classOne_5 ?_
  refine lv_iconst (v := (1 : Int32)) hx hb dX7_classOne_6 (by decide) ?_
  refine lv_icmp_ne (tgt := 12) hx hb dX7_classOne_7 (by decide) (fun h7 => ?_) (fun h7 => ?_)
  · skip
    refine lv_iload_n hx hb dX7_classOne_12 rfl (lv_at hl 1 rfl) ?_
    refine lv_istore (lv' := [(4, .int (nI t)), (0, .ref (q 0)), (1, .int (nI t)), (2, .int nm), (3, .int pm)]) hx hb dX7_classOne_13 hl (by decide) rfl (fun ls hl => ?_)
    refine lv_iconst (v := (0 : Int32)) hx hb dX7_classOne_15 (by decide) ?_
    refine cx_topr (z := nI 0) (by decide) ?_
    refine lv_istore (lv' := [(5, .int (nI 0)), (4, .int (nI t)), (0, .ref (q 0)), (1, .int (nI t)), (2, .int nm), (3, .int pm)]) hx hb dX7_classOne_16 hl (by decide) rfl (fun ls hl => ?_)
    have J18 : ∀ (N : Nat) (v18_l4 : Int32) (i18 : Nat) (H : Heap) (locs : List Loc) (ls : Array Slot), (20 - i18 < N) → (i18 ≤ 20) → (∀ r, cx_one n k (T 3) (cx_c1 (T 0) (T 2) M (cx_Ar T n) t nm pm) (20 - i18) v18_l4 r → cx_one n k (T 3) (cx_c1 (T 0) (T 2) M (cx_Ar T n) t nm pm) 20 (nI t) r) → cx_S D vwCl A s (cyW q cI cZ n T k M d Z F) H locs → lv_has ls 7 [(0, .ref (q 0)), (1, .int (nI t)), (2, .int nm), (3, .int pm), (4, .int v18_l4), (5, .int (nI i18))] → W p l e ({ frames := 4, cells := 0, slots := 0, locals := 89 } : Room) s m args below meth c H locs 0 0 Q (F0 m 18 ls []) := by
      intro N18
      induction N18 with
      | zero => intro v18_l4 i18 H locs ls hN; exact absurd hN (by omega)
      | succ N18 ih18 =>
        intro v18_l4 i18 H locs ls hN18 hi18 hq hS hl
        refine lv_iload hx hb dX7_classOne_18 (lv_at hl 5 rfl) ?_
        refine lv_bipush (v := nI 20) hx hb dX7_classOne_20 (by decide) ?_
        have J131 : ∀ (H : Heap) (locs : List Loc) (ls : Array Slot), (cx_co n k (T 0) (T 2) (T 3) M (cx_Ar T n) t nm pm (-1)) → cx_S D vwCl A s (cyW q cI cZ n T k M d Z F) H locs → lv_has ls 7 [(0, .ref (q 0)), (1, .int (nI t)), (2, .int nm), (3, .int pm), (4, .int v18_l4), (5, .int (nI i18))] → W p l e ({ frames := 4, cells := 0, slots := 0, locals := 89 } : Room) s m args below meth c H locs 0 0 Q (F0 m 131 ls []) := by
          intro  H locs ls hfin hS hl
          refine lv_iconst (v := (-1 : Int32)) hx hb dX7_classOne_131 (by decide) ?_
          exact RET _ () _ _ _ _ dX7_classOne_132 rfl (⟨hfin, Or.inl rfl⟩) hS
        refine lv_icmp_ge (tgt := 131) hx hb dX7_classOne_22 (by decide) (fun h22 => ?_) (fun h22 => ?_)
        · skip
          have g22 : 20 ≤ i18 := (nI_leI (a := 20) (b := i18) (by omega) (by omega)).mp h22
          exact J131  _ _ _ (by first | exact Or.inr ⟨h7, hq _ (by rw [show 20 - i18 = 0 by omega]; exact rfl)⟩ | exact Or.inr ⟨h7, hq _ (cx_one_end g31 _)⟩) hS (lv_sub hl [0, 1, 2, 3, 4, 5] rfl)
        · skip
          have g22 : ¬ (20 ≤ i18) := fun z => h22 ((nI_leI (a := 20) (b := i18) (by omega) (by omega)).mpr z)
          refine lv_aload_n hx hb dX7_classOne_25 rfl (lv_at hl 0 rfl) ?_
          refine lv_iload hx hb dX7_classOne_26 (lv_at hl 4 rfl) ?_
          refine cx_cVi (As := [.int v18_l4]) (rest := []) ⟨hx, hb, hml, hown, hts⟩ hE hS (c_X7_isType l D q cI cZ n T k M d Z F v18_l4 (by first | assumption | omega | rfl)) (cwV 1 hts gX7_classOne_X7_isType rfl rfl rfl (by decide +kernel) ⟨Nat.le_of_ble_eq_true rfl, Nat.le_of_ble_eq_true rfl⟩) 0 7 rfl rfl rfl hl.1 rfl (Nat.le_of_ble_eq_true rfl) ⟨Nat.zero_le _, Nat.zero_le _⟩ dX7_classOne_28 (fun r_28 u_28 H locs hp_28 hS => ?_)
          have hp_28 : r_28 = cx_b (0 ≤ v18_l4 ∧ v18_l4 < nI n) := hp_28
          subst hp_28
          refine lv_if_eq (tgt := 131) hx hb dX7_classOne_31 (by decide) (fun h31 => ?_) (fun h31 => ?_)
          · skip
            have g31 := cx_b0 h31
            exact J131  _ _ _ (by first | exact Or.inr ⟨h7, hq _ (by rw [show 20 - i18 = 0 by omega]; exact rfl)⟩ | exact Or.inr ⟨h7, hq _ (cx_one_end g31 _)⟩) hS (lv_sub hl [0, 1, 2, 3, 4, 5] rfl)
          · skip
            have g31 := cx_b1 h31
            refine lv_iconst (v := (0 : Int32)) hx hb dX7_classOne_34 (by decide) ?_
            refine cx_topr (z := nI 0) (by decide) ?_
            refine lv_istore (lv' := [(6, .int (nI 0)), (0, .ref (q 0)), (1, .int (nI t)), (2, .int nm), (3, .int pm), (4, .int v18_l4), (5, .int (nI i18))]) hx hb dX7_classOne_35 hl (by decide) rfl (fun ls hl => ?_)
            have J37 : ∀ (N : Nat) (i37 : Nat) (H : Heap) (locs : List Loc) (ls : Array Slot), (k - i37 < N) → (i37 ≤ k) → (∀ j, j < i37 → ¬ (cx_c1 (T 0) (T 2) M (cx_Ar T n) t nm pm) v18_l4.toNatClampNeg j) → cx_S D vwCl A s (cyW q cI cZ n T k M d Z F) H locs → lv_has ls 7 [(0, .ref (q 0)), (1, .int (nI t)), (2, .int nm), (3, .int pm), (4, .int v18_l4), (5, .int (nI i18)), (6, .int (nI i37))] → W p l e ({ frames := 4, cells := 0, slots := 0, locals := 89 } : Room) s m args below meth c H locs 0 0 Q (F0 m 37 ls []) := by
              intro N37
              induction N37 with
              | zero => intro i37 H locs ls hN; exact absurd hN (by omega)
              | succ N37 ih37 =>
                intro i37 H locs ls hN37 hi37 hnone hS hl
                refine lv_iload hx hb dX7_classOne_37 (lv_at hl 6 rfl) ?_
                refine lv_aload_n hx hb dX7_classOne_39 rfl (lv_at hl 0 rfl) ?_
                refine cx_get (own := RX7) (index := 81) (C := RX7) (T := TX7) (N := 22) (k := 9) (ci := 7) (v := .int (nI k)) hx hb hts hown hE hS hinX7 0 rfl rfl (by decide) (List.mem_of_getElem? (i := 2) rfl) rfl dX7_classOne_40 ?_
                refine lv_icmp_ge (tgt := 116) hx hb dX7_classOne_43 (by decide) (fun h43 => ?_) (fun h43 => ?_)
                · skip
                  have g43 : k ≤ i37 := (nI_leI (a := k) (b := i37) (by omega) (by omega)).mp h43
                  refine lv_aload_n hx hb dX7_classOne_116 rfl (lv_at hl 0 rfl) ?_
                  refine cx_get (own := RX7) (index := 19) (C := RX7) (T := TX7) (N := 22) (k := 4) (ci := 7) (v := .ref (q 4)) hx hb hts hown hE hS hinX7 0 rfl rfl (by decide) (List.mem_of_getElem? (i := 6) rfl) rfl dX7_classOne_117 ?_
                  refine lv_iload hx hb dX7_classOne_120 (lv_at hl 4 rfl) ?_
                  refine cx_topr (z := nI (v18_l4.toNatClampNeg)) (cx_ixT (by omega) g31).1 ?_
                  refine cx_iald (f := (T 3)) (n := 20) (cA := cI) hx hb hE hS 4 0 rfl rfl (by have := (cx_ixT (by omega) g31).2; omega) (by decide) dX7_classOne_122 ?_
                  refine lv_istore (lv' := [(4, .int ((T 3) v18_l4.toNatClampNeg)), (0, .ref (q 0)), (1, .int (nI t)), (2, .int nm), (3, .int pm), (5, .int (nI i18)), (6, .int (nI i37))]) hx hb dX7_classOne_123 hl (by decide) rfl (fun ls hl => ?_)
                  refine lv_iinc (v := nI (i18 + 1)) (lv' := [(5, .int (nI (i18 + 1))), (4, .int ((T 3) v18_l4.toNatClampNeg)), (0, .ref (q 0)), (1, .int (nI t)), (2, .int nm), (3, .int pm), (6, .int (nI i37))]) hx hb dX7_classOne_125 hl (k := 5) rfl (cx_inc _) (by decide) rfl (fun ls hl => ?_)
                  refine lv_goto (tgt := 18) hx hb dX7_classOne_128 (by decide) ?_
                  exact ih18 ((T 3) v18_l4.toNatClampNeg) (i18 + 1) _ _ _ (by omega) (by omega) (by first | exact fun r hr => hr | exact fun r hr => hq r (by rw [show 20 - i18 = (20 - (i18 + 1)) + 1 by omega]; exact cx_one_nxt g31 (fun j hj => hnone j (by omega)) hr)) hS (lv_sub hl [2, 3, 4, 5, 1, 0] rfl)
                · skip
                  have g43 : ¬ (k ≤ i37) := fun z => h43 ((nI_leI (a := k) (b := i37) (by omega) (by omega)).mpr z)
                  refine lv_aload_n hx hb dX7_classOne_46 rfl (lv_at hl 0 rfl) ?_
                  refine cx_get (own := RX7) (index := 34) (C := RX7) (T := TX7) (N := 22) (k := 10) (ci := 7) (v := .ref (q 9)) hx hb hts hown hE hS hinX7 0 rfl rfl (by decide) (List.mem_of_getElem? (i := 3) rfl) rfl dX7_classOne_47 ?_
                  refine lv_iload hx hb dX7_classOne_50 (lv_at hl 6 rfl) ?_
                  refine cx_iald (f := (M 0)) (n := 80) (cA := cI) hx hb hE hS 9 0 rfl rfl (by omega) (by decide) dX7_classOne_52 ?_
                  refine lv_iload hx hb dX7_classOne_53 (lv_at hl 4 rfl) ?_
                  have J110 : ∀ (H : Heap) (locs : List Loc) (ls : Array Slot), (¬ (cx_c1 (T 0) (T 2) M (cx_Ar T n) t nm pm) v18_l4.toNatClampNeg i37) → cx_S D vwCl A s (cyW q cI cZ n T k M d Z F) H locs → lv_has ls 7 [(0, .ref (q 0)), (1, .int (nI t)), (2, .int nm), (3, .int pm), (4, .int v18_l4), (5, .int (nI i18)), (6, .int (nI i37))] → W p l e ({ frames := 4, cells := 0, slots := 0, locals := 89 } : Room) s m args below meth c H locs 0 0 Q (F0 m 110 ls []) := by
                    intro  H locs ls h110 hS hl
                    refine lv_iinc (v := nI (i37 + 1)) (lv' := [(6, .int (nI (i37 + 1))), (0, .ref (q 0)), (1, .int (nI t)), (2, .int nm), (3, .int pm), (4, .int v18_l4), (5, .int (nI i18))]) hx hb dX7_classOne_110 hl (k := 6) rfl (cx_inc _) (by decide) rfl (fun ls hl => ?_)
                    refine lv_goto (tgt := 37) hx hb dX7_classOne_113 (by decide) ?_
                    exact ih37 (i37 + 1) _ _ _ (by omega) (by omega) (by first | exact cx_all0 | exact cx_allS hnone h110) hS (lv_sub hl [1, 2, 3, 4, 5, 6, 0] rfl)
                  refine lv_icmp_ne (tgt := 110) hx hb dX7_classOne_55 (by decide) (fun h55 => ?_) (fun h55 => ?_)
                  · skip
                    exact J110  _ _ _ (by first | exact cx_s1 hO (Or.inr (cx_ixT (by omega) g31)) (cx_ixm (cx_ixT (by omega) g31) (by omega)) h55 | exact fun z => h66 z.2.1.1 | exact fun z => h77 z.2.1.2 | exact fun z => g88 z.2.2.1 | exact cx_s2 h94 (Or.inr (cx_ixT (by omega) g31)) (cx_ixm (cx_ixT (by omega) g31) (by omega)) g104) hS (lv_sub hl [0, 1, 2, 3, 4, 5, 6] rfl)
                  · skip
                    refine lv_aload_n hx hb dX7_classOne_58 rfl (lv_at hl 0 rfl) ?_
                    refine cx_get (own := RX7) (index := 37) (C := RX7) (T := TX7) (N := 22) (k := 11) (ci := 7) (v := .ref (q 10)) hx hb hts hown hE hS hinX7 0 rfl rfl (by decide) (List.mem_of_getElem? (i := 4) rfl) rfl dX7_classOne_59 ?_
                    refine lv_iload hx hb dX7_classOne_62 (lv_at hl 6 rfl) ?_
                    refine cx_iald (f := (M 1)) (n := 80) (cA := cI) hx hb hE hS 10 0 rfl rfl (by omega) (by decide) dX7_classOne_64 ?_
                    refine lv_iload_n hx hb dX7_classOne_65 rfl (lv_at hl 2 rfl) ?_
                    refine lv_icmp_ne (tgt := 110) hx hb dX7_classOne_66 (by decide) (fun h66 => ?_) (fun h66 => ?_)
                    · skip
                      exact J110  _ _ _ (by first | exact cx_s1 hO (Or.inr (cx_ixT (by omega) g31)) (cx_ixm (cx_ixT (by omega) g31) (by omega)) h55 | exact fun z => h66 z.2.1.1 | exact fun z => h77 z.2.1.2 | exact fun z => g88 z.2.2.1 | exact cx_s2 h94 (Or.inr (cx_ixT (by omega) g31)) (cx_ixm (cx_ixT (by omega) g31) (by omega)) g104) hS (lv_sub hl [0, 1, 2, 3, 4, 5, 6] rfl)
                    · skip
                      refine lv_aload_n hx hb dX7_classOne_69 rfl (lv_at hl 0 rfl) ?_
                      refine cx_get (own := RX7) (index := 40) (C := RX7) (T := TX7) (N := 22) (k := 12) (ci := 7) (v := .ref (q 11)) hx hb hts hown hE hS hinX7 0 rfl rfl (by decide) (List.mem_of_getElem? (i := 5) rfl) rfl dX7_classOne_70 ?_
                      refine lv_iload hx hb dX7_classOne_73 (lv_at hl 6 rfl) ?_
                      refine cx_iald (f := (M 2)) (n := 80) (cA := cI) hx hb hE hS 11 0 rfl rfl (by omega) (by decide) dX7_classOne_75 ?_
                      refine lv_iload_n hx hb dX7_classOne_76 rfl (lv_at hl 3 rfl) ?_
                      refine lv_icmp_ne (tgt := 110) hx hb dX7_classOne_77 (by decide) (fun h77 => ?_) (fun h77 => ?_)
                      · skip
                        exact J110  _ _ _ (by first | exact cx_s1 hO (Or.inr (cx_ixT (by omega) g31)) (cx_ixm (cx_ixT (by omega) g31) (by omega)) h55 | exact fun z => h66 z.2.1.1 | exact fun z => h77 z.2.1.2 | exact fun z => g88 z.2.2.1 | exact cx_s2 h94 (Or.inr (cx_ixT (by omega) g31)) (cx_ixm (cx_ixT (by omega) g31) (by omega)) g104) hS (lv_sub hl [0, 1, 2, 3, 4, 5, 6] rfl)
                      · skip
                        refine lv_aload_n hx hb dX7_classOne_80 rfl (lv_at hl 0 rfl) ?_
                        refine lv_iload hx hb dX7_classOne_81 (lv_at hl 6 rfl) ?_
                        refine lv_iconst (v := (0 : Int32)) hx hb dX7_classOne_83 (by decide) ?_
                        refine lv_iconst (v := nI 4) hx hb dX7_classOne_84 (by decide) ?_
                        refine cx_cVi (As := [.int (nI i37), .int (0 : Int32), .int (nI 4)]) (rest := []) ⟨hx, hb, hml, hown, hts⟩ hE hS (c_X7_is_at_0 l D q cI cZ n T k M d Z F i37 (0 : Int32) (nI 4) (by first | assumption | omega | rfl) (by first | assumption | omega | rfl)) (cwV 3 hts gX7_classOne_X7_is rfl rfl rfl (by decide +kernel) ⟨Nat.le_of_ble_eq_true rfl, Nat.le_of_ble_eq_true rfl⟩) 0 7 rfl rfl rfl hl.1 rfl (Nat.le_of_ble_eq_true rfl) ⟨Nat.zero_le _, Nat.zero_le _⟩ dX7_classOne_85 (fun r_85 u_85 H locs hp_85 hS => ?_)
                        have hp_85 : (r_85 = 0 ∨ r_85 = 1) ∧ (¬ r_85 = 0 ↔ ¬ cx_mk ((M 3)) i37 (nI 4)) := hp_85
                        refine lv_if_eq (tgt := 110) hx hb dX7_classOne_88 (by decide) (fun h88 => ?_) (fun h88 => ?_)
                        · skip
                          have g88 : ¬ (¬ cx_mk ((M 3)) i37 (nI 4)) := fun z => hp_85.2.mpr z h88
                          exact J110  _ _ _ (by first | exact cx_s1 hO (Or.inr (cx_ixT (by omega) g31)) (cx_ixm (cx_ixT (by omega) g31) (by omega)) h55 | exact fun z => h66 z.2.1.1 | exact fun z => h77 z.2.1.2 | exact fun z => g88 z.2.2.1 | exact cx_s2 h94 (Or.inr (cx_ixT (by omega) g31)) (cx_ixm (cx_ixT (by omega) g31) (by omega)) g104) hS (lv_sub hl [0, 1, 2, 3, 4, 5, 6] rfl)
                        · skip
                          have g88 : ¬ cx_mk ((M 3)) i37 (nI 4) := hp_85.2.mp h88
                          refine lv_iload hx hb dX7_classOne_91 (lv_at hl 4 rfl) ?_
                          refine lv_iload_n hx hb dX7_classOne_93 rfl (lv_at hl 1 rfl) ?_
                          have J107 : ∀ (H : Heap) (locs : List Loc) (ls : Array Slot), (v18_l4 = nI t ∨ cx_sh (T 0) (T 2) M (cx_Ar T n) i37 t) → cx_S D vwCl A s (cyW q cI cZ n T k M d Z F) H locs → lv_has ls 7 [(0, .ref (q 0)), (1, .int (nI t)), (2, .int nm), (3, .int pm), (4, .int v18_l4), (5, .int (nI i18)), (6, .int (nI i37))] → W p l e ({ frames := 4, cells := 0, slots := 0, locals := 89 } : Room) s m args below meth c H locs 0 0 Q (F0 m 107 ls []) := by
                            intro  H locs ls h107 hS hl
                            refine lv_iload hx hb dX7_classOne_107 (lv_at hl 6 rfl) ?_
                            exact RET _ () _ _ _ _ dX7_classOne_109 rfl (⟨Or.inr ⟨h7, hq _ (by rw [show 20 - i18 = (20 - (i18 + 1)) + 1 by omega]; exact cx_one_hit g31 (by omega) hk (cx_s3 ht hn h55 ⟨h66, h77⟩ g88 h107) hnone)⟩, Or.inr (cx_ixI (by omega) (by decide))⟩) hS
                          refine lv_icmp_eq (tgt := 107) hx hb dX7_classOne_94 (by decide) (fun h94 => ?_) (fun h94 => ?_)
                          · skip
                            exact J107  _ _ _ (by first | exact Or.inl h94 | exact Or.inr g104) hS (lv_sub hl [0, 1, 2, 3, 4, 5, 6] rfl)
                          · skip
                            refine lv_aload_n hx hb dX7_classOne_97 rfl (lv_at hl 0 rfl) ?_
                            refine lv_iload hx hb dX7_classOne_98 (lv_at hl 6 rfl) ?_
                            refine lv_iload_n hx hb dX7_classOne_100 rfl (lv_at hl 1 rfl) ?_
                            refine cx_cVi (As := [.int (nI i37), .int (nI t)]) (rest := []) ⟨hx, hb, hml, hown, hts⟩ hE hS (c_X7_isShared_at_k l D q cI cZ n T k M d Z F i37 t (by first | assumption | omega | rfl) (by first | assumption | omega | rfl) (by first | assumption | omega | rfl) (by first | assumption | omega | rfl) (by first | assumption | omega | rfl) (by first | assumption | omega | rfl) (by first | assumption | omega | rfl) (by first | assumption | omega | rfl) (by first | assumption | omega | rfl) (by first | assumption | omega | rfl) (by first | assumption | omega | rfl) (by first | assumption | omega | rfl)) (cwV 2 hts gX7_classOne_X7_isShared rfl rfl rfl (by decide +kernel) ⟨Nat.le_of_ble_eq_true rfl, Nat.le_of_ble_eq_true rfl⟩) 0 7 rfl rfl rfl hl.1 rfl (Nat.le_of_ble_eq_true rfl) ⟨Nat.zero_le _, Nat.zero_le _⟩ dX7_classOne_101 (fun r_101 u_101 H locs hp_101 hS => ?_)
                            have hp_101 : (r_101 = 0 ∨ r_101 = 1) ∧ (¬ r_101 = 0 ↔ cx_sh ((T 0)) ((T 2)) M (cx_Ar T n) i37 t) := hp_101
                            refine lv_if_eq (tgt := 110) hx hb dX7_classOne_104 (by decide) (fun h104 => ?_) (fun h104 => ?_)
                            · skip
                              have g104 : ¬ (cx_sh ((T 0)) ((T 2)) M (cx_Ar T n) i37 t) := fun z => hp_101.2.mpr z h104
                              exact J110  _ _ _ (by first | exact cx_s1 hO (Or.inr (cx_ixT (by omega) g31)) (cx_ixm (cx_ixT (by omega) g31) (by omega)) h55 | exact fun z => h66 z.2.1.1 | exact fun z => h77 z.2.1.2 | exact fun z => g88 z.2.2.1 | exact cx_s2 h94 (Or.inr (cx_ixT (by omega) g31)) (cx_ixm (cx_ixT (by omega) g31) (by omega)) g104) hS (lv_sub hl [0, 1, 2, 3, 4, 5, 6] rfl)
                            · skip
                              have g104 : cx_sh ((T 0)) ((T 2)) M (cx_Ar T n) i37 t := hp_101.2.mp h104
                              exact J107  _ _ _ (by first | exact Or.inl h94 | exact Or.inr g104) hS (lv_sub hl [0, 1, 2, 3, 4, 5, 6] rfl)
            exact J37 (k - 0 + 1) 0 _ _ _ (Nat.lt_succ_self _) (by omega) (by first | exact cx_all0 | exact cx_allS hnone h110) hS (lv_sub hl [1, 2, 3, 4, 5, 6, 0] rfl)
    exact J18 (20 - 0 + 1) (nI t) 0 _ _ _ (Nat.lt_succ_self _) (by omega) (by first | exact fun r hr => hr | exact fun r hr => hq r (by rw [show 20 - i18 = (20 - (i18 + 1)) + 1 by omega]; exact cx_one_nxt g31 (fun j hj => hnone j (by omega)) hr)) hS (lv_sub hl [2, 3, 4, 5, 1, 0] rfl)
  · skip
    refine lv_iconst (v := (-1 : Int32)) hx hb dX7_classOne_10 (by decide) ?_
    exact RET _ () _ _ _ _ dX7_classOne_11 rfl (⟨Or.inl ⟨h7, rfl⟩, Or.inl rfl⟩) hS
set_option maxHeartbeats 4000000 in
set_option maxRecDepth 100000 in
theorem c_X7_findFaceOnes_at_k (l : Launch) (D : va_G) (q : Nat → Nat) (cI cZ : ClassId) (n : Nat) (T : Nat → Nat → Int32) (k : Nat) (M : Nat → Nat → Int32) (d : Nat) (Z : Nat → Nat → Int32) (F : Nat → Nat → Int32) (t : Nat) (nm : Int32) (pm : Int32) (hn : n ≤ 20) (hP : cx_P (T 3) 20) (hU : cx_R (T 4) 20) (hV : cx_R (T 5) 4) (hKN : cx_KN n T (Z 0) ((Z 3) 0)) (hk : k ≤ 80) (hO : cx_R (M 0) 20) (hOn : ∀ j, j < k → (M 0 j).toNatClampNeg < n) (hX : cx_R (M 4) 4) (ht : t < n) (hkn : ¬ (Z 3) 0 = 0) : cx_Mv l D vwCl [(cI, .int), (cZ, .boolean)] cx_NW yX7_findFaceOnes wsX7_findFaceOnes ({ frames := 4, cells := 0, slots := 0, locals := 88 } : Room) [.ref (q 0), .int (nI t), .int nm, .int pm] (cyW q cI cZ n T k M d Z F) (fun (uw : (Nat) × (Nat → Int32)) => (uw.1 ≤ 20 ∧ ∀ j, j < uw.1 → cx_ix (uw.2 j) 80) ∧ ((∀ u, u < n → cx_is (cx_Ar T n) t u → ¬ (cx_Ar T n) u u) → cx_LI (cx_fo k (T 0) M (cx_Ar T n) t nm pm) uw.2 uw.1)) (fun uw => (cyW q cI cZ n T k M uw.1 Z (cx_u F 0 uw.2))) := by
  refine cx_Mv.of (cc := cX7_findFaceOnes) (maxL := 7) cx_NW_ok (by decide) rfl (Nat.le_of_ble_eq_true rfl) ?_
  intro p e s m args below meth c Q A ls hx hb hml hown hts hE RET hS hl
  have hl : lv_has ls 7 [(0, .ref (q 0)), (1, .int (nI t)), (2, .int nm), (3, .int pm)] := hl
  have hown : s.vm.findClass RX7 = some m.cls := hown
  have hinX7 : ∀ w ∈ u_ws RX7 TX7 22, w ∈ wsX7_findFaceOnes := cx_mem [40, 41, 42, 43, 44, 45, 46, 47, 48, 49, 50, 51, 52, 53, 54, 55, 56, 57, 58, 59, 60, 61] (by decide +kernel)
  refine lv_aload_n hx hb dX7_findFaceOnes_0 rfl (lv_at hl 0 rfl) ?_
  refine lv_iconst (v := (0 : Int32)) hx hb dX7_findFaceOnes_1 (by decide) ?_
  refine cx_topr (z := nI 0) cx_n0 ?_
  refine cx_put (own := RX7) (index := 127) (C := RX7) (T := TX7) (N := 22) (k := 20) (ci := 7) (v := .int (nI 0)) (ty := .int) (ws' := (cyW q cI cZ n T k M 0 Z F)) hx hb hts hown hE hS hinX7 tyX7 tyX7_ok nmX7 0 rfl rfl (by decide) (List.mem_of_getElem? (i := 1) rfl) rfl (by decide +kernel) rfl rfl (Nat.le_of_ble_eq_true rfl) rfl dX7_findFaceOnes_2 (fun H locs hS => ?_)
  refine lv_iconst (v := (0 : Int32)) hx hb dX7_findFaceOnes_5 (by decide) ?_
  refine cx_topr (z := nI 0) (by decide) ?_
  refine lv_istore (lv' := [(4, .int (nI 0)), (0, .ref (q 0)), (1, .int (nI t)), (2, .int nm), (3, .int pm)]) hx hb dX7_findFaceOnes_6 hl (by decide) rfl (fun ls hl => ?_)
  have J8 : ∀ (N : Nat) (i8 : Nat) (d_8 : Nat) (F_0_8 : Nat → Int32) (H : Heap) (locs : List Loc) (ls : Array Slot), (n - i8 < N) → (i8 ≤ n) → (d_8 ≤ i8) → (∀ j, j < d_8 → cx_ix (F_0_8 j) 80) → (cx_LR (cx_fo k (T 0) M (cx_Ar T n) t nm pm) M F_0_8 d_8 i8 (∀ u, u < n → cx_is (cx_Ar T n) t u → ¬ (cx_Ar T n) u u)) → cx_S D vwCl A s (cyW q cI cZ n T k M d_8 Z (cx_u F 0 F_0_8)) H locs → lv_has ls 7 [(0, .ref (q 0)), (1, .int (nI t)), (2, .int nm), (3, .int pm), (4, .int (nI i8))] → W p l e ({ frames := 4, cells := 0, slots := 0, locals := 88 } : Room) s m args below meth c H locs 0 0 Q (F0 m 8 ls []) := by
    intro N8
    induction N8 with
    | zero => intro i8 d_8 F_0_8 H locs ls hN; exact absurd hN (by omega)
    | succ N8 ih8 =>
      intro i8 d_8 F_0_8 H locs ls hN8 hi8 hd hf hli hS hl
      refine lv_iload hx hb dX7_findFaceOnes_8 (lv_at hl 4 rfl) ?_
      refine lv_aload_n hx hb dX7_findFaceOnes_10 rfl (lv_at hl 0 rfl) ?_
      refine cx_get (own := RX7) (index := 65) (C := RX7) (T := TX7) (N := 22) (k := 0) (ci := 7) (v := .int (nI n)) hx hb hts hown hE hS hinX7 0 rfl rfl (by decide) (List.mem_of_getElem? (i := 2) rfl) rfl dX7_findFaceOnes_11 ?_
      refine lv_icmp_ge (tgt := 179) hx hb dX7_findFaceOnes_14 (by decide) (fun h14 => ?_) (fun h14 => ?_)
      · skip
        have g14 : n ≤ i8 := (nI_leI (a := n) (b := i8) (by omega) (by omega)).mp h14
        exact RET (d_8, F_0_8) _ _ _ _ dX7_findFaceOnes_179 (⟨⟨(show d_8 ≤ 20 by omega), hf⟩, fun z => cx_LRe hk hOn (by omega) hli z⟩) hS
      · skip
        have g14 : ¬ (n ≤ i8) := fun z => h14 ((nI_leI (a := n) (b := i8) (by omega) (by omega)).mpr z)
        refine lv_aload_n hx hb dX7_findFaceOnes_17 rfl (lv_at hl 0 rfl) ?_
        refine cx_get (own := RX7) (index := 7) (C := RX7) (T := TX7) (N := 22) (k := 1) (ci := 7) (v := .ref (q 1)) hx hb hts hown hE hS hinX7 0 rfl rfl (by decide) (List.mem_of_getElem? (i := 3) rfl) rfl dX7_findFaceOnes_18 ?_
        refine lv_iload hx hb dX7_findFaceOnes_21 (lv_at hl 4 rfl) ?_
        refine cx_iald (f := (T 0)) (n := 20) (cA := cI) hx hb hE hS 1 0 rfl rfl (by omega) (by decide) dX7_findFaceOnes_23 ?_
        refine lv_iconst (v := (1 : Int32)) hx hb dX7_findFaceOnes_24 (by decide) ?_
        have J54 : ∀ (v54_s0 : Int32) (H : Heap) (locs : List Loc) (ls : Array Slot), ((v54_s0 = 0 ∨ v54_s0 = 1) ∧ (¬ v54_s0 = 0 ↔ (T 0 i8 = 1 ∧ cx_is (cx_Ar T n) t i8 ∧ ∃ j, j < k ∧ cx_oF M (nI i8) nm pm j))) → cx_S D vwCl A s (cyW q cI cZ n T k M d_8 Z (cx_u F 0 F_0_8)) H locs → lv_has ls 7 [(0, .ref (q 0)), (1, .int (nI t)), (2, .int nm), (3, .int pm), (4, .int (nI i8))] → W p l e ({ frames := 4, cells := 0, slots := 0, locals := 88 } : Room) s m args below meth c H locs 0 0 Q (F0 m 54 ls [.int v54_s0]) := by
          intro v54_s0 H locs ls b54 hS hl
          refine lv_istore (lv' := [(5, .int v54_s0), (0, .ref (q 0)), (1, .int (nI t)), (2, .int nm), (3, .int pm), (4, .int (nI i8))]) hx hb dX7_findFaceOnes_54 hl (by decide) rfl (fun ls hl => ?_)
          refine lv_iconst (v := (0 : Int32)) hx hb dX7_findFaceOnes_56 (by decide) ?_
          refine cx_topr (z := nI 0) (by decide) ?_
          refine lv_istore (lv' := [(6, .int (nI 0)), (5, .int v54_s0), (0, .ref (q 0)), (1, .int (nI t)), (2, .int nm), (3, .int pm), (4, .int (nI i8))]) hx hb dX7_findFaceOnes_57 hl (by decide) rfl (fun ls hl => ?_)
          have J59 : ∀ (N : Nat) (v59_l5 : Int32) (i59 : Nat) (H : Heap) (locs : List Loc) (ls : Array Slot), (n - i59 < N) → (i59 ≤ n) → ((v59_l5 = 0 ∨ v59_l5 = 1) ∧ (¬ v59_l5 = 0 ↔ (T 0 i8 = 1 ∧ cx_is (cx_Ar T n) t i8 ∧ ∃ j, j < k ∧ cx_oF M (nI i8) nm pm j) ∧ ∀ g, g < i59 → ¬ (¬ g = i8 ∧ T 0 g = 1 ∧ cx_is (cx_Ar T n) t g ∧ (cx_Ar T n) g i8 ∧ ∃ j, j < k ∧ cx_oF M (nI g) nm pm j))) → cx_S D vwCl A s (cyW q cI cZ n T k M d_8 Z (cx_u F 0 F_0_8)) H locs → lv_has ls 7 [(0, .ref (q 0)), (1, .int (nI t)), (2, .int nm), (3, .int pm), (4, .int (nI i8)), (5, .int v59_l5), (6, .int (nI i59))] → W p l e ({ frames := 4, cells := 0, slots := 0, locals := 88 } : Room) s m args below meth c H locs 0 0 Q (F0 m 59 ls []) := by
            intro N59
            induction N59 with
            | zero => intro v59_l5 i59 H locs ls hN; exact absurd hN (by omega)
            | succ N59 ih59 =>
              intro v59_l5 i59 H locs ls hN59 hi59 b59_5 hS hl
              refine lv_iload hx hb dX7_findFaceOnes_59 (lv_at hl 6 rfl) ?_
              refine lv_aload_n hx hb dX7_findFaceOnes_61 rfl (lv_at hl 0 rfl) ?_
              refine cx_get (own := RX7) (index := 65) (C := RX7) (T := TX7) (N := 22) (k := 0) (ci := 7) (v := .int (nI n)) hx hb hts hown hE hS hinX7 0 rfl rfl (by decide) (List.mem_of_getElem? (i := 2) rfl) rfl dX7_findFaceOnes_62 ?_
              have J141 : ∀ (H : Heap) (locs : List Loc) (ls : Array Slot), (¬ v59_l5 = 0 ↔ (T 0 i8 = 1 ∧ cx_is (cx_Ar T n) t i8 ∧ ∃ j, j < k ∧ cx_oF M (nI i8) nm pm j) ∧ ∀ g, g < n → ¬ (¬ g = i8 ∧ T 0 g = 1 ∧ cx_is (cx_Ar T n) t g ∧ (cx_Ar T n) g i8 ∧ ∃ j, j < k ∧ cx_oF M (nI g) nm pm j)) → cx_S D vwCl A s (cyW q cI cZ n T k M d_8 Z (cx_u F 0 F_0_8)) H locs → lv_has ls 7 [(0, .ref (q 0)), (1, .int (nI t)), (2, .int nm), (3, .int pm), (4, .int (nI i8)), (5, .int v59_l5), (6, .int (nI i59))] → W p l e ({ frames := 4, cells := 0, slots := 0, locals := 88 } : Room) s m args below meth c H locs 0 0 Q (F0 m 141 ls []) := by
                intro  H locs ls h141 hS hl
                refine lv_iload hx hb dX7_findFaceOnes_141 (lv_at hl 5 rfl) ?_
                have J173 : ∀ (d_173 : Nat) (F_0_173 : Nat → Int32) (H : Heap) (locs : List Loc) (ls : Array Slot), (d_173 ≤ i8 + 1) → (∀ j, j < d_173 → cx_ix (F_0_173 j) 80) → (cx_LR (cx_fo k (T 0) M (cx_Ar T n) t nm pm) M F_0_173 d_173 (i8 + 1) (∀ u, u < n → cx_is (cx_Ar T n) t u → ¬ (cx_Ar T n) u u)) → cx_S D vwCl A s (cyW q cI cZ n T k M d_173 Z (cx_u F 0 F_0_173)) H locs → lv_has ls 7 [(0, .ref (q 0)), (1, .int (nI t)), (2, .int nm), (3, .int pm), (4, .int (nI i8)), (5, .int v59_l5), (6, .int (nI i59))] → W p l e ({ frames := 4, cells := 0, slots := 0, locals := 88 } : Room) s m args below meth c H locs 0 0 Q (F0 m 173 ls []) := by
                  intro d_173 F_0_173 H locs ls hd2 hf2 hli2 hS hl
                  refine lv_iinc (v := nI (i8 + 1)) (lv' := [(4, .int (nI (i8 + 1))), (0, .ref (q 0)), (1, .int (nI t)), (2, .int nm), (3, .int pm), (5, .int v59_l5), (6, .int (nI i59))]) hx hb dX7_findFaceOnes_173 hl (k := 4) rfl (cx_inc _) (by decide) rfl (fun ls hl => ?_)
                  refine lv_goto (tgt := 8) hx hb dX7_findFaceOnes_176 (by decide) ?_
                  exact ih8 (i8 + 1) d_173 F_0_173 _ _ _ (by (try clear h141); (try clear b59_5); (try clear b54); omega) (by (try clear h141); (try clear b59_5); (try clear b54); omega) (by (try clear h141); (try clear b59_5); (try clear b54); omega) (by first | assumption | exact fun j hj => absurd hj (by omega)) (by first | exact cx_LR0 | exact hli2) hS (lv_sub hl [1, 2, 3, 4, 0] rfl)
                refine lv_if_eq (tgt := 173) hx hb dX7_findFaceOnes_143 (by decide) (fun h143 => ?_) (fun h143 => ?_)
                · skip
                  have g143 : ¬ ((T 0 i8 = 1 ∧ cx_is (cx_Ar T n) t i8 ∧ ∃ j, j < k ∧ cx_oF M (nI i8) nm pm j) ∧ ∀ g, g < i59 → ¬ (¬ g = i8 ∧ T 0 g = 1 ∧ cx_is (cx_Ar T n) t g ∧ (cx_Ar T n) g i8 ∧ ∃ j, j < k ∧ cx_oF M (nI g) nm pm j)) := fun z => b59_5.2.mpr z h143
                  exact J173 d_8 F_0_8 _ _ _ (by (try clear g143); (try clear h141); (try clear b59_5); (try clear b54); omega) (by first | assumption | exact cx_tkS hf (cx_Lix hk hp_159 g143.1.2.2)) (by first | exact cx_LRn hn hOn hO (by omega) hli (fun z => h141.mpr z h143) | exact cx_LRy hn hk hOn hO (by omega) hli (h141.mp h143) hp_159) hS (lv_sub hl [0, 1, 2, 3, 4, 5, 6] rfl)
                · skip
                  have g143 : (T 0 i8 = 1 ∧ cx_is (cx_Ar T n) t i8 ∧ ∃ j, j < k ∧ cx_oF M (nI i8) nm pm j) ∧ ∀ g, g < i59 → ¬ (¬ g = i8 ∧ T 0 g = 1 ∧ cx_is (cx_Ar T n) t g ∧ (cx_Ar T n) g i8 ∧ ∃ j, j < k ∧ cx_oF M (nI g) nm pm j) := b59_5.2.mp h143
                  refine lv_aload_n hx hb dX7_findFaceOnes_146 rfl (lv_at hl 0 rfl) ?_
                  refine cx_get (own := RX7) (index := 59) (C := RX7) (T := TX7) (N := 22) (k := 19) (ci := 7) (v := .ref (q 17)) hx hb hts hown hE hS hinX7 0 rfl rfl (by decide) (List.mem_of_getElem? (i := 5) rfl) rfl dX7_findFaceOnes_147 ?_
                  refine lv_aload_n hx hb dX7_findFaceOnes_150 rfl (lv_at hl 0 rfl) ?_
                  refine cx_get (own := RX7) (index := 127) (C := RX7) (T := TX7) (N := 22) (k := 20) (ci := 7) (v := .int (nI d_8)) hx hb hts hown hE hS hinX7 0 rfl rfl (by decide) (List.mem_of_getElem? (i := 1) rfl) rfl dX7_findFaceOnes_151 ?_
                  refine lv_aload_n hx hb dX7_findFaceOnes_154 rfl (lv_at hl 0 rfl) ?_
                  refine lv_iload hx hb dX7_findFaceOnes_155 (lv_at hl 4 rfl) ?_
                  refine lv_iload_n hx hb dX7_findFaceOnes_157 rfl (lv_at hl 2 rfl) ?_
                  refine lv_iload_n hx hb dX7_findFaceOnes_158 rfl (lv_at hl 3 rfl) ?_
                  refine cx_cVi (As := [.int (nI i8), .int nm, .int pm]) (rest := [.int (nI d_8), .ref (q 17)]) ⟨hx, hb, hml, hown, hts⟩ hE hS (c_X7_ofFace l D q cI cZ n T k M d_8 Z (cx_u F 0 F_0_8) (nI i8) nm pm (by first | assumption | omega | rfl) (by first | assumption | omega | rfl)) (cwV 3 hts gX7_findFaceOnes_X7_ofFace rfl rfl rfl (by decide +kernel) ⟨Nat.le_of_ble_eq_true rfl, Nat.le_of_ble_eq_true rfl⟩) 0 7 rfl rfl rfl hl.1 rfl (Nat.le_of_ble_eq_true rfl) ⟨Nat.zero_le _, Nat.zero_le _⟩ dX7_findFaceOnes_159 (fun r_159 u_159 H locs hp_159 hS => ?_)
                  have hp_159 : cx_Lst (cx_oF M (nI i8) nm pm) k r_159 := hp_159
                  refine cx_iast (k := d_8) (f := F_0_8) (n := 20) (cA := cI) (ws' := (cyW q cI cZ n T k M d_8 Z (cx_u F 0 (upd F_0_8 d_8 r_159)))) hx hb hE hS 17 0 rfl rfl (by omega) (by decide) rfl dX7_findFaceOnes_162 (fun H locs hS => ?_)
                  refine lv_aload_n hx hb dX7_findFaceOnes_163 rfl (lv_at hl 0 rfl) ?_
                  refine lv_dup hx hb dX7_findFaceOnes_164 rfl ?_
                  refine cx_get (own := RX7) (index := 127) (C := RX7) (T := TX7) (N := 22) (k := 20) (ci := 7) (v := .int (nI d_8)) hx hb hts hown hE hS hinX7 0 rfl rfl (by decide) (List.mem_of_getElem? (i := 1) rfl) rfl dX7_findFaceOnes_165 ?_
                  refine lv_iconst (v := (1 : Int32)) hx hb dX7_findFaceOnes_168 (by decide) ?_
                  refine lv_iadd hx hb dX7_findFaceOnes_169 ?_
                  refine cx_topr (z := nI (d_8 + 1)) (nI_1 _) ?_
                  refine cx_put (own := RX7) (index := 127) (C := RX7) (T := TX7) (N := 22) (k := 20) (ci := 7) (v := .int (nI (d_8 + 1))) (ty := .int) (ws' := (cyW q cI cZ n T k M (d_8 + 1) Z (cx_u F 0 (upd F_0_8 d_8 r_159)))) hx hb hts hown hE hS hinX7 tyX7 tyX7_ok nmX7 0 rfl rfl (by decide) (List.mem_of_getElem? (i := 1) rfl) rfl (by decide +kernel) rfl rfl (Nat.le_of_ble_eq_true rfl) rfl dX7_findFaceOnes_170 (fun H locs hS => ?_)
                  exact J173 (d_8 + 1) (upd F_0_8 d_8 r_159) _ _ _ (by (try clear g143); (try clear h141); (try clear b59_5); (try clear b54); omega) (by first | assumption | exact cx_tkS hf (cx_Lix hk hp_159 g143.1.2.2)) (by first | exact cx_LRn hn hOn hO (by omega) hli (fun z => h141.mpr z h143) | exact cx_LRy hn hk hOn hO (by omega) hli (h141.mp h143) hp_159) hS (lv_sub hl [0, 1, 2, 3, 4, 5, 6] rfl)
              refine lv_icmp_ge (tgt := 141) hx hb dX7_findFaceOnes_65 (by decide) (fun h65 => ?_) (fun h65 => ?_)
              · skip
                have g65 : n ≤ i59 := (nI_leI (a := n) (b := i59) (by omega) (by omega)).mp h65
                exact J141  _ _ _ (by first | exact cx_is9a b59_5 h70 (by omega) | (have e : i59 = n := (by omega); rw [e] at b59_5; exact b59_5.2)) hS (lv_sub hl [0, 1, 2, 3, 4, 5, 6] rfl)
              · skip
                have g65 : ¬ (n ≤ i59) := fun z => h65 ((nI_leI (a := n) (b := i59) (by omega) (by omega)).mpr z)
                refine lv_iload hx hb dX7_findFaceOnes_68 (lv_at hl 5 rfl) ?_
                refine lv_if_eq (tgt := 141) hx hb dX7_findFaceOnes_70 (by decide) (fun h70 => ?_) (fun h70 => ?_)
                · skip
                  have g70 : ¬ ((T 0 i8 = 1 ∧ cx_is (cx_Ar T n) t i8 ∧ ∃ j, j < k ∧ cx_oF M (nI i8) nm pm j) ∧ ∀ g, g < i59 → ¬ (¬ g = i8 ∧ T 0 g = 1 ∧ cx_is (cx_Ar T n) t g ∧ (cx_Ar T n) g i8 ∧ ∃ j, j < k ∧ cx_oF M (nI g) nm pm j)) := fun z => b59_5.2.mpr z h70
                  exact J141  _ _ _ (by first | exact cx_is9a b59_5 h70 (by omega) | (have e : i59 = n := (by omega); rw [e] at b59_5; exact b59_5.2)) hS (lv_sub hl [0, 1, 2, 3, 4, 5, 6] rfl)
                · skip
                  have g70 : (T 0 i8 = 1 ∧ cx_is (cx_Ar T n) t i8 ∧ ∃ j, j < k ∧ cx_oF M (nI i8) nm pm j) ∧ ∀ g, g < i59 → ¬ (¬ g = i8 ∧ T 0 g = 1 ∧ cx_is (cx_Ar T n) t g ∧ (cx_Ar T n) g i8 ∧ ∃ j, j < k ∧ cx_oF M (nI g) nm pm j) := b59_5.2.mp h70
                  refine lv_iload hx hb dX7_findFaceOnes_73 (lv_at hl 6 rfl) ?_
                  refine lv_iload hx hb dX7_findFaceOnes_75 (lv_at hl 4 rfl) ?_
                  have J133 : ∀ (v133_s0 : Int32) (H : Heap) (locs : List Loc) (ls : Array Slot), ((v133_s0 = 0 ∨ v133_s0 = 1) ∧ (¬ v133_s0 = 0 ↔ (T 0 i8 = 1 ∧ cx_is (cx_Ar T n) t i8 ∧ ∃ j, j < k ∧ cx_oF M (nI i8) nm pm j) ∧ ∀ g, g < (i59 + 1) → ¬ (¬ g = i8 ∧ T 0 g = 1 ∧ cx_is (cx_Ar T n) t g ∧ (cx_Ar T n) g i8 ∧ ∃ j, j < k ∧ cx_oF M (nI g) nm pm j))) → cx_S D vwCl A s (cyW q cI cZ n T k M d_8 Z (cx_u F 0 F_0_8)) H locs → lv_has ls 7 [(0, .ref (q 0)), (1, .int (nI t)), (2, .int nm), (3, .int pm), (4, .int (nI i8)), (5, .int v59_l5), (6, .int (nI i59))] → W p l e ({ frames := 4, cells := 0, slots := 0, locals := 88 } : Room) s m args below meth c H locs 0 0 Q (F0 m 133 ls [.int v133_s0]) := by
                    intro v133_s0 H locs ls b133 hS hl
                    refine lv_istore (lv' := [(5, .int v133_s0), (0, .ref (q 0)), (1, .int (nI t)), (2, .int nm), (3, .int pm), (4, .int (nI i8)), (6, .int (nI i59))]) hx hb dX7_findFaceOnes_133 hl (by decide) rfl (fun ls hl => ?_)
                    refine lv_iinc (v := nI (i59 + 1)) (lv' := [(6, .int (nI (i59 + 1))), (5, .int v133_s0), (0, .ref (q 0)), (1, .int (nI t)), (2, .int nm), (3, .int pm), (4, .int (nI i8))]) hx hb dX7_findFaceOnes_135 hl (k := 6) rfl (cx_inc _) (by decide) rfl (fun ls hl => ?_)
                    refine lv_goto (tgt := 59) hx hb dX7_findFaceOnes_138 (by decide) ?_
                    exact ih59 v133_s0 (i59 + 1) _ _ _ (by (try clear g70); (try clear g143); (try clear b133); (try clear h141); (try clear b59_5); (try clear b54); omega) (by (try clear g70); (try clear g143); (try clear b133); (try clear h141); (try clear b59_5); (try clear b54); omega) (by first | exact b133 | (try clear RET); (try clear hS); (try clear hl); (try clear hE); (try clear hts); (try clear hb); (try clear hx); (try clear hml); (try clear hown); (try clear hinX7); (try clear J8); (try clear ih8); (try clear hN8); (try clear J54); (try clear J59); (try clear ih59); (try clear hN59); (try clear J141); (try clear J133); have y10 : ¬ (1 : Int32) = 0 := (by decide); first | assumption | ((try rw [cx_alS (P := fun g => (¬ g = i8 ∧ T 0 g = 1 ∧ cx_is (cx_Ar T n) t g ∧ (cx_Ar T n) g i8 ∧ ∃ j, j < k ∧ cx_oF M (nI g) nm pm j))]); grind)) hS (lv_sub hl [2, 3, 4, 5, 6, 1, 0] rfl)
                  have J128 : ∀ (H : Heap) (locs : List Loc) (ls : Array Slot), ((T 0 i8 = 1 ∧ cx_is (cx_Ar T n) t i8 ∧ ∃ j, j < k ∧ cx_oF M (nI i8) nm pm j) ∧ ∀ g, g < (i59 + 1) → ¬ (¬ g = i8 ∧ T 0 g = 1 ∧ cx_is (cx_Ar T n) t g ∧ (cx_Ar T n) g i8 ∧ ∃ j, j < k ∧ cx_oF M (nI g) nm pm j)) → cx_S D vwCl A s (cyW q cI cZ n T k M d_8 Z (cx_u F 0 F_0_8)) H locs → lv_has ls 7 [(0, .ref (q 0)), (1, .int (nI t)), (2, .int nm), (3, .int pm), (4, .int (nI i8)), (5, .int v59_l5), (6, .int (nI i59))] → W p l e ({ frames := 4, cells := 0, slots := 0, locals := 88 } : Room) s m args below meth c H locs 0 0 Q (F0 m 128 ls []) := by
                    intro  H locs ls f128 hS hl
                    refine lv_iconst (v := (1 : Int32)) hx hb dX7_findFaceOnes_128 (by decide) ?_
                    refine lv_goto (tgt := 133) hx hb dX7_findFaceOnes_129 (by decide) ?_
                    exact J133 (1 : Int32) _ _ _ (cx_e1 (by (try clear RET); (try clear hS); (try clear hl); (try clear hE); (try clear hts); (try clear hb); (try clear hx); (try clear hml); (try clear hown); (try clear hinX7); (try clear J8); (try clear ih8); (try clear hN8); (try clear J54); (try clear J59); (try clear ih59); (try clear hN59); (try clear J141); (try clear J133); (try clear J128); have y10 : ¬ (1 : Int32) = 0 := (by decide); first | assumption | ((try rw [cx_alS (P := fun g => (¬ g = i8 ∧ T 0 g = 1 ∧ cx_is (cx_Ar T n) t g ∧ (cx_Ar T n) g i8 ∧ ∃ j, j < k ∧ cx_oF M (nI g) nm pm j))]); grind))) hS (lv_sub hl [0, 1, 2, 3, 4, 5, 6] rfl)
                  refine lv_icmp_eq (tgt := 128) hx hb dX7_findFaceOnes_77 (by decide) (fun h77 => ?_) (fun h77 => ?_)
                  · skip
                    have g77 : i59 = i8 := (nI_eq (a := i59) (b := i8) (by omega) (by omega)).mp h77
                    exact J128  _ _ _ (by (try clear RET); (try clear hS); (try clear hl); (try clear hE); (try clear hts); (try clear hb); (try clear hx); (try clear hml); (try clear hown); (try clear hinX7); (try clear J8); (try clear ih8); (try clear hN8); (try clear J54); (try clear J59); (try clear ih59); (try clear hN59); (try clear J141); (try clear J133); (try clear J128); have y10 : ¬ (1 : Int32) = 0 := (by decide); first | assumption | ((try rw [cx_alS (P := fun g => (¬ g = i8 ∧ T 0 g = 1 ∧ cx_is (cx_Ar T n) t g ∧ (cx_Ar T n) g i8 ∧ ∃ j, j < k ∧ cx_oF M (nI g) nm pm j))]); grind)) hS (lv_sub hl [0, 1, 2, 3, 4, 5, 6] rfl)
                  · skip
                    have g77 : ¬ (i59 = i8) := fun z => h77 ((nI_eq (a := i59) (b := i8) (by omega) (by omega)).mpr z)
                    refine lv_aload_n hx hb dX7_findFaceOnes_80 rfl (lv_at hl 0 rfl) ?_
                    refine cx_get (own := RX7) (index := 7) (C := RX7) (T := TX7) (N := 22) (k := 1) (ci := 7) (v := .ref (q 1)) hx hb hts hown hE hS hinX7 0 rfl rfl (by decide) (List.mem_of_getElem? (i := 3) rfl) rfl dX7_findFaceOnes_81 ?_
                    refine lv_iload hx hb dX7_findFaceOnes_84 (lv_at hl 6 rfl) ?_
                    refine cx_iald (f := (T 0)) (n := 20) (cA := cI) hx hb hE hS 1 0 rfl rfl (by omega) (by decide) dX7_findFaceOnes_86 ?_
                    refine lv_iconst (v := (1 : Int32)) hx hb dX7_findFaceOnes_87 (by decide) ?_
                    refine lv_icmp_ne (tgt := 128) hx hb dX7_findFaceOnes_88 (by decide) (fun h88 => ?_) (fun h88 => ?_)
                    · skip
                      exact J128  _ _ _ (by (try clear RET); (try clear hS); (try clear hl); (try clear hE); (try clear hts); (try clear hb); (try clear hx); (try clear hml); (try clear hown); (try clear hinX7); (try clear J8); (try clear ih8); (try clear hN8); (try clear J54); (try clear J59); (try clear ih59); (try clear hN59); (try clear J141); (try clear J133); (try clear J128); have y10 : ¬ (1 : Int32) = 0 := (by decide); first | assumption | ((try rw [cx_alS (P := fun g => (¬ g = i8 ∧ T 0 g = 1 ∧ cx_is (cx_Ar T n) t g ∧ (cx_Ar T n) g i8 ∧ ∃ j, j < k ∧ cx_oF M (nI g) nm pm j))]); grind)) hS (lv_sub hl [0, 1, 2, 3, 4, 5, 6] rfl)
                    · skip
                      refine lv_aload_n hx hb dX7_findFaceOnes_91 rfl (lv_at hl 0 rfl) ?_
                      refine lv_iload_n hx hb dX7_findFaceOnes_92 rfl (lv_at hl 1 rfl) ?_
                      refine lv_iload hx hb dX7_findFaceOnes_93 (lv_at hl 6 rfl) ?_
                      refine cx_cVi (As := [.int (nI t), .int (nI i59)]) (rest := []) ⟨hx, hb, hml, hown, hts⟩ hE hS (c_X7_isOf_at_k l D q cI cZ n T k M d_8 Z (cx_u F 0 F_0_8) t i59 (by first | assumption | omega | rfl) (by first | assumption | omega | rfl) (by first | assumption | omega | rfl) (by first | assumption | omega | rfl) (by first | assumption | omega | rfl) (by first | assumption | omega | rfl) (by first | assumption | omega | rfl) (by first | assumption | omega | rfl)) (cwV 2 hts gX7_findFaceOnes_X7_isOf rfl rfl rfl (by decide +kernel) ⟨Nat.le_of_ble_eq_true rfl, Nat.le_of_ble_eq_true rfl⟩) 0 7 rfl rfl rfl hl.1 rfl (Nat.le_of_ble_eq_true rfl) ⟨Nat.zero_le _, Nat.zero_le _⟩ dX7_findFaceOnes_95 (fun r_95 u_95 H locs hp_95 hS => ?_)
                      have hp_95 : ((r_95 = 0 ∨ r_95 = 1) ∧ (¬ r_95 = 0 ↔ cx_is (cx_Ar T n) t i59)) ∧ ((∀ wa wu, wa < n → wu < n → (¬ ((Z 0)) (20 * wa + wu) = 0 ↔ (cx_w3 n (cx_Er T n) n) wa wu)) ∧ ¬ (Z 3) 0 = 0) := hp_95
                      refine lv_if_eq (tgt := 128) hx hb dX7_findFaceOnes_98 (by decide) (fun h98 => ?_) (fun h98 => ?_)
                      · skip
                        have g98 : ¬ (cx_is (cx_Ar T n) t i59) := fun z => hp_95.1.2.mpr z h98
                        exact J128  _ _ _ (by (try clear RET); (try clear hS); (try clear hl); (try clear hE); (try clear hts); (try clear hb); (try clear hx); (try clear hml); (try clear hown); (try clear hinX7); (try clear J8); (try clear ih8); (try clear hN8); (try clear J54); (try clear J59); (try clear ih59); (try clear hN59); (try clear J141); (try clear J133); (try clear J128); have y10 : ¬ (1 : Int32) = 0 := (by decide); first | assumption | ((try rw [cx_alS (P := fun g => (¬ g = i8 ∧ T 0 g = 1 ∧ cx_is (cx_Ar T n) t g ∧ (cx_Ar T n) g i8 ∧ ∃ j, j < k ∧ cx_oF M (nI g) nm pm j))]); grind)) hS (lv_sub hl [0, 1, 2, 3, 4, 5, 6] rfl)
                      · skip
                        have g98 : cx_is (cx_Ar T n) t i59 := hp_95.1.2.mp h98
                        refine lv_aload_n hx hb dX7_findFaceOnes_101 rfl (lv_at hl 0 rfl) ?_
                        refine cx_get (own := RX7) (index := 52) (C := RX7) (T := TX7) (N := 22) (k := 16) (ci := 7) (v := .ref (q 15)) hx hb hts hown hE hS hinX7 0 rfl rfl (by decide) (List.mem_of_getElem? (i := 4) rfl) rfl dX7_findFaceOnes_102 ?_
                        refine lv_bipush (v := nI 20) hx hb dX7_findFaceOnes_105 (by decide) ?_
                        refine lv_iload hx hb dX7_findFaceOnes_107 (lv_at hl 6 rfl) ?_
                        refine lv_imul hx hb dX7_findFaceOnes_109 ?_
                        refine cx_topr (z := nI (20 * i59)) (pk_mul _ _) ?_
                        refine lv_iload hx hb dX7_findFaceOnes_110 (lv_at hl 4 rfl) ?_
                        refine lv_iadd hx hb dX7_findFaceOnes_112 ?_
                        refine cx_topr (z := nI (20 * i59 + i8)) (nI_add _ _) ?_
                        refine cx_zald (f := (Z 0)) (n := 400) (cA := cZ) hx hb hE hS 15 1 rfl rfl (by omega) (by decide) dX7_findFaceOnes_113 ?_
                        refine lv_if_eq (tgt := 128) hx hb dX7_findFaceOnes_114 (by decide) (fun h114 => ?_) (fun h114 => ?_)
                        · skip
                          have y114 : ¬ cx_Ar T n i59 i8 := fun z => (hp_95.2.1 _ _ (by omega) (by omega)).mpr z.2.2 h114
                          exact J128  _ _ _ (by (try clear RET); (try clear hS); (try clear hl); (try clear hE); (try clear hts); (try clear hb); (try clear hx); (try clear hml); (try clear hown); (try clear hinX7); (try clear J8); (try clear ih8); (try clear hN8); (try clear J54); (try clear J59); (try clear ih59); (try clear hN59); (try clear J141); (try clear J133); (try clear J128); have y10 : ¬ (1 : Int32) = 0 := (by decide); first | assumption | ((try rw [cx_alS (P := fun g => (¬ g = i8 ∧ T 0 g = 1 ∧ cx_is (cx_Ar T n) t g ∧ (cx_Ar T n) g i8 ∧ ∃ j, j < k ∧ cx_oF M (nI g) nm pm j))]); grind)) hS (lv_sub hl [0, 1, 2, 3, 4, 5, 6] rfl)
                        · skip
                          have y114 : cx_Ar T n i59 i8 := ⟨(by omega), (by omega), (hp_95.2.1 _ _ (by omega) (by omega)).mp h114⟩
                          refine lv_aload_n hx hb dX7_findFaceOnes_117 rfl (lv_at hl 0 rfl) ?_
                          refine lv_iload hx hb dX7_findFaceOnes_118 (lv_at hl 6 rfl) ?_
                          refine lv_iload_n hx hb dX7_findFaceOnes_120 rfl (lv_at hl 2 rfl) ?_
                          refine lv_iload_n hx hb dX7_findFaceOnes_121 rfl (lv_at hl 3 rfl) ?_
                          refine cx_cVi (As := [.int (nI i59), .int nm, .int pm]) (rest := []) ⟨hx, hb, hml, hown, hts⟩ hE hS (c_X7_ofFace l D q cI cZ n T k M d_8 Z (cx_u F 0 F_0_8) (nI i59) nm pm (by first | assumption | omega | rfl) (by first | assumption | omega | rfl)) (cwV 3 hts gX7_findFaceOnes_X7_ofFace rfl rfl rfl (by decide +kernel) ⟨Nat.le_of_ble_eq_true rfl, Nat.le_of_ble_eq_true rfl⟩) 0 7 rfl rfl rfl hl.1 rfl (Nat.le_of_ble_eq_true rfl) ⟨Nat.zero_le _, Nat.zero_le _⟩ dX7_findFaceOnes_122 (fun r_122 u_122 H locs hp_122 hS => ?_)
                          have hp_122 : cx_Lst (cx_oF M (nI i59) nm pm) k r_122 := hp_122
                          refine lv_if_ge (tgt := 132) hx hb dX7_findFaceOnes_125 (by decide) (fun h125 => ?_) (fun h125 => ?_)
                          · skip
                            have y125 := cx_Lex hp_122 (Int32.not_lt.mpr h125)
                            refine lv_iconst (v := (0 : Int32)) hx hb dX7_findFaceOnes_132 (by decide) ?_
                            exact J133 (0 : Int32) _ _ _ (cx_e0 (by (try clear RET); (try clear hS); (try clear hl); (try clear hE); (try clear hts); (try clear hb); (try clear hx); (try clear hml); (try clear hown); (try clear hinX7); (try clear J8); (try clear ih8); (try clear hN8); (try clear J54); (try clear J59); (try clear ih59); (try clear hN59); (try clear J141); (try clear J133); (try clear J128); have y10 : ¬ (1 : Int32) = 0 := (by decide); first | assumption | ((try rw [cx_alS (P := fun g => (¬ g = i8 ∧ T 0 g = 1 ∧ cx_is (cx_Ar T n) t g ∧ (cx_Ar T n) g i8 ∧ ∃ j, j < k ∧ cx_oF M (nI g) nm pm j))]); grind))) hS (lv_sub hl [0, 1, 2, 3, 4, 5, 6] rfl)
                          · skip
                            have y125 := cx_Lno hk hp_122 (Int32.not_le.mp h125)
                            exact J128  _ _ _ (by (try clear RET); (try clear hS); (try clear hl); (try clear hE); (try clear hts); (try clear hb); (try clear hx); (try clear hml); (try clear hown); (try clear hinX7); (try clear J8); (try clear ih8); (try clear hN8); (try clear J54); (try clear J59); (try clear ih59); (try clear hN59); (try clear J141); (try clear J133); (try clear J128); have y10 : ¬ (1 : Int32) = 0 := (by decide); first | assumption | ((try rw [cx_alS (P := fun g => (¬ g = i8 ∧ T 0 g = 1 ∧ cx_is (cx_Ar T n) t g ∧ (cx_Ar T n) g i8 ∧ ∃ j, j < k ∧ cx_oF M (nI g) nm pm j))]); grind)) hS (lv_sub hl [0, 1, 2, 3, 4, 5, 6] rfl)
          exact J59 (n - 0 + 1) v54_s0 0 _ _ _ (Nat.lt_succ_self _) (by (try clear g70); (try clear g143); (try clear b59_5); (try clear b54); omega) (by first | exact b54 | (try clear RET); (try clear hS); (try clear hl); (try clear hE); (try clear hts); (try clear hb); (try clear hx); (try clear hml); (try clear hown); (try clear hinX7); (try clear J8); (try clear ih8); (try clear hN8); (try clear J54); (try clear J59); (try clear ih59); (try clear hN59); have y10 : ¬ (1 : Int32) = 0 := (by decide); first | assumption | ((try rw [cx_alS (P := fun g => (¬ g = i8 ∧ T 0 g = 1 ∧ cx_is (cx_Ar T n) t g ∧ (cx_Ar T n) g i8 ∧ ∃ j, j < k ∧ cx_oF M (nI g) nm pm j))]); grind)) hS (lv_sub hl [2, 3, 4, 5, 6, 1, 0] rfl)
        have J53 : ∀ (H : Heap) (locs : List Loc) (ls : Array Slot), (¬ ((T 0 i8 = 1 ∧ cx_is (cx_Ar T n) t i8 ∧ ∃ j, j < k ∧ cx_oF M (nI i8) nm pm j))) → cx_S D vwCl A s (cyW q cI cZ n T k M d_8 Z (cx_u F 0 F_0_8)) H locs → lv_has ls 7 [(0, .ref (q 0)), (1, .int (nI t)), (2, .int nm), (3, .int pm), (4, .int (nI i8))] → W p l e ({ frames := 4, cells := 0, slots := 0, locals := 88 } : Room) s m args below meth c H locs 0 0 Q (F0 m 53 ls []) := by
          intro  H locs ls f53 hS hl
          refine lv_iconst (v := (0 : Int32)) hx hb dX7_findFaceOnes_53 (by decide) ?_
          exact J54 (0 : Int32) _ _ _ (cx_e0 (by (try clear RET); (try clear hS); (try clear hl); (try clear hE); (try clear hts); (try clear hb); (try clear hx); (try clear hml); (try clear hown); (try clear hinX7); (try clear J8); (try clear ih8); (try clear hN8); (try clear J54); (try clear J53); have y10 : ¬ (1 : Int32) = 0 := (by decide); first | assumption | ((try rw [cx_alS (P := fun g => (¬ g = i8 ∧ T 0 g = 1 ∧ cx_is (cx_Ar T n) t g ∧ (cx_Ar T n) g i8 ∧ ∃ j, j < k ∧ cx_oF M (nI g) nm pm j))]); grind))) hS (lv_sub hl [0, 1, 2, 3, 4] rfl)
        refine lv_icmp_ne (tgt := 53) hx hb dX7_findFaceOnes_25 (by decide) (fun h25 => ?_) (fun h25 => ?_)
        · skip
          exact J53  _ _ _ (by (try clear RET); (try clear hS); (try clear hl); (try clear hE); (try clear hts); (try clear hb); (try clear hx); (try clear hml); (try clear hown); (try clear hinX7); (try clear J8); (try clear ih8); (try clear hN8); (try clear J54); (try clear J53); have y10 : ¬ (1 : Int32) = 0 := (by decide); first | assumption | ((try rw [cx_alS (P := fun g => (¬ g = i8 ∧ T 0 g = 1 ∧ cx_is (cx_Ar T n) t g ∧ (cx_Ar T n) g i8 ∧ ∃ j, j < k ∧ cx_oF M (nI g) nm pm j))]); grind)) hS (lv_sub hl [0, 1, 2, 3, 4] rfl)
        · skip
          refine lv_aload_n hx hb dX7_findFaceOnes_28 rfl (lv_at hl 0 rfl) ?_
          refine lv_iload_n hx hb dX7_findFaceOnes_29 rfl (lv_at hl 1 rfl) ?_
          refine lv_iload hx hb dX7_findFaceOnes_30 (lv_at hl 4 rfl) ?_
          refine cx_cVi (As := [.int (nI t), .int (nI i8)]) (rest := []) ⟨hx, hb, hml, hown, hts⟩ hE hS (c_X7_isOf_at_k l D q cI cZ n T k M d_8 Z (cx_u F 0 F_0_8) t i8 (by first | assumption | omega | rfl) (by first | assumption | omega | rfl) (by first | assumption | omega | rfl) (by first | assumption | omega | rfl) (by first | assumption | omega | rfl) (by first | assumption | omega | rfl) (by first | assumption | omega | rfl) (by first | assumption | omega | rfl)) (cwV 2 hts gX7_findFaceOnes_X7_isOf rfl rfl rfl (by decide +kernel) ⟨Nat.le_of_ble_eq_true rfl, Nat.le_of_ble_eq_true rfl⟩) 0 7 rfl rfl rfl hl.1 rfl (Nat.le_of_ble_eq_true rfl) ⟨Nat.zero_le _, Nat.zero_le _⟩ dX7_findFaceOnes_32 (fun r_32 u_32 H locs hp_32 hS => ?_)
          have hp_32 : ((r_32 = 0 ∨ r_32 = 1) ∧ (¬ r_32 = 0 ↔ cx_is (cx_Ar T n) t i8)) ∧ ((∀ wa wu, wa < n → wu < n → (¬ ((Z 0)) (20 * wa + wu) = 0 ↔ (cx_w3 n (cx_Er T n) n) wa wu)) ∧ ¬ (Z 3) 0 = 0) := hp_32
          refine lv_if_eq (tgt := 53) hx hb dX7_findFaceOnes_35 (by decide) (fun h35 => ?_) (fun h35 => ?_)
          · skip
            have g35 : ¬ (cx_is (cx_Ar T n) t i8) := fun z => hp_32.1.2.mpr z h35
            exact J53  _ _ _ (by (try clear RET); (try clear hS); (try clear hl); (try clear hE); (try clear hts); (try clear hb); (try clear hx); (try clear hml); (try clear hown); (try clear hinX7); (try clear J8); (try clear ih8); (try clear hN8); (try clear J54); (try clear J53); have y10 : ¬ (1 : Int32) = 0 := (by decide); first | assumption | ((try rw [cx_alS (P := fun g => (¬ g = i8 ∧ T 0 g = 1 ∧ cx_is (cx_Ar T n) t g ∧ (cx_Ar T n) g i8 ∧ ∃ j, j < k ∧ cx_oF M (nI g) nm pm j))]); grind)) hS (lv_sub hl [0, 1, 2, 3, 4] rfl)
          · skip
            have g35 : cx_is (cx_Ar T n) t i8 := hp_32.1.2.mp h35
            refine lv_aload_n hx hb dX7_findFaceOnes_38 rfl (lv_at hl 0 rfl) ?_
            refine lv_iload hx hb dX7_findFaceOnes_39 (lv_at hl 4 rfl) ?_
            refine lv_iload_n hx hb dX7_findFaceOnes_41 rfl (lv_at hl 2 rfl) ?_
            refine lv_iload_n hx hb dX7_findFaceOnes_42 rfl (lv_at hl 3 rfl) ?_
            refine cx_cVi (As := [.int (nI i8), .int nm, .int pm]) (rest := []) ⟨hx, hb, hml, hown, hts⟩ hE hS (c_X7_ofFace l D q cI cZ n T k M d_8 Z (cx_u F 0 F_0_8) (nI i8) nm pm (by first | assumption | omega | rfl) (by first | assumption | omega | rfl)) (cwV 3 hts gX7_findFaceOnes_X7_ofFace rfl rfl rfl (by decide +kernel) ⟨Nat.le_of_ble_eq_true rfl, Nat.le_of_ble_eq_true rfl⟩) 0 7 rfl rfl rfl hl.1 rfl (Nat.le_of_ble_eq_true rfl) ⟨Nat.zero_le _, Nat.zero_le _⟩ dX7_findFaceOnes_43 (fun r_43 u_43 H locs hp_43 hS => ?_)
            have hp_43 : cx_Lst (cx_oF M (nI i8) nm pm) k r_43 := hp_43
            refine lv_if_lt (tgt := 53) hx hb dX7_findFaceOnes_46 (by decide) (fun h46 => ?_) (fun h46 => ?_)
            · skip
              have y46 := cx_Lno hk hp_43 h46
              exact J53  _ _ _ (by (try clear RET); (try clear hS); (try clear hl); (try clear hE); (try clear hts); (try clear hb); (try clear hx); (try clear hml); (try clear hown); (try clear hinX7); (try clear J8); (try clear ih8); (try clear hN8); (try clear J54); (try clear J53); have y10 : ¬ (1 : Int32) = 0 := (by decide); first | assumption | ((try rw [cx_alS (P := fun g => (¬ g = i8 ∧ T 0 g = 1 ∧ cx_is (cx_Ar T n) t g ∧ (cx_Ar T n) g i8 ∧ ∃ j, j < k ∧ cx_oF M (nI g) nm pm j))]); grind)) hS (lv_sub hl [0, 1, 2, 3, 4] rfl)
            · skip
              have y46 := cx_Lex hp_43 h46
              refine lv_iconst (v := (1 : Int32)) hx hb dX7_findFaceOnes_49 (by decide) ?_
              refine lv_goto (tgt := 54) hx hb dX7_findFaceOnes_50 (by decide) ?_
              exact J54 (1 : Int32) _ _ _ (cx_e1 (by (try clear RET); (try clear hS); (try clear hl); (try clear hE); (try clear hts); (try clear hb); (try clear hx); (try clear hml); (try clear hown); (try clear hinX7); (try clear J8); (try clear ih8); (try clear hN8); (try clear J54); (try clear J53); have y10 : ¬ (1 : Int32) = 0 := (by decide); first | assumption | ((try rw [cx_alS (P := fun g => (¬ g = i8 ∧ T 0 g = 1 ∧ cx_is (cx_Ar T n) t g ∧ (cx_Ar T n) g i8 ∧ ∃ j, j < k ∧ cx_oF M (nI g) nm pm j))]); grind))) hS (lv_sub hl [0, 1, 2, 3, 4] rfl)
  exact J8 (n - 0 + 1) 0 0 (F 0) _ _ _ (Nat.lt_succ_self _) (by (try clear g70); (try clear g143); omega) (by (try clear g70); (try clear g143); omega) (by first | assumption | exact fun j hj => absurd hj (by omega)) (by first | exact cx_LR0 | exact hli2) hS (lv_sub hl [1, 2, 3, 4, 0] rfl)
set_option maxHeartbeats 4000000 in
set_option maxRecDepth 100000 in
theorem c_X7_mayTake (l : Launch) (D : va_G) (q : Nat → Nat) (cI cZ : ClassId) (n : Nat) (T : Nat → Nat → Int32) (k : Nat) (M : Nat → Nat → Int32) (d : Nat) (Z : Nat → Nat → Int32) (F : Nat → Nat → Int32) (mm : Nat) (hO : cx_R (M 0) 20) (hX : cx_R (M 4) 4) (hm : mm < 80) : cx_Mi l D vwCl [(cI, .int), (cZ, .boolean)] cx_NW yX7_mayTake wsX7_mayTake ({ frames := 1, cells := 0, slots := 0, locals := 23 } : Room) [.ref (q 0), .int (nI mm)] (cyW q cI cZ n T k M d Z F) (fun (r : Int32) (uw : Unit) => (r = 0 ∨ r = 1) ∧ (¬ r = 0 ↔ cx_mtk (T 0) M mm)) (fun _ => (cyW q cI cZ n T k M d Z F)) := by
  refine cx_Mi.of (cc := cX7_mayTake) (maxL := 2) cx_NW_ok (by decide) rfl (Nat.le_of_ble_eq_true rfl) ?_
  intro p e s m args below meth c Q A ls hx hb hml hown hts hE RET hS hl
  have hl : lv_has ls 2 [(0, .ref (q 0)), (1, .int (nI mm))] := hl
  have hown : s.vm.findClass RX7 = some m.cls := hown
  have hinX7 : ∀ w ∈ u_ws RX7 TX7 22, w ∈ wsX7_mayTake := cx_mem [10, 11, 12, 13, 14, 15, 16, 17, 18, 19, 20, 21, 22, 23, 24, 25, 26, 27, 28, 29, 30, 31] (by decide +kernel)
  have yac := cx_ac (hX mm)
  refine lv_aload_n hx hb dX7_mayTake_0 rfl (lv_at hl 0 rfl) ?_
  refine lv_iload_n hx hb dX7_mayTake_1 rfl (lv_at hl 1 rfl) ?_
  refine lv_iconst (v := (0 : Int32)) hx hb dX7_mayTake_2 (by decide) ?_
  refine lv_iconst (v := nI 4) hx hb dX7_mayTake_3 (by decide) ?_
  refine cx_cVi (As := [.int (nI mm), .int (0 : Int32), .int (nI 4)]) (rest := []) ⟨hx, hb, hml, hown, hts⟩ hE hS (c_X7_is_at_0 l D q cI cZ n T k M d Z F mm (0 : Int32) (nI 4) (by first | assumption | omega | rfl) (by first | assumption | omega | rfl)) (cwV 3 hts gX7_mayTake_X7_is rfl rfl rfl (by decide +kernel) ⟨Nat.le_of_ble_eq_true rfl, Nat.le_of_ble_eq_true rfl⟩) 0 7 rfl rfl rfl hl.1 rfl (Nat.le_of_ble_eq_true rfl) ⟨Nat.zero_le _, Nat.zero_le _⟩ dX7_mayTake_4 (fun r_4 u_4 H locs hp_4 hS => ?_)
  have hp_4 : (r_4 = 0 ∨ r_4 = 1) ∧ (¬ r_4 = 0 ↔ ¬ cx_mk ((M 3)) mm (nI 4)) := hp_4
  have J39 : ∀ (v39_s0 : Int32) (H : Heap) (locs : List Loc) (ls : Array Slot), ((v39_s0 = 0 ∨ v39_s0 = 1) ∧ (¬ v39_s0 = 0 ↔ cx_mtk (T 0) M mm)) → cx_S D vwCl A s (cyW q cI cZ n T k M d Z F) H locs → lv_has ls 2 [(0, .ref (q 0)), (1, .int (nI mm))] → W p l e ({ frames := 1, cells := 0, slots := 0, locals := 23 } : Room) s m args below meth c H locs 0 0 Q (F0 m 39 ls [.int v39_s0]) := by
    intro v39_s0 H locs ls b39 hS hl
    exact RET _ () _ _ _ _ dX7_mayTake_39 (cx_nb b39.1) (by first | exact b39 | (try clear RET); (try clear hS); (try clear hl); (try clear hE); (try clear hts); (try clear hb); (try clear hx); (try clear hml); (try clear hown); (try clear hinX7); (try clear J39); have y10 : ¬ (1 : Int32) = 0 := (by decide); first | assumption | (unfold cx_mtk; grind)) hS
  have J38 : ∀ (H : Heap) (locs : List Loc) (ls : Array Slot), (¬ (cx_mtk (T 0) M mm)) → cx_S D vwCl A s (cyW q cI cZ n T k M d Z F) H locs → lv_has ls 2 [(0, .ref (q 0)), (1, .int (nI mm))] → W p l e ({ frames := 1, cells := 0, slots := 0, locals := 23 } : Room) s m args below meth c H locs 0 0 Q (F0 m 38 ls []) := by
    intro  H locs ls f38 hS hl
    refine lv_iconst (v := (0 : Int32)) hx hb dX7_mayTake_38 (by decide) ?_
    exact J39 (0 : Int32) _ _ _ (cx_e0 (by (try clear RET); (try clear hS); (try clear hl); (try clear hE); (try clear hts); (try clear hb); (try clear hx); (try clear hml); (try clear hown); (try clear hinX7); (try clear J39); (try clear J38); have y10 : ¬ (1 : Int32) = 0 := (by decide); first | assumption | (unfold cx_mtk; grind))) hS (lv_sub hl [0, 1] rfl)
  refine lv_if_eq (tgt := 38) hx hb dX7_mayTake_7 (by decide) (fun h7 => ?_) (fun h7 => ?_)
  · skip
    have g7 : ¬ (¬ cx_mk ((M 3)) mm (nI 4)) := fun z => hp_4.2.mpr z h7
    exact J38  _ _ _ (by (try clear RET); (try clear hS); (try clear hl); (try clear hE); (try clear hts); (try clear hb); (try clear hx); (try clear hml); (try clear hown); (try clear hinX7); (try clear J39); (try clear J38); have y10 : ¬ (1 : Int32) = 0 := (by decide); first | assumption | (unfold cx_mtk; grind)) hS (lv_sub hl [0, 1] rfl)
  · skip
    have g7 : ¬ cx_mk ((M 3)) mm (nI 4) := hp_4.2.mp h7
    refine lv_aload_n hx hb dX7_mayTake_10 rfl (lv_at hl 0 rfl) ?_
    refine cx_get (own := RX7) (index := 46) (C := RX7) (T := TX7) (N := 22) (k := 14) (ci := 7) (v := .ref (q 13)) hx hb hts hown hE hS hinX7 0 rfl rfl (by decide) (List.mem_of_getElem? (i := 1) rfl) rfl dX7_mayTake_11 ?_
    refine lv_iload_n hx hb dX7_mayTake_14 rfl (lv_at hl 1 rfl) ?_
    refine cx_iald (f := (M 4)) (n := 80) (cA := cI) hx hb hE hS 13 0 rfl rfl (by omega) (by decide) dX7_mayTake_15 ?_
    refine lv_if_le (tgt := 38) hx hb dX7_mayTake_16 (by decide) (fun h16 => ?_) (fun h16 => ?_)
    · skip
      exact J38  _ _ _ (by (try clear RET); (try clear hS); (try clear hl); (try clear hE); (try clear hts); (try clear hb); (try clear hx); (try clear hml); (try clear hown); (try clear hinX7); (try clear J39); (try clear J38); have y10 : ¬ (1 : Int32) = 0 := (by decide); first | assumption | (unfold cx_mtk; grind)) hS (lv_sub hl [0, 1] rfl)
    · skip
      refine lv_aload_n hx hb dX7_mayTake_19 rfl (lv_at hl 0 rfl) ?_
      refine cx_get (own := RX7) (index := 7) (C := RX7) (T := TX7) (N := 22) (k := 1) (ci := 7) (v := .ref (q 1)) hx hb hts hown hE hS hinX7 0 rfl rfl (by decide) (List.mem_of_getElem? (i := 2) rfl) rfl dX7_mayTake_20 ?_
      refine lv_aload_n hx hb dX7_mayTake_23 rfl (lv_at hl 0 rfl) ?_
      refine cx_get (own := RX7) (index := 34) (C := RX7) (T := TX7) (N := 22) (k := 10) (ci := 7) (v := .ref (q 9)) hx hb hts hown hE hS hinX7 0 rfl rfl (by decide) (List.mem_of_getElem? (i := 3) rfl) rfl dX7_mayTake_24 ?_
      refine lv_iload_n hx hb dX7_mayTake_27 rfl (lv_at hl 1 rfl) ?_
      refine cx_iald (f := (M 0)) (n := 80) (cA := cI) hx hb hE hS 9 0 rfl rfl (by omega) (by decide) dX7_mayTake_28 ?_
      have ho28 := (hO mm).2
      refine cx_topr (z := nI (((M 0) mm).toNatClampNeg)) (hO mm).1 ?_
      refine cx_iald (f := (T 0)) (n := 20) (cA := cI) hx hb hE hS 1 0 rfl rfl (by omega) (by decide) dX7_mayTake_29 ?_
      refine lv_iconst (v := (1 : Int32)) hx hb dX7_mayTake_30 (by decide) ?_
      refine lv_icmp_eq (tgt := 38) hx hb dX7_mayTake_31 (by decide) (fun h31 => ?_) (fun h31 => ?_)
      · skip
        exact J38  _ _ _ (by (try clear RET); (try clear hS); (try clear hl); (try clear hE); (try clear hts); (try clear hb); (try clear hx); (try clear hml); (try clear hown); (try clear hinX7); (try clear J39); (try clear J38); have y10 : ¬ (1 : Int32) = 0 := (by decide); first | assumption | (unfold cx_mtk; grind)) hS (lv_sub hl [0, 1] rfl)
      · skip
        refine lv_iconst (v := (1 : Int32)) hx hb dX7_mayTake_34 (by decide) ?_
        refine lv_goto (tgt := 39) hx hb dX7_mayTake_35 (by decide) ?_
        exact J39 (1 : Int32) _ _ _ (cx_e1 (by (try clear RET); (try clear hS); (try clear hl); (try clear hE); (try clear hts); (try clear hb); (try clear hx); (try clear hml); (try clear hown); (try clear hinX7); (try clear J39); (try clear J38); have y10 : ¬ (1 : Int32) = 0 := (by decide); first | assumption | (unfold cx_mtk; grind))) hS (lv_sub hl [0, 1] rfl)
set_option maxHeartbeats 4000000 in
set_option maxRecDepth 100000 in
theorem c_X7_findTaking (l : Launch) (D : va_G) (q : Nat → Nat) (cI cZ : ClassId) (n : Nat) (T : Nat → Nat → Int32) (k : Nat) (M : Nat → Nat → Int32) (d : Nat) (Z : Nat → Nat → Int32) (F : Nat → Nat → Int32) (lk : Nat) (hn : n ≤ 20) (hO : cx_R (M 0) 20) (hk : k ≤ 80) (hOn : ∀ j, j < k → (M 0 j).toNatClampNeg < n) (hX : cx_R (M 4) 4) (hlk : lk < 80) (hcl : ∀ wa wu, wa < n → wu < n → (¬ (Z 0) (20 * wa + wu) = 0 ↔ (cx_w3 n (cx_Er T n) n) wa wu)) : cx_Mv l D vwCl [(cI, .int), (cZ, .boolean)] cx_NW yX7_findTaking wsX7_findTaking ({ frames := 2, cells := 0, slots := 0, locals := 44 } : Room) [.ref (q 0), .int (nI lk)] (cyW q cI cZ n T k M d Z F) (fun (uw : (Nat → Int32)) => ∀ wa wu, wa < k → wu < k → (¬ uw (80 * wa + wu) = 0 ↔ (cx_tk k (T 0) (T 2) M (cx_Ar T n) lk) wa wu)) (fun uw => (cyW q cI cZ n T k M d (cx_u Z 2 uw) F)) := by
  refine cx_Mv.of (cc := cX7_findTaking) (maxL := 5) cx_NW_ok (by decide) rfl (Nat.le_of_ble_eq_true rfl) ?_
  intro p e s m args below meth c Q A ls hx hb hml hown hts hE RET hS hl
  have hl : lv_has ls 5 [(0, .ref (q 0)), (1, .int (nI lk))] := hl
  have hown : s.vm.findClass RX7 = some m.cls := hown
  have hinX7 : ∀ w ∈ u_ws RX7 TX7 22, w ∈ wsX7_findTaking := cx_mem [24, 25, 26, 27, 28, 29, 30, 31, 32, 33, 34, 35, 36, 37, 38, 39, 40, 41, 42, 43, 44, 45] (by decide +kernel)
  refine lv_iconst (v := (0 : Int32)) hx hb dX7_findTaking_0 (by decide) ?_
  refine cx_topr (z := nI 0) (by decide) ?_
  refine lv_istore_n (lv' := [(2, .int (nI 0)), (0, .ref (q 0)), (1, .int (nI lk))]) hx hb dX7_findTaking_1 rfl hl (by decide) rfl (fun ls hl => ?_)
  have J2 : ∀ (N : Nat) (i2 : Nat) (Z_2_2 : Nat → Int32) (H : Heap) (locs : List Loc) (ls : Array Slot), (k - i2 < N) → (i2 ≤ k) → (cx_fT (cx_tb k (T 0) (T 2) M (cx_Ar T n) lk) k i2 0 Z_2_2) → cx_S D vwCl A s (cyW q cI cZ n T k M d (cx_u Z 2 Z_2_2) F) H locs → lv_has ls 5 [(0, .ref (q 0)), (1, .int (nI lk)), (2, .int (nI i2))] → W p l e ({ frames := 2, cells := 0, slots := 0, locals := 44 } : Room) s m args below meth c H locs 0 0 Q (F0 m 2 ls []) := by
    intro N2
    induction N2 with
    | zero => intro i2 Z_2_2 H locs ls hN; exact absurd hN (by omega)
    | succ N2 ih2 =>
      intro i2 Z_2_2 H locs ls hN2 hi2 hy hS hl
      refine lv_iload_n hx hb dX7_findTaking_2 rfl (lv_at hl 2 rfl) ?_
      refine lv_aload_n hx hb dX7_findTaking_3 rfl (lv_at hl 0 rfl) ?_
      refine cx_get (own := RX7) (index := 81) (C := RX7) (T := TX7) (N := 22) (k := 9) (ci := 7) (v := .int (nI k)) hx hb hts hown hE hS hinX7 0 rfl rfl (by decide) (List.mem_of_getElem? (i := 1) rfl) rfl dX7_findTaking_4 ?_
      refine lv_icmp_ge (tgt := 168) hx hb dX7_findTaking_7 (by decide) (fun h7 => ?_) (fun h7 => ?_)
      · skip
        have g7 : k ≤ i2 := (nI_leI (a := k) (b := i2) (by omega) (by omega)).mp h7
        refine lv_iconst (v := (0 : Int32)) hx hb dX7_findTaking_168 (by decide) ?_
        refine cx_topr (z := nI 0) (by decide) ?_
        refine lv_istore_n (lv' := [(2, .int (nI 0)), (0, .ref (q 0)), (1, .int (nI lk))]) hx hb dX7_findTaking_169 rfl hl (by decide) rfl (fun ls hl => ?_)
        have J170 : ∀ (N : Nat) (i170 : Nat) (Z_2_170 : Nat → Int32) (H : Heap) (locs : List Loc) (ls : Array Slot), (k - i170 < N) → (i170 ≤ k) → (∀ wa wu, wa < k → wu < k → (¬ Z_2_170 (80 * wa + wu) = 0 ↔ (cx_w3 k (cx_tb k (T 0) (T 2) M (cx_Ar T n) lk) i170) wa wu)) → cx_S D vwCl A s (cyW q cI cZ n T k M d (cx_u Z 2 Z_2_170) F) H locs → lv_has ls 5 [(0, .ref (q 0)), (1, .int (nI lk)), (2, .int (nI i170))] → W p l e ({ frames := 2, cells := 0, slots := 0, locals := 44 } : Room) s m args below meth c H locs 0 0 Q (F0 m 170 ls []) := by
          intro N170
          induction N170 with
          | zero => intro i170 Z_2_170 H locs ls hN; exact absurd hN (by omega)
          | succ N170 ih170 =>
            intro i170 Z_2_170 H locs ls hN170 hi170 hw hS hl
            refine lv_iload_n hx hb dX7_findTaking_170 rfl (lv_at hl 2 rfl) ?_
            refine lv_aload_n hx hb dX7_findTaking_171 rfl (lv_at hl 0 rfl) ?_
            refine cx_get (own := RX7) (index := 81) (C := RX7) (T := TX7) (N := 22) (k := 9) (ci := 7) (v := .int (nI k)) hx hb hts hown hE hS hinX7 0 rfl rfl (by decide) (List.mem_of_getElem? (i := 1) rfl) rfl dX7_findTaking_172 ?_
            refine lv_icmp_ge (tgt := 279) hx hb dX7_findTaking_175 (by decide) (fun h175 => ?_) (fun h175 => ?_)
            · skip
              have g175 : k ≤ i170 := (nI_leI (a := k) (b := i170) (by omega) (by omega)).mp h175
              exact RET (Z_2_170) _ _ _ _ dX7_findTaking_279 (cx_jE (by omega) (by omega) hw) hS
            · skip
              have g175 : ¬ (k ≤ i170) := fun z => h175 ((nI_leI (a := k) (b := i170) (by omega) (by omega)).mpr z)
              refine lv_iconst (v := (0 : Int32)) hx hb dX7_findTaking_178 (by decide) ?_
              refine cx_topr (z := nI 0) (by decide) ?_
              refine lv_istore_n (lv' := [(3, .int (nI 0)), (0, .ref (q 0)), (1, .int (nI lk)), (2, .int (nI i170))]) hx hb dX7_findTaking_179 rfl hl (by decide) rfl (fun ls hl => ?_)
              have J180 : ∀ (N : Nat) (i180 : Nat) (Z_2_180 : Nat → Int32) (H : Heap) (locs : List Loc) (ls : Array Slot), (k - i180 < N) → (i180 ≤ k) → (∀ wa wu, wa < k → wu < k → (¬ Z_2_180 (80 * wa + wu) = 0 ↔ (cx_w2 (cx_w3 k (cx_tb k (T 0) (T 2) M (cx_Ar T n) lk) i170) i170 i180) wa wu)) → cx_S D vwCl A s (cyW q cI cZ n T k M d (cx_u Z 2 Z_2_180) F) H locs → lv_has ls 5 [(0, .ref (q 0)), (1, .int (nI lk)), (2, .int (nI i170)), (3, .int (nI i180))] → W p l e ({ frames := 2, cells := 0, slots := 0, locals := 44 } : Room) s m args below meth c H locs 0 0 Q (F0 m 180 ls []) := by
                intro N180
                induction N180 with
                | zero => intro i180 Z_2_180 H locs ls hN; exact absurd hN (by omega)
                | succ N180 ih180 =>
                  intro i180 Z_2_180 H locs ls hN180 hi180 hw2 hS hl
                  refine lv_iload_n hx hb dX7_findTaking_180 rfl (lv_at hl 3 rfl) ?_
                  refine lv_aload_n hx hb dX7_findTaking_181 rfl (lv_at hl 0 rfl) ?_
                  refine cx_get (own := RX7) (index := 81) (C := RX7) (T := TX7) (N := 22) (k := 9) (ci := 7) (v := .int (nI k)) hx hb hts hown hE hS hinX7 0 rfl rfl (by decide) (List.mem_of_getElem? (i := 1) rfl) rfl dX7_findTaking_182 ?_
                  refine lv_icmp_ge (tgt := 273) hx hb dX7_findTaking_185 (by decide) (fun h185 => ?_) (fun h185 => ?_)
                  · skip
                    have g185 : k ≤ i180 := (nI_leI (a := k) (b := i180) (by omega) (by omega)).mp h185
                    refine lv_iinc (v := nI (i170 + 1)) (lv' := [(2, .int (nI (i170 + 1))), (0, .ref (q 0)), (1, .int (nI lk)), (3, .int (nI i180))]) hx hb dX7_findTaking_273 hl (k := 2) rfl (cx_inc _) (by decide) rfl (fun ls hl => ?_)
                    refine lv_goto (tgt := 170) hx hb dX7_findTaking_276 (by decide) ?_
                    exact ih170 (i170 + 1) Z_2_180 _ _ _ (by omega) (by omega) (by first | exact cx_jN (by omega) (by omega) hw2 | exact cx_fTE (by omega) hy) hS (lv_sub hl [1, 2, 0] rfl)
                  · skip
                    have g185 : ¬ (k ≤ i180) := fun z => h185 ((nI_leI (a := k) (b := i180) (by omega) (by omega)).mpr z)
                    refine lv_iconst (v := (0 : Int32)) hx hb dX7_findTaking_188 (by decide) ?_
                    refine cx_topr (z := nI 0) (by decide) ?_
                    refine lv_istore (lv' := [(4, .int (nI 0)), (0, .ref (q 0)), (1, .int (nI lk)), (2, .int (nI i170)), (3, .int (nI i180))]) hx hb dX7_findTaking_189 hl (by decide) rfl (fun ls hl => ?_)
                    have J191 : ∀ (N : Nat) (i191 : Nat) (Z_2_191 : Nat → Int32) (H : Heap) (locs : List Loc) (ls : Array Slot), (k - i191 < N) → (i191 ≤ k) → (cx_j (cx_w2 (cx_w3 k (cx_tb k (T 0) (T 2) M (cx_Ar T n) lk) i170) i170 i180) i170 i180 i191 Z_2_191 k) → cx_S D vwCl A s (cyW q cI cZ n T k M d (cx_u Z 2 Z_2_191) F) H locs → lv_has ls 5 [(0, .ref (q 0)), (1, .int (nI lk)), (2, .int (nI i170)), (3, .int (nI i180)), (4, .int (nI i191))] → W p l e ({ frames := 2, cells := 0, slots := 0, locals := 44 } : Room) s m args below meth c H locs 0 0 Q (F0 m 191 ls []) := by
                      intro N191
                      induction N191 with
                      | zero => intro i191 Z_2_191 H locs ls hN; exact absurd hN (by omega)
                      | succ N191 ih191 =>
                        intro i191 Z_2_191 H locs ls hN191 hi191 hk3 hS hl
                        refine lv_iload hx hb dX7_findTaking_191 (lv_at hl 4 rfl) ?_
                        refine lv_aload_n hx hb dX7_findTaking_193 rfl (lv_at hl 0 rfl) ?_
                        refine cx_get (own := RX7) (index := 81) (C := RX7) (T := TX7) (N := 22) (k := 9) (ci := 7) (v := .int (nI k)) hx hb hts hown hE hS hinX7 0 rfl rfl (by decide) (List.mem_of_getElem? (i := 1) rfl) rfl dX7_findTaking_194 ?_
                        have J267 : ∀ (H : Heap) (locs : List Loc) (ls : Array Slot), (∀ wa wu, wa < k → wu < k → (¬ Z_2_191 (80 * wa + wu) = 0 ↔ (cx_w2 (cx_w3 k (cx_tb k (T 0) (T 2) M (cx_Ar T n) lk) i170) i170 (i180 + 1)) wa wu)) → cx_S D vwCl A s (cyW q cI cZ n T k M d (cx_u Z 2 Z_2_191) F) H locs → lv_has ls 5 [(0, .ref (q 0)), (1, .int (nI lk)), (2, .int (nI i170)), (3, .int (nI i180)), (4, .int (nI i191))] → W p l e ({ frames := 2, cells := 0, slots := 0, locals := 44 } : Room) s m args below meth c H locs 0 0 Q (F0 m 267 ls []) := by
                          intro  H locs ls hw267 hS hl
                          refine lv_iinc (v := nI (i180 + 1)) (lv' := [(3, .int (nI (i180 + 1))), (0, .ref (q 0)), (1, .int (nI lk)), (2, .int (nI i170)), (4, .int (nI i191))]) hx hb dX7_findTaking_267 hl (k := 3) rfl (cx_inc _) (by decide) rfl (fun ls hl => ?_)
                          refine lv_goto (tgt := 180) hx hb dX7_findTaking_270 (by decide) ?_
                          exact ih180 (i180 + 1) Z_2_191 _ _ _ (by omega) (by omega) (by first | exact hw267 | exact hw) hS (lv_sub hl [1, 2, 3, 0] rfl)
                        refine lv_icmp_ge (tgt := 267) hx hb dX7_findTaking_197 (by decide) (fun h197 => ?_) (fun h197 => ?_)
                        · skip
                          have g197 : k ≤ i191 := (nI_leI (a := k) (b := i191) (by omega) (by omega)).mp h197
                          exact J267  _ _ _ (by first | exact cx_j12 (by omega) hk3 | exact cx_j13 (by omega) (by omega) hk3 h211) hS (lv_sub hl [0, 1, 2, 3, 4] rfl)
                        · skip
                          have g197 : ¬ (k ≤ i191) := fun z => h197 ((nI_leI (a := k) (b := i191) (by omega) (by omega)).mpr z)
                          refine lv_aload_n hx hb dX7_findTaking_200 rfl (lv_at hl 0 rfl) ?_
                          refine cx_get (own := RX7) (index := 62) (C := RX7) (T := TX7) (N := 22) (k := 21) (ci := 7) (v := .ref (q 18)) hx hb hts hown hE hS hinX7 0 rfl rfl (by decide) (List.mem_of_getElem? (i := 4) rfl) rfl dX7_findTaking_201 ?_
                          refine lv_bipush (v := nI 80) hx hb dX7_findTaking_204 (by decide) ?_
                          refine lv_iload_n hx hb dX7_findTaking_206 rfl (lv_at hl 3 rfl) ?_
                          refine lv_imul hx hb dX7_findTaking_207 ?_
                          refine cx_topr (z := nI (80 * i180)) (pk_mul _ _) ?_
                          refine lv_iload_n hx hb dX7_findTaking_208 rfl (lv_at hl 2 rfl) ?_
                          refine lv_iadd hx hb dX7_findTaking_209 ?_
                          refine cx_topr (z := nI (80 * i180 + i170)) (nI_add _ _) ?_
                          refine cx_zald (f := Z_2_191) (n := 6400) (cA := cZ) hx hb hE hS 18 1 rfl rfl (by omega) (by decide) dX7_findTaking_210 ?_
                          refine lv_if_eq (tgt := 267) hx hb dX7_findTaking_211 (by decide) (fun h211 => ?_) (fun h211 => ?_)
                          · skip
                            exact J267  _ _ _ (by first | exact cx_j12 (by omega) hk3 | exact cx_j13 (by omega) (by omega) hk3 h211) hS (lv_sub hl [0, 1, 2, 3, 4] rfl)
                          · skip
                            refine lv_aload_n hx hb dX7_findTaking_214 rfl (lv_at hl 0 rfl) ?_
                            refine cx_get (own := RX7) (index := 62) (C := RX7) (T := TX7) (N := 22) (k := 21) (ci := 7) (v := .ref (q 18)) hx hb hts hown hE hS hinX7 0 rfl rfl (by decide) (List.mem_of_getElem? (i := 4) rfl) rfl dX7_findTaking_215 ?_
                            refine lv_bipush (v := nI 80) hx hb dX7_findTaking_218 (by decide) ?_
                            refine lv_iload_n hx hb dX7_findTaking_220 rfl (lv_at hl 3 rfl) ?_
                            refine lv_imul hx hb dX7_findTaking_221 ?_
                            refine cx_topr (z := nI (80 * i180)) (pk_mul _ _) ?_
                            refine lv_iload hx hb dX7_findTaking_222 (lv_at hl 4 rfl) ?_
                            refine lv_iadd hx hb dX7_findTaking_224 ?_
                            refine cx_topr (z := nI (80 * i180 + i191)) (nI_add _ _) ?_
                            refine lv_aload_n hx hb dX7_findTaking_225 rfl (lv_at hl 0 rfl) ?_
                            refine cx_get (own := RX7) (index := 62) (C := RX7) (T := TX7) (N := 22) (k := 21) (ci := 7) (v := .ref (q 18)) hx hb hts hown hE hS hinX7 0 rfl rfl (by decide) (List.mem_of_getElem? (i := 4) rfl) rfl dX7_findTaking_226 ?_
                            refine lv_bipush (v := nI 80) hx hb dX7_findTaking_229 (by decide) ?_
                            refine lv_iload_n hx hb dX7_findTaking_231 rfl (lv_at hl 3 rfl) ?_
                            refine lv_imul hx hb dX7_findTaking_232 ?_
                            refine cx_topr (z := nI (80 * i180)) (pk_mul _ _) ?_
                            refine lv_iload hx hb dX7_findTaking_233 (lv_at hl 4 rfl) ?_
                            refine lv_iadd hx hb dX7_findTaking_235 ?_
                            refine cx_topr (z := nI (80 * i180 + i191)) (nI_add _ _) ?_
                            refine cx_zald (f := Z_2_191) (n := 6400) (cA := cZ) hx hb hE hS 18 1 rfl rfl (by omega) (by decide) dX7_findTaking_236 ?_
                            have J260 : ∀ (v260_s0 : Int32) (H : Heap) (locs : List Loc) (ls : Array Slot), ((v260_s0 = 0 ∨ v260_s0 = 1) ∧ (¬ v260_s0 = 0 ↔ ¬ Z_2_191 (80 * i180 + i191) = 0 ∨ ¬ Z_2_191 (80 * i170 + i191) = 0)) → cx_S D vwCl A s (cyW q cI cZ n T k M d (cx_u Z 2 Z_2_191) F) H locs → lv_has ls 5 [(0, .ref (q 0)), (1, .int (nI lk)), (2, .int (nI i170)), (3, .int (nI i180)), (4, .int (nI i191))] → W p l e ({ frames := 2, cells := 0, slots := 0, locals := 44 } : Room) s m args below meth c H locs 0 0 Q (F0 m 260 ls [.int v260_s0, .int (nI (80 * i180 + i191)), .ref (q 18)]) := by
                              intro v260_s0 H locs ls b260 hS hl
                              refine cx_zast (k := 80 * i180 + i191) (f := Z_2_191) (n := 6400) (cA := cZ) (ws' := (cyW q cI cZ n T k M d (cx_u Z 2 (upd Z_2_191 (80 * i180 + i191) (vp_nar .boolean v260_s0))) F)) hx hb hE hS 18 1 rfl rfl (by omega) (by decide) rfl dX7_findTaking_260 (fun H locs hS => ?_)
                              refine lv_iinc (v := nI (i191 + 1)) (lv' := [(4, .int (nI (i191 + 1))), (0, .ref (q 0)), (1, .int (nI lk)), (2, .int (nI i170)), (3, .int (nI i180))]) hx hb dX7_findTaking_261 hl (k := 4) rfl (cx_inc _) (by decide) rfl (fun ls hl => ?_)
                              refine lv_goto (tgt := 191) hx hb dX7_findTaking_264 (by decide) ?_
                              exact ih191 (i191 + 1) (upd Z_2_191 (80 * i180 + i191) (vp_nar .boolean v260_s0)) _ _ _ (by omega) (by omega) (by first | exact cx_j11 hk (by omega) (by omega) (by omega) hk3 h211 b260 | exact cx_j10 hw2) hS (lv_sub hl [1, 2, 3, 4, 0] rfl)
                            have J255 : ∀ (H : Heap) (locs : List Loc) (ls : Array Slot), (¬ Z_2_191 (80 * i180 + i191) = 0 ∨ ¬ Z_2_191 (80 * i170 + i191) = 0) → cx_S D vwCl A s (cyW q cI cZ n T k M d (cx_u Z 2 Z_2_191) F) H locs → lv_has ls 5 [(0, .ref (q 0)), (1, .int (nI lk)), (2, .int (nI i170)), (3, .int (nI i180)), (4, .int (nI i191))] → W p l e ({ frames := 2, cells := 0, slots := 0, locals := 44 } : Room) s m args below meth c H locs 0 0 Q (F0 m 255 ls [.int (nI (80 * i180 + i191)), .ref (q 18)]) := by
                              intro  H locs ls f255 hS hl
                              refine lv_iconst (v := (1 : Int32)) hx hb dX7_findTaking_255 (by decide) ?_
                              refine lv_goto (tgt := 260) hx hb dX7_findTaking_256 (by decide) ?_
                              exact J260 (1 : Int32) _ _ _ (cx_e1 (by (try clear RET); (try clear hS); (try clear hl); (try clear hE); (try clear hts); (try clear hb); (try clear hx); (try clear hml); (try clear hown); (try clear hinX7); (try clear J2); (try clear ih2); (try clear hN2); (try clear J170); (try clear ih170); (try clear hN170); (try clear J180); (try clear ih180); (try clear hN180); (try clear J191); (try clear ih191); (try clear hN191); (try clear J267); (try clear J260); (try clear J255); have y10 : ¬ (1 : Int32) = 0 := (by decide); first | assumption | ((try have yac := cx_ac (hX i12)); first | (unfold cx_tbB; grind) | (unfold cx_tb; grind) | grind))) hS (lv_sub hl [0, 1, 2, 3, 4] rfl)
                            refine lv_if_ne (tgt := 255) hx hb dX7_findTaking_237 (by decide) (fun h237 => ?_) (fun h237 => ?_)
                            · skip
                              exact J255  _ _ _ (by (try clear RET); (try clear hS); (try clear hl); (try clear hE); (try clear hts); (try clear hb); (try clear hx); (try clear hml); (try clear hown); (try clear hinX7); (try clear J2); (try clear ih2); (try clear hN2); (try clear J170); (try clear ih170); (try clear hN170); (try clear J180); (try clear ih180); (try clear hN180); (try clear J191); (try clear ih191); (try clear hN191); (try clear J267); (try clear J260); (try clear J255); have y10 : ¬ (1 : Int32) = 0 := (by decide); first | assumption | ((try have yac := cx_ac (hX i12)); first | (unfold cx_tbB; grind) | (unfold cx_tb; grind) | grind)) hS (lv_sub hl [0, 1, 2, 3, 4] rfl)
                            · skip
                              refine lv_aload_n hx hb dX7_findTaking_240 rfl (lv_at hl 0 rfl) ?_
                              refine cx_get (own := RX7) (index := 62) (C := RX7) (T := TX7) (N := 22) (k := 21) (ci := 7) (v := .ref (q 18)) hx hb hts hown hE hS hinX7 0 rfl rfl (by decide) (List.mem_of_getElem? (i := 4) rfl) rfl dX7_findTaking_241 ?_
                              refine lv_bipush (v := nI 80) hx hb dX7_findTaking_244 (by decide) ?_
                              refine lv_iload_n hx hb dX7_findTaking_246 rfl (lv_at hl 2 rfl) ?_
                              refine lv_imul hx hb dX7_findTaking_247 ?_
                              refine cx_topr (z := nI (80 * i170)) (pk_mul _ _) ?_
                              refine lv_iload hx hb dX7_findTaking_248 (lv_at hl 4 rfl) ?_
                              refine lv_iadd hx hb dX7_findTaking_250 ?_
                              refine cx_topr (z := nI (80 * i170 + i191)) (nI_add _ _) ?_
                              refine cx_zald (f := Z_2_191) (n := 6400) (cA := cZ) hx hb hE hS 18 1 rfl rfl (by omega) (by decide) dX7_findTaking_251 ?_
                              refine lv_if_eq (tgt := 259) hx hb dX7_findTaking_252 (by decide) (fun h252 => ?_) (fun h252 => ?_)
                              · skip
                                refine lv_iconst (v := (0 : Int32)) hx hb dX7_findTaking_259 (by decide) ?_
                                exact J260 (0 : Int32) _ _ _ (cx_e0 (by (try clear RET); (try clear hS); (try clear hl); (try clear hE); (try clear hts); (try clear hb); (try clear hx); (try clear hml); (try clear hown); (try clear hinX7); (try clear J2); (try clear ih2); (try clear hN2); (try clear J170); (try clear ih170); (try clear hN170); (try clear J180); (try clear ih180); (try clear hN180); (try clear J191); (try clear ih191); (try clear hN191); (try clear J267); (try clear J260); (try clear J255); have y10 : ¬ (1 : Int32) = 0 := (by decide); first | assumption | ((try have yac := cx_ac (hX i12)); first | (unfold cx_tbB; grind) | (unfold cx_tb; grind) | grind))) hS (lv_sub hl [0, 1, 2, 3, 4] rfl)
                              · skip
                                exact J255  _ _ _ (by (try clear RET); (try clear hS); (try clear hl); (try clear hE); (try clear hts); (try clear hb); (try clear hx); (try clear hml); (try clear hown); (try clear hinX7); (try clear J2); (try clear ih2); (try clear hN2); (try clear J170); (try clear ih170); (try clear hN170); (try clear J180); (try clear ih180); (try clear hN180); (try clear J191); (try clear ih191); (try clear hN191); (try clear J267); (try clear J260); (try clear J255); have y10 : ¬ (1 : Int32) = 0 := (by decide); first | assumption | ((try have yac := cx_ac (hX i12)); first | (unfold cx_tbB; grind) | (unfold cx_tb; grind) | grind)) hS (lv_sub hl [0, 1, 2, 3, 4] rfl)
                    exact J191 (k - 0 + 1) 0 Z_2_180 _ _ _ (Nat.lt_succ_self _) (by omega) (by first | exact cx_j11 hk (by omega) (by omega) (by omega) hk3 h211 b260 | exact cx_j10 hw2) hS (lv_sub hl [1, 2, 3, 4, 0] rfl)
              exact J180 (k - 0 + 1) 0 Z_2_170 _ _ _ (Nat.lt_succ_self _) (by omega) (by first | exact hw267 | exact hw) hS (lv_sub hl [1, 2, 3, 0] rfl)
        exact J170 (k - 0 + 1) 0 Z_2_2 _ _ _ (Nat.lt_succ_self _) (by omega) (by first | exact cx_jN (by omega) (by omega) hw2 | exact cx_fTE (by omega) hy) hS (lv_sub hl [1, 2, 0] rfl)
      · skip
        have g7 : ¬ (k ≤ i2) := fun z => h7 ((nI_leI (a := k) (b := i2) (by omega) (by omega)).mpr z)
        refine lv_iconst (v := (0 : Int32)) hx hb dX7_findTaking_10 (by decide) ?_
        refine cx_topr (z := nI 0) (by decide) ?_
        refine lv_istore_n (lv' := [(3, .int (nI 0)), (0, .ref (q 0)), (1, .int (nI lk)), (2, .int (nI i2))]) hx hb dX7_findTaking_11 rfl hl (by decide) rfl (fun ls hl => ?_)
        have J12 : ∀ (N : Nat) (i12 : Nat) (Z_2_12 : Nat → Int32) (H : Heap) (locs : List Loc) (ls : Array Slot), (k - i12 < N) → (i12 ≤ k) → (cx_fT (cx_tb k (T 0) (T 2) M (cx_Ar T n) lk) k i2 i12 Z_2_12) → cx_S D vwCl A s (cyW q cI cZ n T k M d (cx_u Z 2 Z_2_12) F) H locs → lv_has ls 5 [(0, .ref (q 0)), (1, .int (nI lk)), (2, .int (nI i2)), (3, .int (nI i12))] → W p l e ({ frames := 2, cells := 0, slots := 0, locals := 44 } : Room) s m args below meth c H locs 0 0 Q (F0 m 12 ls []) := by
          intro N12
          induction N12 with
          | zero => intro i12 Z_2_12 H locs ls hN; exact absurd hN (by omega)
          | succ N12 ih12 =>
            intro i12 Z_2_12 H locs ls hN12 hi12 hy2 hS hl
            refine lv_iload_n hx hb dX7_findTaking_12 rfl (lv_at hl 3 rfl) ?_
            refine lv_aload_n hx hb dX7_findTaking_13 rfl (lv_at hl 0 rfl) ?_
            refine cx_get (own := RX7) (index := 81) (C := RX7) (T := TX7) (N := 22) (k := 9) (ci := 7) (v := .int (nI k)) hx hb hts hown hE hS hinX7 0 rfl rfl (by decide) (List.mem_of_getElem? (i := 1) rfl) rfl dX7_findTaking_14 ?_
            refine lv_icmp_ge (tgt := 162) hx hb dX7_findTaking_17 (by decide) (fun h17 => ?_) (fun h17 => ?_)
            · skip
              have g17 : k ≤ i12 := (nI_leI (a := k) (b := i12) (by omega) (by omega)).mp h17
              refine lv_iinc (v := nI (i2 + 1)) (lv' := [(2, .int (nI (i2 + 1))), (0, .ref (q 0)), (1, .int (nI lk)), (3, .int (nI i12))]) hx hb dX7_findTaking_162 hl (k := 2) rfl (cx_inc _) (by decide) rfl (fun ls hl => ?_)
              refine lv_goto (tgt := 2) hx hb dX7_findTaking_165 (by decide) ?_
              exact ih2 (i2 + 1) Z_2_12 _ _ _ (by omega) (by omega) (by first | exact cx_fTN (by omega) hy2 | exact cx_fT0) hS (lv_sub hl [1, 2, 0] rfl)
            · skip
              have g17 : ¬ (k ≤ i12) := fun z => h17 ((nI_leI (a := k) (b := i12) (by omega) (by omega)).mpr z)
              refine lv_aload_n hx hb dX7_findTaking_20 rfl (lv_at hl 0 rfl) ?_
              refine lv_iload_n hx hb dX7_findTaking_21 rfl (lv_at hl 2 rfl) ?_
              refine lv_iload_n hx hb dX7_findTaking_22 rfl (lv_at hl 1 rfl) ?_
              refine cx_cVi (As := [.int (nI i2), .int (nI lk)]) (rest := []) ⟨hx, hb, hml, hown, hts⟩ hE hS (c_X7_areLike l D q cI cZ n T k M d (cx_u Z 2 Z_2_12) F i2 lk (by first | assumption | omega | rfl) (by first | assumption | omega | rfl)) (cwV 2 hts gX7_findTaking_X7_areLike rfl rfl rfl (by decide +kernel) ⟨Nat.le_of_ble_eq_true rfl, Nat.le_of_ble_eq_true rfl⟩) 0 7 rfl rfl rfl hl.1 rfl (Nat.le_of_ble_eq_true rfl) ⟨Nat.zero_le _, Nat.zero_le _⟩ dX7_findTaking_23 (fun r_23 u_23 H locs hp_23 hS => ?_)
              have hp_23 : (r_23 = 0 ∨ r_23 = 1) ∧ (¬ r_23 = 0 ↔ cx_lk M i2 lk) := hp_23
              have J98 : ∀ (v98_s0 : Int32) (H : Heap) (locs : List Loc) (ls : Array Slot), ((v98_s0 = 0 ∨ v98_s0 = 1) ∧ (¬ v98_s0 = 0 ↔ cx_tbB (T 0) M (cx_Ar T n) lk i2 i12)) → cx_S D vwCl A s (cyW q cI cZ n T k M d (cx_u Z 2 Z_2_12) F) H locs → lv_has ls 5 [(0, .ref (q 0)), (1, .int (nI lk)), (2, .int (nI i2)), (3, .int (nI i12))] → W p l e ({ frames := 2, cells := 0, slots := 0, locals := 44 } : Room) s m args below meth c H locs 0 0 Q (F0 m 98 ls [.int v98_s0]) := by
                intro v98_s0 H locs ls b98 hS hl
                refine lv_istore (lv' := [(4, .int v98_s0), (0, .ref (q 0)), (1, .int (nI lk)), (2, .int (nI i2)), (3, .int (nI i12))]) hx hb dX7_findTaking_98 hl (by decide) rfl (fun ls hl => ?_)
                refine lv_aload_n hx hb dX7_findTaking_100 rfl (lv_at hl 1 rfl) ?_
                refine cx_get (own := RX7) (index := 62) (C := RX7) (T := TX7) (N := 22) (k := 21) (ci := 7) (v := .ref (q 18)) hx hb hts hown hE hS hinX7 0 rfl rfl (by decide) (List.mem_of_getElem? (i := 4) rfl) rfl dX7_findTaking_101 ?_
                refine lv_bipush (v := nI 80) hx hb dX7_findTaking_104 (by decide) ?_
                refine lv_iload_n hx hb dX7_findTaking_106 rfl (lv_at hl 3 rfl) ?_
                refine lv_imul hx hb dX7_findTaking_107 ?_
                refine cx_topr (z := nI (80 * i2)) (pk_mul _ _) ?_
                refine lv_iload_n hx hb dX7_findTaking_108 rfl (lv_at hl 4 rfl) ?_
                refine lv_iadd hx hb dX7_findTaking_109 ?_
                refine cx_topr (z := nI (80 * i2 + i12)) (nI_add _ _) ?_
                refine lv_iload hx hb dX7_findTaking_110 (lv_at hl 0 rfl) ?_
                have J155 : ∀ (v155_s0 : Int32) (H : Heap) (locs : List Loc) (ls : Array Slot), ((v155_s0 = 0 ∨ v155_s0 = 1) ∧ (¬ v155_s0 = 0 ↔ (cx_tb k (T 0) (T 2) M (cx_Ar T n) lk) i2 i12)) → cx_S D vwCl A s (cyW q cI cZ n T k M d (cx_u Z 2 Z_2_12) F) H locs → lv_has ls 5 [(0, .ref (q 0)), (1, .int (nI lk)), (2, .int (nI i2)), (3, .int (nI i12)), (4, .int v98_s0)] → W p l e ({ frames := 2, cells := 0, slots := 0, locals := 44 } : Room) s m args below meth c H locs 0 0 Q (F0 m 155 ls [.int v155_s0, .int (nI (80 * i2 + i12)), .ref (q 18)]) := by
                  intro v155_s0 H locs ls b155 hS hl
                  refine cx_zast (k := 80 * i2 + i12) (f := Z_2_12) (n := 6400) (cA := cZ) (ws' := (cyW q cI cZ n T k M d (cx_u Z 2 (upd Z_2_12 (80 * i2 + i12) (vp_nar .boolean v155_s0))) F)) hx hb hE hS 18 1 rfl rfl (by omega) (by decide) rfl dX7_findTaking_155 (fun H locs hS => ?_)
                  refine lv_iinc (v := nI (i12 + 1)) (lv' := [(3, .int (nI (i12 + 1))), (0, .ref (q 0)), (1, .int (nI lk)), (2, .int (nI i2)), (4, .int v98_s0)]) hx hb dX7_findTaking_156 hl (k := 3) rfl (cx_inc _) (by decide) rfl (fun ls hl => ?_)
                  refine lv_goto (tgt := 12) hx hb dX7_findTaking_159 (by decide) ?_
                  exact ih12 (i12 + 1) (upd Z_2_12 (80 * i2 + i12) (vp_nar .boolean v155_s0)) _ _ _ (by omega) (by omega) (by first | exact hy | exact cx_fTS hk (by omega) hy2 b155) hS (lv_sub hl [1, 2, 3, 0] rfl)
                have J154 : ∀ (H : Heap) (locs : List Loc) (ls : Array Slot), (¬ ((cx_tb k (T 0) (T 2) M (cx_Ar T n) lk) i2 i12)) → cx_S D vwCl A s (cyW q cI cZ n T k M d (cx_u Z 2 Z_2_12) F) H locs → lv_has ls 5 [(0, .ref (q 0)), (1, .int (nI lk)), (2, .int (nI i2)), (3, .int (nI i12)), (4, .int v98_s0)] → W p l e ({ frames := 2, cells := 0, slots := 0, locals := 44 } : Room) s m args below meth c H locs 0 0 Q (F0 m 154 ls [.int (nI (80 * i2 + i12)), .ref (q 18)]) := by
                  intro  H locs ls f154 hS hl
                  refine lv_iconst (v := (0 : Int32)) hx hb dX7_findTaking_154 (by decide) ?_
                  exact J155 (0 : Int32) _ _ _ (cx_e0 (by (try clear RET); (try clear hS); (try clear hl); (try clear hE); (try clear hts); (try clear hb); (try clear hx); (try clear hml); (try clear hown); (try clear hinX7); (try clear J2); (try clear ih2); (try clear hN2); (try clear J12); (try clear ih12); (try clear hN12); (try clear J98); (try clear J155); (try clear J154); have y10 : ¬ (1 : Int32) = 0 := (by decide); first | assumption | ((try have yac := cx_ac (hX i12)); first | (unfold cx_tbB; grind) | (unfold cx_tb; grind) | grind))) hS (lv_sub hl [0, 1, 2, 3, 4] rfl)
                refine lv_if_eq (tgt := 154) hx hb dX7_findTaking_112 (by decide) (fun h112 => ?_) (fun h112 => ?_)
                · skip
                  have g112 : ¬ (cx_tbB (T 0) M (cx_Ar T n) lk i2 i12) := fun z => b98.2.mpr z h112
                  exact J154  _ _ _ (by (try clear RET); (try clear hS); (try clear hl); (try clear hE); (try clear hts); (try clear hb); (try clear hx); (try clear hml); (try clear hown); (try clear hinX7); (try clear J2); (try clear ih2); (try clear hN2); (try clear J12); (try clear ih12); (try clear hN12); (try clear J98); (try clear J155); (try clear J154); have y10 : ¬ (1 : Int32) = 0 := (by decide); first | assumption | ((try have yac := cx_ac (hX i12)); first | (unfold cx_tbB; grind) | (unfold cx_tb; grind) | grind)) hS (lv_sub hl [1, 2, 3, 4, 0] rfl)
                · skip
                  have g112 : cx_tbB (T 0) M (cx_Ar T n) lk i2 i12 := b98.2.mp h112
                  refine lv_aload_n hx hb dX7_findTaking_115 rfl (lv_at hl 1 rfl) ?_
                  refine cx_get (own := RX7) (index := 46) (C := RX7) (T := TX7) (N := 22) (k := 14) (ci := 7) (v := .ref (q 13)) hx hb hts hown hE hS hinX7 0 rfl rfl (by decide) (List.mem_of_getElem? (i := 5) rfl) rfl dX7_findTaking_116 ?_
                  refine lv_iload_n hx hb dX7_findTaking_119 rfl (lv_at hl 4 rfl) ?_
                  refine cx_iald (f := (M 4)) (n := 80) (cA := cI) hx hb hE hS 13 0 rfl rfl (by omega) (by decide) dX7_findTaking_120 ?_
                  refine lv_iconst (v := (1 : Int32)) hx hb dX7_findTaking_121 (by decide) ?_
                  have J150 : ∀ (H : Heap) (locs : List Loc) (ls : Array Slot), ((cx_tb k (T 0) (T 2) M (cx_Ar T n) lk) i2 i12) → cx_S D vwCl A s (cyW q cI cZ n T k M d (cx_u Z 2 Z_2_12) F) H locs → lv_has ls 5 [(0, .ref (q 0)), (1, .int (nI lk)), (2, .int (nI i2)), (3, .int (nI i12)), (4, .int v98_s0)] → W p l e ({ frames := 2, cells := 0, slots := 0, locals := 44 } : Room) s m args below meth c H locs 0 0 Q (F0 m 150 ls [.int (nI (80 * i2 + i12)), .ref (q 18)]) := by
                    intro  H locs ls f150 hS hl
                    refine lv_iconst (v := (1 : Int32)) hx hb dX7_findTaking_150 (by decide) ?_
                    refine lv_goto (tgt := 155) hx hb dX7_findTaking_151 (by decide) ?_
                    exact J155 (1 : Int32) _ _ _ (cx_e1 (by (try clear RET); (try clear hS); (try clear hl); (try clear hE); (try clear hts); (try clear hb); (try clear hx); (try clear hml); (try clear hown); (try clear hinX7); (try clear J2); (try clear ih2); (try clear hN2); (try clear J12); (try clear ih12); (try clear hN12); (try clear J98); (try clear J155); (try clear J154); (try clear J150); have y10 : ¬ (1 : Int32) = 0 := (by decide); first | assumption | ((try have yac := cx_ac (hX i12)); first | (unfold cx_tbB; grind) | (unfold cx_tb; grind) | grind))) hS (lv_sub hl [0, 1, 2, 3, 4] rfl)
                  refine lv_icmp_gt (tgt := 150) hx hb dX7_findTaking_122 (by decide) (fun h122 => ?_) (fun h122 => ?_)
                  · skip
                    exact J150  _ _ _ (by (try clear RET); (try clear hS); (try clear hl); (try clear hE); (try clear hts); (try clear hb); (try clear hx); (try clear hml); (try clear hown); (try clear hinX7); (try clear J2); (try clear ih2); (try clear hN2); (try clear J12); (try clear ih12); (try clear hN12); (try clear J98); (try clear J155); (try clear J154); (try clear J150); have y10 : ¬ (1 : Int32) = 0 := (by decide); first | assumption | ((try have yac := cx_ac (hX i12)); first | (unfold cx_tbB; grind) | (unfold cx_tb; grind) | grind)) hS (lv_sub hl [1, 2, 3, 4, 0] rfl)
                  · skip
                    refine lv_aload_n hx hb dX7_findTaking_125 rfl (lv_at hl 1 rfl) ?_
                    refine cx_get (own := RX7) (index := 16) (C := RX7) (T := TX7) (N := 22) (k := 3) (ci := 7) (v := .ref (q 3)) hx hb hts hown hE hS hinX7 0 rfl rfl (by decide) (List.mem_of_getElem? (i := 6) rfl) rfl dX7_findTaking_126 ?_
                    refine lv_aload_n hx hb dX7_findTaking_129 rfl (lv_at hl 1 rfl) ?_
                    refine cx_get (own := RX7) (index := 34) (C := RX7) (T := TX7) (N := 22) (k := 10) (ci := 7) (v := .ref (q 9)) hx hb hts hown hE hS hinX7 0 rfl rfl (by decide) (List.mem_of_getElem? (i := 2) rfl) rfl dX7_findTaking_130 ?_
                    refine lv_iload_n hx hb dX7_findTaking_133 rfl (lv_at hl 3 rfl) ?_
                    refine cx_iald (f := (M 0)) (n := 80) (cA := cI) hx hb hE hS 9 0 rfl rfl (by omega) (by decide) dX7_findTaking_134 ?_
                    have ho134 := (hO i2).2
                    refine cx_topr (z := nI (((M 0) i2).toNatClampNeg)) (hO i2).1 ?_
                    refine cx_iald (f := (T 2)) (n := 20) (cA := cI) hx hb hE hS 3 0 rfl rfl (by omega) (by decide) dX7_findTaking_135 ?_
                    refine lv_aload_n hx hb dX7_findTaking_136 rfl (lv_at hl 1 rfl) ?_
                    refine cx_get (own := RX7) (index := 16) (C := RX7) (T := TX7) (N := 22) (k := 3) (ci := 7) (v := .ref (q 3)) hx hb hts hown hE hS hinX7 0 rfl rfl (by decide) (List.mem_of_getElem? (i := 6) rfl) rfl dX7_findTaking_137 ?_
                    refine lv_aload_n hx hb dX7_findTaking_140 rfl (lv_at hl 1 rfl) ?_
                    refine cx_get (own := RX7) (index := 34) (C := RX7) (T := TX7) (N := 22) (k := 10) (ci := 7) (v := .ref (q 9)) hx hb hts hown hE hS hinX7 0 rfl rfl (by decide) (List.mem_of_getElem? (i := 2) rfl) rfl dX7_findTaking_141 ?_
                    refine lv_iload_n hx hb dX7_findTaking_144 rfl (lv_at hl 4 rfl) ?_
                    refine cx_iald (f := (M 0)) (n := 80) (cA := cI) hx hb hE hS 9 0 rfl rfl (by omega) (by decide) dX7_findTaking_145 ?_
                    have ho145 := (hO i12).2
                    refine cx_topr (z := nI (((M 0) i12).toNatClampNeg)) (hO i12).1 ?_
                    refine cx_iald (f := (T 2)) (n := 20) (cA := cI) hx hb hE hS 3 0 rfl rfl (by omega) (by decide) dX7_findTaking_146 ?_
                    refine lv_icmp_ne (tgt := 154) hx hb dX7_findTaking_147 (by decide) (fun h147 => ?_) (fun h147 => ?_)
                    · skip
                      exact J154  _ _ _ (by (try clear RET); (try clear hS); (try clear hl); (try clear hE); (try clear hts); (try clear hb); (try clear hx); (try clear hml); (try clear hown); (try clear hinX7); (try clear J2); (try clear ih2); (try clear hN2); (try clear J12); (try clear ih12); (try clear hN12); (try clear J98); (try clear J155); (try clear J154); (try clear J150); have y10 : ¬ (1 : Int32) = 0 := (by decide); first | assumption | ((try have yac := cx_ac (hX i12)); first | (unfold cx_tbB; grind) | (unfold cx_tb; grind) | grind)) hS (lv_sub hl [1, 2, 3, 4, 0] rfl)
                    · skip
                      exact J150  _ _ _ (by (try clear RET); (try clear hS); (try clear hl); (try clear hE); (try clear hts); (try clear hb); (try clear hx); (try clear hml); (try clear hown); (try clear hinX7); (try clear J2); (try clear ih2); (try clear hN2); (try clear J12); (try clear ih12); (try clear hN12); (try clear J98); (try clear J155); (try clear J154); (try clear J150); have y10 : ¬ (1 : Int32) = 0 := (by decide); first | assumption | ((try have yac := cx_ac (hX i12)); first | (unfold cx_tbB; grind) | (unfold cx_tb; grind) | grind)) hS (lv_sub hl [1, 2, 3, 4, 0] rfl)
              have J97 : ∀ (H : Heap) (locs : List Loc) (ls : Array Slot), (¬ (cx_tbB (T 0) M (cx_Ar T n) lk i2 i12)) → cx_S D vwCl A s (cyW q cI cZ n T k M d (cx_u Z 2 Z_2_12) F) H locs → lv_has ls 5 [(0, .ref (q 0)), (1, .int (nI lk)), (2, .int (nI i2)), (3, .int (nI i12))] → W p l e ({ frames := 2, cells := 0, slots := 0, locals := 44 } : Room) s m args below meth c H locs 0 0 Q (F0 m 97 ls []) := by
                intro  H locs ls f97 hS hl
                refine lv_iconst (v := (0 : Int32)) hx hb dX7_findTaking_97 (by decide) ?_
                exact J98 (0 : Int32) _ _ _ (cx_e0 (by (try clear RET); (try clear hS); (try clear hl); (try clear hE); (try clear hts); (try clear hb); (try clear hx); (try clear hml); (try clear hown); (try clear hinX7); (try clear J2); (try clear ih2); (try clear hN2); (try clear J12); (try clear ih12); (try clear hN12); (try clear J98); (try clear J97); have y10 : ¬ (1 : Int32) = 0 := (by decide); first | assumption | ((try have yac := cx_ac (hX i12)); first | (unfold cx_tbB; grind) | (unfold cx_tb; grind) | grind))) hS (lv_sub hl [0, 1, 2, 3] rfl)
              refine lv_if_eq (tgt := 97) hx hb dX7_findTaking_26 (by decide) (fun h26 => ?_) (fun h26 => ?_)
              · skip
                have g26 : ¬ (cx_lk M i2 lk) := fun z => hp_23.2.mpr z h26
                exact J97  _ _ _ (by (try clear RET); (try clear hS); (try clear hl); (try clear hE); (try clear hts); (try clear hb); (try clear hx); (try clear hml); (try clear hown); (try clear hinX7); (try clear J2); (try clear ih2); (try clear hN2); (try clear J12); (try clear ih12); (try clear hN12); (try clear J98); (try clear J97); have y10 : ¬ (1 : Int32) = 0 := (by decide); first | assumption | ((try have yac := cx_ac (hX i12)); first | (unfold cx_tbB; grind) | (unfold cx_tb; grind) | grind)) hS (lv_sub hl [0, 1, 2, 3] rfl)
              · skip
                have g26 : cx_lk M i2 lk := hp_23.2.mp h26
                refine lv_aload_n hx hb dX7_findTaking_29 rfl (lv_at hl 0 rfl) ?_
                refine lv_iload_n hx hb dX7_findTaking_30 rfl (lv_at hl 3 rfl) ?_
                refine lv_iload_n hx hb dX7_findTaking_31 rfl (lv_at hl 1 rfl) ?_
                refine cx_cVi (As := [.int (nI i12), .int (nI lk)]) (rest := []) ⟨hx, hb, hml, hown, hts⟩ hE hS (c_X7_areLike l D q cI cZ n T k M d (cx_u Z 2 Z_2_12) F i12 lk (by first | assumption | omega | rfl) (by first | assumption | omega | rfl)) (cwV 2 hts gX7_findTaking_X7_areLike rfl rfl rfl (by decide +kernel) ⟨Nat.le_of_ble_eq_true rfl, Nat.le_of_ble_eq_true rfl⟩) 0 7 rfl rfl rfl hl.1 rfl (Nat.le_of_ble_eq_true rfl) ⟨Nat.zero_le _, Nat.zero_le _⟩ dX7_findTaking_32 (fun r_32 u_32 H locs hp_32 hS => ?_)
                have hp_32 : (r_32 = 0 ∨ r_32 = 1) ∧ (¬ r_32 = 0 ↔ cx_lk M i12 lk) := hp_32
                refine lv_if_eq (tgt := 97) hx hb dX7_findTaking_35 (by decide) (fun h35 => ?_) (fun h35 => ?_)
                · skip
                  have g35 : ¬ (cx_lk M i12 lk) := fun z => hp_32.2.mpr z h35
                  exact J97  _ _ _ (by (try clear RET); (try clear hS); (try clear hl); (try clear hE); (try clear hts); (try clear hb); (try clear hx); (try clear hml); (try clear hown); (try clear hinX7); (try clear J2); (try clear ih2); (try clear hN2); (try clear J12); (try clear ih12); (try clear hN12); (try clear J98); (try clear J97); have y10 : ¬ (1 : Int32) = 0 := (by decide); first | assumption | ((try have yac := cx_ac (hX i12)); first | (unfold cx_tbB; grind) | (unfold cx_tb; grind) | grind)) hS (lv_sub hl [0, 1, 2, 3] rfl)
                · skip
                  have g35 : cx_lk M i12 lk := hp_32.2.mp h35
                  refine lv_aload_n hx hb dX7_findTaking_38 rfl (lv_at hl 0 rfl) ?_
                  refine lv_iload_n hx hb dX7_findTaking_39 rfl (lv_at hl 2 rfl) ?_
                  refine cx_cVi (As := [.int (nI i2)]) (rest := []) ⟨hx, hb, hml, hown, hts⟩ hE hS (c_X7_mayTake l D q cI cZ n T k M d (cx_u Z 2 Z_2_12) F i2 (by first | assumption | omega | rfl) (by first | assumption | omega | rfl) (by first | assumption | omega | rfl)) (cwV 1 hts gX7_findTaking_X7_mayTake rfl rfl rfl (by decide +kernel) ⟨Nat.le_of_ble_eq_true rfl, Nat.le_of_ble_eq_true rfl⟩) 0 7 rfl rfl rfl hl.1 rfl (Nat.le_of_ble_eq_true rfl) ⟨Nat.zero_le _, Nat.zero_le _⟩ dX7_findTaking_40 (fun r_40 u_40 H locs hp_40 hS => ?_)
                  have hp_40 : (r_40 = 0 ∨ r_40 = 1) ∧ (¬ r_40 = 0 ↔ cx_mtk ((T 0)) M i2) := hp_40
                  refine lv_if_eq (tgt := 97) hx hb dX7_findTaking_43 (by decide) (fun h43 => ?_) (fun h43 => ?_)
                  · skip
                    have g43 : ¬ (cx_mtk ((T 0)) M i2) := fun z => hp_40.2.mpr z h43
                    exact J97  _ _ _ (by (try clear RET); (try clear hS); (try clear hl); (try clear hE); (try clear hts); (try clear hb); (try clear hx); (try clear hml); (try clear hown); (try clear hinX7); (try clear J2); (try clear ih2); (try clear hN2); (try clear J12); (try clear ih12); (try clear hN12); (try clear J98); (try clear J97); have y10 : ¬ (1 : Int32) = 0 := (by decide); first | assumption | ((try have yac := cx_ac (hX i12)); first | (unfold cx_tbB; grind) | (unfold cx_tb; grind) | grind)) hS (lv_sub hl [0, 1, 2, 3] rfl)
                  · skip
                    have g43 : cx_mtk ((T 0)) M i2 := hp_40.2.mp h43
                    refine lv_aload_n hx hb dX7_findTaking_46 rfl (lv_at hl 0 rfl) ?_
                    refine lv_iload_n hx hb dX7_findTaking_47 rfl (lv_at hl 3 rfl) ?_
                    refine cx_cVi (As := [.int (nI i12)]) (rest := []) ⟨hx, hb, hml, hown, hts⟩ hE hS (c_X7_mayTake l D q cI cZ n T k M d (cx_u Z 2 Z_2_12) F i12 (by first | assumption | omega | rfl) (by first | assumption | omega | rfl) (by first | assumption | omega | rfl)) (cwV 1 hts gX7_findTaking_X7_mayTake rfl rfl rfl (by decide +kernel) ⟨Nat.le_of_ble_eq_true rfl, Nat.le_of_ble_eq_true rfl⟩) 0 7 rfl rfl rfl hl.1 rfl (Nat.le_of_ble_eq_true rfl) ⟨Nat.zero_le _, Nat.zero_le _⟩ dX7_findTaking_48 (fun r_48 u_48 H locs hp_48 hS => ?_)
                    have hp_48 : (r_48 = 0 ∨ r_48 = 1) ∧ (¬ r_48 = 0 ↔ cx_mtk ((T 0)) M i12) := hp_48
                    refine lv_if_eq (tgt := 97) hx hb dX7_findTaking_51 (by decide) (fun h51 => ?_) (fun h51 => ?_)
                    · skip
                      have g51 : ¬ (cx_mtk ((T 0)) M i12) := fun z => hp_48.2.mpr z h51
                      exact J97  _ _ _ (by (try clear RET); (try clear hS); (try clear hl); (try clear hE); (try clear hts); (try clear hb); (try clear hx); (try clear hml); (try clear hown); (try clear hinX7); (try clear J2); (try clear ih2); (try clear hN2); (try clear J12); (try clear ih12); (try clear hN12); (try clear J98); (try clear J97); have y10 : ¬ (1 : Int32) = 0 := (by decide); first | assumption | ((try have yac := cx_ac (hX i12)); first | (unfold cx_tbB; grind) | (unfold cx_tb; grind) | grind)) hS (lv_sub hl [0, 1, 2, 3] rfl)
                    · skip
                      have g51 : cx_mtk ((T 0)) M i12 := hp_48.2.mp h51
                      refine lv_aload_n hx hb dX7_findTaking_54 rfl (lv_at hl 0 rfl) ?_
                      refine cx_get (own := RX7) (index := 34) (C := RX7) (T := TX7) (N := 22) (k := 10) (ci := 7) (v := .ref (q 9)) hx hb hts hown hE hS hinX7 0 rfl rfl (by decide) (List.mem_of_getElem? (i := 2) rfl) rfl dX7_findTaking_55 ?_
                      refine lv_iload_n hx hb dX7_findTaking_58 rfl (lv_at hl 2 rfl) ?_
                      refine cx_iald (f := (M 0)) (n := 80) (cA := cI) hx hb hE hS 9 0 rfl rfl (by omega) (by decide) dX7_findTaking_59 ?_
                      have ho59 := (hO i2).2
                      refine cx_topr (z := nI (((M 0) i2).toNatClampNeg)) (hO i2).1 ?_
                      refine lv_aload_n hx hb dX7_findTaking_60 rfl (lv_at hl 0 rfl) ?_
                      refine cx_get (own := RX7) (index := 34) (C := RX7) (T := TX7) (N := 22) (k := 10) (ci := 7) (v := .ref (q 9)) hx hb hts hown hE hS hinX7 0 rfl rfl (by decide) (List.mem_of_getElem? (i := 2) rfl) rfl dX7_findTaking_61 ?_
                      refine lv_iload_n hx hb dX7_findTaking_64 rfl (lv_at hl 3 rfl) ?_
                      refine cx_iald (f := (M 0)) (n := 80) (cA := cI) hx hb hE hS 9 0 rfl rfl (by omega) (by decide) dX7_findTaking_65 ?_
                      have ho65 := (hO i12).2
                      refine cx_topr (z := nI (((M 0) i12).toNatClampNeg)) (hO i12).1 ?_
                      refine lv_icmp_eq (tgt := 97) hx hb dX7_findTaking_66 (by decide) (fun h66 => ?_) (fun h66 => ?_)
                      · skip
                        have g66 : (((M 0) i2).toNatClampNeg) = (((M 0) i12).toNatClampNeg) := (nI_eq (a := ((M 0) i2).toNatClampNeg) (b := ((M 0) i12).toNatClampNeg) (by omega) (by omega)).mp h66
                        exact J97  _ _ _ (by (try clear RET); (try clear hS); (try clear hl); (try clear hE); (try clear hts); (try clear hb); (try clear hx); (try clear hml); (try clear hown); (try clear hinX7); (try clear J2); (try clear ih2); (try clear hN2); (try clear J12); (try clear ih12); (try clear hN12); (try clear J98); (try clear J97); have y10 : ¬ (1 : Int32) = 0 := (by decide); first | assumption | ((try have yac := cx_ac (hX i12)); first | (unfold cx_tbB; grind) | (unfold cx_tb; grind) | grind)) hS (lv_sub hl [0, 1, 2, 3] rfl)
                      · skip
                        have g66 : ¬ ((((M 0) i2).toNatClampNeg) = (((M 0) i12).toNatClampNeg)) := fun z => h66 ((nI_eq (a := ((M 0) i2).toNatClampNeg) (b := ((M 0) i12).toNatClampNeg) (by omega) (by omega)).mpr z)
                        refine lv_aload_n hx hb dX7_findTaking_69 rfl (lv_at hl 0 rfl) ?_
                        refine cx_get (own := RX7) (index := 52) (C := RX7) (T := TX7) (N := 22) (k := 16) (ci := 7) (v := .ref (q 15)) hx hb hts hown hE hS hinX7 0 rfl rfl (by decide) (List.mem_of_getElem? (i := 3) rfl) rfl dX7_findTaking_70 ?_
                        refine lv_bipush (v := nI 20) hx hb dX7_findTaking_73 (by decide) ?_
                        refine lv_aload_n hx hb dX7_findTaking_75 rfl (lv_at hl 0 rfl) ?_
                        refine cx_get (own := RX7) (index := 34) (C := RX7) (T := TX7) (N := 22) (k := 10) (ci := 7) (v := .ref (q 9)) hx hb hts hown hE hS hinX7 0 rfl rfl (by decide) (List.mem_of_getElem? (i := 2) rfl) rfl dX7_findTaking_76 ?_
                        refine lv_iload_n hx hb dX7_findTaking_79 rfl (lv_at hl 2 rfl) ?_
                        refine cx_iald (f := (M 0)) (n := 80) (cA := cI) hx hb hE hS 9 0 rfl rfl (by omega) (by decide) dX7_findTaking_80 ?_
                        have ho80 := (hO i2).2
                        refine cx_topr (z := nI (((M 0) i2).toNatClampNeg)) (hO i2).1 ?_
                        refine lv_imul hx hb dX7_findTaking_81 ?_
                        refine cx_topr (z := nI (20 * (((M 0) i2).toNatClampNeg))) (pk_mul _ _) ?_
                        refine lv_aload_n hx hb dX7_findTaking_82 rfl (lv_at hl 0 rfl) ?_
                        refine cx_get (own := RX7) (index := 34) (C := RX7) (T := TX7) (N := 22) (k := 10) (ci := 7) (v := .ref (q 9)) hx hb hts hown hE hS hinX7 0 rfl rfl (by decide) (List.mem_of_getElem? (i := 2) rfl) rfl dX7_findTaking_83 ?_
                        refine lv_iload_n hx hb dX7_findTaking_86 rfl (lv_at hl 3 rfl) ?_
                        refine cx_iald (f := (M 0)) (n := 80) (cA := cI) hx hb hE hS 9 0 rfl rfl (by omega) (by decide) dX7_findTaking_87 ?_
                        have ho87 := (hO i12).2
                        refine cx_topr (z := nI (((M 0) i12).toNatClampNeg)) (hO i12).1 ?_
                        refine lv_iadd hx hb dX7_findTaking_88 ?_
                        refine cx_topr (z := nI (20 * (((M 0) i2).toNatClampNeg) + ((M 0) i12).toNatClampNeg)) (nI_add _ _) ?_
                        refine cx_zald (f := (Z 0)) (n := 400) (cA := cZ) hx hb hE hS 15 1 rfl rfl (by omega) (by decide) dX7_findTaking_89 ?_
                        refine lv_if_eq (tgt := 97) hx hb dX7_findTaking_90 (by decide) (fun h90 => ?_) (fun h90 => ?_)
                        · skip
                          have y90 : ¬ cx_Ar T n (cx_ow M i2) (cx_ow M i12) := fun z => (hcl _ _ (hOn _ (by omega)) (hOn _ (by omega))).mpr z.2.2 h90
                          exact J97  _ _ _ (by (try clear RET); (try clear hS); (try clear hl); (try clear hE); (try clear hts); (try clear hb); (try clear hx); (try clear hml); (try clear hown); (try clear hinX7); (try clear J2); (try clear ih2); (try clear hN2); (try clear J12); (try clear ih12); (try clear hN12); (try clear J98); (try clear J97); have y10 : ¬ (1 : Int32) = 0 := (by decide); first | assumption | ((try have yac := cx_ac (hX i12)); first | (unfold cx_tbB; grind) | (unfold cx_tb; grind) | grind)) hS (lv_sub hl [0, 1, 2, 3] rfl)
                        · skip
                          have y90 : cx_Ar T n (cx_ow M i2) (cx_ow M i12) := ⟨(hOn _ (by omega)), (hOn _ (by omega)), (hcl _ _ (hOn _ (by omega)) (hOn _ (by omega))).mp h90⟩
                          refine lv_iconst (v := (1 : Int32)) hx hb dX7_findTaking_93 (by decide) ?_
                          refine lv_goto (tgt := 98) hx hb dX7_findTaking_94 (by decide) ?_
                          exact J98 (1 : Int32) _ _ _ (cx_e1 (by (try clear RET); (try clear hS); (try clear hl); (try clear hE); (try clear hts); (try clear hb); (try clear hx); (try clear hml); (try clear hown); (try clear hinX7); (try clear J2); (try clear ih2); (try clear hN2); (try clear J12); (try clear ih12); (try clear hN12); (try clear J98); (try clear J97); have y10 : ¬ (1 : Int32) = 0 := (by decide); first | assumption | ((try have yac := cx_ac (hX i12)); first | (unfold cx_tbB; grind) | (unfold cx_tb; grind) | grind))) hS (lv_sub hl [0, 1, 2, 3] rfl)
        exact J12 (k - 0 + 1) 0 Z_2_2 _ _ _ (Nat.lt_succ_self _) (by omega) (by first | exact hy | exact cx_fTS hk (by omega) hy2 b155) hS (lv_sub hl [1, 2, 3, 0] rfl)
  exact J2 (k - 0 + 1) 0 (Z 2) _ _ _ (Nat.lt_succ_self _) (by omega) (by first | exact cx_fTN (by omega) hy2 | exact cx_fT0) hS (lv_sub hl [1, 2, 0] rfl)
