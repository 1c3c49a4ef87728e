set_option maxHeartbeats 4000000 in
set_option maxRecDepth 100000 in
theorem c_X7_isWrong (l : Launch) (D : va_G) (q : Nat → Nat) (cI cZ : ClassId) (n : Nat) (T : Nat → Nat → Int32) (k : Nat) (M : Nat → Nat → Int32) (d : Nat) (Z : Nat → Nat → Int32) (F : Nat → Nat → Int32) (mm : Nat) (t : Nat) (hm : mm < 80) (ht : t < 20) (hO : cx_R (M 0) 20) (hX : cx_R (M 4) 4) (hot : cx_ow M mm = t) : cx_Mi l D vwCl [(cI, .int), (cZ, .boolean)] cx_NW yX7_isWrong wsX7_isWrong ({ frames := 1, cells := 0, slots := 0, locals := 23 } : Room) [.ref (q 0), .int (nI mm), .int (nI t)] (cyW q cI cZ n T k M d Z F) (fun (r : Int32) (uw : Unit) => (r = 0 ∨ r = 1) ∧ (¬ r = 0 ↔ cx_wm (T 0) (T 1) M mm)) (fun _ => (cyW q cI cZ n T k M d Z F)) := by
  refine cx_Mi.of (cc := cX7_isWrong) (maxL := 6) cx_NW_ok (by decide) rfl (Nat.le_of_ble_eq_true rfl) ?_
  intro p e s m args below meth c Q A ls hx hb hml hown hts hE RET hS hl
  have hl : lv_has ls 6 [(0, .ref (q 0)), (1, .int (nI mm)), (2, .int (nI t))] := hl
  have hown : s.vm.findClass RX7 = some m.cls := hown
  have hinX7 : ∀ w ∈ u_ws RX7 TX7 22, w ∈ wsX7_isWrong := cx_mem [17, 18, 19, 20, 21, 22, 23, 24, 25, 26, 27, 28, 29, 30, 31, 32, 33, 34, 35, 36, 37, 38] (by decide +kernel)
  have yac := cx_ac (hX mm)
  refine lv_aload_n hx hb dX7_isWrong_0 rfl (lv_at hl 0 rfl) ?_
  refine lv_iload_n hx hb dX7_isWrong_1 rfl (lv_at hl 1 rfl) ?_
  refine lv_iconst (v := (1 : Int32)) hx hb dX7_isWrong_2 (by decide) ?_
  refine lv_iconst (v := (1 : Int32)) hx hb dX7_isWrong_3 (by decide) ?_
  refine cx_cVi (As := [.int (nI mm), .int (1 : Int32), .int (1 : Int32)]) (rest := []) ⟨hx, hb, hml, hown, hts⟩ hE hS (c_X7_is_at_1 l D q cI cZ n T k M d Z F mm (1 : Int32) (1 : Int32) (by first | assumption | omega | rfl) (by first | assumption | omega | rfl)) (cwV 3 hts gX7_isWrong_X7_is rfl rfl rfl (by decide +kernel) ⟨Nat.le_of_ble_eq_true rfl, Nat.le_of_ble_eq_true rfl⟩) 0 7 rfl rfl rfl hl.1 rfl (Nat.le_of_ble_eq_true rfl) ⟨Nat.zero_le _, Nat.zero_le _⟩ dX7_isWrong_4 (fun r_4 u_4 H locs hp_4 hS => ?_)
  have hp_4 : (r_4 = 0 ∨ r_4 = 1) ∧ (¬ r_4 = 0 ↔ cx_mk ((M 3)) mm (1 : Int32)) := hp_4
  refine lv_istore_n (lv' := [(3, .int r_4), (0, .ref (q 0)), (1, .int (nI mm)), (2, .int (nI t))]) hx hb dX7_isWrong_7 rfl hl (by decide) rfl (fun ls hl => ?_)
  refine lv_aload_n hx hb dX7_isWrong_8 rfl (lv_at hl 1 rfl) ?_
  refine cx_get (own := RX7) (index := 46) (C := RX7) (T := TX7) (N := 22) (k := 14) (ci := 7) (v := .ref (q 13)) hx hb hts hown hE hS hinX7 0 rfl rfl (by decide) (List.mem_of_getElem? (i := 1) rfl) rfl dX7_isWrong_9 ?_
  refine lv_iload_n hx hb dX7_isWrong_12 rfl (lv_at hl 2 rfl) ?_
  refine cx_iald (f := (M 4)) (n := 80) (cA := cI) hx hb hE hS 13 0 rfl rfl (by omega) (by decide) dX7_isWrong_13 ?_
  have J22 : ∀ (v22_s0 : Int32) (H : Heap) (locs : List Loc) (ls : Array Slot), ((v22_s0 = 0 ∨ v22_s0 = 1) ∧ (¬ v22_s0 = 0 ↔ M 4 mm = 0)) → cx_S D vwCl A s (cyW q cI cZ n T k M d Z F) H locs → lv_has ls 6 [(0, .ref (q 0)), (1, .int (nI mm)), (2, .int (nI t)), (3, .int r_4)] → W p l e ({ frames := 1, cells := 0, slots := 0, locals := 23 } : Room) s m args below meth c H locs 0 0 Q (F0 m 22 ls [.int v22_s0]) := by
    intro v22_s0 H locs ls b22 hS hl
    refine lv_istore (lv' := [(4, .int v22_s0), (0, .ref (q 0)), (1, .int (nI mm)), (2, .int (nI t)), (3, .int r_4)]) hx hb dX7_isWrong_22 hl (by decide) rfl (fun ls hl => ?_)
    refine lv_aload_n hx hb dX7_isWrong_24 rfl (lv_at hl 1 rfl) ?_
    refine cx_get (own := RX7) (index := 7) (C := RX7) (T := TX7) (N := 22) (k := 1) (ci := 7) (v := .ref (q 1)) hx hb hts hown hE hS hinX7 0 rfl rfl (by decide) (List.mem_of_getElem? (i := 2) rfl) rfl dX7_isWrong_25 ?_
    refine lv_iload_n hx hb dX7_isWrong_28 rfl (lv_at hl 3 rfl) ?_
    refine cx_iald (f := (T 0)) (n := 20) (cA := cI) hx hb hE hS 1 0 rfl rfl (by omega) (by decide) dX7_isWrong_29 ?_
    refine lv_iconst (v := (1 : Int32)) hx hb dX7_isWrong_30 (by decide) ?_
    refine lv_icmp_ne (tgt := 125) hx hb dX7_isWrong_31 (by decide) (fun h31 => ?_) (fun h31 => ?_)
    · skip
      refine lv_aload_n hx hb dX7_isWrong_125 rfl (lv_at hl 1 rfl) ?_
      refine cx_get (own := RX7) (index := 7) (C := RX7) (T := TX7) (N := 22) (k := 1) (ci := 7) (v := .ref (q 1)) hx hb hts hown hE hS hinX7 0 rfl rfl (by decide) (List.mem_of_getElem? (i := 2) rfl) rfl dX7_isWrong_126 ?_
      refine lv_iload_n hx hb dX7_isWrong_129 rfl (lv_at hl 3 rfl) ?_
      refine cx_iald (f := (T 0)) (n := 20) (cA := cI) hx hb hE hS 1 0 rfl rfl (by omega) (by decide) dX7_isWrong_130 ?_
      have J148 : ∀ (v148_s0 : Int32) (H : Heap) (locs : List Loc) (ls : Array Slot), ((v148_s0 = 0 ∨ v148_s0 = 1) ∧ (¬ v148_s0 = 0 ↔ T 0 t = 0 ∧ cx_mk (T 1) t 1)) → cx_S D vwCl A s (cyW q cI cZ n T k M d Z F) H locs → lv_has ls 6 [(0, .ref (q 0)), (1, .int (nI mm)), (2, .int (nI t)), (3, .int r_4), (4, .int v22_s0)] → W p l e ({ frames := 1, cells := 0, slots := 0, locals := 23 } : Room) s m args below meth c H locs 0 0 Q (F0 m 148 ls [.int v148_s0]) := by
        intro v148_s0 H locs ls b148 hS hl
        refine lv_istore (lv' := [(5, .int v148_s0), (0, .ref (q 0)), (1, .int (nI mm)), (2, .int (nI t)), (3, .int r_4), (4, .int v22_s0)]) hx hb dX7_isWrong_148 hl (by decide) rfl (fun ls hl => ?_)
        refine lv_aload_n hx hb dX7_isWrong_150 rfl (lv_at hl 1 rfl) ?_
        refine lv_iload_n hx hb dX7_isWrong_151 rfl (lv_at hl 2 rfl) ?_
        refine lv_iconst (v := (1 : Int32)) hx hb dX7_isWrong_152 (by decide) ?_
        refine lv_bipush (v := nI 8) hx hb dX7_isWrong_153 (by decide) ?_
        refine cx_cVi (As := [.int (nI mm), .int (1 : Int32), .int (nI 8)]) (rest := []) ⟨hx, hb, hml, hown, hts⟩ hE hS (c_X7_is_at_1 l D q cI cZ n T k M d Z F mm (1 : Int32) (nI 8) (by first | assumption | omega | rfl) (by first | assumption | omega | rfl)) (cwV 3 hts gX7_isWrong_X7_is rfl rfl rfl (by decide +kernel) ⟨Nat.le_of_ble_eq_true rfl, Nat.le_of_ble_eq_true rfl⟩) 0 7 rfl rfl rfl hl.1 rfl (Nat.le_of_ble_eq_true rfl) ⟨Nat.zero_le _, Nat.zero_le _⟩ dX7_isWrong_155 (fun r_155 u_155 H locs hp_155 hS => ?_)
        have hp_155 : (r_155 = 0 ∨ r_155 = 1) ∧ (¬ r_155 = 0 ↔ cx_mk ((M 3)) mm (nI 8)) := hp_155
        have J200 : ∀ (v200_s0 : Int32) (H : Heap) (locs : List Loc) (ls : Array Slot), ((v200_s0 = 0 ∨ v200_s0 = 1) ∧ (¬ v200_s0 = 0 ↔ cx_wm (T 0) (T 1) M mm)) → cx_S D vwCl A s (cyW q cI cZ n T k M d Z F) H locs → lv_has ls 6 [(0, .ref (q 0)), (1, .int (nI mm)), (2, .int (nI t)), (3, .int r_4), (4, .int v22_s0), (5, .int v148_s0)] → W p l e ({ frames := 1, cells := 0, slots := 0, locals := 23 } : Room) s m args below meth c H locs 0 0 Q (F0 m 200 ls [.int v200_s0]) := by
          intro v200_s0 H locs ls b200 hS hl
          exact RET _ () _ _ _ _ dX7_isWrong_200 (cx_nb b200.1) (by first | exact b200 | (try clear RET); (try clear hS); (try clear hl); (try clear hE); (try clear hts); (try clear hb); (try clear hx); (try clear hml); (try clear hown); (try clear hinX7); (try clear J22); (try clear J148); (try clear J200); have y10 : ¬ (1 : Int32) = 0 := (by decide); first | assumption | ((try have ymn := cx_mn1 h43 h59 h75 h86); (try unfold cx_wm cx_wmF cx_wmC); grind)) hS
        have J195 : ∀ (H : Heap) (locs : List Loc) (ls : Array Slot), (cx_wm (T 0) (T 1) M mm) → cx_S D vwCl A s (cyW q cI cZ n T k M d Z F) H locs → lv_has ls 6 [(0, .ref (q 0)), (1, .int (nI mm)), (2, .int (nI t)), (3, .int r_4), (4, .int v22_s0), (5, .int v148_s0)] → W p l e ({ frames := 1, cells := 0, slots := 0, locals := 23 } : Room) s m args below meth c H locs 0 0 Q (F0 m 195 ls []) := by
          intro  H locs ls f195 hS hl
          refine lv_iconst (v := (1 : Int32)) hx hb dX7_isWrong_195 (by decide) ?_
          refine lv_goto (tgt := 200) hx hb dX7_isWrong_196 (by decide) ?_
          exact J200 (1 : Int32) _ _ _ (cx_e1 (by (try clear RET); (try clear hS); (try clear hl); (try clear hE); (try clear hts); (try clear hb); (try clear hx); (try clear hml); (try clear hown); (try clear hinX7); (try clear J22); (try clear J148); (try clear J200); (try clear J195); have y10 : ¬ (1 : Int32) = 0 := (by decide); first | assumption | ((try have ymn := cx_mn1 h43 h59 h75 h86); (try unfold cx_wm cx_wmF cx_wmC); grind))) hS (lv_sub hl [0, 1, 2, 3, 4, 5] rfl)
        refine lv_if_ne (tgt := 195) hx hb dX7_isWrong_158 (by decide) (fun h158 => ?_) (fun h158 => ?_)
        · skip
          have g158 : cx_mk ((M 3)) mm (nI 8) := hp_155.2.mp h158
          exact J195  _ _ _ (by (try clear RET); (try clear hS); (try clear hl); (try clear hE); (try clear hts); (try clear hb); (try clear hx); (try clear hml); (try clear hown); (try clear hinX7); (try clear J22); (try clear J148); (try clear J200); (try clear J195); have y10 : ¬ (1 : Int32) = 0 := (by decide); first | assumption | ((try have ymn := cx_mn1 h43 h59 h75 h86); (try unfold cx_wm cx_wmF cx_wmC); grind)) hS (lv_sub hl [1, 2, 3, 4, 5, 0] rfl)
        · skip
          have g158 : ¬ (cx_mk ((M 3)) mm (nI 8)) := fun z => hp_155.2.mpr z h158
          refine lv_iload_n hx hb dX7_isWrong_161 rfl (lv_at hl 4 rfl) ?_
          have J199 : ∀ (H : Heap) (locs : List Loc) (ls : Array Slot), (¬ (cx_wm (T 0) (T 1) M mm)) → cx_S D vwCl A s (cyW q cI cZ n T k M d Z F) H locs → lv_has ls 6 [(0, .ref (q 0)), (1, .int (nI mm)), (2, .int (nI t)), (3, .int r_4), (4, .int v22_s0), (5, .int v148_s0)] → W p l e ({ frames := 1, cells := 0, slots := 0, locals := 23 } : Room) s m args below meth c H locs 0 0 Q (F0 m 199 ls []) := by
            intro  H locs ls f199 hS hl
            refine lv_iconst (v := (0 : Int32)) hx hb dX7_isWrong_199 (by decide) ?_
            exact J200 (0 : Int32) _ _ _ (cx_e0 (by (try clear RET); (try clear hS); (try clear hl); (try clear hE); (try clear hts); (try clear hb); (try clear hx); (try clear hml); (try clear hown); (try clear hinX7); (try clear J22); (try clear J148); (try clear J200); (try clear J195); (try clear J199); have y10 : ¬ (1 : Int32) = 0 := (by decide); first | assumption | ((try have ymn := cx_mn1 h43 h59 h75 h86); (try unfold cx_wm cx_wmF cx_wmC); grind))) hS (lv_sub hl [0, 1, 2, 3, 4, 5] rfl)
          refine lv_if_eq (tgt := 199) hx hb dX7_isWrong_162 (by decide) (fun h162 => ?_) (fun h162 => ?_)
          · skip
            have g162 : ¬ (cx_mk ((M 3)) mm (1 : Int32)) := fun z => hp_4.2.mpr z h162
            exact J199  _ _ _ (by (try clear RET); (try clear hS); (try clear hl); (try clear hE); (try clear hts); (try clear hb); (try clear hx); (try clear hml); (try clear hown); (try clear hinX7); (try clear J22); (try clear J148); (try clear J200); (try clear J195); (try clear J199); have y10 : ¬ (1 : Int32) = 0 := (by decide); first | assumption | ((try have ymn := cx_mn1 h43 h59 h75 h86); (try unfold cx_wm cx_wmF cx_wmC); grind)) hS (lv_sub hl [1, 2, 3, 4, 5, 0] rfl)
          · skip
            have g162 : cx_mk ((M 3)) mm (1 : Int32) := hp_4.2.mp h162
            refine lv_aload_n hx hb dX7_isWrong_165 rfl (lv_at hl 1 rfl) ?_
            refine lv_iload_n hx hb dX7_isWrong_166 rfl (lv_at hl 2 rfl) ?_
            refine lv_iconst (v := (1 : Int32)) hx hb dX7_isWrong_167 (by decide) ?_
            refine lv_iconst (v := nI 2) hx hb dX7_isWrong_168 (by decide) ?_
            refine cx_cVi (As := [.int (nI mm), .int (1 : Int32), .int (nI 2)]) (rest := []) ⟨hx, hb, hml, hown, hts⟩ hE hS (c_X7_is_at_1 l D q cI cZ n T k M d Z F mm (1 : Int32) (nI 2) (by first | assumption | omega | rfl) (by first | assumption | omega | rfl)) (cwV 3 hts gX7_isWrong_X7_is rfl rfl rfl (by decide +kernel) ⟨Nat.le_of_ble_eq_true rfl, Nat.le_of_ble_eq_true rfl⟩) 0 7 rfl rfl rfl hl.1 rfl (Nat.le_of_ble_eq_true rfl) ⟨Nat.zero_le _, Nat.zero_le _⟩ dX7_isWrong_169 (fun r_169 u_169 H locs hp_169 hS => ?_)
            have hp_169 : (r_169 = 0 ∨ r_169 = 1) ∧ (¬ r_169 = 0 ↔ cx_mk ((M 3)) mm (nI 2)) := hp_169
            refine lv_if_ne (tgt := 195) hx hb dX7_isWrong_172 (by decide) (fun h172 => ?_) (fun h172 => ?_)
            · skip
              have g172 : cx_mk ((M 3)) mm (nI 2) := hp_169.2.mp h172
              exact J195  _ _ _ (by (try clear RET); (try clear hS); (try clear hl); (try clear hE); (try clear hts); (try clear hb); (try clear hx); (try clear hml); (try clear hown); (try clear hinX7); (try clear J22); (try clear J148); (try clear J200); (try clear J195); (try clear J199); have y10 : ¬ (1 : Int32) = 0 := (by decide); first | assumption | ((try have ymn := cx_mn1 h43 h59 h75 h86); (try unfold cx_wm cx_wmF cx_wmC); grind)) hS (lv_sub hl [1, 2, 3, 4, 5, 0] rfl)
            · skip
              have g172 : ¬ (cx_mk ((M 3)) mm (nI 2)) := fun z => hp_169.2.mpr z h172
              refine lv_aload_n hx hb dX7_isWrong_175 rfl (lv_at hl 1 rfl) ?_
              refine lv_iload_n hx hb dX7_isWrong_176 rfl (lv_at hl 2 rfl) ?_
              refine lv_iconst (v := (1 : Int32)) hx hb dX7_isWrong_177 (by decide) ?_
              refine lv_iconst (v := nI 4) hx hb dX7_isWrong_178 (by decide) ?_
              refine cx_cVi (As := [.int (nI mm), .int (1 : Int32), .int (nI 4)]) (rest := []) ⟨hx, hb, hml, hown, hts⟩ hE hS (c_X7_is_at_1 l D q cI cZ n T k M d Z F mm (1 : Int32) (nI 4) (by first | assumption | omega | rfl) (by first | assumption | omega | rfl)) (cwV 3 hts gX7_isWrong_X7_is rfl rfl rfl (by decide +kernel) ⟨Nat.le_of_ble_eq_true rfl, Nat.le_of_ble_eq_true rfl⟩) 0 7 rfl rfl rfl hl.1 rfl (Nat.le_of_ble_eq_true rfl) ⟨Nat.zero_le _, Nat.zero_le _⟩ dX7_isWrong_179 (fun r_179 u_179 H locs hp_179 hS => ?_)
              have hp_179 : (r_179 = 0 ∨ r_179 = 1) ∧ (¬ r_179 = 0 ↔ cx_mk ((M 3)) mm (nI 4)) := hp_179
              refine lv_if_ne (tgt := 195) hx hb dX7_isWrong_182 (by decide) (fun h182 => ?_) (fun h182 => ?_)
              · skip
                have g182 : cx_mk ((M 3)) mm (nI 4) := hp_179.2.mp h182
                exact J195  _ _ _ (by (try clear RET); (try clear hS); (try clear hl); (try clear hE); (try clear hts); (try clear hb); (try clear hx); (try clear hml); (try clear hown); (try clear hinX7); (try clear J22); (try clear J148); (try clear J200); (try clear J195); (try clear J199); have y10 : ¬ (1 : Int32) = 0 := (by decide); first | assumption | ((try have ymn := cx_mn1 h43 h59 h75 h86); (try unfold cx_wm cx_wmF cx_wmC); grind)) hS (lv_sub hl [1, 2, 3, 4, 5, 0] rfl)
              · skip
                have g182 : ¬ (cx_mk ((M 3)) mm (nI 4)) := fun z => hp_179.2.mpr z h182
                refine lv_iload hx hb dX7_isWrong_185 (lv_at hl 5 rfl) ?_
                refine lv_if_ne (tgt := 195) hx hb dX7_isWrong_187 (by decide) (fun h187 => ?_) (fun h187 => ?_)
                · skip
                  have g187 : M 4 mm = 0 := b22.2.mp h187
                  exact J195  _ _ _ (by (try clear RET); (try clear hS); (try clear hl); (try clear hE); (try clear hts); (try clear hb); (try clear hx); (try clear hml); (try clear hown); (try clear hinX7); (try clear J22); (try clear J148); (try clear J200); (try clear J195); (try clear J199); have y10 : ¬ (1 : Int32) = 0 := (by decide); first | assumption | ((try have ymn := cx_mn1 h43 h59 h75 h86); (try unfold cx_wm cx_wmF cx_wmC); grind)) hS (lv_sub hl [1, 2, 3, 4, 5, 0] rfl)
                · skip
                  have g187 : ¬ (M 4 mm = 0) := fun z => b22.2.mpr z h187
                  refine lv_iload hx hb dX7_isWrong_190 (lv_at hl 0 rfl) ?_
                  refine lv_if_ne (tgt := 199) hx hb dX7_isWrong_192 (by decide) (fun h192 => ?_) (fun h192 => ?_)
                  · skip
                    have g192 : T 0 t = 0 ∧ cx_mk (T 1) t 1 := b148.2.mp h192
                    exact J199  _ _ _ (by (try clear RET); (try clear hS); (try clear hl); (try clear hE); (try clear hts); (try clear hb); (try clear hx); (try clear hml); (try clear hown); (try clear hinX7); (try clear J22); (try clear J148); (try clear J200); (try clear J195); (try clear J199); have y10 : ¬ (1 : Int32) = 0 := (by decide); first | assumption | ((try have ymn := cx_mn1 h43 h59 h75 h86); (try unfold cx_wm cx_wmF cx_wmC); grind)) hS (lv_sub hl [1, 2, 3, 4, 5, 0] rfl)
                  · skip
                    have g192 : ¬ (T 0 t = 0 ∧ cx_mk (T 1) t 1) := fun z => b148.2.mpr z h192
                    exact J195  _ _ _ (by (try clear RET); (try clear hS); (try clear hl); (try clear hE); (try clear hts); (try clear hb); (try clear hx); (try clear hml); (try clear hown); (try clear hinX7); (try clear J22); (try clear J148); (try clear J200); (try clear J195); (try clear J199); have y10 : ¬ (1 : Int32) = 0 := (by decide); first | assumption | ((try have ymn := cx_mn1 h43 h59 h75 h86); (try unfold cx_wm cx_wmF cx_wmC); grind)) hS (lv_sub hl [1, 2, 3, 4, 5, 0] rfl)
      have J147 : ∀ (H : Heap) (locs : List Loc) (ls : Array Slot), (¬ (T 0 t = 0 ∧ cx_mk (T 1) t 1)) → cx_S D vwCl A s (cyW q cI cZ n T k M d Z F) H locs → lv_has ls 6 [(0, .ref (q 0)), (1, .int (nI mm)), (2, .int (nI t)), (3, .int r_4), (4, .int v22_s0)] → W p l e ({ frames := 1, cells := 0, slots := 0, locals := 23 } : Room) s m args below meth c H locs 0 0 Q (F0 m 147 ls []) := by
        intro  H locs ls f147 hS hl
        refine lv_iconst (v := (0 : Int32)) hx hb dX7_isWrong_147 (by decide) ?_
        exact J148 (0 : Int32) _ _ _ (cx_e0 (by (try clear RET); (try clear hS); (try clear hl); (try clear hE); (try clear hts); (try clear hb); (try clear hx); (try clear hml); (try clear hown); (try clear hinX7); (try clear J22); (try clear J148); (try clear J147); have y10 : ¬ (1 : Int32) = 0 := (by decide); first | assumption | ((try have ymn := cx_mn1 h43 h59 h75 h86); (try unfold cx_wm cx_wmF cx_wmC); grind))) hS (lv_sub hl [0, 1, 2, 3, 4] rfl)
      refine lv_if_ne (tgt := 147) hx hb dX7_isWrong_131 (by decide) (fun h131 => ?_) (fun h131 => ?_)
      · skip
        exact J147  _ _ _ (by (try clear RET); (try clear hS); (try clear hl); (try clear hE); (try clear hts); (try clear hb); (try clear hx); (try clear hml); (try clear hown); (try clear hinX7); (try clear J22); (try clear J148); (try clear J147); have y10 : ¬ (1 : Int32) = 0 := (by decide); first | assumption | ((try have ymn := cx_mn1 h43 h59 h75 h86); (try unfold cx_wm cx_wmF cx_wmC); grind)) hS (lv_sub hl [1, 2, 3, 4, 0] rfl)
      · skip
        refine lv_aload_n hx hb dX7_isWrong_134 rfl (lv_at hl 1 rfl) ?_
        refine lv_iload_n hx hb dX7_isWrong_135 rfl (lv_at hl 3 rfl) ?_
        refine lv_iconst (v := (1 : Int32)) hx hb dX7_isWrong_136 (by decide) ?_
        refine cx_cVi (As := [.int (nI t), .int (1 : Int32)]) (rest := []) ⟨hx, hb, hml, hown, hts⟩ hE hS (c_X7_marked l D q cI cZ n T k M d Z F t (1 : Int32) (by first | assumption | omega | rfl)) (cwV 2 hts gX7_isWrong_X7_marked rfl rfl rfl (by decide +kernel) ⟨Nat.le_of_ble_eq_true rfl, Nat.le_of_ble_eq_true rfl⟩) 0 7 rfl rfl rfl hl.1 rfl (Nat.le_of_ble_eq_true rfl) ⟨Nat.zero_le _, Nat.zero_le _⟩ dX7_isWrong_137 (fun r_137 u_137 H locs hp_137 hS => ?_)
        have hp_137 : (r_137 = 0 ∨ r_137 = 1) ∧ (¬ r_137 = 0 ↔ cx_mk ((T 1)) t (1 : Int32)) := hp_137
        refine lv_if_eq (tgt := 147) hx hb dX7_isWrong_140 (by decide) (fun h140 => ?_) (fun h140 => ?_)
        · skip
          have g140 : ¬ (cx_mk ((T 1)) t (1 : Int32)) := fun z => hp_137.2.mpr z h140
          exact J147  _ _ _ (by (try clear RET); (try clear hS); (try clear hl); (try clear hE); (try clear hts); (try clear hb); (try clear hx); (try clear hml); (try clear hown); (try clear hinX7); (try clear J22); (try clear J148); (try clear J147); have y10 : ¬ (1 : Int32) = 0 := (by decide); first | assumption | ((try have ymn := cx_mn1 h43 h59 h75 h86); (try unfold cx_wm cx_wmF cx_wmC); grind)) hS (lv_sub hl [1, 2, 3, 4, 0] rfl)
        · skip
          have g140 : cx_mk ((T 1)) t (1 : Int32) := hp_137.2.mp h140
          refine lv_iconst (v := (1 : Int32)) hx hb dX7_isWrong_143 (by decide) ?_
          refine lv_goto (tgt := 148) hx hb dX7_isWrong_144 (by decide) ?_
          exact J148 (1 : Int32) _ _ _ (cx_e1 (by (try clear RET); (try clear hS); (try clear hl); (try clear hE); (try clear hts); (try clear hb); (try clear hx); (try clear hml); (try clear hown); (try clear hinX7); (try clear J22); (try clear J148); (try clear J147); have y10 : ¬ (1 : Int32) = 0 := (by decide); first | assumption | ((try have ymn := cx_mn1 h43 h59 h75 h86); (try unfold cx_wm cx_wmF cx_wmC); grind))) hS (lv_sub hl [1, 2, 3, 4, 0] rfl)
    · skip
      refine lv_iload_n hx hb dX7_isWrong_34 rfl (lv_at hl 4 rfl) ?_
      have J43 : ∀ (v43_s0 : Int32) (H : Heap) (locs : List Loc) (ls : Array Slot), ((cx_mk (M 3) mm 1 ∧ v43_s0 = 1) ∨ (¬ cx_mk (M 3) mm 1 ∧ v43_s0 = 0)) → cx_S D vwCl A s (cyW q cI cZ n T k M d Z F) H locs → lv_has ls 6 [(0, .ref (q 0)), (1, .int (nI mm)), (2, .int (nI t)), (3, .int r_4), (4, .int v22_s0)] → W p l e ({ frames := 1, cells := 0, slots := 0, locals := 23 } : Room) s m args below meth c H locs 0 0 Q (F0 m 43 ls [.int v43_s0]) := by
        intro v43_s0 H locs ls h43 hS hl
        refine lv_aload_n hx hb dX7_isWrong_43 rfl (lv_at hl 0 rfl) ?_
        refine lv_iload_n hx hb dX7_isWrong_44 rfl (lv_at hl 1 rfl) ?_
        refine lv_iconst (v := (1 : Int32)) hx hb dX7_isWrong_45 (by decide) ?_
        refine lv_bipush (v := nI 8) hx hb dX7_isWrong_46 (by decide) ?_
        refine cx_cVi (As := [.int (nI mm), .int (1 : Int32), .int (nI 8)]) (rest := [.int v43_s0]) ⟨hx, hb, hml, hown, hts⟩ hE hS (c_X7_is_at_1 l D q cI cZ n T k M d Z F mm (1 : Int32) (nI 8) (by first | assumption | omega | rfl) (by first | assumption | omega | rfl)) (cwV 3 hts gX7_isWrong_X7_is rfl rfl rfl (by decide +kernel) ⟨Nat.le_of_ble_eq_true rfl, Nat.le_of_ble_eq_true rfl⟩) 0 7 rfl rfl rfl hl.1 rfl (Nat.le_of_ble_eq_true rfl) ⟨Nat.zero_le _, Nat.zero_le _⟩ dX7_isWrong_48 (fun r_48 u_48 H locs hp_48 hS => ?_)
        have hp_48 : (r_48 = 0 ∨ r_48 = 1) ∧ (¬ r_48 = 0 ↔ cx_mk ((M 3)) mm (nI 8)) := hp_48
        have J59 : ∀ (v59_s0 : Int32) (H : Heap) (locs : List Loc) (ls : Array Slot), ((cx_mk (M 3) mm (nI 8) ∧ v59_s0 = 1) ∨ (¬ cx_mk (M 3) mm (nI 8) ∧ v59_s0 = 0)) → cx_S D vwCl A s (cyW q cI cZ n T k M d Z F) H locs → lv_has ls 6 [(0, .ref (q 0)), (1, .int (nI mm)), (2, .int (nI t)), (3, .int r_4), (4, .int v22_s0)] → W p l e ({ frames := 1, cells := 0, slots := 0, locals := 23 } : Room) s m args below meth c H locs 0 0 Q (F0 m 59 ls [.int v59_s0, .int v43_s0]) := by
          intro v59_s0 H locs ls h59 hS hl
          refine lv_iadd hx hb dX7_isWrong_59 ?_
          refine lv_aload_n hx hb dX7_isWrong_60 rfl (lv_at hl 0 rfl) ?_
          refine lv_iload_n hx hb dX7_isWrong_61 rfl (lv_at hl 1 rfl) ?_
          refine lv_iconst (v := (1 : Int32)) hx hb dX7_isWrong_62 (by decide) ?_
          refine lv_iconst (v := nI 4) hx hb dX7_isWrong_63 (by decide) ?_
          refine cx_cVi (As := [.int (nI mm), .int (1 : Int32), .int (nI 4)]) (rest := [.int (v43_s0 + v59_s0)]) ⟨hx, hb, hml, hown, hts⟩ hE hS (c_X7_is_at_1 l D q cI cZ n T k M d Z F mm (1 : Int32) (nI 4) (by first | assumption | omega | rfl) (by first | assumption | omega | rfl)) (cwV 3 hts gX7_isWrong_X7_is rfl rfl rfl (by decide +kernel) ⟨Nat.le_of_ble_eq_true rfl, Nat.le_of_ble_eq_true rfl⟩) 0 7 rfl rfl rfl hl.1 rfl (Nat.le_of_ble_eq_true rfl) ⟨Nat.zero_le _, Nat.zero_le _⟩ dX7_isWrong_64 (fun r_64 u_64 H locs hp_64 hS => ?_)
          have hp_64 : (r_64 = 0 ∨ r_64 = 1) ∧ (¬ r_64 = 0 ↔ cx_mk ((M 3)) mm (nI 4)) := hp_64
          have J75 : ∀ (v75_s0 : Int32) (H : Heap) (locs : List Loc) (ls : Array Slot), ((cx_mk (M 3) mm (nI 4) ∧ v75_s0 = 1) ∨ (¬ cx_mk (M 3) mm (nI 4) ∧ v75_s0 = 0)) → cx_S D vwCl A s (cyW q cI cZ n T k M d Z F) H locs → lv_has ls 6 [(0, .ref (q 0)), (1, .int (nI mm)), (2, .int (nI t)), (3, .int r_4), (4, .int v22_s0)] → W p l e ({ frames := 1, cells := 0, slots := 0, locals := 23 } : Room) s m args below meth c H locs 0 0 Q (F0 m 75 ls [.int v75_s0, .int (v43_s0 + v59_s0)]) := by
            intro v75_s0 H locs ls h75 hS hl
            refine lv_iadd hx hb dX7_isWrong_75 ?_
            refine lv_iload hx hb dX7_isWrong_76 (lv_at hl 4 rfl) ?_
            have J86 : ∀ (v86_s0 : Int32) (H : Heap) (locs : List Loc) (ls : Array Slot), ((M 4 mm = 0 ∧ v86_s0 = 1) ∨ (¬ M 4 mm = 0 ∧ v86_s0 = 0)) → cx_S D vwCl A s (cyW q cI cZ n T k M d Z F) H locs → lv_has ls 6 [(0, .ref (q 0)), (1, .int (nI mm)), (2, .int (nI t)), (3, .int r_4), (4, .int v22_s0)] → W p l e ({ frames := 1, cells := 0, slots := 0, locals := 23 } : Room) s m args below meth c H locs 0 0 Q (F0 m 86 ls [.int v86_s0, .int ((v43_s0 + v59_s0) + v75_s0)]) := by
              intro v86_s0 H locs ls h86 hS hl
              refine lv_iadd hx hb dX7_isWrong_86 ?_
              refine lv_istore (lv' := [(5, .int (((v43_s0 + v59_s0) + v75_s0) + v86_s0)), (0, .ref (q 0)), (1, .int (nI mm)), (2, .int (nI t)), (3, .int r_4), (4, .int v22_s0)]) hx hb dX7_isWrong_87 hl (by decide) rfl (fun ls hl => ?_)
              refine lv_aload_n hx hb dX7_isWrong_89 rfl (lv_at hl 1 rfl) ?_
              refine lv_iload_n hx hb dX7_isWrong_90 rfl (lv_at hl 2 rfl) ?_
              refine lv_iconst (v := (1 : Int32)) hx hb dX7_isWrong_91 (by decide) ?_
              refine lv_iconst (v := nI 2) hx hb dX7_isWrong_92 (by decide) ?_
              refine cx_cVi (As := [.int (nI mm), .int (1 : Int32), .int (nI 2)]) (rest := []) ⟨hx, hb, hml, hown, hts⟩ hE hS (c_X7_is_at_1 l D q cI cZ n T k M d Z F mm (1 : Int32) (nI 2) (by first | assumption | omega | rfl) (by first | assumption | omega | rfl)) (cwV 3 hts gX7_isWrong_X7_is rfl rfl rfl (by decide +kernel) ⟨Nat.le_of_ble_eq_true rfl, Nat.le_of_ble_eq_true rfl⟩) 0 7 rfl rfl rfl hl.1 rfl (Nat.le_of_ble_eq_true rfl) ⟨Nat.zero_le _, Nat.zero_le _⟩ dX7_isWrong_93 (fun r_93 u_93 H locs hp_93 hS => ?_)
              have hp_93 : (r_93 = 0 ∨ r_93 = 1) ∧ (¬ r_93 = 0 ↔ cx_mk ((M 3)) mm (nI 2)) := hp_93
              have J124 : ∀ (v124_s0 : Int32) (H : Heap) (locs : List Loc) (ls : Array Slot), ((v124_s0 = 0 ∨ v124_s0 = 1) ∧ (¬ v124_s0 = 0 ↔ cx_wm (T 0) (T 1) M mm)) → cx_S D vwCl A s (cyW q cI cZ n T k M d Z F) H locs → lv_has ls 6 [(0, .ref (q 0)), (1, .int (nI mm)), (2, .int (nI t)), (3, .int r_4), (4, .int v22_s0), (5, .int (((v43_s0 + v59_s0) + v75_s0) + v86_s0))] → W p l e ({ frames := 1, cells := 0, slots := 0, locals := 23 } : Room) s m args below meth c H locs 0 0 Q (F0 m 124 ls [.int v124_s0]) := by
                intro v124_s0 H locs ls b124 hS hl
                exact RET _ () _ _ _ _ dX7_isWrong_124 (cx_nb b124.1) (by first | exact b124 | (try clear RET); (try clear hS); (try clear hl); (try clear hE); (try clear hts); (try clear hb); (try clear hx); (try clear hml); (try clear hown); (try clear hinX7); (try clear J22); (try clear J43); (try clear J59); (try clear J75); (try clear J86); (try clear J124); have y10 : ¬ (1 : Int32) = 0 := (by decide); first | assumption | ((try have ymn := cx_mn1 h43 h59 h75 h86); (try unfold cx_wm cx_wmF cx_wmC); grind)) hS
              have J119 : ∀ (H : Heap) (locs : List Loc) (ls : Array Slot), (cx_wm (T 0) (T 1) M mm) → cx_S D vwCl A s (cyW q cI cZ n T k M d Z F) H locs → lv_has ls 6 [(0, .ref (q 0)), (1, .int (nI mm)), (2, .int (nI t)), (3, .int r_4), (4, .int v22_s0), (5, .int (((v43_s0 + v59_s0) + v75_s0) + v86_s0))] → W p l e ({ frames := 1, cells := 0, slots := 0, locals := 23 } : Room) s m args below meth c H locs 0 0 Q (F0 m 119 ls []) := by
                intro  H locs ls f119 hS hl
                refine lv_iconst (v := (1 : Int32)) hx hb dX7_isWrong_119 (by decide) ?_
                refine lv_goto (tgt := 124) hx hb dX7_isWrong_120 (by decide) ?_
                exact J124 (1 : Int32) _ _ _ (cx_e1 (by (try clear RET); (try clear hS); (try clear hl); (try clear hE); (try clear hts); (try clear hb); (try clear hx); (try clear hml); (try clear hown); (try clear hinX7); (try clear J22); (try clear J43); (try clear J59); (try clear J75); (try clear J86); (try clear J124); (try clear J119); have y10 : ¬ (1 : Int32) = 0 := (by decide); first | assumption | ((try have ymn := cx_mn1 h43 h59 h75 h86); (try unfold cx_wm cx_wmF cx_wmC); grind))) hS (lv_sub hl [0, 1, 2, 3, 4, 5] rfl)
              refine lv_if_ne (tgt := 119) hx hb dX7_isWrong_96 (by decide) (fun h96 => ?_) (fun h96 => ?_)
              · skip
                have g96 : cx_mk ((M 3)) mm (nI 2) := hp_93.2.mp h96
                exact J119  _ _ _ (by (try clear RET); (try clear hS); (try clear hl); (try clear hE); (try clear hts); (try clear hb); (try clear hx); (try clear hml); (try clear hown); (try clear hinX7); (try clear J22); (try clear J43); (try clear J59); (try clear J75); (try clear J86); (try clear J124); (try clear J119); have y10 : ¬ (1 : Int32) = 0 := (by decide); first | assumption | ((try have ymn := cx_mn1 h43 h59 h75 h86); (try unfold cx_wm cx_wmF cx_wmC); grind)) hS (lv_sub hl [1, 2, 3, 4, 5, 0] rfl)
              · skip
                have g96 : ¬ (cx_mk ((M 3)) mm (nI 2)) := fun z => hp_93.2.mpr z h96
                refine lv_aload_n hx hb dX7_isWrong_99 rfl (lv_at hl 1 rfl) ?_
                refine cx_get (own := RX7) (index := 46) (C := RX7) (T := TX7) (N := 22) (k := 14) (ci := 7) (v := .ref (q 13)) hx hb hts hown hE hS hinX7 0 rfl rfl (by decide) (List.mem_of_getElem? (i := 1) rfl) rfl dX7_isWrong_100 ?_
                refine lv_iload_n hx hb dX7_isWrong_103 rfl (lv_at hl 2 rfl) ?_
                refine cx_iald (f := (M 4)) (n := 80) (cA := cI) hx hb hE hS 13 0 rfl rfl (by omega) (by decide) dX7_isWrong_104 ?_
                refine lv_iconst (v := (1 : Int32)) hx hb dX7_isWrong_105 (by decide) ?_
                refine lv_iconst (v := nI 2) hx hb dX7_isWrong_106 (by decide) ?_
                refine cx_cSi (As := [.int ((M 4) mm), .int (1 : Int32), .int (nI 2)]) (rest := []) ⟨hx, hb, hml, hown, hts⟩ hE hS (c_X7_in l D [(cI, .int), (cZ, .boolean)] (cyW q cI cZ n T k M d Z F) ((M 4) mm) (1 : Int32) (nI 2) ) (va_cwS 3 hts gX7_isWrong_X7_in rfl rfl rfl (by decide +kernel) ⟨Nat.le_of_ble_eq_true rfl, Nat.le_of_ble_eq_true rfl⟩) rfl hl.1 rfl (Nat.le_of_ble_eq_true rfl) ⟨Nat.zero_le _, Nat.zero_le _⟩ dX7_isWrong_107 (fun r_107 u_107 H locs hp_107 hS => ?_)
                have hp_107 : r_107 = cx_b ((1 : Int32) ≤ ((M 4) mm) ∧ ((M 4) mm) ≤ (nI 2)) := hp_107
                subst hp_107
                refine lv_if_ne (tgt := 119) hx hb dX7_isWrong_110 (by decide) (fun h110 => ?_) (fun h110 => ?_)
                · skip
                  have g110 := cx_b1 h110
                  exact J119  _ _ _ (by (try clear RET); (try clear hS); (try clear hl); (try clear hE); (try clear hts); (try clear hb); (try clear hx); (try clear hml); (try clear hown); (try clear hinX7); (try clear J22); (try clear J43); (try clear J59); (try clear J75); (try clear J86); (try clear J124); (try clear J119); have y10 : ¬ (1 : Int32) = 0 := (by decide); first | assumption | ((try have ymn := cx_mn1 h43 h59 h75 h86); (try unfold cx_wm cx_wmF cx_wmC); grind)) hS (lv_sub hl [1, 2, 3, 4, 5, 0] rfl)
                · skip
                  have g110 := cx_b0 h110
                  refine lv_iload hx hb dX7_isWrong_113 (lv_at hl 0 rfl) ?_
                  refine lv_iconst (v := (1 : Int32)) hx hb dX7_isWrong_115 (by decide) ?_
                  refine lv_icmp_eq (tgt := 123) hx hb dX7_isWrong_116 (by decide) (fun h116 => ?_) (fun h116 => ?_)
                  · skip
                    refine lv_iconst (v := (0 : Int32)) hx hb dX7_isWrong_123 (by decide) ?_
                    exact J124 (0 : Int32) _ _ _ (cx_e0 (by (try clear RET); (try clear hS); (try clear hl); (try clear hE); (try clear hts); (try clear hb); (try clear hx); (try clear hml); (try clear hown); (try clear hinX7); (try clear J22); (try clear J43); (try clear J59); (try clear J75); (try clear J86); (try clear J124); (try clear J119); have y10 : ¬ (1 : Int32) = 0 := (by decide); first | assumption | ((try have ymn := cx_mn1 h43 h59 h75 h86); (try unfold cx_wm cx_wmF cx_wmC); grind))) hS (lv_sub hl [1, 2, 3, 4, 5, 0] rfl)
                  · skip
                    exact J119  _ _ _ (by (try clear RET); (try clear hS); (try clear hl); (try clear hE); (try clear hts); (try clear hb); (try clear hx); (try clear hml); (try clear hown); (try clear hinX7); (try clear J22); (try clear J43); (try clear J59); (try clear J75); (try clear J86); (try clear J124); (try clear J119); have y10 : ¬ (1 : Int32) = 0 := (by decide); first | assumption | ((try have ymn := cx_mn1 h43 h59 h75 h86); (try unfold cx_wm cx_wmF cx_wmC); grind)) hS (lv_sub hl [1, 2, 3, 4, 5, 0] rfl)
            refine lv_if_eq (tgt := 85) hx hb dX7_isWrong_78 (by decide) (fun h78 => ?_) (fun h78 => ?_)
            · skip
              have g78 : ¬ (M 4 mm = 0) := fun z => b22.2.mpr z h78
              refine lv_iconst (v := (0 : Int32)) hx hb dX7_isWrong_85 (by decide) ?_
              exact J86 (0 : Int32) _ _ _ (by first | exact Or.inl ⟨g78, rfl⟩ | exact Or.inr ⟨g78, rfl⟩) hS (lv_sub hl [0, 1, 2, 3, 4] rfl)
            · skip
              have g78 : M 4 mm = 0 := b22.2.mp h78
              refine lv_iconst (v := (1 : Int32)) hx hb dX7_isWrong_81 (by decide) ?_
              refine lv_goto (tgt := 86) hx hb dX7_isWrong_82 (by decide) ?_
              exact J86 (1 : Int32) _ _ _ (by first | exact Or.inl ⟨g78, rfl⟩ | exact Or.inr ⟨g78, rfl⟩) hS (lv_sub hl [0, 1, 2, 3, 4] rfl)
          refine lv_if_eq (tgt := 74) hx hb dX7_isWrong_67 (by decide) (fun h67 => ?_) (fun h67 => ?_)
          · skip
            have g67 : ¬ (cx_mk ((M 3)) mm (nI 4)) := fun z => hp_64.2.mpr z h67
            refine lv_iconst (v := (0 : Int32)) hx hb dX7_isWrong_74 (by decide) ?_
            exact J75 (0 : Int32) _ _ _ (by first | exact Or.inl ⟨g67, rfl⟩ | exact Or.inr ⟨g67, rfl⟩) hS (lv_sub hl [0, 1, 2, 3, 4] rfl)
          · skip
            have g67 : cx_mk ((M 3)) mm (nI 4) := hp_64.2.mp h67
            refine lv_iconst (v := (1 : Int32)) hx hb dX7_isWrong_70 (by decide) ?_
            refine lv_goto (tgt := 75) hx hb dX7_isWrong_71 (by decide) ?_
            exact J75 (1 : Int32) _ _ _ (by first | exact Or.inl ⟨g67, rfl⟩ | exact Or.inr ⟨g67, rfl⟩) hS (lv_sub hl [0, 1, 2, 3, 4] rfl)
        refine lv_if_eq (tgt := 58) hx hb dX7_isWrong_51 (by decide) (fun h51 => ?_) (fun h51 => ?_)
        · skip
          have g51 : ¬ (cx_mk ((M 3)) mm (nI 8)) := fun z => hp_48.2.mpr z h51
          refine lv_iconst (v := (0 : Int32)) hx hb dX7_isWrong_58 (by decide) ?_
          exact J59 (0 : Int32) _ _ _ (by first | exact Or.inl ⟨g51, rfl⟩ | exact Or.inr ⟨g51, rfl⟩) hS (lv_sub hl [0, 1, 2, 3, 4] rfl)
        · skip
          have g51 : cx_mk ((M 3)) mm (nI 8) := hp_48.2.mp h51
          refine lv_iconst (v := (1 : Int32)) hx hb dX7_isWrong_54 (by decide) ?_
          refine lv_goto (tgt := 59) hx hb dX7_isWrong_55 (by decide) ?_
          exact J59 (1 : Int32) _ _ _ (by first | exact Or.inl ⟨g51, rfl⟩ | exact Or.inr ⟨g51, rfl⟩) hS (lv_sub hl [0, 1, 2, 3, 4] rfl)
      refine lv_if_eq (tgt := 42) hx hb dX7_isWrong_35 (by decide) (fun h35 => ?_) (fun h35 => ?_)
      · skip
        have g35 : ¬ (cx_mk ((M 3)) mm (1 : Int32)) := fun z => hp_4.2.mpr z h35
        refine lv_iconst (v := (0 : Int32)) hx hb dX7_isWrong_42 (by decide) ?_
        exact J43 (0 : Int32) _ _ _ (by first | exact Or.inl ⟨g35, rfl⟩ | exact Or.inr ⟨g35, rfl⟩) hS (lv_sub hl [1, 2, 3, 4, 0] rfl)
      · skip
        have g35 : cx_mk ((M 3)) mm (1 : Int32) := hp_4.2.mp h35
        refine lv_iconst (v := (1 : Int32)) hx hb dX7_isWrong_38 (by decide) ?_
        refine lv_goto (tgt := 43) hx hb dX7_isWrong_39 (by decide) ?_
        exact J43 (1 : Int32) _ _ _ (by first | exact Or.inl ⟨g35, rfl⟩ | exact Or.inr ⟨g35, rfl⟩) hS (lv_sub hl [1, 2, 3, 4, 0] rfl)
  refine lv_if_ne (tgt := 21) hx hb dX7_isWrong_14 (by decide) (fun h14 => ?_) (fun h14 => ?_)
  · skip
    refine lv_iconst (v := (0 : Int32)) hx hb dX7_isWrong_21 (by decide) ?_
    exact J22 (0 : Int32) _ _ _ (cx_e0 (by (try clear RET); (try clear hS); (try clear hl); (try clear hE); (try clear hts); (try clear hb); (try clear hx); (try clear hml); (try clear hown); (try clear hinX7); (try clear J22); have y10 : ¬ (1 : Int32) = 0 := (by decide); first | assumption | ((try have ymn := cx_mn1 h43 h59 h75 h86); (try unfold cx_wm cx_wmF cx_wmC); grind))) hS (lv_sub hl [1, 2, 3, 0] rfl)
  · skip
    refine lv_iconst (v := (1 : Int32)) hx hb dX7_isWrong_17 (by decide) ?_
    refine lv_goto (tgt := 22) hx hb dX7_isWrong_18 (by decide) ?_
    exact J22 (1 : Int32) _ _ _ (cx_e1 (by (try clear RET); (try clear hS); (try clear hl); (try clear hE); (try clear hts); (try clear hb); (try clear hx); (try clear hml); (try clear hown); (try clear hinX7); (try clear J22); have y10 : ¬ (1 : Int32) = 0 := (by decide); first | assumption | ((try have ymn := cx_mn1 h43 h59 h75 h86); (try unfold cx_wm cx_wmF cx_wmC); grind))) hS (lv_sub hl [1, 2, 3, 0] rfl)
set_option maxHeartbeats 4000000 in
set_option maxRecDepth 100000 in
theorem c_X7_memberFaults (l : Launch) (D : va_G) (q : Nat → Nat) (cI cZ : ClassId) (n : Nat) (T : Nat → Nat → Int32) (k : Nat) (M : Nat → Nat → Int32) (d : Nat) (Z : Nat → Nat → Int32) (F : Nat → Nat → Int32) (t : Nat) (hn : n ≤ 20) (hk : k ≤ 80) (hO : cx_R (M 0) 20) (hX : cx_R (M 4) 4) (ht : t < n) : cx_Mv l D vwCl [(cI, .int), (cZ, .boolean)] cx_NW yX7_memberFaults wsX7_memberFaults ({ frames := 2, cells := 0, slots := 0, locals := 48 } : Room) [.ref (q 0), .int (nI t)] (cyW q cI cZ n T k M d Z F) (fun (uw : (Nat → Int32)) => cx_EE uw ↔ cx_EE (Z 1) ∨ cx_MF k (T 0) (T 1) M t) (fun uw => (cyW q cI cZ n T k M d (cx_u Z 1 uw) F)) := by
  refine cx_Mv.of (cc := cX7_memberFaults) (maxL := 4) cx_NW_ok (by decide) rfl (Nat.le_of_ble_eq_true rfl) ?_
  intro p e s m args below meth c Q A ls hx hb hml hown hts hE RET hS hl
  have hl : lv_has ls 4 [(0, .ref (q 0)), (1, .int (nI t))] := hl
  have hown : s.vm.findClass RX7 = some m.cls := hown
  have hinX7 : ∀ w ∈ u_ws RX7 TX7 22, w ∈ wsX7_memberFaults := cx_mem [34, 35, 36, 37, 38, 39, 40, 41, 42, 43, 44, 45, 46, 47, 48, 49, 50, 51, 52, 53, 54, 55] (by decide +kernel)
  refine lv_iconst (v := (0 : Int32)) hx hb dX7_memberFaults_0 (by decide) ?_
  refine cx_topr (z := nI 0) (by decide) ?_
  refine lv_istore_n (lv' := [(2, .int (nI 0)), (0, .ref (q 0)), (1, .int (nI t))]) hx hb dX7_memberFaults_1 rfl hl (by decide) rfl (fun ls hl => ?_)
  have J2 : ∀ (N : Nat) (i2 : Nat) (Z_1_2 : Nat → Int32) (H : Heap) (locs : List Loc) (ls : Array Slot), (k - i2 < N) → (i2 ≤ k) → (cx_EE Z_1_2 ↔ cx_EE (Z 1) ∨ ∃ j, j < i2 ∧ (cx_ow M j = t ∧ (cx_dbl M j ∨ cx_wm (T 0) (T 1) M j))) → cx_S D vwCl A s (cyW q cI cZ n T k M d (cx_u Z 1 Z_1_2) F) H locs → lv_has ls 4 [(0, .ref (q 0)), (1, .int (nI t)), (2, .int (nI i2))] → W p l e ({ frames := 2, cells := 0, slots := 0, locals := 48 } : Room) s m args below meth c H locs 0 0 Q (F0 m 2 ls []) := by
    intro N2
    induction N2 with
    | zero => intro i2 Z_1_2 H locs ls hN; exact absurd hN (by omega)
    | succ N2 ih2 =>
      intro i2 Z_1_2 H locs ls hN2 hi2 hq hS hl
      refine lv_iload_n hx hb dX7_memberFaults_2 rfl (lv_at hl 2 rfl) ?_
      refine lv_aload_n hx hb dX7_memberFaults_3 rfl (lv_at hl 0 rfl) ?_
      refine cx_get (own := RX7) (index := 81) (C := RX7) (T := TX7) (N := 22) (k := 9) (ci := 7) (v := .int (nI k)) hx hb hts hown hE hS hinX7 0 rfl rfl (by decide) (List.mem_of_getElem? (i := 1) rfl) rfl dX7_memberFaults_4 ?_
      refine lv_icmp_ge (tgt := 83) hx hb dX7_memberFaults_7 (by decide) (fun h7 => ?_) (fun h7 => ?_)
      · skip
        have g7 : k ≤ i2 := (nI_leI (a := k) (b := i2) (by omega) (by omega)).mp h7
        exact RET (Z_1_2) _ _ _ _ dX7_memberFaults_83 (cx_goE hq (by omega) (by omega)) hS
      · skip
        have g7 : ¬ (k ≤ i2) := fun z => h7 ((nI_leI (a := k) (b := i2) (by omega) (by omega)).mpr z)
        refine lv_aload_n hx hb dX7_memberFaults_10 rfl (lv_at hl 0 rfl) ?_
        refine cx_get (own := RX7) (index := 34) (C := RX7) (T := TX7) (N := 22) (k := 10) (ci := 7) (v := .ref (q 9)) hx hb hts hown hE hS hinX7 0 rfl rfl (by decide) (List.mem_of_getElem? (i := 2) rfl) rfl dX7_memberFaults_11 ?_
        refine lv_iload_n hx hb dX7_memberFaults_14 rfl (lv_at hl 2 rfl) ?_
        refine cx_iald (f := (M 0)) (n := 80) (cA := cI) hx hb hE hS 9 0 rfl rfl (by omega) (by decide) dX7_memberFaults_15 ?_
        have ho15 := (hO i2).2
        refine cx_topr (z := nI (((M 0) i2).toNatClampNeg)) (hO i2).1 ?_
        refine lv_iload_n hx hb dX7_memberFaults_16 rfl (lv_at hl 1 rfl) ?_
        have J77 : ∀ (Z_1_77 : Nat → Int32) (H : Heap) (locs : List Loc) (ls : Array Slot), (cx_EE Z_1_77 ↔ cx_EE (Z 1) ∨ ∃ j, j < (i2 + 1) ∧ (cx_ow M j = t ∧ (cx_dbl M j ∨ cx_wm (T 0) (T 1) M j))) → cx_S D vwCl A s (cyW q cI cZ n T k M d (cx_u Z 1 Z_1_77) F) H locs → lv_has ls 4 [(0, .ref (q 0)), (1, .int (nI t)), (2, .int (nI i2))] → W p l e ({ frames := 2, cells := 0, slots := 0, locals := 48 } : Room) s m args below meth c H locs 0 0 Q (F0 m 77 ls []) := by
          intro Z_1_77 H locs ls hq77 hS hl
          refine lv_iinc (v := nI (i2 + 1)) (lv' := [(2, .int (nI (i2 + 1))), (0, .ref (q 0)), (1, .int (nI t))]) hx hb dX7_memberFaults_77 hl (k := 2) rfl (cx_inc _) (by decide) rfl (fun ls hl => ?_)
          refine lv_goto (tgt := 2) hx hb dX7_memberFaults_80 (by decide) ?_
          exact ih2 (i2 + 1) Z_1_77 _ _ _ (by (try clear hq77); (try clear hq); omega) (by (try clear hq77); (try clear hq); omega) (by first | exact hq77 | exact cx_go0) hS (lv_sub hl [1, 2, 0] rfl)
        refine lv_icmp_ne (tgt := 77) hx hb dX7_memberFaults_17 (by decide) (fun h17 => ?_) (fun h17 => ?_)
        · skip
          have g17 : ¬ ((((M 0) i2).toNatClampNeg) = t) := fun z => h17 ((nI_eq (a := ((M 0) i2).toNatClampNeg) (b := t) (by omega) (by omega)).mpr z)
          exact J77 Z_1_2 _ _ _ (by first | exact cx_goN (Q := fun j => cx_ow M j = t ∧ (cx_dbl M j ∨ cx_wm (T 0) (T 1) M j)) hq (fun z => g17 z.1) | exact cx_goS (Q := fun j => cx_ow M j = t ∧ (cx_dbl M j ∨ cx_wm (T 0) (T 1) M j)) hq (cx_mfS hO g17 (cx_goE hq22 (by omega) (by omega)) hp_74 hp_71.2)) hS (lv_sub hl [0, 1, 2] rfl)
        · skip
          have g17 : (((M 0) i2).toNatClampNeg) = t := (nI_eq (a := ((M 0) i2).toNatClampNeg) (b := t) (by omega) (by omega)).mp h17
          refine lv_iconst (v := (0 : Int32)) hx hb dX7_memberFaults_20 (by decide) ?_
          refine cx_topr (z := nI 0) (by decide) ?_
          refine lv_istore_n (lv' := [(3, .int (nI 0)), (0, .ref (q 0)), (1, .int (nI t)), (2, .int (nI i2))]) hx hb dX7_memberFaults_21 rfl hl (by decide) rfl (fun ls hl => ?_)
          have J22 : ∀ (N : Nat) (i22 : Nat) (Z_1_22 : Nat → Int32) (H : Heap) (locs : List Loc) (ls : Array Slot), (i2 - i22 < N) → (i22 ≤ i2) → (cx_EE Z_1_22 ↔ cx_EE Z_1_2 ∨ ∃ i, i < i22 ∧ (cx_ow M i = t ∧ cx_lk M i2 i)) → cx_S D vwCl A s (cyW q cI cZ n T k M d (cx_u Z 1 Z_1_22) F) H locs → lv_has ls 4 [(0, .ref (q 0)), (1, .int (nI t)), (2, .int (nI i2)), (3, .int (nI i22))] → W p l e ({ frames := 2, cells := 0, slots := 0, locals := 48 } : Room) s m args below meth c H locs 0 0 Q (F0 m 22 ls []) := by
            intro N22
            induction N22 with
            | zero => intro i22 Z_1_22 H locs ls hN; exact absurd hN (by omega)
            | succ N22 ih22 =>
              intro i22 Z_1_22 H locs ls hN22 hi22 hq22 hS hl
              refine lv_iload_n hx hb dX7_memberFaults_22 rfl (lv_at hl 3 rfl) ?_
              refine lv_iload_n hx hb dX7_memberFaults_23 rfl (lv_at hl 2 rfl) ?_
              refine lv_icmp_ge (tgt := 64) hx hb dX7_memberFaults_24 (by decide) (fun h24 => ?_) (fun h24 => ?_)
              · skip
                have g24 : i2 ≤ i22 := (nI_leI (a := i2) (b := i22) (by omega) (by omega)).mp h24
                refine lv_aload_n hx hb dX7_memberFaults_64 rfl (lv_at hl 0 rfl) ?_
                refine lv_bipush (v := nI 11) hx hb dX7_memberFaults_65 (by decide) ?_
                refine lv_iload_n hx hb dX7_memberFaults_67 rfl (lv_at hl 2 rfl) ?_
                refine lv_aload_n hx hb dX7_memberFaults_68 rfl (lv_at hl 0 rfl) ?_
                refine lv_iload_n hx hb dX7_memberFaults_69 rfl (lv_at hl 2 rfl) ?_
                refine lv_iload_n hx hb dX7_memberFaults_70 rfl (lv_at hl 1 rfl) ?_
                refine cx_cVi (As := [.int (nI i2), .int (nI t)]) (rest := [.int (nI i2), .int (nI 11), .ref (q 0)]) ⟨hx, hb, hml, hown, hts⟩ hE hS (c_X7_isWrong l D q cI cZ n T k M d (cx_u Z 1 Z_1_22) F i2 t (by first | assumption | omega | rfl) (by first | assumption | omega | rfl) (by first | assumption | omega | rfl) (by first | assumption | omega | rfl) (by first | assumption | omega | rfl)) (cwV 2 hts gX7_memberFaults_X7_isWrong rfl rfl rfl (by decide +kernel) ⟨Nat.le_of_ble_eq_true rfl, Nat.le_of_ble_eq_true rfl⟩) 0 7 rfl rfl rfl hl.1 rfl (Nat.le_of_ble_eq_true rfl) ⟨Nat.zero_le _, Nat.zero_le _⟩ dX7_memberFaults_71 (fun r_71 u_71 H locs hp_71 hS => ?_)
                have hp_71 : (r_71 = 0 ∨ r_71 = 1) ∧ (¬ r_71 = 0 ↔ cx_wm ((T 0)) ((T 1)) M i2) := hp_71
                refine cx_cVv (As := [.int (nI 11), .int (nI i2), .int r_71]) (rest := []) ⟨hx, hb, hml, hown, hts⟩ hE hS (c_X7_mark l D q cI cZ n T k M d (cx_u Z 1 Z_1_22) F 11 i2 r_71 (by first | assumption | omega | rfl) (by first | assumption | omega | rfl)) (cwV 3 hts gX7_memberFaults_X7_mark rfl rfl rfl (by decide +kernel) ⟨Nat.le_of_ble_eq_true rfl, Nat.le_of_ble_eq_true rfl⟩) 0 7 rfl rfl rfl hl.1 rfl (Nat.le_of_ble_eq_true rfl) ⟨Nat.zero_le _, Nat.zero_le _⟩ dX7_memberFaults_74 (fun u_74 H locs hp_74 hS => ?_)
                obtain ⟨zf_74, rfl⟩ : ∃ z, z = u_74 := ⟨_, rfl⟩
                have hS : cx_S D vwCl A s (cyW q cI cZ n T k M d (cx_u Z 1 zf_74) F) H locs := hS
                have hp_74 : cx_EE zf_74 ↔ cx_EE (Z_1_22) ∨ ¬ r_71 = 0 := hp_74
                exact J77 zf_74 _ _ _ (by first | exact cx_goN (Q := fun j => cx_ow M j = t ∧ (cx_dbl M j ∨ cx_wm (T 0) (T 1) M j)) hq (fun z => g17 z.1) | exact cx_goS (Q := fun j => cx_ow M j = t ∧ (cx_dbl M j ∨ cx_wm (T 0) (T 1) M j)) hq (cx_mfS hO g17 (cx_goE hq22 (by omega) (by omega)) hp_74 hp_71.2)) hS (lv_sub hl [0, 1, 2] rfl)
              · skip
                have g24 : ¬ (i2 ≤ i22) := fun z => h24 ((nI_leI (a := i2) (b := i22) (by omega) (by omega)).mpr z)
                refine lv_aload_n hx hb dX7_memberFaults_27 rfl (lv_at hl 0 rfl) ?_
                refine lv_bipush (v := nI 10) hx hb dX7_memberFaults_28 (by decide) ?_
                refine lv_iload_n hx hb dX7_memberFaults_30 rfl (lv_at hl 2 rfl) ?_
                refine lv_aload_n hx hb dX7_memberFaults_31 rfl (lv_at hl 0 rfl) ?_
                refine cx_get (own := RX7) (index := 34) (C := RX7) (T := TX7) (N := 22) (k := 10) (ci := 7) (v := .ref (q 9)) hx hb hts hown hE hS hinX7 0 rfl rfl (by decide) (List.mem_of_getElem? (i := 2) rfl) rfl dX7_memberFaults_32 ?_
                refine lv_iload_n hx hb dX7_memberFaults_35 rfl (lv_at hl 3 rfl) ?_
                refine cx_iald (f := (M 0)) (n := 80) (cA := cI) hx hb hE hS 9 0 rfl rfl (by omega) (by decide) dX7_memberFaults_36 ?_
                have ho36 := (hO i22).2
                refine cx_topr (z := nI (((M 0) i22).toNatClampNeg)) (hO i22).1 ?_
                refine lv_iload_n hx hb dX7_memberFaults_37 rfl (lv_at hl 1 rfl) ?_
                have J55 : ∀ (v55_s0 : Int32) (H : Heap) (locs : List Loc) (ls : Array Slot), ((v55_s0 = 0 ∨ v55_s0 = 1) ∧ (¬ v55_s0 = 0 ↔ cx_ow M i22 = t ∧ cx_lk M i2 i22)) → cx_S D vwCl A s (cyW q cI cZ n T k M d (cx_u Z 1 Z_1_22) F) H locs → lv_has ls 4 [(0, .ref (q 0)), (1, .int (nI t)), (2, .int (nI i2)), (3, .int (nI i22))] → W p l e ({ frames := 2, cells := 0, slots := 0, locals := 48 } : Room) s m args below meth c H locs 0 0 Q (F0 m 55 ls [.int v55_s0, .int (nI i2), .int (nI 10), .ref (q 0)]) := by
                  intro v55_s0 H locs ls b55 hS hl
                  refine cx_cVv (As := [.int (nI 10), .int (nI i2), .int v55_s0]) (rest := []) ⟨hx, hb, hml, hown, hts⟩ hE hS (c_X7_mark l D q cI cZ n T k M d (cx_u Z 1 Z_1_22) F 10 i2 v55_s0 (by first | assumption | omega | rfl) (by first | assumption | omega | rfl)) (cwV 3 hts gX7_memberFaults_X7_mark rfl rfl rfl (by decide +kernel) ⟨Nat.le_of_ble_eq_true rfl, Nat.le_of_ble_eq_true rfl⟩) 0 7 rfl rfl rfl hl.1 rfl (Nat.le_of_ble_eq_true rfl) ⟨Nat.zero_le _, Nat.zero_le _⟩ dX7_memberFaults_55 (fun u_55 H locs hp_55 hS => ?_)
                  obtain ⟨zf_55, rfl⟩ : ∃ z, z = u_55 := ⟨_, rfl⟩
                  have hS : cx_S D vwCl A s (cyW q cI cZ n T k M d (cx_u Z 1 zf_55) F) H locs := hS
                  have hp_55 : cx_EE zf_55 ↔ cx_EE (Z_1_22) ∨ ¬ v55_s0 = 0 := hp_55
                  refine lv_iinc (v := nI (i22 + 1)) (lv' := [(3, .int (nI (i22 + 1))), (0, .ref (q 0)), (1, .int (nI t)), (2, .int (nI i2))]) hx hb dX7_memberFaults_58 hl (k := 3) rfl (cx_inc _) (by decide) rfl (fun ls hl => ?_)
                  refine lv_goto (tgt := 22) hx hb dX7_memberFaults_61 (by decide) ?_
                  exact ih22 (i22 + 1) zf_55 _ _ _ (by (try clear hq22); (try clear hq77); (try clear hq); omega) (by (try clear hq22); (try clear hq77); (try clear hq); omega) (by first | exact cx_go0 | exact cx_goS (Q := fun i => cx_ow M i = t ∧ cx_lk M i2 i) hq22 (by rw [hp_55, b55.2])) hS (lv_sub hl [1, 2, 3, 0] rfl)
                have J54 : ∀ (H : Heap) (locs : List Loc) (ls : Array Slot), (¬ (cx_ow M i22 = t ∧ cx_lk M i2 i22)) → cx_S D vwCl A s (cyW q cI cZ n T k M d (cx_u Z 1 Z_1_22) F) H locs → lv_has ls 4 [(0, .ref (q 0)), (1, .int (nI t)), (2, .int (nI i2)), (3, .int (nI i22))] → W p l e ({ frames := 2, cells := 0, slots := 0, locals := 48 } : Room) s m args below meth c H locs 0 0 Q (F0 m 54 ls [.int (nI i2), .int (nI 10), .ref (q 0)]) := by
                  intro  H locs ls f54 hS hl
                  refine lv_iconst (v := (0 : Int32)) hx hb dX7_memberFaults_54 (by decide) ?_
                  exact J55 (0 : Int32) _ _ _ (cx_e0 (by (try clear RET); (try clear hS); (try clear hl); (try clear hE); (try clear hts); (try clear hb); (try clear hx); (try clear hml); (try clear hown); (try clear hinX7); (try clear J2); (try clear ih2); (try clear hN2); (try clear J77); (try clear J22); (try clear ih22); (try clear hN22); (try clear J55); (try clear J54); have y10 : ¬ (1 : Int32) = 0 := (by decide); first | assumption | (grind))) hS (lv_sub hl [0, 1, 2, 3] rfl)
                refine lv_icmp_ne (tgt := 54) hx hb dX7_memberFaults_38 (by decide) (fun h38 => ?_) (fun h38 => ?_)
                · skip
                  have g38 : ¬ ((((M 0) i22).toNatClampNeg) = t) := fun z => h38 ((nI_eq (a := ((M 0) i22).toNatClampNeg) (b := t) (by omega) (by omega)).mpr z)
                  exact J54  _ _ _ (by (try clear RET); (try clear hS); (try clear hl); (try clear hE); (try clear hts); (try clear hb); (try clear hx); (try clear hml); (try clear hown); (try clear hinX7); (try clear J2); (try clear ih2); (try clear hN2); (try clear J77); (try clear J22); (try clear ih22); (try clear hN22); (try clear J55); (try clear J54); have y10 : ¬ (1 : Int32) = 0 := (by decide); first | assumption | (grind)) hS (lv_sub hl [0, 1, 2, 3] rfl)
                · skip
                  have g38 : (((M 0) i22).toNatClampNeg) = t := (nI_eq (a := ((M 0) i22).toNatClampNeg) (b := t) (by omega) (by omega)).mp h38
                  refine lv_aload_n hx hb dX7_memberFaults_41 rfl (lv_at hl 0 rfl) ?_
                  refine lv_iload_n hx hb dX7_memberFaults_42 rfl (lv_at hl 2 rfl) ?_
                  refine lv_iload_n hx hb dX7_memberFaults_43 rfl (lv_at hl 3 rfl) ?_
                  refine cx_cVi (As := [.int (nI i2), .int (nI i22)]) (rest := [.int (nI i2), .int (nI 10), .ref (q 0)]) ⟨hx, hb, hml, hown, hts⟩ hE hS (c_X7_areLike l D q cI cZ n T k M d (cx_u Z 1 Z_1_22) F i2 i22 (by first | assumption | omega | rfl) (by first | assumption | omega | rfl)) (cwV 2 hts gX7_memberFaults_X7_areLike rfl rfl rfl (by decide +kernel) ⟨Nat.le_of_ble_eq_true rfl, Nat.le_of_ble_eq_true rfl⟩) 0 7 rfl rfl rfl hl.1 rfl (Nat.le_of_ble_eq_true rfl) ⟨Nat.zero_le _, Nat.zero_le _⟩ dX7_memberFaults_44 (fun r_44 u_44 H locs hp_44 hS => ?_)
                  have hp_44 : (r_44 = 0 ∨ r_44 = 1) ∧ (¬ r_44 = 0 ↔ cx_lk M i2 i22) := hp_44
                  refine lv_if_eq (tgt := 54) hx hb dX7_memberFaults_47 (by decide) (fun h47 => ?_) (fun h47 => ?_)
                  · skip
                    have g47 : ¬ (cx_lk M i2 i22) := fun z => hp_44.2.mpr z h47
                    exact J54  _ _ _ (by (try clear RET); (try clear hS); (try clear hl); (try clear hE); (try clear hts); (try clear hb); (try clear hx); (try clear hml); (try clear hown); (try clear hinX7); (try clear J2); (try clear ih2); (try clear hN2); (try clear J77); (try clear J22); (try clear ih22); (try clear hN22); (try clear J55); (try clear J54); have y10 : ¬ (1 : Int32) = 0 := (by decide); first | assumption | (grind)) hS (lv_sub hl [0, 1, 2, 3] rfl)
                  · skip
                    have g47 : cx_lk M i2 i22 := hp_44.2.mp h47
                    refine lv_iconst (v := (1 : Int32)) hx hb dX7_memberFaults_50 (by decide) ?_
                    refine lv_goto (tgt := 55) hx hb dX7_memberFaults_51 (by decide) ?_
                    exact J55 (1 : Int32) _ _ _ (cx_e1 (by (try clear RET); (try clear hS); (try clear hl); (try clear hE); (try clear hts); (try clear hb); (try clear hx); (try clear hml); (try clear hown); (try clear hinX7); (try clear J2); (try clear ih2); (try clear hN2); (try clear J77); (try clear J22); (try clear ih22); (try clear hN22); (try clear J55); (try clear J54); have y10 : ¬ (1 : Int32) = 0 := (by decide); first | assumption | (grind))) hS (lv_sub hl [0, 1, 2, 3] rfl)
          exact J22 (i2 - 0 + 1) 0 Z_1_2 _ _ _ (Nat.lt_succ_self _) (by (try clear hq22); (try clear hq77); (try clear hq); omega) (by first | exact cx_go0 | exact cx_goS (Q := fun i => cx_ow M i = t ∧ cx_lk M i2 i) hq22 (by rw [hp_55, b55.2])) hS (lv_sub hl [1, 2, 3, 0] rfl)
  exact J2 (k - 0 + 1) 0 (Z 1) _ _ _ (Nat.lt_succ_self _) (by (try clear hq); omega) (by first | exact hq77 | exact cx_go0) hS (lv_sub hl [1, 2, 0] rfl)
set_option maxHeartbeats 4000000 in
set_option maxRecDepth 100000 in
theorem c_X7_fitsResult (l : Launch) (D : va_G) (q : Nat → Nat) (cI cZ : ClassId) (n : Nat) (T : Nat → Nat → Int32) (k : Nat) (M : Nat → Nat → Int32) (d : Nat) (Z : Nat → Nat → Int32) (F : Nat → Nat → Int32) (ra : Int32) (sa : Int32) (hn : n ≤ 20) (hP : cx_P (T 3) 20) (hU : cx_R (T 4) 20) (hV : cx_R (T 5) 4) (hKN : cx_KN n T (Z 0) ((Z 3) 0)) (hra : cx_ix ra 30) (hsa : cx_ix sa 30) : cx_Mi l D vwCl [(cI, .int), (cZ, .boolean)] cx_NW yX7_fitsResult wsX7_fitsResult ({ frames := 4, cells := 0, slots := 0, locals := 88 } : Room) [.ref (q 0), .int ra, .int sa] (cyW q cI cZ n T k M d Z F) (fun (r : Int32) (uw : (Nat → Int32) × (Int32)) => cx_KN n T uw.1 uw.2 ∧ ((r = 0 ∨ r = 1) ∧ (¬ r = 0 ↔ cx_ft n (cx_Ar T n) ra sa))) (fun uw => (cyW q cI cZ n T k M d (cx_u (cx_u Z 0 uw.1) 3 (fun _ => uw.2)) F)) := by
  refine cx_Mi.of (cc := cX7_fitsResult) (maxL := 3) cx_NW_ok (by decide) rfl (Nat.le_of_ble_eq_true rfl) ?_
  intro p e s m args below meth c Q A ls hx hb hml hown hts hE RET hS hl
  have hl : lv_has ls 3 [(0, .ref (q 0)), (1, .int ra), (2, .int sa)] := hl
  have hown : s.vm.findClass RX7 = some m.cls := hown
  have yra := cx_10 hra
  have ysa := cx_10 hsa
  refine lv_iload_n hx hb dX7_fitsResult_0 rfl (lv_at hl 1 rfl) ?_
  refine lv_iload_n hx hb dX7_fitsResult_1 rfl (lv_at hl 2 rfl) ?_
  have J59 : ∀ (v59_s0 : Int32) (Z_0_59 : Nat → Int32) (Z_3_59 : Nat → Int32) (H : Heap) (locs : List Loc) (ls : Array Slot), (cx_KN n T Z_0_59 (Z_3_59 0)) → ((v59_s0 = 0 ∨ v59_s0 = 1) ∧ (¬ v59_s0 = 0 ↔ cx_ft n (cx_Ar T n) ra sa)) → cx_S D vwCl A s (cyW q cI cZ n T k M d (cx_u (cx_u Z 0 Z_0_59) 3 Z_3_59) F) H locs → lv_has ls 3 [(0, .ref (q 0)), (1, .int ra), (2, .int sa)] → W p l e ({ frames := 4, cells := 0, slots := 0, locals := 88 } : Room) s m args below meth c H locs 0 0 Q (F0 m 59 ls [.int v59_s0]) := by
    intro v59_s0 Z_0_59 Z_3_59 H locs ls hKN59 b59 hS hl
    exact RET _ (Z_0_59, Z_3_59 0) _ _ _ _ dX7_fitsResult_59 (cx_nb b59.1) (⟨(by first | assumption | exact hKN), (by first | exact b59 | (try clear RET); (try clear hS); (try clear hl); (try clear hE); (try clear hts); (try clear hb); (try clear hx); (try clear hml); (try clear hown); (try clear J59); have y10 : ¬ (1 : Int32) = 0 := (by decide); first | assumption | (unfold cx_ft; grind))⟩) hS
  have J54 : ∀ (Z_0_54 : Nat → Int32) (Z_3_54 : Nat → Int32) (H : Heap) (locs : List Loc) (ls : Array Slot), (cx_KN n T Z_0_54 (Z_3_54 0)) → (cx_ft n (cx_Ar T n) ra sa) → cx_S D vwCl A s (cyW q cI cZ n T k M d (cx_u (cx_u Z 0 Z_0_54) 3 Z_3_54) F) H locs → lv_has ls 3 [(0, .ref (q 0)), (1, .int ra), (2, .int sa)] → W p l e ({ frames := 4, cells := 0, slots := 0, locals := 88 } : Room) s m args below meth c H locs 0 0 Q (F0 m 54 ls []) := by
    intro Z_0_54 Z_3_54 H locs ls hKN54 f54 hS hl
    refine lv_iconst (v := (1 : Int32)) hx hb dX7_fitsResult_54 (by decide) ?_
    refine lv_goto (tgt := 59) hx hb dX7_fitsResult_55 (by decide) ?_
    exact J59 (1 : Int32) Z_0_54 Z_3_54 _ _ _ (by first | assumption | exact hKN) (cx_e1 (by (try clear RET); (try clear hS); (try clear hl); (try clear hE); (try clear hts); (try clear hb); (try clear hx); (try clear hml); (try clear hown); (try clear J59); (try clear J54); have y10 : ¬ (1 : Int32) = 0 := (by decide); first | assumption | (unfold cx_ft; grind))) hS (lv_sub hl [0, 1, 2] rfl)
  refine lv_icmp_eq (tgt := 54) hx hb dX7_fitsResult_2 (by decide) (fun h2 => ?_) (fun h2 => ?_)
  · skip
    exact J54 (Z 0) (Z 3) _ _ _ (by first | assumption | exact hKN) (by (try clear RET); (try clear hS); (try clear hl); (try clear hE); (try clear hts); (try clear hb); (try clear hx); (try clear hml); (try clear hown); (try clear J59); (try clear J54); have y10 : ¬ (1 : Int32) = 0 := (by decide); first | assumption | (unfold cx_ft; grind)) hS (lv_sub hl [0, 1, 2] rfl)
  · skip
    refine lv_iload_n hx hb dX7_fitsResult_5 rfl (lv_at hl 1 rfl) ?_
    refine lv_bipush (v := nI 9) hx hb dX7_fitsResult_6 (by decide) ?_
    have J58 : ∀ (Z_0_58 : Nat → Int32) (Z_3_58 : Nat → Int32) (H : Heap) (locs : List Loc) (ls : Array Slot), (cx_KN n T Z_0_58 (Z_3_58 0)) → (¬ (cx_ft n (cx_Ar T n) ra sa)) → cx_S D vwCl A s (cyW q cI cZ n T k M d (cx_u (cx_u Z 0 Z_0_58) 3 Z_3_58) F) H locs → lv_has ls 3 [(0, .ref (q 0)), (1, .int ra), (2, .int sa)] → W p l e ({ frames := 4, cells := 0, slots := 0, locals := 88 } : Room) s m args below meth c H locs 0 0 Q (F0 m 58 ls []) := by
      intro Z_0_58 Z_3_58 H locs ls hKN58 f58 hS hl
      refine lv_iconst (v := (0 : Int32)) hx hb dX7_fitsResult_58 (by decide) ?_
      exact J59 (0 : Int32) Z_0_58 Z_3_58 _ _ _ (by first | assumption | exact hKN) (cx_e0 (by (try clear RET); (try clear hS); (try clear hl); (try clear hE); (try clear hts); (try clear hb); (try clear hx); (try clear hml); (try clear hown); (try clear J59); (try clear J54); (try clear J58); have y10 : ¬ (1 : Int32) = 0 := (by decide); first | assumption | (unfold cx_ft; grind))) hS (lv_sub hl [0, 1, 2] rfl)
    refine lv_icmp_le (tgt := 58) hx hb dX7_fitsResult_8 (by decide) (fun h8 => ?_) (fun h8 => ?_)
    · skip
      exact J58 (Z 0) (Z 3) _ _ _ (by first | assumption | exact hKN) (by (try clear RET); (try clear hS); (try clear hl); (try clear hE); (try clear hts); (try clear hb); (try clear hx); (try clear hml); (try clear hown); (try clear J59); (try clear J54); (try clear J58); have y10 : ¬ (1 : Int32) = 0 := (by decide); first | assumption | (unfold cx_ft; grind)) hS (lv_sub hl [0, 1, 2] rfl)
    · skip
      refine lv_iload_n hx hb dX7_fitsResult_11 rfl (lv_at hl 2 rfl) ?_
      refine lv_bipush (v := nI 9) hx hb dX7_fitsResult_12 (by decide) ?_
      refine lv_icmp_le (tgt := 58) hx hb dX7_fitsResult_14 (by decide) (fun h14 => ?_) (fun h14 => ?_)
      · skip
        exact J58 (Z 0) (Z 3) _ _ _ (by first | assumption | exact hKN) (by (try clear RET); (try clear hS); (try clear hl); (try clear hE); (try clear hts); (try clear hb); (try clear hx); (try clear hml); (try clear hown); (try clear J59); (try clear J54); (try clear J58); have y10 : ¬ (1 : Int32) = 0 := (by decide); first | assumption | (unfold cx_ft; grind)) hS (lv_sub hl [0, 1, 2] rfl)
      · skip
        refine lv_aload_n hx hb dX7_fitsResult_17 rfl (lv_at hl 0 rfl) ?_
        refine lv_iload_n hx hb dX7_fitsResult_18 rfl (lv_at hl 1 rfl) ?_
        refine lv_bipush (v := nI 10) hx hb dX7_fitsResult_19 (by decide) ?_
        refine lv_isub hx hb dX7_fitsResult_21 ?_
        refine cx_cVi (As := [.int (ra - (nI 10))]) (rest := []) ⟨hx, hb, hml, hown, hts⟩ hE hS (c_X7_isType l D q cI cZ n T k M d Z F (ra - (nI 10)) (by first | assumption | omega | rfl)) (cwV 1 hts gX7_fitsResult_X7_isType rfl rfl rfl (by decide +kernel) ⟨Nat.le_of_ble_eq_true rfl, Nat.le_of_ble_eq_true rfl⟩) 0 7 rfl rfl rfl hl.1 rfl (Nat.le_of_ble_eq_true rfl) ⟨Nat.zero_le _, Nat.zero_le _⟩ dX7_fitsResult_22 (fun r_22 u_22 H locs hp_22 hS => ?_)
        have hp_22 : r_22 = cx_b (0 ≤ (ra - (nI 10)) ∧ (ra - (nI 10)) < nI n) := hp_22
        subst hp_22
        refine lv_if_eq (tgt := 58) hx hb dX7_fitsResult_25 (by decide) (fun h25 => ?_) (fun h25 => ?_)
        · skip
          have g25 := cx_b0 h25
          exact J58 (Z 0) (Z 3) _ _ _ (by first | assumption | exact hKN) (by (try clear RET); (try clear hS); (try clear hl); (try clear hE); (try clear hts); (try clear hb); (try clear hx); (try clear hml); (try clear hown); (try clear J59); (try clear J54); (try clear J58); have y10 : ¬ (1 : Int32) = 0 := (by decide); first | assumption | (unfold cx_ft; grind)) hS (lv_sub hl [0, 1, 2] rfl)
        · skip
          have g25 := cx_b1 h25
          refine lv_aload_n hx hb dX7_fitsResult_28 rfl (lv_at hl 0 rfl) ?_
          refine lv_iload_n hx hb dX7_fitsResult_29 rfl (lv_at hl 2 rfl) ?_
          refine lv_bipush (v := nI 10) hx hb dX7_fitsResult_30 (by decide) ?_
          refine lv_isub hx hb dX7_fitsResult_32 ?_
          refine cx_cVi (As := [.int (sa - (nI 10))]) (rest := []) ⟨hx, hb, hml, hown, hts⟩ hE hS (c_X7_isType l D q cI cZ n T k M d Z F (sa - (nI 10)) (by first | assumption | omega | rfl)) (cwV 1 hts gX7_fitsResult_X7_isType rfl rfl rfl (by decide +kernel) ⟨Nat.le_of_ble_eq_true rfl, Nat.le_of_ble_eq_true rfl⟩) 0 7 rfl rfl rfl hl.1 rfl (Nat.le_of_ble_eq_true rfl) ⟨Nat.zero_le _, Nat.zero_le _⟩ dX7_fitsResult_33 (fun r_33 u_33 H locs hp_33 hS => ?_)
          have hp_33 : r_33 = cx_b (0 ≤ (sa - (nI 10)) ∧ (sa - (nI 10)) < nI n) := hp_33
          subst hp_33
          refine lv_if_eq (tgt := 58) hx hb dX7_fitsResult_36 (by decide) (fun h36 => ?_) (fun h36 => ?_)
          · skip
            have g36 := cx_b0 h36
            exact J58 (Z 0) (Z 3) _ _ _ (by first | assumption | exact hKN) (by (try clear RET); (try clear hS); (try clear hl); (try clear hE); (try clear hts); (try clear hb); (try clear hx); (try clear hml); (try clear hown); (try clear J59); (try clear J54); (try clear J58); have y10 : ¬ (1 : Int32) = 0 := (by decide); first | assumption | (unfold cx_ft; grind)) hS (lv_sub hl [0, 1, 2] rfl)
          · skip
            have g36 := cx_b1 h36
            refine lv_aload_n hx hb dX7_fitsResult_39 rfl (lv_at hl 0 rfl) ?_
            refine lv_iload_n hx hb dX7_fitsResult_40 rfl (lv_at hl 1 rfl) ?_
            refine lv_bipush (v := nI 10) hx hb dX7_fitsResult_41 (by decide) ?_
            refine lv_isub hx hb dX7_fitsResult_43 ?_
            refine cx_topr (z := nI ((ra - nI 10).toNatClampNeg)) (cx_ixT (by omega) g25).1 ?_
            refine lv_iload_n hx hb dX7_fitsResult_44 rfl (lv_at hl 2 rfl) ?_
            refine lv_bipush (v := nI 10) hx hb dX7_fitsResult_45 (by decide) ?_
            refine lv_isub hx hb dX7_fitsResult_47 ?_
            refine cx_topr (z := nI ((sa - nI 10).toNatClampNeg)) (cx_ixT (by omega) g36).1 ?_
            refine cx_cVi (As := [.int (nI ((ra - nI 10).toNatClampNeg)), .int (nI ((sa - nI 10).toNatClampNeg))]) (rest := []) ⟨hx, hb, hml, hown, hts⟩ hE hS (c_X7_isOf l D q cI cZ n T k M d Z F ((ra - nI 10).toNatClampNeg) ((sa - nI 10).toNatClampNeg) (by first | assumption | omega | rfl) (by first | assumption | omega | rfl) (by first | assumption | omega | rfl) (by first | assumption | omega | rfl) (by first | assumption | omega | rfl) ((cx_ixT (by omega) g25).2) ((cx_ixT (by omega) g36).2)) (cwV 2 hts gX7_fitsResult_X7_isOf rfl rfl rfl (by decide +kernel) ⟨Nat.le_of_ble_eq_true rfl, Nat.le_of_ble_eq_true rfl⟩) 0 7 rfl rfl rfl hl.1 rfl (Nat.le_of_ble_eq_true rfl) ⟨Nat.zero_le _, Nat.zero_le _⟩ dX7_fitsResult_48 (fun r_48 u_48 H locs hp_48 hS => ?_)
            obtain ⟨za_48, kn_48⟩ := u_48
            have hS : cx_S D vwCl A s (cyW q cI cZ n T k M d (cx_u (cx_u Z 0 za_48) 3 (fun _ => kn_48)) F) H locs := hS
            obtain ⟨hKN_48, hp_48⟩ := hp_48
            have hKN_48 : cx_KN n T za_48 kn_48 := hKN_48
            have hp_48 : ((r_48 = 0 ∨ r_48 = 1) ∧ (¬ r_48 = 0 ↔ cx_is (cx_Ar T n) ((ra - nI 10).toNatClampNeg) ((sa - nI 10).toNatClampNeg))) ∧ ((∀ wa wu, wa < n → wu < n → (¬ za_48 (20 * wa + wu) = 0 ↔ (cx_w3 n (cx_Er T n) n) wa wu)) ∧ ¬ kn_48 = 0) := hp_48
            refine lv_if_eq (tgt := 58) hx hb dX7_fitsResult_51 (by decide) (fun h51 => ?_) (fun h51 => ?_)
            · skip
              have g51 : ¬ (cx_is (cx_Ar T n) ((ra - nI 10).toNatClampNeg) ((sa - nI 10).toNatClampNeg)) := fun z => hp_48.1.2.mpr z h51
              exact J58 za_48 (fun _ => kn_48) _ _ _ (by first | assumption | exact hKN) (by (try clear RET); (try clear hS); (try clear hl); (try clear hE); (try clear hts); (try clear hb); (try clear hx); (try clear hml); (try clear hown); (try clear J59); (try clear J54); (try clear J58); have y10 : ¬ (1 : Int32) = 0 := (by decide); first | assumption | (unfold cx_ft; grind)) hS (lv_sub hl [0, 1, 2] rfl)
            · skip
              have g51 : cx_is (cx_Ar T n) ((ra - nI 10).toNatClampNeg) ((sa - nI 10).toNatClampNeg) := hp_48.1.2.mp h51
              exact J54 za_48 (fun _ => kn_48) _ _ _ (by first | assumption | exact hKN) (by (try clear RET); (try clear hS); (try clear hl); (try clear hE); (try clear hts); (try clear hb); (try clear hx); (try clear hml); (try clear hown); (try clear J59); (try clear J54); (try clear J58); have y10 : ¬ (1 : Int32) = 0 := (by decide); first | assumption | (unfold cx_ft; grind)) hS (lv_sub hl [0, 1, 2] rfl)
set_option maxHeartbeats 4000000 in
set_option maxRecDepth 100000 in
theorem c_X7_overFaults (l : Launch) (D : va_G) (q : Nat → Nat) (cI cZ : ClassId) (n : Nat) (T : Nat → Nat → Int32) (k : Nat) (M : Nat → Nat → Int32) (d : Nat) (Z : Nat → Nat → Int32) (F : Nat → Nat → Int32) (t : Nat) (hn : n ≤ 20) (hP : cx_P (T 3) 20) (hU : cx_R (T 4) 20) (hV : cx_R (T 5) 4) (hKN : cx_KN n T (Z 0) ((Z 3) 0)) (hO : cx_R (M 0) 20) (hk : k ≤ 80) (hOn : ∀ j, j < k → (M 0 j).toNatClampNeg < n) (hX : cx_R (M 4) 4) (hM5 : cx_R (M 5) 30) (ht : t < n) : cx_Mv l D vwCl [(cI, .int), (cZ, .boolean)] cx_NW yX7_overFaults wsX7_overFaults ({ frames := 5, cells := 0, slots := 0, locals := 110 } : Room) [.ref (q 0), .int (nI t)] (cyW q cI cZ n T k M d Z F) (fun (uw : (Nat → Int32) × (Int32) × (Nat → Int32)) => cx_KN n T uw.1 uw.2.1 ∧ (cx_EE uw.2.2 ↔ cx_EE (Z 1) ∨ cx_OV n k (T 0) (T 2) M (cx_Ar T n) t)) (fun uw => (cyW q cI cZ n T k M d (cx_u (cx_u (cx_u Z 0 uw.1) 3 (fun _ => uw.2.1)) 1 uw.2.2) F)) := by
  refine cx_Mv.of (cc := cX7_overFaults) (maxL := 4) cx_NW_ok (by decide) rfl (Nat.le_of_ble_eq_true rfl) ?_
  intro p e s m args below meth c Q A ls hx hb hml hown hts hE RET hS hl
  have hl : lv_has ls 4 [(0, .ref (q 0)), (1, .int (nI t))] := hl
  have hown : s.vm.findClass RX7 = some m.cls := hown
  have hinX7 : ∀ w ∈ u_ws RX7 TX7 22, w ∈ wsX7_overFaults := cx_mem [53, 54, 55, 56, 57, 58, 59, 60, 61, 62, 63, 64, 65, 66, 67, 68, 69, 70, 71, 72, 73, 74] (by decide +kernel)
  refine lv_iconst (v := (0 : Int32)) hx hb dX7_overFaults_0 (by decide) ?_
  refine cx_topr (z := nI 0) (by decide) ?_
  refine lv_istore_n (lv' := [(2, .int (nI 0)), (0, .ref (q 0)), (1, .int (nI t))]) hx hb dX7_overFaults_1 rfl hl (by decide) rfl (fun ls hl => ?_)
  have J2 : ∀ (N : Nat) (i2 : Nat) (Z_0_2 : Nat → Int32) (Z_1_2 : Nat → Int32) (Z_3_2 : Nat → Int32) (H : Heap) (locs : List Loc) (ls : Array Slot), (k - i2 < N) → (i2 ≤ k) → (cx_KN n T Z_0_2 (Z_3_2 0)) → (cx_EE Z_1_2 ↔ cx_EE (Z 1) ∨ ∃ j, j < i2 ∧ (cx_ow M j = t ∧ ¬ M 4 j = 0 ∧ cx_ov n k (T 0) (T 2) M (cx_Ar T n) t j)) → cx_S D vwCl A s (cyW q cI cZ n T k M d (cx_u (cx_u (cx_u Z 0 Z_0_2) 1 Z_1_2) 3 Z_3_2) F) H locs → lv_has ls 4 [(0, .ref (q 0)), (1, .int (nI t)), (2, .int (nI i2))] → W p l e ({ frames := 5, cells := 0, slots := 0, locals := 110 } : Room) s m args below meth c H locs 0 0 Q (F0 m 2 ls []) := by
    intro N2
    induction N2 with
    | zero => intro i2 Z_0_2 Z_1_2 Z_3_2 H locs ls hN; exact absurd hN (by omega)
    | succ N2 ih2 =>
      intro i2 Z_0_2 Z_1_2 Z_3_2 H locs ls hN2 hi2 hKN2 hq hS hl
      refine lv_iload_n hx hb dX7_overFaults_2 rfl (lv_at hl 2 rfl) ?_
      refine lv_aload_n hx hb dX7_overFaults_3 rfl (lv_at hl 0 rfl) ?_
      refine cx_get (own := RX7) (index := 81) (C := RX7) (T := TX7) (N := 22) (k := 9) (ci := 7) (v := .int (nI k)) hx hb hts hown hE hS hinX7 0 rfl rfl (by decide) (List.mem_of_getElem? (i := 1) rfl) rfl dX7_overFaults_4 ?_
      refine lv_icmp_ge (tgt := 170) hx hb dX7_overFaults_7 (by decide) (fun h7 => ?_) (fun h7 => ?_)
      · skip
        have g7 : k ≤ i2 := (nI_leI (a := k) (b := i2) (by omega) (by omega)).mp h7
        exact RET (Z_0_2, Z_3_2 0, Z_1_2) _ _ _ _ dX7_overFaults_170 (⟨(by first | assumption | exact hKN), (cx_goE hq (by omega) (by omega))⟩) hS
      · skip
        have g7 : ¬ (k ≤ i2) := fun z => h7 ((nI_leI (a := k) (b := i2) (by omega) (by omega)).mpr z)
        refine lv_iconst (v := (0 : Int32)) hx hb dX7_overFaults_10 (by decide) ?_
        refine cx_topr (z := nI 0) (by decide) ?_
        refine lv_istore_n (lv' := [(3, .int (nI 0)), (0, .ref (q 0)), (1, .int (nI t)), (2, .int (nI i2))]) hx hb dX7_overFaults_11 rfl hl (by decide) rfl (fun ls hl => ?_)
        have J12 : ∀ (N : Nat) (i12 : Nat) (Z_0_12 : Nat → Int32) (Z_1_12 : Nat → Int32) (Z_3_12 : Nat → Int32) (H : Heap) (locs : List Loc) (ls : Array Slot), (k - i12 < N) → (i12 ≤ k) → (cx_KN n T Z_0_12 (Z_3_12 0)) → (cx_EE Z_1_12 ↔ cx_EE Z_1_2 ∨ ∃ j, j < i12 ∧ (cx_lk M j i2 ∧ cx_sh (T 0) (T 2) M (cx_Ar T n) j t ∧ cx_ov1 n M (cx_Ar T n) i2 j)) → (0 < i12 → cx_ow M i2 = t ∧ ¬ M 4 i2 = 0) → cx_S D vwCl A s (cyW q cI cZ n T k M d (cx_u (cx_u (cx_u Z 0 Z_0_12) 1 Z_1_12) 3 Z_3_12) F) H locs → lv_has ls 4 [(0, .ref (q 0)), (1, .int (nI t)), (2, .int (nI i2)), (3, .int (nI i12))] → W p l e ({ frames := 5, cells := 0, slots := 0, locals := 110 } : Room) s m args below meth c H locs 0 0 Q (F0 m 12 ls []) := by
          intro N12
          induction N12 with
          | zero => intro i12 Z_0_12 Z_1_12 Z_3_12 H locs ls hN; exact absurd hN (by omega)
          | succ N12 ih12 =>
            intro i12 Z_0_12 Z_1_12 Z_3_12 H locs ls hN12 hi12 hKN12 hq12 hs12 hS hl
            refine lv_iload_n hx hb dX7_overFaults_12 rfl (lv_at hl 3 rfl) ?_
            refine lv_aload_n hx hb dX7_overFaults_13 rfl (lv_at hl 0 rfl) ?_
            refine cx_get (own := RX7) (index := 81) (C := RX7) (T := TX7) (N := 22) (k := 9) (ci := 7) (v := .int (nI k)) hx hb hts hown hE hS hinX7 0 rfl rfl (by decide) (List.mem_of_getElem? (i := 1) rfl) rfl dX7_overFaults_14 ?_
            have J164 : ∀ (H : Heap) (locs : List Loc) (ls : Array Slot), (cx_EE Z_1_12 ↔ cx_EE (Z 1) ∨ ∃ j, j < (i2 + 1) ∧ (cx_ow M j = t ∧ ¬ M 4 j = 0 ∧ cx_ov n k (T 0) (T 2) M (cx_Ar T n) t j)) → cx_S D vwCl A s (cyW q cI cZ n T k M d (cx_u (cx_u (cx_u Z 0 Z_0_12) 1 Z_1_12) 3 Z_3_12) F) H locs → lv_has ls 4 [(0, .ref (q 0)), (1, .int (nI t)), (2, .int (nI i2)), (3, .int (nI i12))] → W p l e ({ frames := 5, cells := 0, slots := 0, locals := 110 } : Room) s m args below meth c H locs 0 0 Q (F0 m 164 ls []) := by
              intro  H locs ls hq164 hS hl
              refine lv_iinc (v := nI (i2 + 1)) (lv' := [(2, .int (nI (i2 + 1))), (0, .ref (q 0)), (1, .int (nI t)), (3, .int (nI i12))]) hx hb dX7_overFaults_164 hl (k := 2) rfl (cx_inc _) (by decide) rfl (fun ls hl => ?_)
              refine lv_goto (tgt := 2) hx hb dX7_overFaults_167 (by decide) ?_
              exact ih2 (i2 + 1) Z_0_12 Z_1_12 Z_3_12 _ _ _ (by (try clear hq164); (try clear hq12); (try clear hq); omega) (by (try clear hq164); (try clear hq12); (try clear hq); omega) (by first | assumption | exact hKN) (by first | exact hq164 | exact cx_go0) hS (lv_sub hl [1, 2, 0] rfl)
            refine lv_icmp_ge (tgt := 164) hx hb dX7_overFaults_17 (by decide) (fun h17 => ?_) (fun h17 => ?_)
            · skip
              have g17 : k ≤ i12 := (nI_leI (a := k) (b := i12) (by omega) (by omega)).mp h17
              exact J164  _ _ _ (by first | exact cx_ovR1 hq hq12 hs12 (by omega) (by omega) (by omega) | exact cx_ovR2 hq hq12 hs12 (fun z => g27 z.1) | exact cx_ovR2 hq hq12 hs12 (fun z => z.2 ((cx_ac (hX i2)).1.2.mp h36))) hS (lv_sub hl [0, 1, 2, 3] rfl)
            · skip
              have g17 : ¬ (k ≤ i12) := fun z => h17 ((nI_leI (a := k) (b := i12) (by omega) (by omega)).mpr z)
              refine lv_aload_n hx hb dX7_overFaults_20 rfl (lv_at hl 0 rfl) ?_
              refine cx_get (own := RX7) (index := 34) (C := RX7) (T := TX7) (N := 22) (k := 10) (ci := 7) (v := .ref (q 9)) hx hb hts hown hE hS hinX7 0 rfl rfl (by decide) (List.mem_of_getElem? (i := 2) rfl) rfl dX7_overFaults_21 ?_
              refine lv_iload_n hx hb dX7_overFaults_24 rfl (lv_at hl 2 rfl) ?_
              refine cx_iald (f := (M 0)) (n := 80) (cA := cI) hx hb hE hS 9 0 rfl rfl (by omega) (by decide) dX7_overFaults_25 ?_
              have ho25 := (hO i2).2
              refine cx_topr (z := nI (((M 0) i2).toNatClampNeg)) (hO i2).1 ?_
              refine lv_iload_n hx hb dX7_overFaults_26 rfl (lv_at hl 1 rfl) ?_
              refine lv_icmp_ne (tgt := 164) hx hb dX7_overFaults_27 (by decide) (fun h27 => ?_) (fun h27 => ?_)
              · skip
                have g27 : ¬ ((((M 0) i2).toNatClampNeg) = t) := fun z => h27 ((nI_eq (a := ((M 0) i2).toNatClampNeg) (b := t) (by omega) (by omega)).mpr z)
                exact J164  _ _ _ (by first | exact cx_ovR1 hq hq12 hs12 (by omega) (by omega) (by omega) | exact cx_ovR2 hq hq12 hs12 (fun z => g27 z.1) | exact cx_ovR2 hq hq12 hs12 (fun z => z.2 ((cx_ac (hX i2)).1.2.mp h36))) hS (lv_sub hl [0, 1, 2, 3] rfl)
              · skip
                have g27 : (((M 0) i2).toNatClampNeg) = t := (nI_eq (a := ((M 0) i2).toNatClampNeg) (b := t) (by omega) (by omega)).mp h27
                refine lv_aload_n hx hb dX7_overFaults_30 rfl (lv_at hl 0 rfl) ?_
                refine cx_get (own := RX7) (index := 46) (C := RX7) (T := TX7) (N := 22) (k := 14) (ci := 7) (v := .ref (q 13)) hx hb hts hown hE hS hinX7 0 rfl rfl (by decide) (List.mem_of_getElem? (i := 3) rfl) rfl dX7_overFaults_31 ?_
                refine lv_iload_n hx hb dX7_overFaults_34 rfl (lv_at hl 2 rfl) ?_
                refine cx_iald (f := (M 4)) (n := 80) (cA := cI) hx hb hE hS 13 0 rfl rfl (by omega) (by decide) dX7_overFaults_35 ?_
                refine lv_if_le (tgt := 164) hx hb dX7_overFaults_36 (by decide) (fun h36 => ?_) (fun h36 => ?_)
                · skip
                  exact J164  _ _ _ (by first | exact cx_ovR1 hq hq12 hs12 (by omega) (by omega) (by omega) | exact cx_ovR2 hq hq12 hs12 (fun z => g27 z.1) | exact cx_ovR2 hq hq12 hs12 (fun z => z.2 ((cx_ac (hX i2)).1.2.mp h36))) hS (lv_sub hl [0, 1, 2, 3] rfl)
                · skip
                  refine lv_aload_n hx hb dX7_overFaults_39 rfl (lv_at hl 0 rfl) ?_
                  refine lv_iload_n hx hb dX7_overFaults_40 rfl (lv_at hl 2 rfl) ?_
                  refine lv_iload_n hx hb dX7_overFaults_41 rfl (lv_at hl 3 rfl) ?_
                  refine cx_cVi (As := [.int (nI i2), .int (nI i12)]) (rest := []) ⟨hx, hb, hml, hown, hts⟩ hE hS (c_X7_areLike l D q cI cZ n T k M d (cx_u (cx_u (cx_u Z 0 Z_0_12) 1 Z_1_12) 3 Z_3_12) F i2 i12 (by first | assumption | omega | rfl) (by first | assumption | omega | rfl)) (cwV 2 hts gX7_overFaults_X7_areLike rfl rfl rfl (by decide +kernel) ⟨Nat.le_of_ble_eq_true rfl, Nat.le_of_ble_eq_true rfl⟩) 0 7 rfl rfl rfl hl.1 rfl (Nat.le_of_ble_eq_true rfl) ⟨Nat.zero_le _, Nat.zero_le _⟩ dX7_overFaults_42 (fun r_42 u_42 H locs hp_42 hS => ?_)
                  have hp_42 : (r_42 = 0 ∨ r_42 = 1) ∧ (¬ r_42 = 0 ↔ cx_lk M i2 i12) := hp_42
                  have J158 : ∀ (Z_0_158 : Nat → Int32) (Z_3_158 : Nat → Int32) (Z_1_158 : Nat → Int32) (H : Heap) (locs : List Loc) (ls : Array Slot), (cx_KN n T Z_0_158 (Z_3_158 0)) → (cx_EE Z_1_158 ↔ cx_EE Z_1_2 ∨ ∃ j, j < i12 + 1 ∧ (cx_lk M j i2 ∧ cx_sh (T 0) (T 2) M (cx_Ar T n) j t ∧ cx_ov1 n M (cx_Ar T n) i2 j)) → cx_S D vwCl A s (cyW q cI cZ n T k M d (cx_u (cx_u (cx_u Z 0 Z_0_158) 3 Z_3_158) 1 Z_1_158) F) H locs → lv_has ls 4 [(0, .ref (q 0)), (1, .int (nI t)), (2, .int (nI i2)), (3, .int (nI i12))] → W p l e ({ frames := 5, cells := 0, slots := 0, locals := 110 } : Room) s m args below meth c H locs 0 0 Q (F0 m 158 ls []) := by
                    intro Z_0_158 Z_3_158 Z_1_158 H locs ls hKN158 hq158 hS hl
                    refine lv_iinc (v := nI (i12 + 1)) (lv' := [(3, .int (nI (i12 + 1))), (0, .ref (q 0)), (1, .int (nI t)), (2, .int (nI i2))]) hx hb dX7_overFaults_158 hl (k := 3) rfl (cx_inc _) (by decide) rfl (fun ls hl => ?_)
                    refine lv_goto (tgt := 12) hx hb dX7_overFaults_161 (by decide) ?_
                    exact ih12 (i12 + 1) Z_0_158 Z_1_158 Z_3_158 _ _ _ (by (try clear hq158); (try clear hq164); (try clear hq12); (try clear hq); omega) (by (try clear hq158); (try clear hq164); (try clear hq12); (try clear hq); omega) (by first | assumption | exact hKN) (by first | exact hq158 | exact cx_go0) (by first | exact fun z => absurd z (by omega) | exact fun _ => ⟨g27, fun z => h36 ((cx_ac (hX i2)).1.2.mpr z)⟩) hS (lv_sub hl [1, 2, 3, 0] rfl)
                  refine lv_if_eq (tgt := 158) hx hb dX7_overFaults_45 (by decide) (fun h45 => ?_) (fun h45 => ?_)
                  · skip
                    have g45 : ¬ (cx_lk M i2 i12) := fun z => hp_42.2.mpr z h45
                    exact J158 Z_0_12 Z_3_12 Z_1_12 _ _ _ (by first | assumption | exact hKN) (by first | exact cx_goN (Q := fun j => cx_lk M j i2 ∧ cx_sh (T 0) (T 2) M (cx_Ar T n) j t ∧ cx_ov1 n M (cx_Ar T n) i2 j) hq12 (fun z => g45 ⟨z.1.1.symm, z.1.2.symm⟩) | exact cx_goN (Q := fun j => cx_lk M j i2 ∧ cx_sh (T 0) (T 2) M (cx_Ar T n) j t ∧ cx_ov1 n M (cx_Ar T n) i2 j) hq12 (fun z => g54 z.2.1) | exact cx_goS (Q := fun j => cx_lk M j i2 ∧ cx_sh (T 0) (T 2) M (cx_Ar T n) j t ∧ cx_ov1 n M (cx_Ar T n) i2 j) hq12 (cx_ovS ⟨g45.1.symm, g45.2.symm⟩ g54 hp_68 hp_97 hp_124 hp_155 hp_65.2 b97.2 b124.2 b155.2)) hS (lv_sub hl [0, 1, 2, 3] rfl)
                  · skip
                    have g45 : cx_lk M i2 i12 := hp_42.2.mp h45
                    refine lv_aload_n hx hb dX7_overFaults_48 rfl (lv_at hl 0 rfl) ?_
                    refine lv_iload_n hx hb dX7_overFaults_49 rfl (lv_at hl 3 rfl) ?_
                    refine lv_iload_n hx hb dX7_overFaults_50 rfl (lv_at hl 1 rfl) ?_
                    refine cx_cVi (As := [.int (nI i12), .int (nI t)]) (rest := []) ⟨hx, hb, hml, hown, hts⟩ hE hS (c_X7_isShared l D q cI cZ n T k M d (cx_u (cx_u (cx_u Z 0 Z_0_12) 1 Z_1_12) 3 Z_3_12) F i12 t (by first | assumption | omega | rfl) (by first | assumption | omega | rfl) (by first | assumption | omega | rfl) (by first | assumption | omega | rfl) (by first | assumption | omega | rfl) (by first | assumption | omega | rfl) (by first | assumption | omega | rfl) (by first | assumption | omega | rfl) (by first | assumption | omega | rfl) (by first | assumption | omega | rfl) (by first | assumption | omega | rfl)) (cwV 2 hts gX7_overFaults_X7_isShared rfl rfl rfl (by decide +kernel) ⟨Nat.le_of_ble_eq_true rfl, Nat.le_of_ble_eq_true rfl⟩) 0 7 rfl rfl rfl hl.1 rfl (Nat.le_of_ble_eq_true rfl) ⟨Nat.zero_le _, Nat.zero_le _⟩ dX7_overFaults_51 (fun r_51 u_51 H locs hp_51 hS => ?_)
                    obtain ⟨za_51, kn_51⟩ := u_51
                    have hS : cx_S D vwCl A s (cyW q cI cZ n T k M d (cx_u (cx_u (cx_u Z 1 Z_1_12) 0 za_51) 3 (fun _ => kn_51)) F) H locs := hS
                    obtain ⟨hKN_51, hp_51⟩ := hp_51
                    have hKN_51 : cx_KN n T za_51 kn_51 := hKN_51
                    have hp_51 : (r_51 = 0 ∨ r_51 = 1) ∧ (¬ r_51 = 0 ↔ cx_sh ((T 0)) ((T 2)) M (cx_Ar T n) i12 t) := hp_51
                    refine lv_if_eq (tgt := 158) hx hb dX7_overFaults_54 (by decide) (fun h54 => ?_) (fun h54 => ?_)
                    · skip
                      have g54 : ¬ (cx_sh ((T 0)) ((T 2)) M (cx_Ar T n) i12 t) := fun z => hp_51.2.mpr z h54
                      exact J158 za_51 (fun _ => kn_51) Z_1_12 _ _ _ (by first | assumption | exact hKN) (by first | exact cx_goN (Q := fun j => cx_lk M j i2 ∧ cx_sh (T 0) (T 2) M (cx_Ar T n) j t ∧ cx_ov1 n M (cx_Ar T n) i2 j) hq12 (fun z => g45 ⟨z.1.1.symm, z.1.2.symm⟩) | exact cx_goN (Q := fun j => cx_lk M j i2 ∧ cx_sh (T 0) (T 2) M (cx_Ar T n) j t ∧ cx_ov1 n M (cx_Ar T n) i2 j) hq12 (fun z => g54 z.2.1) | exact cx_goS (Q := fun j => cx_lk M j i2 ∧ cx_sh (T 0) (T 2) M (cx_Ar T n) j t ∧ cx_ov1 n M (cx_Ar T n) i2 j) hq12 (cx_ovS ⟨g45.1.symm, g45.2.symm⟩ g54 hp_68 hp_97 hp_124 hp_155 hp_65.2 b97.2 b124.2 b155.2)) hS (lv_sub hl [0, 1, 2, 3] rfl)
                    · skip
                      have g54 : cx_sh ((T 0)) ((T 2)) M (cx_Ar T n) i12 t := hp_51.2.mp h54
                      refine lv_aload_n hx hb dX7_overFaults_57 rfl (lv_at hl 0 rfl) ?_
                      refine lv_bipush (v := nI 12) hx hb dX7_overFaults_58 (by decide) ?_
                      refine lv_iload_n hx hb dX7_overFaults_60 rfl (lv_at hl 2 rfl) ?_
                      refine lv_aload_n hx hb dX7_overFaults_61 rfl (lv_at hl 0 rfl) ?_
                      refine lv_iload_n hx hb dX7_overFaults_62 rfl (lv_at hl 3 rfl) ?_
                      refine lv_iconst (v := (1 : Int32)) hx hb dX7_overFaults_63 (by decide) ?_
                      refine lv_iconst (v := nI 2) hx hb dX7_overFaults_64 (by decide) ?_
                      refine cx_cVi (As := [.int (nI i12), .int (1 : Int32), .int (nI 2)]) (rest := [.int (nI i2), .int (nI 12), .ref (q 0)]) ⟨hx, hb, hml, hown, hts⟩ hE hS (c_X7_is_at_1 l D q cI cZ n T k M d (cx_u (cx_u (cx_u Z 1 Z_1_12) 0 za_51) 3 (fun _ => kn_51)) F i12 (1 : Int32) (nI 2) (by first | assumption | omega | rfl) (by first | assumption | omega | rfl)) (cwV 3 hts gX7_overFaults_X7_is rfl rfl rfl (by decide +kernel) ⟨Nat.le_of_ble_eq_true rfl, Nat.le_of_ble_eq_true rfl⟩) 0 7 rfl rfl rfl hl.1 rfl (Nat.le_of_ble_eq_true rfl) ⟨Nat.zero_le _, Nat.zero_le _⟩ dX7_overFaults_65 (fun r_65 u_65 H locs hp_65 hS => ?_)
                      have hp_65 : (r_65 = 0 ∨ r_65 = 1) ∧ (¬ r_65 = 0 ↔ cx_mk ((M 3)) i12 (nI 2)) := hp_65
                      refine cx_cVv (As := [.int (nI 12), .int (nI i2), .int r_65]) (rest := []) ⟨hx, hb, hml, hown, hts⟩ hE hS (c_X7_mark l D q cI cZ n T k M d (cx_u (cx_u (cx_u Z 1 Z_1_12) 0 za_51) 3 (fun _ => kn_51)) F 12 i2 r_65 (by first | assumption | omega | rfl) (by first | assumption | omega | rfl)) (cwV 3 hts gX7_overFaults_X7_mark rfl rfl rfl (by decide +kernel) ⟨Nat.le_of_ble_eq_true rfl, Nat.le_of_ble_eq_true rfl⟩) 0 7 rfl rfl rfl hl.1 rfl (Nat.le_of_ble_eq_true rfl) ⟨Nat.zero_le _, Nat.zero_le _⟩ dX7_overFaults_68 (fun u_68 H locs hp_68 hS => ?_)
                      obtain ⟨zf_68, rfl⟩ : ∃ z, z = u_68 := ⟨_, rfl⟩
                      have hS : cx_S D vwCl A s (cyW q cI cZ n T k M d (cx_u (cx_u (cx_u Z 0 za_51) 3 (fun _ => kn_51)) 1 zf_68) F) H locs := hS
                      have hp_68 : cx_EE zf_68 ↔ cx_EE (Z_1_12) ∨ ¬ r_65 = 0 := hp_68
                      refine lv_aload_n hx hb dX7_overFaults_71 rfl (lv_at hl 0 rfl) ?_
                      refine lv_bipush (v := nI 13) hx hb dX7_overFaults_72 (by decide) ?_
                      refine lv_iload_n hx hb dX7_overFaults_74 rfl (lv_at hl 2 rfl) ?_
                      refine lv_aload_n hx hb dX7_overFaults_75 rfl (lv_at hl 0 rfl) ?_
                      refine lv_iload_n hx hb dX7_overFaults_76 rfl (lv_at hl 2 rfl) ?_
                      refine lv_iconst (v := (1 : Int32)) hx hb dX7_overFaults_77 (by decide) ?_
                      refine lv_iconst (v := nI 4) hx hb dX7_overFaults_78 (by decide) ?_
                      refine cx_cVi (As := [.int (nI i2), .int (1 : Int32), .int (nI 4)]) (rest := [.int (nI i2), .int (nI 13), .ref (q 0)]) ⟨hx, hb, hml, hown, hts⟩ hE hS (c_X7_is_at_1 l D q cI cZ n T k M d (cx_u (cx_u (cx_u Z 0 za_51) 3 (fun _ => kn_51)) 1 zf_68) F i2 (1 : Int32) (nI 4) (by first | assumption | omega | rfl) (by first | assumption | omega | rfl)) (cwV 3 hts gX7_overFaults_X7_is rfl rfl rfl (by decide +kernel) ⟨Nat.le_of_ble_eq_true rfl, Nat.le_of_ble_eq_true rfl⟩) 0 7 rfl rfl rfl hl.1 rfl (Nat.le_of_ble_eq_true rfl) ⟨Nat.zero_le _, Nat.zero_le _⟩ dX7_overFaults_79 (fun r_79 u_79 H locs hp_79 hS => ?_)
                      have hp_79 : (r_79 = 0 ∨ r_79 = 1) ∧ (¬ r_79 = 0 ↔ cx_mk ((M 3)) i2 (nI 4)) := hp_79
                      refine lv_aload_n hx hb dX7_overFaults_82 rfl (lv_at hl 0 rfl) ?_
                      refine lv_iload_n hx hb dX7_overFaults_83 rfl (lv_at hl 3 rfl) ?_
                      refine lv_iconst (v := (1 : Int32)) hx hb dX7_overFaults_84 (by decide) ?_
                      refine lv_iconst (v := nI 4) hx hb dX7_overFaults_85 (by decide) ?_
                      refine cx_cVi (As := [.int (nI i12), .int (1 : Int32), .int (nI 4)]) (rest := [.int r_79, .int (nI i2), .int (nI 13), .ref (q 0)]) ⟨hx, hb, hml, hown, hts⟩ hE hS (c_X7_is_at_1 l D q cI cZ n T k M d (cx_u (cx_u (cx_u Z 0 za_51) 3 (fun _ => kn_51)) 1 zf_68) F i12 (1 : Int32) (nI 4) (by first | assumption | omega | rfl) (by first | assumption | omega | rfl)) (cwV 3 hts gX7_overFaults_X7_is rfl rfl rfl (by decide +kernel) ⟨Nat.le_of_ble_eq_true rfl, Nat.le_of_ble_eq_true rfl⟩) 0 7 rfl rfl rfl hl.1 rfl (Nat.le_of_ble_eq_true rfl) ⟨Nat.zero_le _, Nat.zero_le _⟩ dX7_overFaults_86 (fun r_86 u_86 H locs hp_86 hS => ?_)
                      have hp_86 : (r_86 = 0 ∨ r_86 = 1) ∧ (¬ r_86 = 0 ↔ cx_mk ((M 3)) i12 (nI 4)) := hp_86
                      have J97 : ∀ (v97_s0 : Int32) (H : Heap) (locs : List Loc) (ls : Array Slot), ((v97_s0 = 0 ∨ v97_s0 = 1) ∧ (¬ v97_s0 = 0 ↔ ¬ (cx_mk (M 3) i12 (nI 4) ↔ cx_mk (M 3) i2 (nI 4)))) → cx_S D vwCl A s (cyW q cI cZ n T k M d (cx_u (cx_u (cx_u Z 0 za_51) 3 (fun _ => kn_51)) 1 zf_68) F) H locs → lv_has ls 4 [(0, .ref (q 0)), (1, .int (nI t)), (2, .int (nI i2)), (3, .int (nI i12))] → W p l e ({ frames := 5, cells := 0, slots := 0, locals := 110 } : Room) s m args below meth c H locs 0 0 Q (F0 m 97 ls [.int v97_s0, .int (nI i2), .int (nI 13), .ref (q 0)]) := by
                        intro v97_s0 H locs ls b97 hS hl
                        refine cx_cVv (As := [.int (nI 13), .int (nI i2), .int v97_s0]) (rest := []) ⟨hx, hb, hml, hown, hts⟩ hE hS (c_X7_mark l D q cI cZ n T k M d (cx_u (cx_u (cx_u Z 0 za_51) 3 (fun _ => kn_51)) 1 zf_68) F 13 i2 v97_s0 (by first | assumption | omega | rfl) (by first | assumption | omega | rfl)) (cwV 3 hts gX7_overFaults_X7_mark rfl rfl rfl (by decide +kernel) ⟨Nat.le_of_ble_eq_true rfl, Nat.le_of_ble_eq_true rfl⟩) 0 7 rfl rfl rfl hl.1 rfl (Nat.le_of_ble_eq_true rfl) ⟨Nat.zero_le _, Nat.zero_le _⟩ dX7_overFaults_97 (fun u_97 H locs hp_97 hS => ?_)
                        obtain ⟨zf_97, rfl⟩ : ∃ z, z = u_97 := ⟨_, rfl⟩
                        have hS : cx_S D vwCl A s (cyW q cI cZ n T k M d (cx_u (cx_u (cx_u Z 0 za_51) 3 (fun _ => kn_51)) 1 zf_97) F) H locs := hS
                        have hp_97 : cx_EE zf_97 ↔ cx_EE (zf_68) ∨ ¬ v97_s0 = 0 := hp_97
                        refine lv_aload_n hx hb dX7_overFaults_100 rfl (lv_at hl 0 rfl) ?_
                        refine lv_bipush (v := nI 14) hx hb dX7_overFaults_101 (by decide) ?_
                        refine lv_iload_n hx hb dX7_overFaults_103 rfl (lv_at hl 2 rfl) ?_
                        refine lv_aload_n hx hb dX7_overFaults_104 rfl (lv_at hl 0 rfl) ?_
                        refine cx_get (own := RX7) (index := 46) (C := RX7) (T := TX7) (N := 22) (k := 14) (ci := 7) (v := .ref (q 13)) hx hb hts hown hE hS hinX7 0 rfl rfl (by decide) (List.mem_of_getElem? (i := 3) rfl) rfl dX7_overFaults_105 ?_
                        refine lv_iload_n hx hb dX7_overFaults_108 rfl (lv_at hl 3 rfl) ?_
                        refine cx_iald (f := (M 4)) (n := 80) (cA := cI) hx hb hE hS 13 0 rfl rfl (by omega) (by decide) dX7_overFaults_109 ?_
                        refine lv_aload_n hx hb dX7_overFaults_110 rfl (lv_at hl 0 rfl) ?_
                        refine cx_get (own := RX7) (index := 46) (C := RX7) (T := TX7) (N := 22) (k := 14) (ci := 7) (v := .ref (q 13)) hx hb hts hown hE hS hinX7 0 rfl rfl (by decide) (List.mem_of_getElem? (i := 3) rfl) rfl dX7_overFaults_111 ?_
                        refine lv_iload_n hx hb dX7_overFaults_114 rfl (lv_at hl 2 rfl) ?_
                        refine cx_iald (f := (M 4)) (n := 80) (cA := cI) hx hb hE hS 13 0 rfl rfl (by omega) (by decide) dX7_overFaults_115 ?_
                        have J124 : ∀ (v124_s0 : Int32) (H : Heap) (locs : List Loc) (ls : Array Slot), ((v124_s0 = 0 ∨ v124_s0 = 1) ∧ (¬ v124_s0 = 0 ↔ M 4 i2 < M 4 i12)) → cx_S D vwCl A s (cyW q cI cZ n T k M d (cx_u (cx_u (cx_u Z 0 za_51) 3 (fun _ => kn_51)) 1 zf_97) F) H locs → lv_has ls 4 [(0, .ref (q 0)), (1, .int (nI t)), (2, .int (nI i2)), (3, .int (nI i12))] → W p l e ({ frames := 5, cells := 0, slots := 0, locals := 110 } : Room) s m args below meth c H locs 0 0 Q (F0 m 124 ls [.int v124_s0, .int (nI i2), .int (nI 14), .ref (q 0)]) := by
                          intro v124_s0 H locs ls b124 hS hl
                          refine cx_cVv (As := [.int (nI 14), .int (nI i2), .int v124_s0]) (rest := []) ⟨hx, hb, hml, hown, hts⟩ hE hS (c_X7_mark l D q cI cZ n T k M d (cx_u (cx_u (cx_u Z 0 za_51) 3 (fun _ => kn_51)) 1 zf_97) F 14 i2 v124_s0 (by first | assumption | omega | rfl) (by first | assumption | omega | rfl)) (cwV 3 hts gX7_overFaults_X7_mark rfl rfl rfl (by decide +kernel) ⟨Nat.le_of_ble_eq_true rfl, Nat.le_of_ble_eq_true rfl⟩) 0 7 rfl rfl rfl hl.1 rfl (Nat.le_of_ble_eq_true rfl) ⟨Nat.zero_le _, Nat.zero_le _⟩ dX7_overFaults_124 (fun u_124 H locs hp_124 hS => ?_)
                          obtain ⟨zf_124, rfl⟩ : ∃ z, z = u_124 := ⟨_, rfl⟩
                          have hS : cx_S D vwCl A s (cyW q cI cZ n T k M d (cx_u (cx_u (cx_u Z 0 za_51) 3 (fun _ => kn_51)) 1 zf_124) F) H locs := hS
                          have hp_124 : cx_EE zf_124 ↔ cx_EE (zf_97) ∨ ¬ v124_s0 = 0 := hp_124
                          refine lv_aload_n hx hb dX7_overFaults_127 rfl (lv_at hl 0 rfl) ?_
                          refine lv_bipush (v := nI 15) hx hb dX7_overFaults_128 (by decide) ?_
                          refine lv_iload_n hx hb dX7_overFaults_130 rfl (lv_at hl 2 rfl) ?_
                          refine lv_aload_n hx hb dX7_overFaults_131 rfl (lv_at hl 0 rfl) ?_
                          refine lv_aload_n hx hb dX7_overFaults_132 rfl (lv_at hl 0 rfl) ?_
                          refine cx_get (own := RX7) (index := 49) (C := RX7) (T := TX7) (N := 22) (k := 15) (ci := 7) (v := .ref (q 14)) hx hb hts hown hE hS hinX7 0 rfl rfl (by decide) (List.mem_of_getElem? (i := 4) rfl) rfl dX7_overFaults_133 ?_
                          refine lv_iload_n hx hb dX7_overFaults_136 rfl (lv_at hl 2 rfl) ?_
                          refine cx_iald (f := (M 5)) (n := 80) (cA := cI) hx hb hE hS 14 0 rfl rfl (by omega) (by decide) dX7_overFaults_137 ?_
                          refine lv_aload_n hx hb dX7_overFaults_138 rfl (lv_at hl 0 rfl) ?_
                          refine cx_get (own := RX7) (index := 49) (C := RX7) (T := TX7) (N := 22) (k := 15) (ci := 7) (v := .ref (q 14)) hx hb hts hown hE hS hinX7 0 rfl rfl (by decide) (List.mem_of_getElem? (i := 4) rfl) rfl dX7_overFaults_139 ?_
                          refine lv_iload_n hx hb dX7_overFaults_142 rfl (lv_at hl 3 rfl) ?_
                          refine cx_iald (f := (M 5)) (n := 80) (cA := cI) hx hb hE hS 14 0 rfl rfl (by omega) (by decide) dX7_overFaults_143 ?_
                          refine cx_cVi (As := [.int ((M 5) i2), .int ((M 5) i12)]) (rest := [.int (nI i2), .int (nI 15), .ref (q 0)]) ⟨hx, hb, hml, hown, hts⟩ hE hS (c_X7_fitsResult l D q cI cZ n T k M d (cx_u (cx_u (cx_u Z 0 za_51) 3 (fun _ => kn_51)) 1 zf_124) F ((M 5) i2) ((M 5) i12) (by first | assumption | omega | rfl) (by first | assumption | omega | rfl) (by first | assumption | omega | rfl) (by first | assumption | omega | rfl) (by first | assumption | omega | rfl) (hM5 _) (hM5 _)) (cwV 2 hts gX7_overFaults_X7_fitsResult rfl rfl rfl (by decide +kernel) ⟨Nat.le_of_ble_eq_true rfl, Nat.le_of_ble_eq_true rfl⟩) 0 7 rfl rfl rfl hl.1 rfl (Nat.le_of_ble_eq_true rfl) ⟨Nat.zero_le _, Nat.zero_le _⟩ dX7_overFaults_144 (fun r_144 u_144 H locs hp_144 hS => ?_)
                          obtain ⟨za_144, kn_144⟩ := u_144
                          have hS : cx_S D vwCl A s (cyW q cI cZ n T k M d (cx_u (cx_u (cx_u Z 1 zf_124) 0 za_144) 3 (fun _ => kn_144)) F) H locs := hS
                          obtain ⟨hKN_144, hp_144⟩ := hp_144
                          have hKN_144 : cx_KN n T za_144 kn_144 := hKN_144
                          have hp_144 : (r_144 = 0 ∨ r_144 = 1) ∧ (¬ r_144 = 0 ↔ cx_ft n (cx_Ar T n) ((M 5) i2) ((M 5) i12)) := hp_144
                          have J155 : ∀ (v155_s0 : Int32) (H : Heap) (locs : List Loc) (ls : Array Slot), ((v155_s0 = 0 ∨ v155_s0 = 1) ∧ (¬ v155_s0 = 0 ↔ ¬ cx_ft n (cx_Ar T n) (M 5 i2) (M 5 i12))) → cx_S D vwCl A s (cyW q cI cZ n T k M d (cx_u (cx_u (cx_u Z 1 zf_124) 0 za_144) 3 (fun _ => kn_144)) F) H locs → lv_has ls 4 [(0, .ref (q 0)), (1, .int (nI t)), (2, .int (nI i2)), (3, .int (nI i12))] → W p l e ({ frames := 5, cells := 0, slots := 0, locals := 110 } : Room) s m args below meth c H locs 0 0 Q (F0 m 155 ls [.int v155_s0, .int (nI i2), .int (nI 15), .ref (q 0)]) := by
                            intro v155_s0 H locs ls b155 hS hl
                            refine cx_cVv (As := [.int (nI 15), .int (nI i2), .int v155_s0]) (rest := []) ⟨hx, hb, hml, hown, hts⟩ hE hS (c_X7_mark l D q cI cZ n T k M d (cx_u (cx_u (cx_u Z 1 zf_124) 0 za_144) 3 (fun _ => kn_144)) F 15 i2 v155_s0 (by first | assumption | omega | rfl) (by first | assumption | omega | rfl)) (cwV 3 hts gX7_overFaults_X7_mark rfl rfl rfl (by decide +kernel) ⟨Nat.le_of_ble_eq_true rfl, Nat.le_of_ble_eq_true rfl⟩) 0 7 rfl rfl rfl hl.1 rfl (Nat.le_of_ble_eq_true rfl) ⟨Nat.zero_le _, Nat.zero_le _⟩ dX7_overFaults_155 (fun u_155 H locs hp_155 hS => ?_)
                            obtain ⟨zf_155, rfl⟩ : ∃ z, z = u_155 := ⟨_, rfl⟩
                            have hS : cx_S D vwCl A s (cyW q cI cZ n T k M d (cx_u (cx_u (cx_u Z 0 za_144) 3 (fun _ => kn_144)) 1 zf_155) F) H locs := hS
                            have hp_155 : cx_EE zf_155 ↔ cx_EE (zf_124) ∨ ¬ v155_s0 = 0 := hp_155
                            exact J158 za_144 (fun _ => kn_144) zf_155 _ _ _ (by first | assumption | exact hKN) (by first | exact cx_goN (Q := fun j => cx_lk M j i2 ∧ cx_sh (T 0) (T 2) M (cx_Ar T n) j t ∧ cx_ov1 n M (cx_Ar T n) i2 j) hq12 (fun z => g45 ⟨z.1.1.symm, z.1.2.symm⟩) | exact cx_goN (Q := fun j => cx_lk M j i2 ∧ cx_sh (T 0) (T 2) M (cx_Ar T n) j t ∧ cx_ov1 n M (cx_Ar T n) i2 j) hq12 (fun z => g54 z.2.1) | exact cx_goS (Q := fun j => cx_lk M j i2 ∧ cx_sh (T 0) (T 2) M (cx_Ar T n) j t ∧ cx_ov1 n M (cx_Ar T n) i2 j) hq12 (cx_ovS ⟨g45.1.symm, g45.2.symm⟩ g54 hp_68 hp_97 hp_124 hp_155 hp_65.2 b97.2 b124.2 b155.2)) hS (lv_sub hl [0, 1, 2, 3] rfl)
                          refine lv_if_ne (tgt := 154) hx hb dX7_overFaults_147 (by decide) (fun h147 => ?_) (fun h147 => ?_)
                          · skip
                            have g147 : cx_ft n (cx_Ar T n) ((M 5) i2) ((M 5) i12) := hp_144.2.mp h147
                            refine lv_iconst (v := (0 : Int32)) hx hb dX7_overFaults_154 (by decide) ?_
                            exact J155 (0 : Int32) _ _ _ (cx_e0 (by (try clear RET); (try clear hS); (try clear hl); (try clear hE); (try clear hts); (try clear hb); (try clear hx); (try clear hml); (try clear hown); (try clear hinX7); (try clear J2); (try clear ih2); (try clear hN2); (try clear J12); (try clear ih12); (try clear hN12); (try clear J164); (try clear J158); (try clear J97); (try clear J124); (try clear J155); have y10 : ¬ (1 : Int32) = 0 := (by decide); first | assumption | (grind [Int32.not_le]))) hS (lv_sub hl [0, 1, 2, 3] rfl)
                          · skip
                            have g147 : ¬ (cx_ft n (cx_Ar T n) ((M 5) i2) ((M 5) i12)) := fun z => hp_144.2.mpr z h147
                            refine lv_iconst (v := (1 : Int32)) hx hb dX7_overFaults_150 (by decide) ?_
                            refine lv_goto (tgt := 155) hx hb dX7_overFaults_151 (by decide) ?_
                            exact J155 (1 : Int32) _ _ _ (cx_e1 (by (try clear RET); (try clear hS); (try clear hl); (try clear hE); (try clear hts); (try clear hb); (try clear hx); (try clear hml); (try clear hown); (try clear hinX7); (try clear J2); (try clear ih2); (try clear hN2); (try clear J12); (try clear ih12); (try clear hN12); (try clear J164); (try clear J158); (try clear J97); (try clear J124); (try clear J155); have y10 : ¬ (1 : Int32) = 0 := (by decide); first | assumption | (grind [Int32.not_le]))) hS (lv_sub hl [0, 1, 2, 3] rfl)
                        refine lv_icmp_le (tgt := 123) hx hb dX7_overFaults_116 (by decide) (fun h116 => ?_) (fun h116 => ?_)
                        · skip
                          refine lv_iconst (v := (0 : Int32)) hx hb dX7_overFaults_123 (by decide) ?_
                          exact J124 (0 : Int32) _ _ _ (cx_e0 (by (try clear RET); (try clear hS); (try clear hl); (try clear hE); (try clear hts); (try clear hb); (try clear hx); (try clear hml); (try clear hown); (try clear hinX7); (try clear J2); (try clear ih2); (try clear hN2); (try clear J12); (try clear ih12); (try clear hN12); (try clear J164); (try clear J158); (try clear J97); (try clear J124); have y10 : ¬ (1 : Int32) = 0 := (by decide); first | assumption | (grind [Int32.not_le]))) hS (lv_sub hl [0, 1, 2, 3] rfl)
                        · skip
                          refine lv_iconst (v := (1 : Int32)) hx hb dX7_overFaults_119 (by decide) ?_
                          refine lv_goto (tgt := 124) hx hb dX7_overFaults_120 (by decide) ?_
                          exact J124 (1 : Int32) _ _ _ (cx_e1 (by (try clear RET); (try clear hS); (try clear hl); (try clear hE); (try clear hts); (try clear hb); (try clear hx); (try clear hml); (try clear hown); (try clear hinX7); (try clear J2); (try clear ih2); (try clear hN2); (try clear J12); (try clear ih12); (try clear hN12); (try clear J164); (try clear J158); (try clear J97); (try clear J124); have y10 : ¬ (1 : Int32) = 0 := (by decide); first | assumption | (grind [Int32.not_le]))) hS (lv_sub hl [0, 1, 2, 3] rfl)
                      refine lv_icmp_eq (tgt := 96) hx hb dX7_overFaults_89 (by decide) (fun h89 => ?_) (fun h89 => ?_)
                      · skip
                        refine lv_iconst (v := (0 : Int32)) hx hb dX7_overFaults_96 (by decide) ?_
                        exact J97 (0 : Int32) _ _ _ (cx_e0 (by (try clear RET); (try clear hS); (try clear hl); (try clear hE); (try clear hts); (try clear hb); (try clear hx); (try clear hml); (try clear hown); (try clear hinX7); (try clear J2); (try clear ih2); (try clear hN2); (try clear J12); (try clear ih12); (try clear hN12); (try clear J164); (try clear J158); (try clear J97); have y10 : ¬ (1 : Int32) = 0 := (by decide); first | assumption | (grind [Int32.not_le]))) hS (lv_sub hl [0, 1, 2, 3] rfl)
                      · skip
                        refine lv_iconst (v := (1 : Int32)) hx hb dX7_overFaults_92 (by decide) ?_
                        refine lv_goto (tgt := 97) hx hb dX7_overFaults_93 (by decide) ?_
                        exact J97 (1 : Int32) _ _ _ (cx_e1 (by (try clear RET); (try clear hS); (try clear hl); (try clear hE); (try clear hts); (try clear hb); (try clear hx); (try clear hml); (try clear hown); (try clear hinX7); (try clear J2); (try clear ih2); (try clear hN2); (try clear J12); (try clear ih12); (try clear hN12); (try clear J164); (try clear J158); (try clear J97); have y10 : ¬ (1 : Int32) = 0 := (by decide); first | assumption | (grind [Int32.not_le]))) hS (lv_sub hl [0, 1, 2, 3] rfl)
        exact J12 (k - 0 + 1) 0 Z_0_2 Z_1_2 Z_3_2 _ _ _ (Nat.lt_succ_self _) (by (try clear hq12); (try clear hq); omega) (by first | assumption | exact hKN) (by first | exact hq158 | exact cx_go0) (by first | exact fun z => absurd z (by omega) | exact fun _ => ⟨g27, fun z => h36 ((cx_ac (hX i2)).1.2.mpr z)⟩) hS (lv_sub hl [1, 2, 3, 0] rfl)
  exact J2 (k - 0 + 1) 0 (Z 0) (Z 1) (Z 3) _ _ _ (Nat.lt_succ_self _) (by (try clear hq); omega) (by first | assumption | exact hKN) (by first | exact hq164 | exact cx_go0) hS (lv_sub hl [1, 2, 0] rfl)
set_option maxHeartbeats 4000000 in
set_option maxRecDepth 100000 in
theorem c_X7_classOne (l : Launch) (D : va_G) (q : Nat → Nat) (cI cZ : ClassId) (n : Nat) (T : Nat → Nat → Int32) (k : Nat) (M : Nat → Nat → Int32) (d : Nat) (Z : Nat → Nat → Int32) (F : Nat → Nat → Int32) (t : Nat) (nm : Int32) (pm : Int32) (hn : n ≤ 20) (hP : cx_P (T 3) 20) (hU : cx_R (T 4) 20) (hV : cx_R (T 5) 4) (hKN : cx_KN n T (Z 0) ((Z 3) 0)) (hO : cx_R (M 0) 20) (hk : k ≤ 80) (hOn : ∀ j, j < k → (M 0 j).toNatClampNeg < n) (hX : cx_R (M 4) 4) (ht : t < n) : cx_Mi l D vwCl [(cI, .int), (cZ, .boolean)] cx_NW yX7_classOne wsX7_classOne ({ frames := 4, cells := 0, slots := 0, locals := 89 } : Room) [.ref (q 0), .int (nI t), .int nm, .int pm] (cyW q cI cZ n T k M d Z F) (fun (r : Int32) (uw : (Nat → Int32) × (Int32)) => cx_KN n T uw.1 uw.2 ∧ ((cx_co n k (T 0) (T 2) (T 3) M (cx_Ar T n) t nm pm r) ∧ (r = -1 ∨ cx_ix r 80))) (fun uw => (cyW q cI cZ n T k M d (cx_u (cx_u Z 0 uw.1) 3 (fun _ => uw.2)) F)) := by
  refine cx_Mi.of (cc := cX7_classOne) (maxL := 7) cx_NW_ok (by decide) rfl (Nat.le_of_ble_eq_true rfl) ?_
  intro p e s m args below meth c Q A ls hx hb hml hown hts hE RET hS hl
  have hl : lv_has ls 7 [(0, .ref (q 0)), (1, .int (nI t)), (2, .int nm), (3, .int pm)] := hl
  have hown : s.vm.findClass RX7 = some m.cls := hown
  have hinX7 : ∀ w ∈ u_ws RX7 TX7 22, w ∈ wsX7_classOne := cx_mem [35, 36, 37, 38, 39, 40, 41, 42, 43, 44, 45, 46, 47, 48, 49, 50, 51, 52, 53, 54, 55, 56] (by decide +kernel)
  refine lv_aload_n hx hb dX7_classOne_0 rfl (lv_at hl 0 rfl) ?_
  refine cx_get (own := RX7) (index := 7) (C := RX7) (T := TX7) (N := 22) (k := 1) (ci := 7) (v := .ref (q 1)) hx hb hts hown hE hS hinX7 0 rfl rfl (by decide) (List.mem_of_getElem? (i := 1) rfl) rfl dX7_classOne_1 ?_
  refine lv_iload_n hx hb dX7_classOne_4 rfl (lv_at hl 1 rfl) ?_
  refine cx_iald (f := (T 0)) (n := 20) (cA := cI) hx hb hE hS 1 0 rfl rfl (by omega) (by decide) dX7_classOne_5 ?_
  refine lv_iconst (v := (1 : Int32)) hx hb dX7_classOne_6 (by decide) ?_
  refine lv_icmp_ne (tgt := 12) hx hb dX7_classOne_7 (by decide) (fun h7 => ?_) (fun h7 => ?_)
  · skip
    refine lv_iload_n hx hb dX7_classOne_12 rfl (lv_at hl 1 rfl) ?_
    refine lv_istore (lv' := [(4, .int (nI t)), (0, .ref (q 0)), (1, .int (nI t)), (2, .int nm), (3, .int pm)]) hx hb dX7_classOne_13 hl (by decide) rfl (fun ls hl => ?_)
    refine lv_iconst (v := (0 : Int32)) hx hb dX7_classOne_15 (by decide) ?_
    refine cx_topr (z := nI 0) (by decide) ?_
    refine lv_istore (lv' := [(5, .int (nI 0)), (4, .int (nI t)), (0, .ref (q 0)), (1, .int (nI t)), (2, .int nm), (3, .int pm)]) hx hb dX7_classOne_16 hl (by decide) rfl (fun ls hl => ?_)
    have J18 : ∀ (N : Nat) (v18_l4 : Int32) (i18 : Nat) (Z_0_18 : Nat → Int32) (Z_3_18 : Nat → Int32) (H : Heap) (locs : List Loc) (ls : Array Slot), (20 - i18 < N) → (i18 ≤ 20) → (cx_KN n T Z_0_18 (Z_3_18 0)) → (∀ r, cx_one n k (T 3) (cx_c1 (T 0) (T 2) M (cx_Ar T n) t nm pm) (20 - i18) v18_l4 r → cx_one n k (T 3) (cx_c1 (T 0) (T 2) M (cx_Ar T n) t nm pm) 20 (nI t) r) → cx_S D vwCl A s (cyW q cI cZ n T k M d (cx_u (cx_u Z 0 Z_0_18) 3 Z_3_18) F) H locs → lv_has ls 7 [(0, .ref (q 0)), (1, .int (nI t)), (2, .int nm), (3, .int pm), (4, .int v18_l4), (5, .int (nI i18))] → W p l e ({ frames := 4, cells := 0, slots := 0, locals := 89 } : Room) s m args below meth c H locs 0 0 Q (F0 m 18 ls []) := by
      intro N18
      induction N18 with
      | zero => intro v18_l4 i18 Z_0_18 Z_3_18 H locs ls hN; exact absurd hN (by omega)
      | succ N18 ih18 =>
        intro v18_l4 i18 Z_0_18 Z_3_18 H locs ls hN18 hi18 hKN18 hq hS hl
        refine lv_iload hx hb dX7_classOne_18 (lv_at hl 5 rfl) ?_
        refine lv_bipush (v := nI 20) hx hb dX7_classOne_20 (by decide) ?_
        have J131 : ∀ (H : Heap) (locs : List Loc) (ls : Array Slot), (cx_co n k (T 0) (T 2) (T 3) M (cx_Ar T n) t nm pm (-1)) → cx_S D vwCl A s (cyW q cI cZ n T k M d (cx_u (cx_u Z 0 Z_0_18) 3 Z_3_18) F) H locs → lv_has ls 7 [(0, .ref (q 0)), (1, .int (nI t)), (2, .int nm), (3, .int pm), (4, .int v18_l4), (5, .int (nI i18))] → W p l e ({ frames := 4, cells := 0, slots := 0, locals := 89 } : Room) s m args below meth c H locs 0 0 Q (F0 m 131 ls []) := by
          intro  H locs ls hfin hS hl
          refine lv_iconst (v := (-1 : Int32)) hx hb dX7_classOne_131 (by decide) ?_
          exact RET _ (Z_0_18, Z_3_18 0) _ _ _ _ dX7_classOne_132 rfl (⟨(by first | assumption | exact hKN), ⟨hfin, Or.inl rfl⟩⟩) hS
        refine lv_icmp_ge (tgt := 131) hx hb dX7_classOne_22 (by decide) (fun h22 => ?_) (fun h22 => ?_)
        · skip
          have g22 : 20 ≤ i18 := (nI_leI (a := 20) (b := i18) (by omega) (by omega)).mp h22
          exact J131  _ _ _ (by first | exact Or.inr ⟨h7, hq _ (by rw [show 20 - i18 = 0 by omega]; exact rfl)⟩ | exact Or.inr ⟨h7, hq _ (cx_one_end g31 _)⟩) hS (lv_sub hl [0, 1, 2, 3, 4, 5] rfl)
        · skip
          have g22 : ¬ (20 ≤ i18) := fun z => h22 ((nI_leI (a := 20) (b := i18) (by omega) (by omega)).mpr z)
          refine lv_aload_n hx hb dX7_classOne_25 rfl (lv_at hl 0 rfl) ?_
          refine lv_iload hx hb dX7_classOne_26 (lv_at hl 4 rfl) ?_
          refine cx_cVi (As := [.int v18_l4]) (rest := []) ⟨hx, hb, hml, hown, hts⟩ hE hS (c_X7_isType l D q cI cZ n T k M d (cx_u (cx_u Z 0 Z_0_18) 3 Z_3_18) F v18_l4 (by first | assumption | omega | rfl)) (cwV 1 hts gX7_classOne_X7_isType rfl rfl rfl (by decide +kernel) ⟨Nat.le_of_ble_eq_true rfl, Nat.le_of_ble_eq_true rfl⟩) 0 7 rfl rfl rfl hl.1 rfl (Nat.le_of_ble_eq_true rfl) ⟨Nat.zero_le _, Nat.zero_le _⟩ dX7_classOne_28 (fun r_28 u_28 H locs hp_28 hS => ?_)
          have hp_28 : r_28 = cx_b (0 ≤ v18_l4 ∧ v18_l4 < nI n) := hp_28
          subst hp_28
          refine lv_if_eq (tgt := 131) hx hb dX7_classOne_31 (by decide) (fun h31 => ?_) (fun h31 => ?_)
          · skip
            have g31 := cx_b0 h31
            exact J131  _ _ _ (by first | exact Or.inr ⟨h7, hq _ (by rw [show 20 - i18 = 0 by omega]; exact rfl)⟩ | exact Or.inr ⟨h7, hq _ (cx_one_end g31 _)⟩) hS (lv_sub hl [0, 1, 2, 3, 4, 5] rfl)
          · skip
            have g31 := cx_b1 h31
            refine lv_iconst (v := (0 : Int32)) hx hb dX7_classOne_34 (by decide) ?_
            refine cx_topr (z := nI 0) (by decide) ?_
            refine lv_istore (lv' := [(6, .int (nI 0)), (0, .ref (q 0)), (1, .int (nI t)), (2, .int nm), (3, .int pm), (4, .int v18_l4), (5, .int (nI i18))]) hx hb dX7_classOne_35 hl (by decide) rfl (fun ls hl => ?_)
            have J37 : ∀ (N : Nat) (i37 : Nat) (Z_0_37 : Nat → Int32) (Z_3_37 : Nat → Int32) (H : Heap) (locs : List Loc) (ls : Array Slot), (k - i37 < N) → (i37 ≤ k) → (cx_KN n T Z_0_37 (Z_3_37 0)) → (∀ j, j < i37 → ¬ (cx_c1 (T 0) (T 2) M (cx_Ar T n) t nm pm) v18_l4.toNatClampNeg j) → cx_S D vwCl A s (cyW q cI cZ n T k M d (cx_u (cx_u Z 0 Z_0_37) 3 Z_3_37) F) H locs → lv_has ls 7 [(0, .ref (q 0)), (1, .int (nI t)), (2, .int nm), (3, .int pm), (4, .int v18_l4), (5, .int (nI i18)), (6, .int (nI i37))] → W p l e ({ frames := 4, cells := 0, slots := 0, locals := 89 } : Room) s m args below meth c H locs 0 0 Q (F0 m 37 ls []) := by
              intro N37
              induction N37 with
              | zero => intro i37 Z_0_37 Z_3_37 H locs ls hN; exact absurd hN (by omega)
              | succ N37 ih37 =>
                intro i37 Z_0_37 Z_3_37 H locs ls hN37 hi37 hKN37 hnone hS hl
                refine lv_iload hx hb dX7_classOne_37 (lv_at hl 6 rfl) ?_
                refine lv_aload_n hx hb dX7_classOne_39 rfl (lv_at hl 0 rfl) ?_
                refine cx_get (own := RX7) (index := 81) (C := RX7) (T := TX7) (N := 22) (k := 9) (ci := 7) (v := .int (nI k)) hx hb hts hown hE hS hinX7 0 rfl rfl (by decide) (List.mem_of_getElem? (i := 2) rfl) rfl dX7_classOne_40 ?_
                refine lv_icmp_ge (tgt := 116) hx hb dX7_classOne_43 (by decide) (fun h43 => ?_) (fun h43 => ?_)
                · skip
                  have g43 : k ≤ i37 := (nI_leI (a := k) (b := i37) (by omega) (by omega)).mp h43
                  refine lv_aload_n hx hb dX7_classOne_116 rfl (lv_at hl 0 rfl) ?_
                  refine cx_get (own := RX7) (index := 19) (C := RX7) (T := TX7) (N := 22) (k := 4) (ci := 7) (v := .ref (q 4)) hx hb hts hown hE hS hinX7 0 rfl rfl (by decide) (List.mem_of_getElem? (i := 6) rfl) rfl dX7_classOne_117 ?_
                  refine lv_iload hx hb dX7_classOne_120 (lv_at hl 4 rfl) ?_
                  refine cx_topr (z := nI (v18_l4.toNatClampNeg)) (cx_ixT (by omega) g31).1 ?_
                  refine cx_iald (f := (T 3)) (n := 20) (cA := cI) hx hb hE hS 4 0 rfl rfl (by have := (cx_ixT (by omega) g31).2; omega) (by decide) dX7_classOne_122 ?_
                  refine lv_istore (lv' := [(4, .int ((T 3) v18_l4.toNatClampNeg)), (0, .ref (q 0)), (1, .int (nI t)), (2, .int nm), (3, .int pm), (5, .int (nI i18)), (6, .int (nI i37))]) hx hb dX7_classOne_123 hl (by decide) rfl (fun ls hl => ?_)
                  refine lv_iinc (v := nI (i18 + 1)) (lv' := [(5, .int (nI (i18 + 1))), (4, .int ((T 3) v18_l4.toNatClampNeg)), (0, .ref (q 0)), (1, .int (nI t)), (2, .int nm), (3, .int pm), (6, .int (nI i37))]) hx hb dX7_classOne_125 hl (k := 5) rfl (cx_inc _) (by decide) rfl (fun ls hl => ?_)
                  refine lv_goto (tgt := 18) hx hb dX7_classOne_128 (by decide) ?_
                  exact ih18 ((T 3) v18_l4.toNatClampNeg) (i18 + 1) Z_0_37 Z_3_37 _ _ _ (by omega) (by omega) (by first | assumption | exact hKN) (by first | exact fun r hr => hr | exact fun r hr => hq r (by rw [show 20 - i18 = (20 - (i18 + 1)) + 1 by omega]; exact cx_one_nxt g31 (fun j hj => hnone j (by omega)) hr)) hS (lv_sub hl [2, 3, 4, 5, 1, 0] rfl)
                · skip
                  have g43 : ¬ (k ≤ i37) := fun z => h43 ((nI_leI (a := k) (b := i37) (by omega) (by omega)).mpr z)
                  refine lv_aload_n hx hb dX7_classOne_46 rfl (lv_at hl 0 rfl) ?_
                  refine cx_get (own := RX7) (index := 34) (C := RX7) (T := TX7) (N := 22) (k := 10) (ci := 7) (v := .ref (q 9)) hx hb hts hown hE hS hinX7 0 rfl rfl (by decide) (List.mem_of_getElem? (i := 3) rfl) rfl dX7_classOne_47 ?_
                  refine lv_iload hx hb dX7_classOne_50 (lv_at hl 6 rfl) ?_
                  refine cx_iald (f := (M 0)) (n := 80) (cA := cI) hx hb hE hS 9 0 rfl rfl (by omega) (by decide) dX7_classOne_52 ?_
                  refine lv_iload hx hb dX7_classOne_53 (lv_at hl 4 rfl) ?_
                  have J110 : ∀ (Z_0_110 : Nat → Int32) (Z_3_110 : Nat → Int32) (H : Heap) (locs : List Loc) (ls : Array Slot), (cx_KN n T Z_0_110 (Z_3_110 0)) → (¬ (cx_c1 (T 0) (T 2) M (cx_Ar T n) t nm pm) v18_l4.toNatClampNeg i37) → cx_S D vwCl A s (cyW q cI cZ n T k M d (cx_u (cx_u Z 0 Z_0_110) 3 Z_3_110) F) H locs → lv_has ls 7 [(0, .ref (q 0)), (1, .int (nI t)), (2, .int nm), (3, .int pm), (4, .int v18_l4), (5, .int (nI i18)), (6, .int (nI i37))] → W p l e ({ frames := 4, cells := 0, slots := 0, locals := 89 } : Room) s m args below meth c H locs 0 0 Q (F0 m 110 ls []) := by
                    intro Z_0_110 Z_3_110 H locs ls hKN110 h110 hS hl
                    refine lv_iinc (v := nI (i37 + 1)) (lv' := [(6, .int (nI (i37 + 1))), (0, .ref (q 0)), (1, .int (nI t)), (2, .int nm), (3, .int pm), (4, .int v18_l4), (5, .int (nI i18))]) hx hb dX7_classOne_110 hl (k := 6) rfl (cx_inc _) (by decide) rfl (fun ls hl => ?_)
                    refine lv_goto (tgt := 37) hx hb dX7_classOne_113 (by decide) ?_
                    exact ih37 (i37 + 1) Z_0_110 Z_3_110 _ _ _ (by omega) (by omega) (by first | assumption | exact hKN) (by first | exact cx_all0 | exact cx_allS hnone h110) hS (lv_sub hl [1, 2, 3, 4, 5, 6, 0] rfl)
                  refine lv_icmp_ne (tgt := 110) hx hb dX7_classOne_55 (by decide) (fun h55 => ?_) (fun h55 => ?_)
                  · skip
                    exact J110 Z_0_37 Z_3_37 _ _ _ (by first | assumption | exact hKN) (by first | exact cx_s1 hO (Or.inr (cx_ixT (by omega) g31)) (cx_ixm (cx_ixT (by omega) g31) (by omega)) h55 | exact fun z => h66 z.2.1.1 | exact fun z => h77 z.2.1.2 | exact fun z => g88 z.2.2.1 | exact cx_s2 h94 (Or.inr (cx_ixT (by omega) g31)) (cx_ixm (cx_ixT (by omega) g31) (by omega)) g104) hS (lv_sub hl [0, 1, 2, 3, 4, 5, 6] rfl)
                  · skip
                    refine lv_aload_n hx hb dX7_classOne_58 rfl (lv_at hl 0 rfl) ?_
                    refine cx_get (own := RX7) (index := 37) (C := RX7) (T := TX7) (N := 22) (k := 11) (ci := 7) (v := .ref (q 10)) hx hb hts hown hE hS hinX7 0 rfl rfl (by decide) (List.mem_of_getElem? (i := 4) rfl) rfl dX7_classOne_59 ?_
                    refine lv_iload hx hb dX7_classOne_62 (lv_at hl 6 rfl) ?_
                    refine cx_iald (f := (M 1)) (n := 80) (cA := cI) hx hb hE hS 10 0 rfl rfl (by omega) (by decide) dX7_classOne_64 ?_
                    refine lv_iload_n hx hb dX7_classOne_65 rfl (lv_at hl 2 rfl) ?_
                    refine lv_icmp_ne (tgt := 110) hx hb dX7_classOne_66 (by decide) (fun h66 => ?_) (fun h66 => ?_)
                    · skip
                      exact J110 Z_0_37 Z_3_37 _ _ _ (by first | assumption | exact hKN) (by first | exact cx_s1 hO (Or.inr (cx_ixT (by omega) g31)) (cx_ixm (cx_ixT (by omega) g31) (by omega)) h55 | exact fun z => h66 z.2.1.1 | exact fun z => h77 z.2.1.2 | exact fun z => g88 z.2.2.1 | exact cx_s2 h94 (Or.inr (cx_ixT (by omega) g31)) (cx_ixm (cx_ixT (by omega) g31) (by omega)) g104) hS (lv_sub hl [0, 1, 2, 3, 4, 5, 6] rfl)
                    · skip
                      refine lv_aload_n hx hb dX7_classOne_69 rfl (lv_at hl 0 rfl) ?_
                      refine cx_get (own := RX7) (index := 40) (C := RX7) (T := TX7) (N := 22) (k := 12) (ci := 7) (v := .ref (q 11)) hx hb hts hown hE hS hinX7 0 rfl rfl (by decide) (List.mem_of_getElem? (i := 5) rfl) rfl dX7_classOne_70 ?_
                      refine lv_iload hx hb dX7_classOne_73 (lv_at hl 6 rfl) ?_
                      refine cx_iald (f := (M 2)) (n := 80) (cA := cI) hx hb hE hS 11 0 rfl rfl (by omega) (by decide) dX7_classOne_75 ?_
                      refine lv_iload_n hx hb dX7_classOne_76 rfl (lv_at hl 3 rfl) ?_
                      refine lv_icmp_ne (tgt := 110) hx hb dX7_classOne_77 (by decide) (fun h77 => ?_) (fun h77 => ?_)
                      · skip
                        exact J110 Z_0_37 Z_3_37 _ _ _ (by first | assumption | exact hKN) (by first | exact cx_s1 hO (Or.inr (cx_ixT (by omega) g31)) (cx_ixm (cx_ixT (by omega) g31) (by omega)) h55 | exact fun z => h66 z.2.1.1 | exact fun z => h77 z.2.1.2 | exact fun z => g88 z.2.2.1 | exact cx_s2 h94 (Or.inr (cx_ixT (by omega) g31)) (cx_ixm (cx_ixT (by omega) g31) (by omega)) g104) hS (lv_sub hl [0, 1, 2, 3, 4, 5, 6] rfl)
                      · skip
                        refine lv_aload_n hx hb dX7_classOne_80 rfl (lv_at hl 0 rfl) ?_
                        refine lv_iload hx hb dX7_classOne_81 (lv_at hl 6 rfl) ?_
                        refine lv_iconst (v := (0 : Int32)) hx hb dX7_classOne_83 (by decide) ?_
                        refine lv_iconst (v := nI 4) hx hb dX7_classOne_84 (by decide) ?_
                        refine cx_cVi (As := [.int (nI i37), .int (0 : Int32), .int (nI 4)]) (rest := []) ⟨hx, hb, hml, hown, hts⟩ hE hS (c_X7_is_at_0 l D q cI cZ n T k M d (cx_u (cx_u Z 0 Z_0_37) 3 Z_3_37) F i37 (0 : Int32) (nI 4) (by first | assumption | omega | rfl) (by first | assumption | omega | rfl)) (cwV 3 hts gX7_classOne_X7_is rfl rfl rfl (by decide +kernel) ⟨Nat.le_of_ble_eq_true rfl, Nat.le_of_ble_eq_true rfl⟩) 0 7 rfl rfl rfl hl.1 rfl (Nat.le_of_ble_eq_true rfl) ⟨Nat.zero_le _, Nat.zero_le _⟩ dX7_classOne_85 (fun r_85 u_85 H locs hp_85 hS => ?_)
                        have hp_85 : (r_85 = 0 ∨ r_85 = 1) ∧ (¬ r_85 = 0 ↔ ¬ cx_mk ((M 3)) i37 (nI 4)) := hp_85
                        refine lv_if_eq (tgt := 110) hx hb dX7_classOne_88 (by decide) (fun h88 => ?_) (fun h88 => ?_)
                        · skip
                          have g88 : ¬ (¬ cx_mk ((M 3)) i37 (nI 4)) := fun z => hp_85.2.mpr z h88
                          exact J110 Z_0_37 Z_3_37 _ _ _ (by first | assumption | exact hKN) (by first | exact cx_s1 hO (Or.inr (cx_ixT (by omega) g31)) (cx_ixm (cx_ixT (by omega) g31) (by omega)) h55 | exact fun z => h66 z.2.1.1 | exact fun z => h77 z.2.1.2 | exact fun z => g88 z.2.2.1 | exact cx_s2 h94 (Or.inr (cx_ixT (by omega) g31)) (cx_ixm (cx_ixT (by omega) g31) (by omega)) g104) hS (lv_sub hl [0, 1, 2, 3, 4, 5, 6] rfl)
                        · skip
                          have g88 : ¬ cx_mk ((M 3)) i37 (nI 4) := hp_85.2.mp h88
                          refine lv_iload hx hb dX7_classOne_91 (lv_at hl 4 rfl) ?_
                          refine lv_iload_n hx hb dX7_classOne_93 rfl (lv_at hl 1 rfl) ?_
                          have J107 : ∀ (Z_0_107 : Nat → Int32) (Z_3_107 : Nat → Int32) (H : Heap) (locs : List Loc) (ls : Array Slot), (cx_KN n T Z_0_107 (Z_3_107 0)) → (v18_l4 = nI t ∨ cx_sh (T 0) (T 2) M (cx_Ar T n) i37 t) → cx_S D vwCl A s (cyW q cI cZ n T k M d (cx_u (cx_u Z 0 Z_0_107) 3 Z_3_107) F) H locs → lv_has ls 7 [(0, .ref (q 0)), (1, .int (nI t)), (2, .int nm), (3, .int pm), (4, .int v18_l4), (5, .int (nI i18)), (6, .int (nI i37))] → W p l e ({ frames := 4, cells := 0, slots := 0, locals := 89 } : Room) s m args below meth c H locs 0 0 Q (F0 m 107 ls []) := by
                            intro Z_0_107 Z_3_107 H locs ls hKN107 h107 hS hl
                            refine lv_iload hx hb dX7_classOne_107 (lv_at hl 6 rfl) ?_
                            exact RET _ (Z_0_107, Z_3_107 0) _ _ _ _ dX7_classOne_109 rfl (⟨(by first | assumption | exact hKN), ⟨Or.inr ⟨h7, hq _ (by rw [show 20 - i18 = (20 - (i18 + 1)) + 1 by omega]; exact cx_one_hit g31 (by omega) hk (cx_s3 ht hn h55 ⟨h66, h77⟩ g88 h107) hnone)⟩, Or.inr (cx_ixI (by omega) (by decide))⟩⟩) hS
                          refine lv_icmp_eq (tgt := 107) hx hb dX7_classOne_94 (by decide) (fun h94 => ?_) (fun h94 => ?_)
                          · skip
                            exact J107 Z_0_37 Z_3_37 _ _ _ (by first | assumption | exact hKN) (by first | exact Or.inl h94 | exact Or.inr g104) hS (lv_sub hl [0, 1, 2, 3, 4, 5, 6] rfl)
                          · skip
                            refine lv_aload_n hx hb dX7_classOne_97 rfl (lv_at hl 0 rfl) ?_
                            refine lv_iload hx hb dX7_classOne_98 (lv_at hl 6 rfl) ?_
                            refine lv_iload_n hx hb dX7_classOne_100 rfl (lv_at hl 1 rfl) ?_
                            refine cx_cVi (As := [.int (nI i37), .int (nI t)]) (rest := []) ⟨hx, hb, hml, hown, hts⟩ hE hS (c_X7_isShared l D q cI cZ n T k M d (cx_u (cx_u Z 0 Z_0_37) 3 Z_3_37) F i37 t (by first | assumption | omega | rfl) (by first | assumption | omega | rfl) (by first | assumption | omega | rfl) (by first | assumption | omega | rfl) (by first | assumption | omega | rfl) (by first | assumption | omega | rfl) (by first | assumption | omega | rfl) (by first | assumption | omega | rfl) (by first | assumption | omega | rfl) (by first | assumption | omega | rfl) (by first | assumption | omega | rfl)) (cwV 2 hts gX7_classOne_X7_isShared rfl rfl rfl (by decide +kernel) ⟨Nat.le_of_ble_eq_true rfl, Nat.le_of_ble_eq_true rfl⟩) 0 7 rfl rfl rfl hl.1 rfl (Nat.le_of_ble_eq_true rfl) ⟨Nat.zero_le _, Nat.zero_le _⟩ dX7_classOne_101 (fun r_101 u_101 H locs hp_101 hS => ?_)
                            obtain ⟨za_101, kn_101⟩ := u_101
                            have hS : cx_S D vwCl A s (cyW q cI cZ n T k M d (cx_u (cx_u Z 0 za_101) 3 (fun _ => kn_101)) F) H locs := hS
                            obtain ⟨hKN_101, hp_101⟩ := hp_101
                            have hKN_101 : cx_KN n T za_101 kn_101 := hKN_101
                            have hp_101 : (r_101 = 0 ∨ r_101 = 1) ∧ (¬ r_101 = 0 ↔ cx_sh ((T 0)) ((T 2)) M (cx_Ar T n) i37 t) := hp_101
                            refine lv_if_eq (tgt := 110) hx hb dX7_classOne_104 (by decide) (fun h104 => ?_) (fun h104 => ?_)
                            · skip
                              have g104 : ¬ (cx_sh ((T 0)) ((T 2)) M (cx_Ar T n) i37 t) := fun z => hp_101.2.mpr z h104
                              exact J110 za_101 (fun _ => kn_101) _ _ _ (by first | assumption | exact hKN) (by first | exact cx_s1 hO (Or.inr (cx_ixT (by omega) g31)) (cx_ixm (cx_ixT (by omega) g31) (by omega)) h55 | exact fun z => h66 z.2.1.1 | exact fun z => h77 z.2.1.2 | exact fun z => g88 z.2.2.1 | exact cx_s2 h94 (Or.inr (cx_ixT (by omega) g31)) (cx_ixm (cx_ixT (by omega) g31) (by omega)) g104) hS (lv_sub hl [0, 1, 2, 3, 4, 5, 6] rfl)
                            · skip
                              have g104 : cx_sh ((T 0)) ((T 2)) M (cx_Ar T n) i37 t := hp_101.2.mp h104
                              exact J107 za_101 (fun _ => kn_101) _ _ _ (by first | assumption | exact hKN) (by first | exact Or.inl h94 | exact Or.inr g104) hS (lv_sub hl [0, 1, 2, 3, 4, 5, 6] rfl)
            exact J37 (k - 0 + 1) 0 Z_0_18 Z_3_18 _ _ _ (Nat.lt_succ_self _) (by omega) (by first | assumption | exact hKN) (by first | exact cx_all0 | exact cx_allS hnone h110) hS (lv_sub hl [1, 2, 3, 4, 5, 6, 0] rfl)
    exact J18 (20 - 0 + 1) (nI t) 0 (Z 0) (Z 3) _ _ _ (Nat.lt_succ_self _) (by omega) (by first | assumption | exact hKN) (by first | exact fun r hr => hr | exact fun r hr => hq r (by rw [show 20 - i18 = (20 - (i18 + 1)) + 1 by omega]; exact cx_one_nxt g31 (fun j hj => hnone j (by omega)) hr)) hS (lv_sub hl [2, 3, 4, 5, 1, 0] rfl)
  · skip
    refine lv_iconst (v := (-1 : Int32)) hx hb dX7_classOne_10 (by decide) ?_
    exact RET _ (Z 0, (Z 3) 0) _ _ _ _ dX7_classOne_11 rfl (⟨(by first | assumption | exact hKN), ⟨Or.inl ⟨h7, rfl⟩, Or.inl rfl⟩⟩) hS
set_option maxHeartbeats 4000000 in
set_option maxRecDepth 100000 in
theorem c_X7_ofFace (l : Launch) (D : va_G) (q : Nat → Nat) (cI cZ : ClassId) (n : Nat) (T : Nat → Nat → Int32) (k : Nat) (M : Nat → Nat → Int32) (d : Nat) (Z : Nat → Nat → Int32) (F : Nat → Nat → Int32) (fc : Int32) (nm : Int32) (pm : Int32) (hk : k ≤ 80) (hX : cx_R (M 4) 4) : cx_Mi l D vwCl [(cI, .int), (cZ, .boolean)] cx_NW yX7_ofFace wsX7_ofFace ({ frames := 1, cells := 0, slots := 0, locals := 23 } : Room) [.ref (q 0), .int fc, .int nm, .int pm] (cyW q cI cZ n T k M d Z F) (fun (r : Int32) (uw : Unit) => cx_Lst (cx_oF M fc nm pm) k r) (fun _ => (cyW q cI cZ n T k M d Z F)) := by
  refine cx_Mi.of (cc := cX7_ofFace) (maxL := 5) cx_NW_ok (by decide) rfl (Nat.le_of_ble_eq_true rfl) ?_
  intro p e s m args below meth c Q A ls hx hb hml hown hts hE RET hS hl
  have hl : lv_has ls 5 [(0, .ref (q 0)), (1, .int fc), (2, .int nm), (3, .int pm)] := hl
  have hown : s.vm.findClass RX7 = some m.cls := hown
  have hinX7 : ∀ w ∈ u_ws RX7 TX7 22, w ∈ wsX7_ofFace := cx_mem [12, 13, 14, 15, 16, 17, 18, 19, 20, 21, 22, 23, 24, 25, 26, 27, 28, 29, 30, 31, 32, 33] (by decide +kernel)
  refine lv_iconst (v := (0 : Int32)) hx hb dX7_ofFace_0 (by decide) ?_
  refine cx_topr (z := nI 0) (by decide) ?_
  refine lv_istore (lv' := [(4, .int (nI 0)), (0, .ref (q 0)), (1, .int fc), (2, .int nm), (3, .int pm)]) hx hb dX7_ofFace_1 hl (by decide) rfl (fun ls hl => ?_)
  have J3 : ∀ (N : Nat) (i3 : Nat) (H : Heap) (locs : List Loc) (ls : Array Slot), (k - i3 < N) → (i3 ≤ k) → (∀ j, j < i3 → ¬ cx_oF M fc nm pm j) → cx_S D vwCl A s (cyW q cI cZ n T k M d Z F) H locs → lv_has ls 5 [(0, .ref (q 0)), (1, .int fc), (2, .int nm), (3, .int pm), (4, .int (nI i3))] → W p l e ({ frames := 1, cells := 0, slots := 0, locals := 23 } : Room) s m args below meth c H locs 0 0 Q (F0 m 3 ls []) := by
    intro N3
    induction N3 with
    | zero => intro i3 H locs ls hN; exact absurd hN (by omega)
    | succ N3 ih3 =>
      intro i3 H locs ls hN3 hi3 hl0 hS hl
      refine lv_iload hx hb dX7_ofFace_3 (lv_at hl 4 rfl) ?_
      refine lv_aload_n hx hb dX7_ofFace_5 rfl (lv_at hl 0 rfl) ?_
      refine cx_get (own := RX7) (index := 81) (C := RX7) (T := TX7) (N := 22) (k := 9) (ci := 7) (v := .int (nI k)) hx hb hts hown hE hS hinX7 0 rfl rfl (by decide) (List.mem_of_getElem? (i := 1) rfl) rfl dX7_ofFace_6 ?_
      refine lv_icmp_ge (tgt := 75) hx hb dX7_ofFace_9 (by decide) (fun h9 => ?_) (fun h9 => ?_)
      · skip
        have g9 : k ≤ i3 := (nI_leI (a := k) (b := i3) (by omega) (by omega)).mp h9
        refine lv_iconst (v := (-1 : Int32)) hx hb dX7_ofFace_75 (by decide) ?_
        exact RET _ () _ _ _ _ dX7_ofFace_76 rfl (Or.inl ⟨rfl, fun j hj => hl0 j (by omega)⟩) hS
      · skip
        have g9 : ¬ (k ≤ i3) := fun z => h9 ((nI_leI (a := k) (b := i3) (by omega) (by omega)).mpr z)
        refine lv_aload_n hx hb dX7_ofFace_12 rfl (lv_at hl 0 rfl) ?_
        refine cx_get (own := RX7) (index := 34) (C := RX7) (T := TX7) (N := 22) (k := 10) (ci := 7) (v := .ref (q 9)) hx hb hts hown hE hS hinX7 0 rfl rfl (by decide) (List.mem_of_getElem? (i := 2) rfl) rfl dX7_ofFace_13 ?_
        refine lv_iload hx hb dX7_ofFace_16 (lv_at hl 4 rfl) ?_
        refine cx_iald (f := (M 0)) (n := 80) (cA := cI) hx hb hE hS 9 0 rfl rfl (by omega) (by decide) dX7_ofFace_18 ?_
        refine lv_iload_n hx hb dX7_ofFace_19 rfl (lv_at hl 1 rfl) ?_
        have J69 : ∀ (H : Heap) (locs : List Loc) (ls : Array Slot), (¬ cx_oF M fc nm pm i3) → cx_S D vwCl A s (cyW q cI cZ n T k M d Z F) H locs → lv_has ls 5 [(0, .ref (q 0)), (1, .int fc), (2, .int nm), (3, .int pm), (4, .int (nI i3))] → W p l e ({ frames := 1, cells := 0, slots := 0, locals := 23 } : Room) s m args below meth c H locs 0 0 Q (F0 m 69 ls []) := by
          intro  H locs ls hnp hS hl
          refine lv_iinc (v := nI (i3 + 1)) (lv' := [(4, .int (nI (i3 + 1))), (0, .ref (q 0)), (1, .int fc), (2, .int nm), (3, .int pm)]) hx hb dX7_ofFace_69 hl (k := 4) rfl (cx_inc _) (by decide) rfl (fun ls hl => ?_)
          refine lv_goto (tgt := 3) hx hb dX7_ofFace_72 (by decide) ?_
          exact ih3 (i3 + 1) _ _ _ (by omega) (by omega) (by first | exact cx_all0 | exact cx_allS hl0 hnp) hS (lv_sub hl [1, 2, 3, 4, 0] rfl)
        refine lv_icmp_ne (tgt := 69) hx hb dX7_ofFace_20 (by decide) (fun h20 => ?_) (fun h20 => ?_)
        · skip
          exact J69  _ _ _ (by first | exact fun z => h20 z.1 | exact fun z => h31 z.2.1.1 | exact fun z => h42 z.2.1.2 | exact fun z => g53 z.2.2.1 | exact fun z => z.2.2.2 ((cx_ac (hX i3)).1.2.mp h63)) hS (lv_sub hl [0, 1, 2, 3, 4] rfl)
        · skip
          refine lv_aload_n hx hb dX7_ofFace_23 rfl (lv_at hl 0 rfl) ?_
          refine cx_get (own := RX7) (index := 37) (C := RX7) (T := TX7) (N := 22) (k := 11) (ci := 7) (v := .ref (q 10)) hx hb hts hown hE hS hinX7 0 rfl rfl (by decide) (List.mem_of_getElem? (i := 3) rfl) rfl dX7_ofFace_24 ?_
          refine lv_iload hx hb dX7_ofFace_27 (lv_at hl 4 rfl) ?_
          refine cx_iald (f := (M 1)) (n := 80) (cA := cI) hx hb hE hS 10 0 rfl rfl (by omega) (by decide) dX7_ofFace_29 ?_
          refine lv_iload_n hx hb dX7_ofFace_30 rfl (lv_at hl 2 rfl) ?_
          refine lv_icmp_ne (tgt := 69) hx hb dX7_ofFace_31 (by decide) (fun h31 => ?_) (fun h31 => ?_)
          · skip
            exact J69  _ _ _ (by first | exact fun z => h20 z.1 | exact fun z => h31 z.2.1.1 | exact fun z => h42 z.2.1.2 | exact fun z => g53 z.2.2.1 | exact fun z => z.2.2.2 ((cx_ac (hX i3)).1.2.mp h63)) hS (lv_sub hl [0, 1, 2, 3, 4] rfl)
          · skip
            refine lv_aload_n hx hb dX7_ofFace_34 rfl (lv_at hl 0 rfl) ?_
            refine cx_get (own := RX7) (index := 40) (C := RX7) (T := TX7) (N := 22) (k := 12) (ci := 7) (v := .ref (q 11)) hx hb hts hown hE hS hinX7 0 rfl rfl (by decide) (List.mem_of_getElem? (i := 4) rfl) rfl dX7_ofFace_35 ?_
            refine lv_iload hx hb dX7_ofFace_38 (lv_at hl 4 rfl) ?_
            refine cx_iald (f := (M 2)) (n := 80) (cA := cI) hx hb hE hS 11 0 rfl rfl (by omega) (by decide) dX7_ofFace_40 ?_
            refine lv_iload_n hx hb dX7_ofFace_41 rfl (lv_at hl 3 rfl) ?_
            refine lv_icmp_ne (tgt := 69) hx hb dX7_ofFace_42 (by decide) (fun h42 => ?_) (fun h42 => ?_)
            · skip
              exact J69  _ _ _ (by first | exact fun z => h20 z.1 | exact fun z => h31 z.2.1.1 | exact fun z => h42 z.2.1.2 | exact fun z => g53 z.2.2.1 | exact fun z => z.2.2.2 ((cx_ac (hX i3)).1.2.mp h63)) hS (lv_sub hl [0, 1, 2, 3, 4] rfl)
            · skip
              refine lv_aload_n hx hb dX7_ofFace_45 rfl (lv_at hl 0 rfl) ?_
              refine lv_iload hx hb dX7_ofFace_46 (lv_at hl 4 rfl) ?_
              refine lv_iconst (v := (0 : Int32)) hx hb dX7_ofFace_48 (by decide) ?_
              refine lv_iconst (v := nI 4) hx hb dX7_ofFace_49 (by decide) ?_
              refine cx_cVi (As := [.int (nI i3), .int (0 : Int32), .int (nI 4)]) (rest := []) ⟨hx, hb, hml, hown, hts⟩ hE hS (c_X7_is_at_0 l D q cI cZ n T k M d Z F i3 (0 : Int32) (nI 4) (by first | assumption | omega | rfl) (by first | assumption | omega | rfl)) (cwV 3 hts gX7_ofFace_X7_is rfl rfl rfl (by decide +kernel) ⟨Nat.le_of_ble_eq_true rfl, Nat.le_of_ble_eq_true rfl⟩) 0 7 rfl rfl rfl hl.1 rfl (Nat.le_of_ble_eq_true rfl) ⟨Nat.zero_le _, Nat.zero_le _⟩ dX7_ofFace_50 (fun r_50 u_50 H locs hp_50 hS => ?_)
              have hp_50 : (r_50 = 0 ∨ r_50 = 1) ∧ (¬ r_50 = 0 ↔ ¬ cx_mk ((M 3)) i3 (nI 4)) := hp_50
              refine lv_if_eq (tgt := 69) hx hb dX7_ofFace_53 (by decide) (fun h53 => ?_) (fun h53 => ?_)
              · skip
                have g53 : ¬ (¬ cx_mk ((M 3)) i3 (nI 4)) := fun z => hp_50.2.mpr z h53
                exact J69  _ _ _ (by first | exact fun z => h20 z.1 | exact fun z => h31 z.2.1.1 | exact fun z => h42 z.2.1.2 | exact fun z => g53 z.2.2.1 | exact fun z => z.2.2.2 ((cx_ac (hX i3)).1.2.mp h63)) hS (lv_sub hl [0, 1, 2, 3, 4] rfl)
              · skip
                have g53 : ¬ cx_mk ((M 3)) i3 (nI 4) := hp_50.2.mp h53
                refine lv_aload_n hx hb dX7_ofFace_56 rfl (lv_at hl 0 rfl) ?_
                refine cx_get (own := RX7) (index := 46) (C := RX7) (T := TX7) (N := 22) (k := 14) (ci := 7) (v := .ref (q 13)) hx hb hts hown hE hS hinX7 0 rfl rfl (by decide) (List.mem_of_getElem? (i := 5) rfl) rfl dX7_ofFace_57 ?_
                refine lv_iload hx hb dX7_ofFace_60 (lv_at hl 4 rfl) ?_
                refine cx_iald (f := (M 4)) (n := 80) (cA := cI) hx hb hE hS 13 0 rfl rfl (by omega) (by decide) dX7_ofFace_62 ?_
                refine lv_if_le (tgt := 69) hx hb dX7_ofFace_63 (by decide) (fun h63 => ?_) (fun h63 => ?_)
                · skip
                  exact J69  _ _ _ (by first | exact fun z => h20 z.1 | exact fun z => h31 z.2.1.1 | exact fun z => h42 z.2.1.2 | exact fun z => g53 z.2.2.1 | exact fun z => z.2.2.2 ((cx_ac (hX i3)).1.2.mp h63)) hS (lv_sub hl [0, 1, 2, 3, 4] rfl)
                · skip
                  refine lv_iload hx hb dX7_ofFace_66 (lv_at hl 4 rfl) ?_
                  exact RET _ () _ _ _ _ dX7_ofFace_68 rfl (Or.inr ⟨i3, by omega, ⟨h20, ⟨h31, h42⟩, g53, fun z => h63 ((cx_ac (hX i3)).1.2.mpr z)⟩, hl0, rfl⟩) hS
  exact J3 (k - 0 + 1) 0 _ _ _ (Nat.lt_succ_self _) (by omega) (by first | exact cx_all0 | exact cx_allS hl0 hnp) hS (lv_sub hl [1, 2, 3, 4, 0] rfl)
set_option maxHeartbeats 4000000 in
set_option maxRecDepth 100000 in
theorem c_X7_findFaceOnes (l : Launch) (D : va_G) (q : Nat → Nat) (cI cZ : ClassId) (n : Nat) (T : Nat → Nat → Int32) (k : Nat) (M : Nat → Nat → Int32) (d : Nat) (Z : Nat → Nat → Int32) (F : Nat → Nat → Int32) (t : Nat) (nm : Int32) (pm : Int32) (hn : n ≤ 20) (hP : cx_P (T 3) 20) (hU : cx_R (T 4) 20) (hV : cx_R (T 5) 4) (hKN : cx_KN n T (Z 0) ((Z 3) 0)) (hk : k ≤ 80) (hO : cx_R (M 0) 20) (hOn : ∀ j, j < k → (M 0 j).toNatClampNeg < n) (hX : cx_R (M 4) 4) (ht : t < n) : cx_Mv l D vwCl [(cI, .int), (cZ, .boolean)] cx_NW yX7_findFaceOnes wsX7_findFaceOnes ({ frames := 4, cells := 0, slots := 0, locals := 88 } : Room) [.ref (q 0), .int (nI t), .int nm, .int pm] (cyW q cI cZ n T k M d Z F) (fun (uw : (Nat → Int32) × (Int32) × (Nat) × (Nat → Int32)) => cx_KN n T uw.1 uw.2.1 ∧ ((uw.2.2.1 ≤ 20 ∧ ∀ j, j < uw.2.2.1 → cx_ix (uw.2.2.2 j) 80) ∧ ((∀ u, u < n → cx_is (cx_Ar T n) t u → ¬ (cx_Ar T n) u u) → cx_LI (cx_fo k (T 0) M (cx_Ar T n) t nm pm) uw.2.2.2 uw.2.2.1))) (fun uw => (cyW q cI cZ n T k M uw.2.2.1 (cx_u (cx_u Z 0 uw.1) 3 (fun _ => uw.2.1)) (cx_u F 0 uw.2.2.2))) := by
  refine cx_Mv.of (cc := cX7_findFaceOnes) (maxL := 7) cx_NW_ok (by decide) rfl (Nat.le_of_ble_eq_true rfl) ?_
  intro p e s m args below meth c Q A ls hx hb hml hown hts hE RET hS hl
  have hl : lv_has ls 7 [(0, .ref (q 0)), (1, .int (nI t)), (2, .int nm), (3, .int pm)] := hl
  have hown : s.vm.findClass RX7 = some m.cls := hown
  have hinX7 : ∀ w ∈ u_ws RX7 TX7 22, w ∈ wsX7_findFaceOnes := cx_mem [40, 41, 42, 43, 44, 45, 46, 47, 48, 49, 50, 51, 52, 53, 54, 55, 56, 57, 58, 59, 60, 61] (by decide +kernel)
  refine lv_aload_n hx hb dX7_findFaceOnes_0 rfl (lv_at hl 0 rfl) ?_
  refine lv_iconst (v := (0 : Int32)) hx hb dX7_findFaceOnes_1 (by decide) ?_
  refine cx_topr (z := nI 0) cx_n0 ?_
  refine cx_put (own := RX7) (index := 127) (C := RX7) (T := TX7) (N := 22) (k := 20) (ci := 7) (v := .int (nI 0)) (ty := .int) (ws' := (cyW q cI cZ n T k M 0 Z F)) hx hb hts hown hE hS hinX7 tyX7 tyX7_ok nmX7 0 rfl rfl (by decide) (List.mem_of_getElem? (i := 1) rfl) rfl (by decide +kernel) rfl rfl (Nat.le_of_ble_eq_true rfl) rfl dX7_findFaceOnes_2 (fun H locs hS => ?_)
  refine lv_iconst (v := (0 : Int32)) hx hb dX7_findFaceOnes_5 (by decide) ?_
  refine cx_topr (z := nI 0) (by decide) ?_
  refine lv_istore (lv' := [(4, .int (nI 0)), (0, .ref (q 0)), (1, .int (nI t)), (2, .int nm), (3, .int pm)]) hx hb dX7_findFaceOnes_6 hl (by decide) rfl (fun ls hl => ?_)
  have J8 : ∀ (N : Nat) (i8 : Nat) (d_8 : Nat) (Z_0_8 : Nat → Int32) (Z_3_8 : Nat → Int32) (F_0_8 : Nat → Int32) (H : Heap) (locs : List Loc) (ls : Array Slot), (n - i8 < N) → (i8 ≤ n) → (cx_KN n T Z_0_8 (Z_3_8 0)) → (d_8 ≤ i8) → (∀ j, j < d_8 → cx_ix (F_0_8 j) 80) → (cx_LR (cx_fo k (T 0) M (cx_Ar T n) t nm pm) M F_0_8 d_8 i8 (∀ u, u < n → cx_is (cx_Ar T n) t u → ¬ (cx_Ar T n) u u)) → cx_S D vwCl A s (cyW q cI cZ n T k M d_8 (cx_u (cx_u Z 0 Z_0_8) 3 Z_3_8) (cx_u F 0 F_0_8)) H locs → lv_has ls 7 [(0, .ref (q 0)), (1, .int (nI t)), (2, .int nm), (3, .int pm), (4, .int (nI i8))] → W p l e ({ frames := 4, cells := 0, slots := 0, locals := 88 } : Room) s m args below meth c H locs 0 0 Q (F0 m 8 ls []) := by
    intro N8
    induction N8 with
    | zero => intro i8 d_8 Z_0_8 Z_3_8 F_0_8 H locs ls hN; exact absurd hN (by omega)
    | succ N8 ih8 =>
      intro i8 d_8 Z_0_8 Z_3_8 F_0_8 H locs ls hN8 hi8 hKN8 hd hf hli hS hl
      refine lv_iload hx hb dX7_findFaceOnes_8 (lv_at hl 4 rfl) ?_
      refine lv_aload_n hx hb dX7_findFaceOnes_10 rfl (lv_at hl 0 rfl) ?_
      refine cx_get (own := RX7) (index := 65) (C := RX7) (T := TX7) (N := 22) (k := 0) (ci := 7) (v := .int (nI n)) hx hb hts hown hE hS hinX7 0 rfl rfl (by decide) (List.mem_of_getElem? (i := 2) rfl) rfl dX7_findFaceOnes_11 ?_
      refine lv_icmp_ge (tgt := 179) hx hb dX7_findFaceOnes_14 (by decide) (fun h14 => ?_) (fun h14 => ?_)
      · skip
        have g14 : n ≤ i8 := (nI_leI (a := n) (b := i8) (by omega) (by omega)).mp h14
        exact RET (Z_0_8, Z_3_8 0, d_8, F_0_8) _ _ _ _ dX7_findFaceOnes_179 (⟨(by first | assumption | exact hKN), ⟨⟨(show d_8 ≤ 20 by omega), hf⟩, fun z => cx_LRe hk hOn (by omega) hli z⟩⟩) hS
      · skip
        have g14 : ¬ (n ≤ i8) := fun z => h14 ((nI_leI (a := n) (b := i8) (by omega) (by omega)).mpr z)
        refine lv_aload_n hx hb dX7_findFaceOnes_17 rfl (lv_at hl 0 rfl) ?_
        refine cx_get (own := RX7) (index := 7) (C := RX7) (T := TX7) (N := 22) (k := 1) (ci := 7) (v := .ref (q 1)) hx hb hts hown hE hS hinX7 0 rfl rfl (by decide) (List.mem_of_getElem? (i := 3) rfl) rfl dX7_findFaceOnes_18 ?_
        refine lv_iload hx hb dX7_findFaceOnes_21 (lv_at hl 4 rfl) ?_
        refine cx_iald (f := (T 0)) (n := 20) (cA := cI) hx hb hE hS 1 0 rfl rfl (by omega) (by decide) dX7_findFaceOnes_23 ?_
        refine lv_iconst (v := (1 : Int32)) hx hb dX7_findFaceOnes_24 (by decide) ?_
        have J54 : ∀ (v54_s0 : Int32) (Z_0_54 : Nat → Int32) (Z_3_54 : Nat → Int32) (H : Heap) (locs : List Loc) (ls : Array Slot), (cx_KN n T Z_0_54 (Z_3_54 0)) → ((v54_s0 = 0 ∨ v54_s0 = 1) ∧ (¬ v54_s0 = 0 ↔ (T 0 i8 = 1 ∧ cx_is (cx_Ar T n) t i8 ∧ ∃ j, j < k ∧ cx_oF M (nI i8) nm pm j))) → cx_S D vwCl A s (cyW q cI cZ n T k M d_8 (cx_u (cx_u Z 0 Z_0_54) 3 Z_3_54) (cx_u F 0 F_0_8)) H locs → lv_has ls 7 [(0, .ref (q 0)), (1, .int (nI t)), (2, .int nm), (3, .int pm), (4, .int (nI i8))] → W p l e ({ frames := 4, cells := 0, slots := 0, locals := 88 } : Room) s m args below meth c H locs 0 0 Q (F0 m 54 ls [.int v54_s0]) := by
          intro v54_s0 Z_0_54 Z_3_54 H locs ls hKN54 b54 hS hl
          refine lv_istore (lv' := [(5, .int v54_s0), (0, .ref (q 0)), (1, .int (nI t)), (2, .int nm), (3, .int pm), (4, .int (nI i8))]) hx hb dX7_findFaceOnes_54 hl (by decide) rfl (fun ls hl => ?_)
          refine lv_iconst (v := (0 : Int32)) hx hb dX7_findFaceOnes_56 (by decide) ?_
          refine cx_topr (z := nI 0) (by decide) ?_
          refine lv_istore (lv' := [(6, .int (nI 0)), (5, .int v54_s0), (0, .ref (q 0)), (1, .int (nI t)), (2, .int nm), (3, .int pm), (4, .int (nI i8))]) hx hb dX7_findFaceOnes_57 hl (by decide) rfl (fun ls hl => ?_)
          have J59 : ∀ (N : Nat) (v59_l5 : Int32) (i59 : Nat) (Z_0_59 : Nat → Int32) (Z_3_59 : Nat → Int32) (H : Heap) (locs : List Loc) (ls : Array Slot), (n - i59 < N) → (i59 ≤ n) → (cx_KN n T Z_0_59 (Z_3_59 0)) → ((v59_l5 = 0 ∨ v59_l5 = 1) ∧ (¬ v59_l5 = 0 ↔ (T 0 i8 = 1 ∧ cx_is (cx_Ar T n) t i8 ∧ ∃ j, j < k ∧ cx_oF M (nI i8) nm pm j) ∧ ∀ g, g < i59 → ¬ (¬ g = i8 ∧ T 0 g = 1 ∧ cx_is (cx_Ar T n) t g ∧ (cx_Ar T n) g i8 ∧ ∃ j, j < k ∧ cx_oF M (nI g) nm pm j))) → cx_S D vwCl A s (cyW q cI cZ n T k M d_8 (cx_u (cx_u Z 0 Z_0_59) 3 Z_3_59) (cx_u F 0 F_0_8)) H locs → lv_has ls 7 [(0, .ref (q 0)), (1, .int (nI t)), (2, .int nm), (3, .int pm), (4, .int (nI i8)), (5, .int v59_l5), (6, .int (nI i59))] → W p l e ({ frames := 4, cells := 0, slots := 0, locals := 88 } : Room) s m args below meth c H locs 0 0 Q (F0 m 59 ls []) := by
            intro N59
            induction N59 with
            | zero => intro v59_l5 i59 Z_0_59 Z_3_59 H locs ls hN; exact absurd hN (by omega)
            | succ N59 ih59 =>
              intro v59_l5 i59 Z_0_59 Z_3_59 H locs ls hN59 hi59 hKN59 b59_5 hS hl
              refine lv_iload hx hb dX7_findFaceOnes_59 (lv_at hl 6 rfl) ?_
              refine lv_aload_n hx hb dX7_findFaceOnes_61 rfl (lv_at hl 0 rfl) ?_
              refine cx_get (own := RX7) (index := 65) (C := RX7) (T := TX7) (N := 22) (k := 0) (ci := 7) (v := .int (nI n)) hx hb hts hown hE hS hinX7 0 rfl rfl (by decide) (List.mem_of_getElem? (i := 2) rfl) rfl dX7_findFaceOnes_62 ?_
              have J141 : ∀ (H : Heap) (locs : List Loc) (ls : Array Slot), (¬ v59_l5 = 0 ↔ (T 0 i8 = 1 ∧ cx_is (cx_Ar T n) t i8 ∧ ∃ j, j < k ∧ cx_oF M (nI i8) nm pm j) ∧ ∀ g, g < n → ¬ (¬ g = i8 ∧ T 0 g = 1 ∧ cx_is (cx_Ar T n) t g ∧ (cx_Ar T n) g i8 ∧ ∃ j, j < k ∧ cx_oF M (nI g) nm pm j)) → cx_S D vwCl A s (cyW q cI cZ n T k M d_8 (cx_u (cx_u Z 0 Z_0_59) 3 Z_3_59) (cx_u F 0 F_0_8)) H locs → lv_has ls 7 [(0, .ref (q 0)), (1, .int (nI t)), (2, .int nm), (3, .int pm), (4, .int (nI i8)), (5, .int v59_l5), (6, .int (nI i59))] → W p l e ({ frames := 4, cells := 0, slots := 0, locals := 88 } : Room) s m args below meth c H locs 0 0 Q (F0 m 141 ls []) := by
                intro  H locs ls h141 hS hl
                refine lv_iload hx hb dX7_findFaceOnes_141 (lv_at hl 5 rfl) ?_
                have J173 : ∀ (d_173 : Nat) (F_0_173 : Nat → Int32) (H : Heap) (locs : List Loc) (ls : Array Slot), (d_173 ≤ i8 + 1) → (∀ j, j < d_173 → cx_ix (F_0_173 j) 80) → (cx_LR (cx_fo k (T 0) M (cx_Ar T n) t nm pm) M F_0_173 d_173 (i8 + 1) (∀ u, u < n → cx_is (cx_Ar T n) t u → ¬ (cx_Ar T n) u u)) → cx_S D vwCl A s (cyW q cI cZ n T k M d_173 (cx_u (cx_u Z 0 Z_0_59) 3 Z_3_59) (cx_u F 0 F_0_173)) H locs → lv_has ls 7 [(0, .ref (q 0)), (1, .int (nI t)), (2, .int nm), (3, .int pm), (4, .int (nI i8)), (5, .int v59_l5), (6, .int (nI i59))] → W p l e ({ frames := 4, cells := 0, slots := 0, locals := 88 } : Room) s m args below meth c H locs 0 0 Q (F0 m 173 ls []) := by
                  intro d_173 F_0_173 H locs ls hd2 hf2 hli2 hS hl
                  refine lv_iinc (v := nI (i8 + 1)) (lv' := [(4, .int (nI (i8 + 1))), (0, .ref (q 0)), (1, .int (nI t)), (2, .int nm), (3, .int pm), (5, .int v59_l5), (6, .int (nI i59))]) hx hb dX7_findFaceOnes_173 hl (k := 4) rfl (cx_inc _) (by decide) rfl (fun ls hl => ?_)
                  refine lv_goto (tgt := 8) hx hb dX7_findFaceOnes_176 (by decide) ?_
                  exact ih8 (i8 + 1) d_173 Z_0_59 Z_3_59 F_0_173 _ _ _ (by (try clear h141); (try clear b59_5); (try clear b54); omega) (by (try clear h141); (try clear b59_5); (try clear b54); omega) (by first | assumption | exact hKN) (by (try clear h141); (try clear b59_5); (try clear b54); omega) (by first | assumption | exact fun j hj => absurd hj (by omega)) (by first | exact cx_LR0 | exact hli2) hS (lv_sub hl [1, 2, 3, 4, 0] rfl)
                refine lv_if_eq (tgt := 173) hx hb dX7_findFaceOnes_143 (by decide) (fun h143 => ?_) (fun h143 => ?_)
                · skip
                  have g143 : ¬ ((T 0 i8 = 1 ∧ cx_is (cx_Ar T n) t i8 ∧ ∃ j, j < k ∧ cx_oF M (nI i8) nm pm j) ∧ ∀ g, g < i59 → ¬ (¬ g = i8 ∧ T 0 g = 1 ∧ cx_is (cx_Ar T n) t g ∧ (cx_Ar T n) g i8 ∧ ∃ j, j < k ∧ cx_oF M (nI g) nm pm j)) := fun z => b59_5.2.mpr z h143
                  exact J173 d_8 F_0_8 _ _ _ (by (try clear g143); (try clear h141); (try clear b59_5); (try clear b54); omega) (by first | assumption | exact cx_tkS hf (cx_Lix hk hp_159 g143.1.2.2)) (by first | exact cx_LRn hn hOn hO (by omega) hli (fun z => h141.mpr z h143) | exact cx_LRy hn hk hOn hO (by omega) hli (h141.mp h143) hp_159) hS (lv_sub hl [0, 1, 2, 3, 4, 5, 6] rfl)
                · skip
                  have g143 : (T 0 i8 = 1 ∧ cx_is (cx_Ar T n) t i8 ∧ ∃ j, j < k ∧ cx_oF M (nI i8) nm pm j) ∧ ∀ g, g < i59 → ¬ (¬ g = i8 ∧ T 0 g = 1 ∧ cx_is (cx_Ar T n) t g ∧ (cx_Ar T n) g i8 ∧ ∃ j, j < k ∧ cx_oF M (nI g) nm pm j) := b59_5.2.mp h143
                  refine lv_aload_n hx hb dX7_findFaceOnes_146 rfl (lv_at hl 0 rfl) ?_
                  refine cx_get (own := RX7) (index := 59) (C := RX7) (T := TX7) (N := 22) (k := 19) (ci := 7) (v := .ref (q 17)) hx hb hts hown hE hS hinX7 0 rfl rfl (by decide) (List.mem_of_getElem? (i := 5) rfl) rfl dX7_findFaceOnes_147 ?_
                  refine lv_aload_n hx hb dX7_findFaceOnes_150 rfl (lv_at hl 0 rfl) ?_
                  refine cx_get (own := RX7) (index := 127) (C := RX7) (T := TX7) (N := 22) (k := 20) (ci := 7) (v := .int (nI d_8)) hx hb hts hown hE hS hinX7 0 rfl rfl (by decide) (List.mem_of_getElem? (i := 1) rfl) rfl dX7_findFaceOnes_151 ?_
                  refine lv_aload_n hx hb dX7_findFaceOnes_154 rfl (lv_at hl 0 rfl) ?_
                  refine lv_iload hx hb dX7_findFaceOnes_155 (lv_at hl 4 rfl) ?_
                  refine lv_iload_n hx hb dX7_findFaceOnes_157 rfl (lv_at hl 2 rfl) ?_
                  refine lv_iload_n hx hb dX7_findFaceOnes_158 rfl (lv_at hl 3 rfl) ?_
                  refine cx_cVi (As := [.int (nI i8), .int nm, .int pm]) (rest := [.int (nI d_8), .ref (q 17)]) ⟨hx, hb, hml, hown, hts⟩ hE hS (c_X7_ofFace l D q cI cZ n T k M d_8 (cx_u (cx_u Z 0 Z_0_59) 3 Z_3_59) (cx_u F 0 F_0_8) (nI i8) nm pm (by first | assumption | omega | rfl) (by first | assumption | omega | rfl)) (cwV 3 hts gX7_findFaceOnes_X7_ofFace rfl rfl rfl (by decide +kernel) ⟨Nat.le_of_ble_eq_true rfl, Nat.le_of_ble_eq_true rfl⟩) 0 7 rfl rfl rfl hl.1 rfl (Nat.le_of_ble_eq_true rfl) ⟨Nat.zero_le _, Nat.zero_le _⟩ dX7_findFaceOnes_159 (fun r_159 u_159 H locs hp_159 hS => ?_)
                  have hp_159 : cx_Lst (cx_oF M (nI i8) nm pm) k r_159 := hp_159
                  refine cx_iast (k := d_8) (f := F_0_8) (n := 20) (cA := cI) (ws' := (cyW q cI cZ n T k M d_8 (cx_u (cx_u Z 0 Z_0_59) 3 Z_3_59) (cx_u F 0 (upd F_0_8 d_8 r_159)))) hx hb hE hS 17 0 rfl rfl (by omega) (by decide) rfl dX7_findFaceOnes_162 (fun H locs hS => ?_)
                  refine lv_aload_n hx hb dX7_findFaceOnes_163 rfl (lv_at hl 0 rfl) ?_
                  refine lv_dup hx hb dX7_findFaceOnes_164 rfl ?_
                  refine cx_get (own := RX7) (index := 127) (C := RX7) (T := TX7) (N := 22) (k := 20) (ci := 7) (v := .int (nI d_8)) hx hb hts hown hE hS hinX7 0 rfl rfl (by decide) (List.mem_of_getElem? (i := 1) rfl) rfl dX7_findFaceOnes_165 ?_
                  refine lv_iconst (v := (1 : Int32)) hx hb dX7_findFaceOnes_168 (by decide) ?_
                  refine lv_iadd hx hb dX7_findFaceOnes_169 ?_
                  refine cx_topr (z := nI (d_8 + 1)) (nI_1 _) ?_
                  refine cx_put (own := RX7) (index := 127) (C := RX7) (T := TX7) (N := 22) (k := 20) (ci := 7) (v := .int (nI (d_8 + 1))) (ty := .int) (ws' := (cyW q cI cZ n T k M (d_8 + 1) (cx_u (cx_u Z 0 Z_0_59) 3 Z_3_59) (cx_u F 0 (upd F_0_8 d_8 r_159)))) hx hb hts hown hE hS hinX7 tyX7 tyX7_ok nmX7 0 rfl rfl (by decide) (List.mem_of_getElem? (i := 1) rfl) rfl (by decide +kernel) rfl rfl (Nat.le_of_ble_eq_true rfl) rfl dX7_findFaceOnes_170 (fun H locs hS => ?_)
                  exact J173 (d_8 + 1) (upd F_0_8 d_8 r_159) _ _ _ (by (try clear g143); (try clear h141); (try clear b59_5); (try clear b54); omega) (by first | assumption | exact cx_tkS hf (cx_Lix hk hp_159 g143.1.2.2)) (by first | exact cx_LRn hn hOn hO (by omega) hli (fun z => h141.mpr z h143) | exact cx_LRy hn hk hOn hO (by omega) hli (h141.mp h143) hp_159) hS (lv_sub hl [0, 1, 2, 3, 4, 5, 6] rfl)
              refine lv_icmp_ge (tgt := 141) hx hb dX7_findFaceOnes_65 (by decide) (fun h65 => ?_) (fun h65 => ?_)
              · skip
                have g65 : n ≤ i59 := (nI_leI (a := n) (b := i59) (by omega) (by omega)).mp h65
                exact J141  _ _ _ (by first | exact cx_is9a b59_5 h70 (by omega) | (have e : i59 = n := (by omega); rw [e] at b59_5; exact b59_5.2)) hS (lv_sub hl [0, 1, 2, 3, 4, 5, 6] rfl)
              · skip
                have g65 : ¬ (n ≤ i59) := fun z => h65 ((nI_leI (a := n) (b := i59) (by omega) (by omega)).mpr z)
                refine lv_iload hx hb dX7_findFaceOnes_68 (lv_at hl 5 rfl) ?_
                refine lv_if_eq (tgt := 141) hx hb dX7_findFaceOnes_70 (by decide) (fun h70 => ?_) (fun h70 => ?_)
                · skip
                  have g70 : ¬ ((T 0 i8 = 1 ∧ cx_is (cx_Ar T n) t i8 ∧ ∃ j, j < k ∧ cx_oF M (nI i8) nm pm j) ∧ ∀ g, g < i59 → ¬ (¬ g = i8 ∧ T 0 g = 1 ∧ cx_is (cx_Ar T n) t g ∧ (cx_Ar T n) g i8 ∧ ∃ j, j < k ∧ cx_oF M (nI g) nm pm j)) := fun z => b59_5.2.mpr z h70
                  exact J141  _ _ _ (by first | exact cx_is9a b59_5 h70 (by omega) | (have e : i59 = n := (by omega); rw [e] at b59_5; exact b59_5.2)) hS (lv_sub hl [0, 1, 2, 3, 4, 5, 6] rfl)
                · skip
                  have g70 : (T 0 i8 = 1 ∧ cx_is (cx_Ar T n) t i8 ∧ ∃ j, j < k ∧ cx_oF M (nI i8) nm pm j) ∧ ∀ g, g < i59 → ¬ (¬ g = i8 ∧ T 0 g = 1 ∧ cx_is (cx_Ar T n) t g ∧ (cx_Ar T n) g i8 ∧ ∃ j, j < k ∧ cx_oF M (nI g) nm pm j) := b59_5.2.mp h70
                  refine lv_iload hx hb dX7_findFaceOnes_73 (lv_at hl 6 rfl) ?_
                  refine lv_iload hx hb dX7_findFaceOnes_75 (lv_at hl 4 rfl) ?_
                  have J133 : ∀ (v133_s0 : Int32) (Z_0_133 : Nat → Int32) (Z_3_133 : Nat → Int32) (H : Heap) (locs : List Loc) (ls : Array Slot), (cx_KN n T Z_0_133 (Z_3_133 0)) → ((v133_s0 = 0 ∨ v133_s0 = 1) ∧ (¬ v133_s0 = 0 ↔ (T 0 i8 = 1 ∧ cx_is (cx_Ar T n) t i8 ∧ ∃ j, j < k ∧ cx_oF M (nI i8) nm pm j) ∧ ∀ g, g < (i59 + 1) → ¬ (¬ g = i8 ∧ T 0 g = 1 ∧ cx_is (cx_Ar T n) t g ∧ (cx_Ar T n) g i8 ∧ ∃ j, j < k ∧ cx_oF M (nI g) nm pm j))) → cx_S D vwCl A s (cyW q cI cZ n T k M d_8 (cx_u (cx_u Z 0 Z_0_133) 3 Z_3_133) (cx_u F 0 F_0_8)) H locs → lv_has ls 7 [(0, .ref (q 0)), (1, .int (nI t)), (2, .int nm), (3, .int pm), (4, .int (nI i8)), (5, .int v59_l5), (6, .int (nI i59))] → W p l e ({ frames := 4, cells := 0, slots := 0, locals := 88 } : Room) s m args below meth c H locs 0 0 Q (F0 m 133 ls [.int v133_s0]) := by
                    intro v133_s0 Z_0_133 Z_3_133 H locs ls hKN133 b133 hS hl
                    refine lv_istore (lv' := [(5, .int v133_s0), (0, .ref (q 0)), (1, .int (nI t)), (2, .int nm), (3, .int pm), (4, .int (nI i8)), (6, .int (nI i59))]) hx hb dX7_findFaceOnes_133 hl (by decide) rfl (fun ls hl => ?_)
                    refine lv_iinc (v := nI (i59 + 1)) (lv' := [(6, .int (nI (i59 + 1))), (5, .int v133_s0), (0, .ref (q 0)), (1, .int (nI t)), (2, .int nm), (3, .int pm), (4, .int (nI i8))]) hx hb dX7_findFaceOnes_135 hl (k := 6) rfl (cx_inc _) (by decide) rfl (fun ls hl => ?_)
                    refine lv_goto (tgt := 59) hx hb dX7_findFaceOnes_138 (by decide) ?_
                    exact ih59 v133_s0 (i59 + 1) Z_0_133 Z_3_133 _ _ _ (by (try clear g70); (try clear g143); (try clear b133); (try clear h141); (try clear b59_5); (try clear b54); omega) (by (try clear g70); (try clear g143); (try clear b133); (try clear h141); (try clear b59_5); (try clear b54); omega) (by first | assumption | exact hKN) (by first | exact b133 | (try clear RET); (try clear hS); (try clear hl); (try clear hE); (try clear hts); (try clear hb); (try clear hx); (try clear hml); (try clear hown); (try clear hinX7); (try clear J8); (try clear ih8); (try clear hN8); (try clear J54); (try clear J59); (try clear ih59); (try clear hN59); (try clear J141); (try clear J133); have y10 : ¬ (1 : Int32) = 0 := (by decide); first | assumption | ((try rw [cx_alS (P := fun g => (¬ g = i8 ∧ T 0 g = 1 ∧ cx_is (cx_Ar T n) t g ∧ (cx_Ar T n) g i8 ∧ ∃ j, j < k ∧ cx_oF M (nI g) nm pm j))]); grind)) hS (lv_sub hl [2, 3, 4, 5, 6, 1, 0] rfl)
                  have J128 : ∀ (Z_0_128 : Nat → Int32) (Z_3_128 : Nat → Int32) (H : Heap) (locs : List Loc) (ls : Array Slot), (cx_KN n T Z_0_128 (Z_3_128 0)) → ((T 0 i8 = 1 ∧ cx_is (cx_Ar T n) t i8 ∧ ∃ j, j < k ∧ cx_oF M (nI i8) nm pm j) ∧ ∀ g, g < (i59 + 1) → ¬ (¬ g = i8 ∧ T 0 g = 1 ∧ cx_is (cx_Ar T n) t g ∧ (cx_Ar T n) g i8 ∧ ∃ j, j < k ∧ cx_oF M (nI g) nm pm j)) → cx_S D vwCl A s (cyW q cI cZ n T k M d_8 (cx_u (cx_u Z 0 Z_0_128) 3 Z_3_128) (cx_u F 0 F_0_8)) H locs → lv_has ls 7 [(0, .ref (q 0)), (1, .int (nI t)), (2, .int nm), (3, .int pm), (4, .int (nI i8)), (5, .int v59_l5), (6, .int (nI i59))] → W p l e ({ frames := 4, cells := 0, slots := 0, locals := 88 } : Room) s m args below meth c H locs 0 0 Q (F0 m 128 ls []) := by
                    intro Z_0_128 Z_3_128 H locs ls hKN128 f128 hS hl
                    refine lv_iconst (v := (1 : Int32)) hx hb dX7_findFaceOnes_128 (by decide) ?_
                    refine lv_goto (tgt := 133) hx hb dX7_findFaceOnes_129 (by decide) ?_
                    exact J133 (1 : Int32) Z_0_128 Z_3_128 _ _ _ (by first | assumption | exact hKN) (cx_e1 (by (try clear RET); (try clear hS); (try clear hl); (try clear hE); (try clear hts); (try clear hb); (try clear hx); (try clear hml); (try clear hown); (try clear hinX7); (try clear J8); (try clear ih8); (try clear hN8); (try clear J54); (try clear J59); (try clear ih59); (try clear hN59); (try clear J141); (try clear J133); (try clear J128); have y10 : ¬ (1 : Int32) = 0 := (by decide); first | assumption | ((try rw [cx_alS (P := fun g => (¬ g = i8 ∧ T 0 g = 1 ∧ cx_is (cx_Ar T n) t g ∧ (cx_Ar T n) g i8 ∧ ∃ j, j < k ∧ cx_oF M (nI g) nm pm j))]); grind))) hS (lv_sub hl [0, 1, 2, 3, 4, 5, 6] rfl)
                  refine lv_icmp_eq (tgt := 128) hx hb dX7_findFaceOnes_77 (by decide) (fun h77 => ?_) (fun h77 => ?_)
                  · skip
                    have g77 : i59 = i8 := (nI_eq (a := i59) (b := i8) (by omega) (by omega)).mp h77
                    exact J128 Z_0_59 Z_3_59 _ _ _ (by first | assumption | exact hKN) (by (try clear RET); (try clear hS); (try clear hl); (try clear hE); (try clear hts); (try clear hb); (try clear hx); (try clear hml); (try clear hown); (try clear hinX7); (try clear J8); (try clear ih8); (try clear hN8); (try clear J54); (try clear J59); (try clear ih59); (try clear hN59); (try clear J141); (try clear J133); (try clear J128); have y10 : ¬ (1 : Int32) = 0 := (by decide); first | assumption | ((try rw [cx_alS (P := fun g => (¬ g = i8 ∧ T 0 g = 1 ∧ cx_is (cx_Ar T n) t g ∧ (cx_Ar T n) g i8 ∧ ∃ j, j < k ∧ cx_oF M (nI g) nm pm j))]); grind)) hS (lv_sub hl [0, 1, 2, 3, 4, 5, 6] rfl)
                  · skip
                    have g77 : ¬ (i59 = i8) := fun z => h77 ((nI_eq (a := i59) (b := i8) (by omega) (by omega)).mpr z)
                    refine lv_aload_n hx hb dX7_findFaceOnes_80 rfl (lv_at hl 0 rfl) ?_
                    refine cx_get (own := RX7) (index := 7) (C := RX7) (T := TX7) (N := 22) (k := 1) (ci := 7) (v := .ref (q 1)) hx hb hts hown hE hS hinX7 0 rfl rfl (by decide) (List.mem_of_getElem? (i := 3) rfl) rfl dX7_findFaceOnes_81 ?_
                    refine lv_iload hx hb dX7_findFaceOnes_84 (lv_at hl 6 rfl) ?_
                    refine cx_iald (f := (T 0)) (n := 20) (cA := cI) hx hb hE hS 1 0 rfl rfl (by omega) (by decide) dX7_findFaceOnes_86 ?_
                    refine lv_iconst (v := (1 : Int32)) hx hb dX7_findFaceOnes_87 (by decide) ?_
                    refine lv_icmp_ne (tgt := 128) hx hb dX7_findFaceOnes_88 (by decide) (fun h88 => ?_) (fun h88 => ?_)
                    · skip
                      exact J128 Z_0_59 Z_3_59 _ _ _ (by first | assumption | exact hKN) (by (try clear RET); (try clear hS); (try clear hl); (try clear hE); (try clear hts); (try clear hb); (try clear hx); (try clear hml); (try clear hown); (try clear hinX7); (try clear J8); (try clear ih8); (try clear hN8); (try clear J54); (try clear J59); (try clear ih59); (try clear hN59); (try clear J141); (try clear J133); (try clear J128); have y10 : ¬ (1 : Int32) = 0 := (by decide); first | assumption | ((try rw [cx_alS (P := fun g => (¬ g = i8 ∧ T 0 g = 1 ∧ cx_is (cx_Ar T n) t g ∧ (cx_Ar T n) g i8 ∧ ∃ j, j < k ∧ cx_oF M (nI g) nm pm j))]); grind)) hS (lv_sub hl [0, 1, 2, 3, 4, 5, 6] rfl)
                    · skip
                      refine lv_aload_n hx hb dX7_findFaceOnes_91 rfl (lv_at hl 0 rfl) ?_
                      refine lv_iload_n hx hb dX7_findFaceOnes_92 rfl (lv_at hl 1 rfl) ?_
                      refine lv_iload hx hb dX7_findFaceOnes_93 (lv_at hl 6 rfl) ?_
                      refine cx_cVi (As := [.int (nI t), .int (nI i59)]) (rest := []) ⟨hx, hb, hml, hown, hts⟩ hE hS (c_X7_isOf l D q cI cZ n T k M d_8 (cx_u (cx_u Z 0 Z_0_59) 3 Z_3_59) (cx_u F 0 F_0_8) t i59 (by first | assumption | omega | rfl) (by first | assumption | omega | rfl) (by first | assumption | omega | rfl) (by first | assumption | omega | rfl) (by first | assumption | omega | rfl) (by first | assumption | omega | rfl) (by first | assumption | omega | rfl)) (cwV 2 hts gX7_findFaceOnes_X7_isOf rfl rfl rfl (by decide +kernel) ⟨Nat.le_of_ble_eq_true rfl, Nat.le_of_ble_eq_true rfl⟩) 0 7 rfl rfl rfl hl.1 rfl (Nat.le_of_ble_eq_true rfl) ⟨Nat.zero_le _, Nat.zero_le _⟩ dX7_findFaceOnes_95 (fun r_95 u_95 H locs hp_95 hS => ?_)
                      obtain ⟨za_95, kn_95⟩ := u_95
                      have hS : cx_S D vwCl A s (cyW q cI cZ n T k M d_8 (cx_u (cx_u Z 0 za_95) 3 (fun _ => kn_95)) (cx_u F 0 F_0_8)) H locs := hS
                      obtain ⟨hKN_95, hp_95⟩ := hp_95
                      have hKN_95 : cx_KN n T za_95 kn_95 := hKN_95
                      have hp_95 : ((r_95 = 0 ∨ r_95 = 1) ∧ (¬ r_95 = 0 ↔ cx_is (cx_Ar T n) t i59)) ∧ ((∀ wa wu, wa < n → wu < n → (¬ za_95 (20 * wa + wu) = 0 ↔ (cx_w3 n (cx_Er T n) n) wa wu)) ∧ ¬ kn_95 = 0) := hp_95
                      refine lv_if_eq (tgt := 128) hx hb dX7_findFaceOnes_98 (by decide) (fun h98 => ?_) (fun h98 => ?_)
                      · skip
                        have g98 : ¬ (cx_is (cx_Ar T n) t i59) := fun z => hp_95.1.2.mpr z h98
                        exact J128 za_95 (fun _ => kn_95) _ _ _ (by first | assumption | exact hKN) (by (try clear RET); (try clear hS); (try clear hl); (try clear hE); (try clear hts); (try clear hb); (try clear hx); (try clear hml); (try clear hown); (try clear hinX7); (try clear J8); (try clear ih8); (try clear hN8); (try clear J54); (try clear J59); (try clear ih59); (try clear hN59); (try clear J141); (try clear J133); (try clear J128); have y10 : ¬ (1 : Int32) = 0 := (by decide); first | assumption | ((try rw [cx_alS (P := fun g => (¬ g = i8 ∧ T 0 g = 1 ∧ cx_is (cx_Ar T n) t g ∧ (cx_Ar T n) g i8 ∧ ∃ j, j < k ∧ cx_oF M (nI g) nm pm j))]); grind)) hS (lv_sub hl [0, 1, 2, 3, 4, 5, 6] rfl)
                      · skip
                        have g98 : cx_is (cx_Ar T n) t i59 := hp_95.1.2.mp h98
                        refine lv_aload_n hx hb dX7_findFaceOnes_101 rfl (lv_at hl 0 rfl) ?_
                        refine cx_get (own := RX7) (index := 52) (C := RX7) (T := TX7) (N := 22) (k := 16) (ci := 7) (v := .ref (q 15)) hx hb hts hown hE hS hinX7 0 rfl rfl (by decide) (List.mem_of_getElem? (i := 4) rfl) rfl dX7_findFaceOnes_102 ?_
                        refine lv_bipush (v := nI 20) hx hb dX7_findFaceOnes_105 (by decide) ?_
                        refine lv_iload hx hb dX7_findFaceOnes_107 (lv_at hl 6 rfl) ?_
                        refine lv_imul hx hb dX7_findFaceOnes_109 ?_
                        refine cx_topr (z := nI (20 * i59)) (pk_mul _ _) ?_
                        refine lv_iload hx hb dX7_findFaceOnes_110 (lv_at hl 4 rfl) ?_
                        refine lv_iadd hx hb dX7_findFaceOnes_112 ?_
                        refine cx_topr (z := nI (20 * i59 + i8)) (nI_add _ _) ?_
                        refine cx_zald (f := za_95) (n := 400) (cA := cZ) hx hb hE hS 15 1 rfl rfl (by omega) (by decide) dX7_findFaceOnes_113 ?_
                        refine lv_if_eq (tgt := 128) hx hb dX7_findFaceOnes_114 (by decide) (fun h114 => ?_) (fun h114 => ?_)
                        · skip
                          have y114 : ¬ cx_Ar T n i59 i8 := fun z => (hp_95.2.1 _ _ (by omega) (by omega)).mpr z.2.2 h114
                          exact J128 za_95 (fun _ => kn_95) _ _ _ (by first | assumption | exact hKN) (by (try clear RET); (try clear hS); (try clear hl); (try clear hE); (try clear hts); (try clear hb); (try clear hx); (try clear hml); (try clear hown); (try clear hinX7); (try clear J8); (try clear ih8); (try clear hN8); (try clear J54); (try clear J59); (try clear ih59); (try clear hN59); (try clear J141); (try clear J133); (try clear J128); have y10 : ¬ (1 : Int32) = 0 := (by decide); first | assumption | ((try rw [cx_alS (P := fun g => (¬ g = i8 ∧ T 0 g = 1 ∧ cx_is (cx_Ar T n) t g ∧ (cx_Ar T n) g i8 ∧ ∃ j, j < k ∧ cx_oF M (nI g) nm pm j))]); grind)) hS (lv_sub hl [0, 1, 2, 3, 4, 5, 6] rfl)
                        · skip
                          have y114 : cx_Ar T n i59 i8 := ⟨(by omega), (by omega), (hp_95.2.1 _ _ (by omega) (by omega)).mp h114⟩
                          refine lv_aload_n hx hb dX7_findFaceOnes_117 rfl (lv_at hl 0 rfl) ?_
                          refine lv_iload hx hb dX7_findFaceOnes_118 (lv_at hl 6 rfl) ?_
                          refine lv_iload_n hx hb dX7_findFaceOnes_120 rfl (lv_at hl 2 rfl) ?_
                          refine lv_iload_n hx hb dX7_findFaceOnes_121 rfl (lv_at hl 3 rfl) ?_
                          refine cx_cVi (As := [.int (nI i59), .int nm, .int pm]) (rest := []) ⟨hx, hb, hml, hown, hts⟩ hE hS (c_X7_ofFace l D q cI cZ n T k M d_8 (cx_u (cx_u Z 0 za_95) 3 (fun _ => kn_95)) (cx_u F 0 F_0_8) (nI i59) nm pm (by first | assumption | omega | rfl) (by first | assumption | omega | rfl)) (cwV 3 hts gX7_findFaceOnes_X7_ofFace rfl rfl rfl (by decide +kernel) ⟨Nat.le_of_ble_eq_true rfl, Nat.le_of_ble_eq_true rfl⟩) 0 7 rfl rfl rfl hl.1 rfl (Nat.le_of_ble_eq_true rfl) ⟨Nat.zero_le _, Nat.zero_le _⟩ dX7_findFaceOnes_122 (fun r_122 u_122 H locs hp_122 hS => ?_)
                          have hp_122 : cx_Lst (cx_oF M (nI i59) nm pm) k r_122 := hp_122
                          refine lv_if_ge (tgt := 132) hx hb dX7_findFaceOnes_125 (by decide) (fun h125 => ?_) (fun h125 => ?_)
                          · skip
                            have y125 := cx_Lex hp_122 (Int32.not_lt.mpr h125)
                            refine lv_iconst (v := (0 : Int32)) hx hb dX7_findFaceOnes_132 (by decide) ?_
                            exact J133 (0 : Int32) za_95 (fun _ => kn_95) _ _ _ (by first | assumption | exact hKN) (cx_e0 (by (try clear RET); (try clear hS); (try clear hl); (try clear hE); (try clear hts); (try clear hb); (try clear hx); (try clear hml); (try clear hown); (try clear hinX7); (try clear J8); (try clear ih8); (try clear hN8); (try clear J54); (try clear J59); (try clear ih59); (try clear hN59); (try clear J141); (try clear J133); (try clear J128); have y10 : ¬ (1 : Int32) = 0 := (by decide); first | assumption | ((try rw [cx_alS (P := fun g => (¬ g = i8 ∧ T 0 g = 1 ∧ cx_is (cx_Ar T n) t g ∧ (cx_Ar T n) g i8 ∧ ∃ j, j < k ∧ cx_oF M (nI g) nm pm j))]); grind))) hS (lv_sub hl [0, 1, 2, 3, 4, 5, 6] rfl)
                          · skip
                            have y125 := cx_Lno hk hp_122 (Int32.not_le.mp h125)
                            exact J128 za_95 (fun _ => kn_95) _ _ _ (by first | assumption | exact hKN) (by (try clear RET); (try clear hS); (try clear hl); (try clear hE); (try clear hts); (try clear hb); (try clear hx); (try clear hml); (try clear hown); (try clear hinX7); (try clear J8); (try clear ih8); (try clear hN8); (try clear J54); (try clear J59); (try clear ih59); (try clear hN59); (try clear J141); (try clear J133); (try clear J128); have y10 : ¬ (1 : Int32) = 0 := (by decide); first | assumption | ((try rw [cx_alS (P := fun g => (¬ g = i8 ∧ T 0 g = 1 ∧ cx_is (cx_Ar T n) t g ∧ (cx_Ar T n) g i8 ∧ ∃ j, j < k ∧ cx_oF M (nI g) nm pm j))]); grind)) hS (lv_sub hl [0, 1, 2, 3, 4, 5, 6] rfl)
          exact J59 (n - 0 + 1) v54_s0 0 Z_0_54 Z_3_54 _ _ _ (Nat.lt_succ_self _) (by (try clear g70); (try clear g143); (try clear b59_5); (try clear b54); omega) (by first | assumption | exact hKN) (by first | exact b54 | (try clear RET); (try clear hS); (try clear hl); (try clear hE); (try clear hts); (try clear hb); (try clear hx); (try clear hml); (try clear hown); (try clear hinX7); (try clear J8); (try clear ih8); (try clear hN8); (try clear J54); (try clear J59); (try clear ih59); (try clear hN59); have y10 : ¬ (1 : Int32) = 0 := (by decide); first | assumption | ((try rw [cx_alS (P := fun g => (¬ g = i8 ∧ T 0 g = 1 ∧ cx_is (cx_Ar T n) t g ∧ (cx_Ar T n) g i8 ∧ ∃ j, j < k ∧ cx_oF M (nI g) nm pm j))]); grind)) hS (lv_sub hl [2, 3, 4, 5, 6, 1, 0] rfl)
        have J53 : ∀ (Z_0_53 : Nat → Int32) (Z_3_53 : Nat → Int32) (H : Heap) (locs : List Loc) (ls : Array Slot), (cx_KN n T Z_0_53 (Z_3_53 0)) → (¬ ((T 0 i8 = 1 ∧ cx_is (cx_Ar T n) t i8 ∧ ∃ j, j < k ∧ cx_oF M (nI i8) nm pm j))) → cx_S D vwCl A s (cyW q cI cZ n T k M d_8 (cx_u (cx_u Z 0 Z_0_53) 3 Z_3_53) (cx_u F 0 F_0_8)) H locs → lv_has ls 7 [(0, .ref (q 0)), (1, .int (nI t)), (2, .int nm), (3, .int pm), (4, .int (nI i8))] → W p l e ({ frames := 4, cells := 0, slots := 0, locals := 88 } : Room) s m args below meth c H locs 0 0 Q (F0 m 53 ls []) := by
          intro Z_0_53 Z_3_53 H locs ls hKN53 f53 hS hl
          refine lv_iconst (v := (0 : Int32)) hx hb dX7_findFaceOnes_53 (by decide) ?_
          exact J54 (0 : Int32) Z_0_53 Z_3_53 _ _ _ (by first | assumption | exact hKN) (cx_e0 (by (try clear RET); (try clear hS); (try clear hl); (try clear hE); (try clear hts); (try clear hb); (try clear hx); (try clear hml); (try clear hown); (try clear hinX7); (try clear J8); (try clear ih8); (try clear hN8); (try clear J54); (try clear J53); have y10 : ¬ (1 : Int32) = 0 := (by decide); first | assumption | ((try rw [cx_alS (P := fun g => (¬ g = i8 ∧ T 0 g = 1 ∧ cx_is (cx_Ar T n) t g ∧ (cx_Ar T n) g i8 ∧ ∃ j, j < k ∧ cx_oF M (nI g) nm pm j))]); grind))) hS (lv_sub hl [0, 1, 2, 3, 4] rfl)
        refine lv_icmp_ne (tgt := 53) hx hb dX7_findFaceOnes_25 (by decide) (fun h25 => ?_) (fun h25 => ?_)
        · skip
          exact J53 Z_0_8 Z_3_8 _ _ _ (by first | assumption | exact hKN) (by (try clear RET); (try clear hS); (try clear hl); (try clear hE); (try clear hts); (try clear hb); (try clear hx); (try clear hml); (try clear hown); (try clear hinX7); (try clear J8); (try clear ih8); (try clear hN8); (try clear J54); (try clear J53); have y10 : ¬ (1 : Int32) = 0 := (by decide); first | assumption | ((try rw [cx_alS (P := fun g => (¬ g = i8 ∧ T 0 g = 1 ∧ cx_is (cx_Ar T n) t g ∧ (cx_Ar T n) g i8 ∧ ∃ j, j < k ∧ cx_oF M (nI g) nm pm j))]); grind)) hS (lv_sub hl [0, 1, 2, 3, 4] rfl)
        · skip
          refine lv_aload_n hx hb dX7_findFaceOnes_28 rfl (lv_at hl 0 rfl) ?_
          refine lv_iload_n hx hb dX7_findFaceOnes_29 rfl (lv_at hl 1 rfl) ?_
          refine lv_iload hx hb dX7_findFaceOnes_30 (lv_at hl 4 rfl) ?_
          refine cx_cVi (As := [.int (nI t), .int (nI i8)]) (rest := []) ⟨hx, hb, hml, hown, hts⟩ hE hS (c_X7_isOf l D q cI cZ n T k M d_8 (cx_u (cx_u Z 0 Z_0_8) 3 Z_3_8) (cx_u F 0 F_0_8) t i8 (by first | assumption | omega | rfl) (by first | assumption | omega | rfl) (by first | assumption | omega | rfl) (by first | assumption | omega | rfl) (by first | assumption | omega | rfl) (by first | assumption | omega | rfl) (by first | assumption | omega | rfl)) (cwV 2 hts gX7_findFaceOnes_X7_isOf rfl rfl rfl (by decide +kernel) ⟨Nat.le_of_ble_eq_true rfl, Nat.le_of_ble_eq_true rfl⟩) 0 7 rfl rfl rfl hl.1 rfl (Nat.le_of_ble_eq_true rfl) ⟨Nat.zero_le _, Nat.zero_le _⟩ dX7_findFaceOnes_32 (fun r_32 u_32 H locs hp_32 hS => ?_)
          obtain ⟨za_32, kn_32⟩ := u_32
          have hS : cx_S D vwCl A s (cyW q cI cZ n T k M d_8 (cx_u (cx_u Z 0 za_32) 3 (fun _ => kn_32)) (cx_u F 0 F_0_8)) H locs := hS
          obtain ⟨hKN_32, hp_32⟩ := hp_32
          have hKN_32 : cx_KN n T za_32 kn_32 := hKN_32
          have hp_32 : ((r_32 = 0 ∨ r_32 = 1) ∧ (¬ r_32 = 0 ↔ cx_is (cx_Ar T n) t i8)) ∧ ((∀ wa wu, wa < n → wu < n → (¬ za_32 (20 * wa + wu) = 0 ↔ (cx_w3 n (cx_Er T n) n) wa wu)) ∧ ¬ kn_32 = 0) := hp_32
          refine lv_if_eq (tgt := 53) hx hb dX7_findFaceOnes_35 (by decide) (fun h35 => ?_) (fun h35 => ?_)
          · skip
            have g35 : ¬ (cx_is (cx_Ar T n) t i8) := fun z => hp_32.1.2.mpr z h35
            exact J53 za_32 (fun _ => kn_32) _ _ _ (by first | assumption | exact hKN) (by (try clear RET); (try clear hS); (try clear hl); (try clear hE); (try clear hts); (try clear hb); (try clear hx); (try clear hml); (try clear hown); (try clear hinX7); (try clear J8); (try clear ih8); (try clear hN8); (try clear J54); (try clear J53); have y10 : ¬ (1 : Int32) = 0 := (by decide); first | assumption | ((try rw [cx_alS (P := fun g => (¬ g = i8 ∧ T 0 g = 1 ∧ cx_is (cx_Ar T n) t g ∧ (cx_Ar T n) g i8 ∧ ∃ j, j < k ∧ cx_oF M (nI g) nm pm j))]); grind)) hS (lv_sub hl [0, 1, 2, 3, 4] rfl)
          · skip
            have g35 : cx_is (cx_Ar T n) t i8 := hp_32.1.2.mp h35
            refine lv_aload_n hx hb dX7_findFaceOnes_38 rfl (lv_at hl 0 rfl) ?_
            refine lv_iload hx hb dX7_findFaceOnes_39 (lv_at hl 4 rfl) ?_
            refine lv_iload_n hx hb dX7_findFaceOnes_41 rfl (lv_at hl 2 rfl) ?_
            refine lv_iload_n hx hb dX7_findFaceOnes_42 rfl (lv_at hl 3 rfl) ?_
            refine cx_cVi (As := [.int (nI i8), .int nm, .int pm]) (rest := []) ⟨hx, hb, hml, hown, hts⟩ hE hS (c_X7_ofFace l D q cI cZ n T k M d_8 (cx_u (cx_u Z 0 za_32) 3 (fun _ => kn_32)) (cx_u F 0 F_0_8) (nI i8) nm pm (by first | assumption | omega | rfl) (by first | assumption | omega | rfl)) (cwV 3 hts gX7_findFaceOnes_X7_ofFace rfl rfl rfl (by decide +kernel) ⟨Nat.le_of_ble_eq_true rfl, Nat.le_of_ble_eq_true rfl⟩) 0 7 rfl rfl rfl hl.1 rfl (Nat.le_of_ble_eq_true rfl) ⟨Nat.zero_le _, Nat.zero_le _⟩ dX7_findFaceOnes_43 (fun r_43 u_43 H locs hp_43 hS => ?_)
            have hp_43 : cx_Lst (cx_oF M (nI i8) nm pm) k r_43 := hp_43
            refine lv_if_lt (tgt := 53) hx hb dX7_findFaceOnes_46 (by decide) (fun h46 => ?_) (fun h46 => ?_)
            · skip
              have y46 := cx_Lno hk hp_43 h46
              exact J53 za_32 (fun _ => kn_32) _ _ _ (by first | assumption | exact hKN) (by (try clear RET); (try clear hS); (try clear hl); (try clear hE); (try clear hts); (try clear hb); (try clear hx); (try clear hml); (try clear hown); (try clear hinX7); (try clear J8); (try clear ih8); (try clear hN8); (try clear J54); (try clear J53); have y10 : ¬ (1 : Int32) = 0 := (by decide); first | assumption | ((try rw [cx_alS (P := fun g => (¬ g = i8 ∧ T 0 g = 1 ∧ cx_is (cx_Ar T n) t g ∧ (cx_Ar T n) g i8 ∧ ∃ j, j < k ∧ cx_oF M (nI g) nm pm j))]); grind)) hS (lv_sub hl [0, 1, 2, 3, 4] rfl)
            · skip
              have y46 := cx_Lex hp_43 h46
              refine lv_iconst (v := (1 : Int32)) hx hb dX7_findFaceOnes_49 (by decide) ?_
              refine lv_goto (tgt := 54) hx hb dX7_findFaceOnes_50 (by decide) ?_
              exact J54 (1 : Int32) za_32 (fun _ => kn_32) _ _ _ (by first | assumption | exact hKN) (cx_e1 (by (try clear RET); (try clear hS); (try clear hl); (try clear hE); (try clear hts); (try clear hb); (try clear hx); (try clear hml); (try clear hown); (try clear hinX7); (try clear J8); (try clear ih8); (try clear hN8); (try clear J54); (try clear J53); have y10 : ¬ (1 : Int32) = 0 := (by decide); first | assumption | ((try rw [cx_alS (P := fun g => (¬ g = i8 ∧ T 0 g = 1 ∧ cx_is (cx_Ar T n) t g ∧ (cx_Ar T n) g i8 ∧ ∃ j, j < k ∧ cx_oF M (nI g) nm pm j))]); grind))) hS (lv_sub hl [0, 1, 2, 3, 4] rfl)
  exact J8 (n - 0 + 1) 0 0 (Z 0) (Z 3) (F 0) _ _ _ (Nat.lt_succ_self _) (by (try clear g70); (try clear g143); omega) (by first | assumption | exact hKN) (by (try clear g70); (try clear g143); omega) (by first | assumption | exact fun j hj => absurd hj (by omega)) (by first | exact cx_LR0 | exact hli2) hS (lv_sub hl [1, 2, 3, 4, 0] rfl)
