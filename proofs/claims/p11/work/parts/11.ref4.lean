set_option maxHeartbeats 4000000 in
set_option maxRecDepth 100000 in
theorem c_X7_leastFaceOne (l : Launch) (D : va_G) (q : Nat → Nat) (cI cZ : ClassId) (n : Nat) (T : Nat → Nat → Int32) (k : Nat) (M : Nat → Nat → Int32) (d : Nat) (Z : Nat → Nat → Int32) (F : Nat → Nat → Int32) (ja : Int32) (hd : d ≤ 20) (hF : ∀ j, j < d → cx_ix ((F 0) j) 80) : cx_Mi l D vwCl [(cI, .int), (cZ, .boolean)] cx_NW yX7_leastFaceOne wsX7_leastFaceOne ({ frames := 1, cells := 0, slots := 0, locals := 23 } : Room) [.ref (q 0), .int ja] (cyW q cI cZ n T k M d Z F) (fun (r : Int32) (uw : Unit) => ((r = -1 ∨ cx_ix r 80) ∧ (ja = 0 → 0 < d → cx_ix r 80)) ∧ ((ja = 1 → (¬ r = -1 ↔ ∃ j, j < d ∧ cx_mk (M 3) ((F 0) j).toNatClampNeg 1)) ∧ (ja = 0 → cx_Mn (F 0) d r))) (fun _ => (cyW q cI cZ n T k M d Z F)) := by
  refine cx_Mi.of (cc := cX7_leastFaceOne) (maxL := 6) cx_NW_ok (by decide) rfl (Nat.le_of_ble_eq_true rfl) ?_
  intro p e s m args below meth c Q A ls hx hb hml hown hts hE RET hS hl
  have hl : lv_has ls 6 [(0, .ref (q 0)), (1, .int ja)] := hl
  have hown : s.vm.findClass RX7 = some m.cls := hown
  have hinX7 : ∀ w ∈ u_ws RX7 TX7 22, w ∈ wsX7_leastFaceOne := cx_mem [9, 10, 11, 12, 13, 14, 15, 16, 17, 18, 19, 20, 21, 22, 23, 24, 25, 26, 27, 28, 29, 30] (by decide +kernel)
  refine lv_iconst (v := (-1 : Int32)) hx hb dX7_leastFaceOne_0 (by decide) ?_
  refine lv_istore_n (lv' := [(2, .int (-1 : Int32)), (0, .ref (q 0)), (1, .int ja)]) hx hb dX7_leastFaceOne_1 rfl hl (by decide) rfl (fun ls hl => ?_)
  refine lv_iconst (v := (0 : Int32)) hx hb dX7_leastFaceOne_2 (by decide) ?_
  refine cx_topr (z := nI 0) (by decide) ?_
  refine lv_istore_n (lv' := [(3, .int (nI 0)), (2, .int (-1 : Int32)), (0, .ref (q 0)), (1, .int ja)]) hx hb dX7_leastFaceOne_3 rfl hl (by decide) rfl (fun ls hl => ?_)
  have J4 : ∀ (N : Nat) (v4_l2 : Int32) (i4 : Nat) (H : Heap) (locs : List Loc) (ls : Array Slot), (d - i4 < N) → (i4 ≤ d) → (v4_l2 = -1 ∨ cx_ix v4_l2 80) → (ja = 0 → 0 < i4 → cx_ix v4_l2 80) → (ja = 1 → (¬ v4_l2 = -1 ↔ ∃ j, j < i4 ∧ cx_mk (M 3) ((F 0) j).toNatClampNeg 1)) → (ja = 0 → cx_Mn (F 0) i4 v4_l2) → cx_S D vwCl A s (cyW q cI cZ n T k M d Z F) H locs → lv_has ls 6 [(0, .ref (q 0)), (1, .int ja), (2, .int v4_l2), (3, .int (nI i4))] → W p l e ({ frames := 1, cells := 0, slots := 0, locals := 23 } : Room) s m args below meth c H locs 0 0 Q (F0 m 4 ls []) := by
    intro N4
    induction N4 with
    | zero => intro v4_l2 i4 H locs ls hN; exact absurd hN (by omega)
    | succ N4 ih4 =>
      intro v4_l2 i4 H locs ls hN4 hi4 ha hbj hex hmn hS hl
      refine lv_iload_n hx hb dX7_leastFaceOne_4 rfl (lv_at hl 3 rfl) ?_
      refine lv_aload_n hx hb dX7_leastFaceOne_5 rfl (lv_at hl 0 rfl) ?_
      refine cx_get (own := RX7) (index := 127) (C := RX7) (T := TX7) (N := 22) (k := 20) (ci := 7) (v := .int (nI d)) hx hb hts hown hE hS hinX7 0 rfl rfl (by decide) (List.mem_of_getElem? (i := 1) rfl) rfl dX7_leastFaceOne_6 ?_
      refine lv_icmp_ge (tgt := 70) hx hb dX7_leastFaceOne_9 (by decide) (fun h9 => ?_) (fun h9 => ?_)
      · skip
        have g9 : d ≤ i4 := (nI_leI (a := d) (b := i4) (by omega) (by omega)).mp h9
        refine lv_iload_n hx hb dX7_leastFaceOne_70 rfl (lv_at hl 2 rfl) ?_
        exact RET _ () _ _ _ _ dX7_leastFaceOne_71 rfl (⟨⟨ha, fun z y => hbj z (by omega)⟩, fun z => by have e : i4 = d := (by omega); have y := hex z; rw [e] at y; exact y, fun z => by have e : i4 = d := (by omega); have y := hmn z; rw [e] at y; exact y⟩) hS
      · skip
        have g9 : ¬ (d ≤ i4) := fun z => h9 ((nI_leI (a := d) (b := i4) (by omega) (by omega)).mpr z)
        refine lv_aload_n hx hb dX7_leastFaceOne_12 rfl (lv_at hl 0 rfl) ?_
        refine cx_get (own := RX7) (index := 59) (C := RX7) (T := TX7) (N := 22) (k := 19) (ci := 7) (v := .ref (q 17)) hx hb hts hown hE hS hinX7 0 rfl rfl (by decide) (List.mem_of_getElem? (i := 2) rfl) rfl dX7_leastFaceOne_13 ?_
        refine lv_iload_n hx hb dX7_leastFaceOne_16 rfl (lv_at hl 3 rfl) ?_
        refine cx_iald (f := (F 0)) (n := 20) (cA := cI) hx hb hE hS 17 0 rfl rfl (by omega) (by decide) dX7_leastFaceOne_17 ?_
        refine lv_istore (lv' := [(4, .int ((F 0) i4)), (0, .ref (q 0)), (1, .int ja), (2, .int v4_l2), (3, .int (nI i4))]) hx hb dX7_leastFaceOne_18 hl (by decide) rfl (fun ls hl => ?_)
        refine lv_iload_n hx hb dX7_leastFaceOne_20 rfl (lv_at hl 2 rfl) ?_
        have J40 : ∀ (v40_s0 : Int32) (H : Heap) (locs : List Loc) (ls : Array Slot), ((v40_s0 = 0 ∨ v40_s0 = 1) ∧ (¬ v40_s0 = 0 ↔ ja = 0 ∨ cx_mk (M 3) ((F 0) i4).toNatClampNeg 1)) → (ja = 0 → v40_s0 = 1) → cx_S D vwCl A s (cyW q cI cZ n T k M d Z F) H locs → lv_has ls 6 [(0, .ref (q 0)), (1, .int ja), (2, .int v4_l2), (3, .int (nI i4)), (4, .int ((F 0) i4))] → W p l e ({ frames := 1, cells := 0, slots := 0, locals := 23 } : Room) s m args below meth c H locs 0 0 Q (F0 m 40 ls [.int v40_s0]) := by
          intro v40_s0 H locs ls b40 hj hS hl
          refine lv_istore (lv' := [(5, .int v40_s0), (0, .ref (q 0)), (1, .int ja), (2, .int v4_l2), (3, .int (nI i4)), (4, .int ((F 0) i4))]) hx hb dX7_leastFaceOne_40 hl (by decide) rfl (fun ls hl => ?_)
          refine lv_iload hx hb dX7_leastFaceOne_42 (lv_at hl 0 rfl) ?_
          have J63 : ∀ (v63_s0 : Int32) (H : Heap) (locs : List Loc) (ls : Array Slot), (v63_s0 = -1 ∨ cx_ix v63_s0 80) → (ja = 0 → cx_ix v63_s0 80) → (ja = 1 → (¬ v63_s0 = -1 ↔ ∃ j, j < (i4 + 1) ∧ cx_mk (M 3) ((F 0) j).toNatClampNeg 1)) → (ja = 0 → cx_Mn (F 0) (i4 + 1) v63_s0) → cx_S D vwCl A s (cyW q cI cZ n T k M d Z F) H locs → lv_has ls 6 [(0, .ref (q 0)), (1, .int ja), (2, .int v4_l2), (3, .int (nI i4)), (4, .int ((F 0) i4)), (5, .int v40_s0)] → W p l e ({ frames := 1, cells := 0, slots := 0, locals := 23 } : Room) s m args below meth c H locs 0 0 Q (F0 m 63 ls [.int v63_s0]) := by
            intro v63_s0 H locs ls hc1 hc2 hc3 hc4 hS hl
            refine lv_istore_n (lv' := [(2, .int v63_s0), (0, .ref (q 0)), (1, .int ja), (3, .int (nI i4)), (4, .int ((F 0) i4)), (5, .int v40_s0)]) hx hb dX7_leastFaceOne_63 rfl hl (by decide) rfl (fun ls hl => ?_)
            refine lv_iinc (v := nI (i4 + 1)) (lv' := [(3, .int (nI (i4 + 1))), (2, .int v63_s0), (0, .ref (q 0)), (1, .int ja), (4, .int ((F 0) i4)), (5, .int v40_s0)]) hx hb dX7_leastFaceOne_64 hl (k := 3) rfl (cx_inc _) (by decide) rfl (fun ls hl => ?_)
            refine lv_goto (tgt := 4) hx hb dX7_leastFaceOne_67 (by decide) ?_
            exact ih4 v63_s0 (i4 + 1) _ _ _ (by (try clear hc3); (try clear hex); omega) (by (try clear hc3); (try clear hex); omega) (by first | exact Or.inl rfl | assumption) (by first | exact fun _ z => absurd z (by omega) | exact fun z _ => hc2 z) (by first | exact fun _ => ⟨fun z => absurd rfl z, fun z => absurd z cx_ex0⟩ | exact hc3) (by first | exact fun _ => Or.inl ⟨rfl, rfl⟩ | exact hc4) hS (lv_sub hl [2, 3, 1, 0] rfl)
          have J62 : ∀ (H : Heap) (locs : List Loc) (ls : Array Slot), (ja = 0 → cx_ix v4_l2 80) → (ja = 1 → (¬ cx_mk (M 3) ((F 0) i4).toNatClampNeg 1 ∨ ¬ v4_l2 = -1)) → (ja = 0 → cx_Mn (F 0) (i4 + 1) v4_l2) → cx_S D vwCl A s (cyW q cI cZ n T k M d Z F) H locs → lv_has ls 6 [(0, .ref (q 0)), (1, .int ja), (2, .int v4_l2), (3, .int (nI i4)), (4, .int ((F 0) i4)), (5, .int v40_s0)] → W p l e ({ frames := 1, cells := 0, slots := 0, locals := 23 } : Room) s m args below meth c H locs 0 0 Q (F0 m 62 ls []) := by
            intro  H locs ls hk2 hk3 hk4 hS hl
            refine lv_iload_n hx hb dX7_leastFaceOne_62 rfl (lv_at hl 2 rfl) ?_
            exact J63 v4_l2 _ _ _ (by first | exact Or.inr (hF _ (by omega)) | exact ha) (by first | exact fun _ => hF _ (by omega) | exact hk2) (by first | exact fun z => cx_lf1 (hF _ (by omega)) (g44.resolve_left (fun y => absurd (z.symm.trans y) (by decide))) | exact fun z => cx_lf2 (hex z) (hk3 z)) (by first | exact fun z => h57.elim (cx_MnA hF (by omega) (hmn z)) (cx_MnB hF (by omega) (hmn z)) | exact hk4) hS (lv_sub hl [0, 1, 2, 3, 4, 5] rfl)
          refine lv_if_eq (tgt := 62) hx hb dX7_leastFaceOne_44 (by decide) (fun h44 => ?_) (fun h44 => ?_)
          · skip
            have g44 : ¬ (ja = 0 ∨ cx_mk (M 3) ((F 0) i4).toNatClampNeg 1) := fun z => b40.2.mpr z h44
            exact J62  _ _ _ (by first | exact fun z => absurd ((hj z).symm.trans h44) (by decide) | exact fun _ => cx_pp ha h48) (by first | exact fun _ => Or.inl (fun z => g44 (Or.inr z)) | exact fun _ => Or.inr (cx_ixm (cx_pp ha h48) (by decide))) (by first | exact fun z => absurd ((hj z).symm.trans h44) (by decide) | exact fun z => cx_MnC hF (by omega) (hmn z) h48 h54) hS (lv_sub hl [1, 2, 3, 4, 5, 0] rfl)
          · skip
            have g44 : ja = 0 ∨ cx_mk (M 3) ((F 0) i4).toNatClampNeg 1 := b40.2.mp h44
            refine lv_iload_n hx hb dX7_leastFaceOne_47 rfl (lv_at hl 3 rfl) ?_
            have J57 : ∀ (H : Heap) (locs : List Loc) (ls : Array Slot), (v4_l2 < 0 ∨ ¬ v4_l2 ≤ (F 0) i4) → cx_S D vwCl A s (cyW q cI cZ n T k M d Z F) H locs → lv_has ls 6 [(0, .ref (q 0)), (1, .int ja), (2, .int v4_l2), (3, .int (nI i4)), (4, .int ((F 0) i4)), (5, .int v40_s0)] → W p l e ({ frames := 1, cells := 0, slots := 0, locals := 23 } : Room) s m args below meth c H locs 0 0 Q (F0 m 57 ls []) := by
              intro  H locs ls h57 hS hl
              refine lv_iload hx hb dX7_leastFaceOne_57 (lv_at hl 4 rfl) ?_
              refine lv_goto (tgt := 63) hx hb dX7_leastFaceOne_59 (by decide) ?_
              exact J63 ((F 0) i4) _ _ _ (by first | exact Or.inr (hF _ (by omega)) | exact ha) (by first | exact fun _ => hF _ (by omega) | exact hk2) (by first | exact fun z => cx_lf1 (hF _ (by omega)) (g44.resolve_left (fun y => absurd (z.symm.trans y) (by decide))) | exact fun z => cx_lf2 (hex z) (hk3 z)) (by first | exact fun z => h57.elim (cx_MnA hF (by omega) (hmn z)) (cx_MnB hF (by omega) (hmn z)) | exact hk4) hS (lv_sub hl [0, 1, 2, 3, 4, 5] rfl)
            refine lv_if_lt (tgt := 57) hx hb dX7_leastFaceOne_48 (by decide) (fun h48 => ?_) (fun h48 => ?_)
            · skip
              exact J57  _ _ _ (by first | exact Or.inl h48 | exact Or.inr h54) hS (lv_sub hl [1, 2, 3, 4, 5, 0] rfl)
            · skip
              refine lv_iload hx hb dX7_leastFaceOne_51 (lv_at hl 5 rfl) ?_
              refine lv_iload_n hx hb dX7_leastFaceOne_53 rfl (lv_at hl 3 rfl) ?_
              refine lv_icmp_ge (tgt := 62) hx hb dX7_leastFaceOne_54 (by decide) (fun h54 => ?_) (fun h54 => ?_)
              · skip
                exact J62  _ _ _ (by first | exact fun z => absurd ((hj z).symm.trans h44) (by decide) | exact fun _ => cx_pp ha h48) (by first | exact fun _ => Or.inl (fun z => g44 (Or.inr z)) | exact fun _ => Or.inr (cx_ixm (cx_pp ha h48) (by decide))) (by first | exact fun z => absurd ((hj z).symm.trans h44) (by decide) | exact fun z => cx_MnC hF (by omega) (hmn z) h48 h54) hS (lv_sub hl [1, 2, 3, 4, 5, 0] rfl)
              · skip
                exact J57  _ _ _ (by first | exact Or.inl h48 | exact Or.inr h54) hS (lv_sub hl [1, 2, 3, 4, 5, 0] rfl)
        have J35 : ∀ (H : Heap) (locs : List Loc) (ls : Array Slot), (ja = 0 ∨ cx_mk (M 3) ((F 0) i4).toNatClampNeg 1) → cx_S D vwCl A s (cyW q cI cZ n T k M d Z F) H locs → lv_has ls 6 [(0, .ref (q 0)), (1, .int ja), (2, .int v4_l2), (3, .int (nI i4)), (4, .int ((F 0) i4))] → W p l e ({ frames := 1, cells := 0, slots := 0, locals := 23 } : Room) s m args below meth c H locs 0 0 Q (F0 m 35 ls []) := by
          intro  H locs ls f35 hS hl
          refine lv_iconst (v := (1 : Int32)) hx hb dX7_leastFaceOne_35 (by decide) ?_
          refine lv_goto (tgt := 40) hx hb dX7_leastFaceOne_36 (by decide) ?_
          exact J40 (1 : Int32) _ _ _ (cx_e1 (by (try clear RET); (try clear hS); (try clear hl); (try clear hE); (try clear hts); (try clear hb); (try clear hx); (try clear hml); (try clear hown); (try clear hinX7); (try clear J4); (try clear ih4); (try clear hN4); (try clear J40); (try clear J35); have y10 : ¬ (1 : Int32) = 0 := (by decide); first | assumption | (grind))) (by first | exact fun _ => rfl | exact fun z => absurd z h21) hS (lv_sub hl [0, 1, 2, 3, 4] rfl)
        refine lv_if_eq (tgt := 35) hx hb dX7_leastFaceOne_21 (by decide) (fun h21 => ?_) (fun h21 => ?_)
        · skip
          exact J35  _ _ _ (by (try clear RET); (try clear hS); (try clear hl); (try clear hE); (try clear hts); (try clear hb); (try clear hx); (try clear hml); (try clear hown); (try clear hinX7); (try clear J4); (try clear ih4); (try clear hN4); (try clear J40); (try clear J35); have y10 : ¬ (1 : Int32) = 0 := (by decide); first | assumption | (grind)) hS (lv_sub hl [1, 2, 3, 4, 0] rfl)
        · skip
          refine lv_aload_n hx hb dX7_leastFaceOne_24 rfl (lv_at hl 1 rfl) ?_
          refine lv_iload hx hb dX7_leastFaceOne_25 (lv_at hl 0 rfl) ?_
          refine cx_topr (z := nI (((F 0) i4).toNatClampNeg)) (hF _ (by omega)).1 ?_
          refine lv_iconst (v := (1 : Int32)) hx hb dX7_leastFaceOne_27 (by decide) ?_
          refine lv_iconst (v := (1 : Int32)) hx hb dX7_leastFaceOne_28 (by decide) ?_
          refine cx_cVi (As := [.int (nI (((F 0) i4).toNatClampNeg)), .int (1 : Int32), .int (1 : Int32)]) (rest := []) ⟨hx, hb, hml, hown, hts⟩ hE hS (c_X7_is_at_1 l D q cI cZ n T k M d Z F (((F 0) i4).toNatClampNeg) (1 : Int32) (1 : Int32) ((hF _ (by omega)).2) (by first | assumption | omega | rfl)) (cwV 3 hts gX7_leastFaceOne_X7_is rfl rfl rfl (by decide +kernel) ⟨Nat.le_of_ble_eq_true rfl, Nat.le_of_ble_eq_true rfl⟩) 0 7 rfl rfl rfl hl.1 rfl (Nat.le_of_ble_eq_true rfl) ⟨Nat.zero_le _, Nat.zero_le _⟩ dX7_leastFaceOne_29 (fun r_29 u_29 H locs hp_29 hS => ?_)
          have hp_29 : (r_29 = 0 ∨ r_29 = 1) ∧ (¬ r_29 = 0 ↔ cx_mk ((M 3)) (((F 0) i4).toNatClampNeg) (1 : Int32)) := hp_29
          refine lv_if_eq (tgt := 39) hx hb dX7_leastFaceOne_32 (by decide) (fun h32 => ?_) (fun h32 => ?_)
          · skip
            have g32 : ¬ (cx_mk ((M 3)) (((F 0) i4).toNatClampNeg) (1 : Int32)) := fun z => hp_29.2.mpr z h32
            refine lv_iconst (v := (0 : Int32)) hx hb dX7_leastFaceOne_39 (by decide) ?_
            exact J40 (0 : Int32) _ _ _ (cx_e0 (by (try clear RET); (try clear hS); (try clear hl); (try clear hE); (try clear hts); (try clear hb); (try clear hx); (try clear hml); (try clear hown); (try clear hinX7); (try clear J4); (try clear ih4); (try clear hN4); (try clear J40); (try clear J35); have y10 : ¬ (1 : Int32) = 0 := (by decide); first | assumption | (grind))) (by first | exact fun _ => rfl | exact fun z => absurd z h21) hS (lv_sub hl [1, 2, 3, 4, 0] rfl)
          · skip
            have g32 : cx_mk ((M 3)) (((F 0) i4).toNatClampNeg) (1 : Int32) := hp_29.2.mp h32
            exact J35  _ _ _ (by (try clear RET); (try clear hS); (try clear hl); (try clear hE); (try clear hts); (try clear hb); (try clear hx); (try clear hml); (try clear hown); (try clear hinX7); (try clear J4); (try clear ih4); (try clear hN4); (try clear J40); (try clear J35); have y10 : ¬ (1 : Int32) = 0 := (by decide); first | assumption | (grind)) hS (lv_sub hl [1, 2, 3, 4, 0] rfl)
  exact J4 (d - 0 + 1) (-1 : Int32) 0 _ _ _ (Nat.lt_succ_self _) (by (try clear hex); omega) (by first | exact Or.inl rfl | assumption) (by first | exact fun _ z => absurd z (by omega) | exact fun z _ => hc2 z) (by first | exact fun _ => ⟨fun z => absurd rfl z, fun z => absurd z cx_ex0⟩ | exact hc3) (by first | exact fun _ => Or.inl ⟨rfl, rfl⟩ | exact hc4) hS (lv_sub hl [2, 3, 1, 0] rfl)
set_option maxHeartbeats 4000000 in
set_option maxRecDepth 100000 in
theorem c_X7_hasDefault (l : Launch) (D : va_G) (q : Nat → Nat) (cI cZ : ClassId) (n : Nat) (T : Nat → Nat → Int32) (k : Nat) (M : Nat → Nat → Int32) (d : Nat) (Z : Nat → Nat → Int32) (F : Nat → Nat → Int32) (hd : d ≤ 20) (hF : ∀ j, j < d → cx_ix ((F 0) j) 80) : cx_Mi l D vwCl [(cI, .int), (cZ, .boolean)] cx_NW yX7_hasDefault wsX7_hasDefault ({ frames := 1, cells := 0, slots := 0, locals := 23 } : Room) [.ref (q 0)] (cyW q cI cZ n T k M d Z F) (fun (r : Int32) (uw : Unit) => (r = 0 ∨ r = 1) ∧ (¬ r = 0 ↔ ∃ j, j < d ∧ cx_mk (M 3) ((F 0) j).toNatClampNeg (nI 8))) (fun _ => (cyW q cI cZ n T k M d Z F)) := by
  refine cx_Mi.of (cc := cX7_hasDefault) (maxL := 3) cx_NW_ok (by decide) rfl (Nat.le_of_ble_eq_true rfl) ?_
  intro p e s m args below meth c Q A ls hx hb hml hown hts hE RET hS hl
  have hl : lv_has ls 3 [(0, .ref (q 0))] := hl
  have hown : s.vm.findClass RX7 = some m.cls := hown
  have hinX7 : ∀ w ∈ u_ws RX7 TX7 22, w ∈ wsX7_hasDefault := cx_mem [9, 10, 11, 12, 13, 14, 15, 16, 17, 18, 19, 20, 21, 22, 23, 24, 25, 26, 27, 28, 29, 30] (by decide +kernel)
  refine lv_iconst (v := (0 : Int32)) hx hb dX7_hasDefault_0 (by decide) ?_
  refine cx_topr (z := nI 0) (by decide) ?_
  refine lv_istore_n (lv' := [(1, .int (nI 0)), (0, .ref (q 0))]) hx hb dX7_hasDefault_1 rfl hl (by decide) rfl (fun ls hl => ?_)
  refine lv_iconst (v := (0 : Int32)) hx hb dX7_hasDefault_2 (by decide) ?_
  refine cx_topr (z := nI 0) (by decide) ?_
  refine lv_istore_n (lv' := [(2, .int (nI 0)), (1, .int (nI 0)), (0, .ref (q 0))]) hx hb dX7_hasDefault_3 rfl hl (by decide) rfl (fun ls hl => ?_)
  have J4 : ∀ (N : Nat) (v4_l1 : Int32) (i4 : Nat) (H : Heap) (locs : List Loc) (ls : Array Slot), (d - i4 < N) → (i4 ≤ d) → ((v4_l1 = 0 ∨ v4_l1 = 1) ∧ (¬ v4_l1 = 0 ↔ ∃ j, j < i4 ∧ cx_mk (M 3) ((F 0) j).toNatClampNeg (nI 8))) → cx_S D vwCl A s (cyW q cI cZ n T k M d Z F) H locs → lv_has ls 3 [(0, .ref (q 0)), (1, .int v4_l1), (2, .int (nI i4))] → W p l e ({ frames := 1, cells := 0, slots := 0, locals := 23 } : Room) s m args below meth c H locs 0 0 Q (F0 m 4 ls []) := by
    intro N4
    induction N4 with
    | zero => intro v4_l1 i4 H locs ls hN; exact absurd hN (by omega)
    | succ N4 ih4 =>
      intro v4_l1 i4 H locs ls hN4 hi4 b4_1 hS hl
      refine lv_iload_n hx hb dX7_hasDefault_4 rfl (lv_at hl 2 rfl) ?_
      refine lv_aload_n hx hb dX7_hasDefault_5 rfl (lv_at hl 0 rfl) ?_
      refine cx_get (own := RX7) (index := 127) (C := RX7) (T := TX7) (N := 22) (k := 20) (ci := 7) (v := .int (nI d)) hx hb hts hown hE hS hinX7 0 rfl rfl (by decide) (List.mem_of_getElem? (i := 1) rfl) rfl dX7_hasDefault_6 ?_
      refine lv_icmp_ge (tgt := 44) hx hb dX7_hasDefault_9 (by decide) (fun h9 => ?_) (fun h9 => ?_)
      · skip
        have g9 : d ≤ i4 := (nI_leI (a := d) (b := i4) (by omega) (by omega)).mp h9
        refine lv_iload_n hx hb dX7_hasDefault_44 rfl (lv_at hl 1 rfl) ?_
        exact RET _ () _ _ _ _ dX7_hasDefault_45 (cx_nb b4_1.1) (by have e : i4 = d := (by omega); rw [e] at b4_1; exact b4_1) hS
      · skip
        have g9 : ¬ (d ≤ i4) := fun z => h9 ((nI_leI (a := d) (b := i4) (by omega) (by omega)).mpr z)
        refine lv_iload_n hx hb dX7_hasDefault_12 rfl (lv_at hl 1 rfl) ?_
        have J37 : ∀ (v37_s0 : Int32) (H : Heap) (locs : List Loc) (ls : Array Slot), ((v37_s0 = 0 ∨ v37_s0 = 1) ∧ (¬ v37_s0 = 0 ↔ ∃ j, j < (i4 + 1) ∧ cx_mk (M 3) ((F 0) j).toNatClampNeg (nI 8))) → cx_S D vwCl A s (cyW q cI cZ n T k M d Z F) H locs → lv_has ls 3 [(0, .ref (q 0)), (1, .int v4_l1), (2, .int (nI i4))] → W p l e ({ frames := 1, cells := 0, slots := 0, locals := 23 } : Room) s m args below meth c H locs 0 0 Q (F0 m 37 ls [.int v37_s0]) := by
          intro v37_s0 H locs ls b37 hS hl
          refine lv_istore_n (lv' := [(1, .int v37_s0), (0, .ref (q 0)), (2, .int (nI i4))]) hx hb dX7_hasDefault_37 rfl hl (by decide) rfl (fun ls hl => ?_)
          refine lv_iinc (v := nI (i4 + 1)) (lv' := [(2, .int (nI (i4 + 1))), (1, .int v37_s0), (0, .ref (q 0))]) hx hb dX7_hasDefault_38 hl (k := 2) rfl (cx_inc _) (by decide) rfl (fun ls hl => ?_)
          refine lv_goto (tgt := 4) hx hb dX7_hasDefault_41 (by decide) ?_
          exact ih4 v37_s0 (i4 + 1) _ _ _ (by (try clear b37); (try clear b4_1); omega) (by (try clear b37); (try clear b4_1); omega) (by first | exact b37 | (try clear RET); (try clear hS); (try clear hl); (try clear hE); (try clear hts); (try clear hb); (try clear hx); (try clear hml); (try clear hown); (try clear hinX7); (try clear J4); (try clear ih4); (try clear hN4); (try clear J37); have y10 : ¬ (1 : Int32) = 0 := (by decide); first | assumption | ((try rw [cx_exS (P := fun j => cx_mk (M 3) ((F 0) j).toNatClampNeg (nI 8))]); grind)) hS (lv_sub hl [2, 1, 0] rfl)
        have J32 : ∀ (H : Heap) (locs : List Loc) (ls : Array Slot), (∃ j, j < (i4 + 1) ∧ cx_mk (M 3) ((F 0) j).toNatClampNeg (nI 8)) → cx_S D vwCl A s (cyW q cI cZ n T k M d Z F) H locs → lv_has ls 3 [(0, .ref (q 0)), (1, .int v4_l1), (2, .int (nI i4))] → W p l e ({ frames := 1, cells := 0, slots := 0, locals := 23 } : Room) s m args below meth c H locs 0 0 Q (F0 m 32 ls []) := by
          intro  H locs ls f32 hS hl
          refine lv_iconst (v := (1 : Int32)) hx hb dX7_hasDefault_32 (by decide) ?_
          refine lv_goto (tgt := 37) hx hb dX7_hasDefault_33 (by decide) ?_
          exact J37 (1 : Int32) _ _ _ (cx_e1 (by (try clear RET); (try clear hS); (try clear hl); (try clear hE); (try clear hts); (try clear hb); (try clear hx); (try clear hml); (try clear hown); (try clear hinX7); (try clear J4); (try clear ih4); (try clear hN4); (try clear J37); (try clear J32); have y10 : ¬ (1 : Int32) = 0 := (by decide); first | assumption | ((try rw [cx_exS (P := fun j => cx_mk (M 3) ((F 0) j).toNatClampNeg (nI 8))]); grind))) hS (lv_sub hl [0, 1, 2] rfl)
        refine lv_if_ne (tgt := 32) hx hb dX7_hasDefault_13 (by decide) (fun h13 => ?_) (fun h13 => ?_)
        · skip
          have g13 : ∃ j, j < i4 ∧ cx_mk (M 3) ((F 0) j).toNatClampNeg (nI 8) := b4_1.2.mp h13
          exact J32  _ _ _ (by (try clear RET); (try clear hS); (try clear hl); (try clear hE); (try clear hts); (try clear hb); (try clear hx); (try clear hml); (try clear hown); (try clear hinX7); (try clear J4); (try clear ih4); (try clear hN4); (try clear J37); (try clear J32); have y10 : ¬ (1 : Int32) = 0 := (by decide); first | assumption | ((try rw [cx_exS (P := fun j => cx_mk (M 3) ((F 0) j).toNatClampNeg (nI 8))]); grind)) hS (lv_sub hl [0, 1, 2] rfl)
        · skip
          have g13 : ¬ (∃ j, j < i4 ∧ cx_mk (M 3) ((F 0) j).toNatClampNeg (nI 8)) := fun z => b4_1.2.mpr z h13
          refine lv_aload_n hx hb dX7_hasDefault_16 rfl (lv_at hl 0 rfl) ?_
          refine lv_aload_n hx hb dX7_hasDefault_17 rfl (lv_at hl 0 rfl) ?_
          refine cx_get (own := RX7) (index := 59) (C := RX7) (T := TX7) (N := 22) (k := 19) (ci := 7) (v := .ref (q 17)) hx hb hts hown hE hS hinX7 0 rfl rfl (by decide) (List.mem_of_getElem? (i := 2) rfl) rfl dX7_hasDefault_18 ?_
          refine lv_iload_n hx hb dX7_hasDefault_21 rfl (lv_at hl 2 rfl) ?_
          refine cx_iald (f := (F 0)) (n := 20) (cA := cI) hx hb hE hS 17 0 rfl rfl (by omega) (by decide) dX7_hasDefault_22 ?_
          refine cx_topr (z := nI (((F 0) i4).toNatClampNeg)) (hF _ (by omega)).1 ?_
          refine lv_iconst (v := (1 : Int32)) hx hb dX7_hasDefault_23 (by decide) ?_
          refine lv_bipush (v := nI 8) hx hb dX7_hasDefault_24 (by decide) ?_
          refine cx_cVi (As := [.int (nI (((F 0) i4).toNatClampNeg)), .int (1 : Int32), .int (nI 8)]) (rest := []) ⟨hx, hb, hml, hown, hts⟩ hE hS (c_X7_is_at_1 l D q cI cZ n T k M d Z F (((F 0) i4).toNatClampNeg) (1 : Int32) (nI 8) ((hF _ (by omega)).2) (by first | assumption | omega | rfl)) (cwV 3 hts gX7_hasDefault_X7_is rfl rfl rfl (by decide +kernel) ⟨Nat.le_of_ble_eq_true rfl, Nat.le_of_ble_eq_true rfl⟩) 0 7 rfl rfl rfl hl.1 rfl (Nat.le_of_ble_eq_true rfl) ⟨Nat.zero_le _, Nat.zero_le _⟩ dX7_hasDefault_26 (fun r_26 u_26 H locs hp_26 hS => ?_)
          have hp_26 : (r_26 = 0 ∨ r_26 = 1) ∧ (¬ r_26 = 0 ↔ cx_mk ((M 3)) (((F 0) i4).toNatClampNeg) (nI 8)) := hp_26
          refine lv_if_eq (tgt := 36) hx hb dX7_hasDefault_29 (by decide) (fun h29 => ?_) (fun h29 => ?_)
          · skip
            have g29 : ¬ (cx_mk ((M 3)) (((F 0) i4).toNatClampNeg) (nI 8)) := fun z => hp_26.2.mpr z h29
            refine lv_iconst (v := (0 : Int32)) hx hb dX7_hasDefault_36 (by decide) ?_
            exact J37 (0 : Int32) _ _ _ (cx_e0 (by (try clear RET); (try clear hS); (try clear hl); (try clear hE); (try clear hts); (try clear hb); (try clear hx); (try clear hml); (try clear hown); (try clear hinX7); (try clear J4); (try clear ih4); (try clear hN4); (try clear J37); (try clear J32); have y10 : ¬ (1 : Int32) = 0 := (by decide); first | assumption | ((try rw [cx_exS (P := fun j => cx_mk (M 3) ((F 0) j).toNatClampNeg (nI 8))]); grind))) hS (lv_sub hl [0, 1, 2] rfl)
          · skip
            have g29 : cx_mk ((M 3)) (((F 0) i4).toNatClampNeg) (nI 8) := hp_26.2.mp h29
            exact J32  _ _ _ (by (try clear RET); (try clear hS); (try clear hl); (try clear hE); (try clear hts); (try clear hb); (try clear hx); (try clear hml); (try clear hown); (try clear hinX7); (try clear J4); (try clear ih4); (try clear hN4); (try clear J37); (try clear J32); have y10 : ¬ (1 : Int32) = 0 := (by decide); first | assumption | ((try rw [cx_exS (P := fun j => cx_mk (M 3) ((F 0) j).toNatClampNeg (nI 8))]); grind)) hS (lv_sub hl [0, 1, 2] rfl)
  exact J4 (d - 0 + 1) (nI 0) 0 _ _ _ (Nat.lt_succ_self _) (by (try clear g13); (try clear b4_1); omega) (cx_e0 (by (try clear RET); (try clear hS); (try clear hl); (try clear hE); (try clear hts); (try clear hb); (try clear hx); (try clear hml); (try clear hown); (try clear hinX7); (try clear J4); (try clear ih4); (try clear hN4); have y10 : ¬ (1 : Int32) = 0 := (by decide); first | assumption | ((try rw [cx_exS (P := fun j => cx_mk (M 3) ((F 0) j).toNatClampNeg (nI 8))]); grind))) hS (lv_sub hl [2, 1, 0] rfl)
set_option maxHeartbeats 4000000 in
set_option maxRecDepth 100000 in
theorem c_X7_givenFaults (l : Launch) (D : va_G) (q : Nat → Nat) (cI cZ : ClassId) (n : Nat) (T : Nat → Nat → Int32) (k : Nat) (M : Nat → Nat → Int32) (d : Nat) (Z : Nat → Nat → Int32) (F : Nat → Nat → Int32) (t : Nat) (hn : n ≤ 20) (hP : cx_P (T 3) 20) (hU : cx_R (T 4) 20) (hV : cx_R (T 5) 4) (hKN : cx_KN n T (Z 0) ((Z 3) 0)) (hO : cx_R (M 0) 20) (hk : k ≤ 80) (hOn : ∀ j, j < k → (M 0 j).toNatClampNeg < n) (hX : cx_R (M 4) 4) (hM1 : cx_R (M 1) 10) (hM2 : cx_R (M 2) 5) (ht : t < n) : cx_Mv l D vwCl [(cI, .int), (cZ, .boolean)] cx_NW yX7_givenFaults wsX7_givenFaults ({ frames := 5, cells := 0, slots := 0, locals := 115 } : Room) [.ref (q 0), .int (nI t)] (cyW q cI cZ n T k M d Z F) (fun (uw : (Nat → Int32) × (Int32) × (Nat) × (Nat → Int32) × (Nat → Int32)) => cx_KN n T uw.1 uw.2.1 ∧ ((∀ u, u < n → cx_is (cx_Ar T n) t u → ¬ (cx_Ar T n) u u) → (cx_EE uw.2.2.2.2 ↔ cx_EE (Z 1) ∨ cx_GV n k (T 0) (T 1) (T 2) (T 3) M (cx_Ar T n) t))) (fun uw => (cyW q cI cZ n T k M uw.2.2.1 (cx_u (cx_u (cx_u Z 0 uw.1) 3 (fun _ => uw.2.1)) 1 uw.2.2.2.2) (cx_u F 0 uw.2.2.2.1))) := by
  refine cx_Mv.of (cc := cX7_givenFaults) (maxL := 7) cx_NW_ok (by decide) rfl (Nat.le_of_ble_eq_true rfl) ?_
  intro p e s m args below meth c Q A ls hx hb hml hown hts hE RET hS hl
  have hl : lv_has ls 7 [(0, .ref (q 0)), (1, .int (nI t))] := hl
  have hown : s.vm.findClass RX7 = some m.cls := hown
  have hinX7 : ∀ w ∈ u_ws RX7 TX7 22, w ∈ wsX7_givenFaults := cx_mem [71, 72, 73, 74, 75, 76, 77, 78, 79, 80, 81, 82, 83, 84, 85, 86, 87, 88, 89, 90, 91, 92] (by decide +kernel)
  refine lv_aload_n hx hb dX7_givenFaults_0 rfl (lv_at hl 0 rfl) ?_
  refine cx_get (own := RX7) (index := 7) (C := RX7) (T := TX7) (N := 22) (k := 1) (ci := 7) (v := .ref (q 1)) hx hb hts hown hE hS hinX7 0 rfl rfl (by decide) (List.mem_of_getElem? (i := 1) rfl) rfl dX7_givenFaults_1 ?_
  refine lv_iload_n hx hb dX7_givenFaults_4 rfl (lv_at hl 1 rfl) ?_
  refine cx_iald (f := (T 0)) (n := 20) (cA := cI) hx hb hE hS 1 0 rfl rfl (by omega) (by decide) dX7_givenFaults_5 ?_
  refine lv_iconst (v := (1 : Int32)) hx hb dX7_givenFaults_6 (by decide) ?_
  have J24 : ∀ (v24_s0 : Int32) (H : Heap) (locs : List Loc) (ls : Array Slot), ((v24_s0 = 0 ∨ v24_s0 = 1) ∧ (¬ v24_s0 = 0 ↔ cx_must (T 0) (T 1) t)) → cx_S D vwCl A s (cyW q cI cZ n T k M d Z F) H locs → lv_has ls 7 [(0, .ref (q 0)), (1, .int (nI t))] → W p l e ({ frames := 5, cells := 0, slots := 0, locals := 115 } : Room) s m args below meth c H locs 0 0 Q (F0 m 24 ls [.int v24_s0]) := by
    intro v24_s0 H locs ls b24 hS hl
    refine lv_istore_n (lv' := [(2, .int v24_s0), (0, .ref (q 0)), (1, .int (nI t))]) hx hb dX7_givenFaults_24 rfl hl (by decide) rfl (fun ls hl => ?_)
    refine lv_iconst (v := (0 : Int32)) hx hb dX7_givenFaults_25 (by decide) ?_
    refine cx_topr (z := nI 0) (by decide) ?_
    refine lv_istore_n (lv' := [(3, .int (nI 0)), (2, .int v24_s0), (0, .ref (q 0)), (1, .int (nI t))]) hx hb dX7_givenFaults_26 rfl hl (by decide) rfl (fun ls hl => ?_)
    have J27 : ∀ (N : Nat) (i27 : Nat) (d_27 : Nat) (Z_0_27 : Nat → Int32) (Z_1_27 : Nat → Int32) (Z_3_27 : Nat → Int32) (F_0_27 : Nat → Int32) (H : Heap) (locs : List Loc) (ls : Array Slot), (10 - i27 < N) → (i27 ≤ 10) → (cx_KN n T Z_0_27 (Z_3_27 0)) → ((∀ u, u < n → cx_is (cx_Ar T n) t u → ¬ (cx_Ar T n) u u) → (cx_EE Z_1_27 ↔ cx_EE (Z 1) ∨ ∃ a, a < i27 ∧ ∃ b, b < 5 ∧ cx_gn n k (T 0) (T 1) (T 2) (T 3) M (cx_Ar T n) t (nI a) (nI b))) → cx_S D vwCl A s (cyW q cI cZ n T k M d_27 (cx_u (cx_u (cx_u Z 0 Z_0_27) 1 Z_1_27) 3 Z_3_27) (cx_u F 0 F_0_27)) H locs → lv_has ls 7 [(0, .ref (q 0)), (1, .int (nI t)), (2, .int v24_s0), (3, .int (nI i27))] → W p l e ({ frames := 5, cells := 0, slots := 0, locals := 115 } : Room) s m args below meth c H locs 0 0 Q (F0 m 27 ls []) := by
      intro N27
      induction N27 with
      | zero => intro i27 d_27 Z_0_27 Z_1_27 Z_3_27 F_0_27 H locs ls hN; exact absurd hN (by omega)
      | succ N27 ih27 =>
        intro i27 d_27 Z_0_27 Z_1_27 Z_3_27 F_0_27 H locs ls hN27 hi27 hKN27 hq27 hS hl
        refine lv_iload_n hx hb dX7_givenFaults_27 rfl (lv_at hl 3 rfl) ?_
        refine lv_bipush (v := nI 10) hx hb dX7_givenFaults_28 (by decide) ?_
        refine lv_icmp_ge (tgt := 165) hx hb dX7_givenFaults_30 (by decide) (fun h30 => ?_) (fun h30 => ?_)
        · skip
          have g30 : 10 ≤ i27 := (nI_leI (a := 10) (b := i27) (by omega) (by omega)).mp h30
          exact RET (Z_0_27, Z_3_27 0, d_27, F_0_27, Z_1_27) _ _ _ _ dX7_givenFaults_165 (⟨(by first | assumption | exact hKN), (fun z => cx_gvR hM1 hM2 (cx_goE (hq27 z) (by omega) (by omega)))⟩) hS
        · skip
          have g30 : ¬ (10 ≤ i27) := fun z => h30 ((nI_leI (a := 10) (b := i27) (by omega) (by omega)).mpr z)
          refine lv_iconst (v := (0 : Int32)) hx hb dX7_givenFaults_33 (by decide) ?_
          refine cx_topr (z := nI 0) (by decide) ?_
          refine lv_istore (lv' := [(4, .int (nI 0)), (0, .ref (q 0)), (1, .int (nI t)), (2, .int v24_s0), (3, .int (nI i27))]) hx hb dX7_givenFaults_34 hl (by decide) rfl (fun ls hl => ?_)
          have J36 : ∀ (N : Nat) (i36 : Nat) (d_36 : Nat) (Z_0_36 : Nat → Int32) (Z_1_36 : Nat → Int32) (Z_3_36 : Nat → Int32) (F_0_36 : Nat → Int32) (H : Heap) (locs : List Loc) (ls : Array Slot), (5 - i36 < N) → (i36 ≤ 5) → (cx_KN n T Z_0_36 (Z_3_36 0)) → ((∀ u, u < n → cx_is (cx_Ar T n) t u → ¬ (cx_Ar T n) u u) → (cx_EE Z_1_36 ↔ cx_EE Z_1_27 ∨ ∃ b, b < i36 ∧ cx_gn n k (T 0) (T 1) (T 2) (T 3) M (cx_Ar T n) t (nI i27) (nI b))) → cx_S D vwCl A s (cyW q cI cZ n T k M d_36 (cx_u (cx_u (cx_u Z 0 Z_0_36) 1 Z_1_36) 3 Z_3_36) (cx_u F 0 F_0_36)) H locs → lv_has ls 7 [(0, .ref (q 0)), (1, .int (nI t)), (2, .int v24_s0), (3, .int (nI i27)), (4, .int (nI i36))] → W p l e ({ frames := 5, cells := 0, slots := 0, locals := 115 } : Room) s m args below meth c H locs 0 0 Q (F0 m 36 ls []) := by
            intro N36
            induction N36 with
            | zero => intro i36 d_36 Z_0_36 Z_1_36 Z_3_36 F_0_36 H locs ls hN; exact absurd hN (by omega)
            | succ N36 ih36 =>
              intro i36 d_36 Z_0_36 Z_1_36 Z_3_36 F_0_36 H locs ls hN36 hi36 hKN36 hq36 hS hl
              refine lv_iload hx hb dX7_givenFaults_36 (lv_at hl 4 rfl) ?_
              refine lv_iconst (v := nI 5) hx hb dX7_givenFaults_38 (by decide) ?_
              refine lv_icmp_ge (tgt := 159) hx hb dX7_givenFaults_39 (by decide) (fun h39 => ?_) (fun h39 => ?_)
              · skip
                have g39 : 5 ≤ i36 := (nI_leI (a := 5) (b := i36) (by omega) (by omega)).mp h39
                refine lv_iinc (v := nI (i27 + 1)) (lv' := [(3, .int (nI (i27 + 1))), (0, .ref (q 0)), (1, .int (nI t)), (2, .int v24_s0), (4, .int (nI i36))]) hx hb dX7_givenFaults_159 hl (k := 3) rfl (cx_inc _) (by decide) rfl (fun ls hl => ?_)
                refine lv_goto (tgt := 27) hx hb dX7_givenFaults_162 (by decide) ?_
                exact ih27 (i27 + 1) d_36 Z_0_36 Z_1_36 Z_3_36 F_0_36 _ _ _ (by (try clear hp_146); (try clear hp_135); (try clear hp_98); (try clear hp_86); (try clear hq36); (try clear hq27); omega) (by (try clear hp_146); (try clear hp_135); (try clear hp_98); (try clear hp_86); (try clear hq36); (try clear hq27); omega) (by first | assumption | exact hKN) (by first | exact fun _ => cx_go0 | exact fun z => cx_goS (Q := fun a => ∃ b, b < 5 ∧ cx_gn n k (T 0) (T 1) (T 2) (T 3) M (cx_Ar T n) t (nI a) (nI b)) (hq27 z) (cx_goE (hq36 z) (by omega) (by omega))) hS (lv_sub hl [1, 2, 3, 0] rfl)
              · skip
                have g39 : ¬ (5 ≤ i36) := fun z => h39 ((nI_leI (a := 5) (b := i36) (by omega) (by omega)).mpr z)
                refine lv_aload_n hx hb dX7_givenFaults_42 rfl (lv_at hl 0 rfl) ?_
                refine lv_iload_n hx hb dX7_givenFaults_43 rfl (lv_at hl 1 rfl) ?_
                refine lv_iload_n hx hb dX7_givenFaults_44 rfl (lv_at hl 3 rfl) ?_
                refine lv_iload hx hb dX7_givenFaults_45 (lv_at hl 4 rfl) ?_
                refine cx_cVi (As := [.int (nI t), .int (nI i27), .int (nI i36)]) (rest := []) ⟨hx, hb, hml, hown, hts⟩ hE hS (c_X7_classOne l D q cI cZ n T k M d_36 (cx_u (cx_u (cx_u Z 0 Z_0_36) 1 Z_1_36) 3 Z_3_36) (cx_u F 0 F_0_36) t (nI i27) (nI i36) (by first | assumption | omega | rfl) (by first | assumption | omega | rfl) (by first | assumption | omega | rfl) (by first | assumption | omega | rfl) (by first | assumption | omega | rfl) (by first | assumption | omega | rfl) (by first | assumption | omega | rfl) (by first | assumption | omega | rfl) (by first | assumption | omega | rfl) (by first | assumption | omega | rfl)) (cwV 3 hts gX7_givenFaults_X7_classOne rfl rfl rfl (by decide +kernel) ⟨Nat.le_of_ble_eq_true rfl, Nat.le_of_ble_eq_true rfl⟩) 0 7 rfl rfl rfl hl.1 rfl (Nat.le_of_ble_eq_true rfl) ⟨Nat.zero_le _, Nat.zero_le _⟩ dX7_givenFaults_47 (fun r_47 u_47 H locs hp_47 hS => ?_)
                obtain ⟨za_47, kn_47⟩ := u_47
                have hS : cx_S D vwCl A s (cyW q cI cZ n T k M d_36 (cx_u (cx_u (cx_u Z 1 Z_1_36) 0 za_47) 3 (fun _ => kn_47)) (cx_u F 0 F_0_36)) H locs := hS
                obtain ⟨hKN_47, hp_47⟩ := hp_47
                have hKN_47 : cx_KN n T za_47 kn_47 := hKN_47
                have hp_47 : (cx_co n k ((T 0)) ((T 2)) ((T 3)) M (cx_Ar T n) t (nI i27) (nI i36) r_47) ∧ (r_47 = -1 ∨ cx_ix r_47 80) := hp_47
                refine lv_istore (lv' := [(5, .int r_47), (0, .ref (q 0)), (1, .int (nI t)), (2, .int v24_s0), (3, .int (nI i27)), (4, .int (nI i36))]) hx hb dX7_givenFaults_50 hl (by decide) rfl (fun ls hl => ?_)
                refine lv_aload_n hx hb dX7_givenFaults_52 rfl (lv_at hl 1 rfl) ?_
                refine lv_iload_n hx hb dX7_givenFaults_53 rfl (lv_at hl 2 rfl) ?_
                refine lv_iload_n hx hb dX7_givenFaults_54 rfl (lv_at hl 4 rfl) ?_
                refine lv_iload hx hb dX7_givenFaults_55 (lv_at hl 5 rfl) ?_
                refine cx_cVv (As := [.int (nI t), .int (nI i27), .int (nI i36)]) (rest := []) ⟨hx, hb, hml, hown, hts⟩ hE hS (c_X7_findFaceOnes l D q cI cZ n T k M d_36 (cx_u (cx_u (cx_u Z 1 Z_1_36) 0 za_47) 3 (fun _ => kn_47)) (cx_u F 0 F_0_36) t (nI i27) (nI i36) (by first | assumption | omega | rfl) (by first | assumption | omega | rfl) (by first | assumption | omega | rfl) (by first | assumption | omega | rfl) (by first | assumption | omega | rfl) (by first | assumption | omega | rfl) (by first | assumption | omega | rfl) (by first | assumption | omega | rfl) (by first | assumption | omega | rfl) (by first | assumption | omega | rfl)) (cwV 3 hts gX7_givenFaults_X7_findFaceOnes rfl rfl rfl (by decide +kernel) ⟨Nat.le_of_ble_eq_true rfl, Nat.le_of_ble_eq_true rfl⟩) 0 7 rfl rfl rfl hl.1 rfl (Nat.le_of_ble_eq_true rfl) ⟨Nat.zero_le _, Nat.zero_le _⟩ dX7_givenFaults_57 (fun u_57 H locs hp_57 hS => ?_)
                obtain ⟨za_57, kn_57, d1_57, fo_57⟩ := u_57
                have hS : cx_S D vwCl A s (cyW q cI cZ n T k M d1_57 (cx_u (cx_u (cx_u Z 1 Z_1_36) 0 za_57) 3 (fun _ => kn_57)) (cx_u F 0 fo_57)) H locs := hS
                obtain ⟨hKN_57, hp_57⟩ := hp_57
                have hKN_57 : cx_KN n T za_57 kn_57 := hKN_57
                have hp_57 : (d1_57 ≤ 20 ∧ ∀ j, j < d1_57 → cx_ix (fo_57 j) 80) ∧ ((∀ u, u < n → cx_is (cx_Ar T n) t u → ¬ (cx_Ar T n) u u) → cx_LI (cx_fo k ((T 0)) M (cx_Ar T n) t (nI i27) (nI i36)) fo_57 d1_57) := hp_57
                have hd_57 := hp_57.1.1
                refine lv_iload hx hb dX7_givenFaults_60 (lv_at hl 0 rfl) ?_
                have J101 : ∀ (v101_s0 : Int32) (H : Heap) (locs : List Loc) (ls : Array Slot), (v101_s0 = -1 ∨ cx_ix v101_s0 80) → ((∀ u, u < n → cx_is (cx_Ar T n) t u → ¬ (cx_Ar T n) u u) → (¬ v101_s0 = -1 ↔ cx_g16 M (cx_fo k (T 0) M (cx_Ar T n) t (nI i27) (nI i36)) r_47)) → cx_S D vwCl A s (cyW q cI cZ n T k M d1_57 (cx_u (cx_u (cx_u Z 1 Z_1_36) 0 za_57) 3 (fun _ => kn_57)) (cx_u F 0 fo_57)) H locs → lv_has ls 7 [(0, .ref (q 0)), (1, .int (nI t)), (2, .int v24_s0), (3, .int (nI i27)), (4, .int (nI i36)), (5, .int r_47)] → W p l e ({ frames := 5, cells := 0, slots := 0, locals := 115 } : Room) s m args below meth c H locs 0 0 Q (F0 m 101 ls [.int v101_s0]) := by
                  intro v101_s0 H locs ls hv hw hS hl
                  refine lv_istore (lv' := [(6, .int v101_s0), (0, .ref (q 0)), (1, .int (nI t)), (2, .int v24_s0), (3, .int (nI i27)), (4, .int (nI i36)), (5, .int r_47)]) hx hb dX7_givenFaults_101 hl (by decide) rfl (fun ls hl => ?_)
                  refine lv_iload_n hx hb dX7_givenFaults_103 rfl (lv_at hl 3 rfl) ?_
                  have J121 : ∀ (Z_1_121 : Nat → Int32) (H : Heap) (locs : List Loc) (ls : Array Slot), ((∀ u, u < n → cx_is (cx_Ar T n) t u → ¬ (cx_Ar T n) u u) → (cx_EE Z_1_121 ↔ cx_EE Z_1_36 ∨ (cx_must (T 0) (T 1) t ∧ cx_g16 M (cx_fo k (T 0) M (cx_Ar T n) t (nI i27) (nI i36)) r_47))) → cx_S D vwCl A s (cyW q cI cZ n T k M d1_57 (cx_u (cx_u (cx_u Z 0 za_57) 3 (fun _ => kn_57)) 1 Z_1_121) (cx_u F 0 fo_57)) H locs → lv_has ls 7 [(0, .ref (q 0)), (1, .int (nI t)), (2, .int v24_s0), (3, .int (nI i27)), (4, .int (nI i36)), (5, .int r_47), (6, .int v101_s0)] → W p l e ({ frames := 5, cells := 0, slots := 0, locals := 115 } : Room) s m args below meth c H locs 0 0 Q (F0 m 121 ls []) := by
                    intro Z_1_121 H locs ls hq121 hS hl
                    refine lv_iload hx hb dX7_givenFaults_121 (lv_at hl 5 rfl) ?_
                    have J153 : ∀ (Z_1_153 : Nat → Int32) (H : Heap) (locs : List Loc) (ls : Array Slot), ((∀ u, u < n → cx_is (cx_Ar T n) t u → ¬ (cx_Ar T n) u u) → (cx_EE Z_1_153 ↔ cx_EE Z_1_36 ∨ cx_gn n k (T 0) (T 1) (T 2) (T 3) M (cx_Ar T n) t (nI i27) (nI i36))) → cx_S D vwCl A s (cyW q cI cZ n T k M d1_57 (cx_u (cx_u (cx_u Z 0 za_57) 3 (fun _ => kn_57)) 1 Z_1_153) (cx_u F 0 fo_57)) H locs → lv_has ls 7 [(0, .ref (q 0)), (1, .int (nI t)), (2, .int v24_s0), (3, .int (nI i27)), (4, .int (nI i36)), (5, .int r_47), (6, .int v101_s0)] → W p l e ({ frames := 5, cells := 0, slots := 0, locals := 115 } : Room) s m args below meth c H locs 0 0 Q (F0 m 153 ls []) := by
                      intro Z_1_153 H locs ls hq153 hS hl
                      refine lv_iinc (v := nI (i36 + 1)) (lv' := [(4, .int (nI (i36 + 1))), (0, .ref (q 0)), (1, .int (nI t)), (2, .int v24_s0), (3, .int (nI i27)), (5, .int r_47), (6, .int v101_s0)]) hx hb dX7_givenFaults_153 hl (k := 4) rfl (cx_inc _) (by decide) rfl (fun ls hl => ?_)
                      refine lv_goto (tgt := 36) hx hb dX7_givenFaults_156 (by decide) ?_
                      exact ih36 (i36 + 1) d1_57 za_57 Z_1_153 (fun _ => kn_57) fo_57 _ _ _ (by (try clear hp_146); (try clear hp_135); (try clear hp_98); (try clear hp_86); (try clear hq36); (try clear hq27); omega) (by (try clear hp_146); (try clear hp_135); (try clear hp_98); (try clear hp_86); (try clear hq36); (try clear hq27); omega) (by first | assumption | exact hKN) (by first | exact fun _ => cx_go0 | exact fun z => cx_goS (Q := fun b => cx_gn n k (T 0) (T 1) (T 2) (T 3) M (cx_Ar T n) t (nI i27) (nI b)) (hq36 z) (hq153 z)) hS (lv_sub hl [1, 2, 3, 4, 0] rfl)
                    refine lv_if_ge (tgt := 153) hx hb dX7_givenFaults_123 (by decide) (fun h123 => ?_) (fun h123 => ?_)
                    · skip
                      exact J153 Z_1_121 _ _ _ (by first | exact fun z => cx_r17 hp_47.1 (hq121 z) (fun y => cx_r17a h123 y.1) | exact fun z => cx_r17 hp_47.1 (hq121 z) (fun y => absurd ((hp_57.2 z).two.mpr y.2.1) (by omega)) | exact fun z => cx_r17 hp_47.1 (hq121 z) (fun y => g138 (((hp_57.2 z).ex (G := fun m => cx_mk (M 3) m (nI 8))).mpr y.2.2)) | exact fun z => cx_r17y hp_47 (hq121 z) hp_150 h123 (hp_57.2 z) (by omega) g138) hS (lv_sub hl [0, 1, 2, 3, 4, 5, 6] rfl)
                    · skip
                      refine lv_aload_n hx hb dX7_givenFaults_126 rfl (lv_at hl 0 rfl) ?_
                      refine cx_get (own := RX7) (index := 127) (C := RX7) (T := TX7) (N := 22) (k := 20) (ci := 7) (v := .int (nI d1_57)) hx hb hts hown hE hS hinX7 0 rfl rfl (by decide) (List.mem_of_getElem? (i := 2) rfl) rfl dX7_givenFaults_127 ?_
                      refine lv_iconst (v := (1 : Int32)) hx hb dX7_givenFaults_130 (by decide) ?_
                      refine lv_icmp_le (tgt := 153) hx hb dX7_givenFaults_131 (by decide) (fun h131 => ?_) (fun h131 => ?_)
                      · skip
                        have g131 : d1_57 ≤ 1 := (nI_leI (a := d1_57) (b := 1) (by omega) (by omega)).mp h131
                        exact J153 Z_1_121 _ _ _ (by first | exact fun z => cx_r17 hp_47.1 (hq121 z) (fun y => cx_r17a h123 y.1) | exact fun z => cx_r17 hp_47.1 (hq121 z) (fun y => absurd ((hp_57.2 z).two.mpr y.2.1) (by omega)) | exact fun z => cx_r17 hp_47.1 (hq121 z) (fun y => g138 (((hp_57.2 z).ex (G := fun m => cx_mk (M 3) m (nI 8))).mpr y.2.2)) | exact fun z => cx_r17y hp_47 (hq121 z) hp_150 h123 (hp_57.2 z) (by omega) g138) hS (lv_sub hl [0, 1, 2, 3, 4, 5, 6] rfl)
                      · skip
                        have g131 : ¬ (d1_57 ≤ 1) := fun z => h131 ((nI_leI (a := d1_57) (b := 1) (by omega) (by omega)).mpr z)
                        refine lv_aload_n hx hb dX7_givenFaults_134 rfl (lv_at hl 0 rfl) ?_
                        refine cx_cVi (As := []) (rest := []) ⟨hx, hb, hml, hown, hts⟩ hE hS (c_X7_hasDefault l D q cI cZ n T k M d1_57 (cx_u (cx_u (cx_u Z 0 za_57) 3 (fun _ => kn_57)) 1 Z_1_121) (cx_u F 0 fo_57)  hp_57.1.1 hp_57.1.2) (cwV 0 hts gX7_givenFaults_X7_hasDefault rfl rfl rfl (by decide +kernel) ⟨Nat.le_of_ble_eq_true rfl, Nat.le_of_ble_eq_true rfl⟩) 0 7 rfl rfl rfl hl.1 rfl (Nat.le_of_ble_eq_true rfl) ⟨Nat.zero_le _, Nat.zero_le _⟩ dX7_givenFaults_135 (fun r_135 u_135 H locs hp_135 hS => ?_)
                        have hp_135 : (r_135 = 0 ∨ r_135 = 1) ∧ (¬ r_135 = 0 ↔ ∃ j, j < d1_57 ∧ cx_mk ((M 3)) ((fo_57) j).toNatClampNeg (nI 8)) := hp_135
                        refine lv_if_eq (tgt := 153) hx hb dX7_givenFaults_138 (by decide) (fun h138 => ?_) (fun h138 => ?_)
                        · skip
                          have g138 : ¬ (∃ j, j < d1_57 ∧ cx_mk ((M 3)) ((fo_57) j).toNatClampNeg (nI 8)) := fun z => hp_135.2.mpr z h138
                          exact J153 Z_1_121 _ _ _ (by first | exact fun z => cx_r17 hp_47.1 (hq121 z) (fun y => cx_r17a h123 y.1) | exact fun z => cx_r17 hp_47.1 (hq121 z) (fun y => absurd ((hp_57.2 z).two.mpr y.2.1) (by omega)) | exact fun z => cx_r17 hp_47.1 (hq121 z) (fun y => g138 (((hp_57.2 z).ex (G := fun m => cx_mk (M 3) m (nI 8))).mpr y.2.2)) | exact fun z => cx_r17y hp_47 (hq121 z) hp_150 h123 (hp_57.2 z) (by omega) g138) hS (lv_sub hl [0, 1, 2, 3, 4, 5, 6] rfl)
                        · skip
                          have g138 : ∃ j, j < d1_57 ∧ cx_mk ((M 3)) ((fo_57) j).toNatClampNeg (nI 8) := hp_135.2.mp h138
                          refine lv_aload_n hx hb dX7_givenFaults_141 rfl (lv_at hl 0 rfl) ?_
                          refine lv_bipush (v := nI 17) hx hb dX7_givenFaults_142 (by decide) ?_
                          refine lv_aload_n hx hb dX7_givenFaults_144 rfl (lv_at hl 0 rfl) ?_
                          refine lv_iconst (v := (0 : Int32)) hx hb dX7_givenFaults_145 (by decide) ?_
                          refine cx_cVi (As := [.int (0 : Int32)]) (rest := [.int (nI 17), .ref (q 0)]) ⟨hx, hb, hml, hown, hts⟩ hE hS (c_X7_leastFaceOne l D q cI cZ n T k M d1_57 (cx_u (cx_u (cx_u Z 0 za_57) 3 (fun _ => kn_57)) 1 Z_1_121) (cx_u F 0 fo_57) (0 : Int32) hp_57.1.1 hp_57.1.2) (cwV 1 hts gX7_givenFaults_X7_leastFaceOne rfl rfl rfl (by decide +kernel) ⟨Nat.le_of_ble_eq_true rfl, Nat.le_of_ble_eq_true rfl⟩) 0 7 rfl rfl rfl hl.1 rfl (Nat.le_of_ble_eq_true rfl) ⟨Nat.zero_le _, Nat.zero_le _⟩ dX7_givenFaults_146 (fun r_146 u_146 H locs hp_146 hS => ?_)
                          have hp_146 : ((r_146 = -1 ∨ cx_ix r_146 80) ∧ ((0 : Int32) = 0 → 0 < d1_57 → cx_ix r_146 80)) ∧ (((0 : Int32) = 1 → (¬ r_146 = -1 ↔ ∃ j, j < d1_57 ∧ cx_mk ((M 3)) ((fo_57) j).toNatClampNeg 1)) ∧ ((0 : Int32) = 0 → cx_Mn (fo_57) d1_57 r_146)) := hp_146
                          refine cx_topr (z := nI (r_146.toNatClampNeg)) (hp_146.1.2 rfl (by omega)).1 ?_
                          refine lv_iconst (v := (1 : Int32)) hx hb dX7_givenFaults_149 (by decide) ?_
                          refine cx_cVv (As := [.int (nI 17), .int (nI (r_146.toNatClampNeg)), .int (1 : Int32)]) (rest := []) ⟨hx, hb, hml, hown, hts⟩ hE hS (c_X7_mark l D q cI cZ n T k M d1_57 (cx_u (cx_u (cx_u Z 0 za_57) 3 (fun _ => kn_57)) 1 Z_1_121) (cx_u F 0 fo_57) 17 r_146.toNatClampNeg (1 : Int32) (by first | assumption | omega | rfl) ((hp_146.1.2 rfl (by omega)).2)) (cwV 3 hts gX7_givenFaults_X7_mark rfl rfl rfl (by decide +kernel) ⟨Nat.le_of_ble_eq_true rfl, Nat.le_of_ble_eq_true rfl⟩) 0 7 rfl rfl rfl hl.1 rfl (Nat.le_of_ble_eq_true rfl) ⟨Nat.zero_le _, Nat.zero_le _⟩ dX7_givenFaults_150 (fun u_150 H locs hp_150 hS => ?_)
                          obtain ⟨zf_150, rfl⟩ : ∃ z, z = u_150 := ⟨_, rfl⟩
                          have hS : cx_S D vwCl A s (cyW q cI cZ n T k M d1_57 (cx_u (cx_u (cx_u Z 0 za_57) 3 (fun _ => kn_57)) 1 zf_150) (cx_u F 0 fo_57)) H locs := hS
                          have hp_150 : cx_EE zf_150 ↔ cx_EE (Z_1_121) ∨ ¬ (1 : Int32) = 0 := hp_150
                          exact J153 zf_150 _ _ _ (by first | exact fun z => cx_r17 hp_47.1 (hq121 z) (fun y => cx_r17a h123 y.1) | exact fun z => cx_r17 hp_47.1 (hq121 z) (fun y => absurd ((hp_57.2 z).two.mpr y.2.1) (by omega)) | exact fun z => cx_r17 hp_47.1 (hq121 z) (fun y => g138 (((hp_57.2 z).ex (G := fun m => cx_mk (M 3) m (nI 8))).mpr y.2.2)) | exact fun z => cx_r17y hp_47 (hq121 z) hp_150 h123 (hp_57.2 z) (by omega) g138) hS (lv_sub hl [0, 1, 2, 3, 4, 5, 6] rfl)
                  refine lv_if_eq (tgt := 121) hx hb dX7_givenFaults_104 (by decide) (fun h104 => ?_) (fun h104 => ?_)
                  · skip
                    have g104 : ¬ (cx_must (T 0) (T 1) t) := fun z => b24.2.mpr z h104
                    exact J121 Z_1_36 _ _ _ (by first | exact fun z => cx_goX (fun y => g104 y.1) | exact fun z => cx_goX (fun y => cx_r16n hv h109 ((hw z).mpr y.2)) | exact fun z => by rw [hp_118]; exact cx_r16y g104 ((hw z).mp (cx_ixm (cx_pp hv h109) (by decide)))) hS (lv_sub hl [1, 2, 3, 4, 5, 6, 0] rfl)
                  · skip
                    have g104 : cx_must (T 0) (T 1) t := b24.2.mp h104
                    refine lv_iload hx hb dX7_givenFaults_107 (lv_at hl 0 rfl) ?_
                    refine lv_if_lt (tgt := 121) hx hb dX7_givenFaults_109 (by decide) (fun h109 => ?_) (fun h109 => ?_)
                    · skip
                      exact J121 Z_1_36 _ _ _ (by first | exact fun z => cx_goX (fun y => g104 y.1) | exact fun z => cx_goX (fun y => cx_r16n hv h109 ((hw z).mpr y.2)) | exact fun z => by rw [hp_118]; exact cx_r16y g104 ((hw z).mp (cx_ixm (cx_pp hv h109) (by decide)))) hS (lv_sub hl [1, 2, 3, 4, 5, 6, 0] rfl)
                    · skip
                      refine lv_aload_n hx hb dX7_givenFaults_112 rfl (lv_at hl 1 rfl) ?_
                      refine lv_bipush (v := nI 16) hx hb dX7_givenFaults_113 (by decide) ?_
                      refine lv_iload hx hb dX7_givenFaults_115 (lv_at hl 0 rfl) ?_
                      refine cx_topr (z := nI (v101_s0.toNatClampNeg)) (cx_pp hv h109).1 ?_
                      refine lv_iconst (v := (1 : Int32)) hx hb dX7_givenFaults_117 (by decide) ?_
                      refine cx_cVv (As := [.int (nI 16), .int (nI (v101_s0.toNatClampNeg)), .int (1 : Int32)]) (rest := []) ⟨hx, hb, hml, hown, hts⟩ hE hS (c_X7_mark l D q cI cZ n T k M d1_57 (cx_u (cx_u (cx_u Z 1 Z_1_36) 0 za_57) 3 (fun _ => kn_57)) (cx_u F 0 fo_57) 16 v101_s0.toNatClampNeg (1 : Int32) (by first | assumption | omega | rfl) ((cx_pp hv h109).2)) (cwV 3 hts gX7_givenFaults_X7_mark rfl rfl rfl (by decide +kernel) ⟨Nat.le_of_ble_eq_true rfl, Nat.le_of_ble_eq_true rfl⟩) 0 7 rfl rfl rfl hl.1 rfl (Nat.le_of_ble_eq_true rfl) ⟨Nat.zero_le _, Nat.zero_le _⟩ dX7_givenFaults_118 (fun u_118 H locs hp_118 hS => ?_)
                      obtain ⟨zf_118, rfl⟩ : ∃ z, z = u_118 := ⟨_, rfl⟩
                      have hS : cx_S D vwCl A s (cyW q cI cZ n T k M d1_57 (cx_u (cx_u (cx_u Z 0 za_57) 3 (fun _ => kn_57)) 1 zf_118) (cx_u F 0 fo_57)) H locs := hS
                      have hp_118 : cx_EE zf_118 ↔ cx_EE (Z_1_36) ∨ ¬ (1 : Int32) = 0 := hp_118
                      exact J121 zf_118 _ _ _ (by first | exact fun z => cx_goX (fun y => g104 y.1) | exact fun z => cx_goX (fun y => cx_r16n hv h109 ((hw z).mpr y.2)) | exact fun z => by rw [hp_118]; exact cx_r16y g104 ((hw z).mp (cx_ixm (cx_pp hv h109) (by decide)))) hS (lv_sub hl [1, 2, 3, 4, 5, 6, 0] rfl)
                refine lv_if_lt (tgt := 85) hx hb dX7_givenFaults_62 (by decide) (fun h62 => ?_) (fun h62 => ?_)
                · skip
                  refine lv_aload_n hx hb dX7_givenFaults_85 rfl (lv_at hl 1 rfl) ?_
                  refine cx_cVi (As := []) (rest := []) ⟨hx, hb, hml, hown, hts⟩ hE hS (c_X7_hasDefault l D q cI cZ n T k M d1_57 (cx_u (cx_u (cx_u Z 1 Z_1_36) 0 za_57) 3 (fun _ => kn_57)) (cx_u F 0 fo_57)  hp_57.1.1 hp_57.1.2) (cwV 0 hts gX7_givenFaults_X7_hasDefault rfl rfl rfl (by decide +kernel) ⟨Nat.le_of_ble_eq_true rfl, Nat.le_of_ble_eq_true rfl⟩) 0 7 rfl rfl rfl hl.1 rfl (Nat.le_of_ble_eq_true rfl) ⟨Nat.zero_le _, Nat.zero_le _⟩ dX7_givenFaults_86 (fun r_86 u_86 H locs hp_86 hS => ?_)
                  have hp_86 : (r_86 = 0 ∨ r_86 = 1) ∧ (¬ r_86 = 0 ↔ ∃ j, j < d1_57 ∧ cx_mk ((M 3)) ((fo_57) j).toNatClampNeg (nI 8)) := hp_86
                  refine lv_if_eq (tgt := 96) hx hb dX7_givenFaults_89 (by decide) (fun h89 => ?_) (fun h89 => ?_)
                  · skip
                    have g89 : ¬ (∃ j, j < d1_57 ∧ cx_mk ((M 3)) ((fo_57) j).toNatClampNeg (nI 8)) := fun z => hp_86.2.mpr z h89
                    refine lv_aload_n hx hb dX7_givenFaults_96 rfl (lv_at hl 1 rfl) ?_
                    refine lv_iconst (v := (1 : Int32)) hx hb dX7_givenFaults_97 (by decide) ?_
                    refine cx_cVi (As := [.int (1 : Int32)]) (rest := []) ⟨hx, hb, hml, hown, hts⟩ hE hS (c_X7_leastFaceOne l D q cI cZ n T k M d1_57 (cx_u (cx_u (cx_u Z 1 Z_1_36) 0 za_57) 3 (fun _ => kn_57)) (cx_u F 0 fo_57) (1 : Int32) hp_57.1.1 hp_57.1.2) (cwV 1 hts gX7_givenFaults_X7_leastFaceOne rfl rfl rfl (by decide +kernel) ⟨Nat.le_of_ble_eq_true rfl, Nat.le_of_ble_eq_true rfl⟩) 0 7 rfl rfl rfl hl.1 rfl (Nat.le_of_ble_eq_true rfl) ⟨Nat.zero_le _, Nat.zero_le _⟩ dX7_givenFaults_98 (fun r_98 u_98 H locs hp_98 hS => ?_)
                    have hp_98 : ((r_98 = -1 ∨ cx_ix r_98 80) ∧ ((1 : Int32) = 0 → 0 < d1_57 → cx_ix r_98 80)) ∧ (((1 : Int32) = 1 → (¬ r_98 = -1 ↔ ∃ j, j < d1_57 ∧ cx_mk ((M 3)) ((fo_57) j).toNatClampNeg 1)) ∧ ((1 : Int32) = 0 → cx_Mn (fo_57) d1_57 r_98)) := hp_98
                    exact J101 r_98 _ _ _ (by first | exact Or.inl rfl | exact hp_47.2 | exact hp_98.1.1) (by first | exact fun z => cx_r16a hp_47.2 h62 g73 | exact fun z => cx_r16b hp_47.2 h62 g73 | exact fun z => cx_r16c hp_47.2 h62 (hp_57.2 z) g89 | exact fun z => cx_r16d hp_47.2 h62 (hp_57.2 z) g89 (hp_98.2.1 rfl)) hS (lv_sub hl [1, 2, 3, 4, 5, 0] rfl)
                  · skip
                    have g89 : ∃ j, j < d1_57 ∧ cx_mk ((M 3)) ((fo_57) j).toNatClampNeg (nI 8) := hp_86.2.mp h89
                    refine lv_iconst (v := (-1 : Int32)) hx hb dX7_givenFaults_92 (by decide) ?_
                    refine lv_goto (tgt := 101) hx hb dX7_givenFaults_93 (by decide) ?_
                    exact J101 (-1 : Int32) _ _ _ (by first | exact Or.inl rfl | exact hp_47.2 | exact hp_98.1.1) (by first | exact fun z => cx_r16a hp_47.2 h62 g73 | exact fun z => cx_r16b hp_47.2 h62 g73 | exact fun z => cx_r16c hp_47.2 h62 (hp_57.2 z) g89 | exact fun z => cx_r16d hp_47.2 h62 (hp_57.2 z) g89 (hp_98.2.1 rfl)) hS (lv_sub hl [1, 2, 3, 4, 5, 0] rfl)
                · skip
                  refine lv_aload_n hx hb dX7_givenFaults_65 rfl (lv_at hl 1 rfl) ?_
                  refine lv_iload hx hb dX7_givenFaults_66 (lv_at hl 0 rfl) ?_
                  refine cx_topr (z := nI (r_47.toNatClampNeg)) (cx_pp hp_47.2 h62).1 ?_
                  refine lv_iconst (v := (1 : Int32)) hx hb dX7_givenFaults_68 (by decide) ?_
                  refine lv_iconst (v := (1 : Int32)) hx hb dX7_givenFaults_69 (by decide) ?_
                  refine cx_cVi (As := [.int (nI (r_47.toNatClampNeg)), .int (1 : Int32), .int (1 : Int32)]) (rest := []) ⟨hx, hb, hml, hown, hts⟩ hE hS (c_X7_is_at_1 l D q cI cZ n T k M d1_57 (cx_u (cx_u (cx_u Z 1 Z_1_36) 0 za_57) 3 (fun _ => kn_57)) (cx_u F 0 fo_57) r_47.toNatClampNeg (1 : Int32) (1 : Int32) ((cx_pp hp_47.2 h62).2) (by first | assumption | omega | rfl)) (cwV 3 hts gX7_givenFaults_X7_is rfl rfl rfl (by decide +kernel) ⟨Nat.le_of_ble_eq_true rfl, Nat.le_of_ble_eq_true rfl⟩) 0 7 rfl rfl rfl hl.1 rfl (Nat.le_of_ble_eq_true rfl) ⟨Nat.zero_le _, Nat.zero_le _⟩ dX7_givenFaults_70 (fun r_70 u_70 H locs hp_70 hS => ?_)
                  have hp_70 : (r_70 = 0 ∨ r_70 = 1) ∧ (¬ r_70 = 0 ↔ cx_mk ((M 3)) r_47.toNatClampNeg (1 : Int32)) := hp_70
                  refine lv_if_eq (tgt := 81) hx hb dX7_givenFaults_73 (by decide) (fun h73 => ?_) (fun h73 => ?_)
                  · skip
                    have g73 : ¬ (cx_mk ((M 3)) r_47.toNatClampNeg (1 : Int32)) := fun z => hp_70.2.mpr z h73
                    refine lv_iconst (v := (-1 : Int32)) hx hb dX7_givenFaults_81 (by decide) ?_
                    refine lv_goto (tgt := 101) hx hb dX7_givenFaults_82 (by decide) ?_
                    exact J101 (-1 : Int32) _ _ _ (by first | exact Or.inl rfl | exact hp_47.2 | exact hp_98.1.1) (by first | exact fun z => cx_r16a hp_47.2 h62 g73 | exact fun z => cx_r16b hp_47.2 h62 g73 | exact fun z => cx_r16c hp_47.2 h62 (hp_57.2 z) g89 | exact fun z => cx_r16d hp_47.2 h62 (hp_57.2 z) g89 (hp_98.2.1 rfl)) hS (lv_sub hl [1, 2, 3, 4, 5, 0] rfl)
                  · skip
                    have g73 : cx_mk ((M 3)) r_47.toNatClampNeg (1 : Int32) := hp_70.2.mp h73
                    refine lv_iload hx hb dX7_givenFaults_76 (lv_at hl 0 rfl) ?_
                    refine lv_goto (tgt := 101) hx hb dX7_givenFaults_78 (by decide) ?_
                    exact J101 r_47 _ _ _ (by first | exact Or.inl rfl | exact hp_47.2 | exact hp_98.1.1) (by first | exact fun z => cx_r16a hp_47.2 h62 g73 | exact fun z => cx_r16b hp_47.2 h62 g73 | exact fun z => cx_r16c hp_47.2 h62 (hp_57.2 z) g89 | exact fun z => cx_r16d hp_47.2 h62 (hp_57.2 z) g89 (hp_98.2.1 rfl)) hS (lv_sub hl [1, 2, 3, 4, 5, 0] rfl)
          exact J36 (5 - 0 + 1) 0 d_27 Z_0_27 Z_1_27 Z_3_27 F_0_27 _ _ _ (Nat.lt_succ_self _) (by (try clear g89); (try clear g138); (try clear hp_146); (try clear hp_135); (try clear hp_98); (try clear hp_86); (try clear hq36); (try clear hq27); omega) (by first | assumption | exact hKN) (by first | exact fun _ => cx_go0 | exact fun z => cx_goS (Q := fun b => cx_gn n k (T 0) (T 1) (T 2) (T 3) M (cx_Ar T n) t (nI i27) (nI b)) (hq36 z) (hq153 z)) hS (lv_sub hl [1, 2, 3, 4, 0] rfl)
    exact J27 (10 - 0 + 1) 0 d (Z 0) (Z 1) (Z 3) (F 0) _ _ _ (Nat.lt_succ_self _) (by (try clear g89); (try clear g138); (try clear hp_146); (try clear hp_135); (try clear hp_98); (try clear hp_86); (try clear hq27); omega) (by first | assumption | exact hKN) (by first | exact fun _ => cx_go0 | exact fun z => cx_goS (Q := fun a => ∃ b, b < 5 ∧ cx_gn n k (T 0) (T 1) (T 2) (T 3) M (cx_Ar T n) t (nI a) (nI b)) (hq27 z) (cx_goE (hq36 z) (by omega) (by omega))) hS (lv_sub hl [2, 3, 1, 0] rfl)
  have J23 : ∀ (H : Heap) (locs : List Loc) (ls : Array Slot), (¬ (cx_must (T 0) (T 1) t)) → cx_S D vwCl A s (cyW q cI cZ n T k M d Z F) H locs → lv_has ls 7 [(0, .ref (q 0)), (1, .int (nI t))] → W p l e ({ frames := 5, cells := 0, slots := 0, locals := 115 } : Room) s m args below meth c H locs 0 0 Q (F0 m 23 ls []) := by
    intro  H locs ls f23 hS hl
    refine lv_iconst (v := (0 : Int32)) hx hb dX7_givenFaults_23 (by decide) ?_
    exact J24 (0 : Int32) _ _ _ (cx_e0 (by (try clear RET); (try clear hS); (try clear hl); (try clear hE); (try clear hts); (try clear hb); (try clear hx); (try clear hml); (try clear hown); (try clear hinX7); (try clear J24); (try clear J23); have y10 : ¬ (1 : Int32) = 0 := (by decide); first | assumption | ((try unfold cx_must); grind))) hS (lv_sub hl [0, 1] rfl)
  refine lv_icmp_eq (tgt := 23) hx hb dX7_givenFaults_7 (by decide) (fun h7 => ?_) (fun h7 => ?_)
  · skip
    exact J23  _ _ _ (by (try clear RET); (try clear hS); (try clear hl); (try clear hE); (try clear hts); (try clear hb); (try clear hx); (try clear hml); (try clear hown); (try clear hinX7); (try clear J24); (try clear J23); have y10 : ¬ (1 : Int32) = 0 := (by decide); first | assumption | ((try unfold cx_must); grind)) hS (lv_sub hl [0, 1] rfl)
  · skip
    refine lv_aload_n hx hb dX7_givenFaults_10 rfl (lv_at hl 0 rfl) ?_
    refine lv_iload_n hx hb dX7_givenFaults_11 rfl (lv_at hl 1 rfl) ?_
    refine lv_iconst (v := (1 : Int32)) hx hb dX7_givenFaults_12 (by decide) ?_
    refine cx_cVi (As := [.int (nI t), .int (1 : Int32)]) (rest := []) ⟨hx, hb, hml, hown, hts⟩ hE hS (c_X7_marked l D q cI cZ n T k M d Z F t (1 : Int32) (by first | assumption | omega | rfl)) (cwV 2 hts gX7_givenFaults_X7_marked rfl rfl rfl (by decide +kernel) ⟨Nat.le_of_ble_eq_true rfl, Nat.le_of_ble_eq_true rfl⟩) 0 7 rfl rfl rfl hl.1 rfl (Nat.le_of_ble_eq_true rfl) ⟨Nat.zero_le _, Nat.zero_le _⟩ dX7_givenFaults_13 (fun r_13 u_13 H locs hp_13 hS => ?_)
    have hp_13 : (r_13 = 0 ∨ r_13 = 1) ∧ (¬ r_13 = 0 ↔ cx_mk ((T 1)) t (1 : Int32)) := hp_13
    refine lv_if_ne (tgt := 23) hx hb dX7_givenFaults_16 (by decide) (fun h16 => ?_) (fun h16 => ?_)
    · skip
      have g16 : cx_mk ((T 1)) t (1 : Int32) := hp_13.2.mp h16
      exact J23  _ _ _ (by (try clear RET); (try clear hS); (try clear hl); (try clear hE); (try clear hts); (try clear hb); (try clear hx); (try clear hml); (try clear hown); (try clear hinX7); (try clear J24); (try clear J23); have y10 : ¬ (1 : Int32) = 0 := (by decide); first | assumption | ((try unfold cx_must); grind)) hS (lv_sub hl [0, 1] rfl)
    · skip
      have g16 : ¬ (cx_mk ((T 1)) t (1 : Int32)) := fun z => hp_13.2.mpr z h16
      refine lv_iconst (v := (1 : Int32)) hx hb dX7_givenFaults_19 (by decide) ?_
      refine lv_goto (tgt := 24) hx hb dX7_givenFaults_20 (by decide) ?_
      exact J24 (1 : Int32) _ _ _ (cx_e1 (by (try clear RET); (try clear hS); (try clear hl); (try clear hE); (try clear hts); (try clear hb); (try clear hx); (try clear hml); (try clear hown); (try clear hinX7); (try clear J24); (try clear J23); have y10 : ¬ (1 : Int32) = 0 := (by decide); first | assumption | ((try unfold cx_must); grind))) hS (lv_sub hl [0, 1] rfl)
set_option maxHeartbeats 4000000 in
set_option maxRecDepth 100000 in
theorem c_X7_faultsOf (l : Launch) (D : va_G) (q : Nat → Nat) (cI cZ : ClassId) (n : Nat) (T : Nat → Nat → Int32) (k : Nat) (M : Nat → Nat → Int32) (d : Nat) (Z : Nat → Nat → Int32) (F : Nat → Nat → Int32) (t : Nat) (hn : n ≤ 20) (hP : cx_P (T 3) 20) (hU : cx_R (T 4) 20) (hV : cx_R (T 5) 4) (hKN : cx_KN n T (Z 0) ((Z 3) 0)) (hQ : cx_R (T 6) 20) (hW : cx_R (T 7) 4) (hO : cx_R (M 0) 20) (hk : k ≤ 80) (hOn : ∀ j, j < k → (M 0 j).toNatClampNeg < n) (hX : cx_R (M 4) 4) (hK0 : cx_R (T 0) 4) (hM5 : cx_R (M 5) 30) (hM1 : cx_R (M 1) 10) (hM2 : cx_R (M 2) 5) (ht : t < n) : cx_Mv l D vwCl [(cI, .int), (cZ, .boolean)] cx_NW yX7_faultsOf wsX7_faultsOf ({ frames := 6, cells := 0, slots := 0, locals := 141 } : Room) [.ref (q 0), .int (nI t)] (cyW q cI cZ n T k M d Z F) (fun (uw : (Nat → Int32) × (Int32) × (Nat) × (Nat → Int32) × (Nat → Int32)) => cx_KN n T uw.1 uw.2.1 ∧ (cx_EE uw.2.2.2.2 ↔ cx_AF n k (T 0) (T 1) (T 2) (T 3) M (cx_Ur T) (cx_Wr T) (cx_Vr T) (cx_Ar T n) t)) (fun uw => (cyW q cI cZ n T k M uw.2.2.1 (cx_u (cx_u (cx_u Z 0 uw.1) 3 (fun _ => uw.2.1)) 1 uw.2.2.2.2) (cx_u F 0 uw.2.2.2.1))) := by
  refine cx_Mv.of (cc := cX7_faultsOf) (maxL := 4) cx_NW_ok (by decide) rfl (Nat.le_of_ble_eq_true rfl) ?_
  intro p e s m args below meth c Q A ls hx hb hml hown hts hE RET hS hl
  have hl : lv_has ls 4 [(0, .ref (q 0)), (1, .int (nI t))] := hl
  have hown : s.vm.findClass RX7 = some m.cls := hown
  have hinX7 : ∀ w ∈ u_ws RX7 TX7 22, w ∈ wsX7_faultsOf := cx_mem [126, 127, 128, 129, 130, 131, 132, 133, 134, 135, 136, 137, 138, 139, 140, 141, 142, 143, 144, 145, 146, 147] (by decide +kernel)
  refine lv_aload_n hx hb dX7_faultsOf_0 rfl (lv_at hl 0 rfl) ?_
  refine cx_cVv (As := []) (rest := []) ⟨hx, hb, hml, hown, hts⟩ hE hS (c_X7_know l D q cI cZ n T k M d Z F  (by first | assumption | omega | rfl) (by first | assumption | omega | rfl) (by first | assumption | omega | rfl) (by first | assumption | omega | rfl) (by first | assumption | omega | rfl)) (cwV 0 hts gX7_faultsOf_X7_know rfl rfl rfl (by decide +kernel) ⟨Nat.le_of_ble_eq_true rfl, Nat.le_of_ble_eq_true rfl⟩) 0 7 rfl rfl rfl hl.1 rfl (Nat.le_of_ble_eq_true rfl) ⟨Nat.zero_le _, Nat.zero_le _⟩ dX7_faultsOf_1 (fun u_1 H locs hp_1 hS => ?_)
  obtain ⟨za_1, kn_1⟩ := u_1
  have hS : cx_S D vwCl A s (cyW q cI cZ n T k M d (cx_u (cx_u Z 0 za_1) 3 (fun _ => kn_1)) F) H locs := hS
  obtain ⟨hKN_1, hp_1⟩ := hp_1
  have hKN_1 : cx_KN n T za_1 kn_1 := hKN_1
  have hp_1 : (∀ wa wu, wa < n → wu < n → (¬ za_1 (20 * wa + wu) = 0 ↔ (cx_w3 n (cx_Er T n) n) wa wu)) ∧ ¬ kn_1 = 0 := hp_1
  refine lv_iconst (v := (1 : Int32)) hx hb dX7_faultsOf_4 (by decide) ?_
  refine cx_topr (z := nI 1) (by decide) ?_
  refine lv_istore_n (lv' := [(2, .int (nI 1)), (0, .ref (q 0)), (1, .int (nI t))]) hx hb dX7_faultsOf_5 rfl hl (by decide) rfl (fun ls hl => ?_)
  refine lv_iconst (v := (0 : Int32)) hx hb dX7_faultsOf_6 (by decide) ?_
  refine cx_topr (z := nI 0) (by decide) ?_
  refine lv_istore_n (lv' := [(3, .int (nI 0)), (2, .int (nI 1)), (0, .ref (q 0)), (1, .int (nI t))]) hx hb dX7_faultsOf_7 rfl hl (by decide) rfl (fun ls hl => ?_)
  have J8 : ∀ (N : Nat) (v8_l2 : Int32) (i8 : Nat) (Z_0_8 : Nat → Int32) (Z_1_8 : Nat → Int32) (Z_3_8 : Nat → Int32) (H : Heap) (locs : List Loc) (ls : Array Slot), (n - i8 < N) → (i8 ≤ n) → (cx_KN n T Z_0_8 (Z_3_8 0)) → ((v8_l2 = 0 ∨ v8_l2 = 1) ∧ (¬ v8_l2 = 0 ↔ ∀ u, u < i8 → ¬ (¬ u = t ∧ (cx_Ar T n) t u ∧ cx_FF n (T 0) (T 3) (cx_Ur T) (cx_Vr T) (cx_Ar T n) u))) → (∀ wa wu, wa < n → wu < n → (¬ Z_0_8 (20 * wa + wu) = 0 ↔ (cx_w3 n (cx_Er T n) n) wa wu)) → cx_S D vwCl A s (cyW q cI cZ n T k M d (cx_u (cx_u (cx_u Z 0 Z_0_8) 1 Z_1_8) 3 Z_3_8) F) H locs → lv_has ls 4 [(0, .ref (q 0)), (1, .int (nI t)), (2, .int v8_l2), (3, .int (nI i8))] → W p l e ({ frames := 6, cells := 0, slots := 0, locals := 141 } : Room) s m args below meth c H locs 0 0 Q (F0 m 8 ls []) := by
    intro N8
    induction N8 with
    | zero => intro v8_l2 i8 Z_0_8 Z_1_8 Z_3_8 H locs ls hN; exact absurd hN (by omega)
    | succ N8 ih8 =>
      intro v8_l2 i8 Z_0_8 Z_1_8 Z_3_8 H locs ls hN8 hi8 hKN8 b8_2 hcl hS hl
      refine lv_iload_n hx hb dX7_faultsOf_8 rfl (lv_at hl 3 rfl) ?_
      refine lv_aload_n hx hb dX7_faultsOf_9 rfl (lv_at hl 0 rfl) ?_
      refine cx_get (own := RX7) (index := 65) (C := RX7) (T := TX7) (N := 22) (k := 0) (ci := 7) (v := .int (nI n)) hx hb hts hown hE hS hinX7 0 rfl rfl (by decide) (List.mem_of_getElem? (i := 1) rfl) rfl dX7_faultsOf_10 ?_
      have J63 : ∀ (H : Heap) (locs : List Loc) (ls : Array Slot), ((v8_l2 = 0 ∨ v8_l2 = 1) ∧ (¬ v8_l2 = 0 ↔ ∀ u, u < n → ¬ (¬ u = t ∧ (cx_Ar T n) t u ∧ cx_FF n (T 0) (T 3) (cx_Ur T) (cx_Vr T) (cx_Ar T n) u))) → cx_S D vwCl A s (cyW q cI cZ n T k M d (cx_u (cx_u (cx_u Z 0 Z_0_8) 1 Z_1_8) 3 Z_3_8) F) H locs → lv_has ls 4 [(0, .ref (q 0)), (1, .int (nI t)), (2, .int v8_l2), (3, .int (nI i8))] → W p l e ({ frames := 6, cells := 0, slots := 0, locals := 141 } : Room) s m args below meth c H locs 0 0 Q (F0 m 63 ls []) := by
        intro  H locs ls h63 hS hl
        refine lv_aload_n hx hb dX7_faultsOf_63 rfl (lv_at hl 0 rfl) ?_
        refine lv_iload_n hx hb dX7_faultsOf_64 rfl (lv_at hl 1 rfl) ?_
        refine cx_cVv (As := [.int (nI t)]) (rest := []) ⟨hx, hb, hml, hown, hts⟩ hE hS (c_X7_firstFaults l D q cI cZ n T k M d (cx_u (cx_u (cx_u Z 0 Z_0_8) 1 Z_1_8) 3 Z_3_8) F t (by first | assumption | omega | rfl) (by first | assumption | omega | rfl) (by first | assumption | omega | rfl) (by first | assumption | omega | rfl) (by first | assumption | omega | rfl) (by first | assumption | omega | rfl) (by first | assumption | omega | rfl) (by first | assumption | omega | rfl)) (cwV 1 hts gX7_faultsOf_X7_firstFaults rfl rfl rfl (by decide +kernel) ⟨Nat.le_of_ble_eq_true rfl, Nat.le_of_ble_eq_true rfl⟩) 0 7 rfl rfl rfl hl.1 rfl (Nat.le_of_ble_eq_true rfl) ⟨Nat.zero_le _, Nat.zero_le _⟩ dX7_faultsOf_65 (fun u_65 H locs hp_65 hS => ?_)
        obtain ⟨za_65, kn_65, zf_65⟩ := u_65
        have hS : cx_S D vwCl A s (cyW q cI cZ n T k M d (cx_u (cx_u (cx_u Z 0 za_65) 3 (fun _ => kn_65)) 1 zf_65) F) H locs := hS
        obtain ⟨hKN_65, hp_65⟩ := hp_65
        have hKN_65 : cx_KN n T za_65 kn_65 := hKN_65
        have hp_65 : (cx_EE zf_65 ↔ cx_FF n ((T 0)) ((T 3)) (cx_Ur T) (cx_Vr T) (cx_Ar T n) t) ∧ (∀ wa wu, wa < n → wu < n → (¬ za_65 (20 * wa + wu) = 0 ↔ (cx_w3 n (cx_Er T n) n) wa wu)) := hp_65
        refine lv_iload_n hx hb dX7_faultsOf_68 rfl (lv_at hl 2 rfl) ?_
        have J84 : ∀ (v84_s0 : Int32) (H : Heap) (locs : List Loc) (ls : Array Slot), ((v84_s0 = 0 ∨ v84_s0 = 1) ∧ (¬ v84_s0 = 0 ↔ ¬ cx_SK n (T 0) (T 3) (cx_Ur T) (cx_Vr T) (cx_Ar T n) t)) → cx_S D vwCl A s (cyW q cI cZ n T k M d (cx_u (cx_u (cx_u Z 0 za_65) 3 (fun _ => kn_65)) 1 zf_65) F) H locs → lv_has ls 4 [(0, .ref (q 0)), (1, .int (nI t)), (2, .int v8_l2), (3, .int (nI i8))] → W p l e ({ frames := 6, cells := 0, slots := 0, locals := 141 } : Room) s m args below meth c H locs 0 0 Q (F0 m 84 ls [.int v84_s0]) := by
          intro v84_s0 H locs ls b84 hS hl
          refine lv_istore_n (lv' := [(2, .int v84_s0), (0, .ref (q 0)), (1, .int (nI t)), (3, .int (nI i8))]) hx hb dX7_faultsOf_84 rfl hl (by decide) rfl (fun ls hl => ?_)
          refine lv_aload_n hx hb dX7_faultsOf_85 rfl (lv_at hl 1 rfl) ?_
          refine lv_iload_n hx hb dX7_faultsOf_86 rfl (lv_at hl 2 rfl) ?_
          refine cx_cVv (As := [.int (nI t)]) (rest := []) ⟨hx, hb, hml, hown, hts⟩ hE hS (c_X7_typeFaults l D q cI cZ n T k M d (cx_u (cx_u (cx_u Z 0 za_65) 3 (fun _ => kn_65)) 1 zf_65) F t (by first | assumption | omega | rfl) (by first | assumption | omega | rfl) (by first | assumption | omega | rfl) (by first | assumption | omega | rfl) (by first | assumption | omega | rfl) (by first | assumption | omega | rfl) (by first | assumption | omega | rfl)) (cwV 1 hts gX7_faultsOf_X7_typeFaults rfl rfl rfl (by decide +kernel) ⟨Nat.le_of_ble_eq_true rfl, Nat.le_of_ble_eq_true rfl⟩) 0 7 rfl rfl rfl hl.1 rfl (Nat.le_of_ble_eq_true rfl) ⟨Nat.zero_le _, Nat.zero_le _⟩ dX7_faultsOf_87 (fun u_87 H locs hp_87 hS => ?_)
          obtain ⟨zf_87, rfl⟩ : ∃ z, z = u_87 := ⟨_, rfl⟩
          have hS : cx_S D vwCl A s (cyW q cI cZ n T k M d (cx_u (cx_u (cx_u Z 0 za_65) 3 (fun _ => kn_65)) 1 zf_87) F) H locs := hS
          have hp_87 : cx_EE zf_87 ↔ cx_EE (zf_65) ∨ cx_rT n T t := hp_87
          refine lv_aload_n hx hb dX7_faultsOf_90 rfl (lv_at hl 1 rfl) ?_
          refine lv_iload_n hx hb dX7_faultsOf_91 rfl (lv_at hl 2 rfl) ?_
          refine cx_cVv (As := [.int (nI t)]) (rest := []) ⟨hx, hb, hml, hown, hts⟩ hE hS (c_X7_memberFaults l D q cI cZ n T k M d (cx_u (cx_u (cx_u Z 0 za_65) 3 (fun _ => kn_65)) 1 zf_87) F t (by first | assumption | omega | rfl) (by first | assumption | omega | rfl) (by first | assumption | omega | rfl) (by first | assumption | omega | rfl) (by first | assumption | omega | rfl)) (cwV 1 hts gX7_faultsOf_X7_memberFaults rfl rfl rfl (by decide +kernel) ⟨Nat.le_of_ble_eq_true rfl, Nat.le_of_ble_eq_true rfl⟩) 0 7 rfl rfl rfl hl.1 rfl (Nat.le_of_ble_eq_true rfl) ⟨Nat.zero_le _, Nat.zero_le _⟩ dX7_faultsOf_92 (fun u_92 H locs hp_92 hS => ?_)
          obtain ⟨zf_92, rfl⟩ : ∃ z, z = u_92 := ⟨_, rfl⟩
          have hS : cx_S D vwCl A s (cyW q cI cZ n T k M d (cx_u (cx_u (cx_u Z 0 za_65) 3 (fun _ => kn_65)) 1 zf_92) F) H locs := hS
          have hp_92 : cx_EE zf_92 ↔ cx_EE (zf_87) ∨ cx_MF k ((T 0)) ((T 1)) M t := hp_92
          refine lv_iload_n hx hb dX7_faultsOf_95 rfl (lv_at hl 0 rfl) ?_
          have J109 : ∀ (d_109 : Nat) (Z_0_109 : Nat → Int32) (Z_1_109 : Nat → Int32) (Z_3_109 : Nat → Int32) (F_0_109 : Nat → Int32) (H : Heap) (locs : List Loc) (ls : Array Slot), (cx_KN n T Z_0_109 (Z_3_109 0)) → (cx_EE Z_1_109 ↔ cx_AF n k (T 0) (T 1) (T 2) (T 3) M (cx_Ur T) (cx_Wr T) (cx_Vr T) (cx_Ar T n) t) → cx_S D vwCl A s (cyW q cI cZ n T k M d_109 (cx_u (cx_u (cx_u Z 0 Z_0_109) 1 Z_1_109) 3 Z_3_109) (cx_u F 0 F_0_109)) H locs → lv_has ls 4 [(0, .ref (q 0)), (1, .int (nI t)), (2, .int v84_s0), (3, .int (nI i8))] → W p l e ({ frames := 6, cells := 0, slots := 0, locals := 141 } : Room) s m args below meth c H locs 0 0 Q (F0 m 109 ls []) := by
            intro d_109 Z_0_109 Z_1_109 Z_3_109 F_0_109 H locs ls hKN109 hq hS hl
            exact RET (Z_0_109, Z_3_109 0, d_109, F_0_109, Z_1_109) _ _ _ _ dX7_faultsOf_109 (⟨(by first | assumption | exact hKN), hq⟩) hS
          refine lv_if_eq (tgt := 109) hx hb dX7_faultsOf_96 (by decide) (fun h96 => ?_) (fun h96 => ?_)
          · skip
            have g96 : ¬ (¬ cx_SK n (T 0) (T 3) (cx_Ur T) (cx_Vr T) (cx_Ar T n) t) := fun z => b84.2.mpr z h96
            exact J109 d za_65 zf_92 (fun _ => kn_65) (F 0) _ _ _ (by first | assumption | exact hKN) (by first | exact cx_aS hn ht hQ hp_65.1 hp_87 hp_92 (Classical.not_not.mp g96) | exact cx_aN hn ht hQ hp_65.1 hp_87 hp_92 g96 hp_101 (hp_106 (cx_nr g96))) hS (lv_sub hl [1, 2, 0, 3] rfl)
          · skip
            have g96 : ¬ cx_SK n (T 0) (T 3) (cx_Ur T) (cx_Vr T) (cx_Ar T n) t := b84.2.mp h96
            refine lv_aload_n hx hb dX7_faultsOf_99 rfl (lv_at hl 1 rfl) ?_
            refine lv_iload_n hx hb dX7_faultsOf_100 rfl (lv_at hl 2 rfl) ?_
            refine cx_cVv (As := [.int (nI t)]) (rest := []) ⟨hx, hb, hml, hown, hts⟩ hE hS (c_X7_overFaults l D q cI cZ n T k M d (cx_u (cx_u (cx_u Z 0 za_65) 3 (fun _ => kn_65)) 1 zf_92) F t (by first | assumption | omega | rfl) (by first | assumption | omega | rfl) (by first | assumption | omega | rfl) (by first | assumption | omega | rfl) (by first | assumption | omega | rfl) (by first | assumption | omega | rfl) (by first | assumption | omega | rfl) (by first | assumption | omega | rfl) (by first | assumption | omega | rfl) (by first | assumption | omega | rfl) (by first | assumption | omega | rfl)) (cwV 1 hts gX7_faultsOf_X7_overFaults rfl rfl rfl (by decide +kernel) ⟨Nat.le_of_ble_eq_true rfl, Nat.le_of_ble_eq_true rfl⟩) 0 7 rfl rfl rfl hl.1 rfl (Nat.le_of_ble_eq_true rfl) ⟨Nat.zero_le _, Nat.zero_le _⟩ dX7_faultsOf_101 (fun u_101 H locs hp_101 hS => ?_)
            obtain ⟨za_101, kn_101, zf_101⟩ := u_101
            have hS : cx_S D vwCl A s (cyW q cI cZ n T k M d (cx_u (cx_u (cx_u Z 0 za_101) 3 (fun _ => kn_101)) 1 zf_101) F) H locs := hS
            obtain ⟨hKN_101, hp_101⟩ := hp_101
            have hKN_101 : cx_KN n T za_101 kn_101 := hKN_101
            have hp_101 : cx_EE zf_101 ↔ cx_EE (zf_92) ∨ cx_OV n k ((T 0)) ((T 2)) M (cx_Ar T n) t := hp_101
            refine lv_aload_n hx hb dX7_faultsOf_104 rfl (lv_at hl 1 rfl) ?_
            refine lv_iload_n hx hb dX7_faultsOf_105 rfl (lv_at hl 2 rfl) ?_
            refine cx_cVv (As := [.int (nI t)]) (rest := []) ⟨hx, hb, hml, hown, hts⟩ hE hS (c_X7_givenFaults l D q cI cZ n T k M d (cx_u (cx_u (cx_u Z 0 za_101) 3 (fun _ => kn_101)) 1 zf_101) F t (by first | assumption | omega | rfl) (by first | assumption | omega | rfl) (by first | assumption | omega | rfl) (by first | assumption | omega | rfl) (by first | assumption | omega | rfl) (by first | assumption | omega | rfl) (by first | assumption | omega | rfl) (by first | assumption | omega | rfl) (by first | assumption | omega | rfl) (by first | assumption | omega | rfl) (by first | assumption | omega | rfl) (by first | assumption | omega | rfl)) (cwV 1 hts gX7_faultsOf_X7_givenFaults rfl rfl rfl (by decide +kernel) ⟨Nat.le_of_ble_eq_true rfl, Nat.le_of_ble_eq_true rfl⟩) 0 7 rfl rfl rfl hl.1 rfl (Nat.le_of_ble_eq_true rfl) ⟨Nat.zero_le _, Nat.zero_le _⟩ dX7_faultsOf_106 (fun u_106 H locs hp_106 hS => ?_)
            obtain ⟨za_106, kn_106, d1_106, fo_106, zf_106⟩ := u_106
            have hS : cx_S D vwCl A s (cyW q cI cZ n T k M d1_106 (cx_u (cx_u (cx_u Z 0 za_106) 3 (fun _ => kn_106)) 1 zf_106) (cx_u F 0 fo_106)) H locs := hS
            obtain ⟨hKN_106, hp_106⟩ := hp_106
            have hKN_106 : cx_KN n T za_106 kn_106 := hKN_106
            have hp_106 : (∀ u, u < n → cx_is (cx_Ar T n) t u → ¬ (cx_Ar T n) u u) → (cx_EE zf_106 ↔ cx_EE (zf_101) ∨ cx_GV n k ((T 0)) ((T 1)) ((T 2)) ((T 3)) M (cx_Ar T n) t) := hp_106
            exact J109 d1_106 za_106 zf_106 (fun _ => kn_106) fo_106 _ _ _ (by first | assumption | exact hKN) (by first | exact cx_aS hn ht hQ hp_65.1 hp_87 hp_92 (Classical.not_not.mp g96) | exact cx_aN hn ht hQ hp_65.1 hp_87 hp_92 g96 hp_101 (hp_106 (cx_nr g96))) hS (lv_sub hl [1, 2, 0, 3] rfl)
        have J83 : ∀ (H : Heap) (locs : List Loc) (ls : Array Slot), (¬ (¬ cx_SK n (T 0) (T 3) (cx_Ur T) (cx_Vr T) (cx_Ar T n) t)) → cx_S D vwCl A s (cyW q cI cZ n T k M d (cx_u (cx_u (cx_u Z 0 za_65) 3 (fun _ => kn_65)) 1 zf_65) F) H locs → lv_has ls 4 [(0, .ref (q 0)), (1, .int (nI t)), (2, .int v8_l2), (3, .int (nI i8))] → W p l e ({ frames := 6, cells := 0, slots := 0, locals := 141 } : Room) s m args below meth c H locs 0 0 Q (F0 m 83 ls []) := by
          intro  H locs ls f83 hS hl
          refine lv_iconst (v := (0 : Int32)) hx hb dX7_faultsOf_83 (by decide) ?_
          exact J84 (0 : Int32) _ _ _ (cx_e0 (by (try clear RET); (try clear hS); (try clear hl); (try clear hE); (try clear hts); (try clear hb); (try clear hx); (try clear hml); (try clear hown); (try clear hinX7); (try clear J8); (try clear ih8); (try clear hN8); (try clear J63); (try clear J84); (try clear J83); have y10 : ¬ (1 : Int32) = 0 := (by decide); first | assumption | ((try rw [cx_alS (P := fun u => ¬ u = t ∧ (cx_Ar T n) t u ∧ cx_FF n (T 0) (T 3) (cx_Ur T) (cx_Vr T) (cx_Ar T n) u)]); (try rw [cx_skE ht]); grind))) hS (lv_sub hl [0, 1, 2, 3] rfl)
        refine lv_if_eq (tgt := 83) hx hb dX7_faultsOf_69 (by decide) (fun h69 => ?_) (fun h69 => ?_)
        · skip
          have g69 : ¬ (∀ u, u < i8 → ¬ (¬ u = t ∧ (cx_Ar T n) t u ∧ cx_FF n (T 0) (T 3) (cx_Ur T) (cx_Vr T) (cx_Ar T n) u)) := fun z => b8_2.2.mpr z h69
          exact J83  _ _ _ (by (try clear RET); (try clear hS); (try clear hl); (try clear hE); (try clear hts); (try clear hb); (try clear hx); (try clear hml); (try clear hown); (try clear hinX7); (try clear J8); (try clear ih8); (try clear hN8); (try clear J63); (try clear J84); (try clear J83); have y10 : ¬ (1 : Int32) = 0 := (by decide); first | assumption | ((try rw [cx_alS (P := fun u => ¬ u = t ∧ (cx_Ar T n) t u ∧ cx_FF n (T 0) (T 3) (cx_Ur T) (cx_Vr T) (cx_Ar T n) u)]); (try rw [cx_skE ht]); grind)) hS (lv_sub hl [0, 1, 2, 3] rfl)
        · skip
          have g69 : ∀ u, u < i8 → ¬ (¬ u = t ∧ (cx_Ar T n) t u ∧ cx_FF n (T 0) (T 3) (cx_Ur T) (cx_Vr T) (cx_Ar T n) u) := b8_2.2.mp h69
          refine lv_aload_n hx hb dX7_faultsOf_72 rfl (lv_at hl 0 rfl) ?_
          refine cx_cVi (As := []) (rest := []) ⟨hx, hb, hml, hown, hts⟩ hE hS (c_X7_haveAny l D q cI cZ n T k M d (cx_u (cx_u (cx_u Z 0 za_65) 3 (fun _ => kn_65)) 1 zf_65) F  ) (cwV 0 hts gX7_faultsOf_X7_haveAny rfl rfl rfl (by decide +kernel) ⟨Nat.le_of_ble_eq_true rfl, Nat.le_of_ble_eq_true rfl⟩) 0 7 rfl rfl rfl hl.1 rfl (Nat.le_of_ble_eq_true rfl) ⟨Nat.zero_le _, Nat.zero_le _⟩ dX7_faultsOf_73 (fun r_73 u_73 H locs hp_73 hS => ?_)
          have hp_73 : (r_73 = 0 ∨ r_73 = 1) ∧ (¬ r_73 = 0 ↔ cx_EE (zf_65)) := hp_73
          refine lv_if_ne (tgt := 83) hx hb dX7_faultsOf_76 (by decide) (fun h76 => ?_) (fun h76 => ?_)
          · skip
            have g76 : cx_EE (zf_65) := hp_73.2.mp h76
            exact J83  _ _ _ (by (try clear RET); (try clear hS); (try clear hl); (try clear hE); (try clear hts); (try clear hb); (try clear hx); (try clear hml); (try clear hown); (try clear hinX7); (try clear J8); (try clear ih8); (try clear hN8); (try clear J63); (try clear J84); (try clear J83); have y10 : ¬ (1 : Int32) = 0 := (by decide); first | assumption | ((try rw [cx_alS (P := fun u => ¬ u = t ∧ (cx_Ar T n) t u ∧ cx_FF n (T 0) (T 3) (cx_Ur T) (cx_Vr T) (cx_Ar T n) u)]); (try rw [cx_skE ht]); grind)) hS (lv_sub hl [0, 1, 2, 3] rfl)
          · skip
            have g76 : ¬ (cx_EE (zf_65)) := fun z => hp_73.2.mpr z h76
            refine lv_iconst (v := (1 : Int32)) hx hb dX7_faultsOf_79 (by decide) ?_
            refine lv_goto (tgt := 84) hx hb dX7_faultsOf_80 (by decide) ?_
            exact J84 (1 : Int32) _ _ _ (cx_e1 (by (try clear RET); (try clear hS); (try clear hl); (try clear hE); (try clear hts); (try clear hb); (try clear hx); (try clear hml); (try clear hown); (try clear hinX7); (try clear J8); (try clear ih8); (try clear hN8); (try clear J63); (try clear J84); (try clear J83); have y10 : ¬ (1 : Int32) = 0 := (by decide); first | assumption | ((try rw [cx_alS (P := fun u => ¬ u = t ∧ (cx_Ar T n) t u ∧ cx_FF n (T 0) (T 3) (cx_Ur T) (cx_Vr T) (cx_Ar T n) u)]); (try rw [cx_skE ht]); grind))) hS (lv_sub hl [0, 1, 2, 3] rfl)
      refine lv_icmp_ge (tgt := 63) hx hb dX7_faultsOf_13 (by decide) (fun h13 => ?_) (fun h13 => ?_)
      · skip
        have g13 : n ≤ i8 := (nI_leI (a := n) (b := i8) (by omega) (by omega)).mp h13
        exact J63  _ _ _ (by first | exact cx_al9 b8_2 h17 (by omega) | (have e : i8 = n := (by omega); rw [e] at b8_2; exact b8_2)) hS (lv_sub hl [0, 1, 2, 3] rfl)
      · skip
        have g13 : ¬ (n ≤ i8) := fun z => h13 ((nI_leI (a := n) (b := i8) (by omega) (by omega)).mpr z)
        refine lv_iload_n hx hb dX7_faultsOf_16 rfl (lv_at hl 2 rfl) ?_
        refine lv_if_eq (tgt := 63) hx hb dX7_faultsOf_17 (by decide) (fun h17 => ?_) (fun h17 => ?_)
        · skip
          have g17 : ¬ (∀ u, u < i8 → ¬ (¬ u = t ∧ (cx_Ar T n) t u ∧ cx_FF n (T 0) (T 3) (cx_Ur T) (cx_Vr T) (cx_Ar T n) u)) := fun z => b8_2.2.mpr z h17
          exact J63  _ _ _ (by first | exact cx_al9 b8_2 h17 (by omega) | (have e : i8 = n := (by omega); rw [e] at b8_2; exact b8_2)) hS (lv_sub hl [0, 1, 2, 3] rfl)
        · skip
          have g17 : ∀ u, u < i8 → ¬ (¬ u = t ∧ (cx_Ar T n) t u ∧ cx_FF n (T 0) (T 3) (cx_Ur T) (cx_Vr T) (cx_Ar T n) u) := b8_2.2.mp h17
          refine lv_iload_n hx hb dX7_faultsOf_20 rfl (lv_at hl 3 rfl) ?_
          refine lv_iload_n hx hb dX7_faultsOf_21 rfl (lv_at hl 1 rfl) ?_
          have J57 : ∀ (v57_l2 : Int32) (Z_0_57 : Nat → Int32) (Z_1_57 : Nat → Int32) (Z_3_57 : Nat → Int32) (H : Heap) (locs : List Loc) (ls : Array Slot), (cx_KN n T Z_0_57 (Z_3_57 0)) → ((v57_l2 = 0 ∨ v57_l2 = 1) ∧ (¬ v57_l2 = 0 ↔ ∀ u, u < i8 + 1 → ¬ (¬ u = t ∧ (cx_Ar T n) t u ∧ cx_FF n (T 0) (T 3) (cx_Ur T) (cx_Vr T) (cx_Ar T n) u))) → (∀ wa wu, wa < n → wu < n → (¬ Z_0_57 (20 * wa + wu) = 0 ↔ (cx_w3 n (cx_Er T n) n) wa wu)) → cx_S D vwCl A s (cyW q cI cZ n T k M d (cx_u (cx_u (cx_u Z 0 Z_0_57) 1 Z_1_57) 3 Z_3_57) F) H locs → lv_has ls 4 [(0, .ref (q 0)), (1, .int (nI t)), (2, .int v57_l2), (3, .int (nI i8))] → W p l e ({ frames := 6, cells := 0, slots := 0, locals := 141 } : Room) s m args below meth c H locs 0 0 Q (F0 m 57 ls []) := by
            intro v57_l2 Z_0_57 Z_1_57 Z_3_57 H locs ls hKN57 b57_2 hcl57 hS hl
            refine lv_iinc (v := nI (i8 + 1)) (lv' := [(3, .int (nI (i8 + 1))), (0, .ref (q 0)), (1, .int (nI t)), (2, .int v57_l2)]) hx hb dX7_faultsOf_57 hl (k := 3) rfl (cx_inc _) (by decide) rfl (fun ls hl => ?_)
            refine lv_goto (tgt := 8) hx hb dX7_faultsOf_60 (by decide) ?_
            exact ih8 v57_l2 (i8 + 1) Z_0_57 Z_1_57 Z_3_57 _ _ _ (by omega) (by omega) (by first | assumption | exact hKN) (by first | exact b57_2 | (try clear RET); (try clear hS); (try clear hl); (try clear hE); (try clear hts); (try clear hb); (try clear hx); (try clear hml); (try clear hown); (try clear hinX7); (try clear J8); (try clear ih8); (try clear hN8); (try clear J63); (try clear J57); have y10 : ¬ (1 : Int32) = 0 := (by decide); first | assumption | ((try rw [cx_alS (P := fun u => ¬ u = t ∧ (cx_Ar T n) t u ∧ cx_FF n (T 0) (T 3) (cx_Ur T) (cx_Vr T) (cx_Ar T n) u)]); (try rw [cx_skE ht]); grind)) (by first | exact hp_1.1 | exact hcl57) hS (lv_sub hl [1, 2, 3, 0] rfl)
          refine lv_icmp_eq (tgt := 57) hx hb dX7_faultsOf_22 (by decide) (fun h22 => ?_) (fun h22 => ?_)
          · skip
            have g22 : i8 = t := (nI_eq (a := i8) (b := t) (by omega) (by omega)).mp h22
            exact J57 v8_l2 Z_0_8 Z_1_8 Z_3_8 _ _ _ (by first | assumption | exact hKN) (by first | exact b8_2 | (try clear RET); (try clear hS); (try clear hl); (try clear hE); (try clear hts); (try clear hb); (try clear hx); (try clear hml); (try clear hown); (try clear hinX7); (try clear J8); (try clear ih8); (try clear hN8); (try clear J63); (try clear J57); have y10 : ¬ (1 : Int32) = 0 := (by decide); first | assumption | ((try rw [cx_alS (P := fun u => ¬ u = t ∧ (cx_Ar T n) t u ∧ cx_FF n (T 0) (T 3) (cx_Ur T) (cx_Vr T) (cx_Ar T n) u)]); (try rw [cx_skE ht]); grind)) (by first | exact hcl | exact hp_41.2) hS (lv_sub hl [0, 1, 2, 3] rfl)
          · skip
            have g22 : ¬ (i8 = t) := fun z => h22 ((nI_eq (a := i8) (b := t) (by omega) (by omega)).mpr z)
            refine lv_aload_n hx hb dX7_faultsOf_25 rfl (lv_at hl 0 rfl) ?_
            refine cx_get (own := RX7) (index := 52) (C := RX7) (T := TX7) (N := 22) (k := 16) (ci := 7) (v := .ref (q 15)) hx hb hts hown hE hS hinX7 0 rfl rfl (by decide) (List.mem_of_getElem? (i := 2) rfl) rfl dX7_faultsOf_26 ?_
            refine lv_bipush (v := nI 20) hx hb dX7_faultsOf_29 (by decide) ?_
            refine lv_iload_n hx hb dX7_faultsOf_31 rfl (lv_at hl 1 rfl) ?_
            refine lv_imul hx hb dX7_faultsOf_32 ?_
            refine cx_topr (z := nI (20 * t)) (pk_mul _ _) ?_
            refine lv_iload_n hx hb dX7_faultsOf_33 rfl (lv_at hl 3 rfl) ?_
            refine lv_iadd hx hb dX7_faultsOf_34 ?_
            refine cx_topr (z := nI (20 * t + i8)) (nI_add _ _) ?_
            refine cx_zald (f := Z_0_8) (n := 400) (cA := cZ) hx hb hE hS 15 1 rfl rfl (by omega) (by decide) dX7_faultsOf_35 ?_
            refine lv_if_eq (tgt := 57) hx hb dX7_faultsOf_36 (by decide) (fun h36 => ?_) (fun h36 => ?_)
            · skip
              have y36 : ¬ cx_Ar T n t i8 := fun z => (hcl _ _ ht (by omega)).mpr z.2.2 h36
              exact J57 v8_l2 Z_0_8 Z_1_8 Z_3_8 _ _ _ (by first | assumption | exact hKN) (by first | exact b8_2 | (try clear RET); (try clear hS); (try clear hl); (try clear hE); (try clear hts); (try clear hb); (try clear hx); (try clear hml); (try clear hown); (try clear hinX7); (try clear J8); (try clear ih8); (try clear hN8); (try clear J63); (try clear J57); have y10 : ¬ (1 : Int32) = 0 := (by decide); first | assumption | ((try rw [cx_alS (P := fun u => ¬ u = t ∧ (cx_Ar T n) t u ∧ cx_FF n (T 0) (T 3) (cx_Ur T) (cx_Vr T) (cx_Ar T n) u)]); (try rw [cx_skE ht]); grind)) (by first | exact hcl | exact hp_41.2) hS (lv_sub hl [0, 1, 2, 3] rfl)
            · skip
              have y36 : cx_Ar T n t i8 := ⟨ht, (by omega), (hcl _ _ ht (by omega)).mp h36⟩
              refine lv_aload_n hx hb dX7_faultsOf_39 rfl (lv_at hl 0 rfl) ?_
              refine lv_iload_n hx hb dX7_faultsOf_40 rfl (lv_at hl 3 rfl) ?_
              refine cx_cVv (As := [.int (nI i8)]) (rest := []) ⟨hx, hb, hml, hown, hts⟩ hE hS (c_X7_firstFaults l D q cI cZ n T k M d (cx_u (cx_u (cx_u Z 0 Z_0_8) 1 Z_1_8) 3 Z_3_8) F i8 (by first | assumption | omega | rfl) (by first | assumption | omega | rfl) (by first | assumption | omega | rfl) (by first | assumption | omega | rfl) (by first | assumption | omega | rfl) (by first | assumption | omega | rfl) (by first | assumption | omega | rfl) (by first | assumption | omega | rfl)) (cwV 1 hts gX7_faultsOf_X7_firstFaults rfl rfl rfl (by decide +kernel) ⟨Nat.le_of_ble_eq_true rfl, Nat.le_of_ble_eq_true rfl⟩) 0 7 rfl rfl rfl hl.1 rfl (Nat.le_of_ble_eq_true rfl) ⟨Nat.zero_le _, Nat.zero_le _⟩ dX7_faultsOf_41 (fun u_41 H locs hp_41 hS => ?_)
              obtain ⟨za_41, kn_41, zf_41⟩ := u_41
              have hS : cx_S D vwCl A s (cyW q cI cZ n T k M d (cx_u (cx_u (cx_u Z 0 za_41) 3 (fun _ => kn_41)) 1 zf_41) F) H locs := hS
              obtain ⟨hKN_41, hp_41⟩ := hp_41
              have hKN_41 : cx_KN n T za_41 kn_41 := hKN_41
              have hp_41 : (cx_EE zf_41 ↔ cx_FF n ((T 0)) ((T 3)) (cx_Ur T) (cx_Vr T) (cx_Ar T n) i8) ∧ (∀ wa wu, wa < n → wu < n → (¬ za_41 (20 * wa + wu) = 0 ↔ (cx_w3 n (cx_Er T n) n) wa wu)) := hp_41
              refine lv_aload_n hx hb dX7_faultsOf_44 rfl (lv_at hl 0 rfl) ?_
              refine cx_cVi (As := []) (rest := []) ⟨hx, hb, hml, hown, hts⟩ hE hS (c_X7_haveAny l D q cI cZ n T k M d (cx_u (cx_u (cx_u Z 0 za_41) 3 (fun _ => kn_41)) 1 zf_41) F  ) (cwV 0 hts gX7_faultsOf_X7_haveAny rfl rfl rfl (by decide +kernel) ⟨Nat.le_of_ble_eq_true rfl, Nat.le_of_ble_eq_true rfl⟩) 0 7 rfl rfl rfl hl.1 rfl (Nat.le_of_ble_eq_true rfl) ⟨Nat.zero_le _, Nat.zero_le _⟩ dX7_faultsOf_45 (fun r_45 u_45 H locs hp_45 hS => ?_)
              have hp_45 : (r_45 = 0 ∨ r_45 = 1) ∧ (¬ r_45 = 0 ↔ cx_EE (zf_41)) := hp_45
              have J56 : ∀ (v56_s0 : Int32) (H : Heap) (locs : List Loc) (ls : Array Slot), ((v56_s0 = 0 ∨ v56_s0 = 1) ∧ (¬ v56_s0 = 0 ↔ ¬ cx_FF n (T 0) (T 3) (cx_Ur T) (cx_Vr T) (cx_Ar T n) i8)) → cx_S D vwCl A s (cyW q cI cZ n T k M d (cx_u (cx_u (cx_u Z 0 za_41) 3 (fun _ => kn_41)) 1 zf_41) F) H locs → lv_has ls 4 [(0, .ref (q 0)), (1, .int (nI t)), (2, .int v8_l2), (3, .int (nI i8))] → W p l e ({ frames := 6, cells := 0, slots := 0, locals := 141 } : Room) s m args below meth c H locs 0 0 Q (F0 m 56 ls [.int v56_s0]) := by
                intro v56_s0 H locs ls b56 hS hl
                refine lv_istore_n (lv' := [(2, .int v56_s0), (0, .ref (q 0)), (1, .int (nI t)), (3, .int (nI i8))]) hx hb dX7_faultsOf_56 rfl hl (by decide) rfl (fun ls hl => ?_)
                exact J57 v56_s0 za_41 zf_41 (fun _ => kn_41) _ _ _ (by first | assumption | exact hKN) (by first | exact b56 | (try clear RET); (try clear hS); (try clear hl); (try clear hE); (try clear hts); (try clear hb); (try clear hx); (try clear hml); (try clear hown); (try clear hinX7); (try clear J8); (try clear ih8); (try clear hN8); (try clear J63); (try clear J57); (try clear J56); have y10 : ¬ (1 : Int32) = 0 := (by decide); first | assumption | ((try rw [cx_alS (P := fun u => ¬ u = t ∧ (cx_Ar T n) t u ∧ cx_FF n (T 0) (T 3) (cx_Ur T) (cx_Vr T) (cx_Ar T n) u)]); (try rw [cx_skE ht]); grind)) (by first | exact hcl | exact hp_41.2) hS (lv_sub hl [1, 2, 0, 3] rfl)
              refine lv_if_ne (tgt := 55) hx hb dX7_faultsOf_48 (by decide) (fun h48 => ?_) (fun h48 => ?_)
              · skip
                have g48 : cx_EE (zf_41) := hp_45.2.mp h48
                refine lv_iconst (v := (0 : Int32)) hx hb dX7_faultsOf_55 (by decide) ?_
                exact J56 (0 : Int32) _ _ _ (cx_e0 (by (try clear RET); (try clear hS); (try clear hl); (try clear hE); (try clear hts); (try clear hb); (try clear hx); (try clear hml); (try clear hown); (try clear hinX7); (try clear J8); (try clear ih8); (try clear hN8); (try clear J63); (try clear J57); (try clear J56); have y10 : ¬ (1 : Int32) = 0 := (by decide); first | assumption | ((try rw [cx_alS (P := fun u => ¬ u = t ∧ (cx_Ar T n) t u ∧ cx_FF n (T 0) (T 3) (cx_Ur T) (cx_Vr T) (cx_Ar T n) u)]); (try rw [cx_skE ht]); grind))) hS (lv_sub hl [0, 1, 2, 3] rfl)
              · skip
                have g48 : ¬ (cx_EE (zf_41)) := fun z => hp_45.2.mpr z h48
                refine lv_iconst (v := (1 : Int32)) hx hb dX7_faultsOf_51 (by decide) ?_
                refine lv_goto (tgt := 56) hx hb dX7_faultsOf_52 (by decide) ?_
                exact J56 (1 : Int32) _ _ _ (cx_e1 (by (try clear RET); (try clear hS); (try clear hl); (try clear hE); (try clear hts); (try clear hb); (try clear hx); (try clear hml); (try clear hown); (try clear hinX7); (try clear J8); (try clear ih8); (try clear hN8); (try clear J63); (try clear J57); (try clear J56); have y10 : ¬ (1 : Int32) = 0 := (by decide); first | assumption | ((try rw [cx_alS (P := fun u => ¬ u = t ∧ (cx_Ar T n) t u ∧ cx_FF n (T 0) (T 3) (cx_Ur T) (cx_Vr T) (cx_Ar T n) u)]); (try rw [cx_skE ht]); grind))) hS (lv_sub hl [0, 1, 2, 3] rfl)
  exact J8 (n - 0 + 1) (nI 1) 0 za_1 (Z 1) (fun _ => kn_1) _ _ _ (Nat.lt_succ_self _) (by omega) (by first | assumption | exact hKN) (cx_e1 (by (try clear RET); (try clear hS); (try clear hl); (try clear hE); (try clear hts); (try clear hb); (try clear hx); (try clear hml); (try clear hown); (try clear hinX7); (try clear J8); (try clear ih8); (try clear hN8); have y10 : ¬ (1 : Int32) = 0 := (by decide); first | assumption | ((try rw [cx_alS (P := fun u => ¬ u = t ∧ (cx_Ar T n) t u ∧ cx_FF n (T 0) (T 3) (cx_Ur T) (cx_Vr T) (cx_Ar T n) u)]); (try rw [cx_skE ht]); grind))) (by first | exact hp_1.1 | exact hcl57) hS (lv_sub hl [2, 3, 1, 0] rfl)
