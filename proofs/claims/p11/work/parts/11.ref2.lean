set_option maxHeartbeats 4000000 in
set_option maxRecDepth 100000 in
theorem c_X7_mark (l : Launch) (D : va_G) (q : Nat → Nat) (cI cZ : ClassId) (n : Nat) (T : Nat → Nat → Int32) (k : Nat) (M : Nat → Nat → Int32) (d : Nat) (Z : Nat → Nat → Int32) (F : Nat → Nat → Int32) (kd : Nat) (nb : Nat) (wr : Int32) (hkd : kd < 20) (hnb : nb < 80) : cx_Mv l D vwCl [(cI, .int), (cZ, .boolean)] cx_NW yX7_mark wsX7_mark ({ frames := 0, cells := 0, slots := 0, locals := 0 } : Room) [.ref (q 0), .int (nI kd), .int (nI nb), .int wr] (cyW q cI cZ n T k M d Z F) (fun (uw : (Nat → Int32)) => cx_EE uw ↔ cx_EE (Z 1) ∨ ¬ wr = 0) (fun uw => (cyW q cI cZ n T k M d (cx_u Z 1 uw) F)) := by
  refine cx_Mv.of (cc := cX7_mark) (maxL := 4) cx_NW_ok (by decide) rfl (Nat.le_of_ble_eq_true rfl) ?_
  intro p e s m args below meth c Q A ls hx hb hml hown hts hE RET hS hl
  have hl : lv_has ls 4 [(0, .ref (q 0)), (1, .int (nI kd)), (2, .int (nI nb)), (3, .int wr)] := hl
  have hown : s.vm.findClass RX7 = some m.cls := hown
  have hinX7 : ∀ w ∈ u_ws RX7 TX7 22, w ∈ wsX7_mark := cx_mem [2, 3, 4, 5, 6, 7, 8, 9, 10, 11, 12, 13, 14, 15, 16, 17, 18, 19, 20, 21, 22, 23] (by decide +kernel)
  refine lv_aload_n hx hb dX7_mark_0 rfl (lv_at hl 0 rfl) ?_
  refine cx_get (own := RX7) (index := 56) (C := RX7) (T := TX7) (N := 22) (k := 18) (ci := 7) (v := .ref (q 16)) hx hb hts hown hE hS hinX7 0 rfl rfl (by decide) (List.mem_of_getElem? (i := 1) rfl) rfl dX7_mark_1 ?_
  refine lv_bipush (v := nI 80) hx hb dX7_mark_4 (by decide) ?_
  refine lv_iload_n hx hb dX7_mark_6 rfl (lv_at hl 1 rfl) ?_
  refine lv_imul hx hb dX7_mark_7 ?_
  refine cx_topr (z := nI (80 * kd)) (pk_mul _ _) ?_
  refine lv_iload_n hx hb dX7_mark_8 rfl (lv_at hl 2 rfl) ?_
  refine lv_iadd hx hb dX7_mark_9 ?_
  refine cx_topr (z := nI (80 * kd + nb)) (nI_add _ _) ?_
  refine lv_aload_n hx hb dX7_mark_10 rfl (lv_at hl 0 rfl) ?_
  refine cx_get (own := RX7) (index := 56) (C := RX7) (T := TX7) (N := 22) (k := 18) (ci := 7) (v := .ref (q 16)) hx hb hts hown hE hS hinX7 0 rfl rfl (by decide) (List.mem_of_getElem? (i := 1) rfl) rfl dX7_mark_11 ?_
  refine lv_bipush (v := nI 80) hx hb dX7_mark_14 (by decide) ?_
  refine lv_iload_n hx hb dX7_mark_16 rfl (lv_at hl 1 rfl) ?_
  refine lv_imul hx hb dX7_mark_17 ?_
  refine cx_topr (z := nI (80 * kd)) (pk_mul _ _) ?_
  refine lv_iload_n hx hb dX7_mark_18 rfl (lv_at hl 2 rfl) ?_
  refine lv_iadd hx hb dX7_mark_19 ?_
  refine cx_topr (z := nI (80 * kd + nb)) (nI_add _ _) ?_
  refine cx_zald (f := (Z 1)) (n := 1600) (cA := cZ) hx hb hE hS 16 1 rfl rfl (by omega) (by decide) dX7_mark_20 ?_
  have J33 : ∀ (v33_s0 : Int32) (H : Heap) (locs : List Loc) (ls : Array Slot), ((v33_s0 = 0 ∨ v33_s0 = 1) ∧ (¬ v33_s0 = 0 ↔ ¬ (Z 1) (80 * kd + nb) = 0 ∨ ¬ wr = 0)) → cx_S D vwCl A s (cyW q cI cZ n T k M d Z F) H locs → lv_has ls 4 [(0, .ref (q 0)), (1, .int (nI kd)), (2, .int (nI nb)), (3, .int wr)] → W p l e ({ frames := 0, cells := 0, slots := 0, locals := 0 } : Room) s m args below meth c H locs 0 0 Q (F0 m 33 ls [.int v33_s0, .int (nI (80 * kd + nb)), .ref (q 16)]) := by
    intro v33_s0 H locs ls b33 hS hl
    refine cx_zast (k := 80 * kd + nb) (f := (Z 1)) (n := 1600) (cA := cZ) (ws' := (cyW q cI cZ n T k M d (cx_u Z 1 (upd (Z 1) (80 * kd + nb) (vp_nar .boolean v33_s0))) F)) hx hb hE hS 16 1 rfl rfl (by omega) (by decide) rfl dX7_mark_33 (fun H locs hS => ?_)
    exact RET (upd (Z 1) (80 * kd + nb) (vp_nar .boolean v33_s0)) _ _ _ _ dX7_mark_34 (cx_mkE (by omega) b33) hS
  have J28 : ∀ (H : Heap) (locs : List Loc) (ls : Array Slot), (¬ (Z 1) (80 * kd + nb) = 0 ∨ ¬ wr = 0) → cx_S D vwCl A s (cyW q cI cZ n T k M d Z F) H locs → lv_has ls 4 [(0, .ref (q 0)), (1, .int (nI kd)), (2, .int (nI nb)), (3, .int wr)] → W p l e ({ frames := 0, cells := 0, slots := 0, locals := 0 } : Room) s m args below meth c H locs 0 0 Q (F0 m 28 ls [.int (nI (80 * kd + nb)), .ref (q 16)]) := by
    intro  H locs ls f28 hS hl
    refine lv_iconst (v := (1 : Int32)) hx hb dX7_mark_28 (by decide) ?_
    refine lv_goto (tgt := 33) hx hb dX7_mark_29 (by decide) ?_
    exact J33 (1 : Int32) _ _ _ (cx_e1 (by (try clear RET); (try clear hS); (try clear hl); (try clear hE); (try clear hts); (try clear hb); (try clear hx); (try clear hml); (try clear hown); (try clear hinX7); (try clear J33); (try clear J28); have y10 : ¬ (1 : Int32) = 0 := (by decide); first | assumption | (grind))) hS (lv_sub hl [0, 1, 2, 3] rfl)
  refine lv_if_ne (tgt := 28) hx hb dX7_mark_21 (by decide) (fun h21 => ?_) (fun h21 => ?_)
  · skip
    exact J28  _ _ _ (by (try clear RET); (try clear hS); (try clear hl); (try clear hE); (try clear hts); (try clear hb); (try clear hx); (try clear hml); (try clear hown); (try clear hinX7); (try clear J33); (try clear J28); have y10 : ¬ (1 : Int32) = 0 := (by decide); first | assumption | (grind)) hS (lv_sub hl [0, 1, 2, 3] rfl)
  · skip
    refine lv_iload_n hx hb dX7_mark_24 rfl (lv_at hl 3 rfl) ?_
    refine lv_if_eq (tgt := 32) hx hb dX7_mark_25 (by decide) (fun h25 => ?_) (fun h25 => ?_)
    · skip
      refine lv_iconst (v := (0 : Int32)) hx hb dX7_mark_32 (by decide) ?_
      exact J33 (0 : Int32) _ _ _ (cx_e0 (by (try clear RET); (try clear hS); (try clear hl); (try clear hE); (try clear hts); (try clear hb); (try clear hx); (try clear hml); (try clear hown); (try clear hinX7); (try clear J33); (try clear J28); have y10 : ¬ (1 : Int32) = 0 := (by decide); first | assumption | (grind))) hS (lv_sub hl [0, 1, 2, 3] rfl)
    · skip
      exact J28  _ _ _ (by (try clear RET); (try clear hS); (try clear hl); (try clear hE); (try clear hts); (try clear hb); (try clear hx); (try clear hml); (try clear hown); (try clear hinX7); (try clear J33); (try clear J28); have y10 : ¬ (1 : Int32) = 0 := (by decide); first | assumption | (grind)) hS (lv_sub hl [0, 1, 2, 3] rfl)
set_option maxHeartbeats 4000000 in
set_option maxRecDepth 100000 in
theorem c_X7_firstFaults (l : Launch) (D : va_G) (q : Nat → Nat) (cI cZ : ClassId) (n : Nat) (T : Nat → Nat → Int32) (k : Nat) (M : Nat → Nat → Int32) (d : Nat) (Z : Nat → Nat → Int32) (F : Nat → Nat → Int32) (t : Nat) (hn : n ≤ 20) (hP : cx_P (T 3) 20) (hU : cx_R (T 4) 20) (hV : cx_R (T 5) 4) (hKN : cx_KN n T (Z 0) ((Z 3) 0)) (hQ : cx_R (T 6) 20) (hW : cx_R (T 7) 4) (ht : t < n) : cx_Mv l D vwCl [(cI, .int), (cZ, .boolean)] cx_NW yX7_firstFaults wsX7_firstFaults ({ frames := 3, cells := 0, slots := 0, locals := 66 } : Room) [.ref (q 0), .int (nI t)] (cyW q cI cZ n T k M d Z F) (fun (uw : (Nat → Int32) × (Int32) × (Nat → Int32)) => cx_KN n T uw.1 uw.2.1 ∧ ((cx_EE uw.2.2 ↔ cx_FF n (T 0) (T 3) (cx_Ur T) (cx_Vr T) (cx_Ar T n) t) ∧ (∀ wa wu, wa < n → wu < n → (¬ uw.1 (20 * wa + wu) = 0 ↔ (cx_w3 n (cx_Er T n) n) wa wu)))) (fun uw => (cyW q cI cZ n T k M d (cx_u (cx_u (cx_u Z 0 uw.1) 3 (fun _ => uw.2.1)) 1 uw.2.2) F)) := by
  refine cx_Mv.of (cc := cX7_firstFaults) (maxL := 5) cx_NW_ok (by decide) rfl (Nat.le_of_ble_eq_true rfl) ?_
  intro p e s m args below meth c Q A ls hx hb hml hown hts hE RET hS hl
  have hl : lv_has ls 5 [(0, .ref (q 0)), (1, .int (nI t))] := hl
  have hown : s.vm.findClass RX7 = some m.cls := hown
  have hinX7 : ∀ w ∈ u_ws RX7 TX7 22, w ∈ wsX7_firstFaults := cx_mem [27, 28, 29, 30, 31, 32, 33, 34, 35, 36, 37, 38, 39, 40, 41, 42, 43, 44, 45, 46, 47, 48] (by decide +kernel)
  refine lv_aload_n hx hb dX7_firstFaults_0 rfl (lv_at hl 0 rfl) ?_
  refine cx_cVv (As := []) (rest := []) ⟨hx, hb, hml, hown, hts⟩ hE hS (c_X7_know l D q cI cZ n T k M d Z F  (by first | assumption | omega | rfl) (by first | assumption | omega | rfl) (by first | assumption | omega | rfl) (by first | assumption | omega | rfl) (by first | assumption | omega | rfl)) (cwV 0 hts gX7_firstFaults_X7_know rfl rfl rfl (by decide +kernel) ⟨Nat.le_of_ble_eq_true rfl, Nat.le_of_ble_eq_true rfl⟩) 0 7 rfl rfl rfl hl.1 rfl (Nat.le_of_ble_eq_true rfl) ⟨Nat.zero_le _, Nat.zero_le _⟩ dX7_firstFaults_1 (fun u_1 H locs hp_1 hS => ?_)
  obtain ⟨za_1, kn_1⟩ := u_1
  have hS : cx_S D vwCl A s (cyW q cI cZ n T k M d (cx_u (cx_u Z 0 za_1) 3 (fun _ => kn_1)) F) H locs := hS
  obtain ⟨hKN_1, hp_1⟩ := hp_1
  have hKN_1 : cx_KN n T za_1 kn_1 := hKN_1
  have hp_1 : (∀ wa wu, wa < n → wu < n → (¬ za_1 (20 * wa + wu) = 0 ↔ (cx_w3 n (cx_Er T n) n) wa wu)) ∧ ¬ kn_1 = 0 := hp_1
  refine lv_iconst (v := (0 : Int32)) hx hb dX7_firstFaults_4 (by decide) ?_
  refine cx_topr (z := nI 0) (by decide) ?_
  refine lv_istore_n (lv' := [(2, .int (nI 0)), (0, .ref (q 0)), (1, .int (nI t))]) hx hb dX7_firstFaults_5 rfl hl (by decide) rfl (fun ls hl => ?_)
  have J6 : ∀ (N : Nat) (i6 : Nat) (Z_1_6 : Nat → Int32) (H : Heap) (locs : List Loc) (ls : Array Slot), (1600 - i6 < N) → (i6 ≤ 1600) → (∀ j, j < i6 → Z_1_6 j = 0) → cx_S D vwCl A s (cyW q cI cZ n T k M d (cx_u (cx_u (cx_u Z 0 za_1) 3 (fun _ => kn_1)) 1 Z_1_6) F) H locs → lv_has ls 5 [(0, .ref (q 0)), (1, .int (nI t)), (2, .int (nI i6))] → W p l e ({ frames := 3, cells := 0, slots := 0, locals := 66 } : Room) s m args below meth c H locs 0 0 Q (F0 m 6 ls []) := by
    intro N6
    induction N6 with
    | zero => intro i6 Z_1_6 H locs ls hN; exact absurd hN (by omega)
    | succ N6 ih6 =>
      intro i6 Z_1_6 H locs ls hN6 hi6 hz hS hl
      refine lv_iload_n hx hb dX7_firstFaults_6 rfl (lv_at hl 2 rfl) ?_
      refine lv_sipush (v := nI 1600) hx hb dX7_firstFaults_7 (by decide) ?_
      refine lv_icmp_ge (tgt := 26) hx hb dX7_firstFaults_10 (by decide) (fun h10 => ?_) (fun h10 => ?_)
      · skip
        have g10 : 1600 ≤ i6 := (nI_leI (a := 1600) (b := i6) (by omega) (by omega)).mp h10
        refine lv_aload_n hx hb dX7_firstFaults_26 rfl (lv_at hl 0 rfl) ?_
        refine cx_get (own := RX7) (index := 19) (C := RX7) (T := TX7) (N := 22) (k := 4) (ci := 7) (v := .ref (q 4)) hx hb hts hown hE hS hinX7 0 rfl rfl (by decide) (List.mem_of_getElem? (i := 2) rfl) rfl dX7_firstFaults_27 ?_
        refine lv_iload_n hx hb dX7_firstFaults_30 rfl (lv_at hl 1 rfl) ?_
        refine cx_iald (f := (T 3)) (n := 20) (cA := cI) hx hb hE hS 4 0 rfl rfl (by omega) (by decide) dX7_firstFaults_31 ?_
        refine lv_istore_n (lv' := [(2, .int ((T 3) t)), (0, .ref (q 0)), (1, .int (nI t))]) hx hb dX7_firstFaults_32 rfl hl (by decide) rfl (fun ls hl => ?_)
        refine lv_iload_n hx hb dX7_firstFaults_33 rfl (lv_at hl 0 rfl) ?_
        have J93 : ∀ (Z_1_93 : Nat → Int32) (H : Heap) (locs : List Loc) (ls : Array Slot), (cx_EE Z_1_93 ↔ cx_ffp n T t) → cx_S D vwCl A s (cyW q cI cZ n T k M d (cx_u (cx_u (cx_u Z 0 za_1) 3 (fun _ => kn_1)) 1 Z_1_93) F) H locs → lv_has ls 5 [(0, .ref (q 0)), (1, .int (nI t)), (2, .int ((T 3) t))] → W p l e ({ frames := 3, cells := 0, slots := 0, locals := 66 } : Room) s m args below meth c H locs 0 0 Q (F0 m 93 ls []) := by
          intro Z_1_93 H locs ls hq93 hS hl
          refine lv_iconst (v := (0 : Int32)) hx hb dX7_firstFaults_93 (by decide) ?_
          refine cx_topr (z := nI 0) (by decide) ?_
          refine lv_istore_n (lv' := [(3, .int (nI 0)), (0, .ref (q 0)), (1, .int (nI t)), (2, .int ((T 3) t))]) hx hb dX7_firstFaults_94 rfl hl (by decide) rfl (fun ls hl => ?_)
          have J95 : ∀ (N : Nat) (i95 : Nat) (Z_1_95 : Nat → Int32) (H : Heap) (locs : List Loc) (ls : Array Slot), (((T 5) t).toNatClampNeg - i95 < N) → (i95 ≤ ((T 5) t).toNatClampNeg) → (cx_EE Z_1_95 ↔ cx_ffp n T t ∨ ∃ j, j < i95 ∧ cx_ffu n T t j) → cx_S D vwCl A s (cyW q cI cZ n T k M d (cx_u (cx_u (cx_u Z 0 za_1) 3 (fun _ => kn_1)) 1 Z_1_95) F) H locs → lv_has ls 5 [(0, .ref (q 0)), (1, .int (nI t)), (2, .int ((T 3) t)), (3, .int (nI i95))] → W p l e ({ frames := 3, cells := 0, slots := 0, locals := 66 } : Room) s m args below meth c H locs 0 0 Q (F0 m 95 ls []) := by
            intro N95
            induction N95 with
            | zero => intro i95 Z_1_95 H locs ls hN; exact absurd hN (by omega)
            | succ N95 ih95 =>
              intro i95 Z_1_95 H locs ls hN95 hi95 hq95 hS hl
              refine lv_iload_n hx hb dX7_firstFaults_95 rfl (lv_at hl 3 rfl) ?_
              refine lv_aload_n hx hb dX7_firstFaults_96 rfl (lv_at hl 0 rfl) ?_
              refine cx_get (own := RX7) (index := 25) (C := RX7) (T := TX7) (N := 22) (k := 6) (ci := 7) (v := .ref (q 6)) hx hb hts hown hE hS hinX7 0 rfl rfl (by decide) (List.mem_of_getElem? (i := 5) rfl) rfl dX7_firstFaults_97 ?_
              refine lv_iload_n hx hb dX7_firstFaults_100 rfl (lv_at hl 1 rfl) ?_
              refine cx_iald (f := (T 5)) (n := 20) (cA := cI) hx hb hE hS 6 0 rfl rfl (by omega) (by decide) dX7_firstFaults_101 ?_
              have ho101 := (hV t).2
              refine cx_topr (z := nI (((T 5) t).toNatClampNeg)) (hV t).1 ?_
              refine lv_icmp_ge (tgt := 176) hx hb dX7_firstFaults_102 (by decide) (fun h102 => ?_) (fun h102 => ?_)
              · skip
                have g102 : (((T 5) t).toNatClampNeg) ≤ i95 := (nI_leI (a := ((T 5) t).toNatClampNeg) (b := i95) (by omega) (by omega)).mp h102
                refine lv_iconst (v := (0 : Int32)) hx hb dX7_firstFaults_176 (by decide) ?_
                refine cx_topr (z := nI 0) (by decide) ?_
                refine lv_istore_n (lv' := [(3, .int (nI 0)), (0, .ref (q 0)), (1, .int (nI t)), (2, .int ((T 3) t))]) hx hb dX7_firstFaults_177 rfl hl (by decide) rfl (fun ls hl => ?_)
                have J178 : ∀ (N : Nat) (i178 : Nat) (Z_1_178 : Nat → Int32) (H : Heap) (locs : List Loc) (ls : Array Slot), (((T 7) t).toNatClampNeg - i178 < N) → (i178 ≤ ((T 7) t).toNatClampNeg) → (cx_EE Z_1_178 ↔ (cx_ffp n T t ∨ ∃ j, j < ((T 5) t).toNatClampNeg ∧ cx_ffu n T t j) ∨ ∃ j, j < i178 ∧ ¬ ((T 6) (3 * t + j)).toNatClampNeg < n) → cx_S D vwCl A s (cyW q cI cZ n T k M d (cx_u (cx_u (cx_u Z 0 za_1) 3 (fun _ => kn_1)) 1 Z_1_178) F) H locs → lv_has ls 5 [(0, .ref (q 0)), (1, .int (nI t)), (2, .int ((T 3) t)), (3, .int (nI i178))] → W p l e ({ frames := 3, cells := 0, slots := 0, locals := 66 } : Room) s m args below meth c H locs 0 0 Q (F0 m 178 ls []) := by
                  intro N178
                  induction N178 with
                  | zero => intro i178 Z_1_178 H locs ls hN; exact absurd hN (by omega)
                  | succ N178 ih178 =>
                    intro i178 Z_1_178 H locs ls hN178 hi178 hq178 hS hl
                    refine lv_iload_n hx hb dX7_firstFaults_178 rfl (lv_at hl 3 rfl) ?_
                    refine lv_aload_n hx hb dX7_firstFaults_179 rfl (lv_at hl 0 rfl) ?_
                    refine cx_get (own := RX7) (index := 31) (C := RX7) (T := TX7) (N := 22) (k := 8) (ci := 7) (v := .ref (q 8)) hx hb hts hown hE hS hinX7 0 rfl rfl (by decide) (List.mem_of_getElem? (i := 7) rfl) rfl dX7_firstFaults_180 ?_
                    refine lv_iload_n hx hb dX7_firstFaults_183 rfl (lv_at hl 1 rfl) ?_
                    refine cx_iald (f := (T 7)) (n := 20) (cA := cI) hx hb hE hS 8 0 rfl rfl (by omega) (by decide) dX7_firstFaults_184 ?_
                    have ho184 := (hW t).2
                    refine cx_topr (z := nI (((T 7) t).toNatClampNeg)) (hW t).1 ?_
                    refine lv_icmp_ge (tgt := 231) hx hb dX7_firstFaults_185 (by decide) (fun h185 => ?_) (fun h185 => ?_)
                    · skip
                      have g185 : (((T 7) t).toNatClampNeg) ≤ i178 := (nI_leI (a := ((T 7) t).toNatClampNeg) (b := i178) (by omega) (by omega)).mp h185
                      refine lv_aload_n hx hb dX7_firstFaults_231 rfl (lv_at hl 0 rfl) ?_
                      refine lv_iconst (v := nI 2) hx hb dX7_firstFaults_232 (by decide) ?_
                      refine lv_iload_n hx hb dX7_firstFaults_233 rfl (lv_at hl 1 rfl) ?_
                      refine lv_aload_n hx hb dX7_firstFaults_234 rfl (lv_at hl 0 rfl) ?_
                      refine cx_get (own := RX7) (index := 52) (C := RX7) (T := TX7) (N := 22) (k := 16) (ci := 7) (v := .ref (q 15)) hx hb hts hown hE hS hinX7 0 rfl rfl (by decide) (List.mem_of_getElem? (i := 9) rfl) rfl dX7_firstFaults_235 ?_
                      refine lv_bipush (v := nI 20) hx hb dX7_firstFaults_238 (by decide) ?_
                      refine lv_iload_n hx hb dX7_firstFaults_240 rfl (lv_at hl 1 rfl) ?_
                      refine lv_imul hx hb dX7_firstFaults_241 ?_
                      refine cx_topr (z := nI (20 * t)) (pk_mul _ _) ?_
                      refine lv_iload_n hx hb dX7_firstFaults_242 rfl (lv_at hl 1 rfl) ?_
                      refine lv_iadd hx hb dX7_firstFaults_243 ?_
                      refine cx_topr (z := nI (20 * t + t)) (nI_add _ _) ?_
                      refine cx_zald (f := za_1) (n := 400) (cA := cZ) hx hb hE hS 15 1 rfl rfl (by omega) (by decide) dX7_firstFaults_244 ?_
                      refine cx_cVv (As := [.int (nI 2), .int (nI t), .int (za_1 (20 * t + t))]) (rest := []) ⟨hx, hb, hml, hown, hts⟩ hE hS (c_X7_mark l D q cI cZ n T k M d (cx_u (cx_u (cx_u Z 0 za_1) 3 (fun _ => kn_1)) 1 Z_1_178) F 2 t (za_1 (20 * t + t)) (by first | assumption | omega | rfl) (by first | assumption | omega | rfl)) (cwV 3 hts gX7_firstFaults_X7_mark rfl rfl rfl (by decide +kernel) ⟨Nat.le_of_ble_eq_true rfl, Nat.le_of_ble_eq_true rfl⟩) 0 7 rfl rfl rfl hl.1 rfl (Nat.le_of_ble_eq_true rfl) ⟨Nat.zero_le _, Nat.zero_le _⟩ dX7_firstFaults_245 (fun u_245 H locs hp_245 hS => ?_)
                      obtain ⟨zf_245, rfl⟩ : ∃ z, z = u_245 := ⟨_, rfl⟩
                      have hS : cx_S D vwCl A s (cyW q cI cZ n T k M d (cx_u (cx_u (cx_u Z 0 za_1) 3 (fun _ => kn_1)) 1 zf_245) F) H locs := hS
                      have hp_245 : cx_EE zf_245 ↔ cx_EE (Z_1_178) ∨ ¬ (za_1 (20 * t + t)) = 0 := hp_245
                      exact RET (za_1, kn_1, zf_245) _ _ _ _ dX7_firstFaults_248 (⟨(by first | assumption | exact hKN), ⟨cx_ffE hn ht hU hQ (cx_goE hq178 (by omega) (by omega)) hp_245 (hp_1.1 _ _ ht ht), hp_1.1⟩⟩) hS
                    · skip
                      have g185 : ¬ ((((T 7) t).toNatClampNeg) ≤ i178) := fun z => h185 ((nI_leI (a := ((T 7) t).toNatClampNeg) (b := i178) (by omega) (by omega)).mpr z)
                      refine lv_aload_n hx hb dX7_firstFaults_188 rfl (lv_at hl 0 rfl) ?_
                      refine lv_iconst (v := (1 : Int32)) hx hb dX7_firstFaults_189 (by decide) ?_
                      refine lv_aload_n hx hb dX7_firstFaults_190 rfl (lv_at hl 0 rfl) ?_
                      refine cx_get (own := RX7) (index := 28) (C := RX7) (T := TX7) (N := 22) (k := 7) (ci := 7) (v := .ref (q 7)) hx hb hts hown hE hS hinX7 0 rfl rfl (by decide) (List.mem_of_getElem? (i := 8) rfl) rfl dX7_firstFaults_191 ?_
                      refine lv_iconst (v := nI 3) hx hb dX7_firstFaults_194 (by decide) ?_
                      refine lv_iload_n hx hb dX7_firstFaults_195 rfl (lv_at hl 1 rfl) ?_
                      refine lv_imul hx hb dX7_firstFaults_196 ?_
                      refine cx_topr (z := nI (3 * t)) (pk_mul _ _) ?_
                      refine lv_iload_n hx hb dX7_firstFaults_197 rfl (lv_at hl 3 rfl) ?_
                      refine lv_iadd hx hb dX7_firstFaults_198 ?_
                      refine cx_topr (z := nI (3 * t + i178)) (nI_add _ _) ?_
                      refine cx_iald (f := (T 6)) (n := 60) (cA := cI) hx hb hE hS 7 0 rfl rfl (by omega) (by decide) dX7_firstFaults_199 ?_
                      have ho199 := (hQ (3 * t + i178)).2
                      refine cx_topr (z := nI (((T 6) (3 * t + i178)).toNatClampNeg)) (hQ (3 * t + i178)).1 ?_
                      refine lv_aload_n hx hb dX7_firstFaults_200 rfl (lv_at hl 0 rfl) ?_
                      refine cx_get (own := RX7) (index := 28) (C := RX7) (T := TX7) (N := 22) (k := 7) (ci := 7) (v := .ref (q 7)) hx hb hts hown hE hS hinX7 0 rfl rfl (by decide) (List.mem_of_getElem? (i := 8) rfl) rfl dX7_firstFaults_201 ?_
                      refine lv_iconst (v := nI 3) hx hb dX7_firstFaults_204 (by decide) ?_
                      refine lv_iload_n hx hb dX7_firstFaults_205 rfl (lv_at hl 1 rfl) ?_
                      refine lv_imul hx hb dX7_firstFaults_206 ?_
                      refine cx_topr (z := nI (3 * t)) (pk_mul _ _) ?_
                      refine lv_iload_n hx hb dX7_firstFaults_207 rfl (lv_at hl 3 rfl) ?_
                      refine lv_iadd hx hb dX7_firstFaults_208 ?_
                      refine cx_topr (z := nI (3 * t + i178)) (nI_add _ _) ?_
                      refine cx_iald (f := (T 6)) (n := 60) (cA := cI) hx hb hE hS 7 0 rfl rfl (by omega) (by decide) dX7_firstFaults_209 ?_
                      have ho209 := (hQ (3 * t + i178)).2
                      refine cx_topr (z := nI (((T 6) (3 * t + i178)).toNatClampNeg)) (hQ (3 * t + i178)).1 ?_
                      refine lv_aload_n hx hb dX7_firstFaults_210 rfl (lv_at hl 0 rfl) ?_
                      refine cx_get (own := RX7) (index := 65) (C := RX7) (T := TX7) (N := 22) (k := 0) (ci := 7) (v := .int (nI n)) hx hb hts hown hE hS hinX7 0 rfl rfl (by decide) (List.mem_of_getElem? (i := 3) rfl) rfl dX7_firstFaults_211 ?_
                      have J222 : ∀ (v222_s0 : Int32) (H : Heap) (locs : List Loc) (ls : Array Slot), ((v222_s0 = 0 ∨ v222_s0 = 1) ∧ (¬ v222_s0 = 0 ↔ ¬ ((T 6) (3 * t + i178)).toNatClampNeg < n)) → cx_S D vwCl A s (cyW q cI cZ n T k M d (cx_u (cx_u (cx_u Z 0 za_1) 3 (fun _ => kn_1)) 1 Z_1_178) F) H locs → lv_has ls 5 [(0, .ref (q 0)), (1, .int (nI t)), (2, .int ((T 3) t)), (3, .int (nI i178))] → W p l e ({ frames := 3, cells := 0, slots := 0, locals := 66 } : Room) s m args below meth c H locs 0 0 Q (F0 m 222 ls [.int v222_s0, .int (nI (((T 6) (3 * t + i178)).toNatClampNeg)), .int (1 : Int32), .ref (q 0)]) := by
                        intro v222_s0 H locs ls b222 hS hl
                        refine cx_cVv (As := [.int (1 : Int32), .int (nI (((T 6) (3 * t + i178)).toNatClampNeg)), .int v222_s0]) (rest := []) ⟨hx, hb, hml, hown, hts⟩ hE hS (c_X7_mark l D q cI cZ n T k M d (cx_u (cx_u (cx_u Z 0 za_1) 3 (fun _ => kn_1)) 1 Z_1_178) F 1 (((T 6) (3 * t + i178)).toNatClampNeg) v222_s0 (by first | assumption | omega | rfl) (by first | assumption | omega | rfl)) (cwV 3 hts gX7_firstFaults_X7_mark rfl rfl rfl (by decide +kernel) ⟨Nat.le_of_ble_eq_true rfl, Nat.le_of_ble_eq_true rfl⟩) 0 7 rfl rfl rfl hl.1 rfl (Nat.le_of_ble_eq_true rfl) ⟨Nat.zero_le _, Nat.zero_le _⟩ dX7_firstFaults_222 (fun u_222 H locs hp_222 hS => ?_)
                        obtain ⟨zf_222, rfl⟩ : ∃ z, z = u_222 := ⟨_, rfl⟩
                        have hS : cx_S D vwCl A s (cyW q cI cZ n T k M d (cx_u (cx_u (cx_u Z 0 za_1) 3 (fun _ => kn_1)) 1 zf_222) F) H locs := hS
                        have hp_222 : cx_EE zf_222 ↔ cx_EE (Z_1_178) ∨ ¬ v222_s0 = 0 := hp_222
                        refine lv_iinc (v := nI (i178 + 1)) (lv' := [(3, .int (nI (i178 + 1))), (0, .ref (q 0)), (1, .int (nI t)), (2, .int ((T 3) t))]) hx hb dX7_firstFaults_225 hl (k := 3) rfl (cx_inc _) (by decide) rfl (fun ls hl => ?_)
                        refine lv_goto (tgt := 178) hx hb dX7_firstFaults_228 (by decide) ?_
                        exact ih178 (i178 + 1) zf_222 _ _ _ (by (try clear hq178); (try clear hq95); omega) (by (try clear hq178); (try clear hq95); omega) (by first | exact (cx_goE hq95 (by omega) (by omega)).trans cx_go0 | exact cx_goS (Q := fun j => ¬ ((T 6) (3 * t + j)).toNatClampNeg < n) hq178 (by rw [hp_222, b222.2])) hS (lv_sub hl [1, 2, 3, 0] rfl)
                      refine lv_icmp_lt (tgt := 221) hx hb dX7_firstFaults_214 (by decide) (fun h214 => ?_) (fun h214 => ?_)
                      · skip
                        have g214 : (((T 6) (3 * t + i178)).toNatClampNeg) < n := (nI_ltI (a := ((T 6) (3 * t + i178)).toNatClampNeg) (b := n) (by omega) (by omega)).mp h214
                        refine lv_iconst (v := (0 : Int32)) hx hb dX7_firstFaults_221 (by decide) ?_
                        exact J222 (0 : Int32) _ _ _ (cx_e0 (by (try clear RET); (try clear hS); (try clear hl); (try clear hE); (try clear hts); (try clear hb); (try clear hx); (try clear hml); (try clear hown); (try clear hinX7); (try clear J6); (try clear ih6); (try clear hN6); (try clear J93); (try clear J95); (try clear ih95); (try clear hN95); (try clear J178); (try clear ih178); (try clear hN178); (try clear J222); have y10 : ¬ (1 : Int32) = 0 := (by decide); first | assumption | (grind [Int32.not_le]))) hS (lv_sub hl [0, 1, 2, 3] rfl)
                      · skip
                        have g214 : ¬ ((((T 6) (3 * t + i178)).toNatClampNeg) < n) := fun z => h214 ((nI_ltI (a := ((T 6) (3 * t + i178)).toNatClampNeg) (b := n) (by omega) (by omega)).mpr z)
                        refine lv_iconst (v := (1 : Int32)) hx hb dX7_firstFaults_217 (by decide) ?_
                        refine lv_goto (tgt := 222) hx hb dX7_firstFaults_218 (by decide) ?_
                        exact J222 (1 : Int32) _ _ _ (cx_e1 (by (try clear RET); (try clear hS); (try clear hl); (try clear hE); (try clear hts); (try clear hb); (try clear hx); (try clear hml); (try clear hown); (try clear hinX7); (try clear J6); (try clear ih6); (try clear hN6); (try clear J93); (try clear J95); (try clear ih95); (try clear hN95); (try clear J178); (try clear ih178); (try clear hN178); (try clear J222); have y10 : ¬ (1 : Int32) = 0 := (by decide); first | assumption | (grind [Int32.not_le]))) hS (lv_sub hl [0, 1, 2, 3] rfl)
                exact J178 (((T 7) t).toNatClampNeg - 0 + 1) 0 Z_1_95 _ _ _ (Nat.lt_succ_self _) (by (try clear hq178); (try clear hq95); omega) (by first | exact (cx_goE hq95 (by omega) (by omega)).trans cx_go0 | exact cx_goS (Q := fun j => ¬ ((T 6) (3 * t + j)).toNatClampNeg < n) hq178 (by rw [hp_222, b222.2])) hS (lv_sub hl [1, 2, 3, 0] rfl)
              · skip
                have g102 : ¬ ((((T 5) t).toNatClampNeg) ≤ i95) := fun z => h102 ((nI_leI (a := ((T 5) t).toNatClampNeg) (b := i95) (by omega) (by omega)).mpr z)
                refine lv_aload_n hx hb dX7_firstFaults_105 rfl (lv_at hl 0 rfl) ?_
                refine cx_get (own := RX7) (index := 22) (C := RX7) (T := TX7) (N := 22) (k := 5) (ci := 7) (v := .ref (q 5)) hx hb hts hown hE hS hinX7 0 rfl rfl (by decide) (List.mem_of_getElem? (i := 6) rfl) rfl dX7_firstFaults_106 ?_
                refine lv_iconst (v := nI 3) hx hb dX7_firstFaults_109 (by decide) ?_
                refine lv_iload_n hx hb dX7_firstFaults_110 rfl (lv_at hl 1 rfl) ?_
                refine lv_imul hx hb dX7_firstFaults_111 ?_
                refine cx_topr (z := nI (3 * t)) (pk_mul _ _) ?_
                refine lv_iload_n hx hb dX7_firstFaults_112 rfl (lv_at hl 3 rfl) ?_
                refine lv_iadd hx hb dX7_firstFaults_113 ?_
                refine cx_topr (z := nI (3 * t + i95)) (nI_add _ _) ?_
                refine cx_iald (f := (T 4)) (n := 60) (cA := cI) hx hb hE hS 5 0 rfl rfl (by omega) (by decide) dX7_firstFaults_114 ?_
                have ho114 := (hU (3 * t + i95)).2
                refine cx_topr (z := nI (((T 4) (3 * t + i95)).toNatClampNeg)) (hU (3 * t + i95)).1 ?_
                refine lv_istore (lv' := [(4, .int (nI (((T 4) (3 * t + i95)).toNatClampNeg))), (0, .ref (q 0)), (1, .int (nI t)), (2, .int ((T 3) t)), (3, .int (nI i95))]) hx hb dX7_firstFaults_115 hl (by decide) rfl (fun ls hl => ?_)
                refine lv_aload_n hx hb dX7_firstFaults_117 rfl (lv_at hl 1 rfl) ?_
                refine lv_iconst (v := (1 : Int32)) hx hb dX7_firstFaults_118 (by decide) ?_
                refine lv_iload hx hb dX7_firstFaults_119 (lv_at hl 0 rfl) ?_
                refine lv_iload hx hb dX7_firstFaults_121 (lv_at hl 0 rfl) ?_
                refine lv_aload_n hx hb dX7_firstFaults_123 rfl (lv_at hl 1 rfl) ?_
                refine cx_get (own := RX7) (index := 65) (C := RX7) (T := TX7) (N := 22) (k := 0) (ci := 7) (v := .int (nI n)) hx hb hts hown hE hS hinX7 0 rfl rfl (by decide) (List.mem_of_getElem? (i := 3) rfl) rfl dX7_firstFaults_124 ?_
                have J135 : ∀ (v135_s0 : Int32) (H : Heap) (locs : List Loc) (ls : Array Slot), ((v135_s0 = 0 ∨ v135_s0 = 1) ∧ (¬ v135_s0 = 0 ↔ ¬ ((T 4) (3 * t + i95)).toNatClampNeg < n)) → cx_S D vwCl A s (cyW q cI cZ n T k M d (cx_u (cx_u (cx_u Z 0 za_1) 3 (fun _ => kn_1)) 1 Z_1_95) F) H locs → lv_has ls 5 [(0, .ref (q 0)), (1, .int (nI t)), (2, .int ((T 3) t)), (3, .int (nI i95)), (4, .int (nI (((T 4) (3 * t + i95)).toNatClampNeg)))] → W p l e ({ frames := 3, cells := 0, slots := 0, locals := 66 } : Room) s m args below meth c H locs 0 0 Q (F0 m 135 ls [.int v135_s0, .int (nI (((T 4) (3 * t + i95)).toNatClampNeg)), .int (1 : Int32), .ref (q 0)]) := by
                  intro v135_s0 H locs ls b135 hS hl
                  refine cx_cVv (As := [.int (1 : Int32), .int (nI (((T 4) (3 * t + i95)).toNatClampNeg)), .int v135_s0]) (rest := []) ⟨hx, hb, hml, hown, hts⟩ hE hS (c_X7_mark l D q cI cZ n T k M d (cx_u (cx_u (cx_u Z 0 za_1) 3 (fun _ => kn_1)) 1 Z_1_95) F 1 (((T 4) (3 * t + i95)).toNatClampNeg) v135_s0 (by first | assumption | omega | rfl) (by first | assumption | omega | rfl)) (cwV 3 hts gX7_firstFaults_X7_mark rfl rfl rfl (by decide +kernel) ⟨Nat.le_of_ble_eq_true rfl, Nat.le_of_ble_eq_true rfl⟩) 0 7 rfl rfl rfl hl.1 rfl (Nat.le_of_ble_eq_true rfl) ⟨Nat.zero_le _, Nat.zero_le _⟩ dX7_firstFaults_135 (fun u_135 H locs hp_135 hS => ?_)
                  obtain ⟨zf_135, rfl⟩ : ∃ z, z = u_135 := ⟨_, rfl⟩
                  have hS : cx_S D vwCl A s (cyW q cI cZ n T k M d (cx_u (cx_u (cx_u Z 0 za_1) 3 (fun _ => kn_1)) 1 zf_135) F) H locs := hS
                  have hp_135 : cx_EE zf_135 ↔ cx_EE (Z_1_95) ∨ ¬ v135_s0 = 0 := hp_135
                  refine lv_aload_n hx hb dX7_firstFaults_138 rfl (lv_at hl 0 rfl) ?_
                  refine lv_iconst (v := nI 3) hx hb dX7_firstFaults_139 (by decide) ?_
                  refine lv_iload hx hb dX7_firstFaults_140 (lv_at hl 4 rfl) ?_
                  refine lv_iload hx hb dX7_firstFaults_142 (lv_at hl 4 rfl) ?_
                  refine lv_aload_n hx hb dX7_firstFaults_144 rfl (lv_at hl 0 rfl) ?_
                  refine cx_get (own := RX7) (index := 65) (C := RX7) (T := TX7) (N := 22) (k := 0) (ci := 7) (v := .int (nI n)) hx hb hts hown hE hS hinX7 0 rfl rfl (by decide) (List.mem_of_getElem? (i := 3) rfl) rfl dX7_firstFaults_145 ?_
                  have J167 : ∀ (v167_s0 : Int32) (H : Heap) (locs : List Loc) (ls : Array Slot), ((v167_s0 = 0 ∨ v167_s0 = 1) ∧ (¬ v167_s0 = 0 ↔ ((T 4) (3 * t + i95)).toNatClampNeg < n ∧ ¬ T 0 (((T 4) (3 * t + i95)).toNatClampNeg) = 1)) → cx_S D vwCl A s (cyW q cI cZ n T k M d (cx_u (cx_u (cx_u Z 0 za_1) 3 (fun _ => kn_1)) 1 zf_135) F) H locs → lv_has ls 5 [(0, .ref (q 0)), (1, .int (nI t)), (2, .int ((T 3) t)), (3, .int (nI i95)), (4, .int (nI (((T 4) (3 * t + i95)).toNatClampNeg)))] → W p l e ({ frames := 3, cells := 0, slots := 0, locals := 66 } : Room) s m args below meth c H locs 0 0 Q (F0 m 167 ls [.int v167_s0, .int (nI (((T 4) (3 * t + i95)).toNatClampNeg)), .int (nI 3), .ref (q 0)]) := by
                    intro v167_s0 H locs ls b167 hS hl
                    refine cx_cVv (As := [.int (nI 3), .int (nI (((T 4) (3 * t + i95)).toNatClampNeg)), .int v167_s0]) (rest := []) ⟨hx, hb, hml, hown, hts⟩ hE hS (c_X7_mark l D q cI cZ n T k M d (cx_u (cx_u (cx_u Z 0 za_1) 3 (fun _ => kn_1)) 1 zf_135) F 3 (((T 4) (3 * t + i95)).toNatClampNeg) v167_s0 (by first | assumption | omega | rfl) (by first | assumption | omega | rfl)) (cwV 3 hts gX7_firstFaults_X7_mark rfl rfl rfl (by decide +kernel) ⟨Nat.le_of_ble_eq_true rfl, Nat.le_of_ble_eq_true rfl⟩) 0 7 rfl rfl rfl hl.1 rfl (Nat.le_of_ble_eq_true rfl) ⟨Nat.zero_le _, Nat.zero_le _⟩ dX7_firstFaults_167 (fun u_167 H locs hp_167 hS => ?_)
                    obtain ⟨zf_167, rfl⟩ : ∃ z, z = u_167 := ⟨_, rfl⟩
                    have hS : cx_S D vwCl A s (cyW q cI cZ n T k M d (cx_u (cx_u (cx_u Z 0 za_1) 3 (fun _ => kn_1)) 1 zf_167) F) H locs := hS
                    have hp_167 : cx_EE zf_167 ↔ cx_EE (zf_135) ∨ ¬ v167_s0 = 0 := hp_167
                    refine lv_iinc (v := nI (i95 + 1)) (lv' := [(3, .int (nI (i95 + 1))), (0, .ref (q 0)), (1, .int (nI t)), (2, .int ((T 3) t)), (4, .int (nI (((T 4) (3 * t + i95)).toNatClampNeg)))]) hx hb dX7_firstFaults_170 hl (k := 3) rfl (cx_inc _) (by decide) rfl (fun ls hl => ?_)
                    refine lv_goto (tgt := 95) hx hb dX7_firstFaults_173 (by decide) ?_
                    exact ih95 (i95 + 1) zf_167 _ _ _ (by (try clear hq95); omega) (by (try clear hq95); omega) (by first | exact hq93.trans cx_go0 | exact cx_goS hq95 (by rw [hp_167, hp_135, b135.2, b167.2]; exact or_assoc)) hS (lv_sub hl [1, 2, 3, 0] rfl)
                  have J166 : ∀ (H : Heap) (locs : List Loc) (ls : Array Slot), (¬ (((T 4) (3 * t + i95)).toNatClampNeg < n ∧ ¬ T 0 (((T 4) (3 * t + i95)).toNatClampNeg) = 1)) → cx_S D vwCl A s (cyW q cI cZ n T k M d (cx_u (cx_u (cx_u Z 0 za_1) 3 (fun _ => kn_1)) 1 zf_135) F) H locs → lv_has ls 5 [(0, .ref (q 0)), (1, .int (nI t)), (2, .int ((T 3) t)), (3, .int (nI i95)), (4, .int (nI (((T 4) (3 * t + i95)).toNatClampNeg)))] → W p l e ({ frames := 3, cells := 0, slots := 0, locals := 66 } : Room) s m args below meth c H locs 0 0 Q (F0 m 166 ls [.int (nI (((T 4) (3 * t + i95)).toNatClampNeg)), .int (nI 3), .ref (q 0)]) := by
                    intro  H locs ls f166 hS hl
                    refine lv_iconst (v := (0 : Int32)) hx hb dX7_firstFaults_166 (by decide) ?_
                    exact J167 (0 : Int32) _ _ _ (cx_e0 (by (try clear RET); (try clear hS); (try clear hl); (try clear hE); (try clear hts); (try clear hb); (try clear hx); (try clear hml); (try clear hown); (try clear hinX7); (try clear J6); (try clear ih6); (try clear hN6); (try clear J93); (try clear J95); (try clear ih95); (try clear hN95); (try clear J135); (try clear J167); (try clear J166); have y10 : ¬ (1 : Int32) = 0 := (by decide); first | assumption | (grind [Int32.not_le]))) hS (lv_sub hl [0, 1, 2, 3, 4] rfl)
                  refine lv_icmp_ge (tgt := 166) hx hb dX7_firstFaults_148 (by decide) (fun h148 => ?_) (fun h148 => ?_)
                  · skip
                    have g148 : n ≤ (((T 4) (3 * t + i95)).toNatClampNeg) := (nI_leI (a := n) (b := ((T 4) (3 * t + i95)).toNatClampNeg) (by omega) (by omega)).mp h148
                    exact J166  _ _ _ (by (try clear RET); (try clear hS); (try clear hl); (try clear hE); (try clear hts); (try clear hb); (try clear hx); (try clear hml); (try clear hown); (try clear hinX7); (try clear J6); (try clear ih6); (try clear hN6); (try clear J93); (try clear J95); (try clear ih95); (try clear hN95); (try clear J135); (try clear J167); (try clear J166); have y10 : ¬ (1 : Int32) = 0 := (by decide); first | assumption | (grind [Int32.not_le])) hS (lv_sub hl [0, 1, 2, 3, 4] rfl)
                  · skip
                    have g148 : ¬ (n ≤ (((T 4) (3 * t + i95)).toNatClampNeg)) := fun z => h148 ((nI_leI (a := n) (b := ((T 4) (3 * t + i95)).toNatClampNeg) (by omega) (by omega)).mpr z)
                    refine lv_aload_n hx hb dX7_firstFaults_151 rfl (lv_at hl 0 rfl) ?_
                    refine cx_get (own := RX7) (index := 7) (C := RX7) (T := TX7) (N := 22) (k := 1) (ci := 7) (v := .ref (q 1)) hx hb hts hown hE hS hinX7 0 rfl rfl (by decide) (List.mem_of_getElem? (i := 4) rfl) rfl dX7_firstFaults_152 ?_
                    refine lv_iload hx hb dX7_firstFaults_155 (lv_at hl 4 rfl) ?_
                    refine cx_iald (f := (T 0)) (n := 20) (cA := cI) hx hb hE hS 1 0 rfl rfl (by omega) (by decide) dX7_firstFaults_157 ?_
                    refine lv_iconst (v := (1 : Int32)) hx hb dX7_firstFaults_158 (by decide) ?_
                    refine lv_icmp_eq (tgt := 166) hx hb dX7_firstFaults_159 (by decide) (fun h159 => ?_) (fun h159 => ?_)
                    · skip
                      exact J166  _ _ _ (by (try clear RET); (try clear hS); (try clear hl); (try clear hE); (try clear hts); (try clear hb); (try clear hx); (try clear hml); (try clear hown); (try clear hinX7); (try clear J6); (try clear ih6); (try clear hN6); (try clear J93); (try clear J95); (try clear ih95); (try clear hN95); (try clear J135); (try clear J167); (try clear J166); have y10 : ¬ (1 : Int32) = 0 := (by decide); first | assumption | (grind [Int32.not_le])) hS (lv_sub hl [0, 1, 2, 3, 4] rfl)
                    · skip
                      refine lv_iconst (v := (1 : Int32)) hx hb dX7_firstFaults_162 (by decide) ?_
                      refine lv_goto (tgt := 167) hx hb dX7_firstFaults_163 (by decide) ?_
                      exact J167 (1 : Int32) _ _ _ (cx_e1 (by (try clear RET); (try clear hS); (try clear hl); (try clear hE); (try clear hts); (try clear hb); (try clear hx); (try clear hml); (try clear hown); (try clear hinX7); (try clear J6); (try clear ih6); (try clear hN6); (try clear J93); (try clear J95); (try clear ih95); (try clear hN95); (try clear J135); (try clear J167); (try clear J166); have y10 : ¬ (1 : Int32) = 0 := (by decide); first | assumption | (grind [Int32.not_le]))) hS (lv_sub hl [0, 1, 2, 3, 4] rfl)
                refine lv_icmp_lt (tgt := 134) hx hb dX7_firstFaults_127 (by decide) (fun h127 => ?_) (fun h127 => ?_)
                · skip
                  have g127 : (((T 4) (3 * t + i95)).toNatClampNeg) < n := (nI_ltI (a := ((T 4) (3 * t + i95)).toNatClampNeg) (b := n) (by omega) (by omega)).mp h127
                  refine lv_iconst (v := (0 : Int32)) hx hb dX7_firstFaults_134 (by decide) ?_
                  exact J135 (0 : Int32) _ _ _ (cx_e0 (by (try clear RET); (try clear hS); (try clear hl); (try clear hE); (try clear hts); (try clear hb); (try clear hx); (try clear hml); (try clear hown); (try clear hinX7); (try clear J6); (try clear ih6); (try clear hN6); (try clear J93); (try clear J95); (try clear ih95); (try clear hN95); (try clear J135); have y10 : ¬ (1 : Int32) = 0 := (by decide); first | assumption | (grind [Int32.not_le]))) hS (lv_sub hl [1, 2, 3, 4, 0] rfl)
                · skip
                  have g127 : ¬ ((((T 4) (3 * t + i95)).toNatClampNeg) < n) := fun z => h127 ((nI_ltI (a := ((T 4) (3 * t + i95)).toNatClampNeg) (b := n) (by omega) (by omega)).mpr z)
                  refine lv_iconst (v := (1 : Int32)) hx hb dX7_firstFaults_130 (by decide) ?_
                  refine lv_goto (tgt := 135) hx hb dX7_firstFaults_131 (by decide) ?_
                  exact J135 (1 : Int32) _ _ _ (cx_e1 (by (try clear RET); (try clear hS); (try clear hl); (try clear hE); (try clear hts); (try clear hb); (try clear hx); (try clear hml); (try clear hown); (try clear hinX7); (try clear J6); (try clear ih6); (try clear hN6); (try clear J93); (try clear J95); (try clear ih95); (try clear hN95); (try clear J135); have y10 : ¬ (1 : Int32) = 0 := (by decide); first | assumption | (grind [Int32.not_le]))) hS (lv_sub hl [1, 2, 3, 4, 0] rfl)
          exact J95 (((T 5) t).toNatClampNeg - 0 + 1) 0 Z_1_93 _ _ _ (Nat.lt_succ_self _) (by (try clear hq95); omega) (by first | exact hq93.trans cx_go0 | exact cx_goS hq95 (by rw [hp_167, hp_135, b135.2, b167.2]; exact or_assoc)) hS (lv_sub hl [1, 2, 3, 0] rfl)
        refine lv_if_lt (tgt := 93) hx hb dX7_firstFaults_34 (by decide) (fun h34 => ?_) (fun h34 => ?_)
        · skip
          exact J93 Z_1_6 _ _ _ (by first | exact cx_ffa h34 hz (by omega) | exact cx_ffb hn hq34 hz (by omega) hp_53 hp_90 b53.2 b90.2) hS (lv_sub hl [1, 2, 0] rfl)
        · skip
          have hq34 := cx_pp (hP t) h34
          have hq35 := hq34.2
          refine lv_aload_n hx hb dX7_firstFaults_37 rfl (lv_at hl 1 rfl) ?_
          refine lv_iconst (v := (1 : Int32)) hx hb dX7_firstFaults_38 (by decide) ?_
          refine lv_iload_n hx hb dX7_firstFaults_39 rfl (lv_at hl 0 rfl) ?_
          refine cx_topr (z := nI (((T 3) t).toNatClampNeg)) hq34.1 ?_
          refine lv_iload_n hx hb dX7_firstFaults_40 rfl (lv_at hl 0 rfl) ?_
          refine lv_aload_n hx hb dX7_firstFaults_41 rfl (lv_at hl 1 rfl) ?_
          refine cx_get (own := RX7) (index := 65) (C := RX7) (T := TX7) (N := 22) (k := 0) (ci := 7) (v := .int (nI n)) hx hb hts hown hE hS hinX7 0 rfl rfl (by decide) (List.mem_of_getElem? (i := 3) rfl) rfl dX7_firstFaults_42 ?_
          have J53 : ∀ (v53_s0 : Int32) (H : Heap) (locs : List Loc) (ls : Array Slot), ((v53_s0 = 0 ∨ v53_s0 = 1) ∧ (¬ v53_s0 = 0 ↔ ¬ T 3 t < nI n)) → cx_S D vwCl A s (cyW q cI cZ n T k M d (cx_u (cx_u (cx_u Z 0 za_1) 3 (fun _ => kn_1)) 1 Z_1_6) F) H locs → lv_has ls 5 [(0, .ref (q 0)), (1, .int (nI t)), (2, .int ((T 3) t))] → W p l e ({ frames := 3, cells := 0, slots := 0, locals := 66 } : Room) s m args below meth c H locs 0 0 Q (F0 m 53 ls [.int v53_s0, .int (nI (((T 3) t).toNatClampNeg)), .int (1 : Int32), .ref (q 0)]) := by
            intro v53_s0 H locs ls b53 hS hl
            refine cx_cVv (As := [.int (1 : Int32), .int (nI (((T 3) t).toNatClampNeg)), .int v53_s0]) (rest := []) ⟨hx, hb, hml, hown, hts⟩ hE hS (c_X7_mark l D q cI cZ n T k M d (cx_u (cx_u (cx_u Z 0 za_1) 3 (fun _ => kn_1)) 1 Z_1_6) F 1 (((T 3) t).toNatClampNeg) v53_s0 (by first | assumption | omega | rfl) (by first | assumption | omega | rfl)) (cwV 3 hts gX7_firstFaults_X7_mark rfl rfl rfl (by decide +kernel) ⟨Nat.le_of_ble_eq_true rfl, Nat.le_of_ble_eq_true rfl⟩) 0 7 rfl rfl rfl hl.1 rfl (Nat.le_of_ble_eq_true rfl) ⟨Nat.zero_le _, Nat.zero_le _⟩ dX7_firstFaults_53 (fun u_53 H locs hp_53 hS => ?_)
            obtain ⟨zf_53, rfl⟩ : ∃ z, z = u_53 := ⟨_, rfl⟩
            have hS : cx_S D vwCl A s (cyW q cI cZ n T k M d (cx_u (cx_u (cx_u Z 0 za_1) 3 (fun _ => kn_1)) 1 zf_53) F) H locs := hS
            have hp_53 : cx_EE zf_53 ↔ cx_EE (Z_1_6) ∨ ¬ v53_s0 = 0 := hp_53
            refine lv_aload_n hx hb dX7_firstFaults_56 rfl (lv_at hl 0 rfl) ?_
            refine lv_iconst (v := nI 3) hx hb dX7_firstFaults_57 (by decide) ?_
            refine lv_iload_n hx hb dX7_firstFaults_58 rfl (lv_at hl 2 rfl) ?_
            refine cx_topr (z := nI (((T 3) t).toNatClampNeg)) hq34.1 ?_
            refine lv_aload_n hx hb dX7_firstFaults_59 rfl (lv_at hl 0 rfl) ?_
            refine cx_get (own := RX7) (index := 7) (C := RX7) (T := TX7) (N := 22) (k := 1) (ci := 7) (v := .ref (q 1)) hx hb hts hown hE hS hinX7 0 rfl rfl (by decide) (List.mem_of_getElem? (i := 4) rfl) rfl dX7_firstFaults_60 ?_
            refine lv_iload_n hx hb dX7_firstFaults_63 rfl (lv_at hl 1 rfl) ?_
            refine cx_iald (f := (T 0)) (n := 20) (cA := cI) hx hb hE hS 1 0 rfl rfl (by omega) (by decide) dX7_firstFaults_64 ?_
            have J90 : ∀ (v90_s0 : Int32) (H : Heap) (locs : List Loc) (ls : Array Slot), ((v90_s0 = 0 ∨ v90_s0 = 1) ∧ (¬ v90_s0 = 0 ↔ ¬ T 0 t = 0 ∨ (T 3 t < nI n ∧ ¬ T 0 ((T 3 t).toNatClampNeg) = 0))) → cx_S D vwCl A s (cyW q cI cZ n T k M d (cx_u (cx_u (cx_u Z 0 za_1) 3 (fun _ => kn_1)) 1 zf_53) F) H locs → lv_has ls 5 [(0, .ref (q 0)), (1, .int (nI t)), (2, .int ((T 3) t))] → W p l e ({ frames := 3, cells := 0, slots := 0, locals := 66 } : Room) s m args below meth c H locs 0 0 Q (F0 m 90 ls [.int v90_s0, .int (nI (((T 3) t).toNatClampNeg)), .int (nI 3), .ref (q 0)]) := by
              intro v90_s0 H locs ls b90 hS hl
              refine cx_cVv (As := [.int (nI 3), .int (nI (((T 3) t).toNatClampNeg)), .int v90_s0]) (rest := []) ⟨hx, hb, hml, hown, hts⟩ hE hS (c_X7_mark l D q cI cZ n T k M d (cx_u (cx_u (cx_u Z 0 za_1) 3 (fun _ => kn_1)) 1 zf_53) F 3 (((T 3) t).toNatClampNeg) v90_s0 (by first | assumption | omega | rfl) (by first | assumption | omega | rfl)) (cwV 3 hts gX7_firstFaults_X7_mark rfl rfl rfl (by decide +kernel) ⟨Nat.le_of_ble_eq_true rfl, Nat.le_of_ble_eq_true rfl⟩) 0 7 rfl rfl rfl hl.1 rfl (Nat.le_of_ble_eq_true rfl) ⟨Nat.zero_le _, Nat.zero_le _⟩ dX7_firstFaults_90 (fun u_90 H locs hp_90 hS => ?_)
              obtain ⟨zf_90, rfl⟩ : ∃ z, z = u_90 := ⟨_, rfl⟩
              have hS : cx_S D vwCl A s (cyW q cI cZ n T k M d (cx_u (cx_u (cx_u Z 0 za_1) 3 (fun _ => kn_1)) 1 zf_90) F) H locs := hS
              have hp_90 : cx_EE zf_90 ↔ cx_EE (zf_53) ∨ ¬ v90_s0 = 0 := hp_90
              exact J93 zf_90 _ _ _ (by first | exact cx_ffa h34 hz (by omega) | exact cx_ffb hn hq34 hz (by omega) hp_53 hp_90 b53.2 b90.2) hS (lv_sub hl [0, 1, 2] rfl)
            have J85 : ∀ (H : Heap) (locs : List Loc) (ls : Array Slot), (¬ T 0 t = 0 ∨ (T 3 t < nI n ∧ ¬ T 0 ((T 3 t).toNatClampNeg) = 0)) → cx_S D vwCl A s (cyW q cI cZ n T k M d (cx_u (cx_u (cx_u Z 0 za_1) 3 (fun _ => kn_1)) 1 zf_53) F) H locs → lv_has ls 5 [(0, .ref (q 0)), (1, .int (nI t)), (2, .int ((T 3) t))] → W p l e ({ frames := 3, cells := 0, slots := 0, locals := 66 } : Room) s m args below meth c H locs 0 0 Q (F0 m 85 ls [.int (nI (((T 3) t).toNatClampNeg)), .int (nI 3), .ref (q 0)]) := by
              intro  H locs ls f85 hS hl
              refine lv_iconst (v := (1 : Int32)) hx hb dX7_firstFaults_85 (by decide) ?_
              refine lv_goto (tgt := 90) hx hb dX7_firstFaults_86 (by decide) ?_
              exact J90 (1 : Int32) _ _ _ (cx_e1 (by (try clear RET); (try clear hS); (try clear hl); (try clear hE); (try clear hts); (try clear hb); (try clear hx); (try clear hml); (try clear hown); (try clear hinX7); (try clear J6); (try clear ih6); (try clear hN6); (try clear J93); (try clear J53); (try clear J90); (try clear J85); have y10 : ¬ (1 : Int32) = 0 := (by decide); first | assumption | (grind [Int32.not_le]))) hS (lv_sub hl [0, 1, 2] rfl)
            refine lv_if_ne (tgt := 85) hx hb dX7_firstFaults_65 (by decide) (fun h65 => ?_) (fun h65 => ?_)
            · skip
              exact J85  _ _ _ (by (try clear RET); (try clear hS); (try clear hl); (try clear hE); (try clear hts); (try clear hb); (try clear hx); (try clear hml); (try clear hown); (try clear hinX7); (try clear J6); (try clear ih6); (try clear hN6); (try clear J93); (try clear J53); (try clear J90); (try clear J85); have y10 : ¬ (1 : Int32) = 0 := (by decide); first | assumption | (grind [Int32.not_le])) hS (lv_sub hl [0, 1, 2] rfl)
            · skip
              refine lv_iload_n hx hb dX7_firstFaults_68 rfl (lv_at hl 2 rfl) ?_
              refine lv_aload_n hx hb dX7_firstFaults_69 rfl (lv_at hl 0 rfl) ?_
              refine cx_get (own := RX7) (index := 65) (C := RX7) (T := TX7) (N := 22) (k := 0) (ci := 7) (v := .int (nI n)) hx hb hts hown hE hS hinX7 0 rfl rfl (by decide) (List.mem_of_getElem? (i := 3) rfl) rfl dX7_firstFaults_70 ?_
              have J89 : ∀ (H : Heap) (locs : List Loc) (ls : Array Slot), (¬ (¬ T 0 t = 0 ∨ (T 3 t < nI n ∧ ¬ T 0 ((T 3 t).toNatClampNeg) = 0))) → cx_S D vwCl A s (cyW q cI cZ n T k M d (cx_u (cx_u (cx_u Z 0 za_1) 3 (fun _ => kn_1)) 1 zf_53) F) H locs → lv_has ls 5 [(0, .ref (q 0)), (1, .int (nI t)), (2, .int ((T 3) t))] → W p l e ({ frames := 3, cells := 0, slots := 0, locals := 66 } : Room) s m args below meth c H locs 0 0 Q (F0 m 89 ls [.int (nI (((T 3) t).toNatClampNeg)), .int (nI 3), .ref (q 0)]) := by
                intro  H locs ls f89 hS hl
                refine lv_iconst (v := (0 : Int32)) hx hb dX7_firstFaults_89 (by decide) ?_
                exact J90 (0 : Int32) _ _ _ (cx_e0 (by (try clear RET); (try clear hS); (try clear hl); (try clear hE); (try clear hts); (try clear hb); (try clear hx); (try clear hml); (try clear hown); (try clear hinX7); (try clear J6); (try clear ih6); (try clear hN6); (try clear J93); (try clear J53); (try clear J90); (try clear J85); (try clear J89); have y10 : ¬ (1 : Int32) = 0 := (by decide); first | assumption | (grind [Int32.not_le]))) hS (lv_sub hl [0, 1, 2] rfl)
              refine lv_icmp_ge (tgt := 89) hx hb dX7_firstFaults_73 (by decide) (fun h73 => ?_) (fun h73 => ?_)
              · skip
                exact J89  _ _ _ (by (try clear RET); (try clear hS); (try clear hl); (try clear hE); (try clear hts); (try clear hb); (try clear hx); (try clear hml); (try clear hown); (try clear hinX7); (try clear J6); (try clear ih6); (try clear hN6); (try clear J93); (try clear J53); (try clear J90); (try clear J85); (try clear J89); have y10 : ¬ (1 : Int32) = 0 := (by decide); first | assumption | (grind [Int32.not_le])) hS (lv_sub hl [0, 1, 2] rfl)
              · skip
                refine lv_aload_n hx hb dX7_firstFaults_76 rfl (lv_at hl 0 rfl) ?_
                refine cx_get (own := RX7) (index := 7) (C := RX7) (T := TX7) (N := 22) (k := 1) (ci := 7) (v := .ref (q 1)) hx hb hts hown hE hS hinX7 0 rfl rfl (by decide) (List.mem_of_getElem? (i := 4) rfl) rfl dX7_firstFaults_77 ?_
                refine lv_iload_n hx hb dX7_firstFaults_80 rfl (lv_at hl 2 rfl) ?_
                refine cx_topr (z := nI (((T 3) t).toNatClampNeg)) hq34.1 ?_
                refine cx_iald (f := (T 0)) (n := 20) (cA := cI) hx hb hE hS 1 0 rfl rfl (by omega) (by decide) dX7_firstFaults_81 ?_
                refine lv_if_eq (tgt := 89) hx hb dX7_firstFaults_82 (by decide) (fun h82 => ?_) (fun h82 => ?_)
                · skip
                  exact J89  _ _ _ (by (try clear RET); (try clear hS); (try clear hl); (try clear hE); (try clear hts); (try clear hb); (try clear hx); (try clear hml); (try clear hown); (try clear hinX7); (try clear J6); (try clear ih6); (try clear hN6); (try clear J93); (try clear J53); (try clear J90); (try clear J85); (try clear J89); have y10 : ¬ (1 : Int32) = 0 := (by decide); first | assumption | (grind [Int32.not_le])) hS (lv_sub hl [0, 1, 2] rfl)
                · skip
                  exact J85  _ _ _ (by (try clear RET); (try clear hS); (try clear hl); (try clear hE); (try clear hts); (try clear hb); (try clear hx); (try clear hml); (try clear hown); (try clear hinX7); (try clear J6); (try clear ih6); (try clear hN6); (try clear J93); (try clear J53); (try clear J90); (try clear J85); (try clear J89); have y10 : ¬ (1 : Int32) = 0 := (by decide); first | assumption | (grind [Int32.not_le])) hS (lv_sub hl [0, 1, 2] rfl)
          refine lv_icmp_lt (tgt := 52) hx hb dX7_firstFaults_45 (by decide) (fun h45 => ?_) (fun h45 => ?_)
          · skip
            refine lv_iconst (v := (0 : Int32)) hx hb dX7_firstFaults_52 (by decide) ?_
            exact J53 (0 : Int32) _ _ _ (cx_e0 (by (try clear RET); (try clear hS); (try clear hl); (try clear hE); (try clear hts); (try clear hb); (try clear hx); (try clear hml); (try clear hown); (try clear hinX7); (try clear J6); (try clear ih6); (try clear hN6); (try clear J93); (try clear J53); have y10 : ¬ (1 : Int32) = 0 := (by decide); first | assumption | (grind [Int32.not_le]))) hS (lv_sub hl [1, 2, 0] rfl)
          · skip
            refine lv_iconst (v := (1 : Int32)) hx hb dX7_firstFaults_48 (by decide) ?_
            refine lv_goto (tgt := 53) hx hb dX7_firstFaults_49 (by decide) ?_
            exact J53 (1 : Int32) _ _ _ (cx_e1 (by (try clear RET); (try clear hS); (try clear hl); (try clear hE); (try clear hts); (try clear hb); (try clear hx); (try clear hml); (try clear hown); (try clear hinX7); (try clear J6); (try clear ih6); (try clear hN6); (try clear J93); (try clear J53); have y10 : ¬ (1 : Int32) = 0 := (by decide); first | assumption | (grind [Int32.not_le]))) hS (lv_sub hl [1, 2, 0] rfl)
      · skip
        have g10 : ¬ (1600 ≤ i6) := fun z => h10 ((nI_leI (a := 1600) (b := i6) (by omega) (by omega)).mpr z)
        refine lv_aload_n hx hb dX7_firstFaults_13 rfl (lv_at hl 0 rfl) ?_
        refine cx_get (own := RX7) (index := 56) (C := RX7) (T := TX7) (N := 22) (k := 18) (ci := 7) (v := .ref (q 16)) hx hb hts hown hE hS hinX7 0 rfl rfl (by decide) (List.mem_of_getElem? (i := 1) rfl) rfl dX7_firstFaults_14 ?_
        refine lv_iload_n hx hb dX7_firstFaults_17 rfl (lv_at hl 2 rfl) ?_
        refine lv_iconst (v := (0 : Int32)) hx hb dX7_firstFaults_18 (by decide) ?_
        refine cx_zast (k := i6) (f := Z_1_6) (n := 1600) (cA := cZ) (ws' := (cyW q cI cZ n T k M d (cx_u (cx_u (cx_u Z 0 za_1) 3 (fun _ => kn_1)) 1 (upd Z_1_6 i6 (vp_nar .boolean (0 : Int32)))) F)) hx hb hE hS 16 1 rfl rfl (by omega) (by decide) rfl dX7_firstFaults_19 (fun H locs hS => ?_)
        refine lv_iinc (v := nI (i6 + 1)) (lv' := [(2, .int (nI (i6 + 1))), (0, .ref (q 0)), (1, .int (nI t))]) hx hb dX7_firstFaults_20 hl (k := 2) rfl (cx_inc _) (by decide) rfl (fun ls hl => ?_)
        refine lv_goto (tgt := 6) hx hb dX7_firstFaults_23 (by decide) ?_
        exact ih6 (i6 + 1) (upd Z_1_6 i6 (vp_nar .boolean (0 : Int32))) _ _ _ (by omega) (by omega) (by first | exact cx_all0 | exact cx_k1 hz) hS (lv_sub hl [1, 2, 0] rfl)
  exact J6 (1600 - 0 + 1) 0 (Z 1) _ _ _ (Nat.lt_succ_self _) (by omega) (by first | exact cx_all0 | exact cx_k1 hz) hS (lv_sub hl [1, 2, 0] rfl)
set_option maxHeartbeats 4000000 in
set_option maxRecDepth 100000 in
theorem c_X7_haveAny (l : Launch) (D : va_G) (q : Nat → Nat) (cI cZ : ClassId) (n : Nat) (T : Nat → Nat → Int32) (k : Nat) (M : Nat → Nat → Int32) (d : Nat) (Z : Nat → Nat → Int32) (F : Nat → Nat → Int32) : cx_Mi l D vwCl [(cI, .int), (cZ, .boolean)] cx_NW yX7_haveAny wsX7_haveAny ({ frames := 0, cells := 0, slots := 0, locals := 0 } : Room) [.ref (q 0)] (cyW q cI cZ n T k M d Z F) (fun (r : Int32) (uw : Unit) => (r = 0 ∨ r = 1) ∧ (¬ r = 0 ↔ cx_EE (Z 1))) (fun _ => (cyW q cI cZ n T k M d Z F)) := by
  refine cx_Mi.of (cc := cX7_haveAny) (maxL := 3) cx_NW_ok (by decide) rfl (Nat.le_of_ble_eq_true rfl) ?_
  intro p e s m args below meth c Q A ls hx hb hml hown hts hE RET hS hl
  have hl : lv_has ls 3 [(0, .ref (q 0))] := hl
  have hown : s.vm.findClass RX7 = some m.cls := hown
  have hinX7 : ∀ w ∈ u_ws RX7 TX7 22, w ∈ wsX7_haveAny := cx_mem [2, 3, 4, 5, 6, 7, 8, 9, 10, 11, 12, 13, 14, 15, 16, 17, 18, 19, 20, 21, 22, 23] (by decide +kernel)
  refine lv_iconst (v := (0 : Int32)) hx hb dX7_haveAny_0 (by decide) ?_
  refine cx_topr (z := nI 0) (by decide) ?_
  refine lv_istore_n (lv' := [(1, .int (nI 0)), (0, .ref (q 0))]) hx hb dX7_haveAny_1 rfl hl (by decide) rfl (fun ls hl => ?_)
  refine lv_iconst (v := (0 : Int32)) hx hb dX7_haveAny_2 (by decide) ?_
  refine cx_topr (z := nI 0) (by decide) ?_
  refine lv_istore_n (lv' := [(2, .int (nI 0)), (1, .int (nI 0)), (0, .ref (q 0))]) hx hb dX7_haveAny_3 rfl hl (by decide) rfl (fun ls hl => ?_)
  have J4 : ∀ (N : Nat) (v4_l1 : Int32) (i4 : Nat) (H : Heap) (locs : List Loc) (ls : Array Slot), (1600 - i4 < N) → (i4 ≤ 1600) → ((v4_l1 = 0 ∨ v4_l1 = 1) ∧ (¬ v4_l1 = 0 ↔ ∃ j, j < i4 ∧ ¬ (Z 1) j = 0)) → cx_S D vwCl A s (cyW q cI cZ n T k M d Z F) H locs → lv_has ls 3 [(0, .ref (q 0)), (1, .int v4_l1), (2, .int (nI i4))] → W p l e ({ frames := 0, cells := 0, slots := 0, locals := 0 } : Room) s m args below meth c H locs 0 0 Q (F0 m 4 ls []) := by
    intro N4
    induction N4 with
    | zero => intro v4_l1 i4 H locs ls hN; exact absurd hN (by omega)
    | succ N4 ih4 =>
      intro v4_l1 i4 H locs ls hN4 hi4 b4_1 hS hl
      refine lv_iload_n hx hb dX7_haveAny_4 rfl (lv_at hl 2 rfl) ?_
      refine lv_sipush (v := nI 1600) hx hb dX7_haveAny_5 (by decide) ?_
      refine lv_icmp_ge (tgt := 36) hx hb dX7_haveAny_8 (by decide) (fun h8 => ?_) (fun h8 => ?_)
      · skip
        have g8 : 1600 ≤ i4 := (nI_leI (a := 1600) (b := i4) (by omega) (by omega)).mp h8
        refine lv_iload_n hx hb dX7_haveAny_36 rfl (lv_at hl 1 rfl) ?_
        exact RET _ () _ _ _ _ dX7_haveAny_37 (cx_nb b4_1.1) (by have e : i4 = 1600 := (by omega); rw [e] at b4_1; exact b4_1) hS
      · skip
        have g8 : ¬ (1600 ≤ i4) := fun z => h8 ((nI_leI (a := 1600) (b := i4) (by omega) (by omega)).mpr z)
        refine lv_iload_n hx hb dX7_haveAny_11 rfl (lv_at hl 1 rfl) ?_
        have J29 : ∀ (v29_s0 : Int32) (H : Heap) (locs : List Loc) (ls : Array Slot), ((v29_s0 = 0 ∨ v29_s0 = 1) ∧ (¬ v29_s0 = 0 ↔ ∃ j, j < i4 + 1 ∧ ¬ (Z 1) j = 0)) → cx_S D vwCl A s (cyW q cI cZ n T k M d Z F) H locs → lv_has ls 3 [(0, .ref (q 0)), (1, .int v4_l1), (2, .int (nI i4))] → W p l e ({ frames := 0, cells := 0, slots := 0, locals := 0 } : Room) s m args below meth c H locs 0 0 Q (F0 m 29 ls [.int v29_s0]) := by
          intro v29_s0 H locs ls b29 hS hl
          refine lv_istore_n (lv' := [(1, .int v29_s0), (0, .ref (q 0)), (2, .int (nI i4))]) hx hb dX7_haveAny_29 rfl hl (by decide) rfl (fun ls hl => ?_)
          refine lv_iinc (v := nI (i4 + 1)) (lv' := [(2, .int (nI (i4 + 1))), (1, .int v29_s0), (0, .ref (q 0))]) hx hb dX7_haveAny_30 hl (k := 2) rfl (cx_inc _) (by decide) rfl (fun ls hl => ?_)
          refine lv_goto (tgt := 4) hx hb dX7_haveAny_33 (by decide) ?_
          exact ih4 v29_s0 (i4 + 1) _ _ _ (by (try clear b29); (try clear b4_1); omega) (by (try clear b29); (try clear b4_1); omega) (by first | exact b29 | (try clear RET); (try clear hS); (try clear hl); (try clear hE); (try clear hts); (try clear hb); (try clear hx); (try clear hml); (try clear hown); (try clear hinX7); (try clear J4); (try clear ih4); (try clear hN4); (try clear J29); have y10 : ¬ (1 : Int32) = 0 := (by decide); first | assumption | ((try rw [cx_exS (P := fun j => ¬ (Z 1) j = 0)]); grind)) hS (lv_sub hl [2, 1, 0] rfl)
        have J24 : ∀ (H : Heap) (locs : List Loc) (ls : Array Slot), (∃ j, j < i4 + 1 ∧ ¬ (Z 1) j = 0) → cx_S D vwCl A s (cyW q cI cZ n T k M d Z F) H locs → lv_has ls 3 [(0, .ref (q 0)), (1, .int v4_l1), (2, .int (nI i4))] → W p l e ({ frames := 0, cells := 0, slots := 0, locals := 0 } : Room) s m args below meth c H locs 0 0 Q (F0 m 24 ls []) := by
          intro  H locs ls f24 hS hl
          refine lv_iconst (v := (1 : Int32)) hx hb dX7_haveAny_24 (by decide) ?_
          refine lv_goto (tgt := 29) hx hb dX7_haveAny_25 (by decide) ?_
          exact J29 (1 : Int32) _ _ _ (cx_e1 (by (try clear RET); (try clear hS); (try clear hl); (try clear hE); (try clear hts); (try clear hb); (try clear hx); (try clear hml); (try clear hown); (try clear hinX7); (try clear J4); (try clear ih4); (try clear hN4); (try clear J29); (try clear J24); have y10 : ¬ (1 : Int32) = 0 := (by decide); first | assumption | ((try rw [cx_exS (P := fun j => ¬ (Z 1) j = 0)]); grind))) hS (lv_sub hl [0, 1, 2] rfl)
        refine lv_if_ne (tgt := 24) hx hb dX7_haveAny_12 (by decide) (fun h12 => ?_) (fun h12 => ?_)
        · skip
          have g12 : ∃ j, j < i4 ∧ ¬ (Z 1) j = 0 := b4_1.2.mp h12
          exact J24  _ _ _ (by (try clear RET); (try clear hS); (try clear hl); (try clear hE); (try clear hts); (try clear hb); (try clear hx); (try clear hml); (try clear hown); (try clear hinX7); (try clear J4); (try clear ih4); (try clear hN4); (try clear J29); (try clear J24); have y10 : ¬ (1 : Int32) = 0 := (by decide); first | assumption | ((try rw [cx_exS (P := fun j => ¬ (Z 1) j = 0)]); grind)) hS (lv_sub hl [0, 1, 2] rfl)
        · skip
          have g12 : ¬ (∃ j, j < i4 ∧ ¬ (Z 1) j = 0) := fun z => b4_1.2.mpr z h12
          refine lv_aload_n hx hb dX7_haveAny_15 rfl (lv_at hl 0 rfl) ?_
          refine cx_get (own := RX7) (index := 56) (C := RX7) (T := TX7) (N := 22) (k := 18) (ci := 7) (v := .ref (q 16)) hx hb hts hown hE hS hinX7 0 rfl rfl (by decide) (List.mem_of_getElem? (i := 1) rfl) rfl dX7_haveAny_16 ?_
          refine lv_iload_n hx hb dX7_haveAny_19 rfl (lv_at hl 2 rfl) ?_
          refine cx_zald (f := (Z 1)) (n := 1600) (cA := cZ) hx hb hE hS 16 1 rfl rfl (by omega) (by decide) dX7_haveAny_20 ?_
          refine lv_if_eq (tgt := 28) hx hb dX7_haveAny_21 (by decide) (fun h21 => ?_) (fun h21 => ?_)
          · skip
            refine lv_iconst (v := (0 : Int32)) hx hb dX7_haveAny_28 (by decide) ?_
            exact J29 (0 : Int32) _ _ _ (cx_e0 (by (try clear RET); (try clear hS); (try clear hl); (try clear hE); (try clear hts); (try clear hb); (try clear hx); (try clear hml); (try clear hown); (try clear hinX7); (try clear J4); (try clear ih4); (try clear hN4); (try clear J29); (try clear J24); have y10 : ¬ (1 : Int32) = 0 := (by decide); first | assumption | ((try rw [cx_exS (P := fun j => ¬ (Z 1) j = 0)]); grind))) hS (lv_sub hl [0, 1, 2] rfl)
          · skip
            exact J24  _ _ _ (by (try clear RET); (try clear hS); (try clear hl); (try clear hE); (try clear hts); (try clear hb); (try clear hx); (try clear hml); (try clear hown); (try clear hinX7); (try clear J4); (try clear ih4); (try clear hN4); (try clear J29); (try clear J24); have y10 : ¬ (1 : Int32) = 0 := (by decide); first | assumption | ((try rw [cx_exS (P := fun j => ¬ (Z 1) j = 0)]); grind)) hS (lv_sub hl [0, 1, 2] rfl)
  exact J4 (1600 - 0 + 1) (nI 0) 0 _ _ _ (Nat.lt_succ_self _) (by (try clear g12); (try clear b4_1); omega) (cx_e0 (by (try clear RET); (try clear hS); (try clear hl); (try clear hE); (try clear hts); (try clear hb); (try clear hx); (try clear hml); (try clear hown); (try clear hinX7); (try clear J4); (try clear ih4); (try clear hN4); have y10 : ¬ (1 : Int32) = 0 := (by decide); first | assumption | ((try rw [cx_exS (P := fun j => ¬ (Z 1) j = 0)]); grind))) hS (lv_sub hl [2, 1, 0] rfl)
set_option maxHeartbeats 4000000 in
set_option maxRecDepth 100000 in
theorem c_X7_permitsIt (l : Launch) (D : va_G) (q : Nat → Nat) (cI cZ : ClassId) (n : Nat) (T : Nat → Nat → Int32) (k : Nat) (M : Nat → Nat → Int32) (d : Nat) (Z : Nat → Nat → Int32) (F : Nat → Nat → Int32) (t : Nat) (ot : Int32) (ht : t < 20) (hW : cx_R (T 7) 4) : cx_Mi l D vwCl [(cI, .int), (cZ, .boolean)] cx_NW yX7_permitsIt wsX7_permitsIt ({ frames := 0, cells := 0, slots := 0, locals := 0 } : Room) [.ref (q 0), .int (nI t), .int ot] (cyW q cI cZ n T k M d Z F) (fun (r : Int32) (uw : Unit) => (r = 0 ∨ r = 1) ∧ (¬ r = 0 ↔ ∃ j, j < ((T 7) t).toNatClampNeg ∧ (T 6) (3 * t + j) = ot)) (fun _ => (cyW q cI cZ n T k M d Z F)) := by
  refine cx_Mi.of (cc := cX7_permitsIt) (maxL := 5) cx_NW_ok (by decide) rfl (Nat.le_of_ble_eq_true rfl) ?_
  intro p e s m args below meth c Q A ls hx hb hml hown hts hE RET hS hl
  have hl : lv_has ls 5 [(0, .ref (q 0)), (1, .int (nI t)), (2, .int ot)] := hl
  have hown : s.vm.findClass RX7 = some m.cls := hown
  have hinX7 : ∀ w ∈ u_ws RX7 TX7 22, w ∈ wsX7_permitsIt := cx_mem [3, 4, 5, 6, 7, 8, 9, 10, 11, 12, 13, 14, 15, 16, 17, 18, 19, 20, 21, 22, 23, 24] (by decide +kernel)
  refine lv_iconst (v := (0 : Int32)) hx hb dX7_permitsIt_0 (by decide) ?_
  refine cx_topr (z := nI 0) (by decide) ?_
  refine lv_istore_n (lv' := [(3, .int (nI 0)), (0, .ref (q 0)), (1, .int (nI t)), (2, .int ot)]) hx hb dX7_permitsIt_1 rfl hl (by decide) rfl (fun ls hl => ?_)
  refine lv_iconst (v := (0 : Int32)) hx hb dX7_permitsIt_2 (by decide) ?_
  refine cx_topr (z := nI 0) (by decide) ?_
  refine lv_istore (lv' := [(4, .int (nI 0)), (3, .int (nI 0)), (0, .ref (q 0)), (1, .int (nI t)), (2, .int ot)]) hx hb dX7_permitsIt_3 hl (by decide) rfl (fun ls hl => ?_)
  have J5 : ∀ (N : Nat) (v5_l3 : Int32) (i5 : Nat) (H : Heap) (locs : List Loc) (ls : Array Slot), (((T 7) t).toNatClampNeg - i5 < N) → (i5 ≤ ((T 7) t).toNatClampNeg) → ((v5_l3 = 0 ∨ v5_l3 = 1) ∧ (¬ v5_l3 = 0 ↔ ∃ j, j < i5 ∧ (T 6) (3 * t + j) = ot)) → cx_S D vwCl A s (cyW q cI cZ n T k M d Z F) H locs → lv_has ls 5 [(0, .ref (q 0)), (1, .int (nI t)), (2, .int ot), (3, .int v5_l3), (4, .int (nI i5))] → W p l e ({ frames := 0, cells := 0, slots := 0, locals := 0 } : Room) s m args below meth c H locs 0 0 Q (F0 m 5 ls []) := by
    intro N5
    induction N5 with
    | zero => intro v5_l3 i5 H locs ls hN; exact absurd hN (by omega)
    | succ N5 ih5 =>
      intro v5_l3 i5 H locs ls hN5 hi5 b5_3 hS hl
      refine lv_iload hx hb dX7_permitsIt_5 (lv_at hl 4 rfl) ?_
      refine lv_aload_n hx hb dX7_permitsIt_7 rfl (lv_at hl 0 rfl) ?_
      refine cx_get (own := RX7) (index := 31) (C := RX7) (T := TX7) (N := 22) (k := 8) (ci := 7) (v := .ref (q 8)) hx hb hts hown hE hS hinX7 0 rfl rfl (by decide) (List.mem_of_getElem? (i := 1) rfl) rfl dX7_permitsIt_8 ?_
      refine lv_iload_n hx hb dX7_permitsIt_11 rfl (lv_at hl 1 rfl) ?_
      refine cx_iald (f := (T 7)) (n := 20) (cA := cI) hx hb hE hS 8 0 rfl rfl (by omega) (by decide) dX7_permitsIt_12 ?_
      have ho12 := (hW t).2
      refine cx_topr (z := nI (((T 7) t).toNatClampNeg)) (hW t).1 ?_
      refine lv_icmp_ge (tgt := 47) hx hb dX7_permitsIt_13 (by decide) (fun h13 => ?_) (fun h13 => ?_)
      · skip
        have g13 : (((T 7) t).toNatClampNeg) ≤ i5 := (nI_leI (a := ((T 7) t).toNatClampNeg) (b := i5) (by omega) (by omega)).mp h13
        refine lv_iload_n hx hb dX7_permitsIt_47 rfl (lv_at hl 3 rfl) ?_
        exact RET _ () _ _ _ _ dX7_permitsIt_48 (cx_nb b5_3.1) (by have e : i5 = ((T 7) t).toNatClampNeg := (by omega); rw [e] at b5_3; exact b5_3) hS
      · skip
        have g13 : ¬ ((((T 7) t).toNatClampNeg) ≤ i5) := fun z => h13 ((nI_leI (a := ((T 7) t).toNatClampNeg) (b := i5) (by omega) (by omega)).mpr z)
        refine lv_iload_n hx hb dX7_permitsIt_16 rfl (lv_at hl 3 rfl) ?_
        have J40 : ∀ (v40_s0 : Int32) (H : Heap) (locs : List Loc) (ls : Array Slot), ((v40_s0 = 0 ∨ v40_s0 = 1) ∧ (¬ v40_s0 = 0 ↔ ∃ j, j < i5 + 1 ∧ (T 6) (3 * t + j) = ot)) → cx_S D vwCl A s (cyW q cI cZ n T k M d Z F) H locs → lv_has ls 5 [(0, .ref (q 0)), (1, .int (nI t)), (2, .int ot), (3, .int v5_l3), (4, .int (nI i5))] → W p l e ({ frames := 0, cells := 0, slots := 0, locals := 0 } : Room) s m args below meth c H locs 0 0 Q (F0 m 40 ls [.int v40_s0]) := by
          intro v40_s0 H locs ls b40 hS hl
          refine lv_istore_n (lv' := [(3, .int v40_s0), (0, .ref (q 0)), (1, .int (nI t)), (2, .int ot), (4, .int (nI i5))]) hx hb dX7_permitsIt_40 rfl hl (by decide) rfl (fun ls hl => ?_)
          refine lv_iinc (v := nI (i5 + 1)) (lv' := [(4, .int (nI (i5 + 1))), (3, .int v40_s0), (0, .ref (q 0)), (1, .int (nI t)), (2, .int ot)]) hx hb dX7_permitsIt_41 hl (k := 4) rfl (cx_inc _) (by decide) rfl (fun ls hl => ?_)
          refine lv_goto (tgt := 5) hx hb dX7_permitsIt_44 (by decide) ?_
          exact ih5 v40_s0 (i5 + 1) _ _ _ (by (try clear b40); (try clear b5_3); omega) (by (try clear b40); (try clear b5_3); omega) (by first | exact b40 | (try clear RET); (try clear hS); (try clear hl); (try clear hE); (try clear hts); (try clear hb); (try clear hx); (try clear hml); (try clear hown); (try clear hinX7); (try clear J5); (try clear ih5); (try clear hN5); (try clear J40); have y10 : ¬ (1 : Int32) = 0 := (by decide); first | assumption | ((try rw [cx_exS (P := fun j => (T 6) (3 * t + j) = ot)]); grind)) hS (lv_sub hl [2, 3, 4, 1, 0] rfl)
        have J35 : ∀ (H : Heap) (locs : List Loc) (ls : Array Slot), (∃ j, j < i5 + 1 ∧ (T 6) (3 * t + j) = ot) → cx_S D vwCl A s (cyW q cI cZ n T k M d Z F) H locs → lv_has ls 5 [(0, .ref (q 0)), (1, .int (nI t)), (2, .int ot), (3, .int v5_l3), (4, .int (nI i5))] → W p l e ({ frames := 0, cells := 0, slots := 0, locals := 0 } : Room) s m args below meth c H locs 0 0 Q (F0 m 35 ls []) := by
          intro  H locs ls f35 hS hl
          refine lv_iconst (v := (1 : Int32)) hx hb dX7_permitsIt_35 (by decide) ?_
          refine lv_goto (tgt := 40) hx hb dX7_permitsIt_36 (by decide) ?_
          exact J40 (1 : Int32) _ _ _ (cx_e1 (by (try clear RET); (try clear hS); (try clear hl); (try clear hE); (try clear hts); (try clear hb); (try clear hx); (try clear hml); (try clear hown); (try clear hinX7); (try clear J5); (try clear ih5); (try clear hN5); (try clear J40); (try clear J35); have y10 : ¬ (1 : Int32) = 0 := (by decide); first | assumption | ((try rw [cx_exS (P := fun j => (T 6) (3 * t + j) = ot)]); grind))) hS (lv_sub hl [0, 1, 2, 3, 4] rfl)
        refine lv_if_ne (tgt := 35) hx hb dX7_permitsIt_17 (by decide) (fun h17 => ?_) (fun h17 => ?_)
        · skip
          have g17 : ∃ j, j < i5 ∧ (T 6) (3 * t + j) = ot := b5_3.2.mp h17
          exact J35  _ _ _ (by (try clear RET); (try clear hS); (try clear hl); (try clear hE); (try clear hts); (try clear hb); (try clear hx); (try clear hml); (try clear hown); (try clear hinX7); (try clear J5); (try clear ih5); (try clear hN5); (try clear J40); (try clear J35); have y10 : ¬ (1 : Int32) = 0 := (by decide); first | assumption | ((try rw [cx_exS (P := fun j => (T 6) (3 * t + j) = ot)]); grind)) hS (lv_sub hl [0, 1, 2, 3, 4] rfl)
        · skip
          have g17 : ¬ (∃ j, j < i5 ∧ (T 6) (3 * t + j) = ot) := fun z => b5_3.2.mpr z h17
          refine lv_aload_n hx hb dX7_permitsIt_20 rfl (lv_at hl 0 rfl) ?_
          refine cx_get (own := RX7) (index := 28) (C := RX7) (T := TX7) (N := 22) (k := 7) (ci := 7) (v := .ref (q 7)) hx hb hts hown hE hS hinX7 0 rfl rfl (by decide) (List.mem_of_getElem? (i := 2) rfl) rfl dX7_permitsIt_21 ?_
          refine lv_iconst (v := nI 3) hx hb dX7_permitsIt_24 (by decide) ?_
          refine lv_iload_n hx hb dX7_permitsIt_25 rfl (lv_at hl 1 rfl) ?_
          refine lv_imul hx hb dX7_permitsIt_26 ?_
          refine cx_topr (z := nI (3 * t)) (pk_mul _ _) ?_
          refine lv_iload hx hb dX7_permitsIt_27 (lv_at hl 4 rfl) ?_
          refine lv_iadd hx hb dX7_permitsIt_29 ?_
          refine cx_topr (z := nI (3 * t + i5)) (nI_add _ _) ?_
          refine cx_iald (f := (T 6)) (n := 60) (cA := cI) hx hb hE hS 7 0 rfl rfl (by omega) (by decide) dX7_permitsIt_30 ?_
          refine lv_iload_n hx hb dX7_permitsIt_31 rfl (lv_at hl 2 rfl) ?_
          refine lv_icmp_ne (tgt := 39) hx hb dX7_permitsIt_32 (by decide) (fun h32 => ?_) (fun h32 => ?_)
          · skip
            refine lv_iconst (v := (0 : Int32)) hx hb dX7_permitsIt_39 (by decide) ?_
            exact J40 (0 : Int32) _ _ _ (cx_e0 (by (try clear RET); (try clear hS); (try clear hl); (try clear hE); (try clear hts); (try clear hb); (try clear hx); (try clear hml); (try clear hown); (try clear hinX7); (try clear J5); (try clear ih5); (try clear hN5); (try clear J40); (try clear J35); have y10 : ¬ (1 : Int32) = 0 := (by decide); first | assumption | ((try rw [cx_exS (P := fun j => (T 6) (3 * t + j) = ot)]); grind))) hS (lv_sub hl [0, 1, 2, 3, 4] rfl)
          · skip
            exact J35  _ _ _ (by (try clear RET); (try clear hS); (try clear hl); (try clear hE); (try clear hts); (try clear hb); (try clear hx); (try clear hml); (try clear hown); (try clear hinX7); (try clear J5); (try clear ih5); (try clear hN5); (try clear J40); (try clear J35); have y10 : ¬ (1 : Int32) = 0 := (by decide); first | assumption | ((try rw [cx_exS (P := fun j => (T 6) (3 * t + j) = ot)]); grind)) hS (lv_sub hl [0, 1, 2, 3, 4] rfl)
  exact J5 (((T 7) t).toNatClampNeg - 0 + 1) (nI 0) 0 _ _ _ (Nat.lt_succ_self _) (by (try clear g17); (try clear b5_3); omega) (cx_e0 (by (try clear RET); (try clear hS); (try clear hl); (try clear hE); (try clear hts); (try clear hb); (try clear hx); (try clear hml); (try clear hown); (try clear hinX7); (try clear J5); (try clear ih5); (try clear hN5); have y10 : ¬ (1 : Int32) = 0 := (by decide); first | assumption | ((try rw [cx_exS (P := fun j => (T 6) (3 * t + j) = ot)]); grind))) hS (lv_sub hl [2, 3, 4, 1, 0] rfl)
set_option maxHeartbeats 4000000 in
set_option maxRecDepth 100000 in
theorem c_X7_isUpper (l : Launch) (D : va_G) (q : Nat → Nat) (cI cZ : ClassId) (n : Nat) (T : Nat → Nat → Int32) (k : Nat) (M : Nat → Nat → Int32) (d : Nat) (Z : Nat → Nat → Int32) (F : Nat → Nat → Int32) (t : Nat) (ot : Int32) (ht : t < 20) (hV : cx_R (T 5) 4) : cx_Mi l D vwCl [(cI, .int), (cZ, .boolean)] cx_NW yX7_isUpper wsX7_isUpper ({ frames := 0, cells := 0, slots := 0, locals := 0 } : Room) [.ref (q 0), .int (nI t), .int ot] (cyW q cI cZ n T k M d Z F) (fun (r : Int32) (uw : Unit) => (r = 0 ∨ r = 1) ∧ (¬ r = 0 ↔ cx_rU T t ot)) (fun _ => (cyW q cI cZ n T k M d Z F)) := by
  refine cx_Mi.of (cc := cX7_isUpper) (maxL := 5) cx_NW_ok (by decide) rfl (Nat.le_of_ble_eq_true rfl) ?_
  intro p e s m args below meth c Q A ls hx hb hml hown hts hE RET hS hl
  have hl : lv_has ls 5 [(0, .ref (q 0)), (1, .int (nI t)), (2, .int ot)] := hl
  have hown : s.vm.findClass RX7 = some m.cls := hown
  have hinX7 : ∀ w ∈ u_ws RX7 TX7 22, w ∈ wsX7_isUpper := cx_mem [4, 5, 6, 7, 8, 9, 10, 11, 12, 13, 14, 15, 16, 17, 18, 19, 20, 21, 22, 23, 24, 25] (by decide +kernel)
  refine lv_aload_n hx hb dX7_isUpper_0 rfl (lv_at hl 0 rfl) ?_
  refine cx_get (own := RX7) (index := 19) (C := RX7) (T := TX7) (N := 22) (k := 4) (ci := 7) (v := .ref (q 4)) hx hb hts hown hE hS hinX7 0 rfl rfl (by decide) (List.mem_of_getElem? (i := 1) rfl) rfl dX7_isUpper_1 ?_
  refine lv_iload_n hx hb dX7_isUpper_4 rfl (lv_at hl 1 rfl) ?_
  refine cx_iald (f := (T 3)) (n := 20) (cA := cI) hx hb hE hS 4 0 rfl rfl (by omega) (by decide) dX7_isUpper_5 ?_
  refine lv_iload_n hx hb dX7_isUpper_6 rfl (lv_at hl 2 rfl) ?_
  have J15 : ∀ (v15_s0 : Int32) (H : Heap) (locs : List Loc) (ls : Array Slot), ((v15_s0 = 0 ∨ v15_s0 = 1) ∧ (¬ v15_s0 = 0 ↔ (T 3) t = ot)) → cx_S D vwCl A s (cyW q cI cZ n T k M d Z F) H locs → lv_has ls 5 [(0, .ref (q 0)), (1, .int (nI t)), (2, .int ot)] → W p l e ({ frames := 0, cells := 0, slots := 0, locals := 0 } : Room) s m args below meth c H locs 0 0 Q (F0 m 15 ls [.int v15_s0]) := by
    intro v15_s0 H locs ls b15 hS hl
    refine lv_istore_n (lv' := [(3, .int v15_s0), (0, .ref (q 0)), (1, .int (nI t)), (2, .int ot)]) hx hb dX7_isUpper_15 rfl hl (by decide) rfl (fun ls hl => ?_)
    refine lv_iconst (v := (0 : Int32)) hx hb dX7_isUpper_16 (by decide) ?_
    refine cx_topr (z := nI 0) (by decide) ?_
    refine lv_istore (lv' := [(4, .int (nI 0)), (3, .int v15_s0), (0, .ref (q 0)), (1, .int (nI t)), (2, .int ot)]) hx hb dX7_isUpper_17 hl (by decide) rfl (fun ls hl => ?_)
    have J19 : ∀ (N : Nat) (v19_l3 : Int32) (i19 : Nat) (H : Heap) (locs : List Loc) (ls : Array Slot), (((T 5) t).toNatClampNeg - i19 < N) → (i19 ≤ ((T 5) t).toNatClampNeg) → ((v19_l3 = 0 ∨ v19_l3 = 1) ∧ (¬ v19_l3 = 0 ↔ (T 3) t = ot ∨ ∃ j, j < i19 ∧ (T 4) (3 * t + j) = ot)) → cx_S D vwCl A s (cyW q cI cZ n T k M d Z F) H locs → lv_has ls 5 [(0, .ref (q 0)), (1, .int (nI t)), (2, .int ot), (3, .int v19_l3), (4, .int (nI i19))] → W p l e ({ frames := 0, cells := 0, slots := 0, locals := 0 } : Room) s m args below meth c H locs 0 0 Q (F0 m 19 ls []) := by
      intro N19
      induction N19 with
      | zero => intro v19_l3 i19 H locs ls hN; exact absurd hN (by omega)
      | succ N19 ih19 =>
        intro v19_l3 i19 H locs ls hN19 hi19 b19_3 hS hl
        refine lv_iload hx hb dX7_isUpper_19 (lv_at hl 4 rfl) ?_
        refine lv_aload_n hx hb dX7_isUpper_21 rfl (lv_at hl 0 rfl) ?_
        refine cx_get (own := RX7) (index := 25) (C := RX7) (T := TX7) (N := 22) (k := 6) (ci := 7) (v := .ref (q 6)) hx hb hts hown hE hS hinX7 0 rfl rfl (by decide) (List.mem_of_getElem? (i := 2) rfl) rfl dX7_isUpper_22 ?_
        refine lv_iload_n hx hb dX7_isUpper_25 rfl (lv_at hl 1 rfl) ?_
        refine cx_iald (f := (T 5)) (n := 20) (cA := cI) hx hb hE hS 6 0 rfl rfl (by omega) (by decide) dX7_isUpper_26 ?_
        have ho26 := (hV t).2
        refine cx_topr (z := nI (((T 5) t).toNatClampNeg)) (hV t).1 ?_
        refine lv_icmp_ge (tgt := 61) hx hb dX7_isUpper_27 (by decide) (fun h27 => ?_) (fun h27 => ?_)
        · skip
          have g27 : (((T 5) t).toNatClampNeg) ≤ i19 := (nI_leI (a := ((T 5) t).toNatClampNeg) (b := i19) (by omega) (by omega)).mp h27
          refine lv_iload_n hx hb dX7_isUpper_61 rfl (lv_at hl 3 rfl) ?_
          exact RET _ () _ _ _ _ dX7_isUpper_62 (cx_nb b19_3.1) (by have e : i19 = ((T 5) t).toNatClampNeg := (by omega); rw [e] at b19_3; exact b19_3) hS
        · skip
          have g27 : ¬ ((((T 5) t).toNatClampNeg) ≤ i19) := fun z => h27 ((nI_leI (a := ((T 5) t).toNatClampNeg) (b := i19) (by omega) (by omega)).mpr z)
          refine lv_iload_n hx hb dX7_isUpper_30 rfl (lv_at hl 3 rfl) ?_
          have J54 : ∀ (v54_s0 : Int32) (H : Heap) (locs : List Loc) (ls : Array Slot), ((v54_s0 = 0 ∨ v54_s0 = 1) ∧ (¬ v54_s0 = 0 ↔ (T 3) t = ot ∨ ∃ j, j < (i19 + 1) ∧ (T 4) (3 * t + j) = ot)) → cx_S D vwCl A s (cyW q cI cZ n T k M d Z F) H locs → lv_has ls 5 [(0, .ref (q 0)), (1, .int (nI t)), (2, .int ot), (3, .int v19_l3), (4, .int (nI i19))] → W p l e ({ frames := 0, cells := 0, slots := 0, locals := 0 } : Room) s m args below meth c H locs 0 0 Q (F0 m 54 ls [.int v54_s0]) := by
            intro v54_s0 H locs ls b54 hS hl
            refine lv_istore_n (lv' := [(3, .int v54_s0), (0, .ref (q 0)), (1, .int (nI t)), (2, .int ot), (4, .int (nI i19))]) hx hb dX7_isUpper_54 rfl hl (by decide) rfl (fun ls hl => ?_)
            refine lv_iinc (v := nI (i19 + 1)) (lv' := [(4, .int (nI (i19 + 1))), (3, .int v54_s0), (0, .ref (q 0)), (1, .int (nI t)), (2, .int ot)]) hx hb dX7_isUpper_55 hl (k := 4) rfl (cx_inc _) (by decide) rfl (fun ls hl => ?_)
            refine lv_goto (tgt := 19) hx hb dX7_isUpper_58 (by decide) ?_
            exact ih19 v54_s0 (i19 + 1) _ _ _ (by (try clear b54); (try clear b19_3); omega) (by (try clear b54); (try clear b19_3); omega) (by first | exact b54 | (try clear RET); (try clear hS); (try clear hl); (try clear hE); (try clear hts); (try clear hb); (try clear hx); (try clear hml); (try clear hown); (try clear hinX7); (try clear J15); (try clear J19); (try clear ih19); (try clear hN19); (try clear J54); have y10 : ¬ (1 : Int32) = 0 := (by decide); first | assumption | ((try rw [cx_exS (P := fun j => (T 4) (3 * t + j) = ot)]); (try have y0 := @cx_ex0 (fun j => (T 4) (3 * t + j) = ot)); grind)) hS (lv_sub hl [2, 3, 4, 1, 0] rfl)
          have J49 : ∀ (H : Heap) (locs : List Loc) (ls : Array Slot), ((T 3) t = ot ∨ ∃ j, j < (i19 + 1) ∧ (T 4) (3 * t + j) = ot) → cx_S D vwCl A s (cyW q cI cZ n T k M d Z F) H locs → lv_has ls 5 [(0, .ref (q 0)), (1, .int (nI t)), (2, .int ot), (3, .int v19_l3), (4, .int (nI i19))] → W p l e ({ frames := 0, cells := 0, slots := 0, locals := 0 } : Room) s m args below meth c H locs 0 0 Q (F0 m 49 ls []) := by
            intro  H locs ls f49 hS hl
            refine lv_iconst (v := (1 : Int32)) hx hb dX7_isUpper_49 (by decide) ?_
            refine lv_goto (tgt := 54) hx hb dX7_isUpper_50 (by decide) ?_
            exact J54 (1 : Int32) _ _ _ (cx_e1 (by (try clear RET); (try clear hS); (try clear hl); (try clear hE); (try clear hts); (try clear hb); (try clear hx); (try clear hml); (try clear hown); (try clear hinX7); (try clear J15); (try clear J19); (try clear ih19); (try clear hN19); (try clear J54); (try clear J49); have y10 : ¬ (1 : Int32) = 0 := (by decide); first | assumption | ((try rw [cx_exS (P := fun j => (T 4) (3 * t + j) = ot)]); (try have y0 := @cx_ex0 (fun j => (T 4) (3 * t + j) = ot)); grind))) hS (lv_sub hl [0, 1, 2, 3, 4] rfl)
          refine lv_if_ne (tgt := 49) hx hb dX7_isUpper_31 (by decide) (fun h31 => ?_) (fun h31 => ?_)
          · skip
            have g31 : (T 3) t = ot ∨ ∃ j, j < i19 ∧ (T 4) (3 * t + j) = ot := b19_3.2.mp h31
            exact J49  _ _ _ (by (try clear RET); (try clear hS); (try clear hl); (try clear hE); (try clear hts); (try clear hb); (try clear hx); (try clear hml); (try clear hown); (try clear hinX7); (try clear J15); (try clear J19); (try clear ih19); (try clear hN19); (try clear J54); (try clear J49); have y10 : ¬ (1 : Int32) = 0 := (by decide); first | assumption | ((try rw [cx_exS (P := fun j => (T 4) (3 * t + j) = ot)]); (try have y0 := @cx_ex0 (fun j => (T 4) (3 * t + j) = ot)); grind)) hS (lv_sub hl [0, 1, 2, 3, 4] rfl)
          · skip
            have g31 : ¬ ((T 3) t = ot ∨ ∃ j, j < i19 ∧ (T 4) (3 * t + j) = ot) := fun z => b19_3.2.mpr z h31
            refine lv_aload_n hx hb dX7_isUpper_34 rfl (lv_at hl 0 rfl) ?_
            refine cx_get (own := RX7) (index := 22) (C := RX7) (T := TX7) (N := 22) (k := 5) (ci := 7) (v := .ref (q 5)) hx hb hts hown hE hS hinX7 0 rfl rfl (by decide) (List.mem_of_getElem? (i := 3) rfl) rfl dX7_isUpper_35 ?_
            refine lv_iconst (v := nI 3) hx hb dX7_isUpper_38 (by decide) ?_
            refine lv_iload_n hx hb dX7_isUpper_39 rfl (lv_at hl 1 rfl) ?_
            refine lv_imul hx hb dX7_isUpper_40 ?_
            refine cx_topr (z := nI (3 * t)) (pk_mul _ _) ?_
            refine lv_iload hx hb dX7_isUpper_41 (lv_at hl 4 rfl) ?_
            refine lv_iadd hx hb dX7_isUpper_43 ?_
            refine cx_topr (z := nI (3 * t + i19)) (nI_add _ _) ?_
            refine cx_iald (f := (T 4)) (n := 60) (cA := cI) hx hb hE hS 5 0 rfl rfl (by omega) (by decide) dX7_isUpper_44 ?_
            refine lv_iload_n hx hb dX7_isUpper_45 rfl (lv_at hl 2 rfl) ?_
            refine lv_icmp_ne (tgt := 53) hx hb dX7_isUpper_46 (by decide) (fun h46 => ?_) (fun h46 => ?_)
            · skip
              refine lv_iconst (v := (0 : Int32)) hx hb dX7_isUpper_53 (by decide) ?_
              exact J54 (0 : Int32) _ _ _ (cx_e0 (by (try clear RET); (try clear hS); (try clear hl); (try clear hE); (try clear hts); (try clear hb); (try clear hx); (try clear hml); (try clear hown); (try clear hinX7); (try clear J15); (try clear J19); (try clear ih19); (try clear hN19); (try clear J54); (try clear J49); have y10 : ¬ (1 : Int32) = 0 := (by decide); first | assumption | ((try rw [cx_exS (P := fun j => (T 4) (3 * t + j) = ot)]); (try have y0 := @cx_ex0 (fun j => (T 4) (3 * t + j) = ot)); grind))) hS (lv_sub hl [0, 1, 2, 3, 4] rfl)
            · skip
              exact J49  _ _ _ (by (try clear RET); (try clear hS); (try clear hl); (try clear hE); (try clear hts); (try clear hb); (try clear hx); (try clear hml); (try clear hown); (try clear hinX7); (try clear J15); (try clear J19); (try clear ih19); (try clear hN19); (try clear J54); (try clear J49); have y10 : ¬ (1 : Int32) = 0 := (by decide); first | assumption | ((try rw [cx_exS (P := fun j => (T 4) (3 * t + j) = ot)]); (try have y0 := @cx_ex0 (fun j => (T 4) (3 * t + j) = ot)); grind)) hS (lv_sub hl [0, 1, 2, 3, 4] rfl)
    exact J19 (((T 5) t).toNatClampNeg - 0 + 1) v15_s0 0 _ _ _ (Nat.lt_succ_self _) (by (try clear g31); (try clear b19_3); omega) (by first | exact b15 | (try clear RET); (try clear hS); (try clear hl); (try clear hE); (try clear hts); (try clear hb); (try clear hx); (try clear hml); (try clear hown); (try clear hinX7); (try clear J15); (try clear J19); (try clear ih19); (try clear hN19); have y10 : ¬ (1 : Int32) = 0 := (by decide); first | assumption | ((try rw [cx_exS (P := fun j => (T 4) (3 * t + j) = ot)]); (try have y0 := @cx_ex0 (fun j => (T 4) (3 * t + j) = ot)); grind)) hS (lv_sub hl [2, 3, 4, 1, 0] rfl)
  refine lv_icmp_ne (tgt := 14) hx hb dX7_isUpper_7 (by decide) (fun h7 => ?_) (fun h7 => ?_)
  · skip
    refine lv_iconst (v := (0 : Int32)) hx hb dX7_isUpper_14 (by decide) ?_
    exact J15 (0 : Int32) _ _ _ (cx_e0 (by (try clear RET); (try clear hS); (try clear hl); (try clear hE); (try clear hts); (try clear hb); (try clear hx); (try clear hml); (try clear hown); (try clear hinX7); (try clear J15); have y10 : ¬ (1 : Int32) = 0 := (by decide); first | assumption | ((try rw [cx_exS (P := fun j => (T 4) (3 * t + j) = ot)]); (try have y0 := @cx_ex0 (fun j => (T 4) (3 * t + j) = ot)); grind))) hS (lv_sub hl [0, 1, 2] rfl)
  · skip
    refine lv_iconst (v := (1 : Int32)) hx hb dX7_isUpper_10 (by decide) ?_
    refine lv_goto (tgt := 15) hx hb dX7_isUpper_11 (by decide) ?_
    exact J15 (1 : Int32) _ _ _ (cx_e1 (by (try clear RET); (try clear hS); (try clear hl); (try clear hE); (try clear hts); (try clear hb); (try clear hx); (try clear hml); (try clear hown); (try clear hinX7); (try clear J15); have y10 : ¬ (1 : Int32) = 0 := (by decide); first | assumption | ((try rw [cx_exS (P := fun j => (T 4) (3 * t + j) = ot)]); (try have y0 := @cx_ex0 (fun j => (T 4) (3 * t + j) = ot)); grind))) hS (lv_sub hl [0, 1, 2] rfl)
set_option maxHeartbeats 4000000 in
set_option maxRecDepth 100000 in
theorem c_X7_sealedBy (l : Launch) (D : va_G) (q : Nat → Nat) (cI cZ : ClassId) (n : Nat) (T : Nat → Nat → Int32) (k : Nat) (M : Nat → Nat → Int32) (d : Nat) (Z : Nat → Nat → Int32) (F : Nat → Nat → Int32) (t : Nat) (up : Int32) (hn : n ≤ 20) (hW : cx_R (T 7) 4) (hK0 : cx_R (T 0) 4) (ht : t < n) : cx_Mv l D vwCl [(cI, .int), (cZ, .boolean)] cx_NW yX7_sealedBy wsX7_sealedBy ({ frames := 2, cells := 0, slots := 0, locals := 43 } : Room) [.ref (q 0), .int (nI t), .int up] (cyW q cI cZ n T k M d Z F) (fun (uw : (Nat → Int32)) => cx_EE uw ↔ cx_EE (Z 1) ∨ cx_rS n T t up) (fun uw => (cyW q cI cZ n T k M d (cx_u Z 1 uw) F)) := by
  refine cx_Mv.of (cc := cX7_sealedBy) (maxL := 4) cx_NW_ok (by decide) rfl (Nat.le_of_ble_eq_true rfl) ?_
  intro p e s m args below meth c Q A ls hx hb hml hown hts hE RET hS hl
  have hl : lv_has ls 4 [(0, .ref (q 0)), (1, .int (nI t)), (2, .int up)] := hl
  have hown : s.vm.findClass RX7 = some m.cls := hown
  have hinX7 : ∀ w ∈ u_ws RX7 TX7 22, w ∈ wsX7_sealedBy := cx_mem [27, 28, 29, 30, 31, 32, 33, 34, 35, 36, 37, 38, 39, 40, 41, 42, 43, 44, 45, 46, 47, 48] (by decide +kernel)
  refine lv_aload_n hx hb dX7_sealedBy_0 rfl (lv_at hl 0 rfl) ?_
  refine lv_iload_n hx hb dX7_sealedBy_1 rfl (lv_at hl 2 rfl) ?_
  refine cx_cVi (As := [.int up]) (rest := []) ⟨hx, hb, hml, hown, hts⟩ hE hS (c_X7_isType l D q cI cZ n T k M d Z F up (by first | assumption | omega | rfl)) (cwV 1 hts gX7_sealedBy_X7_isType rfl rfl rfl (by decide +kernel) ⟨Nat.le_of_ble_eq_true rfl, Nat.le_of_ble_eq_true rfl⟩) 0 7 rfl rfl rfl hl.1 rfl (Nat.le_of_ble_eq_true rfl) ⟨Nat.zero_le _, Nat.zero_le _⟩ dX7_sealedBy_2 (fun r_2 u_2 H locs hp_2 hS => ?_)
  have hp_2 : r_2 = cx_b (0 ≤ up ∧ up < nI n) := hp_2
  subst hp_2
  have J86 : ∀ (Z_1_86 : Nat → Int32) (H : Heap) (locs : List Loc) (ls : Array Slot), (cx_EE Z_1_86 ↔ cx_EE (Z 1) ∨ cx_rS n T t up) → cx_S D vwCl A s (cyW q cI cZ n T k M d (cx_u Z 1 Z_1_86) F) H locs → lv_has ls 4 [(0, .ref (q 0)), (1, .int (nI t)), (2, .int up)] → W p l e ({ frames := 2, cells := 0, slots := 0, locals := 43 } : Room) s m args below meth c H locs 0 0 Q (F0 m 86 ls []) := by
    intro Z_1_86 H locs ls hq hS hl
    exact RET (Z_1_86) _ _ _ _ dX7_sealedBy_86 hq hS
  refine lv_if_eq (tgt := 86) hx hb dX7_sealedBy_5 (by decide) (fun h5 => ?_) (fun h5 => ?_)
  · skip
    have g5 := cx_b0 h5
    exact J86 (Z 1) _ _ _ (by first | exact cx_goX (fun z => g5 z.1) | exact cx_goX (fun z => g14 z.2.1) | (rw [hp_83, b83.2]; exact ⟨fun z => z.imp id (fun y => ⟨g5, g14, y⟩), fun z => z.imp id (fun y => y.2.2)⟩)) hS (lv_sub hl [0, 1, 2] rfl)
  · skip
    have g5 := cx_b1 h5
    have hq5 := (cx_ixT (by omega) g5).2
    refine lv_aload_n hx hb dX7_sealedBy_8 rfl (lv_at hl 0 rfl) ?_
    refine lv_iload_n hx hb dX7_sealedBy_9 rfl (lv_at hl 2 rfl) ?_
    refine cx_topr (z := nI (up.toNatClampNeg)) (cx_ixT (by omega) g5).1 ?_
    refine lv_iconst (v := nI 4) hx hb dX7_sealedBy_10 (by decide) ?_
    refine cx_cVi (As := [.int (nI (up.toNatClampNeg)), .int (nI 4)]) (rest := []) ⟨hx, hb, hml, hown, hts⟩ hE hS (c_X7_marked l D q cI cZ n T k M d Z F up.toNatClampNeg (nI 4) (by first | assumption | omega | rfl)) (cwV 2 hts gX7_sealedBy_X7_marked rfl rfl rfl (by decide +kernel) ⟨Nat.le_of_ble_eq_true rfl, Nat.le_of_ble_eq_true rfl⟩) 0 7 rfl rfl rfl hl.1 rfl (Nat.le_of_ble_eq_true rfl) ⟨Nat.zero_le _, Nat.zero_le _⟩ dX7_sealedBy_11 (fun r_11 u_11 H locs hp_11 hS => ?_)
    have hp_11 : (r_11 = 0 ∨ r_11 = 1) ∧ (¬ r_11 = 0 ↔ cx_mk ((T 1)) up.toNatClampNeg (nI 4)) := hp_11
    refine lv_if_eq (tgt := 86) hx hb dX7_sealedBy_14 (by decide) (fun h14 => ?_) (fun h14 => ?_)
    · skip
      have g14 : ¬ (cx_mk ((T 1)) up.toNatClampNeg (nI 4)) := fun z => hp_11.2.mpr z h14
      exact J86 (Z 1) _ _ _ (by first | exact cx_goX (fun z => g5 z.1) | exact cx_goX (fun z => g14 z.2.1) | (rw [hp_83, b83.2]; exact ⟨fun z => z.imp id (fun y => ⟨g5, g14, y⟩), fun z => z.imp id (fun y => y.2.2)⟩)) hS (lv_sub hl [0, 1, 2] rfl)
    · skip
      have g14 : cx_mk ((T 1)) up.toNatClampNeg (nI 4) := hp_11.2.mp h14
      refine lv_aload_n hx hb dX7_sealedBy_17 rfl (lv_at hl 0 rfl) ?_
      refine cx_get (own := RX7) (index := 7) (C := RX7) (T := TX7) (N := 22) (k := 1) (ci := 7) (v := .ref (q 1)) hx hb hts hown hE hS hinX7 0 rfl rfl (by decide) (List.mem_of_getElem? (i := 1) rfl) rfl dX7_sealedBy_18 ?_
      refine lv_iload_n hx hb dX7_sealedBy_21 rfl (lv_at hl 1 rfl) ?_
      refine cx_iald (f := (T 0)) (n := 20) (cA := cI) hx hb hE hS 1 0 rfl rfl (by omega) (by decide) dX7_sealedBy_22 ?_
      refine lv_iconst (v := nI 2) hx hb dX7_sealedBy_23 (by decide) ?_
      have J60 : ∀ (v60_s0 : Int32) (H : Heap) (locs : List Loc) (ls : Array Slot), ((v60_s0 = 0 ∨ v60_s0 = 1) ∧ (¬ v60_s0 = 0 ↔ (cx_pl (T 0 t) (T 1 t)))) → cx_S D vwCl A s (cyW q cI cZ n T k M d Z F) H locs → lv_has ls 4 [(0, .ref (q 0)), (1, .int (nI t)), (2, .int up)] → W p l e ({ frames := 2, cells := 0, slots := 0, locals := 43 } : Room) s m args below meth c H locs 0 0 Q (F0 m 60 ls [.int v60_s0]) := by
        intro v60_s0 H locs ls b60 hS hl
        refine lv_istore_n (lv' := [(3, .int v60_s0), (0, .ref (q 0)), (1, .int (nI t)), (2, .int up)]) hx hb dX7_sealedBy_60 rfl hl (by decide) rfl (fun ls hl => ?_)
        refine lv_aload_n hx hb dX7_sealedBy_61 rfl (lv_at hl 1 rfl) ?_
        refine lv_bipush (v := nI 6) hx hb dX7_sealedBy_62 (by decide) ?_
        refine lv_iload_n hx hb dX7_sealedBy_64 rfl (lv_at hl 3 rfl) ?_
        refine cx_topr (z := nI (up.toNatClampNeg)) (cx_ixT (by omega) g5).1 ?_
        refine lv_aload_n hx hb dX7_sealedBy_65 rfl (lv_at hl 1 rfl) ?_
        refine lv_iload_n hx hb dX7_sealedBy_66 rfl (lv_at hl 3 rfl) ?_
        refine cx_topr (z := nI (up.toNatClampNeg)) (cx_ixT (by omega) g5).1 ?_
        refine lv_iload_n hx hb dX7_sealedBy_67 rfl (lv_at hl 2 rfl) ?_
        refine cx_cVi (As := [.int (nI (up.toNatClampNeg)), .int (nI t)]) (rest := [.int (nI (up.toNatClampNeg)), .int (nI 6), .ref (q 0)]) ⟨hx, hb, hml, hown, hts⟩ hE hS (c_X7_permitsIt l D q cI cZ n T k M d Z F up.toNatClampNeg (nI t) (by first | assumption | omega | rfl) (by first | assumption | omega | rfl)) (cwV 2 hts gX7_sealedBy_X7_permitsIt rfl rfl rfl (by decide +kernel) ⟨Nat.le_of_ble_eq_true rfl, Nat.le_of_ble_eq_true rfl⟩) 0 7 rfl rfl rfl hl.1 rfl (Nat.le_of_ble_eq_true rfl) ⟨Nat.zero_le _, Nat.zero_le _⟩ dX7_sealedBy_68 (fun r_68 u_68 H locs hp_68 hS => ?_)
        have hp_68 : (r_68 = 0 ∨ r_68 = 1) ∧ (¬ r_68 = 0 ↔ ∃ j, j < (((T 7)) up.toNatClampNeg).toNatClampNeg ∧ ((T 6)) (3 * up.toNatClampNeg + j) = (nI t)) := hp_68
        have J83 : ∀ (v83_s0 : Int32) (H : Heap) (locs : List Loc) (ls : Array Slot), ((v83_s0 = 0 ∨ v83_s0 = 1) ∧ (¬ v83_s0 = 0 ↔ (cx_pl (T 0 t) (T 1 t)) ∨ ¬ (∃ j, j < ((T 7) (up.toNatClampNeg)).toNatClampNeg ∧ (T 6) (3 * (up.toNatClampNeg) + j) = nI t))) → cx_S D vwCl A s (cyW q cI cZ n T k M d Z F) H locs → lv_has ls 4 [(0, .ref (q 0)), (1, .int (nI t)), (2, .int up), (3, .int v60_s0)] → W p l e ({ frames := 2, cells := 0, slots := 0, locals := 43 } : Room) s m args below meth c H locs 0 0 Q (F0 m 83 ls [.int v83_s0, .int (nI (up.toNatClampNeg)), .int (nI 6), .ref (q 0)]) := by
          intro v83_s0 H locs ls b83 hS hl
          refine cx_cVv (As := [.int (nI 6), .int (nI (up.toNatClampNeg)), .int v83_s0]) (rest := []) ⟨hx, hb, hml, hown, hts⟩ hE hS (c_X7_mark l D q cI cZ n T k M d Z F 6 up.toNatClampNeg v83_s0 (by first | assumption | omega | rfl) (by first | assumption | omega | rfl)) (cwV 3 hts gX7_sealedBy_X7_mark rfl rfl rfl (by decide +kernel) ⟨Nat.le_of_ble_eq_true rfl, Nat.le_of_ble_eq_true rfl⟩) 0 7 rfl rfl rfl hl.1 rfl (Nat.le_of_ble_eq_true rfl) ⟨Nat.zero_le _, Nat.zero_le _⟩ dX7_sealedBy_83 (fun u_83 H locs hp_83 hS => ?_)
          obtain ⟨zf_83, rfl⟩ : ∃ z, z = u_83 := ⟨_, rfl⟩
          have hS : cx_S D vwCl A s (cyW q cI cZ n T k M d (cx_u Z 1 zf_83) F) H locs := hS
          have hp_83 : cx_EE zf_83 ↔ cx_EE ((Z 1)) ∨ ¬ v83_s0 = 0 := hp_83
          exact J86 zf_83 _ _ _ (by first | exact cx_goX (fun z => g5 z.1) | exact cx_goX (fun z => g14 z.2.1) | (rw [hp_83, b83.2]; exact ⟨fun z => z.imp id (fun y => ⟨g5, g14, y⟩), fun z => z.imp id (fun y => y.2.2)⟩)) hS (lv_sub hl [0, 1, 2] rfl)
        have J78 : ∀ (H : Heap) (locs : List Loc) (ls : Array Slot), ((cx_pl (T 0 t) (T 1 t)) ∨ ¬ (∃ j, j < ((T 7) (up.toNatClampNeg)).toNatClampNeg ∧ (T 6) (3 * (up.toNatClampNeg) + j) = nI t)) → cx_S D vwCl A s (cyW q cI cZ n T k M d Z F) H locs → lv_has ls 4 [(0, .ref (q 0)), (1, .int (nI t)), (2, .int up), (3, .int v60_s0)] → W p l e ({ frames := 2, cells := 0, slots := 0, locals := 43 } : Room) s m args below meth c H locs 0 0 Q (F0 m 78 ls [.int (nI (up.toNatClampNeg)), .int (nI 6), .ref (q 0)]) := by
          intro  H locs ls f78 hS hl
          refine lv_iconst (v := (1 : Int32)) hx hb dX7_sealedBy_78 (by decide) ?_
          refine lv_goto (tgt := 83) hx hb dX7_sealedBy_79 (by decide) ?_
          exact J83 (1 : Int32) _ _ _ (cx_e1 (by (try clear RET); (try clear hS); (try clear hl); (try clear hE); (try clear hts); (try clear hb); (try clear hx); (try clear hml); (try clear hown); (try clear hinX7); (try clear J86); (try clear J60); (try clear J83); (try clear J78); have y10 : ¬ (1 : Int32) = 0 := (by decide); first | assumption | (have ykd := cx_kd (hK0 t); first | grind | (unfold cx_pl; grind)))) hS (lv_sub hl [0, 1, 2, 3] rfl)
        refine lv_if_eq (tgt := 78) hx hb dX7_sealedBy_71 (by decide) (fun h71 => ?_) (fun h71 => ?_)
        · skip
          have g71 : ¬ (∃ j, j < (((T 7)) up.toNatClampNeg).toNatClampNeg ∧ ((T 6)) (3 * up.toNatClampNeg + j) = (nI t)) := fun z => hp_68.2.mpr z h71
          exact J78  _ _ _ (by (try clear RET); (try clear hS); (try clear hl); (try clear hE); (try clear hts); (try clear hb); (try clear hx); (try clear hml); (try clear hown); (try clear hinX7); (try clear J86); (try clear J60); (try clear J83); (try clear J78); have y10 : ¬ (1 : Int32) = 0 := (by decide); first | assumption | (have ykd := cx_kd (hK0 t); first | grind | (unfold cx_pl; grind))) hS (lv_sub hl [1, 2, 3, 0] rfl)
        · skip
          have g71 : ∃ j, j < (((T 7)) up.toNatClampNeg).toNatClampNeg ∧ ((T 6)) (3 * up.toNatClampNeg + j) = (nI t) := hp_68.2.mp h71
          refine lv_iload_n hx hb dX7_sealedBy_74 rfl (lv_at hl 0 rfl) ?_
          refine lv_if_eq (tgt := 82) hx hb dX7_sealedBy_75 (by decide) (fun h75 => ?_) (fun h75 => ?_)
          · skip
            have g75 : ¬ ((cx_pl (T 0 t) (T 1 t))) := fun z => b60.2.mpr z h75
            refine lv_iconst (v := (0 : Int32)) hx hb dX7_sealedBy_82 (by decide) ?_
            exact J83 (0 : Int32) _ _ _ (cx_e0 (by (try clear RET); (try clear hS); (try clear hl); (try clear hE); (try clear hts); (try clear hb); (try clear hx); (try clear hml); (try clear hown); (try clear hinX7); (try clear J86); (try clear J60); (try clear J83); (try clear J78); have y10 : ¬ (1 : Int32) = 0 := (by decide); first | assumption | (have ykd := cx_kd (hK0 t); first | grind | (unfold cx_pl; grind)))) hS (lv_sub hl [1, 2, 3, 0] rfl)
          · skip
            have g75 : (cx_pl (T 0 t) (T 1 t)) := b60.2.mp h75
            exact J78  _ _ _ (by (try clear RET); (try clear hS); (try clear hl); (try clear hE); (try clear hts); (try clear hb); (try clear hx); (try clear hml); (try clear hown); (try clear hinX7); (try clear J86); (try clear J60); (try clear J83); (try clear J78); have y10 : ¬ (1 : Int32) = 0 := (by decide); first | assumption | (have ykd := cx_kd (hK0 t); first | grind | (unfold cx_pl; grind))) hS (lv_sub hl [1, 2, 3, 0] rfl)
      have J59 : ∀ (H : Heap) (locs : List Loc) (ls : Array Slot), (¬ ((cx_pl (T 0 t) (T 1 t)))) → cx_S D vwCl A s (cyW q cI cZ n T k M d Z F) H locs → lv_has ls 4 [(0, .ref (q 0)), (1, .int (nI t)), (2, .int up)] → W p l e ({ frames := 2, cells := 0, slots := 0, locals := 43 } : Room) s m args below meth c H locs 0 0 Q (F0 m 59 ls []) := by
        intro  H locs ls f59 hS hl
        refine lv_iconst (v := (0 : Int32)) hx hb dX7_sealedBy_59 (by decide) ?_
        exact J60 (0 : Int32) _ _ _ (cx_e0 (by (try clear RET); (try clear hS); (try clear hl); (try clear hE); (try clear hts); (try clear hb); (try clear hx); (try clear hml); (try clear hown); (try clear hinX7); (try clear J86); (try clear J60); (try clear J59); have y10 : ¬ (1 : Int32) = 0 := (by decide); first | assumption | (have ykd := cx_kd (hK0 t); first | grind | (unfold cx_pl; grind)))) hS (lv_sub hl [0, 1, 2] rfl)
      refine lv_icmp_ge (tgt := 59) hx hb dX7_sealedBy_24 (by decide) (fun h24 => ?_) (fun h24 => ?_)
      · skip
        exact J59  _ _ _ (by (try clear RET); (try clear hS); (try clear hl); (try clear hE); (try clear hts); (try clear hb); (try clear hx); (try clear hml); (try clear hown); (try clear hinX7); (try clear J86); (try clear J60); (try clear J59); have y10 : ¬ (1 : Int32) = 0 := (by decide); first | assumption | (have ykd := cx_kd (hK0 t); first | grind | (unfold cx_pl; grind))) hS (lv_sub hl [0, 1, 2] rfl)
      · skip
        refine lv_aload_n hx hb dX7_sealedBy_27 rfl (lv_at hl 0 rfl) ?_
        refine lv_iload_n hx hb dX7_sealedBy_28 rfl (lv_at hl 1 rfl) ?_
        refine lv_iconst (v := nI 2) hx hb dX7_sealedBy_29 (by decide) ?_
        refine cx_cVi (As := [.int (nI t), .int (nI 2)]) (rest := []) ⟨hx, hb, hml, hown, hts⟩ hE hS (c_X7_marked l D q cI cZ n T k M d Z F t (nI 2) (by first | assumption | omega | rfl)) (cwV 2 hts gX7_sealedBy_X7_marked rfl rfl rfl (by decide +kernel) ⟨Nat.le_of_ble_eq_true rfl, Nat.le_of_ble_eq_true rfl⟩) 0 7 rfl rfl rfl hl.1 rfl (Nat.le_of_ble_eq_true rfl) ⟨Nat.zero_le _, Nat.zero_le _⟩ dX7_sealedBy_30 (fun r_30 u_30 H locs hp_30 hS => ?_)
        have hp_30 : (r_30 = 0 ∨ r_30 = 1) ∧ (¬ r_30 = 0 ↔ cx_mk ((T 1)) t (nI 2)) := hp_30
        refine lv_if_ne (tgt := 59) hx hb dX7_sealedBy_33 (by decide) (fun h33 => ?_) (fun h33 => ?_)
        · skip
          have g33 : cx_mk ((T 1)) t (nI 2) := hp_30.2.mp h33
          exact J59  _ _ _ (by (try clear RET); (try clear hS); (try clear hl); (try clear hE); (try clear hts); (try clear hb); (try clear hx); (try clear hml); (try clear hown); (try clear hinX7); (try clear J86); (try clear J60); (try clear J59); have y10 : ¬ (1 : Int32) = 0 := (by decide); first | assumption | (have ykd := cx_kd (hK0 t); first | grind | (unfold cx_pl; grind))) hS (lv_sub hl [0, 1, 2] rfl)
        · skip
          have g33 : ¬ (cx_mk ((T 1)) t (nI 2)) := fun z => hp_30.2.mpr z h33
          refine lv_aload_n hx hb dX7_sealedBy_36 rfl (lv_at hl 0 rfl) ?_
          refine lv_iload_n hx hb dX7_sealedBy_37 rfl (lv_at hl 1 rfl) ?_
          refine lv_iconst (v := nI 4) hx hb dX7_sealedBy_38 (by decide) ?_
          refine cx_cVi (As := [.int (nI t), .int (nI 4)]) (rest := []) ⟨hx, hb, hml, hown, hts⟩ hE hS (c_X7_marked l D q cI cZ n T k M d Z F t (nI 4) (by first | assumption | omega | rfl)) (cwV 2 hts gX7_sealedBy_X7_marked rfl rfl rfl (by decide +kernel) ⟨Nat.le_of_ble_eq_true rfl, Nat.le_of_ble_eq_true rfl⟩) 0 7 rfl rfl rfl hl.1 rfl (Nat.le_of_ble_eq_true rfl) ⟨Nat.zero_le _, Nat.zero_le _⟩ dX7_sealedBy_39 (fun r_39 u_39 H locs hp_39 hS => ?_)
          have hp_39 : (r_39 = 0 ∨ r_39 = 1) ∧ (¬ r_39 = 0 ↔ cx_mk ((T 1)) t (nI 4)) := hp_39
          refine lv_if_ne (tgt := 59) hx hb dX7_sealedBy_42 (by decide) (fun h42 => ?_) (fun h42 => ?_)
          · skip
            have g42 : cx_mk ((T 1)) t (nI 4) := hp_39.2.mp h42
            exact J59  _ _ _ (by (try clear RET); (try clear hS); (try clear hl); (try clear hE); (try clear hts); (try clear hb); (try clear hx); (try clear hml); (try clear hown); (try clear hinX7); (try clear J86); (try clear J60); (try clear J59); have y10 : ¬ (1 : Int32) = 0 := (by decide); first | assumption | (have ykd := cx_kd (hK0 t); first | grind | (unfold cx_pl; grind))) hS (lv_sub hl [0, 1, 2] rfl)
          · skip
            have g42 : ¬ (cx_mk ((T 1)) t (nI 4)) := fun z => hp_39.2.mpr z h42
            refine lv_aload_n hx hb dX7_sealedBy_45 rfl (lv_at hl 0 rfl) ?_
            refine lv_iload_n hx hb dX7_sealedBy_46 rfl (lv_at hl 1 rfl) ?_
            refine lv_bipush (v := nI 8) hx hb dX7_sealedBy_47 (by decide) ?_
            refine cx_cVi (As := [.int (nI t), .int (nI 8)]) (rest := []) ⟨hx, hb, hml, hown, hts⟩ hE hS (c_X7_marked l D q cI cZ n T k M d Z F t (nI 8) (by first | assumption | omega | rfl)) (cwV 2 hts gX7_sealedBy_X7_marked rfl rfl rfl (by decide +kernel) ⟨Nat.le_of_ble_eq_true rfl, Nat.le_of_ble_eq_true rfl⟩) 0 7 rfl rfl rfl hl.1 rfl (Nat.le_of_ble_eq_true rfl) ⟨Nat.zero_le _, Nat.zero_le _⟩ dX7_sealedBy_49 (fun r_49 u_49 H locs hp_49 hS => ?_)
            have hp_49 : (r_49 = 0 ∨ r_49 = 1) ∧ (¬ r_49 = 0 ↔ cx_mk ((T 1)) t (nI 8)) := hp_49
            refine lv_if_ne (tgt := 59) hx hb dX7_sealedBy_52 (by decide) (fun h52 => ?_) (fun h52 => ?_)
            · skip
              have g52 : cx_mk ((T 1)) t (nI 8) := hp_49.2.mp h52
              exact J59  _ _ _ (by (try clear RET); (try clear hS); (try clear hl); (try clear hE); (try clear hts); (try clear hb); (try clear hx); (try clear hml); (try clear hown); (try clear hinX7); (try clear J86); (try clear J60); (try clear J59); have y10 : ¬ (1 : Int32) = 0 := (by decide); first | assumption | (have ykd := cx_kd (hK0 t); first | grind | (unfold cx_pl; grind))) hS (lv_sub hl [0, 1, 2] rfl)
            · skip
              have g52 : ¬ (cx_mk ((T 1)) t (nI 8)) := fun z => hp_49.2.mpr z h52
              refine lv_iconst (v := (1 : Int32)) hx hb dX7_sealedBy_55 (by decide) ?_
              refine lv_goto (tgt := 60) hx hb dX7_sealedBy_56 (by decide) ?_
              exact J60 (1 : Int32) _ _ _ (cx_e1 (by (try clear RET); (try clear hS); (try clear hl); (try clear hE); (try clear hts); (try clear hb); (try clear hx); (try clear hml); (try clear hown); (try clear hinX7); (try clear J86); (try clear J60); (try clear J59); have y10 : ¬ (1 : Int32) = 0 := (by decide); first | assumption | (have ykd := cx_kd (hK0 t); first | grind | (unfold cx_pl; grind)))) hS (lv_sub hl [0, 1, 2] rfl)
set_option maxHeartbeats 4000000 in
set_option maxRecDepth 100000 in
theorem c_X7_isSealed (l : Launch) (D : va_G) (q : Nat → Nat) (cI cZ : ClassId) (n : Nat) (T : Nat → Nat → Int32) (k : Nat) (M : Nat → Nat → Int32) (d : Nat) (Z : Nat → Nat → Int32) (F : Nat → Nat → Int32) (up : Int32) (hn : n ≤ 20) : cx_Mi l D vwCl [(cI, .int), (cZ, .boolean)] cx_NW yX7_isSealed wsX7_isSealed ({ frames := 2, cells := 0, slots := 0, locals := 43 } : Room) [.ref (q 0), .int up] (cyW q cI cZ n T k M d Z F) (fun (r : Int32) (uw : Unit) => (r = 0 ∨ r = 1) ∧ (¬ r = 0 ↔ cx_rs n T up)) (fun _ => (cyW q cI cZ n T k M d Z F)) := by
  refine cx_Mi.of (cc := cX7_isSealed) (maxL := 2) cx_NW_ok (by decide) rfl (Nat.le_of_ble_eq_true rfl) ?_
  intro p e s m args below meth c Q A ls hx hb hml hown hts hE RET hS hl
  have hl : lv_has ls 2 [(0, .ref (q 0)), (1, .int up)] := hl
  have hown : s.vm.findClass RX7 = some m.cls := hown
  refine lv_aload_n hx hb dX7_isSealed_0 rfl (lv_at hl 0 rfl) ?_
  refine lv_iload_n hx hb dX7_isSealed_1 rfl (lv_at hl 1 rfl) ?_
  refine cx_cVi (As := [.int up]) (rest := []) ⟨hx, hb, hml, hown, hts⟩ hE hS (c_X7_isType l D q cI cZ n T k M d Z F up (by first | assumption | omega | rfl)) (cwV 1 hts gX7_isSealed_X7_isType rfl rfl rfl (by decide +kernel) ⟨Nat.le_of_ble_eq_true rfl, Nat.le_of_ble_eq_true rfl⟩) 0 7 rfl rfl rfl hl.1 rfl (Nat.le_of_ble_eq_true rfl) ⟨Nat.zero_le _, Nat.zero_le _⟩ dX7_isSealed_2 (fun r_2 u_2 H locs hp_2 hS => ?_)
  have hp_2 : r_2 = cx_b (0 ≤ up ∧ up < nI n) := hp_2
  subst hp_2
  have J22 : ∀ (v22_s0 : Int32) (H : Heap) (locs : List Loc) (ls : Array Slot), ((v22_s0 = 0 ∨ v22_s0 = 1) ∧ (¬ v22_s0 = 0 ↔ cx_rs n T up)) → cx_S D vwCl A s (cyW q cI cZ n T k M d Z F) H locs → lv_has ls 2 [(0, .ref (q 0)), (1, .int up)] → W p l e ({ frames := 2, cells := 0, slots := 0, locals := 43 } : Room) s m args below meth c H locs 0 0 Q (F0 m 22 ls [.int v22_s0]) := by
    intro v22_s0 H locs ls b22 hS hl
    exact RET _ () _ _ _ _ dX7_isSealed_22 (cx_nb b22.1) (by first | exact b22 | (try clear RET); (try clear hS); (try clear hl); (try clear hE); (try clear hts); (try clear hb); (try clear hx); (try clear hml); (try clear hown); (try clear J22); have y10 : ¬ (1 : Int32) = 0 := (by decide); first | assumption | (unfold cx_rs; grind)) hS
  have J21 : ∀ (H : Heap) (locs : List Loc) (ls : Array Slot), (¬ (cx_rs n T up)) → cx_S D vwCl A s (cyW q cI cZ n T k M d Z F) H locs → lv_has ls 2 [(0, .ref (q 0)), (1, .int up)] → W p l e ({ frames := 2, cells := 0, slots := 0, locals := 43 } : Room) s m args below meth c H locs 0 0 Q (F0 m 21 ls []) := by
    intro  H locs ls f21 hS hl
    refine lv_iconst (v := (0 : Int32)) hx hb dX7_isSealed_21 (by decide) ?_
    exact J22 (0 : Int32) _ _ _ (cx_e0 (by (try clear RET); (try clear hS); (try clear hl); (try clear hE); (try clear hts); (try clear hb); (try clear hx); (try clear hml); (try clear hown); (try clear J22); (try clear J21); have y10 : ¬ (1 : Int32) = 0 := (by decide); first | assumption | (unfold cx_rs; grind))) hS (lv_sub hl [0, 1] rfl)
  refine lv_if_eq (tgt := 21) hx hb dX7_isSealed_5 (by decide) (fun h5 => ?_) (fun h5 => ?_)
  · skip
    have g5 := cx_b0 h5
    exact J21  _ _ _ (by (try clear RET); (try clear hS); (try clear hl); (try clear hE); (try clear hts); (try clear hb); (try clear hx); (try clear hml); (try clear hown); (try clear J22); (try clear J21); have y10 : ¬ (1 : Int32) = 0 := (by decide); first | assumption | (unfold cx_rs; grind)) hS (lv_sub hl [0, 1] rfl)
  · skip
    have g5 := cx_b1 h5
    have hq5 := (cx_ixT (by omega) g5).2
    refine lv_aload_n hx hb dX7_isSealed_8 rfl (lv_at hl 0 rfl) ?_
    refine lv_iload_n hx hb dX7_isSealed_9 rfl (lv_at hl 1 rfl) ?_
    refine cx_topr (z := nI (up.toNatClampNeg)) (cx_ixT (by omega) g5).1 ?_
    refine lv_iconst (v := nI 4) hx hb dX7_isSealed_10 (by decide) ?_
    refine cx_cVi (As := [.int (nI (up.toNatClampNeg)), .int (nI 4)]) (rest := []) ⟨hx, hb, hml, hown, hts⟩ hE hS (c_X7_marked l D q cI cZ n T k M d Z F up.toNatClampNeg (nI 4) (by first | assumption | omega | rfl)) (cwV 2 hts gX7_isSealed_X7_marked rfl rfl rfl (by decide +kernel) ⟨Nat.le_of_ble_eq_true rfl, Nat.le_of_ble_eq_true rfl⟩) 0 7 rfl rfl rfl hl.1 rfl (Nat.le_of_ble_eq_true rfl) ⟨Nat.zero_le _, Nat.zero_le _⟩ dX7_isSealed_11 (fun r_11 u_11 H locs hp_11 hS => ?_)
    have hp_11 : (r_11 = 0 ∨ r_11 = 1) ∧ (¬ r_11 = 0 ↔ cx_mk ((T 1)) up.toNatClampNeg (nI 4)) := hp_11
    refine lv_if_eq (tgt := 21) hx hb dX7_isSealed_14 (by decide) (fun h14 => ?_) (fun h14 => ?_)
    · skip
      have g14 : ¬ (cx_mk ((T 1)) up.toNatClampNeg (nI 4)) := fun z => hp_11.2.mpr z h14
      exact J21  _ _ _ (by (try clear RET); (try clear hS); (try clear hl); (try clear hE); (try clear hts); (try clear hb); (try clear hx); (try clear hml); (try clear hown); (try clear J22); (try clear J21); have y10 : ¬ (1 : Int32) = 0 := (by decide); first | assumption | (unfold cx_rs; grind)) hS (lv_sub hl [0, 1] rfl)
    · skip
      have g14 : cx_mk ((T 1)) up.toNatClampNeg (nI 4) := hp_11.2.mp h14
      refine lv_iconst (v := (1 : Int32)) hx hb dX7_isSealed_17 (by decide) ?_
      refine lv_goto (tgt := 22) hx hb dX7_isSealed_18 (by decide) ?_
      exact J22 (1 : Int32) _ _ _ (cx_e1 (by (try clear RET); (try clear hS); (try clear hl); (try clear hE); (try clear hts); (try clear hb); (try clear hx); (try clear hml); (try clear hown); (try clear J22); (try clear J21); have y10 : ¬ (1 : Int32) = 0 := (by decide); first | assumption | (unfold cx_rs; grind))) hS (lv_sub hl [0, 1] rfl)
set_option maxHeartbeats 4000000 in
set_option maxRecDepth 100000 in
theorem c_X7_typeFaults (l : Launch) (D : va_G) (q : Nat → Nat) (cI cZ : ClassId) (n : Nat) (T : Nat → Nat → Int32) (k : Nat) (M : Nat → Nat → Int32) (d : Nat) (Z : Nat → Nat → Int32) (F : Nat → Nat → Int32) (t : Nat) (hn : n ≤ 20) (hU : cx_R (T 4) 20) (hQ : cx_R (T 6) 20) (hV : cx_R (T 5) 4) (hW : cx_R (T 7) 4) (hK0 : cx_R (T 0) 4) (ht : t < n) : cx_Mv l D vwCl [(cI, .int), (cZ, .boolean)] cx_NW yX7_typeFaults wsX7_typeFaults ({ frames := 3, cells := 0, slots := 0, locals := 66 } : Room) [.ref (q 0), .int (nI t)] (cyW q cI cZ n T k M d Z F) (fun (uw : (Nat → Int32)) => cx_EE uw ↔ cx_EE (Z 1) ∨ cx_rT n T t) (fun uw => (cyW q cI cZ n T k M d (cx_u Z 1 uw) F)) := by
  refine cx_Mv.of (cc := cX7_typeFaults) (maxL := 8) cx_NW_ok (by decide) rfl (Nat.le_of_ble_eq_true rfl) ?_
  intro p e s m args below meth c Q A ls hx hb hml hown hts hE RET hS hl
  have hl : lv_has ls 8 [(0, .ref (q 0)), (1, .int (nI t))] := hl
  have hown : s.vm.findClass RX7 = some m.cls := hown
  have hinX7 : ∀ w ∈ u_ws RX7 TX7 22, w ∈ wsX7_typeFaults := cx_mem [42, 43, 44, 45, 46, 47, 48, 49, 50, 51, 52, 53, 54, 55, 56, 57, 58, 59, 60, 61, 62, 63] (by decide +kernel)
  refine lv_aload_n hx hb dX7_typeFaults_0 rfl (lv_at hl 0 rfl) ?_
  refine cx_get (own := RX7) (index := 19) (C := RX7) (T := TX7) (N := 22) (k := 4) (ci := 7) (v := .ref (q 4)) hx hb hts hown hE hS hinX7 0 rfl rfl (by decide) (List.mem_of_getElem? (i := 1) rfl) rfl dX7_typeFaults_1 ?_
  refine lv_iload_n hx hb dX7_typeFaults_4 rfl (lv_at hl 1 rfl) ?_
  refine cx_iald (f := (T 3)) (n := 20) (cA := cI) hx hb hE hS 4 0 rfl rfl (by omega) (by decide) dX7_typeFaults_5 ?_
  refine lv_istore_n (lv' := [(2, .int ((T 3) t)), (0, .ref (q 0)), (1, .int (nI t))]) hx hb dX7_typeFaults_6 rfl hl (by decide) rfl (fun ls hl => ?_)
  refine lv_aload_n hx hb dX7_typeFaults_7 rfl (lv_at hl 1 rfl) ?_
  refine lv_iload_n hx hb dX7_typeFaults_8 rfl (lv_at hl 0 rfl) ?_
  refine cx_cVi (As := [.int ((T 3) t)]) (rest := []) ⟨hx, hb, hml, hown, hts⟩ hE hS (c_X7_isType l D q cI cZ n T k M d Z F ((T 3) t) (by first | assumption | omega | rfl)) (cwV 1 hts gX7_typeFaults_X7_isType rfl rfl rfl (by decide +kernel) ⟨Nat.le_of_ble_eq_true rfl, Nat.le_of_ble_eq_true rfl⟩) 0 7 rfl rfl rfl hl.1 rfl (Nat.le_of_ble_eq_true rfl) ⟨Nat.zero_le _, Nat.zero_le _⟩ dX7_typeFaults_9 (fun r_9 u_9 H locs hp_9 hS => ?_)
  have hp_9 : r_9 = cx_b (0 ≤ ((T 3) t) ∧ ((T 3) t) < nI n) := hp_9
  subst hp_9
  have J27 : ∀ (Z_1_27 : Nat → Int32) (H : Heap) (locs : List Loc) (ls : Array Slot), (cx_EE Z_1_27 ↔ cx_EE (Z 1) ∨ ((0 ≤ T 3 t ∧ T 3 t < nI n) ∧ cx_mk (T 1) (T 3 t).toNatClampNeg (nI 2))) → cx_S D vwCl A s (cyW q cI cZ n T k M d (cx_u Z 1 Z_1_27) F) H locs → lv_has ls 8 [(0, .ref (q 0)), (1, .int (nI t)), (2, .int ((T 3) t))] → W p l e ({ frames := 3, cells := 0, slots := 0, locals := 66 } : Room) s m args below meth c H locs 0 0 Q (F0 m 27 ls []) := by
    intro Z_1_27 H locs ls hq27 hS hl
    refine lv_aload_n hx hb dX7_typeFaults_27 rfl (lv_at hl 0 rfl) ?_
    refine lv_iload_n hx hb dX7_typeFaults_28 rfl (lv_at hl 1 rfl) ?_
    refine lv_iconst (v := nI 2) hx hb dX7_typeFaults_29 (by decide) ?_
    refine cx_cVi (As := [.int (nI t), .int (nI 2)]) (rest := []) ⟨hx, hb, hml, hown, hts⟩ hE hS (c_X7_marked l D q cI cZ n T k M d (cx_u Z 1 Z_1_27) F t (nI 2) (by first | assumption | omega | rfl)) (cwV 2 hts gX7_typeFaults_X7_marked rfl rfl rfl (by decide +kernel) ⟨Nat.le_of_ble_eq_true rfl, Nat.le_of_ble_eq_true rfl⟩) 0 7 rfl rfl rfl hl.1 rfl (Nat.le_of_ble_eq_true rfl) ⟨Nat.zero_le _, Nat.zero_le _⟩ dX7_typeFaults_30 (fun r_30 u_30 H locs hp_30 hS => ?_)
    have hp_30 : (r_30 = 0 ∨ r_30 = 1) ∧ (¬ r_30 = 0 ↔ cx_mk ((T 1)) t (nI 2)) := hp_30
    have J41 : ∀ (v41_s0 : Int32) (H : Heap) (locs : List Loc) (ls : Array Slot), ((cx_mk (T 1) t (nI 2) ∧ v41_s0 = 1) ∨ (¬ cx_mk (T 1) t (nI 2) ∧ v41_s0 = 0)) → cx_S D vwCl A s (cyW q cI cZ n T k M d (cx_u Z 1 Z_1_27) F) H locs → lv_has ls 8 [(0, .ref (q 0)), (1, .int (nI t)), (2, .int ((T 3) t))] → W p l e ({ frames := 3, cells := 0, slots := 0, locals := 66 } : Room) s m args below meth c H locs 0 0 Q (F0 m 41 ls [.int v41_s0]) := by
      intro v41_s0 H locs ls h41 hS hl
      refine lv_aload_n hx hb dX7_typeFaults_41 rfl (lv_at hl 0 rfl) ?_
      refine lv_iload_n hx hb dX7_typeFaults_42 rfl (lv_at hl 1 rfl) ?_
      refine lv_iconst (v := nI 4) hx hb dX7_typeFaults_43 (by decide) ?_
      refine cx_cVi (As := [.int (nI t), .int (nI 4)]) (rest := [.int v41_s0]) ⟨hx, hb, hml, hown, hts⟩ hE hS (c_X7_marked l D q cI cZ n T k M d (cx_u Z 1 Z_1_27) F t (nI 4) (by first | assumption | omega | rfl)) (cwV 2 hts gX7_typeFaults_X7_marked rfl rfl rfl (by decide +kernel) ⟨Nat.le_of_ble_eq_true rfl, Nat.le_of_ble_eq_true rfl⟩) 0 7 rfl rfl rfl hl.1 rfl (Nat.le_of_ble_eq_true rfl) ⟨Nat.zero_le _, Nat.zero_le _⟩ dX7_typeFaults_44 (fun r_44 u_44 H locs hp_44 hS => ?_)
      have hp_44 : (r_44 = 0 ∨ r_44 = 1) ∧ (¬ r_44 = 0 ↔ cx_mk ((T 1)) t (nI 4)) := hp_44
      have J55 : ∀ (v55_s0 : Int32) (H : Heap) (locs : List Loc) (ls : Array Slot), ((cx_mk (T 1) t (nI 4) ∧ v55_s0 = 1) ∨ (¬ cx_mk (T 1) t (nI 4) ∧ v55_s0 = 0)) → cx_S D vwCl A s (cyW q cI cZ n T k M d (cx_u Z 1 Z_1_27) F) H locs → lv_has ls 8 [(0, .ref (q 0)), (1, .int (nI t)), (2, .int ((T 3) t))] → W p l e ({ frames := 3, cells := 0, slots := 0, locals := 66 } : Room) s m args below meth c H locs 0 0 Q (F0 m 55 ls [.int v55_s0, .int v41_s0]) := by
        intro v55_s0 H locs ls h55 hS hl
        refine lv_iadd hx hb dX7_typeFaults_55 ?_
        refine lv_aload_n hx hb dX7_typeFaults_56 rfl (lv_at hl 0 rfl) ?_
        refine lv_iload_n hx hb dX7_typeFaults_57 rfl (lv_at hl 1 rfl) ?_
        refine lv_bipush (v := nI 8) hx hb dX7_typeFaults_58 (by decide) ?_
        refine cx_cVi (As := [.int (nI t), .int (nI 8)]) (rest := [.int (v41_s0 + v55_s0)]) ⟨hx, hb, hml, hown, hts⟩ hE hS (c_X7_marked l D q cI cZ n T k M d (cx_u Z 1 Z_1_27) F t (nI 8) (by first | assumption | omega | rfl)) (cwV 2 hts gX7_typeFaults_X7_marked rfl rfl rfl (by decide +kernel) ⟨Nat.le_of_ble_eq_true rfl, Nat.le_of_ble_eq_true rfl⟩) 0 7 rfl rfl rfl hl.1 rfl (Nat.le_of_ble_eq_true rfl) ⟨Nat.zero_le _, Nat.zero_le _⟩ dX7_typeFaults_60 (fun r_60 u_60 H locs hp_60 hS => ?_)
        have hp_60 : (r_60 = 0 ∨ r_60 = 1) ∧ (¬ r_60 = 0 ↔ cx_mk ((T 1)) t (nI 8)) := hp_60
        have J71 : ∀ (v71_s0 : Int32) (H : Heap) (locs : List Loc) (ls : Array Slot), ((cx_mk (T 1) t (nI 8) ∧ v71_s0 = 1) ∨ (¬ cx_mk (T 1) t (nI 8) ∧ v71_s0 = 0)) → cx_S D vwCl A s (cyW q cI cZ n T k M d (cx_u Z 1 Z_1_27) F) H locs → lv_has ls 8 [(0, .ref (q 0)), (1, .int (nI t)), (2, .int ((T 3) t))] → W p l e ({ frames := 3, cells := 0, slots := 0, locals := 66 } : Room) s m args below meth c H locs 0 0 Q (F0 m 71 ls [.int v71_s0, .int (v41_s0 + v55_s0)]) := by
          intro v71_s0 H locs ls h71 hS hl
          refine lv_iadd hx hb dX7_typeFaults_71 ?_
          refine lv_istore_n (lv' := [(3, .int ((v41_s0 + v55_s0) + v71_s0)), (0, .ref (q 0)), (1, .int (nI t)), (2, .int ((T 3) t))]) hx hb dX7_typeFaults_72 rfl hl (by decide) rfl (fun ls hl => ?_)
          refine lv_aload_n hx hb dX7_typeFaults_73 rfl (lv_at hl 1 rfl) ?_
          refine lv_iconst (v := nI 5) hx hb dX7_typeFaults_74 (by decide) ?_
          refine lv_iload_n hx hb dX7_typeFaults_75 rfl (lv_at hl 2 rfl) ?_
          refine lv_iload_n hx hb dX7_typeFaults_76 rfl (lv_at hl 0 rfl) ?_
          refine lv_iconst (v := (1 : Int32)) hx hb dX7_typeFaults_77 (by decide) ?_
          have J142 : ∀ (v142_s0 : Int32) (H : Heap) (locs : List Loc) (ls : Array Slot), ((v142_s0 = 0 ∨ v142_s0 = 1) ∧ (¬ v142_s0 = 0 ↔ cx_f5 (T 0 t) (T 1 t))) → cx_S D vwCl A s (cyW q cI cZ n T k M d (cx_u Z 1 Z_1_27) F) H locs → lv_has ls 8 [(0, .ref (q 0)), (1, .int (nI t)), (2, .int ((T 3) t)), (3, .int ((v41_s0 + v55_s0) + v71_s0))] → W p l e ({ frames := 3, cells := 0, slots := 0, locals := 66 } : Room) s m args below meth c H locs 0 0 Q (F0 m 142 ls [.int v142_s0, .int (nI t), .int (nI 5), .ref (q 0)]) := by
            intro v142_s0 H locs ls b142 hS hl
            refine cx_cVv (As := [.int (nI 5), .int (nI t), .int v142_s0]) (rest := []) ⟨hx, hb, hml, hown, hts⟩ hE hS (c_X7_mark l D q cI cZ n T k M d (cx_u Z 1 Z_1_27) F 5 t v142_s0 (by first | assumption | omega | rfl) (by first | assumption | omega | rfl)) (cwV 3 hts gX7_typeFaults_X7_mark rfl rfl rfl (by decide +kernel) ⟨Nat.le_of_ble_eq_true rfl, Nat.le_of_ble_eq_true rfl⟩) 0 7 rfl rfl rfl hl.1 rfl (Nat.le_of_ble_eq_true rfl) ⟨Nat.zero_le _, Nat.zero_le _⟩ dX7_typeFaults_142 (fun u_142 H locs hp_142 hS => ?_)
            obtain ⟨zf_142, rfl⟩ : ∃ z, z = u_142 := ⟨_, rfl⟩
            have hS : cx_S D vwCl A s (cyW q cI cZ n T k M d (cx_u Z 1 zf_142) F) H locs := hS
            have hp_142 : cx_EE zf_142 ↔ cx_EE (Z_1_27) ∨ ¬ v142_s0 = 0 := hp_142
            refine lv_aload_n hx hb dX7_typeFaults_145 rfl (lv_at hl 0 rfl) ?_
            refine lv_iload_n hx hb dX7_typeFaults_146 rfl (lv_at hl 1 rfl) ?_
            refine lv_iload_n hx hb dX7_typeFaults_147 rfl (lv_at hl 2 rfl) ?_
            refine cx_cVv (As := [.int (nI t), .int ((T 3) t)]) (rest := []) ⟨hx, hb, hml, hown, hts⟩ hE hS (c_X7_sealedBy l D q cI cZ n T k M d (cx_u Z 1 zf_142) F t ((T 3) t) (by first | assumption | omega | rfl) (by first | assumption | omega | rfl) (by first | assumption | omega | rfl) (by first | assumption | omega | rfl)) (cwV 2 hts gX7_typeFaults_X7_sealedBy rfl rfl rfl (by decide +kernel) ⟨Nat.le_of_ble_eq_true rfl, Nat.le_of_ble_eq_true rfl⟩) 0 7 rfl rfl rfl hl.1 rfl (Nat.le_of_ble_eq_true rfl) ⟨Nat.zero_le _, Nat.zero_le _⟩ dX7_typeFaults_148 (fun u_148 H locs hp_148 hS => ?_)
            obtain ⟨zf_148, rfl⟩ : ∃ z, z = u_148 := ⟨_, rfl⟩
            have hS : cx_S D vwCl A s (cyW q cI cZ n T k M d (cx_u Z 1 zf_148) F) H locs := hS
            have hp_148 : cx_EE zf_148 ↔ cx_EE (zf_142) ∨ cx_rS n T t ((T 3) t) := hp_148
            have hq148 : cx_EE zf_148 ↔ ((((cx_EE (Z 1) ∨ ((0 ≤ T 3 t ∧ T 3 t < nI n) ∧ cx_mk (T 1) (T 3 t).toNatClampNeg (nI 2))) ∨ cx_f5 (T 0 t) (T 1 t)) ∨ cx_rS n T t (T 3 t))) := by rw [hp_148, hp_142, b142.2, hq27]
            refine lv_aload_n hx hb dX7_typeFaults_151 rfl (lv_at hl 0 rfl) ?_
            refine lv_iload_n hx hb dX7_typeFaults_152 rfl (lv_at hl 2 rfl) ?_
            refine cx_cVi (As := [.int ((T 3) t)]) (rest := []) ⟨hx, hb, hml, hown, hts⟩ hE hS (c_X7_isSealed l D q cI cZ n T k M d (cx_u Z 1 zf_148) F ((T 3) t) (by first | assumption | omega | rfl)) (cwV 1 hts gX7_typeFaults_X7_isSealed rfl rfl rfl (by decide +kernel) ⟨Nat.le_of_ble_eq_true rfl, Nat.le_of_ble_eq_true rfl⟩) 0 7 rfl rfl rfl hl.1 rfl (Nat.le_of_ble_eq_true rfl) ⟨Nat.zero_le _, Nat.zero_le _⟩ dX7_typeFaults_153 (fun r_153 u_153 H locs hp_153 hS => ?_)
            have hp_153 : (r_153 = 0 ∨ r_153 = 1) ∧ (¬ r_153 = 0 ↔ cx_rs n T ((T 3) t)) := hp_153
            refine lv_istore (lv' := [(4, .int r_153), (0, .ref (q 0)), (1, .int (nI t)), (2, .int ((T 3) t)), (3, .int ((v41_s0 + v55_s0) + v71_s0))]) hx hb dX7_typeFaults_156 hl (by decide) rfl (fun ls hl => ?_)
            refine lv_iconst (v := (0 : Int32)) hx hb dX7_typeFaults_158 (by decide) ?_
            refine cx_topr (z := nI 0) (by decide) ?_
            refine lv_istore (lv' := [(5, .int (nI 0)), (4, .int r_153), (0, .ref (q 0)), (1, .int (nI t)), (2, .int ((T 3) t)), (3, .int ((v41_s0 + v55_s0) + v71_s0))]) hx hb dX7_typeFaults_159 hl (by decide) rfl (fun ls hl => ?_)
            have J161 : ∀ (N : Nat) (v161_l4 : Int32) (i161 : Nat) (Z_1_161 : Nat → Int32) (H : Heap) (locs : List Loc) (ls : Array Slot), (((T 5) t).toNatClampNeg - i161 < N) → (i161 ≤ ((T 5) t).toNatClampNeg) → ((v161_l4 = 0 ∨ v161_l4 = 1) ∧ (¬ v161_l4 = 0 ↔ cx_rs n T (T 3 t) ∨ ∃ j, j < i161 ∧ cx_rs n T (T 4 (3 * t + j)))) → (cx_EE Z_1_161 ↔ ((((cx_EE (Z 1) ∨ ((0 ≤ T 3 t ∧ T 3 t < nI n) ∧ cx_mk (T 1) (T 3 t).toNatClampNeg (nI 2))) ∨ cx_f5 (T 0 t) (T 1 t)) ∨ cx_rS n T t (T 3 t))) ∨ ∃ j, j < i161 ∧ (cx_rS n T t (T 4 (3 * t + j)) ∨ cx_rW n T t j)) → cx_S D vwCl A s (cyW q cI cZ n T k M d (cx_u Z 1 Z_1_161) F) H locs → lv_has ls 8 [(0, .ref (q 0)), (1, .int (nI t)), (2, .int ((T 3) t)), (3, .int ((v41_s0 + v55_s0) + v71_s0)), (4, .int v161_l4), (5, .int (nI i161))] → W p l e ({ frames := 3, cells := 0, slots := 0, locals := 66 } : Room) s m args below meth c H locs 0 0 Q (F0 m 161 ls []) := by
              intro N161
              induction N161 with
              | zero => intro v161_l4 i161 Z_1_161 H locs ls hN; exact absurd hN (by omega)
              | succ N161 ih161 =>
                intro v161_l4 i161 Z_1_161 H locs ls hN161 hi161 b161_4 hq161 hS hl
                refine lv_iload hx hb dX7_typeFaults_161 (lv_at hl 5 rfl) ?_
                refine lv_aload_n hx hb dX7_typeFaults_163 rfl (lv_at hl 0 rfl) ?_
                refine cx_get (own := RX7) (index := 25) (C := RX7) (T := TX7) (N := 22) (k := 6) (ci := 7) (v := .ref (q 6)) hx hb hts hown hE hS hinX7 0 rfl rfl (by decide) (List.mem_of_getElem? (i := 4) rfl) rfl dX7_typeFaults_164 ?_
                refine lv_iload_n hx hb dX7_typeFaults_167 rfl (lv_at hl 1 rfl) ?_
                refine cx_iald (f := (T 5)) (n := 20) (cA := cI) hx hb hE hS 6 0 rfl rfl (by omega) (by decide) dX7_typeFaults_168 ?_
                have ho168 := (hV t).2
                refine cx_topr (z := nI (((T 5) t).toNatClampNeg)) (hV t).1 ?_
                refine lv_icmp_ge (tgt := 273) hx hb dX7_typeFaults_169 (by decide) (fun h169 => ?_) (fun h169 => ?_)
                · skip
                  have g169 : (((T 5) t).toNatClampNeg) ≤ i161 := (nI_leI (a := ((T 5) t).toNatClampNeg) (b := i161) (by omega) (by omega)).mp h169
                  refine lv_aload_n hx hb dX7_typeFaults_273 rfl (lv_at hl 0 rfl) ?_
                  refine lv_bipush (v := nI 6) hx hb dX7_typeFaults_274 (by decide) ?_
                  refine lv_iload_n hx hb dX7_typeFaults_276 rfl (lv_at hl 1 rfl) ?_
                  refine lv_aload_n hx hb dX7_typeFaults_277 rfl (lv_at hl 0 rfl) ?_
                  refine lv_iload_n hx hb dX7_typeFaults_278 rfl (lv_at hl 1 rfl) ?_
                  refine lv_bipush (v := nI 8) hx hb dX7_typeFaults_279 (by decide) ?_
                  refine cx_cVi (As := [.int (nI t), .int (nI 8)]) (rest := [.int (nI t), .int (nI 6), .ref (q 0)]) ⟨hx, hb, hml, hown, hts⟩ hE hS (c_X7_marked l D q cI cZ n T k M d (cx_u Z 1 Z_1_161) F t (nI 8) (by first | assumption | omega | rfl)) (cwV 2 hts gX7_typeFaults_X7_marked rfl rfl rfl (by decide +kernel) ⟨Nat.le_of_ble_eq_true rfl, Nat.le_of_ble_eq_true rfl⟩) 0 7 rfl rfl rfl hl.1 rfl (Nat.le_of_ble_eq_true rfl) ⟨Nat.zero_le _, Nat.zero_le _⟩ dX7_typeFaults_281 (fun r_281 u_281 H locs hp_281 hS => ?_)
                  have hp_281 : (r_281 = 0 ∨ r_281 = 1) ∧ (¬ r_281 = 0 ↔ cx_mk ((T 1)) t (nI 8)) := hp_281
                  have J297 : ∀ (v297_s0 : Int32) (H : Heap) (locs : List Loc) (ls : Array Slot), ((v297_s0 = 0 ∨ v297_s0 = 1) ∧ (¬ v297_s0 = 0 ↔ cx_mk (T 1) t (nI 8) ∧ ¬ (cx_rs n T (T 3 t) ∨ ∃ j, j < ((T 5) t).toNatClampNeg ∧ cx_rs n T (T 4 (3 * t + j))))) → cx_S D vwCl A s (cyW q cI cZ n T k M d (cx_u Z 1 Z_1_161) F) H locs → lv_has ls 8 [(0, .ref (q 0)), (1, .int (nI t)), (2, .int ((T 3) t)), (3, .int ((v41_s0 + v55_s0) + v71_s0)), (4, .int v161_l4), (5, .int (nI i161))] → W p l e ({ frames := 3, cells := 0, slots := 0, locals := 66 } : Room) s m args below meth c H locs 0 0 Q (F0 m 297 ls [.int v297_s0, .int (nI t), .int (nI 6), .ref (q 0)]) := by
                    intro v297_s0 H locs ls b297 hS hl
                    refine cx_cVv (As := [.int (nI 6), .int (nI t), .int v297_s0]) (rest := []) ⟨hx, hb, hml, hown, hts⟩ hE hS (c_X7_mark l D q cI cZ n T k M d (cx_u Z 1 Z_1_161) F 6 t v297_s0 (by first | assumption | omega | rfl) (by first | assumption | omega | rfl)) (cwV 3 hts gX7_typeFaults_X7_mark rfl rfl rfl (by decide +kernel) ⟨Nat.le_of_ble_eq_true rfl, Nat.le_of_ble_eq_true rfl⟩) 0 7 rfl rfl rfl hl.1 rfl (Nat.le_of_ble_eq_true rfl) ⟨Nat.zero_le _, Nat.zero_le _⟩ dX7_typeFaults_297 (fun u_297 H locs hp_297 hS => ?_)
                    obtain ⟨zf_297, rfl⟩ : ∃ z, z = u_297 := ⟨_, rfl⟩
                    have hS : cx_S D vwCl A s (cyW q cI cZ n T k M d (cx_u Z 1 zf_297) F) H locs := hS
                    have hp_297 : cx_EE zf_297 ↔ cx_EE (Z_1_161) ∨ ¬ v297_s0 = 0 := hp_297
                    refine lv_aload_n hx hb dX7_typeFaults_300 rfl (lv_at hl 0 rfl) ?_
                    refine lv_bipush (v := nI 7) hx hb dX7_typeFaults_301 (by decide) ?_
                    refine lv_iload_n hx hb dX7_typeFaults_303 rfl (lv_at hl 1 rfl) ?_
                    refine lv_aload_n hx hb dX7_typeFaults_304 rfl (lv_at hl 0 rfl) ?_
                    refine cx_get (own := RX7) (index := 31) (C := RX7) (T := TX7) (N := 22) (k := 8) (ci := 7) (v := .ref (q 8)) hx hb hts hown hE hS hinX7 0 rfl rfl (by decide) (List.mem_of_getElem? (i := 6) rfl) rfl dX7_typeFaults_305 ?_
                    refine lv_iload_n hx hb dX7_typeFaults_308 rfl (lv_at hl 1 rfl) ?_
                    refine cx_iald (f := (T 7)) (n := 20) (cA := cI) hx hb hE hS 8 0 rfl rfl (by omega) (by decide) dX7_typeFaults_309 ?_
                    have ho309 := (hW t).2
                    refine cx_topr (z := nI (((T 7) t).toNatClampNeg)) (hW t).1 ?_
                    have J318 : ∀ (v318_s0 : Int32) (H : Heap) (locs : List Loc) (ls : Array Slot), ((v318_s0 = 0 ∨ v318_s0 = 1) ∧ (¬ v318_s0 = 0 ↔ 0 < ((T 7) t).toNatClampNeg)) → cx_S D vwCl A s (cyW q cI cZ n T k M d (cx_u Z 1 zf_297) F) H locs → lv_has ls 8 [(0, .ref (q 0)), (1, .int (nI t)), (2, .int ((T 3) t)), (3, .int ((v41_s0 + v55_s0) + v71_s0)), (4, .int v161_l4), (5, .int (nI i161))] → W p l e ({ frames := 3, cells := 0, slots := 0, locals := 66 } : Room) s m args below meth c H locs 0 0 Q (F0 m 318 ls [.int v318_s0, .int (nI t), .int (nI 7), .ref (q 0)]) := by
                      intro v318_s0 H locs ls b318 hS hl
                      refine lv_aload_n hx hb dX7_typeFaults_318 rfl (lv_at hl 0 rfl) ?_
                      refine lv_iload_n hx hb dX7_typeFaults_319 rfl (lv_at hl 1 rfl) ?_
                      refine lv_iconst (v := nI 4) hx hb dX7_typeFaults_320 (by decide) ?_
                      refine cx_cVi (As := [.int (nI t), .int (nI 4)]) (rest := [.int v318_s0, .int (nI t), .int (nI 7), .ref (q 0)]) ⟨hx, hb, hml, hown, hts⟩ hE hS (c_X7_marked l D q cI cZ n T k M d (cx_u Z 1 zf_297) F t (nI 4) (by first | assumption | omega | rfl)) (cwV 2 hts gX7_typeFaults_X7_marked rfl rfl rfl (by decide +kernel) ⟨Nat.le_of_ble_eq_true rfl, Nat.le_of_ble_eq_true rfl⟩) 0 7 rfl rfl rfl hl.1 rfl (Nat.le_of_ble_eq_true rfl) ⟨Nat.zero_le _, Nat.zero_le _⟩ dX7_typeFaults_321 (fun r_321 u_321 H locs hp_321 hS => ?_)
                      have hp_321 : (r_321 = 0 ∨ r_321 = 1) ∧ (¬ r_321 = 0 ↔ cx_mk ((T 1)) t (nI 4)) := hp_321
                      have J332 : ∀ (v332_s0 : Int32) (H : Heap) (locs : List Loc) (ls : Array Slot), ((v332_s0 = 0 ∨ v332_s0 = 1) ∧ (¬ v332_s0 = 0 ↔ ¬ (0 < ((T 7) t).toNatClampNeg ↔ cx_mk (T 1) t (nI 4)))) → cx_S D vwCl A s (cyW q cI cZ n T k M d (cx_u Z 1 zf_297) F) H locs → lv_has ls 8 [(0, .ref (q 0)), (1, .int (nI t)), (2, .int ((T 3) t)), (3, .int ((v41_s0 + v55_s0) + v71_s0)), (4, .int v161_l4), (5, .int (nI i161))] → W p l e ({ frames := 3, cells := 0, slots := 0, locals := 66 } : Room) s m args below meth c H locs 0 0 Q (F0 m 332 ls [.int v332_s0, .int (nI t), .int (nI 7), .ref (q 0)]) := by
                        intro v332_s0 H locs ls b332 hS hl
                        refine cx_cVv (As := [.int (nI 7), .int (nI t), .int v332_s0]) (rest := []) ⟨hx, hb, hml, hown, hts⟩ hE hS (c_X7_mark l D q cI cZ n T k M d (cx_u Z 1 zf_297) F 7 t v332_s0 (by first | assumption | omega | rfl) (by first | assumption | omega | rfl)) (cwV 3 hts gX7_typeFaults_X7_mark rfl rfl rfl (by decide +kernel) ⟨Nat.le_of_ble_eq_true rfl, Nat.le_of_ble_eq_true rfl⟩) 0 7 rfl rfl rfl hl.1 rfl (Nat.le_of_ble_eq_true rfl) ⟨Nat.zero_le _, Nat.zero_le _⟩ dX7_typeFaults_332 (fun u_332 H locs hp_332 hS => ?_)
                        obtain ⟨zf_332, rfl⟩ : ∃ z, z = u_332 := ⟨_, rfl⟩
                        have hS : cx_S D vwCl A s (cyW q cI cZ n T k M d (cx_u Z 1 zf_332) F) H locs := hS
                        have hp_332 : cx_EE zf_332 ↔ cx_EE (zf_297) ∨ ¬ v332_s0 = 0 := hp_332
                        refine lv_iconst (v := (0 : Int32)) hx hb dX7_typeFaults_335 (by decide) ?_
                        refine cx_topr (z := nI 0) (by decide) ?_
                        refine lv_istore (lv' := [(5, .int (nI 0)), (0, .ref (q 0)), (1, .int (nI t)), (2, .int ((T 3) t)), (3, .int ((v41_s0 + v55_s0) + v71_s0)), (4, .int v161_l4)]) hx hb dX7_typeFaults_336 hl (by decide) rfl (fun ls hl => ?_)
                        have J338 : ∀ (N : Nat) (i338 : Nat) (Z_1_338 : Nat → Int32) (H : Heap) (locs : List Loc) (ls : Array Slot), (((T 7) t).toNatClampNeg - i338 < N) → (i338 ≤ ((T 7) t).toNatClampNeg) → (cx_EE Z_1_338 ↔ cx_EE zf_332 ∨ ∃ j, j < i338 ∧ cx_rP n T t j) → cx_S D vwCl A s (cyW q cI cZ n T k M d (cx_u Z 1 Z_1_338) F) H locs → lv_has ls 8 [(0, .ref (q 0)), (1, .int (nI t)), (2, .int ((T 3) t)), (3, .int ((v41_s0 + v55_s0) + v71_s0)), (4, .int v161_l4), (5, .int (nI i338))] → W p l e ({ frames := 3, cells := 0, slots := 0, locals := 66 } : Room) s m args below meth c H locs 0 0 Q (F0 m 338 ls []) := by
                          intro N338
                          induction N338 with
                          | zero => intro i338 Z_1_338 H locs ls hN; exact absurd hN (by omega)
                          | succ N338 ih338 =>
                            intro i338 Z_1_338 H locs ls hN338 hi338 hq338 hS hl
                            refine lv_iload hx hb dX7_typeFaults_338 (lv_at hl 5 rfl) ?_
                            refine lv_aload_n hx hb dX7_typeFaults_340 rfl (lv_at hl 0 rfl) ?_
                            refine cx_get (own := RX7) (index := 31) (C := RX7) (T := TX7) (N := 22) (k := 8) (ci := 7) (v := .ref (q 8)) hx hb hts hown hE hS hinX7 0 rfl rfl (by decide) (List.mem_of_getElem? (i := 6) rfl) rfl dX7_typeFaults_341 ?_
                            refine lv_iload_n hx hb dX7_typeFaults_344 rfl (lv_at hl 1 rfl) ?_
                            refine cx_iald (f := (T 7)) (n := 20) (cA := cI) hx hb hE hS 8 0 rfl rfl (by omega) (by decide) dX7_typeFaults_345 ?_
                            have ho345 := (hW t).2
                            refine cx_topr (z := nI (((T 7) t).toNatClampNeg)) (hW t).1 ?_
                            refine lv_icmp_ge (tgt := 400) hx hb dX7_typeFaults_346 (by decide) (fun h346 => ?_) (fun h346 => ?_)
                            · skip
                              have g346 : (((T 7) t).toNatClampNeg) ≤ i338 := (nI_leI (a := ((T 7) t).toNatClampNeg) (b := i338) (by omega) (by omega)).mp h346
                              exact RET (Z_1_338) _ _ _ _ dX7_typeFaults_400 (cx_rTf (cx_goE hq161 (by omega) (by omega)) hp_297 b297.2 hp_332 b332.2 (cx_goE hq338 (by omega) (by omega))) hS
                            · skip
                              have g346 : ¬ ((((T 7) t).toNatClampNeg) ≤ i338) := fun z => h346 ((nI_leI (a := ((T 7) t).toNatClampNeg) (b := i338) (by omega) (by omega)).mpr z)
                              refine lv_aload_n hx hb dX7_typeFaults_349 rfl (lv_at hl 0 rfl) ?_
                              refine cx_get (own := RX7) (index := 28) (C := RX7) (T := TX7) (N := 22) (k := 7) (ci := 7) (v := .ref (q 7)) hx hb hts hown hE hS hinX7 0 rfl rfl (by decide) (List.mem_of_getElem? (i := 7) rfl) rfl dX7_typeFaults_350 ?_
                              refine lv_iconst (v := nI 3) hx hb dX7_typeFaults_353 (by decide) ?_
                              refine lv_iload_n hx hb dX7_typeFaults_354 rfl (lv_at hl 1 rfl) ?_
                              refine lv_imul hx hb dX7_typeFaults_355 ?_
                              refine cx_topr (z := nI (3 * t)) (pk_mul _ _) ?_
                              refine lv_iload hx hb dX7_typeFaults_356 (lv_at hl 5 rfl) ?_
                              refine lv_iadd hx hb dX7_typeFaults_358 ?_
                              refine cx_topr (z := nI (3 * t + i338)) (nI_add _ _) ?_
                              refine cx_iald (f := (T 6)) (n := 60) (cA := cI) hx hb hE hS 7 0 rfl rfl (by omega) (by decide) dX7_typeFaults_359 ?_
                              have ho359 := (hQ (3 * t + i338)).2
                              refine cx_topr (z := nI (((T 6) (3 * t + i338)).toNatClampNeg)) (hQ (3 * t + i338)).1 ?_
                              refine lv_istore (lv' := [(6, .int (nI (((T 6) (3 * t + i338)).toNatClampNeg))), (0, .ref (q 0)), (1, .int (nI t)), (2, .int ((T 3) t)), (3, .int ((v41_s0 + v55_s0) + v71_s0)), (4, .int v161_l4), (5, .int (nI i338))]) hx hb dX7_typeFaults_360 hl (by decide) rfl (fun ls hl => ?_)
                              refine lv_aload_n hx hb dX7_typeFaults_362 rfl (lv_at hl 1 rfl) ?_
                              refine lv_bipush (v := nI 7) hx hb dX7_typeFaults_363 (by decide) ?_
                              refine lv_iload hx hb dX7_typeFaults_365 (lv_at hl 0 rfl) ?_
                              refine lv_aload_n hx hb dX7_typeFaults_367 rfl (lv_at hl 1 rfl) ?_
                              refine lv_iload hx hb dX7_typeFaults_368 (lv_at hl 0 rfl) ?_
                              refine cx_cVi (As := [.int (nI (((T 6) (3 * t + i338)).toNatClampNeg))]) (rest := [.int (nI (((T 6) (3 * t + i338)).toNatClampNeg)), .int (nI 7), .ref (q 0)]) ⟨hx, hb, hml, hown, hts⟩ hE hS (c_X7_isType l D q cI cZ n T k M d (cx_u Z 1 Z_1_338) F (nI (((T 6) (3 * t + i338)).toNatClampNeg)) (by first | assumption | omega | rfl)) (cwV 1 hts gX7_typeFaults_X7_isType rfl rfl rfl (by decide +kernel) ⟨Nat.le_of_ble_eq_true rfl, Nat.le_of_ble_eq_true rfl⟩) 0 7 rfl rfl rfl hl.1 rfl (Nat.le_of_ble_eq_true rfl) ⟨Nat.zero_le _, Nat.zero_le _⟩ dX7_typeFaults_370 (fun r_370 u_370 H locs hp_370 hS => ?_)
                              have hp_370 : r_370 = cx_b (0 ≤ (nI (((T 6) (3 * t + i338)).toNatClampNeg)) ∧ (nI (((T 6) (3 * t + i338)).toNatClampNeg)) < nI n) := hp_370
                              subst hp_370
                              have J391 : ∀ (v391_s0 : Int32) (H : Heap) (locs : List Loc) (ls : Array Slot), ((v391_s0 = 0 ∨ v391_s0 = 1) ∧ (¬ v391_s0 = 0 ↔ cx_rP n T t i338)) → cx_S D vwCl A s (cyW q cI cZ n T k M d (cx_u Z 1 Z_1_338) F) H locs → lv_has ls 8 [(0, .ref (q 0)), (1, .int (nI t)), (2, .int ((T 3) t)), (3, .int ((v41_s0 + v55_s0) + v71_s0)), (4, .int v161_l4), (5, .int (nI i338)), (6, .int (nI (((T 6) (3 * t + i338)).toNatClampNeg)))] → W p l e ({ frames := 3, cells := 0, slots := 0, locals := 66 } : Room) s m args below meth c H locs 0 0 Q (F0 m 391 ls [.int v391_s0, .int (nI (((T 6) (3 * t + i338)).toNatClampNeg)), .int (nI 7), .ref (q 0)]) := by
                                intro v391_s0 H locs ls b391 hS hl
                                refine cx_cVv (As := [.int (nI 7), .int (nI (((T 6) (3 * t + i338)).toNatClampNeg)), .int v391_s0]) (rest := []) ⟨hx, hb, hml, hown, hts⟩ hE hS (c_X7_mark l D q cI cZ n T k M d (cx_u Z 1 Z_1_338) F 7 (((T 6) (3 * t + i338)).toNatClampNeg) v391_s0 (by first | assumption | omega | rfl) (by first | assumption | omega | rfl)) (cwV 3 hts gX7_typeFaults_X7_mark rfl rfl rfl (by decide +kernel) ⟨Nat.le_of_ble_eq_true rfl, Nat.le_of_ble_eq_true rfl⟩) 0 7 rfl rfl rfl hl.1 rfl (Nat.le_of_ble_eq_true rfl) ⟨Nat.zero_le _, Nat.zero_le _⟩ dX7_typeFaults_391 (fun u_391 H locs hp_391 hS => ?_)
                                obtain ⟨zf_391, rfl⟩ : ∃ z, z = u_391 := ⟨_, rfl⟩
                                have hS : cx_S D vwCl A s (cyW q cI cZ n T k M d (cx_u Z 1 zf_391) F) H locs := hS
                                have hp_391 : cx_EE zf_391 ↔ cx_EE (Z_1_338) ∨ ¬ v391_s0 = 0 := hp_391
                                refine lv_iinc (v := nI (i338 + 1)) (lv' := [(5, .int (nI (i338 + 1))), (0, .ref (q 0)), (1, .int (nI t)), (2, .int ((T 3) t)), (3, .int ((v41_s0 + v55_s0) + v71_s0)), (4, .int v161_l4), (6, .int (nI (((T 6) (3 * t + i338)).toNatClampNeg)))]) hx hb dX7_typeFaults_394 hl (k := 5) rfl (cx_inc _) (by decide) rfl (fun ls hl => ?_)
                                refine lv_goto (tgt := 338) hx hb dX7_typeFaults_397 (by decide) ?_
                                exact ih338 (i338 + 1) zf_391 _ _ _ (by (try clear hq338); (try clear b297); (try clear hq161); (try clear b161_4); omega) (by (try clear hq338); (try clear b297); (try clear hq161); (try clear b161_4); omega) (by first | exact cx_go0 | exact cx_goS hq338 (by rw [hp_391, b391.2])) hS (lv_sub hl [1, 2, 3, 4, 5, 0] rfl)
                              have J390 : ∀ (H : Heap) (locs : List Loc) (ls : Array Slot), (¬ (cx_rP n T t i338)) → cx_S D vwCl A s (cyW q cI cZ n T k M d (cx_u Z 1 Z_1_338) F) H locs → lv_has ls 8 [(0, .ref (q 0)), (1, .int (nI t)), (2, .int ((T 3) t)), (3, .int ((v41_s0 + v55_s0) + v71_s0)), (4, .int v161_l4), (5, .int (nI i338)), (6, .int (nI (((T 6) (3 * t + i338)).toNatClampNeg)))] → W p l e ({ frames := 3, cells := 0, slots := 0, locals := 66 } : Room) s m args below meth c H locs 0 0 Q (F0 m 390 ls [.int (nI (((T 6) (3 * t + i338)).toNatClampNeg)), .int (nI 7), .ref (q 0)]) := by
                                intro  H locs ls f390 hS hl
                                refine lv_iconst (v := (0 : Int32)) hx hb dX7_typeFaults_390 (by decide) ?_
                                exact J391 (0 : Int32) _ _ _ (cx_e0 (by (try clear RET); (try clear hS); (try clear hl); (try clear hE); (try clear hts); (try clear hb); (try clear hx); (try clear hml); (try clear hown); (try clear hinX7); (try clear J27); (try clear J41); (try clear J55); (try clear J71); (try clear J142); (try clear J161); (try clear ih161); (try clear hN161); (try clear J297); (try clear J318); (try clear J332); (try clear J338); (try clear ih338); (try clear hN338); (try clear J391); (try clear J390); have y10 : ¬ (1 : Int32) = 0 := (by decide); first | assumption | (have ykd := cx_kd (hK0 t); first | (have ymn := cx_mny h41 h55 h71; (try clear h41 h55 h71); unfold cx_f5; grind) | ((try clear h41 h55 h71); (try have yu1 := (hU (3 * t + i161)).1); (try have yu2 := (hU (3 * t + i216)).1); (try have yq1 := (hQ (3 * t + i338)).1); (try unfold cx_rP); (try rw [cx_exS (P := fun j => cx_rs n T (T 4 (3 * t + j)))]); grind)))) hS (lv_sub hl [0, 1, 2, 3, 4, 5, 6] rfl)
                              refine lv_if_eq (tgt := 390) hx hb dX7_typeFaults_373 (by decide) (fun h373 => ?_) (fun h373 => ?_)
                              · skip
                                have g373 := cx_b0 h373
                                exact J390  _ _ _ (by (try clear RET); (try clear hS); (try clear hl); (try clear hE); (try clear hts); (try clear hb); (try clear hx); (try clear hml); (try clear hown); (try clear hinX7); (try clear J27); (try clear J41); (try clear J55); (try clear J71); (try clear J142); (try clear J161); (try clear ih161); (try clear hN161); (try clear J297); (try clear J318); (try clear J332); (try clear J338); (try clear ih338); (try clear hN338); (try clear J391); (try clear J390); have y10 : ¬ (1 : Int32) = 0 := (by decide); first | assumption | (have ykd := cx_kd (hK0 t); first | (have ymn := cx_mny h41 h55 h71; (try clear h41 h55 h71); unfold cx_f5; grind) | ((try clear h41 h55 h71); (try have yu1 := (hU (3 * t + i161)).1); (try have yu2 := (hU (3 * t + i216)).1); (try have yq1 := (hQ (3 * t + i338)).1); (try unfold cx_rP); (try rw [cx_exS (P := fun j => cx_rs n T (T 4 (3 * t + j)))]); grind))) hS (lv_sub hl [1, 2, 3, 4, 5, 6, 0] rfl)
                              · skip
                                have g373 := cx_b1 h373
                                refine lv_aload_n hx hb dX7_typeFaults_376 rfl (lv_at hl 1 rfl) ?_
                                refine lv_iload hx hb dX7_typeFaults_377 (lv_at hl 0 rfl) ?_
                                refine lv_iload_n hx hb dX7_typeFaults_379 rfl (lv_at hl 2 rfl) ?_
                                refine cx_cVi (As := [.int (nI (((T 6) (3 * t + i338)).toNatClampNeg)), .int (nI t)]) (rest := [.int (nI (((T 6) (3 * t + i338)).toNatClampNeg)), .int (nI 7), .ref (q 0)]) ⟨hx, hb, hml, hown, hts⟩ hE hS (c_X7_isUpper l D q cI cZ n T k M d (cx_u Z 1 Z_1_338) F (((T 6) (3 * t + i338)).toNatClampNeg) (nI t) (by first | assumption | omega | rfl) (by first | assumption | omega | rfl)) (cwV 2 hts gX7_typeFaults_X7_isUpper rfl rfl rfl (by decide +kernel) ⟨Nat.le_of_ble_eq_true rfl, Nat.le_of_ble_eq_true rfl⟩) 0 7 rfl rfl rfl hl.1 rfl (Nat.le_of_ble_eq_true rfl) ⟨Nat.zero_le _, Nat.zero_le _⟩ dX7_typeFaults_380 (fun r_380 u_380 H locs hp_380 hS => ?_)
                                have hp_380 : (r_380 = 0 ∨ r_380 = 1) ∧ (¬ r_380 = 0 ↔ cx_rU T (((T 6) (3 * t + i338)).toNatClampNeg) (nI t)) := hp_380
                                refine lv_if_ne (tgt := 390) hx hb dX7_typeFaults_383 (by decide) (fun h383 => ?_) (fun h383 => ?_)
                                · skip
                                  have g383 : cx_rU T (((T 6) (3 * t + i338)).toNatClampNeg) (nI t) := hp_380.2.mp h383
                                  exact J390  _ _ _ (by (try clear RET); (try clear hS); (try clear hl); (try clear hE); (try clear hts); (try clear hb); (try clear hx); (try clear hml); (try clear hown); (try clear hinX7); (try clear J27); (try clear J41); (try clear J55); (try clear J71); (try clear J142); (try clear J161); (try clear ih161); (try clear hN161); (try clear J297); (try clear J318); (try clear J332); (try clear J338); (try clear ih338); (try clear hN338); (try clear J391); (try clear J390); have y10 : ¬ (1 : Int32) = 0 := (by decide); first | assumption | (have ykd := cx_kd (hK0 t); first | (have ymn := cx_mny h41 h55 h71; (try clear h41 h55 h71); unfold cx_f5; grind) | ((try clear h41 h55 h71); (try have yu1 := (hU (3 * t + i161)).1); (try have yu2 := (hU (3 * t + i216)).1); (try have yq1 := (hQ (3 * t + i338)).1); (try unfold cx_rP); (try rw [cx_exS (P := fun j => cx_rs n T (T 4 (3 * t + j)))]); grind))) hS (lv_sub hl [1, 2, 3, 4, 5, 6, 0] rfl)
                                · skip
                                  have g383 : ¬ (cx_rU T (((T 6) (3 * t + i338)).toNatClampNeg) (nI t)) := fun z => hp_380.2.mpr z h383
                                  refine lv_iconst (v := (1 : Int32)) hx hb dX7_typeFaults_386 (by decide) ?_
                                  refine lv_goto (tgt := 391) hx hb dX7_typeFaults_387 (by decide) ?_
                                  exact J391 (1 : Int32) _ _ _ (cx_e1 (by (try clear RET); (try clear hS); (try clear hl); (try clear hE); (try clear hts); (try clear hb); (try clear hx); (try clear hml); (try clear hown); (try clear hinX7); (try clear J27); (try clear J41); (try clear J55); (try clear J71); (try clear J142); (try clear J161); (try clear ih161); (try clear hN161); (try clear J297); (try clear J318); (try clear J332); (try clear J338); (try clear ih338); (try clear hN338); (try clear J391); (try clear J390); have y10 : ¬ (1 : Int32) = 0 := (by decide); first | assumption | (have ykd := cx_kd (hK0 t); first | (have ymn := cx_mny h41 h55 h71; (try clear h41 h55 h71); unfold cx_f5; grind) | ((try clear h41 h55 h71); (try have yu1 := (hU (3 * t + i161)).1); (try have yu2 := (hU (3 * t + i216)).1); (try have yq1 := (hQ (3 * t + i338)).1); (try unfold cx_rP); (try rw [cx_exS (P := fun j => cx_rs n T (T 4 (3 * t + j)))]); grind)))) hS (lv_sub hl [1, 2, 3, 4, 5, 6, 0] rfl)
                        exact J338 (((T 7) t).toNatClampNeg - 0 + 1) 0 zf_332 _ _ _ (Nat.lt_succ_self _) (by (try clear hq338); (try clear b297); (try clear hq161); (try clear b161_4); omega) (by first | exact cx_go0 | exact cx_goS hq338 (by rw [hp_391, b391.2])) hS (lv_sub hl [1, 2, 3, 4, 5, 0] rfl)
                      refine lv_icmp_eq (tgt := 331) hx hb dX7_typeFaults_324 (by decide) (fun h324 => ?_) (fun h324 => ?_)
                      · skip
                        refine lv_iconst (v := (0 : Int32)) hx hb dX7_typeFaults_331 (by decide) ?_
                        exact J332 (0 : Int32) _ _ _ (cx_e0 (by (try clear RET); (try clear hS); (try clear hl); (try clear hE); (try clear hts); (try clear hb); (try clear hx); (try clear hml); (try clear hown); (try clear hinX7); (try clear J27); (try clear J41); (try clear J55); (try clear J71); (try clear J142); (try clear J161); (try clear ih161); (try clear hN161); (try clear J297); (try clear J318); (try clear J332); have y10 : ¬ (1 : Int32) = 0 := (by decide); first | assumption | (have ykd := cx_kd (hK0 t); first | (have ymn := cx_mny h41 h55 h71; (try clear h41 h55 h71); unfold cx_f5; grind) | ((try clear h41 h55 h71); (try have yu1 := (hU (3 * t + i161)).1); (try have yu2 := (hU (3 * t + i216)).1); (try have yq1 := (hQ (3 * t + i338)).1); (try unfold cx_rP); (try rw [cx_exS (P := fun j => cx_rs n T (T 4 (3 * t + j)))]); grind)))) hS (lv_sub hl [0, 1, 2, 3, 4, 5] rfl)
                      · skip
                        refine lv_iconst (v := (1 : Int32)) hx hb dX7_typeFaults_327 (by decide) ?_
                        refine lv_goto (tgt := 332) hx hb dX7_typeFaults_328 (by decide) ?_
                        exact J332 (1 : Int32) _ _ _ (cx_e1 (by (try clear RET); (try clear hS); (try clear hl); (try clear hE); (try clear hts); (try clear hb); (try clear hx); (try clear hml); (try clear hown); (try clear hinX7); (try clear J27); (try clear J41); (try clear J55); (try clear J71); (try clear J142); (try clear J161); (try clear ih161); (try clear hN161); (try clear J297); (try clear J318); (try clear J332); have y10 : ¬ (1 : Int32) = 0 := (by decide); first | assumption | (have ykd := cx_kd (hK0 t); first | (have ymn := cx_mny h41 h55 h71; (try clear h41 h55 h71); unfold cx_f5; grind) | ((try clear h41 h55 h71); (try have yu1 := (hU (3 * t + i161)).1); (try have yu2 := (hU (3 * t + i216)).1); (try have yq1 := (hQ (3 * t + i338)).1); (try unfold cx_rP); (try rw [cx_exS (P := fun j => cx_rs n T (T 4 (3 * t + j)))]); grind)))) hS (lv_sub hl [0, 1, 2, 3, 4, 5] rfl)
                    refine lv_if_le (tgt := 317) hx hb dX7_typeFaults_310 (by decide) (fun h310 => ?_) (fun h310 => ?_)
                    · skip
                      have y310 : ¬ 0 < ((T 7) t).toNatClampNeg := cx_npos (by have := (hW t).2; omega) h310
                      refine lv_iconst (v := (0 : Int32)) hx hb dX7_typeFaults_317 (by decide) ?_
                      exact J318 (0 : Int32) _ _ _ (cx_e0 (by (try clear RET); (try clear hS); (try clear hl); (try clear hE); (try clear hts); (try clear hb); (try clear hx); (try clear hml); (try clear hown); (try clear hinX7); (try clear J27); (try clear J41); (try clear J55); (try clear J71); (try clear J142); (try clear J161); (try clear ih161); (try clear hN161); (try clear J297); (try clear J318); have y10 : ¬ (1 : Int32) = 0 := (by decide); first | assumption | (have ykd := cx_kd (hK0 t); first | (have ymn := cx_mny h41 h55 h71; (try clear h41 h55 h71); unfold cx_f5; grind) | ((try clear h41 h55 h71); (try have yu1 := (hU (3 * t + i161)).1); (try have yu2 := (hU (3 * t + i216)).1); (try have yq1 := (hQ (3 * t + i338)).1); (try unfold cx_rP); (try rw [cx_exS (P := fun j => cx_rs n T (T 4 (3 * t + j)))]); grind)))) hS (lv_sub hl [0, 1, 2, 3, 4, 5] rfl)
                    · skip
                      have y310 : 0 < ((T 7) t).toNatClampNeg := cx_pos h310
                      refine lv_iconst (v := (1 : Int32)) hx hb dX7_typeFaults_313 (by decide) ?_
                      refine lv_goto (tgt := 318) hx hb dX7_typeFaults_314 (by decide) ?_
                      exact J318 (1 : Int32) _ _ _ (cx_e1 (by (try clear RET); (try clear hS); (try clear hl); (try clear hE); (try clear hts); (try clear hb); (try clear hx); (try clear hml); (try clear hown); (try clear hinX7); (try clear J27); (try clear J41); (try clear J55); (try clear J71); (try clear J142); (try clear J161); (try clear ih161); (try clear hN161); (try clear J297); (try clear J318); have y10 : ¬ (1 : Int32) = 0 := (by decide); first | assumption | (have ykd := cx_kd (hK0 t); first | (have ymn := cx_mny h41 h55 h71; (try clear h41 h55 h71); unfold cx_f5; grind) | ((try clear h41 h55 h71); (try have yu1 := (hU (3 * t + i161)).1); (try have yu2 := (hU (3 * t + i216)).1); (try have yq1 := (hQ (3 * t + i338)).1); (try unfold cx_rP); (try rw [cx_exS (P := fun j => cx_rs n T (T 4 (3 * t + j)))]); grind)))) hS (lv_sub hl [0, 1, 2, 3, 4, 5] rfl)
                  have J296 : ∀ (H : Heap) (locs : List Loc) (ls : Array Slot), (¬ (cx_mk (T 1) t (nI 8) ∧ ¬ (cx_rs n T (T 3 t) ∨ ∃ j, j < ((T 5) t).toNatClampNeg ∧ cx_rs n T (T 4 (3 * t + j))))) → cx_S D vwCl A s (cyW q cI cZ n T k M d (cx_u Z 1 Z_1_161) F) H locs → lv_has ls 8 [(0, .ref (q 0)), (1, .int (nI t)), (2, .int ((T 3) t)), (3, .int ((v41_s0 + v55_s0) + v71_s0)), (4, .int v161_l4), (5, .int (nI i161))] → W p l e ({ frames := 3, cells := 0, slots := 0, locals := 66 } : Room) s m args below meth c H locs 0 0 Q (F0 m 296 ls [.int (nI t), .int (nI 6), .ref (q 0)]) := by
                    intro  H locs ls f296 hS hl
                    refine lv_iconst (v := (0 : Int32)) hx hb dX7_typeFaults_296 (by decide) ?_
                    exact J297 (0 : Int32) _ _ _ (cx_e0 (by (try clear RET); (try clear hS); (try clear hl); (try clear hE); (try clear hts); (try clear hb); (try clear hx); (try clear hml); (try clear hown); (try clear hinX7); (try clear J27); (try clear J41); (try clear J55); (try clear J71); (try clear J142); (try clear J161); (try clear ih161); (try clear hN161); (try clear J297); (try clear J296); have y10 : ¬ (1 : Int32) = 0 := (by decide); first | assumption | (have ykd := cx_kd (hK0 t); first | (have ymn := cx_mny h41 h55 h71; (try clear h41 h55 h71); unfold cx_f5; grind) | ((try clear h41 h55 h71); (try have yu1 := (hU (3 * t + i161)).1); (try have yu2 := (hU (3 * t + i216)).1); (try have yq1 := (hQ (3 * t + i338)).1); (try unfold cx_rP); (try rw [cx_exS (P := fun j => cx_rs n T (T 4 (3 * t + j)))]); grind)))) hS (lv_sub hl [0, 1, 2, 3, 4, 5] rfl)
                  refine lv_if_eq (tgt := 296) hx hb dX7_typeFaults_284 (by decide) (fun h284 => ?_) (fun h284 => ?_)
                  · skip
                    have g284 : ¬ (cx_mk ((T 1)) t (nI 8)) := fun z => hp_281.2.mpr z h284
                    exact J296  _ _ _ (by (try clear RET); (try clear hS); (try clear hl); (try clear hE); (try clear hts); (try clear hb); (try clear hx); (try clear hml); (try clear hown); (try clear hinX7); (try clear J27); (try clear J41); (try clear J55); (try clear J71); (try clear J142); (try clear J161); (try clear ih161); (try clear hN161); (try clear J297); (try clear J296); have y10 : ¬ (1 : Int32) = 0 := (by decide); first | assumption | (have ykd := cx_kd (hK0 t); first | (have ymn := cx_mny h41 h55 h71; (try clear h41 h55 h71); unfold cx_f5; grind) | ((try clear h41 h55 h71); (try have yu1 := (hU (3 * t + i161)).1); (try have yu2 := (hU (3 * t + i216)).1); (try have yq1 := (hQ (3 * t + i338)).1); (try unfold cx_rP); (try rw [cx_exS (P := fun j => cx_rs n T (T 4 (3 * t + j)))]); grind))) hS (lv_sub hl [0, 1, 2, 3, 4, 5] rfl)
                  · skip
                    have g284 : cx_mk ((T 1)) t (nI 8) := hp_281.2.mp h284
                    refine lv_iload hx hb dX7_typeFaults_287 (lv_at hl 4 rfl) ?_
                    refine lv_if_ne (tgt := 296) hx hb dX7_typeFaults_289 (by decide) (fun h289 => ?_) (fun h289 => ?_)
                    · skip
                      have g289 : cx_rs n T (T 3 t) ∨ ∃ j, j < i161 ∧ cx_rs n T (T 4 (3 * t + j)) := b161_4.2.mp h289
                      exact J296  _ _ _ (by (try clear RET); (try clear hS); (try clear hl); (try clear hE); (try clear hts); (try clear hb); (try clear hx); (try clear hml); (try clear hown); (try clear hinX7); (try clear J27); (try clear J41); (try clear J55); (try clear J71); (try clear J142); (try clear J161); (try clear ih161); (try clear hN161); (try clear J297); (try clear J296); have y10 : ¬ (1 : Int32) = 0 := (by decide); first | assumption | (have ykd := cx_kd (hK0 t); first | (have ymn := cx_mny h41 h55 h71; (try clear h41 h55 h71); unfold cx_f5; grind) | ((try clear h41 h55 h71); (try have yu1 := (hU (3 * t + i161)).1); (try have yu2 := (hU (3 * t + i216)).1); (try have yq1 := (hQ (3 * t + i338)).1); (try unfold cx_rP); (try rw [cx_exS (P := fun j => cx_rs n T (T 4 (3 * t + j)))]); grind))) hS (lv_sub hl [0, 1, 2, 3, 4, 5] rfl)
                    · skip
                      have g289 : ¬ (cx_rs n T (T 3 t) ∨ ∃ j, j < i161 ∧ cx_rs n T (T 4 (3 * t + j))) := fun z => b161_4.2.mpr z h289
                      refine lv_iconst (v := (1 : Int32)) hx hb dX7_typeFaults_292 (by decide) ?_
                      refine lv_goto (tgt := 297) hx hb dX7_typeFaults_293 (by decide) ?_
                      exact J297 (1 : Int32) _ _ _ (cx_e1 (by (try clear RET); (try clear hS); (try clear hl); (try clear hE); (try clear hts); (try clear hb); (try clear hx); (try clear hml); (try clear hown); (try clear hinX7); (try clear J27); (try clear J41); (try clear J55); (try clear J71); (try clear J142); (try clear J161); (try clear ih161); (try clear hN161); (try clear J297); (try clear J296); have y10 : ¬ (1 : Int32) = 0 := (by decide); first | assumption | (have ykd := cx_kd (hK0 t); first | (have ymn := cx_mny h41 h55 h71; (try clear h41 h55 h71); unfold cx_f5; grind) | ((try clear h41 h55 h71); (try have yu1 := (hU (3 * t + i161)).1); (try have yu2 := (hU (3 * t + i216)).1); (try have yq1 := (hQ (3 * t + i338)).1); (try unfold cx_rP); (try rw [cx_exS (P := fun j => cx_rs n T (T 4 (3 * t + j)))]); grind)))) hS (lv_sub hl [0, 1, 2, 3, 4, 5] rfl)
                · skip
                  have g169 : ¬ ((((T 5) t).toNatClampNeg) ≤ i161) := fun z => h169 ((nI_leI (a := ((T 5) t).toNatClampNeg) (b := i161) (by omega) (by omega)).mpr z)
                  refine lv_aload_n hx hb dX7_typeFaults_172 rfl (lv_at hl 0 rfl) ?_
                  refine cx_get (own := RX7) (index := 22) (C := RX7) (T := TX7) (N := 22) (k := 5) (ci := 7) (v := .ref (q 5)) hx hb hts hown hE hS hinX7 0 rfl rfl (by decide) (List.mem_of_getElem? (i := 5) rfl) rfl dX7_typeFaults_173 ?_
                  refine lv_iconst (v := nI 3) hx hb dX7_typeFaults_176 (by decide) ?_
                  refine lv_iload_n hx hb dX7_typeFaults_177 rfl (lv_at hl 1 rfl) ?_
                  refine lv_imul hx hb dX7_typeFaults_178 ?_
                  refine cx_topr (z := nI (3 * t)) (pk_mul _ _) ?_
                  refine lv_iload hx hb dX7_typeFaults_179 (lv_at hl 5 rfl) ?_
                  refine lv_iadd hx hb dX7_typeFaults_181 ?_
                  refine cx_topr (z := nI (3 * t + i161)) (nI_add _ _) ?_
                  refine cx_iald (f := (T 4)) (n := 60) (cA := cI) hx hb hE hS 5 0 rfl rfl (by omega) (by decide) dX7_typeFaults_182 ?_
                  have ho182 := (hU (3 * t + i161)).2
                  refine cx_topr (z := nI (((T 4) (3 * t + i161)).toNatClampNeg)) (hU (3 * t + i161)).1 ?_
                  refine lv_istore (lv' := [(6, .int (nI (((T 4) (3 * t + i161)).toNatClampNeg))), (0, .ref (q 0)), (1, .int (nI t)), (2, .int ((T 3) t)), (3, .int ((v41_s0 + v55_s0) + v71_s0)), (4, .int v161_l4), (5, .int (nI i161))]) hx hb dX7_typeFaults_183 hl (by decide) rfl (fun ls hl => ?_)
                  refine lv_aload_n hx hb dX7_typeFaults_185 rfl (lv_at hl 1 rfl) ?_
                  refine lv_iload_n hx hb dX7_typeFaults_186 rfl (lv_at hl 2 rfl) ?_
                  refine lv_iload hx hb dX7_typeFaults_187 (lv_at hl 0 rfl) ?_
                  refine cx_cVv (As := [.int (nI t), .int (nI (((T 4) (3 * t + i161)).toNatClampNeg))]) (rest := []) ⟨hx, hb, hml, hown, hts⟩ hE hS (c_X7_sealedBy l D q cI cZ n T k M d (cx_u Z 1 Z_1_161) F t (nI (((T 4) (3 * t + i161)).toNatClampNeg)) (by first | assumption | omega | rfl) (by first | assumption | omega | rfl) (by first | assumption | omega | rfl) (by first | assumption | omega | rfl)) (cwV 2 hts gX7_typeFaults_X7_sealedBy rfl rfl rfl (by decide +kernel) ⟨Nat.le_of_ble_eq_true rfl, Nat.le_of_ble_eq_true rfl⟩) 0 7 rfl rfl rfl hl.1 rfl (Nat.le_of_ble_eq_true rfl) ⟨Nat.zero_le _, Nat.zero_le _⟩ dX7_typeFaults_189 (fun u_189 H locs hp_189 hS => ?_)
                  obtain ⟨zf_189, rfl⟩ : ∃ z, z = u_189 := ⟨_, rfl⟩
                  have hS : cx_S D vwCl A s (cyW q cI cZ n T k M d (cx_u Z 1 zf_189) F) H locs := hS
                  have hp_189 : cx_EE zf_189 ↔ cx_EE (Z_1_161) ∨ cx_rS n T t (nI (((T 4) (3 * t + i161)).toNatClampNeg)) := hp_189
                  have hp_189x : cx_EE zf_189 ↔ cx_EE Z_1_161 ∨ cx_rS n T t ((T 4) (3 * t + i161)) := by rw [hp_189, ← (hU (3 * t + i161)).1]
                  refine lv_iload hx hb dX7_typeFaults_192 (lv_at hl 5 rfl) ?_
                  have J211 : ∀ (v211_s0 : Int32) (H : Heap) (locs : List Loc) (ls : Array Slot), ((v211_s0 = 0 ∨ v211_s0 = 1) ∧ (¬ v211_s0 = 0 ↔ cx_rs n T (T 3 t) ∨ ∃ j, j < (i161 + 1) ∧ cx_rs n T (T 4 (3 * t + j)))) → cx_S D vwCl A s (cyW q cI cZ n T k M d (cx_u Z 1 zf_189) F) H locs → lv_has ls 8 [(0, .ref (q 0)), (1, .int (nI t)), (2, .int ((T 3) t)), (3, .int ((v41_s0 + v55_s0) + v71_s0)), (4, .int v161_l4), (5, .int (nI i161)), (6, .int (nI (((T 4) (3 * t + i161)).toNatClampNeg)))] → W p l e ({ frames := 3, cells := 0, slots := 0, locals := 66 } : Room) s m args below meth c H locs 0 0 Q (F0 m 211 ls [.int v211_s0]) := by
                    intro v211_s0 H locs ls b211 hS hl
                    refine lv_istore (lv' := [(4, .int v211_s0), (0, .ref (q 0)), (1, .int (nI t)), (2, .int ((T 3) t)), (3, .int ((v41_s0 + v55_s0) + v71_s0)), (5, .int (nI i161)), (6, .int (nI (((T 4) (3 * t + i161)).toNatClampNeg)))]) hx hb dX7_typeFaults_211 hl (by decide) rfl (fun ls hl => ?_)
                    refine lv_iconst (v := (0 : Int32)) hx hb dX7_typeFaults_213 (by decide) ?_
                    refine cx_topr (z := nI 0) (by decide) ?_
                    refine lv_istore (lv' := [(7, .int (nI 0)), (4, .int v211_s0), (0, .ref (q 0)), (1, .int (nI t)), (2, .int ((T 3) t)), (3, .int ((v41_s0 + v55_s0) + v71_s0)), (5, .int (nI i161)), (6, .int (nI (((T 4) (3 * t + i161)).toNatClampNeg)))]) hx hb dX7_typeFaults_214 hl (by decide) rfl (fun ls hl => ?_)
                    have J216 : ∀ (N : Nat) (i216 : Nat) (Z_1_216 : Nat → Int32) (H : Heap) (locs : List Loc) (ls : Array Slot), (i161 - i216 < N) → (i216 ≤ i161) → (cx_EE Z_1_216 ↔ (cx_EE Z_1_161 ∨ cx_rS n T t ((T 4) (3 * t + i161))) ∨ ∃ i, i < i216 ∧ ((0 ≤ T 4 (3 * t + i161) ∧ T 4 (3 * t + i161) < nI n) ∧ T 4 (3 * t + i) = T 4 (3 * t + i161))) → cx_S D vwCl A s (cyW q cI cZ n T k M d (cx_u Z 1 Z_1_216) F) H locs → lv_has ls 8 [(0, .ref (q 0)), (1, .int (nI t)), (2, .int ((T 3) t)), (3, .int ((v41_s0 + v55_s0) + v71_s0)), (4, .int v211_s0), (5, .int (nI i161)), (6, .int (nI (((T 4) (3 * t + i161)).toNatClampNeg))), (7, .int (nI i216))] → W p l e ({ frames := 3, cells := 0, slots := 0, locals := 66 } : Room) s m args below meth c H locs 0 0 Q (F0 m 216 ls []) := by
                      intro N216
                      induction N216 with
                      | zero => intro i216 Z_1_216 H locs ls hN; exact absurd hN (by omega)
                      | succ N216 ih216 =>
                        intro i216 Z_1_216 H locs ls hN216 hi216 hq216 hS hl
                        refine lv_iload hx hb dX7_typeFaults_216 (lv_at hl 7 rfl) ?_
                        refine lv_iload hx hb dX7_typeFaults_218 (lv_at hl 5 rfl) ?_
                        refine lv_icmp_ge (tgt := 267) hx hb dX7_typeFaults_220 (by decide) (fun h220 => ?_) (fun h220 => ?_)
                        · skip
                          have g220 : i161 ≤ i216 := (nI_leI (a := i161) (b := i216) (by omega) (by omega)).mp h220
                          have hq216e : cx_EE Z_1_216 ↔ cx_EE Z_1_161 ∨ (cx_rS n T t ((T 4) (3 * t + i161)) ∨ cx_rW n T t i161) := by rw [cx_goE hq216 (by omega) (by omega)]; exact or_assoc
                          refine lv_iinc (v := nI (i161 + 1)) (lv' := [(5, .int (nI (i161 + 1))), (0, .ref (q 0)), (1, .int (nI t)), (2, .int ((T 3) t)), (3, .int ((v41_s0 + v55_s0) + v71_s0)), (4, .int v211_s0), (6, .int (nI (((T 4) (3 * t + i161)).toNatClampNeg))), (7, .int (nI i216))]) hx hb dX7_typeFaults_267 hl (k := 5) rfl (cx_inc _) (by decide) rfl (fun ls hl => ?_)
                          refine lv_goto (tgt := 161) hx hb dX7_typeFaults_270 (by decide) ?_
                          exact ih161 v211_s0 (i161 + 1) Z_1_216 _ _ _ (by (try clear g289); (try clear hq216); (try clear b211); (try clear hq161); (try clear b161_4); omega) (by (try clear g289); (try clear hq216); (try clear b211); (try clear hq161); (try clear b161_4); omega) (by first | exact b211 | (try clear RET); (try clear hS); (try clear hl); (try clear hE); (try clear hts); (try clear hb); (try clear hx); (try clear hml); (try clear hown); (try clear hinX7); (try clear J27); (try clear J41); (try clear J55); (try clear J71); (try clear J142); (try clear J161); (try clear ih161); (try clear hN161); (try clear J211); (try clear J216); (try clear ih216); (try clear hN216); have y10 : ¬ (1 : Int32) = 0 := (by decide); first | assumption | (have ykd := cx_kd (hK0 t); first | (have ymn := cx_mny h41 h55 h71; (try clear h41 h55 h71); unfold cx_f5; grind) | ((try clear h41 h55 h71); (try have yu1 := (hU (3 * t + i161)).1); (try have yu2 := (hU (3 * t + i216)).1); (try have yq1 := (hQ (3 * t + i338)).1); (try unfold cx_rP); (try rw [cx_exS (P := fun j => cx_rs n T (T 4 (3 * t + j)))]); grind))) (by first | exact hq148.trans cx_go0 | exact cx_goS hq161 hq216e) hS (lv_sub hl [1, 2, 3, 4, 5, 0] rfl)
                        · skip
                          have g220 : ¬ (i161 ≤ i216) := fun z => h220 ((nI_leI (a := i161) (b := i216) (by omega) (by omega)).mpr z)
                          refine lv_aload_n hx hb dX7_typeFaults_223 rfl (lv_at hl 0 rfl) ?_
                          refine lv_bipush (v := nI 8) hx hb dX7_typeFaults_224 (by decide) ?_
                          refine lv_iload hx hb dX7_typeFaults_226 (lv_at hl 6 rfl) ?_
                          refine lv_aload_n hx hb dX7_typeFaults_228 rfl (lv_at hl 0 rfl) ?_
                          refine lv_iload hx hb dX7_typeFaults_229 (lv_at hl 6 rfl) ?_
                          refine cx_cVi (As := [.int (nI (((T 4) (3 * t + i161)).toNatClampNeg))]) (rest := [.int (nI (((T 4) (3 * t + i161)).toNatClampNeg)), .int (nI 8), .ref (q 0)]) ⟨hx, hb, hml, hown, hts⟩ hE hS (c_X7_isType l D q cI cZ n T k M d (cx_u Z 1 Z_1_216) F (nI (((T 4) (3 * t + i161)).toNatClampNeg)) (by first | assumption | omega | rfl)) (cwV 1 hts gX7_typeFaults_X7_isType rfl rfl rfl (by decide +kernel) ⟨Nat.le_of_ble_eq_true rfl, Nat.le_of_ble_eq_true rfl⟩) 0 7 rfl rfl rfl hl.1 rfl (Nat.le_of_ble_eq_true rfl) ⟨Nat.zero_le _, Nat.zero_le _⟩ dX7_typeFaults_231 (fun r_231 u_231 H locs hp_231 hS => ?_)
                          have hp_231 : r_231 = cx_b (0 ≤ (nI (((T 4) (3 * t + i161)).toNatClampNeg)) ∧ (nI (((T 4) (3 * t + i161)).toNatClampNeg)) < nI n) := hp_231
                          subst hp_231
                          have J258 : ∀ (v258_s0 : Int32) (H : Heap) (locs : List Loc) (ls : Array Slot), ((v258_s0 = 0 ∨ v258_s0 = 1) ∧ (¬ v258_s0 = 0 ↔ (0 ≤ ((T 4) (3 * t + i161)) ∧ ((T 4) (3 * t + i161)) < nI n) ∧ (T 4) (3 * t + i216) = ((T 4) (3 * t + i161)))) → cx_S D vwCl A s (cyW q cI cZ n T k M d (cx_u Z 1 Z_1_216) F) H locs → lv_has ls 8 [(0, .ref (q 0)), (1, .int (nI t)), (2, .int ((T 3) t)), (3, .int ((v41_s0 + v55_s0) + v71_s0)), (4, .int v211_s0), (5, .int (nI i161)), (6, .int (nI (((T 4) (3 * t + i161)).toNatClampNeg))), (7, .int (nI i216))] → W p l e ({ frames := 3, cells := 0, slots := 0, locals := 66 } : Room) s m args below meth c H locs 0 0 Q (F0 m 258 ls [.int v258_s0, .int (nI (((T 4) (3 * t + i161)).toNatClampNeg)), .int (nI 8), .ref (q 0)]) := by
                            intro v258_s0 H locs ls b258 hS hl
                            refine cx_cVv (As := [.int (nI 8), .int (nI (((T 4) (3 * t + i161)).toNatClampNeg)), .int v258_s0]) (rest := []) ⟨hx, hb, hml, hown, hts⟩ hE hS (c_X7_mark l D q cI cZ n T k M d (cx_u Z 1 Z_1_216) F 8 (((T 4) (3 * t + i161)).toNatClampNeg) v258_s0 (by first | assumption | omega | rfl) (by first | assumption | omega | rfl)) (cwV 3 hts gX7_typeFaults_X7_mark rfl rfl rfl (by decide +kernel) ⟨Nat.le_of_ble_eq_true rfl, Nat.le_of_ble_eq_true rfl⟩) 0 7 rfl rfl rfl hl.1 rfl (Nat.le_of_ble_eq_true rfl) ⟨Nat.zero_le _, Nat.zero_le _⟩ dX7_typeFaults_258 (fun u_258 H locs hp_258 hS => ?_)
                            obtain ⟨zf_258, rfl⟩ : ∃ z, z = u_258 := ⟨_, rfl⟩
                            have hS : cx_S D vwCl A s (cyW q cI cZ n T k M d (cx_u Z 1 zf_258) F) H locs := hS
                            have hp_258 : cx_EE zf_258 ↔ cx_EE (Z_1_216) ∨ ¬ v258_s0 = 0 := hp_258
                            refine lv_iinc (v := nI (i216 + 1)) (lv' := [(7, .int (nI (i216 + 1))), (0, .ref (q 0)), (1, .int (nI t)), (2, .int ((T 3) t)), (3, .int ((v41_s0 + v55_s0) + v71_s0)), (4, .int v211_s0), (5, .int (nI i161)), (6, .int (nI (((T 4) (3 * t + i161)).toNatClampNeg)))]) hx hb dX7_typeFaults_261 hl (k := 7) rfl (cx_inc _) (by decide) rfl (fun ls hl => ?_)
                            refine lv_goto (tgt := 216) hx hb dX7_typeFaults_264 (by decide) ?_
                            exact ih216 (i216 + 1) zf_258 _ _ _ (by (try clear g289); (try clear hq216); (try clear b211); (try clear hq161); (try clear b161_4); omega) (by (try clear g289); (try clear hq216); (try clear b211); (try clear hq161); (try clear b161_4); omega) (by first | exact hp_189x.trans cx_go0 | exact cx_goS (Q := fun i => (0 ≤ T 4 (3 * t + i161) ∧ T 4 (3 * t + i161) < nI n) ∧ T 4 (3 * t + i) = T 4 (3 * t + i161)) hq216 (by rw [hp_258, b258.2])) hS (lv_sub hl [1, 2, 3, 4, 5, 6, 7, 0] rfl)
                          have J257 : ∀ (H : Heap) (locs : List Loc) (ls : Array Slot), (¬ ((0 ≤ ((T 4) (3 * t + i161)) ∧ ((T 4) (3 * t + i161)) < nI n) ∧ (T 4) (3 * t + i216) = ((T 4) (3 * t + i161)))) → cx_S D vwCl A s (cyW q cI cZ n T k M d (cx_u Z 1 Z_1_216) F) H locs → lv_has ls 8 [(0, .ref (q 0)), (1, .int (nI t)), (2, .int ((T 3) t)), (3, .int ((v41_s0 + v55_s0) + v71_s0)), (4, .int v211_s0), (5, .int (nI i161)), (6, .int (nI (((T 4) (3 * t + i161)).toNatClampNeg))), (7, .int (nI i216))] → W p l e ({ frames := 3, cells := 0, slots := 0, locals := 66 } : Room) s m args below meth c H locs 0 0 Q (F0 m 257 ls [.int (nI (((T 4) (3 * t + i161)).toNatClampNeg)), .int (nI 8), .ref (q 0)]) := by
                            intro  H locs ls f257 hS hl
                            refine lv_iconst (v := (0 : Int32)) hx hb dX7_typeFaults_257 (by decide) ?_
                            exact J258 (0 : Int32) _ _ _ (cx_e0 (by (try clear RET); (try clear hS); (try clear hl); (try clear hE); (try clear hts); (try clear hb); (try clear hx); (try clear hml); (try clear hown); (try clear hinX7); (try clear J27); (try clear J41); (try clear J55); (try clear J71); (try clear J142); (try clear J161); (try clear ih161); (try clear hN161); (try clear J211); (try clear J216); (try clear ih216); (try clear hN216); (try clear J258); (try clear J257); have y10 : ¬ (1 : Int32) = 0 := (by decide); first | assumption | (have ykd := cx_kd (hK0 t); first | (have ymn := cx_mny h41 h55 h71; (try clear h41 h55 h71); unfold cx_f5; grind) | ((try clear h41 h55 h71); (try have yu1 := (hU (3 * t + i161)).1); (try have yu2 := (hU (3 * t + i216)).1); (try have yq1 := (hQ (3 * t + i338)).1); (try unfold cx_rP); (try rw [cx_exS (P := fun j => cx_rs n T (T 4 (3 * t + j)))]); grind)))) hS (lv_sub hl [0, 1, 2, 3, 4, 5, 6, 7] rfl)
                          refine lv_if_eq (tgt := 257) hx hb dX7_typeFaults_234 (by decide) (fun h234 => ?_) (fun h234 => ?_)
                          · skip
                            have g234 := cx_b0 h234
                            exact J257  _ _ _ (by (try clear RET); (try clear hS); (try clear hl); (try clear hE); (try clear hts); (try clear hb); (try clear hx); (try clear hml); (try clear hown); (try clear hinX7); (try clear J27); (try clear J41); (try clear J55); (try clear J71); (try clear J142); (try clear J161); (try clear ih161); (try clear hN161); (try clear J211); (try clear J216); (try clear ih216); (try clear hN216); (try clear J258); (try clear J257); have y10 : ¬ (1 : Int32) = 0 := (by decide); first | assumption | (have ykd := cx_kd (hK0 t); first | (have ymn := cx_mny h41 h55 h71; (try clear h41 h55 h71); unfold cx_f5; grind) | ((try clear h41 h55 h71); (try have yu1 := (hU (3 * t + i161)).1); (try have yu2 := (hU (3 * t + i216)).1); (try have yq1 := (hQ (3 * t + i338)).1); (try unfold cx_rP); (try rw [cx_exS (P := fun j => cx_rs n T (T 4 (3 * t + j)))]); grind))) hS (lv_sub hl [0, 1, 2, 3, 4, 5, 6, 7] rfl)
                          · skip
                            have g234 := cx_b1 h234
                            refine lv_aload_n hx hb dX7_typeFaults_237 rfl (lv_at hl 0 rfl) ?_
                            refine cx_get (own := RX7) (index := 22) (C := RX7) (T := TX7) (N := 22) (k := 5) (ci := 7) (v := .ref (q 5)) hx hb hts hown hE hS hinX7 0 rfl rfl (by decide) (List.mem_of_getElem? (i := 5) rfl) rfl dX7_typeFaults_238 ?_
                            refine lv_iconst (v := nI 3) hx hb dX7_typeFaults_241 (by decide) ?_
                            refine lv_iload_n hx hb dX7_typeFaults_242 rfl (lv_at hl 1 rfl) ?_
                            refine lv_imul hx hb dX7_typeFaults_243 ?_
                            refine cx_topr (z := nI (3 * t)) (pk_mul _ _) ?_
                            refine lv_iload hx hb dX7_typeFaults_244 (lv_at hl 7 rfl) ?_
                            refine lv_iadd hx hb dX7_typeFaults_246 ?_
                            refine cx_topr (z := nI (3 * t + i216)) (nI_add _ _) ?_
                            refine cx_iald (f := (T 4)) (n := 60) (cA := cI) hx hb hE hS 5 0 rfl rfl (by omega) (by decide) dX7_typeFaults_247 ?_
                            have ho247 := (hU (3 * t + i216)).2
                            refine cx_topr (z := nI (((T 4) (3 * t + i216)).toNatClampNeg)) (hU (3 * t + i216)).1 ?_
                            refine lv_iload hx hb dX7_typeFaults_248 (lv_at hl 6 rfl) ?_
                            refine lv_icmp_ne (tgt := 257) hx hb dX7_typeFaults_250 (by decide) (fun h250 => ?_) (fun h250 => ?_)
                            · skip
                              have g250 : ¬ ((((T 4) (3 * t + i216)).toNatClampNeg) = (((T 4) (3 * t + i161)).toNatClampNeg)) := fun z => h250 ((nI_eq (a := ((T 4) (3 * t + i216)).toNatClampNeg) (b := ((T 4) (3 * t + i161)).toNatClampNeg) (by omega) (by omega)).mpr z)
                              exact J257  _ _ _ (by (try clear RET); (try clear hS); (try clear hl); (try clear hE); (try clear hts); (try clear hb); (try clear hx); (try clear hml); (try clear hown); (try clear hinX7); (try clear J27); (try clear J41); (try clear J55); (try clear J71); (try clear J142); (try clear J161); (try clear ih161); (try clear hN161); (try clear J211); (try clear J216); (try clear ih216); (try clear hN216); (try clear J258); (try clear J257); have y10 : ¬ (1 : Int32) = 0 := (by decide); first | assumption | (have ykd := cx_kd (hK0 t); first | (have ymn := cx_mny h41 h55 h71; (try clear h41 h55 h71); unfold cx_f5; grind) | ((try clear h41 h55 h71); (try have yu1 := (hU (3 * t + i161)).1); (try have yu2 := (hU (3 * t + i216)).1); (try have yq1 := (hQ (3 * t + i338)).1); (try unfold cx_rP); (try rw [cx_exS (P := fun j => cx_rs n T (T 4 (3 * t + j)))]); grind))) hS (lv_sub hl [0, 1, 2, 3, 4, 5, 6, 7] rfl)
                            · skip
                              have g250 : (((T 4) (3 * t + i216)).toNatClampNeg) = (((T 4) (3 * t + i161)).toNatClampNeg) := (nI_eq (a := ((T 4) (3 * t + i216)).toNatClampNeg) (b := ((T 4) (3 * t + i161)).toNatClampNeg) (by omega) (by omega)).mp h250
                              refine lv_iconst (v := (1 : Int32)) hx hb dX7_typeFaults_253 (by decide) ?_
                              refine lv_goto (tgt := 258) hx hb dX7_typeFaults_254 (by decide) ?_
                              exact J258 (1 : Int32) _ _ _ (cx_e1 (by (try clear RET); (try clear hS); (try clear hl); (try clear hE); (try clear hts); (try clear hb); (try clear hx); (try clear hml); (try clear hown); (try clear hinX7); (try clear J27); (try clear J41); (try clear J55); (try clear J71); (try clear J142); (try clear J161); (try clear ih161); (try clear hN161); (try clear J211); (try clear J216); (try clear ih216); (try clear hN216); (try clear J258); (try clear J257); have y10 : ¬ (1 : Int32) = 0 := (by decide); first | assumption | (have ykd := cx_kd (hK0 t); first | (have ymn := cx_mny h41 h55 h71; (try clear h41 h55 h71); unfold cx_f5; grind) | ((try clear h41 h55 h71); (try have yu1 := (hU (3 * t + i161)).1); (try have yu2 := (hU (3 * t + i216)).1); (try have yq1 := (hQ (3 * t + i338)).1); (try unfold cx_rP); (try rw [cx_exS (P := fun j => cx_rs n T (T 4 (3 * t + j)))]); grind)))) hS (lv_sub hl [0, 1, 2, 3, 4, 5, 6, 7] rfl)
                    exact J216 (i161 - 0 + 1) 0 zf_189 _ _ _ (Nat.lt_succ_self _) (by (try clear g289); (try clear hq216); (try clear b211); (try clear hq161); (try clear b161_4); omega) (by first | exact hp_189x.trans cx_go0 | exact cx_goS (Q := fun i => (0 ≤ T 4 (3 * t + i161) ∧ T 4 (3 * t + i161) < nI n) ∧ T 4 (3 * t + i) = T 4 (3 * t + i161)) hq216 (by rw [hp_258, b258.2])) hS (lv_sub hl [2, 3, 4, 5, 1, 6, 7, 0] rfl)
                  have J206 : ∀ (H : Heap) (locs : List Loc) (ls : Array Slot), (cx_rs n T (T 3 t) ∨ ∃ j, j < (i161 + 1) ∧ cx_rs n T (T 4 (3 * t + j))) → cx_S D vwCl A s (cyW q cI cZ n T k M d (cx_u Z 1 zf_189) F) H locs → lv_has ls 8 [(0, .ref (q 0)), (1, .int (nI t)), (2, .int ((T 3) t)), (3, .int ((v41_s0 + v55_s0) + v71_s0)), (4, .int v161_l4), (5, .int (nI i161)), (6, .int (nI (((T 4) (3 * t + i161)).toNatClampNeg)))] → W p l e ({ frames := 3, cells := 0, slots := 0, locals := 66 } : Room) s m args below meth c H locs 0 0 Q (F0 m 206 ls []) := by
                    intro  H locs ls f206 hS hl
                    refine lv_iconst (v := (1 : Int32)) hx hb dX7_typeFaults_206 (by decide) ?_
                    refine lv_goto (tgt := 211) hx hb dX7_typeFaults_207 (by decide) ?_
                    exact J211 (1 : Int32) _ _ _ (cx_e1 (by (try clear RET); (try clear hS); (try clear hl); (try clear hE); (try clear hts); (try clear hb); (try clear hx); (try clear hml); (try clear hown); (try clear hinX7); (try clear J27); (try clear J41); (try clear J55); (try clear J71); (try clear J142); (try clear J161); (try clear ih161); (try clear hN161); (try clear J211); (try clear J206); have y10 : ¬ (1 : Int32) = 0 := (by decide); first | assumption | (have ykd := cx_kd (hK0 t); first | (have ymn := cx_mny h41 h55 h71; (try clear h41 h55 h71); unfold cx_f5; grind) | ((try clear h41 h55 h71); (try have yu1 := (hU (3 * t + i161)).1); (try have yu2 := (hU (3 * t + i216)).1); (try have yq1 := (hQ (3 * t + i338)).1); (try unfold cx_rP); (try rw [cx_exS (P := fun j => cx_rs n T (T 4 (3 * t + j)))]); grind)))) hS (lv_sub hl [0, 1, 2, 3, 4, 5, 6] rfl)
                  refine lv_if_ne (tgt := 206) hx hb dX7_typeFaults_194 (by decide) (fun h194 => ?_) (fun h194 => ?_)
                  · skip
                    have g194 : cx_rs n T (T 3 t) ∨ ∃ j, j < i161 ∧ cx_rs n T (T 4 (3 * t + j)) := b161_4.2.mp h194
                    exact J206  _ _ _ (by (try clear RET); (try clear hS); (try clear hl); (try clear hE); (try clear hts); (try clear hb); (try clear hx); (try clear hml); (try clear hown); (try clear hinX7); (try clear J27); (try clear J41); (try clear J55); (try clear J71); (try clear J142); (try clear J161); (try clear ih161); (try clear hN161); (try clear J211); (try clear J206); have y10 : ¬ (1 : Int32) = 0 := (by decide); first | assumption | (have ykd := cx_kd (hK0 t); first | (have ymn := cx_mny h41 h55 h71; (try clear h41 h55 h71); unfold cx_f5; grind) | ((try clear h41 h55 h71); (try have yu1 := (hU (3 * t + i161)).1); (try have yu2 := (hU (3 * t + i216)).1); (try have yq1 := (hQ (3 * t + i338)).1); (try unfold cx_rP); (try rw [cx_exS (P := fun j => cx_rs n T (T 4 (3 * t + j)))]); grind))) hS (lv_sub hl [1, 2, 3, 4, 5, 6, 0] rfl)
                  · skip
                    have g194 : ¬ (cx_rs n T (T 3 t) ∨ ∃ j, j < i161 ∧ cx_rs n T (T 4 (3 * t + j))) := fun z => b161_4.2.mpr z h194
                    refine lv_aload_n hx hb dX7_typeFaults_197 rfl (lv_at hl 1 rfl) ?_
                    refine lv_iload hx hb dX7_typeFaults_198 (lv_at hl 0 rfl) ?_
                    refine cx_cVi (As := [.int (nI (((T 4) (3 * t + i161)).toNatClampNeg))]) (rest := []) ⟨hx, hb, hml, hown, hts⟩ hE hS (c_X7_isSealed l D q cI cZ n T k M d (cx_u Z 1 zf_189) F (nI (((T 4) (3 * t + i161)).toNatClampNeg)) (by first | assumption | omega | rfl)) (cwV 1 hts gX7_typeFaults_X7_isSealed rfl rfl rfl (by decide +kernel) ⟨Nat.le_of_ble_eq_true rfl, Nat.le_of_ble_eq_true rfl⟩) 0 7 rfl rfl rfl hl.1 rfl (Nat.le_of_ble_eq_true rfl) ⟨Nat.zero_le _, Nat.zero_le _⟩ dX7_typeFaults_200 (fun r_200 u_200 H locs hp_200 hS => ?_)
                    have hp_200 : (r_200 = 0 ∨ r_200 = 1) ∧ (¬ r_200 = 0 ↔ cx_rs n T (nI (((T 4) (3 * t + i161)).toNatClampNeg))) := hp_200
                    refine lv_if_eq (tgt := 210) hx hb dX7_typeFaults_203 (by decide) (fun h203 => ?_) (fun h203 => ?_)
                    · skip
                      have g203 : ¬ (cx_rs n T (nI (((T 4) (3 * t + i161)).toNatClampNeg))) := fun z => hp_200.2.mpr z h203
                      refine lv_iconst (v := (0 : Int32)) hx hb dX7_typeFaults_210 (by decide) ?_
                      exact J211 (0 : Int32) _ _ _ (cx_e0 (by (try clear RET); (try clear hS); (try clear hl); (try clear hE); (try clear hts); (try clear hb); (try clear hx); (try clear hml); (try clear hown); (try clear hinX7); (try clear J27); (try clear J41); (try clear J55); (try clear J71); (try clear J142); (try clear J161); (try clear ih161); (try clear hN161); (try clear J211); (try clear J206); have y10 : ¬ (1 : Int32) = 0 := (by decide); first | assumption | (have ykd := cx_kd (hK0 t); first | (have ymn := cx_mny h41 h55 h71; (try clear h41 h55 h71); unfold cx_f5; grind) | ((try clear h41 h55 h71); (try have yu1 := (hU (3 * t + i161)).1); (try have yu2 := (hU (3 * t + i216)).1); (try have yq1 := (hQ (3 * t + i338)).1); (try unfold cx_rP); (try rw [cx_exS (P := fun j => cx_rs n T (T 4 (3 * t + j)))]); grind)))) hS (lv_sub hl [1, 2, 3, 4, 5, 6, 0] rfl)
                    · skip
                      have g203 : cx_rs n T (nI (((T 4) (3 * t + i161)).toNatClampNeg)) := hp_200.2.mp h203
                      exact J206  _ _ _ (by (try clear RET); (try clear hS); (try clear hl); (try clear hE); (try clear hts); (try clear hb); (try clear hx); (try clear hml); (try clear hown); (try clear hinX7); (try clear J27); (try clear J41); (try clear J55); (try clear J71); (try clear J142); (try clear J161); (try clear ih161); (try clear hN161); (try clear J211); (try clear J206); have y10 : ¬ (1 : Int32) = 0 := (by decide); first | assumption | (have ykd := cx_kd (hK0 t); first | (have ymn := cx_mny h41 h55 h71; (try clear h41 h55 h71); unfold cx_f5; grind) | ((try clear h41 h55 h71); (try have yu1 := (hU (3 * t + i161)).1); (try have yu2 := (hU (3 * t + i216)).1); (try have yq1 := (hQ (3 * t + i338)).1); (try unfold cx_rP); (try rw [cx_exS (P := fun j => cx_rs n T (T 4 (3 * t + j)))]); grind))) hS (lv_sub hl [1, 2, 3, 4, 5, 6, 0] rfl)
            exact J161 (((T 5) t).toNatClampNeg - 0 + 1) r_153 0 zf_148 _ _ _ (Nat.lt_succ_self _) (by (try clear g194); (try clear g289); (try clear hq161); (try clear b161_4); omega) (by first | exact hp_153 | (try clear RET); (try clear hS); (try clear hl); (try clear hE); (try clear hts); (try clear hb); (try clear hx); (try clear hml); (try clear hown); (try clear hinX7); (try clear J27); (try clear J41); (try clear J55); (try clear J71); (try clear J142); (try clear J161); (try clear ih161); (try clear hN161); have y10 : ¬ (1 : Int32) = 0 := (by decide); first | assumption | (have ykd := cx_kd (hK0 t); first | (have ymn := cx_mny h41 h55 h71; (try clear h41 h55 h71); unfold cx_f5; grind) | ((try clear h41 h55 h71); (try have yu1 := (hU (3 * t + i161)).1); (try have yu2 := (hU (3 * t + i216)).1); (try have yq1 := (hQ (3 * t + i338)).1); (try unfold cx_rP); (try rw [cx_exS (P := fun j => cx_rs n T (T 4 (3 * t + j)))]); grind))) (by first | exact hq148.trans cx_go0 | exact cx_goS hq161 hq216e) hS (lv_sub hl [2, 3, 4, 5, 1, 0] rfl)
          have J137 : ∀ (H : Heap) (locs : List Loc) (ls : Array Slot), (cx_f5 (T 0 t) (T 1 t)) → cx_S D vwCl A s (cyW q cI cZ n T k M d (cx_u Z 1 Z_1_27) F) H locs → lv_has ls 8 [(0, .ref (q 0)), (1, .int (nI t)), (2, .int ((T 3) t)), (3, .int ((v41_s0 + v55_s0) + v71_s0))] → W p l e ({ frames := 3, cells := 0, slots := 0, locals := 66 } : Room) s m args below meth c H locs 0 0 Q (F0 m 137 ls [.int (nI t), .int (nI 5), .ref (q 0)]) := by
            intro  H locs ls f137 hS hl
            refine lv_iconst (v := (1 : Int32)) hx hb dX7_typeFaults_137 (by decide) ?_
            refine lv_goto (tgt := 142) hx hb dX7_typeFaults_138 (by decide) ?_
            exact J142 (1 : Int32) _ _ _ (cx_e1 (by (try clear RET); (try clear hS); (try clear hl); (try clear hE); (try clear hts); (try clear hb); (try clear hx); (try clear hml); (try clear hown); (try clear hinX7); (try clear J27); (try clear J41); (try clear J55); (try clear J71); (try clear J142); (try clear J137); have y10 : ¬ (1 : Int32) = 0 := (by decide); first | assumption | (have ykd := cx_kd (hK0 t); first | (have ymn := cx_mny h41 h55 h71; (try clear h41 h55 h71); unfold cx_f5; grind) | ((try clear h41 h55 h71); (try have yu1 := (hU (3 * t + i161)).1); (try have yu2 := (hU (3 * t + i216)).1); (try have yq1 := (hQ (3 * t + i338)).1); (try unfold cx_rP); (try rw [cx_exS (P := fun j => cx_rs n T (T 4 (3 * t + j)))]); grind)))) hS (lv_sub hl [0, 1, 2, 3] rfl)
          refine lv_icmp_gt (tgt := 137) hx hb dX7_typeFaults_78 (by decide) (fun h78 => ?_) (fun h78 => ?_)
          · skip
            exact J137  _ _ _ (by (try clear RET); (try clear hS); (try clear hl); (try clear hE); (try clear hts); (try clear hb); (try clear hx); (try clear hml); (try clear hown); (try clear hinX7); (try clear J27); (try clear J41); (try clear J55); (try clear J71); (try clear J142); (try clear J137); have y10 : ¬ (1 : Int32) = 0 := (by decide); first | assumption | (have ykd := cx_kd (hK0 t); first | (have ymn := cx_mny h41 h55 h71; (try clear h41 h55 h71); unfold cx_f5; grind) | ((try clear h41 h55 h71); (try have yu1 := (hU (3 * t + i161)).1); (try have yu2 := (hU (3 * t + i216)).1); (try have yq1 := (hQ (3 * t + i338)).1); (try unfold cx_rP); (try rw [cx_exS (P := fun j => cx_rs n T (T 4 (3 * t + j)))]); grind))) hS (lv_sub hl [1, 2, 3, 0] rfl)
          · skip
            refine lv_aload_n hx hb dX7_typeFaults_81 rfl (lv_at hl 1 rfl) ?_
            refine lv_iload_n hx hb dX7_typeFaults_82 rfl (lv_at hl 2 rfl) ?_
            refine lv_iconst (v := (1 : Int32)) hx hb dX7_typeFaults_83 (by decide) ?_
            refine cx_cVi (As := [.int (nI t), .int (1 : Int32)]) (rest := [.int (nI t), .int (nI 5), .ref (q 0)]) ⟨hx, hb, hml, hown, hts⟩ hE hS (c_X7_marked l D q cI cZ n T k M d (cx_u Z 1 Z_1_27) F t (1 : Int32) (by first | assumption | omega | rfl)) (cwV 2 hts gX7_typeFaults_X7_marked rfl rfl rfl (by decide +kernel) ⟨Nat.le_of_ble_eq_true rfl, Nat.le_of_ble_eq_true rfl⟩) 0 7 rfl rfl rfl hl.1 rfl (Nat.le_of_ble_eq_true rfl) ⟨Nat.zero_le _, Nat.zero_le _⟩ dX7_typeFaults_84 (fun r_84 u_84 H locs hp_84 hS => ?_)
            have hp_84 : (r_84 = 0 ∨ r_84 = 1) ∧ (¬ r_84 = 0 ↔ cx_mk ((T 1)) t (1 : Int32)) := hp_84
            have J99 : ∀ (H : Heap) (locs : List Loc) (ls : Array Slot), (¬ (cx_mk (T 1) t 1 ∧ cx_mk (T 1) t (nI 2))) → cx_S D vwCl A s (cyW q cI cZ n T k M d (cx_u Z 1 Z_1_27) F) H locs → lv_has ls 8 [(0, .ref (q 0)), (1, .int (nI t)), (2, .int ((T 3) t)), (3, .int ((v41_s0 + v55_s0) + v71_s0))] → W p l e ({ frames := 3, cells := 0, slots := 0, locals := 66 } : Room) s m args below meth c H locs 0 0 Q (F0 m 99 ls [.int (nI t), .int (nI 5), .ref (q 0)]) := by
              intro  H locs ls h99 hS hl
              refine lv_aload_n hx hb dX7_typeFaults_99 rfl (lv_at hl 0 rfl) ?_
              refine lv_iload_n hx hb dX7_typeFaults_100 rfl (lv_at hl 1 rfl) ?_
              refine lv_iconst (v := nI 2) hx hb dX7_typeFaults_101 (by decide) ?_
              refine cx_cVi (As := [.int (nI t), .int (nI 2)]) (rest := [.int (nI t), .int (nI 5), .ref (q 0)]) ⟨hx, hb, hml, hown, hts⟩ hE hS (c_X7_marked l D q cI cZ n T k M d (cx_u Z 1 Z_1_27) F t (nI 2) (by first | assumption | omega | rfl)) (cwV 2 hts gX7_typeFaults_X7_marked rfl rfl rfl (by decide +kernel) ⟨Nat.le_of_ble_eq_true rfl, Nat.le_of_ble_eq_true rfl⟩) 0 7 rfl rfl rfl hl.1 rfl (Nat.le_of_ble_eq_true rfl) ⟨Nat.zero_le _, Nat.zero_le _⟩ dX7_typeFaults_102 (fun r_102 u_102 H locs hp_102 hS => ?_)
              have hp_102 : (r_102 = 0 ∨ r_102 = 1) ∧ (¬ r_102 = 0 ↔ cx_mk ((T 1)) t (nI 2)) := hp_102
              have J118 : ∀ (H : Heap) (locs : List Loc) (ls : Array Slot), (¬ (cx_mk (T 1) t (nI 2) ∧ T 0 t = 1)) → cx_S D vwCl A s (cyW q cI cZ n T k M d (cx_u Z 1 Z_1_27) F) H locs → lv_has ls 8 [(0, .ref (q 0)), (1, .int (nI t)), (2, .int ((T 3) t)), (3, .int ((v41_s0 + v55_s0) + v71_s0))] → W p l e ({ frames := 3, cells := 0, slots := 0, locals := 66 } : Room) s m args below meth c H locs 0 0 Q (F0 m 118 ls [.int (nI t), .int (nI 5), .ref (q 0)]) := by
                intro  H locs ls h118 hS hl
                refine lv_aload_n hx hb dX7_typeFaults_118 rfl (lv_at hl 0 rfl) ?_
                refine cx_get (own := RX7) (index := 13) (C := RX7) (T := TX7) (N := 22) (k := 2) (ci := 7) (v := .ref (q 2)) hx hb hts hown hE hS hinX7 0 rfl rfl (by decide) (List.mem_of_getElem? (i := 3) rfl) rfl dX7_typeFaults_119 ?_
                refine lv_iload_n hx hb dX7_typeFaults_122 rfl (lv_at hl 1 rfl) ?_
                refine cx_iald (f := (T 1)) (n := 20) (cA := cI) hx hb hE hS 2 0 rfl rfl (by omega) (by decide) dX7_typeFaults_123 ?_
                have J141 : ∀ (H : Heap) (locs : List Loc) (ls : Array Slot), (¬ (cx_f5 (T 0 t) (T 1 t))) → cx_S D vwCl A s (cyW q cI cZ n T k M d (cx_u Z 1 Z_1_27) F) H locs → lv_has ls 8 [(0, .ref (q 0)), (1, .int (nI t)), (2, .int ((T 3) t)), (3, .int ((v41_s0 + v55_s0) + v71_s0))] → W p l e ({ frames := 3, cells := 0, slots := 0, locals := 66 } : Room) s m args below meth c H locs 0 0 Q (F0 m 141 ls [.int (nI t), .int (nI 5), .ref (q 0)]) := by
                  intro  H locs ls f141 hS hl
                  refine lv_iconst (v := (0 : Int32)) hx hb dX7_typeFaults_141 (by decide) ?_
                  exact J142 (0 : Int32) _ _ _ (cx_e0 (by (try clear RET); (try clear hS); (try clear hl); (try clear hE); (try clear hts); (try clear hb); (try clear hx); (try clear hml); (try clear hown); (try clear hinX7); (try clear J27); (try clear J41); (try clear J55); (try clear J71); (try clear J142); (try clear J137); (try clear J99); (try clear J118); (try clear J141); have y10 : ¬ (1 : Int32) = 0 := (by decide); first | assumption | (have ykd := cx_kd (hK0 t); first | (have ymn := cx_mny h41 h55 h71; (try clear h41 h55 h71); unfold cx_f5; grind) | ((try clear h41 h55 h71); (try have yu1 := (hU (3 * t + i161)).1); (try have yu2 := (hU (3 * t + i216)).1); (try have yq1 := (hQ (3 * t + i338)).1); (try unfold cx_rP); (try rw [cx_exS (P := fun j => cx_rs n T (T 4 (3 * t + j)))]); grind)))) hS (lv_sub hl [0, 1, 2, 3] rfl)
                refine lv_if_eq (tgt := 141) hx hb dX7_typeFaults_124 (by decide) (fun h124 => ?_) (fun h124 => ?_)
                · skip
                  exact J141  _ _ _ (by (try clear RET); (try clear hS); (try clear hl); (try clear hE); (try clear hts); (try clear hb); (try clear hx); (try clear hml); (try clear hown); (try clear hinX7); (try clear J27); (try clear J41); (try clear J55); (try clear J71); (try clear J142); (try clear J137); (try clear J99); (try clear J118); (try clear J141); have y10 : ¬ (1 : Int32) = 0 := (by decide); first | assumption | (have ykd := cx_kd (hK0 t); first | (have ymn := cx_mny h41 h55 h71; (try clear h41 h55 h71); unfold cx_f5; grind) | ((try clear h41 h55 h71); (try have yu1 := (hU (3 * t + i161)).1); (try have yu2 := (hU (3 * t + i216)).1); (try have yq1 := (hQ (3 * t + i338)).1); (try unfold cx_rP); (try rw [cx_exS (P := fun j => cx_rs n T (T 4 (3 * t + j)))]); grind))) hS (lv_sub hl [0, 1, 2, 3] rfl)
                · skip
                  refine lv_aload_n hx hb dX7_typeFaults_127 rfl (lv_at hl 0 rfl) ?_
                  refine cx_get (own := RX7) (index := 7) (C := RX7) (T := TX7) (N := 22) (k := 1) (ci := 7) (v := .ref (q 1)) hx hb hts hown hE hS hinX7 0 rfl rfl (by decide) (List.mem_of_getElem? (i := 2) rfl) rfl dX7_typeFaults_128 ?_
                  refine lv_iload_n hx hb dX7_typeFaults_131 rfl (lv_at hl 1 rfl) ?_
                  refine cx_iald (f := (T 0)) (n := 20) (cA := cI) hx hb hE hS 1 0 rfl rfl (by omega) (by decide) dX7_typeFaults_132 ?_
                  refine lv_iconst (v := nI 2) hx hb dX7_typeFaults_133 (by decide) ?_
                  refine lv_icmp_lt (tgt := 141) hx hb dX7_typeFaults_134 (by decide) (fun h134 => ?_) (fun h134 => ?_)
                  · skip
                    exact J141  _ _ _ (by (try clear RET); (try clear hS); (try clear hl); (try clear hE); (try clear hts); (try clear hb); (try clear hx); (try clear hml); (try clear hown); (try clear hinX7); (try clear J27); (try clear J41); (try clear J55); (try clear J71); (try clear J142); (try clear J137); (try clear J99); (try clear J118); (try clear J141); have y10 : ¬ (1 : Int32) = 0 := (by decide); first | assumption | (have ykd := cx_kd (hK0 t); first | (have ymn := cx_mny h41 h55 h71; (try clear h41 h55 h71); unfold cx_f5; grind) | ((try clear h41 h55 h71); (try have yu1 := (hU (3 * t + i161)).1); (try have yu2 := (hU (3 * t + i216)).1); (try have yq1 := (hQ (3 * t + i338)).1); (try unfold cx_rP); (try rw [cx_exS (P := fun j => cx_rs n T (T 4 (3 * t + j)))]); grind))) hS (lv_sub hl [0, 1, 2, 3] rfl)
                  · skip
                    exact J137  _ _ _ (by (try clear RET); (try clear hS); (try clear hl); (try clear hE); (try clear hts); (try clear hb); (try clear hx); (try clear hml); (try clear hown); (try clear hinX7); (try clear J27); (try clear J41); (try clear J55); (try clear J71); (try clear J142); (try clear J137); (try clear J99); (try clear J118); (try clear J141); have y10 : ¬ (1 : Int32) = 0 := (by decide); first | assumption | (have ykd := cx_kd (hK0 t); first | (have ymn := cx_mny h41 h55 h71; (try clear h41 h55 h71); unfold cx_f5; grind) | ((try clear h41 h55 h71); (try have yu1 := (hU (3 * t + i161)).1); (try have yu2 := (hU (3 * t + i216)).1); (try have yq1 := (hQ (3 * t + i338)).1); (try unfold cx_rP); (try rw [cx_exS (P := fun j => cx_rs n T (T 4 (3 * t + j)))]); grind))) hS (lv_sub hl [0, 1, 2, 3] rfl)
              refine lv_if_eq (tgt := 118) hx hb dX7_typeFaults_105 (by decide) (fun h105 => ?_) (fun h105 => ?_)
              · skip
                have g105 : ¬ (cx_mk ((T 1)) t (nI 2)) := fun z => hp_102.2.mpr z h105
                exact J118  _ _ _ (by (try clear RET); (try clear hS); (try clear hl); (try clear hE); (try clear hts); (try clear hb); (try clear hx); (try clear hml); (try clear hown); (try clear hinX7); (try clear J27); (try clear J41); (try clear J55); (try clear J71); (try clear J142); (try clear J137); (try clear J99); (try clear J118); have y10 : ¬ (1 : Int32) = 0 := (by decide); first | assumption | (have ykd := cx_kd (hK0 t); first | (have ymn := cx_mny h41 h55 h71; (try clear h41 h55 h71); unfold cx_f5; grind) | ((try clear h41 h55 h71); (try have yu1 := (hU (3 * t + i161)).1); (try have yu2 := (hU (3 * t + i216)).1); (try have yq1 := (hQ (3 * t + i338)).1); (try unfold cx_rP); (try rw [cx_exS (P := fun j => cx_rs n T (T 4 (3 * t + j)))]); grind))) hS (lv_sub hl [0, 1, 2, 3] rfl)
              · skip
                have g105 : cx_mk ((T 1)) t (nI 2) := hp_102.2.mp h105
                refine lv_aload_n hx hb dX7_typeFaults_108 rfl (lv_at hl 0 rfl) ?_
                refine cx_get (own := RX7) (index := 7) (C := RX7) (T := TX7) (N := 22) (k := 1) (ci := 7) (v := .ref (q 1)) hx hb hts hown hE hS hinX7 0 rfl rfl (by decide) (List.mem_of_getElem? (i := 2) rfl) rfl dX7_typeFaults_109 ?_
                refine lv_iload_n hx hb dX7_typeFaults_112 rfl (lv_at hl 1 rfl) ?_
                refine cx_iald (f := (T 0)) (n := 20) (cA := cI) hx hb hE hS 1 0 rfl rfl (by omega) (by decide) dX7_typeFaults_113 ?_
                refine lv_iconst (v := (1 : Int32)) hx hb dX7_typeFaults_114 (by decide) ?_
                refine lv_icmp_eq (tgt := 137) hx hb dX7_typeFaults_115 (by decide) (fun h115 => ?_) (fun h115 => ?_)
                · skip
                  exact J137  _ _ _ (by (try clear RET); (try clear hS); (try clear hl); (try clear hE); (try clear hts); (try clear hb); (try clear hx); (try clear hml); (try clear hown); (try clear hinX7); (try clear J27); (try clear J41); (try clear J55); (try clear J71); (try clear J142); (try clear J137); (try clear J99); (try clear J118); have y10 : ¬ (1 : Int32) = 0 := (by decide); first | assumption | (have ykd := cx_kd (hK0 t); first | (have ymn := cx_mny h41 h55 h71; (try clear h41 h55 h71); unfold cx_f5; grind) | ((try clear h41 h55 h71); (try have yu1 := (hU (3 * t + i161)).1); (try have yu2 := (hU (3 * t + i216)).1); (try have yq1 := (hQ (3 * t + i338)).1); (try unfold cx_rP); (try rw [cx_exS (P := fun j => cx_rs n T (T 4 (3 * t + j)))]); grind))) hS (lv_sub hl [0, 1, 2, 3] rfl)
                · skip
                  exact J118  _ _ _ (by (try clear RET); (try clear hS); (try clear hl); (try clear hE); (try clear hts); (try clear hb); (try clear hx); (try clear hml); (try clear hown); (try clear hinX7); (try clear J27); (try clear J41); (try clear J55); (try clear J71); (try clear J142); (try clear J137); (try clear J99); (try clear J118); have y10 : ¬ (1 : Int32) = 0 := (by decide); first | assumption | (have ykd := cx_kd (hK0 t); first | (have ymn := cx_mny h41 h55 h71; (try clear h41 h55 h71); unfold cx_f5; grind) | ((try clear h41 h55 h71); (try have yu1 := (hU (3 * t + i161)).1); (try have yu2 := (hU (3 * t + i216)).1); (try have yq1 := (hQ (3 * t + i338)).1); (try unfold cx_rP); (try rw [cx_exS (P := fun j => cx_rs n T (T 4 (3 * t + j)))]); grind))) hS (lv_sub hl [0, 1, 2, 3] rfl)
            refine lv_if_eq (tgt := 99) hx hb dX7_typeFaults_87 (by decide) (fun h87 => ?_) (fun h87 => ?_)
            · skip
              have g87 : ¬ (cx_mk ((T 1)) t (1 : Int32)) := fun z => hp_84.2.mpr z h87
              exact J99  _ _ _ (by (try clear RET); (try clear hS); (try clear hl); (try clear hE); (try clear hts); (try clear hb); (try clear hx); (try clear hml); (try clear hown); (try clear hinX7); (try clear J27); (try clear J41); (try clear J55); (try clear J71); (try clear J142); (try clear J137); (try clear J99); have y10 : ¬ (1 : Int32) = 0 := (by decide); first | assumption | (have ykd := cx_kd (hK0 t); first | (have ymn := cx_mny h41 h55 h71; (try clear h41 h55 h71); unfold cx_f5; grind) | ((try clear h41 h55 h71); (try have yu1 := (hU (3 * t + i161)).1); (try have yu2 := (hU (3 * t + i216)).1); (try have yq1 := (hQ (3 * t + i338)).1); (try unfold cx_rP); (try rw [cx_exS (P := fun j => cx_rs n T (T 4 (3 * t + j)))]); grind))) hS (lv_sub hl [1, 2, 3, 0] rfl)
            · skip
              have g87 : cx_mk ((T 1)) t (1 : Int32) := hp_84.2.mp h87
              refine lv_aload_n hx hb dX7_typeFaults_90 rfl (lv_at hl 1 rfl) ?_
              refine lv_iload_n hx hb dX7_typeFaults_91 rfl (lv_at hl 2 rfl) ?_
              refine lv_iconst (v := nI 2) hx hb dX7_typeFaults_92 (by decide) ?_
              refine cx_cVi (As := [.int (nI t), .int (nI 2)]) (rest := [.int (nI t), .int (nI 5), .ref (q 0)]) ⟨hx, hb, hml, hown, hts⟩ hE hS (c_X7_marked l D q cI cZ n T k M d (cx_u Z 1 Z_1_27) F t (nI 2) (by first | assumption | omega | rfl)) (cwV 2 hts gX7_typeFaults_X7_marked rfl rfl rfl (by decide +kernel) ⟨Nat.le_of_ble_eq_true rfl, Nat.le_of_ble_eq_true rfl⟩) 0 7 rfl rfl rfl hl.1 rfl (Nat.le_of_ble_eq_true rfl) ⟨Nat.zero_le _, Nat.zero_le _⟩ dX7_typeFaults_93 (fun r_93 u_93 H locs hp_93 hS => ?_)
              have hp_93 : (r_93 = 0 ∨ r_93 = 1) ∧ (¬ r_93 = 0 ↔ cx_mk ((T 1)) t (nI 2)) := hp_93
              refine lv_if_ne (tgt := 137) hx hb dX7_typeFaults_96 (by decide) (fun h96 => ?_) (fun h96 => ?_)
              · skip
                have g96 : cx_mk ((T 1)) t (nI 2) := hp_93.2.mp h96
                exact J137  _ _ _ (by (try clear RET); (try clear hS); (try clear hl); (try clear hE); (try clear hts); (try clear hb); (try clear hx); (try clear hml); (try clear hown); (try clear hinX7); (try clear J27); (try clear J41); (try clear J55); (try clear J71); (try clear J142); (try clear J137); (try clear J99); have y10 : ¬ (1 : Int32) = 0 := (by decide); first | assumption | (have ykd := cx_kd (hK0 t); first | (have ymn := cx_mny h41 h55 h71; (try clear h41 h55 h71); unfold cx_f5; grind) | ((try clear h41 h55 h71); (try have yu1 := (hU (3 * t + i161)).1); (try have yu2 := (hU (3 * t + i216)).1); (try have yq1 := (hQ (3 * t + i338)).1); (try unfold cx_rP); (try rw [cx_exS (P := fun j => cx_rs n T (T 4 (3 * t + j)))]); grind))) hS (lv_sub hl [1, 2, 3, 0] rfl)
              · skip
                have g96 : ¬ (cx_mk ((T 1)) t (nI 2)) := fun z => hp_93.2.mpr z h96
                exact J99  _ _ _ (by (try clear RET); (try clear hS); (try clear hl); (try clear hE); (try clear hts); (try clear hb); (try clear hx); (try clear hml); (try clear hown); (try clear hinX7); (try clear J27); (try clear J41); (try clear J55); (try clear J71); (try clear J142); (try clear J137); (try clear J99); have y10 : ¬ (1 : Int32) = 0 := (by decide); first | assumption | (have ykd := cx_kd (hK0 t); first | (have ymn := cx_mny h41 h55 h71; (try clear h41 h55 h71); unfold cx_f5; grind) | ((try clear h41 h55 h71); (try have yu1 := (hU (3 * t + i161)).1); (try have yu2 := (hU (3 * t + i216)).1); (try have yq1 := (hQ (3 * t + i338)).1); (try unfold cx_rP); (try rw [cx_exS (P := fun j => cx_rs n T (T 4 (3 * t + j)))]); grind))) hS (lv_sub hl [1, 2, 3, 0] rfl)
        refine lv_if_eq (tgt := 70) hx hb dX7_typeFaults_63 (by decide) (fun h63 => ?_) (fun h63 => ?_)
        · skip
          have g63 : ¬ (cx_mk ((T 1)) t (nI 8)) := fun z => hp_60.2.mpr z h63
          refine lv_iconst (v := (0 : Int32)) hx hb dX7_typeFaults_70 (by decide) ?_
          exact J71 (0 : Int32) _ _ _ (by first | exact Or.inl ⟨g63, rfl⟩ | exact Or.inr ⟨g63, rfl⟩) hS (lv_sub hl [0, 1, 2] rfl)
        · skip
          have g63 : cx_mk ((T 1)) t (nI 8) := hp_60.2.mp h63
          refine lv_iconst (v := (1 : Int32)) hx hb dX7_typeFaults_66 (by decide) ?_
          refine lv_goto (tgt := 71) hx hb dX7_typeFaults_67 (by decide) ?_
          exact J71 (1 : Int32) _ _ _ (by first | exact Or.inl ⟨g63, rfl⟩ | exact Or.inr ⟨g63, rfl⟩) hS (lv_sub hl [0, 1, 2] rfl)
      refine lv_if_eq (tgt := 54) hx hb dX7_typeFaults_47 (by decide) (fun h47 => ?_) (fun h47 => ?_)
      · skip
        have g47 : ¬ (cx_mk ((T 1)) t (nI 4)) := fun z => hp_44.2.mpr z h47
        refine lv_iconst (v := (0 : Int32)) hx hb dX7_typeFaults_54 (by decide) ?_
        exact J55 (0 : Int32) _ _ _ (by first | exact Or.inl ⟨g47, rfl⟩ | exact Or.inr ⟨g47, rfl⟩) hS (lv_sub hl [0, 1, 2] rfl)
      · skip
        have g47 : cx_mk ((T 1)) t (nI 4) := hp_44.2.mp h47
        refine lv_iconst (v := (1 : Int32)) hx hb dX7_typeFaults_50 (by decide) ?_
        refine lv_goto (tgt := 55) hx hb dX7_typeFaults_51 (by decide) ?_
        exact J55 (1 : Int32) _ _ _ (by first | exact Or.inl ⟨g47, rfl⟩ | exact Or.inr ⟨g47, rfl⟩) hS (lv_sub hl [0, 1, 2] rfl)
    refine lv_if_eq (tgt := 40) hx hb dX7_typeFaults_33 (by decide) (fun h33 => ?_) (fun h33 => ?_)
    · skip
      have g33 : ¬ (cx_mk ((T 1)) t (nI 2)) := fun z => hp_30.2.mpr z h33
      refine lv_iconst (v := (0 : Int32)) hx hb dX7_typeFaults_40 (by decide) ?_
      exact J41 (0 : Int32) _ _ _ (by first | exact Or.inl ⟨g33, rfl⟩ | exact Or.inr ⟨g33, rfl⟩) hS (lv_sub hl [0, 1, 2] rfl)
    · skip
      have g33 : cx_mk ((T 1)) t (nI 2) := hp_30.2.mp h33
      refine lv_iconst (v := (1 : Int32)) hx hb dX7_typeFaults_36 (by decide) ?_
      refine lv_goto (tgt := 41) hx hb dX7_typeFaults_37 (by decide) ?_
      exact J41 (1 : Int32) _ _ _ (by first | exact Or.inl ⟨g33, rfl⟩ | exact Or.inr ⟨g33, rfl⟩) hS (lv_sub hl [0, 1, 2] rfl)
  refine lv_if_eq (tgt := 27) hx hb dX7_typeFaults_12 (by decide) (fun h12 => ?_) (fun h12 => ?_)
  · skip
    have g12 := cx_b0 h12
    exact J27 (Z 1) _ _ _ (by first | exact cx_goX (fun z => g12 z.1) | (rw [hp_24, hp_21.2]; exact ⟨fun z => z.imp id (fun y => ⟨g12, y⟩), fun z => z.imp id (fun y => y.2)⟩)) hS (lv_sub hl [1, 2, 0] rfl)
  · skip
    have g12 := cx_b1 h12
    have hq12 := (cx_ixT (by omega) g12).2
    refine lv_aload_n hx hb dX7_typeFaults_15 rfl (lv_at hl 1 rfl) ?_
    refine lv_iconst (v := nI 4) hx hb dX7_typeFaults_16 (by decide) ?_
    refine lv_iload_n hx hb dX7_typeFaults_17 rfl (lv_at hl 0 rfl) ?_
    refine cx_topr (z := nI (((T 3) t).toNatClampNeg)) (cx_ixT (by omega) g12).1 ?_
    refine lv_aload_n hx hb dX7_typeFaults_18 rfl (lv_at hl 1 rfl) ?_
    refine lv_iload_n hx hb dX7_typeFaults_19 rfl (lv_at hl 0 rfl) ?_
    refine cx_topr (z := nI (((T 3) t).toNatClampNeg)) (cx_ixT (by omega) g12).1 ?_
    refine lv_iconst (v := nI 2) hx hb dX7_typeFaults_20 (by decide) ?_
    refine cx_cVi (As := [.int (nI (((T 3) t).toNatClampNeg)), .int (nI 2)]) (rest := [.int (nI (((T 3) t).toNatClampNeg)), .int (nI 4), .ref (q 0)]) ⟨hx, hb, hml, hown, hts⟩ hE hS (c_X7_marked l D q cI cZ n T k M d Z F (((T 3) t).toNatClampNeg) (nI 2) (by first | assumption | omega | rfl)) (cwV 2 hts gX7_typeFaults_X7_marked rfl rfl rfl (by decide +kernel) ⟨Nat.le_of_ble_eq_true rfl, Nat.le_of_ble_eq_true rfl⟩) 0 7 rfl rfl rfl hl.1 rfl (Nat.le_of_ble_eq_true rfl) ⟨Nat.zero_le _, Nat.zero_le _⟩ dX7_typeFaults_21 (fun r_21 u_21 H locs hp_21 hS => ?_)
    have hp_21 : (r_21 = 0 ∨ r_21 = 1) ∧ (¬ r_21 = 0 ↔ cx_mk ((T 1)) (((T 3) t).toNatClampNeg) (nI 2)) := hp_21
    refine cx_cVv (As := [.int (nI 4), .int (nI (((T 3) t).toNatClampNeg)), .int r_21]) (rest := []) ⟨hx, hb, hml, hown, hts⟩ hE hS (c_X7_mark l D q cI cZ n T k M d Z F 4 (((T 3) t).toNatClampNeg) r_21 (by first | assumption | omega | rfl) (by first | assumption | omega | rfl)) (cwV 3 hts gX7_typeFaults_X7_mark rfl rfl rfl (by decide +kernel) ⟨Nat.le_of_ble_eq_true rfl, Nat.le_of_ble_eq_true rfl⟩) 0 7 rfl rfl rfl hl.1 rfl (Nat.le_of_ble_eq_true rfl) ⟨Nat.zero_le _, Nat.zero_le _⟩ dX7_typeFaults_24 (fun u_24 H locs hp_24 hS => ?_)
    obtain ⟨zf_24, rfl⟩ : ∃ z, z = u_24 := ⟨_, rfl⟩
    have hS : cx_S D vwCl A s (cyW q cI cZ n T k M d (cx_u Z 1 zf_24) F) H locs := hS
    have hp_24 : cx_EE zf_24 ↔ cx_EE ((Z 1)) ∨ ¬ r_21 = 0 := hp_24
    exact J27 zf_24 _ _ _ (by first | exact cx_goX (fun z => g12 z.1) | (rw [hp_24, hp_21.2]; exact ⟨fun z => z.imp id (fun y => ⟨g12, y⟩), fun z => z.imp id (fun y => y.2)⟩)) hS (lv_sub hl [1, 2, 0] rfl)
