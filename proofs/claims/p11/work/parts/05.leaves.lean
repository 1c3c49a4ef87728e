set_option maxHeartbeats 4000000 in
set_option maxRecDepth 100000 in
/-- within(v, bd) -/
theorem c_X6_within (l : Launch) (D : va_G) (tys : List (ClassId × FieldType)) (ws : va_W) (v : Int32) (bd : Int32) : cx_Mi l D vwCl tys cx_NW yX6_within wsX6_within ({ frames := 0, cells := 0, slots := 0, locals := 0 } : Room) [.int v, .int bd] ws (fun (r : Int32) (uw : Unit) => r = cx_b (0 ≤ v ∧ v < bd)) (fun _ => ws) := by
  refine cx_Mi.of (cc := cX6_within) (maxL := 2) cx_NW_ok (by decide) rfl (Nat.le_of_ble_eq_true rfl) ?_
  intro p e s m args below meth c Q A ls hx hb hml hown hts hE RET hS hl
  have hl : lv_has ls 2 [(0, .int v), (1, .int bd)] := hl
  have hown : s.vm.findClass RX6 = some m.cls := hown
  refine lv_iload_n hx hb dX6_within_0 rfl (lv_at hl 0 rfl) ?_
  refine lv_if_lt (tgt := 13) hx hb dX6_within_1 (by decide) (fun h1 => ?_) (fun h1 => ?_)
  · skip
    refine lv_iconst (v := (0 : Int32)) hx hb dX6_within_13 (by decide) ?_
    exact RET _ () _ _ _ _ dX6_within_14 rfl (by first | exact cx_bt ⟨Int32.not_lt.mp h1, Int32.not_le.mp h6⟩ | exact cx_bf (fun z => absurd z.2 (Int32.not_lt.mpr h6)) | exact cx_bf (fun z => absurd z.1 (Int32.not_le.mpr h1))) hS
  · skip
    refine lv_iload_n hx hb dX6_within_4 rfl (lv_at hl 0 rfl) ?_
    refine lv_iload_n hx hb dX6_within_5 rfl (lv_at hl 1 rfl) ?_
    refine lv_icmp_ge (tgt := 13) hx hb dX6_within_6 (by decide) (fun h6 => ?_) (fun h6 => ?_)
    · skip
      refine lv_iconst (v := (0 : Int32)) hx hb dX6_within_13 (by decide) ?_
      exact RET _ () _ _ _ _ dX6_within_14 rfl (by first | exact cx_bt ⟨Int32.not_lt.mp h1, Int32.not_le.mp h6⟩ | exact cx_bf (fun z => absurd z.2 (Int32.not_lt.mpr h6)) | exact cx_bf (fun z => absurd z.1 (Int32.not_le.mpr h1))) hS
    · skip
      refine lv_iconst (v := (1 : Int32)) hx hb dX6_within_9 (by decide) ?_
      refine lv_goto (tgt := 14) hx hb dX6_within_10 (by decide) ?_
      exact RET _ () _ _ _ _ dX6_within_14 rfl (by first | exact cx_bt ⟨Int32.not_lt.mp h1, Int32.not_le.mp h6⟩ | exact cx_bf (fun z => absurd z.2 (Int32.not_lt.mpr h6)) | exact cx_bf (fun z => absurd z.1 (Int32.not_le.mpr h1))) hS
set_option maxHeartbeats 4000000 in
set_option maxRecDepth 100000 in
/-- bit(t) -/
theorem c_X6_bit (l : Launch) (D : va_G) (tys : List (ClassId × FieldType)) (ws : va_W) (t : Int32) : cx_Mi l D vwCl tys cx_NW yX6_bit wsX6_bit ({ frames := 0, cells := 0, slots := 0, locals := 0 } : Room) [.int t] ws (fun (r : Int32) (uw : Unit) => r = ((1 : Int32) <<< (t &&& 31))) (fun _ => ws) := by
  refine cx_Mi.of (cc := cX6_bit) (maxL := 1) cx_NW_ok (by decide) rfl (Nat.le_of_ble_eq_true rfl) ?_
  intro p e s m args below meth c Q A ls hx hb hml hown hts hE RET hS hl
  have hl : lv_has ls 1 [(0, .int t)] := hl
  have hown : s.vm.findClass RX6 = some m.cls := hown
  refine lv_iconst (v := (1 : Int32)) hx hb dX6_bit_0 (by decide) ?_
  refine lv_iload_n hx hb dX6_bit_1 rfl (lv_at hl 0 rfl) ?_
  refine lv_ishl hx hb dX6_bit_2 ?_
  exact RET _ () _ _ _ _ dX6_bit_3 rfl rfl hS
set_option maxHeartbeats 4000000 in
set_option maxRecDepth 100000 in
/-- holds(st, t) -/
theorem c_X6_holds (l : Launch) (D : va_G) (tys : List (ClassId × FieldType)) (ws : va_W) (st : Int32) (t : Int32) : cx_Mi l D vwCl tys cx_NW yX6_holds wsX6_holds ({ frames := 0, cells := 0, slots := 0, locals := 0 } : Room) [.int st, .int t] ws (fun (r : Int32) (uw : Unit) => r = cx_b (¬ ((st >>> (t &&& 31)) &&& (1 : Int32)) = 0)) (fun _ => ws) := by
  refine cx_Mi.of (cc := cX6_holds) (maxL := 2) cx_NW_ok (by decide) rfl (Nat.le_of_ble_eq_true rfl) ?_
  intro p e s m args below meth c Q A ls hx hb hml hown hts hE RET hS hl
  have hl : lv_has ls 2 [(0, .int st), (1, .int t)] := hl
  have hown : s.vm.findClass RX6 = some m.cls := hown
  refine lv_iload_n hx hb dX6_holds_0 rfl (lv_at hl 0 rfl) ?_
  refine lv_iload_n hx hb dX6_holds_1 rfl (lv_at hl 1 rfl) ?_
  refine lv_ishr hx hb dX6_holds_2 ?_
  refine lv_iconst (v := (1 : Int32)) hx hb dX6_holds_3 (by decide) ?_
  refine lv_iand hx hb dX6_holds_4 ?_
  refine lv_if_eq (tgt := 12) hx hb dX6_holds_5 (by decide) (fun h5 => ?_) (fun h5 => ?_)
  · skip
    refine lv_iconst (v := (0 : Int32)) hx hb dX6_holds_12 (by decide) ?_
    exact RET _ () _ _ _ _ dX6_holds_13 rfl (by first | exact cx_bt h5 | exact cx_bf (fun z => z h5)) hS
  · skip
    refine lv_iconst (v := (1 : Int32)) hx hb dX6_holds_8 (by decide) ?_
    refine lv_goto (tgt := 13) hx hb dX6_holds_9 (by decide) ?_
    exact RET _ () _ _ _ _ dX6_holds_13 rfl (by first | exact cx_bt h5 | exact cx_bf (fun z => z h5)) hS
set_option maxHeartbeats 4000000 in
set_option maxRecDepth 100000 in
/-- holds(st, t), as a bit -/
theorem c_X6_holds_at_b (l : Launch) (D : va_G) (tys : List (ClassId × FieldType)) (ws : va_W) (st : Int32) (t : Nat) (ht : t < 20) : cx_Mi l D vwCl tys cx_NW yX6_holds wsX6_holds ({ frames := 0, cells := 0, slots := 0, locals := 0 } : Room) [.int st, .int (nI t)] ws (fun (r : Int32) (uw : Unit) => r = cx_b (bt st t = true)) (fun _ => ws) := by
  refine cx_Mi.of (cc := cX6_holds) (maxL := 2) cx_NW_ok (by decide) rfl (Nat.le_of_ble_eq_true rfl) ?_
  intro p e s m args below meth c Q A ls hx hb hml hown hts hE RET hS hl
  have hl : lv_has ls 2 [(0, .int st), (1, .int (nI t))] := hl
  have hown : s.vm.findClass RX6 = some m.cls := hown
  refine lv_iload_n hx hb dX6_holds_0 rfl (lv_at hl 0 rfl) ?_
  refine lv_iload_n hx hb dX6_holds_1 rfl (lv_at hl 1 rfl) ?_
  refine lv_ishr hx hb dX6_holds_2 ?_
  refine lv_iconst (v := (1 : Int32)) hx hb dX6_holds_3 (by decide) ?_
  refine lv_iand hx hb dX6_holds_4 ?_
  refine lv_if_eq (tgt := 12) hx hb dX6_holds_5 (by decide) (fun h5 => ?_) (fun h5 => ?_)
  · skip
    refine lv_iconst (v := (0 : Int32)) hx hb dX6_holds_12 (by decide) ?_
    exact RET _ () _ _ _ _ dX6_holds_13 rfl (by first | exact cx_bt ((cx_hb ht).mp h5) | exact cx_bf (fun z => (cx_hb ht).mpr z h5)) hS
  · skip
    refine lv_iconst (v := (1 : Int32)) hx hb dX6_holds_8 (by decide) ?_
    refine lv_goto (tgt := 13) hx hb dX6_holds_9 (by decide) ?_
    exact RET _ () _ _ _ _ dX6_holds_13 rfl (by first | exact cx_bt ((cx_hb ht).mp h5) | exact cx_bf (fun z => (cx_hb ht).mpr z h5)) hS
set_option maxHeartbeats 4000000 in
set_option maxRecDepth 100000 in
/-- Types.there(t) -/
theorem c_X5_there (l : Launch) (D : va_G) (q : Nat → Nat) (cI cJ : ClassId) (n : Nat) (T : Nat → Nat → Int32) (k : Nat) (M : Nat → Nat → Int32) (d : Nat) (C : Nat → Nat → Int32) (J : Nat → Nat → Int32) (g : Nat → Int64) (t : Int32) : cx_Mi l D vwCl [(cI, .int), (cJ, .long)] cx_NW yX5_there wsX5_there ({ frames := 0, cells := 0, slots := 0, locals := 0 } : Room) [.ref (q 1), .int t] (cxW q cI cJ n T k M d C J g) (fun (r : Int32) (uw : Unit) => r = cx_b (0 ≤ t ∧ t < nI n)) (fun _ => (cxW q cI cJ n T k M d C J g)) := by
  refine cx_Mi.of (cc := cX5_there) (maxL := 2) cx_NW_ok (by decide) rfl (Nat.le_of_ble_eq_true rfl) ?_
  intro p e s m args below meth c Q A ls hx hb hml hown hts hE RET hS hl
  have hl : lv_has ls 2 [(0, .ref (q 1)), (1, .int t)] := hl
  have hown : s.vm.findClass RX5 = some m.cls := hown
  have hinX5 : ∀ w ∈ u_ws RX5 TX5 12, w ∈ wsX5_there := cx_mem [2, 3, 4, 5, 6, 7, 8, 9, 10, 11, 12, 13] (by decide +kernel)
  refine lv_iload_n hx hb dX5_there_0 rfl (lv_at hl 1 rfl) ?_
  refine lv_if_lt (tgt := 16) hx hb dX5_there_1 (by decide) (fun h1 => ?_) (fun h1 => ?_)
  · skip
    refine lv_iconst (v := (0 : Int32)) hx hb dX5_there_16 (by decide) ?_
    exact RET _ () _ _ _ _ dX5_there_17 rfl (by first | exact cx_bt ⟨Int32.not_lt.mp h1, Int32.not_le.mp h9⟩ | exact cx_bf (fun z => absurd z.2 (Int32.not_lt.mpr h9)) | exact cx_bf (fun z => absurd z.1 (Int32.not_le.mpr h1))) hS
  · skip
    refine lv_iload_n hx hb dX5_there_4 rfl (lv_at hl 1 rfl) ?_
    refine lv_aload_n hx hb dX5_there_5 rfl (lv_at hl 0 rfl) ?_
    refine cx_get (own := RX5) (index := 45) (C := RX5) (T := TX5) (N := 12) (k := 11) (ci := 5) (v := .int (nI n)) hx hb hts hown hE hS hinX5 1 rfl rfl (by decide) (List.mem_of_getElem? (i := 1) rfl) rfl dX5_there_6 ?_
    refine lv_icmp_ge (tgt := 16) hx hb dX5_there_9 (by decide) (fun h9 => ?_) (fun h9 => ?_)
    · skip
      refine lv_iconst (v := (0 : Int32)) hx hb dX5_there_16 (by decide) ?_
      exact RET _ () _ _ _ _ dX5_there_17 rfl (by first | exact cx_bt ⟨Int32.not_lt.mp h1, Int32.not_le.mp h9⟩ | exact cx_bf (fun z => absurd z.2 (Int32.not_lt.mpr h9)) | exact cx_bf (fun z => absurd z.1 (Int32.not_le.mpr h1))) hS
    · skip
      refine lv_iconst (v := (1 : Int32)) hx hb dX5_there_12 (by decide) ?_
      refine lv_goto (tgt := 17) hx hb dX5_there_13 (by decide) ?_
      exact RET _ () _ _ _ _ dX5_there_17 rfl (by first | exact cx_bt ⟨Int32.not_lt.mp h1, Int32.not_le.mp h9⟩ | exact cx_bf (fun z => absurd z.2 (Int32.not_lt.mpr h9)) | exact cx_bf (fun z => absurd z.1 (Int32.not_le.mpr h1))) hS
set_option maxHeartbeats 4000000 in
set_option maxRecDepth 100000 in
/-- Types.everyone() -/
theorem c_X5_everyone (l : Launch) (D : va_G) (q : Nat → Nat) (cI cJ : ClassId) (n : Nat) (T : Nat → Nat → Int32) (k : Nat) (M : Nat → Nat → Int32) (d : Nat) (C : Nat → Nat → Int32) (J : Nat → Nat → Int32) (g : Nat → Int64) : cx_Mi l D vwCl [(cI, .int), (cJ, .long)] cx_NW yX5_everyone wsX5_everyone ({ frames := 1, cells := 0, slots := 0, locals := 20 } : Room) [.ref (q 1)] (cxW q cI cJ n T k M d C J g) (fun (r : Int32) (uw : Unit) => r = (((1 : Int32) <<< (nI n &&& 31)) - (1 : Int32))) (fun _ => (cxW q cI cJ n T k M d C J g)) := by
  refine cx_Mi.of (cc := cX5_everyone) (maxL := 1) cx_NW_ok (by decide) rfl (Nat.le_of_ble_eq_true rfl) ?_
  intro p e s m args below meth c Q A ls hx hb hml hown hts hE RET hS hl
  have hl : lv_has ls 1 [(0, .ref (q 1))] := hl
  have hown : s.vm.findClass RX5 = some m.cls := hown
  have hinX5 : ∀ w ∈ u_ws RX5 TX5 12, w ∈ wsX5_everyone := cx_mem [5, 6, 7, 8, 9, 10, 11, 12, 13, 14, 15, 16] (by decide +kernel)
  refine lv_aload_n hx hb dX5_everyone_0 rfl (lv_at hl 0 rfl) ?_
  refine cx_get (own := RX5) (index := 45) (C := RX5) (T := TX5) (N := 12) (k := 11) (ci := 5) (v := .int (nI n)) hx hb hts hown hE hS hinX5 1 rfl rfl (by decide) (List.mem_of_getElem? (i := 1) rfl) rfl dX5_everyone_1 ?_
  refine cx_cNi (As := [.int (nI n)]) (rest := []) ⟨hx, hb, hml, hown, hts⟩ hE hS (c_X6_bit l D [(cI, .int), (cJ, .long)] (cxW q cI cJ n T k M d C J g) (nI n) ) ⟨va_cnB (own := RX5) (index := 49) (host := "ClassRules") 1 hts gX5_everyone_X6_bit_n49 rfl rfl rfl (hE.2.1 _ (List.mem_of_getElem? (i := 33) rfl)) (hts (.initialized RX6) (List.mem_of_getElem? (i := 3) rfl)) (by decide +kernel) ⟨Nat.le_of_ble_eq_true rfl, Nat.le_of_ble_eq_true rfl⟩, hts (.static yX6_bit) (List.mem_of_getElem? (i := 2) rfl), trivial⟩ rfl hl.1 rfl (Nat.le_of_ble_eq_true rfl) ⟨Nat.zero_le _, Nat.zero_le _⟩ dX5_everyone_4 (fun r_4 u_4 H locs hp_4 hS => ?_)
  have hp_4 : r_4 = ((1 : Int32) <<< ((nI n) &&& 31)) := hp_4
  subst hp_4
  refine lv_iconst (v := (1 : Int32)) hx hb dX5_everyone_7 (by decide) ?_
  refine lv_isub hx hb dX5_everyone_8 ?_
  exact RET _ () _ _ _ _ dX5_everyone_9 rfl rfl hS
set_option maxHeartbeats 4000000 in
set_option maxRecDepth 100000 in
/-- Types.next(t) -/
theorem c_X5_next (l : Launch) (D : va_G) (q : Nat → Nat) (cI cJ : ClassId) (n : Nat) (T : Nat → Nat → Int32) (k : Nat) (M : Nat → Nat → Int32) (d : Nat) (C : Nat → Nat → Int32) (J : Nat → Nat → Int32) (g : Nat → Int64) (t : Nat) (ht : t < 20) : cx_Mi l D vwCl [(cI, .int), (cJ, .long)] cx_NW yX5_next wsX5_next ({ frames := 0, cells := 0, slots := 0, locals := 0 } : Room) [.ref (q 1), .int (nI t)] (cxW q cI cJ n T k M d C J g) (fun (r : Int32) (uw : Unit) => r = (((T 4) t) ||| ((T 5) t))) (fun _ => (cxW q cI cJ n T k M d C J g)) := by
  refine cx_Mi.of (cc := cX5_next) (maxL := 2) cx_NW_ok (by decide) rfl (Nat.le_of_ble_eq_true rfl) ?_
  intro p e s m args below meth c Q A ls hx hb hml hown hts hE RET hS hl
  have hl : lv_has ls 2 [(0, .ref (q 1)), (1, .int (nI t))] := hl
  have hown : s.vm.findClass RX5 = some m.cls := hown
  have hinX5 : ∀ w ∈ u_ws RX5 TX5 12, w ∈ wsX5_next := cx_mem [3, 4, 5, 6, 7, 8, 9, 10, 11, 12, 13, 14] (by decide +kernel)
  refine lv_aload_n hx hb dX5_next_0 rfl (lv_at hl 0 rfl) ?_
  refine cx_get (own := RX5) (index := 24) (C := RX5) (T := TX5) (N := 12) (k := 4) (ci := 5) (v := .ref (q 11)) hx hb hts hown hE hS hinX5 1 rfl rfl (by decide) (List.mem_of_getElem? (i := 1) rfl) rfl dX5_next_1 ?_
  refine lv_iload_n hx hb dX5_next_4 rfl (lv_at hl 1 rfl) ?_
  refine cx_iald (f := (T 4)) (n := 20) (cA := cI) hx hb hE hS 11 0 rfl rfl (by omega) (by decide) dX5_next_5 ?_
  refine lv_aload_n hx hb dX5_next_6 rfl (lv_at hl 0 rfl) ?_
  refine cx_get (own := RX5) (index := 27) (C := RX5) (T := TX5) (N := 12) (k := 5) (ci := 5) (v := .ref (q 12)) hx hb hts hown hE hS hinX5 1 rfl rfl (by decide) (List.mem_of_getElem? (i := 2) rfl) rfl dX5_next_7 ?_
  refine lv_iload_n hx hb dX5_next_10 rfl (lv_at hl 1 rfl) ?_
  refine cx_iald (f := (T 5)) (n := 20) (cA := cI) hx hb hE hS 12 0 rfl rfl (by omega) (by decide) dX5_next_11 ?_
  refine lv_ior hx hb dX5_next_12 ?_
  exact RET _ () _ _ _ _ dX5_next_13 rfl rfl hS
set_option maxHeartbeats 4000000 in
set_option maxRecDepth 100000 in
/-- Types.settleAbove(): the row above is the closure of what is next -/
theorem c_X5_settleAbove (l : Launch) (D : va_G) (q : Nat → Nat) (cI cJ : ClassId) (n : Nat) (T : Nat → Nat → Int32) (k : Nat) (M : Nat → Nat → Int32) (d : Nat) (C : Nat → Nat → Int32) (J : Nat → Nat → Int32) (g : Nat → Int64) (hn : n ≤ 20) : cx_Mv l D vwCl [(cI, .int), (cJ, .long)] cx_NW yX5_settleAbove wsX5_settleAbove ({ frames := 2, cells := 0, slots := 0, locals := 40 } : Room) [.ref (q 1)] (cxW q cI cJ n T k M d C J g) (fun (uw : (Nat → Int32)) => cx_CL T n uw) (fun uw => (cxW q cI cJ n (cx_u T 10 uw) k M d C J g)) := by
  refine cx_Mv.of (cc := cX5_settleAbove) (maxL := 3) cx_NW_ok (by decide) rfl (Nat.le_of_ble_eq_true rfl) ?_
  intro p e s m args below meth c Q A ls hx hb hml hown hts hE RET hS hl
  have hl : lv_has ls 3 [(0, .ref (q 1))] := hl
  have hown : s.vm.findClass RX5 = some m.cls := hown
  have hinX5 : ∀ w ∈ u_ws RX5 TX5 12, w ∈ wsX5_settleAbove := cx_mem [19, 20, 21, 22, 23, 24, 25, 26, 27, 28, 29, 30] (by decide +kernel)
  have J34 : ∀ (N : Nat) (md : Nat) (f : Nat → Int32) (H : Heap) (locs : List Loc) (ls : Array Slot), (n - md < N) → (md ≤ n) → (∀ a, a < n → ∀ u, u < 20 → (bt (f a) u = true ↔ cx_w3 n (cx_En T n) md a u)) → cx_S D vwCl A s (cxW q cI cJ n (cx_u T 10 f) k M d C J g) H locs → lv_has ls 3 [(0, .ref (q 1)), (1, .int (nI md))] → W p l e ({ frames := 2, cells := 0, slots := 0, locals := 40 } : Room) s m args below meth c H locs 0 0 Q (F0 m 34 ls []) := by
    intro N34
    induction N34 with
    | zero => intro md f H locs ls hN; exact absurd hN (by omega)
    | succ N34 ih34 =>
      intro md f H locs ls hN34 hm hq hS hl
      have J44 : ∀ (N : Nat) (t : Nat) (f2 : Nat → Int32) (H : Heap) (locs : List Loc) (ls : Array Slot), (n - t < N) → (md < n) → (t ≤ n) → (∀ a, a < n → ∀ u, u < 20 → (bt (f2 a) u = true ↔ cx_w2 (cx_w3 n (cx_En T n) md) md t a u)) → cx_S D vwCl A s (cxW q cI cJ n (cx_u T 10 f2) k M d C J g) H locs → lv_has ls 3 [(0, .ref (q 1)), (1, .int (nI md)), (2, .int (nI t))] → W p l e ({ frames := 2, cells := 0, slots := 0, locals := 40 } : Room) s m args below meth c H locs 0 0 Q (F0 m 44 ls []) := by
        intro N44
        induction N44 with
        | zero => intro t f2 H locs ls hN; exact absurd hN (by omega)
        | succ N44 ih44 =>
          intro t f2 H locs ls hN44 hmd ht hq2 hS hl
          refine lv_iload_n hx hb dX5_settleAbove_44 rfl (lv_at hl 2 rfl) ?_
          refine lv_aload_n hx hb dX5_settleAbove_45 rfl (lv_at hl 0 rfl) ?_
          refine cx_get (own := RX5) (index := 45) (C := RX5) (T := TX5) (N := 12) (k := 11) (ci := 5) (v := .int (nI n)) hx hb hts hown hE hS hinX5 1 rfl rfl (by decide) (List.mem_of_getElem? (i := 1) rfl) rfl dX5_settleAbove_46 ?_
          refine lv_icmp_ge (tgt := 86) hx hb dX5_settleAbove_49 (by decide) (fun h49 => ?_) (fun h49 => ?_)
          · skip
            have g49 : n ≤ t := (nI_leI (a := n) (b := t) (by omega) (by omega)).mp h49
            refine lv_iinc (v := nI (md + 1)) (lv' := [(1, .int (nI (md + 1))), (0, .ref (q 1)), (2, .int (nI t))]) hx hb dX5_settleAbove_86 hl (k := 1) rfl (cx_inc _) (by decide) rfl (fun ls hl => ?_)
            refine lv_goto (tgt := 34) hx hb dX5_settleAbove_89 (by decide) ?_
            have e34 : t = n := by omega
            rw [e34] at hq2
            exact ih34 (md + 1) f2 _ _ _ (by omega) (by first | assumption | omega) (by first | exact hq2 | exact fun a ha u hu => hq1 a (by omega) u hu) hS (lv_sub hl [1, 0] rfl)
          · skip
            have g49 : ¬ (n ≤ t) := fun z => h49 ((nI_leI (a := n) (b := t) (by omega) (by omega)).mpr z)
            refine lv_aload_n hx hb dX5_settleAbove_52 rfl (lv_at hl 0 rfl) ?_
            refine cx_get (own := RX5) (index := 42) (C := RX5) (T := TX5) (N := 12) (k := 10) (ci := 5) (v := .ref (q 17)) hx hb hts hown hE hS hinX5 1 rfl rfl (by decide) (List.mem_of_getElem? (i := 2) rfl) rfl dX5_settleAbove_53 ?_
            refine lv_iload_n hx hb dX5_settleAbove_56 rfl (lv_at hl 2 rfl) ?_
            refine cx_iald (f := f2) (n := 20) (cA := cI) hx hb hE hS 17 0 rfl rfl (by omega) (by decide) dX5_settleAbove_57 ?_
            refine lv_iload_n hx hb dX5_settleAbove_58 rfl (lv_at hl 1 rfl) ?_
            refine cx_cNi (As := [.int (f2 t), .int (nI md)]) (rest := []) ⟨hx, hb, hml, hown, hts⟩ hE hS (c_X6_holds l D [(cI, .int), (cJ, .long)] (cxW q cI cJ n (cx_u T 10 f2) k M d C J g) (f2 t) (nI md) ) ⟨va_cnB (own := RX5) (index := 63) (host := "ClassRules") 2 hts gX5_settleAbove_X6_holds_n63 rfl rfl rfl (hE.2.1 _ (List.mem_of_getElem? (i := 34) rfl)) (hts (.initialized RX6) (List.mem_of_getElem? (i := 15) rfl)) (by decide +kernel) ⟨Nat.le_of_ble_eq_true rfl, Nat.le_of_ble_eq_true rfl⟩, hts (.static yX6_holds) (List.mem_of_getElem? (i := 17) rfl), trivial⟩ rfl hl.1 rfl (Nat.le_of_ble_eq_true rfl) ⟨Nat.zero_le _, Nat.zero_le _⟩ dX5_settleAbove_59 (fun r_59 u_59 H locs hp_59 hS => ?_)
            have hp_59 : r_59 = cx_b (¬ (((f2 t) >>> ((nI md) &&& 31)) &&& (1 : Int32)) = 0) := hp_59
            subst hp_59
            refine lv_if_eq (tgt := 80) hx hb dX5_settleAbove_62 (by decide) (fun h62 => ?_) (fun h62 => ?_)
            · skip
              have g62 := cx_b0 h62
              refine lv_iinc (v := nI (t + 1)) (lv' := [(2, .int (nI (t + 1))), (0, .ref (q 1)), (1, .int (nI md))]) hx hb dX5_settleAbove_80 hl (k := 2) rfl (cx_inc _) (by decide) rfl (fun ls hl => ?_)
              refine lv_goto (tgt := 44) hx hb dX5_settleAbove_83 (by decide) ?_
              exact ih44 (t + 1) f2 _ _ _ (by omega) (by first | assumption | omega) (by first | assumption | omega) (by first | exact cx_q2t hn hmd (by omega) hq2 g62 | exact cx_q2f hn hmd (by omega) hq2 g62 | exact hq) hS (lv_sub hl [1, 2, 0] rfl)
            · skip
              have g62 := cx_b1 h62
              refine lv_aload_n hx hb dX5_settleAbove_65 rfl (lv_at hl 0 rfl) ?_
              refine cx_get (own := RX5) (index := 42) (C := RX5) (T := TX5) (N := 12) (k := 10) (ci := 5) (v := .ref (q 17)) hx hb hts hown hE hS hinX5 1 rfl rfl (by decide) (List.mem_of_getElem? (i := 2) rfl) rfl dX5_settleAbove_66 ?_
              refine lv_iload_n hx hb dX5_settleAbove_69 rfl (lv_at hl 2 rfl) ?_
              refine lv_dup2_11 hx hb dX5_settleAbove_70 rfl rfl ?_
              refine cx_iald (f := f2) (n := 20) (cA := cI) hx hb hE hS 17 0 rfl rfl (by omega) (by decide) dX5_settleAbove_71 ?_
              refine lv_aload_n hx hb dX5_settleAbove_72 rfl (lv_at hl 0 rfl) ?_
              refine cx_get (own := RX5) (index := 42) (C := RX5) (T := TX5) (N := 12) (k := 10) (ci := 5) (v := .ref (q 17)) hx hb hts hown hE hS hinX5 1 rfl rfl (by decide) (List.mem_of_getElem? (i := 2) rfl) rfl dX5_settleAbove_73 ?_
              refine lv_iload_n hx hb dX5_settleAbove_76 rfl (lv_at hl 1 rfl) ?_
              refine cx_iald (f := f2) (n := 20) (cA := cI) hx hb hE hS 17 0 rfl rfl (by omega) (by decide) dX5_settleAbove_77 ?_
              refine lv_ior hx hb dX5_settleAbove_78 ?_
              refine cx_iast (k := t) (f := f2) (n := 20) (cA := cI) (ws' := (cxW q cI cJ n (cx_u T 10 (upd f2 t ((f2 t) ||| (f2 md)))) k M d C J g)) hx hb hE hS 17 0 rfl rfl (by omega) (by decide) rfl dX5_settleAbove_79 (fun H locs hS => ?_)
              refine lv_iinc (v := nI (t + 1)) (lv' := [(2, .int (nI (t + 1))), (0, .ref (q 1)), (1, .int (nI md))]) hx hb dX5_settleAbove_80 hl (k := 2) rfl (cx_inc _) (by decide) rfl (fun ls hl => ?_)
              refine lv_goto (tgt := 44) hx hb dX5_settleAbove_83 (by decide) ?_
              exact ih44 (t + 1) (upd f2 t ((f2 t) ||| (f2 md))) _ _ _ (by omega) (by first | assumption | omega) (by first | assumption | omega) (by first | exact cx_q2t hn hmd (by omega) hq2 g62 | exact cx_q2f hn hmd (by omega) hq2 g62 | exact hq) hS (lv_sub hl [1, 2, 0] rfl)
      refine lv_iload_n hx hb dX5_settleAbove_34 rfl (lv_at hl 1 rfl) ?_
      refine lv_aload_n hx hb dX5_settleAbove_35 rfl (lv_at hl 0 rfl) ?_
      refine cx_get (own := RX5) (index := 45) (C := RX5) (T := TX5) (N := 12) (k := 11) (ci := 5) (v := .int (nI n)) hx hb hts hown hE hS hinX5 1 rfl rfl (by decide) (List.mem_of_getElem? (i := 1) rfl) rfl dX5_settleAbove_36 ?_
      refine lv_icmp_ge (tgt := 92) hx hb dX5_settleAbove_39 (by decide) (fun h39 => ?_) (fun h39 => ?_)
      · skip
        have g39 : n ≤ md := (nI_leI (a := n) (b := md) (by omega) (by omega)).mp h39
        exact RET (f) _ _ _ _ dX5_settleAbove_92 (fun a ha u hu => by have e : md = n := (by omega); have z := hq a ha u hu; rw [e] at z; exact z) hS
      · skip
        have g39 : ¬ (n ≤ md) := fun z => h39 ((nI_leI (a := n) (b := md) (by omega) (by omega)).mpr z)
        refine lv_iconst (v := (0 : Int32)) hx hb dX5_settleAbove_42 (by decide) ?_
        refine cx_topr (z := nI 0) (by decide) ?_
        refine lv_istore_n (lv' := [(2, .int (nI 0)), (0, .ref (q 1)), (1, .int (nI md))]) hx hb dX5_settleAbove_43 rfl hl (by decide) rfl (fun ls hl => ?_)
        exact J44 (n - 0 + 1) 0 f _ _ _ (Nat.lt_succ_self _) (by first | assumption | omega) (by first | assumption | omega) (by first | exact cx_q2t hn hmd (by omega) hq2 g62 | exact cx_q2f hn hmd (by omega) hq2 g62 | exact hq) hS (lv_sub hl [1, 2, 0] rfl)
  have J2 : ∀ (N : Nat) (t : Nat) (f : Nat → Int32) (H : Heap) (locs : List Loc) (ls : Array Slot), (n - t < N) → (t ≤ n) → (∀ a, a < t → ∀ u, u < 20 → (bt (f a) u = true ↔ cx_En T n a u)) → cx_S D vwCl A s (cxW q cI cJ n (cx_u T 10 f) k M d C J g) H locs → lv_has ls 3 [(0, .ref (q 1)), (1, .int (nI t))] → W p l e ({ frames := 2, cells := 0, slots := 0, locals := 40 } : Room) s m args below meth c H locs 0 0 Q (F0 m 2 ls []) := by
    intro N2
    induction N2 with
    | zero => intro t f H locs ls hN; exact absurd hN (by omega)
    | succ N2 ih2 =>
      intro t f H locs ls hN2 ht hq1 hS hl
      refine lv_iload_n hx hb dX5_settleAbove_2 rfl (lv_at hl 1 rfl) ?_
      refine lv_aload_n hx hb dX5_settleAbove_3 rfl (lv_at hl 0 rfl) ?_
      refine cx_get (own := RX5) (index := 45) (C := RX5) (T := TX5) (N := 12) (k := 11) (ci := 5) (v := .int (nI n)) hx hb hts hown hE hS hinX5 1 rfl rfl (by decide) (List.mem_of_getElem? (i := 1) rfl) rfl dX5_settleAbove_4 ?_
      refine lv_icmp_ge (tgt := 32) hx hb dX5_settleAbove_7 (by decide) (fun h7 => ?_) (fun h7 => ?_)
      · skip
        have g7 : n ≤ t := (nI_leI (a := n) (b := t) (by omega) (by omega)).mp h7
        refine lv_iconst (v := (0 : Int32)) hx hb dX5_settleAbove_32 (by decide) ?_
        refine cx_topr (z := nI 0) (by decide) ?_
        refine lv_istore_n (lv' := [(1, .int (nI 0)), (0, .ref (q 1))]) hx hb dX5_settleAbove_33 rfl hl (by decide) rfl (fun ls hl => ?_)
        exact J34 (n - 0 + 1) 0 f _ _ _ (Nat.lt_succ_self _) (by first | assumption | omega) (by first | exact hq2 | exact fun a ha u hu => hq1 a (by omega) u hu) hS (lv_sub hl [1, 0] rfl)
      · skip
        have g7 : ¬ (n ≤ t) := fun z => h7 ((nI_leI (a := n) (b := t) (by omega) (by omega)).mpr z)
        refine lv_aload_n hx hb dX5_settleAbove_10 rfl (lv_at hl 0 rfl) ?_
        refine cx_get (own := RX5) (index := 42) (C := RX5) (T := TX5) (N := 12) (k := 10) (ci := 5) (v := .ref (q 17)) hx hb hts hown hE hS hinX5 1 rfl rfl (by decide) (List.mem_of_getElem? (i := 2) rfl) rfl dX5_settleAbove_11 ?_
        refine lv_iload_n hx hb dX5_settleAbove_14 rfl (lv_at hl 1 rfl) ?_
        refine lv_aload_n hx hb dX5_settleAbove_15 rfl (lv_at hl 0 rfl) ?_
        refine lv_iload_n hx hb dX5_settleAbove_16 rfl (lv_at hl 1 rfl) ?_
        refine cx_cVi (As := [.int (nI t)]) (rest := [.int (nI t), .ref (q 17)]) ⟨hx, hb, hml, hown, hts⟩ hE hS (c_X5_next l D q cI cJ n (cx_u T 10 f) k M d C J g t (by first | assumption | omega | rfl)) (cwV 1 hts gX5_settleAbove_X5_next rfl rfl rfl (by decide +kernel) ⟨Nat.le_of_ble_eq_true rfl, Nat.le_of_ble_eq_true rfl⟩) 1 5 rfl rfl rfl hl.1 rfl (Nat.le_of_ble_eq_true rfl) ⟨Nat.zero_le _, Nat.zero_le _⟩ dX5_settleAbove_17 (fun r_17 u_17 H locs hp_17 hS => ?_)
        have hp_17 : r_17 = ((((T 4)) t) ||| (((T 5)) t)) := hp_17
        subst hp_17
        refine lv_aload_n hx hb dX5_settleAbove_20 rfl (lv_at hl 0 rfl) ?_
        refine cx_cVi (As := []) (rest := [.int (((((T 4)) t) ||| (((T 5)) t))), .int (nI t), .ref (q 17)]) ⟨hx, hb, hml, hown, hts⟩ hE hS (c_X5_everyone l D q cI cJ n (cx_u T 10 f) k M d C J g  ) (cwV 0 hts gX5_settleAbove_X5_everyone rfl rfl rfl (by decide +kernel) ⟨Nat.le_of_ble_eq_true rfl, Nat.le_of_ble_eq_true rfl⟩) 1 5 rfl rfl rfl hl.1 rfl (Nat.le_of_ble_eq_true rfl) ⟨Nat.zero_le _, Nat.zero_le _⟩ dX5_settleAbove_21 (fun r_21 u_21 H locs hp_21 hS => ?_)
        have hp_21 : r_21 = (((1 : Int32) <<< (nI n &&& 31)) - (1 : Int32)) := hp_21
        subst hp_21
        refine lv_iand hx hb dX5_settleAbove_24 ?_
        refine cx_iast (k := t) (f := f) (n := 20) (cA := cI) (ws' := (cxW q cI cJ n (cx_u T 10 (upd f t ((((((T 4)) t) ||| (((T 5)) t))) &&& ((((1 : Int32) <<< (nI n &&& 31)) - (1 : Int32)))))) k M d C J g)) hx hb hE hS 17 0 rfl rfl (by omega) (by decide) rfl dX5_settleAbove_25 (fun H locs hS => ?_)
        refine lv_iinc (v := nI (t + 1)) (lv' := [(1, .int (nI (t + 1))), (0, .ref (q 1))]) hx hb dX5_settleAbove_26 hl (k := 1) rfl (cx_inc _) (by decide) rfl (fun ls hl => ?_)
        refine lv_goto (tgt := 2) hx hb dX5_settleAbove_29 (by decide) ?_
        exact ih2 (t + 1) (upd f t ((((((T 4)) t) ||| (((T 5)) t))) &&& ((((1 : Int32) <<< (nI n &&& 31)) - (1 : Int32))))) _ _ _ (by omega) (by first | assumption | omega) (by first | exact fun a ha => absurd ha (by omega) | exact cx_q1 hn hq1) hS (lv_sub hl [1, 0] rfl)
  refine lv_iconst (v := (0 : Int32)) hx hb dX5_settleAbove_0 (by decide) ?_
  refine cx_topr (z := nI 0) (by decide) ?_
  refine lv_istore_n (lv' := [(1, .int (nI 0)), (0, .ref (q 1))]) hx hb dX5_settleAbove_1 rfl hl (by decide) rfl (fun ls hl => ?_)
  exact J2 (n - 0 + 1) 0 (T 10) _ _ _ (Nat.lt_succ_self _) (by first | assumption | omega) (by first | exact fun a ha => absurd ha (by omega) | exact cx_q1 hn hq1) hS (lv_sub hl [1, 0] rfl)
set_option maxHeartbeats 4000000 in
set_option maxRecDepth 100000 in
/-- Types.addType(kd, mk, pk, pr) -/
theorem c_X5_addType (l : Launch) (D : va_G) (q : Nat → Nat) (cI cJ : ClassId) (n : Nat) (T : Nat → Nat → Int32) (k : Nat) (M : Nat → Nat → Int32) (d : Nat) (C : Nat → Nat → Int32) (J : Nat → Nat → Int32) (g : Nat → Int64) (kd : Int32) (mk : Int32) (pk : Int32) (pr : Int32) (hn : n < 20) : cx_Mi l D vwCl [(cI, .int), (cJ, .long)] cx_NW yX5_addType wsX5_addType ({ frames := 3, cells := 0, slots := 0, locals := 62 } : Room) [.ref (q 1), .int kd, .int mk, .int pk, .int pr] (cxW q cI cJ n T k M d C J g) (fun (r : Int32) (uw : (Nat → Int32) × (Int32)) => r = nI n ∧ (cx_CL (cx_u (cx_u (cx_u (cx_u (cx_u T 0 (upd (T 0) n kd)) 1 (upd (T 1) n mk)) 2 (upd (T 2) n pk)) 3 (upd (T 3) n pr)) 4 (upd (T 4) n uw.2)) (n + 1) uw.1 ∧ uw.2 = (if pr = -1 then (0 : Int32) else ((1 : Int32) <<< (pr &&& 31))))) (fun uw => (cxW q cI cJ (n + 1) (cx_u (cx_u (cx_u (cx_u (cx_u (cx_u T 0 (upd (T 0) n kd)) 1 (upd (T 1) n mk)) 2 (upd (T 2) n pk)) 3 (upd (T 3) n pr)) 4 (upd (T 4) n uw.2)) 10 uw.1) k M d C J g)) := by
  refine cx_Mi.of (cc := cX5_addType) (maxL := 6) cx_NW_ok (by decide) rfl (Nat.le_of_ble_eq_true rfl) ?_
  intro p e s m args below meth c Q A ls hx hb hml hown hts hE RET hS hl
  have hl : lv_has ls 6 [(0, .ref (q 1)), (1, .int kd), (2, .int mk), (3, .int pk), (4, .int pr)] := hl
  have hown : s.vm.findClass RX5 = some m.cls := hown
  have hinX5 : ∀ w ∈ u_ws RX5 TX5 12, w ∈ wsX5_addType := cx_mem [27, 28, 29, 30, 31, 32, 33, 34, 35, 36, 37, 38] (by decide +kernel)
  have J60 : ∀ (b1 : Int32) (H : Heap) (locs : List Loc) (ls : Array Slot), (b1 = (if pr = -1 then (0 : Int32) else ((1 : Int32) <<< (pr &&& 31)))) → cx_S D vwCl A s (cxW q cI cJ n (cx_u (cx_u (cx_u (cx_u T 0 (upd (T 0) n kd)) 1 (upd (T 1) n mk)) 2 (upd (T 2) n pk)) 3 (upd (T 3) n pr)) k M d C J g) H locs → lv_has ls 6 [(0, .ref (q 1)), (1, .int kd), (2, .int mk), (3, .int pk), (4, .int pr), (5, .int (nI n))] → W p l e ({ frames := 3, cells := 0, slots := 0, locals := 62 } : Room) s m args below meth c H locs 0 0 Q (F0 m 60 ls [.int b1, .int (nI n), .ref (q 11)]) := by
    intro b1 H locs ls hb1 hS hl
    refine cx_iast (k := n) (f := (T 4)) (n := 20) (cA := cI) (ws' := (cxW q cI cJ n (cx_u (cx_u (cx_u (cx_u (cx_u T 0 (upd (T 0) n kd)) 1 (upd (T 1) n mk)) 2 (upd (T 2) n pk)) 3 (upd (T 3) n pr)) 4 (upd (T 4) n b1)) k M d C J g)) hx hb hE hS 11 0 rfl rfl (by omega) (by decide) rfl dX5_addType_60 (fun H locs hS => ?_)
    refine lv_aload_n hx hb dX5_addType_61 rfl (lv_at hl 0 rfl) ?_
    refine lv_dup hx hb dX5_addType_62 rfl ?_
    refine cx_get (own := RX5) (index := 45) (C := RX5) (T := TX5) (N := 12) (k := 11) (ci := 5) (v := .int (nI n)) hx hb hts hown hE hS hinX5 1 rfl rfl (by decide) (List.mem_of_getElem? (i := 1) rfl) rfl dX5_addType_63 ?_
    refine lv_iconst (v := (1 : Int32)) hx hb dX5_addType_66 (by decide) ?_
    refine lv_iadd hx hb dX5_addType_67 ?_
    refine cx_topr (z := nI (n + 1)) (nI_1 _) ?_
    refine cx_put (own := RX5) (index := 45) (C := RX5) (T := TX5) (N := 12) (k := 11) (ci := 5) (v := .int (nI (n + 1))) (ty := .int) (ws' := (cxW q cI cJ (n + 1) (cx_u (cx_u (cx_u (cx_u (cx_u T 0 (upd (T 0) n kd)) 1 (upd (T 1) n mk)) 2 (upd (T 2) n pk)) 3 (upd (T 3) n pr)) 4 (upd (T 4) n b1)) k M d C J g)) hx hb hts hown hE hS hinX5 tyX5 tyX5_ok nmX5 1 rfl rfl (by decide) (List.mem_of_getElem? (i := 1) rfl) rfl (by decide +kernel) rfl rfl (Nat.le_of_ble_eq_true rfl) rfl dX5_addType_68 (fun H locs hS => ?_)
    refine lv_aload_n hx hb dX5_addType_71 rfl (lv_at hl 0 rfl) ?_
    refine cx_cVv (As := []) (rest := []) ⟨hx, hb, hml, hown, hts⟩ hE hS (c_X5_settleAbove l D q cI cJ (n + 1) (cx_u (cx_u (cx_u (cx_u (cx_u T 0 (upd (T 0) n kd)) 1 (upd (T 1) n mk)) 2 (upd (T 2) n pk)) 3 (upd (T 3) n pr)) 4 (upd (T 4) n b1)) k M d C J g  (by first | assumption | omega | rfl)) (cwV 0 hts gX5_addType_X5_settleAbove rfl rfl rfl (by decide +kernel) ⟨Nat.le_of_ble_eq_true rfl, Nat.le_of_ble_eq_true rfl⟩) 1 5 rfl rfl rfl hl.1 rfl (Nat.le_of_ble_eq_true rfl) ⟨Nat.zero_le _, Nat.zero_le _⟩ dX5_addType_72 (fun u_72 H locs hp_72 hS => ?_)
    obtain ⟨f_72, rfl⟩ : ∃ z, z = u_72 := ⟨_, rfl⟩
    have hS : cx_S D vwCl A s (cxW q cI cJ (n + 1) (cx_u (cx_u (cx_u (cx_u (cx_u (cx_u T 0 (upd (T 0) n kd)) 1 (upd (T 1) n mk)) 2 (upd (T 2) n pk)) 3 (upd (T 3) n pr)) 4 (upd (T 4) n b1)) 10 f_72) k M d C J g) H locs := hS
    have hp_72 : cx_CL (cx_u (cx_u (cx_u (cx_u (cx_u T 0 (upd (T 0) n kd)) 1 (upd (T 1) n mk)) 2 (upd (T 2) n pk)) 3 (upd (T 3) n pr)) 4 (upd (T 4) n b1)) (n + 1) f_72 := hp_72
    refine lv_iload hx hb dX5_addType_75 (lv_at hl 5 rfl) ?_
    exact RET _ (f_72, b1) _ _ _ _ dX5_addType_77 rfl (⟨rfl, hp_72, hb1⟩) hS
  refine lv_aload_n hx hb dX5_addType_0 rfl (lv_at hl 0 rfl) ?_
  refine cx_get (own := RX5) (index := 45) (C := RX5) (T := TX5) (N := 12) (k := 11) (ci := 5) (v := .int (nI n)) hx hb hts hown hE hS hinX5 1 rfl rfl (by decide) (List.mem_of_getElem? (i := 1) rfl) rfl dX5_addType_1 ?_
  refine lv_istore (lv' := [(5, .int (nI n)), (0, .ref (q 1)), (1, .int kd), (2, .int mk), (3, .int pk), (4, .int pr)]) hx hb dX5_addType_4 hl (by decide) rfl (fun ls hl => ?_)
  refine lv_aload_n hx hb dX5_addType_6 rfl (lv_at hl 1 rfl) ?_
  refine cx_get (own := RX5) (index := 9) (C := RX5) (T := TX5) (N := 12) (k := 0) (ci := 5) (v := .ref (q 7)) hx hb hts hown hE hS hinX5 1 rfl rfl (by decide) (List.mem_of_getElem? (i := 2) rfl) rfl dX5_addType_7 ?_
  refine lv_iload hx hb dX5_addType_10 (lv_at hl 0 rfl) ?_
  refine lv_iload_n hx hb dX5_addType_12 rfl (lv_at hl 2 rfl) ?_
  refine cx_iast (k := n) (f := (T 0)) (n := 20) (cA := cI) (ws' := (cxW q cI cJ n (cx_u T 0 (upd (T 0) n kd)) k M d C J g)) hx hb hE hS 7 0 rfl rfl (by omega) (by decide) rfl dX5_addType_13 (fun H locs hS => ?_)
  refine lv_aload_n hx hb dX5_addType_14 rfl (lv_at hl 1 rfl) ?_
  refine cx_get (own := RX5) (index := 15) (C := RX5) (T := TX5) (N := 12) (k := 1) (ci := 5) (v := .ref (q 8)) hx hb hts hown hE hS hinX5 1 rfl rfl (by decide) (List.mem_of_getElem? (i := 3) rfl) rfl dX5_addType_15 ?_
  refine lv_iload hx hb dX5_addType_18 (lv_at hl 0 rfl) ?_
  refine lv_iload_n hx hb dX5_addType_20 rfl (lv_at hl 3 rfl) ?_
  refine cx_iast (k := n) (f := (T 1)) (n := 20) (cA := cI) (ws' := (cxW q cI cJ n (cx_u (cx_u T 0 (upd (T 0) n kd)) 1 (upd (T 1) n mk)) k M d C J g)) hx hb hE hS 8 0 rfl rfl (by omega) (by decide) rfl dX5_addType_21 (fun H locs hS => ?_)
  refine lv_aload_n hx hb dX5_addType_22 rfl (lv_at hl 1 rfl) ?_
  refine cx_get (own := RX5) (index := 18) (C := RX5) (T := TX5) (N := 12) (k := 2) (ci := 5) (v := .ref (q 9)) hx hb hts hown hE hS hinX5 1 rfl rfl (by decide) (List.mem_of_getElem? (i := 4) rfl) rfl dX5_addType_23 ?_
  refine lv_iload hx hb dX5_addType_26 (lv_at hl 0 rfl) ?_
  refine lv_iload_n hx hb dX5_addType_28 rfl (lv_at hl 4 rfl) ?_
  refine cx_iast (k := n) (f := (T 2)) (n := 20) (cA := cI) (ws' := (cxW q cI cJ n (cx_u (cx_u (cx_u T 0 (upd (T 0) n kd)) 1 (upd (T 1) n mk)) 2 (upd (T 2) n pk)) k M d C J g)) hx hb hE hS 9 0 rfl rfl (by omega) (by decide) rfl dX5_addType_29 (fun H locs hS => ?_)
  refine lv_aload_n hx hb dX5_addType_30 rfl (lv_at hl 1 rfl) ?_
  refine cx_get (own := RX5) (index := 21) (C := RX5) (T := TX5) (N := 12) (k := 3) (ci := 5) (v := .ref (q 10)) hx hb hts hown hE hS hinX5 1 rfl rfl (by decide) (List.mem_of_getElem? (i := 5) rfl) rfl dX5_addType_31 ?_
  refine lv_iload hx hb dX5_addType_34 (lv_at hl 0 rfl) ?_
  refine lv_iload hx hb dX5_addType_36 (lv_at hl 5 rfl) ?_
  refine cx_iast (k := n) (f := (T 3)) (n := 20) (cA := cI) (ws' := (cxW q cI cJ n (cx_u (cx_u (cx_u (cx_u T 0 (upd (T 0) n kd)) 1 (upd (T 1) n mk)) 2 (upd (T 2) n pk)) 3 (upd (T 3) n pr)) k M d C J g)) hx hb hE hS 10 0 rfl rfl (by omega) (by decide) rfl dX5_addType_38 (fun H locs hS => ?_)
  refine lv_aload_n hx hb dX5_addType_39 rfl (lv_at hl 1 rfl) ?_
  refine cx_get (own := RX5) (index := 24) (C := RX5) (T := TX5) (N := 12) (k := 4) (ci := 5) (v := .ref (q 11)) hx hb hts hown hE hS hinX5 1 rfl rfl (by decide) (List.mem_of_getElem? (i := 6) rfl) rfl dX5_addType_40 ?_
  refine lv_iload hx hb dX5_addType_43 (lv_at hl 0 rfl) ?_
  refine lv_iload hx hb dX5_addType_45 (lv_at hl 5 rfl) ?_
  refine lv_iconst (v := (-1 : Int32)) hx hb dX5_addType_47 (by decide) ?_
  refine lv_icmp_ne (tgt := 55) hx hb dX5_addType_48 (by decide) (fun h48 => ?_) (fun h48 => ?_)
  · skip
    refine lv_iload hx hb dX5_addType_55 (lv_at hl 5 rfl) ?_
    refine cx_cNi (As := [.int pr]) (rest := [.int (nI n), .ref (q 11)]) ⟨hx, hb, hml, hown, hts⟩ hE hS (c_X6_bit l D [(cI, .int), (cJ, .long)] (cxW q cI cJ n (cx_u (cx_u (cx_u (cx_u T 0 (upd (T 0) n kd)) 1 (upd (T 1) n mk)) 2 (upd (T 2) n pk)) 3 (upd (T 3) n pr)) k M d C J g) pr ) ⟨va_cnB (own := RX5) (index := 49) (host := "ClassRules") 1 hts gX5_addType_X6_bit_n49 rfl rfl rfl (hE.2.1 _ (List.mem_of_getElem? (i := 33) rfl)) (hts (.initialized RX6) (List.mem_of_getElem? (i := 8) rfl)) (by decide +kernel) ⟨Nat.le_of_ble_eq_true rfl, Nat.le_of_ble_eq_true rfl⟩, hts (.static yX6_bit) (List.mem_of_getElem? (i := 7) rfl), trivial⟩ rfl hl.1 rfl (Nat.le_of_ble_eq_true rfl) ⟨Nat.zero_le _, Nat.zero_le _⟩ dX5_addType_57 (fun r_57 u_57 H locs hp_57 hS => ?_)
    have hp_57 : r_57 = ((1 : Int32) <<< (pr &&& 31)) := hp_57
    subst hp_57
    exact J60 (((1 : Int32) <<< (pr &&& 31))) _ _ _ (by first | rw [if_neg h48] | rw [if_pos h48]) hS (lv_sub hl [1, 2, 3, 4, 5, 0] rfl)
  · skip
    refine lv_iconst (v := (0 : Int32)) hx hb dX5_addType_51 (by decide) ?_
    refine lv_goto (tgt := 60) hx hb dX5_addType_52 (by decide) ?_
    exact J60 (0 : Int32) _ _ _ (by first | rw [if_neg h48] | rw [if_pos h48]) hS (lv_sub hl [1, 2, 3, 4, 5, 0] rfl)
set_option maxHeartbeats 4000000 in
set_option maxRecDepth 100000 in
/-- Judge.forget() -/
theorem c_X1_forget (l : Launch) (D : va_G) (q : Nat → Nat) (cI cJ : ClassId) (n : Nat) (T : Nat → Nat → Int32) (k : Nat) (M : Nat → Nat → Int32) (d : Nat) (C : Nat → Nat → Int32) (J : Nat → Nat → Int32) (g : Nat → Int64) : cx_Mv l D vwCl [(cI, .int), (cJ, .long)] cx_NW yX1_forget wsX1_forget ({ frames := 0, cells := 0, slots := 0, locals := 0 } : Room) [.ref (q 4)] (cxW q cI cJ n T k M d C J g) (fun (uw : Unit) => True) (fun _ => (cxW q cI cJ n T k M d C (cx_u (cx_u J 1 (fun _ => (0 : Int32))) 2 (fun _ => (-1 : Int32))) g)) := by
  refine cx_Mv.of (cc := cX1_forget) (maxL := 1) cx_NW_ok (by decide) rfl (Nat.le_of_ble_eq_true rfl) ?_
  intro p e s m args below meth c Q A ls hx hb hml hown hts hE RET hS hl
  have hl : lv_has ls 1 [(0, .ref (q 4))] := hl
  have hown : s.vm.findClass RX1 = some m.cls := hown
  have hinX1 : ∀ w ∈ u_ws RX1 TX1 9, w ∈ wsX1_forget := cx_mem [3, 4, 5, 6, 7, 8, 9, 10, 11] (by decide +kernel)
  refine lv_aload_n hx hb dX1_forget_0 rfl (lv_at hl 0 rfl) ?_
  refine lv_iconst (v := (0 : Int32)) hx hb dX1_forget_1 (by decide) ?_
  refine cx_put (own := RX1) (index := 19) (C := RX1) (T := TX1) (N := 9) (k := 7) (ci := 1) (v := .int (0 : Int32)) (ty := .int) (ws' := (cxW q cI cJ n T k M d C (cx_u J 1 (fun _ => (0 : Int32))) g)) hx hb hts hown hE hS hinX1 tyX1 tyX1_ok nmX1 4 rfl rfl (by decide) (List.mem_of_getElem? (i := 1) rfl) rfl (by decide +kernel) rfl rfl (Nat.le_of_ble_eq_true rfl) rfl dX1_forget_2 (fun H locs hS => ?_)
  refine lv_aload_n hx hb dX1_forget_5 rfl (lv_at hl 0 rfl) ?_
  refine lv_iconst (v := (-1 : Int32)) hx hb dX1_forget_6 (by decide) ?_
  refine cx_put (own := RX1) (index := 23) (C := RX1) (T := TX1) (N := 9) (k := 8) (ci := 1) (v := .int (-1 : Int32)) (ty := .int) (ws' := (cxW q cI cJ n T k M d C (cx_u (cx_u J 1 (fun _ => (0 : Int32))) 2 (fun _ => (-1 : Int32))) g)) hx hb hts hown hE hS hinX1 tyX1 tyX1_ok nmX1 4 rfl rfl (by decide) (List.mem_of_getElem? (i := 2) rfl) rfl (by decide +kernel) rfl rfl (Nat.le_of_ble_eq_true rfl) rfl dX1_forget_7 (fun H locs hS => ?_)
  exact RET () _ _ _ _ dX1_forget_10 trivial hS
