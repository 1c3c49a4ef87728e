set_option maxHeartbeats 4000000 in
set_option maxRecDepth 100000 in
theorem c_X6_orNone (l : Launch) (D : va_G) (tys : List (ClassId × FieldType)) (ws : va_W) (mm : Int32) : cx_Mi l D vwCl tys cx_NW yX6_orNone wsX6_orNone ({ frames := 0, cells := 0, slots := 0, locals := 0 } : Room) [.int mm] ws (fun (r : Int32) (uw : Unit) => (mm = -1 ∧ r = (-3 : Int32)) ∨ (¬ mm = -1 ∧ r = mm)) (fun _ => ws) := by
  refine cx_Mi.of (cc := cX6_orNone) (maxL := 1) cx_NW_ok (by decide) rfl (Nat.le_of_ble_eq_true rfl) ?_
  intro p e s m args below meth c Q A ls hx hb hml hown hts hE RET hS hl
  have hl : lv_has ls 1 [(0, .int mm)] := hl
  have hown : s.vm.findClass RX6 = some m.cls := hown
  refine lv_iload_n hx hb dX6_orNone_0 rfl (lv_at hl 0 rfl) ?_
  refine lv_iconst (v := (-1 : Int32)) hx hb dX6_orNone_1 (by decide) ?_
  have J11 : ∀ (v11_s0 : Int32) (H : Heap) (locs : List Loc) (ls : Array Slot), ((mm = -1 ∧ v11_s0 = (-3 : Int32)) ∨ (¬ mm = -1 ∧ v11_s0 = mm)) → cx_S D vwCl A s ws H locs → lv_has ls 1 [(0, .int mm)] → W p l e ({ frames := 0, cells := 0, slots := 0, locals := 0 } : Room) s m args below meth c H locs 0 0 Q (F0 m 11 ls [.int v11_s0]) := by
    intro v11_s0 H locs ls hv hS hl
    exact RET _ () _ _ _ _ dX6_orNone_11 rfl hv hS
  refine lv_icmp_ne (tgt := 10) hx hb dX6_orNone_2 (by decide) (fun h2 => ?_) (fun h2 => ?_)
  · skip
    refine lv_iload_n hx hb dX6_orNone_10 rfl (lv_at hl 0 rfl) ?_
    exact J11 mm _ _ _ (by first | exact Or.inl ⟨h2, rfl⟩ | exact Or.inr ⟨h2, rfl⟩) hS (lv_sub hl [0] rfl)
  · skip
    refine lv_bipush (v := (-3 : Int32)) hx hb dX6_orNone_5 (by decide) ?_
    refine lv_goto (tgt := 11) hx hb dX6_orNone_7 (by decide) ?_
    exact J11 (-3 : Int32) _ _ _ (by first | exact Or.inl ⟨h2, rfl⟩ | exact Or.inr ⟨h2, rfl⟩) hS (lv_sub hl [0] rfl)
set_option maxHeartbeats 4000000 in
set_option maxRecDepth 100000 in
theorem c_X6_canBeMade (l : Launch) (D : va_G) (q : Nat → Nat) (cI cJ : ClassId) (n : Nat) (T : Nat → Nat → Int32) (k : Nat) (M : Nat → Nat → Int32) (d : Nat) (C : Nat → Nat → Int32) (J : Nat → Nat → Int32) (g : Nat → Int64) (t : Nat) (hn : n ≤ 20) (hk : k ≤ 80) (hO : cx_R (M 0) 20) (hP : cx_P (T 3) 20) (hOn : ∀ j, j < k → (M 0 j).toNatClampNeg < n) (hR1 : cx_R (T 1) 16) (hR3 : cx_R (M 3) 16) (hB4 : cx_B4 n T) (hCI : (∀ a, a < n → bt ((J 1) 0) a = true → (¬ (J 0) a ≤ 0 ↔ cx_AF n k (T 0) (T 1) (T 2) (T 3) M (cx_Uc T) (cx_Wc T) (cx_Vc T) (cx_Ac T n) a)) ∧ ((J 2) 0 = -1 ∨ ∃ a, a < n ∧ (J 2) 0 = nI a ∧ (cx_G g ↔ cx_AF n k (T 0) (T 1) (T 2) (T 3) M (cx_Uc T) (cx_Wc T) (cx_Vc T) (cx_Ac T n) a))) (ht : t < n) : cx_Mi l D vwCl [(cI, .int), (cJ, .long)] cx_NW yX6_canBeMade wsX6_canBeMade ({ frames := 6, cells := 0, slots := 0, locals := 141 } : Room) [.ref (q 0), .int (nI t)] (cxW q cI cJ n T k M d C J g) (fun (r : Int32) (uw : (Int32) × (Nat) × (Nat → Int32) × (Nat → Nat → Int32) × (Nat → Int64)) => ((r = 0 ∨ r = 1) ∧ (¬ r = 0 ↔ ¬ cx_WR n k (T 0) (T 1) (T 2) (T 3) M (cx_Uc T) (cx_Wc T) (cx_Vc T) (cx_Ac T n) t)) ∧ ((∀ a, a < n → bt ((uw.2.2.2.1 1) 0) a = true → (¬ (uw.2.2.2.1 0) a ≤ 0 ↔ cx_AF n k (T 0) (T 1) (T 2) (T 3) M (cx_Uc T) (cx_Wc T) (cx_Vc T) (cx_Ac T n) a)) ∧ ((uw.2.2.2.1 2) 0 = -1 ∨ ∃ a, a < n ∧ (uw.2.2.2.1 2) 0 = nI a ∧ (cx_G uw.2.2.2.2 ↔ cx_AF n k (T 0) (T 1) (T 2) (T 3) M (cx_Uc T) (cx_Wc T) (cx_Vc T) (cx_Ac T n) a)))) (fun uw => (cxW q cI cJ n T k M uw.2.1 (cx_u (cx_u C 4 (fun _ => uw.1)) 0 uw.2.2.1) uw.2.2.2.1 uw.2.2.2.2)) := by
  refine cx_Mi.of (cc := cX6_canBeMade) (maxL := 3) cx_NW_ok (by decide) rfl (Nat.le_of_ble_eq_true rfl) ?_
  intro p e s m args below meth c Q A ls hx hb hml hown hts hE RET hS hl
  have hl : lv_has ls 3 [(0, .ref (q 0)), (1, .int (nI t))] := hl
  have hown : s.vm.findClass RX6 = some m.cls := hown
  have hinX5 : ∀ w ∈ u_ws RX5 TX5 12, w ∈ wsX6_canBeMade := cx_mem [266, 267, 268, 269, 270, 271, 272, 273, 274, 275, 276, 277] (by decide +kernel)
  have hinX6 : ∀ w ∈ u_ws RX6 TX6 4, w ∈ wsX6_canBeMade := cx_mem [262, 263, 264, 265] (by decide +kernel)
  refine lv_aload_n hx hb dX6_canBeMade_0 rfl (lv_at hl 0 rfl) ?_
  refine cx_get (own := RX6) (index := 12) (C := RX6) (T := TX6) (N := 4) (k := 0) (ci := 6) (v := .ref (q 1)) hx hb hts hown hE hS hinX6 0 rfl rfl (by decide) (List.mem_of_getElem? (i := 1) rfl) rfl dX6_canBeMade_1 ?_
  refine cx_getN (own := RX6) (index := 107) (C := RX5) (T := TX5) (N := 12) (k := 0) (ci := 5) (host := "ClassRules") (v := .ref (q 7)) hx hb hts hown hE hS hinX5 1 rfl rfl (by decide) (List.mem_of_getElem? (i := 5) rfl) rfl dX6_canBeMade_4 ?_
  refine lv_iload_n hx hb dX6_canBeMade_7 rfl (lv_at hl 1 rfl) ?_
  refine cx_iald (f := (T 0)) (n := 20) (cA := cI) hx hb hE hS 7 0 rfl rfl (by omega) (by decide) dX6_canBeMade_8 ?_
  refine lv_iconst (v := (1 : Int32)) hx hb dX6_canBeMade_9 (by decide) ?_
  have J25 : ∀ (H : Heap) (locs : List Loc) (ls : Array Slot), (T 0 t = 1 ∨ cx_mk (T 1) t 1) → cx_S D vwCl A s (cxW q cI cJ n T k M d C J g) H locs → lv_has ls 3 [(0, .ref (q 0)), (1, .int (nI t))] → W p l e ({ frames := 6, cells := 0, slots := 0, locals := 141 } : Room) s m args below meth c H locs 0 0 Q (F0 m 25 ls []) := by
    intro  H locs ls h25 hS hl
    refine lv_iconst (v := (0 : Int32)) hx hb dX6_canBeMade_25 (by decide) ?_
    exact RET _ ((C 4) 0, d, C 0, J, g) _ _ _ _ dX6_canBeMade_26 rfl (⟨cx_e0 (fun z => z (h25.elim Or.inl (fun y => Or.inr (Or.inl y)))), hCI⟩) hS
  refine lv_icmp_eq (tgt := 25) hx hb dX6_canBeMade_10 (by decide) (fun h10 => ?_) (fun h10 => ?_)
  · skip
    exact J25  _ _ _ (by first | exact Or.inl h10 | exact Or.inr g22) hS (lv_sub hl [0, 1] rfl)
  · skip
    refine lv_aload_n hx hb dX6_canBeMade_13 rfl (lv_at hl 0 rfl) ?_
    refine cx_get (own := RX6) (index := 12) (C := RX6) (T := TX6) (N := 4) (k := 0) (ci := 6) (v := .ref (q 1)) hx hb hts hown hE hS hinX6 0 rfl rfl (by decide) (List.mem_of_getElem? (i := 1) rfl) rfl dX6_canBeMade_14 ?_
    refine lv_iload_n hx hb dX6_canBeMade_17 rfl (lv_at hl 1 rfl) ?_
    refine lv_iconst (v := (1 : Int32)) hx hb dX6_canBeMade_18 (by decide) ?_
    refine cx_cVi (As := [.int (nI t), .int (1 : Int32)]) (rest := []) ⟨hx, hb, hml, hown, hts⟩ hE hS (c_X5_marked l D q cI cJ n T k M d C J g t (1 : Int32) (by first | assumption | omega | rfl)) (cwV 2 hts gX6_canBeMade_X5_marked rfl rfl rfl (by decide +kernel) ⟨Nat.le_of_ble_eq_true rfl, Nat.le_of_ble_eq_true rfl⟩) 1 5 rfl rfl rfl hl.1 rfl (Nat.le_of_ble_eq_true rfl) ⟨Nat.zero_le _, Nat.zero_le _⟩ dX6_canBeMade_19 (fun r_19 u_19 H locs hp_19 hS => ?_)
    have hp_19 : (r_19 = 0 ∨ r_19 = 1) ∧ (¬ r_19 = 0 ↔ cx_mk ((T 1)) t (1 : Int32)) := hp_19
    refine lv_if_eq (tgt := 27) hx hb dX6_canBeMade_22 (by decide) (fun h22 => ?_) (fun h22 => ?_)
    · skip
      have g22 : ¬ (cx_mk ((T 1)) t (1 : Int32)) := fun z => hp_19.2.mpr z h22
      refine lv_iconst (v := (0 : Int32)) hx hb dX6_canBeMade_27 (by decide) ?_
      refine cx_topr (z := nI 0) (by decide) ?_
      refine lv_istore_n (lv' := [(2, .int (nI 0)), (0, .ref (q 0)), (1, .int (nI t))]) hx hb dX6_canBeMade_28 rfl hl (by decide) rfl (fun ls hl => ?_)
      have J29 : ∀ (N : Nat) (i29 : Nat) (d_29 : Nat) (C_0_29 : Nat → Int32) (C_4_29 : Nat → Int32) (J_29 : Nat → Nat → Int32) (g_29 : Nat → Int64) (H : Heap) (locs : List Loc) (ls : Array Slot), (n - i29 < N) → (i29 ≤ n) → ((∀ a, a < n → bt ((J_29 1) 0) a = true → (¬ (J_29 0) a ≤ 0 ↔ cx_AF n k (T 0) (T 1) (T 2) (T 3) M (cx_Uc T) (cx_Wc T) (cx_Vc T) (cx_Ac T n) a)) ∧ ((J_29 2) 0 = -1 ∨ ∃ a, a < n ∧ (J_29 2) 0 = nI a ∧ (cx_G g_29 ↔ cx_AF n k (T 0) (T 1) (T 2) (T 3) M (cx_Uc T) (cx_Wc T) (cx_Vc T) (cx_Ac T n) a))) → (∀ u, u < i29 → ¬ (cx_is (cx_Ac T n) t u ∧ cx_AF n k (T 0) (T 1) (T 2) (T 3) M (cx_Uc T) (cx_Wc T) (cx_Vc T) (cx_Ac T n) u)) → cx_S D vwCl A s (cxW q cI cJ n T k M d_29 (cx_u (cx_u C 0 C_0_29) 4 C_4_29) J_29 g_29) H locs → lv_has ls 3 [(0, .ref (q 0)), (1, .int (nI t)), (2, .int (nI i29))] → W p l e ({ frames := 6, cells := 0, slots := 0, locals := 141 } : Room) s m args below meth c H locs 0 0 Q (F0 m 29 ls []) := by
        intro N29
        induction N29 with
        | zero => intro i29 d_29 C_0_29 C_4_29 J_29 g_29 H locs ls hN; exact absurd hN (by omega)
        | succ N29 ih29 =>
          intro i29 d_29 C_0_29 C_4_29 J_29 g_29 H locs ls hN29 hi29 hci hno hS hl
          refine lv_iload_n hx hb dX6_canBeMade_29 rfl (lv_at hl 2 rfl) ?_
          refine lv_aload_n hx hb dX6_canBeMade_30 rfl (lv_at hl 0 rfl) ?_
          refine cx_get (own := RX6) (index := 12) (C := RX6) (T := TX6) (N := 4) (k := 0) (ci := 6) (v := .ref (q 1)) hx hb hts hown hE hS hinX6 0 rfl rfl (by decide) (List.mem_of_getElem? (i := 1) rfl) rfl dX6_canBeMade_31 ?_
          refine cx_getN (own := RX6) (index := 47) (C := RX5) (T := TX5) (N := 12) (k := 11) (ci := 5) (host := "ClassRules") (v := .int (nI n)) hx hb hts hown hE hS hinX5 1 rfl rfl (by decide) (List.mem_of_getElem? (i := 17) rfl) rfl dX6_canBeMade_34 ?_
          refine lv_icmp_ge (tgt := 71) hx hb dX6_canBeMade_37 (by decide) (fun h37 => ?_) (fun h37 => ?_)
          · skip
            have g37 : n ≤ i29 := (nI_leI (a := n) (b := i29) (by omega) (by omega)).mp h37
            refine lv_iconst (v := (1 : Int32)) hx hb dX6_canBeMade_71 (by decide) ?_
            exact RET _ (C_4_29 0, d_29, C_0_29, J_29, g_29) _ _ _ _ dX6_canBeMade_72 rfl (⟨cx_e1 (fun z => z.elim h10 (fun y => y.elim g22 (fun ⟨u, hu, x⟩ => hno u (by omega) x))), hci⟩) hS
          · skip
            have g37 : ¬ (n ≤ i29) := fun z => h37 ((nI_leI (a := n) (b := i29) (by omega) (by omega)).mpr z)
            refine lv_aload_n hx hb dX6_canBeMade_40 rfl (lv_at hl 0 rfl) ?_
            refine cx_get (own := RX6) (index := 12) (C := RX6) (T := TX6) (N := 4) (k := 0) (ci := 6) (v := .ref (q 1)) hx hb hts hown hE hS hinX6 0 rfl rfl (by decide) (List.mem_of_getElem? (i := 1) rfl) rfl dX6_canBeMade_41 ?_
            refine lv_iload_n hx hb dX6_canBeMade_44 rfl (lv_at hl 1 rfl) ?_
            refine lv_iload_n hx hb dX6_canBeMade_45 rfl (lv_at hl 2 rfl) ?_
            refine cx_cVi (As := [.int (nI t), .int (nI i29)]) (rest := []) ⟨hx, hb, hml, hown, hts⟩ hE hS (c_X5_stands_at_b l D q cI cJ n T k M d_29 (cx_u (cx_u C 0 C_0_29) 4 C_4_29) J_29 g_29 t i29 (by first | assumption | omega | rfl) (by first | assumption | omega | rfl)) (cwV 2 hts gX6_canBeMade_X5_stands rfl rfl rfl (by decide +kernel) ⟨Nat.le_of_ble_eq_true rfl, Nat.le_of_ble_eq_true rfl⟩) 1 5 rfl rfl rfl hl.1 rfl (Nat.le_of_ble_eq_true rfl) ⟨Nat.zero_le _, Nat.zero_le _⟩ dX6_canBeMade_46 (fun r_46 u_46 H locs hp_46 hS => ?_)
            have hp_46 : (r_46 = 0 ∨ r_46 = 1) ∧ (¬ r_46 = 0 ↔ t = i29 ∨ bt ((T 10) t) i29 = true) := hp_46
            have J65 : ∀ (d_65 : Nat) (C_0_65 : Nat → Int32) (C_4_65 : Nat → Int32) (J_65 : Nat → Nat → Int32) (g_65 : Nat → Int64) (H : Heap) (locs : List Loc) (ls : Array Slot), ((∀ a, a < n → bt ((J_65 1) 0) a = true → (¬ (J_65 0) a ≤ 0 ↔ cx_AF n k (T 0) (T 1) (T 2) (T 3) M (cx_Uc T) (cx_Wc T) (cx_Vc T) (cx_Ac T n) a)) ∧ ((J_65 2) 0 = -1 ∨ ∃ a, a < n ∧ (J_65 2) 0 = nI a ∧ (cx_G g_65 ↔ cx_AF n k (T 0) (T 1) (T 2) (T 3) M (cx_Uc T) (cx_Wc T) (cx_Vc T) (cx_Ac T n) a))) → (¬ (cx_is (cx_Ac T n) t i29 ∧ cx_AF n k (T 0) (T 1) (T 2) (T 3) M (cx_Uc T) (cx_Wc T) (cx_Vc T) (cx_Ac T n) i29)) → cx_S D vwCl A s (cxW q cI cJ n T k M d_65 (cx_u (cx_u C 0 C_0_65) 4 C_4_65) J_65 g_65) H locs → lv_has ls 3 [(0, .ref (q 0)), (1, .int (nI t)), (2, .int (nI i29))] → W p l e ({ frames := 6, cells := 0, slots := 0, locals := 141 } : Room) s m args below meth c H locs 0 0 Q (F0 m 65 ls []) := by
              intro d_65 C_0_65 C_4_65 J_65 g_65 H locs ls hci2 hn2 hS hl
              refine lv_iinc (v := nI (i29 + 1)) (lv' := [(2, .int (nI (i29 + 1))), (0, .ref (q 0)), (1, .int (nI t))]) hx hb dX6_canBeMade_65 hl (k := 2) rfl (cx_inc _) (by decide) rfl (fun ls hl => ?_)
              refine lv_goto (tgt := 29) hx hb dX6_canBeMade_68 (by decide) ?_
              exact ih29 (i29 + 1) d_65 C_0_65 C_4_65 J_65 g_65 _ _ _ (by (try clear hp_57); (try clear hci2); (try clear hci); omega) (by (try clear hp_57); (try clear hci2); (try clear hci); omega) (by first | exact hci2 | exact hCI) (by first | exact cx_all0 | exact cx_allS (P := fun u => cx_is (cx_Ac T n) t u ∧ cx_AF n k (T 0) (T 1) (T 2) (T 3) M (cx_Uc T) (cx_Wc T) (cx_Vc T) (cx_Ac T n) u) hno hn2) hS (lv_sub hl [1, 2, 0] rfl)
            refine lv_if_eq (tgt := 65) hx hb dX6_canBeMade_49 (by decide) (fun h49 => ?_) (fun h49 => ?_)
            · skip
              have g49 : ¬ (t = i29 ∨ bt ((T 10) t) i29 = true) := fun z => hp_46.2.mpr z h49
              exact J65 d_29 C_0_29 C_4_29 J_29 g_29 _ _ _ (by first | exact hci | exact hp_57.2) (by first | exact fun z => g49 (z.1.imp id (fun y => y.2.2)) | exact fun z => hp_57.1.mpr z.2 h60) hS (lv_sub hl [0, 1, 2] rfl)
            · skip
              have g49 : t = i29 ∨ bt ((T 10) t) i29 = true := hp_46.2.mp h49
              refine lv_aload_n hx hb dX6_canBeMade_52 rfl (lv_at hl 0 rfl) ?_
              refine cx_get (own := RX6) (index := 39) (C := RX6) (T := TX6) (N := 4) (k := 3) (ci := 6) (v := .ref (q 4)) hx hb hts hown hE hS hinX6 0 rfl rfl (by decide) (List.mem_of_getElem? (i := 2) rfl) rfl dX6_canBeMade_53 ?_
              refine lv_iload_n hx hb dX6_canBeMade_56 rfl (lv_at hl 2 rfl) ?_
              refine cx_cVi (As := [.int (nI i29)]) (rest := []) ⟨hx, hb, hml, hown, hts⟩ hE hS (c_X1_countOf l D q cI cJ n T k M d_29 (cx_u (cx_u C 0 C_0_29) 4 C_4_29) J_29 g_29 i29 (by first | assumption | omega | rfl) (by first | assumption | omega | rfl) (by first | assumption | omega | rfl) (by first | assumption | omega | rfl) (by first | assumption | omega | rfl) (by first | assumption | omega | rfl) (by first | assumption | omega | rfl) (by first | assumption | omega | rfl) (by first | assumption | omega | rfl) hci) (cwV 1 hts gX6_canBeMade_X1_countOf rfl rfl rfl (by decide +kernel) ⟨Nat.le_of_ble_eq_true rfl, Nat.le_of_ble_eq_true rfl⟩) 4 1 rfl rfl rfl hl.1 rfl (Nat.le_of_ble_eq_true rfl) ⟨Nat.zero_le _, Nat.zero_le _⟩ dX6_canBeMade_57 (fun r_57 u_57 H locs hp_57 hS => ?_)
              obtain ⟨co_57, d1_57, fo_57, J1_57, ga_57⟩ := u_57
              have hS : cx_S D vwCl A s (cxW q cI cJ n T k M d1_57 (cx_u (cx_u C 4 (fun _ => co_57)) 0 fo_57) J1_57 ga_57) H locs := hS
              have hp_57 : (¬ r_57 ≤ 0 ↔ cx_AF n k ((T 0)) ((T 1)) ((T 2)) ((T 3)) M (cx_Uc T) (cx_Wc T) (cx_Vc T) (cx_Ac T n) i29) ∧ ((∀ a, a < n → bt ((J1_57 1) 0) a = true → (¬ (J1_57 0) a ≤ 0 ↔ cx_AF n k ((T 0)) ((T 1)) ((T 2)) ((T 3)) M (cx_Uc T) (cx_Wc T) (cx_Vc T) (cx_Ac T n) a)) ∧ ((J1_57 2) 0 = -1 ∨ ∃ a, a < n ∧ (J1_57 2) 0 = nI a ∧ (cx_G ga_57 ↔ cx_AF n k ((T 0)) ((T 1)) ((T 2)) ((T 3)) M (cx_Uc T) (cx_Wc T) (cx_Vc T) (cx_Ac T n) a))) := hp_57
              refine lv_if_le (tgt := 65) hx hb dX6_canBeMade_60 (by decide) (fun h60 => ?_) (fun h60 => ?_)
              · skip
                exact J65 d1_57 fo_57 (fun _ => co_57) J1_57 ga_57 _ _ _ (by first | exact hci | exact hp_57.2) (by first | exact fun z => g49 (z.1.imp id (fun y => y.2.2)) | exact fun z => hp_57.1.mpr z.2 h60) hS (lv_sub hl [0, 1, 2] rfl)
              · skip
                refine lv_iconst (v := (0 : Int32)) hx hb dX6_canBeMade_63 (by decide) ?_
                exact RET _ (co_57, d1_57, fo_57, J1_57, ga_57) _ _ _ _ dX6_canBeMade_64 rfl (⟨cx_e0 (fun z => z (Or.inr (Or.inr ⟨i29, by omega, g49.imp id (fun y => ⟨ht, by omega, y⟩), hp_57.1.mp h60⟩))), hp_57.2⟩) hS
      exact J29 (n - 0 + 1) 0 d (C 0) (C 4) J g _ _ _ (Nat.lt_succ_self _) (by (try clear hp_57); (try clear hci); omega) (by first | exact hci2 | exact hCI) (by first | exact cx_all0 | exact cx_allS (P := fun u => cx_is (cx_Ac T n) t u ∧ cx_AF n k (T 0) (T 1) (T 2) (T 3) M (cx_Uc T) (cx_Wc T) (cx_Vc T) (cx_Ac T n) u) hno hn2) hS (lv_sub hl [1, 2, 0] rfl)
    · skip
      have g22 : cx_mk ((T 1)) t (1 : Int32) := hp_19.2.mp h22
      exact J25  _ _ _ (by first | exact Or.inl h10 | exact Or.inr g22) hS (lv_sub hl [0, 1] rfl)
set_option maxHeartbeats 4000000 in
set_option maxRecDepth 100000 in
theorem c_X6_faults (l : Launch) (D : va_G) (q : Nat → Nat) (cI cJ : ClassId) (n : Nat) (T : Nat → Nat → Int32) (k : Nat) (M : Nat → Nat → Int32) (d : Nat) (C : Nat → Nat → Int32) (J : Nat → Nat → Int32) (g : Nat → Int64) (xa : Int32) (hn : n ≤ 20) (hk : k ≤ 80) (hO : cx_R (M 0) 20) (hP : cx_P (T 3) 20) (hOn : ∀ j, j < k → (M 0 j).toNatClampNeg < n) (hR1 : cx_R (T 1) 16) (hR3 : cx_R (M 3) 16) (hB4 : cx_B4 n T) (hCI : (∀ a, a < n → bt ((J 1) 0) a = true → (¬ (J 0) a ≤ 0 ↔ cx_AF n k (T 0) (T 1) (T 2) (T 3) M (cx_Uc T) (cx_Wc T) (cx_Vc T) (cx_Ac T n) a)) ∧ ((J 2) 0 = -1 ∨ ∃ a, a < n ∧ (J 2) 0 = nI a ∧ (cx_G g ↔ cx_AF n k (T 0) (T 1) (T 2) (T 3) M (cx_Uc T) (cx_Wc T) (cx_Vc T) (cx_Ac T n) a))) : cx_Mi l D vwCl [(cI, .int), (cJ, .long)] cx_NW yX6_faults wsX6_faults ({ frames := 6, cells := 0, slots := 0, locals := 141 } : Room) [.ref (q 0), .int xa] (cxW q cI cJ n T k M d C J g) (fun (r : Int32) (uw : (Int32) × (Nat) × (Nat → Int32) × (Nat → Nat → Int32) × (Nat → Int64)) => (∀ a, a < n → bt ((uw.2.2.2.1 1) 0) a = true → (¬ (uw.2.2.2.1 0) a ≤ 0 ↔ cx_AF n k (T 0) (T 1) (T 2) (T 3) M (cx_Uc T) (cx_Wc T) (cx_Vc T) (cx_Ac T n) a)) ∧ ((uw.2.2.2.1 2) 0 = -1 ∨ ∃ a, a < n ∧ (uw.2.2.2.1 2) 0 = nI a ∧ (cx_G uw.2.2.2.2 ↔ cx_AF n k (T 0) (T 1) (T 2) (T 3) M (cx_Uc T) (cx_Wc T) (cx_Vc T) (cx_Ac T n) a))) (fun uw => (cxW q cI cJ n T k M uw.2.1 (cx_u (cx_u C 4 (fun _ => uw.1)) 0 uw.2.2.1) uw.2.2.2.1 uw.2.2.2.2)) := by
  refine cx_Mi.of (cc := cX6_faults) (maxL := 2) cx_NW_ok (by decide) rfl (Nat.le_of_ble_eq_true rfl) ?_
  intro p e s m args below meth c Q A ls hx hb hml hown hts hE RET hS hl
  have hl : lv_has ls 2 [(0, .ref (q 0)), (1, .int xa)] := hl
  have hown : s.vm.findClass RX6 = some m.cls := hown
  have hinX6 : ∀ w ∈ u_ws RX6 TX6 4, w ∈ wsX6_faults := cx_mem [261, 262, 263, 264] (by decide +kernel)
  refine lv_aload_n hx hb dX6_faults_0 rfl (lv_at hl 0 rfl) ?_
  refine cx_get (own := RX6) (index := 12) (C := RX6) (T := TX6) (N := 4) (k := 0) (ci := 6) (v := .ref (q 1)) hx hb hts hown hE hS hinX6 0 rfl rfl (by decide) (List.mem_of_getElem? (i := 1) rfl) rfl dX6_faults_1 ?_
  refine lv_iload_n hx hb dX6_faults_4 rfl (lv_at hl 1 rfl) ?_
  refine cx_cVi (As := [.int xa]) (rest := []) ⟨hx, hb, hml, hown, hts⟩ hE hS (c_X5_there l D q cI cJ n T k M d C J g xa ) (cwV 1 hts gX6_faults_X5_there rfl rfl rfl (by decide +kernel) ⟨Nat.le_of_ble_eq_true rfl, Nat.le_of_ble_eq_true rfl⟩) 1 5 rfl rfl rfl hl.1 rfl (Nat.le_of_ble_eq_true rfl) ⟨Nat.zero_le _, Nat.zero_le _⟩ dX6_faults_5 (fun r_5 u_5 H locs hp_5 hS => ?_)
  have hp_5 : r_5 = cx_b (0 ≤ xa ∧ xa < nI n) := hp_5
  subst hp_5
  have J23 : ∀ (v23_s0 : Int32) (d_23 : Nat) (C_0_23 : Nat → Int32) (C_4_23 : Nat → Int32) (J_23 : Nat → Nat → Int32) (g_23 : Nat → Int64) (H : Heap) (locs : List Loc) (ls : Array Slot), ((∀ a, a < n → bt ((J_23 1) 0) a = true → (¬ (J_23 0) a ≤ 0 ↔ cx_AF n k (T 0) (T 1) (T 2) (T 3) M (cx_Uc T) (cx_Wc T) (cx_Vc T) (cx_Ac T n) a)) ∧ ((J_23 2) 0 = -1 ∨ ∃ a, a < n ∧ (J_23 2) 0 = nI a ∧ (cx_G g_23 ↔ cx_AF n k (T 0) (T 1) (T 2) (T 3) M (cx_Uc T) (cx_Wc T) (cx_Vc T) (cx_Ac T n) a))) → cx_S D vwCl A s (cxW q cI cJ n T k M d_23 (cx_u (cx_u C 0 C_0_23) 4 C_4_23) J_23 g_23) H locs → lv_has ls 2 [(0, .ref (q 0)), (1, .int xa)] → W p l e ({ frames := 6, cells := 0, slots := 0, locals := 141 } : Room) s m args below meth c H locs 0 0 Q (F0 m 23 ls [.int v23_s0]) := by
    intro v23_s0 d_23 C_0_23 C_4_23 J_23 g_23 H locs ls hc hS hl
    exact RET _ (C_4_23 0, d_23, C_0_23, J_23, g_23) _ _ _ _ dX6_faults_23 rfl hc hS
  refine lv_if_eq (tgt := 22) hx hb dX6_faults_8 (by decide) (fun h8 => ?_) (fun h8 => ?_)
  · skip
    have g8 := cx_b0 h8
    refine lv_iconst (v := (-1 : Int32)) hx hb dX6_faults_22 (by decide) ?_
    exact J23 (-1 : Int32) d (C 0) (C 4) J g _ _ _ (by first | exact hCI | exact hp_16.2) hS (lv_sub hl [0, 1] rfl)
  · skip
    have g8 := cx_b1 h8
    refine lv_aload_n hx hb dX6_faults_11 rfl (lv_at hl 0 rfl) ?_
    refine cx_get (own := RX6) (index := 39) (C := RX6) (T := TX6) (N := 4) (k := 3) (ci := 6) (v := .ref (q 4)) hx hb hts hown hE hS hinX6 0 rfl rfl (by decide) (List.mem_of_getElem? (i := 2) rfl) rfl dX6_faults_12 ?_
    refine lv_iload_n hx hb dX6_faults_15 rfl (lv_at hl 1 rfl) ?_
    refine cx_topr (z := nI (xa.toNatClampNeg)) (cx_ixT (by omega) g8).1 ?_
    refine cx_cVi (As := [.int (nI (xa.toNatClampNeg))]) (rest := []) ⟨hx, hb, hml, hown, hts⟩ hE hS (c_X1_countOf l D q cI cJ n T k M d C J g xa.toNatClampNeg (by first | assumption | omega | rfl) (by first | assumption | omega | rfl) (by first | assumption | omega | rfl) (by first | assumption | omega | rfl) (by first | assumption | omega | rfl) (by first | assumption | omega | rfl) (by first | assumption | omega | rfl) (by first | assumption | omega | rfl) ((cx_ixT (by omega) g8).2) (by first | assumption | omega | rfl)) (cwV 1 hts gX6_faults_X1_countOf rfl rfl rfl (by decide +kernel) ⟨Nat.le_of_ble_eq_true rfl, Nat.le_of_ble_eq_true rfl⟩) 4 1 rfl rfl rfl hl.1 rfl (Nat.le_of_ble_eq_true rfl) ⟨Nat.zero_le _, Nat.zero_le _⟩ dX6_faults_16 (fun r_16 u_16 H locs hp_16 hS => ?_)
    obtain ⟨co_16, d1_16, fo_16, J1_16, ga_16⟩ := u_16
    have hS : cx_S D vwCl A s (cxW q cI cJ n T k M d1_16 (cx_u (cx_u C 4 (fun _ => co_16)) 0 fo_16) J1_16 ga_16) H locs := hS
    have hp_16 : (¬ r_16 ≤ 0 ↔ cx_AF n k ((T 0)) ((T 1)) ((T 2)) ((T 3)) M (cx_Uc T) (cx_Wc T) (cx_Vc T) (cx_Ac T n) xa.toNatClampNeg) ∧ ((∀ a, a < n → bt ((J1_16 1) 0) a = true → (¬ (J1_16 0) a ≤ 0 ↔ cx_AF n k ((T 0)) ((T 1)) ((T 2)) ((T 3)) M (cx_Uc T) (cx_Wc T) (cx_Vc T) (cx_Ac T n) a)) ∧ ((J1_16 2) 0 = -1 ∨ ∃ a, a < n ∧ (J1_16 2) 0 = nI a ∧ (cx_G ga_16 ↔ cx_AF n k ((T 0)) ((T 1)) ((T 2)) ((T 3)) M (cx_Uc T) (cx_Wc T) (cx_Vc T) (cx_Ac T n) a))) := hp_16
    refine lv_goto (tgt := 23) hx hb dX6_faults_19 (by decide) ?_
    exact J23 r_16 d1_16 fo_16 (fun _ => co_16) J1_16 ga_16 _ _ _ (by first | exact hCI | exact hp_16.2) hS (lv_sub hl [0, 1] rfl)
set_option maxHeartbeats 4000000 in
set_option maxRecDepth 100000 in
theorem c_X6_fault (l : Launch) (D : va_G) (q : Nat → Nat) (cI cJ : ClassId) (n : Nat) (T : Nat → Nat → Int32) (k : Nat) (M : Nat → Nat → Int32) (d : Nat) (C : Nat → Nat → Int32) (J : Nat → Nat → Int32) (g : Nat → Int64) (xa : Int32) (xb : Int32) (xe : Int32) (hn : n ≤ 20) (hk : k ≤ 80) (hO : cx_R (M 0) 20) (hP : cx_P (T 3) 20) (hOn : ∀ j, j < k → (M 0 j).toNatClampNeg < n) (hR1 : cx_R (T 1) 16) (hR3 : cx_R (M 3) 16) (hB4 : cx_B4 n T) (hCI : (∀ a, a < n → bt ((J 1) 0) a = true → (¬ (J 0) a ≤ 0 ↔ cx_AF n k (T 0) (T 1) (T 2) (T 3) M (cx_Uc T) (cx_Wc T) (cx_Vc T) (cx_Ac T n) a)) ∧ ((J 2) 0 = -1 ∨ ∃ a, a < n ∧ (J 2) 0 = nI a ∧ (cx_G g ↔ cx_AF n k (T 0) (T 1) (T 2) (T 3) M (cx_Uc T) (cx_Wc T) (cx_Vc T) (cx_Ac T n) a))) : cx_Mi l D vwCl [(cI, .int), (cJ, .long)] cx_NW yX6_fault wsX6_fault ({ frames := 7, cells := 0, slots := 0, locals := 167 } : Room) [.ref (q 0), .int xa, .int xb, .int xe] (cxW q cI cJ n T k M d C J g) (fun (r : Int32) (uw : (Int32) × (Nat) × (Nat → Int32) × (Nat → Nat → Int32) × (Nat → Int64)) => (∀ a, a < n → bt ((uw.2.2.2.1 1) 0) a = true → (¬ (uw.2.2.2.1 0) a ≤ 0 ↔ cx_AF n k (T 0) (T 1) (T 2) (T 3) M (cx_Uc T) (cx_Wc T) (cx_Vc T) (cx_Ac T n) a)) ∧ ((uw.2.2.2.1 2) 0 = -1 ∨ ∃ a, a < n ∧ (uw.2.2.2.1 2) 0 = nI a ∧ (cx_G uw.2.2.2.2 ↔ cx_AF n k (T 0) (T 1) (T 2) (T 3) M (cx_Uc T) (cx_Wc T) (cx_Vc T) (cx_Ac T n) a))) (fun uw => (cxW q cI cJ n T k M uw.2.1 (cx_u (cx_u C 4 (fun _ => uw.1)) 0 uw.2.2.1) uw.2.2.2.1 uw.2.2.2.2)) := by
  refine cx_Mi.of (cc := cX6_fault) (maxL := 4) cx_NW_ok (by decide) rfl (Nat.le_of_ble_eq_true rfl) ?_
  intro p e s m args below meth c Q A ls hx hb hml hown hts hE RET hS hl
  have hl : lv_has ls 4 [(0, .ref (q 0)), (1, .int xa), (2, .int xb), (3, .int xe)] := hl
  have hown : s.vm.findClass RX6 = some m.cls := hown
  have hinX6 : ∀ w ∈ u_ws RX6 TX6 4, w ∈ wsX6_fault := cx_mem [280, 281, 282, 283] (by decide +kernel)
  refine lv_aload_n hx hb dX6_fault_0 rfl (lv_at hl 0 rfl) ?_
  refine cx_get (own := RX6) (index := 12) (C := RX6) (T := TX6) (N := 4) (k := 0) (ci := 6) (v := .ref (q 1)) hx hb hts hown hE hS hinX6 0 rfl rfl (by decide) (List.mem_of_getElem? (i := 1) rfl) rfl dX6_fault_1 ?_
  refine lv_iload_n hx hb dX6_fault_4 rfl (lv_at hl 1 rfl) ?_
  refine cx_cVi (As := [.int xa]) (rest := []) ⟨hx, hb, hml, hown, hts⟩ hE hS (c_X5_there l D q cI cJ n T k M d C J g xa ) (cwV 1 hts gX6_fault_X5_there rfl rfl rfl (by decide +kernel) ⟨Nat.le_of_ble_eq_true rfl, Nat.le_of_ble_eq_true rfl⟩) 1 5 rfl rfl rfl hl.1 rfl (Nat.le_of_ble_eq_true rfl) ⟨Nat.zero_le _, Nat.zero_le _⟩ dX6_fault_5 (fun r_5 u_5 H locs hp_5 hS => ?_)
  have hp_5 : r_5 = cx_b (0 ≤ xa ∧ xa < nI n) := hp_5
  subst hp_5
  have J34 : ∀ (d_34 : Nat) (C_0_34 : Nat → Int32) (C_4_34 : Nat → Int32) (J_34 : Nat → Nat → Int32) (g_34 : Nat → Int64) (H : Heap) (locs : List Loc) (ls : Array Slot), ((∀ a, a < n → bt ((J_34 1) 0) a = true → (¬ (J_34 0) a ≤ 0 ↔ cx_AF n k (T 0) (T 1) (T 2) (T 3) M (cx_Uc T) (cx_Wc T) (cx_Vc T) (cx_Ac T n) a)) ∧ ((J_34 2) 0 = -1 ∨ ∃ a, a < n ∧ (J_34 2) 0 = nI a ∧ (cx_G g_34 ↔ cx_AF n k (T 0) (T 1) (T 2) (T 3) M (cx_Uc T) (cx_Wc T) (cx_Vc T) (cx_Ac T n) a))) → cx_S D vwCl A s (cxW q cI cJ n T k M d_34 (cx_u (cx_u C 0 C_0_34) 4 C_4_34) J_34 g_34) H locs → lv_has ls 4 [(0, .ref (q 0)), (1, .int xa), (2, .int xb), (3, .int xe)] → W p l e ({ frames := 7, cells := 0, slots := 0, locals := 167 } : Room) s m args below meth c H locs 0 0 Q (F0 m 34 ls []) := by
    intro d_34 C_0_34 C_4_34 J_34 g_34 H locs ls hc hS hl
    refine lv_iconst (v := (-1 : Int32)) hx hb dX6_fault_34 (by decide) ?_
    exact RET _ (C_4_34 0, d_34, C_0_34, J_34, g_34) _ _ _ _ dX6_fault_35 rfl hc hS
  refine lv_if_eq (tgt := 34) hx hb dX6_fault_8 (by decide) (fun h8 => ?_) (fun h8 => ?_)
  · skip
    have g8 := cx_b0 h8
    exact J34 d (C 0) (C 4) J g _ _ _ (by first | exact hCI | exact hp_25.2) hS (lv_sub hl [0, 1, 2, 3] rfl)
  · skip
    have g8 := cx_b1 h8
    refine lv_iload_n hx hb dX6_fault_11 rfl (lv_at hl 3 rfl) ?_
    refine lv_iconst (v := nI 2) hx hb dX6_fault_12 (by decide) ?_
    refine cx_cSi (As := [.int xe, .int (nI 2)]) (rest := []) ⟨hx, hb, hml, hown, hts⟩ hE hS (c_X6_within l D [(cI, .int), (cJ, .long)] (cxW q cI cJ n T k M d C J g) xe (nI 2) ) (va_cwS 2 hts gX6_fault_X6_within rfl rfl rfl (by decide +kernel) ⟨Nat.le_of_ble_eq_true rfl, Nat.le_of_ble_eq_true rfl⟩) rfl hl.1 rfl (Nat.le_of_ble_eq_true rfl) ⟨Nat.zero_le _, Nat.zero_le _⟩ dX6_fault_13 (fun r_13 u_13 H locs hp_13 hS => ?_)
    have hp_13 : r_13 = cx_b (0 ≤ xe ∧ xe < (nI 2)) := hp_13
    subst hp_13
    refine lv_if_eq (tgt := 34) hx hb dX6_fault_16 (by decide) (fun h16 => ?_) (fun h16 => ?_)
    · skip
      have g16 := cx_b0 h16
      exact J34 d (C 0) (C 4) J g _ _ _ (by first | exact hCI | exact hp_25.2) hS (lv_sub hl [0, 1, 2, 3] rfl)
    · skip
      have g16 := cx_b1 h16
      refine lv_iload_n hx hb dX6_fault_19 rfl (lv_at hl 2 rfl) ?_
      refine lv_aload_n hx hb dX6_fault_20 rfl (lv_at hl 0 rfl) ?_
      refine cx_get (own := RX6) (index := 39) (C := RX6) (T := TX6) (N := 4) (k := 3) (ci := 6) (v := .ref (q 4)) hx hb hts hown hE hS hinX6 0 rfl rfl (by decide) (List.mem_of_getElem? (i := 2) rfl) rfl dX6_fault_21 ?_
      refine lv_iload_n hx hb dX6_fault_24 rfl (lv_at hl 1 rfl) ?_
      refine cx_topr (z := nI (xa.toNatClampNeg)) (cx_ixT (by omega) g8).1 ?_
      refine cx_cVi (As := [.int (nI (xa.toNatClampNeg))]) (rest := [.int xb]) ⟨hx, hb, hml, hown, hts⟩ hE hS (c_X1_countOf l D q cI cJ n T k M d C J g xa.toNatClampNeg (by first | assumption | omega | rfl) (by first | assumption | omega | rfl) (by first | assumption | omega | rfl) (by first | assumption | omega | rfl) (by first | assumption | omega | rfl) (by first | assumption | omega | rfl) (by first | assumption | omega | rfl) (by first | assumption | omega | rfl) ((cx_ixT (by omega) g8).2) (by first | assumption | omega | rfl)) (cwV 1 hts gX6_fault_X1_countOf rfl rfl rfl (by decide +kernel) ⟨Nat.le_of_ble_eq_true rfl, Nat.le_of_ble_eq_true rfl⟩) 4 1 rfl rfl rfl hl.1 rfl (Nat.le_of_ble_eq_true rfl) ⟨Nat.zero_le _, Nat.zero_le _⟩ dX6_fault_25 (fun r_25 u_25 H locs hp_25 hS => ?_)
      obtain ⟨co_25, d1_25, fo_25, J1_25, ga_25⟩ := u_25
      have hS : cx_S D vwCl A s (cxW q cI cJ n T k M d1_25 (cx_u (cx_u C 4 (fun _ => co_25)) 0 fo_25) J1_25 ga_25) H locs := hS
      have hp_25 : (¬ r_25 ≤ 0 ↔ cx_AF n k ((T 0)) ((T 1)) ((T 2)) ((T 3)) M (cx_Uc T) (cx_Wc T) (cx_Vc T) (cx_Ac T n) xa.toNatClampNeg) ∧ ((∀ a, a < n → bt ((J1_25 1) 0) a = true → (¬ (J1_25 0) a ≤ 0 ↔ cx_AF n k ((T 0)) ((T 1)) ((T 2)) ((T 3)) M (cx_Uc T) (cx_Wc T) (cx_Vc T) (cx_Ac T n) a)) ∧ ((J1_25 2) 0 = -1 ∨ ∃ a, a < n ∧ (J1_25 2) 0 = nI a ∧ (cx_G ga_25 ↔ cx_AF n k ((T 0)) ((T 1)) ((T 2)) ((T 3)) M (cx_Uc T) (cx_Wc T) (cx_Vc T) (cx_Ac T n) a))) := hp_25
      refine cx_cSi (As := [.int xb, .int r_25]) (rest := []) ⟨hx, hb, hml, hown, hts⟩ hE hS (c_X6_within l D [(cI, .int), (cJ, .long)] (cxW q cI cJ n T k M d1_25 (cx_u (cx_u C 4 (fun _ => co_25)) 0 fo_25) J1_25 ga_25) xb r_25 ) (va_cwS 2 hts gX6_fault_X6_within rfl rfl rfl (by decide +kernel) ⟨Nat.le_of_ble_eq_true rfl, Nat.le_of_ble_eq_true rfl⟩) rfl hl.1 rfl (Nat.le_of_ble_eq_true rfl) ⟨Nat.zero_le _, Nat.zero_le _⟩ dX6_fault_28 (fun r_28 u_28 H locs hp_28 hS => ?_)
      have hp_28 : r_28 = cx_b (0 ≤ xb ∧ xb < r_25) := hp_28
      subst hp_28
      refine lv_if_ne (tgt := 36) hx hb dX6_fault_31 (by decide) (fun h31 => ?_) (fun h31 => ?_)
      · skip
        have g31 := cx_b1 h31
        refine lv_iload_n hx hb dX6_fault_36 rfl (lv_at hl 3 rfl) ?_
        have J61 : ∀ (v61_s0 : Int32) (d_61 : Nat) (C_0_61 : Nat → Int32) (C_4_61 : Nat → Int32) (J_61 : Nat → Nat → Int32) (g_61 : Nat → Int64) (H : Heap) (locs : List Loc) (ls : Array Slot), ((∀ a, a < n → bt ((J_61 1) 0) a = true → (¬ (J_61 0) a ≤ 0 ↔ cx_AF n k (T 0) (T 1) (T 2) (T 3) M (cx_Uc T) (cx_Wc T) (cx_Vc T) (cx_Ac T n) a)) ∧ ((J_61 2) 0 = -1 ∨ ∃ a, a < n ∧ (J_61 2) 0 = nI a ∧ (cx_G g_61 ↔ cx_AF n k (T 0) (T 1) (T 2) (T 3) M (cx_Uc T) (cx_Wc T) (cx_Vc T) (cx_Ac T n) a))) → cx_S D vwCl A s (cxW q cI cJ n T k M d_61 (cx_u (cx_u C 0 C_0_61) 4 C_4_61) J_61 g_61) H locs → lv_has ls 4 [(0, .ref (q 0)), (1, .int xa), (2, .int xb), (3, .int xe)] → W p l e ({ frames := 7, cells := 0, slots := 0, locals := 167 } : Room) s m args below meth c H locs 0 0 Q (F0 m 61 ls [.int v61_s0]) := by
          intro v61_s0 d_61 C_0_61 C_4_61 J_61 g_61 H locs ls hc hS hl
          exact RET _ (C_4_61 0, d_61, C_0_61, J_61, g_61) _ _ _ _ dX6_fault_61 rfl hc hS
        refine lv_if_ne (tgt := 52) hx hb dX6_fault_37 (by decide) (fun h37 => ?_) (fun h37 => ?_)
        · skip
          refine lv_aload_n hx hb dX6_fault_52 rfl (lv_at hl 0 rfl) ?_
          refine cx_get (own := RX6) (index := 39) (C := RX6) (T := TX6) (N := 4) (k := 3) (ci := 6) (v := .ref (q 4)) hx hb hts hown hE hS hinX6 0 rfl rfl (by decide) (List.mem_of_getElem? (i := 2) rfl) rfl dX6_fault_53 ?_
          refine lv_iload_n hx hb dX6_fault_56 rfl (lv_at hl 1 rfl) ?_
          refine cx_topr (z := nI (xa.toNatClampNeg)) (cx_ixT (by omega) g8).1 ?_
          refine lv_iload_n hx hb dX6_fault_57 rfl (lv_at hl 2 rfl) ?_
          refine cx_cVi (As := [.int (nI (xa.toNatClampNeg)), .int xb]) (rest := []) ⟨hx, hb, hml, hown, hts⟩ hE hS (c_X1_numberAt l D q cI cJ n T k M d1_25 (cx_u (cx_u C 4 (fun _ => co_25)) 0 fo_25) J1_25 ga_25 xa.toNatClampNeg xb (by first | assumption | omega | rfl) (by first | assumption | omega | rfl) (by first | assumption | omega | rfl) (by first | assumption | omega | rfl) (by first | assumption | omega | rfl) (by first | assumption | omega | rfl) (by first | assumption | omega | rfl) (by first | assumption | omega | rfl) ((cx_ixT (by omega) g8).2) hp_25.2) (cwV 2 hts gX6_fault_X1_numberAt rfl rfl rfl (by decide +kernel) ⟨Nat.le_of_ble_eq_true rfl, Nat.le_of_ble_eq_true rfl⟩) 4 1 rfl rfl rfl hl.1 rfl (Nat.le_of_ble_eq_true rfl) ⟨Nat.zero_le _, Nat.zero_le _⟩ dX6_fault_58 (fun r_58 u_58 H locs hp_58 hS => ?_)
          obtain ⟨co_58, d1_58, fo_58, J1_58, ga_58⟩ := u_58
          have hS : cx_S D vwCl A s (cxW q cI cJ n T k M d1_58 (cx_u (cx_u C 4 (fun _ => co_58)) 0 fo_58) J1_58 ga_58) H locs := hS
          have hp_58 : (∀ a, a < n → bt ((J1_58 1) 0) a = true → (¬ (J1_58 0) a ≤ 0 ↔ cx_AF n k ((T 0)) ((T 1)) ((T 2)) ((T 3)) M (cx_Uc T) (cx_Wc T) (cx_Vc T) (cx_Ac T n) a)) ∧ ((J1_58 2) 0 = -1 ∨ ∃ a, a < n ∧ (J1_58 2) 0 = nI a ∧ (cx_G ga_58 ↔ cx_AF n k ((T 0)) ((T 1)) ((T 2)) ((T 3)) M (cx_Uc T) (cx_Wc T) (cx_Vc T) (cx_Ac T n) a)) := hp_58
          exact J61 r_58 d1_58 fo_58 (fun _ => co_58) J1_58 ga_58 _ _ _ (by first | exact hp_46 | exact hp_58) hS (lv_sub hl [0, 1, 2, 3] rfl)
        · skip
          refine lv_aload_n hx hb dX6_fault_40 rfl (lv_at hl 0 rfl) ?_
          refine cx_get (own := RX6) (index := 39) (C := RX6) (T := TX6) (N := 4) (k := 3) (ci := 6) (v := .ref (q 4)) hx hb hts hown hE hS hinX6 0 rfl rfl (by decide) (List.mem_of_getElem? (i := 2) rfl) rfl dX6_fault_41 ?_
          refine lv_iload_n hx hb dX6_fault_44 rfl (lv_at hl 1 rfl) ?_
          refine cx_topr (z := nI (xa.toNatClampNeg)) (cx_ixT (by omega) g8).1 ?_
          refine lv_iload_n hx hb dX6_fault_45 rfl (lv_at hl 2 rfl) ?_
          refine cx_cVi (As := [.int (nI (xa.toNatClampNeg)), .int xb]) (rest := []) ⟨hx, hb, hml, hown, hts⟩ hE hS (c_X1_kindAt l D q cI cJ n T k M d1_25 (cx_u (cx_u C 4 (fun _ => co_25)) 0 fo_25) J1_25 ga_25 xa.toNatClampNeg xb (by first | assumption | omega | rfl) (by first | assumption | omega | rfl) (by first | assumption | omega | rfl) (by first | assumption | omega | rfl) (by first | assumption | omega | rfl) (by first | assumption | omega | rfl) (by first | assumption | omega | rfl) (by first | assumption | omega | rfl) ((cx_ixT (by omega) g8).2) hp_25.2) (cwV 2 hts gX6_fault_X1_kindAt rfl rfl rfl (by decide +kernel) ⟨Nat.le_of_ble_eq_true rfl, Nat.le_of_ble_eq_true rfl⟩) 4 1 rfl rfl rfl hl.1 rfl (Nat.le_of_ble_eq_true rfl) ⟨Nat.zero_le _, Nat.zero_le _⟩ dX6_fault_46 (fun r_46 u_46 H locs hp_46 hS => ?_)
          obtain ⟨co_46, d1_46, fo_46, J1_46, ga_46⟩ := u_46
          have hS : cx_S D vwCl A s (cxW q cI cJ n T k M d1_46 (cx_u (cx_u C 4 (fun _ => co_46)) 0 fo_46) J1_46 ga_46) H locs := hS
          have hp_46 : (∀ a, a < n → bt ((J1_46 1) 0) a = true → (¬ (J1_46 0) a ≤ 0 ↔ cx_AF n k ((T 0)) ((T 1)) ((T 2)) ((T 3)) M (cx_Uc T) (cx_Wc T) (cx_Vc T) (cx_Ac T n) a)) ∧ ((J1_46 2) 0 = -1 ∨ ∃ a, a < n ∧ (J1_46 2) 0 = nI a ∧ (cx_G ga_46 ↔ cx_AF n k ((T 0)) ((T 1)) ((T 2)) ((T 3)) M (cx_Uc T) (cx_Wc T) (cx_Vc T) (cx_Ac T n) a)) := hp_46
          refine lv_goto (tgt := 61) hx hb dX6_fault_49 (by decide) ?_
          exact J61 r_46 d1_46 fo_46 (fun _ => co_46) J1_46 ga_46 _ _ _ (by first | exact hp_46 | exact hp_58) hS (lv_sub hl [0, 1, 2, 3] rfl)
      · skip
        have g31 := cx_b0 h31
        exact J34 d1_25 fo_25 (fun _ => co_25) J1_25 ga_25 _ _ _ (by first | exact hCI | exact hp_25.2) hS (lv_sub hl [0, 1, 2, 3] rfl)
set_option maxHeartbeats 4000000 in
set_option maxRecDepth 100000 in
theorem c_X6_all (l : Launch) (D : va_G) (q : Nat → Nat) (cI cJ : ClassId) (n : Nat) (T : Nat → Nat → Int32) (k : Nat) (M : Nat → Nat → Int32) (d : Nat) (C : Nat → Nat → Int32) (J : Nat → Nat → Int32) (g : Nat → Int64) (hn : n ≤ 20) (hk : k ≤ 80) (hO : cx_R (M 0) 20) (hP : cx_P (T 3) 20) (hOn : ∀ j, j < k → (M 0 j).toNatClampNeg < n) (hR1 : cx_R (T 1) 16) (hR3 : cx_R (M 3) 16) (hB4 : cx_B4 n T) (hCI : (∀ a, a < n → bt ((J 1) 0) a = true → (¬ (J 0) a ≤ 0 ↔ cx_AF n k (T 0) (T 1) (T 2) (T 3) M (cx_Uc T) (cx_Wc T) (cx_Vc T) (cx_Ac T n) a)) ∧ ((J 2) 0 = -1 ∨ ∃ a, a < n ∧ (J 2) 0 = nI a ∧ (cx_G g ↔ cx_AF n k (T 0) (T 1) (T 2) (T 3) M (cx_Uc T) (cx_Wc T) (cx_Vc T) (cx_Ac T n) a))) : cx_Mi l D vwCl [(cI, .int), (cJ, .long)] cx_NW yX6_all wsX6_all ({ frames := 6, cells := 0, slots := 0, locals := 141 } : Room) [.ref (q 0)] (cxW q cI cJ n T k M d C J g) (fun (r : Int32) (uw : (Int32) × (Nat) × (Nat → Int32) × (Nat → Nat → Int32) × (Nat → Int64)) => (∀ a, a < n → bt ((uw.2.2.2.1 1) 0) a = true → (¬ (uw.2.2.2.1 0) a ≤ 0 ↔ cx_AF n k (T 0) (T 1) (T 2) (T 3) M (cx_Uc T) (cx_Wc T) (cx_Vc T) (cx_Ac T n) a)) ∧ ((uw.2.2.2.1 2) 0 = -1 ∨ ∃ a, a < n ∧ (uw.2.2.2.1 2) 0 = nI a ∧ (cx_G uw.2.2.2.2 ↔ cx_AF n k (T 0) (T 1) (T 2) (T 3) M (cx_Uc T) (cx_Wc T) (cx_Vc T) (cx_Ac T n) a))) (fun uw => (cxW q cI cJ n T k M uw.2.1 (cx_u (cx_u C 4 (fun _ => uw.1)) 0 uw.2.2.1) uw.2.2.2.1 uw.2.2.2.2)) := by
  refine cx_Mi.of (cc := cX6_all) (maxL := 3) cx_NW_ok (by decide) rfl (Nat.le_of_ble_eq_true rfl) ?_
  intro p e s m args below meth c Q A ls hx hb hml hown hts hE RET hS hl
  have hl : lv_has ls 3 [(0, .ref (q 0))] := hl
  have hown : s.vm.findClass RX6 = some m.cls := hown
  have hinX5 : ∀ w ∈ u_ws RX5 TX5 12, w ∈ wsX6_all := cx_mem [264, 265, 266, 267, 268, 269, 270, 271, 272, 273, 274, 275] (by decide +kernel)
  have hinX6 : ∀ w ∈ u_ws RX6 TX6 4, w ∈ wsX6_all := cx_mem [260, 261, 262, 263] (by decide +kernel)
  refine lv_iconst (v := (0 : Int32)) hx hb dX6_all_0 (by decide) ?_
  refine cx_topr (z := nI 0) (by decide) ?_
  refine lv_istore_n (lv' := [(1, .int (nI 0)), (0, .ref (q 0))]) hx hb dX6_all_1 rfl hl (by decide) rfl (fun ls hl => ?_)
  refine lv_iconst (v := (0 : Int32)) hx hb dX6_all_2 (by decide) ?_
  refine cx_topr (z := nI 0) (by decide) ?_
  refine lv_istore_n (lv' := [(2, .int (nI 0)), (1, .int (nI 0)), (0, .ref (q 0))]) hx hb dX6_all_3 rfl hl (by decide) rfl (fun ls hl => ?_)
  have J4 : ∀ (N : Nat) (v4_l1 : Int32) (i4 : Nat) (d_4 : Nat) (C_0_4 : Nat → Int32) (C_4_4 : Nat → Int32) (J_4 : Nat → Nat → Int32) (g_4 : Nat → Int64) (H : Heap) (locs : List Loc) (ls : Array Slot), (n - i4 < N) → (i4 ≤ n) → ((∀ a, a < n → bt ((J_4 1) 0) a = true → (¬ (J_4 0) a ≤ 0 ↔ cx_AF n k (T 0) (T 1) (T 2) (T 3) M (cx_Uc T) (cx_Wc T) (cx_Vc T) (cx_Ac T n) a)) ∧ ((J_4 2) 0 = -1 ∨ ∃ a, a < n ∧ (J_4 2) 0 = nI a ∧ (cx_G g_4 ↔ cx_AF n k (T 0) (T 1) (T 2) (T 3) M (cx_Uc T) (cx_Wc T) (cx_Vc T) (cx_Ac T n) a))) → cx_S D vwCl A s (cxW q cI cJ n T k M d_4 (cx_u (cx_u C 0 C_0_4) 4 C_4_4) J_4 g_4) H locs → lv_has ls 3 [(0, .ref (q 0)), (1, .int v4_l1), (2, .int (nI i4))] → W p l e ({ frames := 6, cells := 0, slots := 0, locals := 141 } : Room) s m args below meth c H locs 0 0 Q (F0 m 4 ls []) := by
    intro N4
    induction N4 with
    | zero => intro v4_l1 i4 d_4 C_0_4 C_4_4 J_4 g_4 H locs ls hN; exact absurd hN (by omega)
    | succ N4 ih4 =>
      intro v4_l1 i4 d_4 C_0_4 C_4_4 J_4 g_4 H locs ls hN4 hi4 hc hS hl
      refine lv_iload_n hx hb dX6_all_4 rfl (lv_at hl 2 rfl) ?_
      refine lv_aload_n hx hb dX6_all_5 rfl (lv_at hl 0 rfl) ?_
      refine cx_get (own := RX6) (index := 12) (C := RX6) (T := TX6) (N := 4) (k := 0) (ci := 6) (v := .ref (q 1)) hx hb hts hown hE hS hinX6 0 rfl rfl (by decide) (List.mem_of_getElem? (i := 1) rfl) rfl dX6_all_6 ?_
      refine cx_getN (own := RX6) (index := 47) (C := RX5) (T := TX5) (N := 12) (k := 11) (ci := 5) (host := "ClassRules") (v := .int (nI n)) hx hb hts hown hE hS hinX5 1 rfl rfl (by decide) (List.mem_of_getElem? (i := 17) rfl) rfl dX6_all_9 ?_
      refine lv_icmp_ge (tgt := 32) hx hb dX6_all_12 (by decide) (fun h12 => ?_) (fun h12 => ?_)
      · skip
        have g12 : n ≤ i4 := (nI_leI (a := n) (b := i4) (by omega) (by omega)).mp h12
        refine lv_iload_n hx hb dX6_all_32 rfl (lv_at hl 1 rfl) ?_
        exact RET _ (C_4_4 0, d_4, C_0_4, J_4, g_4) _ _ _ _ dX6_all_33 rfl hc hS
      · skip
        have g12 : ¬ (n ≤ i4) := fun z => h12 ((nI_leI (a := n) (b := i4) (by omega) (by omega)).mpr z)
        refine lv_iload_n hx hb dX6_all_15 rfl (lv_at hl 1 rfl) ?_
        refine lv_aload_n hx hb dX6_all_16 rfl (lv_at hl 0 rfl) ?_
        refine cx_get (own := RX6) (index := 39) (C := RX6) (T := TX6) (N := 4) (k := 3) (ci := 6) (v := .ref (q 4)) hx hb hts hown hE hS hinX6 0 rfl rfl (by decide) (List.mem_of_getElem? (i := 2) rfl) rfl dX6_all_17 ?_
        refine lv_iload_n hx hb dX6_all_20 rfl (lv_at hl 2 rfl) ?_
        refine cx_cVi (As := [.int (nI i4)]) (rest := [.int v4_l1]) ⟨hx, hb, hml, hown, hts⟩ hE hS (c_X1_countOf l D q cI cJ n T k M d_4 (cx_u (cx_u C 0 C_0_4) 4 C_4_4) J_4 g_4 i4 (by first | assumption | omega | rfl) (by first | assumption | omega | rfl) (by first | assumption | omega | rfl) (by first | assumption | omega | rfl) (by first | assumption | omega | rfl) (by first | assumption | omega | rfl) (by first | assumption | omega | rfl) (by first | assumption | omega | rfl) (by first | assumption | omega | rfl) hc) (cwV 1 hts gX6_all_X1_countOf rfl rfl rfl (by decide +kernel) ⟨Nat.le_of_ble_eq_true rfl, Nat.le_of_ble_eq_true rfl⟩) 4 1 rfl rfl rfl hl.1 rfl (Nat.le_of_ble_eq_true rfl) ⟨Nat.zero_le _, Nat.zero_le _⟩ dX6_all_21 (fun r_21 u_21 H locs hp_21 hS => ?_)
        obtain ⟨co_21, d1_21, fo_21, J1_21, ga_21⟩ := u_21
        have hS : cx_S D vwCl A s (cxW q cI cJ n T k M d1_21 (cx_u (cx_u C 4 (fun _ => co_21)) 0 fo_21) J1_21 ga_21) H locs := hS
        have hp_21 : (¬ r_21 ≤ 0 ↔ cx_AF n k ((T 0)) ((T 1)) ((T 2)) ((T 3)) M (cx_Uc T) (cx_Wc T) (cx_Vc T) (cx_Ac T n) i4) ∧ ((∀ a, a < n → bt ((J1_21 1) 0) a = true → (¬ (J1_21 0) a ≤ 0 ↔ cx_AF n k ((T 0)) ((T 1)) ((T 2)) ((T 3)) M (cx_Uc T) (cx_Wc T) (cx_Vc T) (cx_Ac T n) a)) ∧ ((J1_21 2) 0 = -1 ∨ ∃ a, a < n ∧ (J1_21 2) 0 = nI a ∧ (cx_G ga_21 ↔ cx_AF n k ((T 0)) ((T 1)) ((T 2)) ((T 3)) M (cx_Uc T) (cx_Wc T) (cx_Vc T) (cx_Ac T n) a))) := hp_21
        refine lv_iadd hx hb dX6_all_24 ?_
        refine lv_istore_n (lv' := [(1, .int (v4_l1 + r_21)), (0, .ref (q 0)), (2, .int (nI i4))]) hx hb dX6_all_25 rfl hl (by decide) rfl (fun ls hl => ?_)
        refine lv_iinc (v := nI (i4 + 1)) (lv' := [(2, .int (nI (i4 + 1))), (1, .int (v4_l1 + r_21)), (0, .ref (q 0))]) hx hb dX6_all_26 hl (k := 2) rfl (cx_inc _) (by decide) rfl (fun ls hl => ?_)
        refine lv_goto (tgt := 4) hx hb dX6_all_29 (by decide) ?_
        exact ih4 (v4_l1 + r_21) (i4 + 1) d1_21 fo_21 (fun _ => co_21) J1_21 ga_21 _ _ _ (by (try clear hp_21); (try clear hc); omega) (by (try clear hp_21); (try clear hc); omega) (by first | exact hCI | exact hp_21.2) hS (lv_sub hl [2, 1, 0] rfl)
  exact J4 (n - 0 + 1) (nI 0) 0 d (C 0) (C 4) J g _ _ _ (Nat.lt_succ_self _) (by (try clear hp_21); (try clear hc); omega) (by first | exact hCI | exact hp_21.2) hS (lv_sub hl [2, 1, 0] rfl)
set_option maxHeartbeats 4000000 in
set_option maxRecDepth 100000 in
theorem c_X6_is (l : Launch) (D : va_G) (q : Nat → Nat) (cI cJ : ClassId) (n : Nat) (T : Nat → Nat → Int32) (k : Nat) (M : Nat → Nat → Int32) (d : Nat) (C : Nat → Nat → Int32) (J : Nat → Nat → Int32) (g : Nat → Int64) (xa : Int32) (xb : Int32) (hn : n ≤ 20) (hk : k ≤ 80) (hO : cx_R (M 0) 20) (hP : cx_P (T 3) 20) : cx_Mi l D vwCl [(cI, .int), (cJ, .long)] cx_NW yX6_is wsX6_is ({ frames := 1, cells := 0, slots := 0, locals := 22 } : Room) [.ref (q 0), .int xa, .int xb] (cxW q cI cJ n T k M d C J g) (fun (r : Int32) (uw : Unit) => (¬ ((0 ≤ xa ∧ xa < nI n) ∧ (0 ≤ xb ∧ xb < nI n)) ∧ r = (-1 : Int32)) ∨ (((0 ≤ xa ∧ xa < nI n) ∧ (0 ≤ xb ∧ xb < nI n)) ∧ r = cx_b (nI (xa.toNatClampNeg) = xb ∨ ¬ ((((T 10) (xa.toNatClampNeg)) >>> (xb &&& 31)) &&& (1 : Int32)) = 0))) (fun _ => (cxW q cI cJ n T k M d C J g)) := by
  refine cx_Mi.of (cc := cX6_is) (maxL := 3) cx_NW_ok (by decide) rfl (Nat.le_of_ble_eq_true rfl) ?_
  intro p e s m args below meth c Q A ls hx hb hml hown hts hE RET hS hl
  have hl : lv_has ls 3 [(0, .ref (q 0)), (1, .int xa), (2, .int xb)] := hl
  have hown : s.vm.findClass RX6 = some m.cls := hown
  have hinX6 : ∀ w ∈ u_ws RX6 TX6 4, w ∈ wsX6_is := cx_mem [13, 14, 15, 16] (by decide +kernel)
  refine lv_aload_n hx hb dX6_is_0 rfl (lv_at hl 0 rfl) ?_
  refine cx_get (own := RX6) (index := 12) (C := RX6) (T := TX6) (N := 4) (k := 0) (ci := 6) (v := .ref (q 1)) hx hb hts hown hE hS hinX6 0 rfl rfl (by decide) (List.mem_of_getElem? (i := 1) rfl) rfl dX6_is_1 ?_
  refine lv_iload_n hx hb dX6_is_4 rfl (lv_at hl 1 rfl) ?_
  refine cx_cVi (As := [.int xa]) (rest := []) ⟨hx, hb, hml, hown, hts⟩ hE hS (c_X5_there l D q cI cJ n T k M d C J g xa ) (cwV 1 hts gX6_is_X5_there rfl rfl rfl (by decide +kernel) ⟨Nat.le_of_ble_eq_true rfl, Nat.le_of_ble_eq_true rfl⟩) 1 5 rfl rfl rfl hl.1 rfl (Nat.le_of_ble_eq_true rfl) ⟨Nat.zero_le _, Nat.zero_le _⟩ dX6_is_5 (fun r_5 u_5 H locs hp_5 hS => ?_)
  have hp_5 : r_5 = cx_b (0 ≤ xa ∧ xa < nI n) := hp_5
  subst hp_5
  have J22 : ∀ (H : Heap) (locs : List Loc) (ls : Array Slot), (¬ ((0 ≤ xa ∧ xa < nI n) ∧ (0 ≤ xb ∧ xb < nI n))) → cx_S D vwCl A s (cxW q cI cJ n T k M d C J g) H locs → lv_has ls 3 [(0, .ref (q 0)), (1, .int xa), (2, .int xb)] → W p l e ({ frames := 1, cells := 0, slots := 0, locals := 22 } : Room) s m args below meth c H locs 0 0 Q (F0 m 22 ls []) := by
    intro  H locs ls hb22 hS hl
    refine lv_iconst (v := (-1 : Int32)) hx hb dX6_is_22 (by decide) ?_
    exact RET _ () _ _ _ _ dX6_is_23 rfl (Or.inl ⟨hb22, rfl⟩) hS
  refine lv_if_eq (tgt := 22) hx hb dX6_is_8 (by decide) (fun h8 => ?_) (fun h8 => ?_)
  · skip
    have g8 := cx_b0 h8
    exact J22  _ _ _ (by first | exact fun z => g8 z.1 | exact fun z => g19 z.2) hS (lv_sub hl [0, 1, 2] rfl)
  · skip
    have g8 := cx_b1 h8
    refine lv_aload_n hx hb dX6_is_11 rfl (lv_at hl 0 rfl) ?_
    refine cx_get (own := RX6) (index := 12) (C := RX6) (T := TX6) (N := 4) (k := 0) (ci := 6) (v := .ref (q 1)) hx hb hts hown hE hS hinX6 0 rfl rfl (by decide) (List.mem_of_getElem? (i := 1) rfl) rfl dX6_is_12 ?_
    refine lv_iload_n hx hb dX6_is_15 rfl (lv_at hl 2 rfl) ?_
    refine cx_cVi (As := [.int xb]) (rest := []) ⟨hx, hb, hml, hown, hts⟩ hE hS (c_X5_there l D q cI cJ n T k M d C J g xb ) (cwV 1 hts gX6_is_X5_there rfl rfl rfl (by decide +kernel) ⟨Nat.le_of_ble_eq_true rfl, Nat.le_of_ble_eq_true rfl⟩) 1 5 rfl rfl rfl hl.1 rfl (Nat.le_of_ble_eq_true rfl) ⟨Nat.zero_le _, Nat.zero_le _⟩ dX6_is_16 (fun r_16 u_16 H locs hp_16 hS => ?_)
    have hp_16 : r_16 = cx_b (0 ≤ xb ∧ xb < nI n) := hp_16
    subst hp_16
    refine lv_if_ne (tgt := 24) hx hb dX6_is_19 (by decide) (fun h19 => ?_) (fun h19 => ?_)
    · skip
      have g19 := cx_b1 h19
      refine lv_aload_n hx hb dX6_is_24 rfl (lv_at hl 0 rfl) ?_
      refine cx_get (own := RX6) (index := 12) (C := RX6) (T := TX6) (N := 4) (k := 0) (ci := 6) (v := .ref (q 1)) hx hb hts hown hE hS hinX6 0 rfl rfl (by decide) (List.mem_of_getElem? (i := 1) rfl) rfl dX6_is_25 ?_
      refine lv_iload_n hx hb dX6_is_28 rfl (lv_at hl 1 rfl) ?_
      refine cx_topr (z := nI (xa.toNatClampNeg)) (cx_ixT (by omega) g8).1 ?_
      refine lv_iload_n hx hb dX6_is_29 rfl (lv_at hl 2 rfl) ?_
      refine cx_cVi (As := [.int (nI (xa.toNatClampNeg)), .int xb]) (rest := []) ⟨hx, hb, hml, hown, hts⟩ hE hS (c_X5_stands l D q cI cJ n T k M d C J g xa.toNatClampNeg xb (by have := (cx_ixT (by omega) g8).2; omega)) (cwV 2 hts gX6_is_X5_stands rfl rfl rfl (by decide +kernel) ⟨Nat.le_of_ble_eq_true rfl, Nat.le_of_ble_eq_true rfl⟩) 1 5 rfl rfl rfl hl.1 rfl (Nat.le_of_ble_eq_true rfl) ⟨Nat.zero_le _, Nat.zero_le _⟩ dX6_is_30 (fun r_30 u_30 H locs hp_30 hS => ?_)
      have hp_30 : r_30 = cx_b (nI xa.toNatClampNeg = xb ∨ ¬ (((((T 10)) xa.toNatClampNeg) >>> (xb &&& 31)) &&& (1 : Int32)) = 0) := hp_30
      subst hp_30
      have J41 : ∀ (v41_s0 : Int32) (H : Heap) (locs : List Loc) (ls : Array Slot), (v41_s0 = cx_b (nI (xa.toNatClampNeg) = xb ∨ ¬ ((((T 10) (xa.toNatClampNeg)) >>> (xb &&& 31)) &&& (1 : Int32)) = 0)) → cx_S D vwCl A s (cxW q cI cJ n T k M d C J g) H locs → lv_has ls 3 [(0, .ref (q 0)), (1, .int xa), (2, .int xb)] → W p l e ({ frames := 1, cells := 0, slots := 0, locals := 22 } : Room) s m args below meth c H locs 0 0 Q (F0 m 41 ls [.int v41_s0]) := by
        intro v41_s0 H locs ls h41 hS hl
        exact RET _ () _ _ _ _ dX6_is_41 rfl (Or.inr ⟨⟨g8, g19⟩, h41⟩) hS
      refine lv_if_eq (tgt := 40) hx hb dX6_is_33 (by decide) (fun h33 => ?_) (fun h33 => ?_)
      · skip
        have g33 := cx_b0 h33
        refine lv_iconst (v := (0 : Int32)) hx hb dX6_is_40 (by decide) ?_
        exact J41 (0 : Int32) _ _ _ (by first | exact cx_bt g33 | exact cx_bf g33) hS (lv_sub hl [0, 1, 2] rfl)
      · skip
        have g33 := cx_b1 h33
        refine lv_iconst (v := (1 : Int32)) hx hb dX6_is_36 (by decide) ?_
        refine lv_goto (tgt := 41) hx hb dX6_is_37 (by decide) ?_
        exact J41 (1 : Int32) _ _ _ (by first | exact cx_bt g33 | exact cx_bf g33) hS (lv_sub hl [0, 1, 2] rfl)
    · skip
      have g19 := cx_b0 h19
      exact J22  _ _ _ (by first | exact fun z => g8 z.1 | exact fun z => g19 z.2) hS (lv_sub hl [0, 1, 2] rfl)
set_option maxHeartbeats 4000000 in
set_option maxRecDepth 100000 in
theorem c_X6_runs (l : Launch) (D : va_G) (q : Nat → Nat) (cI cJ : ClassId) (n : Nat) (T : Nat → Nat → Int32) (k : Nat) (M : Nat → Nat → Int32) (d : Nat) (C : Nat → Nat → Int32) (J : Nat → Nat → Int32) (g : Nat → Int64) (xa : Int32) (xb : Int32) (xe : Int32) (hn : n ≤ 20) (hk : k ≤ 80) (hO : cx_R (M 0) 20) (hP : cx_P (T 3) 20) (hOn : ∀ j, j < k → (M 0 j).toNatClampNeg < n) (hR1 : cx_R (T 1) 16) (hR3 : cx_R (M 3) 16) (hB4 : cx_B4 n T) (hCI : (∀ a, a < n → bt ((J 1) 0) a = true → (¬ (J 0) a ≤ 0 ↔ cx_AF n k (T 0) (T 1) (T 2) (T 3) M (cx_Uc T) (cx_Wc T) (cx_Vc T) (cx_Ac T n) a)) ∧ ((J 2) 0 = -1 ∨ ∃ a, a < n ∧ (J 2) 0 = nI a ∧ (cx_G g ↔ cx_AF n k (T 0) (T 1) (T 2) (T 3) M (cx_Uc T) (cx_Wc T) (cx_Vc T) (cx_Ac T n) a))) : cx_Mi l D vwCl [(cI, .int), (cJ, .long)] cx_NW yX6_runs wsX6_runs ({ frames := 7, cells := 0, slots := 0, locals := 163 } : Room) [.ref (q 0), .int xa, .int xb, .int xe] (cxW q cI cJ n T k M d C J g) (fun (r : Int32) (uw : (Int32) × (Nat) × (Nat → Int32) × (Nat → Nat → Int32) × (Nat → Int64)) => ((¬ ((0 ≤ xa ∧ xa < nI n) ∧ (0 ≤ xb ∧ xb < nI 10) ∧ (0 ≤ xe ∧ xe < nI 5)) ∧ r = (-1 : Int32)) ∨ (((0 ≤ xa ∧ xa < nI n) ∧ (0 ≤ xb ∧ xb < nI 10) ∧ (0 ≤ xe ∧ xe < nI 5)) ∧ cx_WR n k (T 0) (T 1) (T 2) (T 3) M (cx_Uc T) (cx_Wc T) (cx_Vc T) (cx_Ac T n) (xa.toNatClampNeg) ∧ r = (-4 : Int32)) ∨ (((0 ≤ xa ∧ xa < nI n) ∧ (0 ≤ xb ∧ xb < nI 10) ∧ (0 ≤ xe ∧ xe < nI 5)) ∧ ¬ cx_WR n k (T 0) (T 1) (T 2) (T 3) M (cx_Uc T) (cx_Wc T) (cx_Vc T) (cx_Ac T n) (xa.toNatClampNeg) ∧ ∃ r0 : Int32, cx_rn n k (T 0) (T 2) (T 3) M (cx_Ac T n) (xa.toNatClampNeg) xb xe r0 ∧ ((r0 = -1 ∧ r = (-3 : Int32)) ∨ (¬ r0 = -1 ∧ r = r0)))) ∧ ((∀ a, a < n → bt ((uw.2.2.2.1 1) 0) a = true → (¬ (uw.2.2.2.1 0) a ≤ 0 ↔ cx_AF n k (T 0) (T 1) (T 2) (T 3) M (cx_Uc T) (cx_Wc T) (cx_Vc T) (cx_Ac T n) a)) ∧ ((uw.2.2.2.1 2) 0 = -1 ∨ ∃ a, a < n ∧ (uw.2.2.2.1 2) 0 = nI a ∧ (cx_G uw.2.2.2.2 ↔ cx_AF n k (T 0) (T 1) (T 2) (T 3) M (cx_Uc T) (cx_Wc T) (cx_Vc T) (cx_Ac T n) a)))) (fun uw => (cxW q cI cJ n T k M uw.2.1 (cx_u (cx_u C 4 (fun _ => uw.1)) 0 uw.2.2.1) uw.2.2.2.1 uw.2.2.2.2)) := by
  refine cx_Mi.of (cc := cX6_runs) (maxL := 4) cx_NW_ok (by decide) rfl (Nat.le_of_ble_eq_true rfl) ?_
  intro p e s m args below meth c Q A ls hx hb hml hown hts hE RET hS hl
  have hl : lv_has ls 4 [(0, .ref (q 0)), (1, .int xa), (2, .int xb), (3, .int xe)] := hl
  have hown : s.vm.findClass RX6 = some m.cls := hown
  have hinX6 : ∀ w ∈ u_ws RX6 TX6 4, w ∈ wsX6_runs := cx_mem [284, 285, 286, 287] (by decide +kernel)
  refine lv_aload_n hx hb dX6_runs_0 rfl (lv_at hl 0 rfl) ?_
  refine cx_get (own := RX6) (index := 12) (C := RX6) (T := TX6) (N := 4) (k := 0) (ci := 6) (v := .ref (q 1)) hx hb hts hown hE hS hinX6 0 rfl rfl (by decide) (List.mem_of_getElem? (i := 1) rfl) rfl dX6_runs_1 ?_
  refine lv_iload_n hx hb dX6_runs_4 rfl (lv_at hl 1 rfl) ?_
  refine cx_cVi (As := [.int xa]) (rest := []) ⟨hx, hb, hml, hown, hts⟩ hE hS (c_X5_there l D q cI cJ n T k M d C J g xa ) (cwV 1 hts gX6_runs_X5_there rfl rfl rfl (by decide +kernel) ⟨Nat.le_of_ble_eq_true rfl, Nat.le_of_ble_eq_true rfl⟩) 1 5 rfl rfl rfl hl.1 rfl (Nat.le_of_ble_eq_true rfl) ⟨Nat.zero_le _, Nat.zero_le _⟩ dX6_runs_5 (fun r_5 u_5 H locs hp_5 hS => ?_)
  have hp_5 : r_5 = cx_b (0 ≤ xa ∧ xa < nI n) := hp_5
  subst hp_5
  have J28 : ∀ (H : Heap) (locs : List Loc) (ls : Array Slot), (¬ ((0 ≤ xa ∧ xa < nI n) ∧ (0 ≤ xb ∧ xb < nI 10) ∧ (0 ≤ xe ∧ xe < nI 5))) → cx_S D vwCl A s (cxW q cI cJ n T k M d C J g) H locs → lv_has ls 4 [(0, .ref (q 0)), (1, .int xa), (2, .int xb), (3, .int xe)] → W p l e ({ frames := 7, cells := 0, slots := 0, locals := 163 } : Room) s m args below meth c H locs 0 0 Q (F0 m 28 ls []) := by
    intro  H locs ls hb28 hS hl
    refine lv_iconst (v := (-1 : Int32)) hx hb dX6_runs_28 (by decide) ?_
    exact RET _ ((C 4) 0, d, C 0, J, g) _ _ _ _ dX6_runs_29 rfl (⟨Or.inl ⟨hb28, rfl⟩, hCI⟩) hS
  refine lv_if_eq (tgt := 28) hx hb dX6_runs_8 (by decide) (fun h8 => ?_) (fun h8 => ?_)
  · skip
    have g8 := cx_b0 h8
    exact J28  _ _ _ (by first | exact fun z => g8 z.1 | exact fun z => g17 z.2.1 | exact fun z => g25 z.2.2) hS (lv_sub hl [0, 1, 2, 3] rfl)
  · skip
    have g8 := cx_b1 h8
    refine lv_iload_n hx hb dX6_runs_11 rfl (lv_at hl 2 rfl) ?_
    refine lv_bipush (v := nI 10) hx hb dX6_runs_12 (by decide) ?_
    refine cx_cSi (As := [.int xb, .int (nI 10)]) (rest := []) ⟨hx, hb, hml, hown, hts⟩ hE hS (c_X6_within l D [(cI, .int), (cJ, .long)] (cxW q cI cJ n T k M d C J g) xb (nI 10) ) (va_cwS 2 hts gX6_runs_X6_within rfl rfl rfl (by decide +kernel) ⟨Nat.le_of_ble_eq_true rfl, Nat.le_of_ble_eq_true rfl⟩) rfl hl.1 rfl (Nat.le_of_ble_eq_true rfl) ⟨Nat.zero_le _, Nat.zero_le _⟩ dX6_runs_14 (fun r_14 u_14 H locs hp_14 hS => ?_)
    have hp_14 : r_14 = cx_b (0 ≤ xb ∧ xb < (nI 10)) := hp_14
    subst hp_14
    refine lv_if_eq (tgt := 28) hx hb dX6_runs_17 (by decide) (fun h17 => ?_) (fun h17 => ?_)
    · skip
      have g17 := cx_b0 h17
      exact J28  _ _ _ (by first | exact fun z => g8 z.1 | exact fun z => g17 z.2.1 | exact fun z => g25 z.2.2) hS (lv_sub hl [0, 1, 2, 3] rfl)
    · skip
      have g17 := cx_b1 h17
      refine lv_iload_n hx hb dX6_runs_20 rfl (lv_at hl 3 rfl) ?_
      refine lv_iconst (v := nI 5) hx hb dX6_runs_21 (by decide) ?_
      refine cx_cSi (As := [.int xe, .int (nI 5)]) (rest := []) ⟨hx, hb, hml, hown, hts⟩ hE hS (c_X6_within l D [(cI, .int), (cJ, .long)] (cxW q cI cJ n T k M d C J g) xe (nI 5) ) (va_cwS 2 hts gX6_runs_X6_within rfl rfl rfl (by decide +kernel) ⟨Nat.le_of_ble_eq_true rfl, Nat.le_of_ble_eq_true rfl⟩) rfl hl.1 rfl (Nat.le_of_ble_eq_true rfl) ⟨Nat.zero_le _, Nat.zero_le _⟩ dX6_runs_22 (fun r_22 u_22 H locs hp_22 hS => ?_)
      have hp_22 : r_22 = cx_b (0 ≤ xe ∧ xe < (nI 5)) := hp_22
      subst hp_22
      refine lv_if_ne (tgt := 30) hx hb dX6_runs_25 (by decide) (fun h25 => ?_) (fun h25 => ?_)
      · skip
        have g25 := cx_b1 h25
        refine lv_aload_n hx hb dX6_runs_30 rfl (lv_at hl 0 rfl) ?_
        refine lv_iload_n hx hb dX6_runs_31 rfl (lv_at hl 1 rfl) ?_
        refine cx_topr (z := nI (xa.toNatClampNeg)) (cx_ixT (by omega) g8).1 ?_
        refine cx_cVi (As := [.int (nI (xa.toNatClampNeg))]) (rest := []) ⟨hx, hb, hml, hown, hts⟩ hE hS (c_X6_canBeMade l D q cI cJ n T k M d C J g xa.toNatClampNeg (by first | assumption | omega | rfl) (by first | assumption | omega | rfl) (by first | assumption | omega | rfl) (by first | assumption | omega | rfl) (by first | assumption | omega | rfl) (by first | assumption | omega | rfl) (by first | assumption | omega | rfl) (by first | assumption | omega | rfl) (by first | assumption | omega | rfl) ((cx_ixT (by omega) g8).2)) (cwV 1 hts gX6_runs_X6_canBeMade rfl rfl rfl (by decide +kernel) ⟨Nat.le_of_ble_eq_true rfl, Nat.le_of_ble_eq_true rfl⟩) 0 6 rfl rfl rfl hl.1 rfl (Nat.le_of_ble_eq_true rfl) ⟨Nat.zero_le _, Nat.zero_le _⟩ dX6_runs_32 (fun r_32 u_32 H locs hp_32 hS => ?_)
        obtain ⟨co_32, d1_32, fo_32, J1_32, ga_32⟩ := u_32
        have hS : cx_S D vwCl A s (cxW q cI cJ n T k M d1_32 (cx_u (cx_u C 4 (fun _ => co_32)) 0 fo_32) J1_32 ga_32) H locs := hS
        have hp_32 : ((r_32 = 0 ∨ r_32 = 1) ∧ (¬ r_32 = 0 ↔ ¬ cx_WR n k ((T 0)) ((T 1)) ((T 2)) ((T 3)) M (cx_Uc T) (cx_Wc T) (cx_Vc T) (cx_Ac T n) xa.toNatClampNeg)) ∧ ((∀ a, a < n → bt ((J1_32 1) 0) a = true → (¬ (J1_32 0) a ≤ 0 ↔ cx_AF n k ((T 0)) ((T 1)) ((T 2)) ((T 3)) M (cx_Uc T) (cx_Wc T) (cx_Vc T) (cx_Ac T n) a)) ∧ ((J1_32 2) 0 = -1 ∨ ∃ a, a < n ∧ (J1_32 2) 0 = nI a ∧ (cx_G ga_32 ↔ cx_AF n k ((T 0)) ((T 1)) ((T 2)) ((T 3)) M (cx_Uc T) (cx_Wc T) (cx_Vc T) (cx_Ac T n) a))) := hp_32
        refine lv_if_ne (tgt := 41) hx hb dX6_runs_35 (by decide) (fun h35 => ?_) (fun h35 => ?_)
        · skip
          refine lv_aload_n hx hb dX6_runs_41 rfl (lv_at hl 0 rfl) ?_
          refine cx_get (own := RX6) (index := 30) (C := RX6) (T := TX6) (N := 4) (k := 2) (ci := 6) (v := .ref (q 3)) hx hb hts hown hE hS hinX6 0 rfl rfl (by decide) (List.mem_of_getElem? (i := 2) rfl) rfl dX6_runs_42 ?_
          refine lv_iload_n hx hb dX6_runs_45 rfl (lv_at hl 1 rfl) ?_
          refine cx_topr (z := nI (xa.toNatClampNeg)) (cx_ixT (by omega) g8).1 ?_
          refine lv_iload_n hx hb dX6_runs_46 rfl (lv_at hl 2 rfl) ?_
          refine lv_iload_n hx hb dX6_runs_47 rfl (lv_at hl 3 rfl) ?_
          refine cx_cVi (As := [.int (nI (xa.toNatClampNeg)), .int xb, .int xe]) (rest := []) ⟨hx, hb, hml, hown, hts⟩ hE hS (c_X0_running l D q cI cJ n T k M d1_32 (cx_u (cx_u C 4 (fun _ => co_32)) 0 fo_32) J1_32 ga_32 xa.toNatClampNeg xb xe (by first | assumption | omega | rfl) (by first | assumption | omega | rfl) ((cx_ixT (by omega) g8).2) (by first | assumption | omega | rfl) (by first | assumption | omega | rfl) (by first | assumption | omega | rfl)) (cwV 3 hts gX6_runs_X0_running rfl rfl rfl (by decide +kernel) ⟨Nat.le_of_ble_eq_true rfl, Nat.le_of_ble_eq_true rfl⟩) 3 0 rfl rfl rfl hl.1 rfl (Nat.le_of_ble_eq_true rfl) ⟨Nat.zero_le _, Nat.zero_le _⟩ dX6_runs_48 (fun r_48 u_48 H locs hp_48 hS => ?_)
          obtain ⟨co_48, d1_48, fo_48⟩ := u_48
          have hS : cx_S D vwCl A s (cxW q cI cJ n T k M d1_48 (cx_u (cx_u C 4 (fun _ => co_48)) 0 fo_48) J1_32 ga_32) H locs := hS
          have hp_48 : (cx_rn n k ((T 0)) ((T 2)) ((T 3)) M (cx_Ac T n) xa.toNatClampNeg xb xe r_48) ∧ (r_48 = -1 ∨ cx_ix r_48 80) := hp_48
          refine cx_cSi (As := [.int r_48]) (rest := []) ⟨hx, hb, hml, hown, hts⟩ hE hS (c_X6_orNone l D [(cI, .int), (cJ, .long)] (cxW q cI cJ n T k M d1_48 (cx_u (cx_u C 4 (fun _ => co_48)) 0 fo_48) J1_32 ga_32) r_48 ) (va_cwS 1 hts gX6_runs_X6_orNone rfl rfl rfl (by decide +kernel) ⟨Nat.le_of_ble_eq_true rfl, Nat.le_of_ble_eq_true rfl⟩) rfl hl.1 rfl (Nat.le_of_ble_eq_true rfl) ⟨Nat.zero_le _, Nat.zero_le _⟩ dX6_runs_51 (fun r_51 u_51 H locs hp_51 hS => ?_)
          have hp_51 : (r_48 = -1 ∧ r_51 = (-3 : Int32)) ∨ (¬ r_48 = -1 ∧ r_51 = r_48) := hp_51
          exact RET _ (co_48, d1_48, fo_48, J1_32, ga_32) _ _ _ _ dX6_runs_54 rfl (⟨Or.inr (Or.inr ⟨⟨g8, g17, g25⟩, hp_32.1.2.mp h35, _, hp_48.1, hp_51⟩), hp_32.2⟩) hS
        · skip
          refine lv_bipush (v := (-4 : Int32)) hx hb dX6_runs_38 (by decide) ?_
          exact RET _ (co_32, d1_32, fo_32, J1_32, ga_32) _ _ _ _ dX6_runs_40 rfl (⟨Or.inr (Or.inl ⟨⟨g8, g17, g25⟩, Classical.not_not.mp (fun z => (hp_32.1.2.mpr z) h35), rfl⟩), hp_32.2⟩) hS
      · skip
        have g25 := cx_b0 h25
        exact J28  _ _ _ (by first | exact fun z => g8 z.1 | exact fun z => g17 z.2.1 | exact fun z => g25 z.2.2) hS (lv_sub hl [0, 1, 2, 3] rfl)
set_option maxHeartbeats 4000000 in
set_option maxRecDepth 100000 in
theorem c_X6_call (l : Launch) (D : va_G) (q : Nat → Nat) (cI cJ : ClassId) (n : Nat) (T : Nat → Nat → Int32) (k : Nat) (M : Nat → Nat → Int32) (d : Nat) (C : Nat → Nat → Int32) (J : Nat → Nat → Int32) (g : Nat → Int64) (xa : Int32) (xb : Int32) (xe : Int32) (xf : Int32) (hn : n ≤ 20) (hk : k ≤ 80) (hO : cx_R (M 0) 20) (hP : cx_P (T 3) 20) (hOn : ∀ j, j < k → (M 0 j).toNatClampNeg < n) (hR1 : cx_R (T 1) 16) (hR3 : cx_R (M 3) 16) (hB4 : cx_B4 n T) (hCI : (∀ a, a < n → bt ((J 1) 0) a = true → (¬ (J 0) a ≤ 0 ↔ cx_AF n k (T 0) (T 1) (T 2) (T 3) M (cx_Uc T) (cx_Wc T) (cx_Vc T) (cx_Ac T n) a)) ∧ ((J 2) 0 = -1 ∨ ∃ a, a < n ∧ (J 2) 0 = nI a ∧ (cx_G g ↔ cx_AF n k (T 0) (T 1) (T 2) (T 3) M (cx_Uc T) (cx_Wc T) (cx_Vc T) (cx_Ac T n) a))) (hAX : cx_AX n (T 3) (cx_Uc T) (cx_Ac T n)) : cx_Mi l D vwCl [(cI, .int), (cJ, .long)] cx_NW yX6_call wsX6_call ({ frames := 7, cells := 0, slots := 0, locals := 163 } : Room) [.ref (q 0), .int xa, .int xb, .int xe, .int xf] (cxW q cI cJ n T k M d C J g) (fun (r : Int32) (uw : (Int32) × (Nat) × (Nat → Int32) × (Nat → Int32) × (Nat → Int32) × (Nat → Nat → Int32) × (Nat → Int64)) => ((¬ ((0 ≤ xa ∧ xa < nI n) ∧ (0 ≤ xb ∧ xb < nI n) ∧ (0 ≤ xe ∧ xe < nI 10) ∧ (0 ≤ xf ∧ xf < nI 5)) ∧ r = (-1 : Int32)) ∨ (((0 ≤ xa ∧ xa < nI n) ∧ (0 ≤ xb ∧ xb < nI n) ∧ (0 ≤ xe ∧ xe < nI 10) ∧ (0 ≤ xf ∧ xf < nI 5)) ∧ (cx_WR n k (T 0) (T 1) (T 2) (T 3) M (cx_Uc T) (cx_Wc T) (cx_Vc T) (cx_Ac T n) (xb.toNatClampNeg) ∨ ¬ cx_is (cx_Ac T n) (xb.toNatClampNeg) (xa.toNatClampNeg)) ∧ r = (-4 : Int32)) ∨ (((0 ≤ xa ∧ xa < nI n) ∧ (0 ≤ xb ∧ xb < nI n) ∧ (0 ≤ xe ∧ xe < nI 10) ∧ (0 ≤ xf ∧ xf < nI 5)) ∧ ¬ (cx_WR n k (T 0) (T 1) (T 2) (T 3) M (cx_Uc T) (cx_Wc T) (cx_Vc T) (cx_Ac T n) (xb.toNatClampNeg) ∨ ¬ cx_is (cx_Ac T n) (xb.toNatClampNeg) (xa.toNatClampNeg)) ∧ ∃ r0 : Int32, cx_cal n k (T 0) (T 2) (T 3) M (cx_Ac T n) (xa.toNatClampNeg) (xb.toNatClampNeg) xe xf r0 ∧ ((r0 = -1 ∧ r = (-3 : Int32)) ∨ (¬ r0 = -1 ∧ r = r0)))) ∧ ((∀ a, a < n → bt ((uw.2.2.2.2.2.1 1) 0) a = true → (¬ (uw.2.2.2.2.2.1 0) a ≤ 0 ↔ cx_AF n k (T 0) (T 1) (T 2) (T 3) M (cx_Uc T) (cx_Wc T) (cx_Vc T) (cx_Ac T n) a)) ∧ ((uw.2.2.2.2.2.1 2) 0 = -1 ∨ ∃ a, a < n ∧ (uw.2.2.2.2.2.1 2) 0 = nI a ∧ (cx_G uw.2.2.2.2.2.2 ↔ cx_AF n k (T 0) (T 1) (T 2) (T 3) M (cx_Uc T) (cx_Wc T) (cx_Vc T) (cx_Ac T n) a)))) (fun uw => (cxW q cI cJ n T k M uw.2.1 (cx_u (cx_u (cx_u (cx_u C 4 (fun _ => uw.1)) 0 uw.2.2.1) 1 uw.2.2.2.1) 2 uw.2.2.2.2.1) uw.2.2.2.2.2.1 uw.2.2.2.2.2.2)) := by
  refine cx_Mi.of (cc := cX6_call) (maxL := 5) cx_NW_ok (by decide) rfl (Nat.le_of_ble_eq_true rfl) ?_
  intro p e s m args below meth c Q A ls hx hb hml hown hts hE RET hS hl
  have hl : lv_has ls 5 [(0, .ref (q 0)), (1, .int xa), (2, .int xb), (3, .int xe), (4, .int xf)] := hl
  have hown : s.vm.findClass RX6 = some m.cls := hown
  have hinX6 : ∀ w ∈ u_ws RX6 TX6 4, w ∈ wsX6_call := cx_mem [312, 313, 314, 315] (by decide +kernel)
  refine lv_aload_n hx hb dX6_call_0 rfl (lv_at hl 0 rfl) ?_
  refine cx_get (own := RX6) (index := 12) (C := RX6) (T := TX6) (N := 4) (k := 0) (ci := 6) (v := .ref (q 1)) hx hb hts hown hE hS hinX6 0 rfl rfl (by decide) (List.mem_of_getElem? (i := 1) rfl) rfl dX6_call_1 ?_
  refine lv_iload_n hx hb dX6_call_4 rfl (lv_at hl 1 rfl) ?_
  refine cx_cVi (As := [.int xa]) (rest := []) ⟨hx, hb, hml, hown, hts⟩ hE hS (c_X5_there l D q cI cJ n T k M d C J g xa ) (cwV 1 hts gX6_call_X5_there rfl rfl rfl (by decide +kernel) ⟨Nat.le_of_ble_eq_true rfl, Nat.le_of_ble_eq_true rfl⟩) 1 5 rfl rfl rfl hl.1 rfl (Nat.le_of_ble_eq_true rfl) ⟨Nat.zero_le _, Nat.zero_le _⟩ dX6_call_5 (fun r_5 u_5 H locs hp_5 hS => ?_)
  have hp_5 : r_5 = cx_b (0 ≤ xa ∧ xa < nI n) := hp_5
  subst hp_5
  have J40 : ∀ (H : Heap) (locs : List Loc) (ls : Array Slot), (¬ ((0 ≤ xa ∧ xa < nI n) ∧ (0 ≤ xb ∧ xb < nI n) ∧ (0 ≤ xe ∧ xe < nI 10) ∧ (0 ≤ xf ∧ xf < nI 5))) → cx_S D vwCl A s (cxW q cI cJ n T k M d C J g) H locs → lv_has ls 5 [(0, .ref (q 0)), (1, .int xa), (2, .int xb), (3, .int xe), (4, .int xf)] → W p l e ({ frames := 7, cells := 0, slots := 0, locals := 163 } : Room) s m args below meth c H locs 0 0 Q (F0 m 40 ls []) := by
    intro  H locs ls hb40 hS hl
    refine lv_iconst (v := (-1 : Int32)) hx hb dX6_call_40 (by decide) ?_
    exact RET _ ((C 4) 0, d, C 0, C 1, C 2, J, g) _ _ _ _ dX6_call_41 rfl (⟨Or.inl ⟨hb40, rfl⟩, hCI⟩) hS
  refine lv_if_eq (tgt := 40) hx hb dX6_call_8 (by decide) (fun h8 => ?_) (fun h8 => ?_)
  · skip
    have g8 := cx_b0 h8
    exact J40  _ _ _ (by first | exact fun z => g8 z.1 | exact fun z => g19 z.2.1 | exact fun z => g28 z.2.2.1 | exact fun z => g37 z.2.2.2) hS (lv_sub hl [0, 1, 2, 3, 4] rfl)
  · skip
    have g8 := cx_b1 h8
    refine lv_aload_n hx hb dX6_call_11 rfl (lv_at hl 0 rfl) ?_
    refine cx_get (own := RX6) (index := 12) (C := RX6) (T := TX6) (N := 4) (k := 0) (ci := 6) (v := .ref (q 1)) hx hb hts hown hE hS hinX6 0 rfl rfl (by decide) (List.mem_of_getElem? (i := 1) rfl) rfl dX6_call_12 ?_
    refine lv_iload_n hx hb dX6_call_15 rfl (lv_at hl 2 rfl) ?_
    refine cx_cVi (As := [.int xb]) (rest := []) ⟨hx, hb, hml, hown, hts⟩ hE hS (c_X5_there l D q cI cJ n T k M d C J g xb ) (cwV 1 hts gX6_call_X5_there rfl rfl rfl (by decide +kernel) ⟨Nat.le_of_ble_eq_true rfl, Nat.le_of_ble_eq_true rfl⟩) 1 5 rfl rfl rfl hl.1 rfl (Nat.le_of_ble_eq_true rfl) ⟨Nat.zero_le _, Nat.zero_le _⟩ dX6_call_16 (fun r_16 u_16 H locs hp_16 hS => ?_)
    have hp_16 : r_16 = cx_b (0 ≤ xb ∧ xb < nI n) := hp_16
    subst hp_16
    refine lv_if_eq (tgt := 40) hx hb dX6_call_19 (by decide) (fun h19 => ?_) (fun h19 => ?_)
    · skip
      have g19 := cx_b0 h19
      exact J40  _ _ _ (by first | exact fun z => g8 z.1 | exact fun z => g19 z.2.1 | exact fun z => g28 z.2.2.1 | exact fun z => g37 z.2.2.2) hS (lv_sub hl [0, 1, 2, 3, 4] rfl)
    · skip
      have g19 := cx_b1 h19
      refine lv_iload_n hx hb dX6_call_22 rfl (lv_at hl 3 rfl) ?_
      refine lv_bipush (v := nI 10) hx hb dX6_call_23 (by decide) ?_
      refine cx_cSi (As := [.int xe, .int (nI 10)]) (rest := []) ⟨hx, hb, hml, hown, hts⟩ hE hS (c_X6_within l D [(cI, .int), (cJ, .long)] (cxW q cI cJ n T k M d C J g) xe (nI 10) ) (va_cwS 2 hts gX6_call_X6_within rfl rfl rfl (by decide +kernel) ⟨Nat.le_of_ble_eq_true rfl, Nat.le_of_ble_eq_true rfl⟩) rfl hl.1 rfl (Nat.le_of_ble_eq_true rfl) ⟨Nat.zero_le _, Nat.zero_le _⟩ dX6_call_25 (fun r_25 u_25 H locs hp_25 hS => ?_)
      have hp_25 : r_25 = cx_b (0 ≤ xe ∧ xe < (nI 10)) := hp_25
      subst hp_25
      refine lv_if_eq (tgt := 40) hx hb dX6_call_28 (by decide) (fun h28 => ?_) (fun h28 => ?_)
      · skip
        have g28 := cx_b0 h28
        exact J40  _ _ _ (by first | exact fun z => g8 z.1 | exact fun z => g19 z.2.1 | exact fun z => g28 z.2.2.1 | exact fun z => g37 z.2.2.2) hS (lv_sub hl [0, 1, 2, 3, 4] rfl)
      · skip
        have g28 := cx_b1 h28
        refine lv_iload hx hb dX6_call_31 (lv_at hl 4 rfl) ?_
        refine lv_iconst (v := nI 5) hx hb dX6_call_33 (by decide) ?_
        refine cx_cSi (As := [.int xf, .int (nI 5)]) (rest := []) ⟨hx, hb, hml, hown, hts⟩ hE hS (c_X6_within l D [(cI, .int), (cJ, .long)] (cxW q cI cJ n T k M d C J g) xf (nI 5) ) (va_cwS 2 hts gX6_call_X6_within rfl rfl rfl (by decide +kernel) ⟨Nat.le_of_ble_eq_true rfl, Nat.le_of_ble_eq_true rfl⟩) rfl hl.1 rfl (Nat.le_of_ble_eq_true rfl) ⟨Nat.zero_le _, Nat.zero_le _⟩ dX6_call_34 (fun r_34 u_34 H locs hp_34 hS => ?_)
        have hp_34 : r_34 = cx_b (0 ≤ xf ∧ xf < (nI 5)) := hp_34
        subst hp_34
        refine lv_if_ne (tgt := 42) hx hb dX6_call_37 (by decide) (fun h37 => ?_) (fun h37 => ?_)
        · skip
          have g37 := cx_b1 h37
          refine lv_aload_n hx hb dX6_call_42 rfl (lv_at hl 0 rfl) ?_
          refine lv_iload_n hx hb dX6_call_43 rfl (lv_at hl 2 rfl) ?_
          refine cx_topr (z := nI (xb.toNatClampNeg)) (cx_ixT (by omega) g19).1 ?_
          refine cx_cVi (As := [.int (nI (xb.toNatClampNeg))]) (rest := []) ⟨hx, hb, hml, hown, hts⟩ hE hS (c_X6_canBeMade l D q cI cJ n T k M d C J g xb.toNatClampNeg (by first | assumption | omega | rfl) (by first | assumption | omega | rfl) (by first | assumption | omega | rfl) (by first | assumption | omega | rfl) (by first | assumption | omega | rfl) (by first | assumption | omega | rfl) (by first | assumption | omega | rfl) (by first | assumption | omega | rfl) (by first | assumption | omega | rfl) ((cx_ixT (by omega) g19).2)) (cwV 1 hts gX6_call_X6_canBeMade rfl rfl rfl (by decide +kernel) ⟨Nat.le_of_ble_eq_true rfl, Nat.le_of_ble_eq_true rfl⟩) 0 6 rfl rfl rfl hl.1 rfl (Nat.le_of_ble_eq_true rfl) ⟨Nat.zero_le _, Nat.zero_le _⟩ dX6_call_44 (fun r_44 u_44 H locs hp_44 hS => ?_)
          obtain ⟨co_44, d1_44, fo_44, J1_44, ga_44⟩ := u_44
          have hS : cx_S D vwCl A s (cxW q cI cJ n T k M d1_44 (cx_u (cx_u C 4 (fun _ => co_44)) 0 fo_44) J1_44 ga_44) H locs := hS
          have hp_44 : ((r_44 = 0 ∨ r_44 = 1) ∧ (¬ r_44 = 0 ↔ ¬ cx_WR n k ((T 0)) ((T 1)) ((T 2)) ((T 3)) M (cx_Uc T) (cx_Wc T) (cx_Vc T) (cx_Ac T n) xb.toNatClampNeg)) ∧ ((∀ a, a < n → bt ((J1_44 1) 0) a = true → (¬ (J1_44 0) a ≤ 0 ↔ cx_AF n k ((T 0)) ((T 1)) ((T 2)) ((T 3)) M (cx_Uc T) (cx_Wc T) (cx_Vc T) (cx_Ac T n) a)) ∧ ((J1_44 2) 0 = -1 ∨ ∃ a, a < n ∧ (J1_44 2) 0 = nI a ∧ (cx_G ga_44 ↔ cx_AF n k ((T 0)) ((T 1)) ((T 2)) ((T 3)) M (cx_Uc T) (cx_Wc T) (cx_Vc T) (cx_Ac T n) a))) := hp_44
          have J62 : ∀ (H : Heap) (locs : List Loc) (ls : Array Slot), (cx_WR n k (T 0) (T 1) (T 2) (T 3) M (cx_Uc T) (cx_Wc T) (cx_Vc T) (cx_Ac T n) (xb.toNatClampNeg) ∨ ¬ cx_is (cx_Ac T n) (xb.toNatClampNeg) (xa.toNatClampNeg)) → cx_S D vwCl A s (cxW q cI cJ n T k M d1_44 (cx_u (cx_u C 4 (fun _ => co_44)) 0 fo_44) J1_44 ga_44) H locs → lv_has ls 5 [(0, .ref (q 0)), (1, .int xa), (2, .int xb), (3, .int xe), (4, .int xf)] → W p l e ({ frames := 7, cells := 0, slots := 0, locals := 163 } : Room) s m args below meth c H locs 0 0 Q (F0 m 62 ls []) := by
            intro  H locs ls h62 hS hl
            refine lv_bipush (v := (-4 : Int32)) hx hb dX6_call_62 (by decide) ?_
            exact RET _ (co_44, d1_44, fo_44, C 1, C 2, J1_44, ga_44) _ _ _ _ dX6_call_64 rfl (⟨Or.inr (Or.inl ⟨⟨g8, g19, g28, g37⟩, h62, rfl⟩), hp_44.2⟩) hS
          refine lv_if_eq (tgt := 62) hx hb dX6_call_47 (by decide) (fun h47 => ?_) (fun h47 => ?_)
          · skip
            exact J62  _ _ _ (by first | exact Or.inl (Classical.not_not.mp (fun z => (hp_44.1.2.mpr z) h47)) | exact Or.inr (fun z => g59 (z.imp id (fun y => y.2.2)))) hS (lv_sub hl [0, 1, 2, 3, 4] rfl)
          · skip
            refine lv_aload_n hx hb dX6_call_50 rfl (lv_at hl 0 rfl) ?_
            refine cx_get (own := RX6) (index := 12) (C := RX6) (T := TX6) (N := 4) (k := 0) (ci := 6) (v := .ref (q 1)) hx hb hts hown hE hS hinX6 0 rfl rfl (by decide) (List.mem_of_getElem? (i := 1) rfl) rfl dX6_call_51 ?_
            refine lv_iload_n hx hb dX6_call_54 rfl (lv_at hl 2 rfl) ?_
            refine cx_topr (z := nI (xb.toNatClampNeg)) (cx_ixT (by omega) g19).1 ?_
            refine lv_iload_n hx hb dX6_call_55 rfl (lv_at hl 1 rfl) ?_
            refine cx_topr (z := nI (xa.toNatClampNeg)) (cx_ixT (by omega) g8).1 ?_
            refine cx_cVi (As := [.int (nI (xb.toNatClampNeg)), .int (nI (xa.toNatClampNeg))]) (rest := []) ⟨hx, hb, hml, hown, hts⟩ hE hS (c_X5_stands_at_b l D q cI cJ n T k M d1_44 (cx_u (cx_u C 4 (fun _ => co_44)) 0 fo_44) J1_44 ga_44 xb.toNatClampNeg xa.toNatClampNeg (by have := (cx_ixT (by omega) g19).2; omega) (by have := (cx_ixT (by omega) g8).2; omega)) (cwV 2 hts gX6_call_X5_stands rfl rfl rfl (by decide +kernel) ⟨Nat.le_of_ble_eq_true rfl, Nat.le_of_ble_eq_true rfl⟩) 1 5 rfl rfl rfl hl.1 rfl (Nat.le_of_ble_eq_true rfl) ⟨Nat.zero_le _, Nat.zero_le _⟩ dX6_call_56 (fun r_56 u_56 H locs hp_56 hS => ?_)
            have hp_56 : (r_56 = 0 ∨ r_56 = 1) ∧ (¬ r_56 = 0 ↔ xb.toNatClampNeg = xa.toNatClampNeg ∨ bt ((T 10) xb.toNatClampNeg) xa.toNatClampNeg = true) := hp_56
            refine lv_if_ne (tgt := 65) hx hb dX6_call_59 (by decide) (fun h59 => ?_) (fun h59 => ?_)
            · skip
              have g59 : xb.toNatClampNeg = xa.toNatClampNeg ∨ bt ((T 10) xb.toNatClampNeg) xa.toNatClampNeg = true := hp_56.2.mp h59
              refine lv_aload_n hx hb dX6_call_65 rfl (lv_at hl 0 rfl) ?_
              refine cx_get (own := RX6) (index := 30) (C := RX6) (T := TX6) (N := 4) (k := 2) (ci := 6) (v := .ref (q 3)) hx hb hts hown hE hS hinX6 0 rfl rfl (by decide) (List.mem_of_getElem? (i := 2) rfl) rfl dX6_call_66 ?_
              refine lv_iload_n hx hb dX6_call_69 rfl (lv_at hl 1 rfl) ?_
              refine cx_topr (z := nI (xa.toNatClampNeg)) (cx_ixT (by omega) g8).1 ?_
              refine lv_iload_n hx hb dX6_call_70 rfl (lv_at hl 2 rfl) ?_
              refine cx_topr (z := nI (xb.toNatClampNeg)) (cx_ixT (by omega) g19).1 ?_
              refine lv_iload_n hx hb dX6_call_71 rfl (lv_at hl 3 rfl) ?_
              refine lv_iload hx hb dX6_call_72 (lv_at hl 4 rfl) ?_
              refine cx_cVi (As := [.int (nI (xa.toNatClampNeg)), .int (nI (xb.toNatClampNeg)), .int xe, .int xf]) (rest := []) ⟨hx, hb, hml, hown, hts⟩ hE hS (c_X0_reached l D q cI cJ n T k M d1_44 (cx_u (cx_u C 4 (fun _ => co_44)) 0 fo_44) J1_44 ga_44 xa.toNatClampNeg xb.toNatClampNeg xe xf (by first | assumption | omega | rfl) (by first | assumption | omega | rfl) ((cx_ixT (by omega) g8).2) ((cx_ixT (by omega) g19).2) (by first | assumption | omega | rfl) (by first | assumption | omega | rfl) (by first | assumption | omega | rfl) (by first | assumption | omega | rfl) (cx_GDw hO (hp_44.1.2.mp h47)) (g59.imp id (fun y => ⟨(cx_ixT (by omega) g19).2, (cx_ixT (by omega) g8).2, y⟩))) (cwV 4 hts gX6_call_X0_reached rfl rfl rfl (by decide +kernel) ⟨Nat.le_of_ble_eq_true rfl, Nat.le_of_ble_eq_true rfl⟩) 3 0 rfl rfl rfl hl.1 rfl (Nat.le_of_ble_eq_true rfl) ⟨Nat.zero_le _, Nat.zero_le _⟩ dX6_call_74 (fun r_74 u_74 H locs hp_74 hS => ?_)
              obtain ⟨co_74, d1_74, fo_74, ch_74, tk_74⟩ := u_74
              have hS : cx_S D vwCl A s (cxW q cI cJ n T k M d1_74 (cx_u (cx_u (cx_u (cx_u C 4 (fun _ => co_74)) 0 fo_74) 1 ch_74) 2 tk_74) J1_44 ga_44) H locs := hS
              have hp_74 : (cx_cal n k ((T 0)) ((T 2)) ((T 3)) M (cx_Ac T n) xa.toNatClampNeg xb.toNatClampNeg xe xf r_74) ∧ (r_74 = -1 ∨ cx_ix r_74 80) := hp_74
              refine cx_cSi (As := [.int r_74]) (rest := []) ⟨hx, hb, hml, hown, hts⟩ hE hS (c_X6_orNone l D [(cI, .int), (cJ, .long)] (cxW q cI cJ n T k M d1_74 (cx_u (cx_u (cx_u (cx_u C 4 (fun _ => co_74)) 0 fo_74) 1 ch_74) 2 tk_74) J1_44 ga_44) r_74 ) (va_cwS 1 hts gX6_call_X6_orNone rfl rfl rfl (by decide +kernel) ⟨Nat.le_of_ble_eq_true rfl, Nat.le_of_ble_eq_true rfl⟩) rfl hl.1 rfl (Nat.le_of_ble_eq_true rfl) ⟨Nat.zero_le _, Nat.zero_le _⟩ dX6_call_77 (fun r_77 u_77 H locs hp_77 hS => ?_)
              have hp_77 : (r_74 = -1 ∧ r_77 = (-3 : Int32)) ∨ (¬ r_74 = -1 ∧ r_77 = r_74) := hp_77
              exact RET _ (co_74, d1_74, fo_74, ch_74, tk_74, J1_44, ga_44) _ _ _ _ dX6_call_80 rfl (⟨Or.inr (Or.inr ⟨⟨g8, g19, g28, g37⟩, fun z => z.elim (hp_44.1.2.mp h47) (fun y => y (g59.imp id (fun y => ⟨(cx_ixT (by omega) g19).2, (cx_ixT (by omega) g8).2, y⟩))), _, hp_74.1, hp_77⟩), hp_44.2⟩) hS
            · skip
              have g59 : ¬ (xb.toNatClampNeg = xa.toNatClampNeg ∨ bt ((T 10) xb.toNatClampNeg) xa.toNatClampNeg = true) := fun z => hp_56.2.mpr z h59
              exact J62  _ _ _ (by first | exact Or.inl (Classical.not_not.mp (fun z => (hp_44.1.2.mpr z) h47)) | exact Or.inr (fun z => g59 (z.imp id (fun y => y.2.2)))) hS (lv_sub hl [0, 1, 2, 3, 4] rfl)
        · skip
          have g37 := cx_b0 h37
          exact J40  _ _ _ (by first | exact fun z => g8 z.1 | exact fun z => g19 z.2.1 | exact fun z => g28 z.2.2.1 | exact fun z => g37 z.2.2.2) hS (lv_sub hl [0, 1, 2, 3, 4] rfl)
set_option maxHeartbeats 4000000 in
set_option maxRecDepth 100000 in
theorem c_X6_upper (l : Launch) (D : va_G) (q : Nat → Nat) (cI cJ : ClassId) (n : Nat) (T : Nat → Nat → Int32) (k : Nat) (M : Nat → Nat → Int32) (d : Nat) (C : Nat → Nat → Int32) (J : Nat → Nat → Int32) (g : Nat → Int64) (xa : Int32) (xb : Int32) (hn : n ≤ 20) : cx_Mi l D vwCl [(cI, .int), (cJ, .long)] cx_NW yX6_upper wsX6_upper ({ frames := 4, cells := 0, slots := 0, locals := 84 } : Room) [.ref (q 0), .int xa, .int xb] (cxW q cI cJ n T k M d C J g) (fun (r : Int32) (uw : (Nat → Nat → Int32) × (Nat → Nat → Int32)) => (¬ ((0 ≤ xa ∧ xa < nI n) ∧ (0 ≤ xb ∧ xb < nI 20)) ∧ r = (-1 : Int32) ∧ uw.1 = T ∧ uw.2 = J) ∨ (((0 ≤ xa ∧ xa < nI n) ∧ (0 ≤ xb ∧ xb < nI 20)) ∧ ¬ ((T 7) (xa.toNatClampNeg) < nI 3) ∧ r = (-2 : Int32) ∧ uw.1 = T ∧ uw.2 = J) ∨ (((0 ≤ xa ∧ xa < nI n) ∧ (0 ≤ xb ∧ xb < nI 20)) ∧ ((T 7) (xa.toNatClampNeg) < nI 3) ∧ r = (T 7) (xa.toNatClampNeg) + 1 ∧ uw.2 = cx_u (cx_u J 1 (fun _ => (0 : Int32))) 2 (fun _ => (-1 : Int32)) ∧ ∃ (f : Nat → Int32), uw.1 = cx_u (cx_u (cx_u (cx_u T 6 (upd (T 6) (xa.toNatClampNeg) (((T 6) (xa.toNatClampNeg)) ||| (((T 5) (xa.toNatClampNeg)) &&& ((1 : Int32) <<< (xb &&& 31)))))) 5 (upd (T 5) (xa.toNatClampNeg) (((T 5) (xa.toNatClampNeg)) ||| ((1 : Int32) <<< (xb &&& 31))))) 7 (upd (T 7) (xa.toNatClampNeg) ((T 7) (xa.toNatClampNeg) + 1))) 10 f ∧ cx_CL uw.1 n (uw.1 10))) (fun uw => (cxW q cI cJ n uw.1 k M d C uw.2 g)) := by
  refine cx_Mi.of (cc := cX6_upper) (maxL := 3) cx_NW_ok (by decide) rfl (Nat.le_of_ble_eq_true rfl) ?_
  intro p e s m args below meth c Q A ls hx hb hml hown hts hE RET hS hl
  have hl : lv_has ls 3 [(0, .ref (q 0)), (1, .int xa), (2, .int xb)] := hl
  have hown : s.vm.findClass RX6 = some m.cls := hown
  have hinX5 : ∀ w ∈ u_ws RX5 TX5 12, w ∈ wsX6_upper := cx_mem [49, 50, 51, 52, 53, 54, 55, 56, 57, 58, 59, 60] (by decide +kernel)
  have hinX6 : ∀ w ∈ u_ws RX6 TX6 4, w ∈ wsX6_upper := cx_mem [45, 46, 47, 48] (by decide +kernel)
  refine lv_aload_n hx hb dX6_upper_0 rfl (lv_at hl 0 rfl) ?_
  refine cx_get (own := RX6) (index := 12) (C := RX6) (T := TX6) (N := 4) (k := 0) (ci := 6) (v := .ref (q 1)) hx hb hts hown hE hS hinX6 0 rfl rfl (by decide) (List.mem_of_getElem? (i := 1) rfl) rfl dX6_upper_1 ?_
  refine lv_iload_n hx hb dX6_upper_4 rfl (lv_at hl 1 rfl) ?_
  refine cx_cVi (As := [.int xa]) (rest := []) ⟨hx, hb, hml, hown, hts⟩ hE hS (c_X5_there l D q cI cJ n T k M d C J g xa ) (cwV 1 hts gX6_upper_X5_there rfl rfl rfl (by decide +kernel) ⟨Nat.le_of_ble_eq_true rfl, Nat.le_of_ble_eq_true rfl⟩) 1 5 rfl rfl rfl hl.1 rfl (Nat.le_of_ble_eq_true rfl) ⟨Nat.zero_le _, Nat.zero_le _⟩ dX6_upper_5 (fun r_5 u_5 H locs hp_5 hS => ?_)
  have hp_5 : r_5 = cx_b (0 ≤ xa ∧ xa < nI n) := hp_5
  subst hp_5
  have J20 : ∀ (H : Heap) (locs : List Loc) (ls : Array Slot), (¬ ((0 ≤ xa ∧ xa < nI n) ∧ (0 ≤ xb ∧ xb < nI 20))) → cx_S D vwCl A s (cxW q cI cJ n T k M d C J g) H locs → lv_has ls 3 [(0, .ref (q 0)), (1, .int xa), (2, .int xb)] → W p l e ({ frames := 4, cells := 0, slots := 0, locals := 84 } : Room) s m args below meth c H locs 0 0 Q (F0 m 20 ls []) := by
    intro  H locs ls hb20 hS hl
    refine lv_iconst (v := (-1 : Int32)) hx hb dX6_upper_20 (by decide) ?_
    exact RET _ (T, J) _ _ _ _ dX6_upper_21 rfl (by first | exact Or.inl ⟨fun z => g8 z.1, rfl, rfl, rfl⟩ | exact Or.inl ⟨fun z => g17 z.2, rfl, rfl, rfl⟩ | exact Or.inl ⟨hb20, rfl, rfl, rfl⟩) hS
  refine lv_if_eq (tgt := 20) hx hb dX6_upper_8 (by decide) (fun h8 => ?_) (fun h8 => ?_)
  · skip
    have g8 := cx_b0 h8
    exact J20  _ _ _ (by first | exact fun z => g8 z.1 | exact fun z => g17 z.2) hS (lv_sub hl [0, 1, 2] rfl)
  · skip
    have g8 := cx_b1 h8
    refine lv_iload_n hx hb dX6_upper_11 rfl (lv_at hl 2 rfl) ?_
    refine lv_bipush (v := nI 20) hx hb dX6_upper_12 (by decide) ?_
    refine cx_cSi (As := [.int xb, .int (nI 20)]) (rest := []) ⟨hx, hb, hml, hown, hts⟩ hE hS (c_X6_within l D [(cI, .int), (cJ, .long)] (cxW q cI cJ n T k M d C J g) xb (nI 20) ) (va_cwS 2 hts gX6_upper_X6_within rfl rfl rfl (by decide +kernel) ⟨Nat.le_of_ble_eq_true rfl, Nat.le_of_ble_eq_true rfl⟩) rfl hl.1 rfl (Nat.le_of_ble_eq_true rfl) ⟨Nat.zero_le _, Nat.zero_le _⟩ dX6_upper_14 (fun r_14 u_14 H locs hp_14 hS => ?_)
    have hp_14 : r_14 = cx_b (0 ≤ xb ∧ xb < (nI 20)) := hp_14
    subst hp_14
    refine lv_if_ne (tgt := 22) hx hb dX6_upper_17 (by decide) (fun h17 => ?_) (fun h17 => ?_)
    · skip
      have g17 := cx_b1 h17
      refine lv_aload_n hx hb dX6_upper_22 rfl (lv_at hl 0 rfl) ?_
      refine cx_get (own := RX6) (index := 12) (C := RX6) (T := TX6) (N := 4) (k := 0) (ci := 6) (v := .ref (q 1)) hx hb hts hown hE hS hinX6 0 rfl rfl (by decide) (List.mem_of_getElem? (i := 1) rfl) rfl dX6_upper_23 ?_
      refine cx_getN (own := RX6) (index := 62) (C := RX5) (T := TX5) (N := 12) (k := 7) (ci := 5) (host := "ClassRules") (v := .ref (q 14)) hx hb hts hown hE hS hinX5 1 rfl rfl (by decide) (List.mem_of_getElem? (i := 11) rfl) rfl dX6_upper_26 ?_
      refine lv_iload_n hx hb dX6_upper_29 rfl (lv_at hl 1 rfl) ?_
      refine cx_topr (z := nI (xa.toNatClampNeg)) (cx_ixT (by omega) g8).1 ?_
      refine cx_iald (f := (T 7)) (n := 20) (cA := cI) hx hb hE hS 14 0 rfl rfl (by have := (cx_ixT (by omega) g8).2; omega) (by decide) dX6_upper_30 ?_
      refine lv_iconst (v := nI 3) hx hb dX6_upper_31 (by decide) ?_
      refine lv_icmp_lt (tgt := 38) hx hb dX6_upper_32 (by decide) (fun h32 => ?_) (fun h32 => ?_)
      · skip
        refine lv_aload_n hx hb dX6_upper_38 rfl (lv_at hl 0 rfl) ?_
        refine cx_get (own := RX6) (index := 39) (C := RX6) (T := TX6) (N := 4) (k := 3) (ci := 6) (v := .ref (q 4)) hx hb hts hown hE hS hinX6 0 rfl rfl (by decide) (List.mem_of_getElem? (i := 2) rfl) rfl dX6_upper_39 ?_
        refine cx_cVv (As := []) (rest := []) ⟨hx, hb, hml, hown, hts⟩ hE hS (c_X1_forget l D q cI cJ n T k M d C J g  ) (cwV 0 hts gX6_upper_X1_forget rfl rfl rfl (by decide +kernel) ⟨Nat.le_of_ble_eq_true rfl, Nat.le_of_ble_eq_true rfl⟩) 4 1 rfl rfl rfl hl.1 rfl (Nat.le_of_ble_eq_true rfl) ⟨Nat.zero_le _, Nat.zero_le _⟩ dX6_upper_42 (fun u_42 H locs hp_42 hS => ?_)
        have hS : cx_S D vwCl A s (cxW q cI cJ n T k M d C (cx_u (cx_u J 1 (fun _ => (0 : Int32))) 2 (fun _ => (-1 : Int32))) g) H locs := hS
        refine lv_aload_n hx hb dX6_upper_45 rfl (lv_at hl 0 rfl) ?_
        refine cx_get (own := RX6) (index := 12) (C := RX6) (T := TX6) (N := 4) (k := 0) (ci := 6) (v := .ref (q 1)) hx hb hts hown hE hS hinX6 0 rfl rfl (by decide) (List.mem_of_getElem? (i := 1) rfl) rfl dX6_upper_46 ?_
        refine lv_iload_n hx hb dX6_upper_49 rfl (lv_at hl 1 rfl) ?_
        refine cx_topr (z := nI (xa.toNatClampNeg)) (cx_ixT (by omega) g8).1 ?_
        refine lv_iload_n hx hb dX6_upper_50 rfl (lv_at hl 2 rfl) ?_
        refine cx_cVi (As := [.int (nI (xa.toNatClampNeg)), .int xb]) (rest := []) ⟨hx, hb, hml, hown, hts⟩ hE hS (c_X5_addUpper l D q cI cJ n T k M d C (cx_u (cx_u J 1 (fun _ => (0 : Int32))) 2 (fun _ => (-1 : Int32))) g xa.toNatClampNeg xb (by first | assumption | omega | rfl) (by have := (cx_ixT (by omega) g8).2; omega)) (cwV 2 hts gX6_upper_X5_addUpper rfl rfl rfl (by decide +kernel) ⟨Nat.le_of_ble_eq_true rfl, Nat.le_of_ble_eq_true rfl⟩) 1 5 rfl rfl rfl hl.1 rfl (Nat.le_of_ble_eq_true rfl) ⟨Nat.zero_le _, Nat.zero_le _⟩ dX6_upper_51 (fun r_51 u_51 H locs hp_51 hS => ?_)
        obtain ⟨f_51, rfl⟩ : ∃ z, z = u_51 := ⟨_, rfl⟩
        have hS : cx_S D vwCl A s (cxW q cI cJ n (cx_u (cx_u (cx_u (cx_u T 6 (upd ((T 6)) xa.toNatClampNeg ((((T 6)) xa.toNatClampNeg) ||| ((((T 5)) xa.toNatClampNeg) &&& ((1 : Int32) <<< (xb &&& 31)))))) 5 (upd ((T 5)) xa.toNatClampNeg ((((T 5)) xa.toNatClampNeg) ||| ((1 : Int32) <<< (xb &&& 31))))) 7 (upd ((T 7)) xa.toNatClampNeg (((T 7)) xa.toNatClampNeg + 1))) 10 f_51) k M d C (cx_u (cx_u J 1 (fun _ => (0 : Int32))) 2 (fun _ => (-1 : Int32))) g) H locs := hS
        obtain ⟨hr_51, hp_51⟩ := hp_51
        have hp_51 : cx_CL (cx_u (cx_u (cx_u T 6 (upd ((T 6)) xa.toNatClampNeg ((((T 6)) xa.toNatClampNeg) ||| ((((T 5)) xa.toNatClampNeg) &&& ((1 : Int32) <<< (xb &&& 31)))))) 5 (upd ((T 5)) xa.toNatClampNeg ((((T 5)) xa.toNatClampNeg) ||| ((1 : Int32) <<< (xb &&& 31))))) 7 (upd ((T 7)) xa.toNatClampNeg (((T 7)) xa.toNatClampNeg + 1))) n f_51 := hp_51
        have hr_51 : r_51 = (((T 7)) xa.toNatClampNeg + 1) := hr_51
        subst hr_51
        exact RET _ (cx_u (cx_u (cx_u (cx_u T 6 (upd ((T 6)) xa.toNatClampNeg ((((T 6)) xa.toNatClampNeg) ||| ((((T 5)) xa.toNatClampNeg) &&& ((1 : Int32) <<< (xb &&& 31)))))) 5 (upd ((T 5)) xa.toNatClampNeg ((((T 5)) xa.toNatClampNeg) ||| ((1 : Int32) <<< (xb &&& 31))))) 7 (upd ((T 7)) xa.toNatClampNeg (((T 7)) xa.toNatClampNeg + 1))) 10 f_51, cx_u (cx_u J 1 (fun _ => (0 : Int32))) 2 (fun _ => (-1 : Int32))) _ _ _ _ dX6_upper_54 rfl (Or.inr (Or.inr ⟨⟨g8, g17⟩, h32, rfl, rfl, _, rfl, hp_51⟩)) hS
      · skip
        refine lv_bipush (v := (-2 : Int32)) hx hb dX6_upper_35 (by decide) ?_
        exact RET _ (T, J) _ _ _ _ dX6_upper_37 rfl (Or.inr (Or.inl ⟨⟨g8, g17⟩, h32, rfl, rfl, rfl⟩)) hS
    · skip
      have g17 := cx_b0 h17
      exact J20  _ _ _ (by first | exact fun z => g8 z.1 | exact fun z => g17 z.2) hS (lv_sub hl [0, 1, 2] rfl)
set_option maxHeartbeats 4000000 in
set_option maxRecDepth 100000 in
theorem c_X6_permit (l : Launch) (D : va_G) (q : Nat → Nat) (cI cJ : ClassId) (n : Nat) (T : Nat → Nat → Int32) (k : Nat) (M : Nat → Nat → Int32) (d : Nat) (C : Nat → Nat → Int32) (J : Nat → Nat → Int32) (g : Nat → Int64) (xa : Int32) (xb : Int32) (hn : n ≤ 20) : cx_Mi l D vwCl [(cI, .int), (cJ, .long)] cx_NW yX6_permit wsX6_permit ({ frames := 2, cells := 0, slots := 0, locals := 42 } : Room) [.ref (q 0), .int xa, .int xb] (cxW q cI cJ n T k M d C J g) (fun (r : Int32) (uw : (Nat → Nat → Int32) × (Nat → Nat → Int32)) => (¬ ((0 ≤ xa ∧ xa < nI n) ∧ (0 ≤ xb ∧ xb < nI 20)) ∧ r = (-1 : Int32) ∧ uw.1 = T ∧ uw.2 = J) ∨ (((0 ≤ xa ∧ xa < nI n) ∧ (0 ≤ xb ∧ xb < nI 20)) ∧ ¬ ((T 9) (xa.toNatClampNeg) < nI 3) ∧ r = (-2 : Int32) ∧ uw.1 = T ∧ uw.2 = J) ∨ (((0 ≤ xa ∧ xa < nI n) ∧ (0 ≤ xb ∧ xb < nI 20)) ∧ ((T 9) (xa.toNatClampNeg) < nI 3) ∧ r = (T 9) (xa.toNatClampNeg) + 1 ∧ uw.2 = cx_u (cx_u J 1 (fun _ => (0 : Int32))) 2 (fun _ => (-1 : Int32)) ∧ uw.1 = cx_u (cx_u T 8 (upd (T 8) (xa.toNatClampNeg) (((T 8) (xa.toNatClampNeg)) ||| ((1 : Int32) <<< (xb &&& 31))))) 9 (upd (T 9) (xa.toNatClampNeg) ((T 9) (xa.toNatClampNeg) + 1)))) (fun uw => (cxW q cI cJ n uw.1 k M d C uw.2 g)) := by
  refine cx_Mi.of (cc := cX6_permit) (maxL := 3) cx_NW_ok (by decide) rfl (Nat.le_of_ble_eq_true rfl) ?_
  intro p e s m args below meth c Q A ls hx hb hml hown hts hE RET hS hl
  have hl : lv_has ls 3 [(0, .ref (q 0)), (1, .int xa), (2, .int xb)] := hl
  have hown : s.vm.findClass RX6 = some m.cls := hown
  have hinX5 : ∀ w ∈ u_ws RX5 TX5 12, w ∈ wsX6_permit := cx_mem [32, 33, 34, 35, 36, 37, 38, 39, 40, 41, 42, 43] (by decide +kernel)
  have hinX6 : ∀ w ∈ u_ws RX6 TX6 4, w ∈ wsX6_permit := cx_mem [28, 29, 30, 31] (by decide +kernel)
  refine lv_aload_n hx hb dX6_permit_0 rfl (lv_at hl 0 rfl) ?_
  refine cx_get (own := RX6) (index := 12) (C := RX6) (T := TX6) (N := 4) (k := 0) (ci := 6) (v := .ref (q 1)) hx hb hts hown hE hS hinX6 0 rfl rfl (by decide) (List.mem_of_getElem? (i := 1) rfl) rfl dX6_permit_1 ?_
  refine lv_iload_n hx hb dX6_permit_4 rfl (lv_at hl 1 rfl) ?_
  refine cx_cVi (As := [.int xa]) (rest := []) ⟨hx, hb, hml, hown, hts⟩ hE hS (c_X5_there l D q cI cJ n T k M d C J g xa ) (cwV 1 hts gX6_permit_X5_there rfl rfl rfl (by decide +kernel) ⟨Nat.le_of_ble_eq_true rfl, Nat.le_of_ble_eq_true rfl⟩) 1 5 rfl rfl rfl hl.1 rfl (Nat.le_of_ble_eq_true rfl) ⟨Nat.zero_le _, Nat.zero_le _⟩ dX6_permit_5 (fun r_5 u_5 H locs hp_5 hS => ?_)
  have hp_5 : r_5 = cx_b (0 ≤ xa ∧ xa < nI n) := hp_5
  subst hp_5
  have J20 : ∀ (H : Heap) (locs : List Loc) (ls : Array Slot), (¬ ((0 ≤ xa ∧ xa < nI n) ∧ (0 ≤ xb ∧ xb < nI 20))) → cx_S D vwCl A s (cxW q cI cJ n T k M d C J g) H locs → lv_has ls 3 [(0, .ref (q 0)), (1, .int xa), (2, .int xb)] → W p l e ({ frames := 2, cells := 0, slots := 0, locals := 42 } : Room) s m args below meth c H locs 0 0 Q (F0 m 20 ls []) := by
    intro  H locs ls hb20 hS hl
    refine lv_iconst (v := (-1 : Int32)) hx hb dX6_permit_20 (by decide) ?_
    exact RET _ (T, J) _ _ _ _ dX6_permit_21 rfl (by first | exact Or.inl ⟨fun z => g8 z.1, rfl, rfl, rfl⟩ | exact Or.inl ⟨fun z => g17 z.2, rfl, rfl, rfl⟩ | exact Or.inl ⟨hb20, rfl, rfl, rfl⟩) hS
  refine lv_if_eq (tgt := 20) hx hb dX6_permit_8 (by decide) (fun h8 => ?_) (fun h8 => ?_)
  · skip
    have g8 := cx_b0 h8
    exact J20  _ _ _ (by first | exact fun z => g8 z.1 | exact fun z => g17 z.2) hS (lv_sub hl [0, 1, 2] rfl)
  · skip
    have g8 := cx_b1 h8
    refine lv_iload_n hx hb dX6_permit_11 rfl (lv_at hl 2 rfl) ?_
    refine lv_bipush (v := nI 20) hx hb dX6_permit_12 (by decide) ?_
    refine cx_cSi (As := [.int xb, .int (nI 20)]) (rest := []) ⟨hx, hb, hml, hown, hts⟩ hE hS (c_X6_within l D [(cI, .int), (cJ, .long)] (cxW q cI cJ n T k M d C J g) xb (nI 20) ) (va_cwS 2 hts gX6_permit_X6_within rfl rfl rfl (by decide +kernel) ⟨Nat.le_of_ble_eq_true rfl, Nat.le_of_ble_eq_true rfl⟩) rfl hl.1 rfl (Nat.le_of_ble_eq_true rfl) ⟨Nat.zero_le _, Nat.zero_le _⟩ dX6_permit_14 (fun r_14 u_14 H locs hp_14 hS => ?_)
    have hp_14 : r_14 = cx_b (0 ≤ xb ∧ xb < (nI 20)) := hp_14
    subst hp_14
    refine lv_if_ne (tgt := 22) hx hb dX6_permit_17 (by decide) (fun h17 => ?_) (fun h17 => ?_)
    · skip
      have g17 := cx_b1 h17
      refine lv_aload_n hx hb dX6_permit_22 rfl (lv_at hl 0 rfl) ?_
      refine cx_get (own := RX6) (index := 12) (C := RX6) (T := TX6) (N := 4) (k := 0) (ci := 6) (v := .ref (q 1)) hx hb hts hown hE hS hinX6 0 rfl rfl (by decide) (List.mem_of_getElem? (i := 1) rfl) rfl dX6_permit_23 ?_
      refine cx_getN (own := RX6) (index := 70) (C := RX5) (T := TX5) (N := 12) (k := 9) (ci := 5) (host := "ClassRules") (v := .ref (q 16)) hx hb hts hown hE hS hinX5 1 rfl rfl (by decide) (List.mem_of_getElem? (i := 13) rfl) rfl dX6_permit_26 ?_
      refine lv_iload_n hx hb dX6_permit_29 rfl (lv_at hl 1 rfl) ?_
      refine cx_topr (z := nI (xa.toNatClampNeg)) (cx_ixT (by omega) g8).1 ?_
      refine cx_iald (f := (T 9)) (n := 20) (cA := cI) hx hb hE hS 16 0 rfl rfl (by have := (cx_ixT (by omega) g8).2; omega) (by decide) dX6_permit_30 ?_
      refine lv_iconst (v := nI 3) hx hb dX6_permit_31 (by decide) ?_
      refine lv_icmp_lt (tgt := 38) hx hb dX6_permit_32 (by decide) (fun h32 => ?_) (fun h32 => ?_)
      · skip
        refine lv_aload_n hx hb dX6_permit_38 rfl (lv_at hl 0 rfl) ?_
        refine cx_get (own := RX6) (index := 39) (C := RX6) (T := TX6) (N := 4) (k := 3) (ci := 6) (v := .ref (q 4)) hx hb hts hown hE hS hinX6 0 rfl rfl (by decide) (List.mem_of_getElem? (i := 2) rfl) rfl dX6_permit_39 ?_
        refine cx_cVv (As := []) (rest := []) ⟨hx, hb, hml, hown, hts⟩ hE hS (c_X1_forget l D q cI cJ n T k M d C J g  ) (cwV 0 hts gX6_permit_X1_forget rfl rfl rfl (by decide +kernel) ⟨Nat.le_of_ble_eq_true rfl, Nat.le_of_ble_eq_true rfl⟩) 4 1 rfl rfl rfl hl.1 rfl (Nat.le_of_ble_eq_true rfl) ⟨Nat.zero_le _, Nat.zero_le _⟩ dX6_permit_42 (fun u_42 H locs hp_42 hS => ?_)
        have hS : cx_S D vwCl A s (cxW q cI cJ n T k M d C (cx_u (cx_u J 1 (fun _ => (0 : Int32))) 2 (fun _ => (-1 : Int32))) g) H locs := hS
        refine lv_aload_n hx hb dX6_permit_45 rfl (lv_at hl 0 rfl) ?_
        refine cx_get (own := RX6) (index := 12) (C := RX6) (T := TX6) (N := 4) (k := 0) (ci := 6) (v := .ref (q 1)) hx hb hts hown hE hS hinX6 0 rfl rfl (by decide) (List.mem_of_getElem? (i := 1) rfl) rfl dX6_permit_46 ?_
        refine lv_iload_n hx hb dX6_permit_49 rfl (lv_at hl 1 rfl) ?_
        refine cx_topr (z := nI (xa.toNatClampNeg)) (cx_ixT (by omega) g8).1 ?_
        refine lv_iload_n hx hb dX6_permit_50 rfl (lv_at hl 2 rfl) ?_
        refine cx_cVi (As := [.int (nI (xa.toNatClampNeg)), .int xb]) (rest := []) ⟨hx, hb, hml, hown, hts⟩ hE hS (c_X5_addPermitted l D q cI cJ n T k M d C (cx_u (cx_u J 1 (fun _ => (0 : Int32))) 2 (fun _ => (-1 : Int32))) g xa.toNatClampNeg xb (by have := (cx_ixT (by omega) g8).2; omega)) (cwV 2 hts gX6_permit_X5_addPermitted rfl rfl rfl (by decide +kernel) ⟨Nat.le_of_ble_eq_true rfl, Nat.le_of_ble_eq_true rfl⟩) 1 5 rfl rfl rfl hl.1 rfl (Nat.le_of_ble_eq_true rfl) ⟨Nat.zero_le _, Nat.zero_le _⟩ dX6_permit_51 (fun r_51 u_51 H locs hp_51 hS => ?_)
        have hS : cx_S D vwCl A s (cxW q cI cJ n (cx_u (cx_u T 8 (upd ((T 8)) xa.toNatClampNeg ((((T 8)) xa.toNatClampNeg) ||| ((1 : Int32) <<< (xb &&& 31))))) 9 (upd ((T 9)) xa.toNatClampNeg (((T 9)) xa.toNatClampNeg + 1))) k M d C (cx_u (cx_u J 1 (fun _ => (0 : Int32))) 2 (fun _ => (-1 : Int32))) g) H locs := hS
        have hp_51 : r_51 = (((T 9)) xa.toNatClampNeg + 1) := hp_51
        subst hp_51
        exact RET _ (cx_u (cx_u T 8 (upd ((T 8)) xa.toNatClampNeg ((((T 8)) xa.toNatClampNeg) ||| ((1 : Int32) <<< (xb &&& 31))))) 9 (upd ((T 9)) xa.toNatClampNeg (((T 9)) xa.toNatClampNeg + 1)), cx_u (cx_u J 1 (fun _ => (0 : Int32))) 2 (fun _ => (-1 : Int32))) _ _ _ _ dX6_permit_54 rfl (Or.inr (Or.inr ⟨⟨g8, g17⟩, h32, rfl, rfl, rfl⟩)) hS
      · skip
        refine lv_bipush (v := (-2 : Int32)) hx hb dX6_permit_35 (by decide) ?_
        exact RET _ (T, J) _ _ _ _ dX6_permit_37 rfl (Or.inr (Or.inl ⟨⟨g8, g17⟩, h32, rfl, rfl, rfl⟩)) hS
    · skip
      have g17 := cx_b0 h17
      exact J20  _ _ _ (by first | exact fun z => g8 z.1 | exact fun z => g17 z.2) hS (lv_sub hl [0, 1, 2] rfl)
set_option maxHeartbeats 4000000 in
set_option maxRecDepth 100000 in
theorem c_X6_member (l : Launch) (D : va_G) (q : Nat → Nat) (cI cJ : ClassId) (n : Nat) (T : Nat → Nat → Int32) (k : Nat) (M : Nat → Nat → Int32) (d : Nat) (C : Nat → Nat → Int32) (J : Nat → Nat → Int32) (g : Nat → Int64) (xa : Int32) (xb : Int32) (xe : Int32) (xf : Int32) (xh : Int32) (xi : Int32) (hn : n ≤ 20) (hk : k ≤ 80) : cx_Mi l D vwCl [(cI, .int), (cJ, .long)] cx_NW yX6_member wsX6_member ({ frames := 1, cells := 0, slots := 0, locals := 27 } : Room) [.ref (q 0), .int xa, .int xb, .int xe, .int xf, .int xh, .int xi] (cxW q cI cJ n T k M d C J g) (fun (r : Int32) (uw : (Nat) × (Nat → Nat → Int32) × (Nat → Nat → Int32)) => (¬ ((0 ≤ xa ∧ xa < nI n) ∧ (0 ≤ xb ∧ xb < nI 10) ∧ (0 ≤ xe ∧ xe < nI 5) ∧ (0 ≤ xf ∧ xf < nI 16) ∧ (0 ≤ xh ∧ xh < nI 4) ∧ (0 ≤ xi ∧ xi < nI 30)) ∧ r = (-1 : Int32) ∧ uw.1 = k ∧ uw.2.1 = M ∧ uw.2.2 = J) ∨ (((0 ≤ xa ∧ xa < nI n) ∧ (0 ≤ xb ∧ xb < nI 10) ∧ (0 ≤ xe ∧ xe < nI 5) ∧ (0 ≤ xf ∧ xf < nI 16) ∧ (0 ≤ xh ∧ xh < nI 4) ∧ (0 ≤ xi ∧ xi < nI 30)) ∧ ¬ k < 80 ∧ r = (-2 : Int32) ∧ uw.1 = k ∧ uw.2.1 = M ∧ uw.2.2 = J) ∨ (((0 ≤ xa ∧ xa < nI n) ∧ (0 ≤ xb ∧ xb < nI 10) ∧ (0 ≤ xe ∧ xe < nI 5) ∧ (0 ≤ xf ∧ xf < nI 16) ∧ (0 ≤ xh ∧ xh < nI 4) ∧ (0 ≤ xi ∧ xi < nI 30)) ∧ k < 80 ∧ r = nI k ∧ uw.1 = k + 1 ∧ uw.2.2 = cx_u (cx_u J 1 (fun _ => (0 : Int32))) 2 (fun _ => (-1 : Int32)) ∧ uw.2.1 = cx_u (cx_u (cx_u (cx_u (cx_u (cx_u M 0 (upd (M 0) k xa)) 1 (upd (M 1) k xb)) 2 (upd (M 2) k xe)) 3 (upd (M 3) k xf)) 4 (upd (M 4) k xh)) 5 (upd (M 5) k xi))) (fun uw => (cxW q cI cJ n T uw.1 uw.2.1 d C uw.2.2 g)) := by
  refine cx_Mi.of (cc := cX6_member) (maxL := 7) cx_NW_ok (by decide) rfl (Nat.le_of_ble_eq_true rfl) ?_
  intro p e s m args below meth c Q A ls hx hb hml hown hts hE RET hS hl
  have hl : lv_has ls 7 [(0, .ref (q 0)), (1, .int xa), (2, .int xb), (3, .int xe), (4, .int xf), (5, .int xh), (6, .int xi)] := hl
  have hown : s.vm.findClass RX6 = some m.cls := hown
  have hinX3 : ∀ w ∈ u_ws RX3 TX3 8, w ∈ wsX6_member := cx_mem [37, 38, 39, 40, 41, 42, 43, 44] (by decide +kernel)
  have hinX6 : ∀ w ∈ u_ws RX6 TX6 4, w ∈ wsX6_member := cx_mem [33, 34, 35, 36] (by decide +kernel)
  refine lv_aload_n hx hb dX6_member_0 rfl (lv_at hl 0 rfl) ?_
  refine cx_get (own := RX6) (index := 12) (C := RX6) (T := TX6) (N := 4) (k := 0) (ci := 6) (v := .ref (q 1)) hx hb hts hown hE hS hinX6 0 rfl rfl (by decide) (List.mem_of_getElem? (i := 1) rfl) rfl dX6_member_1 ?_
  refine lv_iload_n hx hb dX6_member_4 rfl (lv_at hl 1 rfl) ?_
  refine cx_cVi (As := [.int xa]) (rest := []) ⟨hx, hb, hml, hown, hts⟩ hE hS (c_X5_there l D q cI cJ n T k M d C J g xa ) (cwV 1 hts gX6_member_X5_there rfl rfl rfl (by decide +kernel) ⟨Nat.le_of_ble_eq_true rfl, Nat.le_of_ble_eq_true rfl⟩) 1 5 rfl rfl rfl hl.1 rfl (Nat.le_of_ble_eq_true rfl) ⟨Nat.zero_le _, Nat.zero_le _⟩ dX6_member_5 (fun r_5 u_5 H locs hp_5 hS => ?_)
  have hp_5 : r_5 = cx_b (0 ≤ xa ∧ xa < nI n) := hp_5
  subst hp_5
  have J28 : ∀ (H : Heap) (locs : List Loc) (ls : Array Slot), (¬ ((0 ≤ xa ∧ xa < nI n) ∧ (0 ≤ xb ∧ xb < nI 10) ∧ (0 ≤ xe ∧ xe < nI 5) ∧ (0 ≤ xf ∧ xf < nI 16) ∧ (0 ≤ xh ∧ xh < nI 4) ∧ (0 ≤ xi ∧ xi < nI 30))) → cx_S D vwCl A s (cxW q cI cJ n T k M d C J g) H locs → lv_has ls 7 [(0, .ref (q 0)), (1, .int xa), (2, .int xb), (3, .int xe), (4, .int xf), (5, .int xh), (6, .int xi)] → W p l e ({ frames := 1, cells := 0, slots := 0, locals := 27 } : Room) s m args below meth c H locs 0 0 Q (F0 m 28 ls []) := by
    intro  H locs ls hb28 hS hl
    refine lv_iconst (v := (-1 : Int32)) hx hb dX6_member_28 (by decide) ?_
    exact RET _ (k, M, J) _ _ _ _ dX6_member_29 rfl (Or.inl ⟨hb28, rfl, rfl, rfl, rfl⟩) hS
  refine lv_if_eq (tgt := 28) hx hb dX6_member_8 (by decide) (fun h8 => ?_) (fun h8 => ?_)
  · skip
    have g8 := cx_b0 h8
    exact J28  _ _ _ (by first | exact fun z => g8 z.1 | exact fun z => g17 z.2.1 | exact fun z => g25 z.2.2.1) hS (lv_sub hl [0, 1, 2, 3, 4, 5, 6] rfl)
  · skip
    have g8 := cx_b1 h8
    refine lv_iload_n hx hb dX6_member_11 rfl (lv_at hl 2 rfl) ?_
    refine lv_bipush (v := nI 10) hx hb dX6_member_12 (by decide) ?_
    refine cx_cSi (As := [.int xb, .int (nI 10)]) (rest := []) ⟨hx, hb, hml, hown, hts⟩ hE hS (c_X6_within l D [(cI, .int), (cJ, .long)] (cxW q cI cJ n T k M d C J g) xb (nI 10) ) (va_cwS 2 hts gX6_member_X6_within rfl rfl rfl (by decide +kernel) ⟨Nat.le_of_ble_eq_true rfl, Nat.le_of_ble_eq_true rfl⟩) rfl hl.1 rfl (Nat.le_of_ble_eq_true rfl) ⟨Nat.zero_le _, Nat.zero_le _⟩ dX6_member_14 (fun r_14 u_14 H locs hp_14 hS => ?_)
    have hp_14 : r_14 = cx_b (0 ≤ xb ∧ xb < (nI 10)) := hp_14
    subst hp_14
    refine lv_if_eq (tgt := 28) hx hb dX6_member_17 (by decide) (fun h17 => ?_) (fun h17 => ?_)
    · skip
      have g17 := cx_b0 h17
      exact J28  _ _ _ (by first | exact fun z => g8 z.1 | exact fun z => g17 z.2.1 | exact fun z => g25 z.2.2.1) hS (lv_sub hl [0, 1, 2, 3, 4, 5, 6] rfl)
    · skip
      have g17 := cx_b1 h17
      refine lv_iload_n hx hb dX6_member_20 rfl (lv_at hl 3 rfl) ?_
      refine lv_iconst (v := nI 5) hx hb dX6_member_21 (by decide) ?_
      refine cx_cSi (As := [.int xe, .int (nI 5)]) (rest := []) ⟨hx, hb, hml, hown, hts⟩ hE hS (c_X6_within l D [(cI, .int), (cJ, .long)] (cxW q cI cJ n T k M d C J g) xe (nI 5) ) (va_cwS 2 hts gX6_member_X6_within rfl rfl rfl (by decide +kernel) ⟨Nat.le_of_ble_eq_true rfl, Nat.le_of_ble_eq_true rfl⟩) rfl hl.1 rfl (Nat.le_of_ble_eq_true rfl) ⟨Nat.zero_le _, Nat.zero_le _⟩ dX6_member_22 (fun r_22 u_22 H locs hp_22 hS => ?_)
      have hp_22 : r_22 = cx_b (0 ≤ xe ∧ xe < (nI 5)) := hp_22
      subst hp_22
      refine lv_if_ne (tgt := 30) hx hb dX6_member_25 (by decide) (fun h25 => ?_) (fun h25 => ?_)
      · skip
        have g25 := cx_b1 h25
        refine lv_iload hx hb dX6_member_30 (lv_at hl 4 rfl) ?_
        refine lv_bipush (v := nI 16) hx hb dX6_member_32 (by decide) ?_
        refine cx_cSi (As := [.int xf, .int (nI 16)]) (rest := []) ⟨hx, hb, hml, hown, hts⟩ hE hS (c_X6_within l D [(cI, .int), (cJ, .long)] (cxW q cI cJ n T k M d C J g) xf (nI 16) ) (va_cwS 2 hts gX6_member_X6_within rfl rfl rfl (by decide +kernel) ⟨Nat.le_of_ble_eq_true rfl, Nat.le_of_ble_eq_true rfl⟩) rfl hl.1 rfl (Nat.le_of_ble_eq_true rfl) ⟨Nat.zero_le _, Nat.zero_le _⟩ dX6_member_34 (fun r_34 u_34 H locs hp_34 hS => ?_)
        have hp_34 : r_34 = cx_b (0 ≤ xf ∧ xf < (nI 16)) := hp_34
        subst hp_34
        have J59 : ∀ (H : Heap) (locs : List Loc) (ls : Array Slot), (¬ ((0 ≤ xa ∧ xa < nI n) ∧ (0 ≤ xb ∧ xb < nI 10) ∧ (0 ≤ xe ∧ xe < nI 5) ∧ (0 ≤ xf ∧ xf < nI 16) ∧ (0 ≤ xh ∧ xh < nI 4) ∧ (0 ≤ xi ∧ xi < nI 30))) → cx_S D vwCl A s (cxW q cI cJ n T k M d C J g) H locs → lv_has ls 7 [(0, .ref (q 0)), (1, .int xa), (2, .int xb), (3, .int xe), (4, .int xf), (5, .int xh), (6, .int xi)] → W p l e ({ frames := 1, cells := 0, slots := 0, locals := 27 } : Room) s m args below meth c H locs 0 0 Q (F0 m 59 ls []) := by
          intro  H locs ls hb59 hS hl
          refine lv_iconst (v := (-1 : Int32)) hx hb dX6_member_59 (by decide) ?_
          exact RET _ (k, M, J) _ _ _ _ dX6_member_60 rfl (Or.inl ⟨hb59, rfl, rfl, rfl, rfl⟩) hS
        refine lv_if_eq (tgt := 59) hx hb dX6_member_37 (by decide) (fun h37 => ?_) (fun h37 => ?_)
        · skip
          have g37 := cx_b0 h37
          exact J59  _ _ _ (by first | exact fun z => g37 z.2.2.2.1 | exact fun z => g46 z.2.2.2.2.1 | exact fun z => g56 z.2.2.2.2.2) hS (lv_sub hl [0, 1, 2, 3, 4, 5, 6] rfl)
        · skip
          have g37 := cx_b1 h37
          refine lv_iload hx hb dX6_member_40 (lv_at hl 5 rfl) ?_
          refine lv_iconst (v := nI 4) hx hb dX6_member_42 (by decide) ?_
          refine cx_cSi (As := [.int xh, .int (nI 4)]) (rest := []) ⟨hx, hb, hml, hown, hts⟩ hE hS (c_X6_within l D [(cI, .int), (cJ, .long)] (cxW q cI cJ n T k M d C J g) xh (nI 4) ) (va_cwS 2 hts gX6_member_X6_within rfl rfl rfl (by decide +kernel) ⟨Nat.le_of_ble_eq_true rfl, Nat.le_of_ble_eq_true rfl⟩) rfl hl.1 rfl (Nat.le_of_ble_eq_true rfl) ⟨Nat.zero_le _, Nat.zero_le _⟩ dX6_member_43 (fun r_43 u_43 H locs hp_43 hS => ?_)
          have hp_43 : r_43 = cx_b (0 ≤ xh ∧ xh < (nI 4)) := hp_43
          subst hp_43
          refine lv_if_eq (tgt := 59) hx hb dX6_member_46 (by decide) (fun h46 => ?_) (fun h46 => ?_)
          · skip
            have g46 := cx_b0 h46
            exact J59  _ _ _ (by first | exact fun z => g37 z.2.2.2.1 | exact fun z => g46 z.2.2.2.2.1 | exact fun z => g56 z.2.2.2.2.2) hS (lv_sub hl [0, 1, 2, 3, 4, 5, 6] rfl)
          · skip
            have g46 := cx_b1 h46
            refine lv_iload hx hb dX6_member_49 (lv_at hl 6 rfl) ?_
            refine lv_bipush (v := nI 30) hx hb dX6_member_51 (by decide) ?_
            refine cx_cSi (As := [.int xi, .int (nI 30)]) (rest := []) ⟨hx, hb, hml, hown, hts⟩ hE hS (c_X6_within l D [(cI, .int), (cJ, .long)] (cxW q cI cJ n T k M d C J g) xi (nI 30) ) (va_cwS 2 hts gX6_member_X6_within rfl rfl rfl (by decide +kernel) ⟨Nat.le_of_ble_eq_true rfl, Nat.le_of_ble_eq_true rfl⟩) rfl hl.1 rfl (Nat.le_of_ble_eq_true rfl) ⟨Nat.zero_le _, Nat.zero_le _⟩ dX6_member_53 (fun r_53 u_53 H locs hp_53 hS => ?_)
            have hp_53 : r_53 = cx_b (0 ≤ xi ∧ xi < (nI 30)) := hp_53
            subst hp_53
            refine lv_if_ne (tgt := 61) hx hb dX6_member_56 (by decide) (fun h56 => ?_) (fun h56 => ?_)
            · skip
              have g56 := cx_b1 h56
              refine lv_aload_n hx hb dX6_member_61 rfl (lv_at hl 0 rfl) ?_
              refine cx_get (own := RX6) (index := 21) (C := RX6) (T := TX6) (N := 4) (k := 1) (ci := 6) (v := .ref (q 2)) hx hb hts hown hE hS hinX6 0 rfl rfl (by decide) (List.mem_of_getElem? (i := 2) rfl) rfl dX6_member_62 ?_
              refine cx_getN (own := RX6) (index := 76) (C := RX3) (T := TX3) (N := 8) (k := 7) (ci := 3) (host := "ClassRules") (v := .int (nI k)) hx hb hts hown hE hS hinX3 2 rfl rfl (by decide) (List.mem_of_getElem? (i := 30) rfl) rfl dX6_member_65 ?_
              refine lv_bipush (v := nI 80) hx hb dX6_member_68 (by decide) ?_
              refine lv_icmp_lt (tgt := 76) hx hb dX6_member_70 (by decide) (fun h70 => ?_) (fun h70 => ?_)
              · skip
                have g70 : k < 80 := (nI_ltI (a := k) (b := 80) (by omega) (by omega)).mp h70
                refine lv_aload_n hx hb dX6_member_76 rfl (lv_at hl 0 rfl) ?_
                refine cx_get (own := RX6) (index := 39) (C := RX6) (T := TX6) (N := 4) (k := 3) (ci := 6) (v := .ref (q 4)) hx hb hts hown hE hS hinX6 0 rfl rfl (by decide) (List.mem_of_getElem? (i := 3) rfl) rfl dX6_member_77 ?_
                refine cx_cVv (As := []) (rest := []) ⟨hx, hb, hml, hown, hts⟩ hE hS (c_X1_forget l D q cI cJ n T k M d C J g  ) (cwV 0 hts gX6_member_X1_forget rfl rfl rfl (by decide +kernel) ⟨Nat.le_of_ble_eq_true rfl, Nat.le_of_ble_eq_true rfl⟩) 4 1 rfl rfl rfl hl.1 rfl (Nat.le_of_ble_eq_true rfl) ⟨Nat.zero_le _, Nat.zero_le _⟩ dX6_member_80 (fun u_80 H locs hp_80 hS => ?_)
                have hS : cx_S D vwCl A s (cxW q cI cJ n T k M d C (cx_u (cx_u J 1 (fun _ => (0 : Int32))) 2 (fun _ => (-1 : Int32))) g) H locs := hS
                refine lv_aload_n hx hb dX6_member_83 rfl (lv_at hl 0 rfl) ?_
                refine cx_get (own := RX6) (index := 21) (C := RX6) (T := TX6) (N := 4) (k := 1) (ci := 6) (v := .ref (q 2)) hx hb hts hown hE hS hinX6 0 rfl rfl (by decide) (List.mem_of_getElem? (i := 2) rfl) rfl dX6_member_84 ?_
                refine lv_iload_n hx hb dX6_member_87 rfl (lv_at hl 1 rfl) ?_
                refine lv_iload_n hx hb dX6_member_88 rfl (lv_at hl 2 rfl) ?_
                refine lv_iload_n hx hb dX6_member_89 rfl (lv_at hl 3 rfl) ?_
                refine lv_iload hx hb dX6_member_90 (lv_at hl 4 rfl) ?_
                refine lv_iload hx hb dX6_member_92 (lv_at hl 5 rfl) ?_
                refine lv_iload hx hb dX6_member_94 (lv_at hl 6 rfl) ?_
                refine cx_cVi (As := [.int xa, .int xb, .int xe, .int xf, .int xh, .int xi]) (rest := []) ⟨hx, hb, hml, hown, hts⟩ hE hS (c_X3_addMember l D q cI cJ n T k M d C (cx_u (cx_u J 1 (fun _ => (0 : Int32))) 2 (fun _ => (-1 : Int32))) g xa xb xe xf xh xi (by first | assumption | omega | rfl)) (cwV 6 hts gX6_member_X3_addMember rfl rfl rfl (by decide +kernel) ⟨Nat.le_of_ble_eq_true rfl, Nat.le_of_ble_eq_true rfl⟩) 2 3 rfl rfl rfl hl.1 rfl (Nat.le_of_ble_eq_true rfl) ⟨Nat.zero_le _, Nat.zero_le _⟩ dX6_member_96 (fun r_96 u_96 H locs hp_96 hS => ?_)
                have hS : cx_S D vwCl A s (cxW q cI cJ n T (k + 1) (cx_u (cx_u (cx_u (cx_u (cx_u (cx_u M 0 (upd ((M 0)) k xa)) 1 (upd ((M 1)) k xb)) 2 (upd ((M 2)) k xe)) 3 (upd ((M 3)) k xf)) 4 (upd ((M 4)) k xh)) 5 (upd ((M 5)) k xi)) d C (cx_u (cx_u J 1 (fun _ => (0 : Int32))) 2 (fun _ => (-1 : Int32))) g) H locs := hS
                have hp_96 : r_96 = nI k := hp_96
                subst hp_96
                exact RET _ (k + 1, cx_u (cx_u (cx_u (cx_u (cx_u (cx_u M 0 (upd ((M 0)) k xa)) 1 (upd ((M 1)) k xb)) 2 (upd ((M 2)) k xe)) 3 (upd ((M 3)) k xf)) 4 (upd ((M 4)) k xh)) 5 (upd ((M 5)) k xi), cx_u (cx_u J 1 (fun _ => (0 : Int32))) 2 (fun _ => (-1 : Int32))) _ _ _ _ dX6_member_99 rfl (Or.inr (Or.inr ⟨⟨g8, g17, g25, g37, g46, g56⟩, g70, rfl, rfl, rfl, rfl⟩)) hS
              · skip
                have g70 : ¬ (k < 80) := fun z => h70 ((nI_ltI (a := k) (b := 80) (by omega) (by omega)).mpr z)
                refine lv_bipush (v := (-2 : Int32)) hx hb dX6_member_73 (by decide) ?_
                exact RET _ (k, M, J) _ _ _ _ dX6_member_75 rfl (Or.inr (Or.inl ⟨⟨g8, g17, g25, g37, g46, g56⟩, g70, rfl, rfl, rfl, rfl⟩)) hS
            · skip
              have g56 := cx_b0 h56
              exact J59  _ _ _ (by first | exact fun z => g37 z.2.2.2.1 | exact fun z => g46 z.2.2.2.2.1 | exact fun z => g56 z.2.2.2.2.2) hS (lv_sub hl [0, 1, 2, 3, 4, 5, 6] rfl)
      · skip
        have g25 := cx_b0 h25
        exact J28  _ _ _ (by first | exact fun z => g8 z.1 | exact fun z => g17 z.2.1 | exact fun z => g25 z.2.2.1) hS (lv_sub hl [0, 1, 2, 3, 4, 5, 6] rfl)
set_option maxHeartbeats 4000000 in
set_option maxRecDepth 100000 in
/-- type(kd, mk, pk, pr) -/
theorem c_X6_type (l : Launch) (D : va_G) (q : Nat → Nat) (cI cJ : ClassId) (n : Nat) (T : Nat → Nat → Int32) (k : Nat) (M : Nat → Nat → Int32) (d : Nat) (C : Nat → Nat → Int32) (J : Nat → Nat → Int32) (g : Nat → Int64) (kd : Int32) (mk : Int32) (pk : Int32) (pr : Int32) (hn : n ≤ 20) : cx_Mi l D vwCl [(cI, .int), (cJ, .long)] cx_NW yX6_type wsX6_type ({ frames := 4, cells := 0, slots := 0, locals := 87 } : Room) [.ref (q 0), .int kd, .int mk, .int pk, .int pr] (cxW q cI cJ n T k M d C J g) (fun (r : Int32) (uw : (Nat) × (Nat → Nat → Int32) × (Nat → Nat → Int32)) => (¬ cx_okT kd mk pk pr ∧ r = (-1 : Int32) ∧ uw.1 = n ∧ uw.2.1 = T ∧ uw.2.2 = J) ∨ (cx_okT kd mk pk pr ∧ ¬ n < 20 ∧ r = (-2 : Int32) ∧ uw.1 = n ∧ uw.2.1 = T ∧ uw.2.2 = J) ∨ (cx_okT kd mk pk pr ∧ n < 20 ∧ r = nI n ∧ uw.1 = n + 1 ∧ uw.2.2 = cx_u (cx_u J 1 (fun _ => (0 : Int32))) 2 (fun _ => (-1 : Int32)) ∧ ∃ (f : Nat → Int32) (b : Int32), uw.2.1 = cx_u (cx_u (cx_u (cx_u (cx_u (cx_u T 0 (upd (T 0) n kd)) 1 (upd (T 1) n mk)) 2 (upd (T 2) n pk)) 3 (upd (T 3) n pr)) 4 (upd (T 4) n b)) 10 f ∧ cx_CL uw.2.1 uw.1 (uw.2.1 10) ∧ b = (if pr = -1 then (0 : Int32) else ((1 : Int32) <<< (pr &&& 31))))) (fun uw => (cxW q cI cJ uw.1 uw.2.1 k M d C uw.2.2 g)) := by
  refine cx_Mi.of (cc := cX6_type) (maxL := 5) cx_NW_ok (by decide) rfl (Nat.le_of_ble_eq_true rfl) ?_
  intro p e s m args below meth c Q A ls hx hb hml hown hts hE RET hS hl
  have hl : lv_has ls 5 [(0, .ref (q 0)), (1, .int kd), (2, .int mk), (3, .int pk), (4, .int pr)] := hl
  have hown : s.vm.findClass RX6 = some m.cls := hown
  have hinX5 : ∀ w ∈ u_ws RX5 TX5 12, w ∈ wsX6_type := cx_mem [47, 48, 49, 50, 51, 52, 53, 54, 55, 56, 57, 58] (by decide +kernel)
  have hinX6 : ∀ w ∈ u_ws RX6 TX6 4, w ∈ wsX6_type := cx_mem [43, 44, 45, 46] (by decide +kernel)
  refine lv_iload_n hx hb dX6_type_0 rfl (lv_at hl 1 rfl) ?_
  refine lv_iconst (v := nI 4) hx hb dX6_type_1 (by decide) ?_
  refine cx_cSi (As := [.int kd, .int (nI 4)]) (rest := []) ⟨hx, hb, hml, hown, hts⟩ hE hS (c_X6_within l D [(cI, .int), (cJ, .long)] (cxW q cI cJ n T k M d C J g) kd (nI 4) ) (va_cwS 2 hts gX6_type_X6_within rfl rfl rfl (by decide +kernel) ⟨Nat.le_of_ble_eq_true rfl, Nat.le_of_ble_eq_true rfl⟩) rfl hl.1 rfl (Nat.le_of_ble_eq_true rfl) ⟨Nat.zero_le _, Nat.zero_le _⟩ dX6_type_2 (fun r_2 u_2 H locs hp_2 hS => ?_)
  have hp_2 : r_2 = cx_b (0 ≤ kd ∧ kd < (nI 4)) := hp_2
  subst hp_2
  refine lv_if_eq (tgt := 25) hx hb dX6_type_5 (by decide) (fun h5 => ?_) (fun h5 => ?_)
  · skip
    have g5 := cx_b0 h5
    refine lv_iconst (v := (-1 : Int32)) hx hb dX6_type_25 (by decide) ?_
    exact RET _ (n, T, J) _ _ _ _ dX6_type_26 rfl (by first | exact Or.inl ⟨fun z => g5 z.1, rfl, rfl, rfl, rfl⟩ | exact Or.inl ⟨fun z => g14 z.2.1, rfl, rfl, rfl, rfl⟩ | exact Or.inl ⟨fun z => g22 z.2.2.1, rfl, rfl, rfl, rfl⟩) hS
  · skip
    have g5 := cx_b1 h5
    refine lv_iload_n hx hb dX6_type_8 rfl (lv_at hl 2 rfl) ?_
    refine lv_bipush (v := nI 16) hx hb dX6_type_9 (by decide) ?_
    refine cx_cSi (As := [.int mk, .int (nI 16)]) (rest := []) ⟨hx, hb, hml, hown, hts⟩ hE hS (c_X6_within l D [(cI, .int), (cJ, .long)] (cxW q cI cJ n T k M d C J g) mk (nI 16) ) (va_cwS 2 hts gX6_type_X6_within rfl rfl rfl (by decide +kernel) ⟨Nat.le_of_ble_eq_true rfl, Nat.le_of_ble_eq_true rfl⟩) rfl hl.1 rfl (Nat.le_of_ble_eq_true rfl) ⟨Nat.zero_le _, Nat.zero_le _⟩ dX6_type_11 (fun r_11 u_11 H locs hp_11 hS => ?_)
    have hp_11 : r_11 = cx_b (0 ≤ mk ∧ mk < (nI 16)) := hp_11
    subst hp_11
    refine lv_if_eq (tgt := 25) hx hb dX6_type_14 (by decide) (fun h14 => ?_) (fun h14 => ?_)
    · skip
      have g14 := cx_b0 h14
      refine lv_iconst (v := (-1 : Int32)) hx hb dX6_type_25 (by decide) ?_
      exact RET _ (n, T, J) _ _ _ _ dX6_type_26 rfl (by first | exact Or.inl ⟨fun z => g5 z.1, rfl, rfl, rfl, rfl⟩ | exact Or.inl ⟨fun z => g14 z.2.1, rfl, rfl, rfl, rfl⟩ | exact Or.inl ⟨fun z => g22 z.2.2.1, rfl, rfl, rfl, rfl⟩) hS
    · skip
      have g14 := cx_b1 h14
      refine lv_iload_n hx hb dX6_type_17 rfl (lv_at hl 3 rfl) ?_
      refine lv_iconst (v := nI 4) hx hb dX6_type_18 (by decide) ?_
      refine cx_cSi (As := [.int pk, .int (nI 4)]) (rest := []) ⟨hx, hb, hml, hown, hts⟩ hE hS (c_X6_within l D [(cI, .int), (cJ, .long)] (cxW q cI cJ n T k M d C J g) pk (nI 4) ) (va_cwS 2 hts gX6_type_X6_within rfl rfl rfl (by decide +kernel) ⟨Nat.le_of_ble_eq_true rfl, Nat.le_of_ble_eq_true rfl⟩) rfl hl.1 rfl (Nat.le_of_ble_eq_true rfl) ⟨Nat.zero_le _, Nat.zero_le _⟩ dX6_type_19 (fun r_19 u_19 H locs hp_19 hS => ?_)
      have hp_19 : r_19 = cx_b (0 ≤ pk ∧ pk < (nI 4)) := hp_19
      subst hp_19
      refine lv_if_ne (tgt := 27) hx hb dX6_type_22 (by decide) (fun h22 => ?_) (fun h22 => ?_)
      · skip
        have g22 := cx_b1 h22
        refine lv_iload hx hb dX6_type_27 (lv_at hl 4 rfl) ?_
        refine lv_iconst (v := (-1 : Int32)) hx hb dX6_type_29 (by decide) ?_
        refine lv_icmp_eq (tgt := 45) hx hb dX6_type_30 (by decide) (fun h30 => ?_) (fun h30 => ?_)
        · skip
          refine lv_aload_n hx hb dX6_type_45 rfl (lv_at hl 0 rfl) ?_
          refine cx_get (own := RX6) (index := 12) (C := RX6) (T := TX6) (N := 4) (k := 0) (ci := 6) (v := .ref (q 1)) hx hb hts hown hE hS hinX6 0 rfl rfl (by decide) (List.mem_of_getElem? (i := 1) rfl) rfl dX6_type_46 ?_
          refine cx_getN (own := RX6) (index := 47) (C := RX5) (T := TX5) (N := 12) (k := 11) (ci := 5) (host := "ClassRules") (v := .int (nI n)) hx hb hts hown hE hS hinX5 1 rfl rfl (by decide) (List.mem_of_getElem? (i := 17) rfl) rfl dX6_type_49 ?_
          refine lv_bipush (v := nI 20) hx hb dX6_type_52 (by decide) ?_
          refine lv_icmp_lt (tgt := 60) hx hb dX6_type_54 (by decide) (fun h54 => ?_) (fun h54 => ?_)
          · skip
            have g54 : n < 20 := (nI_ltI (a := n) (b := 20) (by omega) (by omega)).mp h54
            refine lv_aload_n hx hb dX6_type_60 rfl (lv_at hl 0 rfl) ?_
            refine cx_get (own := RX6) (index := 39) (C := RX6) (T := TX6) (N := 4) (k := 3) (ci := 6) (v := .ref (q 4)) hx hb hts hown hE hS hinX6 0 rfl rfl (by decide) (List.mem_of_getElem? (i := 2) rfl) rfl dX6_type_61 ?_
            refine cx_cVv (As := []) (rest := []) ⟨hx, hb, hml, hown, hts⟩ hE hS (c_X1_forget l D q cI cJ n T k M d C J g  ) (cwV 0 hts gX6_type_X1_forget rfl rfl rfl (by decide +kernel) ⟨Nat.le_of_ble_eq_true rfl, Nat.le_of_ble_eq_true rfl⟩) 4 1 rfl rfl rfl hl.1 rfl (Nat.le_of_ble_eq_true rfl) ⟨Nat.zero_le _, Nat.zero_le _⟩ dX6_type_64 (fun u_64 H locs hp_64 hS => ?_)
            have hS : cx_S D vwCl A s (cxW q cI cJ n T k M d C (cx_u (cx_u J 1 (fun _ => (0 : Int32))) 2 (fun _ => (-1 : Int32))) g) H locs := hS
            refine lv_aload_n hx hb dX6_type_67 rfl (lv_at hl 0 rfl) ?_
            refine cx_get (own := RX6) (index := 12) (C := RX6) (T := TX6) (N := 4) (k := 0) (ci := 6) (v := .ref (q 1)) hx hb hts hown hE hS hinX6 0 rfl rfl (by decide) (List.mem_of_getElem? (i := 1) rfl) rfl dX6_type_68 ?_
            refine lv_iload_n hx hb dX6_type_71 rfl (lv_at hl 1 rfl) ?_
            refine lv_iload_n hx hb dX6_type_72 rfl (lv_at hl 2 rfl) ?_
            refine lv_iload_n hx hb dX6_type_73 rfl (lv_at hl 3 rfl) ?_
            refine lv_iload hx hb dX6_type_74 (lv_at hl 4 rfl) ?_
            refine cx_cVi (As := [.int kd, .int mk, .int pk, .int pr]) (rest := []) ⟨hx, hb, hml, hown, hts⟩ hE hS (c_X5_addType l D q cI cJ n T k M d C (cx_u (cx_u J 1 (fun _ => (0 : Int32))) 2 (fun _ => (-1 : Int32))) g kd mk pk pr (by first | assumption | omega | rfl)) (cwV 4 hts gX6_type_X5_addType rfl rfl rfl (by decide +kernel) ⟨Nat.le_of_ble_eq_true rfl, Nat.le_of_ble_eq_true rfl⟩) 1 5 rfl rfl rfl hl.1 rfl (Nat.le_of_ble_eq_true rfl) ⟨Nat.zero_le _, Nat.zero_le _⟩ dX6_type_76 (fun r_76 u_76 H locs hp_76 hS => ?_)
            obtain ⟨f_76, b_76⟩ := u_76
            have hS : cx_S D vwCl A s (cxW q cI cJ (n + 1) (cx_u (cx_u (cx_u (cx_u (cx_u (cx_u T 0 (upd ((T 0)) n kd)) 1 (upd ((T 1)) n mk)) 2 (upd ((T 2)) n pk)) 3 (upd ((T 3)) n pr)) 4 (upd ((T 4)) n b_76)) 10 f_76) k M d C (cx_u (cx_u J 1 (fun _ => (0 : Int32))) 2 (fun _ => (-1 : Int32))) g) H locs := hS
            obtain ⟨hr_76, hp_76⟩ := hp_76
            have hp_76 : cx_CL (cx_u (cx_u (cx_u (cx_u (cx_u T 0 (upd ((T 0)) n kd)) 1 (upd ((T 1)) n mk)) 2 (upd ((T 2)) n pk)) 3 (upd ((T 3)) n pr)) 4 (upd ((T 4)) n b_76)) (n + 1) f_76 ∧ b_76 = (if pr = -1 then (0 : Int32) else ((1 : Int32) <<< (pr &&& 31))) := hp_76
            have hr_76 : r_76 = nI n := hr_76
            subst hr_76
            exact RET _ (n + 1, cx_u (cx_u (cx_u (cx_u (cx_u (cx_u T 0 (upd ((T 0)) n kd)) 1 (upd ((T 1)) n mk)) 2 (upd ((T 2)) n pk)) 3 (upd ((T 3)) n pr)) 4 (upd ((T 4)) n b_76)) 10 f_76, cx_u (cx_u J 1 (fun _ => (0 : Int32))) 2 (fun _ => (-1 : Int32))) _ _ _ _ dX6_type_79 rfl (by first | exact Or.inr (Or.inr ⟨⟨g5, g14, g22, Or.inl h30⟩, g54, rfl, rfl, rfl, _, _, rfl, hp_76.1, hp_76.2⟩) | exact Or.inr (Or.inr ⟨⟨g5, g14, g22, Or.inr g40⟩, g54, rfl, rfl, rfl, _, _, rfl, hp_76.1, hp_76.2⟩)) hS
          · skip
            have g54 : ¬ (n < 20) := fun z => h54 ((nI_ltI (a := n) (b := 20) (by omega) (by omega)).mpr z)
            refine lv_bipush (v := (-2 : Int32)) hx hb dX6_type_57 (by decide) ?_
            exact RET _ (n, T, J) _ _ _ _ dX6_type_59 rfl (by first | exact Or.inr (Or.inl ⟨⟨g5, g14, g22, Or.inl h30⟩, g54, rfl, rfl, rfl, rfl⟩) | exact Or.inr (Or.inl ⟨⟨g5, g14, g22, Or.inr g40⟩, g54, rfl, rfl, rfl, rfl⟩)) hS
        · skip
          refine lv_iload hx hb dX6_type_33 (lv_at hl 4 rfl) ?_
          refine lv_bipush (v := nI 20) hx hb dX6_type_35 (by decide) ?_
          refine cx_cSi (As := [.int pr, .int (nI 20)]) (rest := []) ⟨hx, hb, hml, hown, hts⟩ hE hS (c_X6_within l D [(cI, .int), (cJ, .long)] (cxW q cI cJ n T k M d C J g) pr (nI 20) ) (va_cwS 2 hts gX6_type_X6_within rfl rfl rfl (by decide +kernel) ⟨Nat.le_of_ble_eq_true rfl, Nat.le_of_ble_eq_true rfl⟩) rfl hl.1 rfl (Nat.le_of_ble_eq_true rfl) ⟨Nat.zero_le _, Nat.zero_le _⟩ dX6_type_37 (fun r_37 u_37 H locs hp_37 hS => ?_)
          have hp_37 : r_37 = cx_b (0 ≤ pr ∧ pr < (nI 20)) := hp_37
          subst hp_37
          refine lv_if_ne (tgt := 45) hx hb dX6_type_40 (by decide) (fun h40 => ?_) (fun h40 => ?_)
          · skip
            have g40 := cx_b1 h40
            refine lv_aload_n hx hb dX6_type_45 rfl (lv_at hl 0 rfl) ?_
            refine cx_get (own := RX6) (index := 12) (C := RX6) (T := TX6) (N := 4) (k := 0) (ci := 6) (v := .ref (q 1)) hx hb hts hown hE hS hinX6 0 rfl rfl (by decide) (List.mem_of_getElem? (i := 1) rfl) rfl dX6_type_46 ?_
            refine cx_getN (own := RX6) (index := 47) (C := RX5) (T := TX5) (N := 12) (k := 11) (ci := 5) (host := "ClassRules") (v := .int (nI n)) hx hb hts hown hE hS hinX5 1 rfl rfl (by decide) (List.mem_of_getElem? (i := 17) rfl) rfl dX6_type_49 ?_
            refine lv_bipush (v := nI 20) hx hb dX6_type_52 (by decide) ?_
            refine lv_icmp_lt (tgt := 60) hx hb dX6_type_54 (by decide) (fun h54 => ?_) (fun h54 => ?_)
            · skip
              have g54 : n < 20 := (nI_ltI (a := n) (b := 20) (by omega) (by omega)).mp h54
              refine lv_aload_n hx hb dX6_type_60 rfl (lv_at hl 0 rfl) ?_
              refine cx_get (own := RX6) (index := 39) (C := RX6) (T := TX6) (N := 4) (k := 3) (ci := 6) (v := .ref (q 4)) hx hb hts hown hE hS hinX6 0 rfl rfl (by decide) (List.mem_of_getElem? (i := 2) rfl) rfl dX6_type_61 ?_
              refine cx_cVv (As := []) (rest := []) ⟨hx, hb, hml, hown, hts⟩ hE hS (c_X1_forget l D q cI cJ n T k M d C J g  ) (cwV 0 hts gX6_type_X1_forget rfl rfl rfl (by decide +kernel) ⟨Nat.le_of_ble_eq_true rfl, Nat.le_of_ble_eq_true rfl⟩) 4 1 rfl rfl rfl hl.1 rfl (Nat.le_of_ble_eq_true rfl) ⟨Nat.zero_le _, Nat.zero_le _⟩ dX6_type_64 (fun u_64 H locs hp_64 hS => ?_)
              have hS : cx_S D vwCl A s (cxW q cI cJ n T k M d C (cx_u (cx_u J 1 (fun _ => (0 : Int32))) 2 (fun _ => (-1 : Int32))) g) H locs := hS
              refine lv_aload_n hx hb dX6_type_67 rfl (lv_at hl 0 rfl) ?_
              refine cx_get (own := RX6) (index := 12) (C := RX6) (T := TX6) (N := 4) (k := 0) (ci := 6) (v := .ref (q 1)) hx hb hts hown hE hS hinX6 0 rfl rfl (by decide) (List.mem_of_getElem? (i := 1) rfl) rfl dX6_type_68 ?_
              refine lv_iload_n hx hb dX6_type_71 rfl (lv_at hl 1 rfl) ?_
              refine lv_iload_n hx hb dX6_type_72 rfl (lv_at hl 2 rfl) ?_
              refine lv_iload_n hx hb dX6_type_73 rfl (lv_at hl 3 rfl) ?_
              refine lv_iload hx hb dX6_type_74 (lv_at hl 4 rfl) ?_
              refine cx_cVi (As := [.int kd, .int mk, .int pk, .int pr]) (rest := []) ⟨hx, hb, hml, hown, hts⟩ hE hS (c_X5_addType l D q cI cJ n T k M d C (cx_u (cx_u J 1 (fun _ => (0 : Int32))) 2 (fun _ => (-1 : Int32))) g kd mk pk pr (by first | assumption | omega | rfl)) (cwV 4 hts gX6_type_X5_addType rfl rfl rfl (by decide +kernel) ⟨Nat.le_of_ble_eq_true rfl, Nat.le_of_ble_eq_true rfl⟩) 1 5 rfl rfl rfl hl.1 rfl (Nat.le_of_ble_eq_true rfl) ⟨Nat.zero_le _, Nat.zero_le _⟩ dX6_type_76 (fun r_76 u_76 H locs hp_76 hS => ?_)
              obtain ⟨f_76, b_76⟩ := u_76
              have hS : cx_S D vwCl A s (cxW q cI cJ (n + 1) (cx_u (cx_u (cx_u (cx_u (cx_u (cx_u T 0 (upd ((T 0)) n kd)) 1 (upd ((T 1)) n mk)) 2 (upd ((T 2)) n pk)) 3 (upd ((T 3)) n pr)) 4 (upd ((T 4)) n b_76)) 10 f_76) k M d C (cx_u (cx_u J 1 (fun _ => (0 : Int32))) 2 (fun _ => (-1 : Int32))) g) H locs := hS
              obtain ⟨hr_76, hp_76⟩ := hp_76
              have hp_76 : cx_CL (cx_u (cx_u (cx_u (cx_u (cx_u T 0 (upd ((T 0)) n kd)) 1 (upd ((T 1)) n mk)) 2 (upd ((T 2)) n pk)) 3 (upd ((T 3)) n pr)) 4 (upd ((T 4)) n b_76)) (n + 1) f_76 ∧ b_76 = (if pr = -1 then (0 : Int32) else ((1 : Int32) <<< (pr &&& 31))) := hp_76
              have hr_76 : r_76 = nI n := hr_76
              subst hr_76
              exact RET _ (n + 1, cx_u (cx_u (cx_u (cx_u (cx_u (cx_u T 0 (upd ((T 0)) n kd)) 1 (upd ((T 1)) n mk)) 2 (upd ((T 2)) n pk)) 3 (upd ((T 3)) n pr)) 4 (upd ((T 4)) n b_76)) 10 f_76, cx_u (cx_u J 1 (fun _ => (0 : Int32))) 2 (fun _ => (-1 : Int32))) _ _ _ _ dX6_type_79 rfl (by first | exact Or.inr (Or.inr ⟨⟨g5, g14, g22, Or.inl h30⟩, g54, rfl, rfl, rfl, _, _, rfl, hp_76.1, hp_76.2⟩) | exact Or.inr (Or.inr ⟨⟨g5, g14, g22, Or.inr g40⟩, g54, rfl, rfl, rfl, _, _, rfl, hp_76.1, hp_76.2⟩)) hS
            · skip
              have g54 : ¬ (n < 20) := fun z => h54 ((nI_ltI (a := n) (b := 20) (by omega) (by omega)).mpr z)
              refine lv_bipush (v := (-2 : Int32)) hx hb dX6_type_57 (by decide) ?_
              exact RET _ (n, T, J) _ _ _ _ dX6_type_59 rfl (by first | exact Or.inr (Or.inl ⟨⟨g5, g14, g22, Or.inl h30⟩, g54, rfl, rfl, rfl, rfl⟩) | exact Or.inr (Or.inl ⟨⟨g5, g14, g22, Or.inr g40⟩, g54, rfl, rfl, rfl, rfl⟩)) hS
          · skip
            have g40 := cx_b0 h40
            refine lv_iconst (v := (-1 : Int32)) hx hb dX6_type_43 (by decide) ?_
            exact RET _ (n, T, J) _ _ _ _ dX6_type_44 rfl (Or.inl ⟨fun z => z.2.2.2.elim h30 g40, rfl, rfl, rfl, rfl⟩) hS
      · skip
        have g22 := cx_b0 h22
        refine lv_iconst (v := (-1 : Int32)) hx hb dX6_type_25 (by decide) ?_
        exact RET _ (n, T, J) _ _ _ _ dX6_type_26 rfl (by first | exact Or.inl ⟨fun z => g5 z.1, rfl, rfl, rfl, rfl⟩ | exact Or.inl ⟨fun z => g14 z.2.1, rfl, rfl, rfl, rfl⟩ | exact Or.inl ⟨fun z => g22 z.2.2.1, rfl, rfl, rfl, rfl⟩) hS
set_option maxHeartbeats 4000000 in
set_option maxRecDepth 100000 in
/-- told(a) -/
theorem c_X6_told (l : Launch) (D : va_G) (q : Nat → Nat) (cI cJ : ClassId) (n : Nat) (T : Nat → Nat → Int32) (k : Nat) (M : Nat → Nat → Int32) (d : Nat) (C : Nat → Nat → Int32) (J : Nat → Nat → Int32) (g : Nat → Int64) (a : Int32) : cx_Mi l D vwCl [(cI, .int), (cJ, .long)] cx_NW yX6_told wsX6_told ({ frames := 0, cells := 0, slots := 0, locals := 0 } : Room) [.ref (q 0), .int a] (cxW q cI cJ n T k M d C J g) (fun (r : Int32) (uw : Unit) => r = (if a = 0 then nI n else if a = 1 then nI k else (-1 : Int32))) (fun _ => (cxW q cI cJ n T k M d C J g)) := by
  refine cx_Mi.of (cc := cX6_told) (maxL := 2) cx_NW_ok (by decide) rfl (Nat.le_of_ble_eq_true rfl) ?_
  intro p e s m args below meth c Q A ls hx hb hml hown hts hE RET hS hl
  have hl : lv_has ls 2 [(0, .ref (q 0)), (1, .int a)] := hl
  have hown : s.vm.findClass RX6 = some m.cls := hown
  have hinX3 : ∀ w ∈ u_ws RX3 TX3 8, w ∈ wsX6_told := cx_mem [19, 20, 21, 22, 23, 24, 25, 26] (by decide +kernel)
  have hinX5 : ∀ w ∈ u_ws RX5 TX5 12, w ∈ wsX6_told := cx_mem [7, 8, 9, 10, 11, 12, 13, 14, 15, 16, 17, 18] (by decide +kernel)
  have hinX6 : ∀ w ∈ u_ws RX6 TX6 4, w ∈ wsX6_told := cx_mem [3, 4, 5, 6] (by decide +kernel)
  refine lv_iload_n hx hb dX6_told_0 rfl (lv_at hl 1 rfl) ?_
  refine lv_if_ne (tgt := 12) hx hb dX6_told_1 (by decide) (fun h1 => ?_) (fun h1 => ?_)
  · skip
    refine lv_iload_n hx hb dX6_told_12 rfl (lv_at hl 1 rfl) ?_
    refine lv_iconst (v := (1 : Int32)) hx hb dX6_told_13 (by decide) ?_
    refine lv_icmp_ne (tgt := 27) hx hb dX6_told_14 (by decide) (fun h14 => ?_) (fun h14 => ?_)
    · skip
      refine lv_iconst (v := (-1 : Int32)) hx hb dX6_told_27 (by decide) ?_
      exact RET _ () _ _ _ _ dX6_told_28 rfl (by first | rw [if_neg h1, if_pos h14] | rw [if_neg h1, if_neg h14]) hS
    · skip
      refine lv_aload_n hx hb dX6_told_17 rfl (lv_at hl 0 rfl) ?_
      refine cx_get (own := RX6) (index := 21) (C := RX6) (T := TX6) (N := 4) (k := 1) (ci := 6) (v := .ref (q 2)) hx hb hts hown hE hS hinX6 0 rfl rfl (by decide) (List.mem_of_getElem? (i := 2) rfl) rfl dX6_told_18 ?_
      refine cx_getN (own := RX6) (index := 76) (C := RX3) (T := TX3) (N := 8) (k := 7) (ci := 3) (host := "ClassRules") (v := .int (nI k)) hx hb hts hown hE hS hinX3 2 rfl rfl (by decide) (List.mem_of_getElem? (i := 30) rfl) rfl dX6_told_21 ?_
      refine lv_goto (tgt := 28) hx hb dX6_told_24 (by decide) ?_
      exact RET _ () _ _ _ _ dX6_told_28 rfl (by first | rw [if_neg h1, if_pos h14] | rw [if_neg h1, if_neg h14]) hS
  · skip
    refine lv_aload_n hx hb dX6_told_4 rfl (lv_at hl 0 rfl) ?_
    refine cx_get (own := RX6) (index := 12) (C := RX6) (T := TX6) (N := 4) (k := 0) (ci := 6) (v := .ref (q 1)) hx hb hts hown hE hS hinX6 0 rfl rfl (by decide) (List.mem_of_getElem? (i := 1) rfl) rfl dX6_told_5 ?_
    refine cx_getN (own := RX6) (index := 47) (C := RX5) (T := TX5) (N := 12) (k := 11) (ci := 5) (host := "ClassRules") (v := .int (nI n)) hx hb hts hown hE hS hinX5 1 rfl rfl (by decide) (List.mem_of_getElem? (i := 17) rfl) rfl dX6_told_8 ?_
    exact RET _ () _ _ _ _ dX6_told_11 rfl (by rw [if_pos h1]) hS
