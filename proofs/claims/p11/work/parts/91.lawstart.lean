set_option maxHeartbeats 4000000 in
set_option maxRecDepth 100000 in
theorem whole_start {p : Program} {e : Env} {s : State} {m : MethodId} {below : List Frame} {meth : Method} {c : Code} (l : Launch) {b L : Nat} {xs : Nat → Int32} (hL : L ≤ 3584) (C0 : lw_At p s m meth c b L xs) : W p l e room_1 s m #[Value.ref b] below meth c s.heap [] 0 0 (lw_Z below #[Value.ref b] s) (entryFrame m ([Value.ref b] : List Value).toArray 4) := by
  obtain ⟨hx, hb, hr, hml, hown, htb, hX, hbl, hlocks, hgv⟩ := id C0
  have hts := fun w h => htb w (wsL_law_in w h)
  have hA : ∀ q : Nat, s.heap.size ≤ q → (fun q : Nat => s.heap.size ≤ q) q := fun _ h => h
  have hbA : ¬ (fun q : Nat => s.heap.size ≤ q) b := Nat.not_le.mpr hbl
  obtain ⟨c0, iS0, hKn0⟩ := u_known (C := RX0) (T := TX0) (N := 7) (n := 7) hts inlX0 (hts (.instantiable RX0 7) (List.mem_of_getElem? (i := 21) rfl))
  obtain ⟨c1, iS1, hKn1⟩ := u_known (C := RX1) (T := TX1) (N := 9) (n := 9) hts inlX1 (hts (.instantiable RX1 9) (List.mem_of_getElem? (i := 25) rfl))
  obtain ⟨c2, iS2, hKn2⟩ := u_known (C := RX2) (T := TX2) (N := 2) (n := 2) hts inlX2 (hts (.instantiable RX2 2) (List.mem_of_getElem? (i := 84) rfl))
  obtain ⟨c3, iS3, hKn3⟩ := u_known (C := RX3) (T := TX3) (N := 8) (n := 8) hts inlX3 (hts (.instantiable RX3 8) (List.mem_of_getElem? (i := 17) rfl))
  obtain ⟨c4, iS4, hKn4⟩ := u_known (C := RX4) (T := TX4) (N := 1) (n := 1) hts inlX4 (hts (.instantiable RX4 1) (List.mem_of_getElem? (i := 80) rfl))
  obtain ⟨c5, iS5, hKn5⟩ := u_known (C := RX5) (T := TX5) (N := 12) (n := 12) hts inlX5 (hts (.instantiable RX5 12) (List.mem_of_getElem? (i := 13) rfl))
  obtain ⟨c6, iS6, hKn6⟩ := u_known (C := RX6) (T := TX6) (N := 4) (n := 4) hts inlX6 (hts (.instantiable RX6 4) (List.mem_of_getElem? (i := 1) rfl))
  obtain ⟨c7, iS7, hKn7⟩ := u_known (C := RX7) (T := TX7) (N := 22) (n := 22) hts inlX7 (hts (.instantiable RX7 22) (List.mem_of_getElem? (i := 4) rfl))
  obtain ⟨D, hKc⟩ : ∃ D : va_G, ∀ (k : Nat) (q : vw_C), vwCl[k]? = some q → u_Kn s q.1 q.2.1 q.2.2 (D.1 k) (D.2 k) := by
    refine ⟨(fun k => [c0, c1, c2, c3, c4, c5, c6, c7].getD k c0, fun k => [iS0, iS1, iS2, iS3, iS4, iS5, iS6, iS7].getD k iS0), ?_⟩
    intro k q hq
    match k, hq with
    | 0, hq => cases hq; exact hKn0
    | 1, hq => cases hq; exact hKn1
    | 2, hq => cases hq; exact hKn2
    | 3, hq => cases hq; exact hKn3
    | 4, hq => cases hq; exact hKn4
    | 5, hq => cases hq; exact hKn5
    | 6, hq => cases hq; exact hKn6
    | 7, hq => cases hq; exact hKn7
    | k + 8, hq => simp [vwCl] at hq
  have hN : cx_N cx_NW s := fun w hw => cx_nof (List.all_eq_true.mp cx_NW_ok w hw) (htb w (cx_mem [81, 82, 83, 84, 85, 86, 88, 90, 93, 95, 97, 99, 101, 103, 105, 106, 107, 109, 110, 145, 146, 147, 149, 151, 153, 155, 156, 157, 159, 161, 162, 163, 76, 295, 310, 349, 375, 411, 488, 531, 532, 555] (by decide +kernel) w hw))
  have hE : cx_E D vwCl [] cx_NW (fun q : Nat => s.heap.size ≤ q) s := ⟨⟨hKc, fun k q h => by simp at h⟩, hN, cx_NW_ok, hA⟩
  have hS : cx_S D vwCl (fun q : Nat => s.heap.size ≤ q) s [] s.heap [] := ⟨fun k q h => by simp at h, ⟨fun i j p q h => by simp at h, fun k q h => by simp at h⟩, va_S.rf⟩
  have hl := lv_entry ([.ref b]) (n := 4) (Nat.le_of_ble_eq_true rfl)
  rw [lg_entry_eq]
  generalize (lg_sl ([.ref b]) ++ List.replicate (4 - (lg_sl ([.ref b])).length) Slot.unset).toArray = ls at hl ⊢
  have hl : lv_has ls 4 [(0, .ref b)] := hl
  generalize hAe : (fun q : Nat => s.heap.size ≤ q) = A at hA hbA hE hS
  have hAA : ∀ q, A q → s.heap.size ≤ q := fun q h => by rw [← hAe] at h; exact h
  refine cx_new (own := RL) (index := 7) (ci := 6) (fs := [.null, .null, .null, .null]) (C := RX6) (T := TX6) (N := 4) hx hb hts hown hE hS inlX6 tyX6 tyX6_ok (List.mem_of_getElem? (i := 0) rfl) (List.mem_of_getElem? (i := 1) rfl) (List.mem_of_getElem? (i := 2) rfl) rfl (fun j hj => by rcases (show j = 0 ∨ j = 1 ∨ j = 2 ∨ j = 3 by omega) with rfl | rfl | rfl | rfl <;> rfl) (Nat.le_of_ble_eq_true rfl) (Nat.le_of_ble_eq_true rfl) dL_law_0 (fun q1 H hS => ?_)
  refine lv_dup hx hb dL_law_3 rfl ?_
  have hS : cx_S D vwCl A s [(q1, .inr (6, [.null, .null, .null, .null]))] H _ := hS
  refine cx_cI (As := []) (rest := [.ref q1]) (wr := []) ⟨hx, hb, hml, hown, hts⟩ hE hS [0] [] (by decide) rfl rfl (by decide) (by decide) (c_X6_init l D q1) (hE.1.sub [] rfl) (cwI 0 hts gL_law_X6_init rfl rfl rfl (hts (.initialized RX6) (List.mem_of_getElem? (i := 2) rfl)) (hts (.methodLink RL 9 yX6_init) (List.mem_of_getElem? (i := 6) rfl)) (hts (.instanceMethod yX6_init) (List.mem_of_getElem? (i := 7) rfl)) rfl (by decide +kernel) ⟨Nat.le_of_ble_eq_true rfl, Nat.le_of_ble_eq_true rfl⟩) rfl hl.1 rfl (Nat.le_of_ble_eq_true rfl) ⟨Nat.le_of_ble_eq_true rfl, Nat.le_of_ble_eq_true rfl⟩ dL_law_4 (fun u H locs hq hK1 hS => ?_)
  obtain ⟨cI, cJ, qx⟩ := u
  have hq : qx 0 = q1 := hq
  rw [← hq]
  have hK1 : va_K D vwCl [(cI, .int), (cJ, .long)] s := hK1
  have hE : cx_E D vwCl [(cI, .int), (cJ, .long)] cx_NW A s := ⟨hK1, hE.2⟩
  have hS : cx_S D vwCl A s (cxW qx cI cJ 0 (fun _ _ => (0 : Int32)) 0 (fun _ _ => (0 : Int32)) 0 (cx_u (fun _ _ => (0 : Int32)) 4 (fun _ => (-1 : Int32))) (cx_u (fun _ _ => (0 : Int32)) 2 (fun _ => (-1 : Int32))) (fun _ => (0 : Int64))) H locs := hS
  refine lv_astore_n (lv' := [(1, .ref (qx 0)), (0, .ref b)]) hx hb dL_law_7 rfl hl (by decide) rfl (fun ls hl => ?_)
  refine cx_new (own := RL) (index := 10) (ci := 7) (fs := [.int (0 : Int32), .null, .null, .null, .null, .null, .null, .null, .null, .int (0 : Int32), .null, .null, .null, .null, .null, .null, .null, .int (0 : Int32), .null, .null, .int (0 : Int32), .null]) (C := RX7) (T := TX7) (N := 22) hx hb hts hown hE hS inlX7 tyX7 tyX7_ok (List.mem_of_getElem? (i := 3) rfl) (List.mem_of_getElem? (i := 4) rfl) (List.mem_of_getElem? (i := 5) rfl) rfl (fun j hj => by rcases (show j = 0 ∨ j = 1 ∨ j = 2 ∨ j = 3 ∨ j = 4 ∨ j = 5 ∨ j = 6 ∨ j = 7 ∨ j = 8 ∨ j = 9 ∨ j = 10 ∨ j = 11 ∨ j = 12 ∨ j = 13 ∨ j = 14 ∨ j = 15 ∨ j = 16 ∨ j = 17 ∨ j = 18 ∨ j = 19 ∨ j = 20 ∨ j = 21 by omega) with rfl | rfl | rfl | rfl | rfl | rfl | rfl | rfl | rfl | rfl | rfl | rfl | rfl | rfl | rfl | rfl | rfl | rfl | rfl | rfl | rfl | rfl <;> rfl) (Nat.le_of_ble_eq_true rfl) (Nat.le_of_ble_eq_true rfl) dL_law_8 (fun q2 H hS => ?_)
  refine lv_dup hx hb dL_law_11 rfl ?_
  have hS : cx_S D vwCl A s ((cxW qx cI cJ 0 (fun _ _ => (0 : Int32)) 0 (fun _ _ => (0 : Int32)) 0 (cx_u (fun _ _ => (0 : Int32)) 4 (fun _ => (-1 : Int32))) (cx_u (fun _ _ => (0 : Int32)) 2 (fun _ => (-1 : Int32))) (fun _ => (0 : Int64))) ++ [(q2, .inr (7, [.int (0 : Int32), .null, .null, .null, .null, .null, .null, .null, .null, .int (0 : Int32), .null, .null, .null, .null, .null, .null, .null, .int (0 : Int32), .null, .null, .int (0 : Int32), .null]))]) H locs := hS
  refine cx_cI (As := []) (rest := [.ref q2]) (wr := (cxW qx cI cJ 0 (fun _ _ => (0 : Int32)) 0 (fun _ _ => (0 : Int32)) 0 (cx_u (fun _ _ => (0 : Int32)) 4 (fun _ => (-1 : Int32))) (cx_u (fun _ _ => (0 : Int32)) 2 (fun _ => (-1 : Int32))) (fun _ => (0 : Int64)))) ⟨hx, hb, hml, hown, hts⟩ hE hS [29] [0, 1, 2, 3, 4, 5, 6, 7, 8, 9, 10, 11, 12, 13, 14, 15, 16, 17, 18, 19, 20, 21, 22, 23, 24, 25, 26, 27, 28] (by decide) rfl rfl cx_ndX (by decide +kernel) (c_X7_init l D q2) (hE.1.sub [] rfl) (cwI 0 hts gL_law_X7_init rfl rfl rfl (hts (.initialized RX7) (List.mem_of_getElem? (i := 5) rfl)) (hts (.methodLink RL 12 yX7_init) (List.mem_of_getElem? (i := 98) rfl)) (hts (.instanceMethod yX7_init) (List.mem_of_getElem? (i := 99) rfl)) rfl (by decide +kernel) ⟨Nat.le_of_ble_eq_true rfl, Nat.le_of_ble_eq_true rfl⟩) rfl hl.1 rfl (Nat.le_of_ble_eq_true rfl) ⟨Nat.le_of_ble_eq_true rfl, Nat.le_of_ble_eq_true rfl⟩ dL_law_12 (fun u H locs hq hK2 hS => ?_)
  obtain ⟨cI2, cZ, qm⟩ := u
  have hq : qm 0 = q2 := hq
  rw [← hq]
  have hK2 : va_K D vwCl [(cI2, .int), (cZ, .boolean)] s := hK2
  obtain rfl : cI = cI2 := cx_sameI (hK2.2 0 _ rfl).2 (hK1.2 0 _ rfl).2
  have hE : cx_E D vwCl [(cI, .int), (cJ, .long), (cZ, .boolean)] cx_NW A s := ⟨(hE.1.app hK2).sub [0, 1, 3] rfl, hE.2⟩
  have hS : cx_S D vwCl A s ((cxW qx cI cJ 0 (fun _ _ => (0 : Int32)) 0 (fun _ _ => (0 : Int32)) 0 (cx_u (fun _ _ => (0 : Int32)) 4 (fun _ => (-1 : Int32))) (cx_u (fun _ _ => (0 : Int32)) 2 (fun _ => (-1 : Int32))) (fun _ => (0 : Int64))) ++ (cyW qm cI cZ 0 (fun _ _ => (0 : Int32)) 0 (fun _ _ => (0 : Int32)) 0 (fun _ _ => (0 : Int32)) (fun _ _ => (0 : Int32)))) H locs := hS
  refine lv_astore_n (lv' := [(2, .ref (qm 0)), (1, .ref (qx 0)), (0, .ref b)]) hx hb dL_law_15 rfl hl (by decide) rfl (fun ls hl => ?_)
  refine lv_iconst (v := (0 : Int32)) hx hb dL_law_16 (by decide) ?_
  refine cx_topr (z := nI 0) cx_n0 ?_
  refine lv_istore_n (lv' := [(3, .int (nI 0)), (2, .ref (qm 0)), (1, .ref (qx 0)), (0, .ref b)]) hx hb dL_law_17 rfl hl (by decide) rfl (fun ls hl => ?_)
  exact law_loop hAA hbA hL hx hb hr hml hown hts hX hbl hlocks hE qx qm (L + 8) 0 0 (fun _ _ => (0 : Int32)) 0 (fun _ _ => (0 : Int32)) 0 (cx_u (fun _ _ => (0 : Int32)) 4 (fun _ => (-1 : Int32))) (cx_u (fun _ _ => (0 : Int32)) 2 (fun _ => (-1 : Int32))) (fun _ => (0 : Int64)) 0 (fun _ _ => (0 : Int32)) 0 (fun _ _ => (0 : Int32)) 0 (fun _ _ => (0 : Int32)) (fun _ _ => (0 : Int32)) _ _ _ (by omega) (Nat.zero_le _) (by unfold lw_I; exact ⟨⟨Nat.zero_le _, Nat.zero_le _, rfl, rfl⟩, ⟨rfl, ⟨cx_R0 (by decide) (by decide), cx_R0 (by decide) (by decide), cx_R0 (by decide) (by decide), cx_R0 (by decide) (by decide), cx_R0 (by decide) (by decide), cx_R0 (by decide) (by decide)⟩, fun j hj => absurd hj (by omega)⟩, ⟨⟨rfl, rfl, rfl, rfl⟩, ⟨cx_P0 (by decide) (by decide), cx_R0 (by decide) (by decide), cx_R0 (by decide) (by decide), cx_R0 (by decide) (by decide), cx_R0 (by decide) (by decide), cx_R0 (by decide) (by decide), cx_R0 (by decide) (by decide)⟩, ⟨rfl, rfl⟩, fun a ha => absurd ha (by omega), fun a ha => absurd ha (by omega), lw_ub0, lw_wb0, lw_ub0⟩, lw_C0 rfl rfl, Or.inl rfl⟩) hS (lv_sub hl [3, 2, 1, 0] rfl)
