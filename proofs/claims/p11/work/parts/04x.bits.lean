/-! rows on bits, shifts and unsigned numbers, to paste: each family out of a closed proof of our own, whole with what it rests on; each by itself clean at Lean in its own claim (generation 39, form 5). Take a family whole -/
/-! ===== Int32 by its bits: bt x i ===== -/
def bt (x : Int32) (i : Nat) : Bool := x.toBitVec.getLsbD i
theorem b_ext {x y : Int32} (h : ∀ i, i < 32 → bt x i = bt y i) : x = y := Int32.toBitVec_inj.mp (BitVec.eq_of_getLsbD_eq (fun i hi => h i hi))
theorem b_or (x y : Int32) (i : Nat) : bt (x ||| y) i = (bt x i || bt y i) := by unfold bt; rw [Int32.toBitVec_or, BitVec.getLsbD_or]
theorem b_and (x y : Int32) (i : Nat) : bt (x &&& y) i = (bt x i && bt y i) := by unfold bt; rw [Int32.toBitVec_and, BitVec.getLsbD_and]
theorem b_xor (x y : Int32) (i : Nat) : bt (x ^^^ y) i = (bt x i ^^ bt y i) := by unfold bt; rw [Int32.toBitVec_xor, BitVec.getLsbD_xor]
theorem b_big {x : Int32} {i : Nat} (h : 32 ≤ i) : bt x i = false := BitVec.getLsbD_of_ge _ _ h
theorem b_255 (i : Nat) : bt 255 i = decide (i < 8) := by
  rcases Nat.lt_or_ge i 32 with h | h
  · exact (by decide +kernel : ∀ i, i < 32 → bt 255 i = decide (i < 8)) i h
  · rw [b_big h, decide_eq_false (by omega)]
theorem b_65535 (i : Nat) : bt 65535 i = decide (i < 16) := by
  rcases Nat.lt_or_ge i 32 with h | h
  · exact (by decide +kernel : ∀ i, i < 32 → bt 65535 i = decide (i < 16)) i h
  · rw [b_big h, decide_eq_false (by omega)]
theorem b_m1 : ∀ i, i < 32 → bt (-1) i = true := by decide +kernel
theorem b_0 (i : Nat) : bt 0 i = false := BitVec.getLsbD_zero
theorem s_l : ∀ n, n < 32 → ((nI n &&& 31).toBitVec.smod 32).toNat = n := by decide +kernel
theorem s_u : ∀ n, n < 32 → (((nI n).toUInt32 &&& Int32.toUInt32 31).toBitVec % 32).toNat = n := by decide +kernel
theorem b_shl (n : Nat) (hn : n < 32) (x : Int32) {i : Nat} (hi : i < 32) : bt (x <<< (nI n &&& 31)) i = (decide (n ≤ i) && bt x (i - n)) := by
  unfold bt
  rw [Int32.toBitVec_shiftLeft]
  show (x.toBitVec <<< ((nI n &&& 31).toBitVec.smod 32).toNat).getLsbD i = _
  rw [s_l n hn, BitVec.getLsbD_shiftLeft]
  rcases Nat.lt_or_ge i n with h | h
  · simp [h, Nat.not_le.mpr h]
  · simp [hi, h, Nat.not_lt.mpr h]
theorem b_ushr (n : Nat) (hn : n < 32) (x : Int32) (i : Nat) : bt ((x.toUInt32 >>> ((nI n).toUInt32 &&& Int32.toUInt32 31)).toInt32) i = bt x (n + i) := by
  show (x.toUInt32 >>> ((nI n).toUInt32 &&& Int32.toUInt32 31)).toBitVec.getLsbD i = x.toUInt32.toBitVec.getLsbD (n + i)
  rw [UInt32.toBitVec_shiftRight]
  show (x.toUInt32.toBitVec >>> (((nI n).toUInt32 &&& Int32.toUInt32 31).toBitVec % 32).toNat).getLsbD i = _
  rw [s_u n hn, BitVec.getLsbD_ushiftRight]
theorem b_sshr (n : Nat) (hn : n < 32) (x : Int32) {i : Nat} (hi : i < 32) : bt (x >>> (nI n &&& 31)) i = if n + i < 32 then bt x (n + i) else bt x 31 := by
  unfold bt
  rw [Int32.toBitVec_shiftRight]
  show (x.toBitVec.sshiftRight ((nI n &&& 31).toBitVec.smod 32).toNat).getLsbD i = _
  rw [s_l n hn, BitVec.getLsbD_sshiftRight, BitVec.msb_eq_getLsbD_last]
  simp [hi]
/-- how many of the first n are set -/
def cx_ct (f : Nat → Bool) : Nat → Nat
  | 0 => 0
  | n + 1 => cx_ct f n + (if f n = true then 1 else 0)
theorem cx_ct_le (f : Nat → Bool) (n : Nat) : cx_ct f n ≤ n := by
  induction n with
  | zero => exact Nat.le_refl 0
  | succ n ih =>
    unfold cx_ct
    split <;> omega
theorem cx_ct_eq {f g : Nat → Bool} {n : Nat} (h : ∀ j, j < n → f j = g j) : cx_ct f n = cx_ct g n := by
  induction n with
  | zero => rfl
  | succ n ih =>
    unfold cx_ct
    rw [ih (fun j hj => h j (by omega)), h n (by omega)]
theorem cx_ct_clr {f g : Nat → Bool} {o : Nat} {n : Nat} (ho : o < n) (hf : f o = true) (h : ∀ j, j < n → g j = (f j && decide (j ≠ o))) : cx_ct g n + 1 = cx_ct f n := by
  induction n with
  | zero => exact absurd ho (by omega)
  | succ n ih =>
    unfold cx_ct
    by_cases e : o = n
    · subst e
      have e1 : cx_ct g o = cx_ct f o := cx_ct_eq (fun j hj => by rw [h j (by omega)]; simp; omega)
      have e2 : g o = false := by rw [h o (by omega)]; simp
      rw [e1, e2, hf]
      simp
    · have h1 := ih (by omega) (fun j hj => h j (by omega))
      have e2 : g n = f n := by
        rw [h n (by omega)]
        simp
        intro _
        omega
      rw [e2]
      omega
theorem cx_b1i : ∀ i, i < 32 → bt 1 i = decide (i = 0) := by decide +kernel
/-- the bit that holds() asks for -/
theorem cx_bit {x : Int32} {o : Nat} (ho : o < 20) (h : ¬ ((x >>> (nI o &&& 31)) &&& (1 : Int32)) = 0) : bt x o = true := by
  cases hb : bt x o with
  | true => rfl
  | false =>
    refine absurd (b_ext (fun i hi => ?_)) h
    rw [b_and, b_0, cx_b1i i hi]
    by_cases e : i = 0
    · subst e
      rw [b_sshr o (by omega) x (by omega)]
      simp [show o < 32 by omega, hb]
    · simp [e]
theorem cx_clr {x : Int32} {o : Nat} (ho : o < 20) (h : ¬ ((x >>> (nI o &&& 31)) &&& (1 : Int32)) = 0) : cx_ct (bt (x &&& (((1 : Int32) <<< (nI o &&& 31)) ^^^ (-1 : Int32)))) 20 + 1 = cx_ct (bt x) 20 := by
  refine cx_ct_clr ho (cx_bit ho h) (fun j hj => ?_)
  rw [b_and, b_xor, b_m1 j (by omega), b_shl o (by omega) 1 (show j < 32 by omega), cx_b1i (j - o) (by omega)]
  by_cases e : j = o
  · subst e; simp
  · by_cases e2 : o ≤ j
    · simp [e2, e, show ¬ j - o = 0 by omega]
    · simp [e2, e]
theorem cx_pos {d : Nat} (h : ¬ nI d ≤ 0) : 0 < d := by
  rcases Nat.eq_zero_or_pos d with e | e
  · subst e
    exact absurd (by rw [nI_0]; exact Int32.le_refl _) h
  · exact e
theorem cx_nn {x : Int32} (h : ¬ x < 0) : x = nI x.toNatClampNeg := by
  obtain ⟨j, hj, rfl⟩ := nI_of h
  rw [nI_clamp hj]
theorem cx_nnb {x : Int32} {B : Nat} (h : ¬ x < 0) (hb : x.toInt < B) : x.toNatClampNeg < B := by
  obtain ⟨j, hj, rfl⟩ := nI_of h
  rw [nI_toInt hj] at hb
  rw [nI_clamp hj]
  omega
theorem cx_dec {x : Int32} (h : ¬ x < 0) : (x + Int32.ofInt (-1)).toInt = x.toInt - 1 := by
  obtain ⟨j, hj, rfl⟩ := nI_of h
  rw [Int32.toInt_add, nI_toInt hj, show (Int32.ofInt (-1)).toInt = -1 from by decide]
  exact Int.bmod_eq_of_le (by omega) (by omega)
theorem cx_ge0 {x : Int32} (h : ¬ x < 0) : 0 ≤ x.toInt := by
  obtain ⟨j, hj, rfl⟩ := nI_of h
  rw [nI_toInt hj]
  omega
theorem cx_sub1 {a : Nat} (h : 1 ≤ a) : nI a - (1 : Int32) = nI (a - 1) := pk_sub (a := a) (b := 1) h
theorem cx_sub2 {r : Int32} (h : cx_ix r 21) : (r - nI 2).toInt = (r.toNatClampNeg : Int) - 2 := by
  rw [h.1, pk_sub_toInt (by have := h.2; omega) (by decide), nI_clamp (by have := h.2; omega)]
  rfl
theorem cx_tkS {f : Nat → Int32} {d : Nat} {x : Int32} {B : Nat} (h : ∀ j, j < d → cx_ix (f j) B) (hx : cx_ix x B) : ∀ j, j < d + 1 → cx_ix (upd f d x j) B := by
  intro j hj
  by_cases e : j = d
  · simp only [upd, if_pos e]; exact hx
  · simp only [upd, if_neg e]; exact h j (by omega)
theorem cx_cSv {p : Program} {l : Launch} {e : Env} {R : Room} {s : State} {m : MethodId} {args : Array Value} {below : List Frame} {meth : Method} {c : Code} {H : Heap} {locs : List Loc} {cells slots : Nat} {Q : State → Prop} {D : va_G} {cl : List vw_C} {tys : List (ClassId × FieldType)} {NW : List Cond} {A : Nat → Prop} {cc bytes : ByteArray} {maxL nL n index pc : Nat} {ls : Array Slot} {ret : Option FieldType} {wy Ts : List Cond} {rm : Room} {own : String} {y : MethodName} {As rest st0 : List Value} {ws : va_W} {S : Type} {post : S → Prop} {wf : S → va_W} (F : CallFix p m c cc nL s args Ts own) (hE : cx_E D cl tys NW A s) (hS : cx_S D cl A s ws H locs) (hM : cx_Mv l D cl tys NW y wy rm As ws post wf) (cw : CallB R s args own index y bytes maxL ret wy rm 0 0 n ∧ (Cond.static y).before args s = true)
    (hn : As.length = n) (hsz : ls.size = nL) (hst : st0 = As.reverse ++ rest) (hW : (rest.map fun v => v.category).sum ≤ 8) (hf : cells ≤ R.cells ∧ slots ≤ R.slots) (hdg : decode cc pc = .ok (.invokestatic index, 3))
    (kk : ∀ (u : S) (H1 : Heap) (locs1 : List Loc), post u → cx_S D cl A s (wf u) H1 locs1 → W p l e R s m args below meth c H1 locs1 cells slots Q (F0 m (pc + 3) ls rest)) : W p l e R s m args below meth c H locs cells slots Q (F0 m pc ls st0) :=
  cx_vv hE hS (va_runS F (hM H.size) cw ⟨cx_blind hE.2.2.1 _ _ _, cx_pre hE hS _⟩ rfl hn hsz hst (lv_room hW) hdg hf) kk
theorem cx_pp {x : Int32} {B : Nat} (h : x = -1 ∨ cx_ix x B) (hn : ¬ x < 0) : cx_ix x B := h.resolve_left (fun e => hn (by rw [e]; decide))
theorem cx_pg {x : Int32} {B : Nat} (h : x = -1 ∨ cx_ix x B) (hn : 0 ≤ x) : cx_ix x B := cx_pp h (Int32.not_lt.mpr hn)
/-- the least place below k where P holds, or -1 -/
def cx_Lst (P : Nat → Prop) (k : Nat) (r : Int32) : Prop := (r = -1 ∧ ∀ j, j < k → ¬ P j) ∨ ∃ j, j < k ∧ P j ∧ (∀ i, i < j → ¬ P i) ∧ r = nI j
theorem cx_Lst.uniq {P : Nat → Prop} {k : Nat} {r r' : Int32} (h : cx_Lst P k r) (h' : cx_Lst P k r') : r = r' := by
  rcases h with ⟨e, h⟩ | ⟨j, hj, hp, hl, e⟩ <;> rcases h' with ⟨e', h'⟩ | ⟨j', hj', hp', hl', e'⟩
  · rw [e, e']
  · exact absurd hp' (h j' hj')
  · exact absurd hp (h' j hj)
  · have : j = j' := by
      rcases Nat.lt_trichotomy j j' with z | z | z
      · exact absurd hp (hl' j z)
      · exact z
      · exact absurd hp' (hl j' z)
    rw [e, e', this]
theorem cx_Lst.ix {P : Nat → Prop} {k : Nat} {r : Int32} (h : cx_Lst P k r) (hk : k ≤ 80) : r = -1 ∨ cx_ix r 80 := by
  rcases h with ⟨e, -⟩ | ⟨j, hj, -, -, e⟩
  · exact Or.inl e
  · exact Or.inr (by rw [e]; exact cx_ixI (by omega) (by decide))
theorem cx_Lst.of {P : Nat → Prop} {k : Nat} {r : Int32} (h : cx_Lst P k r) (hk : k ≤ 80) (hz : ∃ r0, cx_Lst P k r0 ∧ ¬ r0 < 0) : cx_ix r 80 := by
  obtain ⟨r0, h0, hn⟩ := hz
  rw [h0.uniq h] at hn
  exact cx_pp (h.ix hk) hn
/-- what the reference asks of a member of a face -/
def cx_ofP (M : Nat → Nat → Int32) (fc nm pm : Int32) (j : Nat) : Prop := (M 0) j = fc ∧ (M 1) j = nm ∧ (M 2) j = pm ∧ (cx_b (¬ (((M 3) j) &&& nI 4) = 0)) = (0 : Int32) ∧ ¬ (M 4) j ≤ 0
theorem cx_updn {f : Nat → Int32} {t : Nat} : upd f t (nI ((f t).toNatClampNeg + 1)) t = nI ((f t).toNatClampNeg + 1) := by simp [upd]
