/-! The document read once, over what both sides hold: kinds K, marks X, packages P, parents R of the TYPES, the MEMBERS' rows M, and as relations the UPPERS U, those told twice W, the PERMITTED V, what is ABOVE A. -/
theorem cx_e1 {P : Prop} (h : P) : ((1 : Int32) = 0 ∨ (1 : Int32) = 1) ∧ (¬ (1 : Int32) = 0 ↔ P) := ⟨Or.inr rfl, fun _ => h, fun _ => by decide⟩
theorem cx_e0 {P : Prop} (h : ¬ P) : ((0 : Int32) = 0 ∨ (0 : Int32) = 1) ∧ (¬ (0 : Int32) = 0 ↔ P) := ⟨Or.inl rfl, fun z => absurd rfl z, fun z => absurd z h⟩
abbrev cx_ow (M : Nat → Nat → Int32) (m : Nat) : Nat := (M 0 m).toNatClampNeg
abbrev cx_mk (f : Nat → Int32) (t : Nat) (b : Int32) : Prop := ¬ ((f t) &&& b) = 0
abbrev cx_fc (K : Nat → Int32) (M : Nat → Nat → Int32) (m : Nat) : Prop := K (cx_ow M m) = 1
abbrev cx_nmd (M : Nat → Nat → Int32) (m : Nat) (nm pm : Int32) : Prop := M 1 m = nm ∧ M 2 m = pm
abbrev cx_lk (M : Nat → Nat → Int32) (a b : Nat) : Prop := M 1 a = M 1 b ∧ M 2 a = M 2 b
abbrev cx_se (P : Nat → Int32) (M : Nat → Nat → Int32) (m t : Nat) : Prop := (M 4 m = 1 ∧ P (cx_ow M m) = P t) ∨ (¬ M 4 m = 1 ∧ ¬ M 4 m = 0)
abbrev cx_sh (K P : Nat → Int32) (M : Nat → Nat → Int32) (A : Nat → Nat → Prop) (m t : Nat) : Prop := A t (cx_ow M m) ∧ cx_se P M m t ∧ ¬ (cx_mk (M 3) m (nI 4) ∧ cx_fc K M m)
abbrev cx_is (A : Nat → Nat → Prop) (t u : Nat) : Prop := t = u ∨ A t u
/-- the class's rows as relations -/
abbrev cx_Ac (T : Nat → Nat → Int32) (n : Nat) (a u : Nat) : Prop := a < n ∧ u < n ∧ bt (T 10 a) u = true
abbrev cx_Uc (T : Nat → Nat → Int32) (a u : Nat) : Prop := a < 20 ∧ bt (T 5 a) u = true
abbrev cx_Wc (T : Nat → Nat → Int32) (a u : Nat) : Prop := a < 20 ∧ bt (T 6 a) u = true
abbrev cx_Vc (T : Nat → Nat → Int32) (a u : Nat) : Prop := a < 20 ∧ bt (T 8 a) u = true
/-- the reference's -/
def cx_Ar (T : Nat → Nat → Int32) (n : Nat) (a u : Nat) : Prop := a < n ∧ u < n ∧ cx_w3 n (cx_Er T n) n a u
def cx_Ur (T : Nat → Nat → Int32) (a u : Nat) : Prop := a < 20 ∧ u < 20 ∧ ∃ j, j < (T 5 a).toNatClampNeg ∧ T 4 (3 * a + j) = nI u
def cx_Wr (T : Nat → Nat → Int32) (a u : Nat) : Prop := a < 20 ∧ u < 20 ∧ ∃ i j, i < j ∧ j < (T 5 a).toNatClampNeg ∧ T 4 (3 * a + i) = nI u ∧ T 4 (3 * a + j) = nI u
def cx_Vr (T : Nat → Nat → Int32) (a u : Nat) : Prop := a < 20 ∧ u < 20 ∧ ∃ j, j < (T 7 a).toNatClampNeg ∧ T 6 (3 * a + j) = nI u
theorem cx_hb {x : Int32} {o : Nat} (ho : o < 20) : (¬ ((x >>> (nI o &&& 31)) &&& (1 : Int32)) = 0) ↔ bt x o = true := by
  constructor
  · exact cx_bit ho
  · intro z y
    rw [cx_bitf ho y] at z
    exact absurd z (by decide)
theorem cx_nz {x : Int32} : (¬ x = 0) ↔ ∃ u, u < 32 ∧ bt x u = true := by
  constructor
  · intro h
    by_cases e : ∃ u, u < 32 ∧ bt x u = true
    · exact e
    · exact absurd (b_ext (fun i hi => by
        rw [b_0]
        cases hb : bt x i with
        | true => exact absurd ⟨i, hi, hb⟩ e
        | false => rfl)) h
  · rintro ⟨u, -, h⟩ e
    rw [e, b_0] at h
    exact absurd h (by decide)
theorem cx_1bit {o u : Nat} (ho : o < 20) (hu : u < 32) : bt ((1 : Int32) <<< (nI o &&& 31)) u = true ↔ u = o := by
  rw [b_shl o (by omega) 1 hu, cx_b1i (u - o) (by omega)]
  simp
  omega
theorem cx_1nz {o : Nat} (ho : o < 20) : ¬ ((1 : Int32) <<< (nI o &&& 31)) = 0 := cx_nz.mpr ⟨o, by omega, (cx_1bit ho (by omega)).mpr rfl⟩
theorem cx_orz {x y : Int32} : (¬ (x ||| y) = 0) ↔ (¬ x = 0 ∨ ¬ y = 0) := by
  rw [cx_nz, cx_nz, cx_nz]
  constructor
  · rintro ⟨u, hu, h⟩
    rw [b_or, Bool.or_eq_true] at h
    exact h.elim (fun z => Or.inl ⟨u, hu, z⟩) (fun z => Or.inr ⟨u, hu, z⟩)
  · rintro (⟨u, hu, h⟩ | ⟨u, hu, h⟩)
    · exact ⟨u, hu, by rw [b_or, h, Bool.true_or]⟩
    · exact ⟨u, hu, by rw [b_or, h, Bool.or_true]⟩
theorem cx_not {x : Int32} {u : Nat} (hu : u < 32) : bt (x ^^^ (-1 : Int32)) u = true ↔ ¬ bt x u = true := by
  rw [b_xor, b_m1 u hu]
  cases bt x u <;> simp
theorem cx_ev2 {n : Nat} (hn : n ≤ 20) {u : Nat} (hu : u < 32) : bt (((1 : Int32) <<< (nI n &&& 31)) - (1 : Int32)) u = true ↔ u < n := by
  have h := (by decide +kernel : ∀ n, n < 21 → ∀ u, u < 32 → bt (((1 : Int32) <<< (nI n &&& 31)) - (1 : Int32)) u = decide (u < n)) n (by omega) u hu
  rw [h, decide_eq_true_eq]
theorem cx_lt32 {x : Int32} {u : Nat} (h : bt x u = true) : u < 32 := by
  by_cases e : u < 32
  · exact e
  · rw [b_big (by omega)] at h
    exact absurd h (by decide)
theorem cx_exS {P : Nat → Prop} {i : Nat} : (∃ j, j < i + 1 ∧ P j) ↔ (∃ j, j < i ∧ P j) ∨ P i := by
  constructor
  · rintro ⟨j, hj, h⟩
    by_cases e : j = i
    · subst e; exact Or.inr h
    · exact Or.inl ⟨j, by omega, h⟩
  · rintro (⟨j, hj, h⟩ | h)
    · exact ⟨j, by omega, h⟩
    · exact ⟨i, by omega, h⟩
theorem cx_ex0 {P : Nat → Prop} : ¬ ∃ j, j < 0 ∧ P j := fun ⟨_, h, _⟩ => absurd h (by omega)
theorem cx_fresh {n : Nat} {x : Int32} (hn : n ≤ 20) (hx : x = -1 ∨ cx_ix x 20) : (0 ≤ x ∧ x < nI n) ↔ ∃ u, u < n ∧ x = nI u := by
  constructor
  · intro h
    have h2 := cx_ixT (by omega) h
    exact ⟨_, h2.2, h2.1⟩
  · rintro ⟨u, hu, rfl⟩
    exact cx_in0 hn hu
section PURE
variable (n k : Nat) (K X P R : Nat → Int32) (M : Nat → Nat → Int32) (U W V A : Nat → Nat → Prop)
/-- faults 1, 2, 3 -/
def cx_FF (t : Nat) : Prop :=
  (∃ u, ¬ u < n ∧ ((u < 20 ∧ R t = nI u) ∨ U t u ∨ V t u)) ∨ A t t ∨ (∃ u, u < 20 ∧ R t = nI u ∧ (¬ K t = 0 ∨ (u < n ∧ ¬ K u = 0))) ∨ (∃ u, u < n ∧ U t u ∧ ¬ K u = 1)
def cx_f5 (a x : Int32) : Prop := ((¬ (x &&& nI 2) = 0 ∧ ¬ (x &&& nI 4) = 0) ∨ (¬ (x &&& nI 2) = 0 ∧ ¬ (x &&& nI 8) = 0) ∨ (¬ (x &&& nI 4) = 0 ∧ ¬ (x &&& nI 8) = 0)) ∨ ((a = 1 ∨ ¬ (x &&& 1) = 0) ∧ ¬ (x &&& nI 2) = 0) ∨ (¬ a = 0 ∧ ¬ a = 1 ∧ ¬ x = 0)
def cx_pl (a x : Int32) : Prop := (a = 0 ∨ a = 1) ∧ (x &&& nI 2) = 0 ∧ (x &&& nI 4) = 0 ∧ (x &&& nI 8) = 0
def cx_nx (t u : Nat) : Prop := (u < 20 ∧ R t = nI u) ∨ U t u
/-- faults 4 to 8 -/
def cx_F4 (t : Nat) : Prop := ∃ u, u < n ∧ R t = nI u ∧ cx_mk X u (nI 2)
def cx_F6a (t : Nat) : Prop := ∃ u, u < n ∧ cx_nx R U t u ∧ cx_mk X u (nI 4) ∧ (cx_pl (K t) (X t) ∨ ¬ V u t)
def cx_F6b (t : Nat) : Prop := cx_mk X t (nI 8) ∧ ¬ ∃ u, u < n ∧ cx_nx R U t u ∧ cx_mk X u (nI 4)
def cx_F7a (t : Nat) : Prop := ¬ ((∃ u, u < n ∧ V t u) ↔ cx_mk X t (nI 4))
def cx_F7b (t : Nat) : Prop := ∃ u, u < n ∧ V t u ∧ ¬ cx_nx R U u t
def cx_F8 (t : Nat) : Prop := ∃ u, u < n ∧ W t u
def cx_TF (t : Nat) : Prop := cx_F4 n X R t ∨ cx_f5 (K t) (X t) ∨ (cx_F6a n K X R U V t ∨ cx_F6b n X R U t) ∨ (cx_F7a n X V t ∨ cx_F7b n R U V t) ∨ cx_F8 n W t
/-- faults 10, 11 -/
def cx_ones (x a : Int32) : Prop := ((x &&& 1 = 0 ∧ x &&& nI 8 = 0 ∧ x &&& nI 4 = 0 ∧ a = 0) ∨ (¬ x &&& 1 = 0 ∧ x &&& nI 8 = 0 ∧ x &&& nI 4 = 0 ∧ ¬ a = 0) ∨ (x &&& 1 = 0 ∧ ¬ x &&& nI 8 = 0 ∧ x &&& nI 4 = 0 ∧ ¬ a = 0) ∨ (x &&& 1 = 0 ∧ x &&& nI 8 = 0 ∧ ¬ x &&& nI 4 = 0 ∧ ¬ a = 0))
def cx_wmF (m : Nat) : Prop := cx_mk (M 3) m (nI 2) ∨ M 4 m = 1 ∨ M 4 m = nI 2 ∨ ¬ cx_ones (M 3 m) (M 4 m)
def cx_wmC (m : Nat) : Prop := cx_mk (M 3) m (nI 8) ∨ (cx_mk (M 3) m 1 ∧ (cx_mk (M 3) m (nI 2) ∨ cx_mk (M 3) m (nI 4) ∨ M 4 m = 0 ∨ ¬ (K (cx_ow M m) = 0 ∧ cx_mk X (cx_ow M m) 1)))
def cx_wm (m : Nat) : Prop := (cx_fc K M m ∧ cx_wmF M m) ∨ (¬ cx_fc K M m ∧ cx_wmC K X M m)
def cx_dbl (m : Nat) : Prop := ∃ j, j < m ∧ M 0 j = M 0 m ∧ cx_lk M j m
def cx_MF (t : Nat) : Prop := ∃ m, m < k ∧ cx_ow M m = t ∧ (cx_dbl M m ∨ cx_wm K X M m)
/-- faults 12 to 15 -/
def cx_ft (r s : Int32) : Prop := r = s ∨ ((0 ≤ r - nI 10 ∧ r - nI 10 < nI n) ∧ (0 ≤ s - nI 10 ∧ s - nI 10 < nI n) ∧ cx_is A (r - nI 10).toNatClampNeg (s - nI 10).toNatClampNeg)
def cx_ov1 (m j : Nat) : Prop := cx_mk (M 3) j (nI 2) ∨ ¬ (cx_mk (M 3) j (nI 4) ↔ cx_mk (M 3) m (nI 4)) ∨ M 4 m < M 4 j ∨ ¬ cx_ft n A (M 5 m) (M 5 j)
def cx_ov (t m : Nat) : Prop := ∃ j, j < k ∧ (cx_lk M j m ∧ cx_sh K P M A j t ∧ cx_ov1 n M A m j)
def cx_OV (t : Nat) : Prop := ∃ m, m < k ∧ (cx_ow M m = t ∧ ¬ M 4 m = 0 ∧ cx_ov n k K P M A t m)
/-- the class one -/
def cx_c1 (t : Nat) (nm pm : Int32) (a m : Nat) : Prop := cx_ow M m = a ∧ cx_nmd M m nm pm ∧ ¬ cx_mk (M 3) m (nI 4) ∧ (a = t ∨ cx_sh K P M A m t)
def cx_one (Q : Nat → Nat → Prop) : Nat → Int32 → Int32 → Prop
  | 0, _, r => r = -1
  | f + 1, a, r => (¬ (0 ≤ a ∧ a < nI n) ∧ r = -1) ∨ ((0 ≤ a ∧ a < nI n) ∧ ∃ r0, cx_Lst (Q a.toNatClampNeg) k r0 ∧ ((¬ r0 = -1 ∧ r = r0) ∨ (r0 = -1 ∧ cx_one Q f (R a.toNatClampNeg) r)))
def cx_co (t : Nat) (nm pm r : Int32) : Prop := (K t = 1 ∧ r = -1) ∨ (¬ K t = 1 ∧ cx_one n k R (cx_c1 K P M A t nm pm) 20 (nI t) r)
/-- the face ones -/
def cx_gv (t : Nat) (nm pm : Int32) (m : Nat) : Prop := cx_nmd M m nm pm ∧ cx_fc K M m ∧ cx_is A t (cx_ow M m) ∧ ¬ cx_mk (M 3) m (nI 4) ∧ ¬ M 4 m = 0
def cx_fo (t : Nat) (nm pm : Int32) (m : Nat) : Prop := m < k ∧ cx_gv K M A t nm pm m ∧ (∀ j, j < m → cx_gv K M A t nm pm j → ¬ cx_ow M j = cx_ow M m) ∧ ∀ j, j < k → cx_gv K M A t nm pm j → ¬ A (cx_ow M j) (cx_ow M m)
/-- faults 16, 17 for a name and params -/
def cx_g16 (F : Nat → Prop) (co : Int32) : Prop := (¬ co = -1 ∧ cx_mk (M 3) co.toNatClampNeg 1) ∨ (co = -1 ∧ (¬ ∃ m, F m ∧ cx_mk (M 3) m (nI 8)) ∧ ∃ m, F m ∧ cx_mk (M 3) m 1)
def cx_g17 (F : Nat → Prop) (co : Int32) : Prop := co = -1 ∧ (∃ a b, F a ∧ F b ∧ ¬ a = b) ∧ ∃ m, F m ∧ cx_mk (M 3) m (nI 8)
def cx_must (t : Nat) : Prop := ¬ K t = 1 ∧ ¬ cx_mk X t 1
def cx_gn (t : Nat) (nm pm : Int32) : Prop := ∃ co, cx_co n k K P R M A t nm pm co ∧ ((cx_must K X t ∧ cx_g16 M (cx_fo k K M A t nm pm) co) ∨ cx_g17 M (cx_fo k K M A t nm pm) co)
def cx_GV (t : Nat) : Prop := ∃ nm pm, cx_gn n k K X P R M A t nm pm
def cx_SK (t : Nat) : Prop := ∃ u, u < n ∧ (cx_is A t u ∧ cx_FF n K R U V A u)
/-- any fault at all -/
def cx_AF (t : Nat) : Prop := cx_FF n K R U V A t ∨ cx_TF n K X R U W V t ∨ cx_MF k K X M t ∨ (¬ cx_SK n K R U V A t ∧ (cx_OV n k K P M A t ∨ cx_GV n k K X P R M A t))
def cx_WR (t : Nat) : Prop := K t = 1 ∨ cx_mk X t 1 ∨ ∃ u, u < n ∧ (cx_is A t u ∧ cx_AF n k K X P R M U W V A u)
/-- what runs: -1 for none -/
def cx_rn (t : Nat) (nm pm r : Int32) : Prop := ∃ co, cx_co n k K P R M A t nm pm co ∧ ((¬ co = -1 ∧ ((cx_mk (M 3) co.toNatClampNeg 1 ∧ r = -1) ∨ (¬ cx_mk (M 3) co.toNatClampNeg 1 ∧ r = co))) ∨ (co = -1 ∧ ((∃ m, cx_fo k K M A t nm pm m ∧ (∀ j, cx_fo k K M A t nm pm j → j = m) ∧ cx_mk (M 3) m (nI 8) ∧ r = nI m) ∨ ((¬ ∃ m, cx_fo k K M A t nm pm m ∧ (∀ j, cx_fo k K M A t nm pm j → j = m) ∧ cx_mk (M 3) m (nI 8)) ∧ r = -1))))
end PURE
theorem cx_allS {P : Nat → Prop} {i : Nat} (h : ∀ j, j < i → ¬ P j) (h2 : ¬ P i) : ∀ j, j < i + 1 → ¬ P j := by
  intro j hj
  by_cases e : j = i
  · subst e; exact h2
  · exact h j (by omega)
theorem cx_all0 {P : Nat → Prop} : ∀ j, j < 0 → P j := fun j hj => absurd hj (by omega)
theorem cx_set0 {Q : Nat → Prop} : ∀ u, u < 32 → (bt (nI 0) u = true ↔ u < 0 ∧ Q u) := by
  intro u _
  rw [nI_0, b_0]
  exact ⟨fun z => absurd z (by decide), fun z => absurd z.1 (by omega)⟩
theorem cx_setS {Q : Nat → Prop} {s v : Int32} {i : Nat} (hi : i < 20) (hs : ∀ u, u < 32 → (bt s u = true ↔ u < i ∧ Q u)) (hv : (Q i ∧ v = (1 : Int32) <<< (nI i &&& 31)) ∨ (¬ Q i ∧ v = 0)) : ∀ u, u < 32 → (bt (s ||| v) u = true ↔ u < i + 1 ∧ Q u) := by
  intro u hu
  rw [b_or, Bool.or_eq_true, hs u hu]
  rcases hv with ⟨hq, rfl⟩ | ⟨hq, rfl⟩
  · rw [cx_1bit hi hu]
    constructor
    · rintro (⟨a, b⟩ | rfl)
      · exact ⟨by omega, b⟩
      · exact ⟨by omega, hq⟩
    · rintro ⟨a, b⟩
      by_cases e : u = i
      · exact Or.inr e
      · exact Or.inl ⟨by omega, b⟩
  · rw [b_0]
    constructor
    · rintro (⟨a, b⟩ | z)
      · exact ⟨by omega, b⟩
      · exact absurd z (by decide)
    · rintro ⟨a, b⟩
      by_cases e : u = i
      · subst e; exact absurd b hq
      · exact Or.inl ⟨by omega, b⟩
theorem cx_bits0 {P : Nat → Nat → Prop} : ∀ u, u < 32 → (bt (nI 0) u = true ↔ ∃ j, j < 0 ∧ P j u) := by
  intro u _
  rw [nI_0, b_0]
  exact ⟨fun z => absurd z (by decide), fun z => absurd z cx_ex0⟩
theorem cx_bitsS {P : Nat → Nat → Prop} {s v x : Int32} {i : Nat} (hs : ∀ u, u < 32 → (bt s u = true ↔ ∃ j, j < i ∧ P j u)) (hv : ∀ u, u < 32 → (bt v u = true ↔ P i u)) (e : x = s ||| v) : ∀ u, u < 32 → (bt x u = true ↔ ∃ j, j < i + 1 ∧ P j u) := by
  intro u hu
  rw [e, b_or, Bool.or_eq_true, hs u hu, hv u hu, cx_exS]
theorem cx_bitsN {P : Nat → Nat → Prop} {s : Int32} {i : Nat} (hs : ∀ u, u < 32 → (bt s u = true ↔ ∃ j, j < i ∧ P j u)) (hn : ∀ u, ¬ P i u) : ∀ u, u < 32 → (bt s u = true ↔ ∃ j, j < i + 1 ∧ P j u) := by
  intro u hu
  rw [hs u hu, cx_exS]
  exact ⟨Or.inl, fun z => z.elim id (fun y => absurd y (hn u))⟩
section ONE
variable {n k : Nat} {R : Nat → Int32} {Q : Nat → Nat → Prop}
theorem cx_one_u : ∀ (f : Nat) (a r r' : Int32), cx_one n k R Q f a r → cx_one n k R Q f a r' → r = r' := by
  intro f
  induction f with
  | zero => intro a r r' h h'; exact (show r = -1 from h).trans (show r' = -1 from h').symm
  | succ f ih =>
    intro a r r' h h'
    rcases h with ⟨ha, e⟩ | ⟨ha, r0, hl, e⟩ <;> rcases h' with ⟨ha', e'⟩ | ⟨ha', r0', hl', e'⟩
    · rw [e, e']
    · exact absurd ha' ha
    · exact absurd ha ha'
    · have := hl.uniq hl'
      subst this
      rcases e with ⟨z, e⟩ | ⟨z, e⟩ <;> rcases e' with ⟨z', e'⟩ | ⟨z', e'⟩
      · rw [e, e']
      · exact absurd z' z
      · exact absurd z z'
      · exact ih _ _ _ e e'
theorem cx_one_ix (hk : k ≤ 80) : ∀ (f : Nat) (a r : Int32), cx_one n k R Q f a r → r = -1 ∨ (cx_ix r 80 ∧ r.toNatClampNeg < k) := by
  intro f
  induction f with
  | zero => intro a r h; exact Or.inl h
  | succ f ih =>
    intro a r h
    rcases h with ⟨ha, e⟩ | ⟨ha, r0, hl, ⟨z, e⟩ | ⟨z, e⟩⟩
    · exact Or.inl e
    · subst e
      rcases hl with ⟨e, -⟩ | ⟨j, hj, -, -, e⟩
      · exact Or.inl e
      · exact Or.inr (by rw [e]; exact ⟨cx_ixI (by omega) (by decide), by rw [nI_clamp (by omega)]; exact hj⟩)
    · exact ih _ _ e
theorem cx_one_end {a : Int32} (h : ¬ (0 ≤ a ∧ a < nI n)) : ∀ f, cx_one n k R Q f a (-1) := by
  intro f
  cases f with
  | zero => exact rfl
  | succ f => exact Or.inl ⟨h, rfl⟩
theorem cx_one_hit {f m : Nat} {a : Int32} (ha : 0 ≤ a ∧ a < nI n) (hm : m < k) (hk : k ≤ 80) (hq : Q a.toNatClampNeg m) (hl : ∀ j, j < m → ¬ Q a.toNatClampNeg j) : cx_one n k R Q (f + 1) a (nI m) :=
  Or.inr ⟨ha, nI m, Or.inr ⟨m, hm, hq, hl, rfl⟩, Or.inl ⟨fun e => by
    have h0 := nI_pos' (n := m) (by omega)
    rw [e] at h0
    exact absurd h0 (by decide), rfl⟩⟩
theorem cx_one_nxt {f : Nat} {a r : Int32} (ha : 0 ≤ a ∧ a < nI n) (hl : ∀ j, j < k → ¬ Q a.toNatClampNeg j) (h : cx_one n k R Q f (R a.toNatClampNeg) r) : cx_one n k R Q (f + 1) a r :=
  Or.inr ⟨ha, -1, Or.inl ⟨rfl, hl⟩, Or.inr ⟨rfl, h⟩⟩
theorem cx_m1no : ¬ (0 ≤ (-1 : Int32) ∧ (-1 : Int32) < nI n) := fun z => absurd z.1 (by decide)
theorem cx_one_pt {f : Nat} {x y r : Int32} (h : (x < nI n ∧ y = x) ∨ (¬ x < nI n ∧ y = -1)) (h1 : cx_one n k R Q f y r) : cx_one n k R Q f x r := by
  rcases h with ⟨-, rfl⟩ | ⟨h, rfl⟩
  · exact h1
  · rw [cx_one_u f _ _ _ h1 (cx_one_end cx_m1no f)]
    exact cx_one_end (fun z => h z.2) f
end ONE
theorem cx_ptix {n : Nat} {x y : Int32} (hn : n ≤ 20) (hx : x = -1 ∨ cx_ix x 20) (h : (x < nI n ∧ y = x) ∨ (¬ x < nI n ∧ y = -1)) : y = -1 ∨ cx_ix y n := by
  rcases h with ⟨h, rfl⟩ | ⟨h, rfl⟩
  · refine hx.imp id (fun z => ⟨z.1, ?_⟩)
    have h2 := z.2
    rw [z.1] at h
    exact (nI_ltI (by omega) (by omega)).mp h
  · exact Or.inl rfl
theorem cx_ixn {n : Nat} {x : Int32} (hn : n ≤ 20) (h : cx_ix x n) : 0 ≤ x ∧ x < nI n := by
  rw [h.1]
  exact cx_in0 hn h.2
/-- the face ones as a row: each once, the least first -/
def cx_LS (F : Nat → Prop) (f : Nat → Int32) (d i : Nat) : Prop := (∀ j, j < d → ∃ m, f j = nI m ∧ m < i ∧ F m) ∧ (∀ m, m < i → F m → ∃ j, j < d ∧ f j = nI m) ∧ ∀ a b, a < b → b < d → (f a).toNatClampNeg < (f b).toNatClampNeg
/-- .. in any order -/
def cx_LI (F : Nat → Prop) (f : Nat → Int32) (d : Nat) : Prop := (∀ j, j < d → ∃ m, f j = nI m ∧ m < 80 ∧ F m) ∧ (∀ m, F m → m < 80 ∧ ∃ j, j < d ∧ f j = nI m) ∧ ∀ a b, a < d → b < d → f a = f b → a = b
theorem cx_LS.li {F : Nat → Prop} {f : Nat → Int32} {d k : Nat} (h : cx_LS F f d k) (hk : k ≤ 80) (hF : ∀ m, F m → m < k) : cx_LI F f d := by
  refine ⟨fun j hj => ?_, fun m hm => ⟨Nat.lt_of_lt_of_le (hF m hm) hk, h.2.1 m (hF m hm) hm⟩, fun a b ha hb e => ?_⟩
  · obtain ⟨m, e, hm, hf⟩ := h.1 j hj
    exact ⟨m, e, by omega, hf⟩
  · rcases Nat.lt_trichotomy a b with z | z | z
    · have := h.2.2 a b z hb
      rw [e] at this
      exact absurd this (by omega)
    · exact z
    · have := h.2.2 b a z ha
      rw [e] at this
      exact absurd this (by omega)
theorem cx_LI.ix {F : Nat → Prop} {f : Nat → Int32} {d : Nat} (h : cx_LI F f d) : ∀ j, j < d → cx_ix (f j) 80 := by
  intro j hj
  obtain ⟨m, e, hm, -⟩ := h.1 j hj
  rw [e]
  exact cx_ixI hm (by decide)
theorem cx_LI.at {F : Nat → Prop} {f : Nat → Int32} {d : Nat} (h : cx_LI F f d) {m : Nat} (hm : F m) : ∃ j, j < d ∧ f j = nI m ∧ (f j).toNatClampNeg = m := by
  obtain ⟨h8, j, hj, e⟩ := h.2.1 m hm
  exact ⟨j, hj, e, by rw [e, nI_clamp (by omega)]⟩
theorem cx_LI.of {F : Nat → Prop} {f : Nat → Int32} {d : Nat} (h : cx_LI F f d) {j : Nat} (hj : j < d) : F (f j).toNatClampNeg := by
  obtain ⟨m, e, hm, hf⟩ := h.1 j hj
  rw [e, nI_clamp (by omega)]
  exact hf
theorem cx_LI.ex {F G : Nat → Prop} {f : Nat → Int32} {d : Nat} (h : cx_LI F f d) : (∃ j, j < d ∧ G (f j).toNatClampNeg) ↔ ∃ m, F m ∧ G m := by
  constructor
  · rintro ⟨j, hj, hg⟩
    exact ⟨_, h.of hj, hg⟩
  · rintro ⟨m, hf, hg⟩
    obtain ⟨j, hj, -, e⟩ := h.at hf
    exact ⟨j, hj, by rw [e]; exact hg⟩
theorem cx_LI.two {F : Nat → Prop} {f : Nat → Int32} {d : Nat} (h : cx_LI F f d) : 1 < d ↔ ∃ a b, F a ∧ F b ∧ ¬ a = b := by
  constructor
  · intro hd
    refine ⟨_, _, h.of (j := 0) (by omega), h.of (j := 1) hd, fun e => ?_⟩
    have h0 := (h.ix 0 (by omega)).1
    have h1 := (h.ix 1 hd).1
    exact absurd (h.2.2 0 1 (by omega) hd (by rw [h0, h1, e])) (by omega)
  · rintro ⟨a, b, ha, hb, hab⟩
    obtain ⟨i, hi, -, ei⟩ := h.at ha
    obtain ⟨j, hj, -, ej⟩ := h.at hb
    by_cases e : i = j
    · subst e
      exact absurd (ei.symm.trans ej) hab
    · omega
theorem cx_LI.one {F : Nat → Prop} {f : Nat → Int32} {d : Nat} (h : cx_LI F f d) (hd : d = 1) : F (f 0).toNatClampNeg ∧ ∀ j, F j → j = (f 0).toNatClampNeg := by
  refine ⟨h.of (by omega), fun j hj => ?_⟩
  obtain ⟨i, hi, -, e⟩ := h.at hj
  have : i = 0 := by omega
  subst this
  exact e.symm
theorem cx_LI.none {F : Nat → Prop} {f : Nat → Int32} {d : Nat} (h : cx_LI F f d) (hd : ¬ d = 1) : ¬ ∃ m, F m ∧ ∀ j, F j → j = m := by
  rintro ⟨m, hm, hu⟩
  obtain ⟨i, hi, -⟩ := h.at hm
  obtain ⟨a, b, ha, hb, hab⟩ := h.two.mp (by omega)
  exact hab ((hu a ha).trans (hu b hb).symm)
theorem cx_LS0 {F : Nat → Prop} {f : Nat → Int32} : cx_LS F f 0 0 := ⟨fun j hj => absurd hj (by omega), fun m hm => absurd hm (by omega), fun a b _ hb => absurd hb (by omega)⟩
theorem cx_LS.skip {F : Nat → Prop} {f : Nat → Int32} {d i : Nat} (h : cx_LS F f d i) (hn : ¬ F i) : cx_LS F f d (i + 1) := by
  refine ⟨fun j hj => ?_, fun m hm hf => ?_, h.2.2⟩
  · obtain ⟨m, e, hm, hf⟩ := h.1 j hj
    exact ⟨m, e, by omega, hf⟩
  · by_cases e : m = i
    · subst e; exact absurd hf hn
    · exact h.2.1 m (by omega) hf
theorem cx_LS.take {F : Nat → Prop} {f : Nat → Int32} {d i : Nat} (h : cx_LS F f d i) (hi : i < 80) (hf : F i) : cx_LS F (upd f d (nI i)) (d + 1) (i + 1) := by
  refine ⟨fun j hj => ?_, fun m hm hf => ?_, fun a b ha hb => ?_⟩
  · by_cases e : j = d
    · subst e; rw [cx_updS]; exact ⟨i, rfl, by omega, hf⟩
    · rw [cx_updN e]
      obtain ⟨m, e, hm, hf⟩ := h.1 j (by omega)
      exact ⟨m, e, by omega, hf⟩
  · by_cases e : m = i
    · subst e; exact ⟨d, by omega, cx_updS⟩
    · obtain ⟨j, hj, z⟩ := h.2.1 m (by omega) hf
      exact ⟨j, by omega, by rw [cx_updN (by omega)]; exact z⟩
  · by_cases e : b = d
    · subst e
      rw [cx_updS, cx_updN (by omega), nI_clamp (by omega)]
      obtain ⟨m, e, hm, hf⟩ := h.1 a ha
      rw [e, nI_clamp (by omega)]
      exact hm
    · rw [cx_updN e, cx_updN (by omega)]
      exact h.2.2 a b ha (by omega)
section FO
variable {n k : Nat} {K : Nat → Int32} {M T : Nat → Nat → Int32} {t : Nat} {nm pm : Int32}
/-- what is left of the owners: those that give and are not covered -/
def cx_lft (k : Nat) (K : Nat → Int32) (M T : Nat → Nat → Int32) (n t : Nat) (nm pm : Int32) (u : Nat) : Prop := (∃ j, j < k ∧ (cx_gv K M (cx_Ac T n) t nm pm j ∧ cx_ow M j = u)) ∧ ¬ ∃ j, j < k ∧ (cx_gv K M (cx_Ac T n) t nm pm j ∧ bt (T 10 (cx_ow M j)) u = true)
def cx_lf (k : Nat) (K : Nat → Int32) (M T : Nat → Nat → Int32) (n t : Nat) (nm pm : Int32) (s : Int32) (i : Nat) : Prop := ∀ u, u < 32 → (bt s u = true ↔ cx_lft k K M T n t nm pm u ∧ ¬ ∃ j, j < i ∧ (cx_gv K M (cx_Ac T n) t nm pm j ∧ cx_ow M j = u))
theorem cx_lf0 {a b : Int32} {i : Nat} (hi : k ≤ i) (hi2 : i ≤ k) (ha : ∀ u, u < 32 → (bt a u = true ↔ ∃ j, j < i ∧ (cx_gv K M (cx_Ac T n) t nm pm j ∧ cx_ow M j = u))) (hb : ∀ u, u < 32 → (bt b u = true ↔ ∃ j, j < i ∧ (cx_gv K M (cx_Ac T n) t nm pm j ∧ bt (T 10 (cx_ow M j)) u = true))) : cx_lf k K M T n t nm pm (a &&& (b ^^^ (-1 : Int32))) 0 := by
  have e : i = k := by omega
  subst e
  intro u hu
  rw [b_and, Bool.and_eq_true, cx_not hu, ha u hu, hb u hu]
  exact ⟨fun z => ⟨z, cx_ex0⟩, fun z => z.1⟩
theorem cx_lf_fo {s : Int32} {i : Nat} (hOn : ∀ j, j < k → (M 0 j).toNatClampNeg < n) (hn : n ≤ 20) (h : cx_lf k K M T n t nm pm s i) (hi : i < k) (hb : bt s (cx_ow M i) = true) (hg : cx_gv K M (cx_Ac T n) t nm pm i) : cx_fo k K M (cx_Ac T n) t nm pm i := by
  have ho := hOn i hi
  obtain ⟨⟨-, hc⟩, hl⟩ := (h _ (show cx_ow M i < 32 by show (M 0 i).toNatClampNeg < 32; omega)).mp hb
  refine ⟨hi, hg, fun j hj hgj e => hl ⟨j, hj, hgj, e⟩, fun j hj hgj z => hc ⟨j, hj, hgj, z.2.2⟩⟩
theorem cx_lf_no {s : Int32} {i m : Nat} (hOn : ∀ j, j < k → (M 0 j).toNatClampNeg < n) (hn : n ≤ 20) (h : cx_lf k K M T n t nm pm s i) (him : i ≤ m) (hf : cx_fo k K M (cx_Ac T n) t nm pm m) : bt s (cx_ow M m) = true := by
  obtain ⟨hm, hg, hl, hc⟩ := hf
  have ho := hOn m hm
  refine (h _ (show cx_ow M m < 32 by show (M 0 m).toNatClampNeg < 32; omega)).mpr ⟨⟨⟨m, hm, hg, rfl⟩, ?_⟩, ?_⟩
  · rintro ⟨j, hj, hgj, hb⟩
    exact hc j hj hgj ⟨hOn j hj, ho, hb⟩
  · rintro ⟨j, hj, hgj, e⟩
    exact hl j (by omega) hgj e
theorem cx_lf_skip {s : Int32} {i : Nat} (h : cx_lf k K M T n t nm pm s i) (hn : ¬ bt s (cx_ow M i) = true ∨ ¬ cx_gv K M (cx_Ac T n) t nm pm i) : cx_lf k K M T n t nm pm s (i + 1) := by
  intro u hu
  rw [h u hu]
  refine ⟨fun z => ⟨z.1, fun y => ?_⟩, fun z => ⟨z.1, fun y => z.2 ?_⟩⟩
  · rcases cx_exS.mp y with y | ⟨y1, y2⟩
    · exact z.2 y
    · rcases hn with hn | hn
      · exact hn (by rw [y2]; exact (h u hu).mpr z)
      · exact hn y1
  · exact cx_exS.mpr (Or.inl y)
theorem cx_lf_take {s : Int32} {i : Nat} (ho : cx_ow M i < 20) (h : cx_lf k K M T n t nm pm s i) (hg : cx_gv K M (cx_Ac T n) t nm pm i) : cx_lf k K M T n t nm pm (s &&& (((1 : Int32) <<< (nI (cx_ow M i) &&& 31)) ^^^ (-1 : Int32))) (i + 1) := by
  intro u hu
  rw [b_and, Bool.and_eq_true, cx_not hu, cx_1bit ho hu, h u hu]
  refine ⟨fun z => ⟨z.1.1, fun y => ?_⟩, fun z => ⟨⟨z.1, fun y => z.2 (cx_exS.mpr (Or.inl y))⟩, fun e => z.2 (cx_exS.mpr (Or.inr ⟨hg, e.symm⟩))⟩⟩
  rcases cx_exS.mp y with y | ⟨y1, y2⟩
  · exact z.1.2 y
  · exact z.2 y2.symm
theorem cx_LS_end {s : Int32} {i : Nat} {f : Nat → Int32} {d : Nat} (hOn : ∀ j, j < k → (M 0 j).toNatClampNeg < n) (hn : n ≤ 20) (h : cx_lf k K M T n t nm pm s i) (hs : s = 0) (hL : cx_LS (cx_fo k K M (cx_Ac T n) t nm pm) f d i) (hik : i ≤ k) : cx_LS (cx_fo k K M (cx_Ac T n) t nm pm) f d k := by
  refine ⟨fun j hj => ?_, fun m hm hf => ?_, hL.2.2⟩
  · obtain ⟨m, e, hm, hf⟩ := hL.1 j hj
    exact ⟨m, e, by omega, hf⟩
  · by_cases e : m < i
    · exact hL.2.1 m e hf
    · have := cx_lf_no hOn hn h (by omega) hf
      rw [hs, b_0] at this
      exact absurd this (by decide)
end FO
/-- what leastFaceOneWith finds -/
def cx_Lw (M : Nat → Nat → Int32) (f : Nat → Int32) (d : Nat) (b r : Int32) : Prop := (r = -1 ∧ ∀ j, j < d → ¬ cx_mk (M 3) (f j).toNatClampNeg b) ∨ ∃ j, j < d ∧ cx_mk (M 3) (f j).toNatClampNeg b ∧ (∀ i, i < j → ¬ cx_mk (M 3) (f i).toNatClampNeg b) ∧ r = f j
theorem cx_ixm {x : Int32} {B : Nat} (h : cx_ix x B) (hB : B < 2 ^ 31) : ¬ x = -1 := fun e => by
  have h0 := nI_pos' (n := x.toNatClampNeg) (by have := h.2; omega)
  rw [← h.1, e] at h0
  exact absurd h0 (by decide)
theorem cx_Lw.ex {M : Nat → Nat → Int32} {f : Nat → Int32} {d : Nat} {b r : Int32} (hF : ∀ j, j < d → cx_ix (f j) 80) (h : cx_Lw M f d b r) : (¬ r = -1) ↔ ∃ j, j < d ∧ cx_mk (M 3) (f j).toNatClampNeg b := by
  rcases h with ⟨e, h⟩ | ⟨j, hj, hm, -, e⟩
  · exact ⟨fun z => absurd e z, fun ⟨j, hj, hm⟩ => absurd hm (h j hj)⟩
  · exact ⟨fun _ => ⟨j, hj, hm⟩, fun _ => by rw [e]; exact cx_ixm (hF j hj) (by decide)⟩
theorem cx_Lw.ix {M : Nat → Nat → Int32} {f : Nat → Int32} {d : Nat} {b r : Int32} (hF : ∀ j, j < d → cx_ix (f j) 80) (h : cx_Lw M f d b r) : r = -1 ∨ cx_ix r 80 := by
  rcases h with ⟨e, -⟩ | ⟨j, hj, -, -, e⟩
  · exact Or.inl e
  · exact Or.inr (by rw [e]; exact hF j hj)
section TG
variable {M : Nat → Nat → Int32} {f : Nat → Int32} {d : Nat} {co r r2 : Int32} {P1 P2 P3 : Prop}
theorem cx_tg1 (h : ¬ co = -1) (g : P1) (hC : co = -1 ∨ cx_ix co 80) : (¬ co = -1 ↔ (¬ co = -1 ∧ P1) ∨ (co = -1 ∧ P2 ∧ P3)) ∧ (co = -1 ∨ cx_ix co 80) := ⟨⟨fun _ => Or.inl ⟨h, g⟩, fun _ => h⟩, hC⟩
theorem cx_tg2 (h : ¬ co = -1) (g : ¬ P1) : (¬ (-1 : Int32) = -1 ↔ (¬ co = -1 ∧ P1) ∨ (co = -1 ∧ P2 ∧ P3)) ∧ ((-1 : Int32) = -1 ∨ cx_ix (-1) 80) := ⟨⟨fun z => absurd rfl z, fun z => z.elim (fun y => absurd y.2 g) (fun y => absurd y.1 h)⟩, Or.inl rfl⟩
theorem cx_tg3 (h : co = -1) (hF : ∀ j, j < d → cx_ix (f j) 80) (hL : cx_Lw M f d (nI 8) r) (hr : ¬ r = -1) : (¬ (-1 : Int32) = -1 ↔ (¬ co = -1 ∧ P1) ∨ (co = -1 ∧ (¬ ∃ j, j < d ∧ cx_mk (M 3) (f j).toNatClampNeg (nI 8)) ∧ P3)) ∧ ((-1 : Int32) = -1 ∨ cx_ix (-1) 80) :=
  ⟨⟨fun z => absurd rfl z, fun z => z.elim (fun y => absurd h y.1) (fun y => absurd ((hL.ex hF).mp hr) y.2.1)⟩, Or.inl rfl⟩
theorem cx_tg4 (h : co = -1) (hF : ∀ j, j < d → cx_ix (f j) 80) (hL : cx_Lw M f d (nI 8) r) (hL2 : cx_Lw M f d 1 r2) (hr : r = -1) : (¬ r2 = -1 ↔ (¬ co = -1 ∧ P1) ∨ (co = -1 ∧ (¬ ∃ j, j < d ∧ cx_mk (M 3) (f j).toNatClampNeg (nI 8)) ∧ ∃ j, j < d ∧ cx_mk (M 3) (f j).toNatClampNeg 1)) ∧ (r2 = -1 ∨ cx_ix r2 80) :=
  ⟨⟨fun z => Or.inr ⟨h, fun y => (hL.ex hF).mpr y hr, (hL2.ex hF).mp z⟩, fun z => z.elim (fun y => absurd h y.1) (fun y => (hL2.ex hF).mpr y.2.2)⟩, hL2.ix hF⟩
end TG
section S1
variable {n k t i : Nat} {K P R : Nat → Int32} {M : Nat → Nat → Int32} {A : Nat → Nat → Prop} {nm pm v co r : Int32}
theorem cx_s1 (hO : cx_R (M 0) 20) (ha : v = -1 ∨ cx_ix v n) (h38 : ¬ v = -1) (h : ¬ M 0 i = v) : ¬ cx_c1 K P M A t nm pm v.toNatClampNeg i := fun z => h ((hO i).1.trans ((congrArg nI z.1).trans (ha.resolve_left h38).1.symm))
theorem cx_s2 (h : ¬ v = nI t) (ha : v = -1 ∨ cx_ix v n) (h38 : ¬ v = -1) (g : ¬ cx_sh K P M A i t) : ¬ cx_c1 K P M A t nm pm v.toNatClampNeg i := fun z => z.2.2.2.elim (fun y => h ((ha.resolve_left h38).1.trans (congrArg nI y))) g
theorem cx_s3 (ht : t < n) (hn : n ≤ 20) (h : M 0 i = v) (g1 : cx_nmd M i nm pm) (g2 : ¬ cx_mk (M 3) i (nI 4)) (g3 : v = nI t ∨ cx_sh K P M A i t) : cx_c1 K P M A t nm pm v.toNatClampNeg i :=
  ⟨by show (M 0 i).toNatClampNeg = _; rw [h], g1, g2, g3.imp (fun z => by rw [z, nI_clamp (by omega)]) id⟩
theorem cx_s4 (h : ¬ K t = 1 → cx_one n k R (cx_c1 K P M A t nm pm) 20 (nI t) (-1)) : cx_co n k K P R M A t nm pm (-1) := by
  by_cases e : K t = 1
  · exact Or.inl ⟨e, rfl⟩
  · exact Or.inr ⟨e, h e⟩
theorem cx_co.u {r r' : Int32} (h : cx_co n k K P R M A t nm pm r) (h' : cx_co n k K P R M A t nm pm r') : r = r' := by
  rcases h with ⟨a, e⟩ | ⟨a, e⟩ <;> rcases h' with ⟨a', e'⟩ | ⟨a', e'⟩
  · rw [e, e']
  · exact absurd a a'
  · exact absurd a' a
  · exact cx_one_u _ _ _ _ e e'
theorem cx_co.ix (hk : k ≤ 80) (h : cx_co n k K P R M A t nm pm r) : r = -1 ∨ (cx_ix r 80 ∧ r.toNatClampNeg < k) := by
  rcases h with ⟨a, e⟩ | ⟨a, e⟩
  · exact Or.inl e
  · exact cx_one_ix hk _ _ _ e
theorem cx_rn1 (h : cx_co n k K P R M A t nm pm co ∧ (co = -1 ∨ cx_ix co 80)) (h2 : ¬ co = -1) (h3 : (cx_mk (M 3) co.toNatClampNeg 1 ∧ r = -1) ∨ (¬ cx_mk (M 3) co.toNatClampNeg 1 ∧ r = nI co.toNatClampNeg)) : cx_rn n k K P R M A t nm pm r :=
  ⟨co, h.1, Or.inl ⟨h2, h3.imp id (fun z => ⟨z.1, z.2.trans (h.2.resolve_left h2).1.symm⟩)⟩⟩
theorem cx_rn1i (h : cx_co n k K P R M A t nm pm co ∧ (co = -1 ∨ cx_ix co 80)) (h2 : ¬ co = -1) (h3 : (cx_mk (M 3) co.toNatClampNeg 1 ∧ r = -1) ∨ (¬ cx_mk (M 3) co.toNatClampNeg 1 ∧ r = nI co.toNatClampNeg)) : r = -1 ∨ cx_ix r 80 :=
  h3.imp (fun z => z.2) (fun z => by rw [z.2]; exact cx_ixI (h.2.resolve_left h2).2 (by decide))
theorem cx_rn2 {f : Nat → Int32} {d : Nat} (h : cx_co n k K P R M A t nm pm co) (h2 : co = -1) (hL : cx_LI (cx_fo k K M A t nm pm) f d) (hd : ¬ d = 1) : cx_rn n k K P R M A t nm pm (-1) :=
  ⟨co, h, Or.inr ⟨h2, Or.inr ⟨fun ⟨m, a, b, _⟩ => hL.none hd ⟨m, a, b⟩, rfl⟩⟩⟩
theorem cx_rn3 {f : Nat → Int32} {d : Nat} (h : cx_co n k K P R M A t nm pm co) (h2 : co = -1) (hL : cx_LI (cx_fo k K M A t nm pm) f d) (hd : d = 1) (hw : cx_Lw M f d (nI 8) r) : cx_rn n k K P R M A t nm pm r := by
  refine ⟨co, h, Or.inr ⟨h2, ?_⟩⟩
  obtain ⟨ho, hu⟩ := hL.one hd
  rcases hw with ⟨e, hw⟩ | ⟨j, hj, hm, -, e⟩
  · refine Or.inr ⟨?_, e⟩
    rintro ⟨m, a, b, c⟩
    have := hu m a
    subst this
    exact hw 0 (by omega) c
  · have : j = 0 := by omega
    subst this
    exact Or.inl ⟨_, ho, hu, hm, e.trans (hL.ix 0 hj).1⟩
theorem cx_rn.u {r r' : Int32} (h : cx_rn n k K P R M A t nm pm r) (h' : cx_rn n k K P R M A t nm pm r') : r = r' := by
  obtain ⟨co, hc, h⟩ := h
  obtain ⟨co', hc', h'⟩ := h'
  have := hc.u hc'
  subst this
  rcases h with ⟨a, h⟩ | ⟨a, h⟩ <;> rcases h' with ⟨a', h'⟩ | ⟨a', h'⟩
  · rcases h with ⟨b, h⟩ | ⟨b, h⟩ <;> rcases h' with ⟨b', h'⟩ | ⟨b', h'⟩
    · rw [h, h']
    · exact absurd b b'
    · exact absurd b' b
    · rw [h, h']
  · exact absurd a' a
  · exact absurd a a'
  · rcases h with ⟨m, b, c, d, h⟩ | ⟨b, h⟩ <;> rcases h' with ⟨m', b', c', d', h'⟩ | ⟨b', h'⟩
    · rw [h, h', c' m b]
    · exact absurd ⟨m, b, c, d⟩ b'
    · exact absurd ⟨m', b', c', d'⟩ b
    · rw [h, h']
end S1
/-! the rules on TYPES -/
section TR
variable {n : Nat} {T : Nat → Nat → Int32} {t : Nat}
def cx_ms (n : Nat) (T : Nat → Nat → Int32) (t : Nat) : Prop := ∃ u, ¬ u < n ∧ ((u < 20 ∧ T 3 t = nI u) ∨ cx_Uc T t u ∨ cx_Vc T t u)
def cx_wk (n : Nat) (T : Nat → Nat → Int32) (t : Nat) : Prop := (∃ u, u < 20 ∧ T 3 t = nI u ∧ (¬ T 0 t = 0 ∨ ¬ (u < n ∧ T 0 u = 0))) ∨ ∃ u, cx_Uc T t u ∧ ¬ (u < n ∧ T 0 u = 1)
abbrev cx_B4 (n : Nat) (T : Nat → Nat → Int32) : Prop := ∀ a, a < n → ∀ u, u < 32 → (bt (T 4 a) u = true ↔ u < 20 ∧ T 3 a = nI u)
theorem cx_tr1 (hn : n ≤ 20) (ht : t < n) (hB : cx_B4 n T) : ¬ ((((T 4 t) ||| (T 5 t)) ||| (T 8 t)) &&& ((((1 : Int32) <<< (nI n &&& 31)) - (1 : Int32)) ^^^ (-1 : Int32))) = 0 ↔ cx_ms n T t := by
  rw [cx_nz]
  constructor
  · rintro ⟨u, hu, h⟩
    rw [b_and, Bool.and_eq_true, cx_not hu, cx_ev2 hn hu, b_or, Bool.or_eq_true, b_or, Bool.or_eq_true, hB t ht u hu] at h
    exact ⟨u, h.2, h.1.elim (fun z => z.elim Or.inl (fun y => Or.inr (Or.inl ⟨by omega, y⟩))) (fun z => Or.inr (Or.inr ⟨by omega, z⟩))⟩
  · rintro ⟨u, hu, h⟩
    have h32 : u < 32 := by
      rcases h with h | h | h
      · omega
      · exact cx_lt32 h.2
      · exact cx_lt32 h.2
    refine ⟨u, h32, ?_⟩
    rw [b_and, Bool.and_eq_true, cx_not h32, cx_ev2 hn h32, b_or, Bool.or_eq_true, b_or, Bool.or_eq_true, hB t ht u h32]
    exact ⟨h.elim (fun z => Or.inl (Or.inl z)) (fun z => z.elim (fun y => Or.inl (Or.inr y.2)) (fun y => Or.inr y.2)), hu⟩
theorem cx_tr2 (hn : n ≤ 20) (ht : t < n) : ¬ ((T 10 t) &&& ((1 : Int32) <<< (nI t &&& 31))) = 0 ↔ cx_Ac T n t t := by
  rw [cx_nz]
  constructor
  · rintro ⟨u, hu, h⟩
    rw [b_and, Bool.and_eq_true, cx_1bit (by omega) hu] at h
    obtain ⟨h, rfl⟩ := h
    exact ⟨ht, ht, h⟩
  · rintro ⟨-, -, h⟩
    exact ⟨t, by omega, by rw [b_and, h, (cx_1bit (by omega) (by omega)).mpr rfl]; rfl⟩
theorem cx_tr3 {p c f : Int32} (hn : n ≤ 20) (ht : t < n) (hB : cx_B4 n T) (hf : ∀ u, u < 32 → (bt f u = true ↔ u < n ∧ T 0 u = 1))
    (hp : (T 0 t = 0 ∧ (∀ u, u < 32 → (bt c u = true ↔ u < n ∧ T 0 u = 0)) ∧ p = (T 4 t) &&& (c ^^^ (-1 : Int32))) ∨ (¬ T 0 t = 0 ∧ p = T 4 t)) : ¬ (p ||| ((T 5 t) &&& (f ^^^ (-1 : Int32)))) = 0 ↔ cx_wk n T t := by
  rw [cx_orz]
  have h1 : ¬ p = 0 ↔ ∃ u, u < 20 ∧ T 3 t = nI u ∧ (¬ T 0 t = 0 ∨ ¬ (u < n ∧ T 0 u = 0)) := by
    rw [cx_nz]
    rcases hp with ⟨h0, hc, rfl⟩ | ⟨h0, rfl⟩
    · constructor
      · rintro ⟨u, hu, h⟩
        rw [b_and, Bool.and_eq_true, cx_not hu, hc u hu, hB t ht u hu] at h
        exact ⟨u, h.1.1, h.1.2, Or.inr h.2⟩
      · rintro ⟨u, hu, h, h2⟩
        refine ⟨u, by omega, ?_⟩
        rw [b_and, Bool.and_eq_true, cx_not (by omega), hc u (by omega), hB t ht u (by omega)]
        exact ⟨⟨hu, h⟩, h2.resolve_left (fun z => z h0)⟩
    · constructor
      · rintro ⟨u, hu, h⟩
        rw [hB t ht u hu] at h
        exact ⟨u, h.1, h.2, Or.inl h0⟩
      · rintro ⟨u, hu, h, -⟩
        exact ⟨u, by omega, (hB t ht u (by omega)).mpr ⟨hu, h⟩⟩
  have h2 : ¬ ((T 5 t) &&& (f ^^^ (-1 : Int32))) = 0 ↔ ∃ u, cx_Uc T t u ∧ ¬ (u < n ∧ T 0 u = 1) := by
    rw [cx_nz]
    constructor
    · rintro ⟨u, hu, h⟩
      rw [b_and, Bool.and_eq_true, cx_not hu, hf u hu] at h
      exact ⟨u, ⟨by omega, h.1⟩, h.2⟩
    · rintro ⟨u, h, h2⟩
      have hu := cx_lt32 h.2
      exact ⟨u, hu, by rw [b_and, Bool.and_eq_true, cx_not hu, hf u hu]; exact ⟨h.2, h2⟩⟩
  rw [h1, h2]
  exact Iff.rfl
theorem cx_tr4 {w : Int32} (ht : t < n) (hn : n ≤ 20) (hB : cx_B4 n T) (hw : ∀ u, u < 32 → (bt w u = true ↔ u < n ∧ cx_mk (T 1) u (nI 2))) : ¬ ((T 4 t) &&& w) = 0 ↔ cx_F4 n (T 1) (T 3) t := by
  rw [cx_nz]
  constructor
  · rintro ⟨u, hu, h⟩
    rw [b_and, Bool.and_eq_true, hw u hu, hB t ht u hu] at h
    exact ⟨u, h.2.1, h.1.2, h.2.2⟩
  · rintro ⟨u, hu, h, h2⟩
    exact ⟨u, by omega, by rw [b_and, Bool.and_eq_true, hw u (by omega), hB t ht u (by omega)]; exact ⟨⟨by omega, h⟩, hu, h2⟩⟩
theorem cx_tr8 (hn : n ≤ 20) (ht : t < n) : ¬ ((T 6 t) &&& (((1 : Int32) <<< (nI n &&& 31)) - (1 : Int32))) = 0 ↔ cx_F8 n (cx_Wc T) t := by
  rw [cx_nz]
  constructor
  · rintro ⟨u, hu, h⟩
    rw [b_and, Bool.and_eq_true, cx_ev2 hn hu] at h
    exact ⟨u, h.2, by omega, h.1⟩
  · rintro ⟨u, hu, -, h⟩
    exact ⟨u, by omega, by rw [b_and, Bool.and_eq_true, cx_ev2 hn (by omega)]; exact ⟨h, hu⟩⟩
/-- the three sets that make a TYPE shaky -/
theorem cx_tr123 (ht : t < n) (hn : n ≤ 20) : (cx_ms n T t ∨ cx_Ac T n t t ∨ cx_wk n T t) ↔ cx_FF n (T 0) (T 3) (cx_Uc T) (cx_Vc T) (cx_Ac T n) t := by
  constructor
  · rintro (h | h | ⟨u, hu, h, h2⟩ | ⟨u, h, h2⟩)
    · exact Or.inl h
    · exact Or.inr (Or.inl h)
    · by_cases e : u < n
      · refine Or.inr (Or.inr (Or.inl ⟨u, hu, h, h2.imp id (fun z => ⟨e, fun y => z ⟨e, y⟩⟩)⟩))
      · exact Or.inl ⟨u, e, Or.inl ⟨hu, h⟩⟩
    · by_cases e : u < n
      · exact Or.inr (Or.inr (Or.inr ⟨u, e, h, fun y => h2 ⟨e, y⟩⟩))
      · exact Or.inl ⟨u, e, Or.inr (Or.inl h)⟩
  · rintro (h | h | ⟨u, hu, h, h2⟩ | ⟨u, hu, h, h2⟩)
    · exact Or.inl h
    · exact Or.inr (Or.inl h)
    · exact Or.inr (Or.inr (Or.inl ⟨u, hu, h, h2.imp id (fun z y => z.2 y.2)⟩))
    · exact Or.inr (Or.inr (Or.inr ⟨u, h, fun y => h2 y.2⟩))
end TR
/-- Integer.bitCount -/
def cx_bcI (x : Int32) : Int32 :=
  let a := x - (((x.toUInt32 >>> ((1 : Int32).toUInt32 &&& Int32.toUInt32 31)).toInt32) &&& (1431655765 : Int32))
  let b := (a &&& (858993459 : Int32)) + (((a.toUInt32 >>> ((nI 2).toUInt32 &&& Int32.toUInt32 31)).toInt32) &&& (858993459 : Int32))
  let c := (b + ((b.toUInt32 >>> ((nI 4).toUInt32 &&& Int32.toUInt32 31)).toInt32)) &&& (252645135 : Int32)
  let d := c + ((c.toUInt32 >>> ((nI 8).toUInt32 &&& Int32.toUInt32 31)).toInt32)
  let e := d + ((d.toUInt32 >>> ((nI 16).toUInt32 &&& Int32.toUInt32 31)).toInt32)
  e &&& nI 63
theorem cx_bc14 {x : Int32} (hx : cx_ix x 16) : (cx_bcI (x &&& nI 14) ≤ 1) ↔ ¬ ((¬ (x &&& nI 2) = 0 ∧ ¬ (x &&& nI 4) = 0) ∨ (¬ (x &&& nI 2) = 0 ∧ ¬ (x &&& nI 8) = 0) ∨ (¬ (x &&& nI 4) = 0 ∧ ¬ (x &&& nI 8) = 0)) := by
  have h := (by decide +kernel : ∀ i, i < 16 → ((cx_bcI (nI i &&& nI 14) ≤ 1) ↔ ¬ ((¬ (nI i &&& nI 2) = 0 ∧ ¬ (nI i &&& nI 4) = 0) ∨ (¬ (nI i &&& nI 2) = 0 ∧ ¬ (nI i &&& nI 8) = 0) ∨ (¬ (nI i &&& nI 4) = 0 ∧ ¬ (nI i &&& nI 8) = 0)))) x.toNatClampNeg hx.2
  rw [← hx.1] at h
  exact h
theorem cx_m14 {x : Int32} (hx : cx_ix x 16) : (¬ (x &&& nI 14) = 0) ↔ (¬ (x &&& nI 2) = 0 ∨ ¬ (x &&& nI 4) = 0 ∨ ¬ (x &&& nI 8) = 0) := by
  have h := (by decide +kernel : ∀ i, i < 16 → ((¬ (nI i &&& nI 14) = 0) ↔ (¬ (nI i &&& nI 2) = 0 ∨ ¬ (nI i &&& nI 4) = 0 ∨ ¬ (nI i &&& nI 8) = 0))) x.toNatClampNeg hx.2
  rw [← hx.1] at h
  exact h
theorem cx_bc13 {x a v : Int32} (hx : cx_ix x 16) (hv : (a = 0 ∧ v = 1) ∨ (¬ a = 0 ∧ v = 0)) : (cx_bcI (x &&& nI 13) + v = 1) ↔ cx_ones x a := by
  have h := (by decide +kernel : ∀ i, i < 16 → (((cx_bcI (nI i &&& nI 13) + 1 = 1) ↔ (nI i &&& 1 = 0 ∧ nI i &&& nI 8 = 0 ∧ nI i &&& nI 4 = 0)) ∧ ((cx_bcI (nI i &&& nI 13) + 0 = 1) ↔ ((¬ nI i &&& 1 = 0 ∧ nI i &&& nI 8 = 0 ∧ nI i &&& nI 4 = 0) ∨ (nI i &&& 1 = 0 ∧ ¬ nI i &&& nI 8 = 0 ∧ nI i &&& nI 4 = 0) ∨ (nI i &&& 1 = 0 ∧ nI i &&& nI 8 = 0 ∧ ¬ nI i &&& nI 4 = 0))))) x.toNatClampNeg hx.2
  rw [← hx.1] at h
  unfold cx_ones
  rcases hv with ⟨h0, rfl⟩ | ⟨h0, rfl⟩
  · rw [h.1]; grind
  · rw [h.2]; grind
theorem cx_bitv {P : Prop} {v : Int32} {t : Nat} (ht : t < 20) (h : (P ∧ v = (1 : Int32) <<< (nI t &&& 31)) ∨ (¬ P ∧ v = 0)) : ¬ v = 0 ↔ P := by
  rcases h with ⟨h, e⟩ | ⟨h, e⟩
  · exact ⟨fun _ => h, fun _ => by rw [e]; exact cx_1nz ht⟩
  · exact ⟨fun z => absurd e z, fun z => absurd z h⟩
theorem cx_wS {A P : Prop} {Q : Nat → Prop} {w : Int32} {i : Nat} (hi : i < 20) (hw : ¬ w = 0 ↔ A ∨ ∃ u, u < i ∧ Q u) (hp : Q i) : ¬ (w ||| ((1 : Int32) <<< (nI i &&& 31))) = 0 ↔ A ∨ ∃ u, u < i + 1 ∧ Q u := by
  rw [cx_orz, hw, cx_exS]
  exact ⟨fun z => z.elim (fun y => y.imp id Or.inl) (fun _ => Or.inr (Or.inr hp)), fun _ => Or.inr (cx_1nz hi)⟩
theorem cx_wN {A : Prop} {Q : Nat → Prop} {w : Int32} {i : Nat} (hw : ¬ w = 0 ↔ A ∨ ∃ u, u < i ∧ Q u) (hp : ¬ Q i) : ¬ w = 0 ↔ A ∨ ∃ u, u < i + 1 ∧ Q u := by
  rw [hw, cx_exS]
  exact ⟨fun z => z.imp id Or.inl, fun z => z.imp id (fun y => y.elim id (fun x => absurd x hp))⟩
theorem cx_w0 {A : Prop} {Q : Nat → Prop} {w : Int32} (h : ¬ w = 0 ↔ A) : ¬ w = 0 ↔ A ∨ ∃ u, u < 0 ∧ Q u := ⟨fun z => Or.inl (h.mp z), fun z => z.elim h.mpr (fun y => absurd y cx_ex0)⟩
theorem cx_wf0 : ¬ nI 0 = 0 ↔ False := by rw [nI_0]; exact ⟨fun z => z rfl, False.elim⟩
theorem cx_eqE {P Q : Prop} {v r : Int32} (hv : (v = 0 ∨ v = 1) ∧ (¬ v = 0 ↔ P)) (hr : (r = 0 ∨ r = 1) ∧ (¬ r = 0 ↔ Q)) : v = r ↔ (P ↔ Q) := by
  obtain ⟨h1, h2⟩ := hv
  obtain ⟨h3, h4⟩ := hr
  rw [← h2, ← h4]
  rcases h1 with rfl | rfl <;> rcases h3 with rfl | rfl <;> simp
section TR2
variable {n : Nat} {T : Nat → Nat → Int32} {t : Nat}
theorem cx_nxb {a u : Nat} (hn : n ≤ 20) (ha : a < n) (hB : cx_B4 n T) (hu : u < 32) : bt ((T 4 a) ||| (T 5 a)) u = true ↔ cx_nx (T 3) (cx_Uc T) a u := by
  rw [b_or, Bool.or_eq_true, hB a ha u hu]
  exact ⟨fun z => z.imp id (fun y => ⟨by omega, y⟩), fun z => z.imp id (fun y => y.2)⟩
theorem cx_tr6s {w : Int32} (hn : n ≤ 20) (ht : t < n) (hB : cx_B4 n T) (hw : ∀ u, u < 32 → (bt w u = true ↔ u < n ∧ cx_mk (T 1) u (nI 4))) : ∀ u, u < 32 → (bt (((T 4 t) ||| (T 5 t)) &&& w) u = true ↔ u < n ∧ cx_nx (T 3) (cx_Uc T) t u ∧ cx_mk (T 1) u (nI 4)) := by
  intro u hu
  rw [b_and, Bool.and_eq_true, cx_nxb hn ht hB hu, hw u hu]
  exact ⟨fun z => ⟨z.2.1, z.1, z.2.2⟩, fun z => ⟨z.2.1, z.1, z.2.2⟩⟩
/-- under no sealed one -/
theorem cx_tr6a {s v : Int32} (hn : n ≤ 20) (ht : t < n) (hs : ∀ u, u < 32 → (bt s u = true ↔ u < n ∧ cx_nx (T 3) (cx_Uc T) t u ∧ cx_mk (T 1) u (nI 4))) (h0 : s = 0) (hv : (cx_mk (T 1) t (nI 8) ∧ v = (1 : Int32) <<< (nI t &&& 31)) ∨ (¬ cx_mk (T 1) t (nI 8) ∧ v = 0)) : ¬ v = 0 ↔ cx_F6a n (T 0) (T 1) (T 3) (cx_Uc T) (cx_Vc T) t ∨ cx_F6b n (T 1) (T 3) (cx_Uc T) t := by
  have hno : ¬ ∃ u, u < n ∧ cx_nx (T 3) (cx_Uc T) t u ∧ cx_mk (T 1) u (nI 4) := by
    rintro ⟨u, hu, h⟩
    have := (hs u (by omega)).mpr ⟨hu, h⟩
    rw [h0, b_0] at this
    exact absurd this (by decide)
  rw [cx_bitv (by omega) hv]
  constructor
  · intro h; exact Or.inr ⟨h, hno⟩
  · rintro (⟨u, hu, h1, h2, -⟩ | h)
    · exact absurd ⟨u, hu, h1, h2⟩ hno
    · exact h.1
theorem cx_tr6b {s v : Int32} {i : Nat} (hi : n ≤ i) (hi2 : i ≤ n) (hs : ∀ u, u < 32 → (bt s u = true ↔ u < n ∧ cx_nx (T 3) (cx_Uc T) t u ∧ cx_mk (T 1) u (nI 4))) (h0 : ¬ s = 0) (hv : ¬ v = 0 ↔ False ∨ ∃ u, u < i ∧ (cx_nx (T 3) (cx_Uc T) t u ∧ cx_mk (T 1) u (nI 4) ∧ (cx_pl (T 0 t) (T 1 t) ∨ ¬ cx_Vc T u t))) : ¬ v = 0 ↔ cx_F6a n (T 0) (T 1) (T 3) (cx_Uc T) (cx_Vc T) t ∨ cx_F6b n (T 1) (T 3) (cx_Uc T) t := by
  have e : i = n := by omega
  subst e
  obtain ⟨u, hu, h⟩ := cx_nz.mp h0
  have h := (hs u hu).mp h
  rw [hv]
  exact ⟨fun z => z.elim False.elim Or.inl, fun z => z.elim Or.inr (fun y => absurd ⟨u, h⟩ y.2)⟩
theorem cx_tr7s (hn : n ≤ 20) (ht : t < n) : ∀ u, u < 32 → (bt ((T 8 t) &&& (((1 : Int32) <<< (nI n &&& 31)) - (1 : Int32))) u = true ↔ u < n ∧ cx_Vc T t u) := by
  intro u hu
  rw [b_and, Bool.and_eq_true, cx_ev2 hn hu]
  exact ⟨fun z => ⟨z.2, by omega, z.1⟩, fun z => ⟨z.2.2, z.1⟩⟩
theorem cx_tr7p {s : Int32} (hn : n ≤ 20) (hs : ∀ u, u < 32 → (bt s u = true ↔ u < n ∧ cx_Vc T t u)) : ¬ s = 0 ↔ ∃ u, u < n ∧ cx_Vc T t u := by
  rw [cx_nz]
  exact ⟨fun ⟨u, hu, h⟩ => ⟨u, (hs u hu).mp h⟩, fun ⟨u, hu, h⟩ => ⟨u, by omega, (hs u (by omega)).mpr ⟨hu, h⟩⟩⟩
end TR2
/-! what is found -/
def cx_G (g : Nat → Int64) : Prop := ∃ i, i < 36 ∧ ¬ g i = 0
theorem cx_or64 {a b : Int64} (h : ¬ b = 0) : ¬ (a ||| b) = 0 := fun e => h (by
  have h1 := congrArg Int64.toBitVec e
  rw [Int64.toBitVec_or] at h1
  have h2 : b.toBitVec = 0#64 := (BitVec.or_eq_zero_iff.mp h1).2
  exact Int64.toBitVec_inj.mp h2)
theorem cx_1sh : ∀ i, i < 80 → ¬ ((1 : Int64) <<< ((nI i - nI i / nI 64 * nI 64).toInt64 &&& 63)) = 0 := by decide +kernel
theorem cx_i64 {x : Int32} : x.toInt64 = 0 ↔ x = 0 := by
  constructor
  · intro h
    have h1 := congrArg Int64.toInt h
    rw [Int32.toInt_toInt64] at h1
    exact Int32.toInt_inj.mp h1
  · intro h
    rw [h]
    rfl
theorem cx_lupS {f : Nat → Int64} {k : Nat} {x : Int64} : vp_updL f k x k = x := by simp [vp_updL]
theorem cx_lupN {f : Nat → Int64} {k j : Nat} {x : Int64} (h : ¬ j = k) : vp_updL f k x j = f j := by simp [vp_updL, h]
def cx_pt (g ga : Nat → Int64) (kd : Nat) (st : Int32) : Prop := (g (kd * 2) = 0 → (cx_G ga ↔ cx_G g ∨ ¬ st = 0)) ∧ ∀ i, ¬ i = kd * 2 → ga i = g i
theorem cx_ptI {g : Nat → Int64} {kd : Nat} {st : Int32} (hk : kd < 18) : cx_pt g (vp_updL g (kd * 2) st.toInt64) kd st := by
  refine ⟨fun h0 => ⟨?_, ?_⟩, fun i hi => cx_lupN hi⟩
  · rintro ⟨i, hi, h⟩
    by_cases e : i = kd * 2
    · subst e
      rw [cx_lupS] at h
      exact Or.inr (fun z => h (cx_i64.mpr z))
    · rw [cx_lupN e] at h
      exact Or.inl ⟨i, hi, h⟩
  · rintro (⟨i, hi, h⟩ | h)
    · refine ⟨i, hi, ?_⟩
      rw [cx_lupN (fun e => h (by rw [e]; exact h0))]
      exact h
    · exact ⟨kd * 2, by omega, by rw [cx_lupS]; exact fun z => h (cx_i64.mp z)⟩
theorem cx_pf0 {g : Nat → Int64} {wr : Int32} (h : wr = 0) : cx_G g ↔ cx_G g ∨ ¬ wr = 0 := ⟨Or.inl, fun z => z.elim id (fun y => absurd h y)⟩
theorem cx_pf1 {g : Nat → Int64} {wr : Int32} {p m : Nat} (h : ¬ wr = 0) (hp : p < 36) (hm : m < 80) : cx_G (vp_updL g p ((g p) ||| ((1 : Int64) <<< ((nI m - nI m / nI 64 * nI 64).toInt64 &&& 63)))) ↔ cx_G g ∨ ¬ wr = 0 :=
  ⟨fun _ => Or.inr h, fun _ => ⟨p, hp, by rw [cx_lupS]; exact cx_or64 (cx_1sh m hm)⟩⟩
theorem cx_goS {A : Prop} {Q : Nat → Prop} {i : Nat} {G0 G1 : Prop} (h : G0 ↔ A ∨ ∃ j, j < i ∧ Q j) (h1 : G1 ↔ G0 ∨ Q i) : G1 ↔ A ∨ ∃ j, j < i + 1 ∧ Q j := by
  rw [h1, h, cx_exS, or_assoc]
theorem cx_goN {A : Prop} {Q : Nat → Prop} {i : Nat} {G0 : Prop} (h : G0 ↔ A ∨ ∃ j, j < i ∧ Q j) (h1 : ¬ Q i) : G0 ↔ A ∨ ∃ j, j < i + 1 ∧ Q j := by
  rw [h, cx_exS]
  exact ⟨fun z => z.imp id Or.inl, fun z => z.imp id (fun y => y.elim id (fun x => absurd x h1))⟩
theorem cx_go0 {A : Prop} {Q : Nat → Prop} : A ↔ A ∨ ∃ j, j < 0 ∧ Q j := ⟨Or.inl, fun z => z.elim id (fun y => absurd y cx_ex0)⟩
theorem cx_goE {A : Prop} {Q : Nat → Prop} {i k : Nat} {G0 : Prop} (h : G0 ↔ A ∨ ∃ j, j < i ∧ Q j) (h1 : k ≤ i) (h2 : i ≤ k) : G0 ↔ A ∨ ∃ j, j < k ∧ Q j := by
  have e : i = k := by omega
  rw [e] at h
  exact h
theorem cx_fillS {f : Nat → Int64} {i : Nat} {x : Int64} (h : ∀ j, j < i → f j = x) : ∀ j, j < i + 1 → vp_updL f i x j = x := by
  intro j hj
  by_cases e : j = i
  · subst e; exact cx_lupS
  · rw [cx_lupN e]; exact h j (by omega)
section J1
variable {n k t : Nat} {T M : Nat → Nat → Int32}
theorem cx_ff1 {a b c : Int32} (ht : t < n) (hn : n ≤ 20) (h1 : ¬ a = 0 ↔ cx_ms n T t) (h2 : ¬ b = 0 ↔ cx_Ac T n t t) (h3 : ¬ c = 0 ↔ cx_wk n T t) (h : ¬ ((a ||| b) ||| c) = 0) : cx_FF n (T 0) (T 3) (cx_Uc T) (cx_Vc T) (cx_Ac T n) t := by
  rw [cx_orz, cx_orz, h1, h2, h3] at h
  exact (cx_tr123 ht hn).mp (h.elim (fun z => z.elim Or.inl (fun y => Or.inr (Or.inl y))) (fun z => Or.inr (Or.inr z)))
theorem cx_ff0 {a b c : Int32} (ht : t < n) (hn : n ≤ 20) (h1 : ¬ a = 0 ↔ cx_ms n T t) (h2 : ¬ b = 0 ↔ cx_Ac T n t t) (h3 : ¬ c = 0 ↔ cx_wk n T t) (h : ((a ||| b) ||| c) = 0) : ¬ cx_FF n (T 0) (T 3) (cx_Uc T) (cx_Vc T) (cx_Ac T n) t := by
  intro z
  refine absurd h ?_
  rw [cx_orz, cx_orz, h1, h2, h3]
  rcases (cx_tr123 ht hn).mpr z with y | y | y
  · exact Or.inl (Or.inl y)
  · exact Or.inl (Or.inr y)
  · exact Or.inr y
def cx_cnt (v : Int32) (b : Nat) (Q : Prop) : Prop := ∃ z : Nat, v = nI z ∧ z ≤ b ∧ (¬ z = 0 ↔ Q)
theorem cx_cf0 {g : Nat → Int64} : cx_cnt (nI 0) (127 * 0) (∃ j, j < 0 ∧ ¬ g j = 0) := ⟨0, rfl, by omega, fun z => absurd rfl z, fun z => absurd z cx_ex0⟩
theorem cx_cfS {g : Nat → Int64} {v r : Int32} {i : Nat} (hs : cx_cnt v (127 * i) (∃ j, j < i ∧ ¬ g j = 0)) (hp : cx_cnt r 127 (¬ g i = 0)) : cx_cnt (v + r) (127 * (i + 1)) (∃ j, j < i + 1 ∧ ¬ g j = 0) := by
  obtain ⟨a, rfl, ha, ha2⟩ := hs
  obtain ⟨b, rfl, hb, hb2⟩ := hp
  refine ⟨a + b, nI_add _ _, by omega, ?_⟩
  rw [cx_exS (P := fun j => ¬ g j = 0), ← ha2, ← hb2]
  omega
theorem cx_cfE {g : Nat → Int64} {v : Int32} {i : Nat} (hs : cx_cnt v (127 * i) (∃ j, j < i ∧ ¬ g j = 0)) (h1 : 36 ≤ i) (h2 : i ≤ 36) : ¬ v ≤ 0 ↔ cx_G g := by
  have e : i = 36 := by omega
  subst e
  obtain ⟨a, rfl, ha, ha2⟩ := hs
  unfold cx_G
  rw [← ha2]
  constructor
  · intro z e
    have := cx_pos z
    omega
  · intro z y
    rw [cx_n0] at y
    have := (nI_leI (by omega) (by omega)).mp y
    omega
theorem cx_tfE {g g1 g2 g3 g4 g5 g6 g7 g8 : Nat → Int64} {r1 r2 r3 r4 r5 r6 r7 r8 : Int32} (ht : t < n) (hn : n ≤ 20) (hg : ∀ j, j < 36 → g j = 0) (p1 : cx_pt g g1 1 r1) (p2 : cx_pt g1 g2 2 r2) (p3 : cx_pt g2 g3 3 r3) (p4 : cx_pt g3 g4 4 r4) (p5 : cx_pt g4 g5 5 r5) (p6 : cx_pt g5 g6 6 r6) (p7 : cx_pt g6 g7 7 r7) (p8 : cx_pt g7 g8 8 r8)
    (h1 : ¬ r1 = 0 ↔ cx_ms n T t) (h2 : ¬ r2 = 0 ↔ cx_Ac T n t t) (h3 : ¬ r3 = 0 ↔ cx_wk n T t) (h4 : ¬ r4 = 0 ↔ cx_F4 n (T 1) (T 3) t) (h5 : ¬ r5 = 0 ↔ cx_f5 (T 0 t) (T 1 t)) (h6 : ¬ r6 = 0 ↔ cx_F6a n (T 0) (T 1) (T 3) (cx_Uc T) (cx_Vc T) t ∨ cx_F6b n (T 1) (T 3) (cx_Uc T) t) (h7 : ¬ r7 = 0 ↔ cx_F7a n (T 1) (cx_Vc T) t ∨ cx_F7b n (T 3) (cx_Uc T) (cx_Vc T) t) (h8 : ¬ r8 = 0 ↔ cx_F8 n (cx_Wc T) t) :
    cx_G g8 ↔ cx_FF n (T 0) (T 3) (cx_Uc T) (cx_Vc T) (cx_Ac T n) t ∨ cx_TF n (T 0) (T 1) (T 3) (cx_Uc T) (cx_Wc T) (cx_Vc T) t := by
  have e1 : ∀ j, 2 < j → j < 36 → g1 j = 0 := fun j a b => by rw [p1.2 j (by omega)]; exact hg j b
  have e2 : ∀ j, 4 < j → j < 36 → g2 j = 0 := fun j a b => by rw [p2.2 j (by omega)]; exact e1 j (by omega) b
  have e3 : ∀ j, 6 < j → j < 36 → g3 j = 0 := fun j a b => by rw [p3.2 j (by omega)]; exact e2 j (by omega) b
  have e4 : ∀ j, 8 < j → j < 36 → g4 j = 0 := fun j a b => by rw [p4.2 j (by omega)]; exact e3 j (by omega) b
  have e5 : ∀ j, 10 < j → j < 36 → g5 j = 0 := fun j a b => by rw [p5.2 j (by omega)]; exact e4 j (by omega) b
  have e6 : ∀ j, 12 < j → j < 36 → g6 j = 0 := fun j a b => by rw [p6.2 j (by omega)]; exact e5 j (by omega) b
  have e7 : ∀ j, 14 < j → j < 36 → g7 j = 0 := fun j a b => by rw [p7.2 j (by omega)]; exact e6 j (by omega) b
  have h0 : ¬ cx_G g := fun ⟨i, hi, z⟩ => z (hg i hi)
  rw [p8.1 (e7 _ (by omega) (by omega)), p7.1 (e6 _ (by omega) (by omega)), p6.1 (e5 _ (by omega) (by omega)), p5.1 (e4 _ (by omega) (by omega)), p4.1 (e3 _ (by omega) (by omega)), p3.1 (e2 _ (by omega) (by omega)), p2.1 (e1 _ (by omega) (by omega)), p1.1 (hg _ (by omega)), h1, h2, h3, h4, h5, h6, h7, h8, ← cx_tr123 ht hn]
  unfold cx_TF
  generalize cx_ms n T t = a1, cx_Ac T n t t = a2, cx_wk n T t = a3, cx_F4 n (T 1) (T 3) t = a4, cx_f5 (T 0 t) (T 1 t) = a5, cx_F6a n (T 0) (T 1) (T 3) (cx_Uc T) (cx_Vc T) t = a6, cx_F6b n (T 1) (T 3) (cx_Uc T) t = b6, cx_F7a n (T 1) (cx_Vc T) t = a7, cx_F7b n (T 3) (cx_Uc T) (cx_Vc T) t = b7, cx_F8 n (cx_Wc T) t = a8, cx_G g = G0 at h0 ⊢
  grind
theorem cx_ovS {K P : Nat → Int32} {A : Nat → Nat → Prop} {m i : Nat} {G0 G1 G2 G3 G4 : Prop} {a b c d : Int32} (h1 : cx_lk M i m) (h2 : cx_sh K P M A i t) (p1 : G1 ↔ G0 ∨ ¬ a = 0) (p2 : G2 ↔ G1 ∨ ¬ b = 0) (p3 : G3 ↔ G2 ∨ ¬ c = 0) (p4 : G4 ↔ G3 ∨ ¬ d = 0) (q1 : ¬ a = 0 ↔ cx_mk (M 3) i (nI 2)) (q2 : ¬ b = 0 ↔ ¬ (cx_mk (M 3) i (nI 4) ↔ cx_mk (M 3) m (nI 4))) (q3 : ¬ c = 0 ↔ M 4 m < M 4 i) (q4 : ¬ d = 0 ↔ ¬ cx_ft n A (M 5 m) (M 5 i)) : G4 ↔ G0 ∨ (cx_lk M i m ∧ cx_sh K P M A i t ∧ cx_ov1 n M A m i) := by
  rw [p4, p3, p2, p1, q1, q2, q3, q4]
  unfold cx_ov1
  constructor
  · rintro ((((z | z) | z) | z) | z)
    · exact Or.inl z
    · exact Or.inr ⟨h1, h2, Or.inl z⟩
    · exact Or.inr ⟨h1, h2, Or.inr (Or.inl z)⟩
    · exact Or.inr ⟨h1, h2, Or.inr (Or.inr (Or.inl z))⟩
    · exact Or.inr ⟨h1, h2, Or.inr (Or.inr (Or.inr z))⟩
  · rintro (z | ⟨-, -, z | z | z | z⟩)
    · exact Or.inl (Or.inl (Or.inl (Or.inl z)))
    · exact Or.inl (Or.inl (Or.inl (Or.inr z)))
    · exact Or.inl (Or.inl (Or.inr z))
    · exact Or.inl (Or.inr z)
    · exact Or.inr z
theorem cx_LI.g16 {F : Nat → Prop} {f : Nat → Int32} {d : Nat} {co : Int32} (hL : cx_LI F f d) : ((¬ co = -1 ∧ cx_mk (M 3) co.toNatClampNeg 1) ∨ (co = -1 ∧ (¬ ∃ j, j < d ∧ cx_mk (M 3) (f j).toNatClampNeg (nI 8)) ∧ ∃ j, j < d ∧ cx_mk (M 3) (f j).toNatClampNeg 1)) ↔ cx_g16 M F co := by
  unfold cx_g16
  rw [hL.ex (G := fun m => cx_mk (M 3) m (nI 8)), hL.ex (G := fun m => cx_mk (M 3) m 1)]
theorem cx_LI.g17 {F : Nat → Prop} {f : Nat → Int32} {d : Nat} {co : Int32} (hL : cx_LI F f d) : (co = -1 ∧ 1 < d ∧ ∃ j, j < d ∧ cx_mk (M 3) (f j).toNatClampNeg (nI 8)) ↔ cx_g17 M F co := by
  unfold cx_g17
  rw [hL.ex (G := fun m => cx_mk (M 3) m (nI 8)), hL.two]
theorem cx_gn1 {K X P R : Nat → Int32} {A : Nat → Nat → Prop} {nm pm co : Int32} (hc : cx_co n k K P R M A t nm pm co) : cx_gn n k K X P R M A t nm pm ↔ ((cx_must K X t ∧ cx_g16 M (cx_fo k K M A t nm pm) co) ∨ cx_g17 M (cx_fo k K M A t nm pm) co) :=
  ⟨fun ⟨co', h', z⟩ => by rw [hc.u h']; exact z, fun z => ⟨co, hc, z⟩⟩
theorem cx_gvS {K X P R : Nat → Int32} {A : Nat → Nat → Prop} {i : Nat} {G0 G1 G2 : Prop} {f : Nat → Int32} {d : Nat} {co r r' v v' : Int32} (h1 : ∀ j, j < i → ¬ cx_lk M j i) (hc : cx_co n k K P R M A t (M 1 i) (M 2 i) co) (hL : cx_LI (cx_fo k K M A t (M 1 i) (M 2 i)) f d)
    (p1 : ¬ r = -1 ↔ (¬ co = -1 ∧ cx_mk (M 3) co.toNatClampNeg 1) ∨ (co = -1 ∧ (¬ ∃ j, j < d ∧ cx_mk (M 3) (f j).toNatClampNeg (nI 8)) ∧ ∃ j, j < d ∧ cx_mk (M 3) (f j).toNatClampNeg 1)) (p2 : ¬ r' = -1 ↔ co = -1 ∧ 1 < d ∧ ∃ j, j < d ∧ cx_mk (M 3) (f j).toNatClampNeg (nI 8))
    (q1 : G1 ↔ G0 ∨ ¬ v = 0) (q2 : G2 ↔ G1 ∨ ¬ v' = 0) (w1 : ¬ v = 0 ↔ cx_must K X t ∧ ¬ r = -1) (w2 : ¬ v' = 0 ↔ ¬ r' = -1) : G2 ↔ G0 ∨ ((∀ j, j < i → ¬ cx_lk M j i) ∧ cx_gn n k K X P R M A t (M 1 i) (M 2 i)) := by
  rw [q2, q1, w1, w2, p1, p2, hL.g16, hL.g17, cx_gn1 hc]
  exact ⟨fun z => z.elim (fun y => y.imp id (fun x => ⟨h1, Or.inl x⟩)) (fun y => Or.inr ⟨h1, Or.inr y⟩), fun z => z.elim (fun y => Or.inl (Or.inl y)) (fun y => y.2.elim (fun x => Or.inl (Or.inr x)) Or.inr)⟩
theorem cx_one_q {R : Nat → Int32} {Q : Nat → Nat → Prop} : ∀ (f : Nat) (a r : Int32), cx_one n k R Q f a r → ¬ r = -1 → ∃ m b, m < k ∧ r = nI m ∧ Q b m := by
  intro f
  induction f with
  | zero => intro a r h hr; exact absurd h hr
  | succ f ih =>
    intro a r h hr
    rcases h with ⟨-, e⟩ | ⟨-, r0, hl, ⟨z, e⟩ | ⟨z, e⟩⟩
    · exact absurd e hr
    · subst e
      rcases hl with ⟨e, -⟩ | ⟨j, hj, hq, -, e⟩
      · exact absurd e hr
      · exact ⟨j, _, hj, e, hq⟩
    · exact ih _ _ e hr
theorem cx_gn2 {K X P R : Nat → Int32} {A : Nat → Nat → Prop} {nm pm : Int32} (h : cx_gn n k K X P R M A t nm pm) : ∃ m, m < k ∧ cx_nmd M m nm pm := by
  obtain ⟨co, hc, h⟩ := h
  by_cases e : co = -1
  · have hf : ∃ m, cx_fo k K M A t nm pm m := by
      rcases h with ⟨-, h | ⟨-, -, m, h, -⟩⟩ | ⟨-, -, m, h, -⟩
      · exact absurd e h.1
      · exact ⟨m, h⟩
      · exact ⟨m, h⟩
    obtain ⟨m, hm, hg, -⟩ := hf
    exact ⟨m, hm, hg.1⟩
  · rcases hc with ⟨-, z⟩ | ⟨-, z⟩
    · exact absurd z e
    · obtain ⟨m, b, hm, -, hq⟩ := cx_one_q _ _ _ z e
      exact ⟨m, hm, hq.2.1⟩
theorem cx_least {P : Nat → Prop} : ∀ k, (∃ j, j < k ∧ P j) → ∃ j, j < k ∧ P j ∧ ∀ i, i < j → ¬ P i := by
  intro k
  induction k with
  | zero => intro h; exact absurd h cx_ex0
  | succ k ih =>
    intro h
    by_cases e : ∃ j, j < k ∧ P j
    · obtain ⟨j, hj, h⟩ := ih e
      exact ⟨j, by omega, h⟩
    · rcases cx_exS.mp h with h | h
      · exact absurd h e
      · exact ⟨k, by omega, h, fun i hi hp => e ⟨i, hi, hp⟩⟩
theorem cx_gvE {K X P R : Nat → Int32} {A : Nat → Nat → Prop} {G0 A0 : Prop} (h : G0 ↔ A0 ∨ ∃ j, j < k ∧ ((∀ i, i < j → ¬ cx_lk M i j) ∧ cx_gn n k K X P R M A t (M 1 j) (M 2 j))) : G0 ↔ A0 ∨ cx_GV n k K X P R M A t := by
  rw [h]
  constructor
  · exact fun z => z.imp id (fun ⟨j, _, _, y⟩ => ⟨_, _, y⟩)
  · refine fun z => z.imp id (fun ⟨nm, pm, y⟩ => ?_)
    obtain ⟨j, hj, ⟨e1, e2⟩, hl⟩ := cx_least (P := fun m => cx_nmd M m nm pm) k (cx_gn2 y)
    subst e1 e2
    exact ⟨j, hj, fun i hi z => hl i hi z, y⟩
theorem cx_kpS {G1 G2 F1 F2 F3 F4 F5 S : Prop} (h1 : G1 ↔ F1 ∨ F2) (h2 : G2 ↔ G1 ∨ F3) (hs : S) : G2 ↔ F1 ∨ F2 ∨ F3 ∨ (¬ S ∧ (F4 ∨ F5)) := by
  rw [h2, h1]
  exact ⟨fun z => z.elim (fun y => y.elim Or.inl (fun x => Or.inr (Or.inl x))) (fun y => Or.inr (Or.inr (Or.inl y))), fun z => z.elim (fun y => Or.inl (Or.inl y)) (fun y => y.elim (fun x => Or.inl (Or.inr x)) (fun x => x.elim Or.inr (fun w => absurd hs w.1)))⟩
theorem cx_kpN {G1 G2 G3 G4 F1 F2 F3 F4 F5 S : Prop} (h1 : G1 ↔ F1 ∨ F2) (h2 : G2 ↔ G1 ∨ F3) (hs : ¬ S) (h3 : G3 ↔ G2 ∨ F4) (h4 : G4 ↔ G3 ∨ F5) : G4 ↔ F1 ∨ F2 ∨ F3 ∨ (¬ S ∧ (F4 ∨ F5)) := by
  rw [h4, h3, h2, h1]
  grind
theorem cx_kp0 {AF : Nat → Prop} {G : Prop} {v : Int32} (hn : n ≤ 20) (ht : t < n) (h : v = -1 ∨ ∃ a, a < n ∧ v = nI a ∧ (G ↔ AF a)) (hv : v = nI t) : G ↔ AF t := by
  rcases h with h | ⟨a, ha, e, h⟩
  · exact absurd (hv.symm.trans h) (cx_ixm (cx_ixI (j := t) (B := 20) (by omega) (by decide)) (by decide))
  · have : a = t := cx_nIinj (by omega) (by omega) (e.symm.trans hv)
    subst this
    exact h
theorem cx_coS {J J1 : Nat → Nat → Int32} {AF : Nat → Prop} {G : Prop} {r : Int32} (hn : n ≤ 20) (ht : t < n) (hC : ∀ a, a < n → bt ((J 1) 0) a = true → (¬ (J 0) a ≤ 0 ↔ AF a)) (h13 : (J1 0 = J 0 ∧ J1 1 = J 1 ∧ (J1 2) 0 = nI t) ∧ (G ↔ AF t)) (h22 : ¬ r ≤ 0 ↔ G) :
    (¬ (cx_u (cx_u J1 0 (upd (J1 0) t r)) 1 (fun _ => ((J1 1) 0) ||| ((1 : Int32) <<< (nI t &&& 31))) 0) t ≤ 0 ↔ AF t) ∧ ((∀ a, a < n → bt ((cx_u (cx_u J1 0 (upd (J1 0) t r)) 1 (fun _ => ((J1 1) 0) ||| ((1 : Int32) <<< (nI t &&& 31))) 1) 0) a = true → (¬ (cx_u (cx_u J1 0 (upd (J1 0) t r)) 1 (fun _ => ((J1 1) 0) ||| ((1 : Int32) <<< (nI t &&& 31))) 0) a ≤ 0 ↔ AF a)) ∧ ((cx_u (cx_u J1 0 (upd (J1 0) t r)) 1 (fun _ => ((J1 1) 0) ||| ((1 : Int32) <<< (nI t &&& 31))) 2) 0 = -1 ∨ ∃ a, a < n ∧ (cx_u (cx_u J1 0 (upd (J1 0) t r)) 1 (fun _ => ((J1 1) 0) ||| ((1 : Int32) <<< (nI t &&& 31))) 2) 0 = nI a ∧ (G ↔ AF a))) := by
  obtain ⟨⟨e0, e1, e2⟩, hG⟩ := h13
  have hr : ¬ r ≤ 0 ↔ AF t := h22.trans hG
  refine ⟨?_, fun a ha hb => ?_, Or.inr ⟨t, ht, e2, hG⟩⟩
  · show ¬ (upd (J1 0) t r t) ≤ 0 ↔ AF t
    rw [cx_updS]
    exact hr
  · have hb : bt (((J1 1) 0) ||| ((1 : Int32) <<< (nI t &&& 31))) a = true := hb
    show ¬ (upd (J1 0) t r a) ≤ 0 ↔ AF a
    by_cases e : a = t
    · subst e
      rw [cx_updS]
      exact hr
    · rw [cx_updN e, e0]
      rw [b_or, Bool.or_eq_true, cx_1bit (by omega) (by omega), e1] at hb
      exact hC a ha (hb.resolve_right e)
theorem cx_plS {J J1 : Nat → Nat → Int32} {AF : Nat → Prop} {G : Prop} (ht : t < n) (hC : ∀ a, a < n → bt ((J 1) 0) a = true → (¬ (J 0) a ≤ 0 ↔ AF a)) (h : (J1 0 = J 0 ∧ J1 1 = J 1 ∧ (J1 2) 0 = nI t) ∧ (G ↔ AF t)) : (∀ a, a < n → bt ((J1 1) 0) a = true → (¬ (J1 0) a ≤ 0 ↔ AF a)) ∧ ((J1 2) 0 = -1 ∨ ∃ a, a < n ∧ (J1 2) 0 = nI a ∧ (G ↔ AF a)) := by
  obtain ⟨⟨e0, e1, e2⟩, hG⟩ := h
  refine ⟨?_, Or.inr ⟨t, ht, e2, hG⟩⟩
  rw [e0, e1]
  exact hC
end J1
