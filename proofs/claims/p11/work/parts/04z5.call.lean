/-! What call rests on: Warshall's closure is transitive and the least; the chain of PARENTS; who takes the place of whom. -/
theorem cx_w2c {D : Nat → Nat → Prop} {m : Nat} : ∀ t a u, cx_w2 D m t a u ↔ D a u ∨ (a < t ∧ D a m ∧ D m u) := by
  intro t
  induction t with
  | zero => intro a u; exact ⟨Or.inl, fun z => z.elim id (fun y => absurd y.1 (by omega))⟩
  | succ t ih =>
    intro a u
    show (cx_w2 D m t a u ∨ (a = t ∧ cx_w2 D m t t m ∧ cx_w2 D m t m u)) ↔ _
    rw [ih a u, ih t m, ih m u]
    constructor
    · rintro ((z | ⟨h, z⟩) | ⟨rfl, (z | ⟨h, z⟩), y⟩)
      · exact Or.inl z
      · exact Or.inr ⟨by omega, z⟩
      · exact Or.inr ⟨by omega, z, y.elim id (fun w => w.2.2)⟩
      · exact absurd h (by omega)
    · rintro (z | ⟨h, z, y⟩)
      · exact Or.inl (Or.inl z)
      · by_cases e : a = t
        · subst e; exact Or.inr ⟨rfl, Or.inl z, Or.inl y⟩
        · exact Or.inl (Or.inr ⟨by omega, z, y⟩)
section W3
variable {n : Nat} {E : Nat → Nat → Prop}
theorem cx_w3S {j a u : Nat} : cx_w3 n E (j + 1) a u ↔ cx_w3 n E j a u ∨ (a < n ∧ cx_w3 n E j a j ∧ cx_w3 n E j j u) := cx_w2c n a u
theorem cx_w3m {a u : Nat} (h : E a u) : ∀ j, cx_w3 n E j a u := by
  intro j
  induction j with
  | zero => exact h
  | succ j ih => exact cx_w3S.mpr (Or.inl ih)
theorem cx_w3min {S : Nat → Nat → Prop} (hE : ∀ a u, E a u → S a u) (hT : ∀ a b c, S a b → S b c → S a c) : ∀ j a u, cx_w3 n E j a u → S a u := by
  intro j
  induction j with
  | zero => intro a u h; exact hE a u h
  | succ j ih =>
    intro a u h
    rcases cx_w3S.mp h with z | ⟨-, z, y⟩
    · exact ih a u z
    · exact hT _ _ _ (ih a j z) (ih j u y)
theorem cx_w3t0 : ∀ j, j ≤ n → ∀ a b c, a < n → b < j → cx_w3 n E j a b → cx_w3 n E j b c → cx_w3 n E j a c := by
  intro j
  induction j with
  | zero => intro _ a b c _ hb; exact absurd hb (by omega)
  | succ j ih =>
    intro hj a b c ha hb h1 h2
    have ih := ih (by omega)
    have hjj : ∀ u, cx_w3 n E (j + 1) j u → cx_w3 n E j j u := fun u z => (cx_w3S.mp z).elim id (fun y => y.2.2)
    have haj : cx_w3 n E (j + 1) a j → cx_w3 n E j a j := fun z => (cx_w3S.mp z).elim id (fun y => y.2.1)
    by_cases e : b = j
    · subst e
      exact cx_w3S.mpr (Or.inr ⟨ha, haj h1, hjj c h2⟩)
    · have hb : b < j := by omega
      rcases cx_w3S.mp h1 with p | ⟨-, p1, p2⟩ <;> rcases cx_w3S.mp h2 with q | ⟨-, q1, q2⟩
      · exact cx_w3S.mpr (Or.inl (ih a b c ha hb p q))
      · exact cx_w3S.mpr (Or.inr ⟨ha, ih a b j ha hb p q1, q2⟩)
      · exact cx_w3S.mpr (Or.inr ⟨ha, p1, ih j b c (by omega) hb p2 q⟩)
      · exact cx_w3S.mpr (Or.inr ⟨ha, p1, q2⟩)
theorem cx_w3t {a b c : Nat} (ha : a < n) (hb : b < n) (h1 : cx_w3 n E n a b) (h2 : cx_w3 n E n b c) : cx_w3 n E n a c := cx_w3t0 n (Nat.le_refl n) a b c ha hb h1 h2
end W3
/-- what is ABOVE: the least relation over PARENTS and UPPERS that are there that is transitive -/
def cx_AX (n : Nat) (R : Nat → Int32) (U A : Nat → Nat → Prop) : Prop :=
  (∀ a u, A a u → a < n ∧ u < n) ∧ (∀ a u, a < n → u < n → cx_nx R U a u → A a u) ∧ (∀ a b c, A a b → A b c → A a c) ∧
  ∀ S : Nat → Nat → Prop, (∀ a u, a < n → u < n → cx_nx R U a u → S a u) → (∀ a b c, S a b → S b c → S a c) → ∀ a u, A a u → S a u
theorem cx_AXr {n : Nat} {T : Nat → Nat → Int32} (hn : n ≤ 20) : cx_AX n (T 3) (cx_Ur T) (cx_Ar T n) := by
  refine ⟨fun a u h => ⟨h.1, h.2.1⟩, fun a u ha hu h => ⟨ha, hu, cx_w3m ?_ n⟩, fun a b c h1 h2 => ⟨h1.1, h2.2.1, cx_w3t h1.1 h1.2.1 h1.2.2 h2.2.2⟩, fun S h1 h2 a u h => ?_⟩
  · exact ⟨hu, h.imp (fun z => z.2) (fun z => z.2.2)⟩
  · have := cx_w3min (n := n) (E := cx_Er T n) (S := fun a u => a < n → S a u ∧ u < n) (fun a u hE ha => ⟨h1 a u ha hE.1 (hE.2.imp (fun z => ⟨Nat.lt_of_lt_of_le hE.1 hn, z⟩) (fun z => ⟨Nat.lt_of_lt_of_le ha hn, Nat.lt_of_lt_of_le hE.1 hn, z⟩)), hE.1⟩) (fun a b c x y ha => ⟨h2 _ _ _ (x ha).1 (y (x ha).2).1, (y (x ha).2).2⟩) n a u h.2.2
    exact (this h.1).1
theorem cx_AXc {n : Nat} {T : Nat → Nat → Int32} (hn : n ≤ 20) (hCL : cx_CL T n (T 10)) (hB : cx_B4 n T) : cx_AX n (T 3) (cx_Uc T) (cx_Ac T n) := by
  have hA : ∀ a u, cx_Ac T n a u ↔ (a < n ∧ u < n ∧ cx_w3 n (cx_En T n) n a u) := fun a u =>
    ⟨fun z => ⟨z.1, z.2.1, (hCL a z.1 u (Nat.lt_of_lt_of_le z.2.1 hn)).mp z.2.2⟩, fun z => ⟨z.1, z.2.1, (hCL a z.1 u (Nat.lt_of_lt_of_le z.2.1 hn)).mpr z.2.2⟩⟩
  have hE : ∀ a u, a < n → u < n → (cx_En T n a u ↔ cx_nx (T 3) (cx_Uc T) a u) := fun a u ha hu =>
    ⟨fun z => (cx_nxb hn ha hB (by omega)).mp z.1, fun z => ⟨(cx_nxb hn ha hB (by omega)).mpr z, hu⟩⟩
  refine ⟨fun a u h => ⟨h.1, h.2.1⟩, fun a u ha hu h => (hA a u).mpr ⟨ha, hu, cx_w3m ((hE a u ha hu).mpr h) n⟩, fun a b c h1 h2 => ?_, fun S h1 h2 a u h => ?_⟩
  · have h1 := (hA a b).mp h1
    have h2 := (hA b c).mp h2
    exact (hA a c).mpr ⟨h1.1, h2.2.1, cx_w3t h1.1 h1.2.1 h1.2.2 h2.2.2⟩
  · have := cx_w3min (n := n) (E := cx_En T n) (S := fun a u => a < n → S a u ∧ u < n) (fun a u hE' ha => ⟨h1 a u ha hE'.2 ((hE a u ha hE'.2).mp hE'), hE'.2⟩) (fun a b c x y ha => ⟨h2 _ _ _ (x ha).1 (y (x ha).2).1, (y (x ha).2).2⟩) n a u ((hA a u).mp h).2.2
    exact (this h.1).1
/-- nothing wrong from ob up, as far as call asks -/
def cx_GD (n k : Nat) (K R : Nat → Int32) (M : Nat → Nat → Int32) (U A : Nat → Nat → Prop) (ob : Nat) : Prop :=
  ∀ u, u < n → cx_is A ob u → ¬ A u u ∧ (∀ v, v < 20 → R u = nI v → v < n ∧ K u = 0 ∧ K v = 0) ∧ (∀ v, U u v → v < n ∧ K v = 1) ∧ ∀ x y, x < k → y < k → cx_ow M x = u → cx_ow M y = u → cx_lk M x y → x = y
theorem cx_GDw {n k : Nat} {K X P R : Nat → Int32} {M : Nat → Nat → Int32} {U W V A : Nat → Nat → Prop} {ob : Nat} (hO : cx_R (M 0) 20) (h : ¬ cx_WR n k K X P R M U W V A ob) : cx_GD n k K R M U A ob := by
  intro u hu hi
  have hf : ¬ cx_AF n k K X P R M U W V A u := fun z => h (Or.inr (Or.inr ⟨u, hu, hi, z⟩))
  have hF : ¬ cx_FF n K R U V A u := fun z => hf (Or.inl z)
  have hM : ∀ x y, x < k → y < x → cx_ow M x = u → cx_ow M y = u → ¬ cx_lk M y x := fun x y hx hy ex ey hl => hf (Or.inr (Or.inr (Or.inl ⟨x, hx, ex, Or.inl ⟨y, hy, by rw [(hO y).1, (hO x).1]; exact congrArg nI (ey.trans ex.symm), hl⟩⟩)))
  refine ⟨fun z => hF (Or.inr (Or.inl z)), fun v hv e => ?_, fun v hv => ?_, fun x y hx hy ex ey hl => ?_⟩
  · have hvn : v < n := Classical.byContradiction (fun z => hF (Or.inl ⟨v, z, Or.inl ⟨hv, e⟩⟩))
    exact ⟨hvn, Classical.byContradiction (fun z => hF (Or.inr (Or.inr (Or.inl ⟨v, hv, e, Or.inl z⟩)))), Classical.byContradiction (fun z => hF (Or.inr (Or.inr (Or.inl ⟨v, hv, e, Or.inr ⟨hvn, z⟩⟩))))⟩
  · have hvn : v < n := Classical.byContradiction (fun z => hF (Or.inl ⟨v, z, Or.inr (Or.inl hv)⟩))
    exact ⟨hvn, Classical.byContradiction (fun z => hF (Or.inr (Or.inr (Or.inr ⟨v, hvn, hv, z⟩))))⟩
  · rcases Nat.lt_trichotomy x y with z | z | z
    · exact absurd hl (hM y x hy z ey ex)
    · exact z
    · exact absurd ⟨hl.1.symm, hl.2.symm⟩ (hM x y hx z ex ey)
/-- the chain of PARENTS -/
def cx_cf (R : Nat → Int32) (ob : Nat) : Nat → Nat
  | 0 => ob
  | j + 1 => (R (cx_cf R ob j)).toNatClampNeg
def cx_vl (n : Nat) (R : Nat → Int32) (ob L : Nat) : Prop := ∀ j, j < L → cx_cf R ob j < n ∧ (j + 1 < L → R (cx_cf R ob j) = nI (cx_cf R ob (j + 1)))
def cx_up (n : Nat) (R : Nat → Int32) : Nat → Int32 → Int32 → Prop
  | 0, _, _ => False
  | f + 1, a, tp => (0 ≤ a ∧ a < nI n) ∧ (a = tp ∨ cx_up n R f (R a.toNatClampNeg) tp)
theorem cx_pig : ∀ (n m : Nat) (f : Nat → Nat), (∀ i, i < m → f i < n) → (∀ i j, i < m → j < m → f i = f j → i = j) → m ≤ n := by
  intro n
  induction n with
  | zero =>
    intro m f h1 h2
    rcases Nat.eq_zero_or_pos m with e | e
    · omega
    · exact absurd (h1 0 e) (by omega)
  | succ n ih =>
    intro m f h1 h2
    rcases Nat.eq_zero_or_pos m with e | e
    · omega
    by_cases hx : ∃ i, i < m ∧ f i = n
    · obtain ⟨i, hi, ei⟩ := hx
      have := ih (m - 1) (fun j => if j = i then f (m - 1) else f j) (fun j hj => by
        by_cases e1 : j = i
        · simp only [if_pos e1]
          have a1 := h1 (m - 1) (by omega)
          by_cases e2 : f (m - 1) = n
          · have := h2 (m - 1) i (by omega) hi (e2.trans ei.symm)
            omega
          · omega
        · simp only [if_neg e1]
          have a1 := h1 j (by omega)
          by_cases e2 : f j = n
          · exact absurd (h2 j i (by omega) hi (e2.trans ei.symm)) e1
          · omega) (fun a b ha hb e3 => by
        by_cases ea : a = i <;> by_cases eb : b = i
        · omega
        · simp only [if_pos ea, if_neg eb] at e3
          have := h2 _ _ (by omega) (by omega) e3
          omega
        · simp only [if_neg ea, if_pos eb] at e3
          have := h2 _ _ (by omega) (by omega) e3
          omega
        · simp only [if_neg ea, if_neg eb] at e3
          exact h2 _ _ (by omega) (by omega) e3)
      omega
    · have := ih m f (fun j hj => by
        have a1 := h1 j hj
        by_cases e2 : f j = n
        · exact absurd ⟨j, hj, e2⟩ hx
        · omega) h2
      omega
section CH
variable {n k : Nat} {K P R : Nat → Int32} {M : Nat → Nat → Int32} {U A : Nat → Nat → Prop} {ob : Nat}
theorem cx_vl.le {L L' : Nat} (h : cx_vl n R ob L) (hl : L' ≤ L) : cx_vl n R ob L' := fun j hj => ⟨(h j (by omega)).1, fun z => (h j (by omega)).2 (by omega)⟩
theorem cx_isT (hA : cx_AX n R U A) {a b c : Nat} (h1 : cx_is A a b) (h2 : cx_is A b c) : cx_is A a c := by
  rcases h1 with rfl | h1
  · exact h2
  · rcases h2 with rfl | h2
    · exact Or.inr h1
    · exact Or.inr (hA.2.2.1 _ _ _ h1 h2)
theorem cx_chA (hA : cx_AX n R U A) (hn : n ≤ 20) {L : Nat} (hv : cx_vl n R ob L) {p q : Nat} (hpq : p < q) (hq : q < L) : A (cx_cf R ob p) (cx_cf R ob q) := by
  induction q with
  | zero => exact absurd hpq (by omega)
  | succ q ih =>
    have h1 : A (cx_cf R ob q) (cx_cf R ob (q + 1)) := hA.2.1 _ _ (hv q (by omega)).1 (hv (q + 1) hq).1 (Or.inl ⟨by have := (hv (q + 1) hq).1; omega, (hv q (by omega)).2 hq⟩)
    by_cases e : p = q
    · subst e; exact h1
    · exact hA.2.2.1 _ _ _ (ih (by omega) (by omega)) h1
theorem cx_chI (hA : cx_AX n R U A) (hn : n ≤ 20) {L : Nat} (hv : cx_vl n R ob L) {p : Nat} (hp : p < L) : cx_is A ob (cx_cf R ob p) := by
  rcases Nat.eq_zero_or_pos p with e | e
  · subst e; exact Or.inl rfl
  · exact Or.inr (cx_chA (p := 0) hA hn hv e hp)
theorem cx_chD (hA : cx_AX n R U A) (hn : n ≤ 20) (hG : cx_GD n k K R M U A ob) {L : Nat} (hv : cx_vl n R ob L) {p q : Nat} (hp : p < L) (hq : q < L) (e : cx_cf R ob p = cx_cf R ob q) : p = q := by
  have key : ∀ p q, p < q → q < L → ¬ cx_cf R ob p = cx_cf R ob q := by
    intro p q hpq hq e
    have h1 := cx_chA hA hn hv hpq hq
    rw [e] at h1
    exact (hG _ (hv q hq).1 (cx_chI hA hn hv hq)).1 h1
  rcases Nat.lt_trichotomy p q with z | z | z
  · exact absurd e (key p q z hq)
  · exact z
  · exact absurd e.symm (key q p z hp)
theorem cx_chL (hA : cx_AX n R U A) (hn : n ≤ 20) (hG : cx_GD n k K R M U A ob) {L : Nat} (hv : cx_vl n R ob L) : L ≤ n :=
  cx_pig n L (cx_cf R ob) (fun i hi => (hv i hi).1) (fun _ _ hi hj e => cx_chD hA hn hG hv hi hj e)
/-- what is above a FACE is a FACE -/
theorem cx_fcA (hA : cx_AX n R U A) (hG : cx_GD n k K R M U A ob) : ∀ a u, A a u → cx_is A ob a → (cx_is A ob u ∧ (K a = 1 → K u = 1)) := by
  refine hA.2.2.2 (fun a u => cx_is A ob a → (cx_is A ob u ∧ (K a = 1 → K u = 1))) (fun a u ha hu h hi => ⟨cx_isT hA hi (Or.inr (hA.2.1 a u ha hu h)), fun hk => ?_⟩) (fun a b c x y hi => ⟨(y (x hi).1).1, fun z => (y (x hi).1).2 ((x hi).2 z)⟩)
  obtain ⟨-, g2, g3, -⟩ := hG a ha hi
  rcases h with ⟨hu2, e⟩ | h
  · have := (g2 u hu2 e).2.1
    rw [hk] at this
    exact absurd this (by decide)
  · exact (g3 u h).2
/-- what is above and no FACE is on the chain -/
theorem cx_onC (hA : cx_AX n R U A) (hn : n ≤ 20) (hG : cx_GD n k K R M U A ob) : ∀ a u, A a u → (A a u ∧ (cx_is A ob a → ¬ K u = 1 → ∀ j, cx_vl n R ob (j + 1) → cx_cf R ob j = a → ∃ j', j < j' ∧ cx_vl n R ob (j' + 1) ∧ cx_cf R ob j' = u)) := by
  refine hA.2.2.2 _ (fun a u ha hu h => ⟨hA.2.1 a u ha hu h, fun hi hk j hv ej => ?_⟩) (fun a b c x y => ⟨hA.2.2.1 _ _ _ x.1 y.1, fun hi hk j hv ej => ?_⟩)
  · obtain ⟨-, -, g3, -⟩ := hG a ha hi
    rcases h with ⟨hu2, e⟩ | h
    · have e1 : cx_cf R ob (j + 1) = u := by
        show (R (cx_cf R ob j)).toNatClampNeg = u
        rw [ej, e, nI_clamp (by omega)]
      refine ⟨j + 1, by omega, fun i hi2 => ?_, e1⟩
      by_cases ei : i = j + 1
      · subst ei; exact ⟨by rw [e1]; exact hu, fun z => absurd z (by omega)⟩
      · refine ⟨(hv i (by omega)).1, fun z => ?_⟩
        by_cases e2 : i = j
        · subst e2; rw [e1, ej]; exact e
        · exact (hv i (by omega)).2 (by omega)
    · exact absurd (g3 u h).2 hk
  · have hb := cx_fcA hA hG a b x.1 hi
    have hkb : ¬ K b = 1 := fun z => hk ((cx_fcA hA hG b c y.1 hb.1).2 z)
    obtain ⟨j1, l1, v1, e1⟩ := x.2 hi hkb j hv ej
    obtain ⟨j2, l2, v2, e2⟩ := y.2 hb.1 hk j1 v1 e1
    exact ⟨j2, by omega, v2, e2⟩
theorem cx_vl1 (ho : ob < n) : cx_vl n R ob 1 := fun j hj => by
  have : j = 0 := by omega
  subst this
  exact ⟨ho, fun z => absurd z (by omega)⟩
theorem cx_upv {tp : Int32} (hn : n ≤ 20) {j : Nat} (hv : cx_vl n R ob (j + 1)) (e : nI (cx_cf R ob j) = tp) : ∀ i, i ≤ j → ∀ f, j < i + f → cx_up n R f (nI (cx_cf R ob i)) tp := by
  have key : ∀ d i, i + d = j → ∀ f, j < i + f → cx_up n R f (nI (cx_cf R ob i)) tp := by
    intro d
    induction d with
    | zero =>
      intro i hi f hf
      have : i = j := by omega
      subst this
      cases f with
      | zero => exact absurd hf (by omega)
      | succ f => exact ⟨cx_in0 hn (hv i (by omega)).1, Or.inl e⟩
    | succ d ih =>
      intro i hi f hf
      cases f with
      | zero => exact absurd hf (by omega)
      | succ f =>
        have h1 := hv i (by omega)
        refine ⟨cx_in0 hn h1.1, Or.inr ?_⟩
        rw [nI_clamp (by omega), h1.2 (by omega)]
        exact ih (i + 1) (by omega) f (by omega)
  exact fun i hi => key (j - i) i (by omega)
/-- the chain meets each TYPE above that is no FACE, within twenty steps -/
theorem cx_met (hA : cx_AX n R U A) (hn : n ≤ 20) (hG : cx_GD n k K R M U A ob) (ho : ob < n) {v : Nat} (hi : cx_is A ob v) (hk : ¬ K v = 1) : cx_up n R 20 (nI ob) (nI v) := by
  have h : ∃ j, cx_vl n R ob (j + 1) ∧ cx_cf R ob j = v := by
    rcases hi with e | h
    · exact ⟨0, cx_vl1 ho, e⟩
    · obtain ⟨j, -, h1, h2⟩ := (cx_onC hA hn hG ob v h).2 (Or.inl rfl) hk 0 (cx_vl1 ho) rfl
      exact ⟨j, h1, h2⟩
  obtain ⟨j, hv, e⟩ := h
  have hL := cx_chL hA hn hG hv
  exact cx_upv hn hv (by rw [e]) 0 (by omega) 20 (by omega)
theorem cx_up_pt {f : Nat} {x y tp : Int32} (h : (x < nI n ∧ y = x) ∨ (¬ x < nI n ∧ y = -1)) (h1 : cx_up n R f x tp) : cx_up n R f y tp := by
  rcases h with ⟨-, rfl⟩ | ⟨h, rfl⟩
  · exact h1
  · cases f with
    | zero => exact h1
    | succ f => exact absurd h1.1.2 h
theorem cx_up_m1 {f : Nat} {tp : Int32} : ¬ cx_up n R f (-1) tp := by
  cases f with
  | zero => exact id
  | succ f => exact fun z => cx_m1no z.1
/-- one step of the chain -/
theorem cx_vlS {i : Nat} {y : Int32} (hn : n ≤ 20) (hP : cx_P R 20) (hv : cx_vl n R ob (i + 1)) (h : (R (cx_cf R ob i) < nI n ∧ y = R (cx_cf R ob i)) ∨ (¬ R (cx_cf R ob i) < nI n ∧ y = -1)) (hy : ¬ y = -1) : y = nI (cx_cf R ob (i + 1)) ∧ cx_vl n R ob (i + 2) := by
  rcases h with ⟨h, e⟩ | ⟨-, e⟩
  · have hx := (hP (cx_cf R ob i)).resolve_left (fun z => hy (e.trans z))
    have e1 : R (cx_cf R ob i) = nI (cx_cf R ob (i + 1)) := hx.1
    have hlt : cx_cf R ob (i + 1) < n := by
      rw [e1] at h
      exact (nI_ltI (by have := hx.2; show (R (cx_cf R ob i)).toNatClampNeg < _; omega) (by omega)).mp h
    refine ⟨e.trans e1, fun j hj => ?_⟩
    by_cases ej : j = i + 1
    · subst ej; exact ⟨hlt, fun z => absurd z (by omega)⟩
    · refine ⟨(hv j (by omega)).1, fun z => ?_⟩
      by_cases e2 : j = i
      · subst e2; exact e1
      · exact (hv j (by omega)).2 (by omega)
  · exact absurd e hy
/-- the search along the chain -/
theorem cx_one_ch {Q : Nat → Nat → Prop} {f : Nat} {r : Int32} (hn : n ≤ 20) : ∀ p, cx_vl n R ob (p + 1) → (∀ q, q < p → ∀ y, y < k → ¬ Q (cx_cf R ob q) y) → cx_one n k R Q f (nI (cx_cf R ob p)) r → cx_one n k R Q (f + p) (nI ob) r := by
  intro p
  induction p generalizing f with
  | zero => intro _ _ h; exact h
  | succ p ih =>
    intro hv hq h
    have h1 := hv p (by omega)
    have := ih (f := f + 1) (hv.le (by omega)) (fun q hq2 => hq q (by omega)) (cx_one_nxt (cx_in0 hn h1.1) (by rw [nI_clamp (by omega)]; exact hq p (by omega)) (by rw [nI_clamp (by omega), h1.2 (by omega)]; exact h))
    rw [show f + (p + 1) = f + 1 + p by omega]
    exact this
end CH
/-- who may take a place, and whose -/
def cx_mtk (K : Nat → Int32) (M : Nat → Nat → Int32) (m : Nat) : Prop := ¬ cx_mk (M 3) m (nI 4) ∧ ¬ M 4 m = 0 ∧ ¬ cx_fc K M m
def cx_tbB (K : Nat → Int32) (M : Nat → Nat → Int32) (A : Nat → Nat → Prop) (mm a b : Nat) : Prop := cx_lk M a mm ∧ cx_lk M b mm ∧ cx_mtk K M a ∧ cx_mtk K M b ∧ ¬ cx_ow M a = cx_ow M b ∧ A (cx_ow M a) (cx_ow M b)
def cx_tb (k : Nat) (K P : Nat → Int32) (M : Nat → Nat → Int32) (A : Nat → Nat → Prop) (mm a b : Nat) : Prop := b < k ∧ cx_tbB K M A mm a b ∧ ((¬ M 4 b = 1 ∧ ¬ M 4 b = 0) ∨ P (cx_ow M a) = P (cx_ow M b))
def cx_tk (k : Nat) (K P : Nat → Int32) (M : Nat → Nat → Int32) (A : Nat → Nat → Prop) (mm : Nat) : Nat → Nat → Prop := cx_w3 k (cx_tb k K P M A mm) k
def cx_tks (k : Nat) (K P : Nat → Int32) (M : Nat → Nat → Int32) (A : Nat → Nat → Prop) (mm x : Nat) : Prop := x = mm ∨ cx_tk k K P M A mm x mm
def cx_tq (k : Nat) (K P : Nat → Int32) (M : Nat → Nat → Int32) (A : Nat → Nat → Prop) (mm a x : Nat) : Prop := cx_ow M x = a ∧ cx_tks k K P M A mm x
def cx_ovr (M : Nat → Nat → Int32) (mm : Nat) (a : Int32) (j : Nat) : Prop := M 0 j = a ∧ cx_lk M j mm ∧ ¬ cx_mk (M 3) j (nI 4) ∧ ¬ M 4 j = 0
/-- the one meant, as call's last road has it -/
def cx_mo (n k : Nat) (K : Nat → Int32) (M : Nat → Nat → Int32) (A : Nat → Nat → Prop) (ob mm : Nat) : Prop := mm < k ∧ cx_mtk K M mm ∧ cx_is A ob (cx_ow M mm)
section TK
variable {n k : Nat} {K P R : Nat → Int32} {M : Nat → Nat → Int32} {U A : Nat → Nat → Prop} {ob mm : Nat}
theorem cx_tkp (hA : cx_AX n R U A) {x m : Nat} (h : cx_tk k K P M A mm x m) : cx_lk M x mm ∧ cx_lk M m mm ∧ cx_mtk K M x ∧ cx_mtk K M m ∧ A (cx_ow M x) (cx_ow M m) :=
  cx_w3min (S := fun x m => cx_lk M x mm ∧ cx_lk M m mm ∧ cx_mtk K M x ∧ cx_mtk K M m ∧ A (cx_ow M x) (cx_ow M m)) (fun _ _ z => ⟨z.2.1.1, z.2.1.2.1, z.2.1.2.2.1, z.2.1.2.2.2.1, z.2.1.2.2.2.2.2⟩) (fun _ _ _ x y => ⟨x.1, y.2.1, x.2.2.1, y.2.2.2.1, hA.2.2.1 _ _ _ x.2.2.2.2 y.2.2.2.2⟩) k x m h
theorem cx_tkd {x m : Nat} (h : cx_tk k K P M A mm x m) : ∃ y, y < k ∧ cx_tb k K P M A mm x y ∧ (y = m ∨ cx_tk k K P M A mm y m) := by
  have := cx_w3min (n := k) (E := cx_tb k K P M A mm) (S := fun x m => m < k ∧ ∃ y, y < k ∧ cx_tb k K P M A mm x y ∧ (y = m ∨ cx_tk k K P M A mm y m)) (fun a b z => ⟨z.1, b, z.1, z, Or.inl rfl⟩) (fun a b c x y => by
    obtain ⟨hb, x1, hx1, ex1, x2⟩ := x
    obtain ⟨hc, y1, hy1, ey1, y2⟩ := y
    have hbc : cx_tk k K P M A mm b c := by
      rcases y2 with rfl | y2
      · exact cx_w3m ey1 k
      · exact cx_w3t hb hy1 (cx_w3m ey1 k) y2
    refine ⟨hc, x1, hx1, ex1, Or.inr ?_⟩
    rcases x2 with rfl | x2
    · exact hbc
    · exact cx_w3t hx1 hb x2 hbc) k x m h
  exact this.2
theorem cx_tksp (hA : cx_AX n R U A) (hm : cx_mtk K M mm) {x : Nat} (h : cx_tks k K P M A mm x) : cx_lk M x mm ∧ cx_mtk K M x := by
  rcases h with rfl | h
  · exact ⟨⟨rfl, rfl⟩, hm⟩
  · have := cx_tkp hA h
    exact ⟨this.1, this.2.2.1⟩
/-- what inPlaceOf keeps: the takers of the chain from place q on, the nearest last -/
def cx_IV (k : Nat) (K P R : Nat → Int32) (M : Nat → Nat → Int32) (A : Nat → Nat → Prop) (mm ob L q fd : Nat) (tk : Nat → Int32) : Prop :=
  1 ≤ fd ∧ (∀ j, j < fd → ∃ x, tk j = nI x ∧ x < k ∧ cx_tks k K P M A mm x ∧ ∃ p, q ≤ p ∧ p < L ∧ cx_ow M x = cx_cf R ob p) ∧
  (∀ x, x < k → cx_tks k K P M A mm x → ∀ p, q ≤ p → p < L → cx_ow M x = cx_cf R ob p → ∃ j, j < fd ∧ tk j = nI x) ∧
  ∃ x, tk (fd - 1) = nI x ∧ x < k ∧ cx_tks k K P M A mm x ∧ ∃ p, q ≤ p ∧ p < L ∧ cx_ow M x = cx_cf R ob p ∧ ∀ y, y < k → cx_tks k K P M A mm y → ∀ p', q ≤ p' → p' < L → cx_ow M y = cx_cf R ob p' → p ≤ p'
/-- a taker stands below the one meant on the chain -/
theorem cx_tkL (hA : cx_AX n R U A) (hn : n ≤ 20) (hG : cx_GD n k K R M U A ob) (hm : cx_mo n k K M A ob mm) {L : Nat} (hL : 1 ≤ L) (hv : cx_vl n R ob L) (ht : cx_ow M mm = cx_cf R ob (L - 1)) {y : Nat} {q : Nat} (hq : q < L) (hy : cx_ow M y = cx_cf R ob q) (h : cx_tks k K P M A mm y) : y = mm ∨ q < L - 1 := by
  rcases h with e | h
  · exact Or.inl e
  · have h1 := (cx_tkp hA h).2.2.2.2
    rw [hy, ht] at h1
    by_cases e : q = L - 1
    · rw [e] at h1
      exact absurd h1 (hG _ (hv (L - 1) (by omega)).1 (cx_chI hA hn hv (by omega))).1
    · exact Or.inr (by omega)
theorem cx_IV0 (hA : cx_AX n R U A) (hn : n ≤ 20) (hG : cx_GD n k K R M U A ob) (hm : cx_mo n k K M A ob mm) {L : Nat} (hL : 1 ≤ L) (hv : cx_vl n R ob L) (ht : cx_ow M mm = cx_cf R ob (L - 1)) {tk : Nat → Int32} (h0 : tk 0 = nI mm) : cx_IV k K P R M A mm ob L (L - 1) 1 tk := by
  have only : ∀ x, x < k → cx_tks k K P M A mm x → ∀ p, L - 1 ≤ p → p < L → cx_ow M x = cx_cf R ob p → x = mm := fun x hx hs p h1 h2 e => (cx_tkL hA hn hG hm hL hv ht h2 e hs).resolve_right (by omega)
  refine ⟨Nat.le_refl 1, fun j hj => ?_, fun x hx hs p h1 h2 e => ⟨0, by omega, by rw [only x hx hs p h1 h2 e]; exact h0⟩, mm, h0, hm.1, Or.inl rfl, L - 1, Nat.le_refl _, by omega, ht, fun y hy hs p h1 h2 e => h1⟩
  have : j = 0 := by omega
  subst this
  exact ⟨mm, h0, hm.1, Or.inl rfl, L - 1, Nat.le_refl _, by omega, ht⟩
/-- nobody at place q takes the place -/
theorem cx_IVn {L q fd : Nat} {tk : Nat → Int32} (h : cx_IV k K P R M A mm ob L (q + 1) fd tk) (hno : ∀ y, y < k → cx_ow M y = cx_cf R ob q → ¬ cx_tks k K P M A mm y) : cx_IV k K P R M A mm ob L q fd tk := by
  have up : ∀ y, y < k → cx_tks k K P M A mm y → ∀ p, q ≤ p → p < L → cx_ow M y = cx_cf R ob p → q + 1 ≤ p := by
    intro y hy hs p h1 h2 e
    by_cases z : p = q
    · subst z; exact absurd hs (hno y hy e)
    · omega
  obtain ⟨h1, h2, h3, x, e, hx, hs, p, p1, p2, p3, p4⟩ := h
  refine ⟨h1, fun j hj => ?_, fun x hx hs p a b c => h3 x hx hs p (up x hx hs p a b c) b c, x, e, hx, hs, p, by omega, p2, p3, fun y hy hs p' a b c => p4 y hy hs p' (up y hy hs p' a b c) b c⟩
  obtain ⟨x, a, b, c, p, d1, d2, d3⟩ := h2 j hj
  exact ⟨x, a, b, c, p, by omega, d2, d3⟩
theorem cx_IVo (hA : cx_AX n R U A) (hn : n ≤ 20) (hG : cx_GD n k K R M U A ob) (hm : cx_mo n k K M A ob mm) {L : Nat} (hL : 1 ≤ L) (hv : cx_vl n R ob L) (ht : cx_ow M mm = cx_cf R ob (L - 1)) {q : Nat} (hq : q + 1 < L) {y : Nat} (hy : cx_ow M y = cx_cf R ob q) (h : cx_tks k K P M A mm y) : cx_tk k K P M A mm y mm ∧ cx_lk M y mm ∧ cx_mtk K M y := by
  rcases h with e | h
  · subst e
    exact absurd (cx_chD hA hn hG hv (p := q) (q := L - 1) (by omega) (by omega) (hy.symm.trans ht)) (by omega)
  · have := cx_tkp hA h
    exact ⟨h, this.1, this.2.2.1⟩
/-- no MEMBER there may take the place -/
theorem cx_IV1 (hA : cx_AX n R U A) (hn : n ≤ 20) (hO : cx_R (M 0) 20) (hG : cx_GD n k K R M U A ob) (hm : cx_mo n k K M A ob mm) {L : Nat} (hL : 1 ≤ L) (hv : cx_vl n R ob L) (ht : cx_ow M mm = cx_cf R ob (L - 1)) {q fd : Nat} {tk : Nat → Int32} (hq : q + 1 < L) (h : cx_IV k K P R M A mm ob L (q + 1) fd tk) {r : Int32} (hr : cx_Lst (cx_ovr M mm (nI (cx_cf R ob q))) k r) (e : r = -1) (hk : k ≤ 80) : cx_IV k K P R M A mm ob L q fd tk := by
  refine cx_IVn h (fun y hy ey hs => ?_)
  obtain ⟨-, h2, h3⟩ := cx_IVo hA hn hG hm hL hv ht hq ey hs
  rcases hr with ⟨-, hr⟩ | ⟨j, hj, -, -, e2⟩
  · exact hr y hy ⟨by rw [(hO y).1]; exact congrArg nI ey, h2, h3.1, h3.2.1⟩
  · exact absurd e (by rw [e2]; exact cx_ixm (cx_ixI (j := j) (B := 80) (by omega) (by decide)) (by decide))
/-- the one there takes no place -/
theorem cx_IV2 (hA : cx_AX n R U A) (hn : n ≤ 20) (hO : cx_R (M 0) 20) (hG : cx_GD n k K R M U A ob) (hm : cx_mo n k K M A ob mm) {L : Nat} (hL : 1 ≤ L) (hv : cx_vl n R ob L) (ht : cx_ow M mm = cx_cf R ob (L - 1)) {q fd : Nat} {tk : Nat → Int32} (hq : q + 1 < L) (h : cx_IV k K P R M A mm ob L (q + 1) fd tk) {r : Int32} (hr : cx_Lst (cx_ovr M mm (nI (cx_cf R ob q))) k r) (hk : k ≤ 80) (hs : ¬ ∃ i, i < fd ∧ cx_se P M (tk i).toNatClampNeg (cx_ow M r.toNatClampNeg)) (hne : ¬ r = -1) : cx_IV k K P R M A mm ob L q fd tk := by
  rcases hr with ⟨e, -⟩ | ⟨y0, hy0, ho, -, e⟩
  · exact absurd e hne
  have ey0 : cx_ow M y0 = cx_cf R ob q := by
    show (M 0 y0).toNatClampNeg = _
    rw [ho.1, nI_clamp (by have := (hv q (by omega)).1; omega)]
  refine cx_IVn h (fun y hy ey hs' => hs ?_)
  obtain ⟨h1, h2, h3⟩ := cx_IVo hA hn hG hm hL hv ht hq ey hs'
  have : y = y0 := (hG _ (hv q (by omega)).1 (cx_chI hA hn hv (by omega))).2.2.2 y y0 hy hy0 ey ey0 ⟨h2.1.trans ho.2.1.1.symm, h2.2.trans ho.2.1.2.symm⟩
  subst this
  obtain ⟨z, hz, hb, hz2⟩ := cx_tkd h1
  have hz2 : cx_tks k K P M A mm z := hz2
  have hzp := cx_tksp hA hm.2.1 hz2
  have hAz : A (cx_cf R ob q) (cx_ow M z) := by rw [← ey]; exact hb.2.1.2.2.2.2.2
  obtain ⟨p, hp, hvp, ep⟩ := (cx_onC hA hn hG _ _ hAz).2 (cx_chI hA hn hv (by omega)) hzp.2.2.2 q (hv.le (by omega)) rfl
  have hpL : p < L := by
    refine Classical.byContradiction (fun w => ?_)
    have hAt : A (cx_cf R ob (L - 1)) (cx_cf R ob p) := cx_chA hA hn hvp (by omega) (by omega)
    have hring : A (cx_cf R ob (L - 1)) (cx_cf R ob (L - 1)) := by
      rcases hz2 with rfl | hz2
      · rw [ep, ht] at hAt; exact hAt
      · have := (cx_tkp hA hz2).2.2.2.2
        rw [ht, ← ep] at this
        exact hA.2.2.1 _ _ _ hAt this
    exact (hG _ (hv (L - 1) (by omega)).1 (cx_chI hA hn hv (by omega))).1 hring
  obtain ⟨j, hj, ej⟩ := h.2.2.1 z hz hz2 p (by omega) hpL ep.symm
  refine ⟨j, hj, ?_⟩
  rw [ej, e, nI_clamp (by omega), nI_clamp (by omega)]
  rcases hb.2.2 with w | w
  · exact Or.inr w
  · by_cases e1 : M 4 z = 1
    · exact Or.inl ⟨e1, w.symm⟩
    · exact Or.inr ⟨e1, hzp.2.2.1⟩
/-- the one there takes the place -/
theorem cx_IV3 (hA : cx_AX n R U A) (hn : n ≤ 20) (hO : cx_R (M 0) 20) (hG : cx_GD n k K R M U A ob) (hm : cx_mo n k K M A ob mm) {L : Nat} (hL : 1 ≤ L) (hv : cx_vl n R ob L) (ht : cx_ow M mm = cx_cf R ob (L - 1)) {q fd : Nat} {tk : Nat → Int32} (hq : q + 1 < L) (h : cx_IV k K P R M A mm ob L (q + 1) fd tk) {r : Int32} (hr : cx_Lst (cx_ovr M mm (nI (cx_cf R ob q))) k r) (hk : k ≤ 80) (hs : ∃ i, i < fd ∧ cx_se P M (tk i).toNatClampNeg (cx_ow M r.toNatClampNeg)) (hne : ¬ r = -1) : cx_IV k K P R M A mm ob L q (fd + 1) (upd tk fd r) := by
  rcases hr with ⟨e, -⟩ | ⟨y, hy, ho, -, e⟩
  · exact absurd e hne
  have ey : cx_ow M y = cx_cf R ob q := by
    show (M 0 y).toNatClampNeg = _
    rw [ho.1, nI_clamp (by have := (hv q (by omega)).1; omega)]
  have hKq : ¬ K (cx_cf R ob q) = 1 := by
    have g := (hG _ (hv q (by omega)).1 (cx_chI hA hn hv (by omega))).2.1 (cx_cf R ob (q + 1)) (by have := (hv (q + 1) hq).1; omega) ((hv q (by omega)).2 hq)
    rw [g.2.1]
    decide
  have hym : cx_mtk K M y := ⟨ho.2.2.1, ho.2.2.2, by rw [cx_fc, ey]; exact hKq⟩
  obtain ⟨h1, h2, h3, h4⟩ := h
  obtain ⟨i, hi, hse⟩ := hs
  obtain ⟨x, ex, hx, hsx, p, p1, p2, p3⟩ := h2 i hi
  have hxp := cx_tksp hA hm.2.1 hsx
  rw [ex, e, nI_clamp (by omega), nI_clamp (by omega)] at hse
  have hB : cx_tb k K P M A mm y x := by
    refine ⟨hx, ⟨ho.2.1, hxp.1, hym, hxp.2, fun z => ?_, ?_⟩, ?_⟩
    · rw [ey, p3] at z
      have := cx_chD hA hn hG hv (p := q) (q := p) (by omega) p2 z
      omega
    · rw [ey, p3]
      exact cx_chA hA hn hv (by omega) p2
    · rcases hse with w | w
      · exact Or.inr w.2.symm
      · exact Or.inl w
  have hT : cx_tks k K P M A mm y := by
    rcases hsx with e2 | hsx
    · rw [e2] at hB
      exact Or.inr (cx_w3m hB k)
    · exact Or.inr (cx_w3t hy hx (cx_w3m hB k) hsx)
  subst e
  refine ⟨by omega, fun j hj => ?_, fun x hx hs p a b c => ?_, y, ?_, hy, hT, q, Nat.le_refl q, by omega, ey, fun _ _ _ p' a _ _ => a⟩
  · by_cases ej : j = fd
    · subst ej; rw [cx_updS]; exact ⟨y, rfl, hy, hT, q, Nat.le_refl q, by omega, ey⟩
    · rw [cx_updN ej]
      obtain ⟨x, a, b, c, p, d1, d2, d3⟩ := h2 j (by omega)
      exact ⟨x, a, b, c, p, by omega, d2, d3⟩
  · by_cases ep : p = q
    · subst ep
      have hx2 := cx_IVo hA hn hG hm hL hv ht hq c hs
      have : x = y := (hG _ (hv p (by omega)).1 (cx_chI hA hn hv (by omega))).2.2.2 x y hx hy c ey ⟨hx2.2.1.1.trans ho.2.1.1.symm, hx2.2.1.2.trans ho.2.1.2.symm⟩
      subst this
      exact ⟨fd, by omega, cx_updS⟩
    · obtain ⟨j, hj, z⟩ := h3 x hx hs p (by omega) b c
      exact ⟨j, by omega, by rw [cx_updN (by omega)]; exact z⟩
  · show upd tk fd (nI y) (fd + 1 - 1) = nI y
    rw [show fd + 1 - 1 = fd by omega]
    exact cx_updS
/-- what is left at the end is what the search from the object finds -/
theorem cx_IVe (hA : cx_AX n R U A) (hn : n ≤ 20) (hk : k ≤ 80) (hG : cx_GD n k K R M U A ob) (hm : cx_mo n k K M A ob mm) {L : Nat} (hL : L ≤ 20) (hv : cx_vl n R ob L) {fd : Nat} {tk : Nat → Int32} (h : cx_IV k K P R M A mm ob L 0 fd tk) : cx_one n k R (cx_tq k K P M A mm) 20 (nI ob) (tk (fd - 1)) := by
  obtain ⟨-, -, -, x, e, hx, hs, p, -, p2, p3, p4⟩ := h
  rw [e]
  have hc := (hv p p2).1
  have h1 : cx_one n k R (cx_tq k K P M A mm) ((19 - p) + 1) (nI (cx_cf R ob p)) (nI x) := by
    refine cx_one_hit (cx_in0 hn hc) hx hk ?_ ?_
    · rw [nI_clamp (by omega)]; exact ⟨p3, hs⟩
    · rw [nI_clamp (by omega)]
      rintro j hj ⟨ej, hsj⟩
      have a1 := cx_tksp hA hm.2.1 hs
      have a2 := cx_tksp hA hm.2.1 hsj
      have := (hG _ hc (cx_chI hA hn hv p2)).2.2.2 j x (by omega) hx ej p3 ⟨a2.1.1.trans a1.1.1.symm, a2.1.2.trans a1.1.2.symm⟩
      omega
  have h2 := cx_one_ch hn p (hv.le (by omega)) (fun q hq y hy z => absurd (p4 y hy z.2 q (by omega) (by omega) z.1) (by omega)) h1
  rw [show (19 - p) + 1 + p = 20 by omega] at h2
  exact h2
end TK
