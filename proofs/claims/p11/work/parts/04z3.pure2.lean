/-! The reference against the same reading -/
def cx_EE (f : Nat → Int32) : Prop := ∃ i, i < 1600 ∧ ¬ f i = 0
theorem cx_mkE {f : Nat → Int32} {i : Nat} {v wr : Int32} (hi : i < 1600) (hb : (v = 0 ∨ v = 1) ∧ (¬ v = 0 ↔ ¬ f i = 0 ∨ ¬ wr = 0)) : cx_EE (upd f i (vp_nar .boolean v)) ↔ cx_EE f ∨ ¬ wr = 0 := by
  have ev : vp_nar .boolean v = v := by
    rcases hb.1 with rfl | rfl
    · exact cx_n0b
    · exact cx_n1b
  rw [ev]
  constructor
  · rintro ⟨j, hj, h⟩
    by_cases e : j = i
    · subst e; rw [cx_updS] at h; exact (hb.2.mp h).imp (fun z => ⟨j, hj, z⟩) id
    · rw [cx_updN e] at h; exact Or.inl ⟨j, hj, h⟩
  · rintro (⟨j, hj, h⟩ | h)
    · by_cases e : j = i
      · subst e; exact ⟨j, hj, by rw [cx_updS]; exact hb.2.mpr (Or.inl h)⟩
      · exact ⟨j, hj, by rw [cx_updN e]; exact h⟩
    · exact ⟨i, hi, by rw [cx_updS]; exact hb.2.mpr (Or.inr h)⟩
theorem cx_E0 {f : Nat → Int32} {i : Nat} (h : ∀ j, j < i → f j = 0) (hi : 1600 ≤ i) : ¬ cx_EE f := fun ⟨j, hj, z⟩ => z (h j (by omega))
theorem cx_ac {a : Int32} (h : cx_ix a 4) : ((1 < a ↔ ¬ a = 1 ∧ ¬ a = 0) ∧ (a ≤ 0 ↔ a = 0)) ∧ ((1 ≤ a ∧ a ≤ nI 2) ↔ (a = 1 ∨ a = nI 2)) := by
  have z := (by decide +kernel : ∀ i, i < 4 → ((1 < nI i ↔ ¬ nI i = 1 ∧ ¬ nI i = 0) ∧ (nI i ≤ 0 ↔ nI i = 0)) ∧ ((1 ≤ nI i ∧ nI i ≤ nI 2) ↔ (nI i = 1 ∨ nI i = nI 2))) a.toNatClampNeg h.2
  rw [← h.1] at z
  exact z
theorem cx_kd {a : Int32} (h : cx_ix a 4) : (nI 2 ≤ a ↔ ¬ (a = 0 ∨ a = 1)) ∧ (a < nI 2 ↔ (a = 0 ∨ a = 1)) := by
  have z := (by decide +kernel : ∀ i, i < 4 → (nI 2 ≤ nI i ↔ ¬ (nI i = 0 ∨ nI i = 1)) ∧ (nI i < nI 2 ↔ (nI i = 0 ∨ nI i = 1))) a.toNatClampNeg h.2
  rw [← h.1] at z
  exact z
section RF
variable {n k t : Nat} {T M : Nat → Nat → Int32}
def cx_ffp (n : Nat) (T : Nat → Nat → Int32) (t : Nat) : Prop := ∃ u, u < 20 ∧ T 3 t = nI u ∧ (¬ u < n ∨ ¬ T 0 t = 0 ∨ (u < n ∧ ¬ T 0 u = 0))
def cx_ffu (n : Nat) (T : Nat → Nat → Int32) (t j : Nat) : Prop := ¬ (T 4 (3 * t + j)).toNatClampNeg < n ∨ ((T 4 (3 * t + j)).toNatClampNeg < n ∧ ¬ T 0 ((T 4 (3 * t + j)).toNatClampNeg) = 1)
theorem cx_ffa {f : Nat → Int32} {i : Nat} (h : T 3 t < 0) (hz : ∀ j, j < i → f j = 0) (hi : 1600 ≤ i) : cx_EE f ↔ cx_ffp n T t := by
  refine ⟨fun z => absurd z (cx_E0 hz hi), fun ⟨u, hu, e, _⟩ => ?_⟩
  have h0 := nI_pos' (n := u) (by omega)
  rw [← e] at h0
  exact absurd h (Int32.not_lt.mpr h0)
theorem cx_ffb {f f1 f2 : Nat → Int32} {i : Nat} {v w : Int32} (hn : n ≤ 20) (hx : cx_ix (T 3 t) 20) (hz : ∀ j, j < i → f j = 0) (hi : 1600 ≤ i) (h1 : cx_EE f1 ↔ cx_EE f ∨ ¬ v = 0) (h2 : cx_EE f2 ↔ cx_EE f1 ∨ ¬ w = 0) (hv : ¬ v = 0 ↔ ¬ T 3 t < nI n) (hw : ¬ w = 0 ↔ (¬ T 0 t = 0 ∨ (T 3 t < nI n ∧ ¬ T 0 ((T 3 t).toNatClampNeg) = 0))) : cx_EE f2 ↔ cx_ffp n T t := by
  have hlt : T 3 t < nI n ↔ (T 3 t).toNatClampNeg < n := by
    have h2 := hx.2
    have e := nI_ltI (a := (T 3 t).toNatClampNeg) (b := n) (by omega) (by omega)
    rw [← hx.1] at e
    exact e
  rw [h2, h1, hv, hw, hlt]
  constructor
  · rintro ((z | z) | z)
    · exact absurd z (cx_E0 hz hi)
    · exact ⟨_, hx.2, hx.1, Or.inl z⟩
    · exact ⟨_, hx.2, hx.1, Or.inr z⟩
  · rintro ⟨u, hu, e, z⟩
    have e2 : (T 3 t).toNatClampNeg = u := by rw [e, nI_clamp (by omega)]
    rw [e2]
    exact z.elim (fun y => Or.inl (Or.inr y)) Or.inr
theorem cx_ffE {z : Int32} {E1 E2 : Prop} (hn : n ≤ 20) (ht : t < n) (hU : cx_R (T 4) 20) (hQ : cx_R (T 6) 20) (h : E1 ↔ (cx_ffp n T t ∨ ∃ j, j < (T 5 t).toNatClampNeg ∧ cx_ffu n T t j) ∨ ∃ j, j < (T 7 t).toNatClampNeg ∧ ¬ (T 6 (3 * t + j)).toNatClampNeg < n) (h2 : E2 ↔ E1 ∨ ¬ z = 0) (hz : ¬ z = 0 ↔ cx_w3 n (cx_Er T n) n t t) : E2 ↔ cx_FF n (T 0) (T 3) (cx_Ur T) (cx_Vr T) (cx_Ar T n) t := by
  rw [h2, h, hz]
  constructor
  · rintro ((((⟨u, hu, e, z⟩ | ⟨j, hj, z⟩) | ⟨j, hj, z⟩) | z))
    · rcases z with z | z | z
      · exact Or.inl ⟨u, z, Or.inl ⟨hu, e⟩⟩
      · exact Or.inr (Or.inr (Or.inl ⟨u, hu, e, Or.inl z⟩))
      · exact Or.inr (Or.inr (Or.inl ⟨u, hu, e, Or.inr z⟩))
    · have hx := hU (3 * t + j)
      have hr : ∀ u, (T 4 (3 * t + j)).toNatClampNeg = u → cx_Ur T t u := fun u e => ⟨by omega, by have := hx.2; omega, j, hj, by rw [← e]; exact hx.1⟩
      rcases z with z | z
      · exact Or.inl ⟨_, z, Or.inr (Or.inl (hr _ rfl))⟩
      · exact Or.inr (Or.inr (Or.inr ⟨_, z.1, hr _ rfl, z.2⟩))
    · have hx := hQ (3 * t + j)
      exact Or.inl ⟨_, z, Or.inr (Or.inr ⟨by omega, hx.2, j, hj, hx.1⟩)⟩
    · exact Or.inr (Or.inl ⟨ht, ht, z⟩)
  · rintro (⟨u, hu, ⟨a, b⟩ | ⟨a, b, j, hj, e⟩ | ⟨a, b, j, hj, e⟩⟩ | z | ⟨u, hu, e, z⟩ | ⟨u, hu, ⟨a, b, j, hj, e⟩, z⟩)
    · exact Or.inl (Or.inl (Or.inl ⟨u, a, b, Or.inl hu⟩))
    · refine Or.inl (Or.inl (Or.inr ⟨j, hj, Or.inl ?_⟩))
      rw [e, nI_clamp (by omega)]
      exact hu
    · refine Or.inl (Or.inr ⟨j, hj, ?_⟩)
      rw [e, nI_clamp (by omega)]
      exact hu
    · exact Or.inr z.2.2
    · exact Or.inl (Or.inl (Or.inl ⟨u, hu, e, Or.inr z⟩))
    · refine Or.inl (Or.inl (Or.inr ⟨j, hj, Or.inr ?_⟩))
      rw [e, nI_clamp (by omega)]
      exact ⟨hu, z⟩
/-- faults 4 to 8 as the reference goes through them -/
def cx_rS (n : Nat) (T : Nat → Nat → Int32) (t : Nat) (x : Int32) : Prop := (0 ≤ x ∧ x < nI n) ∧ cx_mk (T 1) x.toNatClampNeg (nI 4) ∧ (cx_pl (T 0 t) (T 1 t) ∨ ¬ ∃ j, j < (T 7 x.toNatClampNeg).toNatClampNeg ∧ T 6 (3 * x.toNatClampNeg + j) = nI t)
def cx_rs (n : Nat) (T : Nat → Nat → Int32) (x : Int32) : Prop := (0 ≤ x ∧ x < nI n) ∧ cx_mk (T 1) x.toNatClampNeg (nI 4)
def cx_rW (n : Nat) (T : Nat → Nat → Int32) (t j : Nat) : Prop := ∃ i, i < j ∧ ((0 ≤ T 4 (3 * t + j) ∧ T 4 (3 * t + j) < nI n) ∧ T 4 (3 * t + i) = T 4 (3 * t + j))
def cx_rU (T : Nat → Nat → Int32) (a : Nat) (x : Int32) : Prop := T 3 a = x ∨ ∃ j, j < (T 5 a).toNatClampNeg ∧ T 4 (3 * a + j) = x
def cx_rP (n : Nat) (T : Nat → Nat → Int32) (t j : Nat) : Prop := (0 ≤ T 6 (3 * t + j) ∧ T 6 (3 * t + j) < nI n) ∧ ¬ cx_rU T (T 6 (3 * t + j)).toNatClampNeg (nI t)
def cx_rT (n : Nat) (T : Nat → Nat → Int32) (t : Nat) : Prop :=
  ((0 ≤ T 3 t ∧ T 3 t < nI n) ∧ cx_mk (T 1) (T 3 t).toNatClampNeg (nI 2)) ∨ cx_f5 (T 0 t) (T 1 t) ∨ cx_rS n T t (T 3 t) ∨ (∃ j, j < (T 5 t).toNatClampNeg ∧ (cx_rS n T t (T 4 (3 * t + j)) ∨ cx_rW n T t j)) ∨
  (cx_mk (T 1) t (nI 8) ∧ ¬ (cx_rs n T (T 3 t) ∨ ∃ j, j < (T 5 t).toNatClampNeg ∧ cx_rs n T (T 4 (3 * t + j)))) ∨ ¬ (0 < (T 7 t).toNatClampNeg ↔ cx_mk (T 1) t (nI 4)) ∨ ∃ j, j < (T 7 t).toNatClampNeg ∧ cx_rP n T t j
theorem cx_inx {x : Int32} {u : Nat} (hu : u < n) (hn : n ≤ 20) (e : x = nI u) : (0 ≤ x ∧ x < nI n) ∧ x.toNatClampNeg = u := by
  subst e
  exact ⟨cx_in0 hn hu, nI_clamp (by omega)⟩
theorem cx_rUn {a u : Nat} (hn : n ≤ 20) (ha : a < n) (hu : u < n) : cx_rU T a (nI u) ↔ cx_nx (T 3) (cx_Ur T) a u :=
  ⟨fun z => z.imp (fun y => ⟨by omega, y⟩) (fun y => ⟨by omega, by omega, y⟩), fun z => z.imp (fun y => y.2) (fun y => y.2.2)⟩
theorem cx_rex {Q : Nat → Prop} (hn : n ≤ 20) (ht : t < n) : ((((0 ≤ T 3 t ∧ T 3 t < nI n) ∧ Q (T 3 t).toNatClampNeg) ∨ ∃ j, j < (T 5 t).toNatClampNeg ∧ ((0 ≤ T 4 (3 * t + j) ∧ T 4 (3 * t + j) < nI n) ∧ Q (T 4 (3 * t + j)).toNatClampNeg)) ↔ ∃ u, u < n ∧ cx_nx (T 3) (cx_Ur T) t u ∧ Q u) := by
  constructor
  · rintro (⟨h, q⟩ | ⟨j, hj, h, q⟩)
    · have hx := cx_ixT (by omega) h
      exact ⟨_, hx.2, Or.inl ⟨by have := hx.2; omega, hx.1⟩, q⟩
    · have hx := cx_ixT (by omega) h
      exact ⟨_, hx.2, Or.inr ⟨by omega, by have := hx.2; omega, j, hj, hx.1⟩, q⟩
  · rintro ⟨u, hu, ⟨-, e⟩ | ⟨-, -, j, hj, e⟩, q⟩
    · obtain ⟨a, b⟩ := cx_inx hu hn e
      exact Or.inl ⟨a, by rw [b]; exact q⟩
    · obtain ⟨a, b⟩ := cx_inx hu hn e
      exact Or.inr ⟨j, hj, a, by rw [b]; exact q⟩
theorem cx_rTE (hn : n ≤ 20) (ht : t < n) (hQ : cx_R (T 6) 20) : (cx_FF n (T 0) (T 3) (cx_Ur T) (cx_Vr T) (cx_Ar T n) t ∨ cx_rT n T t) ↔ (cx_FF n (T 0) (T 3) (cx_Ur T) (cx_Vr T) (cx_Ar T n) t ∨ cx_TF n (T 0) (T 1) (T 3) (cx_Ur T) (cx_Wr T) (cx_Vr T) t) := by
  have hV : ∀ u, u < n → ((∃ j, j < (T 7 u).toNatClampNeg ∧ T 6 (3 * u + j) = nI t) ↔ cx_Vr T u t) := fun u hu => ⟨fun z => ⟨by omega, by omega, z⟩, fun z => z.2.2⟩
  have h4 : ((0 ≤ T 3 t ∧ T 3 t < nI n) ∧ cx_mk (T 1) (T 3 t).toNatClampNeg (nI 2)) ↔ cx_F4 n (T 1) (T 3) t := by
    constructor
    · rintro ⟨h, q⟩
      have hx := cx_ixT (by omega) h
      exact ⟨_, hx.2, hx.1, q⟩
    · rintro ⟨u, hu, e, q⟩
      obtain ⟨a, b⟩ := cx_inx hu hn e
      exact ⟨a, by rw [b]; exact q⟩
  have h6a : (cx_rS n T t (T 3 t) ∨ ∃ j, j < (T 5 t).toNatClampNeg ∧ cx_rS n T t (T 4 (3 * t + j))) ↔ cx_F6a n (T 0) (T 1) (T 3) (cx_Ur T) (cx_Vr T) t := by
    refine (cx_rex (Q := fun u => cx_mk (T 1) u (nI 4) ∧ (cx_pl (T 0 t) (T 1 t) ∨ ¬ ∃ j, j < (T 7 u).toNatClampNeg ∧ T 6 (3 * u + j) = nI t)) hn ht).trans ?_
    constructor
    · rintro ⟨u, hu, a, b, c⟩
      exact ⟨u, hu, a, b, c.imp id (fun z y => z ((hV u hu).mpr y))⟩
    · rintro ⟨u, hu, a, b, c⟩
      exact ⟨u, hu, a, b, c.imp id (fun z y => z ((hV u hu).mp y))⟩
  have h6s : (cx_rs n T (T 3 t) ∨ ∃ j, j < (T 5 t).toNatClampNeg ∧ cx_rs n T (T 4 (3 * t + j))) ↔ ∃ u, u < n ∧ cx_nx (T 3) (cx_Ur T) t u ∧ cx_mk (T 1) u (nI 4) := cx_rex (Q := fun u => cx_mk (T 1) u (nI 4)) hn ht
  have h8 : (∃ j, j < (T 5 t).toNatClampNeg ∧ cx_rW n T t j) ↔ cx_F8 n (cx_Wr T) t := by
    constructor
    · rintro ⟨j, hj, i, hi, h, e⟩
      have hx := cx_ixT (by omega) h
      exact ⟨_, hx.2, by omega, by have := hx.2; omega, i, j, hi, hj, e.trans hx.1, hx.1⟩
    · rintro ⟨u, hu, -, -, i, j, hi, hj, e1, e2⟩
      exact ⟨j, hj, i, hi, (cx_inx hu hn e2).1, e1.trans e2.symm⟩
  have h7b : (∃ j, j < (T 7 t).toNatClampNeg ∧ cx_rP n T t j) ↔ cx_F7b n (T 3) (cx_Ur T) (cx_Vr T) t := by
    constructor
    · rintro ⟨j, hj, h, q⟩
      have hx := cx_ixT (by omega) h
      exact ⟨_, hx.2, ⟨by omega, by have := hx.2; omega, j, hj, hx.1⟩, fun z => q ((cx_rUn hn hx.2 ht).mpr z)⟩
    · rintro ⟨u, hu, ⟨-, -, j, hj, e⟩, q⟩
      obtain ⟨a, b⟩ := cx_inx hu hn e
      refine ⟨j, hj, a, ?_⟩
      rw [b]
      exact fun z => q ((cx_rUn hn hu ht).mp z)
  have h7a : (∃ u, ¬ u < n ∧ cx_Vr T t u) ∨ (0 < (T 7 t).toNatClampNeg ↔ ∃ u, u < n ∧ cx_Vr T t u) := by
    by_cases e : 0 < (T 7 t).toNatClampNeg
    · have hx := hQ (3 * t + 0)
      have hv : cx_Vr T t (T 6 (3 * t + 0)).toNatClampNeg := ⟨by omega, hx.2, 0, e, hx.1⟩
      by_cases e2 : (T 6 (3 * t + 0)).toNatClampNeg < n
      · exact Or.inr ⟨fun _ => ⟨_, e2, hv⟩, fun _ => e⟩
      · exact Or.inl ⟨_, e2, hv⟩
    · exact Or.inr ⟨fun z => absurd z e, fun ⟨u, _, _, _, j, hj, _⟩ => absurd hj (by omega)⟩
  have hex : (∃ j, j < (T 5 t).toNatClampNeg ∧ (cx_rS n T t (T 4 (3 * t + j)) ∨ cx_rW n T t j)) ↔ (∃ j, j < (T 5 t).toNatClampNeg ∧ cx_rS n T t (T 4 (3 * t + j))) ∨ ∃ j, j < (T 5 t).toNatClampNeg ∧ cx_rW n T t j :=
    ⟨fun ⟨j, hj, z⟩ => z.imp (fun y => ⟨j, hj, y⟩) (fun y => ⟨j, hj, y⟩), fun z => z.elim (fun ⟨j, hj, y⟩ => ⟨j, hj, Or.inl y⟩) (fun ⟨j, hj, y⟩ => ⟨j, hj, Or.inr y⟩)⟩
  have hms : (∃ u, ¬ u < n ∧ cx_Vr T t u) → cx_FF n (T 0) (T 3) (cx_Ur T) (cx_Vr T) (cx_Ar T n) t := fun ⟨u, a, b⟩ => Or.inl ⟨u, a, Or.inr (Or.inr b)⟩
  unfold cx_rT cx_TF cx_F6b cx_F7a
  rw [h4, hex, h8, h6s, h7b, ← h6a]
  rcases h7a with z | z
  · have := hms z
    exact ⟨fun _ => Or.inl this, fun _ => Or.inl this⟩
  · rw [z]
    generalize cx_FF n (T 0) (T 3) (cx_Ur T) (cx_Vr T) (cx_Ar T n) t = a1, cx_F4 n (T 1) (T 3) t = a2, cx_f5 (T 0 t) (T 1 t) = a3, cx_rS n T t (T 3 t) = a4, (∃ j, j < (T 5 t).toNatClampNeg ∧ cx_rS n T t (T 4 (3 * t + j))) = a5, cx_F8 n (cx_Wr T) t = a6, (∃ u, u < n ∧ cx_nx (T 3) (cx_Ur T) t u ∧ cx_mk (T 1) u (nI 4)) = a7, (∃ u, u < n ∧ cx_Vr T t u) = a8, cx_F7b n (T 3) (cx_Ur T) (cx_Vr T) t = a9, cx_mk (T 1) t (nI 8) = c1, cx_mk (T 1) t (nI 4) = c2
    grind
end RF
