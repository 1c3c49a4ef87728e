theorem cx_goX {A Q : Prop} (h : ¬ Q) : A ↔ A ∨ Q := ⟨Or.inl, fun z => z.elim id (fun y => absurd y h)⟩
theorem cx_mny {P Q R : Prop} {a b c : Int32} (h1 : (P ∧ a = 1) ∨ (¬ P ∧ a = 0)) (h2 : (Q ∧ b = 1) ∨ (¬ Q ∧ b = 0)) (h3 : (R ∧ c = 1) ∨ (¬ R ∧ c = 0)) : (1 < (a + b) + c) ↔ ((P ∧ Q) ∨ (P ∧ R) ∨ (Q ∧ R)) := by
  rcases h1 with ⟨p, rfl⟩ | ⟨p, rfl⟩ <;> rcases h2 with ⟨q, rfl⟩ | ⟨q, rfl⟩ <;> rcases h3 with ⟨r, rfl⟩ | ⟨r, rfl⟩ <;> simp only [p, q, r, true_and, false_and, and_false, and_true, or_self, or_false, false_or, or_true, true_or, iff_true, iff_false] <;> decide
theorem cx_mn1 {x a v1 v2 v3 v4 : Int32} (h1 : (¬ (x &&& 1) = 0 ∧ v1 = 1) ∨ (¬ ¬ (x &&& 1) = 0 ∧ v1 = 0)) (h2 : (¬ (x &&& nI 8) = 0 ∧ v2 = 1) ∨ (¬ ¬ (x &&& nI 8) = 0 ∧ v2 = 0)) (h3 : (¬ (x &&& nI 4) = 0 ∧ v3 = 1) ∨ (¬ ¬ (x &&& nI 4) = 0 ∧ v3 = 0)) (h4 : (a = 0 ∧ v4 = 1) ∨ (¬ a = 0 ∧ v4 = 0)) : (((v1 + v2) + v3) + v4 = 1) ↔ cx_ones x a := by
  unfold cx_ones
  generalize (x &&& 1 = 0) = P1, (x &&& nI 8 = 0) = P2, (x &&& nI 4 = 0) = P3, (a = 0) = P4 at *
  rcases h1 with ⟨p, rfl⟩ | ⟨p, rfl⟩ <;> rcases h2 with ⟨q, rfl⟩ | ⟨q, rfl⟩ <;> rcases h3 with ⟨r, rfl⟩ | ⟨r, rfl⟩ <;> rcases h4 with ⟨s, rfl⟩ | ⟨s, rfl⟩ <;> (try rw [Classical.not_not] at p) <;> (try rw [Classical.not_not] at q) <;> (try rw [Classical.not_not] at r) <;> simp only [p, q, r, s, true_and, false_and, and_false, and_true, or_self, or_false, false_or, or_true, true_or, iff_true, iff_false, not_true_eq_false, not_false_eq_true] <;> decide
theorem cx_10 {r : Int32} (h : cx_ix r 30) : r ≤ nI 9 ↔ ¬ 0 ≤ r - nI 10 := by
  have z := (by decide +kernel : ∀ i, i < 30 → (nI i ≤ nI 9 ↔ ¬ 0 ≤ nI i - nI 10)) r.toNatClampNeg h.2
  rw [← h.1] at z
  exact z
theorem cx_alS {P : Nat → Prop} {i : Nat} : (∀ g, g < i + 1 → ¬ P g) ↔ (∀ g, g < i → ¬ P g) ∧ ¬ P i :=
  ⟨fun h => ⟨fun g hg => h g (by omega), h i (by omega)⟩, fun h => cx_allS h.1 h.2⟩
section RG
variable {n k t : Nat} {K X P R : Nat → Int32} {T M : Nat → Nat → Int32} {A : Nat → Nat → Prop} {nm pm : Int32}
theorem cx_rTf {E0 E1 E2 E3 E4 : Prop} {v w : Int32} (h1 : E1 ↔ ((((E0 ∨ ((0 ≤ T 3 t ∧ T 3 t < nI n) ∧ cx_mk (T 1) (T 3 t).toNatClampNeg (nI 2))) ∨ cx_f5 (T 0 t) (T 1 t)) ∨ cx_rS n T t (T 3 t))) ∨ ∃ j, j < (T 5 t).toNatClampNeg ∧ (cx_rS n T t (T 4 (3 * t + j)) ∨ cx_rW n T t j)) (h2 : E2 ↔ E1 ∨ ¬ v = 0) (hv : ¬ v = 0 ↔ cx_mk (T 1) t (nI 8) ∧ ¬ (cx_rs n T (T 3 t) ∨ ∃ j, j < (T 5 t).toNatClampNeg ∧ cx_rs n T (T 4 (3 * t + j)))) (h3 : E3 ↔ E2 ∨ ¬ w = 0) (hw : ¬ w = 0 ↔ ¬ (0 < (T 7 t).toNatClampNeg ↔ cx_mk (T 1) t (nI 4))) (h4 : E4 ↔ E3 ∨ ∃ j, j < (T 7 t).toNatClampNeg ∧ cx_rP n T t j) : E4 ↔ E0 ∨ cx_rT n T t := by
  rw [h4, h3, hw, h2, hv, h1]
  unfold cx_rT
  generalize ((0 ≤ T 3 t ∧ T 3 t < nI n) ∧ cx_mk (T 1) (T 3 t).toNatClampNeg (nI 2)) = a1, cx_f5 (T 0 t) (T 1 t) = a2, cx_rS n T t (T 3 t) = a3, (∃ j, j < (T 5 t).toNatClampNeg ∧ (cx_rS n T t (T 4 (3 * t + j)) ∨ cx_rW n T t j)) = a4, (cx_mk (T 1) t (nI 8) ∧ ¬ (cx_rs n T (T 3 t) ∨ ∃ j, j < (T 5 t).toNatClampNeg ∧ cx_rs n T (T 4 (3 * t + j)))) = a5, (¬ (0 < (T 7 t).toNatClampNeg ↔ cx_mk (T 1) t (nI 4))) = a6, (∃ j, j < (T 7 t).toNatClampNeg ∧ cx_rP n T t j) = a7
  grind
theorem cx_mfS {E0 E1 E2 : Prop} {i : Nat} {r : Int32} (hO : cx_R (M 0) 20) (hi : cx_ow M i = t) (h1 : E1 ↔ E0 ∨ ∃ j, j < i ∧ (cx_ow M j = t ∧ cx_lk M i j)) (h2 : E2 ↔ E1 ∨ ¬ r = 0) (hr : ¬ r = 0 ↔ cx_wm K X M i) : E2 ↔ E0 ∨ (cx_ow M i = t ∧ (cx_dbl M i ∨ cx_wm K X M i)) := by
  have hd : (∃ j, j < i ∧ (cx_ow M j = t ∧ cx_lk M i j)) ↔ cx_dbl M i := by
    constructor
    · rintro ⟨j, hj, a, b⟩
      exact ⟨j, hj, by rw [(hO j).1, (hO i).1]; exact congrArg nI (a.trans hi.symm), b.1.symm, b.2.symm⟩
    · rintro ⟨j, hj, a, b⟩
      exact ⟨j, hj, by rw [← hi]; show (M 0 j).toNatClampNeg = (M 0 i).toNatClampNeg; rw [a], b.1.symm, b.2.symm⟩
  rw [h2, h1, hr, hd]
  exact ⟨fun z => z.elim (fun y => y.imp id (fun x => ⟨hi, Or.inl x⟩)) (fun y => Or.inr ⟨hi, Or.inr y⟩), fun z => z.elim (fun y => Or.inl (Or.inl y)) (fun y => y.2.elim (fun x => Or.inl (Or.inr x)) Or.inr)⟩
theorem cx_ovR1 {E0 E1 E2 : Prop} {i j0 : Nat} (hq : E1 ↔ E0 ∨ ∃ j, j < i ∧ (cx_ow M j = t ∧ ¬ M 4 j = 0 ∧ cx_ov n k K P M A t j)) (h2 : E2 ↔ E1 ∨ ∃ j, j < j0 ∧ (cx_lk M j i ∧ cx_sh K P M A j t ∧ cx_ov1 n M A i j)) (hs : 0 < j0 → cx_ow M i = t ∧ ¬ M 4 i = 0) (h3 : k ≤ j0) (h4 : j0 ≤ k) (h5 : i < k) : E2 ↔ E0 ∨ ∃ j, j < i + 1 ∧ (cx_ow M j = t ∧ ¬ M 4 j = 0 ∧ cx_ov n k K P M A t j) := by
  have e : j0 = k := by omega
  subst e
  have hs := hs (by omega)
  refine cx_goS (Q := fun j => cx_ow M j = t ∧ ¬ M 4 j = 0 ∧ cx_ov n j0 K P M A t j) hq ?_
  rw [h2]
  exact ⟨fun z => z.imp id (fun y => ⟨hs.1, hs.2, y⟩), fun z => z.imp id (fun y => y.2.2)⟩
theorem cx_ovR2 {E0 E1 E2 : Prop} {i j0 : Nat} (hq : E1 ↔ E0 ∨ ∃ j, j < i ∧ (cx_ow M j = t ∧ ¬ M 4 j = 0 ∧ cx_ov n k K P M A t j)) (h2 : E2 ↔ E1 ∨ ∃ j, j < j0 ∧ (cx_lk M j i ∧ cx_sh K P M A j t ∧ cx_ov1 n M A i j)) (hs : 0 < j0 → cx_ow M i = t ∧ ¬ M 4 i = 0) (hn : ¬ (cx_ow M i = t ∧ ¬ M 4 i = 0)) : E2 ↔ E0 ∨ ∃ j, j < i + 1 ∧ (cx_ow M j = t ∧ ¬ M 4 j = 0 ∧ cx_ov n k K P M A t j) := by
  have e : j0 = 0 := by
    rcases Nat.eq_zero_or_pos j0 with z | z
    · exact z
    · exact absurd (hs z) hn
  subst e
  have h3 : E2 ↔ E1 := h2.trans ⟨fun z => z.elim id (fun y => absurd y cx_ex0), Or.inl⟩
  exact cx_goN (Q := fun j => cx_ow M j = t ∧ ¬ M 4 j = 0 ∧ cx_ov n k K P M A t j) (h3.trans hq) (fun z => hn ⟨z.1, z.2.1⟩)
/-- what the reference asks of a member of a face -/
def cx_oF (M : Nat → Nat → Int32) (fc nm pm : Int32) (j : Nat) : Prop := M 0 j = fc ∧ cx_nmd M j nm pm ∧ ¬ cx_mk (M 3) j (nI 4) ∧ ¬ M 4 j = 0
theorem cx_Lex {Q : Nat → Prop} {r : Int32} (h : cx_Lst Q k r) (hn : ¬ r < 0) : ∃ j, j < k ∧ Q j := by
  rcases h with ⟨e, -⟩ | ⟨j, hj, hq, -, -⟩
  · exact absurd (by rw [e]; decide) hn
  · exact ⟨j, hj, hq⟩
theorem cx_Lno {Q : Nat → Prop} {r : Int32} (hk : k ≤ 80) (h : cx_Lst Q k r) (hn : r < 0) : ¬ ∃ j, j < k ∧ Q j := by
  rcases h with ⟨-, h⟩ | ⟨j, hj, -, -, e⟩
  · exact fun ⟨j, hj, hq⟩ => h j hj hq
  · have h0 := nI_pos' (n := j) (by omega)
    rw [← e] at h0
    exact absurd hn (Int32.not_lt.mpr h0)
theorem cx_Lix {Q : Nat → Prop} {r : Int32} (hk : k ≤ 80) (h : cx_Lst Q k r) (he : ∃ j, j < k ∧ Q j) : cx_ix r 80 := by
  rcases h with ⟨-, h⟩ | ⟨j, hj, -, -, e⟩
  · obtain ⟨j, hj, hq⟩ := he
    exact absurd hq (h j hj)
  · rw [e]
    exact cx_ixI (by omega) (by decide)
theorem cx_is9a {B : Nat → Prop} {Q : Prop} {v : Int32} {i : Nat} (b : (v = 0 ∨ v = 1) ∧ (¬ v = 0 ↔ Q ∧ ∀ g, g < i → ¬ B g)) (h : v = 0) (hi : i ≤ n) : ¬ v = 0 ↔ Q ∧ ∀ g, g < n → ¬ B g :=
  ⟨fun z => absurd h z, fun z => absurd h (b.2.mpr ⟨z.1, fun g hg => z.2 g (by omega)⟩)⟩
/-- the face ones of owners below i, where there is no ring -/
def cx_LR (F : Nat → Prop) (M : Nat → Nat → Int32) (f : Nat → Int32) (d i : Nat) (N : Prop) : Prop := N → (∀ j, j < d → ∃ m, f j = nI m ∧ m < 80 ∧ F m ∧ cx_ow M m < i) ∧ (∀ m, F m → cx_ow M m < i → ∃ j, j < d ∧ f j = nI m) ∧ ∀ a b, a < b → b < d → cx_ow M (f a).toNatClampNeg < cx_ow M (f b).toNatClampNeg
theorem cx_LR0 {F : Nat → Prop} {f : Nat → Int32} {N : Prop} : cx_LR F M f 0 0 N := fun _ => ⟨fun j hj => absurd hj (by omega), fun m _ hm => absurd hm (by omega), fun a b _ hb => absurd hb (by omega)⟩
theorem cx_oFg {f j : Nat} (hO : cx_R (M 0) 20) (hf : f < 20) : (K f = 1 ∧ cx_is A t f ∧ cx_oF M (nI f) nm pm j) ↔ (cx_gv K M A t nm pm j ∧ cx_ow M j = f) := by
  constructor
  · rintro ⟨h1, h2, h3, h4, h5, h6⟩
    have e : cx_ow M j = f := by
      show (M 0 j).toNatClampNeg = f
      rw [h3, nI_clamp (by omega)]
    exact ⟨⟨h4, by rw [cx_fc, e]; exact h1, by rw [e]; exact h2, h5, h6⟩, e⟩
  · rintro ⟨⟨h4, h1, h2, h5, h6⟩, e⟩
    subst e
    exact ⟨h1, h2, (hO j).1, h4, h5, h6⟩
theorem cx_LRn {f : Nat → Int32} {d i : Nat} (hn : n ≤ 20) (hOn : ∀ j, j < k → (M 0 j).toNatClampNeg < n) (hO : cx_R (M 0) 20) (hi : i < n) (h : cx_LR (cx_fo k K M A t nm pm) M f d i (∀ u, u < n → cx_is A t u → ¬ A u u))
    (hp : ¬ ((K i = 1 ∧ cx_is A t i ∧ ∃ j, j < k ∧ cx_oF M (nI i) nm pm j) ∧ ∀ g, g < n → ¬ (¬ g = i ∧ K g = 1 ∧ cx_is A t g ∧ A g i ∧ ∃ j, j < k ∧ cx_oF M (nI g) nm pm j))) : cx_LR (cx_fo k K M A t nm pm) M f d (i + 1) (∀ u, u < n → cx_is A t u → ¬ A u u) := by
  intro hN
  obtain ⟨h1, h2, h3⟩ := h hN
  refine ⟨fun j hj => ?_, fun m hm ho => ?_, h3⟩
  · obtain ⟨m, a, b, c, e⟩ := h1 j hj
    exact ⟨m, a, b, c, by omega⟩
  · by_cases e : cx_ow M m = i
    · refine absurd ⟨?_, fun g hg z => ?_⟩ hp
      · have := (cx_oFg (K := K) (A := A) (t := t) (nm := nm) (pm := pm) hO (by omega)).mpr ⟨hm.2.1, e⟩
        exact ⟨this.1, this.2.1, m, hm.1, this.2.2⟩
      · obtain ⟨_, z1, z2, z3, j, hj, z4⟩ := z
        have := (cx_oFg (K := K) (A := A) (t := t) (nm := nm) (pm := pm) hO (by omega)).mp ⟨z1, z2, z4⟩
        exact hm.2.2.2 j hj this.1 (by rw [this.2, e]; exact z3)
    · exact h2 m hm (by omega)
theorem cx_LRy {f : Nat → Int32} {d i : Nat} {r : Int32} (hn : n ≤ 20) (hk : k ≤ 80) (hOn : ∀ j, j < k → (M 0 j).toNatClampNeg < n) (hO : cx_R (M 0) 20) (hi : i < n) (h : cx_LR (cx_fo k K M A t nm pm) M f d i (∀ u, u < n → cx_is A t u → ¬ A u u))
    (hp : (K i = 1 ∧ cx_is A t i ∧ ∃ j, j < k ∧ cx_oF M (nI i) nm pm j) ∧ ∀ g, g < n → ¬ (¬ g = i ∧ K g = 1 ∧ cx_is A t g ∧ A g i ∧ ∃ j, j < k ∧ cx_oF M (nI g) nm pm j)) (hL : cx_Lst (cx_oF M (nI i) nm pm) k r) : cx_LR (cx_fo k K M A t nm pm) M (upd f d r) (d + 1) (i + 1) (∀ u, u < n → cx_is A t u → ¬ A u u) := by
  intro hN
  obtain ⟨h1, h2, h3⟩ := h hN
  obtain ⟨⟨p1, p2, p3⟩, p4⟩ := hp
  have hg : ∀ g j, g < 20 → ((K g = 1 ∧ cx_is A t g ∧ cx_oF M (nI g) nm pm j) ↔ (cx_gv K M A t nm pm j ∧ cx_ow M j = g)) := fun g j hg => cx_oFg hO hg
  rcases hL with ⟨-, hL⟩ | ⟨m, hm, hq, hl, e⟩
  · obtain ⟨j, hj, z⟩ := p3
    exact absurd z (hL j hj)
  have gm := (hg i m (by omega)).mp ⟨p1, p2, hq⟩
  have hF : cx_fo k K M A t nm pm m := by
    refine ⟨hm, gm.1, fun j hj gj z => hl j hj ((hg i j (by omega)).mpr ⟨gj, z.trans gm.2⟩).2.2, fun j hj gj z => ?_⟩
    rw [gm.2] at z
    by_cases e2 : cx_ow M j = i
    · rw [e2] at z
      exact hN i hi p2 z
    · have := (hg (cx_ow M j) j (by have := (hO j).2; exact this)).mpr ⟨gj, rfl⟩
      exact p4 (cx_ow M j) (hOn j hj) ⟨e2, this.1, this.2.1, z, j, hj, this.2.2⟩
  have hu : ∀ m', cx_fo k K M A t nm pm m' → cx_ow M m' = i → m' = m := by
    intro m' hf' e'
    rcases Nat.lt_trichotomy m' m with z | z | z
    · exact absurd ((hg i m' (by omega)).mpr ⟨hf'.2.1, e'⟩).2.2 (hl m' z)
    · exact z
    · exact absurd (gm.2.trans e'.symm) (hf'.2.2.1 m z gm.1)
  subst e
  refine ⟨fun j hj => ?_, fun m' hf' ho => ?_, fun a b hab hb => ?_⟩
  · by_cases e : j = d
    · subst e; rw [cx_updS]; exact ⟨m, rfl, by omega, hF, by rw [gm.2]; omega⟩
    · rw [cx_updN e]
      obtain ⟨m', a, b, c, e⟩ := h1 j (by omega)
      exact ⟨m', a, b, c, by omega⟩
  · by_cases e : cx_ow M m' = i
    · rw [hu m' hf' e]
      exact ⟨d, by omega, cx_updS⟩
    · obtain ⟨j, hj, z⟩ := h2 m' hf' (by omega)
      exact ⟨j, by omega, by rw [cx_updN (by omega)]; exact z⟩
  · by_cases e : b = d
    · subst e
      rw [cx_updS, cx_updN (by omega), nI_clamp (by omega), gm.2]
      obtain ⟨m', a', b', -, c'⟩ := h1 a (by omega)
      rw [a', nI_clamp (by omega)]
      exact c'
    · rw [cx_updN e, cx_updN (by omega)]
      exact h3 a b hab (by omega)
theorem cx_LRe {f : Nat → Int32} {d i : Nat} {N : Prop} (hk : k ≤ 80) (hOn : ∀ j, j < k → (M 0 j).toNatClampNeg < n) (h1 : n ≤ i) (h : cx_LR (cx_fo k K M A t nm pm) M f d i N) (hN : N) : cx_LI (cx_fo k K M A t nm pm) f d := by
  obtain ⟨a1, a2, a3⟩ := h hN
  refine ⟨fun j hj => ?_, fun m hm => ⟨by have := hm.1; omega, a2 m hm (Nat.lt_of_lt_of_le (hOn m hm.1) h1)⟩, fun a b ha hb e => ?_⟩
  · obtain ⟨m, x, y, z, -⟩ := a1 j hj
    exact ⟨m, x, y, z⟩
  · rcases Nat.lt_trichotomy a b with z | z | z
    · have := a3 a b z hb
      rw [e] at this
      exact absurd this (by omega)
    · exact z
    · have := a3 b a z ha
      rw [e] at this
      exact absurd this (by omega)
theorem cx_lf1 {f : Nat → Int32} {i : Nat} (hx : cx_ix (f i) 80) (hm : cx_mk (M 3) (f i).toNatClampNeg 1) : ¬ f i = -1 ↔ ∃ j, j < i + 1 ∧ cx_mk (M 3) (f j).toNatClampNeg 1 := ⟨fun _ => ⟨i, by omega, hm⟩, fun _ => cx_ixm hx (by decide)⟩
theorem cx_lf2 {f : Nat → Int32} {i : Nat} {v : Int32} (h : ¬ v = -1 ↔ ∃ j, j < i ∧ cx_mk (M 3) (f j).toNatClampNeg 1) (h2 : ¬ cx_mk (M 3) (f i).toNatClampNeg 1 ∨ ¬ v = -1) : ¬ v = -1 ↔ ∃ j, j < i + 1 ∧ cx_mk (M 3) (f j).toNatClampNeg 1 := by
  rw [cx_exS (P := fun j => cx_mk (M 3) (f j).toNatClampNeg 1), h]
  refine ⟨Or.inl, fun z => z.elim id (fun y => ?_)⟩
  exact h.mp (h2.resolve_left (fun w => w y))
theorem cx_neg1 {v : Int32} {B : Nat} (hx : v = -1 ∨ cx_ix v B) (hB : B < 2 ^ 31) (h : v < 0) : v = -1 := by
  rcases hx with e | e
  · exact e
  · have h0 := nI_pos' (n := v.toNatClampNeg) (by have := e.2; omega)
    rw [← e.1] at h0
    exact absurd h (Int32.not_lt.mpr h0)
theorem cx_r16a {F : Nat → Prop} {r : Int32} (hx : r = -1 ∨ cx_ix r 80) (h : ¬ r < 0) (g : cx_mk (M 3) r.toNatClampNeg 1) : ¬ r = -1 ↔ cx_g16 M F r := ⟨fun z => Or.inl ⟨z, g⟩, fun _ => cx_ixm (cx_pp hx h) (by decide)⟩
theorem cx_r16b {F : Nat → Prop} {r : Int32} (hx : r = -1 ∨ cx_ix r 80) (h : ¬ r < 0) (g : ¬ cx_mk (M 3) r.toNatClampNeg 1) : ¬ (-1 : Int32) = -1 ↔ cx_g16 M F r := ⟨fun z => absurd rfl z, fun z => z.elim (fun y => absurd y.2 g) (fun y => absurd y.1 (cx_ixm (cx_pp hx h) (by decide)))⟩
theorem cx_r16c {F : Nat → Prop} {f : Nat → Int32} {d : Nat} {r : Int32} (hx : r = -1 ∨ cx_ix r 80) (h : r < 0) (hL : cx_LI F f d) (g : ∃ j, j < d ∧ cx_mk (M 3) (f j).toNatClampNeg (nI 8)) : ¬ (-1 : Int32) = -1 ↔ cx_g16 M F r := ⟨fun z => absurd rfl z, fun z => z.elim (fun y => absurd (cx_neg1 hx (by decide) h) y.1) (fun y => absurd ((hL.ex (G := fun m => cx_mk (M 3) m (nI 8))).mp g) y.2.1)⟩
theorem cx_r16d {F : Nat → Prop} {f : Nat → Int32} {d : Nat} {r v : Int32} (hx : r = -1 ∨ cx_ix r 80) (h : r < 0) (hL : cx_LI F f d) (g : ¬ ∃ j, j < d ∧ cx_mk (M 3) (f j).toNatClampNeg (nI 8)) (hv : ¬ v = -1 ↔ ∃ j, j < d ∧ cx_mk (M 3) (f j).toNatClampNeg 1) : ¬ v = -1 ↔ cx_g16 M F r := by
  rw [hv, hL.ex (G := fun m => cx_mk (M 3) m 1)]
  rw [hL.ex (G := fun m => cx_mk (M 3) m (nI 8))] at g
  exact ⟨fun z => Or.inr ⟨cx_neg1 hx (by decide) h, g, z⟩, fun z => z.elim (fun y => absurd (cx_neg1 hx (by decide) h) y.1) (fun y => y.2.2)⟩
theorem cx_r16n {v : Int32} (hx : v = -1 ∨ cx_ix v 80) (h : v < 0) (hne : ¬ v = -1) : False := hne (cx_neg1 hx (by decide) h)
theorem cx_r16y {E P1 Q : Prop} (h1 : P1) (h2 : Q) : (E ∨ ¬ (1 : Int32) = 0) ↔ E ∨ (P1 ∧ Q) := ⟨fun _ => Or.inr ⟨h1, h2⟩, fun _ => Or.inr (by decide)⟩
theorem cx_r17a {r : Int32} (h : 0 ≤ r) (e : r = -1) : False := by rw [e] at h; exact absurd h (by decide)
theorem cx_r17 {E0 E1 : Prop} {r : Int32} (hc : cx_co n k K P R M A t nm pm r) (h : E1 ↔ E0 ∨ (cx_must K X t ∧ cx_g16 M (cx_fo k K M A t nm pm) r)) (h2 : ¬ cx_g17 M (cx_fo k K M A t nm pm) r) : E1 ↔ E0 ∨ cx_gn n k K X P R M A t nm pm := by
  rw [h, cx_gn1 hc]
  exact ⟨fun z => z.imp id Or.inl, fun z => z.imp id (fun y => y.elim id (fun x => absurd x h2))⟩
theorem cx_r17y {E0 E1 E2 : Prop} {f : Nat → Int32} {d : Nat} {r : Int32} (hc : cx_co n k K P R M A t nm pm r ∧ (r = -1 ∨ cx_ix r 80)) (h : E1 ↔ E0 ∨ (cx_must K X t ∧ cx_g16 M (cx_fo k K M A t nm pm) r)) (h2 : E2 ↔ E1 ∨ ¬ (1 : Int32) = 0) (hr : ¬ 0 ≤ r) (hL : cx_LI (cx_fo k K M A t nm pm) f d) (hd : 1 < d) (g : ∃ j, j < d ∧ cx_mk (M 3) (f j).toNatClampNeg (nI 8)) : E2 ↔ E0 ∨ cx_gn n k K X P R M A t nm pm := by
  rw [h2, cx_gn1 hc.1]
  exact ⟨fun _ => Or.inr (Or.inr ⟨cx_neg1 hc.2 (by decide) (Int32.not_le.mp hr), hL.two.mp hd, (hL.ex (G := fun m => cx_mk (M 3) m (nI 8))).mp g⟩), fun _ => Or.inr (by decide)⟩
theorem cx_gvR {E0 E1 : Prop} (h1 : cx_R (M 1) 10) (h2 : cx_R (M 2) 5) (h : E1 ↔ E0 ∨ ∃ a, a < 10 ∧ ∃ b, b < 5 ∧ cx_gn n k K X P R M A t (nI a) (nI b)) : E1 ↔ E0 ∨ cx_GV n k K X P R M A t := by
  rw [h]
  constructor
  · exact fun z => z.imp id (fun ⟨a, _, b, _, y⟩ => ⟨_, _, y⟩)
  · refine fun z => z.imp id (fun ⟨nm, pm, y⟩ => ?_)
    obtain ⟨m, hm, e1, e2⟩ := cx_gn2 y
    subst e1 e2
    refine ⟨_, (h1 m).2, _, (h2 m).2, ?_⟩
    rw [← (h1 m).1, ← (h2 m).1]
    exact y
theorem cx_al9 {B : Nat → Prop} {v : Int32} {i : Nat} (b : (v = 0 ∨ v = 1) ∧ (¬ v = 0 ↔ ∀ g, g < i → ¬ B g)) (h : v = 0) (hi : i ≤ n) : (v = 0 ∨ v = 1) ∧ (¬ v = 0 ↔ ∀ g, g < n → ¬ B g) :=
  ⟨b.1, fun z => absurd h z, fun z => absurd h (b.2.mpr (fun g hg => z g (by omega)))⟩
end RG
section RH
variable {n k t : Nat} {K X P R : Nat → Int32} {T M : Nat → Nat → Int32} {U V W A : Nat → Nat → Prop} {nm pm : Int32}
theorem cx_skE (ht : t < n) : cx_SK n K R U V A t ↔ (cx_FF n K R U V A t ∨ ¬ ∀ u, u < n → ¬ (¬ u = t ∧ A t u ∧ cx_FF n K R U V A u)) := by
  constructor
  · rintro ⟨u, hu, h | h, hf⟩
    · subst h; exact Or.inl hf
    · by_cases e : u = t
      · subst e; exact Or.inl hf
      · exact Or.inr (fun z => z u hu ⟨e, h, hf⟩)
  · rintro (h | h)
    · exact ⟨t, ht, Or.inl rfl, h⟩
    · refine Classical.byContradiction (fun z => h (fun u hu y => z ⟨u, hu, Or.inr y.2.1, y.2.2⟩))
theorem cx_aS {E1 E2 E3 : Prop} (hn : n ≤ 20) (ht : t < n) (hQ : cx_R (T 6) 20) (h1 : E1 ↔ cx_FF n (T 0) (T 3) (cx_Ur T) (cx_Vr T) (cx_Ar T n) t) (h2 : E2 ↔ E1 ∨ cx_rT n T t) (h3 : E3 ↔ E2 ∨ cx_MF k (T 0) (T 1) M t) (hs : cx_SK n (T 0) (T 3) (cx_Ur T) (cx_Vr T) (cx_Ar T n) t) : E3 ↔ cx_AF n k (T 0) (T 1) (T 2) (T 3) M (cx_Ur T) (cx_Wr T) (cx_Vr T) (cx_Ar T n) t :=
  cx_kpS (by rw [h2, h1]; exact cx_rTE hn ht hQ) h3 hs
theorem cx_aN {E1 E2 E3 E4 E5 : Prop} (hn : n ≤ 20) (ht : t < n) (hQ : cx_R (T 6) 20) (h1 : E1 ↔ cx_FF n (T 0) (T 3) (cx_Ur T) (cx_Vr T) (cx_Ar T n) t) (h2 : E2 ↔ E1 ∨ cx_rT n T t) (h3 : E3 ↔ E2 ∨ cx_MF k (T 0) (T 1) M t) (hs : ¬ cx_SK n (T 0) (T 3) (cx_Ur T) (cx_Vr T) (cx_Ar T n) t) (h4 : E4 ↔ E3 ∨ cx_OV n k (T 0) (T 2) M (cx_Ar T n) t) (h5 : E5 ↔ E4 ∨ cx_GV n k (T 0) (T 1) (T 2) (T 3) M (cx_Ar T n) t) : E5 ↔ cx_AF n k (T 0) (T 1) (T 2) (T 3) M (cx_Ur T) (cx_Wr T) (cx_Vr T) (cx_Ar T n) t :=
  cx_kpN (by rw [h2, h1]; exact cx_rTE hn ht hQ) h3 hs h4 h5
theorem cx_nr (h : ¬ cx_SK n K R U V A t) : ∀ u, u < n → cx_is A t u → ¬ A u u := fun u hu hi hA => h ⟨u, hu, hi, Or.inr (Or.inl hA)⟩
theorem cx_nrW (h : ¬ cx_WR n k K X P R M U W V A t) : ∀ u, u < n → cx_is A t u → ¬ A u u := fun u hu hi hA => h (Or.inr (Or.inr ⟨u, hu, hi, Or.inl (Or.inr (Or.inl hA))⟩))
theorem cx_wr9 {v : Int32} {i : Nat} (b : (v = 0 ∨ v = 1) ∧ (¬ v = 0 ↔ K t = 1 ∨ cx_mk X t 1 ∨ ∃ u, u < i ∧ (cx_is A t u ∧ cx_AF n k K X P R M U W V A u))) (h : ¬ v = 0) (hi : i ≤ n) : (v = 0 ∨ v = 1) ∧ (¬ v = 0 ↔ cx_WR n k K X P R M U W V A t) :=
  ⟨b.1, fun z => (b.2.mp z).imp id (fun y => y.imp id (fun ⟨u, hu, x⟩ => ⟨u, by omega, x⟩)), fun _ => h⟩
theorem cx_rr1 {r : Int32} (hc : cx_co n k K P R M A t nm pm r ∧ (r = -1 ∨ cx_ix r 80)) (h : ¬ r < 0) (g : cx_mk (M 3) r.toNatClampNeg 1) : ∃ r0 : Int32, cx_rn n k K P R M A t nm pm r0 ∧ ((r0 = -1 ∧ (-3 : Int32) = (-3 : Int32)) ∨ (¬ r0 = -1 ∧ (-3 : Int32) = r0)) :=
  ⟨-1, ⟨r, hc.1, Or.inl ⟨cx_ixm (cx_pp hc.2 h) (by decide), Or.inl ⟨g, rfl⟩⟩⟩, Or.inl ⟨rfl, rfl⟩⟩
theorem cx_rr2 {r : Int32} (hc : cx_co n k K P R M A t nm pm r ∧ (r = -1 ∨ cx_ix r 80)) (h : ¬ r < 0) (g : ¬ cx_mk (M 3) r.toNatClampNeg 1) : ∃ r0 : Int32, cx_rn n k K P R M A t nm pm r0 ∧ ((r0 = -1 ∧ r = (-3 : Int32)) ∨ (¬ r0 = -1 ∧ r = r0)) :=
  ⟨r, ⟨r, hc.1, Or.inl ⟨cx_ixm (cx_pp hc.2 h) (by decide), Or.inr ⟨g, rfl⟩⟩⟩, Or.inr ⟨cx_ixm (cx_pp hc.2 h) (by decide), rfl⟩⟩
theorem cx_rr3 {f : Nat → Int32} {d : Nat} {r : Int32} (hc : cx_co n k K P R M A t nm pm r ∧ (r = -1 ∨ cx_ix r 80)) (h : r < 0) (hL : cx_LI (cx_fo k K M A t nm pm) f d) (g : d = 1 → ¬ cx_mk (M 3) (f 0).toNatClampNeg (nI 8)) : ∃ r0 : Int32, cx_rn n k K P R M A t nm pm r0 ∧ ((r0 = -1 ∧ (-3 : Int32) = (-3 : Int32)) ∨ (¬ r0 = -1 ∧ (-3 : Int32) = r0)) := by
  refine ⟨-1, ⟨r, hc.1, Or.inr ⟨cx_neg1 hc.2 (by decide) h, Or.inr ⟨?_, rfl⟩⟩⟩, Or.inl ⟨rfl, rfl⟩⟩
  rintro ⟨m, a, b, c⟩
  by_cases e : d = 1
  · have := (hL.one e).2 m a
    subst this
    exact g e c
  · exact hL.none e ⟨m, a, b⟩
theorem cx_rr4 {f : Nat → Int32} {d : Nat} {r : Int32} (hc : cx_co n k K P R M A t nm pm r ∧ (r = -1 ∨ cx_ix r 80)) (h : r < 0) (hL : cx_LI (cx_fo k K M A t nm pm) f d) (e : d = 1) (g : cx_mk (M 3) (f 0).toNatClampNeg (nI 8)) : ∃ r0 : Int32, cx_rn n k K P R M A t nm pm r0 ∧ ((r0 = -1 ∧ f 0 = (-3 : Int32)) ∨ (¬ r0 = -1 ∧ f 0 = r0)) :=
  ⟨f 0, ⟨r, hc.1, Or.inr ⟨cx_neg1 hc.2 (by decide) h, Or.inl ⟨_, (hL.one e).1, (hL.one e).2, g, (hL.ix 0 (by omega)).1⟩⟩⟩, Or.inr ⟨cx_ixm (hL.ix 0 (by omega)) (by decide), rfl⟩⟩
end RH
