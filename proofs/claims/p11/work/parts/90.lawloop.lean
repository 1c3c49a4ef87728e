/-- what class and reference have in common, and what their rows hold -/
def lw_M (n k : Nat) (M Ma : Nat → Nat → Int32) : Prop := M = Ma ∧ (cx_R (M 0) 20 ∧ cx_R (M 1) 10 ∧ cx_R (M 2) 5 ∧ cx_R (M 3) 16 ∧ cx_R (M 4) 4 ∧ cx_R (M 5) 30) ∧ ∀ j, j < k → (M 0 j).toNatClampNeg < n
def lw_ub (f g4 g5 : Nat → Int32) : Prop := ∀ a, a < 20 → ∀ u, u < 32 → (bt (f a) u = true ↔ u < 20 ∧ ∃ j, j < (g5 a).toNatClampNeg ∧ g4 (3 * a + j) = nI u)
def lw_wb (f g4 g5 : Nat → Int32) : Prop := ∀ a, a < 20 → ∀ u, u < 32 → (bt (f a) u = true ↔ u < 20 ∧ ∃ i j, i < j ∧ j < (g5 a).toNatClampNeg ∧ g4 (3 * a + i) = nI u ∧ g4 (3 * a + j) = nI u)
def lw_T (n : Nat) (T Ta : Nat → Nat → Int32) : Prop := (T 0 = Ta 0 ∧ T 1 = Ta 1 ∧ T 2 = Ta 2 ∧ T 3 = Ta 3) ∧ (cx_P (T 3) 20 ∧ cx_R (T 0) 4 ∧ cx_R (T 1) 16 ∧ cx_R (Ta 4) 20 ∧ cx_R (Ta 6) 20 ∧ cx_R (Ta 5) 4 ∧ cx_R (Ta 7) 4) ∧ (T 7 = Ta 5 ∧ T 9 = Ta 7) ∧ cx_CL T n (T 10) ∧ cx_B4 n T ∧ lw_ub (T 5) (Ta 4) (Ta 5) ∧ lw_wb (T 6) (Ta 4) (Ta 5) ∧ lw_ub (T 8) (Ta 6) (Ta 7)
def lw_C (n k : Nat) (T M J : Nat → Nat → Int32) (g : Nat → Int64) : Prop := (∀ a, a < n → bt ((J 1) 0) a = true → (¬ (J 0) a ≤ 0 ↔ cx_AF n k (T 0) (T 1) (T 2) (T 3) M (cx_Uc T) (cx_Wc T) (cx_Vc T) (cx_Ac T n) a)) ∧ ((J 2) 0 = -1 ∨ ∃ a, a < n ∧ (J 2) 0 = nI a ∧ (cx_G g ↔ cx_AF n k (T 0) (T 1) (T 2) (T 3) M (cx_Uc T) (cx_Wc T) (cx_Vc T) (cx_Ac T n) a))
def lw_I (i : Nat) (n : Nat) (T : Nat → Nat → Int32) (k : Nat) (M : Nat → Nat → Int32) (d : Nat) (C J : Nat → Nat → Int32) (g : Nat → Int64) (na : Nat) (Ta : Nat → Nat → Int32) (ka : Nat) (Ma : Nat → Nat → Int32) (da : Nat) (Za Fa : Nat → Nat → Int32) : Prop := (n ≤ 20 ∧ k ≤ 80 ∧ na = n ∧ ka = k) ∧ lw_M n k M Ma ∧ lw_T n T Ta ∧ lw_C n k T M J g ∧ cx_KN na Ta (Za 0) (Za 3 0)
theorem lw_C0 {n k : Nat} {T M J : Nat → Nat → Int32} {g : Nat → Int64} (h1 : (J 1) 0 = 0) (h2 : (J 2) 0 = -1) : lw_C n k T M J g :=
  ⟨fun a _ hb => by rw [h1, b_0] at hb; exact absurd hb (by decide), Or.inl h2⟩
theorem lw_pbit {pr b : Int32} {u : Nat} (hp : pr = -1 ∨ cx_ix pr 20) (hu : u < 32) (hb : b = (if pr = -1 then (0 : Int32) else ((1 : Int32) <<< (pr &&& 31)))) : bt b u = true ↔ u < 20 ∧ pr = nI u := by
  by_cases e : u < 20
  · rw [cx_pbit hp e hb]
    exact ⟨fun z => ⟨e, z⟩, fun z => z.2⟩
  · refine ⟨fun z => ?_, fun z => absurd z.1 e⟩
    rcases hp with hp | hp
    · rw [hb, if_pos hp, b_0] at z
      exact absurd z (by decide)
    · have h20 := hp.2
      rw [hb, if_neg (cx_ixm hp (by decide)), hp.1, cx_1bit hp.2 hu] at z
      omega
theorem lw_xbit {xb : Int32} {u : Nat} (hx : cx_ix xb 20) (hu : u < 32) : bt ((1 : Int32) <<< (xb &&& 31)) u = true ↔ u < 20 ∧ xb = nI u :=
  lw_pbit (pr := xb) (b := (1 : Int32) <<< (xb &&& 31)) (Or.inr hx) hu (by rw [if_neg (cx_ixm hx (by decide))])
theorem lw_oth {g4 : Nat → Int32} {t X a j : Nat} {xb : Int32} (e : ¬ a = t) (hX3 : X < 3) (hj : j < 3) : upd g4 (3 * t + X) xb (3 * a + j) = g4 (3 * a + j) := cx_updN (by omega)
theorem lw_ubS {f g4 g5 : Nat → Int32} {t X : Nat} {xb : Int32} (hX : (g5 t).toNatClampNeg = X) (hX3 : X < 3) (hg : cx_R g5 4) (hx : cx_ix xb 20) (h : lw_ub f g4 g5) : lw_ub (upd f t ((f t) ||| ((1 : Int32) <<< (xb &&& 31)))) (upd g4 (3 * t + X) xb) (upd g5 t (nI (X + 1))) := by
  intro a ha u hu
  by_cases e : a = t
  · subst e
    rw [cx_updS, cx_updS, nI_clamp (by omega), b_or, Bool.or_eq_true, h a ha u hu, hX, lw_xbit hx hu]
    constructor
    · rintro (⟨hu2, j, hj, hy⟩ | ⟨hu2, hy⟩)
      · exact ⟨hu2, j, by omega, by rw [cx_updN (by omega)]; exact hy⟩
      · exact ⟨hu2, X, by omega, by rw [cx_updS]; exact hy⟩
    · rintro ⟨hu2, j, hj, hy⟩
      by_cases e : j = X
      · subst e; rw [cx_updS] at hy; exact Or.inr ⟨hu2, hy⟩
      · rw [cx_updN (by omega)] at hy; exact Or.inl ⟨hu2, j, by omega, hy⟩
  · have h4 := (hg a).2
    rw [cx_updN e, cx_updN e, h a ha u hu]
    constructor
    · rintro ⟨hu2, j, hj, hy⟩
      exact ⟨hu2, j, hj, by rw [lw_oth e hX3 (by omega)]; exact hy⟩
    · rintro ⟨hu2, j, hj, hy⟩
      exact ⟨hu2, j, hj, by rw [lw_oth e hX3 (by omega)] at hy; exact hy⟩
theorem lw_wbS {f f5 g4 g5 : Nat → Int32} {t X : Nat} {xb : Int32} (hX : (g5 t).toNatClampNeg = X) (hX3 : X < 3) (hg : cx_R g5 4) (hx : cx_ix xb 20) (h : lw_wb f g4 g5) (h5 : lw_ub f5 g4 g5) : lw_wb (upd f t ((f t) ||| ((f5 t) &&& ((1 : Int32) <<< (xb &&& 31))))) (upd g4 (3 * t + X) xb) (upd g5 t (nI (X + 1))) := by
  intro a ha u hu
  by_cases e : a = t
  · subst e
    rw [cx_updS, cx_updS, nI_clamp (by omega), b_or, Bool.or_eq_true, b_and, Bool.and_eq_true, h a ha u hu, h5 a ha u hu, hX, lw_xbit hx hu]
    constructor
    · rintro (⟨hu2, i, j, hi, hj, hy, hz⟩ | ⟨⟨hu2, j, hj, hy⟩, -, hz⟩)
      · exact ⟨hu2, i, j, hi, by omega, by rw [cx_updN (by omega)]; exact hy, by rw [cx_updN (by omega)]; exact hz⟩
      · exact ⟨hu2, j, X, hj, by omega, by rw [cx_updN (by omega)]; exact hy, by rw [cx_updS]; exact hz⟩
    · rintro ⟨hu2, i, j, hi, hj, hy, hz⟩
      rw [cx_updN (by omega)] at hy
      by_cases e : j = X
      · subst e
        rw [cx_updS] at hz
        exact Or.inr ⟨⟨hu2, i, hi, hy⟩, hu2, hz⟩
      · rw [cx_updN (by omega)] at hz
        exact Or.inl ⟨hu2, i, j, hi, by omega, hy, hz⟩
  · have h4 := (hg a).2
    rw [cx_updN e, cx_updN e, h a ha u hu]
    constructor
    · rintro ⟨hu2, i, j, hi, hj, hy, hz⟩
      exact ⟨hu2, i, j, hi, hj, by rw [lw_oth e hX3 (by omega)]; exact hy, by rw [lw_oth e hX3 (by omega)]; exact hz⟩
    · rintro ⟨hu2, i, j, hi, hj, hy, hz⟩
      rw [lw_oth e hX3 (by omega)] at hy hz
      exact ⟨hu2, i, j, hi, hj, hy, hz⟩
theorem lw_lt3 {f : Nat → Int32} {t : Nat} (h : cx_R f 4) : (f t < nI 3 ↔ (f t).toNatClampNeg < 3) ∧ f t + 1 = nI ((f t).toNatClampNeg + 1) := by
  have h1 := (h t).1
  have h2 := (h t).2
  constructor
  · constructor
    · intro z
      rw [h1] at z
      exact (nI_ltI (by omega) (by omega)).mp z
    · intro z
      rw [h1]
      exact (nI_ltI (by omega) (by omega)).mpr z
  · rw [← nI_1, ← h1]
theorem lw_type {i i' : Nat} {n : Nat} {T : Nat → Nat → Int32} {k : Nat} {M : Nat → Nat → Int32} {d : Nat} {C J : Nat → Nat → Int32} {g : Nat → Int64} {na : Nat} {Ta : Nat → Nat → Int32} {ka : Nat} {Ma : Nat → Nat → Int32} {da : Nat} {Za Fa : Nat → Nat → Int32} {kd mk pk pr ra rb : Int32} {n1 na1 : Nat} {T1 J1 Ta1 Za1 : Nat → Nat → Int32} (hI : lw_I i n T k M d C J g na Ta ka Ma da Za Fa) (ha : (¬ cx_okT kd mk pk pr ∧ ra = (-1 : Int32) ∧ n1 = n ∧ T1 = T ∧ J1 = J) ∨ (cx_okT kd mk pk pr ∧ ¬ n < 20 ∧ ra = (-2 : Int32) ∧ n1 = n ∧ T1 = T ∧ J1 = J) ∨ (cx_okT kd mk pk pr ∧ n < 20 ∧ ra = nI n ∧ n1 = n + 1 ∧ J1 = cx_u (cx_u J 1 (fun _ => (0 : Int32))) 2 (fun _ => (-1 : Int32)) ∧ ∃ (f : Nat → Int32) (b : Int32), T1 = cx_u (cx_u (cx_u (cx_u (cx_u (cx_u T 0 (upd (T 0) n kd)) 1 (upd (T 1) n mk)) 2 (upd (T 2) n pk)) 3 (upd (T 3) n pr)) 4 (upd (T 4) n b)) 10 f ∧ cx_CL T1 n1 (T1 10) ∧ b = (if pr = -1 then (0 : Int32) else ((1 : Int32) <<< (pr &&& 31))))) (hb : (¬ cx_okT kd mk pk pr ∧ rb = (-1 : Int32) ∧ na1 = na ∧ Ta1 = Ta ∧ Za1 = Za) ∨ (cx_okT kd mk pk pr ∧ ¬ na < 20 ∧ rb = (-2 : Int32) ∧ na1 = na ∧ Ta1 = Ta ∧ Za1 = Za) ∨ (cx_okT kd mk pk pr ∧ na < 20 ∧ rb = nI na ∧ na1 = na + 1 ∧ Ta1 = cx_u (cx_u (cx_u (cx_u Ta 0 (upd (Ta 0) na kd)) 1 (upd (Ta 1) na mk)) 2 (upd (Ta 2) na pk)) 3 (upd (Ta 3) na pr) ∧ Za1 = cx_u Za 3 (fun _ => (0 : Int32)))) : ra = rb ∧ lw_I i' n1 T1 k M d C J1 g na1 Ta1 ka Ma da Za1 Fa := by
  obtain ⟨⟨h1, h2, rfl, rfl⟩, hM, hT, hC, hKN⟩ := id hI
  rcases ha with ⟨o, ra', n', t', j'⟩ | ⟨o, z, ra', n', t', j'⟩ | ⟨o, z, ra', n', j', f, b, t', hc', hb'⟩ <;> rcases hb with ⟨o2, rb', m', s', w'⟩ | ⟨o2, z2, rb', m', s', w'⟩ | ⟨o2, z2, rb', m', s', w'⟩
  · subst n' t' j' m' s' w'; exact ⟨ra'.trans rb'.symm, ⟨h1, h2, rfl, rfl⟩, hM, hT, hC, hKN⟩
  · exact absurd o2 o
  · exact absurd o2 o
  · exact absurd o o2
  · subst n' t' j' m' s' w'; exact ⟨ra'.trans rb'.symm, ⟨h1, h2, rfl, rfl⟩, hM, hT, hC, hKN⟩
  · exact absurd z2 z
  · exact absurd o o2
  · exact absurd z z2
  · have hx : pr = -1 ∨ cx_ix pr 20 := o.2.2.2.elim Or.inl (fun y => Or.inr (cx_ixT (by decide) y))
    subst n' t' m' s'
    obtain ⟨⟨e0, e1, e2, e3⟩, ⟨hP, hR0, hR1, hUa, hQa, hVa, hWa⟩, he, hCL, hB4, hU, hW, hV⟩ := hT
    refine ⟨ra'.trans rb'.symm, ⟨by omega, h2, rfl, rfl⟩, ⟨hM.1, hM.2.1, fun j hj => Nat.lt_succ_of_lt (hM.2.2 j hj)⟩, ⟨⟨?_, ?_, ?_, ?_⟩, ⟨cx_Pu hP hx, cx_Ru hR0 (cx_ixT (by decide) o.1), cx_Ru hR1 (cx_ixT (by decide) o.2.1), hUa, hQa, hVa, hWa⟩, he, hc', ?_, hU, hW, hV⟩, lw_C0 (by rw [j']; rfl) (by rw [j']; rfl), Or.inl (by rw [w']; rfl)⟩
    · show upd (T 0) _ _ = upd (Ta 0) _ _; rw [e0]
    · show upd (T 1) _ _ = upd (Ta 1) _ _; rw [e1]
    · show upd (T 2) _ _ = upd (Ta 2) _ _; rw [e2]
    · show upd (T 3) _ _ = upd (Ta 3) _ _; rw [e3]
    · intro a ha u hu
      show bt (upd (T 4) _ b a) u = true ↔ u < 20 ∧ upd (T 3) _ pr a = nI u
      by_cases e : a = na
      · subst e
        rw [cx_updS, cx_updS]
        exact lw_pbit hx hu hb'
      · rw [cx_updN e, cx_updN e]
        exact hB4 a (by omega) u hu
theorem lw_upper {i i' : Nat} {n : Nat} {T : Nat → Nat → Int32} {k : Nat} {M : Nat → Nat → Int32} {d : Nat} {C J : Nat → Nat → Int32} {g : Nat → Int64} {na : Nat} {Ta : Nat → Nat → Int32} {ka : Nat} {Ma : Nat → Nat → Int32} {da : Nat} {Za Fa : Nat → Nat → Int32} {xa xb ra rb : Int32} {T1 J1 Ta1 Za1 : Nat → Nat → Int32} (hI : lw_I i n T k M d C J g na Ta ka Ma da Za Fa) (ha : (¬ ((0 ≤ xa ∧ xa < nI n) ∧ (0 ≤ xb ∧ xb < nI 20)) ∧ ra = (-1 : Int32) ∧ T1 = T ∧ J1 = J) ∨ (((0 ≤ xa ∧ xa < nI n) ∧ (0 ≤ xb ∧ xb < nI 20)) ∧ ¬ ((T 7) (xa.toNatClampNeg) < nI 3) ∧ ra = (-2 : Int32) ∧ T1 = T ∧ J1 = J) ∨ (((0 ≤ xa ∧ xa < nI n) ∧ (0 ≤ xb ∧ xb < nI 20)) ∧ ((T 7) (xa.toNatClampNeg) < nI 3) ∧ ra = (T 7) (xa.toNatClampNeg) + 1 ∧ J1 = cx_u (cx_u J 1 (fun _ => (0 : Int32))) 2 (fun _ => (-1 : Int32)) ∧ ∃ (f : Nat → Int32), T1 = cx_u (cx_u (cx_u (cx_u T 6 (upd (T 6) (xa.toNatClampNeg) (((T 6) (xa.toNatClampNeg)) ||| (((T 5) (xa.toNatClampNeg)) &&& ((1 : Int32) <<< (xb &&& 31)))))) 5 (upd (T 5) (xa.toNatClampNeg) (((T 5) (xa.toNatClampNeg)) ||| ((1 : Int32) <<< (xb &&& 31))))) 7 (upd (T 7) (xa.toNatClampNeg) ((T 7) (xa.toNatClampNeg) + 1))) 10 f ∧ cx_CL T1 n (T1 10))) (hb : (¬ ((0 ≤ xa ∧ xa < nI na) ∧ (0 ≤ xb ∧ xb < nI 20)) ∧ rb = (-1 : Int32) ∧ Ta1 = Ta ∧ Za1 = Za) ∨ (((0 ≤ xa ∧ xa < nI na) ∧ (0 ≤ xb ∧ xb < nI 20)) ∧ (((Ta 5) (xa.toNatClampNeg)).toNatClampNeg) = 3 ∧ rb = (-2 : Int32) ∧ Ta1 = Ta ∧ Za1 = Za) ∨ (((0 ≤ xa ∧ xa < nI na) ∧ (0 ≤ xb ∧ xb < nI 20)) ∧ (((Ta 5) (xa.toNatClampNeg)).toNatClampNeg) < 3 ∧ rb = nI ((((Ta 5) (xa.toNatClampNeg)).toNatClampNeg) + 1) ∧ Ta1 = cx_u (cx_u Ta 4 (upd (Ta 4) (3 * (xa.toNatClampNeg) + (((Ta 5) (xa.toNatClampNeg)).toNatClampNeg)) xb)) 5 (upd (Ta 5) (xa.toNatClampNeg) (nI ((((Ta 5) (xa.toNatClampNeg)).toNatClampNeg) + 1))) ∧ Za1 = cx_u Za 3 (fun _ => (0 : Int32)))) : ra = rb ∧ lw_I i' n T1 k M d C J1 g na Ta1 ka Ma da Za1 Fa := by
  obtain ⟨⟨h1, h2, rfl, rfl⟩, hM, hT, hC, hKN⟩ := id hI
  obtain ⟨e03, ⟨hP, hR0, hR1, hUa, hQa, hVa, hWa⟩, ⟨e7, e9⟩, hCL, hB4, hU, hW, hV⟩ := id hT
  have e7' : ∀ j, T 7 j = Ta 5 j := fun j => by rw [e7]
  rw [e7'] at ha
  have hq := lw_lt3 (t := xa.toNatClampNeg) hVa
  rcases ha with ⟨o, ra', t', j'⟩ | ⟨o, z, ra', t', j'⟩ | ⟨o, z, ra', j', f, t', hc'⟩ <;> rcases hb with ⟨o2, rb', s', w'⟩ | ⟨o2, z2, rb', s', w'⟩ | ⟨o2, z2, rb', s', w'⟩
  · subst t' j' s' w'; exact ⟨ra'.trans rb'.symm, ⟨h1, h2, rfl, rfl⟩, hM, hT, hC, hKN⟩
  · exact absurd o2 o
  · exact absurd o2 o
  · exact absurd o o2
  · subst t' j' s' w'; exact ⟨ra'.trans rb'.symm, ⟨h1, h2, rfl, rfl⟩, hM, hT, hC, hKN⟩
  · exact absurd (hq.1.mpr z2) z
  · exact absurd o o2
  · exact absurd (hq.1.mp z) (by omega)
  · subst t' s'
    have hx := cx_ixT (n := 20) (by decide) o.2
    exact ⟨by rw [ra', rb', hq.2], ⟨h1, h2, rfl, rfl⟩, hM, ⟨e03, ⟨hP, hR0, hR1, cx_Ru hUa hx, hQa, cx_Ru hVa (cx_ixI (by omega) (by decide)), hWa⟩, ⟨(show upd (T 7) _ _ = upd (Ta 5) _ _ by rw [e7, hq.2]), e9⟩, hc', hB4, lw_ubS rfl z2 hVa hx hU, lw_wbS rfl z2 hVa hx hW hU, hV⟩, lw_C0 (by rw [j']; rfl) (by rw [j']; rfl), Or.inl (by rw [w']; rfl)⟩
theorem lw_permit {i i' : Nat} {n : Nat} {T : Nat → Nat → Int32} {k : Nat} {M : Nat → Nat → Int32} {d : Nat} {C J : Nat → Nat → Int32} {g : Nat → Int64} {na : Nat} {Ta : Nat → Nat → Int32} {ka : Nat} {Ma : Nat → Nat → Int32} {da : Nat} {Za Fa : Nat → Nat → Int32} {xa xb ra rb : Int32} {T1 J1 Ta1 : Nat → Nat → Int32} (hI : lw_I i n T k M d C J g na Ta ka Ma da Za Fa) (ha : (¬ ((0 ≤ xa ∧ xa < nI n) ∧ (0 ≤ xb ∧ xb < nI 20)) ∧ ra = (-1 : Int32) ∧ T1 = T ∧ J1 = J) ∨ (((0 ≤ xa ∧ xa < nI n) ∧ (0 ≤ xb ∧ xb < nI 20)) ∧ ¬ ((T 9) (xa.toNatClampNeg) < nI 3) ∧ ra = (-2 : Int32) ∧ T1 = T ∧ J1 = J) ∨ (((0 ≤ xa ∧ xa < nI n) ∧ (0 ≤ xb ∧ xb < nI 20)) ∧ ((T 9) (xa.toNatClampNeg) < nI 3) ∧ ra = (T 9) (xa.toNatClampNeg) + 1 ∧ J1 = cx_u (cx_u J 1 (fun _ => (0 : Int32))) 2 (fun _ => (-1 : Int32)) ∧ T1 = cx_u (cx_u T 8 (upd (T 8) (xa.toNatClampNeg) (((T 8) (xa.toNatClampNeg)) ||| ((1 : Int32) <<< (xb &&& 31))))) 9 (upd (T 9) (xa.toNatClampNeg) ((T 9) (xa.toNatClampNeg) + 1)))) (hb : (¬ ((0 ≤ xa ∧ xa < nI na) ∧ (0 ≤ xb ∧ xb < nI 20)) ∧ rb = (-1 : Int32) ∧ Ta1 = Ta) ∨ (((0 ≤ xa ∧ xa < nI na) ∧ (0 ≤ xb ∧ xb < nI 20)) ∧ (((Ta 7) (xa.toNatClampNeg)).toNatClampNeg) = 3 ∧ rb = (-2 : Int32) ∧ Ta1 = Ta) ∨ (((0 ≤ xa ∧ xa < nI na) ∧ (0 ≤ xb ∧ xb < nI 20)) ∧ (((Ta 7) (xa.toNatClampNeg)).toNatClampNeg) < 3 ∧ rb = nI ((((Ta 7) (xa.toNatClampNeg)).toNatClampNeg) + 1) ∧ Ta1 = cx_u (cx_u Ta 6 (upd (Ta 6) (3 * (xa.toNatClampNeg) + (((Ta 7) (xa.toNatClampNeg)).toNatClampNeg)) xb)) 7 (upd (Ta 7) (xa.toNatClampNeg) (nI ((((Ta 7) (xa.toNatClampNeg)).toNatClampNeg) + 1))))) : ra = rb ∧ lw_I i' n T1 k M d C J1 g na Ta1 ka Ma da Za Fa := by
  obtain ⟨⟨h1, h2, rfl, rfl⟩, hM, hT, hC, hKN⟩ := id hI
  obtain ⟨e03, ⟨hP, hR0, hR1, hUa, hQa, hVa, hWa⟩, ⟨e7, e9⟩, hCL, hB4, hU, hW, hV⟩ := id hT
  have e9' : ∀ j, T 9 j = Ta 7 j := fun j => by rw [e9]
  rw [e9'] at ha
  have hq := lw_lt3 (t := xa.toNatClampNeg) hWa
  rcases ha with ⟨o, ra', t', j'⟩ | ⟨o, z, ra', t', j'⟩ | ⟨o, z, ra', j', t'⟩ <;> rcases hb with ⟨o2, rb', s'⟩ | ⟨o2, z2, rb', s'⟩ | ⟨o2, z2, rb', s'⟩
  · subst t' j' s'; exact ⟨ra'.trans rb'.symm, ⟨h1, h2, rfl, rfl⟩, hM, hT, hC, hKN⟩
  · exact absurd o2 o
  · exact absurd o2 o
  · exact absurd o o2
  · subst t' j' s'; exact ⟨ra'.trans rb'.symm, ⟨h1, h2, rfl, rfl⟩, hM, hT, hC, hKN⟩
  · exact absurd (hq.1.mpr z2) z
  · exact absurd o o2
  · exact absurd (hq.1.mp z) (by omega)
  · subst t' s'
    have hx := cx_ixT (n := 20) (by decide) o.2
    exact ⟨by rw [ra', rb', hq.2], ⟨h1, h2, rfl, rfl⟩, hM, ⟨e03, ⟨hP, hR0, hR1, hUa, cx_Ru hQa hx, hVa, cx_Ru hWa (cx_ixI (by omega) (by decide))⟩, ⟨e7, (show upd (T 9) _ _ = upd (Ta 7) _ _ by rw [e9, hq.2])⟩, hCL, hB4, hU, hW, lw_ubS rfl z2 hWa hx hV⟩, lw_C0 (by rw [j']; rfl) (by rw [j']; rfl), hKN⟩
theorem lw_member {i i' : Nat} {n : Nat} {T : Nat → Nat → Int32} {k : Nat} {M : Nat → Nat → Int32} {d : Nat} {C J : Nat → Nat → Int32} {g : Nat → Int64} {na : Nat} {Ta : Nat → Nat → Int32} {ka : Nat} {Ma : Nat → Nat → Int32} {da : Nat} {Za Fa : Nat → Nat → Int32} {xa xb xe xf xh xi ra rb : Int32} {k1 ka1 : Nat} {M1 J1 Ma1 : Nat → Nat → Int32} (hI : lw_I i n T k M d C J g na Ta ka Ma da Za Fa) (ha : (¬ ((0 ≤ xa ∧ xa < nI n) ∧ (0 ≤ xb ∧ xb < nI 10) ∧ (0 ≤ xe ∧ xe < nI 5) ∧ (0 ≤ xf ∧ xf < nI 16) ∧ (0 ≤ xh ∧ xh < nI 4) ∧ (0 ≤ xi ∧ xi < nI 30)) ∧ ra = (-1 : Int32) ∧ k1 = k ∧ M1 = M ∧ J1 = J) ∨ (((0 ≤ xa ∧ xa < nI n) ∧ (0 ≤ xb ∧ xb < nI 10) ∧ (0 ≤ xe ∧ xe < nI 5) ∧ (0 ≤ xf ∧ xf < nI 16) ∧ (0 ≤ xh ∧ xh < nI 4) ∧ (0 ≤ xi ∧ xi < nI 30)) ∧ ¬ k < 80 ∧ ra = (-2 : Int32) ∧ k1 = k ∧ M1 = M ∧ J1 = J) ∨ (((0 ≤ xa ∧ xa < nI n) ∧ (0 ≤ xb ∧ xb < nI 10) ∧ (0 ≤ xe ∧ xe < nI 5) ∧ (0 ≤ xf ∧ xf < nI 16) ∧ (0 ≤ xh ∧ xh < nI 4) ∧ (0 ≤ xi ∧ xi < nI 30)) ∧ k < 80 ∧ ra = nI k ∧ k1 = k + 1 ∧ J1 = cx_u (cx_u J 1 (fun _ => (0 : Int32))) 2 (fun _ => (-1 : Int32)) ∧ M1 = cx_u (cx_u (cx_u (cx_u (cx_u (cx_u M 0 (upd (M 0) k xa)) 1 (upd (M 1) k xb)) 2 (upd (M 2) k xe)) 3 (upd (M 3) k xf)) 4 (upd (M 4) k xh)) 5 (upd (M 5) k xi))) (hb : (¬ ((0 ≤ xa ∧ xa < nI na) ∧ (0 ≤ xb ∧ xb < nI 10) ∧ (0 ≤ xe ∧ xe < nI 5) ∧ (0 ≤ xf ∧ xf < nI 16) ∧ (0 ≤ xh ∧ xh < nI 4) ∧ (0 ≤ xi ∧ xi < nI 30)) ∧ rb = (-1 : Int32) ∧ ka1 = ka ∧ Ma1 = Ma) ∨ (((0 ≤ xa ∧ xa < nI na) ∧ (0 ≤ xb ∧ xb < nI 10) ∧ (0 ≤ xe ∧ xe < nI 5) ∧ (0 ≤ xf ∧ xf < nI 16) ∧ (0 ≤ xh ∧ xh < nI 4) ∧ (0 ≤ xi ∧ xi < nI 30)) ∧ ¬ ka < 80 ∧ rb = (-2 : Int32) ∧ ka1 = ka ∧ Ma1 = Ma) ∨ (((0 ≤ xa ∧ xa < nI na) ∧ (0 ≤ xb ∧ xb < nI 10) ∧ (0 ≤ xe ∧ xe < nI 5) ∧ (0 ≤ xf ∧ xf < nI 16) ∧ (0 ≤ xh ∧ xh < nI 4) ∧ (0 ≤ xi ∧ xi < nI 30)) ∧ ka < 80 ∧ rb = nI ka ∧ ka1 = ka + 1 ∧ Ma1 = cx_u (cx_u (cx_u (cx_u (cx_u (cx_u Ma 0 (upd (Ma 0) ka xa)) 1 (upd (Ma 1) ka xb)) 2 (upd (Ma 2) ka xe)) 3 (upd (Ma 3) ka xf)) 4 (upd (Ma 4) ka xh)) 5 (upd (Ma 5) ka xi))) : ra = rb ∧ lw_I i' n T k1 M1 d C J1 g na Ta ka1 Ma1 da Za Fa := by
  obtain ⟨⟨h1, h2, rfl, rfl⟩, hM, hT, hC, hKN⟩ := id hI
  rcases ha with ⟨o, ra', n', t', j'⟩ | ⟨o, z, ra', n', t', j'⟩ | ⟨o, z, ra', n', j', t'⟩ <;> rcases hb with ⟨o2, rb', m', s'⟩ | ⟨o2, z2, rb', m', s'⟩ | ⟨o2, z2, rb', m', s'⟩
  · subst n' t' j' m' s'; exact ⟨ra'.trans rb'.symm, ⟨h1, h2, rfl, rfl⟩, hM, hT, hC, hKN⟩
  · exact absurd o2 o
  · exact absurd o2 o
  · exact absurd o o2
  · subst n' t' j' m' s'; exact ⟨ra'.trans rb'.symm, ⟨h1, h2, rfl, rfl⟩, hM, hT, hC, hKN⟩
  · exact absurd z2 z
  · exact absurd o o2
  · exact absurd z z2
  · have hx0 := cx_ixT (by omega) o.1
    subst n' t' m' s'
    obtain ⟨eM, ⟨r0, r1, r2, r3, r4, r5⟩, hOn⟩ := hM
    subst eM
    refine ⟨ra'.trans rb'.symm, ⟨h1, by omega, rfl, rfl⟩, ⟨rfl, ⟨cx_Ru r0 (cx_ixW hx0 h1), cx_Ru r1 (cx_ixT (by decide) o.2.1), cx_Ru r2 (cx_ixT (by decide) o.2.2.1), cx_Ru r3 (cx_ixT (by decide) o.2.2.2.1), cx_Ru r4 (cx_ixT (by decide) o.2.2.2.2.1), cx_Ru r5 (cx_ixT (by decide) o.2.2.2.2.2)⟩, fun j hj => ?_⟩, hT, lw_C0 (by rw [j']; rfl) (by rw [j']; rfl), hKN⟩
    show (upd (M 0) _ xa j).toNatClampNeg < _
    by_cases e : j = ka
    · subst e; rw [cx_updS]; exact hx0.2
    · rw [cx_updN e]; exact hOn j (by omega)
theorem lw_keep {i i' : Nat} {n : Nat} {T : Nat → Nat → Int32} {k : Nat} {M : Nat → Nat → Int32} {d : Nat} {C J : Nat → Nat → Int32} {g : Nat → Int64} {na : Nat} {Ta : Nat → Nat → Int32} {ka : Nat} {Ma : Nat → Nat → Int32} {da : Nat} {Za Fa : Nat → Nat → Int32} {d' da' : Nat} {C' J' Za' Fa' : Nat → Nat → Int32} {g' : Nat → Int64} (hI : lw_I i n T k M d C J g na Ta ka Ma da Za Fa) (hC : lw_C n k T M J' g') (h : cx_KN na Ta (Za' 0) (Za' 3 0)) : lw_I i' n T k M d' C' J' g' na Ta ka Ma da' Za' Fa' := ⟨hI.1, hI.2.1, hI.2.2.1, hC, h⟩
theorem lw_keep0 {i i' : Nat} {n : Nat} {T : Nat → Nat → Int32} {k : Nat} {M : Nat → Nat → Int32} {d : Nat} {C J : Nat → Nat → Int32} {g : Nat → Int64} {na : Nat} {Ta : Nat → Nat → Int32} {ka : Nat} {Ma : Nat → Nat → Int32} {da : Nat} {Za Fa : Nat → Nat → Int32} {da' : Nat} {Za' Fa' : Nat → Nat → Int32} (hI : lw_I i n T k M d C J g na Ta ka Ma da Za Fa) (h : cx_KN na Ta (Za' 0) (Za' 3 0)) : lw_I i' n T k M d C J g na Ta ka Ma da' Za' Fa' := ⟨hI.1, hI.2.1, hI.2.2.1, hI.2.2.2.1, h⟩
theorem lw_eqU {f g4 g5 : Nat → Int32} (h : lw_ub f g4 g5) : (fun a u => a < 20 ∧ bt (f a) u = true) = (fun a u => a < 20 ∧ u < 20 ∧ ∃ j, j < (g5 a).toNatClampNeg ∧ g4 (3 * a + j) = nI u) := by
  funext a u
  apply propext
  constructor
  · rintro ⟨ha, hb⟩
    exact ⟨ha, (h a ha u (cx_lt32 hb)).mp hb⟩
  · rintro ⟨ha, hb⟩
    exact ⟨ha, (h a ha u (by omega)).mpr hb⟩
theorem lw_eqW {f g4 g5 : Nat → Int32} (h : lw_wb f g4 g5) : (fun a u => a < 20 ∧ bt (f a) u = true) = (fun a u => a < 20 ∧ u < 20 ∧ ∃ i j, i < j ∧ j < (g5 a).toNatClampNeg ∧ g4 (3 * a + i) = nI u ∧ g4 (3 * a + j) = nI u) := by
  funext a u
  apply propext
  constructor
  · rintro ⟨ha, hb⟩
    exact ⟨ha, (h a ha u (cx_lt32 hb)).mp hb⟩
  · rintro ⟨ha, hb⟩
    exact ⟨ha, (h a ha u (by omega)).mpr hb⟩
theorem lw_eqA {n : Nat} {T Ta : Nat → Nat → Int32} (hn : n ≤ 20) (hT : lw_T n T Ta) : cx_Ac T n = cx_Ar Ta n := by
  obtain ⟨⟨e0, e1, e2, e3⟩, -, -, hCL, hB4, hU, -⟩ := hT
  have hE : ∀ a u, a < n → u < n → (cx_En T n a u ↔ cx_Er Ta n a u) := by
    intro a u ha hu
    show (bt ((T 4 a) ||| (T 5 a)) u = true ∧ u < n) ↔ (u < n ∧ (Ta 3 a = nI u ∨ ∃ j, j < (Ta 5 a).toNatClampNeg ∧ Ta 4 (3 * a + j) = nI u))
    rw [b_or, Bool.or_eq_true, hB4 a ha u (by omega), hU a (by omega) u (by omega), ← e3]
    exact ⟨fun z => ⟨z.2, z.1.imp (fun y => y.2) (fun y => y.2)⟩, fun z => ⟨z.2.imp (fun y => ⟨by omega, y⟩) (fun y => ⟨by omega, y⟩), z.1⟩⟩
  funext a u
  apply propext
  constructor
  · rintro ⟨ha, hu, hb⟩
    exact ⟨ha, hu, (cx_w3_eq hE n (Nat.le_refl n) a u ha hu).mp ((hCL a ha u (by omega)).mp hb)⟩
  · rintro ⟨ha, hu, hb⟩
    exact ⟨ha, hu, (hCL a ha u (by omega)).mpr ((cx_w3_eq hE n (Nat.le_refl n) a u ha hu).mpr hb)⟩
theorem lw_runs {i : Nat} {n : Nat} {T : Nat → Nat → Int32} {k : Nat} {M : Nat → Nat → Int32} {d : Nat} {C J : Nat → Nat → Int32} {g : Nat → Int64} {na : Nat} {Ta : Nat → Nat → Int32} {ka : Nat} {Ma : Nat → Nat → Int32} {da : Nat} {Za Fa : Nat → Nat → Int32} {xa xb xe ra rb : Int32} (hI : lw_I i n T k M d C J g na Ta ka Ma da Za Fa) (ha : (¬ ((0 ≤ xa ∧ xa < nI n) ∧ (0 ≤ xb ∧ xb < nI 10) ∧ (0 ≤ xe ∧ xe < nI 5)) ∧ ra = (-1 : Int32)) ∨ (((0 ≤ xa ∧ xa < nI n) ∧ (0 ≤ xb ∧ xb < nI 10) ∧ (0 ≤ xe ∧ xe < nI 5)) ∧ cx_WR n k (T 0) (T 1) (T 2) (T 3) M (cx_Uc T) (cx_Wc T) (cx_Vc T) (cx_Ac T n) (xa.toNatClampNeg) ∧ ra = (-4 : Int32)) ∨ (((0 ≤ xa ∧ xa < nI n) ∧ (0 ≤ xb ∧ xb < nI 10) ∧ (0 ≤ xe ∧ xe < nI 5)) ∧ ¬ cx_WR n k (T 0) (T 1) (T 2) (T 3) M (cx_Uc T) (cx_Wc T) (cx_Vc T) (cx_Ac T n) (xa.toNatClampNeg) ∧ ∃ r0 : Int32, cx_rn n k (T 0) (T 2) (T 3) M (cx_Ac T n) (xa.toNatClampNeg) xb xe r0 ∧ ((r0 = -1 ∧ ra = (-3 : Int32)) ∨ (¬ r0 = -1 ∧ ra = r0)))) (hb : (¬ ((0 ≤ xa ∧ xa < nI na) ∧ (0 ≤ xb ∧ xb < nI 10) ∧ (0 ≤ xe ∧ xe < nI 5)) ∧ rb = (-1 : Int32)) ∨ (((0 ≤ xa ∧ xa < nI na) ∧ (0 ≤ xb ∧ xb < nI 10) ∧ (0 ≤ xe ∧ xe < nI 5)) ∧ cx_WR na ka (Ta 0) (Ta 1) (Ta 2) (Ta 3) Ma (cx_Ur Ta) (cx_Wr Ta) (cx_Vr Ta) (cx_Ar Ta na) (xa.toNatClampNeg) ∧ rb = (-4 : Int32)) ∨ (((0 ≤ xa ∧ xa < nI na) ∧ (0 ≤ xb ∧ xb < nI 10) ∧ (0 ≤ xe ∧ xe < nI 5)) ∧ ¬ cx_WR na ka (Ta 0) (Ta 1) (Ta 2) (Ta 3) Ma (cx_Ur Ta) (cx_Wr Ta) (cx_Vr Ta) (cx_Ar Ta na) (xa.toNatClampNeg) ∧ ∃ r0 : Int32, cx_rn na ka (Ta 0) (Ta 2) (Ta 3) Ma (cx_Ar Ta na) (xa.toNatClampNeg) xb xe r0 ∧ ((r0 = -1 ∧ rb = (-3 : Int32)) ∨ (¬ r0 = -1 ∧ rb = r0)))) : ra = rb := by
  obtain ⟨⟨h1, h2, rfl, rfl⟩, ⟨eM, -⟩, hT, -⟩ := id hI
  have eA : cx_Ac T na = cx_Ar Ta na := lw_eqA h1 hT
  obtain ⟨⟨e0, e1, e2, e3⟩, -, -, -, -, hU, hW, hV⟩ := hT
  have eU : cx_Uc T = cx_Ur Ta := lw_eqU hU
  have eW : cx_Wc T = cx_Wr Ta := lw_eqW hW
  have eV : cx_Vc T = cx_Vr Ta := lw_eqU hV
  subst eM
  rw [← eA, ← eU, ← eW, ← eV, ← e0, ← e1, ← e2, ← e3] at hb
  rcases ha with ⟨o, ra'⟩ | ⟨o, w, ra'⟩ | ⟨o, w, r0, hr, ra'⟩ <;> rcases hb with ⟨o2, rb'⟩ | ⟨o2, w2, rb'⟩ | ⟨o2, w2, r2, hr2, rb'⟩
  · rw [ra', rb']
  · exact absurd o2 o
  · exact absurd o2 o
  · exact absurd o o2
  · rw [ra', rb']
  · exact absurd w w2
  · exact absurd o o2
  · exact absurd w2 w
  · have := hr.u hr2
    subst this
    rcases ra' with ⟨a, ra'⟩ | ⟨a, ra'⟩ <;> rcases rb' with ⟨b, rb'⟩ | ⟨b, rb'⟩
    · rw [ra', rb']
    · exact absurd a b
    · exact absurd b a
    · rw [ra', rb']
theorem lw_call {i : Nat} {n : Nat} {T : Nat → Nat → Int32} {k : Nat} {M : Nat → Nat → Int32} {d : Nat} {C J : Nat → Nat → Int32} {g : Nat → Int64} {na : Nat} {Ta : Nat → Nat → Int32} {ka : Nat} {Ma : Nat → Nat → Int32} {da : Nat} {Za Fa : Nat → Nat → Int32} {xa xb xe xf ra rb : Int32} (hI : lw_I i n T k M d C J g na Ta ka Ma da Za Fa) (ha : (¬ ((0 ≤ xa ∧ xa < nI n) ∧ (0 ≤ xb ∧ xb < nI n) ∧ (0 ≤ xe ∧ xe < nI 10) ∧ (0 ≤ xf ∧ xf < nI 5)) ∧ ra = (-1 : Int32)) ∨ (((0 ≤ xa ∧ xa < nI n) ∧ (0 ≤ xb ∧ xb < nI n) ∧ (0 ≤ xe ∧ xe < nI 10) ∧ (0 ≤ xf ∧ xf < nI 5)) ∧ (cx_WR n k (T 0) (T 1) (T 2) (T 3) M (cx_Uc T) (cx_Wc T) (cx_Vc T) (cx_Ac T n) (xb.toNatClampNeg) ∨ ¬ cx_is (cx_Ac T n) (xb.toNatClampNeg) (xa.toNatClampNeg)) ∧ ra = (-4 : Int32)) ∨ (((0 ≤ xa ∧ xa < nI n) ∧ (0 ≤ xb ∧ xb < nI n) ∧ (0 ≤ xe ∧ xe < nI 10) ∧ (0 ≤ xf ∧ xf < nI 5)) ∧ ¬ (cx_WR n k (T 0) (T 1) (T 2) (T 3) M (cx_Uc T) (cx_Wc T) (cx_Vc T) (cx_Ac T n) (xb.toNatClampNeg) ∨ ¬ cx_is (cx_Ac T n) (xb.toNatClampNeg) (xa.toNatClampNeg)) ∧ ∃ r0 : Int32, cx_cal n k (T 0) (T 2) (T 3) M (cx_Ac T n) (xa.toNatClampNeg) (xb.toNatClampNeg) xe xf r0 ∧ ((r0 = -1 ∧ ra = (-3 : Int32)) ∨ (¬ r0 = -1 ∧ ra = r0)))) (hb : (¬ ((0 ≤ xa ∧ xa < nI na) ∧ (0 ≤ xb ∧ xb < nI na) ∧ (0 ≤ xe ∧ xe < nI 10) ∧ (0 ≤ xf ∧ xf < nI 5)) ∧ rb = (-1 : Int32)) ∨ (((0 ≤ xa ∧ xa < nI na) ∧ (0 ≤ xb ∧ xb < nI na) ∧ (0 ≤ xe ∧ xe < nI 10) ∧ (0 ≤ xf ∧ xf < nI 5)) ∧ (cx_WR na ka (Ta 0) (Ta 1) (Ta 2) (Ta 3) Ma (cx_Ur Ta) (cx_Wr Ta) (cx_Vr Ta) (cx_Ar Ta na) (xb.toNatClampNeg) ∨ ¬ cx_is (cx_Ar Ta na) (xb.toNatClampNeg) (xa.toNatClampNeg)) ∧ rb = (-4 : Int32)) ∨ (((0 ≤ xa ∧ xa < nI na) ∧ (0 ≤ xb ∧ xb < nI na) ∧ (0 ≤ xe ∧ xe < nI 10) ∧ (0 ≤ xf ∧ xf < nI 5)) ∧ ¬ (cx_WR na ka (Ta 0) (Ta 1) (Ta 2) (Ta 3) Ma (cx_Ur Ta) (cx_Wr Ta) (cx_Vr Ta) (cx_Ar Ta na) (xb.toNatClampNeg) ∨ ¬ cx_is (cx_Ar Ta na) (xb.toNatClampNeg) (xa.toNatClampNeg)) ∧ ∃ r0 : Int32, cx_cal na ka (Ta 0) (Ta 2) (Ta 3) Ma (cx_Ar Ta na) (xa.toNatClampNeg) (xb.toNatClampNeg) xe xf r0 ∧ ((r0 = -1 ∧ rb = (-3 : Int32)) ∨ (¬ r0 = -1 ∧ rb = r0)))) : ra = rb := by
  obtain ⟨⟨h1, h2, rfl, rfl⟩, ⟨eM, -⟩, hT, -⟩ := id hI
  have eA : cx_Ac T na = cx_Ar Ta na := lw_eqA h1 hT
  obtain ⟨⟨e0, e1, e2, e3⟩, -, -, -, -, hU, hW, hV⟩ := hT
  have eU : cx_Uc T = cx_Ur Ta := lw_eqU hU
  have eW : cx_Wc T = cx_Wr Ta := lw_eqW hW
  have eV : cx_Vc T = cx_Vr Ta := lw_eqU hV
  subst eM
  rw [← eA, ← eU, ← eW, ← eV, ← e0, ← e1, ← e2, ← e3] at hb
  rcases ha with ⟨o, ra'⟩ | ⟨o, w, ra'⟩ | ⟨o, w, r0, hr, ra'⟩ <;> rcases hb with ⟨o2, rb'⟩ | ⟨o2, w2, rb'⟩ | ⟨o2, w2, r2, hr2, rb'⟩
  · rw [ra', rb']
  · exact absurd o2 o
  · exact absurd o2 o
  · exact absurd o o2
  · rw [ra', rb']
  · exact absurd w w2
  · exact absurd o o2
  · exact absurd w2 w
  · have := hr.u hr2
    subst this
    rcases ra' with ⟨a, ra'⟩ | ⟨a, ra'⟩ <;> rcases rb' with ⟨b, rb'⟩ | ⟨b, rb'⟩
    · rw [ra', rb']
    · exact absurd a b
    · exact absurd b a
    · rw [ra', rb']
theorem lw_ub0 : lw_ub (fun _ => (0 : Int32)) (fun _ => (0 : Int32)) (fun _ => (0 : Int32)) := fun a ha u hu => ⟨fun z => absurd (show bt 0 u = true from z) (by rw [b_0]; decide), fun z => by obtain ⟨-, j, hj, -⟩ := z; exact absurd (show j < (0 : Int32).toNatClampNeg from hj) (by rw [sb_cl0]; omega)⟩
theorem lw_wb0 : lw_wb (fun _ => (0 : Int32)) (fun _ => (0 : Int32)) (fun _ => (0 : Int32)) := fun a ha u hu => ⟨fun z => absurd (show bt 0 u = true from z) (by rw [b_0]; decide), fun z => by obtain ⟨-, i, j, -, hj, -⟩ := z; exact absurd (show j < (0 : Int32).toNatClampNeg from hj) (by rw [sb_cl0]; omega)⟩

set_option maxHeartbeats 4000000 in
set_option maxRecDepth 100000 in
theorem law_loop {p : Program} {l : Launch} {e : Env} {s : State} {m : MethodId} {below : List Frame} {meth : Method} {c : Code} {D : va_G} {b L : Nat} {xs : Nat → Int32} {A : Nat → Prop} (hAA : ∀ q, A q → s.heap.size ≤ q) (hbA : ¬ A b) (hL : L ≤ 3584) (hx : p.tables.exec = Jvm.exec) (hb : c.code = code) (hr : meth.sig.returnType = ret) (hml : c.maxLocals = 4) (hown : s.vm.findClass RL = some m.cls) (hts : ∀ w ∈ wsL_law, w.before #[Value.ref b] s = true) (hX : va_X b L xs s s.heap) (hbl : b < s.heap.size) (hlocks : meth.locks = false) {cI cJ cZ : ClassId} (hE : cx_E D vwCl [(cI, .int), (cJ, .long), (cZ, .boolean)] cx_NW A s) (qx qm : Nat → Nat) :
    ∀ (N i : Nat) (n : Nat) (T : Nat → Nat → Int32) (k : Nat) (M : Nat → Nat → Int32) (d : Nat) (C : Nat → Nat → Int32) (J : Nat → Nat → Int32) (g : Nat → Int64) (na : Nat) (Ta : Nat → Nat → Int32) (ka : Nat) (Ma : Nat → Nat → Int32) (da : Nat) (Za : Nat → Nat → Int32) (Fa : Nat → Nat → Int32) (H : Heap) (locs : List Loc) (ls : Array Slot), L + 7 - i < N → i ≤ L → lw_I i n T k M d C J g na Ta ka Ma da Za Fa → cx_S D vwCl A s ((cxW qx cI cJ n T k M d C J g) ++ (cyW qm cI cZ na Ta ka Ma da Za Fa)) H locs → lv_has ls 4 [(0, .ref b), (1, .ref (qx 0)), (2, .ref (qm 0)), (3, .int (nI i))] → W p l e room_1 s m #[Value.ref b] below meth c H locs 48 10021 (lw_Z below #[Value.ref b] s) (F0 m 18 ls []) := by
  intro N
  induction N with
  | zero => intro i n T k M d C J g na Ta ka Ma da Za Fa H locs ls hN; exact absurd hN (by omega)
  | succ N ih =>
    intro i n T k M d C J g na Ta ka Ma da Za Fa H locs ls hN hi hI hS hl
    refine lv_iload_n hx hb dL_law_18 rfl (lv_at hl 3 rfl) ?_
    refine lv_aload_n hx hb dL_law_19 rfl (lv_at hl 0 rfl) ?_
    refine va_slen hx hb hX hbl hbA hS.2.2 dL_law_20 ?_
    refine lv_bipush (v := nI 7) hx hb dL_law_21 (by decide) ?_
    refine lv_isub hx hb dL_law_23 ?_
    refine lv_icmp_gt (tgt := 523) hx hb dL_law_24 (by decide) (fun h24 => ?_) (fun h24 => ?_)
    · refine lv_iconst (v := 1) hx hb dL_law_523 (by decide) ?_
      refine va_forget (fun q hq => hAA _ (hS.2.2.2.2 q hq)) ?_
      refine W.widen (k := 48) (n := 10021) (Nat.le_refl _) (Nat.le_refl _) ?_
      exact lw_ret hx hb hr hlocks dL_law_524
    · skip
      have h7 : i + 7 ≤ L := cx_law7 (by omega) (by omega) h24
      obtain ⟨⟨hn, hk, ena, eka⟩, ⟨eM, ⟨hO, hM1, hM2, hR3, hX4, hM5⟩, hOn⟩, ⟨⟨e0, e1, e2, e3⟩, ⟨hP, hR0, hR1, hUa, hQa, hVa, hWa⟩, he, hCL, hB4, hU, hW, hV⟩, hC, hKN⟩ := id hI
      have hna : na ≤ 20 := by omega
      have hka : ka ≤ 80 := by omega
      have hPa : cx_P (Ta 3) 20 := by rw [← e3]; exact hP
      have hK0a : cx_R (Ta 0) 4 := by rw [← e0]; exact hR0
      have hOa : cx_R (Ma 0) 20 := by rw [← eM]; exact hO
      have hM1a : cx_R (Ma 1) 10 := by rw [← eM]; exact hM1
      have hM2a : cx_R (Ma 2) 5 := by rw [← eM]; exact hM2
      have hXa : cx_R (Ma 4) 4 := by rw [← eM]; exact hX4
      have hM5a : cx_R (Ma 5) 30 := by rw [← eM]; exact hM5
      have hOna : ∀ j, j < ka → (Ma 0 j).toNatClampNeg < na := by rw [← eM, eka, ena]; exact hOn
      refine lv_aload_n hx hb dL_law_27 rfl (lv_at hl 0 rfl) ?_
      refine lv_iload_n hx hb dL_law_28 rfl (lv_at hl 3 rfl) ?_
      refine cx_sld (k := i) hx hb hX hbl hbA hS (by omega) (by omega) dL_law_29 ?_
      refine lv_bipush (v := nI 15) hx hb dL_law_30 (by decide) ?_
      refine lv_iand hx hb dL_law_32 ?_
      obtain ⟨j, hj, ej⟩ := pk_andE (xs i) (m := nI 15) 4 (by decide)
      rw [ej]
      by_cases hjn : 11 ≤ j
      · refine lv_tableOut (tgt := 517) hx hb dL_law_33 (Or.inr (by rw [nI_toInt (by omega)]; omega)) (by decide) ?_
        refine lv_iinc (v := nI (i + 7)) (lv' := [(3, .int (nI (i + 7))), (0, .ref b), (1, .ref (qx 0)), (2, .ref (qm 0))]) hx hb dL_law_517 hl (k := 3) rfl (nI_add i 7) (by decide) rfl (fun ls hl => ?_)
        refine lv_goto (tgt := 18) hx hb dL_law_520 (by decide) ?_
        exact ih (i + 7) n T k M d C J g na Ta ka Ma da Za Fa _ _ _ (by omega) (by omega) hI hS (lv_sub hl [1, 2, 3, 0] rfl)
      · have hjl : j < 11 := by omega
        rcases (show j = 0 ∨ j = 1 ∨ j = 2 ∨ j = 3 ∨ j = 4 ∨ j = 5 ∨ j = 6 ∨ j = 7 ∨ j = 8 ∨ j = 9 ∨ j = 10 by omega) with rfl | rfl | rfl | rfl | rfl | rfl | rfl | rfl | rfl | rfl | rfl
        · refine lv_tableIn (off := 59) (tgt := 92) hx hb dL_law_33 (by decide) (by decide) (by decide) (by decide) ?_
          refine lv_aload_n hx hb dL_law_92 rfl (lv_at hl 1 rfl) ?_
          refine lv_aload_n hx hb dL_law_93 rfl (lv_at hl 0 rfl) ?_
          refine lv_iload_n hx hb dL_law_94 rfl (lv_at hl 3 rfl) ?_
          refine lv_iconst (v := (1 : Int32)) hx hb dL_law_95 (by decide) ?_
          refine lv_iadd hx hb dL_law_96 ?_
          refine cx_topr (z := nI (i + 1)) (nI_1 _) ?_
          refine cx_sld (k := i + 1) hx hb hX hbl hbA hS (by omega) (by omega) dL_law_97 ?_
          refine lv_aload_n hx hb dL_law_98 rfl (lv_at hl 0 rfl) ?_
          refine lv_iload_n hx hb dL_law_99 rfl (lv_at hl 3 rfl) ?_
          refine lv_iconst (v := nI 2) hx hb dL_law_100 (by decide) ?_
          refine lv_iadd hx hb dL_law_101 ?_
          refine cx_topr (z := nI (i + 2)) (nI_add _ _) ?_
          refine cx_sld (k := i + 2) hx hb hX hbl hbA hS (by omega) (by omega) dL_law_102 ?_
          refine lv_aload_n hx hb dL_law_103 rfl (lv_at hl 0 rfl) ?_
          refine lv_iload_n hx hb dL_law_104 rfl (lv_at hl 3 rfl) ?_
          refine lv_iconst (v := nI 3) hx hb dL_law_105 (by decide) ?_
          refine lv_iadd hx hb dL_law_106 ?_
          refine cx_topr (z := nI (i + 3)) (nI_add _ _) ?_
          refine cx_sld (k := i + 3) hx hb hX hbl hbA hS (by omega) (by omega) dL_law_107 ?_
          refine lv_aload_n hx hb dL_law_108 rfl (lv_at hl 0 rfl) ?_
          refine lv_iload_n hx hb dL_law_109 rfl (lv_at hl 3 rfl) ?_
          refine lv_iconst (v := nI 4) hx hb dL_law_110 (by decide) ?_
          refine lv_iadd hx hb dL_law_111 ?_
          refine cx_topr (z := nI (i + 4)) (nI_add _ _) ?_
          refine cx_sld (k := i + 4) hx hb hX hbl hbA hS (by omega) (by omega) dL_law_112 ?_
          refine cx_lVi (As := [.int (xs (i + 1)), .int (xs (i + 2)), .int (xs (i + 3)), .int (xs (i + 4))]) (rest := []) (wr := (cyW qm cI cZ na Ta ka Ma da Za Fa)) ⟨hx, hb, hml, hown, hts⟩ hE hS [0, 1, 2, 3, 4, 5, 6, 7, 8, 9, 10, 11, 12, 13, 14, 15, 16, 17, 18, 19, 20, 21, 22, 23, 24, 25, 26, 27, 28] [29, 30, 31, 32, 33, 34, 35, 36, 37, 38, 39, 40, 41, 42, 43, 44, 45, 46, 47] cx_ndX rfl rfl cx_ndR cx_diX (c_X6_type l D qx cI cJ n T k M d C J g (xs (i + 1)) (xs (i + 2)) (xs (i + 3)) (xs (i + 4)) hn) (hE.1.sub [0, 1] rfl) (cwV 4 hts gL_law_X6_type rfl rfl rfl (by decide +kernel) ⟨Nat.le_of_ble_eq_true rfl, Nat.le_of_ble_eq_true rfl⟩) 0 6 rfl rfl rfl hl.1 rfl (Nat.le_of_ble_eq_true rfl) ⟨Nat.le_of_ble_eq_true rfl, Nat.le_of_ble_eq_true rfl⟩ dL_law_113 (fun r_113 u_113 H locs hp_113 hS => ?_)
          obtain ⟨n1_113, T1_113, J1_113⟩ := u_113
          have hS : cx_S D vwCl A s ((cyW qm cI cZ na Ta ka Ma da Za Fa) ++ (cxW qx cI cJ n1_113 T1_113 k M d C J1_113 g)) H locs := hS
          have hS := hS.cut (ws := (cxW qx cI cJ n1_113 T1_113 k M d C J1_113 g) ++ (cyW qm cI cZ na Ta ka Ma da Za Fa)) [19, 20, 21, 22, 23, 24, 25, 26, 27, 28, 29, 30, 31, 32, 33, 34, 35, 36, 37, 38, 39, 40, 41, 42, 43, 44, 45, 46, 47, 0, 1, 2, 3, 4, 5, 6, 7, 8, 9, 10, 11, 12, 13, 14, 15, 16, 17, 18] cx_ndP rfl
          have hp_113 : (¬ cx_okT (xs (i + 1)) (xs (i + 2)) (xs (i + 3)) (xs (i + 4)) ∧ r_113 = (-1 : Int32) ∧ n1_113 = n ∧ T1_113 = T ∧ J1_113 = J) ∨ (cx_okT (xs (i + 1)) (xs (i + 2)) (xs (i + 3)) (xs (i + 4)) ∧ ¬ n < 20 ∧ r_113 = (-2 : Int32) ∧ n1_113 = n ∧ T1_113 = T ∧ J1_113 = J) ∨ (cx_okT (xs (i + 1)) (xs (i + 2)) (xs (i + 3)) (xs (i + 4)) ∧ n < 20 ∧ r_113 = nI n ∧ n1_113 = n + 1 ∧ J1_113 = cx_u (cx_u J 1 (fun _ => (0 : Int32))) 2 (fun _ => (-1 : Int32)) ∧ ∃ (f : Nat → Int32) (b : Int32), T1_113 = cx_u (cx_u (cx_u (cx_u (cx_u (cx_u T 0 (upd (T 0) n (xs (i + 1)))) 1 (upd (T 1) n (xs (i + 2)))) 2 (upd (T 2) n (xs (i + 3)))) 3 (upd (T 3) n (xs (i + 4)))) 4 (upd (T 4) n b)) 10 f ∧ cx_CL T1_113 n1_113 (T1_113 10) ∧ b = (if (xs (i + 4)) = -1 then (0 : Int32) else ((1 : Int32) <<< ((xs (i + 4)) &&& 31)))) := hp_113
          refine lv_pop hx hb dL_law_116 rfl ?_
          refine lv_aload_n hx hb dL_law_117 rfl (lv_at hl 2 rfl) ?_
          refine lv_aload_n hx hb dL_law_118 rfl (lv_at hl 0 rfl) ?_
          refine lv_iload_n hx hb dL_law_119 rfl (lv_at hl 3 rfl) ?_
          refine lv_iconst (v := (1 : Int32)) hx hb dL_law_120 (by decide) ?_
          refine lv_iadd hx hb dL_law_121 ?_
          refine cx_topr (z := nI (i + 1)) (nI_1 _) ?_
          refine cx_sld (k := i + 1) hx hb hX hbl hbA hS (by omega) (by omega) dL_law_122 ?_
          refine lv_aload_n hx hb dL_law_123 rfl (lv_at hl 0 rfl) ?_
          refine lv_iload_n hx hb dL_law_124 rfl (lv_at hl 3 rfl) ?_
          refine lv_iconst (v := nI 2) hx hb dL_law_125 (by decide) ?_
          refine lv_iadd hx hb dL_law_126 ?_
          refine cx_topr (z := nI (i + 2)) (nI_add _ _) ?_
          refine cx_sld (k := i + 2) hx hb hX hbl hbA hS (by omega) (by omega) dL_law_127 ?_
          refine lv_aload_n hx hb dL_law_128 rfl (lv_at hl 0 rfl) ?_
          refine lv_iload_n hx hb dL_law_129 rfl (lv_at hl 3 rfl) ?_
          refine lv_iconst (v := nI 3) hx hb dL_law_130 (by decide) ?_
          refine lv_iadd hx hb dL_law_131 ?_
          refine cx_topr (z := nI (i + 3)) (nI_add _ _) ?_
          refine cx_sld (k := i + 3) hx hb hX hbl hbA hS (by omega) (by omega) dL_law_132 ?_
          refine lv_aload_n hx hb dL_law_133 rfl (lv_at hl 0 rfl) ?_
          refine lv_iload_n hx hb dL_law_134 rfl (lv_at hl 3 rfl) ?_
          refine lv_iconst (v := nI 4) hx hb dL_law_135 (by decide) ?_
          refine lv_iadd hx hb dL_law_136 ?_
          refine cx_topr (z := nI (i + 4)) (nI_add _ _) ?_
          refine cx_sld (k := i + 4) hx hb hX hbl hbA hS (by omega) (by omega) dL_law_137 ?_
          refine cx_lVi (As := [.int (xs (i + 1)), .int (xs (i + 2)), .int (xs (i + 3)), .int (xs (i + 4))]) (rest := []) (wr := (cxW qx cI cJ n1_113 T1_113 k M d C J1_113 g)) ⟨hx, hb, hml, hown, hts⟩ hE hS [29, 30, 31, 32, 33, 34, 35, 36, 37, 38, 39, 40, 41, 42, 43, 44, 45, 46, 47] [0, 1, 2, 3, 4, 5, 6, 7, 8, 9, 10, 11, 12, 13, 14, 15, 16, 17, 18, 19, 20, 21, 22, 23, 24, 25, 26, 27, 28] cx_ndR rfl rfl cx_ndX cx_diR (c_X7_type l D qm cI cZ na Ta ka Ma da Za Fa (xs (i + 1)) (xs (i + 2)) (xs (i + 3)) (xs (i + 4)) hna) (hE.1.sub [0, 2] rfl) (cwV 4 hts gL_law_X7_type rfl rfl rfl (by decide +kernel) ⟨Nat.le_of_ble_eq_true rfl, Nat.le_of_ble_eq_true rfl⟩) 0 7 rfl rfl rfl hl.1 rfl (Nat.le_of_ble_eq_true rfl) ⟨Nat.le_of_ble_eq_true rfl, Nat.le_of_ble_eq_true rfl⟩ dL_law_138 (fun r_138 u_138 H locs hp_138 hS => ?_)
          obtain ⟨n1_138, T1_138, Z1_138⟩ := u_138
          have hS : cx_S D vwCl A s ((cxW qx cI cJ n1_113 T1_113 k M d C J1_113 g) ++ (cyW qm cI cZ n1_138 T1_138 ka Ma da Z1_138 Fa)) H locs := hS
          have hp_138 : (¬ cx_okT (xs (i + 1)) (xs (i + 2)) (xs (i + 3)) (xs (i + 4)) ∧ r_138 = (-1 : Int32) ∧ n1_138 = na ∧ T1_138 = Ta ∧ Z1_138 = Za) ∨ (cx_okT (xs (i + 1)) (xs (i + 2)) (xs (i + 3)) (xs (i + 4)) ∧ ¬ na < 20 ∧ r_138 = (-2 : Int32) ∧ n1_138 = na ∧ T1_138 = Ta ∧ Z1_138 = Za) ∨ (cx_okT (xs (i + 1)) (xs (i + 2)) (xs (i + 3)) (xs (i + 4)) ∧ na < 20 ∧ r_138 = nI na ∧ n1_138 = na + 1 ∧ T1_138 = cx_u (cx_u (cx_u (cx_u Ta 0 (upd (Ta 0) na (xs (i + 1)))) 1 (upd (Ta 1) na (xs (i + 2)))) 2 (upd (Ta 2) na (xs (i + 3)))) 3 (upd (Ta 3) na (xs (i + 4))) ∧ Z1_138 = cx_u Za 3 (fun _ => (0 : Int32))) := hp_138
          have hR := lw_type (i' := i + 7) (J1 := J1_113) hI hp_113 hp_138
          refine lv_pop hx hb dL_law_141 rfl ?_
          refine lv_goto (tgt := 517) hx hb dL_law_142 (by decide) ?_
          refine lv_iinc (v := nI (i + 7)) (lv' := [(3, .int (nI (i + 7))), (0, .ref b), (1, .ref (qx 0)), (2, .ref (qm 0))]) hx hb dL_law_517 hl (k := 3) rfl (nI_add i 7) (by decide) rfl (fun ls hl => ?_)
          refine lv_goto (tgt := 18) hx hb dL_law_520 (by decide) ?_
          exact ih (i + 7) n1_113 T1_113 k M d C J1_113 g n1_138 T1_138 ka Ma da Z1_138 Fa _ _ _ (by omega) (by omega) hR.2 hS (lv_sub hl [1, 2, 3, 0] rfl)
        · refine lv_tableIn (off := 112) (tgt := 145) hx hb dL_law_33 (by decide) (by decide) (by decide) (by decide) ?_
          refine lv_aload_n hx hb dL_law_145 rfl (lv_at hl 1 rfl) ?_
          refine lv_aload_n hx hb dL_law_146 rfl (lv_at hl 0 rfl) ?_
          refine lv_iload_n hx hb dL_law_147 rfl (lv_at hl 3 rfl) ?_
          refine lv_iconst (v := (1 : Int32)) hx hb dL_law_148 (by decide) ?_
          refine lv_iadd hx hb dL_law_149 ?_
          refine cx_topr (z := nI (i + 1)) (nI_1 _) ?_
          refine cx_sld (k := i + 1) hx hb hX hbl hbA hS (by omega) (by omega) dL_law_150 ?_
          refine lv_aload_n hx hb dL_law_151 rfl (lv_at hl 0 rfl) ?_
          refine lv_iload_n hx hb dL_law_152 rfl (lv_at hl 3 rfl) ?_
          refine lv_iconst (v := nI 2) hx hb dL_law_153 (by decide) ?_
          refine lv_iadd hx hb dL_law_154 ?_
          refine cx_topr (z := nI (i + 2)) (nI_add _ _) ?_
          refine cx_sld (k := i + 2) hx hb hX hbl hbA hS (by omega) (by omega) dL_law_155 ?_
          refine cx_lVi (As := [.int (xs (i + 1)), .int (xs (i + 2))]) (rest := []) (wr := (cyW qm cI cZ na Ta ka Ma da Za Fa)) ⟨hx, hb, hml, hown, hts⟩ hE hS [0, 1, 2, 3, 4, 5, 6, 7, 8, 9, 10, 11, 12, 13, 14, 15, 16, 17, 18, 19, 20, 21, 22, 23, 24, 25, 26, 27, 28] [29, 30, 31, 32, 33, 34, 35, 36, 37, 38, 39, 40, 41, 42, 43, 44, 45, 46, 47] cx_ndX rfl rfl cx_ndR cx_diX (c_X6_upper l D qx cI cJ n T k M d C J g (xs (i + 1)) (xs (i + 2)) hn) (hE.1.sub [0, 1] rfl) (cwV 2 hts gL_law_X6_upper rfl rfl rfl (by decide +kernel) ⟨Nat.le_of_ble_eq_true rfl, Nat.le_of_ble_eq_true rfl⟩) 0 6 rfl rfl rfl hl.1 rfl (Nat.le_of_ble_eq_true rfl) ⟨Nat.le_of_ble_eq_true rfl, Nat.le_of_ble_eq_true rfl⟩ dL_law_156 (fun r_156 u_156 H locs hp_156 hS => ?_)
          obtain ⟨T1_156, J1_156⟩ := u_156
          have hS : cx_S D vwCl A s ((cyW qm cI cZ na Ta ka Ma da Za Fa) ++ (cxW qx cI cJ n T1_156 k M d C J1_156 g)) H locs := hS
          have hS := hS.cut (ws := (cxW qx cI cJ n T1_156 k M d C J1_156 g) ++ (cyW qm cI cZ na Ta ka Ma da Za Fa)) [19, 20, 21, 22, 23, 24, 25, 26, 27, 28, 29, 30, 31, 32, 33, 34, 35, 36, 37, 38, 39, 40, 41, 42, 43, 44, 45, 46, 47, 0, 1, 2, 3, 4, 5, 6, 7, 8, 9, 10, 11, 12, 13, 14, 15, 16, 17, 18] cx_ndP rfl
          have hp_156 : (¬ ((0 ≤ (xs (i + 1)) ∧ (xs (i + 1)) < nI n) ∧ (0 ≤ (xs (i + 2)) ∧ (xs (i + 2)) < nI 20)) ∧ r_156 = (-1 : Int32) ∧ T1_156 = T ∧ J1_156 = J) ∨ (((0 ≤ (xs (i + 1)) ∧ (xs (i + 1)) < nI n) ∧ (0 ≤ (xs (i + 2)) ∧ (xs (i + 2)) < nI 20)) ∧ ¬ ((T 7) ((xs (i + 1)).toNatClampNeg) < nI 3) ∧ r_156 = (-2 : Int32) ∧ T1_156 = T ∧ J1_156 = J) ∨ (((0 ≤ (xs (i + 1)) ∧ (xs (i + 1)) < nI n) ∧ (0 ≤ (xs (i + 2)) ∧ (xs (i + 2)) < nI 20)) ∧ ((T 7) ((xs (i + 1)).toNatClampNeg) < nI 3) ∧ r_156 = (T 7) ((xs (i + 1)).toNatClampNeg) + 1 ∧ J1_156 = cx_u (cx_u J 1 (fun _ => (0 : Int32))) 2 (fun _ => (-1 : Int32)) ∧ ∃ (f : Nat → Int32), T1_156 = cx_u (cx_u (cx_u (cx_u T 6 (upd (T 6) ((xs (i + 1)).toNatClampNeg) (((T 6) ((xs (i + 1)).toNatClampNeg)) ||| (((T 5) ((xs (i + 1)).toNatClampNeg)) &&& ((1 : Int32) <<< ((xs (i + 2)) &&& 31)))))) 5 (upd (T 5) ((xs (i + 1)).toNatClampNeg) (((T 5) ((xs (i + 1)).toNatClampNeg)) ||| ((1 : Int32) <<< ((xs (i + 2)) &&& 31))))) 7 (upd (T 7) ((xs (i + 1)).toNatClampNeg) ((T 7) ((xs (i + 1)).toNatClampNeg) + 1))) 10 f ∧ cx_CL T1_156 n (T1_156 10)) := hp_156
          refine lv_pop hx hb dL_law_159 rfl ?_
          refine lv_aload_n hx hb dL_law_160 rfl (lv_at hl 2 rfl) ?_
          refine lv_aload_n hx hb dL_law_161 rfl (lv_at hl 0 rfl) ?_
          refine lv_iload_n hx hb dL_law_162 rfl (lv_at hl 3 rfl) ?_
          refine lv_iconst (v := (1 : Int32)) hx hb dL_law_163 (by decide) ?_
          refine lv_iadd hx hb dL_law_164 ?_
          refine cx_topr (z := nI (i + 1)) (nI_1 _) ?_
          refine cx_sld (k := i + 1) hx hb hX hbl hbA hS (by omega) (by omega) dL_law_165 ?_
          refine lv_aload_n hx hb dL_law_166 rfl (lv_at hl 0 rfl) ?_
          refine lv_iload_n hx hb dL_law_167 rfl (lv_at hl 3 rfl) ?_
          refine lv_iconst (v := nI 2) hx hb dL_law_168 (by decide) ?_
          refine lv_iadd hx hb dL_law_169 ?_
          refine cx_topr (z := nI (i + 2)) (nI_add _ _) ?_
          refine cx_sld (k := i + 2) hx hb hX hbl hbA hS (by omega) (by omega) dL_law_170 ?_
          refine cx_lVi (As := [.int (xs (i + 1)), .int (xs (i + 2))]) (rest := []) (wr := (cxW qx cI cJ n T1_156 k M d C J1_156 g)) ⟨hx, hb, hml, hown, hts⟩ hE hS [29, 30, 31, 32, 33, 34, 35, 36, 37, 38, 39, 40, 41, 42, 43, 44, 45, 46, 47] [0, 1, 2, 3, 4, 5, 6, 7, 8, 9, 10, 11, 12, 13, 14, 15, 16, 17, 18, 19, 20, 21, 22, 23, 24, 25, 26, 27, 28] cx_ndR rfl rfl cx_ndX cx_diR (c_X7_upper l D qm cI cZ na Ta ka Ma da Za Fa (xs (i + 1)) (xs (i + 2)) hna hVa) (hE.1.sub [0, 2] rfl) (cwV 2 hts gL_law_X7_upper rfl rfl rfl (by decide +kernel) ⟨Nat.le_of_ble_eq_true rfl, Nat.le_of_ble_eq_true rfl⟩) 0 7 rfl rfl rfl hl.1 rfl (Nat.le_of_ble_eq_true rfl) ⟨Nat.le_of_ble_eq_true rfl, Nat.le_of_ble_eq_true rfl⟩ dL_law_171 (fun r_171 u_171 H locs hp_171 hS => ?_)
          obtain ⟨T1_171, Z1_171⟩ := u_171
          have hS : cx_S D vwCl A s ((cxW qx cI cJ n T1_156 k M d C J1_156 g) ++ (cyW qm cI cZ na T1_171 ka Ma da Z1_171 Fa)) H locs := hS
          have hp_171 : (¬ ((0 ≤ (xs (i + 1)) ∧ (xs (i + 1)) < nI na) ∧ (0 ≤ (xs (i + 2)) ∧ (xs (i + 2)) < nI 20)) ∧ r_171 = (-1 : Int32) ∧ T1_171 = Ta ∧ Z1_171 = Za) ∨ (((0 ≤ (xs (i + 1)) ∧ (xs (i + 1)) < nI na) ∧ (0 ≤ (xs (i + 2)) ∧ (xs (i + 2)) < nI 20)) ∧ (((Ta 5) ((xs (i + 1)).toNatClampNeg)).toNatClampNeg) = 3 ∧ r_171 = (-2 : Int32) ∧ T1_171 = Ta ∧ Z1_171 = Za) ∨ (((0 ≤ (xs (i + 1)) ∧ (xs (i + 1)) < nI na) ∧ (0 ≤ (xs (i + 2)) ∧ (xs (i + 2)) < nI 20)) ∧ (((Ta 5) ((xs (i + 1)).toNatClampNeg)).toNatClampNeg) < 3 ∧ r_171 = nI ((((Ta 5) ((xs (i + 1)).toNatClampNeg)).toNatClampNeg) + 1) ∧ T1_171 = cx_u (cx_u Ta 4 (upd (Ta 4) (3 * ((xs (i + 1)).toNatClampNeg) + (((Ta 5) ((xs (i + 1)).toNatClampNeg)).toNatClampNeg)) (xs (i + 2)))) 5 (upd (Ta 5) ((xs (i + 1)).toNatClampNeg) (nI ((((Ta 5) ((xs (i + 1)).toNatClampNeg)).toNatClampNeg) + 1))) ∧ Z1_171 = cx_u Za 3 (fun _ => (0 : Int32))) := hp_171
          have hR := lw_upper (i' := i + 7) (J1 := J1_156) (Za1 := Z1_171) hI hp_156 hp_171
          refine lv_pop hx hb dL_law_174 rfl ?_
          refine lv_goto (tgt := 517) hx hb dL_law_175 (by decide) ?_
          refine lv_iinc (v := nI (i + 7)) (lv' := [(3, .int (nI (i + 7))), (0, .ref b), (1, .ref (qx 0)), (2, .ref (qm 0))]) hx hb dL_law_517 hl (k := 3) rfl (nI_add i 7) (by decide) rfl (fun ls hl => ?_)
          refine lv_goto (tgt := 18) hx hb dL_law_520 (by decide) ?_
          exact ih (i + 7) n T1_156 k M d C J1_156 g na T1_171 ka Ma da Z1_171 Fa _ _ _ (by omega) (by omega) hR.2 hS (lv_sub hl [1, 2, 3, 0] rfl)
        · refine lv_tableIn (off := 145) (tgt := 178) hx hb dL_law_33 (by decide) (by decide) (by decide) (by decide) ?_
          refine lv_aload_n hx hb dL_law_178 rfl (lv_at hl 1 rfl) ?_
          refine lv_aload_n hx hb dL_law_179 rfl (lv_at hl 0 rfl) ?_
          refine lv_iload_n hx hb dL_law_180 rfl (lv_at hl 3 rfl) ?_
          refine lv_iconst (v := (1 : Int32)) hx hb dL_law_181 (by decide) ?_
          refine lv_iadd hx hb dL_law_182 ?_
          refine cx_topr (z := nI (i + 1)) (nI_1 _) ?_
          refine cx_sld (k := i + 1) hx hb hX hbl hbA hS (by omega) (by omega) dL_law_183 ?_
          refine lv_aload_n hx hb dL_law_184 rfl (lv_at hl 0 rfl) ?_
          refine lv_iload_n hx hb dL_law_185 rfl (lv_at hl 3 rfl) ?_
          refine lv_iconst (v := nI 2) hx hb dL_law_186 (by decide) ?_
          refine lv_iadd hx hb dL_law_187 ?_
          refine cx_topr (z := nI (i + 2)) (nI_add _ _) ?_
          refine cx_sld (k := i + 2) hx hb hX hbl hbA hS (by omega) (by omega) dL_law_188 ?_
          refine cx_lVi (As := [.int (xs (i + 1)), .int (xs (i + 2))]) (rest := []) (wr := (cyW qm cI cZ na Ta ka Ma da Za Fa)) ⟨hx, hb, hml, hown, hts⟩ hE hS [0, 1, 2, 3, 4, 5, 6, 7, 8, 9, 10, 11, 12, 13, 14, 15, 16, 17, 18, 19, 20, 21, 22, 23, 24, 25, 26, 27, 28] [29, 30, 31, 32, 33, 34, 35, 36, 37, 38, 39, 40, 41, 42, 43, 44, 45, 46, 47] cx_ndX rfl rfl cx_ndR cx_diX (c_X6_permit l D qx cI cJ n T k M d C J g (xs (i + 1)) (xs (i + 2)) hn) (hE.1.sub [0, 1] rfl) (cwV 2 hts gL_law_X6_permit rfl rfl rfl (by decide +kernel) ⟨Nat.le_of_ble_eq_true rfl, Nat.le_of_ble_eq_true rfl⟩) 0 6 rfl rfl rfl hl.1 rfl (Nat.le_of_ble_eq_true rfl) ⟨Nat.le_of_ble_eq_true rfl, Nat.le_of_ble_eq_true rfl⟩ dL_law_189 (fun r_189 u_189 H locs hp_189 hS => ?_)
          obtain ⟨T1_189, J1_189⟩ := u_189
          have hS : cx_S D vwCl A s ((cyW qm cI cZ na Ta ka Ma da Za Fa) ++ (cxW qx cI cJ n T1_189 k M d C J1_189 g)) H locs := hS
          have hS := hS.cut (ws := (cxW qx cI cJ n T1_189 k M d C J1_189 g) ++ (cyW qm cI cZ na Ta ka Ma da Za Fa)) [19, 20, 21, 22, 23, 24, 25, 26, 27, 28, 29, 30, 31, 32, 33, 34, 35, 36, 37, 38, 39, 40, 41, 42, 43, 44, 45, 46, 47, 0, 1, 2, 3, 4, 5, 6, 7, 8, 9, 10, 11, 12, 13, 14, 15, 16, 17, 18] cx_ndP rfl
          have hp_189 : (¬ ((0 ≤ (xs (i + 1)) ∧ (xs (i + 1)) < nI n) ∧ (0 ≤ (xs (i + 2)) ∧ (xs (i + 2)) < nI 20)) ∧ r_189 = (-1 : Int32) ∧ T1_189 = T ∧ J1_189 = J) ∨ (((0 ≤ (xs (i + 1)) ∧ (xs (i + 1)) < nI n) ∧ (0 ≤ (xs (i + 2)) ∧ (xs (i + 2)) < nI 20)) ∧ ¬ ((T 9) ((xs (i + 1)).toNatClampNeg) < nI 3) ∧ r_189 = (-2 : Int32) ∧ T1_189 = T ∧ J1_189 = J) ∨ (((0 ≤ (xs (i + 1)) ∧ (xs (i + 1)) < nI n) ∧ (0 ≤ (xs (i + 2)) ∧ (xs (i + 2)) < nI 20)) ∧ ((T 9) ((xs (i + 1)).toNatClampNeg) < nI 3) ∧ r_189 = (T 9) ((xs (i + 1)).toNatClampNeg) + 1 ∧ J1_189 = cx_u (cx_u J 1 (fun _ => (0 : Int32))) 2 (fun _ => (-1 : Int32)) ∧ T1_189 = cx_u (cx_u T 8 (upd (T 8) ((xs (i + 1)).toNatClampNeg) (((T 8) ((xs (i + 1)).toNatClampNeg)) ||| ((1 : Int32) <<< ((xs (i + 2)) &&& 31))))) 9 (upd (T 9) ((xs (i + 1)).toNatClampNeg) ((T 9) ((xs (i + 1)).toNatClampNeg) + 1))) := hp_189
          refine lv_pop hx hb dL_law_192 rfl ?_
          refine lv_aload_n hx hb dL_law_193 rfl (lv_at hl 2 rfl) ?_
          refine lv_aload_n hx hb dL_law_194 rfl (lv_at hl 0 rfl) ?_
          refine lv_iload_n hx hb dL_law_195 rfl (lv_at hl 3 rfl) ?_
          refine lv_iconst (v := (1 : Int32)) hx hb dL_law_196 (by decide) ?_
          refine lv_iadd hx hb dL_law_197 ?_
          refine cx_topr (z := nI (i + 1)) (nI_1 _) ?_
          refine cx_sld (k := i + 1) hx hb hX hbl hbA hS (by omega) (by omega) dL_law_198 ?_
          refine lv_aload_n hx hb dL_law_199 rfl (lv_at hl 0 rfl) ?_
          refine lv_iload_n hx hb dL_law_200 rfl (lv_at hl 3 rfl) ?_
          refine lv_iconst (v := nI 2) hx hb dL_law_201 (by decide) ?_
          refine lv_iadd hx hb dL_law_202 ?_
          refine cx_topr (z := nI (i + 2)) (nI_add _ _) ?_
          refine cx_sld (k := i + 2) hx hb hX hbl hbA hS (by omega) (by omega) dL_law_203 ?_
          refine cx_lVi (As := [.int (xs (i + 1)), .int (xs (i + 2))]) (rest := []) (wr := (cxW qx cI cJ n T1_189 k M d C J1_189 g)) ⟨hx, hb, hml, hown, hts⟩ hE hS [29, 30, 31, 32, 33, 34, 35, 36, 37, 38, 39, 40, 41, 42, 43, 44, 45, 46, 47] [0, 1, 2, 3, 4, 5, 6, 7, 8, 9, 10, 11, 12, 13, 14, 15, 16, 17, 18, 19, 20, 21, 22, 23, 24, 25, 26, 27, 28] cx_ndR rfl rfl cx_ndX cx_diR (c_X7_permit l D qm cI cZ na Ta ka Ma da Za Fa (xs (i + 1)) (xs (i + 2)) hna hWa) (hE.1.sub [0, 2] rfl) (cwV 2 hts gL_law_X7_permit rfl rfl rfl (by decide +kernel) ⟨Nat.le_of_ble_eq_true rfl, Nat.le_of_ble_eq_true rfl⟩) 0 7 rfl rfl rfl hl.1 rfl (Nat.le_of_ble_eq_true rfl) ⟨Nat.le_of_ble_eq_true rfl, Nat.le_of_ble_eq_true rfl⟩ dL_law_204 (fun r_204 u_204 H locs hp_204 hS => ?_)
          obtain ⟨T1_204, rfl⟩ : ∃ z, z = u_204 := ⟨_, rfl⟩
          have hS : cx_S D vwCl A s ((cxW qx cI cJ n T1_189 k M d C J1_189 g) ++ (cyW qm cI cZ na T1_204 ka Ma da Za Fa)) H locs := hS
          have hp_204 : (¬ ((0 ≤ (xs (i + 1)) ∧ (xs (i + 1)) < nI na) ∧ (0 ≤ (xs (i + 2)) ∧ (xs (i + 2)) < nI 20)) ∧ r_204 = (-1 : Int32) ∧ T1_204 = Ta) ∨ (((0 ≤ (xs (i + 1)) ∧ (xs (i + 1)) < nI na) ∧ (0 ≤ (xs (i + 2)) ∧ (xs (i + 2)) < nI 20)) ∧ (((Ta 7) ((xs (i + 1)).toNatClampNeg)).toNatClampNeg) = 3 ∧ r_204 = (-2 : Int32) ∧ T1_204 = Ta) ∨ (((0 ≤ (xs (i + 1)) ∧ (xs (i + 1)) < nI na) ∧ (0 ≤ (xs (i + 2)) ∧ (xs (i + 2)) < nI 20)) ∧ (((Ta 7) ((xs (i + 1)).toNatClampNeg)).toNatClampNeg) < 3 ∧ r_204 = nI ((((Ta 7) ((xs (i + 1)).toNatClampNeg)).toNatClampNeg) + 1) ∧ T1_204 = cx_u (cx_u Ta 6 (upd (Ta 6) (3 * ((xs (i + 1)).toNatClampNeg) + (((Ta 7) ((xs (i + 1)).toNatClampNeg)).toNatClampNeg)) (xs (i + 2)))) 7 (upd (Ta 7) ((xs (i + 1)).toNatClampNeg) (nI ((((Ta 7) ((xs (i + 1)).toNatClampNeg)).toNatClampNeg) + 1)))) := hp_204
          have hR := lw_permit (i' := i + 7) (J1 := J1_189) hI hp_189 hp_204
          refine lv_pop hx hb dL_law_207 rfl ?_
          refine lv_goto (tgt := 517) hx hb dL_law_208 (by decide) ?_
          refine lv_iinc (v := nI (i + 7)) (lv' := [(3, .int (nI (i + 7))), (0, .ref b), (1, .ref (qx 0)), (2, .ref (qm 0))]) hx hb dL_law_517 hl (k := 3) rfl (nI_add i 7) (by decide) rfl (fun ls hl => ?_)
          refine lv_goto (tgt := 18) hx hb dL_law_520 (by decide) ?_
          exact ih (i + 7) n T1_189 k M d C J1_189 g na T1_204 ka Ma da Za Fa _ _ _ (by omega) (by omega) hR.2 hS (lv_sub hl [1, 2, 3, 0] rfl)
        · refine lv_tableIn (off := 178) (tgt := 211) hx hb dL_law_33 (by decide) (by decide) (by decide) (by decide) ?_
          refine lv_aload_n hx hb dL_law_211 rfl (lv_at hl 1 rfl) ?_
          refine lv_aload_n hx hb dL_law_212 rfl (lv_at hl 0 rfl) ?_
          refine lv_iload_n hx hb dL_law_213 rfl (lv_at hl 3 rfl) ?_
          refine lv_iconst (v := (1 : Int32)) hx hb dL_law_214 (by decide) ?_
          refine lv_iadd hx hb dL_law_215 ?_
          refine cx_topr (z := nI (i + 1)) (nI_1 _) ?_
          refine cx_sld (k := i + 1) hx hb hX hbl hbA hS (by omega) (by omega) dL_law_216 ?_
          refine lv_aload_n hx hb dL_law_217 rfl (lv_at hl 0 rfl) ?_
          refine lv_iload_n hx hb dL_law_218 rfl (lv_at hl 3 rfl) ?_
          refine lv_iconst (v := nI 2) hx hb dL_law_219 (by decide) ?_
          refine lv_iadd hx hb dL_law_220 ?_
          refine cx_topr (z := nI (i + 2)) (nI_add _ _) ?_
          refine cx_sld (k := i + 2) hx hb hX hbl hbA hS (by omega) (by omega) dL_law_221 ?_
          refine lv_aload_n hx hb dL_law_222 rfl (lv_at hl 0 rfl) ?_
          refine lv_iload_n hx hb dL_law_223 rfl (lv_at hl 3 rfl) ?_
          refine lv_iconst (v := nI 3) hx hb dL_law_224 (by decide) ?_
          refine lv_iadd hx hb dL_law_225 ?_
          refine cx_topr (z := nI (i + 3)) (nI_add _ _) ?_
          refine cx_sld (k := i + 3) hx hb hX hbl hbA hS (by omega) (by omega) dL_law_226 ?_
          refine lv_aload_n hx hb dL_law_227 rfl (lv_at hl 0 rfl) ?_
          refine lv_iload_n hx hb dL_law_228 rfl (lv_at hl 3 rfl) ?_
          refine lv_iconst (v := nI 4) hx hb dL_law_229 (by decide) ?_
          refine lv_iadd hx hb dL_law_230 ?_
          refine cx_topr (z := nI (i + 4)) (nI_add _ _) ?_
          refine cx_sld (k := i + 4) hx hb hX hbl hbA hS (by omega) (by omega) dL_law_231 ?_
          refine lv_aload_n hx hb dL_law_232 rfl (lv_at hl 0 rfl) ?_
          refine lv_iload_n hx hb dL_law_233 rfl (lv_at hl 3 rfl) ?_
          refine lv_iconst (v := nI 5) hx hb dL_law_234 (by decide) ?_
          refine lv_iadd hx hb dL_law_235 ?_
          refine cx_topr (z := nI (i + 5)) (nI_add _ _) ?_
          refine cx_sld (k := i + 5) hx hb hX hbl hbA hS (by omega) (by omega) dL_law_236 ?_
          refine lv_aload_n hx hb dL_law_237 rfl (lv_at hl 0 rfl) ?_
          refine lv_iload_n hx hb dL_law_238 rfl (lv_at hl 3 rfl) ?_
          refine lv_bipush (v := nI 6) hx hb dL_law_239 (by decide) ?_
          refine lv_iadd hx hb dL_law_241 ?_
          refine cx_topr (z := nI (i + 6)) (nI_add _ _) ?_
          refine cx_sld (k := i + 6) hx hb hX hbl hbA hS (by omega) (by omega) dL_law_242 ?_
          refine cx_lVi (As := [.int (xs (i + 1)), .int (xs (i + 2)), .int (xs (i + 3)), .int (xs (i + 4)), .int (xs (i + 5)), .int (xs (i + 6))]) (rest := []) (wr := (cyW qm cI cZ na Ta ka Ma da Za Fa)) ⟨hx, hb, hml, hown, hts⟩ hE hS [0, 1, 2, 3, 4, 5, 6, 7, 8, 9, 10, 11, 12, 13, 14, 15, 16, 17, 18, 19, 20, 21, 22, 23, 24, 25, 26, 27, 28] [29, 30, 31, 32, 33, 34, 35, 36, 37, 38, 39, 40, 41, 42, 43, 44, 45, 46, 47] cx_ndX rfl rfl cx_ndR cx_diX (c_X6_member l D qx cI cJ n T k M d C J g (xs (i + 1)) (xs (i + 2)) (xs (i + 3)) (xs (i + 4)) (xs (i + 5)) (xs (i + 6)) hn hk) (hE.1.sub [0, 1] rfl) (cwV 6 hts gL_law_X6_member rfl rfl rfl (by decide +kernel) ⟨Nat.le_of_ble_eq_true rfl, Nat.le_of_ble_eq_true rfl⟩) 0 6 rfl rfl rfl hl.1 rfl (Nat.le_of_ble_eq_true rfl) ⟨Nat.le_of_ble_eq_true rfl, Nat.le_of_ble_eq_true rfl⟩ dL_law_243 (fun r_243 u_243 H locs hp_243 hS => ?_)
          obtain ⟨k1_243, M1_243, J1_243⟩ := u_243
          have hS : cx_S D vwCl A s ((cyW qm cI cZ na Ta ka Ma da Za Fa) ++ (cxW qx cI cJ n T k1_243 M1_243 d C J1_243 g)) H locs := hS
          have hS := hS.cut (ws := (cxW qx cI cJ n T k1_243 M1_243 d C J1_243 g) ++ (cyW qm cI cZ na Ta ka Ma da Za Fa)) [19, 20, 21, 22, 23, 24, 25, 26, 27, 28, 29, 30, 31, 32, 33, 34, 35, 36, 37, 38, 39, 40, 41, 42, 43, 44, 45, 46, 47, 0, 1, 2, 3, 4, 5, 6, 7, 8, 9, 10, 11, 12, 13, 14, 15, 16, 17, 18] cx_ndP rfl
          have hp_243 : (¬ ((0 ≤ (xs (i + 1)) ∧ (xs (i + 1)) < nI n) ∧ (0 ≤ (xs (i + 2)) ∧ (xs (i + 2)) < nI 10) ∧ (0 ≤ (xs (i + 3)) ∧ (xs (i + 3)) < nI 5) ∧ (0 ≤ (xs (i + 4)) ∧ (xs (i + 4)) < nI 16) ∧ (0 ≤ (xs (i + 5)) ∧ (xs (i + 5)) < nI 4) ∧ (0 ≤ (xs (i + 6)) ∧ (xs (i + 6)) < nI 30)) ∧ r_243 = (-1 : Int32) ∧ k1_243 = k ∧ M1_243 = M ∧ J1_243 = J) ∨ (((0 ≤ (xs (i + 1)) ∧ (xs (i + 1)) < nI n) ∧ (0 ≤ (xs (i + 2)) ∧ (xs (i + 2)) < nI 10) ∧ (0 ≤ (xs (i + 3)) ∧ (xs (i + 3)) < nI 5) ∧ (0 ≤ (xs (i + 4)) ∧ (xs (i + 4)) < nI 16) ∧ (0 ≤ (xs (i + 5)) ∧ (xs (i + 5)) < nI 4) ∧ (0 ≤ (xs (i + 6)) ∧ (xs (i + 6)) < nI 30)) ∧ ¬ k < 80 ∧ r_243 = (-2 : Int32) ∧ k1_243 = k ∧ M1_243 = M ∧ J1_243 = J) ∨ (((0 ≤ (xs (i + 1)) ∧ (xs (i + 1)) < nI n) ∧ (0 ≤ (xs (i + 2)) ∧ (xs (i + 2)) < nI 10) ∧ (0 ≤ (xs (i + 3)) ∧ (xs (i + 3)) < nI 5) ∧ (0 ≤ (xs (i + 4)) ∧ (xs (i + 4)) < nI 16) ∧ (0 ≤ (xs (i + 5)) ∧ (xs (i + 5)) < nI 4) ∧ (0 ≤ (xs (i + 6)) ∧ (xs (i + 6)) < nI 30)) ∧ k < 80 ∧ r_243 = nI k ∧ k1_243 = k + 1 ∧ J1_243 = cx_u (cx_u J 1 (fun _ => (0 : Int32))) 2 (fun _ => (-1 : Int32)) ∧ M1_243 = cx_u (cx_u (cx_u (cx_u (cx_u (cx_u M 0 (upd (M 0) k (xs (i + 1)))) 1 (upd (M 1) k (xs (i + 2)))) 2 (upd (M 2) k (xs (i + 3)))) 3 (upd (M 3) k (xs (i + 4)))) 4 (upd (M 4) k (xs (i + 5)))) 5 (upd (M 5) k (xs (i + 6)))) := hp_243
          refine lv_pop hx hb dL_law_246 rfl ?_
          refine lv_aload_n hx hb dL_law_247 rfl (lv_at hl 2 rfl) ?_
          refine lv_aload_n hx hb dL_law_248 rfl (lv_at hl 0 rfl) ?_
          refine lv_iload_n hx hb dL_law_249 rfl (lv_at hl 3 rfl) ?_
          refine lv_iconst (v := (1 : Int32)) hx hb dL_law_250 (by decide) ?_
          refine lv_iadd hx hb dL_law_251 ?_
          refine cx_topr (z := nI (i + 1)) (nI_1 _) ?_
          refine cx_sld (k := i + 1) hx hb hX hbl hbA hS (by omega) (by omega) dL_law_252 ?_
          refine lv_aload_n hx hb dL_law_253 rfl (lv_at hl 0 rfl) ?_
          refine lv_iload_n hx hb dL_law_254 rfl (lv_at hl 3 rfl) ?_
          refine lv_iconst (v := nI 2) hx hb dL_law_255 (by decide) ?_
          refine lv_iadd hx hb dL_law_256 ?_
          refine cx_topr (z := nI (i + 2)) (nI_add _ _) ?_
          refine cx_sld (k := i + 2) hx hb hX hbl hbA hS (by omega) (by omega) dL_law_257 ?_
          refine lv_aload_n hx hb dL_law_258 rfl (lv_at hl 0 rfl) ?_
          refine lv_iload_n hx hb dL_law_259 rfl (lv_at hl 3 rfl) ?_
          refine lv_iconst (v := nI 3) hx hb dL_law_260 (by decide) ?_
          refine lv_iadd hx hb dL_law_261 ?_
          refine cx_topr (z := nI (i + 3)) (nI_add _ _) ?_
          refine cx_sld (k := i + 3) hx hb hX hbl hbA hS (by omega) (by omega) dL_law_262 ?_
          refine lv_aload_n hx hb dL_law_263 rfl (lv_at hl 0 rfl) ?_
          refine lv_iload_n hx hb dL_law_264 rfl (lv_at hl 3 rfl) ?_
          refine lv_iconst (v := nI 4) hx hb dL_law_265 (by decide) ?_
          refine lv_iadd hx hb dL_law_266 ?_
          refine cx_topr (z := nI (i + 4)) (nI_add _ _) ?_
          refine cx_sld (k := i + 4) hx hb hX hbl hbA hS (by omega) (by omega) dL_law_267 ?_
          refine lv_aload_n hx hb dL_law_268 rfl (lv_at hl 0 rfl) ?_
          refine lv_iload_n hx hb dL_law_269 rfl (lv_at hl 3 rfl) ?_
          refine lv_iconst (v := nI 5) hx hb dL_law_270 (by decide) ?_
          refine lv_iadd hx hb dL_law_271 ?_
          refine cx_topr (z := nI (i + 5)) (nI_add _ _) ?_
          refine cx_sld (k := i + 5) hx hb hX hbl hbA hS (by omega) (by omega) dL_law_272 ?_
          refine lv_aload_n hx hb dL_law_273 rfl (lv_at hl 0 rfl) ?_
          refine lv_iload_n hx hb dL_law_274 rfl (lv_at hl 3 rfl) ?_
          refine lv_bipush (v := nI 6) hx hb dL_law_275 (by decide) ?_
          refine lv_iadd hx hb dL_law_277 ?_
          refine cx_topr (z := nI (i + 6)) (nI_add _ _) ?_
          refine cx_sld (k := i + 6) hx hb hX hbl hbA hS (by omega) (by omega) dL_law_278 ?_
          refine cx_lVi (As := [.int (xs (i + 1)), .int (xs (i + 2)), .int (xs (i + 3)), .int (xs (i + 4)), .int (xs (i + 5)), .int (xs (i + 6))]) (rest := []) (wr := (cxW qx cI cJ n T k1_243 M1_243 d C J1_243 g)) ⟨hx, hb, hml, hown, hts⟩ hE hS [29, 30, 31, 32, 33, 34, 35, 36, 37, 38, 39, 40, 41, 42, 43, 44, 45, 46, 47] [0, 1, 2, 3, 4, 5, 6, 7, 8, 9, 10, 11, 12, 13, 14, 15, 16, 17, 18, 19, 20, 21, 22, 23, 24, 25, 26, 27, 28] cx_ndR rfl rfl cx_ndX cx_diR (c_X7_member l D qm cI cZ na Ta ka Ma da Za Fa (xs (i + 1)) (xs (i + 2)) (xs (i + 3)) (xs (i + 4)) (xs (i + 5)) (xs (i + 6)) hna hka) (hE.1.sub [0, 2] rfl) (cwV 6 hts gL_law_X7_member rfl rfl rfl (by decide +kernel) ⟨Nat.le_of_ble_eq_true rfl, Nat.le_of_ble_eq_true rfl⟩) 0 7 rfl rfl rfl hl.1 rfl (Nat.le_of_ble_eq_true rfl) ⟨Nat.le_of_ble_eq_true rfl, Nat.le_of_ble_eq_true rfl⟩ dL_law_279 (fun r_279 u_279 H locs hp_279 hS => ?_)
          obtain ⟨k1_279, M1_279⟩ := u_279
          have hS : cx_S D vwCl A s ((cxW qx cI cJ n T k1_243 M1_243 d C J1_243 g) ++ (cyW qm cI cZ na Ta k1_279 M1_279 da Za Fa)) H locs := hS
          have hp_279 : (¬ ((0 ≤ (xs (i + 1)) ∧ (xs (i + 1)) < nI na) ∧ (0 ≤ (xs (i + 2)) ∧ (xs (i + 2)) < nI 10) ∧ (0 ≤ (xs (i + 3)) ∧ (xs (i + 3)) < nI 5) ∧ (0 ≤ (xs (i + 4)) ∧ (xs (i + 4)) < nI 16) ∧ (0 ≤ (xs (i + 5)) ∧ (xs (i + 5)) < nI 4) ∧ (0 ≤ (xs (i + 6)) ∧ (xs (i + 6)) < nI 30)) ∧ r_279 = (-1 : Int32) ∧ k1_279 = ka ∧ M1_279 = Ma) ∨ (((0 ≤ (xs (i + 1)) ∧ (xs (i + 1)) < nI na) ∧ (0 ≤ (xs (i + 2)) ∧ (xs (i + 2)) < nI 10) ∧ (0 ≤ (xs (i + 3)) ∧ (xs (i + 3)) < nI 5) ∧ (0 ≤ (xs (i + 4)) ∧ (xs (i + 4)) < nI 16) ∧ (0 ≤ (xs (i + 5)) ∧ (xs (i + 5)) < nI 4) ∧ (0 ≤ (xs (i + 6)) ∧ (xs (i + 6)) < nI 30)) ∧ ¬ ka < 80 ∧ r_279 = (-2 : Int32) ∧ k1_279 = ka ∧ M1_279 = Ma) ∨ (((0 ≤ (xs (i + 1)) ∧ (xs (i + 1)) < nI na) ∧ (0 ≤ (xs (i + 2)) ∧ (xs (i + 2)) < nI 10) ∧ (0 ≤ (xs (i + 3)) ∧ (xs (i + 3)) < nI 5) ∧ (0 ≤ (xs (i + 4)) ∧ (xs (i + 4)) < nI 16) ∧ (0 ≤ (xs (i + 5)) ∧ (xs (i + 5)) < nI 4) ∧ (0 ≤ (xs (i + 6)) ∧ (xs (i + 6)) < nI 30)) ∧ ka < 80 ∧ r_279 = nI ka ∧ k1_279 = ka + 1 ∧ M1_279 = cx_u (cx_u (cx_u (cx_u (cx_u (cx_u Ma 0 (upd (Ma 0) ka (xs (i + 1)))) 1 (upd (Ma 1) ka (xs (i + 2)))) 2 (upd (Ma 2) ka (xs (i + 3)))) 3 (upd (Ma 3) ka (xs (i + 4)))) 4 (upd (Ma 4) ka (xs (i + 5)))) 5 (upd (Ma 5) ka (xs (i + 6)))) := hp_279
          have hR := lw_member (i' := i + 7) (J1 := J1_243) hI hp_243 hp_279
          refine lv_pop hx hb dL_law_282 rfl ?_
          refine lv_goto (tgt := 517) hx hb dL_law_283 (by decide) ?_
          refine lv_iinc (v := nI (i + 7)) (lv' := [(3, .int (nI (i + 7))), (0, .ref b), (1, .ref (qx 0)), (2, .ref (qm 0))]) hx hb dL_law_517 hl (k := 3) rfl (nI_add i 7) (by decide) rfl (fun ls hl => ?_)
          refine lv_goto (tgt := 18) hx hb dL_law_520 (by decide) ?_
          exact ih (i + 7) n T k1_243 M1_243 d C J1_243 g na Ta k1_279 M1_279 da Za Fa _ _ _ (by omega) (by omega) hR.2 hS (lv_sub hl [1, 2, 3, 0] rfl)
        · refine lv_tableIn (off := 253) (tgt := 286) hx hb dL_law_33 (by decide) (by decide) (by decide) (by decide) ?_
          refine lv_aload_n hx hb dL_law_286 rfl (lv_at hl 1 rfl) ?_
          refine lv_aload_n hx hb dL_law_287 rfl (lv_at hl 0 rfl) ?_
          refine lv_iload_n hx hb dL_law_288 rfl (lv_at hl 3 rfl) ?_
          refine lv_iconst (v := (1 : Int32)) hx hb dL_law_289 (by decide) ?_
          refine lv_iadd hx hb dL_law_290 ?_
          refine cx_topr (z := nI (i + 1)) (nI_1 _) ?_
          refine cx_sld (k := i + 1) hx hb hX hbl hbA hS (by omega) (by omega) dL_law_291 ?_
          refine cx_lVi (As := [.int (xs (i + 1))]) (rest := []) (wr := (cyW qm cI cZ na Ta ka Ma da Za Fa)) ⟨hx, hb, hml, hown, hts⟩ hE hS [0, 1, 2, 3, 4, 5, 6, 7, 8, 9, 10, 11, 12, 13, 14, 15, 16, 17, 18, 19, 20, 21, 22, 23, 24, 25, 26, 27, 28] [29, 30, 31, 32, 33, 34, 35, 36, 37, 38, 39, 40, 41, 42, 43, 44, 45, 46, 47] cx_ndX rfl rfl cx_ndR cx_diX (c_X6_faults l D qx cI cJ n T k M d C J g (xs (i + 1)) hn hk hO hP hOn hR1 hR3 hB4 hC) (hE.1.sub [0, 1] rfl) (cwV 1 hts gL_law_X6_faults rfl rfl rfl (by decide +kernel) ⟨Nat.le_of_ble_eq_true rfl, Nat.le_of_ble_eq_true rfl⟩) 0 6 rfl rfl rfl hl.1 rfl (Nat.le_of_ble_eq_true rfl) ⟨Nat.le_of_ble_eq_true rfl, Nat.le_of_ble_eq_true rfl⟩ dL_law_292 (fun r_292 u_292 H locs hp_292 hS => ?_)
          obtain ⟨co_292, d1_292, fo_292, J1_292, ga_292⟩ := u_292
          have hS : cx_S D vwCl A s ((cyW qm cI cZ na Ta ka Ma da Za Fa) ++ (cxW qx cI cJ n T k M d1_292 (cx_u (cx_u C 4 (fun _ => co_292)) 0 fo_292) J1_292 ga_292)) H locs := hS
          have hS := hS.cut (ws := (cxW qx cI cJ n T k M d1_292 (cx_u (cx_u C 4 (fun _ => co_292)) 0 fo_292) J1_292 ga_292) ++ (cyW qm cI cZ na Ta ka Ma da Za Fa)) [19, 20, 21, 22, 23, 24, 25, 26, 27, 28, 29, 30, 31, 32, 33, 34, 35, 36, 37, 38, 39, 40, 41, 42, 43, 44, 45, 46, 47, 0, 1, 2, 3, 4, 5, 6, 7, 8, 9, 10, 11, 12, 13, 14, 15, 16, 17, 18] cx_ndP rfl
          have hp_292 : (∀ a, a < n → bt ((J1_292 1) 0) a = true → (¬ (J1_292 0) a ≤ 0 ↔ cx_AF n k (T 0) (T 1) (T 2) (T 3) M (cx_Uc T) (cx_Wc T) (cx_Vc T) (cx_Ac T n) a)) ∧ ((J1_292 2) 0 = -1 ∨ ∃ a, a < n ∧ (J1_292 2) 0 = nI a ∧ (cx_G ga_292 ↔ cx_AF n k (T 0) (T 1) (T 2) (T 3) M (cx_Uc T) (cx_Wc T) (cx_Vc T) (cx_Ac T n) a)) := hp_292
          refine lv_pop hx hb dL_law_295 rfl ?_
          refine lv_aload_n hx hb dL_law_296 rfl (lv_at hl 2 rfl) ?_
          refine lv_aload_n hx hb dL_law_297 rfl (lv_at hl 0 rfl) ?_
          refine lv_iload_n hx hb dL_law_298 rfl (lv_at hl 3 rfl) ?_
          refine lv_iconst (v := (1 : Int32)) hx hb dL_law_299 (by decide) ?_
          refine lv_iadd hx hb dL_law_300 ?_
          refine cx_topr (z := nI (i + 1)) (nI_1 _) ?_
          refine cx_sld (k := i + 1) hx hb hX hbl hbA hS (by omega) (by omega) dL_law_301 ?_
          refine cx_lVi (As := [.int (xs (i + 1))]) (rest := []) (wr := (cxW qx cI cJ n T k M d1_292 (cx_u (cx_u C 4 (fun _ => co_292)) 0 fo_292) J1_292 ga_292)) ⟨hx, hb, hml, hown, hts⟩ hE hS [29, 30, 31, 32, 33, 34, 35, 36, 37, 38, 39, 40, 41, 42, 43, 44, 45, 46, 47] [0, 1, 2, 3, 4, 5, 6, 7, 8, 9, 10, 11, 12, 13, 14, 15, 16, 17, 18, 19, 20, 21, 22, 23, 24, 25, 26, 27, 28] cx_ndR rfl rfl cx_ndX cx_diR (c_X7_faults l D qm cI cZ na Ta ka Ma da Za Fa (xs (i + 1)) hna hPa hUa hVa hKN hQa hWa hOa hka hOna hXa hK0a hM5a hM1a hM2a) (hE.1.sub [0, 2] rfl) (cwV 1 hts gL_law_X7_faults rfl rfl rfl (by decide +kernel) ⟨Nat.le_of_ble_eq_true rfl, Nat.le_of_ble_eq_true rfl⟩) 0 7 rfl rfl rfl hl.1 rfl (Nat.le_of_ble_eq_true rfl) ⟨Nat.le_of_ble_eq_true rfl, Nat.le_of_ble_eq_true rfl⟩ dL_law_302 (fun r_302 u_302 H locs hp_302 hS => ?_)
          obtain ⟨za_302, kn_302, d1_302, fo_302, zf_302⟩ := u_302
          have hS : cx_S D vwCl A s ((cxW qx cI cJ n T k M d1_292 (cx_u (cx_u C 4 (fun _ => co_292)) 0 fo_292) J1_292 ga_292) ++ (cyW qm cI cZ na Ta ka Ma d1_302 (cx_u (cx_u (cx_u Za 0 za_302) 3 (fun _ => kn_302)) 1 zf_302) (cx_u Fa 0 fo_302))) H locs := hS
          obtain ⟨hKN_302, hp_302⟩ := hp_302
          refine lv_pop hx hb dL_law_305 rfl ?_
          refine lv_goto (tgt := 517) hx hb dL_law_306 (by decide) ?_
          refine lv_iinc (v := nI (i + 7)) (lv' := [(3, .int (nI (i + 7))), (0, .ref b), (1, .ref (qx 0)), (2, .ref (qm 0))]) hx hb dL_law_517 hl (k := 3) rfl (nI_add i 7) (by decide) rfl (fun ls hl => ?_)
          refine lv_goto (tgt := 18) hx hb dL_law_520 (by decide) ?_
          exact ih (i + 7) n T k M d1_292 (cx_u (cx_u C 4 (fun _ => co_292)) 0 fo_292) J1_292 ga_292 na Ta ka Ma d1_302 (cx_u (cx_u (cx_u Za 0 za_302) 3 (fun _ => kn_302)) 1 zf_302) (cx_u Fa 0 fo_302) _ _ _ (by omega) (by omega) (lw_keep hI hp_292 hKN_302) hS (lv_sub hl [1, 2, 3, 0] rfl)
        · refine lv_tableIn (off := 276) (tgt := 309) hx hb dL_law_33 (by decide) (by decide) (by decide) (by decide) ?_
          refine lv_aload_n hx hb dL_law_309 rfl (lv_at hl 1 rfl) ?_
          refine lv_aload_n hx hb dL_law_310 rfl (lv_at hl 0 rfl) ?_
          refine lv_iload_n hx hb dL_law_311 rfl (lv_at hl 3 rfl) ?_
          refine lv_iconst (v := (1 : Int32)) hx hb dL_law_312 (by decide) ?_
          refine lv_iadd hx hb dL_law_313 ?_
          refine cx_topr (z := nI (i + 1)) (nI_1 _) ?_
          refine cx_sld (k := i + 1) hx hb hX hbl hbA hS (by omega) (by omega) dL_law_314 ?_
          refine lv_aload_n hx hb dL_law_315 rfl (lv_at hl 0 rfl) ?_
          refine lv_iload_n hx hb dL_law_316 rfl (lv_at hl 3 rfl) ?_
          refine lv_iconst (v := nI 2) hx hb dL_law_317 (by decide) ?_
          refine lv_iadd hx hb dL_law_318 ?_
          refine cx_topr (z := nI (i + 2)) (nI_add _ _) ?_
          refine cx_sld (k := i + 2) hx hb hX hbl hbA hS (by omega) (by omega) dL_law_319 ?_
          refine lv_aload_n hx hb dL_law_320 rfl (lv_at hl 0 rfl) ?_
          refine lv_iload_n hx hb dL_law_321 rfl (lv_at hl 3 rfl) ?_
          refine lv_iconst (v := nI 3) hx hb dL_law_322 (by decide) ?_
          refine lv_iadd hx hb dL_law_323 ?_
          refine cx_topr (z := nI (i + 3)) (nI_add _ _) ?_
          refine cx_sld (k := i + 3) hx hb hX hbl hbA hS (by omega) (by omega) dL_law_324 ?_
          refine cx_lVi (As := [.int (xs (i + 1)), .int (xs (i + 2)), .int (xs (i + 3))]) (rest := []) (wr := (cyW qm cI cZ na Ta ka Ma da Za Fa)) ⟨hx, hb, hml, hown, hts⟩ hE hS [0, 1, 2, 3, 4, 5, 6, 7, 8, 9, 10, 11, 12, 13, 14, 15, 16, 17, 18, 19, 20, 21, 22, 23, 24, 25, 26, 27, 28] [29, 30, 31, 32, 33, 34, 35, 36, 37, 38, 39, 40, 41, 42, 43, 44, 45, 46, 47] cx_ndX rfl rfl cx_ndR cx_diX (c_X6_fault l D qx cI cJ n T k M d C J g (xs (i + 1)) (xs (i + 2)) (xs (i + 3)) hn hk hO hP hOn hR1 hR3 hB4 hC) (hE.1.sub [0, 1] rfl) (cwV 3 hts gL_law_X6_fault rfl rfl rfl (by decide +kernel) ⟨Nat.le_of_ble_eq_true rfl, Nat.le_of_ble_eq_true rfl⟩) 0 6 rfl rfl rfl hl.1 rfl (Nat.le_of_ble_eq_true rfl) ⟨Nat.le_of_ble_eq_true rfl, Nat.le_of_ble_eq_true rfl⟩ dL_law_325 (fun r_325 u_325 H locs hp_325 hS => ?_)
          obtain ⟨co_325, d1_325, fo_325, J1_325, ga_325⟩ := u_325
          have hS : cx_S D vwCl A s ((cyW qm cI cZ na Ta ka Ma da Za Fa) ++ (cxW qx cI cJ n T k M d1_325 (cx_u (cx_u C 4 (fun _ => co_325)) 0 fo_325) J1_325 ga_325)) H locs := hS
          have hS := hS.cut (ws := (cxW qx cI cJ n T k M d1_325 (cx_u (cx_u C 4 (fun _ => co_325)) 0 fo_325) J1_325 ga_325) ++ (cyW qm cI cZ na Ta ka Ma da Za Fa)) [19, 20, 21, 22, 23, 24, 25, 26, 27, 28, 29, 30, 31, 32, 33, 34, 35, 36, 37, 38, 39, 40, 41, 42, 43, 44, 45, 46, 47, 0, 1, 2, 3, 4, 5, 6, 7, 8, 9, 10, 11, 12, 13, 14, 15, 16, 17, 18] cx_ndP rfl
          have hp_325 : (∀ a, a < n → bt ((J1_325 1) 0) a = true → (¬ (J1_325 0) a ≤ 0 ↔ cx_AF n k (T 0) (T 1) (T 2) (T 3) M (cx_Uc T) (cx_Wc T) (cx_Vc T) (cx_Ac T n) a)) ∧ ((J1_325 2) 0 = -1 ∨ ∃ a, a < n ∧ (J1_325 2) 0 = nI a ∧ (cx_G ga_325 ↔ cx_AF n k (T 0) (T 1) (T 2) (T 3) M (cx_Uc T) (cx_Wc T) (cx_Vc T) (cx_Ac T n) a)) := hp_325
          refine lv_pop hx hb dL_law_328 rfl ?_
          refine lv_aload_n hx hb dL_law_329 rfl (lv_at hl 2 rfl) ?_
          refine lv_aload_n hx hb dL_law_330 rfl (lv_at hl 0 rfl) ?_
          refine lv_iload_n hx hb dL_law_331 rfl (lv_at hl 3 rfl) ?_
          refine lv_iconst (v := (1 : Int32)) hx hb dL_law_332 (by decide) ?_
          refine lv_iadd hx hb dL_law_333 ?_
          refine cx_topr (z := nI (i + 1)) (nI_1 _) ?_
          refine cx_sld (k := i + 1) hx hb hX hbl hbA hS (by omega) (by omega) dL_law_334 ?_
          refine lv_aload_n hx hb dL_law_335 rfl (lv_at hl 0 rfl) ?_
          refine lv_iload_n hx hb dL_law_336 rfl (lv_at hl 3 rfl) ?_
          refine lv_iconst (v := nI 2) hx hb dL_law_337 (by decide) ?_
          refine lv_iadd hx hb dL_law_338 ?_
          refine cx_topr (z := nI (i + 2)) (nI_add _ _) ?_
          refine cx_sld (k := i + 2) hx hb hX hbl hbA hS (by omega) (by omega) dL_law_339 ?_
          refine lv_aload_n hx hb dL_law_340 rfl (lv_at hl 0 rfl) ?_
          refine lv_iload_n hx hb dL_law_341 rfl (lv_at hl 3 rfl) ?_
          refine lv_iconst (v := nI 3) hx hb dL_law_342 (by decide) ?_
          refine lv_iadd hx hb dL_law_343 ?_
          refine cx_topr (z := nI (i + 3)) (nI_add _ _) ?_
          refine cx_sld (k := i + 3) hx hb hX hbl hbA hS (by omega) (by omega) dL_law_344 ?_
          refine cx_lVi (As := [.int (xs (i + 1)), .int (xs (i + 2)), .int (xs (i + 3))]) (rest := []) (wr := (cxW qx cI cJ n T k M d1_325 (cx_u (cx_u C 4 (fun _ => co_325)) 0 fo_325) J1_325 ga_325)) ⟨hx, hb, hml, hown, hts⟩ hE hS [29, 30, 31, 32, 33, 34, 35, 36, 37, 38, 39, 40, 41, 42, 43, 44, 45, 46, 47] [0, 1, 2, 3, 4, 5, 6, 7, 8, 9, 10, 11, 12, 13, 14, 15, 16, 17, 18, 19, 20, 21, 22, 23, 24, 25, 26, 27, 28] cx_ndR rfl rfl cx_ndX cx_diR (c_X7_fault l D qm cI cZ na Ta ka Ma da Za Fa (xs (i + 1)) (xs (i + 2)) (xs (i + 3)) hna hPa hUa hVa hKN hQa hWa hOa hka hOna hXa hK0a hM5a hM1a hM2a) (hE.1.sub [0, 2] rfl) (cwV 3 hts gL_law_X7_fault rfl rfl rfl (by decide +kernel) ⟨Nat.le_of_ble_eq_true rfl, Nat.le_of_ble_eq_true rfl⟩) 0 7 rfl rfl rfl hl.1 rfl (Nat.le_of_ble_eq_true rfl) ⟨Nat.le_of_ble_eq_true rfl, Nat.le_of_ble_eq_true rfl⟩ dL_law_345 (fun r_345 u_345 H locs hp_345 hS => ?_)
          obtain ⟨za_345, kn_345, d1_345, fo_345, zf_345⟩ := u_345
          have hS : cx_S D vwCl A s ((cxW qx cI cJ n T k M d1_325 (cx_u (cx_u C 4 (fun _ => co_325)) 0 fo_325) J1_325 ga_325) ++ (cyW qm cI cZ na Ta ka Ma d1_345 (cx_u (cx_u (cx_u Za 0 za_345) 3 (fun _ => kn_345)) 1 zf_345) (cx_u Fa 0 fo_345))) H locs := hS
          obtain ⟨hKN_345, hp_345⟩ := hp_345
          refine lv_pop hx hb dL_law_348 rfl ?_
          refine lv_goto (tgt := 517) hx hb dL_law_349 (by decide) ?_
          refine lv_iinc (v := nI (i + 7)) (lv' := [(3, .int (nI (i + 7))), (0, .ref b), (1, .ref (qx 0)), (2, .ref (qm 0))]) hx hb dL_law_517 hl (k := 3) rfl (nI_add i 7) (by decide) rfl (fun ls hl => ?_)
          refine lv_goto (tgt := 18) hx hb dL_law_520 (by decide) ?_
          exact ih (i + 7) n T k M d1_325 (cx_u (cx_u C 4 (fun _ => co_325)) 0 fo_325) J1_325 ga_325 na Ta ka Ma d1_345 (cx_u (cx_u (cx_u Za 0 za_345) 3 (fun _ => kn_345)) 1 zf_345) (cx_u Fa 0 fo_345) _ _ _ (by omega) (by omega) (lw_keep hI hp_325 hKN_345) hS (lv_sub hl [1, 2, 3, 0] rfl)
        · refine lv_tableIn (off := 319) (tgt := 352) hx hb dL_law_33 (by decide) (by decide) (by decide) (by decide) ?_
          refine lv_aload_n hx hb dL_law_352 rfl (lv_at hl 1 rfl) ?_
          refine cx_lVi (As := []) (rest := []) (wr := (cyW qm cI cZ na Ta ka Ma da Za Fa)) ⟨hx, hb, hml, hown, hts⟩ hE hS [0, 1, 2, 3, 4, 5, 6, 7, 8, 9, 10, 11, 12, 13, 14, 15, 16, 17, 18, 19, 20, 21, 22, 23, 24, 25, 26, 27, 28] [29, 30, 31, 32, 33, 34, 35, 36, 37, 38, 39, 40, 41, 42, 43, 44, 45, 46, 47] cx_ndX rfl rfl cx_ndR cx_diX (c_X6_all l D qx cI cJ n T k M d C J g  hn hk hO hP hOn hR1 hR3 hB4 hC) (hE.1.sub [0, 1] rfl) (cwV 0 hts gL_law_X6_all rfl rfl rfl (by decide +kernel) ⟨Nat.le_of_ble_eq_true rfl, Nat.le_of_ble_eq_true rfl⟩) 0 6 rfl rfl rfl hl.1 rfl (Nat.le_of_ble_eq_true rfl) ⟨Nat.le_of_ble_eq_true rfl, Nat.le_of_ble_eq_true rfl⟩ dL_law_353 (fun r_353 u_353 H locs hp_353 hS => ?_)
          obtain ⟨co_353, d1_353, fo_353, J1_353, ga_353⟩ := u_353
          have hS : cx_S D vwCl A s ((cyW qm cI cZ na Ta ka Ma da Za Fa) ++ (cxW qx cI cJ n T k M d1_353 (cx_u (cx_u C 4 (fun _ => co_353)) 0 fo_353) J1_353 ga_353)) H locs := hS
          have hS := hS.cut (ws := (cxW qx cI cJ n T k M d1_353 (cx_u (cx_u C 4 (fun _ => co_353)) 0 fo_353) J1_353 ga_353) ++ (cyW qm cI cZ na Ta ka Ma da Za Fa)) [19, 20, 21, 22, 23, 24, 25, 26, 27, 28, 29, 30, 31, 32, 33, 34, 35, 36, 37, 38, 39, 40, 41, 42, 43, 44, 45, 46, 47, 0, 1, 2, 3, 4, 5, 6, 7, 8, 9, 10, 11, 12, 13, 14, 15, 16, 17, 18] cx_ndP rfl
          have hp_353 : (∀ a, a < n → bt ((J1_353 1) 0) a = true → (¬ (J1_353 0) a ≤ 0 ↔ cx_AF n k (T 0) (T 1) (T 2) (T 3) M (cx_Uc T) (cx_Wc T) (cx_Vc T) (cx_Ac T n) a)) ∧ ((J1_353 2) 0 = -1 ∨ ∃ a, a < n ∧ (J1_353 2) 0 = nI a ∧ (cx_G ga_353 ↔ cx_AF n k (T 0) (T 1) (T 2) (T 3) M (cx_Uc T) (cx_Wc T) (cx_Vc T) (cx_Ac T n) a)) := hp_353
          refine lv_pop hx hb dL_law_356 rfl ?_
          refine lv_aload_n hx hb dL_law_357 rfl (lv_at hl 2 rfl) ?_
          refine cx_lVi (As := []) (rest := []) (wr := (cxW qx cI cJ n T k M d1_353 (cx_u (cx_u C 4 (fun _ => co_353)) 0 fo_353) J1_353 ga_353)) ⟨hx, hb, hml, hown, hts⟩ hE hS [29, 30, 31, 32, 33, 34, 35, 36, 37, 38, 39, 40, 41, 42, 43, 44, 45, 46, 47] [0, 1, 2, 3, 4, 5, 6, 7, 8, 9, 10, 11, 12, 13, 14, 15, 16, 17, 18, 19, 20, 21, 22, 23, 24, 25, 26, 27, 28] cx_ndR rfl rfl cx_ndX cx_diR (c_X7_all l D qm cI cZ na Ta ka Ma da Za Fa  hna hPa hUa hVa hKN hQa hWa hOa hka hOna hXa hK0a hM5a hM1a hM2a) (hE.1.sub [0, 2] rfl) (cwV 0 hts gL_law_X7_all rfl rfl rfl (by decide +kernel) ⟨Nat.le_of_ble_eq_true rfl, Nat.le_of_ble_eq_true rfl⟩) 0 7 rfl rfl rfl hl.1 rfl (Nat.le_of_ble_eq_true rfl) ⟨Nat.le_of_ble_eq_true rfl, Nat.le_of_ble_eq_true rfl⟩ dL_law_358 (fun r_358 u_358 H locs hp_358 hS => ?_)
          obtain ⟨za_358, kn_358, d1_358, fo_358, zf_358⟩ := u_358
          have hS : cx_S D vwCl A s ((cxW qx cI cJ n T k M d1_353 (cx_u (cx_u C 4 (fun _ => co_353)) 0 fo_353) J1_353 ga_353) ++ (cyW qm cI cZ na Ta ka Ma d1_358 (cx_u (cx_u (cx_u Za 0 za_358) 3 (fun _ => kn_358)) 1 zf_358) (cx_u Fa 0 fo_358))) H locs := hS
          obtain ⟨hKN_358, hp_358⟩ := hp_358
          refine lv_pop hx hb dL_law_361 rfl ?_
          refine lv_goto (tgt := 517) hx hb dL_law_362 (by decide) ?_
          refine lv_iinc (v := nI (i + 7)) (lv' := [(3, .int (nI (i + 7))), (0, .ref b), (1, .ref (qx 0)), (2, .ref (qm 0))]) hx hb dL_law_517 hl (k := 3) rfl (nI_add i 7) (by decide) rfl (fun ls hl => ?_)
          refine lv_goto (tgt := 18) hx hb dL_law_520 (by decide) ?_
          exact ih (i + 7) n T k M d1_353 (cx_u (cx_u C 4 (fun _ => co_353)) 0 fo_353) J1_353 ga_353 na Ta ka Ma d1_358 (cx_u (cx_u (cx_u Za 0 za_358) 3 (fun _ => kn_358)) 1 zf_358) (cx_u Fa 0 fo_358) _ _ _ (by omega) (by omega) (lw_keep hI hp_353 hKN_358) hS (lv_sub hl [1, 2, 3, 0] rfl)
        · refine lv_tableIn (off := 332) (tgt := 365) hx hb dL_law_33 (by decide) (by decide) (by decide) (by decide) ?_
          refine lv_aload_n hx hb dL_law_365 rfl (lv_at hl 1 rfl) ?_
          refine lv_aload_n hx hb dL_law_366 rfl (lv_at hl 0 rfl) ?_
          refine lv_iload_n hx hb dL_law_367 rfl (lv_at hl 3 rfl) ?_
          refine lv_iconst (v := (1 : Int32)) hx hb dL_law_368 (by decide) ?_
          refine lv_iadd hx hb dL_law_369 ?_
          refine cx_topr (z := nI (i + 1)) (nI_1 _) ?_
          refine cx_sld (k := i + 1) hx hb hX hbl hbA hS (by omega) (by omega) dL_law_370 ?_
          refine lv_aload_n hx hb dL_law_371 rfl (lv_at hl 0 rfl) ?_
          refine lv_iload_n hx hb dL_law_372 rfl (lv_at hl 3 rfl) ?_
          refine lv_iconst (v := nI 2) hx hb dL_law_373 (by decide) ?_
          refine lv_iadd hx hb dL_law_374 ?_
          refine cx_topr (z := nI (i + 2)) (nI_add _ _) ?_
          refine cx_sld (k := i + 2) hx hb hX hbl hbA hS (by omega) (by omega) dL_law_375 ?_
          refine cx_lVi (As := [.int (xs (i + 1)), .int (xs (i + 2))]) (rest := []) (wr := (cyW qm cI cZ na Ta ka Ma da Za Fa)) ⟨hx, hb, hml, hown, hts⟩ hE hS [0, 1, 2, 3, 4, 5, 6, 7, 8, 9, 10, 11, 12, 13, 14, 15, 16, 17, 18, 19, 20, 21, 22, 23, 24, 25, 26, 27, 28] [29, 30, 31, 32, 33, 34, 35, 36, 37, 38, 39, 40, 41, 42, 43, 44, 45, 46, 47] cx_ndX rfl rfl cx_ndR cx_diX (c_X6_is l D qx cI cJ n T k M d C J g (xs (i + 1)) (xs (i + 2)) hn hk hO hP) (hE.1.sub [0, 1] rfl) (cwV 2 hts gL_law_X6_is rfl rfl rfl (by decide +kernel) ⟨Nat.le_of_ble_eq_true rfl, Nat.le_of_ble_eq_true rfl⟩) 0 6 rfl rfl rfl hl.1 rfl (Nat.le_of_ble_eq_true rfl) ⟨Nat.le_of_ble_eq_true rfl, Nat.le_of_ble_eq_true rfl⟩ dL_law_376 (fun r_376 u_376 H locs hp_376 hS => ?_)
          have hS : cx_S D vwCl A s ((cyW qm cI cZ na Ta ka Ma da Za Fa) ++ (cxW qx cI cJ n T k M d C J g)) H locs := hS
          have hS := hS.cut (ws := (cxW qx cI cJ n T k M d C J g) ++ (cyW qm cI cZ na Ta ka Ma da Za Fa)) [19, 20, 21, 22, 23, 24, 25, 26, 27, 28, 29, 30, 31, 32, 33, 34, 35, 36, 37, 38, 39, 40, 41, 42, 43, 44, 45, 46, 47, 0, 1, 2, 3, 4, 5, 6, 7, 8, 9, 10, 11, 12, 13, 14, 15, 16, 17, 18] cx_ndP rfl
          have hp_376 : (¬ ((0 ≤ (xs (i + 1)) ∧ (xs (i + 1)) < nI n) ∧ (0 ≤ (xs (i + 2)) ∧ (xs (i + 2)) < nI n)) ∧ r_376 = (-1 : Int32)) ∨ (((0 ≤ (xs (i + 1)) ∧ (xs (i + 1)) < nI n) ∧ (0 ≤ (xs (i + 2)) ∧ (xs (i + 2)) < nI n)) ∧ r_376 = cx_b (nI ((xs (i + 1)).toNatClampNeg) = (xs (i + 2)) ∨ ¬ ((((T 10) ((xs (i + 1)).toNatClampNeg)) >>> ((xs (i + 2)) &&& 31)) &&& (1 : Int32)) = 0)) := hp_376
          refine lv_pop hx hb dL_law_379 rfl ?_
          refine lv_aload_n hx hb dL_law_380 rfl (lv_at hl 2 rfl) ?_
          refine lv_aload_n hx hb dL_law_381 rfl (lv_at hl 0 rfl) ?_
          refine lv_iload_n hx hb dL_law_382 rfl (lv_at hl 3 rfl) ?_
          refine lv_iconst (v := (1 : Int32)) hx hb dL_law_383 (by decide) ?_
          refine lv_iadd hx hb dL_law_384 ?_
          refine cx_topr (z := nI (i + 1)) (nI_1 _) ?_
          refine cx_sld (k := i + 1) hx hb hX hbl hbA hS (by omega) (by omega) dL_law_385 ?_
          refine lv_aload_n hx hb dL_law_386 rfl (lv_at hl 0 rfl) ?_
          refine lv_iload_n hx hb dL_law_387 rfl (lv_at hl 3 rfl) ?_
          refine lv_iconst (v := nI 2) hx hb dL_law_388 (by decide) ?_
          refine lv_iadd hx hb dL_law_389 ?_
          refine cx_topr (z := nI (i + 2)) (nI_add _ _) ?_
          refine cx_sld (k := i + 2) hx hb hX hbl hbA hS (by omega) (by omega) dL_law_390 ?_
          refine cx_lVi (As := [.int (xs (i + 1)), .int (xs (i + 2))]) (rest := []) (wr := (cxW qx cI cJ n T k M d C J g)) ⟨hx, hb, hml, hown, hts⟩ hE hS [29, 30, 31, 32, 33, 34, 35, 36, 37, 38, 39, 40, 41, 42, 43, 44, 45, 46, 47] [0, 1, 2, 3, 4, 5, 6, 7, 8, 9, 10, 11, 12, 13, 14, 15, 16, 17, 18, 19, 20, 21, 22, 23, 24, 25, 26, 27, 28] cx_ndR rfl rfl cx_ndX cx_diR (c_X7_is_ l D qm cI cZ na Ta ka Ma da Za Fa (xs (i + 1)) (xs (i + 2)) hna hPa hUa hVa hKN) (hE.1.sub [0, 2] rfl) (cwV 2 hts gL_law_X7_is_ rfl rfl rfl (by decide +kernel) ⟨Nat.le_of_ble_eq_true rfl, Nat.le_of_ble_eq_true rfl⟩) 0 7 rfl rfl rfl hl.1 rfl (Nat.le_of_ble_eq_true rfl) ⟨Nat.le_of_ble_eq_true rfl, Nat.le_of_ble_eq_true rfl⟩ dL_law_391 (fun r_391 u_391 H locs hp_391 hS => ?_)
          obtain ⟨za_391, kn_391⟩ := u_391
          have hS : cx_S D vwCl A s ((cxW qx cI cJ n T k M d C J g) ++ (cyW qm cI cZ na Ta ka Ma da (cx_u (cx_u Za 0 za_391) 3 (fun _ => kn_391)) Fa)) H locs := hS
          obtain ⟨hKN_391, hp_391⟩ := hp_391
          have hp_391 : (¬ ((0 ≤ (xs (i + 1)) ∧ (xs (i + 1)) < nI na) ∧ (0 ≤ (xs (i + 2)) ∧ (xs (i + 2)) < nI na)) ∧ r_391 = (-1 : Int32)) ∨ (((0 ≤ (xs (i + 1)) ∧ (xs (i + 1)) < nI na) ∧ (0 ≤ (xs (i + 2)) ∧ (xs (i + 2)) < nI na)) ∧ (r_391 = 0 ∨ r_391 = 1) ∧ (¬ r_391 = 0 ↔ cx_is (cx_Ar Ta na) ((xs (i + 1)).toNatClampNeg) ((xs (i + 2)).toNatClampNeg))) := hp_391
          refine lv_pop hx hb dL_law_394 rfl ?_
          refine lv_goto (tgt := 517) hx hb dL_law_395 (by decide) ?_
          refine lv_iinc (v := nI (i + 7)) (lv' := [(3, .int (nI (i + 7))), (0, .ref b), (1, .ref (qx 0)), (2, .ref (qm 0))]) hx hb dL_law_517 hl (k := 3) rfl (nI_add i 7) (by decide) rfl (fun ls hl => ?_)
          refine lv_goto (tgt := 18) hx hb dL_law_520 (by decide) ?_
          exact ih (i + 7) n T k M d C J g na Ta ka Ma da (cx_u (cx_u Za 0 za_391) 3 (fun _ => kn_391)) Fa _ _ _ (by omega) (by omega) (lw_keep0 hI hKN_391) hS (lv_sub hl [1, 2, 3, 0] rfl)
        · refine lv_tableIn (off := 365) (tgt := 398) hx hb dL_law_33 (by decide) (by decide) (by decide) (by decide) ?_
          refine lv_aload_n hx hb dL_law_398 rfl (lv_at hl 1 rfl) ?_
          refine lv_aload_n hx hb dL_law_399 rfl (lv_at hl 0 rfl) ?_
          refine lv_iload_n hx hb dL_law_400 rfl (lv_at hl 3 rfl) ?_
          refine lv_iconst (v := (1 : Int32)) hx hb dL_law_401 (by decide) ?_
          refine lv_iadd hx hb dL_law_402 ?_
          refine cx_topr (z := nI (i + 1)) (nI_1 _) ?_
          refine cx_sld (k := i + 1) hx hb hX hbl hbA hS (by omega) (by omega) dL_law_403 ?_
          refine lv_aload_n hx hb dL_law_404 rfl (lv_at hl 0 rfl) ?_
          refine lv_iload_n hx hb dL_law_405 rfl (lv_at hl 3 rfl) ?_
          refine lv_iconst (v := nI 2) hx hb dL_law_406 (by decide) ?_
          refine lv_iadd hx hb dL_law_407 ?_
          refine cx_topr (z := nI (i + 2)) (nI_add _ _) ?_
          refine cx_sld (k := i + 2) hx hb hX hbl hbA hS (by omega) (by omega) dL_law_408 ?_
          refine lv_aload_n hx hb dL_law_409 rfl (lv_at hl 0 rfl) ?_
          refine lv_iload_n hx hb dL_law_410 rfl (lv_at hl 3 rfl) ?_
          refine lv_iconst (v := nI 3) hx hb dL_law_411 (by decide) ?_
          refine lv_iadd hx hb dL_law_412 ?_
          refine cx_topr (z := nI (i + 3)) (nI_add _ _) ?_
          refine cx_sld (k := i + 3) hx hb hX hbl hbA hS (by omega) (by omega) dL_law_413 ?_
          refine cx_lVi (As := [.int (xs (i + 1)), .int (xs (i + 2)), .int (xs (i + 3))]) (rest := []) (wr := (cyW qm cI cZ na Ta ka Ma da Za Fa)) ⟨hx, hb, hml, hown, hts⟩ hE hS [0, 1, 2, 3, 4, 5, 6, 7, 8, 9, 10, 11, 12, 13, 14, 15, 16, 17, 18, 19, 20, 21, 22, 23, 24, 25, 26, 27, 28] [29, 30, 31, 32, 33, 34, 35, 36, 37, 38, 39, 40, 41, 42, 43, 44, 45, 46, 47] cx_ndX rfl rfl cx_ndR cx_diX (c_X6_runs l D qx cI cJ n T k M d C J g (xs (i + 1)) (xs (i + 2)) (xs (i + 3)) hn hk hO hP hOn hR1 hR3 hB4 hC) (hE.1.sub [0, 1] rfl) (cwV 3 hts gL_law_X6_runs rfl rfl rfl (by decide +kernel) ⟨Nat.le_of_ble_eq_true rfl, Nat.le_of_ble_eq_true rfl⟩) 0 6 rfl rfl rfl hl.1 rfl (Nat.le_of_ble_eq_true rfl) ⟨Nat.le_of_ble_eq_true rfl, Nat.le_of_ble_eq_true rfl⟩ dL_law_414 (fun r_414 u_414 H locs hp_414 hS => ?_)
          obtain ⟨co_414, d1_414, fo_414, J1_414, ga_414⟩ := u_414
          have hS : cx_S D vwCl A s ((cyW qm cI cZ na Ta ka Ma da Za Fa) ++ (cxW qx cI cJ n T k M d1_414 (cx_u (cx_u C 4 (fun _ => co_414)) 0 fo_414) J1_414 ga_414)) H locs := hS
          have hS := hS.cut (ws := (cxW qx cI cJ n T k M d1_414 (cx_u (cx_u C 4 (fun _ => co_414)) 0 fo_414) J1_414 ga_414) ++ (cyW qm cI cZ na Ta ka Ma da Za Fa)) [19, 20, 21, 22, 23, 24, 25, 26, 27, 28, 29, 30, 31, 32, 33, 34, 35, 36, 37, 38, 39, 40, 41, 42, 43, 44, 45, 46, 47, 0, 1, 2, 3, 4, 5, 6, 7, 8, 9, 10, 11, 12, 13, 14, 15, 16, 17, 18] cx_ndP rfl
          have hp_414 : ((¬ ((0 ≤ (xs (i + 1)) ∧ (xs (i + 1)) < nI n) ∧ (0 ≤ (xs (i + 2)) ∧ (xs (i + 2)) < nI 10) ∧ (0 ≤ (xs (i + 3)) ∧ (xs (i + 3)) < nI 5)) ∧ r_414 = (-1 : Int32)) ∨ (((0 ≤ (xs (i + 1)) ∧ (xs (i + 1)) < nI n) ∧ (0 ≤ (xs (i + 2)) ∧ (xs (i + 2)) < nI 10) ∧ (0 ≤ (xs (i + 3)) ∧ (xs (i + 3)) < nI 5)) ∧ cx_WR n k (T 0) (T 1) (T 2) (T 3) M (cx_Uc T) (cx_Wc T) (cx_Vc T) (cx_Ac T n) ((xs (i + 1)).toNatClampNeg) ∧ r_414 = (-4 : Int32)) ∨ (((0 ≤ (xs (i + 1)) ∧ (xs (i + 1)) < nI n) ∧ (0 ≤ (xs (i + 2)) ∧ (xs (i + 2)) < nI 10) ∧ (0 ≤ (xs (i + 3)) ∧ (xs (i + 3)) < nI 5)) ∧ ¬ cx_WR n k (T 0) (T 1) (T 2) (T 3) M (cx_Uc T) (cx_Wc T) (cx_Vc T) (cx_Ac T n) ((xs (i + 1)).toNatClampNeg) ∧ ∃ r0 : Int32, cx_rn n k (T 0) (T 2) (T 3) M (cx_Ac T n) ((xs (i + 1)).toNatClampNeg) (xs (i + 2)) (xs (i + 3)) r0 ∧ ((r0 = -1 ∧ r_414 = (-3 : Int32)) ∨ (¬ r0 = -1 ∧ r_414 = r0)))) ∧ ((∀ a, a < n → bt ((J1_414 1) 0) a = true → (¬ (J1_414 0) a ≤ 0 ↔ cx_AF n k (T 0) (T 1) (T 2) (T 3) M (cx_Uc T) (cx_Wc T) (cx_Vc T) (cx_Ac T n) a)) ∧ ((J1_414 2) 0 = -1 ∨ ∃ a, a < n ∧ (J1_414 2) 0 = nI a ∧ (cx_G ga_414 ↔ cx_AF n k (T 0) (T 1) (T 2) (T 3) M (cx_Uc T) (cx_Wc T) (cx_Vc T) (cx_Ac T n) a))) := hp_414
          refine lv_pop hx hb dL_law_417 rfl ?_
          refine lv_aload_n hx hb dL_law_418 rfl (lv_at hl 2 rfl) ?_
          refine lv_aload_n hx hb dL_law_419 rfl (lv_at hl 0 rfl) ?_
          refine lv_iload_n hx hb dL_law_420 rfl (lv_at hl 3 rfl) ?_
          refine lv_iconst (v := (1 : Int32)) hx hb dL_law_421 (by decide) ?_
          refine lv_iadd hx hb dL_law_422 ?_
          refine cx_topr (z := nI (i + 1)) (nI_1 _) ?_
          refine cx_sld (k := i + 1) hx hb hX hbl hbA hS (by omega) (by omega) dL_law_423 ?_
          refine lv_aload_n hx hb dL_law_424 rfl (lv_at hl 0 rfl) ?_
          refine lv_iload_n hx hb dL_law_425 rfl (lv_at hl 3 rfl) ?_
          refine lv_iconst (v := nI 2) hx hb dL_law_426 (by decide) ?_
          refine lv_iadd hx hb dL_law_427 ?_
          refine cx_topr (z := nI (i + 2)) (nI_add _ _) ?_
          refine cx_sld (k := i + 2) hx hb hX hbl hbA hS (by omega) (by omega) dL_law_428 ?_
          refine lv_aload_n hx hb dL_law_429 rfl (lv_at hl 0 rfl) ?_
          refine lv_iload_n hx hb dL_law_430 rfl (lv_at hl 3 rfl) ?_
          refine lv_iconst (v := nI 3) hx hb dL_law_431 (by decide) ?_
          refine lv_iadd hx hb dL_law_432 ?_
          refine cx_topr (z := nI (i + 3)) (nI_add _ _) ?_
          refine cx_sld (k := i + 3) hx hb hX hbl hbA hS (by omega) (by omega) dL_law_433 ?_
          refine cx_lVi (As := [.int (xs (i + 1)), .int (xs (i + 2)), .int (xs (i + 3))]) (rest := []) (wr := (cxW qx cI cJ n T k M d1_414 (cx_u (cx_u C 4 (fun _ => co_414)) 0 fo_414) J1_414 ga_414)) ⟨hx, hb, hml, hown, hts⟩ hE hS [29, 30, 31, 32, 33, 34, 35, 36, 37, 38, 39, 40, 41, 42, 43, 44, 45, 46, 47] [0, 1, 2, 3, 4, 5, 6, 7, 8, 9, 10, 11, 12, 13, 14, 15, 16, 17, 18, 19, 20, 21, 22, 23, 24, 25, 26, 27, 28] cx_ndR rfl rfl cx_ndX cx_diR (c_X7_runs l D qm cI cZ na Ta ka Ma da Za Fa (xs (i + 1)) (xs (i + 2)) (xs (i + 3)) hna hPa hUa hVa hKN hQa hWa hOa hka hOna hXa hK0a hM5a hM1a hM2a) (hE.1.sub [0, 2] rfl) (cwV 3 hts gL_law_X7_runs rfl rfl rfl (by decide +kernel) ⟨Nat.le_of_ble_eq_true rfl, Nat.le_of_ble_eq_true rfl⟩) 0 7 rfl rfl rfl hl.1 rfl (Nat.le_of_ble_eq_true rfl) ⟨Nat.le_of_ble_eq_true rfl, Nat.le_of_ble_eq_true rfl⟩ dL_law_434 (fun r_434 u_434 H locs hp_434 hS => ?_)
          obtain ⟨za_434, kn_434, d1_434, fo_434, zf_434⟩ := u_434
          have hS : cx_S D vwCl A s ((cxW qx cI cJ n T k M d1_414 (cx_u (cx_u C 4 (fun _ => co_414)) 0 fo_414) J1_414 ga_414) ++ (cyW qm cI cZ na Ta ka Ma d1_434 (cx_u (cx_u (cx_u Za 0 za_434) 3 (fun _ => kn_434)) 1 zf_434) (cx_u Fa 0 fo_434))) H locs := hS
          obtain ⟨hKN_434, hp_434⟩ := hp_434
          have hp_434 : (¬ ((0 ≤ (xs (i + 1)) ∧ (xs (i + 1)) < nI na) ∧ (0 ≤ (xs (i + 2)) ∧ (xs (i + 2)) < nI 10) ∧ (0 ≤ (xs (i + 3)) ∧ (xs (i + 3)) < nI 5)) ∧ r_434 = (-1 : Int32)) ∨ (((0 ≤ (xs (i + 1)) ∧ (xs (i + 1)) < nI na) ∧ (0 ≤ (xs (i + 2)) ∧ (xs (i + 2)) < nI 10) ∧ (0 ≤ (xs (i + 3)) ∧ (xs (i + 3)) < nI 5)) ∧ cx_WR na ka (Ta 0) (Ta 1) (Ta 2) (Ta 3) Ma (cx_Ur Ta) (cx_Wr Ta) (cx_Vr Ta) (cx_Ar Ta na) ((xs (i + 1)).toNatClampNeg) ∧ r_434 = (-4 : Int32)) ∨ (((0 ≤ (xs (i + 1)) ∧ (xs (i + 1)) < nI na) ∧ (0 ≤ (xs (i + 2)) ∧ (xs (i + 2)) < nI 10) ∧ (0 ≤ (xs (i + 3)) ∧ (xs (i + 3)) < nI 5)) ∧ ¬ cx_WR na ka (Ta 0) (Ta 1) (Ta 2) (Ta 3) Ma (cx_Ur Ta) (cx_Wr Ta) (cx_Vr Ta) (cx_Ar Ta na) ((xs (i + 1)).toNatClampNeg) ∧ ∃ r0 : Int32, cx_rn na ka (Ta 0) (Ta 2) (Ta 3) Ma (cx_Ar Ta na) ((xs (i + 1)).toNatClampNeg) (xs (i + 2)) (xs (i + 3)) r0 ∧ ((r0 = -1 ∧ r_434 = (-3 : Int32)) ∨ (¬ r0 = -1 ∧ r_434 = r0))) := hp_434
          refine lv_pop hx hb dL_law_437 rfl ?_
          refine lv_goto (tgt := 517) hx hb dL_law_438 (by decide) ?_
          refine lv_iinc (v := nI (i + 7)) (lv' := [(3, .int (nI (i + 7))), (0, .ref b), (1, .ref (qx 0)), (2, .ref (qm 0))]) hx hb dL_law_517 hl (k := 3) rfl (nI_add i 7) (by decide) rfl (fun ls hl => ?_)
          refine lv_goto (tgt := 18) hx hb dL_law_520 (by decide) ?_
          exact ih (i + 7) n T k M d1_414 (cx_u (cx_u C 4 (fun _ => co_414)) 0 fo_414) J1_414 ga_414 na Ta ka Ma d1_434 (cx_u (cx_u (cx_u Za 0 za_434) 3 (fun _ => kn_434)) 1 zf_434) (cx_u Fa 0 fo_434) _ _ _ (by omega) (by omega) (lw_keep hI hp_414.2 hKN_434) hS (lv_sub hl [1, 2, 3, 0] rfl)
        · refine lv_tableIn (off := 408) (tgt := 441) hx hb dL_law_33 (by decide) (by decide) (by decide) (by decide) ?_
          refine lv_aload_n hx hb dL_law_441 rfl (lv_at hl 1 rfl) ?_
          refine lv_aload_n hx hb dL_law_442 rfl (lv_at hl 0 rfl) ?_
          refine lv_iload_n hx hb dL_law_443 rfl (lv_at hl 3 rfl) ?_
          refine lv_iconst (v := (1 : Int32)) hx hb dL_law_444 (by decide) ?_
          refine lv_iadd hx hb dL_law_445 ?_
          refine cx_topr (z := nI (i + 1)) (nI_1 _) ?_
          refine cx_sld (k := i + 1) hx hb hX hbl hbA hS (by omega) (by omega) dL_law_446 ?_
          refine lv_aload_n hx hb dL_law_447 rfl (lv_at hl 0 rfl) ?_
          refine lv_iload_n hx hb dL_law_448 rfl (lv_at hl 3 rfl) ?_
          refine lv_iconst (v := nI 2) hx hb dL_law_449 (by decide) ?_
          refine lv_iadd hx hb dL_law_450 ?_
          refine cx_topr (z := nI (i + 2)) (nI_add _ _) ?_
          refine cx_sld (k := i + 2) hx hb hX hbl hbA hS (by omega) (by omega) dL_law_451 ?_
          refine lv_aload_n hx hb dL_law_452 rfl (lv_at hl 0 rfl) ?_
          refine lv_iload_n hx hb dL_law_453 rfl (lv_at hl 3 rfl) ?_
          refine lv_iconst (v := nI 3) hx hb dL_law_454 (by decide) ?_
          refine lv_iadd hx hb dL_law_455 ?_
          refine cx_topr (z := nI (i + 3)) (nI_add _ _) ?_
          refine cx_sld (k := i + 3) hx hb hX hbl hbA hS (by omega) (by omega) dL_law_456 ?_
          refine lv_aload_n hx hb dL_law_457 rfl (lv_at hl 0 rfl) ?_
          refine lv_iload_n hx hb dL_law_458 rfl (lv_at hl 3 rfl) ?_
          refine lv_iconst (v := nI 4) hx hb dL_law_459 (by decide) ?_
          refine lv_iadd hx hb dL_law_460 ?_
          refine cx_topr (z := nI (i + 4)) (nI_add _ _) ?_
          refine cx_sld (k := i + 4) hx hb hX hbl hbA hS (by omega) (by omega) dL_law_461 ?_
          refine cx_lVi (As := [.int (xs (i + 1)), .int (xs (i + 2)), .int (xs (i + 3)), .int (xs (i + 4))]) (rest := []) (wr := (cyW qm cI cZ na Ta ka Ma da Za Fa)) ⟨hx, hb, hml, hown, hts⟩ hE hS [0, 1, 2, 3, 4, 5, 6, 7, 8, 9, 10, 11, 12, 13, 14, 15, 16, 17, 18, 19, 20, 21, 22, 23, 24, 25, 26, 27, 28] [29, 30, 31, 32, 33, 34, 35, 36, 37, 38, 39, 40, 41, 42, 43, 44, 45, 46, 47] cx_ndX rfl rfl cx_ndR cx_diX (c_X6_call l D qx cI cJ n T k M d C J g (xs (i + 1)) (xs (i + 2)) (xs (i + 3)) (xs (i + 4)) hn hk hO hP hOn hR1 hR3 hB4 hC (cx_AXc hn hCL hB4)) (hE.1.sub [0, 1] rfl) (cwV 4 hts gL_law_X6_call rfl rfl rfl (by decide +kernel) ⟨Nat.le_of_ble_eq_true rfl, Nat.le_of_ble_eq_true rfl⟩) 0 6 rfl rfl rfl hl.1 rfl (Nat.le_of_ble_eq_true rfl) ⟨Nat.le_of_ble_eq_true rfl, Nat.le_of_ble_eq_true rfl⟩ dL_law_462 (fun r_462 u_462 H locs hp_462 hS => ?_)
          obtain ⟨co_462, d1_462, fo_462, ch_462, tk_462, J1_462, ga_462⟩ := u_462
          have hS : cx_S D vwCl A s ((cyW qm cI cZ na Ta ka Ma da Za Fa) ++ (cxW qx cI cJ n T k M d1_462 (cx_u (cx_u (cx_u (cx_u C 4 (fun _ => co_462)) 0 fo_462) 1 ch_462) 2 tk_462) J1_462 ga_462)) H locs := hS
          have hS := hS.cut (ws := (cxW qx cI cJ n T k M d1_462 (cx_u (cx_u (cx_u (cx_u C 4 (fun _ => co_462)) 0 fo_462) 1 ch_462) 2 tk_462) J1_462 ga_462) ++ (cyW qm cI cZ na Ta ka Ma da Za Fa)) [19, 20, 21, 22, 23, 24, 25, 26, 27, 28, 29, 30, 31, 32, 33, 34, 35, 36, 37, 38, 39, 40, 41, 42, 43, 44, 45, 46, 47, 0, 1, 2, 3, 4, 5, 6, 7, 8, 9, 10, 11, 12, 13, 14, 15, 16, 17, 18] cx_ndP rfl
          have hp_462 : ((¬ ((0 ≤ (xs (i + 1)) ∧ (xs (i + 1)) < nI n) ∧ (0 ≤ (xs (i + 2)) ∧ (xs (i + 2)) < nI n) ∧ (0 ≤ (xs (i + 3)) ∧ (xs (i + 3)) < nI 10) ∧ (0 ≤ (xs (i + 4)) ∧ (xs (i + 4)) < nI 5)) ∧ r_462 = (-1 : Int32)) ∨ (((0 ≤ (xs (i + 1)) ∧ (xs (i + 1)) < nI n) ∧ (0 ≤ (xs (i + 2)) ∧ (xs (i + 2)) < nI n) ∧ (0 ≤ (xs (i + 3)) ∧ (xs (i + 3)) < nI 10) ∧ (0 ≤ (xs (i + 4)) ∧ (xs (i + 4)) < nI 5)) ∧ (cx_WR n k (T 0) (T 1) (T 2) (T 3) M (cx_Uc T) (cx_Wc T) (cx_Vc T) (cx_Ac T n) ((xs (i + 2)).toNatClampNeg) ∨ ¬ cx_is (cx_Ac T n) ((xs (i + 2)).toNatClampNeg) ((xs (i + 1)).toNatClampNeg)) ∧ r_462 = (-4 : Int32)) ∨ (((0 ≤ (xs (i + 1)) ∧ (xs (i + 1)) < nI n) ∧ (0 ≤ (xs (i + 2)) ∧ (xs (i + 2)) < nI n) ∧ (0 ≤ (xs (i + 3)) ∧ (xs (i + 3)) < nI 10) ∧ (0 ≤ (xs (i + 4)) ∧ (xs (i + 4)) < nI 5)) ∧ ¬ (cx_WR n k (T 0) (T 1) (T 2) (T 3) M (cx_Uc T) (cx_Wc T) (cx_Vc T) (cx_Ac T n) ((xs (i + 2)).toNatClampNeg) ∨ ¬ cx_is (cx_Ac T n) ((xs (i + 2)).toNatClampNeg) ((xs (i + 1)).toNatClampNeg)) ∧ ∃ r0 : Int32, cx_cal n k (T 0) (T 2) (T 3) M (cx_Ac T n) ((xs (i + 1)).toNatClampNeg) ((xs (i + 2)).toNatClampNeg) (xs (i + 3)) (xs (i + 4)) r0 ∧ ((r0 = -1 ∧ r_462 = (-3 : Int32)) ∨ (¬ r0 = -1 ∧ r_462 = r0)))) ∧ ((∀ a, a < n → bt ((J1_462 1) 0) a = true → (¬ (J1_462 0) a ≤ 0 ↔ cx_AF n k (T 0) (T 1) (T 2) (T 3) M (cx_Uc T) (cx_Wc T) (cx_Vc T) (cx_Ac T n) a)) ∧ ((J1_462 2) 0 = -1 ∨ ∃ a, a < n ∧ (J1_462 2) 0 = nI a ∧ (cx_G ga_462 ↔ cx_AF n k (T 0) (T 1) (T 2) (T 3) M (cx_Uc T) (cx_Wc T) (cx_Vc T) (cx_Ac T n) a))) := hp_462
          refine lv_aload_n hx hb dL_law_465 rfl (lv_at hl 2 rfl) ?_
          refine lv_aload_n hx hb dL_law_466 rfl (lv_at hl 0 rfl) ?_
          refine lv_iload_n hx hb dL_law_467 rfl (lv_at hl 3 rfl) ?_
          refine lv_iconst (v := (1 : Int32)) hx hb dL_law_468 (by decide) ?_
          refine lv_iadd hx hb dL_law_469 ?_
          refine cx_topr (z := nI (i + 1)) (nI_1 _) ?_
          refine cx_sld (k := i + 1) hx hb hX hbl hbA hS (by omega) (by omega) dL_law_470 ?_
          refine lv_aload_n hx hb dL_law_471 rfl (lv_at hl 0 rfl) ?_
          refine lv_iload_n hx hb dL_law_472 rfl (lv_at hl 3 rfl) ?_
          refine lv_iconst (v := nI 2) hx hb dL_law_473 (by decide) ?_
          refine lv_iadd hx hb dL_law_474 ?_
          refine cx_topr (z := nI (i + 2)) (nI_add _ _) ?_
          refine cx_sld (k := i + 2) hx hb hX hbl hbA hS (by omega) (by omega) dL_law_475 ?_
          refine lv_aload_n hx hb dL_law_476 rfl (lv_at hl 0 rfl) ?_
          refine lv_iload_n hx hb dL_law_477 rfl (lv_at hl 3 rfl) ?_
          refine lv_iconst (v := nI 3) hx hb dL_law_478 (by decide) ?_
          refine lv_iadd hx hb dL_law_479 ?_
          refine cx_topr (z := nI (i + 3)) (nI_add _ _) ?_
          refine cx_sld (k := i + 3) hx hb hX hbl hbA hS (by omega) (by omega) dL_law_480 ?_
          refine lv_aload_n hx hb dL_law_481 rfl (lv_at hl 0 rfl) ?_
          refine lv_iload_n hx hb dL_law_482 rfl (lv_at hl 3 rfl) ?_
          refine lv_iconst (v := nI 4) hx hb dL_law_483 (by decide) ?_
          refine lv_iadd hx hb dL_law_484 ?_
          refine cx_topr (z := nI (i + 4)) (nI_add _ _) ?_
          refine cx_sld (k := i + 4) hx hb hX hbl hbA hS (by omega) (by omega) dL_law_485 ?_
          refine cx_lVi (As := [.int (xs (i + 1)), .int (xs (i + 2)), .int (xs (i + 3)), .int (xs (i + 4))]) (rest := [.int r_462]) (wr := (cxW qx cI cJ n T k M d1_462 (cx_u (cx_u (cx_u (cx_u C 4 (fun _ => co_462)) 0 fo_462) 1 ch_462) 2 tk_462) J1_462 ga_462)) ⟨hx, hb, hml, hown, hts⟩ hE hS [29, 30, 31, 32, 33, 34, 35, 36, 37, 38, 39, 40, 41, 42, 43, 44, 45, 46, 47] [0, 1, 2, 3, 4, 5, 6, 7, 8, 9, 10, 11, 12, 13, 14, 15, 16, 17, 18, 19, 20, 21, 22, 23, 24, 25, 26, 27, 28] cx_ndR rfl rfl cx_ndX cx_diR (c_X7_call l D qm cI cZ na Ta ka Ma da Za Fa (xs (i + 1)) (xs (i + 2)) (xs (i + 3)) (xs (i + 4)) hna hPa hUa hVa hKN hQa hWa hOa hka hOna hXa hK0a hM5a hM1a hM2a) (hE.1.sub [0, 2] rfl) (cwV 4 hts gL_law_X7_call rfl rfl rfl (by decide +kernel) ⟨Nat.le_of_ble_eq_true rfl, Nat.le_of_ble_eq_true rfl⟩) 0 7 rfl rfl rfl hl.1 rfl (Nat.le_of_ble_eq_true rfl) ⟨Nat.le_of_ble_eq_true rfl, Nat.le_of_ble_eq_true rfl⟩ dL_law_486 (fun r_486 u_486 H locs hp_486 hS => ?_)
          obtain ⟨za_486, kn_486, d1_486, fo_486, zf_486, zt_486⟩ := u_486
          have hS : cx_S D vwCl A s ((cxW qx cI cJ n T k M d1_462 (cx_u (cx_u (cx_u (cx_u C 4 (fun _ => co_462)) 0 fo_462) 1 ch_462) 2 tk_462) J1_462 ga_462) ++ (cyW qm cI cZ na Ta ka Ma d1_486 (cx_u (cx_u (cx_u (cx_u Za 0 za_486) 3 (fun _ => kn_486)) 1 zf_486) 2 zt_486) (cx_u Fa 0 fo_486))) H locs := hS
          obtain ⟨hKN_486, hp_486⟩ := hp_486
          have hp_486 : (¬ ((0 ≤ (xs (i + 1)) ∧ (xs (i + 1)) < nI na) ∧ (0 ≤ (xs (i + 2)) ∧ (xs (i + 2)) < nI na) ∧ (0 ≤ (xs (i + 3)) ∧ (xs (i + 3)) < nI 10) ∧ (0 ≤ (xs (i + 4)) ∧ (xs (i + 4)) < nI 5)) ∧ r_486 = (-1 : Int32)) ∨ (((0 ≤ (xs (i + 1)) ∧ (xs (i + 1)) < nI na) ∧ (0 ≤ (xs (i + 2)) ∧ (xs (i + 2)) < nI na) ∧ (0 ≤ (xs (i + 3)) ∧ (xs (i + 3)) < nI 10) ∧ (0 ≤ (xs (i + 4)) ∧ (xs (i + 4)) < nI 5)) ∧ (cx_WR na ka (Ta 0) (Ta 1) (Ta 2) (Ta 3) Ma (cx_Ur Ta) (cx_Wr Ta) (cx_Vr Ta) (cx_Ar Ta na) ((xs (i + 2)).toNatClampNeg) ∨ ¬ cx_is (cx_Ar Ta na) ((xs (i + 2)).toNatClampNeg) ((xs (i + 1)).toNatClampNeg)) ∧ r_486 = (-4 : Int32)) ∨ (((0 ≤ (xs (i + 1)) ∧ (xs (i + 1)) < nI na) ∧ (0 ≤ (xs (i + 2)) ∧ (xs (i + 2)) < nI na) ∧ (0 ≤ (xs (i + 3)) ∧ (xs (i + 3)) < nI 10) ∧ (0 ≤ (xs (i + 4)) ∧ (xs (i + 4)) < nI 5)) ∧ ¬ (cx_WR na ka (Ta 0) (Ta 1) (Ta 2) (Ta 3) Ma (cx_Ur Ta) (cx_Wr Ta) (cx_Vr Ta) (cx_Ar Ta na) ((xs (i + 2)).toNatClampNeg) ∨ ¬ cx_is (cx_Ar Ta na) ((xs (i + 2)).toNatClampNeg) ((xs (i + 1)).toNatClampNeg)) ∧ ∃ r0 : Int32, cx_cal na ka (Ta 0) (Ta 2) (Ta 3) Ma (cx_Ar Ta na) ((xs (i + 1)).toNatClampNeg) ((xs (i + 2)).toNatClampNeg) (xs (i + 3)) (xs (i + 4)) r0 ∧ ((r0 = -1 ∧ r_486 = (-3 : Int32)) ∨ (¬ r0 = -1 ∧ r_486 = r0))) := hp_486
          refine lv_icmp_eq (tgt := 517) hx hb dL_law_489 (by decide) (fun _ => ?_) (fun h489 => absurd (lw_call hI hp_462.1 hp_486) h489)
          refine lv_iinc (v := nI (i + 7)) (lv' := [(3, .int (nI (i + 7))), (0, .ref b), (1, .ref (qx 0)), (2, .ref (qm 0))]) hx hb dL_law_517 hl (k := 3) rfl (nI_add i 7) (by decide) rfl (fun ls hl => ?_)
          refine lv_goto (tgt := 18) hx hb dL_law_520 (by decide) ?_
          exact ih (i + 7) n T k M d1_462 (cx_u (cx_u (cx_u (cx_u C 4 (fun _ => co_462)) 0 fo_462) 1 ch_462) 2 tk_462) J1_462 ga_462 na Ta ka Ma d1_486 (cx_u (cx_u (cx_u (cx_u Za 0 za_486) 3 (fun _ => kn_486)) 1 zf_486) 2 zt_486) (cx_u Fa 0 fo_486) _ _ _ (by omega) (by omega) (lw_keep hI hp_462.2 hKN_486) hS (lv_sub hl [1, 2, 3, 0] rfl)
        · refine lv_tableIn (off := 461) (tgt := 494) hx hb dL_law_33 (by decide) (by decide) (by decide) (by decide) ?_
          refine lv_aload_n hx hb dL_law_494 rfl (lv_at hl 1 rfl) ?_
          refine lv_aload_n hx hb dL_law_495 rfl (lv_at hl 0 rfl) ?_
          refine lv_iload_n hx hb dL_law_496 rfl (lv_at hl 3 rfl) ?_
          refine lv_iconst (v := (1 : Int32)) hx hb dL_law_497 (by decide) ?_
          refine lv_iadd hx hb dL_law_498 ?_
          refine cx_topr (z := nI (i + 1)) (nI_1 _) ?_
          refine cx_sld (k := i + 1) hx hb hX hbl hbA hS (by omega) (by omega) dL_law_499 ?_
          refine cx_lVi (As := [.int (xs (i + 1))]) (rest := []) (wr := (cyW qm cI cZ na Ta ka Ma da Za Fa)) ⟨hx, hb, hml, hown, hts⟩ hE hS [0, 1, 2, 3, 4, 5, 6, 7, 8, 9, 10, 11, 12, 13, 14, 15, 16, 17, 18, 19, 20, 21, 22, 23, 24, 25, 26, 27, 28] [29, 30, 31, 32, 33, 34, 35, 36, 37, 38, 39, 40, 41, 42, 43, 44, 45, 46, 47] cx_ndX rfl rfl cx_ndR cx_diX (c_X6_told l D qx cI cJ n T k M d C J g (xs (i + 1)) ) (hE.1.sub [0, 1] rfl) (cwV 1 hts gL_law_X6_told rfl rfl rfl (by decide +kernel) ⟨Nat.le_of_ble_eq_true rfl, Nat.le_of_ble_eq_true rfl⟩) 0 6 rfl rfl rfl hl.1 rfl (Nat.le_of_ble_eq_true rfl) ⟨Nat.le_of_ble_eq_true rfl, Nat.le_of_ble_eq_true rfl⟩ dL_law_500 (fun r_500 u_500 H locs hp_500 hS => ?_)
          have hS : cx_S D vwCl A s ((cyW qm cI cZ na Ta ka Ma da Za Fa) ++ (cxW qx cI cJ n T k M d C J g)) H locs := hS
          have hS := hS.cut (ws := (cxW qx cI cJ n T k M d C J g) ++ (cyW qm cI cZ na Ta ka Ma da Za Fa)) [19, 20, 21, 22, 23, 24, 25, 26, 27, 28, 29, 30, 31, 32, 33, 34, 35, 36, 37, 38, 39, 40, 41, 42, 43, 44, 45, 46, 47, 0, 1, 2, 3, 4, 5, 6, 7, 8, 9, 10, 11, 12, 13, 14, 15, 16, 17, 18] cx_ndP rfl
          have hp_500 : r_500 = (if (xs (i + 1)) = 0 then nI n else if (xs (i + 1)) = 1 then nI k else (-1 : Int32)) := hp_500
          refine lv_pop hx hb dL_law_503 rfl ?_
          refine lv_aload_n hx hb dL_law_504 rfl (lv_at hl 2 rfl) ?_
          refine lv_aload_n hx hb dL_law_505 rfl (lv_at hl 0 rfl) ?_
          refine lv_iload_n hx hb dL_law_506 rfl (lv_at hl 3 rfl) ?_
          refine lv_iconst (v := (1 : Int32)) hx hb dL_law_507 (by decide) ?_
          refine lv_iadd hx hb dL_law_508 ?_
          refine cx_topr (z := nI (i + 1)) (nI_1 _) ?_
          refine cx_sld (k := i + 1) hx hb hX hbl hbA hS (by omega) (by omega) dL_law_509 ?_
          refine cx_lVi (As := [.int (xs (i + 1))]) (rest := []) (wr := (cxW qx cI cJ n T k M d C J g)) ⟨hx, hb, hml, hown, hts⟩ hE hS [29, 30, 31, 32, 33, 34, 35, 36, 37, 38, 39, 40, 41, 42, 43, 44, 45, 46, 47] [0, 1, 2, 3, 4, 5, 6, 7, 8, 9, 10, 11, 12, 13, 14, 15, 16, 17, 18, 19, 20, 21, 22, 23, 24, 25, 26, 27, 28] cx_ndR rfl rfl cx_ndX cx_diR (c_X7_told l D qm cI cZ na Ta ka Ma da Za Fa (xs (i + 1)) ) (hE.1.sub [0, 2] rfl) (cwV 1 hts gL_law_X7_told rfl rfl rfl (by decide +kernel) ⟨Nat.le_of_ble_eq_true rfl, Nat.le_of_ble_eq_true rfl⟩) 0 7 rfl rfl rfl hl.1 rfl (Nat.le_of_ble_eq_true rfl) ⟨Nat.le_of_ble_eq_true rfl, Nat.le_of_ble_eq_true rfl⟩ dL_law_510 (fun r_510 u_510 H locs hp_510 hS => ?_)
          have hS : cx_S D vwCl A s ((cxW qx cI cJ n T k M d C J g) ++ (cyW qm cI cZ na Ta ka Ma da Za Fa)) H locs := hS
          have hp_510 : r_510 = (if (xs (i + 1)) = 0 then nI na else if (xs (i + 1)) = 1 then nI ka else (-1 : Int32)) := hp_510
          refine lv_pop hx hb dL_law_513 rfl ?_
          refine lv_goto (tgt := 517) hx hb dL_law_514 (by decide) ?_
          refine lv_iinc (v := nI (i + 7)) (lv' := [(3, .int (nI (i + 7))), (0, .ref b), (1, .ref (qx 0)), (2, .ref (qm 0))]) hx hb dL_law_517 hl (k := 3) rfl (nI_add i 7) (by decide) rfl (fun ls hl => ?_)
          refine lv_goto (tgt := 18) hx hb dL_law_520 (by decide) ?_
          exact ih (i + 7) n T k M d C J g na Ta ka Ma da Za Fa _ _ _ (by omega) (by omega) hI hS (lv_sub hl [1, 2, 3, 0] rfl)
