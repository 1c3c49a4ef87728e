/-! What a call comes to. -/
theorem cx_npos {d : Nat} (hd : d < 2 ^ 31) (h : nI d ≤ 0) : ¬ 0 < d := by
  rw [cx_n0] at h
  have := (nI_leI hd (by omega)).mp h
  omega
section CL
variable (n k : Nat) (K P R : Nat → Int32) (M : Nat → Nat → Int32) (A : Nat → Nat → Prop)
/-- what is MEANT: -1 for nothing -/
def cx_mt (t : Nat) (nm pm r : Int32) : Prop := ∃ co, cx_co n k K P R M A t nm pm co ∧ ((¬ co = -1 ∧ r = co) ∨ (co = -1 ∧ cx_Lst (cx_fo k K M A t nm pm) k r))
/-- what a call comes to: -1 for none -/
def cx_cal (t ob : Nat) (nm pm r : Int32) : Prop := ∃ mt, cx_mt n k K P R M A t nm pm mt ∧ ((mt = -1 ∧ r = -1) ∨ (¬ mt = -1 ∧ ((M 4 mt.toNatClampNeg = 0 ∧ r = mt) ∨ (¬ M 4 mt.toNatClampNeg = 0 ∧ ((cx_fc K M mt.toNatClampNeg ∧ cx_rn n k K P R M A ob nm pm r) ∨ (¬ cx_fc K M mt.toNatClampNeg ∧ ∃ x, cx_one n k R (cx_tq k K P M A mt.toNatClampNeg) 20 (nI ob) x ∧ ((x = -1 ∧ r = -1) ∨ (¬ x = -1 ∧ ((cx_mk (M 3) x.toNatClampNeg 1 ∧ r = -1) ∨ (¬ cx_mk (M 3) x.toNatClampNeg 1 ∧ r = x))))))))))
end CL
section CM
variable {n k : Nat} {K P R : Nat → Int32} {M : Nat → Nat → Int32} {U A : Nat → Nat → Prop} {t ob : Nat} {nm pm r r' : Int32}
theorem cx_mt.u (h : cx_mt n k K P R M A t nm pm r) (h' : cx_mt n k K P R M A t nm pm r') : r = r' := by
  obtain ⟨co, hc, h⟩ := h
  obtain ⟨co', hc', h'⟩ := h'
  have := hc.u hc'
  subst this
  rcases h with ⟨a, h⟩ | ⟨a, h⟩ <;> rcases h' with ⟨a', h'⟩ | ⟨a', h'⟩
  · rw [h, h']
  · exact absurd a' a
  · exact absurd a a'
  · exact h.uniq h'
theorem cx_mt.ix (hk : k ≤ 80) (h : cx_mt n k K P R M A t nm pm r) : r = -1 ∨ (cx_ix r 80 ∧ r.toNatClampNeg < k) := by
  obtain ⟨co, hc, ⟨-, rfl⟩ | ⟨-, h⟩⟩ := h
  · exact hc.ix hk
  · rcases h with ⟨e, -⟩ | ⟨j, hj, -, -, rfl⟩
    · exact Or.inl e
    · exact Or.inr ⟨cx_ixI (by omega) (by decide), by rw [nI_clamp (by omega)]; exact hj⟩
theorem cx_cal.u (h : cx_cal n k K P R M A t ob nm pm r) (h' : cx_cal n k K P R M A t ob nm pm r') : r = r' := by
  obtain ⟨mt, hm, h⟩ := h
  obtain ⟨mt', hm', h'⟩ := h'
  have := hm.u hm'
  subst this
  rcases h with ⟨a, h⟩ | ⟨a, h⟩ <;> rcases h' with ⟨a', h'⟩ | ⟨a', h'⟩
  · rw [h, h']
  · exact absurd a a'
  · exact absurd a' a
  · rcases h with ⟨b, h⟩ | ⟨b, h⟩ <;> rcases h' with ⟨b', h'⟩ | ⟨b', h'⟩
    · rw [h, h']
    · exact absurd b b'
    · exact absurd b' b
    · rcases h with ⟨c, h⟩ | ⟨c, x, hx, h⟩ <;> rcases h' with ⟨c', h'⟩ | ⟨c', x', hx', h'⟩
      · exact h.u h'
      · exact absurd c c'
      · exact absurd c' c
      · have := cx_one_u _ _ _ _ hx hx'
        subst this
        rcases h with ⟨d, h⟩ | ⟨d, h⟩ <;> rcases h' with ⟨d', h'⟩ | ⟨d', h'⟩
        · rw [h, h']
        · exact absurd d d'
        · exact absurd d' d
        · rcases h with ⟨e, h⟩ | ⟨e, h⟩ <;> rcases h' with ⟨e', h'⟩ | ⟨e', h'⟩
          · rw [h, h']
          · exact absurd e e'
          · exact absurd e' e
          · rw [h, h']
/-- what is meant and of no FACE is the class one: it stands above or is the TYPE's own -/
theorem cx_mtc (hA : cx_AX n R U A) (hst : cx_is A ob t) (h : cx_mt n k K P R M A t nm pm r) (hk : k ≤ 80) (h1 : ¬ r = -1) (h2 : ¬ cx_fc K M r.toNatClampNeg) (h3 : ¬ M 4 r.toNatClampNeg = 0) : cx_mo n k K M A ob r.toNatClampNeg := by
  have hlt := ((h.ix hk).resolve_left h1).2
  obtain ⟨co, hc, ⟨-, rfl⟩ | ⟨-, h⟩⟩ := h
  · rcases hc with ⟨-, e⟩ | ⟨-, ho⟩
    · exact absurd e h1
    · obtain ⟨m, b, hm, e, q1, -, q3, q4⟩ := cx_one_q _ _ _ ho h1
      have em : r.toNatClampNeg = m := by rw [e, nI_clamp (by omega)]
      rw [em] at h2 h3 ⊢
      refine ⟨hm, ⟨q3, h3, h2⟩, cx_isT hA hst ?_⟩
      rcases q4 with q | q
      · exact Or.inl (q.symm.trans q1.symm)
      · exact Or.inr q.1
  · rcases h with ⟨e, -⟩ | ⟨j, hj, hf, -, e⟩
    · exact absurd e h1
    · have em : r.toNatClampNeg = j := by rw [e, nI_clamp (by omega)]
      rw [em] at h2
      exact absurd hf.2.1.2.1 h2
end CM
theorem cx_LS.lst {F : Nat → Prop} {f : Nat → Int32} {d k : Nat} (h : cx_LS F f d k) (hk : k ≤ 80) (hd : 0 < d) : cx_Lst F k (f 0) := by
  obtain ⟨m, e, hm, hf⟩ := h.1 0 hd
  refine Or.inr ⟨m, hm, hf, fun i hi hfi => ?_, e⟩
  obtain ⟨j, hj, ej⟩ := h.2.1 i (by omega) hfi
  rcases Nat.eq_zero_or_pos j with z | z
  · subst z
    have := cx_nIinj (by omega) (by omega) (ej.symm.trans e)
    omega
  · have := h.2.2 0 j z hj
    rw [e, ej, nI_clamp (by omega), nI_clamp (by omega)] at this
    omega
theorem cx_LS.lst0 {F : Nat → Prop} {f : Nat → Int32} {d k : Nat} (h : cx_LS F f d k) (hd : ¬ 0 < d) : cx_Lst F k (-1) := by
  refine Or.inl ⟨rfl, fun j hj hf => ?_⟩
  obtain ⟨i, hi, -⟩ := h.2.1 j hj hf
  omega
/-- the least of a row -/
def cx_Mn (f : Nat → Int32) (i : Nat) (v : Int32) : Prop := (i = 0 ∧ v = -1) ∨ ∃ j, j < i ∧ v = f j ∧ ∀ a, a < i → (f j).toNatClampNeg ≤ (f a).toNatClampNeg
theorem cx_Mn.lst {F : Nat → Prop} {f : Nat → Int32} {d k : Nat} {v : Int32} (hL : cx_LI F f d) (hF : ∀ m, F m → m < k) (h : cx_Mn f d v) : cx_Lst F k v := by
  rcases h with ⟨e, h⟩ | ⟨j, hj, e, hl⟩
  · subst e
    refine Or.inl ⟨h, fun m _ hm => ?_⟩
    obtain ⟨-, j, hj, -⟩ := hL.2.1 m hm
    exact absurd hj (by omega)
  · have hf := hL.of hj
    refine Or.inr ⟨_, hF _ hf, hf, fun i hi hfi => ?_, e.trans (hL.ix j hj).1⟩
    obtain ⟨a, ha, -, ea⟩ := hL.at hfi
    have := hl a ha
    omega
theorem cx_MnA {f : Nat → Int32} {d i : Nat} {v : Int32} (hF : ∀ j, j < d → cx_ix (f j) 80) (hi : i < d) (h : cx_Mn f i v) (hv : v < 0) : cx_Mn f (i + 1) (f i) := by
  rcases h with ⟨e, -⟩ | ⟨j, hj, e, -⟩
  · subst e
    exact Or.inr ⟨0, by omega, rfl, fun a ha => by have : a = 0 := (by omega); subst this; exact Nat.le_refl _⟩
  · have hx := hF j (by omega)
    have h0 := nI_pos' (n := (f j).toNatClampNeg) (by have := hx.2; omega)
    rw [← hx.1, ← e] at h0
    exact absurd hv (Int32.not_lt.mpr h0)
theorem cx_MnB {f : Nat → Int32} {d i : Nat} {v : Int32} (hF : ∀ j, j < d → cx_ix (f j) 80) (hi : i < d) (h : cx_Mn f i v) (hv : ¬ v ≤ f i) : cx_Mn f (i + 1) (f i) := by
  have hx := hF i hi
  rcases h with ⟨e, e2⟩ | ⟨j, hj, e, hl⟩
  · have h0 := nI_pos' (n := (f i).toNatClampNeg) (by have := hx.2; omega)
    rw [← hx.1] at h0
    exact absurd (by rw [e2]; exact Int32.le_trans (by decide) h0) hv
  · have hy := hF j (by omega)
    have hlt : (f i).toNatClampNeg < (f j).toNatClampNeg := by
      refine Classical.byContradiction (fun z => hv ?_)
      rw [e, hy.1, hx.1]
      exact (nI_leI (by have := hy.2; omega) (by have := hx.2; omega)).mpr (by omega)
    refine Or.inr ⟨i, by omega, rfl, fun a ha => ?_⟩
    by_cases ea : a = i
    · subst ea; exact Nat.le_refl _
    · have := hl a (by omega)
      omega
theorem cx_MnC {f : Nat → Int32} {d i : Nat} {v : Int32} (hF : ∀ j, j < d → cx_ix (f j) 80) (hi : i < d) (h : cx_Mn f i v) (hv : ¬ v < 0) (hle : v ≤ f i) : cx_Mn f (i + 1) v := by
  have hx := hF i hi
  rcases h with ⟨-, e2⟩ | ⟨j, hj, e, hl⟩
  · exact absurd (by rw [e2]; decide) hv
  · have hy := hF j (by omega)
    have hlt : (f j).toNatClampNeg ≤ (f i).toNatClampNeg := by
      rw [e, hy.1, hx.1] at hle
      exact (nI_leI (by have := hy.2; omega) (by have := hx.2; omega)).mp hle
    refine Or.inr ⟨j, by omega, e, fun a ha => ?_⟩
    by_cases ea : a = i
    · subst ea; exact hlt
    · exact hl a (by omega)
section CU
variable {n : Nat} {R : Nat → Int32} {ob i : Nat} {v y tp : Int32}
theorem cx_vlT (hn : n ≤ 20) (hP : cx_P R 20) (hv : v = nI (cx_cf R ob i) ∧ cx_vl n R ob (i + 1)) (h : (R v.toNatClampNeg < nI n ∧ y = R v.toNatClampNeg) ∨ (¬ R v.toNatClampNeg < nI n ∧ y = -1)) (hy : ¬ y = -1) : y = nI (cx_cf R ob (i + 1)) ∧ cx_vl n R ob (i + 1 + 1) := by
  have e : v.toNatClampNeg = cx_cf R ob i := by rw [hv.1, nI_clamp (by have := (hv.2 i (by omega)).1; omega)]
  rw [e] at h
  exact cx_vlS hn hP hv.2 h hy
theorem cx_chS {f : Nat → Int32} (h : ∀ j, j < i → f j = nI (cx_cf R ob j)) (e : v = nI (cx_cf R ob i)) : ∀ j, j < i + 1 → upd f i v j = nI (cx_cf R ob j) := by
  intro j hj
  by_cases ej : j = i
  · subst ej; rw [cx_updS]; exact e
  · rw [cx_updN ej]; exact h j (by omega)
theorem cx_upS (hi : i < 20) (h : cx_up n R (20 - i) v tp) (hne : ¬ v = tp) (hp : (R v.toNatClampNeg < nI n ∧ y = R v.toNatClampNeg) ∨ (¬ R v.toNatClampNeg < nI n ∧ y = -1)) : cx_up n R (20 - (i + 1)) y tp := by
  rw [show 20 - i = (20 - (i + 1)) + 1 by omega] at h
  exact cx_up_pt hp (h.2.resolve_left hne)
theorem cx_up0 (hi : 20 ≤ i) (h : cx_up n R (20 - i) v tp) : False := by
  rw [show 20 - i = 0 by omega] at h
  exact h
end CU
theorem cx_toN {w : Int32} (h : ¬ w < 0) : w.toInt = (w.toNatClampNeg : Int) := by
  obtain ⟨j, hj, rfl⟩ := nI_of h
  rw [nI_toInt hj, nI_clamp hj]
theorem cx_ltz {w : Int32} (h : w < 0) : w.toInt < 0 := by
  have := Int32.lt_iff_toInt_lt.mp h
  simpa using this
theorem cx_rL {r : Int32} {L : Nat} (hL : L ≤ 20) (e : r = nI L) : (r - nI 2).toInt = (L : Int) - 2 := by
  have hx : cx_ix r 21 := by rw [e]; exact cx_ixI (by omega) (by decide)
  rw [cx_sub2 hx, e, nI_clamp (by omega)]
theorem cx_owt {M : Nat → Nat → Int32} {mm c : Nat} (hc : c < 2 ^ 31) (h : nI c = M 0 mm) : cx_ow M mm = c := by
  show (M 0 mm).toNatClampNeg = c
  rw [← h, nI_clamp hc]
/-- the reference: taking, row by row -/
def cx_fT (B : Nat → Nat → Prop) (k i j : Nat) (f : Nat → Int32) : Prop := ∀ a b, b < k → (a < i ∨ (a = i ∧ b < j)) → (¬ f (80 * a + b) = 0 ↔ B a b)
theorem cx_fT0 {B : Nat → Nat → Prop} {k : Nat} {f : Nat → Int32} : cx_fT B k 0 0 f := fun a b _ h => absurd h (by omega)
theorem cx_fTS {B : Nat → Nat → Prop} {k i j : Nat} {f : Nat → Int32} {v : Int32} (hk : k ≤ 80) (hj : j < k) (h : cx_fT B k i j f) (hb : (v = 0 ∨ v = 1) ∧ (¬ v = 0 ↔ B i j)) : cx_fT B k i (j + 1) (upd f (80 * i + j) (vp_nar .boolean v)) := by
  have ev : vp_nar .boolean v = v := by
    rcases hb.1 with rfl | rfl
    · exact cx_n0b
    · exact cx_n1b
  rw [ev]
  intro a b hbk hab
  by_cases e : 80 * a + b = 80 * i + j
  · have ea : a = i := by omega
    have eb : b = j := by omega
    subst ea eb
    rw [cx_updS]
    exact hb.2
  · rw [cx_updN e]
    exact h a b hbk (by omega)
theorem cx_fTN {B : Nat → Nat → Prop} {k i j : Nat} {f : Nat → Int32} (hj : k ≤ j) (h : cx_fT B k i j f) : cx_fT B k (i + 1) 0 f := fun a b hb hab => h a b hb (by omega)
theorem cx_fTE {B : Nat → Nat → Prop} {k i j : Nat} {f : Nat → Int32} (hi : k ≤ i) (h : cx_fT B k i j f) : ∀ a b, a < k → b < k → (¬ f (80 * a + b) = 0 ↔ B a b) := fun a b ha hb => h a b hb (by omega)
def cx_j (A : Nat → Nat → Prop) (m t u : Nat) (f : Nat → Int32) (n : Nat) : Prop := ∀ a b, a < n → b < n → (¬ f (80 * a + b) = 0 ↔ A a b ∨ (a = t ∧ b < u ∧ A t m ∧ A m b))
theorem cx_j11 {A : Nat → Nat → Prop} {n m t u : Nat} {f : Nat → Int32} {v : Int32} (hn : n ≤ 80) (hm : m < n) (ht : t < n) (hu : u < n) (h : cx_j A m t u f n) (hc : ¬ f (80 * t + m) = 0) (hb : (v = 0 ∨ v = 1) ∧ (¬ v = 0 ↔ (¬ f (80 * t + u) = 0 ∨ ¬ f (80 * m + u) = 0))) : cx_j A m t (u + 1) (upd f (80 * t + u) (vp_nar .boolean v)) n := by
  have htm : A t m := by
    rcases (h t m ht hm).mp hc with z | z
    · exact z
    · exact z.2.2.1
  have ev : vp_nar .boolean v = v := by
    rcases hb.1 with rfl | rfl
    · exact cx_n0b
    · exact cx_n1b
  intro a b ha hb2
  by_cases e : 80 * a + b = 80 * t + u
  · have ea : a = t := by omega
    have eb : b = u := by omega
    rw [e, cx_updS, ev, hb.2, h t u ht hu, h m u hm hu]
    subst ea eb
    constructor
    · rintro ((z | z) | (z | z))
      · exact Or.inl z
      · exact absurd z.2.1 (by omega)
      · exact Or.inr ⟨rfl, by omega, htm, z⟩
      · exact absurd z.2.1 (by omega)
    · rintro (z | z)
      · exact Or.inl (Or.inl z)
      · exact Or.inr (Or.inl z.2.2.2)
  · rw [cx_updN e, h a b ha hb2]
    constructor
    · rintro (z | z)
      · exact Or.inl z
      · exact Or.inr ⟨z.1, by omega, z.2.2⟩
    · rintro (z | z)
      · exact Or.inl z
      · exact Or.inr ⟨z.1, by have := z.1; have := z.2.1; omega, z.2.2⟩
theorem cx_j12 {A : Nat → Nat → Prop} {n m t u : Nat} {f : Nat → Int32} (hu : n ≤ u) (h : cx_j (cx_w2 A m t) m t u f n) : ∀ a b, a < n → b < n → (¬ f (80 * a + b) = 0 ↔ cx_w2 A m (t + 1) a b) := by
  intro a b ha hb
  rw [h a b ha hb]
  show _ ↔ (cx_w2 A m t a b ∨ (a = t ∧ cx_w2 A m t t m ∧ cx_w2 A m t m b))
  exact ⟨fun z => z.elim Or.inl (fun y => Or.inr ⟨y.1, y.2.2⟩), fun z => z.elim Or.inl (fun y => Or.inr ⟨y.1, by omega, y.2⟩)⟩
theorem cx_j13 {A : Nat → Nat → Prop} {n m t u : Nat} {f : Nat → Int32} (hm : m < n) (ht : t < n) (h : cx_j (cx_w2 A m t) m t u f n) (hc : f (80 * t + m) = 0) : ∀ a b, a < n → b < n → (¬ f (80 * a + b) = 0 ↔ cx_w2 A m (t + 1) a b) := by
  have htm : ¬ cx_w2 A m t t m := fun z => (h t m ht hm).mpr (Or.inl z) hc
  intro a b ha hb
  rw [h a b ha hb]
  show _ ↔ (cx_w2 A m t a b ∨ (a = t ∧ cx_w2 A m t t m ∧ cx_w2 A m t m b))
  exact ⟨fun z => z.elim Or.inl (fun y => absurd y.2.2.1 htm), fun z => z.elim Or.inl (fun y => absurd y.2.1 htm)⟩
theorem cx_j10 {A : Nat → Nat → Prop} {n m t : Nat} {f : Nat → Int32} (h : ∀ a b, a < n → b < n → (¬ f (80 * a + b) = 0 ↔ A a b)) : cx_j A m t 0 f n := fun a b ha hb => by
  rw [h a b ha hb]
  exact ⟨Or.inl, fun z => z.elim id (fun y => absurd y.2.1 (by omega))⟩
theorem cx_jN {A : Nat → Nat → Prop} {n m t : Nat} {f : Nat → Int32} (ht : n ≤ t) (ht2 : t ≤ n) (h : ∀ a b, a < n → b < n → (¬ f (80 * a + b) = 0 ↔ cx_w2 (cx_w3 n A m) m t a b)) : ∀ a b, a < n → b < n → (¬ f (80 * a + b) = 0 ↔ cx_w3 n A (m + 1) a b) := by
  have e : t = n := by omega
  subst e
  exact h
theorem cx_jE {A : Nat → Nat → Prop} {n m : Nat} {f : Nat → Int32} (hm : n ≤ m) (hm2 : m ≤ n) (h : ∀ a b, a < n → b < n → (¬ f (80 * a + b) = 0 ↔ cx_w3 n A m a b)) : ∀ a b, a < n → b < n → (¬ f (80 * a + b) = 0 ↔ cx_w3 n A n a b) := by
  have e : m = n := by omega
  subst e
  exact h
/-! the reference's answers -/
section CR
variable {n k : Nat} {K X P R : Nat → Int32} {M : Nat → Nat → Int32} {U W V A : Nat → Nat → Prop} {t ob : Nat} {nm pm v : Int32}
theorem cx_nrT (hA : cx_AX n R U A) (h : ¬ cx_WR n k K X P R M U W V A ob) (hi : cx_is A ob t) : ∀ u, u < n → cx_is A t u → ¬ A u u := fun u hu hiu => cx_nrW h u hu (cx_isT hA hi hiu)
theorem cx_ca1 (h : cx_mt n k K P R M A t nm pm v) (e : v = -1) : ∃ r0 : Int32, cx_cal n k K P R M A t ob nm pm r0 ∧ ((r0 = -1 ∧ (-3 : Int32) = (-3 : Int32)) ∨ (¬ r0 = -1 ∧ (-3 : Int32) = r0)) := ⟨-1, ⟨v, h, Or.inl ⟨e, rfl⟩⟩, Or.inl ⟨rfl, rfl⟩⟩
theorem cx_ca2 (h : cx_mt n k K P R M A t nm pm v) (e : ¬ v = -1) (h0 : M 4 v.toNatClampNeg = 0) : ∃ r0 : Int32, cx_cal n k K P R M A t ob nm pm r0 ∧ ((r0 = -1 ∧ v = (-3 : Int32)) ∨ (¬ r0 = -1 ∧ v = r0)) := ⟨v, ⟨v, h, Or.inr ⟨e, Or.inl ⟨h0, rfl⟩⟩⟩, Or.inr ⟨e, rfl⟩⟩
theorem cx_ca3 {r : Int32} (h : cx_mt n k K P R M A t nm pm v) (e : ¬ v = -1) (h0 : ¬ M 4 v.toNatClampNeg = 0) (h1 : cx_fc K M v.toNatClampNeg) (h2 : ∃ r0 : Int32, cx_rn n k K P R M A ob nm pm r0 ∧ ((r0 = -1 ∧ r = (-3 : Int32)) ∨ (¬ r0 = -1 ∧ r = r0))) : ∃ r0 : Int32, cx_cal n k K P R M A t ob nm pm r0 ∧ ((r0 = -1 ∧ r = (-3 : Int32)) ∨ (¬ r0 = -1 ∧ r = r0)) := by
  obtain ⟨r0, hr, hx⟩ := h2
  exact ⟨r0, ⟨v, h, Or.inr ⟨e, Or.inr ⟨h0, Or.inl ⟨h1, hr⟩⟩⟩⟩, hx⟩
theorem cx_ca4 {m : Nat} {r : Int32} (hm : m < 80) (h : cx_mt n k K P R M A t nm pm v) (e : ¬ v = -1) (h0 : ¬ M 4 v.toNatClampNeg = 0) (h1 : ¬ cx_fc K M v.toNatClampNeg) (h2 : cx_one n k R (cx_tq k K P M A v.toNatClampNeg) 20 (nI ob) (nI m)) (h3 : (cx_mk (M 3) m 1 ∧ r = (-3 : Int32)) ∨ (¬ cx_mk (M 3) m 1 ∧ r = nI m)) : ∃ r0 : Int32, cx_cal n k K P R M A t ob nm pm r0 ∧ ((r0 = -1 ∧ r = (-3 : Int32)) ∨ (¬ r0 = -1 ∧ r = r0)) := by
  have hne : ¬ nI m = -1 := cx_ixm (cx_ixI (j := m) (B := 80) hm (by decide)) (by decide)
  have em : (nI m).toNatClampNeg = m := nI_clamp (by omega)
  rcases h3 with ⟨a, b⟩ | ⟨a, b⟩
  · exact ⟨-1, ⟨v, h, Or.inr ⟨e, Or.inr ⟨h0, Or.inr ⟨h1, _, h2, Or.inr ⟨hne, Or.inl ⟨by rw [em]; exact a, rfl⟩⟩⟩⟩⟩⟩, Or.inl ⟨rfl, b⟩⟩
  · exact ⟨nI m, ⟨v, h, Or.inr ⟨e, Or.inr ⟨h0, Or.inr ⟨h1, _, h2, Or.inr ⟨hne, Or.inr ⟨by rw [em]; exact a, rfl⟩⟩⟩⟩⟩⟩, Or.inr ⟨hne, b⟩⟩
theorem cx_ca5 (h : cx_mt n k K P R M A t nm pm v) (e : ¬ v = -1) (h0 : ¬ M 4 v.toNatClampNeg = 0) (h1 : ¬ cx_fc K M v.toNatClampNeg) (h2 : cx_one n k R (cx_tq k K P M A v.toNatClampNeg) 20 (nI ob) (-1)) : ∃ r0 : Int32, cx_cal n k K P R M A t ob nm pm r0 ∧ ((r0 = -1 ∧ (-3 : Int32) = (-3 : Int32)) ∨ (¬ r0 = -1 ∧ (-3 : Int32) = r0)) :=
  ⟨-1, ⟨v, h, Or.inr ⟨e, Or.inr ⟨h0, Or.inr ⟨h1, _, h2, Or.inl ⟨rfl, rfl⟩⟩⟩⟩⟩, Or.inl ⟨rfl, rfl⟩⟩
end CR
theorem cx_tqn {k : Nat} {K P : Nat → Int32} {M : Nat → Nat → Int32} {A : Nat → Nat → Prop} {mm j n : Nat} {v : Int32} (hO : cx_R (M 0) 20) (hv : cx_ix v n) (h : ¬ M 0 j = v) : ¬ cx_tq k K P M A mm v.toNatClampNeg j := fun z => h ((hO j).1.trans ((congrArg nI z.1).trans hv.1.symm))
theorem cx_tqy {k : Nat} {K P : Nat → Int32} {M : Nat → Nat → Int32} {A : Nat → Nat → Prop} {mm j : Nat} {v : Int32} (_hO : cx_R (M 0) 20) (h : M 0 j = v) (h2 : cx_tks k K P M A mm j) : cx_tq k K P M A mm v.toNatClampNeg j := ⟨by show (M 0 j).toNatClampNeg = _; rw [h], h2⟩
