/-! What stands above what: both sides run the same steps (Warshall's), row by row; the steps as relations. -/
def cx_w1 (A : Nat → Nat → Prop) (m t : Nat) : Nat → Nat → Prop := fun a u => A a u ∨ (a = t ∧ A t m ∧ A m u)
def cx_w2 (A : Nat → Nat → Prop) (m : Nat) : Nat → Nat → Nat → Prop
  | 0 => A
  | t + 1 => cx_w1 (cx_w2 A m t) m t
def cx_w3 (n : Nat) (A : Nat → Nat → Prop) : Nat → Nat → Nat → Prop
  | 0 => A
  | m + 1 => cx_w2 (cx_w3 n A m) m n
theorem cx_w2_eq {n m : Nat} {A B : Nat → Nat → Prop} (h : ∀ a u, a < n → u < n → (A a u ↔ B a u)) (hm : m < n) : ∀ t, t ≤ n → ∀ a u, a < n → u < n → (cx_w2 A m t a u ↔ cx_w2 B m t a u) := by
  intro t
  induction t with
  | zero => intro _ a u ha hu; exact h a u ha hu
  | succ t ih =>
    intro ht a u ha hu
    have i1 := ih (by omega)
    show (cx_w2 A m t a u ∨ (a = t ∧ cx_w2 A m t t m ∧ cx_w2 A m t m u)) ↔ (cx_w2 B m t a u ∨ (a = t ∧ cx_w2 B m t t m ∧ cx_w2 B m t m u))
    rw [i1 a u ha hu, i1 t m (by omega) hm, i1 m u hm hu]
theorem cx_w3_eq {n : Nat} {A B : Nat → Nat → Prop} (h : ∀ a u, a < n → u < n → (A a u ↔ B a u)) : ∀ m, m ≤ n → ∀ a u, a < n → u < n → (cx_w3 n A m a u ↔ cx_w3 n B m a u) := by
  intro m
  induction m with
  | zero => intro _ a u ha hu; exact h a u ha hu
  | succ m ih => intro hm a u ha hu; exact cx_w2_eq (ih (by omega)) (by omega) n (Nat.le_refl n) a u ha hu
/-- the class: what is next, by its bits; the row above is the closure -/
def cx_En (T : Nat → Nat → Int32) (n : Nat) : Nat → Nat → Prop := fun a u => bt ((T 4 a) ||| (T 5 a)) u = true ∧ u < n
def cx_CL (T : Nat → Nat → Int32) (n : Nat) (f : Nat → Int32) : Prop := ∀ a, a < n → ∀ u, u < 20 → (bt (f a) u = true ↔ cx_w3 n (cx_En T n) n a u)
theorem cx_ev : ∀ n, n < 21 → ∀ u, u < 20 → bt (((1 : Int32) <<< (nI n &&& 31)) - (1 : Int32)) u = decide (u < n) := by decide +kernel
theorem cx_updS {f : Nat → Int32} {k : Nat} {x : Int32} : upd f k x k = x := by simp [upd]
theorem cx_updN {f : Nat → Int32} {k j : Nat} {x : Int32} (h : ¬ j = k) : upd f k x j = f j := by simp [upd, h]
theorem cx_q1 {T : Nat → Nat → Int32} {n t : Nat} {f : Nat → Int32} (hn : n ≤ 20) (h : ∀ a, a < t → ∀ u, u < 20 → (bt (f a) u = true ↔ cx_En T n a u)) : ∀ a, a < t + 1 → ∀ u, u < 20 → (bt (upd f t (((T 4 t) ||| (T 5 t)) &&& (((1 : Int32) <<< (nI n &&& 31)) - (1 : Int32))) a) u = true ↔ cx_En T n a u) := by
  intro a ha u hu
  by_cases e : a = t
  · subst e
    rw [cx_updS, b_and, cx_ev n (by omega) u hu]
    simp [cx_En]
  · rw [cx_updN e]
    exact h a (by omega) u hu
theorem cx_bitf {x : Int32} {o : Nat} (ho : o < 20) (h : ((x >>> (nI o &&& 31)) &&& (1 : Int32)) = 0) : bt x o = false := by
  have h1 : bt ((x >>> (nI o &&& 31)) &&& (1 : Int32)) 0 = bt 0 0 := by rw [h]
  rw [b_and, b_0, cx_b1i 0 (by omega), b_sshr o (by omega) x (by omega)] at h1
  simpa [show o < 32 by omega] using h1
theorem cx_q2t {A : Nat → Nat → Prop} {n md t : Nat} {f : Nat → Int32} (hn : n ≤ 20) (hm : md < n) (ht : t < n) (hq : ∀ a, a < n → ∀ u, u < 20 → (bt (f a) u = true ↔ cx_w2 A md t a u)) (h : ¬ (((f t) >>> (nI md &&& 31)) &&& (1 : Int32)) = 0) : ∀ a, a < n → ∀ u, u < 20 → (bt (upd f t ((f t) ||| (f md)) a) u = true ↔ cx_w2 A md (t + 1) a u) := by
  intro a ha u hu
  have hb := (hq t ht md (by omega)).mp (cx_bit (by omega) h)
  show _ ↔ (cx_w2 A md t a u ∨ (a = t ∧ cx_w2 A md t t md ∧ cx_w2 A md t md u))
  by_cases e : a = t
  · subst e
    rw [cx_updS, b_or, Bool.or_eq_true, hq a ha u hu, hq md hm u hu]
    exact ⟨fun z => z.elim Or.inl (fun y => Or.inr ⟨rfl, hb, y⟩), fun z => z.elim Or.inl (fun y => Or.inr y.2.2)⟩
  · rw [cx_updN e, hq a ha u hu]
    exact ⟨Or.inl, fun z => z.elim id (fun y => absurd y.1 e)⟩
theorem cx_q2f {A : Nat → Nat → Prop} {n md t : Nat} {f : Nat → Int32} (hn : n ≤ 20) (hm : md < n) (ht : t < n) (hq : ∀ a, a < n → ∀ u, u < 20 → (bt (f a) u = true ↔ cx_w2 A md t a u)) (h : ¬ ¬ (((f t) >>> (nI md &&& 31)) &&& (1 : Int32)) = 0) : ∀ a, a < n → ∀ u, u < 20 → (bt (f a) u = true ↔ cx_w2 A md (t + 1) a u) := by
  intro a ha u hu
  have h0 : (((f t) >>> (nI md &&& 31)) &&& (1 : Int32)) = 0 := Decidable.not_not.mp h
  have hb : ¬ cx_w2 A md t t md := fun z => by
    have := (hq t ht md (by omega)).mpr z
    rw [cx_bitf (by omega) h0] at this
    exact absurd this (by decide)
  show _ ↔ (cx_w2 A md t a u ∨ (a = t ∧ cx_w2 A md t t md ∧ cx_w2 A md t md u))
  rw [hq a ha u hu]
  exact ⟨Or.inl, fun z => z.elim id (fun y => absurd y.2.1 hb)⟩
/-- the reference: its edges; what is known of its rows -/
def cx_Eu (T : Nat → Nat → Int32) (n a k u : Nat) : Prop := u < n ∧ (T 3 a = nI u ∨ ∃ j, j < k ∧ T 4 (3 * a + j) = nI u)
def cx_Er (T : Nat → Nat → Int32) (n : Nat) : Nat → Nat → Prop := fun a u => cx_Eu T n a ((T 5 a).toNatClampNeg) u
def cx_KN (n : Nat) (T : Nat → Nat → Int32) (za : Nat → Int32) (kn : Int32) : Prop := kn = 0 ∨ ∀ a u, a < n → u < n → (¬ za (20 * a + u) = 0 ↔ cx_w3 n (cx_Er T n) n a u)
theorem cx_n0b : vp_nar .boolean (0 : Int32) = 0 := by decide
theorem cx_n1b : vp_nar .boolean (1 : Int32) = 1 := by decide
theorem cx_k1 {f : Nat → Int32} {i : Nat} (h : ∀ j, j < i → f j = 0) : ∀ j, j < i + 1 → upd f i (vp_nar .boolean (0 : Int32)) j = 0 := by
  intro j hj
  by_cases e : j = i
  · subst e; rw [cx_updS, cx_n0b]
  · rw [cx_updN e]; exact h j (by omega)
theorem cx_k2 {T : Nat → Nat → Int32} {n : Nat} {f : Nat → Int32} (h : ∀ j, j < 400 → f j = 0) : ∀ a u, a < 20 → u < 20 → (¬ f (20 * a + u) = 0 ↔ (a < 0 ∧ cx_Er T n a u)) := fun a u ha hu => ⟨fun z => absurd (h _ (by omega)) z, fun z => absurd z.1 (by omega)⟩
theorem cx_nIinj {a b : Nat} (ha : a < 2 ^ 31) (hb : b < 2 ^ 31) (h : nI a = nI b) : a = b := (nI_eq ha hb).mp h
theorem cx_in0 {u n : Nat} (hn : n ≤ 20) (hu : u < n) : 0 ≤ nI u ∧ nI u < nI n := ⟨nI_pos' (by omega), nI_lt hu (by omega)⟩
theorem cx_k3 {T : Nat → Nat → Int32} {n t : Nat} {f : Nat → Int32} (hn : n ≤ 20) (h : ∀ a u, a < 20 → u < 20 → (¬ f (20 * a + u) = 0 ↔ (a < t ∧ cx_Er T n a u))) (hp : ¬ (0 ≤ T 3 t ∧ T 3 t < nI n)) : ∀ a u, a < 20 → u < 20 → (¬ f (20 * a + u) = 0 ↔ (a < t ∧ cx_Er T n a u) ∨ (a = t ∧ cx_Eu T n a 0 u)) := by
  intro a u ha hu
  rw [h a u ha hu]
  refine ⟨Or.inl, fun z => z.elim id (fun y => ?_)⟩
  obtain ⟨rfl, hun, hy | ⟨j, hj, -⟩⟩ := y
  · exact absurd (by rw [hy]; exact cx_in0 hn hun) hp
  · exact absurd hj (by omega)
theorem cx_k4 {T : Nat → Nat → Int32} {n t : Nat} {f : Nat → Int32} (hn : n ≤ 20) (ht : t < n) (h : ∀ a u, a < 20 → u < 20 → (¬ f (20 * a + u) = 0 ↔ (a < t ∧ cx_Er T n a u))) (hp : 0 ≤ T 3 t ∧ T 3 t < nI n) : ∀ a u, a < 20 → u < 20 → (¬ upd f (20 * t + (T 3 t).toNatClampNeg) (vp_nar .boolean (1 : Int32)) (20 * a + u) = 0 ↔ (a < t ∧ cx_Er T n a u) ∨ (a = t ∧ cx_Eu T n a 0 u)) := by
  intro a u ha hu
  have hi := cx_ixT (by omega) hp
  have h2 := hi.2
  by_cases e : 20 * a + u = 20 * t + (T 3 t).toNatClampNeg
  · rw [e, cx_updS, cx_n1b]
    have ea : a = t := by omega
    have eu : u = (T 3 t).toNatClampNeg := by omega
    exact ⟨fun _ => Or.inr ⟨ea, by omega, Or.inl (by rw [ea, eu]; exact hi.1)⟩, fun _ => by decide⟩
  · rw [cx_updN e, h a u ha hu]
    refine ⟨Or.inl, fun z => z.elim id (fun y => ?_)⟩
    obtain ⟨rfl, hun, hy | ⟨j, hj, -⟩⟩ := y
    · exact absurd (by rw [hy, nI_clamp (by omega)]) e
    · exact absurd hj (by omega)
theorem cx_EuS {T : Nat → Nat → Int32} {n a k u : Nat} : cx_Eu T n a (k + 1) u ↔ cx_Eu T n a k u ∨ (u < n ∧ T 4 (3 * a + k) = nI u) := by
  constructor
  · rintro ⟨h, h1 | ⟨j, hj, h1⟩⟩
    · exact Or.inl ⟨h, Or.inl h1⟩
    · by_cases e : j = k
      · subst e; exact Or.inr ⟨h, h1⟩
      · exact Or.inl ⟨h, Or.inr ⟨j, by omega, h1⟩⟩
  · rintro (⟨h, h1 | ⟨j, hj, h1⟩⟩ | ⟨h, h1⟩)
    · exact ⟨h, Or.inl h1⟩
    · exact ⟨h, Or.inr ⟨j, by omega, h1⟩⟩
    · exact ⟨h, Or.inr ⟨k, by omega, h1⟩⟩
theorem cx_k5 {T : Nat → Nat → Int32} {n t k : Nat} {f : Nat → Int32} (hn : n ≤ 20) (hu0 : cx_ix (T 4 (3 * t + k)) 20) (h : ∀ a u, a < 20 → u < 20 → (¬ f (20 * a + u) = 0 ↔ (a < t ∧ cx_Er T n a u) ∨ (a = t ∧ cx_Eu T n a k u))) (hp : ¬ (0 ≤ nI ((T 4 (3 * t + k)).toNatClampNeg) ∧ nI ((T 4 (3 * t + k)).toNatClampNeg) < nI n)) : ∀ a u, a < 20 → u < 20 → (¬ f (20 * a + u) = 0 ↔ (a < t ∧ cx_Er T n a u) ∨ (a = t ∧ cx_Eu T n a (k + 1) u)) := by
  intro a u ha hu
  rw [h a u ha hu]
  refine ⟨fun z => z.elim Or.inl (fun y => Or.inr ⟨y.1, cx_EuS.mpr (Or.inl y.2)⟩), fun z => z.elim Or.inl (fun y => ?_)⟩
  obtain ⟨rfl, y⟩ := y
  rcases cx_EuS.mp y with y | ⟨hun, hy⟩
  · exact Or.inr ⟨rfl, y⟩
  · rw [← hu0.1, hy] at hp
    exact absurd (cx_in0 hn hun) hp
theorem cx_k6 {T : Nat → Nat → Int32} {n t k : Nat} {f : Nat → Int32} (hn : n ≤ 20) (ht : t < n) (hu0 : cx_ix (T 4 (3 * t + k)) 20) (h : ∀ a u, a < 20 → u < 20 → (¬ f (20 * a + u) = 0 ↔ (a < t ∧ cx_Er T n a u) ∨ (a = t ∧ cx_Eu T n a k u))) (hp : 0 ≤ nI ((T 4 (3 * t + k)).toNatClampNeg) ∧ nI ((T 4 (3 * t + k)).toNatClampNeg) < nI n) : ∀ a u, a < 20 → u < 20 → (¬ upd f (20 * t + (T 4 (3 * t + k)).toNatClampNeg) (vp_nar .boolean (1 : Int32)) (20 * a + u) = 0 ↔ (a < t ∧ cx_Er T n a u) ∨ (a = t ∧ cx_Eu T n a (k + 1) u)) := by
  intro a u ha hu
  have h2 := hu0.2
  have h3 : (T 4 (3 * t + k)).toNatClampNeg < n := (nI_ltI (by omega) (by omega)).mp hp.2
  by_cases e : 20 * a + u = 20 * t + (T 4 (3 * t + k)).toNatClampNeg
  · rw [e, cx_updS, cx_n1b]
    have ea : a = t := by omega
    have eu : u = (T 4 (3 * t + k)).toNatClampNeg := by omega
    exact ⟨fun _ => Or.inr ⟨ea, cx_EuS.mpr (Or.inr ⟨by omega, by rw [ea, eu]; exact hu0.1⟩)⟩, fun _ => by decide⟩
  · rw [cx_updN e, h a u ha hu]
    refine ⟨fun z => z.elim Or.inl (fun y => Or.inr ⟨y.1, cx_EuS.mpr (Or.inl y.2)⟩), fun z => z.elim Or.inl (fun y => ?_)⟩
    obtain ⟨rfl, y⟩ := y
    rcases cx_EuS.mp y with y | ⟨hun, hy⟩
    · exact Or.inr ⟨rfl, y⟩
    · exact absurd (by rw [hy, nI_clamp (by omega)]) e
theorem cx_k7 {T : Nat → Nat → Int32} {n t k : Nat} {f : Nat → Int32} (hk : k = (T 5 t).toNatClampNeg) (h : ∀ a u, a < 20 → u < 20 → (¬ f (20 * a + u) = 0 ↔ (a < t ∧ cx_Er T n a u) ∨ (a = t ∧ cx_Eu T n a k u))) : ∀ a u, a < 20 → u < 20 → (¬ f (20 * a + u) = 0 ↔ (a < t + 1 ∧ cx_Er T n a u)) := by
  intro a u ha hu
  rw [h a u ha hu]
  constructor
  · rintro (⟨z, y⟩ | ⟨rfl, y⟩)
    · exact ⟨by omega, y⟩
    · exact ⟨by omega, by rw [hk] at y; exact y⟩
  · rintro ⟨z, y⟩
    by_cases e : a = t
    · subst e; exact Or.inr ⟨rfl, by rw [hk]; exact y⟩
    · exact Or.inl ⟨by omega, y⟩
/-- the inner step: row t, up to u -/
def cx_k (A : Nat → Nat → Prop) (m t u : Nat) (f : Nat → Int32) (n : Nat) : Prop := ∀ a b, a < n → b < n → (¬ f (20 * a + b) = 0 ↔ A a b ∨ (a = t ∧ b < u ∧ A t m ∧ A m b))
theorem cx_k11 {A : Nat → Nat → Prop} {n m t u : Nat} {f : Nat → Int32} {v : Int32} (hn : n ≤ 20) (hm : m < n) (ht : t < n) (hu : u < n) (h : cx_k A m t u f n) (hc : ¬ f (20 * t + m) = 0) (hv : v = 0 ∨ v = 1) (hv2 : ¬ v = 0 ↔ (¬ f (20 * t + u) = 0 ∨ ¬ f (20 * m + u) = 0)) : cx_k A m t (u + 1) (upd f (20 * t + u) (vp_nar .boolean v)) n := by
  have htm : A t m := by
    rcases (h t m ht hm).mp hc with z | z
    · exact z
    · exact z.2.2.1
  have ev : vp_nar .boolean v = v := by
    rcases hv with rfl | rfl
    · exact cx_n0b
    · exact cx_n1b
  intro a b ha hb
  by_cases e : 20 * a + b = 20 * t + u
  · have ea : a = t := by omega
    have eb : b = u := by omega
    rw [e, cx_updS, ev, hv2, h t u ht hu, h m u hm hu]
    subst ea eb
    constructor
    · rintro ((z | z) | (z | z))
      · exact Or.inl z
      · exact absurd z.2.1 (by omega)
      · exact Or.inr ⟨rfl, by omega, htm, z⟩
      · exact absurd z.2.1 (by omega)
    · rintro (z | z)
      · exact Or.inl (Or.inl z)
      · exact Or.inr (Or.inl z.2.2.2)
  · rw [cx_updN e, h a b ha hb]
    constructor
    · rintro (z | z)
      · exact Or.inl z
      · exact Or.inr ⟨z.1, by omega, z.2.2⟩
    · rintro (z | z)
      · exact Or.inl z
      · exact Or.inr ⟨z.1, by have := z.1; have := z.2.1; omega, z.2.2⟩
theorem cx_k12 {A : Nat → Nat → Prop} {n m t u : Nat} {f : Nat → Int32} (hu : n ≤ u) (h : cx_k (cx_w2 A m t) m t u f n) : ∀ a b, a < n → b < n → (¬ f (20 * a + b) = 0 ↔ cx_w2 A m (t + 1) a b) := by
  intro a b ha hb
  rw [h a b ha hb]
  show _ ↔ (cx_w2 A m t a b ∨ (a = t ∧ cx_w2 A m t t m ∧ cx_w2 A m t m b))
  exact ⟨fun z => z.elim Or.inl (fun y => Or.inr ⟨y.1, y.2.2⟩), fun z => z.elim Or.inl (fun y => Or.inr ⟨y.1, by omega, y.2⟩)⟩
theorem cx_k13 {A : Nat → Nat → Prop} {n m t u : Nat} {f : Nat → Int32} (hm : m < n) (ht : t < n) (h : cx_k (cx_w2 A m t) m t u f n) (hc : f (20 * t + m) = 0) : ∀ a b, a < n → b < n → (¬ f (20 * a + b) = 0 ↔ cx_w2 A m (t + 1) a b) := by
  have htm : ¬ cx_w2 A m t t m := fun z => (h t m ht hm).mpr (Or.inl z) hc
  intro a b ha hb
  rw [h a b ha hb]
  show _ ↔ (cx_w2 A m t a b ∨ (a = t ∧ cx_w2 A m t t m ∧ cx_w2 A m t m b))
  exact ⟨fun z => z.elim Or.inl (fun y => absurd y.2.2.1 htm), fun z => z.elim Or.inl (fun y => absurd y.2.1 htm)⟩
theorem cx_k10 {A : Nat → Nat → Prop} {n m t : Nat} {f : Nat → Int32} (h : ∀ a b, a < n → b < n → (¬ f (20 * a + b) = 0 ↔ A a b)) : cx_k A m t 0 f n := fun a b ha hb => by
  rw [h a b ha hb]
  exact ⟨Or.inl, fun z => z.elim id (fun y => absurd y.2.1 (by omega))⟩
theorem cx_pbit {pr b : Int32} {u : Nat} (hp : pr = -1 ∨ cx_ix pr 20) (hu : u < 20) (hb : b = (if pr = -1 then (0 : Int32) else ((1 : Int32) <<< (pr &&& 31)))) : bt b u = true ↔ pr = nI u := by
  rcases hp with hp | hp
  · rw [hb, if_pos hp, b_0, hp]
    constructor
    · intro z; exact absurd z (by decide)
    · intro z
      have h0 := nI_pos' (n := u) (by omega)
      rw [← z] at h0
      exact absurd h0 (by decide)
  · have hn : ¬ pr = -1 := fun e => by
      have h0 := nI_pos' (n := pr.toNatClampNeg) (by have := hp.2; omega)
      rw [← hp.1, e] at h0
      exact absurd h0 (by decide)
    have h2 := hp.2
    rw [hb, if_neg hn, hp.1]
    rw [b_shl _ (by omega) 1 (show u < 32 by omega), cx_b1i _ (by omega)]
    constructor
    · intro z
      simp at z
      rw [show u = pr.toNatClampNeg by omega]
    · intro z
      have := cx_nIinj (by omega) (by omega) z
      subst this
      simp
theorem cx_ubit {f4 g5 : Nat → Int32} {t X : Nat} {xb : Int32} (ht : t < 20) (hX : (g5 t).toNatClampNeg = X) (hX3 : X < 3) (hg : cx_R g5 4) (hx : cx_ix xb 20) {f : Nat → Int32}
    (h : ∀ a, a < 20 → ∀ u, u < 20 → (bt (f a) u = true ↔ ∃ j, j < (g5 a).toNatClampNeg ∧ f4 (3 * a + j) = nI u)) :
    ∀ a, a < 20 → ∀ u, u < 20 → (bt (upd f t ((f t) ||| ((1 : Int32) <<< (xb &&& 31))) a) u = true ↔ ∃ j, j < (upd g5 t (nI (X + 1)) a).toNatClampNeg ∧ upd f4 (3 * t + X) xb (3 * a + j) = nI u) := by
  intro a ha u hu
  by_cases e : a = t
  · subst e
    have h2 := hx.2
    rw [cx_updS, cx_updS, nI_clamp (by omega), b_or, Bool.or_eq_true, h a ha u hu, hX]
    have hb1 : bt ((1 : Int32) <<< (xb &&& 31)) u = true ↔ xb = nI u := by
      have hn : ¬ xb = -1 := fun e => by
        have h0 := nI_pos' (n := xb.toNatClampNeg) (by omega)
        rw [← hx.1, e] at h0
        exact absurd h0 (by decide)
      exact cx_pbit (Or.inr hx) hu (by rw [if_neg hn])
    rw [hb1]
    constructor
    · rintro (⟨j, hj, hy⟩ | hy)
      · exact ⟨j, by omega, by rw [cx_updN (by omega)]; exact hy⟩
      · exact ⟨X, by omega, by rw [cx_updS]; exact hy⟩
    · rintro ⟨j, hj, hy⟩
      by_cases ej : j = X
      · subst ej; rw [cx_updS] at hy; exact Or.inr hy
      · rw [cx_updN (by omega)] at hy; exact Or.inl ⟨j, by omega, hy⟩
  · rw [cx_updN e, cx_updN e, h a ha u hu]
    have h4 := (hg a).2
    constructor
    · rintro ⟨j, hj, hy⟩; exact ⟨j, hj, by rw [cx_updN (by omega)]; exact hy⟩
    · rintro ⟨j, hj, hy⟩; exact ⟨j, hj, by rw [cx_updN (by omega)] at hy; exact hy⟩
