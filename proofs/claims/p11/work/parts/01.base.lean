/-! The base: one world a contract; calls, reads and writes over it. -/
def cx_isN : Cond → Bool
  | .fieldLinkNest _ _ _ _ _ _ => true
  | .methodLinkNest _ _ _ _ => true
  | _ => false
/-- words of nest mates: no list of a method holds them, so a contract carries them -/
def cx_N (NW : List Cond) (U : State) : Prop := ∀ w ∈ NW, va_Nw w U
theorem cx_nw {w : Cond} (h : cx_isN w = true) {s U : State} (hW : s.WarmedH U.vm) (hZ : va_Nw w s) : va_Nw w U := by
  cases w <;> first | exact va_Nw.warmF hW hZ | exact va_Nw.warmM hW hZ | exact absurd h (by simp [cx_isN])
theorem cx_ns {w : Cond} (h : cx_isN w = true) {u U : State} (hv : u.vm = U.vm) (hZ : va_Nw w u) : va_Nw w U := by
  cases w <;> first | exact va_Nw.same rfl hv hZ | exact absurd h (by simp [cx_isN])
/-- one array or number of a family is written -/
def cx_u (f : Nat → Nat → Int32) (k : Nat) (v : Nat → Int32) : Nat → Nat → Int32 := fun j => cond (Nat.beq j k) v (f j)
theorem cx_u_same (f : Nat → Nat → Int32) (k : Nat) (v : Nat → Int32) : cx_u f k v k = v := by simp [cx_u]
theorem cx_u_ne (f : Nat → Nat → Int32) (k : Nat) (v : Nat → Int32) {j : Nat} (h : j ≠ k) : cx_u f k v j = f j := by
  have hb : Nat.beq j k = false := by
    cases hq : Nat.beq j k with
    | false => rfl
    | true => exact absurd (Nat.eq_of_beq_eq_true hq) h
  simp [cx_u, hb]
/-- a truth value as a number -/
def cx_b (P : Prop) [Decidable P] : Int32 := if P then 1 else 0
theorem cx_bt {P : Prop} [Decidable P] (h : P) : (1 : Int32) = cx_b P := by simp [cx_b, h]
theorem cx_bf {P : Prop} [Decidable P] (h : ¬ P) : (0 : Int32) = cx_b P := by simp [cx_b, h]
theorem cx_b0 {P : Prop} [Decidable P] (h : cx_b P = 0) : ¬ P := fun p => by rw [cx_b, if_pos p] at h; exact absurd h (by decide)
theorem cx_b1 {P : Prop} [Decidable P] (h : ¬ cx_b P = 0) : P := by
  by_cases p : P
  · exact p
  · exact absurd (by rw [cx_b, if_neg p]) h
theorem cx_bn {P : Prop} [Decidable P] : narrow .boolean (.int (cx_b P)) = .int (cx_b P) := by
  by_cases p : P <;> simp [cx_b, p] <;> rfl
theorem cx_inc (i : Nat) : nI i + Int32.ofInt 1 = nI (i + 1) := nI_1 i
theorem cx_n0 : (0 : Int32) = nI 0 := nI_0.symm
def cx_S (D : va_G) (cl : List vw_C) (A : Nat → Prop) (s : State) (ws : va_W) (H : Heap) (locs : List Loc) : Prop := va_P D cl ws H ∧ va_D A ws ∧ va_S A s.heap H locs
def cx_E (D : va_G) (cl : List vw_C) (tys : List (ClassId × FieldType)) (NW : List Cond) (A : Nat → Prop) (s : State) : Prop := va_K D cl tys s ∧ cx_N NW s ∧ NW.all cx_isN = true ∧ ∀ q : Nat, s.heap.size ≤ q → A q
def cx_Pre (D : va_G) (cl : List vw_C) (tys : List (ClassId × FieldType)) (NW : List Cond) (ws : va_W) (sz : Nat) (U : State) : Prop := U.heap.size = sz ∧ va_P D cl ws U.heap ∧ va_K D cl tys U ∧ va_D (fun _ => True) ws ∧ cx_N NW U
/-- a contract over one world: an int (a boolean) is answered; no cell is made -/
def cx_Mi (l : Launch) (D : va_G) (cl : List vw_C) (tys : List (ClassId × FieldType)) (NW : List Cond) (y : MethodName) (wy : List Cond) (rm : Room) (av : List Value) (ws : va_W) {S : Type} (post : Int32 → S → Prop) (wf : S → va_W) : Prop :=
  ∀ sz : Nat, Met l y wy rm (va_Pc av (cx_Pre D cl tys NW ws sz)) (va_Qi post (fun u t => va_P D cl (wf u) t.heap ∧ va_K D cl tys t ∧ va_D (va_A ws sz) (wf u)) (va_A ws sz)) 0 0 (va_A ws sz)
def cx_Mv (l : Launch) (D : va_G) (cl : List vw_C) (tys : List (ClassId × FieldType)) (NW : List Cond) (y : MethodName) (wy : List Cond) (rm : Room) (av : List Value) (ws : va_W) {S : Type} (post : S → Prop) (wf : S → va_W) : Prop :=
  ∀ sz : Nat, Met l y wy rm (va_Pc av (cx_Pre D cl tys NW ws sz)) (va_Qv post (fun u t => va_P D cl (wf u) t.heap ∧ va_K D cl tys t ∧ va_D (va_A ws sz) (wf u)) (va_A ws sz)) 0 0 (va_A ws sz)
theorem cx_S.to {D : va_G} {cl : List vw_C} {A : Nat → Prop} {s : State} {ws ws' : va_W} {H : Heap} {locs : List Loc} (h : cx_S D cl A s ws H locs) (e : ws = ws') : cx_S D cl A s ws' H locs := e ▸ h
theorem cx_S.free {D : va_G} {cl : List vw_C} {A : Nat → Prop} {s : State} {ws : va_W} {H : Heap} {locs : List Loc} (h : cx_S D cl A s ws H locs) (hA : ∀ q : Nat, s.heap.size ≤ q → A q) : ∀ q : Nat, va_A ws H.size q → A q := by
  intro q hq
  rcases hq with ⟨k, e, hk⟩ | hq
  · exact h.2.1.2 k (q, e) hk
  · exact hA q (Nat.le_trans h.2.2.1 hq)
theorem cx_blind {D : va_G} {cl : List vw_C} {tys : List (ClassId × FieldType)} {NW : List Cond} (hNW : NW.all cx_isN = true) (av : List Value) (ws : va_W) (sz : Nat) : FrameBlind (va_Pc av (cx_Pre D cl tys NW ws sz)) := by
  intro a U g mk h
  obtain ⟨q0, q1, qP, qK, qD, qN⟩ := h
  exact ⟨q0, q1, qP, va_K.moved (u := U) (U := U.calling g mk a) (Vm.Alike.refl U.vm) qK, qD, fun w hw => cx_ns (List.all_eq_true.mp hNW w hw) (u := U) (U := U.calling g mk a) rfl (qN w hw)⟩
theorem cx_pre {D : va_G} {cl : List vw_C} {tys : List (ClassId × FieldType)} {NW : List Cond} {A : Nat → Prop} {s : State} {ws : va_W} {H : Heap} {locs : List Loc} (hE : cx_E D cl tys NW A s) (hS : cx_S D cl A s ws H locs) (av : List Value) : ∀ U : State, U.heap = H → s.WarmedH U.vm → va_Pc av (cx_Pre D cl tys NW ws H.size) av.toArray U := fun U hU hW =>
  ⟨rfl, by rw [hU], by rw [hU]; exact hS.1, va_K.moved hW.alike hE.1, hS.2.1.weaken (fun _ _ _ _ => trivial), fun w hw => cx_nw (List.all_eq_true.mp hE.2.2.1 w hw) hW (hE.2.1 w hw)⟩
theorem cx_Mi.of {l : Launch} {D : va_G} {cl : List vw_C} {tys : List (ClassId × FieldType)} {NW : List Cond} {y : MethodName} {wy ws' : List Cond} {rm : Room} {av : List Value} {ws : va_W} {S : Type} {post : Int32 → S → Prop} {wf : S → va_W} {cc : ByteArray} {maxL : Nat} {ty : FieldType}
    (hNW : NW.all cx_isN = true) (hy : plainName y.cls = true) (hw : wy = Cond.code y cc maxL (some ty) :: ws') (hlen : (lg_sl av).length ≤ maxL)
    (body : ∀ (p : Program) (e : Env) (s : State) (m : MethodId) (args : Array Value) (below : List Frame) (meth : Method) (c : Code) (Q : State → Prop) (A : Nat → Prop) (ls : Array Slot),
      p.tables.exec = Jvm.exec → c.code = cc → c.maxLocals = maxL → s.vm.findClass y.cls = some m.cls → (∀ w ∈ wy, w.before args s = true) → cx_E D cl tys NW A s →
      (∀ (r : Int32) (u : S) (H : Heap) (locs : List Loc) (pc : Nat) (ls : Array Slot), decode cc pc = .ok (.ireturn, 1) → narrow ty (.int r) = .int r → post r u → cx_S D cl A s (wf u) H locs → W p l e rm s m args below meth c H locs 0 0 Q (F0 m pc ls [.int r])) →
      cx_S D cl A s ws s.heap [] → lv_has ls maxL (lv_args 0 av) → W p l e rm s m args below meth c s.heap [] 0 0 Q (F0 m 0 ls [])) : cx_Mi l D cl tys NW y wy rm av ws post wf := by
  intro sz
  refine Met.ofW (cc := cc) (maxL := maxL) (ret := some ty) hy hw ?_
  intro p e s m args below meth c s₁ B hml hv
  obtain ⟨rfl, hsz, hP, hK, hD0, hN⟩ := hv
  subst hsz
  rw [lg_entry_eq]
  have hlocks := B.notSynchronized
  refine body p e s m _ below meth c _ (va_A ws s.heap.size) _ B.exec B.bytes hml (findClass_of_methodNamed B.named) (atoms_spec (ws := wy) B.pre) ⟨hK, hN, hNW, fun q h => Or.inr h⟩ (fun r u H locs pc ls hd hn hp hS => ?_) ⟨hP, hD0.self, va_S.rf⟩ (lv_entry av hlen)
  exact W.zret B.exec B.bytes B.returns hn (fun t ht hW => ⟨⟨r, u, rfl, hp, by rw [ht]; exact hS.1, va_K.moved hW.alike hK, hS.2.1⟩, hS.2.2.F ht⟩) hS.2.2.2.2 hd
theorem cx_Mv.of {l : Launch} {D : va_G} {cl : List vw_C} {tys : List (ClassId × FieldType)} {NW : List Cond} {y : MethodName} {wy ws' : List Cond} {rm : Room} {av : List Value} {ws : va_W} {S : Type} {post : S → Prop} {wf : S → va_W} {cc : ByteArray} {maxL : Nat}
    (hNW : NW.all cx_isN = true) (hy : plainName y.cls = true) (hw : wy = Cond.code y cc maxL none :: ws') (hlen : (lg_sl av).length ≤ maxL)
    (body : ∀ (p : Program) (e : Env) (s : State) (m : MethodId) (args : Array Value) (below : List Frame) (meth : Method) (c : Code) (Q : State → Prop) (A : Nat → Prop) (ls : Array Slot),
      p.tables.exec = Jvm.exec → c.code = cc → c.maxLocals = maxL → s.vm.findClass y.cls = some m.cls → (∀ w ∈ wy, w.before args s = true) → cx_E D cl tys NW A s →
      (∀ (u : S) (H : Heap) (locs : List Loc) (pc : Nat) (ls : Array Slot), decode cc pc = .ok (.return_, 1) → post u → cx_S D cl A s (wf u) H locs → W p l e rm s m args below meth c H locs 0 0 Q (F0 m pc ls [])) →
      cx_S D cl A s ws s.heap [] → lv_has ls maxL (lv_args 0 av) → W p l e rm s m args below meth c s.heap [] 0 0 Q (F0 m 0 ls [])) : cx_Mv l D cl tys NW y wy rm av ws post wf := by
  intro sz
  refine Met.ofW (cc := cc) (maxL := maxL) (ret := none) hy hw ?_
  intro p e s m args below meth c s₁ B hml hv
  obtain ⟨rfl, hsz, hP, hK, hD0, hN⟩ := hv
  subst hsz
  rw [lg_entry_eq]
  have hlocks := B.notSynchronized
  refine body p e s m _ below meth c _ (va_A ws s.heap.size) _ B.exec B.bytes hml (findClass_of_methodNamed B.named) (atoms_spec (ws := wy) B.pre) ⟨hK, hN, hNW, fun q h => Or.inr h⟩ (fun u H locs pc ls hd hp hS => ?_) ⟨hP, hD0.self, va_S.rf⟩ (lv_entry av hlen)
  exact W.vret B.exec B.bytes B.returns (fun t ht hW => ⟨⟨u, rfl, hp, by rw [ht]; exact hS.1, va_K.moved hW.alike hK, hS.2.1⟩, hS.2.2.F ht⟩) hS.2.2.2.2 hd
theorem cx_mem {big ws : List Cond} (ps : List Nat) (h : ws = ps.filterMap (fun i => big[i]?)) : ∀ w ∈ ws, w ∈ big := by
  intro w hw
  rw [h] at hw
  obtain ⟨i, -, hi⟩ := List.mem_filterMap.mp hw
  first | exact List.mem_of_getElem? hi | exact List.getElem?_mem hi
section CXB
variable {p : Program} {l : Launch} {e : Env} {R : Room} {s : State} {m : MethodId} {args : Array Value} {below : List Frame} {meth : Method} {c : Code} {H : Heap} {locs : List Loc} {cells slots : Nat} {Q : State → Prop} {D : va_G} {cl : List vw_C} {tys : List (ClassId × FieldType)} {NW : List Cond} {A : Nat → Prop} {cc bytes : ByteArray} {maxL nL n index pc : Nat} {ls : Array Slot} {ret : Option FieldType} {wy Ts : List Cond} {rm : Room} {own C host : String} {y : MethodName} {b : Nat} {As rest st0 : List Value} {ws ws' : va_W} {S : Type}
theorem cx_topr {x z : Int32} (h : x = z) (k : W p l e R s m args below meth c H locs cells slots Q (F0 m pc ls (.int z :: rest))) : W p l e R s m args below meth c H locs cells slots Q (F0 m pc ls (.int x :: rest)) := h ▸ k
theorem cx_vi {post : Int32 → S → Prop} {wf : S → va_W} (hE : cx_E D cl tys NW A s) (hS : cx_S D cl A s ws H locs) {a : Array Value}
    (hr : va_Run p l e R s m args below meth c H locs cells slots 0 0 (F0 m pc ls st0) rest (va_Qi post (fun u t => va_P D cl (wf u) t.heap ∧ va_K D cl tys t ∧ va_D (va_A ws H.size) (wf u)) (va_A ws H.size) a) (va_A ws H.size))
    (kk : ∀ (r : Int32) (u : S) (H1 : Heap) (locs1 : List Loc), post r u → cx_S D cl A s (wf u) H1 locs1 → W p l e R s m args below meth c H1 locs1 cells slots Q (F0 m (pc + 3) ls (.int r :: rest))) : W p l e R s m args below meth c H locs cells slots Q (F0 m pc ls st0) := by
  have hF := hS.free hE.2.2.2
  exact va_calli hr hS.2.2 (fun q _ h => hF q h) hF (fun r u t H1 locs1 ht _ hw hB _ _ hS1 => kk r u H1 locs1 hw ⟨by rw [← ht]; exact hB.1, hB.2.2.weaken (fun _ _ _ h => hF _ h), hS1⟩)
theorem cx_vv {post : S → Prop} {wf : S → va_W} (hE : cx_E D cl tys NW A s) (hS : cx_S D cl A s ws H locs) {a : Array Value}
    (hr : va_Run p l e R s m args below meth c H locs cells slots 0 0 (F0 m pc ls st0) rest (va_Qv post (fun u t => va_P D cl (wf u) t.heap ∧ va_K D cl tys t ∧ va_D (va_A ws H.size) (wf u)) (va_A ws H.size) a) (va_A ws H.size))
    (kk : ∀ (u : S) (H1 : Heap) (locs1 : List Loc), post u → cx_S D cl A s (wf u) H1 locs1 → W p l e R s m args below meth c H1 locs1 cells slots Q (F0 m (pc + 3) ls rest)) : W p l e R s m args below meth c H locs cells slots Q (F0 m pc ls st0) := by
  have hF := hS.free hE.2.2.2
  exact va_callv hr hS.2.2 (fun q _ h => hF q h) hF (fun u t H1 locs1 ht _ hw hB _ _ hS1 => kk u H1 locs1 hw ⟨by rw [← ht]; exact hB.1, hB.2.2.weaken (fun _ _ _ h => hF _ h), hS1⟩)
/-- a call of a method of an object in the world -/
theorem cx_cVi {post : Int32 → S → Prop} {wf : S → va_W} (F : CallFix p m c cc nL s args Ts own) (hE : cx_E D cl tys NW A s) (hS : cx_S D cl A s ws H locs) (hM : cx_Mi l D cl tys NW y wy rm (.ref b :: As) ws post wf) (cw : CallW R s args own C index y bytes maxL ret wy rm 0 0 n)
    (q0 ci : Nat) {T : u_T} {N : Nat} {fs : List Value} (he : ws[q0]? = some (b, .inr (ci, fs))) (hc : cl[ci]? = some (C, T, N)) (hn : As.length = n) (hsz : ls.size = nL) (hst : st0 = As.reverse ++ .ref b :: rest) (hW : (rest.map fun v => v.category).sum ≤ 8) (hf : cells ≤ R.cells ∧ slots ≤ R.slots) (hdg : decode cc pc = .ok (.invokevirtual index, 3))
    (kk : ∀ (r : Int32) (u : S) (H1 : Heap) (locs1 : List Loc), post r u → cx_S D cl A s (wf u) H1 locs1 → W p l e R s m args below meth c H1 locs1 cells slots Q (F0 m (pc + 3) ls (.int r :: rest))) : W p l e R s m args below meth c H locs cells slots Q (F0 m pc ls st0) :=
  cx_vi hE hS (va_runV F (hM H.size) cw ⟨cx_blind hE.2.2.1 _ _ _, va_recv hE.1 hS.1 hc he, cx_pre hE hS _⟩ rfl hn hsz hst (lv_room hW) hdg hf) kk
theorem cx_cVv {post : S → Prop} {wf : S → va_W} (F : CallFix p m c cc nL s args Ts own) (hE : cx_E D cl tys NW A s) (hS : cx_S D cl A s ws H locs) (hM : cx_Mv l D cl tys NW y wy rm (.ref b :: As) ws post wf) (cw : CallW R s args own C index y bytes maxL ret wy rm 0 0 n)
    (q0 ci : Nat) {T : u_T} {N : Nat} {fs : List Value} (he : ws[q0]? = some (b, .inr (ci, fs))) (hc : cl[ci]? = some (C, T, N)) (hn : As.length = n) (hsz : ls.size = nL) (hst : st0 = As.reverse ++ .ref b :: rest) (hW : (rest.map fun v => v.category).sum ≤ 8) (hf : cells ≤ R.cells ∧ slots ≤ R.slots) (hdg : decode cc pc = .ok (.invokevirtual index, 3))
    (kk : ∀ (u : S) (H1 : Heap) (locs1 : List Loc), post u → cx_S D cl A s (wf u) H1 locs1 → W p l e R s m args below meth c H1 locs1 cells slots Q (F0 m (pc + 3) ls rest)) : W p l e R s m args below meth c H locs cells slots Q (F0 m pc ls st0) :=
  cx_vv hE hS (va_runV F (hM H.size) cw ⟨cx_blind hE.2.2.1 _ _ _, va_recv hE.1 hS.1 hc he, cx_pre hE hS _⟩ rfl hn hsz hst (lv_room hW) hdg hf) kk
/-- a call of a static method of the own class -/
theorem cx_cSi {post : Int32 → S → Prop} {wf : S → va_W} (F : CallFix p m c cc nL s args Ts own) (hE : cx_E D cl tys NW A s) (hS : cx_S D cl A s ws H locs) (hM : cx_Mi l D cl tys NW y wy rm As ws post wf) (cw : CallB R s args own index y bytes maxL ret wy rm 0 0 n ∧ (Cond.static y).before args s = true)
    (hn : As.length = n) (hsz : ls.size = nL) (hst : st0 = As.reverse ++ rest) (hW : (rest.map fun v => v.category).sum ≤ 8) (hf : cells ≤ R.cells ∧ slots ≤ R.slots) (hdg : decode cc pc = .ok (.invokestatic index, 3))
    (kk : ∀ (r : Int32) (u : S) (H1 : Heap) (locs1 : List Loc), post r u → cx_S D cl A s (wf u) H1 locs1 → W p l e R s m args below meth c H1 locs1 cells slots Q (F0 m (pc + 3) ls (.int r :: rest))) : W p l e R s m args below meth c H locs cells slots Q (F0 m pc ls st0) :=
  cx_vi hE hS (va_runS F (hM H.size) cw ⟨cx_blind hE.2.2.1 _ _ _, cx_pre hE hS _⟩ rfl hn hsz hst (lv_room hW) hdg hf) kk
/-- a call of a private static method of a nest mate -/
theorem cx_cNi {post : Int32 → S → Prop} {wf : S → va_W} (F : CallFix p m c cc nL s args Ts own) (hE : cx_E D cl tys NW A s) (hS : cx_S D cl A s ws H locs) (hM : cx_Mi l D cl tys NW y wy rm As ws post wf) (cw : va_CN R s args own index y host bytes maxL ret wy rm 0 0 n ∧ (Cond.static y).before args s = true ∧ True)
    (hn : As.length = n) (hsz : ls.size = nL) (hst : st0 = As.reverse ++ rest) (hW : (rest.map fun v => v.category).sum ≤ 8) (hf : cells ≤ R.cells ∧ slots ≤ R.slots) (hdg : decode cc pc = .ok (.invokestatic index, 3))
    (kk : ∀ (r : Int32) (u : S) (H1 : Heap) (locs1 : List Loc), post r u → cx_S D cl A s (wf u) H1 locs1 → W p l e R s m args below meth c H1 locs1 cells slots Q (F0 m (pc + 3) ls (.int r :: rest))) : W p l e R s m args below meth c H locs cells slots Q (F0 m pc ls st0) :=
  cx_vi hE hS (va_runSN F (hM H.size) cw ⟨cx_blind hE.2.2.1 _ _ _, cx_pre hE hS _⟩ rfl hn hsz hst (lv_room hW) hdg hf) kk
/-- arrays at an index that is a natural number -/
theorem cx_iald {a k : Nat} (hx : p.tables.exec = Jvm.exec) (hb : c.code = cc) (hE : cx_E D cl tys NW A s) (hS : cx_S D cl A s ws H locs) (q0 t0 : Nat) {cA : ClassId} {f : Nat → Int32} (ha : ws[q0]? = some (a, .inl (cA, n, .inl f))) (ht : tys[t0]? = some (cA, .int)) (hk : k < n) (hn : n < 2 ^ 31) (hdg : decode cc pc = .ok (.iaload, 1))
    (kk : W p l e R s m args below meth c H locs cells slots Q (F0 m (pc + 1) ls (.int (f k) :: rest))) : W p l e R s m args below meth c H locs cells slots Q (F0 m pc ls (.int (nI k) :: .ref a :: rest)) :=
  va_iald hx hb hE.1 hS.1 q0 t0 ha ht (vp_in_nI hk hn) hdg (by rw [nI_clamp (Nat.lt_trans hk hn)]; exact kk)
theorem cx_iast {a k : Nat} {x : Int32} (hx : p.tables.exec = Jvm.exec) (hb : c.code = cc) (hE : cx_E D cl tys NW A s) (hS : cx_S D cl A s ws H locs) (q0 t0 : Nat) {cA : ClassId} {f : Nat → Int32} (ha : ws[q0]? = some (a, .inl (cA, n, .inl f))) (ht : tys[t0]? = some (cA, .int)) (hk : k < n) (hn : n < 2 ^ 31) (hw : ws.set q0 (a, .inl (cA, n, .inl (upd f k x))) = ws') (hdg : decode cc pc = .ok (.iastore, 1))
    (kk : ∀ (H1 : Heap) (locs1 : List Loc), cx_S D cl A s ws' H1 locs1 → W p l e R s m args below meth c H1 locs1 cells slots Q (F0 m (pc + 1) ls rest)) : W p l e R s m args below meth c H locs cells slots Q (F0 m pc ls (.int x :: .int (nI k) :: .ref a :: rest)) :=
  va_iast hx hb hE.1 hS.1 hS.2.1 hS.2.2 q0 t0 ha ht (vp_in_nI hk hn) hdg (fun H1 locs1 hP hD hZ => kk H1 locs1 (by rw [nI_clamp (Nat.lt_trans hk hn)] at hP hD; rw [← hw]; exact ⟨hP, hD, hZ⟩))
theorem cx_zald {a k : Nat} (hx : p.tables.exec = Jvm.exec) (hb : c.code = cc) (hE : cx_E D cl tys NW A s) (hS : cx_S D cl A s ws H locs) (q0 t0 : Nat) {cA : ClassId} {f : Nat → Int32} (ha : ws[q0]? = some (a, .inl (cA, n, .inl f))) (ht : tys[t0]? = some (cA, .boolean)) (hk : k < n) (hn : n < 2 ^ 31) (hdg : decode cc pc = .ok (.baload, 1))
    (kk : W p l e R s m args below meth c H locs cells slots Q (F0 m (pc + 1) ls (.int (f k) :: rest))) : W p l e R s m args below meth c H locs cells slots Q (F0 m pc ls (.int (nI k) :: .ref a :: rest)) :=
  va_zald hx hb hE.1 hS.1 q0 t0 ha ht (vp_in_nI hk hn) hdg (by rw [nI_clamp (Nat.lt_trans hk hn)]; exact kk)
/-- the fields of an object in the world -/
theorem cx_get {a ci k : Nat} {T : u_T} {N : Nat} {v : Value} (hx : p.tables.exec = Jvm.exec) (hb : c.code = cc) (hts : ∀ w ∈ Ts, w.before args s = true) (hown : s.vm.findClass own = some m.cls) (hE : cx_E D cl tys NW A s) (hS : cx_S D cl A s ws H locs) (hin : ∀ w ∈ u_ws C T N, w ∈ Ts) (q0 : Nat) {fs : List Value} (he : ws[q0]? = some (a, .inr (ci, fs))) (hc : cl[ci]? = some (C, T, N)) (hk : k < N) (hl : (Cond.fieldLink own index (T k).1 (T k).2.1 (T k).2.2.1) ∈ Ts) (hv : fs[k]? = some v) (hdg : decode cc pc = .ok (.getfield index, 3))
    (kk : W p l e R s m args below meth c H locs cells slots Q (F0 m (pc + 3) ls (v :: rest))) : W p l e R s m args below meth c H locs cells slots Q (F0 m pc ls (.ref a :: rest)) :=
  va_get hx hb hts hin hown hE.1 hS.1 q0 he hc k hk (hts _ hl) (fun _ h => h) hv hdg kk
theorem cx_getN {a ci k : Nat} {T : u_T} {N : Nat} {v : Value} (hx : p.tables.exec = Jvm.exec) (hb : c.code = cc) (hts : ∀ w ∈ Ts, w.before args s = true) (hown : s.vm.findClass own = some m.cls) (hE : cx_E D cl tys NW A s) (hS : cx_S D cl A s ws H locs) (hin : ∀ w ∈ u_ws C T N, w ∈ Ts) (q0 : Nat) {fs : List Value} (he : ws[q0]? = some (a, .inr (ci, fs))) (hc : cl[ci]? = some (C, T, N)) (hk : k < N) (hl : (Cond.fieldLinkNest own index (T k).1 (T k).2.1 (T k).2.2.1 host) ∈ NW) (hv : fs[k]? = some v) (hdg : decode cc pc = .ok (.getfield index, 3))
    (kk : W p l e R s m args below meth c H locs cells slots Q (F0 m (pc + 3) ls (v :: rest))) : W p l e R s m args below meth c H locs cells slots Q (F0 m pc ls (.ref a :: rest)) :=
  va_getN hx hb hts hin hown hE.1 hS.1 q0 he hc k hk (va_Nw.use rfl (hE.2.1 _ hl)) (fun _ h => h) hv hdg kk
theorem cx_put {a ci k : Nat} {T : u_T} {N : Nat} {v : Value} {ty : FieldType} (hx : p.tables.exec = Jvm.exec) (hb : c.code = cc) (hts : ∀ w ∈ Ts, w.before args s = true) (hown : s.vm.findClass own = some m.cls) (hE : cx_E D cl tys NW A s) (hS : cx_S D cl A s ws H locs) (hin : ∀ w ∈ u_ws C T N, w ∈ Ts) (ty0 : Nat → FieldType) (hty : ∀ k, k < N → parseFieldDescriptor (T k).2.2.1 = some (ty0 k)) (hnm : ∀ a, a < N → ∀ b, b < N → a ≠ b → (T a).2.1 ≠ (T b).2.1) (q0 : Nat) {fs : List Value} (he : ws[q0]? = some (a, .inr (ci, fs))) (hc : cl[ci]? = some (C, T, N)) (hk : k < N) (hl : (Cond.fieldLink own index (T k).1 (T k).2.1 (T k).2.2.1) ∈ Ts) (hfin : (T k).2.2.2 = false) (hd : parseFieldDescriptor (T k).2.2.1 = some ty) (hn : narrow ty v = v) (hfit : fits ty v = true) (hlen : k < fs.length) (hw : ws.set q0 (a, .inr (ci, fs.set k v)) = ws') (hdg : decode cc pc = .ok (.putfield index, 3))
    (kk : ∀ (H1 : Heap) (locs1 : List Loc), cx_S D cl A s ws' H1 locs1 → W p l e R s m args below meth c H1 locs1 cells slots Q (F0 m (pc + 3) ls rest)) : W p l e R s m args below meth c H locs cells slots Q (F0 m pc ls (v :: .ref a :: rest)) :=
  va_put hx hb hts hin ty0 hty hnm hown hE.1 hS.1 hS.2.1 hS.2.2 q0 he hc k hk (hts _ hl) (fun _ h => h) hfin hd hn hfit hlen hdg (fun H1 locs1 hP hD hZ => kk H1 locs1 (by rw [← hw]; exact ⟨hP, hD, hZ⟩))
end CXB
theorem cx_sameI {s : State} {a b : ClassId} (h1 : va_RA s a .int) (h2 : va_RA s b .int) : b = a := Option.some.inj (Eq.trans (Eq.symm (show s.vm.findClass ("[" ++ FieldType.int.toString) = some b from h2)) (show s.vm.findClass ("[" ++ FieldType.int.toString) = some a from h1))
theorem cx_sameJ {s : State} {a b : ClassId} (h1 : va_RA s a .long) (h2 : va_RA s b .long) : b = a := Option.some.inj (Eq.trans (Eq.symm (show s.vm.findClass ("[" ++ FieldType.long.toString) = some b from h2)) (show s.vm.findClass ("[" ++ FieldType.long.toString) = some a from h1))
theorem cx_sameZ {s : State} {a b : ClassId} (h1 : va_RA s a .boolean) (h2 : va_RA s b .boolean) : b = a := Option.some.inj (Eq.trans (Eq.symm (show s.vm.findClass ("[" ++ FieldType.boolean.toString) = some b from h2)) (show s.vm.findClass ("[" ++ FieldType.boolean.toString) = some a from h1))
/-- a constructor's contract: cells are made, array classes become known -/
def cx_Mc (l : Launch) (D : va_G) (cl : List vw_C) (tys : List (ClassId × FieldType)) (NW : List Cond) (y : MethodName) (wy : List Cond) (rm : Room) (av : List Value) (ws : va_W) (mc ms : Nat) {S : Type} (post : S → Prop) (wf : S → va_W) (tf : S → List (ClassId × FieldType)) : Prop :=
  ∀ sz : Nat, Met l y wy rm (va_Pc av (cx_Pre D cl tys NW ws sz)) (va_Qv post (fun u t => va_P D cl (wf u) t.heap ∧ va_K D cl (tf u) t ∧ va_D (va_A ws sz) (wf u)) (va_A ws sz)) mc ms (va_A ws sz)
theorem cx_Mc.of {l : Launch} {D : va_G} {cl : List vw_C} {tys : List (ClassId × FieldType)} {NW : List Cond} {y : MethodName} {wy ws' : List Cond} {rm : Room} {av : List Value} {ws : va_W} {mc ms : Nat} {S : Type} {post : S → Prop} {wf : S → va_W} {tf : S → List (ClassId × FieldType)} {cc : ByteArray} {maxL : Nat}
    (hNW : NW.all cx_isN = true) (hy : plainName y.cls = true) (hyn : y.name = "<init>") (hw : wy = Cond.code y cc maxL none :: ws') (hlen : (lg_sl av).length ≤ maxL)
    (body : ∀ (p : Program) (e : Env) (s : State) (m : MethodId) (args : Array Value) (below : List Frame) (meth : Method) (c : Code) (Q : State → Prop) (A : Nat → Prop) (ls : Array Slot),
      p.tables.exec = Jvm.exec → c.code = cc → c.maxLocals = maxL → s.vm.findClass y.cls = some m.cls → (∀ w ∈ wy, w.before args s = true) → meth.name = "<init>" → cx_E D cl tys NW A s →
      (∀ (u : S) (H : Heap) (locs : List Loc) (pc : Nat) (ls : Array Slot), decode cc pc = .ok (.return_, 1) → post u → va_K D cl (tf u) s → cx_S D cl A s (wf u) H locs → W p l e rm s m args below meth c H locs mc ms Q (F0 m pc ls [])) →
      cx_S D cl A s ws s.heap [] → lv_has ls maxL (lv_args 0 av) → W p l e rm s m args below meth c s.heap [] 0 0 Q (F0 m 0 ls [])) : cx_Mc l D cl tys NW y wy rm av ws mc ms post wf tf := by
  intro sz
  refine Met.ofW (cc := cc) (maxL := maxL) (ret := none) hy hw ?_
  intro p e s m args below meth c s₁ B hml hv
  obtain ⟨rfl, hsz, hP, hK, hD0, hN⟩ := hv
  subst hsz
  rw [lg_entry_eq]
  have hlocks := B.notSynchronized
  refine body p e s m _ below meth c _ (va_A ws s.heap.size) _ B.exec B.bytes hml (findClass_of_methodNamed B.named) (atoms_spec (ws := wy) B.pre) ((name_of_methodNamed B.named B.method).1.trans hyn) ⟨hK, hN, hNW, fun q h => Or.inr h⟩ (fun u H locs pc ls hd hp hK1 hS => ?_) ⟨hP, hD0.self, va_S.rf⟩ (lv_entry av hlen)
  exact W.vret B.exec B.bytes B.returns (fun t ht hW => ⟨⟨u, rfl, hp, by rw [ht]; exact hS.1, va_K.moved hW.alike hK1, hS.2.1⟩, hS.2.2.F ht⟩) hS.2.2.2.2 hd
section CXC
variable {p : Program} {l : Launch} {e : Env} {R : Room} {s : State} {m : MethodId} {args : Array Value} {below : List Frame} {meth : Method} {c : Code} {H : Heap} {locs : List Loc} {cells slots mc ms : Nat} {Q : State → Prop} {D : va_G} {cl : List vw_C} {tys tyc : List (ClassId × FieldType)} {NW : List Cond} {A : Nat → Prop} {cc bytes : ByteArray} {maxL nL n index pc : Nat} {ls : Array Slot} {ret : Option FieldType} {wy Ts : List Cond} {rm : Room} {own C host : String} {y : MethodName} {b : Nat} {As rest st0 : List Value} {wb ws wr ws' : va_W} {S : Type}
theorem cx_putF {a ci k : Nat} {T : u_T} {N : Nat} {v : Value} {ty : FieldType} (hx : p.tables.exec = Jvm.exec) (hb : c.code = cc) (hts : ∀ w ∈ Ts, w.before args s = true) (hown : s.vm.findClass own = some m.cls) (hi2 : meth.name = "<init>") (hE : cx_E D cl tys NW A s) (hS : cx_S D cl A s ws H locs) (hin : ∀ w ∈ u_ws C T N, w ∈ Ts) (ty0 : Nat → FieldType) (hty : ∀ k, k < N → parseFieldDescriptor (T k).2.2.1 = some (ty0 k)) (hnm : ∀ a, a < N → ∀ b, b < N → a ≠ b → (T a).2.1 ≠ (T b).2.1) (q0 : Nat) {fs : List Value} (he : ws[q0]? = some (a, .inr (ci, fs))) (hc : cl[ci]? = some (C, T, N)) (hk : k < N) (hl : (Cond.fieldLink own index (T k).1 (T k).2.1 (T k).2.2.1) ∈ Ts) (hfin : (T k).2.2.2 = true) (hdecl : (T k).1 = own) (hd : parseFieldDescriptor (T k).2.2.1 = some ty) (hn : narrow ty v = v) (hfit : fits ty v = true) (hlen : k < fs.length) (hw : ws.set q0 (a, .inr (ci, fs.set k v)) = ws') (hdg : decode cc pc = .ok (.putfield index, 3))
    (kk : ∀ (H1 : Heap) (locs1 : List Loc), cx_S D cl A s ws' H1 locs1 → W p l e R s m args below meth c H1 locs1 cells slots Q (F0 m (pc + 3) ls rest)) : W p l e R s m args below meth c H locs cells slots Q (F0 m pc ls (v :: .ref a :: rest)) :=
  va_putF hx hb hts hin ty0 hty hnm hown hE.1 hS.1 hS.2.1 hS.2.2 q0 he hc k hk (hts _ hl) (fun _ h => h) hfin hi2 hdecl hd hn hfit hlen hdg (fun H1 locs1 hP hD hZ => kk H1 locs1 (by rw [← hw]; exact ⟨hP, hD, hZ⟩))
theorem cx_newa {a0 : vp_A} {k : Int32} {N' : Nat} {at_ : ArrayType} {ty : FieldType} (hx : p.tables.exec = Jvm.exec) (hb : c.code = cc) (hts : ∀ w ∈ Ts, w.before args s = true) (hE : cx_E D cl tys NW A s) (hS : cx_S D cl A s ws H locs) (hty : newarray.typeOf at_ = ty) (harr : Cond.arrayClass (newarray.typeOf at_) ∈ Ts) (ha : ∀ cA : ClassId, vp_cell cA a0 = arrV cA N' (fun _ => defaultValue ty)) (hn : ¬ k < 0) (hN : k.toNatClampNeg = N') (hby : N' * componentBytes ty ≤ 536870912) (hc : cells + 1 ≤ R.cells) (hs : slots + N' ≤ R.slots) (hdg : decode cc pc = .ok (.newarray at_, 2))
    (kk : ∀ (q : Nat) (cA : ClassId) (H1 : Heap), cx_E D cl (tys ++ [(cA, ty)]) NW A s → cx_S D cl A s (ws ++ [(q, .inl (cA, a0))]) H1 locs → W p l e R s m args below meth c H1 locs (cells + 1) (slots + N') Q (F0 m (pc + 2) ls (.ref q :: rest))) : W p l e R s m args below meth c H locs cells slots Q (F0 m pc ls (.int k :: rest)) :=
  va_newa hx hb (hts _ harr) hty hE.1 hS.1 hS.2.1 hS.2.2 hE.2.2.2 ha hn hN hby hc hs hdg (fun q cA H1 hK hP hD hZ => kk q cA H1 ⟨hK, hE.2⟩ ⟨hP, hD, hZ⟩)
theorem cx_new {T : u_T} {N ci : Nat} (hx : p.tables.exec = Jvm.exec) (hb : c.code = cc) (hts : ∀ w ∈ Ts, w.before args s = true) (hown : s.vm.findClass own = some m.cls) (hE : cx_E D cl tys NW A s) (hS : cx_S D cl A s ws H locs) (hin : ∀ w ∈ u_ws C T N, w ∈ Ts) (ty : Nat → FieldType) (hty : ∀ k, k < N → parseFieldDescriptor (T k).2.2.1 = some (ty k)) (h1 : Cond.classLink own index C ∈ Ts) (h2 : Cond.instantiable C N ∈ Ts) (h3 : Cond.initialized C ∈ Ts) (hc : cl[ci]? = some (C, T, N)) {fs : List Value} (hfs : ∀ j, j < N → defaultValue (ty j) = vp_V fs j) (hcl : cells + 1 ≤ R.cells) (hsl : slots + N ≤ R.slots) (hdg : decode cc pc = .ok (.new index, 3))
    (kk : ∀ (q : Nat) (H1 : Heap), cx_S D cl A s (ws ++ [(q, .inr (ci, fs))]) H1 locs → W p l e R s m args below meth c H1 locs (cells + 1) (slots + N) Q (F0 m (pc + 3) ls (.ref q :: rest))) : W p l e R s m args below meth c H locs cells slots Q (F0 m pc ls rest) :=
  va_new hx hb hts hin ty hty hown (hts _ h1) (hts _ h2) (hts _ h3) hE.1 hS.1 hS.2.1 hS.2.2 hE.2.2.2 hc hfs hcl hsl hdg (fun q H1 hP hD hZ => kk q H1 ⟨hP, hD, hZ⟩)
theorem cx_S.cut (hS : cx_S D cl A s wb H locs) (isC : List Nat) (hn : va_nd isC = true) (hC : isC.map (fun i => wb[i]?) = ws.map some) : cx_S D cl A s ws H locs := by
  refine ⟨fun k q hk => ?_, hS.2.1.sub isC hn hC, hS.2.2⟩
  have h1 : (isC.map (fun i => wb[i]?))[k]? = some (some q) := by rw [hC, List.getElem?_map, hk]; rfl
  rw [List.getElem?_map] at h1
  cases hi : isC[k]? with
  | none => rw [hi] at h1; cases h1
  | some i => rw [hi] at h1; exact hS.1 i q (Option.some.inj h1)
/-- behind a constructor's call, with the caller's other cells -/
theorem cx_jc {post : S → Prop} {wf : S → va_W} {tf : S → List (ClassId × FieldType)} (hE : cx_E D cl tys NW A s) (hS : cx_S D cl A s wb H locs) (isC isR : List Nat) (hnC : va_nd isC = true) (hC : isC.map (fun i => wb[i]?) = ws.map some) (hR : isR.map (fun i => wb[i]?) = wr.map some) (hn : va_nd isR = true) (hdis : ∀ i ∈ isR, i ∉ isC) {a : Array Value}
    (hr : va_Run p l e R s m args below meth c H locs cells slots mc ms (F0 m pc ls st0) rest (va_Qv post (fun u t => va_P D cl (wf u) t.heap ∧ va_K D cl (tf u) t ∧ va_D (va_A ws H.size) (wf u)) (va_A ws H.size) a) (va_A ws H.size))
    (kk : ∀ (u : S) (H1 : Heap) (locs1 : List Loc), post u → va_K D cl (tf u) s → cx_S D cl A s (wr ++ wf u) H1 locs1 → W p l e R s m args below meth c H1 locs1 (cells + mc) (slots + ms) Q (F0 m (pc + 3) ls rest)) : W p l e R s m args below meth c H locs cells slots Q (F0 m pc ls st0) := by
  have hF := (hS.cut isC hnC hC).free hE.2.2.2
  exact va_callv hr hS.2.2 (fun q _ h => hF q h) hF (fun u t H1 locs1 ht hvm hw hB _ hk1 hS1 => kk u H1 locs1 hw (va_K.moved hvm.symm hB.2.1) (by
    obtain ⟨hP', hD'⟩ := va_join hS.1 hS.2.1 isC isR hC hR hn hdis hk1 hF (by rw [← ht]; exact hB.1) hB.2.2
    exact ⟨hP', hD', hS1⟩))
theorem cx_cI {post : S → Prop} {wf : S → va_W} {tf : S → List (ClassId × FieldType)} (F : CallFix p m c cc nL s args Ts own) (hE : cx_E D cl tys NW A s) (hS : cx_S D cl A s wb H locs) (isC isR : List Nat) (hnC : va_nd isC = true) (hC : isC.map (fun i => wb[i]?) = ws.map some) (hR : isR.map (fun i => wb[i]?) = wr.map some) (hn : va_nd isR = true) (hdis : ∀ i ∈ isR, i ∉ isC)
    (hM : cx_Mc l D cl tyc NW y wy rm (.ref b :: As) ws mc ms post wf tf) (hKc : va_K D cl tyc s) (cw : CallB R s args own index y bytes maxL none wy rm mc ms n ∧ y.name = "<init>" ∧ (Cond.instanceMethod y).before args s = true) (hna : As.length = n) (hsz : ls.size = nL) (hst : st0 = As.reverse ++ .ref b :: rest) (hW : (rest.map fun v => v.category).sum ≤ 8) (hf : cells + mc ≤ R.cells ∧ slots + ms ≤ R.slots) (hdg : decode cc pc = .ok (.invokespecial index, 3))
    (kk : ∀ (u : S) (H1 : Heap) (locs1 : List Loc), post u → va_K D cl (tf u) s → cx_S D cl A s (wr ++ wf u) H1 locs1 → W p l e R s m args below meth c H1 locs1 (cells + mc) (slots + ms) Q (F0 m (pc + 3) ls rest)) : W p l e R s m args below meth c H locs cells slots Q (F0 m pc ls st0) :=
  cx_jc hE hS isC isR hnC hC hR hn hdis (va_runI F (hM H.size) cw ⟨cx_blind hE.2.2.1 _ _ _, cx_pre ⟨hKc, hE.2⟩ (hS.cut isC hnC hC) _⟩ rfl hna hsz hst (lv_room hW) hdg hf) kk
theorem cx_cIN {post : S → Prop} {wf : S → va_W} {tf : S → List (ClassId × FieldType)} (F : CallFix p m c cc nL s args Ts own) (hE : cx_E D cl tys NW A s) (hS : cx_S D cl A s wb H locs) (isC isR : List Nat) (hnC : va_nd isC = true) (hC : isC.map (fun i => wb[i]?) = ws.map some) (hR : isR.map (fun i => wb[i]?) = wr.map some) (hn : va_nd isR = true) (hdis : ∀ i ∈ isR, i ∉ isC)
    (hM : cx_Mc l D cl tyc NW y wy rm (.ref b :: As) ws mc ms post wf tf) (hKc : va_K D cl tyc s) (cw : va_CN R s args own index y host bytes maxL none wy rm mc ms n ∧ y.name = "<init>" ∧ (Cond.instanceMethod y).before args s = true) (hna : As.length = n) (hsz : ls.size = nL) (hst : st0 = As.reverse ++ .ref b :: rest) (hW : (rest.map fun v => v.category).sum ≤ 8) (hf : cells + mc ≤ R.cells ∧ slots + ms ≤ R.slots) (hdg : decode cc pc = .ok (.invokespecial index, 3))
    (kk : ∀ (u : S) (H1 : Heap) (locs1 : List Loc), post u → va_K D cl (tf u) s → cx_S D cl A s (wr ++ wf u) H1 locs1 → W p l e R s m args below meth c H1 locs1 (cells + mc) (slots + ms) Q (F0 m (pc + 3) ls rest)) : W p l e R s m args below meth c H locs cells slots Q (F0 m pc ls st0) :=
  cx_jc hE hS isC isR hnC hC hR hn hdis (va_runIN F (hM H.size) cw ⟨cx_blind hE.2.2.1 _ _ _, cx_pre ⟨hKc, hE.2⟩ (hS.cut isC hnC hC) _⟩ rfl hna hsz hst (lv_room hW) hdg hf) kk
/-- the law's calls: the callee's world is a part of a larger one -/
theorem cx_lVi {post : Int32 → S → Prop} {wf : S → va_W} (F : CallFix p m c cc nL s args Ts own) (hE : cx_E D cl tys NW A s) (hS : cx_S D cl A s wb H locs) (isC isR : List Nat) (hnC : va_nd isC = true) (hC : isC.map (fun i => wb[i]?) = ws.map some) (hR : isR.map (fun i => wb[i]?) = wr.map some) (hn : va_nd isR = true) (hdis : ∀ i ∈ isR, i ∉ isC)
    (hM : cx_Mi l D cl tyc NW y wy rm (.ref b :: As) ws post wf) (hKc : va_K D cl tyc s) (cw : CallW R s args own C index y bytes maxL ret wy rm 0 0 n) (q0 ci : Nat) {T : u_T} {N : Nat} {fs : List Value} (he : ws[q0]? = some (b, .inr (ci, fs))) (hc : cl[ci]? = some (C, T, N)) (hna : As.length = n) (hsz : ls.size = nL) (hst : st0 = As.reverse ++ .ref b :: rest) (hW : (rest.map fun v => v.category).sum ≤ 8) (hf : cells ≤ R.cells ∧ slots ≤ R.slots) (hdg : decode cc pc = .ok (.invokevirtual index, 3))
    (kk : ∀ (r : Int32) (u : S) (H1 : Heap) (locs1 : List Loc), post r u → cx_S D cl A s (wr ++ wf u) H1 locs1 → W p l e R s m args below meth c H1 locs1 cells slots Q (F0 m (pc + 3) ls (.int r :: rest))) : W p l e R s m args below meth c H locs cells slots Q (F0 m pc ls st0) := by
  have hSc := hS.cut isC hnC hC
  have hF := hSc.free hE.2.2.2
  have hr := va_runV (H := H) (locs := locs) (cells := cells) (slots := slots) (below := below) (e := e) (meth := meth) (g := F0 m pc ls st0) (b := b) (As := As) (rest := rest) F (hM H.size) cw ⟨cx_blind hE.2.2.1 _ _ _, va_recv hKc hSc.1 hc he, cx_pre ⟨hKc, hE.2⟩ hSc _⟩ rfl hna hsz hst (lv_room hW) hdg hf
  exact va_calli hr hS.2.2 (fun q _ h => hF q h) hF (fun r u t H1 locs1 ht _ hw hB _ hk1 hS1 => kk r u H1 locs1 hw (by
    obtain ⟨hP', hD'⟩ := va_join hS.1 hS.2.1 isC isR hC hR hn hdis hk1 hF (by rw [← ht]; exact hB.1) hB.2.2
    exact ⟨hP', hD', hS1⟩))
end CXC
/-- all that a row holds are places below B -/
def cx_R (f : Nat → Int32) (B : Nat) : Prop := ∀ j, f j = nI ((f j).toNatClampNeg) ∧ (f j).toNatClampNeg < B
/-- .. or -1 -/
def cx_P (f : Nat → Int32) (B : Nat) : Prop := ∀ j, f j = -1 ∨ (f j = nI ((f j).toNatClampNeg) ∧ (f j).toNatClampNeg < B)
def cx_ix (x : Int32) (B : Nat) : Prop := x = nI x.toNatClampNeg ∧ x.toNatClampNeg < B
theorem cx_ixI {j B : Nat} (h : j < B) (hB : B < 2 ^ 31) : cx_ix (nI j) B := by
  have e : (nI j).toNatClampNeg = j := nI_clamp (by omega)
  exact ⟨by rw [e], by rw [e]; exact h⟩
theorem cx_ixW {x : Int32} {B B' : Nat} (h : cx_ix x B) (hB : B ≤ B') : cx_ix x B' := ⟨h.1, Nat.lt_of_lt_of_le h.2 hB⟩
/-- a number that was tested -/
theorem cx_ixT {x : Int32} {n : Nat} (hn : n < 2 ^ 31) (h : 0 ≤ x ∧ x < nI n) : cx_ix x n := by
  obtain ⟨j, hj, rfl⟩ := nI_of (Int32.not_lt.mpr h.1)
  exact cx_ixI ((nI_ltI hj hn).mp h.2) hn
theorem cx_R0 {B : Nat} (hB : 0 < B) (hB2 : B < 2 ^ 31) : cx_R (fun _ => (0 : Int32)) B := fun j => cx_ixI (j := 0) hB hB2
theorem cx_Ru {f : Nat → Int32} {B : Nat} {k : Nat} {x : Int32} (h : cx_R f B) (hx : cx_ix x B) : cx_R (upd f k x) B := fun j => by
  by_cases e : j = k
  · simp only [upd, if_pos e]; exact hx
  · simp only [upd, if_neg e]; exact h j
theorem cx_Pu {f : Nat → Int32} {B : Nat} {k : Nat} {x : Int32} (h : cx_P f B) (hx : x = -1 ∨ cx_ix x B) : cx_P (upd f k x) B := fun j => by
  by_cases e : j = k
  · simp only [upd, if_pos e]; exact hx
  · simp only [upd, if_neg e]; exact h j
theorem cx_P0 {B : Nat} (hB : 0 < B) (hB2 : B < 2 ^ 31) : cx_P (fun _ => (0 : Int32)) B := fun j => Or.inr (cx_ixI (j := 0) hB hB2)
theorem cx_nb {r : Int32} (h : r = 0 ∨ r = 1) : narrow .boolean (.int r) = .int r := by
  rcases h with rfl | rfl <;> rfl
theorem cx_bb {P : Prop} [Decidable P] : cx_b P = 0 ∨ cx_b P = 1 := by
  by_cases p : P
  · exact Or.inr (cx_bt p).symm
  · exact Or.inl (cx_bf p).symm
section CXD
variable {p : Program} {l : Launch} {e : Env} {R : Room} {s : State} {m : MethodId} {args : Array Value} {below : List Frame} {meth : Method} {c : Code} {H : Heap} {locs : List Loc} {cells slots : Nat} {Q : State → Prop} {D : va_G} {cl : List vw_C} {tys : List (ClassId × FieldType)} {NW : List Cond} {A : Nat → Prop} {cc : ByteArray} {n pc : Nat} {ls : Array Slot} {rest : List Value} {ws ws' : va_W}
theorem cx_zast {a k : Nat} {x : Int32} (hx : p.tables.exec = Jvm.exec) (hb : c.code = cc) (hE : cx_E D cl tys NW A s) (hS : cx_S D cl A s ws H locs) (q0 t0 : Nat) {cA : ClassId} {f : Nat → Int32} (ha : ws[q0]? = some (a, .inl (cA, n, .inl f))) (ht : tys[t0]? = some (cA, .boolean)) (hk : k < n) (hn : n < 2 ^ 31) (hw : ws.set q0 (a, .inl (cA, n, .inl (upd f k (vp_nar .boolean x)))) = ws') (hdg : decode cc pc = .ok (.bastore, 1))
    (kk : ∀ (H1 : Heap) (locs1 : List Loc), cx_S D cl A s ws' H1 locs1 → W p l e R s m args below meth c H1 locs1 cells slots Q (F0 m (pc + 1) ls rest)) : W p l e R s m args below meth c H locs cells slots Q (F0 m pc ls (.int x :: .int (nI k) :: .ref a :: rest)) :=
  va_zast hx hb hE.1 hS.1 hS.2.1 hS.2.2 q0 t0 ha ht (vp_in_nI hk hn) hdg (fun H1 locs1 hP hD hZ => kk H1 locs1 (by rw [nI_clamp (Nat.lt_trans hk hn)] at hP hD; rw [← hw]; exact ⟨hP, hD, hZ⟩))
theorem cx_lald {a k : Nat} (hx : p.tables.exec = Jvm.exec) (hb : c.code = cc) (hE : cx_E D cl tys NW A s) (hS : cx_S D cl A s ws H locs) (q0 t0 : Nat) {cA : ClassId} {f : Nat → Int64} (ha : ws[q0]? = some (a, .inl (cA, n, .inr (.inl f)))) (ht : tys[t0]? = some (cA, .long)) (hk : k < n) (hn : n < 2 ^ 31) (hdg : decode cc pc = .ok (.laload, 1))
    (kk : W p l e R s m args below meth c H locs cells slots Q (F0 m (pc + 1) ls (.long (f k) :: rest))) : W p l e R s m args below meth c H locs cells slots Q (F0 m pc ls (.int (nI k) :: .ref a :: rest)) :=
  va_lald hx hb hE.1 hS.1 q0 t0 ha ht (vp_in_nI hk hn) hdg (by rw [nI_clamp (Nat.lt_trans hk hn)]; exact kk)
theorem cx_last {a k : Nat} {x : Int64} (hx : p.tables.exec = Jvm.exec) (hb : c.code = cc) (hE : cx_E D cl tys NW A s) (hS : cx_S D cl A s ws H locs) (q0 t0 : Nat) {cA : ClassId} {f : Nat → Int64} (ha : ws[q0]? = some (a, .inl (cA, n, .inr (.inl f)))) (ht : tys[t0]? = some (cA, .long)) (hk : k < n) (hn : n < 2 ^ 31) (hw : ws.set q0 (a, .inl (cA, n, .inr (.inl (vp_updL f k x)))) = ws') (hdg : decode cc pc = .ok (.lastore, 1))
    (kk : ∀ (H1 : Heap) (locs1 : List Loc), cx_S D cl A s ws' H1 locs1 → W p l e R s m args below meth c H1 locs1 cells slots Q (F0 m (pc + 1) ls rest)) : W p l e R s m args below meth c H locs cells slots Q (F0 m pc ls (.long x :: .int (nI k) :: .ref a :: rest)) :=
  va_last hx hb hE.1 hS.1 hS.2.1 hS.2.2 q0 t0 ha ht (vp_in_nI hk hn) hdg (fun H1 locs1 hP hD hZ => kk H1 locs1 (by rw [nI_clamp (Nat.lt_trans hk hn)] at hP hD; rw [← hw]; exact ⟨hP, hD, hZ⟩))
theorem cx_lcmp {x y : Int64} (hx : p.tables.exec = Jvm.exec) (hb : c.code = cc) (hdg : decode cc pc = .ok (.lcmp, 1))
    (kk : ∀ v : Int32, W p l e R s m args below meth c H locs cells slots Q (F0 m (pc + 1) ls (.int v :: rest))) : W p l e R s m args below meth c H locs cells slots Q (F0 m pc ls (.long y :: .long x :: rest)) := by
  refine W.lcmp hx hb hdg ?_
  exact kk _
end CXD
