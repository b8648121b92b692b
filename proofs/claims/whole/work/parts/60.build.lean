/-! ===== constructors and the law: a machine whose world grows ===== -/
def bC (p : Program) (s : State) (m : MethodId) (args : Array Value) (c : Code) (A : Nat → Prop) (G : GX) (own : String) (cd : ByteArray) (nL : Nat) : Prop :=
  p.tables.exec = Jvm.exec ∧ c.code = cd ∧ c.maxLocals = nL ∧ s.vm.findClass own = some m.cls ∧ (∀ w ∈ gw, w.before args s = true) ∧ cK G s ∧ ∀ q, s.heap.size ≤ q → A q
def bR (p : Program) (e : Env) (Rm : Room) (s : State) (m : MethodId) (args : Array Value) (below : List Frame) (meth : Method) (c : Code) (Q : State → Prop) (A : Nat → Prop) (G : GX) (nL : Nat) (pc : Nat) (ls : List (Nat × Value)) (st : List Value) (ws : va_W) (cells slots : Nat) : Prop :=
  ∀ (H : Heap) (locs : List Loc) (L : Array Slot), va_P G.2.1 vwCl ws H → va_D A ws → va_S A s.heap H locs → lv_has L nL ls → W p G.1 e Rm s m args below meth c H locs cells slots Q (F0 m pc L st)
/-- two worlds side by side: the second one changes -/
theorem va_upd2 {A : Nat → Prop} {D : va_G} {cl : List vw_C} {w1 w2 w2' : va_W} {H H1 : Heap} (hP : va_P D cl (w1 ++ w2) H) (hD : va_D A (w1 ++ w2)) (hk : ∀ q : Nat, q < H.size → ¬ va_A w2 H.size q → H1[q]? = H[q]?) (hF : ∀ q, va_A w2 H.size q → A q) (hP1 : va_P D cl w2' H1) (hD1 : va_D (va_A w2 H.size) w2') : va_P D cl (w1 ++ w2') H1 ∧ va_D A (w1 ++ w2') := by
  have at1 : ∀ (k : Nat) (q : Nat × va_E), w1[k]? = some q → (w1 ++ w2)[k]? = some q := fun k q h => by
    rw [List.getElem?_append_left (List.getElem?_eq_some_iff.mp h).1]; exact h
  have off : ∀ (k : Nat) (q : Nat × va_E), w1[k]? = some q → q.1 < H.size ∧ ¬ va_A w2 H.size q.1 := fun k q h => by
    have hl := (hP k q (at1 k q h)).lt
    refine ⟨hl, fun z => ?_⟩
    rcases z with ⟨j, x, z⟩ | z
    · have e := hD.1 k (w1.length + j) q (q.1, x) (at1 k q h) (by rw [List.getElem?_append_right (by omega), Nat.add_sub_cancel_left]; exact z) rfl
      have := (List.getElem?_eq_some_iff.mp h).1
      omega
    · omega
  refine ⟨va_P.app (fun k q h => (hP k q (at1 k q h)).kept (hk q.1 (off k q h).1 (off k q h).2)) hP1, va_D.app ⟨fun i j x y hi hj z => hD.1 i j x y (at1 i x hi) (at1 j y hj) z, fun k q h => hD.2 k q (at1 k q h)⟩ (hD1.weaken (fun k q _ h => hF q.1 h)) (fun i j x y hx hy z => ?_)⟩
  exact (off i x hx).2 (by rw [z]; exact hD1.2 j y hy)
theorem va_com {w1 w2 : va_W} : ∀ (k : Nat) (q : Nat × va_E), (w2 ++ w1)[k]? = some q → (w1 ++ w2)[if k < w2.length then w1.length + k else k - w2.length]? = some q := fun k q h => by
  by_cases z : k < w2.length
  · rw [if_pos z, List.getElem?_append_right (by omega), Nat.add_sub_cancel_left]
    rw [List.getElem?_append_left z] at h
    exact h
  · rw [if_neg z]
    rw [List.getElem?_append_right (by omega)] at h
    rw [List.getElem?_append_left (List.getElem?_eq_some_iff.mp h).1]
    exact h
theorem va_P.com {D : va_G} {cl : List vw_C} {w1 w2 : va_W} {H : Heap} (h : va_P D cl (w1 ++ w2) H) : va_P D cl (w2 ++ w1) H := h.by _ va_com
theorem va_D.com {A : Nat → Prop} {w1 w2 : va_W} (h : va_D A (w1 ++ w2)) : va_D A (w2 ++ w1) := by
  refine h.by _ va_com (fun i j hi hj e => ?_)
  rw [List.length_append] at hi hj
  by_cases z : i < w2.length
  · rw [if_pos z] at e
    by_cases y : j < w2.length
    · rw [if_pos y] at e; omega
    · rw [if_neg y] at e; omega
  · rw [if_neg z] at e
    by_cases y : j < w2.length
    · rw [if_pos y] at e; omega
    · rw [if_neg y] at e; omega
/-- a final field is put by a constructor: a reference -/
def FF (own : String) (idx ci k : Nat) : Prop := ∃ q : vw_C, vwCl[ci]? = some q ∧ k < q.2.2 ∧ Cond.fieldLink own idx (q.2.1 k).1 (q.2.1 k).2.1 (q.2.1 k).2.2.1 ∈ gw ∧ (∀ w ∈ u_ws q.1 q.2.1 q.2.2, w ∈ gw) ∧
  (∃ ty0 : Nat → FieldType, (∀ k, k < q.2.2 → parseFieldDescriptor (q.2.1 k).2.2.1 = some (ty0 k)) ∧ ∀ x : Nat, narrow (ty0 k) (.ref x) = .ref x ∧ fits (ty0 k) (.ref x) = true) ∧ (∀ a, a < q.2.2 → ∀ b, b < q.2.2 → a ≠ b → (q.2.1 a).2.1 ≠ (q.2.1 b).2.1) ∧ (q.2.1 k).2.2.2 = true ∧ (q.2.1 k).1 = own
/-- a class's objects are made -/
def NW (own : String) (idx ci : Nat) (fs : List Value) : Prop := ∃ q : vw_C, vwCl[ci]? = some q ∧ (∀ w ∈ u_ws q.1 q.2.1 q.2.2, w ∈ gw) ∧ (∃ ty0 : Nat → FieldType, (∀ k, k < q.2.2 → parseFieldDescriptor (q.2.1 k).2.2.1 = some (ty0 k)) ∧ ∀ j, j < q.2.2 → defaultValue (ty0 j) = vp_V fs j) ∧
  Cond.classLink own idx q.1 ∈ gw ∧ Cond.instantiable q.1 q.2.2 ∈ gw ∧ Cond.initialized q.1 ∈ gw ∧ fs.length = q.2.2
def CL (own : String) (idx : Nat) (m : MI) (n : Nat) : Prop := (Cond.methodLink own idx m.1 ∈ gw ∨ ∃ host : String, Cond.methodLinkNest own idx m.1 host ∈ nestW) ∧ Cond.instanceMethod m.1 ∈ gw ∧ Cond.initialized m.1.cls ∈ gw ∧ mi_code m ∈ gw ∧ m.1.name = "<init>" ∧ m.2.2.2 = none ∧
  (m.1.cls ≠ "java/lang/invoke/MethodHandle" ∧ m.1.cls ≠ "java/lang/invoke/VarHandle" ∧ (parseMethodDescriptor m.1.desc).map (fun d => d.parameters.length) = some n) ∧ m.2.2.1 ≤ 22
theorem gw_G {m' : MI} (h : mi_code m' ∈ gw) : GoodIn gw (ws_m m') := by
  intro w hw
  rcases List.mem_cons.mp hw with rfl | hw
  · exact ⟨h, gw_good h⟩
  · exact ⟨hw, gw_good hw⟩
def rm_c (f mc ms : Nat) : Room := { frames := f, cells := mc, slots := ms, locals := 41 * f }
/-- A CONSTRUCTOR'S CONTRACT: from its fresh object alone to the world that Post tells -/
def Ctor (G : GX) (f mc ms : Nat) (mi : MI) (As : List Value) (h0 : Nat) (e0 : va_E) (Post : va_W → Prop) : Prop :=
  ∀ sz : Nat, Met G.1 mi.1 (ws_m mi) (rm_c f mc ms) (va_Pc (.ref h0 :: As) (fun U => U.heap.size = sz ∧ va_P G.2.1 vwCl [(h0, e0)] U.heap ∧ cK G U ∧ va_D (fun _ => True) [(h0, e0)]))
    (va_Qv Post (fun w1 t => va_P G.2.1 vwCl w1 t.heap ∧ va_D (va_A [(h0, e0)] sz) w1) (va_A [(h0, e0)] sz)) mc ms (va_A [(h0, e0)] sz)
section Build
variable {p : Program} {e : Env} {Rm : Room} {s : State} {m : MethodId} {args : Array Value} {below : List Frame} {meth : Method} {c : Code} {Q : State → Prop} {A : Nat → Prop} {G : GX} {own : String} {cd : ByteArray} {nL : Nat} {pc pc' : Nat} {ls ls' : List (Nat × Value)} {st : List Value} {ws ws' : va_W} {cells slots : Nat}
theorem b_aload (C : bC p s m args c A G own cd nL) {i : Fin 4} {x : Nat} (k0 : Nat) (hd : decode cd pc = .ok (.aload_n i, 1)) (hp : pc' = pc + 1) (hl : ls[k0]? = some ((i : Nat), .ref x)) (k : bR p e Rm s m args below meth c Q A G nL pc' ls (.ref x :: st) ws cells slots) : bR p e Rm s m args below meth c Q A G nL pc ls st ws cells slots := by
  subst hp
  intro H locs L hP hD hS h
  exact lv_aload_n C.1 C.2.1 hd rfl (lv_at h k0 hl) (k H locs L hP hD hS h)
theorem b_iload (C : bC p s m args c A G own cd nL) {i : Fin 4} {x : Int32} (k0 : Nat) (hd : decode cd pc = .ok (.iload_n i, 1)) (hp : pc' = pc + 1) (hl : ls[k0]? = some ((i : Nat), .int x)) (k : bR p e Rm s m args below meth c Q A G nL pc' ls (.int x :: st) ws cells slots) : bR p e Rm s m args below meth c Q A G nL pc ls st ws cells slots := by
  subst hp
  intro H locs L hP hD hS h
  exact lv_iload_n C.1 C.2.1 hd rfl (lv_at h k0 hl) (k H locs L hP hD hS h)
theorem b_istore (C : bC p s m args c A G own cd nL) {i : Fin 4} {x : Int32} (hd : decode cd pc = .ok (.istore_n i, 1)) (hp : pc' = pc + 1) (hn : (i : Nat) < nL) (hl : ((i : Nat), Value.int x) :: ls.filter (fun q => !(q.1 == (i : Nat)) && !(q.1 + 1 == (i : Nat) && q.2.category == 2)) = ls') (k : bR p e Rm s m args below meth c Q A G nL pc' ls' st ws cells slots) : bR p e Rm s m args below meth c Q A G nL pc ls (.int x :: st) ws cells slots := by
  subst hp
  intro H locs L hP hD hS h
  exact lv_istore_n C.1 C.2.1 hd rfl h hn hl (fun L' h' => k H locs L' hP hD hS h')
theorem b_astore (C : bC p s m args c A G own cd nL) {i : Fin 4} {x : Nat} (hd : decode cd pc = .ok (.astore_n i, 1)) (hp : pc' = pc + 1) (hn : (i : Nat) < nL) (hl : ((i : Nat), Value.ref x) :: ls.filter (fun q => !(q.1 == (i : Nat)) && !(q.1 + 1 == (i : Nat) && q.2.category == 2)) = ls') (k : bR p e Rm s m args below meth c Q A G nL pc' ls' st ws cells slots) : bR p e Rm s m args below meth c Q A G nL pc ls (.ref x :: st) ws cells slots := by
  subst hp
  intro H locs L hP hD hS h
  exact lv_astore_n C.1 C.2.1 hd rfl h hn hl (fun L' h' => k H locs L' hP hD hS h')
theorem b_iinc (C : bC p s m args c A G own cd nL) {i : Nat} {n : Int} {x v : Int32} (k0 : Nat) (hd : decode cd pc = .ok (.iinc i n, 3)) (hp : pc' = pc + 3) (hk : ls[k0]? = some (i, .int x)) (hv : x + Int32.ofInt n = v) (hn : i < nL) (hl : (i, Value.int v) :: ls.filter (fun q => !(q.1 == i) && !(q.1 + 1 == i && q.2.category == 2)) = ls') (k : bR p e Rm s m args below meth c Q A G nL pc' ls' st ws cells slots) : bR p e Rm s m args below meth c Q A G nL pc ls st ws cells slots := by
  subst hp
  intro H locs L hP hD hS h
  exact lv_iinc C.1 C.2.1 hd h hk hv hn hl (fun L' h' => k H locs L' hP hD hS h')
theorem b_iconst (C : bC p s m args c A G own cd nL) {n : Int} (hd : decode cd pc = .ok (.iconst n, 1)) (hp : pc' = pc + 1) (k : bR p e Rm s m args below meth c Q A G nL pc' ls (.int (Int32.ofInt n) :: st) ws cells slots) : bR p e Rm s m args below meth c Q A G nL pc ls st ws cells slots := by
  subst hp
  intro H locs L hP hD hS h
  exact lv_iconst C.1 C.2.1 hd rfl (k H locs L hP hD hS h)
theorem b_bipush (C : bC p s m args c A G own cd nL) {n : Int} (hd : decode cd pc = .ok (.bipush n, 2)) (hp : pc' = pc + 2) (hv : (Int8.ofInt n).toInt32 = Int32.ofInt n) (k : bR p e Rm s m args below meth c Q A G nL pc' ls (.int (Int32.ofInt n) :: st) ws cells slots) : bR p e Rm s m args below meth c Q A G nL pc ls st ws cells slots := by
  subst hp
  intro H locs L hP hD hS h
  exact lv_bipush C.1 C.2.1 hd hv (k H locs L hP hD hS h)
theorem b_sipush (C : bC p s m args c A G own cd nL) {n : Int} (hd : decode cd pc = .ok (.sipush n, 3)) (hp : pc' = pc + 3) (hv : (Int16.ofInt n).toInt32 = Int32.ofInt n) (k : bR p e Rm s m args below meth c Q A G nL pc' ls (.int (Int32.ofInt n) :: st) ws cells slots) : bR p e Rm s m args below meth c Q A G nL pc ls st ws cells slots := by
  subst hp
  intro H locs L hP hD hS h
  exact lv_sipush C.1 C.2.1 hd hv (k H locs L hP hD hS h)
theorem b_ldc (C : bC p s m args c A G own cd nL) {i : Nat} {n : Int} (hd : decode cd pc = .ok (.ldc i, 2)) (hp : pc' = pc + 2) (hw : Cond.constant own i (Int32.ofInt n) ∈ gw) (k : bR p e Rm s m args below meth c Q A G nL pc' ls (.int (Int32.ofInt n) :: st) ws cells slots) : bR p e Rm s m args below meth c Q A G nL pc ls st ws cells slots := by
  subst hp
  intro H locs L hP hD hS h
  exact lv_ldc C.1 C.2.1 C.2.2.2.1 (C.2.2.2.2.1 _ hw) hd (k H locs L hP hD hS h)
theorem b_dup (C : bC p s m args c A G own cd nL) {x : Nat} (hd : decode cd pc = .ok (.dup, 1)) (hp : pc' = pc + 1) (k : bR p e Rm s m args below meth c Q A G nL pc' ls (.ref x :: .ref x :: st) ws cells slots) : bR p e Rm s m args below meth c Q A G nL pc ls (.ref x :: st) ws cells slots := by
  subst hp
  intro H locs L hP hD hS h
  exact lv_dup C.1 C.2.1 hd rfl (k H locs L hP hD hS h)
theorem b_iadd (C : bC p s m args c A G own cd nL) {x y : Int32} (hd : decode cd pc = .ok (.iadd, 1)) (hp : pc' = pc + 1) (k : bR p e Rm s m args below meth c Q A G nL pc' ls (.int (x + y) :: st) ws cells slots) : bR p e Rm s m args below meth c Q A G nL pc ls (.int y :: .int x :: st) ws cells slots := by
  subst hp
  intro H locs L hP hD hS h
  exact lv_iadd C.1 C.2.1 hd (k H locs L hP hD hS h)
theorem b_isub (C : bC p s m args c A G own cd nL) {x y : Int32} (hd : decode cd pc = .ok (.isub, 1)) (hp : pc' = pc + 1) (k : bR p e Rm s m args below meth c Q A G nL pc' ls (.int (x - y) :: st) ws cells slots) : bR p e Rm s m args below meth c Q A G nL pc ls (.int y :: .int x :: st) ws cells slots := by
  subst hp
  intro H locs L hP hD hS h
  exact lv_isub C.1 C.2.1 hd (k H locs L hP hD hS h)
theorem b_imul (C : bC p s m args c A G own cd nL) {x y : Int32} (hd : decode cd pc = .ok (.imul, 1)) (hp : pc' = pc + 1) (k : bR p e Rm s m args below meth c Q A G nL pc' ls (.int (x * y) :: st) ws cells slots) : bR p e Rm s m args below meth c Q A G nL pc ls (.int y :: .int x :: st) ws cells slots := by
  subst hp
  intro H locs L hP hD hS h
  exact lv_imul C.1 C.2.1 hd (k H locs L hP hD hS h)
theorem b_iand (C : bC p s m args c A G own cd nL) {x y : Int32} (hd : decode cd pc = .ok (.iand, 1)) (hp : pc' = pc + 1) (k : bR p e Rm s m args below meth c Q A G nL pc' ls (.int (x &&& y) :: st) ws cells slots) : bR p e Rm s m args below meth c Q A G nL pc ls (.int y :: .int x :: st) ws cells slots := by
  subst hp
  intro H locs L hP hD hS h
  exact lv_iand C.1 C.2.1 hd (k H locs L hP hD hS h)
theorem b_goto (C : bC p s m args c A G own cd nL) {off : Int} {tgt : Nat} (hd : decode cd pc = .ok (.goto off, 3)) (ht : (pc : Int) + off = (tgt : Int)) (k : bR p e Rm s m args below meth c Q A G nL tgt ls st ws cells slots) : bR p e Rm s m args below meth c Q A G nL pc ls st ws cells slots := by
  intro H locs L hP hD hS h
  exact lv_goto C.1 C.2.1 hd ht (k H locs L hP hD hS h)
theorem b_icmp_ge (C : bC p s m args c A G own cd nL) {x y : Int32} {off : Int} {tgt : Nat} (hd : decode cd pc = .ok (.if_icmp .ge off, 3)) (hp : pc' = pc + 3) (ht : (pc : Int) + off = (tgt : Int)) (kt : y ≤ x → bR p e Rm s m args below meth c Q A G nL tgt ls st ws cells slots) (kf : ¬ y ≤ x → bR p e Rm s m args below meth c Q A G nL pc' ls st ws cells slots) : bR p e Rm s m args below meth c Q A G nL pc ls (.int y :: .int x :: st) ws cells slots := by
  subst hp
  intro H locs L hP hD hS h
  exact lv_icmp_ge C.1 C.2.1 hd ht (fun q => kt q H locs L hP hD hS h) (fun q => kf q H locs L hP hD hS h)
theorem b_icmp_gt (C : bC p s m args c A G own cd nL) {x y : Int32} {off : Int} {tgt : Nat} (hd : decode cd pc = .ok (.if_icmp .gt off, 3)) (hp : pc' = pc + 3) (ht : (pc : Int) + off = (tgt : Int)) (kt : y < x → bR p e Rm s m args below meth c Q A G nL tgt ls st ws cells slots) (kf : ¬ y < x → bR p e Rm s m args below meth c Q A G nL pc' ls st ws cells slots) : bR p e Rm s m args below meth c Q A G nL pc ls (.int y :: .int x :: st) ws cells slots := by
  subst hp
  intro H locs L hP hD hS h
  exact lv_icmp_gt C.1 C.2.1 hd ht (fun q => kt q H locs L hP hD hS h) (fun q => kf q H locs L hP hD hS h)
theorem b_icmp_eq (C : bC p s m args c A G own cd nL) {x y : Int32} {off : Int} {tgt : Nat} (hd : decode cd pc = .ok (.if_icmp .eq off, 3)) (ht : (pc : Int) + off = (tgt : Int)) (hxy : x = y) (kt : bR p e Rm s m args below meth c Q A G nL tgt ls st ws cells slots) : bR p e Rm s m args below meth c Q A G nL pc ls (.int y :: .int x :: st) ws cells slots := by
  intro H locs L hP hD hS h
  exact lv_icmp_eq C.1 C.2.1 hd ht (fun q => kt H locs L hP hD hS h) (fun q => absurd hxy q)
theorem b_icmp_ne (C : bC p s m args c A G own cd nL) {x y : Int32} {off : Int} {tgt : Nat} (hd : decode cd pc = .ok (.if_icmp .ne off, 3)) (hp : pc' = pc + 3) (ht : (pc : Int) + off = (tgt : Int)) (kt : ¬ x = y → bR p e Rm s m args below meth c Q A G nL tgt ls st ws cells slots) (kf : x = y → bR p e Rm s m args below meth c Q A G nL pc' ls st ws cells slots) : bR p e Rm s m args below meth c Q A G nL pc ls (.int y :: .int x :: st) ws cells slots := by
  subst hp
  intro H locs L hP hD hS h
  exact lv_icmp_ne C.1 C.2.1 hd ht (fun q => kt q H locs L hP hD hS h) (fun q => kf q H locs L hP hD hS h)
theorem b_if_eq (C : bC p s m args c A G own cd nL) {x : Int32} {off : Int} {tgt : Nat} (hd : decode cd pc = .ok (.ifCond .eq off, 3)) (hp : pc' = pc + 3) (ht : (pc : Int) + off = (tgt : Int)) (kt : x = 0 → bR p e Rm s m args below meth c Q A G nL tgt ls st ws cells slots) (kf : ¬ x = 0 → bR p e Rm s m args below meth c Q A G nL pc' ls st ws cells slots) : bR p e Rm s m args below meth c Q A G nL pc ls (.int x :: st) ws cells slots := by
  subst hp
  intro H locs L hP hD hS h
  exact lv_if_eq C.1 C.2.1 hd ht (fun q => kt q H locs L hP hD hS h) (fun q => kf q H locs L hP hD hS h)
theorem b_sub (k : bR p e Rm s m args below meth c Q A G nL pc ls' st ws cells slots) (ks : List Nat) (hl : lv_pick ls ks = ls') : bR p e Rm s m args below meth c Q A G nL pc ls st ws cells slots := by
  intro H locs L hP hD hS h
  exact k H locs L hP hD hS (lv_sub h ks hl)
theorem b_objInit (C : bC p s m args c A G own cd nL) {idx x : Nat} (hd : decode cd pc = .ok (.invokespecial idx, 3)) (hp : pc' = pc + 3) (hw : Cond.methodLink own idx objectInit ∈ gw) (hi : Cond.instanceMethod objectInit ∈ gw) (hc : Cond.code objectInit ⟨#[0xb1]⟩ 1 none ∈ gw) (hR : 1 ≤ Rm.frames ∧ 12 ≤ Rm.locals) (k : bR p e Rm s m args below meth c Q A G nL pc' ls [] ws cells slots) : bR p e Rm s m args below meth c Q A G nL pc ls [.ref x] ws cells slots := by
  subst hp
  intro H locs L hP hD hS h
  exact W.objInit C.1 C.2.1 C.2.2.2.1 (C.2.2.2.2.1 _ hw) (C.2.2.2.2.1 _ hi) (C.2.2.2.2.1 _ hc) rfl (by rw [C.2.2.1]; exact h.1) rfl hd hR.1 (by have := hR.2; show 2 * (F0 m pc L [Value.ref x]).monitorRoom + 0 + 12 ≤ Rm.locals; exact this) (k H locs L hP hD hS h)
theorem b_get (C : bC p s m args c A G own cd nL) {idx ci k a : Nat} {fs : List Value} {v : Value} (q0 : Nat) (hd : decode cd pc = .ok (.getfield idx, 3)) (hp : pc' = pc + 3) (hf : FL own idx ci k) (he : ws[q0]? = some (a, .inr (ci, fs))) (hv : fs[k]? = some v) (kk : bR p e Rm s m args below meth c Q A G nL pc' ls (v :: st) ws cells slots) : bR p e Rm s m args below meth c Q A G nL pc ls (.ref a :: st) ws cells slots := by
  subst hp
  intro H locs L hP hD hS h
  obtain ⟨⟨C', T, N⟩, hc, hkN, hlink, hin⟩ := hf
  exact va_get (D := G.2.1) (cl := vwCl) C.1 C.2.1 C.2.2.2.2.1 hin C.2.2.2.1 C.2.2.2.2.2.1.1 hP q0 he hc k hkN (C.2.2.2.2.1 _ hlink) (fun _ h => h) hv hd (kk H locs L hP hD hS h)
theorem b_putF (C : bC p s m args c A G own cd nL) (hin : meth.name = "<init>") {idx ci k a x : Nat} {fs : List Value} (q0 : Nat) (hd : decode cd pc = .ok (.putfield idx, 3)) (hp : pc' = pc + 3) (hf : FF own idx ci k) (he : ws[q0]? = some (a, .inr (ci, fs))) (hl : k < fs.length) (hw : ws.set q0 (a, .inr (ci, fs.set k (.ref x))) = ws') (kk : bR p e Rm s m args below meth c Q A G nL pc' ls st ws' cells slots) : bR p e Rm s m args below meth c Q A G nL pc ls (.ref x :: .ref a :: st) ws cells slots := by
  subst hp
  subst hw
  intro H locs L hP hD hS h
  obtain ⟨⟨C', T, N⟩, hc, hkN, hlink, hin', ⟨ty0, hty, hnf⟩, hnm, hfin, hdecl⟩ := hf
  exact va_putF (D := G.2.1) (cl := vwCl) (v := .ref x) C.1 C.2.1 C.2.2.2.2.1 hin' ty0 hty hnm C.2.2.2.1 C.2.2.2.2.2.1.1 hP hD hS q0 he hc k hkN (C.2.2.2.2.1 _ hlink) (fun _ h => h) hfin hin hdecl (hty k hkN) (hnf x).1 (hnf x).2 hl hd (fun H1 locs1 hP1 hD1 hS1 => kk H1 locs1 L hP1 hD1 hS1 h)
theorem b_putI (C : bC p s m args c A G own cd nL) {idx ci k a : Nat} {fs : List Value} {x : Int32} (q0 : Nat) (hd : decode cd pc = .ok (.putfield idx, 3)) (hp : pc' = pc + 3) (hf : FP own idx ci k .int) (he : ws[q0]? = some (a, .inr (ci, fs))) (hl : k < fs.length) (hw : ws.set q0 (a, .inr (ci, fs.set k (.int x))) = ws') (kk : bR p e Rm s m args below meth c Q A G nL pc' ls st ws' cells slots) : bR p e Rm s m args below meth c Q A G nL pc ls (.int x :: .ref a :: st) ws cells slots := by
  subst hp
  subst hw
  intro H locs L hP hD hS h
  obtain ⟨⟨C', T, N⟩, hc, hkN, hlink, hin', ⟨ty0, hty⟩, hnm, hfin, hpt⟩ := hf
  exact va_put (D := G.2.1) (cl := vwCl) (v := .int x) C.1 C.2.1 C.2.2.2.2.1 hin' ty0 hty hnm C.2.2.2.1 C.2.2.2.2.2.1.1 hP hD hS q0 he hc k hkN (C.2.2.2.2.1 _ hlink) (fun _ h => h) hfin hpt rfl rfl hl hd (fun H1 locs1 hP1 hD1 hS1 => kk H1 locs1 L hP1 hD1 hS1 h)
theorem b_putZ (C : bC p s m args c A G own cd nL) {idx ci k a : Nat} {fs : List Value} {x : Int} (q0 : Nat) (hd : decode cd pc = .ok (.putfield idx, 3)) (hp : pc' = pc + 3) (hf : FP own idx ci k .boolean) (hx : x = 0 ∨ x = 1) (he : ws[q0]? = some (a, .inr (ci, fs))) (hl : k < fs.length) (hw : ws.set q0 (a, .inr (ci, fs.set k (.int (Int32.ofInt x)))) = ws') (kk : bR p e Rm s m args below meth c Q A G nL pc' ls st ws' cells slots) : bR p e Rm s m args below meth c Q A G nL pc ls (.int (Int32.ofInt x) :: .ref a :: st) ws cells slots := by
  subst hp
  subst hw
  intro H locs L hP hD hS h
  obtain ⟨⟨C', T, N⟩, hc, hkN, hlink, hin', ⟨ty0, hty⟩, hnm, hfin, hpt⟩ := hf
  exact va_put (D := G.2.1) (cl := vwCl) (v := .int (Int32.ofInt x)) C.1 C.2.1 C.2.2.2.2.1 hin' ty0 hty hnm C.2.2.2.1 C.2.2.2.2.2.1.1 hP hD hS q0 he hc k hkN (C.2.2.2.2.1 _ hlink) (fun _ h => h) hfin hpt (nar_z hx) (fit_z hx) hl hd (fun H1 locs1 hP1 hD1 hS1 => kk H1 locs1 L hP1 hD1 hS1 h)
theorem b_new (C : bC p s m args c A G own cd nL) {idx ci : Nat} {fs : List Value} (hd : decode cd pc = .ok (.new idx, 3)) (hp : pc' = pc + 3) (hf : NW own idx ci fs) (hR : cells + 1 ≤ Rm.cells ∧ slots + fs.length ≤ Rm.slots) (kk : ∀ q : Nat, bR p e Rm s m args below meth c Q A G nL pc' ls (.ref q :: st) (ws ++ [(q, .inr (ci, fs))]) (cells + 1) (slots + fs.length)) : bR p e Rm s m args below meth c Q A G nL pc ls st ws cells slots := by
  subst hp
  intro H locs L hP hD hS h
  obtain ⟨⟨C', T, N⟩, hc, hin', ⟨ty0, hty, hdf⟩, w1, w2, w3, hlen⟩ := hf
  have hlen' : fs.length = N := hlen
  rw [hlen'] at hR kk
  exact va_new (D := G.2.1) (cl := vwCl) C.1 C.2.1 C.2.2.2.2.1 hin' ty0 hty C.2.2.2.1 (C.2.2.2.2.1 _ w1) (C.2.2.2.2.1 _ w2) (C.2.2.2.2.1 _ w3) C.2.2.2.2.2.1.1 hP hD hS C.2.2.2.2.2.2 hc hdf hR.1 hR.2 hd (fun q H1 hP1 hD1 hS1 => kk q H1 locs L hP1 hD1 hS1 h)
theorem b_newI (C : bC p s m args c A G own cd nL) {n : Nat} (hd : decode cd pc = .ok (.newarray .int, 2)) (hp : pc' = pc + 2) (hw : Cond.arrayClass .int ∈ gw) (hn : n < 100000000) (hR : cells + 1 ≤ Rm.cells ∧ slots + n ≤ Rm.slots) (kk : ∀ q : Nat, bR p e Rm s m args below meth c Q A G nL pc' ls (.ref q :: st) (ws ++ [(q, .inl (G.2.2 0, n, .inl (fun _ => Int32.ofInt 0)))]) (cells + 1) (slots + n)) : bR p e Rm s m args below meth c Q A G nL pc ls (.int (Int32.ofInt (n : Int)) :: st) ws cells slots := by
  subst hp
  intro H locs L hP hD hS h
  have hr : r32 (n : Int) := ⟨by omega, by omega⟩
  refine va_newa (D := G.2.1) (cl := vwCl) (atype := .int) (ty := .int) (a0 := (n, .inl (fun _ => Int32.ofInt 0))) C.1 C.2.1 (C.2.2.2.2.1 _ hw) rfl C.2.2.2.2.2.1.1 hP hD hS C.2.2.2.2.2.2 (fun cA => rfl) (by rw [i32_lt0 hr]; omega) (by rw [i32_cl hr, Int.toNat_natCast]) (show n * 4 ≤ 536870912 by omega) hR.1 hR.2 hd (fun q cA H1 hK1 hP1 hD1 hS1 => ?_)
  have e1 : s.vm.findClass ("[" ++ (FieldType.int).toString) = some cA := (hK1.2 3 (cA, .int) rfl).2
  have e2 : s.vm.findClass ("[" ++ (FieldType.int).toString) = some (G.2.2 0) := (C.2.2.2.2.2.1.1.2 0 (G.2.2 0, .int) rfl).2
  have e3 : cA = G.2.2 0 := Option.some.inj (e1.symm.trans e2)
  subst e3
  exact kk q H1 locs L hP1 hD1 hS1 h
theorem b_newZ (C : bC p s m args c A G own cd nL) {n : Nat} (hd : decode cd pc = .ok (.newarray .boolean, 2)) (hp : pc' = pc + 2) (hw : Cond.arrayClass .boolean ∈ gw) (hn : n < 100000000) (hR : cells + 1 ≤ Rm.cells ∧ slots + n ≤ Rm.slots) (kk : ∀ q : Nat, bR p e Rm s m args below meth c Q A G nL pc' ls (.ref q :: st) (ws ++ [(q, .inl (G.2.2 2, n, .inl (fun _ => Int32.ofInt 0)))]) (cells + 1) (slots + n)) : bR p e Rm s m args below meth c Q A G nL pc ls (.int (Int32.ofInt (n : Int)) :: st) ws cells slots := by
  subst hp
  intro H locs L hP hD hS h
  have hr : r32 (n : Int) := ⟨by omega, by omega⟩
  refine va_newa (D := G.2.1) (cl := vwCl) (atype := .boolean) (ty := .boolean) (a0 := (n, .inl (fun _ => Int32.ofInt 0))) C.1 C.2.1 (C.2.2.2.2.1 _ hw) rfl C.2.2.2.2.2.1.1 hP hD hS C.2.2.2.2.2.2 (fun cA => rfl) (by rw [i32_lt0 hr]; omega) (by rw [i32_cl hr, Int.toNat_natCast]) (show n * 1 ≤ 536870912 by omega) hR.1 hR.2 hd (fun q cA H1 hK1 hP1 hD1 hS1 => ?_)
  have e1 : s.vm.findClass ("[" ++ (FieldType.boolean).toString) = some cA := (hK1.2 3 (cA, .boolean) rfl).2
  have e2 : s.vm.findClass ("[" ++ (FieldType.boolean).toString) = some (G.2.2 2) := (C.2.2.2.2.2.1.1.2 2 (G.2.2 2, .boolean) rfl).2
  have e3 : cA = G.2.2 2 := Option.some.inj (e1.symm.trans e2)
  subst e3
  exact kk q H1 locs L hP1 hD1 hS1 h
theorem b_newL (C : bC p s m args c A G own cd nL) {n : Nat} (hd : decode cd pc = .ok (.newarray .long, 2)) (hp : pc' = pc + 2) (hw : Cond.arrayClass .long ∈ gw) (hn : n < 50000000) (hR : cells + 1 ≤ Rm.cells ∧ slots + n ≤ Rm.slots) (kk : ∀ q : Nat, bR p e Rm s m args below meth c Q A G nL pc' ls (.ref q :: st) (ws ++ [(q, .inl (G.2.2 1, n, .inr (.inl (fun _ => 0))))]) (cells + 1) (slots + n)) : bR p e Rm s m args below meth c Q A G nL pc ls (.int (Int32.ofInt (n : Int)) :: st) ws cells slots := by
  subst hp
  intro H locs L hP hD hS h
  have hr : r32 (n : Int) := ⟨by omega, by omega⟩
  refine va_newa (D := G.2.1) (cl := vwCl) (atype := .long) (ty := .long) (a0 := (n, .inr (.inl (fun _ => 0)))) C.1 C.2.1 (C.2.2.2.2.1 _ hw) rfl C.2.2.2.2.2.1.1 hP hD hS C.2.2.2.2.2.2 (fun cA => rfl) (by rw [i32_lt0 hr]; omega) (by rw [i32_cl hr, Int.toNat_natCast]) (show n * 8 ≤ 536870912 by omega) hR.1 hR.2 hd (fun q cA H1 hK1 hP1 hD1 hS1 => ?_)
  have e1 : s.vm.findClass ("[" ++ (FieldType.long).toString) = some cA := (hK1.2 3 (cA, .long) rfl).2
  have e2 : s.vm.findClass ("[" ++ (FieldType.long).toString) = some (G.2.2 1) := (C.2.2.2.2.2.1.1.2 1 (G.2.2 1, .long) rfl).2
  have e3 : cA = G.2.2 1 := Option.some.inj (e1.symm.trans e2)
  subst e3
  exact kk q H1 locs L hP1 hD1 hS1 h
theorem b_iastore (C : bC p s m args c A G own cd nL) {a n i : Nat} {f : Nat → Int} {x : Int} (q0 : Nat) (hd : decode cd pc = .ok (.iastore, 1)) (hp : pc' = pc + 1) (he : ws[q0]? = some (a, .inl (G.2.2 0, n, .inl (fun j => Int32.ofInt (f j))))) (hi : i < n) (hn : n < 2147483648) (hw : ws.set q0 (a, .inl (G.2.2 0, n, .inl (fun j => Int32.ofInt (uf f i x j)))) = ws') (kk : bR p e Rm s m args below meth c Q A G nL pc' ls st ws' cells slots) : bR p e Rm s m args below meth c Q A G nL pc ls (.int (Int32.ofInt x) :: .int (Int32.ofInt (i : Int)) :: .ref a :: st) ws cells slots := by
  subst hp
  subst hw
  intro H locs L hP hD hS h
  have hr : r32 (i : Int) := ⟨by omega, by omega⟩
  refine va_iast (D := G.2.1) (cl := vwCl) C.1 C.2.1 C.2.2.2.2.2.1.1 hP hD hS q0 0 he rfl (i32_in hr (by omega) (by omega)) hd (fun H1 locs1 hP1 hD1 hS1 => ?_)
  have e : upd (fun j => Int32.ofInt (f j)) (Int32.ofInt (i : Int)).toNatClampNeg (Int32.ofInt x) = fun j => Int32.ofInt (uf f i x j) := by
    rw [i32_cl hr, Int.toNat_natCast]
    funext j
    by_cases z : j = i
    · rw [z, uf_s]; simp [upd]
    · rw [uf_n z]; simp [upd, z]
  rw [e] at hP1 hD1
  exact kk H1 locs1 L hP1 hD1 hS1 h
theorem cB_blind {h0 sz : Nat} {e0 : va_E} {av : List Value} : FrameBlind (va_Pc av (fun U => U.heap.size = sz ∧ va_P G.2.1 vwCl [(h0, e0)] U.heap ∧ cK G U ∧ va_D (fun _ => True) [(h0, e0)])) := by
  intro a U g mk q
  obtain ⟨q0, q1, qP, qK, qD⟩ := q
  exact ⟨q0, q1, qP, cK.same (u := U) (U := U.calling g mk a) rfl qK, qD⟩
theorem b_ctor (C : bC p s m args c A G own cd nL) {idx n f mc ms b : Nat} {m' : MI} {e0 : va_E} {Post : va_W → Prop} {stk : List Value} (As : List Value) (wr : va_W) (hd : decode cd pc = .ok (.invokespecial idx, 3)) (hp : pc' = pc + 3) (hf : CL own idx m' n) (hc : Ctor G f mc ms m' As b e0 Post) (hw : ws = wr ++ [(b, e0)]) (hn : As.length = n) (hst : stk = As.reverse ++ .ref b :: st) (hrm : (st.map fun v => v.category).sum ≤ 8)
    (hR : f + 1 ≤ Rm.frames ∧ 41 * f + 41 ≤ Rm.locals) (hR2 : cells + mc ≤ Rm.cells ∧ slots + ms ≤ Rm.slots) (kk : ∀ w1 : va_W, Post w1 → bR p e Rm s m args below meth c Q A G nL pc' ls st (wr ++ w1) (cells + mc) (slots + ms)) : bR p e Rm s m args below meth c Q A G nL pc ls stk ws cells slots := by
  subst hp
  subst hw
  subst hst
  intro H locs L hP hD hS h
  obtain ⟨hlk, w2, w3, w5, hnm, hret, hdd, hmx⟩ := hf
  obtain ⟨y, by', mL, rt⟩ := m'
  have hret' : rt = none := hret
  subst hret'
  have hmx' : mL ≤ 22 := hmx
  have hMet := hc H.size
  have hPb : va_P G.2.1 vwCl [(b, e0)] H := hP.by (fun k => wr.length + k) (fun k q hk => by rw [List.getElem?_append_right (by omega), Nat.add_sub_cancel_left]; exact hk)
  have hDb : va_D (fun _ => True) [(b, e0)] := ⟨fun i j x z hi hj _ => by
    have h1 := (List.getElem?_eq_some_iff.mp hi).1
    have h2 := (List.getElem?_eq_some_iff.mp hj).1
    simp only [List.length_cons, List.length_nil] at h1 h2
    omega, fun _ _ _ => trivial⟩
  have hfree : ∀ q, va_A [(b, e0)] H.size q → A q := fun q hq => by
    rcases hq with ⟨k, x, hq⟩ | hq
    · exact hD.2 (wr.length + k) (q, x) (by rw [List.getElem?_append_right (by omega), Nat.add_sub_cancel_left]; exact hq)
    · exact C.2.2.2.2.2.2 q (Nat.le_trans hS.1 hq)
  have hro : (rm_c f mc ms).frames + 1 ≤ Rm.frames ∧ 8 + (mL + 11) + (rm_c f mc ms).locals ≤ Rm.locals := ⟨hR.1, by have := hR.2; show 8 + (mL + 11) + 41 * f ≤ Rm.locals; omega⟩
  have hpre : PreS s H (va_Pc (.ref b :: As) (fun U => U.heap.size = H.size ∧ va_P G.2.1 vwCl [(b, e0)] U.heap ∧ cK G U ∧ va_D (fun _ => True) [(b, e0)])) (.ref b :: As) := ⟨cB_blind, fun U hU hW => ⟨rfl, by rw [hU], by rw [hU]; exact hPb, C.2.2.2.2.2.1.moved hW, hDb⟩⟩
  have hrun : va_Run p G.1 e Rm s m args below meth c H locs cells slots mc ms (F0 m pc L (As.reverse ++ .ref b :: st)) st (va_Qv Post (fun w1 t => va_P G.2.1 vwCl w1 t.heap ∧ va_D (va_A [(b, e0)] H.size) w1) (va_A [(b, e0)] H.size) (Value.ref b :: As).toArray) (va_A [(b, e0)] H.size) := by
    rcases hlk with w1 | ⟨host, w1⟩
    · exact va_runI (g := F0 m pc L (As.reverse ++ .ref b :: st)) (rest := st) ⟨C.1, C.2.1, C.2.2.1, C.2.2.2.1, C.2.2.2.2.1⟩ hMet (cwI n C.2.2.2.2.1 (gw_G w5) rfl rfl rfl (C.2.2.2.2.1 _ w3) (C.2.2.2.2.1 _ w1) (C.2.2.2.2.1 _ w2) hnm hdd hro) hpre rfl hn h.1 rfl (lv_room hrm) hd hR2
    · exact va_runIN (host := host) (g := F0 m pc L (As.reverse ++ .ref b :: st)) (rest := st) ⟨C.1, C.2.1, C.2.2.1, C.2.2.2.1, C.2.2.2.2.1⟩ hMet ⟨va_cnB n C.2.2.2.2.1 (gw_G w5) rfl rfl rfl (C.2.2.2.2.2.1.2 _ w1) (C.2.2.2.2.1 _ w3) hdd hro, hnm, C.2.2.2.2.1 _ w2⟩ hpre rfl hn h.1 rfl (lv_room hrm) hd hR2
  refine va_callv hrun hS (fun q _ hq => hfree q hq) hfree (fun w1 t H1 locs1 ht hvm hpost hB hsz hkeep hS1 => ?_)
  obtain ⟨hP1, hD1⟩ := hB
  rw [ht] at hP1
  obtain ⟨hP2, hD2⟩ := va_upd2 hP hD hkeep hfree hP1 hD1
  exact kk w1 hpost H1 locs1 L hP2 hD2 hS1 h
/-- A CONSTRUCTOR'S CONTRACT OUT OF A WALK -/
theorem Ctor.of {f mc ms : Nat} {mi : MI} {As : List Value} {h0 : Nat} {e0 : va_E} {Post : va_W → Prop} (hpl : plainName mi.1.cls = true) (hnm : mi.1.name = "<init>") (hrt : mi.2.2.2 = none) (hlen : (lg_sl (.ref h0 :: As)).length ≤ mi.2.2.1)
    (h : ∀ (p : Program) (e : Env) (s : State) (m : MethodId) (args : Array Value) (below : List Frame) (meth : Method) (c : Code) (A : Nat → Prop) (Q : State → Prop), bC p s m args c A G mi.1.cls mi.2.1 mi.2.2.1 → meth.name = "<init>" →
      (∀ pc ls ws, decode mi.2.1 pc = .ok (.return_, 1) → Post ws → bR p e (rm_c f mc ms) s m args below meth c Q A G mi.2.2.1 pc ls [] ws mc ms) → bR p e (rm_c f mc ms) s m args below meth c Q A G mi.2.2.1 0 (lv_args 0 (.ref h0 :: As)) [] [(h0, e0)] 0 0) : Ctor G f mc ms mi As h0 e0 Post := by
  intro sz
  refine Met.ofW (cc := mi.2.1) (maxL := mi.2.2.1) (ret := mi.2.2.2) hpl rfl ?_
  intro p e s mm as below meth c s₁ B hml hv
  obtain ⟨rfl, hsz, hP, hK, hD0⟩ := hv
  subst hsz
  have hts := atoms_spec (ws := ws_m mi) B.pre
  have hown : s.vm.findClass mi.1.cls = some mm.cls := findClass_of_methodNamed B.named
  have hin : meth.name = "<init>" := (name_of_methodNamed B.named B.method).1.trans hnm
  have hD := hD0.self (sz := s.heap.size)
  have hl := lv_entry (.ref h0 :: As) (n := mi.2.2.1) hlen
  rw [lg_entry_eq]
  have hr : meth.sig.returnType = none := B.returns.trans hrt
  have hlk := B.notSynchronized
  refine h p e s mm _ below meth c (va_A [(h0, e0)] s.heap.size) _ ⟨B.exec, B.bytes, hml, hown, fun w hw => hts w (gw_in hw), hK, fun q hq => Or.inr hq⟩ hin (fun pc ls ws hd hpost H locs L hP1 hD1 hS1 h1 => ?_) s.heap [] _ hP hD va_S.rf hl
  exact W.vret (Qc := va_Qv Post (fun w1 t => va_P G.2.1 vwCl w1 t.heap ∧ va_D (va_A [(h0, e0)] s.heap.size) w1) (va_A [(h0, e0)] s.heap.size)) (free := va_A [(h0, e0)] s.heap.size) B.exec B.bytes hr (fun t ht hW => ⟨⟨ws, rfl, hpost, by rw [ht]; exact hP1, hD1⟩, hS1.F ht⟩) hS1.2.2 hd hlk
end Build
