/-! ===== THE ABSTRACT MACHINE: ints are integers in their range, cells have numbers, a world has a fixed plan ===== -/
abbrev r32 (x : Int) : Prop := -2147483648 ≤ x ∧ x < 2147483648
theorem i32_of {x : Int} (h : r32 x) : (Int32.ofInt x).toInt = x := by
  rw [Int32.toInt_ofInt]
  show x.bmod 4294967296 = x
  rw [Int.bmod_eq_of_le (by omega) (by omega)]
theorem i32_rng (x : Int32) : r32 x.toInt := by
  have h1 := Int32.le_toInt x
  have h2 := Int32.toInt_lt x
  exact ⟨by omega, by omega⟩
theorem i32_inj {x y : Int} (hx : r32 x) (hy : r32 y) (h : Int32.ofInt x = Int32.ofInt y) : x = y := by
  rw [← i32_of hx, ← i32_of hy, h]
theorem i32_eq {x y : Int} (hx : r32 x) (hy : r32 y) : Int32.ofInt x = Int32.ofInt y ↔ x = y := ⟨i32_inj hx hy, fun h => by rw [h]⟩
theorem i32_lt {x y : Int} (hx : r32 x) (hy : r32 y) : Int32.ofInt x < Int32.ofInt y ↔ x < y := by rw [Int32.lt_iff_toInt_lt, i32_of hx, i32_of hy]
theorem i32_le {x y : Int} (hx : r32 x) (hy : r32 y) : Int32.ofInt x ≤ Int32.ofInt y ↔ x ≤ y := by rw [Int32.le_iff_toInt_le, i32_of hx, i32_of hy]
theorem i32_0 : Int32.ofInt 0 = 0 := by decide
theorem r32_0 : r32 0 := by decide
theorem i32_eq0 {x : Int} (hx : r32 x) : Int32.ofInt x = 0 ↔ x = 0 := by rw [← i32_0]; exact i32_eq hx r32_0
theorem i32_lt0 {x : Int} (hx : r32 x) : Int32.ofInt x < 0 ↔ x < 0 := by rw [← i32_0]; exact i32_lt hx r32_0
theorem i32_le0 {x : Int} (hx : r32 x) : Int32.ofInt x ≤ 0 ↔ x ≤ 0 := by rw [← i32_0]; exact i32_le hx r32_0
theorem i32_0le {x : Int} (hx : r32 x) : 0 ≤ Int32.ofInt x ↔ 0 ≤ x := by rw [← i32_0]; exact i32_le r32_0 hx
theorem i32_0lt {x : Int} (hx : r32 x) : 0 < Int32.ofInt x ↔ 0 < x := by rw [← i32_0]; exact i32_lt r32_0 hx
theorem i32_cl {x : Int} (hx : r32 x) : (Int32.ofInt x).toNatClampNeg = x.toNat := by
  show (Int32.ofInt x).toInt.toNat = x.toNat
  rw [i32_of hx]
theorem i32_in {x : Int} {n : Nat} (hx : r32 x) (h0 : 0 ≤ x) (h1 : x < n) : vp_in (Int32.ofInt x) n := by
  rintro (h | h)
  · rw [i32_lt0 hx] at h; omega
  · rw [i32_cl hx] at h; omega
def bAnd (x y : Int) : Int := (Int32.ofInt x &&& Int32.ofInt y).toInt
def bOr (x y : Int) : Int := (Int32.ofInt x ||| Int32.ofInt y).toInt
def bXor (x y : Int) : Int := (Int32.ofInt x ^^^ Int32.ofInt y).toInt
def bShl (x y : Int) : Int := (Int32.ofInt x <<< (Int32.ofInt y &&& 31)).toInt
def bShr (x y : Int) : Int := (Int32.ofInt x >>> (Int32.ofInt y &&& 31)).toInt
def bUsh (x y : Int) : Int := ((Int32.ofInt x).toUInt32 >>> ((Int32.ofInt y).toUInt32 &&& Int32.toUInt32 31)).toInt32.toInt
def bDiv (x y : Int) : Int := (Int32.ofInt x / Int32.ofInt y).toInt
def bL2i (x : Int64) : Int := x.toInt32.toInt
def bI2l (x : Int) : Int64 := (Int32.ofInt x).toInt64
def bLshl (x : Int64) (y : Int) : Int64 := x <<< ((Int32.ofInt y).toInt64 &&& 63)
def bLshr (x : Int64) (y : Int) : Int64 := x >>> ((Int32.ofInt y).toInt64 &&& 63)
/-- a value: an int, a long, a cell's number; or nothing is known of it -/
abbrev AV : Type := Int ⊕ (Int64 ⊕ Option Nat)
abbrev vI (x : Int) : AV := .inl x
abbrev vL (x : Int64) : AV := .inr (.inl x)
abbrev vR (a : Nat) : AV := .inr (.inr (some a))
abbrev vN : AV := .inr (.inr none)
def av_c (ad : Nat → Nat) (v : AV) : Value := match v with
  | .inl x => .int (Int32.ofInt x)
  | .inr (.inl y) => .long y
  | .inr (.inr (some a)) => .ref (ad a)
  | .inr (.inr none) => .null
theorem av_cI (ad : Nat → Nat) (x : Int) : av_c ad (vI x) = .int (Int32.ofInt x) := rfl
theorem av_cL (ad : Nat → Nat) (x : Int64) : av_c ad (vL x) = .long x := rfl
theorem av_cR (ad : Nat → Nat) (a : Nat) : av_c ad (vR a) = .ref (ad a) := rfl
def av_ok (v : AV) : Prop := match v with
  | .inl x => r32 x
  | _ => True
def av_oks (l : List AV) : Prop := ∀ v ∈ l, av_ok v
/-- what a world's cells hold: ints (fields and places of arrays) by cell and place, longs likewise -/
abbrev St : Type := (Nat → Nat → Int) × (Nat → Nat → Int64)
def s_ok (σ : St) : Prop := ∀ k j, r32 (σ.1 k j)
def sI (σ : St) (k j : Nat) (v : Int) : St := (fun a b => if a = k ∧ b = j then v else σ.1 a b, σ.2)
def sL (σ : St) (k j : Nat) (v : Int64) : St := (σ.1, fun a b => if a = k ∧ b = j then v else σ.2 a b)
theorem s_okI {σ : St} (h : s_ok σ) {k j : Nat} {v : Int} (hv : r32 v) : s_ok (sI σ k j v) := by
  intro a b
  show r32 (if a = k ∧ b = j then v else σ.1 a b)
  split
  · exact hv
  · exact h a b
theorem s_okL {σ : St} (h : s_ok σ) {k j : Nat} {v : Int64} : s_ok (sL σ k j v) := h
/-- a cell's plan: an object (its class by number; its fields: a cell's number, or none for an int), an array (0 int, 1 long, 2 boolean; length) -/
abbrev CD : Type := (Nat × List (Option Nat)) ⊕ (Nat × Nat)
/-- the launch, the classes' numbers and slots, the array classes -/
abbrev GX : Type := Launch × va_G × (Nat → ClassId)
def cd_f (ad : Nat → Nat) (σ : St) (k : Nat) (j : Nat) (f : Option Nat) : Value := match f with
  | some a => .ref (ad a)
  | none => .int (Int32.ofInt (σ.1 k j))
def cd_e (G : GX) (ad : Nat → Nat) (σ : St) (k : Nat) (c : CD) : va_E := match c with
  | .inl (ci, fs) => .inr (ci, fs.mapIdx (cd_f ad σ k))
  | .inr (t, n) => .inl (G.2.2 t, n, if t = 1 then .inr (.inl (σ.2 k)) else .inl (fun j => Int32.ofInt (σ.1 k j)))
def cs (G : GX) (wd : List CD) (ad : Nat → Nat) (σ : St) : va_W := wd.mapIdx (fun k c => (ad k, cd_e G ad σ k c))
theorem cs_at {G : GX} {wd : List CD} {ad : Nat → Nat} {σ : St} {k : Nat} {c : CD} (h : wd[k]? = some c) : (cs G wd ad σ)[k]? = some (ad k, cd_e G ad σ k c) := by
  simp [cs, List.getElem?_mapIdx, h]
theorem cs_set {G : GX} {wd : List CD} {ad : Nat → Nat} {σ σ' : St} {k : Nat} {c : CD} {x : va_E} (h : wd[k]? = some c) (hx : x = cd_e G ad σ' k c) (ho : ∀ a, a ≠ k → ∀ b, σ'.1 a b = σ.1 a b ∧ σ'.2 a b = σ.2 a b) :
    (cs G wd ad σ).set k (ad k, x) = cs G wd ad σ' := by
  subst hx
  apply List.ext_getElem?
  intro i
  have hk : k < wd.length := (List.getElem?_eq_some_iff.mp h).1
  by_cases hi : i = k
  · subst hi
    rw [cs_at h, List.getElem?_set_self (by simp [cs]; exact hk)]
  · rw [List.getElem?_set_ne (fun e => hi e.symm)]
    simp only [cs, List.getElem?_mapIdx]
    cases hw : wd[i]? with
    | none => rfl
    | some d =>
      simp only [Option.map_some]
      congr 2
      have h1 : ∀ b, σ'.1 i b = σ.1 i b := fun b => (ho i hi b).1
      have h2 : σ'.2 i = σ.2 i := funext fun b => (ho i hi b).2
      rcases d with ⟨ci, fs⟩ | ⟨t, n⟩
      · simp only [cd_e]
        congr 2
        apply List.ext_getElem?
        intro j
        simp only [List.getElem?_mapIdx]
        cases fs[j]? with
        | none => rfl
        | some f => cases f <;> simp [cd_f, h1]
      · simp only [cd_e, h1, h2]
/-- what the tables say, and the nest's words -/
abbrev cTy (G : GX) : List (ClassId × FieldType) := [(G.2.2 0, .int), (G.2.2 1, .long), (G.2.2 2, .boolean)]
def cK (G : GX) (U : State) : Prop := va_K G.2.1 vwCl (cTy G) U ∧ ∀ w ∈ nestW, va_Nw w U
theorem cK.moved {G : GX} {u U : State} (hW : u.WarmedH U.vm) (h : cK G u) : cK G U := by
  refine ⟨va_K.moved hW.alike h.1, fun w hw => ?_⟩
  have h1 := h.2 w hw
  have : ∃ a i x b, w = Cond.methodLinkNest a i x b := by
    simp only [nestW, List.mem_cons, List.not_mem_nil, or_false] at hw
    rcases hw with rfl | rfl | rfl | rfl | rfl | rfl | rfl | rfl <;> exact ⟨_, _, _, _, rfl⟩
  obtain ⟨a, i, x, b, rfl⟩ := this
  exact va_Nw.warmM hW h1
def ws_m (m : MI) : List Cond := mi_code m :: gw
def rm_d (d : Nat) : Room := { frames := d, cells := 0, slots := 0, locals := 41 * d }
/-- what holds when a method ends -/
def cQ (G : GX) (wd : List CD) (ad : Nat → Nat) (Q : Option AV → St → Prop) (A : Nat → Prop) : Array Value → State → Outcome → State → Prop := fun _ st oc t =>
  (∃ (r : Option AV) (σ' : St), oc = .returned (r.map (av_c ad)) ∧ Q r σ' ∧ (∀ v, r = some v → av_ok v) ∧ s_ok σ' ∧ va_P G.2.1 vwCl (cs G wd ad σ') t.heap ∧ va_D A (cs G wd ad σ')) ∧ va_F A st t
/-- THE CONTRACT: called with these arguments in this state, method m returns, and Q holds of its answer and the new state -/
def Con (G : GX) (wd : List CD) (d : Nat) (m : MI) (args : List AV) (σ : St) (Q : Option AV → St → Prop) : Prop :=
  ∀ (ad : Nat → Nat) (sz : Nat), av_oks args → s_ok σ →
    Met G.1 m.1 (ws_m m) (rm_d d) (va_Pc (args.map (av_c ad)) (fun U => U.heap.size = sz ∧ va_P G.2.1 vwCl (cs G wd ad σ) U.heap ∧ cK G U ∧ va_D (fun _ => True) (cs G wd ad σ)))
      (cQ G wd ad Q (va_A (cs G wd ad σ) sz)) 0 0 (va_A (cs G wd ad σ) sz)
def conI (G : GX) (wd : List CD) (d : Nat) (m : MI) (args : List AV) (σ : St) (Q : Int → St → Prop) : Prop := Con G wd d m args σ (fun r σ' => ∃ x, r = some (vI x) ∧ Q x σ')
def conV (G : GX) (wd : List CD) (d : Nat) (m : MI) (args : List AV) (σ : St) (Q : St → Prop) : Prop := Con G wd d m args σ (fun r σ' => r = none ∧ Q σ')
/-- the locals: by their places; of vN nothing is said -/
def ll (ad : Nat → Nat) : Nat → List AV → List (Nat × Value)
  | _, [] => []
  | i, v :: vs => if v = vN then ll ad (i + 1) vs else (i, av_c ad v) :: ll ad (i + 1) vs
theorem ll_mem {ad : Nat → Nat} : ∀ {ls : List AV} {i : Nat} {q : Nat × Value}, q ∈ ll ad i ls ↔ ∃ (j : Nat) (v : AV), ls[j]? = some v ∧ v ≠ vN ∧ q = (i + j, av_c ad v) := by
  intro ls
  induction ls with
  | nil => intro i q; simp [ll]
  | cons v vs ih =>
    intro i q
    unfold ll
    constructor
    · intro h
      split at h
      · obtain ⟨j, w, h1, h2, h3⟩ := ih.mp h
        exact ⟨j + 1, w, by simpa using h1, h2, by rw [h3]; congr 1; omega⟩
      · rename_i hv
        rcases List.mem_cons.mp h with h | h
        · exact ⟨0, v, rfl, hv, h⟩
        · obtain ⟨j, w, h1, h2, h3⟩ := ih.mp h
          exact ⟨j + 1, w, by simpa using h1, h2, by rw [h3]; congr 1; omega⟩
    · rintro ⟨j, w, h1, h2, h3⟩
      cases j with
      | zero =>
        simp only [List.getElem?_cons_zero, Option.some.injEq] at h1
        subst h1
        rw [if_neg h2, h3]
        exact List.mem_cons_self
      | succ j =>
        have h1' : vs[j]? = some w := by simpa using h1
        have hm : q ∈ ll ad (i + 1) vs := ih.mpr ⟨j, w, h1', h2, by rw [h3]; congr 1; omega⟩
        split
        · exact hm
        · exact List.mem_cons_of_mem _ hm
def lvA (ad : Nat → Nat) (L : Array Slot) (nL : Nat) (ls : List AV) : Prop := ls.length = nL ∧ lv_has L nL (ll ad 0 ls)
theorem lvA.at {ad : Nat → Nat} {L : Array Slot} {nL : Nat} {ls : List AV} (h : lvA ad L nL ls) {k : Nat} {v : AV} (hk : ls[k]? = some v) (hv : v ≠ vN) : L[k]? = some (.val (av_c ad v)) := by
  have h1 := h.2.2.2 (k, av_c ad v) (ll_mem.mpr ⟨k, v, hk, hv, by rw [Nat.zero_add]⟩)
  exact h1
/-- no long stands ahead of place k -/
def nol (ls : List AV) (k : Nat) : Bool := match k with
  | 0 => true
  | j + 1 => match ls[j]? with
    | some (.inr (.inl _)) => false
    | _ => true
theorem av_cat {ad : Nat → Nat} {v : AV} (h : (av_c ad v).category = 2) : ∃ x, v = vL x := by
  rcases v with x | x | x
  · simp [av_c, Value.category] at h
  · exact ⟨x, rfl⟩
  · cases x <;> simp [av_c, Value.category] at h
theorem lvA.put1 {ad : Nat → Nat} {L' : Array Slot} {nL : Nat} {ls : List AV} {k : Nat} {v : AV} (hl : ls.length = nL) (hn : nol ls k = true)
    (h : lv_has L' nL ((k, av_c ad v) :: (ll ad 0 ls).filter (fun q => !(q.1 == k) && !(q.1 + 1 == k && q.2.category == 2)))) : lvA ad L' nL (ls.set k v) := by
  refine ⟨by rw [List.length_set]; exact hl, h.1, h.2.1, fun q hq => ?_⟩
  obtain ⟨j, w, h1, h2, h3⟩ := ll_mem.mp hq
  rw [Nat.zero_add] at h3
  by_cases hj : j = k
  · subst hj
    rw [List.getElem?_set] at h1
    simp only [if_true] at h1
    split at h1
    · cases h1
      rw [h3]
      exact h.2.2 (j, av_c ad v) List.mem_cons_self
    · cases h1
  · rw [List.getElem?_set_ne (fun e => hj e.symm)] at h1
    refine h.2.2 q (List.mem_cons_of_mem _ (List.mem_filter.mpr ⟨ll_mem.mpr ⟨j, w, h1, h2, by rw [h3, Nat.zero_add]⟩, ?_⟩))
    rw [h3]
    simp only [Bool.and_eq_true, Bool.not_eq_true', beq_eq_false_iff_ne, ne_eq, Bool.and_eq_false_iff, beq_eq_false_iff_ne]
    refine ⟨hj, ?_⟩
    by_cases e : j + 1 = k
    · right
      intro hc
      obtain ⟨x, rfl⟩ := av_cat hc
      subst e
      simp [nol, h1] at hn
    · left; exact e
theorem lvA.put2 {ad : Nat → Nat} {L' : Array Slot} {nL : Nat} {ls : List AV} {k : Nat} {v : AV} (hl : ls.length = nL) (hn : nol ls k = true)
    (h : lv_has L' nL ((k, av_c ad v) :: (ll ad 0 ls).filter (fun q => !(q.1 == k) && (!(q.1 == k + 1) && !(q.1 + 1 == k && q.2.category == 2))))) : lvA ad L' nL ((ls.set k v).set (k + 1) vN) := by
  refine ⟨by rw [List.length_set, List.length_set]; exact hl, h.1, h.2.1, fun q hq => ?_⟩
  obtain ⟨j, w, h1, h2, h3⟩ := ll_mem.mp hq
  rw [Nat.zero_add] at h3
  by_cases hj1 : j = k + 1
  · subst hj1
    rw [List.getElem?_set] at h1
    simp only [if_true] at h1
    split at h1
    · cases h1; exact absurd rfl h2
    · cases h1
  rw [List.getElem?_set_ne (fun e => hj1 e.symm)] at h1
  by_cases hj : j = k
  · subst hj
    rw [List.getElem?_set] at h1
    simp only [if_true] at h1
    split at h1
    · cases h1
      rw [h3]
      exact h.2.2 (j, av_c ad v) List.mem_cons_self
    · cases h1
  · rw [List.getElem?_set_ne (fun e => hj e.symm)] at h1
    refine h.2.2 q (List.mem_cons_of_mem _ (List.mem_filter.mpr ⟨ll_mem.mpr ⟨j, w, h1, h2, by rw [h3, Nat.zero_add]⟩, ?_⟩))
    rw [h3]
    simp only [Bool.and_eq_true, Bool.not_eq_true', beq_eq_false_iff_ne, ne_eq, Bool.and_eq_false_iff, beq_eq_false_iff_ne]
    refine ⟨hj, hj1, ?_⟩
    by_cases e : j + 1 = k
    · right
      intro hc
      obtain ⟨x, rfl⟩ := av_cat hc
      subst e
      simp [nol, h1] at hn
    · left; exact e
/-- where the abstract machine stands: whatever concrete frame and heap this may be, it comes to Q -/
def aR (p : Program) (e : Env) (Rm : Room) (s : State) (m : MethodId) (args : Array Value) (below : List Frame) (meth : Method) (c : Code) (Q : State → Prop) (A : Nat → Prop) (G : GX) (wd : List CD) (ad : Nat → Nat) (nL : Nat) (pc : Nat) (ls st : List AV) (σ : St) : Prop :=
  av_oks ls → av_oks st → s_ok σ → ∀ (H : Heap) (locs : List Loc) (L : Array Slot), va_P G.2.1 vwCl (cs G wd ad σ) H → va_D A (cs G wd ad σ) → va_S A s.heap H locs → lvA ad L nL ls →
    W p G.1 e Rm s m args below meth c H locs 0 0 Q (F0 m pc L (st.map (av_c ad)))
/-- R is 'the abstract machine in method mi at level d, whose end is Ret' -/
def AM (G : GX) (wd : List CD) (d : Nat) (mi : MI) (Ret : Option AV → St → Prop) (R : Nat → List AV → List AV → St → Prop) : Prop :=
  ∃ (p : Program) (e : Env) (s : State) (m : MethodId) (args : Array Value) (below : List Frame) (meth : Method) (c : Code) (A : Nat → Prop) (ad : Nat → Nat),
    p.tables.exec = Jvm.exec ∧ c.code = mi.2.1 ∧ c.maxLocals = mi.2.2.1 ∧ meth.sig.returnType = mi.2.2.2 ∧ meth.locks = false ∧ s.vm.findClass mi.1.cls = some m.cls ∧
    (∀ w ∈ ws_m mi, w.before args s = true) ∧ cK G s ∧ (∀ q, s.heap.size ≤ q → A q) ∧
    R = aR p e (rm_d d) s m args below meth c (MQ below (cQ G wd ad Ret A) args s 0 0 A) A G wd ad mi.2.2.1
/-- the arguments as locals: a long takes two places -/
def a_ls : List AV → List AV
  | [] => []
  | .inr (.inl x) :: vs => vL x :: vN :: a_ls vs
  | v :: vs => v :: a_ls vs
