/-! ===== RULES: fields, arrays, calls ===== -/
theorem gw_good {w : Cond} (h : w ∈ gw) : (w.onTables && w.keeps) = true ∨ ∃ ty, w = .arrayClass ty := good_of_word (List.mem_filter.mp h).2
theorem gw_in {w : Cond} {mi : MI} (h : w ∈ gw) : w ∈ ws_m mi := List.mem_cons_of_mem _ h
theorem gw_GI {mi m' : MI} (h : mi_code m' ∈ gw) : GoodIn (ws_m mi) (ws_m m') := by
  intro w hw
  rcases List.mem_cons.mp hw with rfl | hw
  · exact ⟨gw_in h, gw_good h⟩
  · exact ⟨gw_in hw, gw_good hw⟩
/-- entry idx of class own is field k of class number ci -/
def FL (own : String) (idx ci k : Nat) : Prop := ∃ q : vw_C, vwCl[ci]? = some q ∧ k < q.2.2 ∧ Cond.fieldLink own idx (q.2.1 k).1 (q.2.1 k).2.1 (q.2.1 k).2.2.1 ∈ gw ∧ ∀ w ∈ u_ws q.1 q.2.1 q.2.2, w ∈ gw
/-- .. and may be written by any method; its type -/
def FP (own : String) (idx ci k : Nat) (ty : FieldType) : Prop := ∃ q : vw_C, vwCl[ci]? = some q ∧ k < q.2.2 ∧ Cond.fieldLink own idx (q.2.1 k).1 (q.2.1 k).2.1 (q.2.1 k).2.2.1 ∈ gw ∧ (∀ w ∈ u_ws q.1 q.2.1 q.2.2, w ∈ gw) ∧
  (∃ ty0 : Nat → FieldType, ∀ k, k < q.2.2 → parseFieldDescriptor (q.2.1 k).2.2.1 = some (ty0 k)) ∧ (∀ a, a < q.2.2 → ∀ b, b < q.2.2 → a ≠ b → (q.2.1 a).2.1 ≠ (q.2.1 b).2.1) ∧ (q.2.1 k).2.2.2 = false ∧ parseFieldDescriptor (q.2.1 k).2.2.1 = some ty
def MLv (own : String) (idx : Nat) (m : MI) (ci n : Nat) : Prop := ∃ q : vw_C, vwCl[ci]? = some q ∧ m.1.cls = q.1 ∧ Cond.methodLink own idx m.1 ∈ gw ∧ Cond.instanceMethod m.1 ∈ gw ∧ Cond.selects q.1 m.1 m.1 ∈ gw ∧ Cond.initialized q.1 ∈ gw ∧ mi_code m ∈ gw ∧
  (m.1.cls ≠ "java/lang/invoke/MethodHandle" ∧ m.1.cls ≠ "java/lang/invoke/VarHandle" ∧ (parseMethodDescriptor m.1.desc).map (fun d => d.parameters.length) = some n) ∧ m.2.2.1 ≤ 22
def MLs (own : String) (idx : Nat) (m : MI) (n : Nat) : Prop := Cond.methodLink own idx m.1 ∈ gw ∧ Cond.static m.1 ∈ gw ∧ Cond.initialized m.1.cls ∈ gw ∧ mi_code m ∈ gw ∧
  (m.1.cls ≠ "java/lang/invoke/MethodHandle" ∧ m.1.cls ≠ "java/lang/invoke/VarHandle" ∧ (parseMethodDescriptor m.1.desc).map (fun d => d.parameters.length) = some n) ∧ m.2.2.1 ≤ 22
def MLn (own : String) (idx : Nat) (m : MI) (n : Nat) : Prop := (∃ host : String, Cond.methodLinkNest own idx m.1 host ∈ nestW) ∧ Cond.static m.1 ∈ gw ∧ Cond.initialized m.1.cls ∈ gw ∧ mi_code m ∈ gw ∧
  (m.1.cls ≠ "java/lang/invoke/MethodHandle" ∧ m.1.cls ≠ "java/lang/invoke/VarHandle" ∧ (parseMethodDescriptor m.1.desc).map (fun d => d.parameters.length) = some n) ∧ m.2.2.1 ≤ 22
theorem cs_i {G : GX} {wd : List CD} {ad : Nat → Nat} {σ : St} {k n : Nat} (h : wd[k]? = some (.inr (0, n))) : (cs G wd ad σ)[k]? = some (ad k, .inl (G.2.2 0, n, .inl (fun j => Int32.ofInt (σ.1 k j)))) := by rw [cs_at h]; rfl
theorem cs_l {G : GX} {wd : List CD} {ad : Nat → Nat} {σ : St} {k n : Nat} (h : wd[k]? = some (.inr (1, n))) : (cs G wd ad σ)[k]? = some (ad k, .inl (G.2.2 1, n, .inr (.inl (σ.2 k)))) := by rw [cs_at h]; rfl
theorem cs_z {G : GX} {wd : List CD} {ad : Nat → Nat} {σ : St} {k n : Nat} (h : wd[k]? = some (.inr (2, n))) : (cs G wd ad σ)[k]? = some (ad k, .inl (G.2.2 2, n, .inl (fun j => Int32.ofInt (σ.1 k j)))) := by rw [cs_at h]; rfl
theorem cs_o {G : GX} {wd : List CD} {ad : Nat → Nat} {σ : St} {k ci : Nat} {fs : List (Option Nat)} (h : wd[k]? = some (.inl (ci, fs))) : (cs G wd ad σ)[k]? = some (ad k, .inr (ci, fs.mapIdx (cd_f ad σ k))) := by rw [cs_at h]; rfl
theorem sI_o {σ : St} {k j : Nat} {v : Int} : ∀ a, a ≠ k → ∀ b, (sI σ k j v).1 a b = σ.1 a b ∧ (sI σ k j v).2 a b = σ.2 a b := by
  intro a ha b
  exact ⟨if_neg (fun h => ha h.1), rfl⟩
theorem sL_o {σ : St} {k j : Nat} {v : Int64} : ∀ a, a ≠ k → ∀ b, (sL σ k j v).1 a b = σ.1 a b ∧ (sL σ k j v).2 a b = σ.2 a b := by
  intro a ha b
  exact ⟨rfl, if_neg (fun h => ha h.1)⟩
theorem cs_putf {G : GX} {wd : List CD} {ad : Nat → Nat} {σ : St} {o ci k : Nat} {fs : List (Option Nat)} {x : Int} (h : wd[o]? = some (.inl (ci, fs))) (hk : fs[k]? = some none) :
    (cs G wd ad σ).set o (ad o, .inr (ci, (fs.mapIdx (cd_f ad σ o)).set k (.int (Int32.ofInt x)))) = cs G wd ad (sI σ o k x) := by
  refine cs_set h ?_ sI_o
  simp only [cd_e]
  congr 2
  apply List.ext_getElem?
  intro j
  by_cases hj : j = k
  · subst hj
    have hl := (List.getElem?_eq_some_iff.mp hk).1
    rw [List.getElem?_set_self (by rw [List.length_mapIdx]; exact hl), List.getElem?_mapIdx, hk]
    simp [cd_f, sI]
  · rw [List.getElem?_set_ne (fun e => hj e.symm), List.getElem?_mapIdx, List.getElem?_mapIdx]
    cases fs[j]? with
    | none => rfl
    | some f => cases f <;> simp [cd_f, sI, hj]
theorem cs_puti {G : GX} {wd : List CD} {ad : Nat → Nat} {σ : St} {a n i : Nat} {x : Int} (h : wd[a]? = some (.inr (0, n))) :
    (cs G wd ad σ).set a (ad a, .inl (G.2.2 0, n, .inl (upd (fun j => Int32.ofInt (σ.1 a j)) i (Int32.ofInt x)))) = cs G wd ad (sI σ a i x) := by
  refine cs_set h ?_ sI_o
  show _ = Sum.inl (G.2.2 0, n, Sum.inl (fun j => Int32.ofInt ((sI σ a i x).1 a j)))
  congr 4
  funext j
  by_cases hj : j = i <;> simp [upd, sI, hj]
theorem cs_putz {G : GX} {wd : List CD} {ad : Nat → Nat} {σ : St} {a n i : Nat} {x : Int} (h : wd[a]? = some (.inr (2, n))) :
    (cs G wd ad σ).set a (ad a, .inl (G.2.2 2, n, .inl (upd (fun j => Int32.ofInt (σ.1 a j)) i (Int32.ofInt x)))) = cs G wd ad (sI σ a i x) := by
  refine cs_set h ?_ sI_o
  show _ = Sum.inl (G.2.2 2, n, Sum.inl (fun j => Int32.ofInt ((sI σ a i x).1 a j)))
  congr 4
  funext j
  by_cases hj : j = i <;> simp [upd, sI, hj]
theorem cs_putl {G : GX} {wd : List CD} {ad : Nat → Nat} {σ : St} {a n i : Nat} {x : Int64} (h : wd[a]? = some (.inr (1, n))) :
    (cs G wd ad σ).set a (ad a, .inl (G.2.2 1, n, .inr (.inl (vp_updL (σ.2 a) i x)))) = cs G wd ad (sL σ a i x) := by
  refine cs_set h ?_ sL_o
  show _ = Sum.inl (G.2.2 1, n, Sum.inr (Sum.inl ((sL σ a i x).2 a)))
  congr 5
  funext j
  by_cases hj : j = i <;> simp [vp_updL, sL, hj]
theorem nar_zx {x : Int} (h : x = 0 ∨ x = 1) : vp_nar .boolean (Int32.ofInt x) = Int32.ofInt x := by rcases h with rfl | rfl <;> decide
theorem fit_z {x : Int} (h : x = 0 ∨ x = 1) : fits .boolean (.int (Int32.ofInt x)) = true := by rcases h with rfl | rfl <;> decide
theorem cK.same {G : GX} {u U : State} (h : u.vm = U.vm) (hk : cK G u) : cK G U := by
  refine ⟨va_K.moved (by rw [h]; exact Vm.Alike.refl _) hk.1, fun w hw => ?_⟩
  have h1 := hk.2 w hw
  have : ∃ a i x b, w = Cond.methodLinkNest a i x b := by
    simp only [nestW, List.mem_cons, List.not_mem_nil, or_false] at hw
    rcases hw with rfl | rfl | rfl | rfl | rfl | rfl | rfl | rfl <;> exact ⟨_, _, _, _, rfl⟩
  obtain ⟨a, i, x, b, rfl⟩ := this
  exact va_Nw.same rfl h h1
section Heap
variable {G : GX} {wd : List CD} {d : Nat} {mi : MI} {Ret : Option AV → St → Prop} {R : Nat → List AV → List AV → St → Prop} {pc pc' : Nat} {ls st : List AV} {σ : St}
theorem r_getI (hM : AM G wd d mi Ret R) {idx o ci k : Nat} {fs : List (Option Nat)} (hd : decode mi.2.1 pc = .ok (.getfield idx, 3)) (hp : pc' = pc + 3) (hf : FL mi.1.cls idx ci k) (ho : wd[o]? = some (.inl (ci, fs))) (hk : fs[k]? = some none) (kk : R pc' ls (vI (σ.1 o k) :: st) σ) : R pc ls (vR o :: st) σ := by
  obtain ⟨p, e, s, m, args, below, meth, c, A, ad, hx, hb, hml, hr, hlk, hown, hts, hK, hA, rfl⟩ := hM
  subst hp
  intro h1 h2 h3 H locs L hP hD hS hl
  obtain ⟨⟨C, T, N⟩, hc, hkN, hlink, hin⟩ := hf
  exact va_get (D := G.2.1) (cl := vwCl) hx hb hts (fun w h => gw_in (hin w h)) hown hK.1 hP o (cs_o ho) hc k hkN (hts _ (gw_in hlink)) (fun _ h => h) (v := .int (Int32.ofInt (σ.1 o k))) (by rw [List.getElem?_mapIdx, hk]; rfl) hd (kk h1 (ok_cons (h3 o k) (ok_tl h2)) h3 H locs L hP hD hS hl)
theorem r_getR (hM : AM G wd d mi Ret R) {idx o ci k a : Nat} {fs : List (Option Nat)} (hd : decode mi.2.1 pc = .ok (.getfield idx, 3)) (hp : pc' = pc + 3) (hf : FL mi.1.cls idx ci k) (ho : wd[o]? = some (.inl (ci, fs))) (hk : fs[k]? = some (some a)) (kk : R pc' ls (vR a :: st) σ) : R pc ls (vR o :: st) σ := by
  obtain ⟨p, e, s, m, args, below, meth, c, A, ad, hx, hb, hml, hr, hlk, hown, hts, hK, hA, rfl⟩ := hM
  subst hp
  intro h1 h2 h3 H locs L hP hD hS hl
  obtain ⟨⟨C, T, N⟩, hc, hkN, hlink, hin⟩ := hf
  exact va_get (D := G.2.1) (cl := vwCl) hx hb hts (fun w h => gw_in (hin w h)) hown hK.1 hP o (cs_o ho) hc k hkN (hts _ (gw_in hlink)) (fun _ h => h) (v := .ref (ad a)) (by rw [List.getElem?_mapIdx, hk]; rfl) hd (kk h1 (ok_cons (v := vR a) trivial (ok_tl h2)) h3 H locs L hP hD hS hl)
theorem r_putI (hM : AM G wd d mi Ret R) {idx o ci k : Nat} {fs : List (Option Nat)} {x : Int} (hd : decode mi.2.1 pc = .ok (.putfield idx, 3)) (hp : pc' = pc + 3) (hf : FP mi.1.cls idx ci k .int) (ho : wd[o]? = some (.inl (ci, fs))) (hk : fs[k]? = some none) (kk : ∀ σ', σ' = sI σ o k x → R pc' ls st σ') : R pc ls (vI x :: vR o :: st) σ := by
  obtain ⟨p, e, s, m, args, below, meth, c, A, ad, hx, hb, hml, hr, hlk, hown, hts, hK, hA, rfl⟩ := hM
  subst hp
  intro h1 h2 h3 H locs L hP hD hS hl
  obtain ⟨⟨C, T, N⟩, hc, hkN, hlink, hin, ⟨ty0, hty⟩, hnm, hfin, hpt⟩ := hf
  refine va_put (D := G.2.1) (cl := vwCl) (v := .int (Int32.ofInt x)) hx hb hts (fun w h => gw_in (hin w h)) ty0 hty hnm hown hK.1 hP hD hS o (cs_o ho) hc k hkN (hts _ (gw_in hlink)) (fun _ h => h) hfin hpt rfl rfl (by rw [List.length_mapIdx]; exact (List.getElem?_eq_some_iff.mp hk).1) hd (fun H1 locs1 hP1 hD1 hS1 => ?_)
  rw [cs_putf ho hk] at hP1 hD1
  exact kk _ rfl h1 (ok_tl (ok_tl h2)) (s_okI h3 (ok_hd h2)) H1 locs1 L hP1 hD1 hS1 hl
theorem r_putZ (hM : AM G wd d mi Ret R) {idx o ci k : Nat} {fs : List (Option Nat)} {x : Int} (hd : decode mi.2.1 pc = .ok (.putfield idx, 3)) (hp : pc' = pc + 3) (hf : FP mi.1.cls idx ci k .boolean) (ho : wd[o]? = some (.inl (ci, fs))) (hk : fs[k]? = some none) (hz : x = 0 ∨ x = 1) (kk : ∀ σ', σ' = sI σ o k x → R pc' ls st σ') : R pc ls (vI x :: vR o :: st) σ := by
  obtain ⟨p, e, s, m, args, below, meth, c, A, ad, hx, hb, hml, hr, hlk, hown, hts, hK, hA, rfl⟩ := hM
  subst hp
  intro h1 h2 h3 H locs L hP hD hS hl
  obtain ⟨⟨C, T, N⟩, hc, hkN, hlink, hin, ⟨ty0, hty⟩, hnm, hfin, hpt⟩ := hf
  refine va_put (D := G.2.1) (cl := vwCl) (v := .int (Int32.ofInt x)) hx hb hts (fun w h => gw_in (hin w h)) ty0 hty hnm hown hK.1 hP hD hS o (cs_o ho) hc k hkN (hts _ (gw_in hlink)) (fun _ h => h) hfin hpt (nar_z hz) (fit_z hz) (by rw [List.length_mapIdx]; exact (List.getElem?_eq_some_iff.mp hk).1) hd (fun H1 locs1 hP1 hD1 hS1 => ?_)
  rw [cs_putf ho hk] at hP1 hD1
  exact kk _ rfl h1 (ok_tl (ok_tl h2)) (s_okI h3 (ok_hd h2)) H1 locs1 L hP1 hD1 hS1 hl
theorem r_iaload (hM : AM G wd d mi Ret R) {a n : Nat} {i : Int} (hd : decode mi.2.1 pc = .ok (.iaload, 1)) (hp : pc' = pc + 1) (ha : wd[a]? = some (.inr (0, n))) (hi : 0 ≤ i ∧ i < n) (kk : R pc' ls (vI (σ.1 a i.toNat) :: st) σ) : R pc ls (vI i :: vR a :: st) σ := by
  obtain ⟨p, e, s, m, args, below, meth, c, A, ad, hx, hb, hml, hr, hlk, hown, hts, hK, hA, rfl⟩ := hM
  subst hp
  intro h1 h2 h3 H locs L hP hD hS hl
  have k' := kk h1 (ok_cons (h3 a i.toNat) (ok_tl (ok_tl h2))) h3 H locs L hP hD hS hl
  rw [List.map_cons, av_cI, ← i32_cl (ok_hd h2)] at k'
  exact va_iald (D := G.2.1) (cl := vwCl) hx hb hK.1 hP a 0 (cs_i ha) rfl (i32_in (ok_hd h2) hi.1 hi.2) hd k'
theorem r_zaload (hM : AM G wd d mi Ret R) {a n : Nat} {i : Int} (hd : decode mi.2.1 pc = .ok (.baload, 1)) (hp : pc' = pc + 1) (ha : wd[a]? = some (.inr (2, n))) (hi : 0 ≤ i ∧ i < n) (kk : R pc' ls (vI (σ.1 a i.toNat) :: st) σ) : R pc ls (vI i :: vR a :: st) σ := by
  obtain ⟨p, e, s, m, args, below, meth, c, A, ad, hx, hb, hml, hr, hlk, hown, hts, hK, hA, rfl⟩ := hM
  subst hp
  intro h1 h2 h3 H locs L hP hD hS hl
  have k' := kk h1 (ok_cons (h3 a i.toNat) (ok_tl (ok_tl h2))) h3 H locs L hP hD hS hl
  rw [List.map_cons, av_cI, ← i32_cl (ok_hd h2)] at k'
  exact va_zald (D := G.2.1) (cl := vwCl) hx hb hK.1 hP a 2 (cs_z ha) rfl (i32_in (ok_hd h2) hi.1 hi.2) hd k'
theorem r_laload (hM : AM G wd d mi Ret R) {a n : Nat} {i : Int} (hd : decode mi.2.1 pc = .ok (.laload, 1)) (hp : pc' = pc + 1) (ha : wd[a]? = some (.inr (1, n))) (hi : 0 ≤ i ∧ i < n) (kk : R pc' ls (vL (σ.2 a i.toNat) :: st) σ) : R pc ls (vI i :: vR a :: st) σ := by
  obtain ⟨p, e, s, m, args, below, meth, c, A, ad, hx, hb, hml, hr, hlk, hown, hts, hK, hA, rfl⟩ := hM
  subst hp
  intro h1 h2 h3 H locs L hP hD hS hl
  have k' := kk h1 (ok_cons (v := vL _) trivial (ok_tl (ok_tl h2))) h3 H locs L hP hD hS hl
  rw [List.map_cons, av_cL, ← i32_cl (ok_hd h2)] at k'
  exact va_lald (D := G.2.1) (cl := vwCl) hx hb hK.1 hP a 1 (cs_l ha) rfl (i32_in (ok_hd h2) hi.1 hi.2) hd k'
theorem r_iastore (hM : AM G wd d mi Ret R) {a n : Nat} {i x : Int} (hd : decode mi.2.1 pc = .ok (.iastore, 1)) (hp : pc' = pc + 1) (ha : wd[a]? = some (.inr (0, n))) (hi : 0 ≤ i ∧ i < n) (kk : ∀ σ', σ' = sI σ a i.toNat x → R pc' ls st σ') : R pc ls (vI x :: vI i :: vR a :: st) σ := by
  obtain ⟨p, e, s, m, args, below, meth, c, A, ad, hx, hb, hml, hr, hlk, hown, hts, hK, hA, rfl⟩ := hM
  subst hp
  intro h1 h2 h3 H locs L hP hD hS hl
  refine va_iast (D := G.2.1) (cl := vwCl) hx hb hK.1 hP hD hS a 0 (cs_i ha) rfl (i32_in (ok_hd (ok_tl h2)) hi.1 hi.2) hd (fun H1 locs1 hP1 hD1 hS1 => ?_)
  rw [cs_puti ha, i32_cl (ok_hd (ok_tl h2))] at hP1 hD1
  exact kk _ rfl h1 (ok_tl (ok_tl (ok_tl h2))) (s_okI h3 (ok_hd h2)) H1 locs1 L hP1 hD1 hS1 hl
theorem r_zastore (hM : AM G wd d mi Ret R) {a n : Nat} {i x : Int} (hd : decode mi.2.1 pc = .ok (.bastore, 1)) (hp : pc' = pc + 1) (ha : wd[a]? = some (.inr (2, n))) (hi : 0 ≤ i ∧ i < n) (hz : x = 0 ∨ x = 1) (kk : ∀ σ', σ' = sI σ a i.toNat x → R pc' ls st σ') : R pc ls (vI x :: vI i :: vR a :: st) σ := by
  obtain ⟨p, e, s, m, args, below, meth, c, A, ad, hx, hb, hml, hr, hlk, hown, hts, hK, hA, rfl⟩ := hM
  subst hp
  intro h1 h2 h3 H locs L hP hD hS hl
  refine va_zast (D := G.2.1) (cl := vwCl) hx hb hK.1 hP hD hS a 2 (cs_z ha) rfl (i32_in (ok_hd (ok_tl h2)) hi.1 hi.2) hd (fun H1 locs1 hP1 hD1 hS1 => ?_)
  rw [nar_zx hz, cs_putz ha, i32_cl (ok_hd (ok_tl h2))] at hP1 hD1
  exact kk _ rfl h1 (ok_tl (ok_tl (ok_tl h2))) (s_okI h3 (ok_hd h2)) H1 locs1 L hP1 hD1 hS1 hl
theorem r_lastore (hM : AM G wd d mi Ret R) {a n : Nat} {i : Int} {x : Int64} (hd : decode mi.2.1 pc = .ok (.lastore, 1)) (hp : pc' = pc + 1) (ha : wd[a]? = some (.inr (1, n))) (hi : 0 ≤ i ∧ i < n) (kk : ∀ σ', σ' = sL σ a i.toNat x → R pc' ls st σ') : R pc ls (vL x :: vI i :: vR a :: st) σ := by
  obtain ⟨p, e, s, m, args, below, meth, c, A, ad, hx, hb, hml, hr, hlk, hown, hts, hK, hA, rfl⟩ := hM
  subst hp
  intro h1 h2 h3 H locs L hP hD hS hl
  refine va_last (D := G.2.1) (cl := vwCl) hx hb hK.1 hP hD hS a 1 (cs_l ha) rfl (i32_in (ok_hd (ok_tl h2)) hi.1 hi.2) hd (fun H1 locs1 hP1 hD1 hS1 => ?_)
  rw [cs_putl ha, i32_cl (ok_hd (ok_tl h2))] at hP1 hD1
  exact kk _ rfl h1 (ok_tl (ok_tl (ok_tl h2))) h3 H1 locs1 L hP1 hD1 hS1 hl
theorem r_alenI (hM : AM G wd d mi Ret R) {a n : Nat} (hd : decode mi.2.1 pc = .ok (.arraylength, 1)) (hp : pc' = pc + 1) (ha : wd[a]? = some (.inr (0, n))) (hn : n < 2147483648) (kk : R pc' ls (vI n :: st) σ) : R pc ls (vR a :: st) σ := by
  obtain ⟨p, e, s, m, args, below, meth, c, A, ad, hx, hb, hml, hr, hlk, hown, hts, hK, hA, rfl⟩ := hM
  subst hp
  intro h1 h2 h3 H locs L hP hD hS hl
  exact va_alen (D := G.2.1) (cl := vwCl) hx hb hK.1 hP a 0 (cs_i ha) rfl rfl hd (kk h1 (ok_cons (v := vI n) ⟨by omega, by omega⟩ (ok_tl h2)) h3 H locs L hP hD hS hl)
theorem r_alenL (hM : AM G wd d mi Ret R) {a n : Nat} (hd : decode mi.2.1 pc = .ok (.arraylength, 1)) (hp : pc' = pc + 1) (ha : wd[a]? = some (.inr (1, n))) (hn : n < 2147483648) (kk : R pc' ls (vI n :: st) σ) : R pc ls (vR a :: st) σ := by
  obtain ⟨p, e, s, m, args, below, meth, c, A, ad, hx, hb, hml, hr, hlk, hown, hts, hK, hA, rfl⟩ := hM
  subst hp
  intro h1 h2 h3 H locs L hP hD hS hl
  exact va_alen (D := G.2.1) (cl := vwCl) hx hb hK.1 hP a 1 (cs_l ha) rfl rfl hd (kk h1 (ok_cons (v := vI n) ⟨by omega, by omega⟩ (ok_tl h2)) h3 H locs L hP hD hS hl)
/-- behind a call -/
theorem aCall {p : Program} {e : Env} {Rm : Room} {s : State} {m : MethodId} {args : Array Value} {below : List Frame} {meth : Method} {c : Code} {Q : State → Prop} {A A1 : Nat → Prop} {ad : Nat → Nat} {nL : Nat} {a : Array Value} {L : Array Slot} {H : Heap} {locs : List Loc} {st0 : List Value} {Qr : Option AV → St → Prop}
    (hr : va_Run p G.1 e Rm s m args below meth c H locs 0 0 0 0 (F0 m pc L st0) (st.map (av_c ad)) (cQ G wd ad Qr A1 a) A1) (hS : va_S A s.heap H locs) (hA : ∀ q, A1 q → A q)
    (h1 : av_oks ls) (h2 : av_oks st) (hl : lvA ad L nL ls)
    (k : ∀ r σ', Qr r σ' → aR p e Rm s m args below meth c Q A G wd ad nL (pc + 3) ls (r.toList ++ st) σ') : W p G.1 e Rm s m args below meth c H locs 0 0 Q (F0 m pc L st0) := by
  intro T hT X
  obtain ⟨v, st₀, t, T', L', h0, X', hL, e1, e2, ⟨⟨r, σ', hv, hQ, hok, hs', hP', hD'⟩, hz, hkk⟩, sg⟩ := hr T hT X
  cases hv
  rw [h0] at hz hkk
  have hS' : va_S A s.heap T'.heap (locs ++ L') := ⟨Nat.le_trans hS.1 (by rw [e1]; exact hz), fun q q1 q2 => by rw [e1, hkk q (Nat.lt_of_lt_of_le q1 hS.1) (fun z => q2 (hA q z))]; exact hS.2.1 q q1 q2, fun q hq => by
    rcases List.mem_append.mp hq with h | h
    · exact hS.2.2 q h
    · exact hA _ (hL q h)⟩
  have hok2 : av_oks (r.toList ++ st) := by
    cases r with
    | none => exact h2
    | some w => exact ok_cons (hok w rfl) h2
  obtain ⟨t2, a1, b1⟩ := k r σ' hQ h1 hok2 hs' T'.heap (locs ++ L') L (by rw [e1]; exact hP') (hD'.weaken (fun _ _ _ h => hA _ h)) hS' hl T' rfl X'
  refine ⟨t2, sg t2 ?_, b1⟩
  cases r with
  | none => exact a1
  | some w => exact a1
theorem cs_free {A : Nat → Prop} {ad : Nat → Nat} {H0 H : Heap} {locs : List Loc} (hD : va_D A (cs G wd ad σ)) (hS : va_S A H0 H locs) (hA : ∀ q, H0.size ≤ q → A q) : ∀ q, va_A (cs G wd ad σ) H.size q → A q := by
  intro q h
  rcases h with ⟨k, x, h⟩ | h
  · exact hD.2 k (q, x) h
  · exact hA q (Nat.le_trans hS.1 h)
theorem cP_blind {ad : Nat → Nat} {sz : Nat} {av : List Value} : FrameBlind (va_Pc av (fun U => U.heap.size = sz ∧ va_P G.2.1 vwCl (cs G wd ad σ) U.heap ∧ cK G U ∧ va_D (fun _ => True) (cs G wd ad σ))) := by
  intro a U g mk q
  obtain ⟨q0, q1, qP, qK, qD⟩ := q
  exact ⟨q0, q1, qP, cK.same (u := U) (U := U.calling g mk a) rfl qK, qD⟩
theorem rm_ok {d maxL : Nat} (h : maxL ≤ 22) : (rm_d d).frames + 1 ≤ (rm_d (d + 1)).frames ∧ 8 + (maxL + 11) + (rm_d d).locals ≤ (rm_d (d + 1)).locals := by
  refine ⟨Nat.le_refl _, ?_⟩
  show 8 + (maxL + 11) + 41 * d ≤ 41 * (d + 1)
  omega
theorem st_room {ad : Nat → Nat} : ∀ {l : List AV}, ((l.map (av_c ad)).map fun v => v.category).sum ≤ 2 * l.length := by
  intro l
  induction l with
  | nil => simp
  | cons v l ih =>
    have h : (av_c ad v).category ≤ 2 := by
      rcases lv_cat (av_c ad v) with h | h <;> omega
    simp only [List.map_cons, List.sum_cons, List.length_cons] at ih ⊢
    omega
theorem ok_app {a b : List AV} : av_oks (a ++ b) ↔ av_oks a ∧ av_oks b := List.forall_mem_append
theorem ok_rev {a : List AV} (h : av_oks a.reverse) : av_oks a := fun v hv => h v (List.mem_reverse.mpr hv)
theorem r_callV (hM : AM G wd (d + 1) mi Ret R) {idx ci n o : Nat} {m' : MI} {fs : List (Option Nat)} {stk : List AV} {Qr : Option AV → St → Prop} (As : List AV) (hd : decode mi.2.1 pc = .ok (.invokevirtual idx, 3)) (hp : pc' = pc + 3) (hf : MLv mi.1.cls idx m' ci n) (ho : wd[o]? = some (.inl (ci, fs))) (hn : As.length = n) (hst : stk = As.reverse ++ vR o :: st) (hrm : st.length ≤ 4)
    (hc : Con G wd d m' (vR o :: As) σ Qr) (k : ∀ r σ', Qr r σ' → R pc' ls (r.toList ++ st) σ') : R pc ls stk σ := by
  obtain ⟨p, e, s, m, args, below, meth, c, A, ad, hx, hb, hml, hr, hlk, hown, hts, hK, hA, rfl⟩ := hM
  subst hp
  subst hst
  intro h1 h2 h3 H locs L hP hD hS hl
  obtain ⟨q, hq, hcls, w1, w2, w3, w4, w5, hdd, hmx⟩ := hf
  have h2' := ok_app.mp h2
  have hMet := hc ad H.size (ok_cons (v := vR o) trivial (ok_rev h2'.1)) h3
  have hGI : GoodIn (ws_m mi) (wsV mi.1.cls idx q.1 m'.1 (ws_m m')) := by
    intro w hw
    simp only [wsV, List.cons_append, List.nil_append, List.mem_cons] at hw
    rcases hw with rfl | rfl | rfl | rfl | hw
    · exact ⟨gw_in w1, gw_good w1⟩
    · exact ⟨gw_in w2, gw_good w2⟩
    · exact ⟨gw_in w3, gw_good w3⟩
    · exact ⟨gw_in w4, gw_good w4⟩
    · exact gw_GI w5 w hw
  have hrun := va_runV (H := H) (locs := locs) (cells := 0) (slots := 0) (R := rm_d (d + 1)) (e := e) (below := below) (meth := meth) (g := F0 m pc L ((As.reverse ++ vR o :: st).map (av_c ad))) (As := As.map (av_c ad)) (rest := st.map (av_c ad)) (C := q.1) (b := ad o) ⟨hx, hb, hml, hown, hts⟩ hMet (cwV n hts hGI rfl rfl rfl ⟨hcls, hdd⟩ (rm_ok hmx))
    ⟨cP_blind, va_recv hK.1 hP hq (cs_o ho), fun U hU hW => ⟨rfl, by rw [hU], by rw [hU]; exact hP, hK.moved hW, hD.weaken (fun _ _ _ _ => trivial)⟩⟩ rfl (by rw [List.length_map]; exact hn) hl.2.1 (by simp [List.map_append, List.map_reverse, av_c]) (lv_room (Nat.le_trans st_room (by omega))) hd ⟨Nat.zero_le _, Nat.zero_le _⟩
  exact aCall hrun hS (cs_free hD hS hA) h1 (ok_tl h2'.2) hl k
theorem r_callVI (hM : AM G wd (d + 1) mi Ret R) {idx ci n o : Nat} {m' : MI} {fs : List (Option Nat)} {stk : List AV} (As : List AV) (hd : decode mi.2.1 pc = .ok (.invokevirtual idx, 3)) (hp : pc' = pc + 3) (hf : MLv mi.1.cls idx m' ci n) (ho : wd[o]? = some (.inl (ci, fs))) (hn : As.length = n) (hst : stk = As.reverse ++ vR o :: st) (hrm : st.length ≤ 4)
    (hc : conI G wd d m' (vR o :: As) σ (fun x σ' => R pc' ls (vI x :: st) σ')) : R pc ls stk σ :=
  r_callV hM As hd hp hf ho hn hst hrm hc (fun r σ' h => by obtain ⟨x, rfl, h⟩ := h; exact h)
theorem r_callVV (hM : AM G wd (d + 1) mi Ret R) {idx ci n o : Nat} {m' : MI} {fs : List (Option Nat)} {stk : List AV} (As : List AV) (hd : decode mi.2.1 pc = .ok (.invokevirtual idx, 3)) (hp : pc' = pc + 3) (hf : MLv mi.1.cls idx m' ci n) (ho : wd[o]? = some (.inl (ci, fs))) (hn : As.length = n) (hst : stk = As.reverse ++ vR o :: st) (hrm : st.length ≤ 4)
    (hc : conV G wd d m' (vR o :: As) σ (fun σ' => R pc' ls st σ')) : R pc ls stk σ :=
  r_callV hM As hd hp hf ho hn hst hrm hc (fun r σ' h => by obtain ⟨rfl, h⟩ := h; exact h)
theorem r_callS (hM : AM G wd (d + 1) mi Ret R) {idx n : Nat} {m' : MI} {stk : List AV} {Qr : Option AV → St → Prop} (As : List AV) (hd : decode mi.2.1 pc = .ok (.invokestatic idx, 3)) (hp : pc' = pc + 3) (hf : MLs mi.1.cls idx m' n) (hn : As.length = n) (hst : stk = As.reverse ++ st) (hrm : st.length ≤ 4)
    (hc : Con G wd d m' As σ Qr) (k : ∀ r σ', Qr r σ' → R pc' ls (r.toList ++ st) σ') : R pc ls stk σ := by
  obtain ⟨p, e, s, m, args, below, meth, c, A, ad, hx, hb, hml, hr, hlk, hown, hts, hK, hA, rfl⟩ := hM
  subst hp
  subst hst
  intro h1 h2 h3 H locs L hP hD hS hl
  obtain ⟨w1, w2, w3, w5, hdd, hmx⟩ := hf
  have h2' := ok_app.mp h2
  have hMet := hc ad H.size (ok_rev h2'.1) h3
  have hGI : GoodIn (ws_m mi) (va_wsS mi.1.cls idx m'.1 (ws_m m')) := by
    intro w hw
    simp only [va_wsS, List.cons_append, List.nil_append, List.mem_cons] at hw
    rcases hw with rfl | rfl | rfl | hw
    · exact ⟨gw_in w1, gw_good w1⟩
    · exact ⟨gw_in w2, gw_good w2⟩
    · exact ⟨gw_in w3, gw_good w3⟩
    · exact gw_GI w5 w hw
  have hrun := va_runS (H := H) (locs := locs) (cells := 0) (slots := 0) (R := rm_d (d + 1)) (e := e) (below := below) (meth := meth) (g := F0 m pc L ((As.reverse ++ st).map (av_c ad))) (As := As.map (av_c ad)) (rest := st.map (av_c ad)) ⟨hx, hb, hml, hown, hts⟩ hMet (va_cwS n hts hGI rfl rfl rfl hdd (rm_ok hmx))
    ⟨cP_blind, fun U hU hW => ⟨rfl, by rw [hU], by rw [hU]; exact hP, hK.moved hW, hD.weaken (fun _ _ _ _ => trivial)⟩⟩ rfl (by rw [List.length_map]; exact hn) hl.2.1 (by simp [List.map_append, List.map_reverse]) (lv_room (Nat.le_trans st_room (by omega))) hd ⟨Nat.zero_le _, Nat.zero_le _⟩
  exact aCall hrun hS (cs_free hD hS hA) h1 h2'.2 hl k
theorem r_callN (hM : AM G wd (d + 1) mi Ret R) {idx n : Nat} {m' : MI} {stk : List AV} {Qr : Option AV → St → Prop} (As : List AV) (hd : decode mi.2.1 pc = .ok (.invokestatic idx, 3)) (hp : pc' = pc + 3) (hf : MLn mi.1.cls idx m' n) (hn : As.length = n) (hst : stk = As.reverse ++ st) (hrm : st.length ≤ 4)
    (hc : Con G wd d m' As σ Qr) (k : ∀ r σ', Qr r σ' → R pc' ls (r.toList ++ st) σ') : R pc ls stk σ := by
  obtain ⟨p, e, s, m, args, below, meth, c, A, ad, hx, hb, hml, hr, hlk, hown, hts, hK, hA, rfl⟩ := hM
  subst hp
  subst hst
  intro h1 h2 h3 H locs L hP hD hS hl
  obtain ⟨⟨host, w1⟩, w2, w3, w5, hdd, hmx⟩ := hf
  have h2' := ok_app.mp h2
  have hMet := hc ad H.size (ok_rev h2'.1) h3
  have hrun := va_runSN (H := H) (locs := locs) (cells := 0) (slots := 0) (R := rm_d (d + 1)) (e := e) (below := below) (meth := meth) (g := F0 m pc L ((As.reverse ++ st).map (av_c ad))) (As := As.map (av_c ad)) (rest := st.map (av_c ad)) ⟨hx, hb, hml, hown, hts⟩ hMet ⟨va_cnB (host := host) n hts (gw_GI w5) rfl rfl rfl (hK.2 _ w1) (hts _ (gw_in w3)) hdd (rm_ok hmx), hts _ (gw_in w2), trivial⟩
    ⟨cP_blind, fun U hU hW => ⟨rfl, by rw [hU], by rw [hU]; exact hP, hK.moved hW, hD.weaken (fun _ _ _ _ => trivial)⟩⟩ rfl (by rw [List.length_map]; exact hn) hl.2.1 (by simp [List.map_append, List.map_reverse]) (lv_room (Nat.le_trans st_room (by omega))) hd ⟨Nat.zero_le _, Nat.zero_le _⟩
  exact aCall hrun hS (cs_free hD hS hA) h1 h2'.2 hl k
theorem r_callSI (hM : AM G wd (d + 1) mi Ret R) {idx n : Nat} {m' : MI} {stk : List AV} (As : List AV) (hd : decode mi.2.1 pc = .ok (.invokestatic idx, 3)) (hp : pc' = pc + 3) (hf : MLs mi.1.cls idx m' n) (hn : As.length = n) (hst : stk = As.reverse ++ st) (hrm : st.length ≤ 4)
    (hc : conI G wd d m' As σ (fun x σ' => R pc' ls (vI x :: st) σ')) : R pc ls stk σ :=
  r_callS hM As hd hp hf hn hst hrm hc (fun r σ' h => by obtain ⟨x, rfl, h⟩ := h; exact h)
theorem r_callSV (hM : AM G wd (d + 1) mi Ret R) {idx n : Nat} {m' : MI} {stk : List AV} (As : List AV) (hd : decode mi.2.1 pc = .ok (.invokestatic idx, 3)) (hp : pc' = pc + 3) (hf : MLs mi.1.cls idx m' n) (hn : As.length = n) (hst : stk = As.reverse ++ st) (hrm : st.length ≤ 4)
    (hc : conV G wd d m' As σ (fun σ' => R pc' ls st σ')) : R pc ls stk σ :=
  r_callS hM As hd hp hf hn hst hrm hc (fun r σ' h => by obtain ⟨rfl, h⟩ := h; exact h)
theorem r_callNI (hM : AM G wd (d + 1) mi Ret R) {idx n : Nat} {m' : MI} {stk : List AV} (As : List AV) (hd : decode mi.2.1 pc = .ok (.invokestatic idx, 3)) (hp : pc' = pc + 3) (hf : MLn mi.1.cls idx m' n) (hn : As.length = n) (hst : stk = As.reverse ++ st) (hrm : st.length ≤ 4)
    (hc : conI G wd d m' As σ (fun x σ' => R pc' ls (vI x :: st) σ')) : R pc ls stk σ :=
  r_callN hM As hd hp hf hn hst hrm hc (fun r σ' h => by obtain ⟨x, rfl, h⟩ := h; exact h)
theorem ls_args {ad : Nat → Nat} : ∀ {l : List AV} {i : Nat} {q : Nat × Value}, q ∈ ll ad i (a_ls l) → q ∈ lv_args i (l.map (av_c ad)) := by
  intro l
  induction l with
  | nil => intro i q h; simp [a_ls, ll] at h
  | cons v l ih =>
    intro i q h
    rcases v with x | x | x
    · simp only [a_ls, ll] at h
      rw [if_neg (vI_ne x)] at h
      simp only [List.map_cons, lv_args, av_c, Value.category]
      rcases List.mem_cons.mp h with h | h
      · rw [h]; exact List.mem_cons_self
      · exact List.mem_cons_of_mem _ (ih h)
    · simp only [a_ls, ll] at h
      rw [if_neg (vL_ne x), if_pos trivial] at h
      simp only [List.map_cons, lv_args, av_c, Value.category]
      rcases List.mem_cons.mp h with h | h
      · rw [h]; exact List.mem_cons_self
      · exact List.mem_cons_of_mem _ (ih h)
    · simp only [a_ls, ll] at h
      cases x with
      | none =>
        rw [if_pos rfl] at h
        simp only [List.map_cons, lv_args, av_c, Value.category]
        exact List.mem_cons_of_mem _ (ih h)
      | some a =>
        rw [if_neg (vR_ne a)] at h
        simp only [List.map_cons, lv_args, av_c, Value.category]
        rcases List.mem_cons.mp h with h | h
        · rw [h]; exact List.mem_cons_self
        · exact List.mem_cons_of_mem _ (ih h)
theorem ll_app {ad : Nat → Nat} : ∀ {l : List AV} {n i : Nat}, ll ad i (l ++ List.replicate n vN) = ll ad i l := by
  intro l
  induction l with
  | nil =>
    intro n
    induction n with
    | zero => intro i; rfl
    | succ n ih => intro i; simp only [List.nil_append, List.replicate_succ, ll, if_true] at ih ⊢; exact ih
  | cons v l ih => intro n i; simp only [List.cons_append, ll, ih]
theorem a_ls_len {ad : Nat → Nat} : ∀ {l : List AV}, (lg_sl (l.map (av_c ad))).length = (a_ls l).length := by
  intro l
  induction l with
  | nil => rfl
  | cons v l ih =>
    rcases v with x | x | x
    · simp [a_ls, av_c, lg_sl, Value.category] at ih ⊢; omega
    · simp [a_ls, av_c, lg_sl, Value.category] at ih ⊢; omega
    · cases x <;> (simp [a_ls, av_c, lg_sl, Value.category] at ih ⊢; omega)
theorem a_ls_ok : ∀ {l : List AV}, av_oks l → av_oks (a_ls l) := by
  intro l
  induction l with
  | nil => intro h; exact h
  | cons v l ih =>
    intro h
    rcases v with x | x | x
    · exact ok_cons (ok_hd h) (ih (ok_tl h))
    · exact ok_cons (v := vL x) trivial (ok_cons (v := vN) trivial (ih (ok_tl h)))
    · exact ok_cons (ok_hd h) (ih (ok_tl h))
/-- A CONTRACT OUT OF A WALK of the abstract machine -/
theorem Con.of {m : MI} {args ls0 : List AV} {Q : Option AV → St → Prop} (hpl : plainName m.1.cls = true) (hls : ls0 = a_ls args ++ List.replicate (m.2.2.1 - (a_ls args).length) vN) (hlen : (a_ls args).length ≤ m.2.2.1)
    (h : ∀ R, AM G wd d m Q R → R 0 ls0 [] σ) : Con G wd d m args σ Q := by
  intro ad sz ha hs
  refine Met.ofW (cc := m.2.1) (maxL := m.2.2.1) (ret := m.2.2.2) hpl rfl ?_
  intro p e s mm as below meth c s₁ B hml hv
  obtain ⟨rfl, hsz, hP, hK, hD0⟩ := hv
  subst hsz
  have hts := atoms_spec (ws := ws_m m) B.pre
  have hown : s.vm.findClass m.1.cls = some mm.cls := findClass_of_methodNamed B.named
  have hD := hD0.self (sz := s.heap.size)
  have hl := lv_entry (args.map (av_c ad)) (n := m.2.2.1) (by rw [a_ls_len]; exact hlen)
  have key := h _ ⟨p, e, s, mm, (args.map (av_c ad)).toArray, below, meth, c, va_A (cs G wd ad σ) s.heap.size, ad, B.exec, B.bytes, hml, B.returns, B.notSynchronized, hown, hts, hK, fun q hq => Or.inr hq, rfl⟩
  rw [lg_entry_eq]
  refine key ?_ (fun v hv => by cases hv) hs s.heap [] _ hP hD va_S.rf ⟨?_, hl.1, hl.2.1, fun q hq => ?_⟩
  · rw [hls]
    refine ok_app.mpr ⟨a_ls_ok ha, fun v hv => ?_⟩
    rw [(List.mem_replicate.mp hv).2]
    trivial
  · rw [hls, List.length_append, List.length_replicate]
    omega
  · rw [hls, ll_app] at hq
    exact hl.2.2 q (ls_args hq)
theorem Con.mono {m : MI} {args : List AV} {Q Q' : Option AV → St → Prop} (h : Con G wd d m args σ Q) (hq : ∀ r σ', Q r σ' → Q' r σ') : Con G wd d m args σ Q' := by
  intro ad sz ha hs
  intro p e a1 a2 a3 s mm as below b1 b2 b3 b4
  obtain ⟨t, o, c1, c2, c3, ⟨⟨r, σ', e1, e2, e3⟩, e4⟩, e5⟩ := h ad sz ha hs p e a1 a2 a3 s mm as below b1 b2 b3 b4
  exact ⟨t, o, c1, c2, c3, ⟨⟨r, σ', e1, hq _ _ e2, e3⟩, e4⟩, e5⟩
end Heap
