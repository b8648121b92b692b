/-! ===== RULES: one instruction of the abstract machine each, proved over the machine itself ===== -/
theorem ok_cons {v : AV} {l : List AV} (h : av_ok v) (hl : av_oks l) : av_oks (v :: l) := List.forall_mem_cons.mpr ⟨h, hl⟩
theorem ok_tl {v : AV} {l : List AV} (h : av_oks (v :: l)) : av_oks l := (List.forall_mem_cons.mp h).2
theorem ok_hd {v : AV} {l : List AV} (h : av_oks (v :: l)) : av_ok v := (List.forall_mem_cons.mp h).1
theorem ok_at {l : List AV} (h : av_oks l) {k : Nat} {v : AV} (hk : l[k]? = some v) : av_ok v := h v (List.mem_of_getElem? hk)
theorem ok_set {l : List AV} (h : av_oks l) {k : Nat} {v : AV} (hv : av_ok v) : av_oks (l.set k v) := by
  intro w hw
  rcases List.mem_or_eq_of_mem_set hw with h1 | h1
  · exact h w h1
  · rw [h1]; exact hv
theorem vI_ne (x : Int) : vI x ≠ vN := by intro h; cases h
theorem vL_ne (x : Int64) : vL x ≠ vN := by intro h; cases h
theorem vR_ne (x : Nat) : vR x ≠ vN := by intro h; cases h
theorem i32_asI (x : Int32) : Int32.ofInt x.toInt = x := Int32.ofInt_toInt x
section Rules
variable {G : GX} {wd : List CD} {d : Nat} {mi : MI} {Ret : Option AV → St → Prop} {R : Nat → List AV → List AV → St → Prop} {pc pc' : Nat} {ls st : List AV} {σ : St}
theorem r_iconst (hM : AM G wd d mi Ret R) {n : Int} (hd : decode mi.2.1 pc = .ok (.iconst n, 1)) (hp : pc' = pc + 1) (hn : r32 n) (k : R pc' ls (vI n :: st) σ) : R pc ls (st) σ := by
  obtain ⟨p, e, s, m, args, below, meth, c, A, ad, hx, hb, hml, hr, hlk, hown, hts, hK, hA, rfl⟩ := hM
  subst hp
  intro h1 h2 h3 H locs L hP hD hS hl
  exact lv_iconst hx hb hd rfl (k h1 (ok_cons hn h2) h3 H locs L hP hD hS hl)
theorem r_bipush (hM : AM G wd d mi Ret R) {n : Int} (hd : decode mi.2.1 pc = .ok (.bipush n, 2)) (hp : pc' = pc + 2) (hn : r32 n) (hv : (Int8.ofInt n).toInt32 = Int32.ofInt n) (k : R pc' ls (vI n :: st) σ) : R pc ls (st) σ := by
  obtain ⟨p, e, s, m, args, below, meth, c, A, ad, hx, hb, hml, hr, hlk, hown, hts, hK, hA, rfl⟩ := hM
  subst hp
  intro h1 h2 h3 H locs L hP hD hS hl
  exact lv_bipush hx hb hd hv (k h1 (ok_cons hn h2) h3 H locs L hP hD hS hl)
theorem r_sipush (hM : AM G wd d mi Ret R) {n : Int} (hd : decode mi.2.1 pc = .ok (.sipush n, 3)) (hp : pc' = pc + 3) (hn : r32 n) (hv : (Int16.ofInt n).toInt32 = Int32.ofInt n) (k : R pc' ls (vI n :: st) σ) : R pc ls (st) σ := by
  obtain ⟨p, e, s, m, args, below, meth, c, A, ad, hx, hb, hml, hr, hlk, hown, hts, hK, hA, rfl⟩ := hM
  subst hp
  intro h1 h2 h3 H locs L hP hD hS hl
  exact lv_sipush hx hb hd hv (k h1 (ok_cons hn h2) h3 H locs L hP hD hS hl)
theorem r_lconst (hM : AM G wd d mi Ret R) {n : Fin 2} {x : Int64} (hd : decode mi.2.1 pc = .ok (.lconst n, 1)) (hp : pc' = pc + 1) (hv : Int64.ofNat (n : Nat) = x) (k : R pc' ls (vL x :: st) σ) : R pc ls (st) σ := by
  obtain ⟨p, e, s, m, args, below, meth, c, A, ad, hx, hb, hml, hr, hlk, hown, hts, hK, hA, rfl⟩ := hM
  subst hp
  intro h1 h2 h3 H locs L hP hD hS hl
  exact lv_lconst hx hb hd hv (k h1 (ok_cons trivial h2) h3 H locs L hP hD hS hl)
theorem r_ldc (hM : AM G wd d mi Ret R) {i : Nat} {x : Int} (hd : decode mi.2.1 pc = .ok (.ldc i, 2)) (hp : pc' = pc + 2) (hw : Cond.constant mi.1.cls i (Int32.ofInt x) ∈ gw) (hn : r32 x) (k : R pc' ls (vI x :: st) σ) : R pc ls (st) σ := by
  obtain ⟨p, e, s, m, args, below, meth, c, A, ad, hx, hb, hml, hr, hlk, hown, hts, hK, hA, rfl⟩ := hM
  subst hp
  intro h1 h2 h3 H locs L hP hD hS hl
  exact lv_ldc hx hb hown (hts _ (List.mem_cons_of_mem _ hw)) hd (k h1 (ok_cons hn h2) h3 H locs L hP hD hS hl)
theorem r_ldc_w (hM : AM G wd d mi Ret R) {i : Nat} {x : Int} (hd : decode mi.2.1 pc = .ok (.ldc_w i, 3)) (hp : pc' = pc + 3) (hw : Cond.constant mi.1.cls i (Int32.ofInt x) ∈ gw) (hn : r32 x) (k : R pc' ls (vI x :: st) σ) : R pc ls (st) σ := by
  obtain ⟨p, e, s, m, args, below, meth, c, A, ad, hx, hb, hml, hr, hlk, hown, hts, hK, hA, rfl⟩ := hM
  subst hp
  intro h1 h2 h3 H locs L hP hD hS hl
  exact lv_ldcw hx hb hown (hts _ (List.mem_cons_of_mem _ hw)) hd (k h1 (ok_cons hn h2) h3 H locs L hP hD hS hl)
theorem r_ldc2_w (hM : AM G wd d mi Ret R) {i : Nat} {x : Int64} (hd : decode mi.2.1 pc = .ok (.ldc2_w i, 3)) (hp : pc' = pc + 3) (hw : Cond.constantLong mi.1.cls i x ∈ gw) (k : R pc' ls (vL x :: st) σ) : R pc ls (st) σ := by
  obtain ⟨p, e, s, m, args, below, meth, c, A, ad, hx, hb, hml, hr, hlk, hown, hts, hK, hA, rfl⟩ := hM
  subst hp
  intro h1 h2 h3 H locs L hP hD hS hl
  exact lv_ldc2 hx hb hown (hts _ (List.mem_cons_of_mem _ hw)) hd (k h1 (ok_cons trivial h2) h3 H locs L hP hD hS hl)
theorem r_iload (hM : AM G wd d mi Ret R) {i : Nat} {x : Int} (hd : decode mi.2.1 pc = .ok (.iload i, 2)) (hp : pc' = pc + 2) (hl' : ls[i]? = some (vI x)) (k : R pc' ls (vI x :: st) σ) : R pc ls (st) σ := by
  obtain ⟨p, e, s, m, args, below, meth, c, A, ad, hx, hb, hml, hr, hlk, hown, hts, hK, hA, rfl⟩ := hM
  subst hp
  intro h1 h2 h3 H locs L hP hD hS hl
  exact lv_iload hx hb hd (hl.at hl' (vI_ne x)) (k h1 (ok_cons (ok_at h1 hl') h2) h3 H locs L hP hD hS hl)
theorem r_iload_n (hM : AM G wd d mi Ret R) {i : Fin 4} {x : Int} (hd : decode mi.2.1 pc = .ok (.iload_n i, 1)) (hp : pc' = pc + 1) (hl' : ls[(i : Nat)]? = some (vI x)) (k : R pc' ls (vI x :: st) σ) : R pc ls (st) σ := by
  obtain ⟨p, e, s, m, args, below, meth, c, A, ad, hx, hb, hml, hr, hlk, hown, hts, hK, hA, rfl⟩ := hM
  subst hp
  intro h1 h2 h3 H locs L hP hD hS hl
  exact lv_iload_n hx hb hd rfl (hl.at hl' (vI_ne x)) (k h1 (ok_cons (ok_at h1 hl') h2) h3 H locs L hP hD hS hl)
theorem r_lload (hM : AM G wd d mi Ret R) {i : Nat} {x : Int64} (hd : decode mi.2.1 pc = .ok (.lload i, 2)) (hp : pc' = pc + 2) (hl' : ls[i]? = some (vL x)) (k : R pc' ls (vL x :: st) σ) : R pc ls (st) σ := by
  obtain ⟨p, e, s, m, args, below, meth, c, A, ad, hx, hb, hml, hr, hlk, hown, hts, hK, hA, rfl⟩ := hM
  subst hp
  intro h1 h2 h3 H locs L hP hD hS hl
  exact lv_lload hx hb hd (hl.at hl' (vL_ne x)) (k h1 (ok_cons (ok_at h1 hl') h2) h3 H locs L hP hD hS hl)
theorem r_lload_n (hM : AM G wd d mi Ret R) {i : Fin 4} {x : Int64} (hd : decode mi.2.1 pc = .ok (.lload_n i, 1)) (hp : pc' = pc + 1) (hl' : ls[(i : Nat)]? = some (vL x)) (k : R pc' ls (vL x :: st) σ) : R pc ls (st) σ := by
  obtain ⟨p, e, s, m, args, below, meth, c, A, ad, hx, hb, hml, hr, hlk, hown, hts, hK, hA, rfl⟩ := hM
  subst hp
  intro h1 h2 h3 H locs L hP hD hS hl
  exact lv_lload_n hx hb hd rfl (hl.at hl' (vL_ne x)) (k h1 (ok_cons (ok_at h1 hl') h2) h3 H locs L hP hD hS hl)
theorem r_aload (hM : AM G wd d mi Ret R) {i : Nat} {x : Nat} (hd : decode mi.2.1 pc = .ok (.aload i, 2)) (hp : pc' = pc + 2) (hl' : ls[i]? = some (vR x)) (k : R pc' ls (vR x :: st) σ) : R pc ls (st) σ := by
  obtain ⟨p, e, s, m, args, below, meth, c, A, ad, hx, hb, hml, hr, hlk, hown, hts, hK, hA, rfl⟩ := hM
  subst hp
  intro h1 h2 h3 H locs L hP hD hS hl
  exact lv_aload hx hb hd (hl.at hl' (vR_ne x)) (k h1 (ok_cons (ok_at h1 hl') h2) h3 H locs L hP hD hS hl)
theorem r_aload_n (hM : AM G wd d mi Ret R) {i : Fin 4} {x : Nat} (hd : decode mi.2.1 pc = .ok (.aload_n i, 1)) (hp : pc' = pc + 1) (hl' : ls[(i : Nat)]? = some (vR x)) (k : R pc' ls (vR x :: st) σ) : R pc ls (st) σ := by
  obtain ⟨p, e, s, m, args, below, meth, c, A, ad, hx, hb, hml, hr, hlk, hown, hts, hK, hA, rfl⟩ := hM
  subst hp
  intro h1 h2 h3 H locs L hP hD hS hl
  exact lv_aload_n hx hb hd rfl (hl.at hl' (vR_ne x)) (k h1 (ok_cons (ok_at h1 hl') h2) h3 H locs L hP hD hS hl)
theorem r_istore (hM : AM G wd d mi Ret R) {i : Nat} {x : Int} (hd : decode mi.2.1 pc = .ok (.istore i, 2)) (hp : pc' = pc + 2) (hi : i < ls.length) (hn : nol ls i = true) (k : R pc' (ls.set i (vI x)) st σ) : R pc ls (vI x :: st) σ := by
  obtain ⟨p, e, s, m, args, below, meth, c, A, ad, hx, hb, hml, hr, hlk, hown, hts, hK, hA, rfl⟩ := hM
  subst hp
  intro h1 h2 h3 H locs L hP hD hS hl
  exact lv_istore hx hb hd hl.2 (by rw [← hl.1]; exact hi) rfl (fun L' hL => k (ok_set h1 (ok_hd h2)) (ok_tl h2) h3 H locs L' hP hD hS (lvA.put1 hl.1 hn hL))
theorem r_istore_n (hM : AM G wd d mi Ret R) {i : Fin 4} {x : Int} (hd : decode mi.2.1 pc = .ok (.istore_n i, 1)) (hp : pc' = pc + 1) (hi : (i : Nat) < ls.length) (hn : nol ls (i : Nat) = true) (k : R pc' (ls.set (i : Nat) (vI x)) st σ) : R pc ls (vI x :: st) σ := by
  obtain ⟨p, e, s, m, args, below, meth, c, A, ad, hx, hb, hml, hr, hlk, hown, hts, hK, hA, rfl⟩ := hM
  subst hp
  intro h1 h2 h3 H locs L hP hD hS hl
  exact lv_istore_n hx hb hd rfl hl.2 (by rw [← hl.1]; exact hi) rfl (fun L' hL => k (ok_set h1 (ok_hd h2)) (ok_tl h2) h3 H locs L' hP hD hS (lvA.put1 hl.1 hn hL))
theorem r_astore (hM : AM G wd d mi Ret R) {i : Nat} {x : Nat} (hd : decode mi.2.1 pc = .ok (.astore i, 2)) (hp : pc' = pc + 2) (hi : i < ls.length) (hn : nol ls i = true) (k : R pc' (ls.set i (vR x)) st σ) : R pc ls (vR x :: st) σ := by
  obtain ⟨p, e, s, m, args, below, meth, c, A, ad, hx, hb, hml, hr, hlk, hown, hts, hK, hA, rfl⟩ := hM
  subst hp
  intro h1 h2 h3 H locs L hP hD hS hl
  exact lv_astore hx hb hd hl.2 (by rw [← hl.1]; exact hi) rfl (fun L' hL => k (ok_set h1 (ok_hd h2)) (ok_tl h2) h3 H locs L' hP hD hS (lvA.put1 hl.1 hn hL))
theorem r_astore_n (hM : AM G wd d mi Ret R) {i : Fin 4} {x : Nat} (hd : decode mi.2.1 pc = .ok (.astore_n i, 1)) (hp : pc' = pc + 1) (hi : (i : Nat) < ls.length) (hn : nol ls (i : Nat) = true) (k : R pc' (ls.set (i : Nat) (vR x)) st σ) : R pc ls (vR x :: st) σ := by
  obtain ⟨p, e, s, m, args, below, meth, c, A, ad, hx, hb, hml, hr, hlk, hown, hts, hK, hA, rfl⟩ := hM
  subst hp
  intro h1 h2 h3 H locs L hP hD hS hl
  exact lv_astore_n hx hb hd rfl hl.2 (by rw [← hl.1]; exact hi) rfl (fun L' hL => k (ok_set h1 (ok_hd h2)) (ok_tl h2) h3 H locs L' hP hD hS (lvA.put1 hl.1 hn hL))
theorem r_lstore (hM : AM G wd d mi Ret R) {i : Nat} {x : Int64} (hd : decode mi.2.1 pc = .ok (.lstore i, 2)) (hp : pc' = pc + 2) (hi : i + 1 < ls.length) (hn : nol ls i = true) (k : R pc' ((ls.set i (vL x)).set (i + 1) vN) st σ) : R pc ls (vL x :: st) σ := by
  obtain ⟨p, e, s, m, args, below, meth, c, A, ad, hx, hb, hml, hr, hlk, hown, hts, hK, hA, rfl⟩ := hM
  subst hp
  intro h1 h2 h3 H locs L hP hD hS hl
  exact lv_lstore hx hb hd hl.2 (by rw [← hl.1]; exact hi) rfl (fun L' hL => k (ok_set (v := vN) (ok_set (v := vL x) h1 trivial) trivial) (ok_tl h2) h3 H locs L' hP hD hS (lvA.put2 hl.1 hn hL))
theorem r_iinc (hM : AM G wd d mi Ret R) {i : Nat} {n x : Int} (hd : decode mi.2.1 pc = .ok (.iinc i n, 3)) (hp : pc' = pc + 3) (hl' : ls[i]? = some (vI x)) (hn : nol ls i = true) (hr32 : r32 (x + n)) (k : R pc' (ls.set i (vI (x + n))) st σ) : R pc ls st σ := by
  obtain ⟨p, e, s, m, args, below, meth, c, A, ad, hx, hb, hml, hr, hlk, hown, hts, hK, hA, rfl⟩ := hM
  subst hp
  intro h1 h2 h3 H locs L hP hD hS hl
  have hm : (i, Value.int (Int32.ofInt x)) ∈ ll ad 0 ls := ll_mem.mpr ⟨i, vI x, hl', vI_ne x, by rw [Nat.zero_add]; rfl⟩
  obtain ⟨q, hq⟩ := List.getElem?_of_mem hm
  have hi : i < ls.length := (List.getElem?_eq_some_iff.mp hl').1
  exact lv_iinc hx hb hd hl.2 hq (Int32.ofInt_add x n).symm (by rw [← hl.1]; exact hi) rfl (fun L' hL => k (ok_set h1 hr32) h2 h3 H locs L' hP hD hS (lvA.put1 hl.1 hn hL))
theorem r_iadd (hM : AM G wd d mi Ret R) {x y : Int} (hd : decode mi.2.1 pc = .ok (.iadd, 1)) (hp : pc' = pc + 1) (hr32 : r32 (x + y)) (k : R pc' ls (vI (x + y) :: st) σ) : R pc ls (vI y :: vI x :: st) σ := by
  obtain ⟨p, e, s, m, args, below, meth, c, A, ad, hx, hb, hml, hr, hlk, hown, hts, hK, hA, rfl⟩ := hM
  subst hp
  intro h1 h2 h3 H locs L hP hD hS hl
  have k' := k h1 (ok_cons hr32 (ok_tl (ok_tl h2))) h3 H locs L hP hD hS hl
  rw [List.map_cons, av_cI, Int32.ofInt_add x y] at k'
  exact lv_iadd hx hb hd k'
theorem r_isub (hM : AM G wd d mi Ret R) {x y : Int} (hd : decode mi.2.1 pc = .ok (.isub, 1)) (hp : pc' = pc + 1) (hr32 : r32 (x - y)) (k : R pc' ls (vI (x - y) :: st) σ) : R pc ls (vI y :: vI x :: st) σ := by
  obtain ⟨p, e, s, m, args, below, meth, c, A, ad, hx, hb, hml, hr, hlk, hown, hts, hK, hA, rfl⟩ := hM
  subst hp
  intro h1 h2 h3 H locs L hP hD hS hl
  have k' := k h1 (ok_cons hr32 (ok_tl (ok_tl h2))) h3 H locs L hP hD hS hl
  rw [List.map_cons, av_cI, Int32.ofInt_sub x y] at k'
  exact lv_isub hx hb hd k'
theorem r_imul (hM : AM G wd d mi Ret R) {x y : Int} (hd : decode mi.2.1 pc = .ok (.imul, 1)) (hp : pc' = pc + 1) (hr32 : r32 (x * y)) (k : R pc' ls (vI (x * y) :: st) σ) : R pc ls (vI y :: vI x :: st) σ := by
  obtain ⟨p, e, s, m, args, below, meth, c, A, ad, hx, hb, hml, hr, hlk, hown, hts, hK, hA, rfl⟩ := hM
  subst hp
  intro h1 h2 h3 H locs L hP hD hS hl
  have k' := k h1 (ok_cons hr32 (ok_tl (ok_tl h2))) h3 H locs L hP hD hS hl
  rw [List.map_cons, av_cI, Int32.ofInt_mul x y] at k'
  exact lv_imul hx hb hd k'
theorem r_ineg (hM : AM G wd d mi Ret R) {x : Int} (hd : decode mi.2.1 pc = .ok (.ineg, 1)) (hp : pc' = pc + 1) (hr32 : r32 (-x)) (k : R pc' ls (vI (-x) :: st) σ) : R pc ls (vI x :: st) σ := by
  obtain ⟨p, e, s, m, args, below, meth, c, A, ad, hx, hb, hml, hr, hlk, hown, hts, hK, hA, rfl⟩ := hM
  subst hp
  intro h1 h2 h3 H locs L hP hD hS hl
  have k' := k h1 (ok_cons hr32 (ok_tl h2)) h3 H locs L hP hD hS hl
  rw [List.map_cons, av_cI, Int32.ofInt_neg x] at k'
  exact lv_ineg hx hb hd k'
theorem r_iand (hM : AM G wd d mi Ret R) {x y : Int} (hd : decode mi.2.1 pc = .ok (.iand, 1)) (hp : pc' = pc + 1) (k : R pc' ls (vI (bAnd x y) :: st) σ) : R pc ls (vI y :: vI x :: st) σ := by
  obtain ⟨p, e, s, m, args, below, meth, c, A, ad, hx, hb, hml, hr, hlk, hown, hts, hK, hA, rfl⟩ := hM
  subst hp
  intro h1 h2 h3 H locs L hP hD hS hl
  have k' := k h1 (ok_cons (i32_rng _) (ok_tl (ok_tl h2))) h3 H locs L hP hD hS hl
  rw [List.map_cons, av_cI, bAnd, i32_asI] at k'
  exact lv_iand hx hb hd k'
theorem r_ior (hM : AM G wd d mi Ret R) {x y : Int} (hd : decode mi.2.1 pc = .ok (.ior, 1)) (hp : pc' = pc + 1) (k : R pc' ls (vI (bOr x y) :: st) σ) : R pc ls (vI y :: vI x :: st) σ := by
  obtain ⟨p, e, s, m, args, below, meth, c, A, ad, hx, hb, hml, hr, hlk, hown, hts, hK, hA, rfl⟩ := hM
  subst hp
  intro h1 h2 h3 H locs L hP hD hS hl
  have k' := k h1 (ok_cons (i32_rng _) (ok_tl (ok_tl h2))) h3 H locs L hP hD hS hl
  rw [List.map_cons, av_cI, bOr, i32_asI] at k'
  exact lv_ior hx hb hd k'
theorem r_ixor (hM : AM G wd d mi Ret R) {x y : Int} (hd : decode mi.2.1 pc = .ok (.ixor, 1)) (hp : pc' = pc + 1) (k : R pc' ls (vI (bXor x y) :: st) σ) : R pc ls (vI y :: vI x :: st) σ := by
  obtain ⟨p, e, s, m, args, below, meth, c, A, ad, hx, hb, hml, hr, hlk, hown, hts, hK, hA, rfl⟩ := hM
  subst hp
  intro h1 h2 h3 H locs L hP hD hS hl
  have k' := k h1 (ok_cons (i32_rng _) (ok_tl (ok_tl h2))) h3 H locs L hP hD hS hl
  rw [List.map_cons, av_cI, bXor, i32_asI] at k'
  exact lv_ixor hx hb hd k'
theorem r_ishl (hM : AM G wd d mi Ret R) {x y : Int} (hd : decode mi.2.1 pc = .ok (.ishl, 1)) (hp : pc' = pc + 1) (k : R pc' ls (vI (bShl x y) :: st) σ) : R pc ls (vI y :: vI x :: st) σ := by
  obtain ⟨p, e, s, m, args, below, meth, c, A, ad, hx, hb, hml, hr, hlk, hown, hts, hK, hA, rfl⟩ := hM
  subst hp
  intro h1 h2 h3 H locs L hP hD hS hl
  have k' := k h1 (ok_cons (i32_rng _) (ok_tl (ok_tl h2))) h3 H locs L hP hD hS hl
  rw [List.map_cons, av_cI, bShl, i32_asI] at k'
  exact lv_ishl hx hb hd k'
theorem r_ishr (hM : AM G wd d mi Ret R) {x y : Int} (hd : decode mi.2.1 pc = .ok (.ishr, 1)) (hp : pc' = pc + 1) (k : R pc' ls (vI (bShr x y) :: st) σ) : R pc ls (vI y :: vI x :: st) σ := by
  obtain ⟨p, e, s, m, args, below, meth, c, A, ad, hx, hb, hml, hr, hlk, hown, hts, hK, hA, rfl⟩ := hM
  subst hp
  intro h1 h2 h3 H locs L hP hD hS hl
  have k' := k h1 (ok_cons (i32_rng _) (ok_tl (ok_tl h2))) h3 H locs L hP hD hS hl
  rw [List.map_cons, av_cI, bShr, i32_asI] at k'
  exact lv_ishr hx hb hd k'
theorem r_iushr (hM : AM G wd d mi Ret R) {x y : Int} (hd : decode mi.2.1 pc = .ok (.iushr, 1)) (hp : pc' = pc + 1) (k : R pc' ls (vI (bUsh x y) :: st) σ) : R pc ls (vI y :: vI x :: st) σ := by
  obtain ⟨p, e, s, m, args, below, meth, c, A, ad, hx, hb, hml, hr, hlk, hown, hts, hK, hA, rfl⟩ := hM
  subst hp
  intro h1 h2 h3 H locs L hP hD hS hl
  have k' := k h1 (ok_cons (i32_rng _) (ok_tl (ok_tl h2))) h3 H locs L hP hD hS hl
  rw [List.map_cons, av_cI, bUsh, i32_asI] at k'
  exact lv_iushr hx hb hd rfl k'
theorem r_idiv (hM : AM G wd d mi Ret R) {x y : Int} (hd : decode mi.2.1 pc = .ok (.idiv, 1)) (hp : pc' = pc + 1) (hy : y ≠ 0) (k : R pc' ls (vI (bDiv x y) :: st) σ) : R pc ls (vI y :: vI x :: st) σ := by
  obtain ⟨p, e, s, m, args, below, meth, c, A, ad, hx, hb, hml, hr, hlk, hown, hts, hK, hA, rfl⟩ := hM
  subst hp
  intro h1 h2 h3 H locs L hP hD hS hl
  have k' := k h1 (ok_cons (i32_rng _) (ok_tl (ok_tl h2))) h3 H locs L hP hD hS hl
  rw [List.map_cons, av_cI, bDiv, i32_asI] at k'
  exact lv_idiv hx hb hd (fun q => hy ((i32_eq0 (ok_hd h2)).mp q)) k'
theorem r_land (hM : AM G wd d mi Ret R) {x y : Int64} (hd : decode mi.2.1 pc = .ok (.land, 1)) (hp : pc' = pc + 1) (k : R pc' ls (vL (x &&& y) :: st) σ) : R pc ls (vL y :: vL x :: st) σ := by
  obtain ⟨p, e, s, m, args, below, meth, c, A, ad, hx, hb, hml, hr, hlk, hown, hts, hK, hA, rfl⟩ := hM
  subst hp
  intro h1 h2 h3 H locs L hP hD hS hl
  exact lv_land hx hb hd (k h1 (ok_cons trivial (ok_tl (ok_tl h2))) h3 H locs L hP hD hS hl)
theorem r_lor (hM : AM G wd d mi Ret R) {x y : Int64} (hd : decode mi.2.1 pc = .ok (.lor, 1)) (hp : pc' = pc + 1) (k : R pc' ls (vL (x ||| y) :: st) σ) : R pc ls (vL y :: vL x :: st) σ := by
  obtain ⟨p, e, s, m, args, below, meth, c, A, ad, hx, hb, hml, hr, hlk, hown, hts, hK, hA, rfl⟩ := hM
  subst hp
  intro h1 h2 h3 H locs L hP hD hS hl
  exact lv_lor hx hb hd (k h1 (ok_cons trivial (ok_tl (ok_tl h2))) h3 H locs L hP hD hS hl)
theorem r_lxor (hM : AM G wd d mi Ret R) {x y : Int64} (hd : decode mi.2.1 pc = .ok (.lxor, 1)) (hp : pc' = pc + 1) (k : R pc' ls (vL (x ^^^ y) :: st) σ) : R pc ls (vL y :: vL x :: st) σ := by
  obtain ⟨p, e, s, m, args, below, meth, c, A, ad, hx, hb, hml, hr, hlk, hown, hts, hK, hA, rfl⟩ := hM
  subst hp
  intro h1 h2 h3 H locs L hP hD hS hl
  exact lv_lxor hx hb hd (k h1 (ok_cons trivial (ok_tl (ok_tl h2))) h3 H locs L hP hD hS hl)
theorem r_lshl (hM : AM G wd d mi Ret R) {x : Int64} {y : Int} (hd : decode mi.2.1 pc = .ok (.lshl, 1)) (hp : pc' = pc + 1) (k : R pc' ls (vL (bLshl x y) :: st) σ) : R pc ls (vI y :: vL x :: st) σ := by
  obtain ⟨p, e, s, m, args, below, meth, c, A, ad, hx, hb, hml, hr, hlk, hown, hts, hK, hA, rfl⟩ := hM
  subst hp
  intro h1 h2 h3 H locs L hP hD hS hl
  exact lv_lshl hx hb hd rfl (k h1 (ok_cons trivial (ok_tl (ok_tl h2))) h3 H locs L hP hD hS hl)
theorem r_lshr (hM : AM G wd d mi Ret R) {x : Int64} {y : Int} (hd : decode mi.2.1 pc = .ok (.lshr, 1)) (hp : pc' = pc + 1) (k : R pc' ls (vL (bLshr x y) :: st) σ) : R pc ls (vI y :: vL x :: st) σ := by
  obtain ⟨p, e, s, m, args, below, meth, c, A, ad, hx, hb, hml, hr, hlk, hown, hts, hK, hA, rfl⟩ := hM
  subst hp
  intro h1 h2 h3 H locs L hP hD hS hl
  exact lv_lshr hx hb hd rfl (k h1 (ok_cons trivial (ok_tl (ok_tl h2))) h3 H locs L hP hD hS hl)
theorem r_i2l (hM : AM G wd d mi Ret R) {x : Int} (hd : decode mi.2.1 pc = .ok (.i2l, 1)) (hp : pc' = pc + 1) (k : R pc' ls (vL (bI2l x) :: st) σ) : R pc ls (vI x :: st) σ := by
  obtain ⟨p, e, s, m, args, below, meth, c, A, ad, hx, hb, hml, hr, hlk, hown, hts, hK, hA, rfl⟩ := hM
  subst hp
  intro h1 h2 h3 H locs L hP hD hS hl
  exact lv_i2l hx hb hd rfl (k h1 (ok_cons trivial (ok_tl h2)) h3 H locs L hP hD hS hl)
theorem r_l2i (hM : AM G wd d mi Ret R) {x : Int64} (hd : decode mi.2.1 pc = .ok (.l2i, 1)) (hp : pc' = pc + 1) (k : R pc' ls (vI (bL2i x) :: st) σ) : R pc ls (vL x :: st) σ := by
  obtain ⟨p, e, s, m, args, below, meth, c, A, ad, hx, hb, hml, hr, hlk, hown, hts, hK, hA, rfl⟩ := hM
  subst hp
  intro h1 h2 h3 H locs L hP hD hS hl
  have k' := k h1 (ok_cons (i32_rng _) (ok_tl h2)) h3 H locs L hP hD hS hl
  rw [List.map_cons, av_cI, bL2i, i32_asI] at k'
  exact lv_l2i hx hb hd rfl k'
theorem r_dup (hM : AM G wd d mi Ret R) {v : AV} (hd : decode mi.2.1 pc = .ok (.dup, 1)) (hp : pc' = pc + 1) (av1 : ∀ ad, (av_c ad v).category = 1) (k : R pc' ls (v :: v :: st) σ) : R pc ls (v :: st) σ := by
  obtain ⟨p, e, s, m, args, below, meth, c, A, ad, hx, hb, hml, hr, hlk, hown, hts, hK, hA, rfl⟩ := hM
  subst hp
  intro h1 h2 h3 H locs L hP hD hS hl
  exact lv_dup hx hb hd (av1 ad) (k h1 (ok_cons (ok_hd h2) h2) h3 H locs L hP hD hS hl)
theorem r_pop (hM : AM G wd d mi Ret R) {v : AV} (hd : decode mi.2.1 pc = .ok (.pop, 1)) (hp : pc' = pc + 1) (av1 : ∀ ad, (av_c ad v).category = 1) (k : R pc' ls (st) σ) : R pc ls (v :: st) σ := by
  obtain ⟨p, e, s, m, args, below, meth, c, A, ad, hx, hb, hml, hr, hlk, hown, hts, hK, hA, rfl⟩ := hM
  subst hp
  intro h1 h2 h3 H locs L hP hD hS hl
  exact lv_pop hx hb hd (av1 ad) (k h1 (ok_tl h2) h3 H locs L hP hD hS hl)
theorem r_dup2 (hM : AM G wd d mi Ret R) {v u : AV} (hd : decode mi.2.1 pc = .ok (.dup2, 1)) (hp : pc' = pc + 1) (av1 : ∀ ad, (av_c ad v).category = 1) (av2 : ∀ ad, (av_c ad u).category = 1) (k : R pc' ls (v :: u :: v :: u :: st) σ) : R pc ls (v :: u :: st) σ := by
  obtain ⟨p, e, s, m, args, below, meth, c, A, ad, hx, hb, hml, hr, hlk, hown, hts, hK, hA, rfl⟩ := hM
  subst hp
  intro h1 h2 h3 H locs L hP hD hS hl
  exact lv_dup2_11 hx hb hd (av1 ad) (av2 ad) (k h1 (ok_cons (ok_hd h2) (ok_cons (ok_hd (ok_tl h2)) h2)) h3 H locs L hP hD hS hl)
theorem r_icmp_eq (hM : AM G wd d mi Ret R) {x y : Int} {off : Int} {tgt : Nat} (hd : decode mi.2.1 pc = .ok (.if_icmp .eq off, 3)) (hp : pc' = pc + 3) (ht : (pc : Int) + off = (tgt : Int)) (kt : x = y → R tgt ls st σ) (kf : ¬ x = y → R pc' ls st σ) : R pc ls (vI y :: vI x :: st) σ := by
  obtain ⟨p, e, s, m, args, below, meth, c, A, ad, hx, hb, hml, hr, hlk, hown, hts, hK, hA, rfl⟩ := hM
  subst hp
  intro h1 h2 h3 H locs L hP hD hS hl
  exact lv_icmp_eq hx hb hd ht (fun q => kt ((i32_eq (ok_hd (ok_tl h2)) (ok_hd h2)).mp q) h1 (ok_tl (ok_tl h2)) h3 H locs L hP hD hS hl) (fun q => kf (fun z => q ((i32_eq (ok_hd (ok_tl h2)) (ok_hd h2)).mpr z)) h1 (ok_tl (ok_tl h2)) h3 H locs L hP hD hS hl)
theorem r_if_eq (hM : AM G wd d mi Ret R) {x : Int} {off : Int} {tgt : Nat} (hd : decode mi.2.1 pc = .ok (.ifCond .eq off, 3)) (hp : pc' = pc + 3) (ht : (pc : Int) + off = (tgt : Int)) (kt : x = 0 → R tgt ls st σ) (kf : ¬ x = 0 → R pc' ls st σ) : R pc ls (vI x :: st) σ := by
  obtain ⟨p, e, s, m, args, below, meth, c, A, ad, hx, hb, hml, hr, hlk, hown, hts, hK, hA, rfl⟩ := hM
  subst hp
  intro h1 h2 h3 H locs L hP hD hS hl
  exact lv_if_eq hx hb hd ht (fun q => kt ((i32_eq0 (ok_hd h2)).mp q) h1 (ok_tl h2) h3 H locs L hP hD hS hl) (fun q => kf (fun z => q ((i32_eq0 (ok_hd h2)).mpr z)) h1 (ok_tl h2) h3 H locs L hP hD hS hl)
theorem r_icmp_ne (hM : AM G wd d mi Ret R) {x y : Int} {off : Int} {tgt : Nat} (hd : decode mi.2.1 pc = .ok (.if_icmp .ne off, 3)) (hp : pc' = pc + 3) (ht : (pc : Int) + off = (tgt : Int)) (kt : ¬ x = y → R tgt ls st σ) (kf : x = y → R pc' ls st σ) : R pc ls (vI y :: vI x :: st) σ := by
  obtain ⟨p, e, s, m, args, below, meth, c, A, ad, hx, hb, hml, hr, hlk, hown, hts, hK, hA, rfl⟩ := hM
  subst hp
  intro h1 h2 h3 H locs L hP hD hS hl
  refine lv_icmp_ne hx hb hd ht (fun q => kt (fun z => q ((i32_eq (ok_hd (ok_tl h2)) (ok_hd h2)).mpr z)) h1 (ok_tl (ok_tl h2)) h3 H locs L hP hD hS hl) (fun q => kf ?_ h1 (ok_tl (ok_tl h2)) h3 H locs L hP hD hS hl)
  exact (i32_eq (ok_hd (ok_tl h2)) (ok_hd h2)).mp q
theorem r_if_ne (hM : AM G wd d mi Ret R) {x : Int} {off : Int} {tgt : Nat} (hd : decode mi.2.1 pc = .ok (.ifCond .ne off, 3)) (hp : pc' = pc + 3) (ht : (pc : Int) + off = (tgt : Int)) (kt : ¬ x = 0 → R tgt ls st σ) (kf : x = 0 → R pc' ls st σ) : R pc ls (vI x :: st) σ := by
  obtain ⟨p, e, s, m, args, below, meth, c, A, ad, hx, hb, hml, hr, hlk, hown, hts, hK, hA, rfl⟩ := hM
  subst hp
  intro h1 h2 h3 H locs L hP hD hS hl
  refine lv_if_ne hx hb hd ht (fun q => kt (fun z => q ((i32_eq0 (ok_hd h2)).mpr z)) h1 (ok_tl h2) h3 H locs L hP hD hS hl) (fun q => kf ?_ h1 (ok_tl h2) h3 H locs L hP hD hS hl)
  exact (i32_eq0 (ok_hd h2)).mp q
theorem r_icmp_lt (hM : AM G wd d mi Ret R) {x y : Int} {off : Int} {tgt : Nat} (hd : decode mi.2.1 pc = .ok (.if_icmp .lt off, 3)) (hp : pc' = pc + 3) (ht : (pc : Int) + off = (tgt : Int)) (kt : x < y → R tgt ls st σ) (kf : ¬ x < y → R pc' ls st σ) : R pc ls (vI y :: vI x :: st) σ := by
  obtain ⟨p, e, s, m, args, below, meth, c, A, ad, hx, hb, hml, hr, hlk, hown, hts, hK, hA, rfl⟩ := hM
  subst hp
  intro h1 h2 h3 H locs L hP hD hS hl
  exact lv_icmp_lt hx hb hd ht (fun q => kt ((i32_lt (ok_hd (ok_tl h2)) (ok_hd h2)).mp q) h1 (ok_tl (ok_tl h2)) h3 H locs L hP hD hS hl) (fun q => kf (fun z => q ((i32_lt (ok_hd (ok_tl h2)) (ok_hd h2)).mpr z)) h1 (ok_tl (ok_tl h2)) h3 H locs L hP hD hS hl)
theorem r_if_lt (hM : AM G wd d mi Ret R) {x : Int} {off : Int} {tgt : Nat} (hd : decode mi.2.1 pc = .ok (.ifCond .lt off, 3)) (hp : pc' = pc + 3) (ht : (pc : Int) + off = (tgt : Int)) (kt : x < 0 → R tgt ls st σ) (kf : ¬ x < 0 → R pc' ls st σ) : R pc ls (vI x :: st) σ := by
  obtain ⟨p, e, s, m, args, below, meth, c, A, ad, hx, hb, hml, hr, hlk, hown, hts, hK, hA, rfl⟩ := hM
  subst hp
  intro h1 h2 h3 H locs L hP hD hS hl
  exact lv_if_lt hx hb hd ht (fun q => kt ((i32_lt0 (ok_hd h2)).mp q) h1 (ok_tl h2) h3 H locs L hP hD hS hl) (fun q => kf (fun z => q ((i32_lt0 (ok_hd h2)).mpr z)) h1 (ok_tl h2) h3 H locs L hP hD hS hl)
theorem r_icmp_ge (hM : AM G wd d mi Ret R) {x y : Int} {off : Int} {tgt : Nat} (hd : decode mi.2.1 pc = .ok (.if_icmp .ge off, 3)) (hp : pc' = pc + 3) (ht : (pc : Int) + off = (tgt : Int)) (kt : y ≤ x → R tgt ls st σ) (kf : ¬ y ≤ x → R pc' ls st σ) : R pc ls (vI y :: vI x :: st) σ := by
  obtain ⟨p, e, s, m, args, below, meth, c, A, ad, hx, hb, hml, hr, hlk, hown, hts, hK, hA, rfl⟩ := hM
  subst hp
  intro h1 h2 h3 H locs L hP hD hS hl
  exact lv_icmp_ge hx hb hd ht (fun q => kt ((i32_le (ok_hd h2) (ok_hd (ok_tl h2))).mp q) h1 (ok_tl (ok_tl h2)) h3 H locs L hP hD hS hl) (fun q => kf (fun z => q ((i32_le (ok_hd h2) (ok_hd (ok_tl h2))).mpr z)) h1 (ok_tl (ok_tl h2)) h3 H locs L hP hD hS hl)
theorem r_if_ge (hM : AM G wd d mi Ret R) {x : Int} {off : Int} {tgt : Nat} (hd : decode mi.2.1 pc = .ok (.ifCond .ge off, 3)) (hp : pc' = pc + 3) (ht : (pc : Int) + off = (tgt : Int)) (kt : 0 ≤ x → R tgt ls st σ) (kf : ¬ 0 ≤ x → R pc' ls st σ) : R pc ls (vI x :: st) σ := by
  obtain ⟨p, e, s, m, args, below, meth, c, A, ad, hx, hb, hml, hr, hlk, hown, hts, hK, hA, rfl⟩ := hM
  subst hp
  intro h1 h2 h3 H locs L hP hD hS hl
  exact lv_if_ge hx hb hd ht (fun q => kt ((i32_0le (ok_hd h2)).mp q) h1 (ok_tl h2) h3 H locs L hP hD hS hl) (fun q => kf (fun z => q ((i32_0le (ok_hd h2)).mpr z)) h1 (ok_tl h2) h3 H locs L hP hD hS hl)
theorem r_icmp_gt (hM : AM G wd d mi Ret R) {x y : Int} {off : Int} {tgt : Nat} (hd : decode mi.2.1 pc = .ok (.if_icmp .gt off, 3)) (hp : pc' = pc + 3) (ht : (pc : Int) + off = (tgt : Int)) (kt : y < x → R tgt ls st σ) (kf : ¬ y < x → R pc' ls st σ) : R pc ls (vI y :: vI x :: st) σ := by
  obtain ⟨p, e, s, m, args, below, meth, c, A, ad, hx, hb, hml, hr, hlk, hown, hts, hK, hA, rfl⟩ := hM
  subst hp
  intro h1 h2 h3 H locs L hP hD hS hl
  exact lv_icmp_gt hx hb hd ht (fun q => kt ((i32_lt (ok_hd h2) (ok_hd (ok_tl h2))).mp q) h1 (ok_tl (ok_tl h2)) h3 H locs L hP hD hS hl) (fun q => kf (fun z => q ((i32_lt (ok_hd h2) (ok_hd (ok_tl h2))).mpr z)) h1 (ok_tl (ok_tl h2)) h3 H locs L hP hD hS hl)
theorem r_if_gt (hM : AM G wd d mi Ret R) {x : Int} {off : Int} {tgt : Nat} (hd : decode mi.2.1 pc = .ok (.ifCond .gt off, 3)) (hp : pc' = pc + 3) (ht : (pc : Int) + off = (tgt : Int)) (kt : 0 < x → R tgt ls st σ) (kf : ¬ 0 < x → R pc' ls st σ) : R pc ls (vI x :: st) σ := by
  obtain ⟨p, e, s, m, args, below, meth, c, A, ad, hx, hb, hml, hr, hlk, hown, hts, hK, hA, rfl⟩ := hM
  subst hp
  intro h1 h2 h3 H locs L hP hD hS hl
  exact lv_if_gt hx hb hd ht (fun q => kt ((i32_0lt (ok_hd h2)).mp q) h1 (ok_tl h2) h3 H locs L hP hD hS hl) (fun q => kf (fun z => q ((i32_0lt (ok_hd h2)).mpr z)) h1 (ok_tl h2) h3 H locs L hP hD hS hl)
theorem r_icmp_le (hM : AM G wd d mi Ret R) {x y : Int} {off : Int} {tgt : Nat} (hd : decode mi.2.1 pc = .ok (.if_icmp .le off, 3)) (hp : pc' = pc + 3) (ht : (pc : Int) + off = (tgt : Int)) (kt : x ≤ y → R tgt ls st σ) (kf : ¬ x ≤ y → R pc' ls st σ) : R pc ls (vI y :: vI x :: st) σ := by
  obtain ⟨p, e, s, m, args, below, meth, c, A, ad, hx, hb, hml, hr, hlk, hown, hts, hK, hA, rfl⟩ := hM
  subst hp
  intro h1 h2 h3 H locs L hP hD hS hl
  exact lv_icmp_le hx hb hd ht (fun q => kt ((i32_le (ok_hd (ok_tl h2)) (ok_hd h2)).mp q) h1 (ok_tl (ok_tl h2)) h3 H locs L hP hD hS hl) (fun q => kf (fun z => q ((i32_le (ok_hd (ok_tl h2)) (ok_hd h2)).mpr z)) h1 (ok_tl (ok_tl h2)) h3 H locs L hP hD hS hl)
theorem r_if_le (hM : AM G wd d mi Ret R) {x : Int} {off : Int} {tgt : Nat} (hd : decode mi.2.1 pc = .ok (.ifCond .le off, 3)) (hp : pc' = pc + 3) (ht : (pc : Int) + off = (tgt : Int)) (kt : x ≤ 0 → R tgt ls st σ) (kf : ¬ x ≤ 0 → R pc' ls st σ) : R pc ls (vI x :: st) σ := by
  obtain ⟨p, e, s, m, args, below, meth, c, A, ad, hx, hb, hml, hr, hlk, hown, hts, hK, hA, rfl⟩ := hM
  subst hp
  intro h1 h2 h3 H locs L hP hD hS hl
  exact lv_if_le hx hb hd ht (fun q => kt ((i32_le0 (ok_hd h2)).mp q) h1 (ok_tl h2) h3 H locs L hP hD hS hl) (fun q => kf (fun z => q ((i32_le0 (ok_hd h2)).mpr z)) h1 (ok_tl h2) h3 H locs L hP hD hS hl)
theorem r_goto (hM : AM G wd d mi Ret R) {off : Int} {tgt : Nat} (hd : decode mi.2.1 pc = .ok (.goto off, 3)) (ht : (pc : Int) + off = (tgt : Int)) (k : R tgt ls st σ) : R pc ls st σ := by
  obtain ⟨p, e, s, m, args, below, meth, c, A, ad, hx, hb, hml, hr, hlk, hown, hts, hK, hA, rfl⟩ := hM
  intro h1 h2 h3 H locs L hP hD hS hl
  exact lv_goto hx hb hd ht (k h1 h2 h3 H locs L hP hD hS hl)
/-- a switch over lo .. hi: a number within goes by its place, another one to the default -/
theorem r_switch (hM : AM G wd d mi Ret R) {x dflt lo hi : Int} {offs : Array Int} {len tgt : Nat} (hd : decode mi.2.1 pc = .ok (.tableswitch dflt lo hi offs, len)) (hlen : (offs.size : Int) = hi - lo + 1) (ht : (pc : Int) + dflt = (tgt : Int))
    (kd : ¬ (lo ≤ x ∧ x ≤ hi) → R tgt ls st σ) (kt : ∀ (j : Nat) (off : Int), offs[j]? = some off → x = lo + j → ∀ t : Nat, (pc : Int) + off = (t : Int) → R t ls st σ) (hoff : ∀ (j : Nat) (off : Int), offs[j]? = some off → ∃ t : Nat, (pc : Int) + off = (t : Int)) : R pc ls (vI x :: st) σ := by
  obtain ⟨p, e, s, m, args, below, meth, c, A, ad, hx, hb, hml, hr, hlk, hown, hts, hK, hA, rfl⟩ := hM
  intro h1 h2 h3 H locs L hP hD hS hl
  have hxr := i32_of (ok_hd h2)
  by_cases hin : lo ≤ x ∧ x ≤ hi
  · have hj : (x - lo).toNat < offs.size := by omega
    have ho := Array.getElem?_eq_getElem hj
    obtain ⟨t, ht'⟩ := hoff _ _ ho
    exact lv_tableIn hx hb hd (by rw [hxr]; omega) (by rw [hxr]; omega) (by rw [hxr]; exact ho) ht' (kt _ _ ho (by omega) t ht' h1 (ok_tl h2) h3 H locs L hP hD hS hl)
  · exact lv_tableOut hx hb hd (by rw [hxr]; omega) ht (kd hin h1 (ok_tl h2) h3 H locs L hP hD hS hl)
/-- what is in range of itself -/
theorem r_rngL (hM : AM G wd d mi Ret R) {i : Nat} {x : Int} (hl' : ls[i]? = some (vI x)) (k : r32 x → R pc ls st σ) : R pc ls st σ := by
  obtain ⟨p, e, s, m, args, below, meth, c, A, ad, hx, hb, hml, hr, hlk, hown, hts, hK, hA, rfl⟩ := hM
  intro h1 h2 h3 H locs L hP hD hS hl
  exact k (ok_at h1 hl') h1 h2 h3 H locs L hP hD hS hl
theorem r_rngS (hM : AM G wd d mi Ret R) (k : s_ok σ → R pc ls st σ) : R pc ls st σ := by
  obtain ⟨p, e, s, m, args, below, meth, c, A, ad, hx, hb, hml, hr, hlk, hown, hts, hK, hA, rfl⟩ := hM
  intro h1 h2 h3 H locs L hP hD hS hl
  exact k h3 h1 h2 h3 H locs L hP hD hS hl
theorem r_ireturn (hM : AM G wd d mi Ret R) {x : Int} (hd : decode mi.2.1 pc = .ok (.ireturn, 1)) (ht : mi.2.2.2 = some .int) (k : Ret (some (vI x)) σ) : R pc ls [vI x] σ := by
  obtain ⟨p, e, s, m, args, below, meth, c, A, ad, hx, hb, hml, hr, hlk, hown, hts, hK, hA, rfl⟩ := hM
  intro h1 h2 h3 H locs L hP hD hS hl
  exact W.iret (Qc := cQ G wd ad Ret A) (free := A) (v := Int32.ofInt x) hx hb (hr.trans ht) (fun t ht hW => ⟨⟨some (vI x), σ, rfl, k, fun v hv => by cases hv; exact ok_hd h2, h3, by rw [ht]; exact hP, hD⟩, hS.F ht⟩) hS.2.2 hd
theorem nar_z {x : Int} (h : x = 0 ∨ x = 1) : narrow .boolean (.int (Int32.ofInt x)) = .int (Int32.ofInt x) := by rcases h with rfl | rfl <;> rfl
theorem r_zreturn (hM : AM G wd d mi Ret R) {x : Int} (hd : decode mi.2.1 pc = .ok (.ireturn, 1)) (ht : mi.2.2.2 = some .boolean) (hz : x = 0 ∨ x = 1) (k : Ret (some (vI x)) σ) : R pc ls [vI x] σ := by
  obtain ⟨p, e, s, m, args, below, meth, c, A, ad, hx, hb, hml, hr, hlk, hown, hts, hK, hA, rfl⟩ := hM
  intro h1 h2 h3 H locs L hP hD hS hl
  exact W.zret (Qc := cQ G wd ad Ret A) (free := A) (v := Int32.ofInt x) (ty := .boolean) hx hb (hr.trans ht) (nar_z hz) (fun t ht hW => ⟨⟨some (vI x), σ, rfl, k, fun v hv => by cases hv; exact ok_hd h2, h3, by rw [ht]; exact hP, hD⟩, hS.F ht⟩) hS.2.2 hd
theorem r_return (hM : AM G wd d mi Ret R) (hd : decode mi.2.1 pc = .ok (.return_, 1)) (ht : mi.2.2.2 = none) (k : Ret none σ) : R pc ls [] σ := by
  obtain ⟨p, e, s, m, args, below, meth, c, A, ad, hx, hb, hml, hr, hlk, hown, hts, hK, hA, rfl⟩ := hM
  intro h1 h2 h3 H locs L hP hD hS hl
  exact W.vret (Qc := cQ G wd ad Ret A) (free := A) hx hb (hr.trans ht) (fun t ht hW => ⟨⟨none, σ, rfl, k, (fun v hv => by cases hv), h3, by rw [ht]; exact hP, hD⟩, hS.F ht⟩) hS.2.2 hd
end Rules
