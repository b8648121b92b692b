/-! ===== calls of contracts out of a growing world; the loops of two constructors ===== -/
theorem va_P.subm {D : va_G} {cl : List vw_C} {ws ws' : va_W} {H : Heap} (h : va_P D cl ws H) (is : List Nat) (hs : is.map (fun i => ws[i]?) = ws'.map some) : va_P D cl ws' H := by
  intro k q hk
  have h1 : (is.map (fun i => ws[i]?))[k]? = some (some q) := by rw [hs, List.getElem?_map, hk]; rfl
  rw [List.getElem?_map] at h1
  cases hi : is[k]? with
  | none => rw [hi] at h1; cases h1
  | some i => rw [hi] at h1; exact h i q (Option.some.inj h1)
section Tails
variable {p : Program} {e : Env} {Rm : Room} {s : State} {m : MethodId} {args : Array Value} {below : List Frame} {meth : Method} {c : Code} {Q : State → Prop} {A : Nat → Prop} {G : GX} {own : String} {cd : ByteArray} {nL : Nat} {pc pc' : Nat} {ls ls' : List (Nat × Value)} {st : List Value} {ws ws' : va_W} {cells slots : Nat}
theorem b_perm (is : List Nat) (hn : va_nd is = true) (hs : is.map (fun i => ws[i]?) = ws'.map some) (k : bR p e Rm s m args below meth c Q A G nL pc ls st ws' cells slots) : bR p e Rm s m args below meth c Q A G nL pc ls st ws cells slots := by
  intro H locs L hP hD hS h
  exact k H locs L (hP.subm is hs) (hD.sub is hn hs) hS h
theorem b_com {w1 w2 : va_W} (k : bR p e Rm s m args below meth c Q A G nL pc ls st (w2 ++ w1) cells slots) : bR p e Rm s m args below meth c Q A G nL pc ls st (w1 ++ w2) cells slots := by
  intro H locs L hP hD hS h
  exact k H locs L hP.com hD.com hS h
theorem b_free (C : bC p s m args c A G own cd nL) {w1 w2 : va_W} {H : Heap} {locs : List Loc} (hD : va_D A (w1 ++ w2)) (hS : va_S A s.heap H locs) : ∀ q, va_A w2 H.size q → A q := fun q hq => by
  rcases hq with ⟨k, x, hq⟩ | hq
  · exact hD.2 (w1.length + k) (q, x) (by rw [List.getElem?_append_right (by omega), Nat.add_sub_cancel_left]; exact hq)
  · exact C.2.2.2.2.2.2 q (Nat.le_trans hS.1 hq)
theorem b_run (C : bC p s m args c A G own cd nL) {wd : List CD} {ad : Nat → Nat} {σ : St} {Qr : Option AV → St → Prop} {a : Array Value} {H : Heap} {locs : List Loc} {L : Array Slot} {st0 : List Value} (wr : va_W)
    (hrun : va_Run p G.1 e Rm s m args below meth c H locs cells slots 0 0 (F0 m pc L st0) st (cQ G wd ad Qr (va_A (cs G wd ad σ) H.size) a) (va_A (cs G wd ad σ) H.size)) (hP : va_P G.2.1 vwCl (wr ++ cs G wd ad σ) H) (hD : va_D A (wr ++ cs G wd ad σ)) (hS : va_S A s.heap H locs) (h : lv_has L nL ls)
    (kk : ∀ r σ', Qr r σ' → (∀ v, r = some v → av_ok v) → s_ok σ' → bR p e Rm s m args below meth c Q A G nL (pc + 3) ls ((r.map (av_c ad)).toList ++ st) (wr ++ cs G wd ad σ') cells slots) : W p G.1 e Rm s m args below meth c H locs cells slots Q (F0 m pc L st0) := by
  have hfree := b_free C hD hS
  intro T hT X
  obtain ⟨v, st₀, t, T', L', h0, X', hL, e1, e2, ⟨⟨r, σ', hv, hQ, hok, hs', hP', hD'⟩, hz, hkk⟩, sg⟩ := hrun T hT X
  cases hv
  rw [h0] at hz hkk
  have hS' : va_S A s.heap T'.heap (locs ++ L') := ⟨Nat.le_trans hS.1 (by rw [e1]; exact hz), fun q q1 q2 => by rw [e1, hkk q (Nat.lt_of_lt_of_le q1 hS.1) (fun z => q2 (hfree q z))]; exact hS.2.1 q q1 q2, fun q hq => by
    rcases List.mem_append.mp hq with h | h
    · exact hS.2.2 q h
    · exact hfree _ (hL q h)⟩
  obtain ⟨hP2, hD2⟩ := va_upd2 (H1 := T'.heap) hP hD (fun q q1 q2 => by rw [e1]; exact hkk q q1 q2) hfree (by rw [e1]; exact hP') hD'
  obtain ⟨t2, a1, b1⟩ := kk r σ' hQ hok hs' T'.heap (locs ++ L') L hP2 hD2 hS' h T' rfl X'
  exact ⟨t2, sg t2 a1, b1⟩
theorem b_fill (C : bC p s m args c A G own cd nL) {idx a n : Nat} {f : Nat → Int} (wr : va_W) (v : Int) (hv : r32 v) (hd : decode cd pc = .ok (.invokestatic idx, 3)) (hp : pc' = pc + 3) (hf : MLs own idx mJ7_fill_53178 2) (hn : n < 2147483648) (hfr : ∀ j, r32 (f j)) (hrm : (st.map fun v => v.category).sum ≤ 8) (hR : 1 ≤ Rm.frames ∧ 41 ≤ Rm.locals) (hR2 : cells ≤ Rm.cells ∧ slots ≤ Rm.slots)
    (kk : ∀ f' : Nat → Int, (∀ j, j < n → f' j = v) → (∀ j, r32 (f' j)) → bR p e Rm s m args below meth c Q A G nL pc' ls st (wr ++ [(a, .inl (G.2.2 0, n, .inl (fun j => Int32.ofInt (f' j))))]) cells slots) : bR p e Rm s m args below meth c Q A G nL pc ls (.int (Int32.ofInt v) :: .ref a :: st) (wr ++ [(a, .inl (G.2.2 0, n, .inl (fun j => Int32.ofInt (f j))))]) cells slots := by
  subst hp
  intro H locs L hP hD hS h
  obtain ⟨w1, w2, w3, w5, hdd, hmx⟩ := hf
  have hcon : conV G [.inr (0, n)] 0 mJ7_fill_53178 [vR 0, vI v] (fun _ j => f j, fun _ _ => 0) (fun σ' => ∀ j, j < n → σ'.1 0 j = v) := c_fill rfl hn v (fun σ' q1 q2 q3 q4 => q3)
  have hMet := hcon (fun _ => a) H.size (fun w hw => by
    rcases List.mem_cons.mp hw with rfl | hw
    · trivial
    · rcases List.mem_cons.mp hw with rfl | hw
      · exact hv
      · cases hw) (fun _ j => hfr j)
  have hGI : GoodIn gw (va_wsS own idx mJ7_fill_53178.1 (ws_m mJ7_fill_53178)) := by
    intro w hw
    simp only [va_wsS, List.cons_append, List.nil_append, List.mem_cons] at hw
    rcases hw with rfl | rfl | rfl | hw
    · exact ⟨w1, gw_good w1⟩
    · exact ⟨w2, gw_good w2⟩
    · exact ⟨w3, gw_good w3⟩
    · exact gw_G w5 w hw
  have hPb : va_P G.2.1 vwCl (cs G [.inr (0, n)] (fun _ => a) (fun _ j => f j, fun _ _ => 0)) H := hP.by (fun k => wr.length + k) (fun k q hk => by rw [List.getElem?_append_right (by omega), Nat.add_sub_cancel_left]; exact hk)
  have hDb : va_D (fun _ => True) (cs G [.inr (0, n)] (fun _ => a) (fun _ j => f j, fun _ _ => 0)) := ⟨fun i j x z hi hj _ => by
    have h1 := (List.getElem?_eq_some_iff.mp hi).1
    have h2 := (List.getElem?_eq_some_iff.mp hj).1
    simp only [cs, List.length_mapIdx, List.length_cons, List.length_nil] at h1 h2
    omega, fun _ _ _ => trivial⟩
  have hrun := va_runS (H := H) (locs := locs) (cells := cells) (slots := slots) (R := Rm) (e := e) (below := below) (meth := meth) (g := F0 m pc L (.int (Int32.ofInt v) :: .ref a :: st)) (As := [.ref a, .int (Int32.ofInt v)]) (rest := st) ⟨C.1, C.2.1, C.2.2.1, C.2.2.2.1, C.2.2.2.2.1⟩ hMet (va_cwS 2 C.2.2.2.2.1 hGI rfl rfl rfl hdd ⟨hR.1, by have := hR.2; show 8 + (4 + 11) + 41 * 0 ≤ Rm.locals; omega⟩)
    ⟨cP_blind, fun U hU hW => ⟨rfl, by rw [hU], by rw [hU]; exact hPb, C.2.2.2.2.2.1.moved hW, hDb⟩⟩ rfl rfl h.1 rfl (lv_room hrm) hd ⟨hR2.1, hR2.2⟩
  refine b_run C (wd := [.inr (0, n)]) (ad := fun _ => a) (σ := (fun _ j => f j, fun _ _ => 0)) wr hrun hP hD hS h (fun r σ' hq _ hs' => ?_)
  obtain ⟨rfl, hq⟩ := hq
  exact kk (σ'.1 0) hq (fun j => hs' 0 j)
/-- no WAYS but those from a place to itself -/
def dgW (i : Nat) : Int := if i % 13 = 0 then 0 else -1
abbrev aI (G : GX) (q n : Nat) : Nat × va_E := (q, .inl (G.2.2 0, n, .inl (fun _ => Int32.ofInt 0)))
abbrev aF (G : GX) (q n : Nat) (f : Nat → Int) : Nat × va_E := (q, .inl (G.2.2 0, n, .inl (fun j => Int32.ofInt (f j))))
abbrev aZ (G : GX) (q n : Nat) : Nat × va_E := (q, .inl (G.2.2 2, n, .inl (fun _ => Int32.ofInt 0)))
abbrev aL (G : GX) (q n : Nat) : Nat × va_E := (q, .inl (G.2.2 1, n, .inr (.inl (fun _ => 0))))
theorem i32_s (a b : Nat) : Int32.ofInt (a : Int) + Int32.ofInt (b : Int) = Int32.ofInt ((a + b : Nat) : Int) := by rw [← Int32.ofInt_add]; congr 1
theorem i32_m (a b : Nat) : Int32.ofInt (a : Int) * Int32.ofInt (b : Int) = Int32.ofInt ((a * b : Nat) : Int) := by rw [← Int32.ofInt_mul]; congr 1
theorem n32 {a : Nat} (h : a < 2147483648) : r32 (a : Int) := ⟨by omega, by omega⟩
theorem tail_X8 {h0 q1 q2 q3 : Nat} (C : bC p s m args c A G RX8 cX8_init 2) (hml : MLs RX8 22 mJ7_fill_53178 2) (hR : 1 ≤ Rm.frames ∧ 41 ≤ Rm.locals) (hR2 : cells ≤ Rm.cells ∧ slots ≤ Rm.slots)
    (K : ∀ (f : Nat → Int) (ls : List (Nat × Value)), (∀ i, i < 144 → f i = dgW i) → (∀ j, r32 (f j)) → bR p e Rm s m args below meth c Q A G 2 64 ls [] [(h0, .inr (8, [.ref q1, .ref q2, .ref q3])), aF G q1 144 f, aI G q2 144, aZ G q3 12] cells slots) :
    bR p e Rm s m args below meth c Q A G 2 30 [(0, .ref h0)] [] [(h0, .inr (8, [.ref q1, .ref q2, .ref q3])), aI G q1 144, aI G q2 144, aZ G q3 12] cells slots := by
  refine b_aload (pc' := 31) C 0 dX8_init_30 rfl rfl ?_
  refine b_get (pc' := 34) (v := .ref q1) C 0 dX8_init_31 rfl fl_X8_9 rfl rfl ?_
  refine b_iconst (pc' := 35) (n := -1) C dX8_init_34 rfl ?_
  refine b_perm (ws' := [(h0, .inr (8, [.ref q1, .ref q2, .ref q3])), aI G q2 144, aZ G q3 12] ++ [aF G q1 144 (fun _ => 0)]) [0, 2, 3, 1] (by decide) rfl ?_
  refine b_fill (pc' := 38) C (f := fun _ => 0) [(h0, .inr (8, [.ref q1, .ref q2, .ref q3])), aI G q2 144, aZ G q3 12] (-1) ⟨by decide, by decide⟩ dX8_init_35 rfl hml (by decide) (fun _ => r32_0) (by decide) hR hR2 (fun f0 hf0 hr0 => ?_)
  refine b_iconst (pc' := 39) (n := 0) C dX8_init_38 rfl ?_
  refine b_istore (pc' := 40) (ls' := [(1, .int (Int32.ofInt ((0 : Nat) : Int))), (0, .ref h0)]) C dX8_init_39 rfl (by decide) rfl ?_
  have loop : ∀ k i : Nat, i + k = 12 → ∀ f : Nat → Int, (∀ j, j < 144 → f j = if j % 13 = 0 ∧ j < 13 * i then 0 else -1) → (∀ j, r32 (f j)) → bR p e Rm s m args below meth c Q A G 2 40 [(1, .int (Int32.ofInt (i : Int))), (0, .ref h0)] [] ([(h0, .inr (8, [.ref q1, .ref q2, .ref q3])), aI G q2 144, aZ G q3 12] ++ [aF G q1 144 f]) cells slots := by
    intro k
    induction k with
    | zero =>
      intro i hi f hf hr
      have e : i = 12 := by omega
      subst e
      refine b_iload (pc' := 41) C 0 dX8_init_40 rfl rfl ?_
      refine b_bipush (pc' := 43) (n := 12) C dX8_init_41 rfl (by decide) ?_
      refine b_icmp_ge (pc' := 46) (tgt := 64) C dX8_init_43 rfl (by decide) (fun _ => ?_) (fun z => absurd (by decide) z)
      refine b_perm (ws' := [(h0, .inr (8, [.ref q1, .ref q2, .ref q3])), aF G q1 144 f, aI G q2 144, aZ G q3 12]) [0, 3, 1, 2] (by decide) rfl (K f _ (fun j hj => ?_) hr)
      rw [hf j hj]
      unfold dgW
      by_cases z : j % 13 = 0
      · rw [if_pos ⟨z, by omega⟩, if_pos z]
      · rw [if_neg (fun y => z y.1), if_neg z]
    | succ k ih =>
      intro i hi f hf hr
      refine b_iload (pc' := 41) C 0 dX8_init_40 rfl rfl ?_
      refine b_bipush (pc' := 43) (n := 12) C dX8_init_41 rfl (by decide) ?_
      refine b_icmp_ge (pc' := 46) (tgt := 64) C dX8_init_43 rfl (by decide) (fun z => ?_) (fun _ => ?_)
      · rw [i32_le ⟨by decide, by decide⟩ (n32 (by omega))] at z
        omega
      refine b_aload (pc' := 47) C 1 dX8_init_46 rfl rfl ?_
      refine b_get (pc' := 50) (v := .ref q1) C 0 dX8_init_47 rfl fl_X8_9 rfl rfl ?_
      refine b_iload (pc' := 51) C 0 dX8_init_50 rfl rfl ?_
      refine b_bipush (pc' := 53) (n := 12) C dX8_init_51 rfl (by decide) ?_
      refine b_imul (pc' := 54) C dX8_init_53 rfl ?_
      refine b_iload (pc' := 55) C 0 dX8_init_54 rfl rfl ?_
      refine b_iadd (pc' := 56) C dX8_init_55 rfl ?_
      refine b_iconst (pc' := 57) (n := 0) C dX8_init_56 rfl ?_
      rw [show Int32.ofInt (i : Int) * Int32.ofInt 12 + Int32.ofInt (i : Int) = Int32.ofInt ((13 * i : Nat) : Int) from by
        rw [show (12 : Int) = ((12 : Nat) : Int) from rfl, i32_m, i32_s]
        congr 2
        omega]
      refine b_iastore (pc' := 58) (i := 13 * i) (f := f) (x := 0) (ws' := [(h0, .inr (8, [.ref q1, .ref q2, .ref q3])), aI G q2 144, aZ G q3 12] ++ [aF G q1 144 (uf f (13 * i) 0)]) C 3 dX8_init_57 rfl rfl (by omega) (by decide) rfl ?_
      refine b_iinc (pc' := 61) (ls' := [(1, .int (Int32.ofInt ((i + 1 : Nat) : Int))), (0, .ref h0)]) C 0 dX8_init_58 rfl rfl (i32_s i 1) (by decide) rfl ?_
      refine b_goto (tgt := 40) C dX8_init_61 (by decide) (ih (i + 1) (by omega) _ (fun j hj => ?_) (fun j => ?_))
      · by_cases z : j = 13 * i
        · rw [z, uf_s, if_pos ⟨by omega, by omega⟩]
        · rw [uf_n z, hf j hj]
          by_cases y : j % 13 = 0 ∧ j < 13 * i
          · rw [if_pos y, if_pos ⟨y.1, by omega⟩]
          · rw [if_neg y, if_neg (fun w => y ⟨w.1, by omega⟩)]
      · by_cases z : j = 13 * i
        · rw [z, uf_s]; exact r32_0
        · rw [uf_n z]; exact hr j
  exact loop 12 0 (by omega) f0 (fun j hj => by rw [hf0 j hj, if_neg (by omega)]) hr0
theorem tail_X10 {h0 q1 : Nat} {fs : List Value} {rest : va_W} (hfs : fs[0]? = some (.ref q1)) (C : bC p s m args c A G RX10 cX10_init 3)
    (K : ∀ (f : Nat → Int) (ls : List (Nat × Value)), (∀ i, i < 144 → f i = dgW i) → (∀ j, r32 (f j)) → bR p e Rm s m args below meth c Q A G 3 225 ls [] ((h0, .inr (10, fs)) :: aF G q1 144 f :: rest) cells slots) :
    bR p e Rm s m args below meth c Q A G 3 176 [(0, .ref h0)] [] ((h0, .inr (10, fs)) :: aF G q1 144 (fun _ => 0) :: rest) cells slots := by
  have outer : ∀ k a : Nat, a + k = 12 → ∀ f : Nat → Int, (∀ j, j < 12 * a → f j = dgW j) → (∀ j, r32 (f j)) → bR p e Rm s m args below meth c Q A G 3 178 [(1, .int (Int32.ofInt (a : Int))), (0, .ref h0)] [] ((h0, .inr (10, fs)) :: aF G q1 144 f :: rest) cells slots := by
    intro k
    induction k with
    | zero =>
      intro a ha f hf hr
      have e : a = 12 := by omega
      subst e
      refine b_iload (pc' := 179) C 0 dX10_init_178 rfl rfl ?_
      refine b_bipush (pc' := 181) (n := 12) C dX10_init_179 rfl (by decide) ?_
      exact b_icmp_ge (pc' := 184) (tgt := 225) C dX10_init_181 rfl (by decide) (fun _ => K f _ hf hr) (fun z => absurd (by decide) z)
    | succ k ih =>
      intro a ha f hf hr
      refine b_iload (pc' := 179) C 0 dX10_init_178 rfl rfl ?_
      refine b_bipush (pc' := 181) (n := 12) C dX10_init_179 rfl (by decide) ?_
      refine b_icmp_ge (pc' := 184) (tgt := 225) C dX10_init_181 rfl (by decide) (fun z => ?_) (fun _ => ?_)
      · rw [i32_le ⟨by decide, by decide⟩ (n32 (by omega))] at z
        omega
      refine b_iconst (pc' := 185) (n := 0) C dX10_init_184 rfl ?_
      refine b_istore (pc' := 186) (ls' := [(2, .int (Int32.ofInt ((0 : Nat) : Int))), (1, .int (Int32.ofInt (a : Int))), (0, .ref h0)]) C dX10_init_185 rfl (by decide) rfl ?_
      have inner : ∀ k' b : Nat, b + k' = 12 → ∀ f : Nat → Int, (∀ j, j < 12 * a + b → f j = dgW j) → (∀ j, r32 (f j)) → bR p e Rm s m args below meth c Q A G 3 186 [(2, .int (Int32.ofInt (b : Int))), (1, .int (Int32.ofInt (a : Int))), (0, .ref h0)] [] ((h0, .inr (10, fs)) :: aF G q1 144 f :: rest) cells slots := by
        intro k'
        induction k' with
        | zero =>
          intro b hb f hf hr
          have e : b = 12 := by omega
          subst e
          refine b_iload (pc' := 187) C 0 dX10_init_186 rfl rfl ?_
          refine b_bipush (pc' := 189) (n := 12) C dX10_init_187 rfl (by decide) ?_
          refine b_icmp_ge (pc' := 192) (tgt := 219) C dX10_init_189 rfl (by decide) (fun _ => ?_) (fun z => absurd (by decide) z)
          refine b_iinc (pc' := 222) (ls' := [(1, .int (Int32.ofInt ((a + 1 : Nat) : Int))), (2, .int (Int32.ofInt ((12 : Nat) : Int))), (0, .ref h0)]) C 1 dX10_init_219 rfl rfl (i32_s a 1) (by decide) rfl ?_
          refine b_goto (tgt := 178) C dX10_init_222 (by decide) ?_
          exact b_sub (ih (a + 1) (by omega) f (fun j hj => hf j (by omega)) hr) [0, 2] rfl
        | succ k' ih' =>
          intro b hb f hf hr
          have store : ∀ x : Int, x = dgW (12 * a + b) → bR p e Rm s m args below meth c Q A G 3 212 [(2, .int (Int32.ofInt (b : Int))), (1, .int (Int32.ofInt (a : Int))), (0, .ref h0)] [.int (Int32.ofInt x), .int (Int32.ofInt ((12 * a + b : Nat) : Int)), .ref q1] ((h0, .inr (10, fs)) :: aF G q1 144 f :: rest) cells slots := fun x hx => by
            refine b_iastore (pc' := 213) (i := 12 * a + b) (f := f) (x := x) (ws' := (h0, .inr (10, fs)) :: aF G q1 144 (uf f (12 * a + b) x) :: rest) C 1 dX10_init_212 rfl rfl (by omega) (by decide) rfl ?_
            refine b_iinc (pc' := 216) (ls' := [(2, .int (Int32.ofInt ((b + 1 : Nat) : Int))), (1, .int (Int32.ofInt (a : Int))), (0, .ref h0)]) C 0 dX10_init_213 rfl rfl (i32_s b 1) (by decide) rfl ?_
            refine b_goto (tgt := 186) C dX10_init_216 (by decide) (ih' (b + 1) (by omega) _ (fun j hj => ?_) (fun j => ?_))
            · by_cases z : j = 12 * a + b
              · rw [z, uf_s]; exact hx
              · rw [uf_n z]; exact hf j (by omega)
            · by_cases z : j = 12 * a + b
              · rw [z, uf_s, hx]
                unfold dgW
                by_cases y : (12 * a + b) % 13 = 0
                · rw [if_pos y]; exact r32_0
                · rw [if_neg y]; exact ⟨by decide, by decide⟩
              · rw [uf_n z]; exact hr j
          refine b_iload (pc' := 187) C 0 dX10_init_186 rfl rfl ?_
          refine b_bipush (pc' := 189) (n := 12) C dX10_init_187 rfl (by decide) ?_
          refine b_icmp_ge (pc' := 192) (tgt := 219) C dX10_init_189 rfl (by decide) (fun z => ?_) (fun _ => ?_)
          · rw [i32_le ⟨by decide, by decide⟩ (n32 (by omega))] at z
            omega
          refine b_aload (pc' := 193) C 2 dX10_init_192 rfl rfl ?_
          refine b_get (pc' := 196) (v := .ref q1) C 0 dX10_init_193 rfl fl_X10_7 rfl hfs ?_
          refine b_bipush (pc' := 198) (n := 12) C dX10_init_196 rfl (by decide) ?_
          refine b_iload (pc' := 199) C 1 dX10_init_198 rfl rfl ?_
          refine b_imul (pc' := 200) C dX10_init_199 rfl ?_
          refine b_iload (pc' := 201) C 0 dX10_init_200 rfl rfl ?_
          refine b_iadd (pc' := 202) C dX10_init_201 rfl ?_
          rw [show Int32.ofInt 12 * Int32.ofInt (a : Int) + Int32.ofInt (b : Int) = Int32.ofInt ((12 * a + b : Nat) : Int) from by
            rw [show (12 : Int) = ((12 : Nat) : Int) from rfl, i32_m, i32_s]]
          refine b_iload (pc' := 203) C 1 dX10_init_202 rfl rfl ?_
          refine b_iload (pc' := 204) C 0 dX10_init_203 rfl rfl ?_
          refine b_icmp_ne (pc' := 207) (tgt := 211) C dX10_init_204 rfl (by decide) (fun z => ?_) (fun z => ?_)
          · refine b_iconst (pc' := 212) (n := -1) C dX10_init_211 rfl (store (-1) ?_)
            rw [i32_eq (n32 (by omega)) (n32 (by omega))] at z
            unfold dgW
            rw [if_neg (by omega)]
          · refine b_iconst (pc' := 208) (n := 0) C dX10_init_207 rfl (b_goto (tgt := 212) C dX10_init_208 (by decide) (store 0 ?_))
            rw [i32_eq (n32 (by omega)) (n32 (by omega))] at z
            unfold dgW
            rw [if_pos (by omega)]
      exact inner 12 0 (by omega) f (fun j hj => hf j (by omega)) hr
  refine b_iconst (pc' := 177) (n := 0) C dX10_init_176 rfl ?_
  refine b_istore (pc' := 178) (ls' := [(1, .int (Int32.ofInt ((0 : Nat) : Int))), (0, .ref h0)]) C dX10_init_177 rfl (by decide) rfl ?_
  exact outer 12 0 (by omega) _ (fun j hj => by omega) (fun _ => r32_0)
end Tails
