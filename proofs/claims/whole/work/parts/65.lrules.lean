/-! ===== the law's own rules ===== -/
abbrev lsL (b qX qM i : Nat) : List (Nat × Value) := [(3, .int (Int32.ofInt (i : Int))), (2, .ref qM), (1, .ref qX), (0, .ref b)]
def bz (z : Int) : Int := if z = 0 then 0 else 1
theorem bz_01 (z : Int) : bz z = 0 ∨ bz z = 1 := by
  unfold bz
  by_cases q : z = 0
  · rw [if_pos q]; exact Or.inl rfl
  · rw [if_neg q]; exact Or.inr rfl
theorem bz_r (z : Int) : r32 (bz z) := by
  rcases bz_01 z with q | q <;> rw [q] <;> exact ⟨by decide, by decide⟩
section LRules
variable {p : Program} {e : Env} {Rm : Room} {s : State} {m : MethodId} {args : Array Value} {below : List Frame} {meth : Method} {c : Code} {Q : State → Prop} {A : Nat → Prop} {G : GX} {own : String} {cd : ByteArray} {nL : Nat} {pc pc' : Nat} {ls ls' : List (Nat × Value)} {st : List Value} {ws ws' : va_W} {cells slots : Nat}
theorem b_permR {w1 w2 w2' : va_W} (is : List Nat) (hn : va_nd is = true) (hs : is.map (fun i => w2[i]?) = w2'.map some) (k : bR p e Rm s m args below meth c Q A G nL pc ls st (w1 ++ w2') cells slots) : bR p e Rm s m args below meth c Q A G nL pc ls st (w1 ++ w2) cells slots := by
  intro H locs L hP hD hS h
  have a1 : ∀ (k : Nat) (q : Nat × va_E), w1[k]? = some q → (w1 ++ w2)[k]? = some q := fun k q h => by
    rw [List.getElem?_append_left (List.getElem?_eq_some_iff.mp h).1]; exact h
  have a2 : ∀ (k : Nat) (q : Nat × va_E), w2[k]? = some q → (w1 ++ w2)[w1.length + k]? = some q := fun k q h => by
    rw [List.getElem?_append_right (by omega), Nat.add_sub_cancel_left]; exact h
  have hP1 : va_P G.2.1 vwCl w1 H := fun k q h => hP k q (a1 k q h)
  have hP2 : va_P G.2.1 vwCl w2 H := fun k q h => hP _ q (a2 k q h)
  have hD1 : va_D A w1 := ⟨fun i j x y hi hj z => hD.1 i j x y (a1 i x hi) (a1 j y hj) z, fun k q h => hD.2 k q (a1 k q h)⟩
  have hD2 : va_D A w2 := ⟨fun i j x y hi hj z => by have := hD.1 _ _ x y (a2 i x hi) (a2 j y hj) z; omega, fun k q h => hD.2 _ q (a2 k q h)⟩
  refine k H locs L (hP1.app (hP2.subm is hs)) (hD1.app (hD2.sub is hn hs) (fun i j x y hx hy z => ?_)) hS h
  have h1 : (is.map (fun i => w2[i]?))[j]? = some (some y) := by rw [hs, List.getElem?_map, hy]; rfl
  rw [List.getElem?_map] at h1
  cases hi : is[j]? with
  | none => rw [hi] at h1; cases h1
  | some i' =>
    rw [hi] at h1
    have := hD.1 _ _ x y (a1 i x hx) (a2 i' y (Option.some.inj h1)) z
    have := (List.getElem?_eq_some_iff.mp hx).1
    omega
theorem b_sld (C : bC p s m args c A G own cd nL) {b L i : Nat} {xs : Nat → Int32} (hX : va_X b L xs s s.heap) (hbl : b < s.heap.size) (hbA : ¬ A b) (hL : L ≤ 2560) (hi : i < L) (hd : decode cd pc = .ok (.iaload, 1)) (hp : pc' = pc + 1) (k : bR p e Rm s m args below meth c Q A G nL pc' ls (.int (Int32.ofInt (xs i).toInt) :: st) ws cells slots) : bR p e Rm s m args below meth c Q A G nL pc ls (.int (Int32.ofInt (i : Int)) :: .ref b :: st) ws cells slots := by
  subst hp
  intro H locs Ls hP hD hS h
  refine va_sld C.1 C.2.1 hX hbl hbA hS (i32_in (n32 (by omega)) (by omega) (by omega)) hd ?_
  have k' := k H locs Ls hP hD hS h
  rw [i32_asI] at k'
  rw [i32_cl (n32 (by omega)), Int.toNat_natCast]
  exact k'
theorem b_slen (C : bC p s m args c A G own cd nL) {b L : Nat} {xs : Nat → Int32} (hX : va_X b L xs s s.heap) (hbl : b < s.heap.size) (hbA : ¬ A b) (hd : decode cd pc = .ok (.arraylength, 1)) (hp : pc' = pc + 1) (k : bR p e Rm s m args below meth c Q A G nL pc' ls (.int (Int32.ofInt (L : Int)) :: st) ws cells slots) : bR p e Rm s m args below meth c Q A G nL pc ls (.ref b :: st) ws cells slots := by
  subst hp
  intro H locs Ls hP hD hS h
  have k' := k H locs Ls hP hD hS h
  rw [of_nat] at k'
  exact va_slen C.1 C.2.1 hX hbl hbA hS hd k'
theorem b_table (C : bC p s m args c A G own cd nL) {x : Int32} {dflt lo hi : Int} {offs : Array Int} {len tgt : Nat} (tgts : List Nat) (hd : decode cd pc = .ok (.tableswitch dflt lo hi offs, len)) (hlen : (offs.size : Int) = hi - lo + 1) (ht : (pc : Int) + dflt = (tgt : Int)) (hts : tgts.map (fun t : Nat => (t : Int) - (pc : Int)) = offs.toList)
    (kt : swK x.toInt (fun t => bR p e Rm s m args below meth c Q A G nL t ls st ws cells slots) lo tgts) (kd : bR p e Rm s m args below meth c Q A G nL tgt ls st ws cells slots) : bR p e Rm s m args below meth c Q A G nL pc ls (.int x :: st) ws cells slots := by
  intro H locs L hP hD hS h
  by_cases hin : lo ≤ x.toInt ∧ x.toInt ≤ hi
  · have hj : (x.toInt - lo).toNat < offs.size := by omega
    have ho := Array.getElem?_eq_getElem hj
    have hq : offs.toList[(x.toInt - lo).toNat]? = some offs[(x.toInt - lo).toNat] := by rw [Array.getElem?_toList]; exact ho
    rw [← hts, List.getElem?_map] at hq
    cases ht' : tgts[(x.toInt - lo).toNat]? with
    | none => rw [ht'] at hq; cases hq
    | some t =>
      rw [ht'] at hq
      have e1 : (t : Int) - (pc : Int) = offs[(x.toInt - lo).toNat] := Option.some.inj hq
      exact lv_tableIn C.1 C.2.1 hd (by omega) (by omega) ho (tgt := t) (by omega) (swK_at kt ht' (by omega) H locs L hP hD hS h)
  · exact lv_tableOut C.1 C.2.1 hd (by omega) ht (kd H locs L hP hD hS h)
theorem l_call (C : bC p s m args c A G own cd nL) {wd : List CD} {ad : Nat → Nat} {σ : St} {idx ci n o d : Nat} {m' : MI} {fs : List (Option Nat)} {stk : List Value} {Pq : Int → St → Prop} (As : List Int) (wr : va_W) (hd : decode cd pc = .ok (.invokevirtual idx, 3)) (hp : pc' = pc + 3) (hf : MLv own idx m' ci n) (ho : wd[o]? = some (.inl (ci, fs))) (hn : As.length = n) (hst : stk = (As.map (fun a => Value.int (Int32.ofInt a))).reverse ++ .ref (ad o) :: st) (hrm : (st.map fun v => v.category).sum ≤ 8)
    (hAs : ∀ a ∈ As, r32 a) (hσ : s_ok σ) (hR : d + 1 ≤ Rm.frames ∧ 41 * d + 41 ≤ Rm.locals) (hR2 : cells ≤ Rm.cells ∧ slots ≤ Rm.slots) (hc : conI G wd d m' (vR o :: As.map vI) σ Pq)
    (kk : ∀ r σ', Pq r σ' → s_ok σ' → r32 r → bR p e Rm s m args below meth c Q A G nL pc' ls (.int (Int32.ofInt r) :: st) (wr ++ cs G wd ad σ') cells slots) : bR p e Rm s m args below meth c Q A G nL pc ls stk (wr ++ cs G wd ad σ) cells slots := by
  subst hp
  subst hst
  intro H locs L hP hD hS h
  obtain ⟨q, hq, hcls, w1, w2, w3, w4, w5, hdd, hmx⟩ := hf
  have hPb : va_P G.2.1 vwCl (cs G wd ad σ) H := hP.by (fun k => wr.length + k) (fun k q hk => by rw [List.getElem?_append_right (by omega), Nat.add_sub_cancel_left]; exact hk)
  have hDb : va_D (fun _ => True) (cs G wd ad σ) := ⟨fun i j x y hi hj z => by
    have := hD.1 (wr.length + i) (wr.length + j) x y (by rw [List.getElem?_append_right (by omega), Nat.add_sub_cancel_left]; exact hi) (by rw [List.getElem?_append_right (by omega), Nat.add_sub_cancel_left]; exact hj) z
    omega, fun _ _ _ => trivial⟩
  have hMet := hc ad H.size (ok_cons (v := vR o) trivial (fun v hv => by
    obtain ⟨a, ha, rfl⟩ := List.mem_map.mp hv
    exact hAs a ha)) hσ
  have hGI : GoodIn gw (wsV own idx q.1 m'.1 (ws_m m')) := by
    intro w hw
    simp only [wsV, List.cons_append, List.nil_append, List.mem_cons] at hw
    rcases hw with rfl | rfl | rfl | rfl | hw
    · exact ⟨w1, gw_good w1⟩
    · exact ⟨w2, gw_good w2⟩
    · exact ⟨w3, gw_good w3⟩
    · exact ⟨w4, gw_good w4⟩
    · exact gw_G w5 w hw
  have hmap : (As.map vI).map (av_c ad) = As.map (fun a => Value.int (Int32.ofInt a)) := by
    rw [List.map_map]; rfl
  have hrun := va_runV (H := H) (locs := locs) (cells := cells) (slots := slots) (R := Rm) (e := e) (below := below) (meth := meth) (g := F0 m pc L ((As.map (fun a => Value.int (Int32.ofInt a))).reverse ++ .ref (ad o) :: st)) (As := (As.map vI).map (av_c ad)) (rest := st) (C := q.1) (b := ad o) ⟨C.1, C.2.1, C.2.2.1, C.2.2.2.1, C.2.2.2.2.1⟩ hMet (cwV n C.2.2.2.2.1 hGI rfl rfl rfl ⟨hcls, hdd⟩ ⟨hR.1, by have := hR.2; show 8 + (m'.2.2.1 + 11) + 41 * d ≤ Rm.locals; omega⟩)
    ⟨cP_blind, va_recv C.2.2.2.2.2.1.1 hPb hq (cs_o ho), fun U hU hW => ⟨rfl, by rw [hU], by rw [hU]; exact hPb, C.2.2.2.2.2.1.moved hW, hDb⟩⟩ rfl (by rw [List.length_map, List.length_map]; exact hn) h.1 (by rw [hmap]) (lv_room hrm) hd ⟨hR2.1, hR2.2⟩
  refine b_run C (wd := wd) (ad := ad) (σ := σ) wr hrun hP hD hS h (fun r σ' hq hok hs' => ?_)
  obtain ⟨x, rfl, hq⟩ := hq
  exact kk x σ' hq hs' (hok _ rfl)
/-- one of the script's ints -/
theorem l_arg (C : bC p s m args c A G own cd nL) {b L i k qX qM : Nat} {kz : Int} {xs : Nat → Int32} (hX : va_X b L xs s s.heap) (hbl : b < s.heap.size) (hbA : ¬ A b) (hL : L ≤ 2560) (hi : i + k < L) (hk : kz = (k : Int)) (hp : pc' = pc + 5)
    (d0 : decode cd pc = .ok (.aload_n 0, 1)) (d1 : decode cd (pc + 1) = .ok (.iload_n 3, 1)) (d2 : decode cd (pc + 2) = .ok (.iconst kz, 1)) (d3 : decode cd (pc + 3) = .ok (.iadd, 1)) (d4 : decode cd (pc + 4) = .ok (.iaload, 1))
    (kk : bR p e Rm s m args below meth c Q A G nL pc' (lsL b qX qM i) (.int (Int32.ofInt (xs (i + k)).toInt) :: st) ws cells slots) : bR p e Rm s m args below meth c Q A G nL pc (lsL b qX qM i) st ws cells slots := by
  subst hp
  subst hk
  refine b_aload C 3 d0 rfl rfl (b_iload C 0 d1 rfl rfl (b_iconst C d2 rfl (b_iadd C d3 rfl ?_)))
  rw [i32_s]
  exact b_sld C hX hbl hbA hL hi d4 rfl kk
/-- .. as a boolean -/
theorem l_bool (C : bC p s m args c A G own cd nL) {z : Int} (hz : r32 z) (hp : pc' = pc + 8) (e0 : decode cd pc = .ok (.ifCond .eq 7, 3)) (e1 : decode cd (pc + 3) = .ok (.iconst 1, 1)) (e2 : decode cd (pc + 4) = .ok (.goto 4, 3)) (e3 : decode cd (pc + 7) = .ok (.iconst 0, 1))
    (kk : bR p e Rm s m args below meth c Q A G nL pc' ls (.int (Int32.ofInt (bz z)) :: st) ws cells slots) : bR p e Rm s m args below meth c Q A G nL pc ls (.int (Int32.ofInt z) :: st) ws cells slots := by
  subst hp
  unfold bz at kk
  refine b_if_eq (pc' := pc + 3) (tgt := pc + 7) C e0 rfl (by omega) (fun q => ?_) (fun q => ?_)
  · rw [i32_eq0 hz] at q
    rw [if_pos q] at kk
    exact b_iconst (pc' := pc + 8) C e3 rfl kk
  · rw [i32_eq0 hz] at q
    rw [if_neg q] at kk
    exact b_iconst (pc' := pc + 4) C e1 rfl (b_goto (tgt := pc + 8) C e2 (by omega) kk)
end LRules
