/-! ===== more rules: forgetting locals, switches; contracts weakened; the plans of the two worlds ===== -/
def lsub : List AV → List AV → Prop
  | [], [] => True
  | a :: as, b :: bs => (b = a ∨ b = vN) ∧ lsub as bs
  | _, _ => False
theorem lsub_len : ∀ {a b : List AV}, lsub a b → b.length = a.length
  | [], [], _ => rfl
  | _ :: _, _ :: _, h => by simp [lsub_len h.2]
  | [], _ :: _, h => h.elim
  | _ :: _, [], h => h.elim
theorem lsub_at : ∀ {a b : List AV}, lsub a b → ∀ {j : Nat} {v : AV}, b[j]? = some v → v ≠ vN → a[j]? = some v
  | [], [], _, j, v, h1, _ => by simp at h1
  | x :: xs, y :: ys, h, j, v, h1, h2 => by
    cases j with
    | zero =>
      have e : y = v := by simpa using h1
      subst e
      rcases h.1 with e | e
      · rw [← e]; rfl
      · exact absurd e h2
    | succ j => exact lsub_at (j := j) h.2 (by simpa using h1) h2
  | [], _ :: _, h, _, _, _, _ => h.elim
  | _ :: _, [], h, _, _, _, _ => h.elim
theorem lsub_ok : ∀ {a b : List AV}, lsub a b → av_oks a → av_oks b
  | [], [], _, h => h
  | x :: xs, y :: ys, h, hk => by
    refine ok_cons ?_ (lsub_ok h.2 (ok_tl hk))
    rcases h.1 with e | e
    · rw [e]; exact ok_hd hk
    · rw [e]; trivial
  | [], _ :: _, h, _ => h.elim
  | _ :: _, [], h, _ => h.elim
/-- a switch: case by case -/
def swK (x : Int) (F : Nat → Prop) : Int → List Nat → Prop
  | _, [] => True
  | lo, t :: ts => (x = lo → F t) ∧ swK x F (lo + 1) ts
theorem swK_at {x : Int} {F : Nat → Prop} : ∀ {ts : List Nat} {lo : Int} {j t : Nat}, swK x F lo ts → ts[j]? = some t → x = lo + j → F t := by
  intro ts
  induction ts with
  | nil => intro lo j t _ h; simp at h
  | cons a as ih =>
    intro lo j t h h1 h2
    cases j with
    | zero =>
      have e : a = t := by simpa using h1
      rw [← e]
      exact h.1 (by simpa using h2)
    | succ j => exact ih (j := j) h.2 (by simpa using h1) (by rw [h2]; push_cast; omega)
section More
variable {G : GX} {wd : List CD} {d : Nat} {mi : MI} {Ret : Option AV → St → Prop} {R : Nat → List AV → List AV → St → Prop} {pc pc' : Nat} {ls st : List AV} {σ : St}
theorem r_weak (hM : AM G wd d mi Ret R) {ls' : List AV} (hw : lsub ls ls') (k : R pc ls' st σ) : R pc ls st σ := by
  obtain ⟨p, e, s, m, args, below, meth, c, A, ad, hx, hb, hml, hr, hlk, hown, hts, hK, hA, rfl⟩ := hM
  intro h1 h2 h3 H locs L hP hD hS hl
  refine k (lsub_ok hw h1) h2 h3 H locs L hP hD hS ⟨(lsub_len hw).trans hl.1, hl.2.1, hl.2.2.1, fun q hq => ?_⟩
  obtain ⟨j, v, q1, q2, q3⟩ := ll_mem.mp hq
  exact hl.2.2.2 q (ll_mem.mpr ⟨j, v, lsub_at hw q1 q2, q2, q3⟩)
theorem r_table (hM : AM G wd d mi Ret R) {x dflt lo hi : Int} {offs : Array Int} {len tgt : Nat} (tgts : List Nat) (hd : decode mi.2.1 pc = .ok (.tableswitch dflt lo hi offs, len)) (hlen : (offs.size : Int) = hi - lo + 1) (ht : (pc : Int) + dflt = (tgt : Int))
    (hts : tgts.map (fun t : Nat => (t : Int) - (pc : Int)) = offs.toList) (kt : swK x (fun t => R t ls st σ) lo tgts) (kd : ¬ (lo ≤ x ∧ x ≤ hi) → R tgt ls st σ) : R pc ls (vI x :: st) σ := by
  have hoff : ∀ (j : Nat) (off : Int), offs[j]? = some off → ∃ t : Nat, tgts[j]? = some t ∧ (pc : Int) + off = (t : Int) := by
    intro j off h
    rw [← Array.getElem?_toList, ← hts, List.getElem?_map] at h
    cases ht' : tgts[j]? with
    | none => rw [ht'] at h; cases h
    | some t =>
      rw [ht'] at h
      have e : (t : Int) - (pc : Int) = off := Option.some.inj h
      exact ⟨t, rfl, by omega⟩
  refine r_switch hM hd hlen ht kd (fun j off h1 h2 t h3 => ?_) (fun j off h => ?_)
  · obtain ⟨t', e1, e2⟩ := hoff j off h1
    have : t' = t := by omega
    subst this
    exact swK_at kt e1 h2
  · obtain ⟨t', e1, e2⟩ := hoff j off h
    exact ⟨t', e2⟩
theorem r_max (hM : AM G wd (d + 1) mi Ret R) {idx : Nat} {x y : Int} (hd : decode mi.2.1 pc = .ok (.invokestatic idx, 3)) (hp : pc' = pc + 3) (hf : MLs mi.1.cls idx mJ9_max_7cf53 2) (hrm : st.length ≤ 4) (k : R pc' ls (vI (if x < y then y else x) :: st) σ) : R pc ls (vI y :: vI x :: st) σ := by
  obtain ⟨p, e, s, m, args, below, meth, c, A, ad, hx, hb, hml, hr, hlk, hown, hts, hK, hA, rfl⟩ := hM
  subst hp
  intro h1 h2 h3 H locs L hP hD hS hl
  obtain ⟨w1, w2, w3, w5, -⟩ := hf
  have hok : r32 (if x < y then y else x) := by
    split
    · exact ok_hd h2
    · exact ok_hd (ok_tl h2)
  have k' := k h1 (ok_cons hok (ok_tl (ok_tl h2))) h3 H locs L hP hD hS hl
  have e0 : Int32.ofInt (if x < y then y else x) = if Int32.ofInt x < Int32.ofInt y then Int32.ofInt y else Int32.ofInt x := by
    by_cases c : x < y
    · rw [if_pos c, if_pos ((i32_lt (ok_hd (ok_tl h2)) (ok_hd h2)).mpr c)]
    · rw [if_neg c, if_neg (fun q => c ((i32_lt (ok_hd (ok_tl h2)) (ok_hd h2)).mp q))]
  rw [List.map_cons, av_cI, e0] at k'
  have hr1 := Nat.le_trans (st_room (ad := ad) (l := st)) (by omega : 2 * st.length ≤ 8)
  exact va_mmax hx hb (by rw [hml]; exact hl.2.1.symm) hown (hts _ (gw_in w1)) (hts _ (gw_in w2)) (hts _ (gw_in w3)) (hts _ (gw_in w5)) (show 1 ≤ d + 1 by omega) (show _ + 13 ≤ 41 * (d + 1) by omega) (Nat.zero_le _) (Nat.zero_le _) hd k'
theorem r_min (hM : AM G wd (d + 1) mi Ret R) {idx : Nat} {x y : Int} (hd : decode mi.2.1 pc = .ok (.invokestatic idx, 3)) (hp : pc' = pc + 3) (hf : MLs mi.1.cls idx mJ9_min_7cf53 2) (hrm : st.length ≤ 4) (k : R pc' ls (vI (if y < x then y else x) :: st) σ) : R pc ls (vI y :: vI x :: st) σ := by
  obtain ⟨p, e, s, m, args, below, meth, c, A, ad, hx, hb, hml, hr, hlk, hown, hts, hK, hA, rfl⟩ := hM
  subst hp
  intro h1 h2 h3 H locs L hP hD hS hl
  obtain ⟨w1, w2, w3, w5, -⟩ := hf
  have hok : r32 (if y < x then y else x) := by
    split
    · exact ok_hd h2
    · exact ok_hd (ok_tl h2)
  have k' := k h1 (ok_cons hok (ok_tl (ok_tl h2))) h3 H locs L hP hD hS hl
  have e0 : Int32.ofInt (if y < x then y else x) = if Int32.ofInt y < Int32.ofInt x then Int32.ofInt y else Int32.ofInt x := by
    by_cases c : y < x
    · rw [if_pos c, if_pos ((i32_lt (ok_hd h2) (ok_hd (ok_tl h2))).mpr c)]
    · rw [if_neg c, if_neg (fun q => c ((i32_lt (ok_hd h2) (ok_hd (ok_tl h2))).mp q))]
  rw [List.map_cons, av_cI, e0] at k'
  have hr1 := Nat.le_trans (st_room (ad := ad) (l := st)) (by omega : 2 * st.length ≤ 8)
  exact va_mmin hx hb (by rw [hml]; exact hl.2.1.symm) hown (hts _ (gw_in w1)) (hts _ (gw_in w2)) (hts _ (gw_in w3)) (hts _ (gw_in w5)) (show 1 ≤ d + 1 by omega) (show _ + 13 ≤ 41 * (d + 1) by omega) (Nat.zero_le _) (Nat.zero_le _) hd k'
theorem r_istoreN (hM : AM G wd d mi Ret R) {i : Nat} {x : Int} (hd : decode mi.2.1 pc = .ok (.istore i, 2)) (hp : pc' = pc + 2) (hi : i < ls.length) (hn : nol ls i = true) (k : ∀ y, y = x → R pc' (ls.set i (vI y)) st σ) : R pc ls (vI x :: st) σ := r_istore hM hd hp hi hn (k x rfl)
theorem r_istore_nN (hM : AM G wd d mi Ret R) {i : Fin 4} {x : Int} (hd : decode mi.2.1 pc = .ok (.istore_n i, 1)) (hp : pc' = pc + 1) (hi : (i : Nat) < ls.length) (hn : nol ls (i : Nat) = true) (k : ∀ y, y = x → R pc' (ls.set (i : Nat) (vI y)) st σ) : R pc ls (vI x :: st) σ := r_istore_n hM hd hp hi hn (k x rfl)
theorem conI.mono {m : MI} {args : List AV} {Q Q' : Int → St → Prop} (h : conI G wd d m args σ Q) (hq : ∀ x σ', Q x σ' → Q' x σ') : conI G wd d m args σ Q' :=
  Con.mono h (fun r σ' q => by obtain ⟨x, e, q⟩ := q; exact ⟨x, e, hq x σ' q⟩)
theorem conV.mono {m : MI} {args : List AV} {Q Q' : St → Prop} (h : conV G wd d m args σ Q) (hq : ∀ σ', Q σ' → Q' σ') : conV G wd d m args σ Q' :=
  Con.mono h (fun r σ' q => ⟨q.1, hq σ' q.2⟩)
theorem conI.of {m : MI} {args ls0 : List AV} {Q : Int → St → Prop} (hpl : plainName m.1.cls = true) (hls : ls0 = a_ls args ++ List.replicate (m.2.2.1 - (a_ls args).length) vN) (hlen : (a_ls args).length ≤ m.2.2.1)
    (h : ∀ Ret R, (∀ x σ', Q x σ' → Ret (some (vI x)) σ') → AM G wd d m Ret R → R 0 ls0 [] σ) : conI G wd d m args σ Q :=
  Con.of hpl hls hlen (fun R hM => h _ R (fun x σ' q => ⟨x, rfl, q⟩) hM)
theorem conV.of {m : MI} {args ls0 : List AV} {Q : St → Prop} (hpl : plainName m.1.cls = true) (hls : ls0 = a_ls args ++ List.replicate (m.2.2.1 - (a_ls args).length) vN) (hlen : (a_ls args).length ≤ m.2.2.1)
    (h : ∀ Ret R, (∀ σ', Q σ' → Ret none σ') → AM G wd d m Ret R → R 0 ls0 [] σ) : conV G wd d m args σ Q :=
  Con.of hpl hls hlen (fun R hM => h _ R (fun σ' q => ⟨rfl, q⟩) hM)
end More
theorem cat1 (x : Int) : ∀ ad, (av_c ad (vI x)).category = 1 := fun _ => rfl
theorem catR (x : Nat) : ∀ ad, (av_c ad (vR x)).category = 1 := fun _ => rfl
abbrev wdX : List CD := [.inl (0, [none, none, none, none, some 8, some 6]), .inl (1, [some 10, some 11, some 12, some 13, some 14, some 3, none, none]), .inl (2, [some 15, some 16, some 8, some 7]), .inl (3, [some 17, some 18, some 19, none, none]), .inl (4, [some 20, some 21, some 22, none, none, some 23, some 24, some 8, some 7, some 2, some 3, some 1]), .inl (5, [some 6, some 0, some 25, some 26, some 27, some 28, none, none, none, none]), .inl (6, [some 29, some 30, some 31, some 32, some 33, none, some 8, some 7, some 4]), .inl (7, [some 34, some 35, some 36, some 37, none]), .inl (8, [some 38, some 39, some 40]), .inl (9, [some 8, some 7, some 2, some 4, some 6, some 0, some 5, none]), .inr (0, 256), .inr (0, 16), .inr (0, 16), .inr (0, 16), .inr (0, 16), .inr (0, 16), .inr (0, 16), .inr (0, 16), .inr (0, 16), .inr (0, 16), .inr (0, 16), .inr (0, 16), .inr (0, 16), .inr (0, 16), .inr (0, 17), .inr (0, 1079), .inr (0, 13), .inr (1, 256), .inr (0, 12), .inr (0, 16), .inr (0, 16), .inr (0, 16), .inr (0, 16), .inr (0, 16), .inr (0, 16), .inr (0, 16), .inr (0, 16), .inr (0, 16), .inr (0, 144), .inr (0, 144), .inr (2, 12)]
abbrev wdM : List CD := [.inl (10, [some 1, some 2, some 3, none, some 4, some 5, some 6, some 7, none, none, none, none, some 8, none, some 9, none, some 10, some 11, none, some 12, some 13, some 14, some 15, some 16, some 17, none, some 18]), .inr (0, 144), .inr (0, 144), .inr (2, 12), .inr (0, 16), .inr (0, 16), .inr (0, 16), .inr (0, 16), .inr (0, 1114112), .inr (0, 16), .inr (0, 16), .inr (0, 16), .inr (0, 16), .inr (0, 16), .inr (0, 16), .inr (0, 16), .inr (0, 16), .inr (0, 4096), .inr (0, 48)]
