/-! ===== the model's roster: its tables, its sets ===== -/
def MT (σ σ' : St) : Prop := (∀ c, c ≠ 0 → c ≠ 17 → c ≠ 18 → σ'.1 c = σ.1 c) ∧ ∀ c, c ≠ 25 → σ'.1 0 c = σ.1 0 c
theorem MT.rfl' {σ : St} : MT σ σ := ⟨fun _ _ _ _ => rfl, fun _ _ => rfl⟩
theorem MT.tr {a b c : St} (h : MT a b) (h' : MT b c) : MT a c := ⟨fun k h1 h2 h3 => (h'.1 k h1 h2 h3).trans (h.1 k h1 h2 h3), fun k h1 => (h'.2 k h1).trans (h.2 k h1)⟩
theorem MT.p17 {σ σ' τ : St} {j : Nat} {v : Int} (h : MT σ σ') (e : τ = sI σ' 17 j v) : MT σ τ := h.tr ⟨fun c _ h2 _ => by rw [e, sI_n _ h2], fun c _ => by rw [e, sI_n _ (by decide)]⟩
theorem MT.p18 {σ σ' τ : St} {j : Nat} {v : Int} (h : MT σ σ') (e : τ = sI σ' 18 j v) : MT σ τ := h.tr ⟨fun c _ _ h3 => by rw [e, sI_n _ h3], fun c _ => by rw [e, sI_n _ (by decide)]⟩
theorem MT.p25 {σ σ' τ : St} {v : Int} (h : MT σ σ') (e : τ = sI σ' 0 25 v) : MT σ τ := h.tr ⟨fun c h1 _ _ => by rw [e, sI_n _ h1], fun c h1 => by rw [e, sI_s, uf_n h1]⟩
abbrev LDM (σ : St) (N : Nat) : DT → Prop := LDt N (σ.1 12) (L1f (σ.1 13) (σ.1 14) (σ.1 6) (σ.1 7) (σ.1 0 8) (σ.1 0 9)) (L2f (σ.1 13) (σ.1 14) (σ.1 6) (σ.1 7) (gwM σ) (σ.1 0 8) (σ.1 0 9) (σ.1 0 10) (σ.1 0 11))
theorem LDM.mt {σ σ' : St} (h : MT σ σ') (N : Nat) : LDM σ' N = LDM σ N := by
  have k := h.1
  have ew : gwM σ' = gwM σ := by
    funext l j
    unfold gwM wM
    rw [k 1 (by decide) (by decide) (by decide), k 4 (by decide) (by decide) (by decide), k 5 (by decide) (by decide) (by decide), k 13 (by decide) (by decide) (by decide), k 14 (by decide) (by decide) (by decide)]
  unfold LDM
  rw [ew, h.2 8 (by decide), h.2 9 (by decide), h.2 10 (by decide), h.2 11 (by decide), k 12 (by decide) (by decide) (by decide), k 13 (by decide) (by decide) (by decide), k 14 (by decide) (by decide) (by decide), k 6 (by decide) (by decide) (by decide), k 7 (by decide) (by decide) (by decide)]
theorem SM.mt {σ σ' : St} {N : Nat} (h : SM σ N) (f : MT σ σ') : SM σ' N := by
  have k := f.1
  unfold SM at h ⊢
  rw [f.2 18 (by decide), k 12 (by decide) (by decide) (by decide), k 13 (by decide) (by decide) (by decide), k 14 (by decide) (by decide) (by decide), k 6 (by decide) (by decide) (by decide), k 7 (by decide) (by decide) (by decide)]
  exact h
theorem MB.mt {σ σ' : St} (h : MB σ) (f : MT σ σ') : MB σ' := by
  have k := f.1
  exact h.fr (f.2 3 (by decide)) (f.2 8 (by decide)) (f.2 9 (by decide)) (f.2 10 (by decide)) (f.2 11 (by decide)) (k 1 (by decide) (by decide) (by decide)) (k 2 (by decide) (by decide) (by decide)) (k 3 (by decide) (by decide) (by decide)) (k 4 (by decide) (by decide) (by decide)) (k 5 (by decide) (by decide) (by decide)) (k 6 (by decide) (by decide) (by decide)) (k 7 (by decide) (by decide) (by decide))
theorem PMs.mt {m m' : St} (h : PMs m) (f : MT m m') : PMs m' := by
  have p := f.1
  have efo : foM m' = foM m := foM.eq (p 1 (by decide) (by decide) (by decide)) (p 4 (by decide) (by decide) (by decide)) (p 5 (by decide) (by decide) (by decide)) (p 6 (by decide) (by decide) (by decide)) (p 7 (by decide) (by decide) (by decide))
  have epm : pM m' = pM m := pM.eq (p 2 (by decide) (by decide) (by decide)) (p 4 (by decide) (by decide) (by decide)) (p 5 (by decide) (by decide) (by decide))
  have erl : rlM m' = rlM m := by funext u; unfold rlM; rw [p 3 (by decide) (by decide) (by decide), p 5 (by decide) (by decide) (by decide)]
  unfold PMs rowsM at h ⊢
  rw [efo, epm, erl, f.2 3 (by decide), f.2 15 (by decide), f.2 18 (by decide), p 9 (by decide) (by decide) (by decide), p 10 (by decide) (by decide) (by decide), p 11 (by decide) (by decide) (by decide), p 12 (by decide) (by decide) (by decide), p 13 (by decide) (by decide) (by decide), p 14 (by decide) (by decide) (by decide), p 15 (by decide) (by decide) (by decide), p 16 (by decide) (by decide) (by decide)]
  exact h
theorem Bas.mt {x m m' : St} (h : Bas x m) (f : MT m m') : Bas x m' := by
  obtain ⟨h1, h2, h3, h4, h5, h6, h7, h8⟩ := h
  have p := f.1
  refine ⟨h1, h2.mt f, ?_, h4, h5, by rw [f.2 13 (by decide)]; exact h6, h7, fun z => (h8 (by rw [← f.2 13 (by decide)]; exact z)).mt f⟩
  unfold BR at h3 ⊢
  rw [f.2 3 (by decide), f.2 8 (by decide), f.2 9 (by decide), f.2 10 (by decide), f.2 11 (by decide), p 1 (by decide) (by decide) (by decide), p 2 (by decide) (by decide) (by decide), p 3 (by decide) (by decide) (by decide), p 4 (by decide) (by decide) (by decide), p 5 (by decide) (by decide) (by decide), p 6 (by decide) (by decide) (by decide), p 7 (by decide) (by decide) (by decide)]
  exact h3
/-- a set of SEGMENTS -/
def pS (S : Nat) : Nat → Bool := fun i => tb (S : Int) i
theorem pS_hi {N S : Nat} (hN : N ≤ 12) (hS : S < 2 ^ N) {i : Nat} (h1 : N ≤ i) : pS S i = false := by
  by_cases q : i < 32
  · exact D_hi hN hS h1 q
  · unfold pS tb; exact b_big (by omega)
theorem pS_full {N : Nat} (hN : N ≤ 12) : pS (2 ^ N - 1) = pC N 0 := by
  have hU := (bU_tb N (by omega)).2
  have e : ((2 ^ N - 1 : Nat) : Int) = 2 ^ N - 1 := by
    have b : 0 < 2 ^ N := Nat.pow_pos (by decide)
    rw [Int.ofNat_sub b]; simp
  funext i
  by_cases q : i < 32
  · show tb ((2 ^ N - 1 : Nat) : Int) i = (decide (i < N) && !tb ((0 : Nat) : Int) i)
    rw [e, hU i q, show ((0 : Nat) : Int) = 0 from rfl, tb_0]
    cases decide (i < N) <;> rfl
  · rw [pS_hi hN (Nat.sub_lt (Nat.pow_pos (by decide)) (by decide)) (by omega)]
    unfold pC
    rw [decide_eq_false (by omega)]; rfl
theorem nI_bv {n : Nat} (h : n < 4096) : (Int32.ofInt (n : Int)).toBitVec.toNat = n := by
  rw [of_nat]
  show (BitVec.ofNat 32 n).toNat = n
  rw [BitVec.toNat_ofNat, Nat.mod_eq_of_lt (by omega)]
theorem sub_bits {S x : Nat} (hS : S < 4096) (hx : x < 4096) (h : bAnd (x : Int) (S : Int) = (x : Int)) : ∃ T : Nat, (S : Int) - (x : Int) = (T : Int) ∧ T ≤ S ∧ (0 < x → T < S) ∧ ∀ i, i < 32 → tb (T : Int) i = (tb (S : Int) i && !tb (x : Int) i) := by
  have hb : ∀ i, i < 32 → tb (bAnd (S : Int) (bXor (x : Int) (-1))) i = (tb (S : Int) i && !tb (x : Int) i) := fun i hi => by rw [tb_and, tb_not _ hi]
  have lt := tb_lt (r32_and (S : Int) (bXor (x : Int) (-1))) (n := 12) (by decide) (fun i h1 h2 => by rw [hb i h2, D_hi (N := 12) (by decide) hS h1 h2]; rfl)
  generalize bAnd (S : Int) (bXor (x : Int) (-1)) = y at hb lt
  have ey : y = ((y.toNat : Nat) : Int) := by omega
  have hxS : ∀ i, i < 32 → tb (x : Int) i = true → tb (S : Int) i = true := fun i hi q => by
    rw [← h, tb_and, Bool.and_eq_true] at q
    exact q.2
  have e1 : (Int32.ofInt y).toBitVec &&& (Int32.ofInt (x : Int)).toBitVec = 0#32 := by
    apply BitVec.eq_of_getLsbD_eq
    intro i hi
    rw [BitVec.getLsbD_and, BitVec.getLsbD_zero]
    have := hb i hi
    show (tb y i && tb (x : Int) i) = false
    rw [this]
    cases tb (S : Int) i <;> cases tb (x : Int) i <;> rfl
  have e2 : (Int32.ofInt y).toBitVec ||| (Int32.ofInt (x : Int)).toBitVec = (Int32.ofInt (S : Int)).toBitVec := by
    apply BitVec.eq_of_getLsbD_eq
    intro i hi
    rw [BitVec.getLsbD_or]
    have a := hb i hi
    have b := hxS i hi
    show (tb y i || tb (x : Int) i) = tb (S : Int) i
    rw [a]
    cases q : tb (x : Int) i with
    | false => cases tb (S : Int) i <;> rfl
    | true => rw [b q]; rfl
  have e3 := BitVec.add_eq_or_of_and_eq_zero _ _ e1
  rw [e2] at e3
  have e4 := congrArg BitVec.toNat e3
  rw [BitVec.toNat_add, nI_bv hx, nI_bv hS, ey, nI_bv (by omega), Nat.mod_eq_of_lt (by omega)] at e4
  refine ⟨y.toNat, by omega, by omega, by omega, fun i hi => ?_⟩
  rw [← ey]
  exact hb i hi
theorem bN_sub {S a b : Nat} (hb : b < 12) (hab : a ≤ b) : bAnd (bN a b) (S : Int) = bN a b ↔ ∀ i : Nat, a ≤ i → i ≤ b → pS S i = true := by
  have t := bN_tb b hb a (by omega) hab
  have r := bN_rng b hb a (by omega) hab
  constructor
  · intro h i h1 h2
    have w := t i (by omega)
    rw [← h, tb_and, t i (by omega), decide_eq_true ⟨h1, h2⟩, Bool.true_and] at w
    exact w
  · intro h
    refine tb_ext (r32_and _ _) ⟨by omega, by omega⟩ (fun i hi => ?_)
    rw [tb_and, t i hi]
    by_cases q : a ≤ i ∧ i ≤ b
    · rw [decide_eq_true q, Bool.true_and]; exact h i q.1 q.2
    · rw [decide_eq_false q, Bool.false_and]
theorem bN_rest {S a b : Nat} (hS : S < 4096) (hb : b < 12) (hab : a ≤ b) (h : bAnd (bN a b) (S : Int) = bN a b) : ∃ T : Nat, (S : Int) - bN a b = (T : Int) ∧ T < S ∧ ∀ i, pS T i = (pS S i && !decide (a ≤ i ∧ i ≤ b)) := by
  have t := bN_tb b hb a (by omega) hab
  have r := bN_rng b hb a (by omega) hab
  have e : bN a b = (((bN a b).toNat : Nat) : Int) := by omega
  rw [e] at h
  obtain ⟨T, t1, t2, t3, t4⟩ := sub_bits hS (by omega) h
  refine ⟨T, by rw [e]; exact t1, t3 (by omega), fun i => ?_⟩
  by_cases q : i < 32
  · show tb (T : Int) i = (tb (S : Int) i && !decide (a ≤ i ∧ i ≤ b))
    rw [t4 i q, ← e, t i q]
  · rw [pS_hi (N := 12) (by decide) (show T < 2 ^ 12 by omega) (by omega), pS_hi (N := 12) (by decide) hS (by omega)]
    rfl
section MRos
variable {G : GX} {d : Nat} {σ : St} {N : Nat} {Q : Int → St → Prop}
theorem c_M_bits {a b : Nat} (hb : b < 12) (hab : a ≤ b) (K : Q (bN a b) σ) : conI G wdM d mX10_bits [vI a, vI b] σ Q := by
  refine conI.of (ls0 := [vI a, vI b]) rfl rfl (Nat.le_of_ble_eq_true rfl) (fun Ret R hret hM => g_X10_bits_0 hM a b σ ?_)
  rw [show ((b : Int) + 1) = ((b + 1 : Nat) : Int) by omega, bShl_1 (b + 1) (by omega), bShl_1 a (by omega)]
  have r := bN_rng b hb a (by omega) hab
  have e : (2 : Int) ^ (b + 1) - 2 ^ a = bN a b := rfl
  rw [e]
  exact ⟨⟨by omega, by omega⟩, ⟨by omega, by omega⟩, hret _ _ K⟩
theorem c_M_lowest {S s : Nat} (hs : s < 32) (h1 : pS S s = true) (h2 : ∀ j, j < s → pS S j = false) (K : Q (s : Int) σ) : conI G wdM d mX10_lowest [vI S] σ Q := by
  refine conI.of (ls0 := [vI S, vN]) rfl rfl (Nat.le_of_ble_eq_true rfl) (fun Ret R hret hM => g_X10_lowest_0 hM S σ ?_)
  have loop : ∀ m k : Nat, k + m = s → R 2 [vI S, vI k] [] σ := by
    intro m
    induction m with
    | zero =>
      intro k hk
      have e : k = s := by omega
      subst e
      refine g_X10_lowest_2 hM S k σ ?_
      rw [bit1 _ hs, show tb (S : Int) k = true from h1]
      exact ⟨fun _ => hret _ _ K, fun z => by simp at z⟩
    | succ m ih =>
      intro k hk
      refine g_X10_lowest_2 hM S k σ ?_
      rw [bit1 _ (by omega), show tb (S : Int) k = false from h2 k (by omega)]
      refine ⟨fun z => by simp at z, fun _ => ⟨⟨by omega, by omega⟩, ?_⟩⟩
      rw [show ((k : Int) + 1) = ((k + 1 : Nat) : Int) by omega]
      exact ih (k + 1) (by omega)
  exact loop s 0 (by omega)
theorem c_brokenD {δ : DT} (hB : MB σ) (hS : SM σ N) (hp : posD N (σ.1 12) δ) (K : ∀ v : Int, (v = 0 ↔ LDM σ N δ) → Q v σ) : conI G wdM (d + 1) mX10_broken [vR 0, vI δ.1, vI δ.2.1, vI δ.2.2.1, vI δ.2.2.2] σ Q := by
  obtain ⟨p1, p2⟩ := hp
  have hp : posD N (σ.1 12) δ := ⟨p1, p2⟩
  have q1 := p1.1
  have q2 := p1.2.1
  have q3 := p1.2.2.1
  rcases p2 with z | z
  · have goal : conI G wdM (d + 1) mX10_broken [vR 0, vI (δ.1.toNat : Int), vI (δ.2.1.toNat : Int), vI δ.2.2.1, vI δ.2.2.2] σ Q := c_M_broken1 (d := d) hB hS (by omega) (by omega) _ _ (by omega) (K _ ⟨fun w => ⟨hp, fun _ => w, fun y => absurd z.1 y⟩, fun w => w.2.1 z.1⟩)
    rw [show (δ.1.toNat : Int) = δ.1 by omega, show (δ.2.1.toNat : Int) = δ.2.1 by omega] at goal
    exact goal
  · have q4 := z.2.1
    have q5 := z.2.2.1
    have q6 := z.2.2.2.1
    have c1 : bgM σ δ.1.toNat < enM σ δ.2.1.toNat := (p1.le hS.2 (Int.le_refl _) q2 (Int.le_refl _)).2.2
    have c2 : bgM σ δ.2.2.1.toNat < enM σ δ.2.2.2.toNat := (z.2.le hS.2 (Int.le_refl _) q5 (Int.le_refl _)).2.2
    have goal : conI G wdM (d + 1) mX10_broken [vR 0, vI (δ.1.toNat : Int), vI (δ.2.1.toNat : Int), vI (δ.2.2.1.toNat : Int), vI (δ.2.2.2.toNat : Int)] σ Q := c_M_broken2 (d := d) hB hS (by omega) (by omega) (by omega) (by omega) c1 c2 (K _ ⟨fun w => ⟨hp, fun y => by omega, fun _ => w⟩, fun w => w.2.2 (by omega)⟩)
    rw [show (δ.1.toNat : Int) = δ.1 by omega, show (δ.2.1.toNat : Int) = δ.2.1 by omega, show (δ.2.2.1.toNat : Int) = δ.2.2.1 by omega, show (δ.2.2.2.toNat : Int) = δ.2.2.2 by omega] at goal
    exact goal
end MRos
