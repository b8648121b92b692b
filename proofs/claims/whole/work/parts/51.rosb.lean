/-! ===== bits of THE ROSTER ===== -/
def bN (a b : Nat) : Int := 2 ^ (b + 1) - 2 ^ a
theorem bShl_2 : ∀ k : Nat, k < 12 → bShl 2 (k : Int) = 2 ^ (k + 1) := by decide +kernel
theorem bN_tb : ∀ b, b < 12 → ∀ a, a < 12 → a ≤ b → ∀ i, i < 32 → tb (bN a b) i = decide (a ≤ i ∧ i ≤ b) := by decide +kernel
theorem bN_rng : ∀ b, b < 12 → ∀ a, a < 12 → a ≤ b → 0 < bN a b ∧ bN a b < 4096 := by decide +kernel
theorem tb_15 : ∀ i, i < 32 → tb 15 i = decide (i < 4) := by decide +kernel
theorem tb_4095 : ∀ i, i < 32 → tb 4095 i = decide (i < 12) := by decide +kernel
theorem bS_nib0 : ∀ a : Nat, a < 256 → ∀ b : Nat, b < 16 → bShr ((16 * a + b : Nat) : Int) 4 = (a : Int) ∧ bAnd ((16 * a + b : Nat) : Int) 15 = (b : Int) := by decide +kernel
theorem bS_nib (D : Nat) (h : D < 4096) : bShr (D : Int) 4 = ((D / 16 : Nat) : Int) ∧ bAnd (D : Int) 15 = ((D % 16 : Nat) : Int) := by
  have := bS_nib0 (D / 16) (by omega) (D % 16) (by omega)
  rw [Nat.div_add_mod] at this
  exact this
theorem bU_tb : ∀ N : Nat, N < 13 → bShl 1 (N : Int) - 1 = 2 ^ N - 1 ∧ ∀ i, i < 32 → tb (2 ^ N - 1) i = decide (i < N) := by decide +kernel
def dk (x : Int) : Int := if x = -1 then 15 else x
def pkS (S e f g : Int) : Int := bOr (bOr (bOr S (bShl e 12)) (bShl f 16)) (bShl g 20)
noncomputable def stD (δ : DT) : Int := if δ.2.2.1 = -1 then bN δ.1.toNat δ.2.1.toNat else bOr (bN δ.1.toNat δ.2.1.toNat) (bN δ.2.2.1.toNat δ.2.2.2.toNat)
noncomputable def pkD (δ : DT) : Int := pkS (stD δ) δ.2.1 (dk δ.2.2.1) (dk δ.2.2.2)
theorem tb_4 {e : Int} (he : 0 ≤ e ∧ e < 16) {i : Nat} (h : 4 ≤ i) (hi : i < 32) : tb e i = false := tb_ge (n := 4) he.1 (by have := he.2; show e < 16; exact this) (by decide) i h hi
theorem pkS_tb {S e f g : Int} (hS : ∀ i, 12 ≤ i → i < 32 → tb S i = false) (he : 0 ≤ e ∧ e < 16) (hf : 0 ≤ f ∧ f < 16) (hg : 0 ≤ g ∧ g < 16) {i : Nat} (hi : i < 32) :
    tb (pkS S e f g) i = if i < 12 then tb S i else if i < 16 then tb e (i - 12) else if i < 20 then tb f (i - 16) else tb g (i - 20) := by
  have h12 : tb (bShl e 12) i = (decide (12 ≤ i) && tb e (i - 12)) := tb_shl e (k := 12) (by decide) hi
  have h16 : tb (bShl f 16) i = (decide (16 ≤ i) && tb f (i - 16)) := tb_shl f (k := 16) (by decide) hi
  have h20 : tb (bShl g 20) i = (decide (20 ≤ i) && tb g (i - 20)) := tb_shl g (k := 20) (by decide) hi
  unfold pkS
  rw [tb_or, tb_or, tb_or, h12, h16, h20]
  by_cases q1 : i < 12
  · rw [if_pos q1, decide_eq_false (show ¬ 12 ≤ i by omega), decide_eq_false (show ¬ 16 ≤ i by omega), decide_eq_false (show ¬ 20 ≤ i by omega)]
    cases tb S i <;> rfl
  · rw [if_neg q1, hS i (by omega) hi, decide_eq_true (show 12 ≤ i by omega)]
    by_cases q2 : i < 16
    · rw [if_pos q2, decide_eq_false (show ¬ 16 ≤ i by omega), decide_eq_false (show ¬ 20 ≤ i by omega)]
      cases tb e (i - 12) <;> rfl
    · rw [if_neg q2, decide_eq_true (show 16 ≤ i by omega), tb_4 he (show 4 ≤ i - 12 by omega) (by omega)]
      by_cases q3 : i < 20
      · rw [if_pos q3, decide_eq_false (show ¬ 20 ≤ i by omega)]
        cases tb f (i - 16) <;> rfl
      · rw [if_neg q3, decide_eq_true (show 20 ≤ i by omega), tb_4 hf (show 4 ≤ i - 16 by omega) (by omega)]
        cases tb g (i - 20) <;> rfl
theorem at_4 {D x : Int} {k : Nat} (hk : k < 28) (hx : 0 ≤ x ∧ x < 16) (h : ∀ i, i < 4 → tb D (k + i) = tb x i) : bAnd (bShr D (k : Int)) 15 = x := by
  refine tb_ext (r32_and _ _) ⟨by omega, by omega⟩ (fun i hi => ?_)
  rw [tb_and, tb_15 i hi, tb_shr D (by omega) hi]
  by_cases q : i < 4
  · rw [if_pos (by omega), decide_eq_true q, h i q, Bool.and_true]
  · rw [decide_eq_false q, tb_4 hx (by omega) hi, Bool.and_false]
theorem stD_tb {N : Nat} (hN : N ≤ 12) {δ : DT} (h : rgD N δ) {i : Nat} (hi : i < 32) : tb (stD δ) i = inD δ i := by
  obtain ⟨h1, h2, h3, h4⟩ := h
  have a := bN_tb δ.2.1.toNat (by omega) δ.1.toNat (by omega) (by omega) i hi
  unfold stD inD
  rcases h4 with q | q
  · rw [if_pos q.1, a]
    apply decide_eq_decide.mpr
    omega
  · rw [if_neg (by omega), tb_or, a, bN_tb δ.2.2.2.toNat (by omega) δ.2.2.1.toNat (by omega) (by omega) i hi, ← Bool.decide_or]
    apply decide_eq_decide.mpr
    omega
theorem inD_hi {N : Nat} {δ : DT} (h : rgD N δ) {i : Nat} (hi : N ≤ i) : inD δ i = false := by
  obtain ⟨h1, h2, h3, h4⟩ := h
  exact decide_eq_false (by omega)
theorem dk_r {N : Nat} (hN : N ≤ 12) {δ : DT} (h : rgD N δ) : (0 ≤ δ.2.1 ∧ δ.2.1 < 16) ∧ (0 ≤ dk δ.2.2.1 ∧ dk δ.2.2.1 < 16) ∧ (0 ≤ dk δ.2.2.2 ∧ dk δ.2.2.2 < 16) := by
  obtain ⟨h1, h2, h3, h4⟩ := h
  unfold dk
  refine ⟨by omega, ?_, ?_⟩
  · by_cases q : δ.2.2.1 = -1
    · rw [if_pos q]; omega
    · rw [if_neg q]; omega
  · by_cases q : δ.2.2.2 = -1
    · rw [if_pos q]; omega
    · rw [if_neg q]; omega
theorem pkD_tb {N : Nat} (hN : N ≤ 12) {δ : DT} (h : rgD N δ) {i : Nat} (hi : i < 32) :
    tb (pkD δ) i = if i < 12 then inD δ i else if i < 16 then tb δ.2.1 (i - 12) else if i < 20 then tb (dk δ.2.2.1) (i - 16) else tb (dk δ.2.2.2) (i - 20) := by
  obtain ⟨r1, r2, r3⟩ := dk_r hN h
  unfold pkD
  rw [pkS_tb (fun j h1 h2 => by rw [stD_tb hN h h2]; exact inD_hi h (by omega)) r1 r2 r3 hi, stD_tb hN h hi]
/-- what the packed DUTY tells -/
theorem pkD_at {N : Nat} (hN : N ≤ 12) {δ : DT} (h : rgD N δ) : bAnd (bShr (pkD δ) 12) 15 = δ.2.1 ∧ bAnd (bShr (pkD δ) 16) 15 = dk δ.2.2.1 ∧ bAnd (bShr (pkD δ) 20) 15 = dk δ.2.2.2 := by
  obtain ⟨r1, r2, r3⟩ := dk_r hN h
  refine ⟨at_4 (k := 12) (by decide) r1 (fun i hi => ?_), at_4 (k := 16) (by decide) r2 (fun i hi => ?_), at_4 (k := 20) (by decide) r3 (fun i hi => ?_)⟩
  · rw [pkD_tb hN h (by omega), if_neg (by omega), if_pos (by omega), Nat.add_sub_cancel_left]
  · rw [pkD_tb hN h (by omega), if_neg (by omega), if_neg (by omega), if_pos (by omega), Nat.add_sub_cancel_left]
  · rw [pkD_tb hN h (by omega), if_neg (by omega), if_neg (by omega), if_neg (by omega), Nat.add_sub_cancel_left]
theorem pkD_set {N : Nat} (hN : N ≤ 12) {δ : DT} (h : rgD N δ) {i : Nat} (hi : i < 32) : tb (bAnd (pkD δ) 4095) i = inD δ i := by
  rw [tb_and, tb_4095 i hi, pkD_tb hN h hi]
  by_cases q : i < 12
  · rw [if_pos q, decide_eq_true q, Bool.and_true]
  · rw [decide_eq_false q, Bool.and_false]
    exact (inD_hi h (by omega)).symm
/-- what is left -/
def pC (N D : Nat) : Nat → Bool := fun i => decide (i < N) && !tb (D : Int) i
theorem pC_iff {N D i : Nat} : pC N D i = true ↔ i < N ∧ tb (D : Int) i = false := by
  unfold pC
  rw [Bool.and_eq_true, decide_eq_true_eq, Bool.not_eq_true']
theorem D_hi {N D : Nat} (hN : N ≤ 12) (hD : D < 2 ^ N) {i : Nat} (h1 : N ≤ i) (hi : i < 32) : tb (D : Int) i = false := by
  rw [tb_set hi]
  exact Nat.testBit_lt_two_pow (Nat.lt_of_lt_of_le hD (Nat.pow_le_pow_right (by decide) h1))
theorem D_12 {N D : Nat} (hN : N ≤ 12) (hD : D < 2 ^ N) : D < 4096 := Nat.lt_of_lt_of_le hD (Nat.pow_le_pow_right (n := 2) (by decide) hN)
theorem pC_all {N D : Nat} (hN : N ≤ 12) (hD : D < 2 ^ N) : (D : Int) = 2 ^ N - 1 ↔ ∀ i, pC N D i = false := by
  have hU := (bU_tb N (by omega)).2
  have hD' := D_12 hN hD
  have hp : (2 : Int) ^ N ≤ 4096 ∧ 1 ≤ (2 : Int) ^ N := by
    have a := Nat.pow_le_pow_right (n := 2) (by decide) hN
    have b : 0 < 2 ^ N := Nat.pow_pos (by decide)
    have e : ((2 ^ N : Nat) : Int) = (2 : Int) ^ N := by simp
    omega
  constructor
  · intro e i
    cases q : pC N D i with
    | false => rfl
    | true =>
      have z := pC_iff.mp q
      rw [e, hU i (by omega), decide_eq_true z.1] at z
      exact absurd z.2 (by decide)
  · intro h
    refine tb_ext ⟨by omega, by omega⟩ ⟨by omega, by omega⟩ (fun i hi => ?_)
    rw [hU i hi]
    by_cases q : i < N
    · rw [decide_eq_true q]
      cases z : tb (D : Int) i with
      | true => rfl
      | false => have := h i; rw [pC_iff.mpr ⟨q, z⟩] at this; cases this
    · rw [decide_eq_false q]
      exact D_hi hN hD (by omega) hi
/-- a DUTY more is done -/
theorem pC_or {N D : Nat} (hN : N ≤ 12) (hD : D < 2 ^ N) {δ : DT} (h : rgD N δ) : ∃ D' : Nat, bOr (D : Int) (bAnd (pkD δ) 4095) = (D' : Int) ∧ D' < 2 ^ N ∧ pC N D' = subD (pC N D) δ := by
  have hb : ∀ i, i < 32 → tb (bOr (D : Int) (bAnd (pkD δ) 4095)) i = (tb (D : Int) i || inD δ i) := fun i hi => by rw [tb_or, pkD_set hN h hi]
  have lt := tb_lt (r32_or (D : Int) (bAnd (pkD δ) 4095)) (n := N) (by omega) (fun i h1 h2 => by rw [hb i h2, D_hi hN hD h1 h2, inD_hi h h1]; rfl)
  have e : bOr (D : Int) (bAnd (pkD δ) 4095) = (((bOr (D : Int) (bAnd (pkD δ) 4095)).toNat : Nat) : Int) := by omega
  refine ⟨_, e, lt.2, ?_⟩
  funext i
  show (decide (i < N) && !tb (((bOr (D : Int) (bAnd (pkD δ) 4095)).toNat : Nat) : Int) i) = ((decide (i < N) && !tb (D : Int) i) && !inD δ i)
  rw [← e]
  by_cases q : i < N
  · rw [decide_eq_true q, hb i (by omega)]
    cases tb (D : Int) i <;> cases inD δ i <;> rfl
  · rw [decide_eq_false q]; rfl
theorem pC_dis {N D : Nat} (hN : N ≤ 12) (hD : D < 2 ^ N) {δ : DT} (h : rgD N δ) : bAnd (pkD δ) (D : Int) = 0 ↔ ∀ i, inD δ i = true → pC N D i = true := by
  rw [tb_zero (r32_and _ _)]
  constructor
  · intro z i hi
    have hiN : i < N := by
      by_cases q : i < N
      · exact q
      · rw [inD_hi h (by omega)] at hi; cases hi
    have w := z i (by omega)
    rw [tb_and, pkD_tb hN h (by omega), if_pos (by omega), hi, Bool.true_and] at w
    exact pC_iff.mpr ⟨hiN, w⟩
  · intro z i hi
    rw [tb_and, pkD_tb hN h hi]
    by_cases q : i < N
    · rw [if_pos (by omega)]
      cases w : inD δ i with
      | false => rfl
      | true => rw [(pC_iff.mp (z i w)).2]; rfl
    · rw [D_hi hN hD (by omega) hi, Bool.and_false]
/-! the memo's nibbles -/
def lb (x : Int64) (i : Nat) : Bool := x.toBitVec.getLsbD i
theorem lsh_k : ∀ k : Nat, k < 64 → ((Int32.ofInt (k : Int)).toInt64 &&& 63).toBitVec.smod 64 = BitVec.ofNat 64 k := by decide +kernel
theorem lb_shr (x : Int64) {k i : Nat} (hk : k < 64) (h : k + i < 64) : lb (bLshr x (k : Int)) i = lb x (k + i) := by
  unfold lb bLshr
  rw [Int64.toBitVec_shiftRight, lsh_k k hk, BitVec.sshiftRight_eq', BitVec.getLsbD_sshiftRight, BitVec.toNat_ofNat, Nat.mod_eq_of_lt (show k < 2 ^ 64 by omega), if_pos h, decide_eq_false (show ¬ 64 ≤ i by omega)]
  rfl
theorem lb_shl (x : Int64) {k i : Nat} (hk : k < 64) (hi : i < 64) : lb (bLshl x (k : Int)) i = (decide (k ≤ i) && lb x (i - k)) := by
  unfold lb bLshl
  rw [Int64.toBitVec_shiftLeft, lsh_k k hk, BitVec.shiftLeft_eq', BitVec.getLsbD_shiftLeft, BitVec.toNat_ofNat, Nat.mod_eq_of_lt (show k < 2 ^ 64 by omega), decide_eq_true hi, Bool.true_and]
  by_cases q : k ≤ i
  · rw [decide_eq_true q, decide_eq_false (show ¬ i < k by omega)]; rfl
  · rw [decide_eq_false q, decide_eq_true (show i < k by omega)]; rfl
theorem lb_15 : ∀ i, i < 64 → lb 15 i = decide (i < 4) := by decide +kernel
theorem lb_i2l : ∀ v : Nat, v < 16 → ∀ i, i < 64 → lb (bI2l (v : Int)) i = (decide (i < 4) && tb (v : Int) i) := by decide +kernel
theorem lb_m1 : ∀ i, i < 64 → lb (-1) i = true := by decide +kernel
theorem tb_l2i (x : Int64) {i : Nat} (hi : i < 32) : tb (bL2i x) i = lb x i := by
  unfold tb bL2i lb
  rw [i32_asI]
  show x.toInt32.toBitVec.getLsbD i = _
  rw [Int64.toBitVec_toInt32, BitVec.getLsbD_signExtend, decide_eq_true hi, if_pos (by omega), Bool.true_and]
/-- how many DUTIES are known not to do what is left -/
def nib (M : Nat → Int64) (D : Nat) : Int := bAnd (bL2i (bLshr (M (D / 16)) ((4 * (D % 16) : Nat) : Int))) 15
theorem nib_tb (M : Nat → Int64) (D : Nat) {i : Nat} (hi : i < 32) : tb (nib M D) i = (decide (i < 4) && lb (M (D / 16)) (4 * (D % 16) + i)) := by
  unfold nib
  rw [tb_and, tb_15 i hi, tb_l2i _ hi]
  by_cases q : i < 4
  · rw [lb_shr _ (by omega) (by omega), Bool.and_comm]
  · rw [decide_eq_false q, Bool.and_false, Bool.false_and]
theorem nib_ext {M M' : Nat → Int64} {D D' : Nat} (h : ∀ i, i < 4 → lb (M (D / 16)) (4 * (D % 16) + i) = lb (M' (D' / 16)) (4 * (D' % 16) + i)) : nib M D = nib M' D' := by
  refine tb_ext (r32_and _ _) (r32_and _ _) (fun i hi => ?_)
  rw [nib_tb _ _ hi, nib_tb _ _ hi]
  by_cases q : i < 4
  · rw [h i q]
  · rw [decide_eq_false q, Bool.false_and, Bool.false_and]
def nibW (x : Int64) (a : Nat) (v : Nat) : Int64 := (x &&& ((bLshl 15 (a : Int)) ^^^ (-1))) ||| (bLshl (bI2l (v : Int)) (a : Int))
theorem nibW_lb (x : Int64) {a v : Nat} (ha : a < 64) (hv : v < 16) {i : Nat} (hi : i < 64) : lb (nibW x a v) i = ((lb x i && !(decide (a ≤ i) && decide (i - a < 4))) || (decide (a ≤ i) && (decide (i - a < 4) && tb (v : Int) (i - a)))) := by
  have e : lb (nibW x a v) i = ((lb x i && (lb (bLshl 15 (a : Int)) i ^^ lb (-1) i)) || lb (bLshl (bI2l (v : Int)) (a : Int)) i) := by
    unfold nibW lb
    rw [Int64.toBitVec_or, Int64.toBitVec_and, Int64.toBitVec_xor, BitVec.getLsbD_or, BitVec.getLsbD_and, BitVec.getLsbD_xor]
  rw [e, lb_shl _ ha hi, lb_shl _ ha hi, lb_m1 i hi, lb_15 (i - a) (by omega), lb_i2l v hv (i - a) (by omega)]
  cases (decide (a ≤ i) && decide (i - a < 4)) <;> rfl
theorem nib_set {M M' : Nat → Int64} {D v : Nat} (hv : v < 16) (h : ∀ j, M' j = if j = D / 16 then nibW (M (D / 16)) (4 * (D % 16)) v else M j) : nib M' D = (v : Int) ∧ ∀ D', D' ≠ D → nib M' D' = nib M D' := by
  constructor
  · refine tb_ext (r32_and _ _) ⟨by omega, by omega⟩ (fun i hi => ?_)
    rw [nib_tb _ _ hi, h, if_pos rfl]
    by_cases q : i < 4
    · rw [nibW_lb _ (by omega) hv (by omega), Nat.add_sub_cancel_left, decide_eq_true q, decide_eq_true (show 4 * (D % 16) ≤ 4 * (D % 16) + i by omega)]
      simp
    · rw [decide_eq_false q, Bool.false_and]
      exact (tb_4 ⟨by omega, by omega⟩ (by omega) hi).symm
  · intro D' hD
    refine nib_ext (fun i hi => ?_)
    rw [h]
    by_cases q : D' / 16 = D / 16
    · rw [if_pos q, nibW_lb _ (by omega) hv (by omega), q]
      have e : (decide (4 * (D % 16) ≤ 4 * (D' % 16) + i) && decide (4 * (D' % 16) + i - 4 * (D % 16) < 4)) = false := by
        rw [← Bool.decide_and]
        exact decide_eq_false (by omega)
      rw [← Bool.and_assoc, e]
      simp
    · rw [if_neg q]
