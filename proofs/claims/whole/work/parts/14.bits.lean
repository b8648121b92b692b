/-! ===== bits of the machine's ints, as of integers ===== -/
def tb (x : Int) (i : Nat) : Bool := bt (Int32.ofInt x) i
theorem of_nat (n : Nat) : Int32.ofInt (n : Int) = nI n := Int32.ofInt_eq_ofNat
theorem tb_ext {x y : Int} (hx : r32 x) (hy : r32 y) (h : ∀ i, i < 32 → tb x i = tb y i) : x = y := i32_inj hx hy (b_ext h)
theorem tb_and (x y : Int) (i : Nat) : tb (bAnd x y) i = (tb x i && tb y i) := by
  unfold tb bAnd; rw [i32_asI, b_and]
theorem tb_or (x y : Int) (i : Nat) : tb (bOr x y) i = (tb x i || tb y i) := by
  unfold tb bOr; rw [i32_asI, b_or]
theorem tb_xor (x y : Int) (i : Nat) : tb (bXor x y) i = (tb x i ^^ tb y i) := by
  unfold tb bXor; rw [i32_asI, b_xor]
theorem tb_m1 : ∀ i, i < 32 → tb (-1) i = true := by decide +kernel
theorem tb_not (x : Int) {i : Nat} (hi : i < 32) : tb (bXor x (-1)) i = !tb x i := by
  rw [tb_xor, tb_m1 i hi]; cases tb x i <;> rfl
theorem tb_0 (i : Nat) : tb 0 i = false := by
  unfold tb; rw [i32_0, b_0]
theorem tb_shl (x : Int) {k i : Nat} (hk : k < 32) (hi : i < 32) : tb (bShl x (k : Int)) i = (decide (k ≤ i) && tb x (i - k)) := by
  unfold tb bShl; rw [i32_asI, of_nat, b_shl k hk _ hi]
theorem tb_1 : ∀ i, tb 1 i = decide (i = 0) := by
  intro i
  rcases Nat.lt_or_ge i 32 with h | h
  · exact (by decide +kernel : ∀ i, i < 32 → tb 1 i = decide (i = 0)) i h
  · unfold tb; rw [b_big h, decide_eq_false (by omega)]
theorem tb_shl1 {k i : Nat} (hk : k < 32) (hi : i < 32) : tb (bShl 1 (k : Int)) i = decide (i = k) := by
  rw [tb_shl 1 hk hi, tb_1]
  by_cases h : i = k
  · subst h; simp
  · simp [h]; omega
theorem tb_shr (x : Int) {k i : Nat} (hk : k < 32) (hi : i < 32) : tb (bShr x (k : Int)) i = if k + i < 32 then tb x (k + i) else tb x 31 := by
  unfold tb bShr; rw [i32_asI, of_nat, b_sshr k hk _ hi]
theorem r32_and (x y : Int) : r32 (bAnd x y) := i32_rng _
theorem r32_or (x y : Int) : r32 (bOr x y) := i32_rng _
theorem r32_xor (x y : Int) : r32 (bXor x y) := i32_rng _
theorem r32_shl (x y : Int) : r32 (bShl x y) := i32_rng _
theorem r32_shr (x y : Int) : r32 (bShr x y) := i32_rng _
theorem bit1 (x : Int) {k : Nat} (hk : k < 32) : bAnd (bShr x (k : Int)) 1 = if tb x k then 1 else 0 := by
  apply tb_ext (r32_and _ _) (by split <;> decide)
  intro i hi
  rw [tb_and, tb_1]
  by_cases h : i = 0
  · subst h
    rw [tb_shr x hk (by omega)]
    rw [if_pos (by omega)]
    cases tb x k <;> simp [tb_1, tb_0]
  · cases tb x k <;> simp [h, tb_1, tb_0]
theorem tb_zero {x : Int} (hx : r32 x) : x = 0 ↔ ∀ i, i < 32 → tb x i = false := by
  constructor
  · rintro rfl i _; exact tb_0 i
  · intro h
    exact tb_ext hx r32_0 (fun i hi => by rw [h i hi, tb_0])
theorem tb_nat (n : Nat) (i : Nat) : tb (n : Int) i = (decide (i < 32) && n.testBit i) := by
  unfold tb bt
  rw [of_nat]
  show (BitVec.ofNat 32 n).getLsbD i = _
  rw [BitVec.getLsbD_ofNat]
theorem tb_toNat {x : Int} (hx : r32 x) (h0 : 0 ≤ x) {i : Nat} (hi : i < 32) : tb x i = x.toNat.testBit i := by
  obtain ⟨n, rfl⟩ := Int.eq_ofNat_of_zero_le h0
  rw [tb_nat]
  simp [hi]
/-- no bit from n on: below 2^n -/
theorem tb_lt {x : Int} (hx : r32 x) {n : Nat} (hn : n ≤ 31) (h : ∀ i, n ≤ i → i < 32 → tb x i = false) : 0 ≤ x ∧ x.toNat < 2 ^ n := by
  have h31 : (Int32.ofInt x).toBitVec.msb = false := by
    rw [BitVec.msb_eq_getLsbD_last]
    exact h 31 hn (by omega)
  have e : (Int32.ofInt x).toBitVec.toInt = x := i32_of hx
  rw [BitVec.toInt_eq_msb_cond, h31] at e
  simp only [Bool.false_eq_true, if_false] at e
  have e2 : x.toNat = (Int32.ofInt x).toBitVec.toNat := by omega
  refine ⟨by omega, ?_⟩
  rw [e2]
  apply Nat.lt_pow_two_of_testBit
  intro i hi
  rcases Nat.lt_or_ge i 32 with q | q
  · exact h i hi q
  · exact Nat.testBit_lt_two_pow (Nat.lt_of_lt_of_le (Int32.ofInt x).toBitVec.isLt (Nat.pow_le_pow_right (by decide) q))
theorem tb_ge {x : Int} {n : Nat} (h0 : 0 ≤ x) (hx : x < 2 ^ n) (hn : n ≤ 31) : ∀ i, n ≤ i → i < 32 → tb x i = false := by
  intro i h1 h2
  have h3 : (2 : Int) ^ n ≤ 2 ^ 31 := by
    have := Nat.pow_le_pow_right (n := 2) (by decide) hn
    exact_mod_cast this
  have hr : r32 x := ⟨by omega, by omega⟩
  rw [tb_toNat hr h0 h2]
  apply Nat.testBit_lt_two_pow
  have h4 : x.toNat < 2 ^ n := by
    have : ((x.toNat : Nat) : Int) < ((2 ^ n : Nat) : Int) := by push_cast; omega
    exact_mod_cast this
  exact Nat.lt_of_lt_of_le h4 (Nat.pow_le_pow_right (by decide) h1)
/-- a number of bits -/
def pcn (x : Int) (n : Nat) : Nat := fb_ct (tb x) n
theorem bAnd_nat (a b : Nat) (h : a &&& b < 2 ^ 31) : bAnd (a : Int) (b : Int) = ((a &&& b : Nat) : Int) := by
  unfold bAnd
  rw [of_nat, of_nat]
  have e : nI a &&& nI b = nI (a &&& b) := by
    apply b_ext
    intro i hi
    rw [b_and]
    show ((BitVec.ofNat 32 a).getLsbD i && (BitVec.ofNat 32 b).getLsbD i) = (BitVec.ofNat 32 (a &&& b)).getLsbD i
    simp [hi]
  rw [e, nI_toInt h]
theorem bUsh_nat {a k : Nat} (ha : a < 2 ^ 31) (hk : k < 32) : bUsh (a : Int) (k : Int) = ((a >>> k : Nat) : Int) := by
  unfold bUsh
  rw [of_nat, of_nat, pk_ushrN (by omega) (nI k) k (s_u k hk), Nat.shiftRight_eq_div_pow, nI_toInt (Nat.lt_of_le_of_lt (Nat.div_le_self _ _) ha)]
theorem bShl_1 : ∀ k : Nat, k < 31 → bShl 1 (k : Int) = 2 ^ k := by decide +kernel
