/-! ===== contracts of the leaves ===== -/
def bc1 (a : Nat) : Nat := a - ((a >>> 1) &&& 1431655765)
def bc2 (u : Nat) : Nat := (u &&& 858993459) + ((u >>> 2) &&& 858993459)
def bc3 (u : Nat) : Nat := (u + (u >>> 4)) &&& 252645135
def bc4 (u : Nat) : Nat := (u + (u >>> 8)) + ((u + (u >>> 8)) >>> 16)
theorem split_and {A B M m : Nat} (hB : B < 256) (hm : m < 256) : (256 * A + B) &&& (256 * M + m) = 256 * (A &&& M) + (B &&& m) := by
  have hb : B &&& m < 2 ^ 8 := Nat.lt_of_le_of_lt Nat.and_le_left hB
  apply Nat.eq_of_testBit_eq
  intro i
  rw [Nat.testBit_and, show (256 : Nat) = 2 ^ 8 from rfl, Nat.testBit_two_pow_mul_add A hB, Nat.testBit_two_pow_mul_add M hm, Nat.testBit_two_pow_mul_add _ hb]
  split
  · rw [Nat.testBit_and]
  · rw [Nat.testBit_and]
theorem bc_b1 : ∀ b, b < 2 → ∀ y, y < 128 → (128 * b + y) &&& 85 = y &&& 85 ∧ y &&& 5592405 = y &&& 85 ∧ y &&& 1431655765 = y &&& 85 := by decide +kernel
theorem bc_b2 : ∀ b, b < 4 → ∀ y, y < 64 → (64 * b + y) &&& 51 = y &&& 51 ∧ y &&& 3355443 = y &&& 51 ∧ y &&& 858993459 = y &&& 51 := by decide +kernel
theorem bc_b3 : ∀ y, y < 256 → y &&& 3355443 = y &&& 51 ∧ y &&& 858993459 = y &&& 51 := by decide +kernel
theorem bc_s1 {h l : Nat} (hh : h < 256) (hl : l < 256) : bc1 (256 * h + l) = 256 * bc1 h + bc1 l := by
  have e : (256 * h + l) >>> 1 = 256 * (h / 2) + (128 * (h % 2) + l / 2) := by
    rw [Nat.shiftRight_eq_div_pow]; omega
  have b1 := bc_b1 (h % 2) (by omega) (l / 2) (by omega)
  have b2 := bc_b1 0 (by omega) (h / 2) (by omega)
  have b3 := bc_b1 0 (by omega) (l / 2) (by omega)
  have q1 : (h / 2) &&& 85 ≤ h / 2 := Nat.and_le_left
  have q2 : (l / 2) &&& 85 ≤ l / 2 := Nat.and_le_left
  unfold bc1
  rw [e, show (1431655765 : Nat) = 256 * 5592405 + 85 from rfl, split_and (by omega) (by omega), b1.1, b2.2.1]
  rw [show (256 * 5592405 + 85 : Nat) = 1431655765 from rfl, Nat.shiftRight_eq_div_pow, Nat.shiftRight_eq_div_pow, b2.2.2, b3.2.2]
  omega
theorem bc_s2 {h l : Nat} (hh : h < 256) (hl : l < 256) : bc2 (256 * h + l) = 256 * bc2 h + bc2 l := by
  have e : (256 * h + l) >>> 2 = 256 * (h / 4) + (64 * (h % 4) + l / 4) := by
    rw [Nat.shiftRight_eq_div_pow]; omega
  have b1 := bc_b2 (h % 4) (by omega) (l / 4) (by omega)
  have b2 := bc_b2 0 (by omega) (h / 4) (by omega)
  have b3 := bc_b2 0 (by omega) (l / 4) (by omega)
  have b4 := bc_b3 h hh
  have b5 := bc_b3 l hl
  unfold bc2
  rw [e, show (858993459 : Nat) = 256 * 3355443 + 51 from rfl, split_and (by omega) (by omega), split_and (by omega) (by omega), b1.1, b2.2.1, b4.1]
  rw [show (256 * 3355443 + 51 : Nat) = 858993459 from rfl, Nat.shiftRight_eq_div_pow, Nat.shiftRight_eq_div_pow, b2.2.2, b3.2.2, b4.2, b5.2]
  omega
theorem bc_s3 : ∀ a, a < 5 → ∀ b, b < 5 → ∀ c, c < 5 → ∀ e, e < 5 → bc3 (256 * (16 * a + b) + (16 * c + e)) = 256 * bc3 (16 * a + b) + bc3 (16 * c + e) := by decide +kernel
theorem bc_s4 : ∀ h, h < 9 → ∀ l, l < 9 → bc4 (256 * h + l) &&& 63 = h + l ∧ bc4 (256 * h + l) < 1000000 := by decide +kernel
theorem bc_byte : ∀ l, l < 256 → ((l >>> 1) &&& 1431655765) ≤ l ∧ bc1 l < 256 ∧ (bc2 (bc1 l) / 16 < 5 ∧ bc2 (bc1 l) % 16 < 5) ∧ bc3 (bc2 (bc1 l)) = fb_ct (fun j => l.testBit j) 8 := by decide +kernel
theorem bc_ok {a : Nat} (h : a < 65536) : ((a >>> 1) &&& 1431655765) ≤ a ∧ bc2 (bc1 a) < 1000000 ∧ bc3 (bc2 (bc1 a)) < 1000000 ∧ bc4 (bc3 (bc2 (bc1 a))) < 1000000 ∧ bc4 (bc3 (bc2 (bc1 a))) &&& 63 = fb_ct (fun j => a.testBit j) 16 := by
  have e0 : a = 256 * (a / 256) + a % 256 := by omega
  have h1 : a / 256 < 256 := by omega
  have h2 : a % 256 < 256 := by omega
  have b1 := bc_byte _ h1
  have b2 := bc_byte _ h2
  have e1 := bc_s1 h1 h2
  have e2 := bc_s2 b1.2.1 b2.2.1
  have e3 := bc_s3 _ b1.2.2.1.1 _ b1.2.2.1.2 _ b2.2.2.1.1 _ b2.2.2.1.2
  rw [Nat.div_add_mod, Nat.div_add_mod] at e3
  rw [← e0] at e1
  rw [← e1] at e2
  rw [← e2] at e3
  have c1 := fb_ct_le (fun j => (a / 256).testBit j) 8
  have c2 := fb_ct_le (fun j => (a % 256).testBit j) 8
  rw [b1.2.2.2, b2.2.2.2] at e3
  have s4 := bc_s4 _ (by omega : fb_ct (fun j => (a / 256).testBit j) 8 < 9) _ (by omega : fb_ct (fun j => (a % 256).testBit j) 8 < 9)
  rw [← e3] at s4
  refine ⟨?_, by rw [e2]; omega, by rw [e3]; omega, s4.2, ?_⟩
  · have q : (a >>> 1) &&& 1431655765 ≤ a >>> 1 := Nat.and_le_left
    have q2 : a >>> 1 ≤ a := by rw [Nat.shiftRight_eq_div_pow]; exact Nat.div_le_self _ _
    omega
  · rw [s4.1, show (16 : Nat) = 8 + 8 from rfl, fb_ct_split]
    have t1 : fb_ct (fun j => a.testBit j) 8 = fb_ct (fun j => (a % 256).testBit j) 8 := fb_ct_cong (fun k hk => by
      show a.testBit k = (a % 2 ^ 8).testBit k
      rw [Nat.testBit_mod_two_pow]; simp [hk])
    have t2 : fb_ct (fun k => a.testBit (8 + k)) 8 = fb_ct (fun j => (a / 256).testBit j) 8 := fb_ct_cong (fun k hk => by
      show a.testBit (8 + k) = (a / 2 ^ 8).testBit k
      rw [Nat.testBit_div_two_pow, Nat.add_comm])
    rw [t1, t2]
    omega
theorem c_bitCount {G : GX} {wd : List CD} {d : Nat} {σ : St} {Q : Int → St → Prop} (a : Nat) (ha : a < 65536) (k : Q (fb_ct (fun j => a.testBit j) 16 : Nat) σ) : conI G wd d mJ6_bitCount_0f7a4 [vI a] σ Q := by
  refine conI.of (ls0 := [vI a]) rfl rfl (Nat.le_of_ble_eq_true rfl) (fun Ret R hret hM => g_J6_bitCount_0f7a4_0 hM a σ ?_)
  obtain ⟨h1, h2, h3, h4, h5⟩ := bc_ok ha
  have sh : ∀ (x n : Nat), x >>> n ≤ x := fun x n => by rw [Nat.shiftRight_eq_div_pow]; exact Nat.div_le_self _ _
  have hb1 : bc1 a ≤ a := Nat.sub_le _ _
  have e1 : ((a : Int) - bAnd (bUsh (a : Int) 1) 1431655765) = ((bc1 a : Nat) : Int) := by
    rw [show (1 : Int) = ((1 : Nat) : Int) from rfl, bUsh_nat (by omega) (by decide), show (1431655765 : Int) = ((1431655765 : Nat) : Int) from rfl, bAnd_nat _ _ (by have := sh a 1; omega)]
    unfold bc1
    omega
  rw [e1]
  refine ⟨⟨by omega, by omega⟩, fun u1 eu1 => ?_⟩
  subst eu1
  have hl : ∀ x y : Nat, x &&& y ≤ x := fun x y => Nat.and_le_left
  have e2 : (bAnd ((bc1 a : Nat) : Int) 858993459 + bAnd (bUsh ((bc1 a : Nat) : Int) 2) 858993459) = ((bc2 (bc1 a) : Nat) : Int) := by
    rw [show (2 : Int) = ((2 : Nat) : Int) from rfl, bUsh_nat (by omega) (by decide), show (858993459 : Int) = ((858993459 : Nat) : Int) from rfl, bAnd_nat _ _ (by have := hl (bc1 a) 858993459; omega), bAnd_nat _ _ (by have := hl (bc1 a >>> 2) 858993459; have := sh (bc1 a) 2; omega)]
    unfold bc2
    omega
  rw [e2]
  refine ⟨⟨by omega, by omega⟩, fun u2 eu2 => ?_⟩
  subst eu2
  generalize bc2 (bc1 a) = u at *
  have s4 := sh u 4
  have e3 : bAnd ((u : Int) + bUsh (u : Int) 4) 252645135 = ((bc3 u : Nat) : Int) := by
    rw [show (4 : Int) = ((4 : Nat) : Int) from rfl, bUsh_nat (by omega) (by decide), show (252645135 : Int) = ((252645135 : Nat) : Int) from rfl, ← Int.natCast_add, bAnd_nat _ _ (by have := hl (u + u >>> 4) 252645135; omega)]
    rfl
  have e3' : bUsh (u : Int) 4 = ((u >>> 4 : Nat) : Int) := by rw [show (4 : Int) = ((4 : Nat) : Int) from rfl, bUsh_nat (by omega) (by decide)]
  rw [e3]
  refine ⟨⟨by omega, by omega⟩, fun u3 eu3 => ?_⟩
  subst eu3
  generalize bc3 u = v at *
  have s8 := sh v 8
  have e4 : bUsh (v : Int) 8 = ((v >>> 8 : Nat) : Int) := by rw [show (8 : Int) = ((8 : Nat) : Int) from rfl, bUsh_nat (by omega) (by decide)]
  rw [e4, ← Int.natCast_add]
  have s16 := sh (v + v >>> 8) 16
  have e5 : bUsh ((v + v >>> 8 : Nat) : Int) 16 = (((v + v >>> 8) >>> 16 : Nat) : Int) := by rw [show (16 : Int) = ((16 : Nat) : Int) from rfl, bUsh_nat (by omega) (by decide)]
  rw [e5]
  refine ⟨⟨by omega, by omega⟩, ⟨by omega, by omega⟩, fun u4 eu4 => ?_⟩
  have e6 : u4 = ((bc4 v : Nat) : Int) := by rw [eu4]; unfold bc4; omega
  rw [e6, show (63 : Int) = ((63 : Nat) : Int) from rfl, bAnd_nat _ _ (by have := hl (bc4 v) 63; omega), h5]
  exact hret _ _ k
section Leaf
variable {G : GX} {d : Nat} {σ : St} {Q : Int → St → Prop}
theorem c_isPlace (v : Int) (k1 : 0 ≤ v ∧ v < 12 → Q 1 σ) (k0 : ¬ (0 ≤ v ∧ v < 12) → Q 0 σ) : conI G wdX d mX9_isPlace [vI v] σ Q := by
  refine conI.of (ls0 := [vI v]) rfl rfl (Nat.le_of_ble_eq_true rfl) (fun Ret R hret hM => g_X9_isPlace_0 hM v σ ?_)
  exact ⟨fun h => hret _ _ (k0 (by omega)), fun h => ⟨fun h2 => hret _ _ (k0 (by omega)), fun _ => hret _ _ (k1 (by omega))⟩⟩
theorem c_within (v lo hi : Int) (k1 : lo ≤ v ∧ v ≤ hi → Q 1 σ) (k0 : ¬ (lo ≤ v ∧ v ≤ hi) → Q 0 σ) : conI G wdX d mX9_within [vI v, vI lo, vI hi] σ Q := by
  refine conI.of (ls0 := [vI v, vI lo, vI hi]) rfl rfl (Nat.le_of_ble_eq_true rfl) (fun Ret R hret hM => g_X9_within_0 hM v lo hi σ ?_)
  exact ⟨fun h => hret _ _ (k0 (by omega)), fun h => ⟨fun h2 => hret _ _ (k0 (by omega)), fun _ => hret _ _ (k1 (by omega))⟩⟩
theorem c_X7_holds (t : Int) (k1 : 0 ≤ t ∧ t < σ.1 7 4 → Q 1 σ) (k0 : ¬ (0 ≤ t ∧ t < σ.1 7 4) → Q 0 σ) : conI G wdX d mX7_holds [vR 7, vI t] σ Q := by
  refine conI.of (ls0 := [vR 7, vI t]) rfl rfl (Nat.le_of_ble_eq_true rfl) (fun Ret R hret hM => g_X7_holds_0 hM t σ ?_)
  exact ⟨fun h => hret _ _ (k0 (by omega)), fun h => ⟨fun h2 => hret _ _ (k0 (by omega)), fun _ => hret _ _ (k1 (by omega))⟩⟩
theorem c_X6_holds (t : Int) (k1 : 0 ≤ t ∧ t < σ.1 6 5 → Q 1 σ) (k0 : ¬ (0 ≤ t ∧ t < σ.1 6 5) → Q 0 σ) : conI G wdX d mX6_holds [vR 6, vI t] σ Q := by
  refine conI.of (ls0 := [vR 6, vI t]) rfl rfl (Nat.le_of_ble_eq_true rfl) (fun Ret R hret hM => g_X6_holds_0 hM t σ ?_)
  exact ⟨fun h => hret _ _ (k0 (by omega)), fun h => ⟨fun h2 => hret _ _ (k0 (by omega)), fun _ => hret _ _ (k1 (by omega))⟩⟩
theorem c_M_in (v lo hi : Int) (k1 : lo ≤ v ∧ v ≤ hi → Q 1 σ) (k0 : ¬ (lo ≤ v ∧ v ≤ hi) → Q 0 σ) : conI G wdM d mX10_in [vI v, vI lo, vI hi] σ Q := by
  refine conI.of (ls0 := [vI v, vI lo, vI hi]) rfl rfl (Nat.le_of_ble_eq_true rfl) (fun Ret R hret hM => g_X10_in_0 hM v lo hi σ ?_)
  exact ⟨fun h => hret _ _ (k0 (by omega)), fun h => ⟨fun h2 => hret _ _ (k0 (by omega)), fun _ => hret _ _ (k1 (by omega))⟩⟩
/-- Arrays.fill of ints: the whole row holds v -/
theorem fill_loop {wd : List CD} {Ret : Option AV → St → Prop} {R : Nat → List AV → List AV → St → Prop} (hM : AM G wd d mJ7_fill_53178 Ret R) {a n : Nat} (ha : wd[a]? = some (.inr (0, n))) (hn : n < 2147483648) (v : Int) (σ0 : St)
    (k : ∀ σ', (∀ c, c ≠ a → σ'.1 c = σ0.1 c) → σ'.2 = σ0.2 → (∀ j, j < n → σ'.1 a j = v) → (∀ j, n ≤ j → σ'.1 a j = σ0.1 a j) → Ret none σ') :
    ∀ m i : Nat, i + m = n → ∀ σ : St, (∀ c, c ≠ a → σ.1 c = σ0.1 c) → σ.2 = σ0.2 → (∀ j, j < i → σ.1 a j = v) → (∀ j, n ≤ j → σ.1 a j = σ0.1 a j) → R 5 [vR a, vI v, vI i, vI (n : Int)] [] σ := by
  intro m
  induction m with
  | zero =>
    intro i hi σ h1 h2 h3 h4
    refine g_J7_fill_53178_5 hM v i n ha hn σ ⟨fun _ => k σ h1 h2 (fun j hj => h3 j (by omega)) h4, fun h => by omega⟩
  | succ m ih =>
    intro i hi σ h1 h2 h3 h4
    refine g_J7_fill_53178_5 hM v i n ha hn σ ⟨fun h => by omega, fun h => ⟨⟨by omega, by omega⟩, fun τ1 e1 => ⟨⟨by omega, by omega⟩, ?_⟩⟩⟩
    have e : ((i : Int) + 1) = ((i + 1 : Nat) : Int) := by omega
    rw [e]
    rw [Int.toNat_natCast] at e1
    refine ih (i + 1) (by omega) τ1 (fun c hc => ?_) (by rw [e1]; exact h2) (fun j hj => ?_) (fun j hj => ?_)
    · rw [e1, ← h1 c hc]; funext b; simp [sI, hc]
    · rw [e1]
      by_cases q : j = i
      · simp [sI, q]
      · simp [sI, q]; exact h3 j (by omega)
    · rw [e1, ← h4 j hj]
      have q : j ≠ i := by omega
      simp [sI, q]
theorem c_fill {wd : List CD} {Q : St → Prop} {a n : Nat} (ha : wd[a]? = some (.inr (0, n))) (hn : n < 2147483648) (v : Int)
    (k : ∀ σ', (∀ c, c ≠ a → σ'.1 c = σ.1 c) → σ'.2 = σ.2 → (∀ j, j < n → σ'.1 a j = v) → (∀ j, n ≤ j → σ'.1 a j = σ.1 a j) → Q σ') : conV G wd d mJ7_fill_53178 [vR a, vI v] σ Q := by
  refine conV.of (ls0 := [vR a, vI v, vN, vN]) rfl rfl (Nat.le_of_ble_eq_true rfl) (fun Ret R hret hM => g_J7_fill_53178_0 hM v ha hn σ ?_)
  exact fill_loop hM ha hn v σ (fun σ' q1 q2 q3 q4 => hret _ (k σ' q1 q2 q3 q4)) n 0 (by omega) σ (fun _ _ => rfl) rfl (fun j hj => by omega) (fun _ _ => rfl)
theorem fillL_loop {wd : List CD} {Ret : Option AV → St → Prop} {R : Nat → List AV → List AV → St → Prop} (hM : AM G wd d mJ7_fill_d0a16 Ret R) {a n : Nat} (ha : wd[a]? = some (.inr (1, n))) (hn : n < 2147483648) (v : Int64) (σ0 : St)
    (k : ∀ σ', σ'.1 = σ0.1 → (∀ j, j < n → σ'.2 a j = v) → Ret none σ') :
    ∀ m i : Nat, i + m = n → ∀ σ : St, σ.1 = σ0.1 → (∀ j, j < i → σ.2 a j = v) → R 6 [vR a, vL v, vN, vI i, vI (n : Int)] [] σ := by
  intro m
  induction m with
  | zero =>
    intro i hi σ h1 h2
    refine g_J7_fill_d0a16_6 hM v i n ha hn σ ⟨fun _ => k σ h1 (fun j hj => h2 j (by omega)), fun h => by omega⟩
  | succ m ih =>
    intro i hi σ h1 h2
    refine g_J7_fill_d0a16_6 hM v i n ha hn σ ⟨fun h => by omega, fun h => ⟨⟨by omega, by omega⟩, fun τ1 e1 => ⟨⟨by omega, by omega⟩, ?_⟩⟩⟩
    have e : ((i : Int) + 1) = ((i + 1 : Nat) : Int) := by omega
    rw [e]
    rw [Int.toNat_natCast] at e1
    refine ih (i + 1) (by omega) τ1 (by rw [e1]; exact h1) (fun j hj => ?_)
    rw [e1]
    by_cases q : j = i
    · simp [sL, q]
    · simp [sL, q]; exact h2 j (by omega)
theorem c_fillL {wd : List CD} {Q : St → Prop} {a n : Nat} (ha : wd[a]? = some (.inr (1, n))) (hn : n < 2147483648) (v : Int64)
    (k : ∀ σ', σ'.1 = σ.1 → (∀ j, j < n → σ'.2 a j = v) → Q σ') : conV G wd d mJ7_fill_d0a16 [vR a, vL v] σ Q := by
  refine conV.of (ls0 := [vR a, vL v, vN, vN, vN]) rfl rfl (Nat.le_of_ble_eq_true rfl) (fun Ret R hret hM => g_J7_fill_d0a16_0 hM v ha hn σ ?_)
  exact fillL_loop hM ha hn v σ (fun σ' q1 q2 => hret _ (k σ' q1 q2)) n 0 (by omega) σ rfl (fun j hj => by omega)
end Leaf
