/-! ===== the lowest bit; rows and columns in pairs ===== -/
theorem tb_put (t : Int) {c i : Nat} (hc : c < 32) (hi : i < 32) : tb (bOr t (bShl 1 (c : Int))) i = (tb t i || decide (i = c)) := by rw [tb_or, tb_shl1 hc hi]
theorem tb_neg (x : Int) {i : Nat} (hi : i < 32) : tb (-x) i = (tb x i ^^ decide (∃ j, j < i ∧ tb x j = true)) := by
  have e : Int32.ofInt (-x) = -Int32.ofInt x := by
    rw [← Int32.toBitVec_inj, Int32.toBitVec_neg, Int32.toBitVec_ofInt, Int32.toBitVec_ofInt, BitVec.ofInt_neg]
  unfold tb bt
  rw [e, Int32.toBitVec_neg, BitVec.getLsbD_neg, decide_eq_true hi, Bool.true_and]
theorem low_ct : ∀ k, k < 16 → fb_ct (fun j => (2 ^ k - 1).testBit j) 16 = k := by decide +kernel
theorem low_and {x : Int} {k : Nat} (hk : k < 16) (h1 : tb x k = true) (h2 : ∀ j, j < k → tb x j = false) : bAnd x (-x) = 2 ^ k := by
  rw [← bShl_1 k (by omega)]
  refine tb_ext (r32_and _ _) (r32_shl _ _) (fun i hi => ?_)
  rw [tb_and, tb_neg _ hi, tb_shl1 (by omega) hi]
  by_cases e : i = k
  · rw [e, h1, decide_eq_false (by rintro ⟨j, hj, q⟩; rw [h2 j hj] at q; cases q), decide_eq_true rfl]; rfl
  · rw [decide_eq_false e]
    cases hx : tb x i with
    | false => rfl
    | true =>
      have : k < i := by
        by_cases q : i < k
        · rw [h2 i q] at hx; cases hx
        · omega
      rw [decide_eq_true ⟨k, this, h1⟩]; rfl
/-- where rows and columns stand: `B` the rows that have one, `X` the columns that are being handed on -/
def Jp (ok : Nat → Nat → Prop) (X B : Nat → Prop) (co ro : Nat → Int) (tk : Int) : Prop :=
  (∀ r, B r → r < 16 ∧ ∃ c : Nat, c < 16 ∧ co r = (c : Int) ∧ ro c = (r : Int) ∧ ok r c ∧ tb tk c = true ∧ ¬ X c) ∧
  (∀ c, c < 16 → tb tk c = true → ¬ X c → ∃ r : Nat, ro c = (r : Int) ∧ B r ∧ co r = (c : Int)) ∧
  (∀ c, c < 16 → tb tk c = false → ro c = -1)
theorem Jp.cg {ok : Nat → Nat → Prop} {X B X' B' : Nat → Prop} {co ro : Nat → Int} {tk : Int} (h : Jp ok X B co ro tk) (hX : ∀ c, c < 16 → (X' c ↔ X c)) (hB : ∀ r, B' r ↔ B r) : Jp ok X' B' co ro tk := by
  refine ⟨fun r hr => ?_, fun c hc ht hx => ?_, h.2.2⟩
  · obtain ⟨q, c, a1, a2, a3, a4, a5, a6⟩ := h.1 r ((hB r).mp hr)
    exact ⟨q, c, a1, a2, a3, a4, a5, fun z => a6 ((hX c a1).mp z)⟩
  · obtain ⟨r, a1, a2, a3⟩ := h.2.1 c hc ht (fun z => hx ((hX c hc).mpr z))
    exact ⟨r, a1, (hB r).mpr a2, a3⟩
theorem Jp.ok {ok ok' : Nat → Nat → Prop} {X B : Nat → Prop} {co ro : Nat → Int} {tk : Int} (h : Jp ok X B co ro tk) (hk : ∀ r c : Nat, B r → c < 16 → co r = (c : Int) → ok r c → ok' r c) : Jp ok' X B co ro tk := by
  refine ⟨fun r hr => ?_, h.2.1, h.2.2⟩
  obtain ⟨q, c, a1, a2, a3, a4, a5, a6⟩ := h.1 r hr
  exact ⟨q, c, a1, a2, a3, hk r c hr a1 a2 a4, a5, a6⟩
theorem Jp.join {ok : Nat → Nat → Prop} {X B : Nat → Prop} {co ro : Nat → Int} {tk : Int} (h : Jp ok X B co ro tk) {r c : Nat} (hr : r < 16) (hc : c < 16) (hB : ¬ B r) (hk : ok r c) (hx : X c ∨ tb tk c = false) :
    Jp ok (fun z => X z ∧ z ≠ c) (fun z => B z ∨ z = r) (uf co r c) (uf ro c r) (bOr tk (bShl 1 (c : Int))) := by
  refine ⟨fun r' hr' => ?_, fun c' hc' ht hx' => ?_, fun c' hc' ht => ?_⟩
  · by_cases e : r' = r
    · rw [e]
      exact ⟨hr, c, hc, uf_s _ _ _, uf_s _ _ _, hk, by rw [tb_put _ (by omega) (by omega), decide_eq_true rfl, Bool.or_true], fun z => z.2 rfl⟩
    · have hb : B r' := by rcases hr' with q | q; exact q; exact absurd q e
      obtain ⟨q, c1, a1, a2, a3, a4, a5, a6⟩ := h.1 r' hb
      have ne : c1 ≠ c := by
        intro z
        rw [z] at a5 a6
        rcases hx with y | y
        · exact a6 y
        · rw [a5] at y; cases y
      exact ⟨q, c1, a1, by rw [uf_n e]; exact a2, by rw [uf_n ne]; exact a3, a4, by rw [tb_put _ (by omega) (by omega), a5, Bool.true_or], fun z => a6 z.1⟩
  · by_cases e : c' = c
    · rw [e]; exact ⟨r, uf_s _ _ _, Or.inr rfl, uf_s _ _ _⟩
    · rw [tb_put _ (by omega) (by omega), decide_eq_false e, Bool.or_false] at ht
      obtain ⟨r1, a1, a2, a3⟩ := h.2.1 c' hc' ht (fun z => hx' ⟨z, e⟩)
      have ne : r1 ≠ r := fun z => hB (by rw [← z]; exact a2)
      exact ⟨r1, by rw [uf_n e]; exact a1, Or.inl a2, by rw [uf_n ne]; exact a3⟩
  · rw [tb_put _ (by omega) (by omega)] at ht
    have e : c' ≠ c := fun z => by rw [decide_eq_true z, Bool.or_true] at ht; cases ht
    rw [decide_eq_false e, Bool.or_false] at ht
    rw [uf_n e]
    exact h.2.2 c' hc' ht
theorem Jp.off {ok : Nat → Nat → Prop} {X B : Nat → Prop} {co ro : Nat → Int} {tk : Int} (h : Jp ok X B co ro tk) {r c : Nat} (hr : ro c = (r : Int)) (hc : co r = (c : Int)) : Jp ok (fun z => X z ∨ z = c) (fun z => B z ∧ z ≠ r) co ro tk := by
  refine ⟨fun r' hr' => ?_, fun c' hc' ht hx' => ?_, h.2.2⟩
  · obtain ⟨q, c1, a1, a2, a3, a4, a5, a6⟩ := h.1 r' hr'.1
    refine ⟨q, c1, a1, a2, a3, a4, a5, fun z => ?_⟩
    rcases z with z | z
    · exact a6 z
    · rw [z, hr] at a3
      exact hr'.2 (by omega)
  · obtain ⟨r1, a1, a2, a3⟩ := h.2.1 c' hc' ht (fun z => hx' (Or.inl z))
    refine ⟨r1, a1, ⟨a2, fun z => hx' (Or.inr ?_)⟩, a3⟩
    rw [z, hc] at a3
    omega
/-- how many have one -/
def cnt (nx : Nat → Int) : Nat := fb_ct (fun i => decide (0 ≤ nx i)) 16
theorem kuhn {ok : Nat → Nat → Prop} {nx nx' : Nat → Int} {S : Nat → Bool} {p : Nat} (h : OkP 16 ok nx) (hp : nx p < 0) (hp16 : p < 16) (h' : OkP 16 ok nx') (hS1 : ∀ c : Nat, c < 16 → S c = true → ∃ r, r < 16 ∧ nx r = (c : Int))
    (hS2 : ∀ r, r < 16 → 0 ≤ nx r → S (nx r).toNat = true → ∀ c, c < 16 → ok r c → S c = true) (hS3 : ∀ c, c < 16 → ok p c → S c = true) :
    ∃ N : Nat → Int, OkP 16 ok N ∧ N p = -1 ∧ cnt nx' ≤ cnt N ∧ ∀ r, r < 16 → 0 ≤ N r → 0 ≤ nx r ∨ 0 ≤ nx' r := by
  let N : Nat → Int := fun r => if 0 ≤ nx r ∧ S (nx r).toNat = true then nx r else if 0 ≤ nx' r ∧ S (nx' r).toNat = false then nx' r else -1
  have hN1 : ∀ r, 0 ≤ nx r ∧ S (nx r).toNat = true → N r = nx r := fun r q => if_pos q
  have hN2 : ∀ r, ¬ (0 ≤ nx r ∧ S (nx r).toNat = true) → (0 ≤ nx' r ∧ S (nx' r).toNat = false) → N r = nx' r := fun r q q' => by show ite _ _ _ = _; rw [if_neg q, if_pos q']
  have hN3 : ∀ r, ¬ (0 ≤ nx r ∧ S (nx r).toNat = true) → ¬ (0 ≤ nx' r ∧ S (nx' r).toNat = false) → N r = -1 := fun r q q' => by show ite _ _ _ = _; rw [if_neg q, if_neg q']
  have cas : ∀ r, (0 ≤ nx r ∧ S (nx r).toNat = true ∧ N r = nx r) ∨ (¬ (0 ≤ nx r ∧ S (nx r).toNat = true) ∧ 0 ≤ nx' r ∧ S (nx' r).toNat = false ∧ N r = nx' r) ∨ N r = -1 := by
    intro r
    by_cases q : 0 ≤ nx r ∧ S (nx r).toNat = true
    · exact Or.inl ⟨q.1, q.2, hN1 r q⟩
    · by_cases q' : 0 ≤ nx' r ∧ S (nx' r).toNat = false
      · exact Or.inr (Or.inl ⟨q, q'.1, q'.2, hN2 r q q'⟩)
      · exact Or.inr (Or.inr (hN3 r q q'))
  have okn : ∀ r, r < 16 → 0 ≤ nx r → nx r < 16 ∧ ok r (nx r).toNat := fun r hr q => by
    rcases h.1 r hr with z | z
    · omega
    · exact z.2
  have okn' : ∀ r, r < 16 → 0 ≤ nx' r → nx' r < 16 ∧ ok r (nx' r).toNat := fun r hr q => by
    rcases h'.1 r hr with z | z
    · omega
    · exact z.2
  refine ⟨N, ⟨fun r hr => ?_, fun i j hi hj h0 e => ?_⟩, ?_, ?_, fun r hr q => ?_⟩
  · rcases cas r with ⟨a1, a2, a3⟩ | ⟨_, a1, a2, a3⟩ | a3
    · right; rw [a3]; exact ⟨a1, okn r hr a1⟩
    · right; rw [a3]; exact ⟨a1, okn' r hr a1⟩
    · exact Or.inl a3
  · rcases cas i with ⟨a1, a2, a3⟩ | ⟨_, a1, a2, a3⟩ | a3 <;> rcases cas j with ⟨b1, b2, b3⟩ | ⟨_, b1, b2, b3⟩ | b3
    · rw [a3, b3] at e; exact h.2 i j hi hj a1 e
    · rw [a3, b3] at e; rw [e, b2] at a2; cases a2
    · omega
    · rw [a3, b3] at e; rw [e, b2] at a2; cases a2
    · rw [a3, b3] at e; exact h'.2 i j hi hj a1 e
    · omega
    · omega
    · omega
    · omega
  · refine hN3 p (fun q => by omega) (fun q => ?_)
    have z := okn' p hp16 q.1
    rw [hS3 _ (by omega) z.2] at q
    exact absurd q.2 (by decide)
  · unfold cnt
    have e1 : fb_ct (fun i => decide (0 ≤ nx' i)) 16 = fb_ct (fun i => decide (0 ≤ nx' i) && S (nx' i).toNat) 16 + fb_ct (fun i => decide (0 ≤ nx' i) && !S (nx' i).toNat) 16 := by
      rw [← fb_ct_or (fun k _ q => by cases hs : S (nx' k).toNat <;> simp [hs] at q)]
      refine fb_ct_cong (fun k _ => ?_)
      cases S (nx' k).toNat <;> simp
    have e2 : fb_ct (fun i => decide (0 ≤ nx' i) && S (nx' i).toNat) 16 ≤ fb_ct (fun i => decide (0 ≤ nx i) && S (nx i).toNat) 16 := by
      have hx : ∀ i, ∃ r, i < 16 → 0 ≤ nx' i → S (nx' i).toNat = true → (r < 16 ∧ nx r = nx' i) := by
        intro i
        by_cases q : i < 16 ∧ 0 ≤ nx' i ∧ S (nx' i).toNat = true
        · have z := okn' i q.1 q.2.1
          obtain ⟨r, hr, e⟩ := hS1 (nx' i).toNat (by omega) q.2.2
          exact ⟨r, fun _ _ _ => ⟨hr, by omega⟩⟩
        · exact ⟨0, fun a b c => absurd ⟨a, b, c⟩ q⟩
      have hg := fun i => Classical.choose_spec (hx i)
      generalize hgg : (fun i => Classical.choose (hx i)) = g at hg
      have hg' : ∀ i, i < 16 → 0 ≤ nx' i → S (nx' i).toNat = true → (g i < 16 ∧ nx (g i) = nx' i) := fun i => by rw [← hgg]; exact Classical.choose_spec (hx i)
      refine ct_inj g (fun i hi q => ?_) (fun i j hi hj qi qj e => ?_)
      · simp only [Bool.and_eq_true, decide_eq_true_eq] at q
        have z := hg' i hi q.1 q.2
        refine ⟨z.1, ?_⟩
        simp only [z.2, Bool.and_eq_true, decide_eq_true_eq]
        exact q
      · simp only [Bool.and_eq_true, decide_eq_true_eq] at qi qj
        have zi := hg' i hi qi.1 qi.2
        have zj := hg' j hj qj.1 qj.2
        rw [e, zj.2] at zi
        exact h'.2 i j hi hj qi.1 zi.2.symm
    have e3 : fb_ct (fun i => decide (0 ≤ nx i) && S (nx i).toNat) 16 + fb_ct (fun i => decide (0 ≤ nx' i) && !S (nx' i).toNat) 16 ≤ fb_ct (fun i => decide (0 ≤ N i)) 16 := by
      rw [← fb_ct_or ?_]
      · refine fb_ct_sub (fun k hk q => ?_)
        simp only [Bool.or_eq_true, Bool.and_eq_true, decide_eq_true_eq, Bool.not_eq_true'] at q
        rw [decide_eq_true_eq]
        by_cases z : 0 ≤ nx k ∧ S (nx k).toNat = true
        · rw [hN1 k z]; exact z.1
        · rcases q with q | q
          · exact absurd q z
          · rw [hN2 k z q]; exact q.1
      · intro k hk q
        simp only [Bool.and_eq_true, decide_eq_true_eq, Bool.not_eq_true'] at q
        have z := okn' k hk q.2.1
        rw [hS2 k hk q.1.1 q.1.2 _ (by omega) z.2] at q
        exact absurd q.2.2 (by decide)
    omega
  · rcases cas r with ⟨a1, _, _⟩ | ⟨_, a1, _, _⟩ | a3
    · exact Or.inl a1
    · exact Or.inr a1
    · omega
section Pair
variable {G : GX} {d : Nat} {σ : St} {Q : Int → St → Prop}
theorem c_lowest {x : Int} (hx : -2147483648 < x ∧ x < 2147483648) {k : Nat} (hk : k < 16) (h1 : tb x k = true) (h2 : ∀ j, j < k → tb x j = false) (K : Q k σ) : conI G wdX (d + 1) mX9_lowest [vI x] σ Q := by
  refine conI.of (ls0 := [vI x]) rfl rfl (Nat.le_of_ble_eq_true rfl) (fun Ret R hret hM => g_X9_lowest_0 hM x σ ?_)
  have hp : 2 ^ k ≤ 32768 := Nat.pow_le_pow_right (n := 2) (j := 15) (by decide) (by omega)
  have hp0 : 0 < 2 ^ k := Nat.pow_pos (by decide)
  have e : (2 : Int) ^ k - 1 = ((2 ^ k - 1 : Nat) : Int) := by rw [Int.ofNat_sub hp0]; simp
  rw [low_and hk h1 h2, e]
  refine ⟨⟨by omega, by omega⟩, ⟨by omega, by omega⟩, ?_⟩
  refine c_bitCount (2 ^ k - 1) (by omega) ?_
  rw [low_ct k hk]
  exact hret _ _ K
theorem low_is {x : Int} (hx : r32 x) (h0 : ¬ x = 0) (hb : ∀ i, 16 ≤ i → i < 32 → tb x i = false) : ∃ k, k < 16 ∧ tb x k = true ∧ ∀ j, j < k → tb x j = false := by
  have : ∃ i, i < 16 ∧ tb x i = true := by
    by_cases q : ∃ i, i < 16 ∧ tb x i = true
    · exact q
    · refine absurd ((tb_zero hx).mpr (fun i hi => ?_)) h0
      by_cases z : i < 16
      · cases e : tb x i with
        | false => rfl
        | true => exact absurd ⟨i, z, e⟩ q
      · exact hb i (by omega) hi
  obtain ⟨i, a1, a2, a3⟩ := fb_first this
  exact ⟨i, a1, a2, fun j hj => by have := a3 j hj; simpa using this⟩
theorem c_join {Q : St → Prop} {r c : Nat} (hr : r < 16) (hc : c < 16) (K : ∀ σ', Fr [3, 18, 19] σ σ' → σ'.1 18 = uf (σ.1 18) r c → σ'.1 19 = uf (σ.1 19) c r → σ'.1 3 = uf (σ.1 3) 3 (bOr (σ.1 3 3) (bShl 1 (c : Int))) → Q σ') : conV G wdX d mX3_join [vR 3, vI r, vI c] σ Q := by
  refine conV.of (ls0 := [vR 3, vI r, vI c]) rfl rfl (Nat.le_of_ble_eq_true rfl) (fun Ret R hret hM => g_X3_join_0 hM r c σ ?_)
  rw [Int.toNat_natCast, Int.toNat_natCast]
  refine ⟨⟨by omega, by omega⟩, fun τ1 e1 => ⟨⟨by omega, by omega⟩, fun τ2 e2 τ3 e3 => hret _ (K τ3 ?_ ?_ ?_ ?_)⟩⟩
  · rw [e3, e2, e1]; exact ((Fr.one (by decide)).put (by decide)).put (by decide)
  · rw [e3, sI_n _ (by decide), e2, sI_n _ (by decide), e1, sI_s]
  · rw [e3, sI_n _ (by decide), e2, sI_s, e1, sI_n _ (by decide)]
  · rw [e3, sI_s, e2, sI_n _ (by decide), e1, sI_n _ (by decide)]
theorem c_clear {Q : St → Prop} (K : ∀ σ', Fr [3, 18, 19] σ σ' → (∀ c, c ≠ 3 → σ'.1 3 c = σ.1 3 c) → (∀ ok, Jp ok (fun _ => False) (fun _ => False) (σ'.1 18) (σ'.1 19) (σ'.1 3 3)) → Q σ') : conV G wdX (d + 1) mX3_clear [vR 3] σ Q := by
  refine conV.of (ls0 := [vR 3]) rfl rfl (Nat.le_of_ble_eq_true rfl) (fun Ret R hret hM => g_X3_clear_0 hM σ ?_)
  refine c_fill (n := 16) rfl (by decide) _ (fun σ1 a1 a2 a3 a4 => c_fill (n := 16) rfl (by decide) _ (fun σ2 b1 b2 b3 b4 τ1 e1 => hret _ (K τ1 ?_ ?_ ?_)))
  · intro k hk
    simp only [List.mem_cons, List.not_mem_nil, or_false, not_or] at hk
    rw [e1, sI_n _ hk.1, sI_2, b1 k hk.2.2, a1 k hk.2.1, b2, a2]
    exact ⟨rfl, rfl⟩
  · intro c hc
    rw [e1, sI_s, uf_n hc, b1 3 (by decide), a1 3 (by decide)]
  · intro ok
    refine ⟨fun _ q => q.elim, fun c _ q => ?_, fun c hc _ => ?_⟩
    · rw [e1, sI_s, uf_s, tb_0] at q; cases q
    · rw [e1, sI_n _ (by decide)]; exact b3 c hc
abbrev JX (σ : St) (X B : Nat → Prop) : Prop := Jp (fun r c => tb (σ.1 17 r) c = true) X B (σ.1 18) (σ.1 19) (σ.1 3 3)
abbrev opn (σ : St) : Prop := ∀ r, r < 16 → ∀ i, 16 ≤ i → i < 32 → tb (σ.1 17 r) i = false
def usn (s : Int) : Nat := fb_ct (fun c => !tb s c) 16
theorem usn_put {s : Int} {c : Nat} (hc : c < 16) (h : tb s c = false) : usn (bOr s (bShl 1 (c : Int))) + 1 = usn s := by
  unfold usn
  have e := fb_ct_upd (fun c => !tb s c) false (i := c) (n := 16) hc
  rw [h] at e
  have e2 : fb_ct (fun i => !tb (bOr s (bShl 1 (c : Int))) i) 16 = fb_ct (fun k => if k = c then false else !tb s k) 16 := fb_ct_cong (fun k hk => by
    rw [tb_put _ (by omega) (by omega)]
    by_cases q : k = c
    · rw [if_pos q, decide_eq_true q, Bool.or_true]; rfl
    · rw [if_neg q, decide_eq_false q, Bool.or_false])
  rw [e2]
  simpa using e
theorem usn_le {s s' : Int} (h : ∀ c, c < 16 → tb s c = true → tb s' c = true) : usn s' ≤ usn s := fb_ct_sub (fun c hc q => by
  cases e : tb s c with
  | false => rfl
  | true => rw [h c hc e] at q; cases q)
theorem usn_0 {s : Int} (h : usn s = 0) : ∀ c, c < 16 → tb s c = true := fun c hc => by
  have := fb_ct_zero.mp h c hc
  simpa using this
/-- what was seen since is closed -/
def Cl (σ : St) (s s' : Int) : Prop := (∀ c, c < 16 → tb s c = true → tb s' c = true) ∧ ∀ c, c < 16 → tb s' c = true → tb s c = false → tb (σ.1 3 3) c = true ∧ ∀ r : Nat, σ.1 19 c = (r : Int) → ∀ c', c' < 16 → tb (σ.1 17 r) c' = true → tb s' c' = true
def SeatC (G : GX) (L k : Nat) : Prop := ∀ (depth row : Nat) (σ : St) (X B : Nat → Prop) (Q : Int → St → Prop), usn (σ.1 3 4) ≤ k → depth + k ≤ 16 → row < 16 → opn σ → JX σ X B → ¬ B row → (∀ c, c < 16 → X c → tb (σ.1 3 4) c = true) →
  (∀ σ', Fr [3, 18, 19] σ σ' → JX σ' X (fun z => B z ∨ z = row) → Q 1 σ') →
  (∀ σ', Fr [3] σ σ' → σ'.1 3 3 = σ.1 3 3 → Cl σ (σ.1 3 4) (σ'.1 3 4) → (∀ c, c < 16 → tb (σ.1 17 row) c = true → tb (σ'.1 3 4) c = true) → Q 0 σ') → conI G wdX L mX3_seat [vR 3, vI row, vI depth] σ Q
theorem seat_loop {Ret : Option AV → St → Prop} {R : Nat → List AV → List AV → St → Prop} {k : Nat} (hM : AM G wdX (d + k + 2) mX3_seat Ret R) (nest : ∀ k', k = k' + 1 → SeatC G (d + k' + 2) k') {depth row : Nat} (σ0 : St) {X B : Nat → Prop} (hdk : depth + k ≤ 16) (hrow : row < 16) (hop : opn σ0) (hJ : JX σ0 X B) (hnB : ¬ B row) (hX : ∀ c, c < 16 → X c → tb (σ0.1 3 4) c = true)
    (K1 : ∀ σ', Fr [3, 18, 19] σ0 σ' → JX σ' X (fun z => B z ∨ z = row) → Ret (some (vI 1)) σ')
    (K0 : ∀ σ', Fr [3] σ0 σ' → σ'.1 3 3 = σ0.1 3 3 → Cl σ0 (σ0.1 3 4) (σ'.1 3 4) → (∀ c, c < 16 → tb (σ0.1 17 row) c = true → tb (σ'.1 3 4) c = true) → Ret (some (vI 0)) σ') :
    ∀ f t : Nat, ∀ σ : St, usn (σ.1 3 4) ≤ f → f + t ≤ 16 → f ≤ k → Fr [3] σ0 σ → σ.1 3 3 = σ0.1 3 3 → Cl σ0 (σ0.1 3 4) (σ.1 3 4) → R 10 [vR 3, vI row, vI depth, vI t, vN, vN, vN] [] σ := by
  intro f
  induction f with
  | zero =>
    intro t σ hu hft hfk fr h33 hcl
    have hall := usn_0 (Nat.le_zero.mp hu)
    refine g_X3_seat_10 hM row depth t σ ⟨fun _ => K0 σ fr h33 hcl (fun c hc _ => hall c hc), fun _ => ⟨⟨by omega, by omega⟩, fun u1 eu1 => ⟨fun hz => ?_, fun _ => K0 σ fr h33 hcl (fun c hc _ => hall c hc)⟩⟩⟩
    refine absurd ((tb_zero (by rw [eu1]; exact r32_and _ _)).mpr (fun i hi => ?_)) hz
    rw [eu1, tb_and, tb_not _ hi, Int.toNat_natCast, fr.at (by decide)]
    by_cases q : i < 16
    · rw [hall i q]; exact Bool.and_false _
    · rw [hop row hrow i (by omega) hi]; rfl
  | succ f ih =>
    intro t σ hu hft hfk fr h33 hcl
    have e17 : σ.1 17 = σ0.1 17 := fr.at (by decide)
    have e18 : σ.1 18 = σ0.1 18 := fr.at (by decide)
    have e19 : σ.1 19 = σ0.1 19 := fr.at (by decide)
    refine g_X3_seat_10 hM row depth t σ ⟨fun q => by omega, fun _ => ⟨⟨by omega, by omega⟩, fun u1 eu1 => ?_⟩⟩
    have b1 : ∀ i, i < 32 → tb u1 i = (tb (σ0.1 17 row) i && !tb (σ.1 3 4) i) := fun i hi => by rw [eu1, tb_and, tb_not _ hi, Int.toNat_natCast, e17]
    have r1 : r32 u1 := by rw [eu1]; exact r32_and _ _
    have m1 : ∀ i, 16 ≤ i → i < 32 → tb u1 i = false := fun i h1 h2 => by rw [b1 i h2, hop row hrow i h1 h2]; rfl
    have none : u1 = 0 → Ret (some (vI 0)) σ := fun hz => K0 σ fr h33 hcl (fun c hc q => by
      have := (tb_zero r1).mp hz c (by omega)
      rw [b1 c (by omega), q, Bool.true_and] at this
      simpa using this)
    refine ⟨fun hz => ?_, none⟩
    intro u2 eu2
    have b2 : ∀ i, i < 32 → tb u2 i = (tb u1 i && !tb (σ0.1 3 3) i) := fun i hi => by rw [eu2, tb_and, tb_not _ hi, h33]
    have r2 : r32 u2 := by rw [eu2]; exact r32_and _ _
    have m2 : ∀ i, 16 ≤ i → i < 32 → tb u2 i = false := fun i h1 h2 => by rw [b2 i h2, m1 i h1 h2]; rfl
    -- the column that is picked
    have pick : ∀ w0 : Int, r32 w0 → (∀ i, 16 ≤ i → i < 32 → tb w0 i = false) → ¬ w0 = 0 → (∀ c, c < 16 → tb w0 c = true → tb (σ0.1 17 row) c = true ∧ tb (σ.1 3 4) c = false ∧ (¬ u2 = 0 → tb (σ0.1 3 3) c = false) ∧ (u2 = 0 → tb (σ0.1 3 3) c = true)) → R 61 [vR 3, vI row, vI depth, vI t, vN, vI u2, vN] [vI w0] σ := by
      intro w0 rw0 mw hw0 hc
      obtain ⟨c, c16, hcb, hlow⟩ := low_is rw0 hw0 mw
      obtain ⟨hopen, hunseen, hfree, htaken⟩ := hc c c16 hcb
      have wr := mask16 rw0 mw
      have hkk : ∃ k', k = k' + 1 := ⟨k - 1, by omega⟩
      obtain ⟨k', ek⟩ := hkk
      have hnX : ¬ X c := fun q => by rw [hcl.1 c c16 (hX c c16 q)] at hunseen; cases hunseen
      refine g_X3_seat_61 hM row depth t u2 w0 σ ?_
      refine c_lowest (d := d + k) ⟨by omega, by omega⟩ c16 hcb hlow ?_
      intro τ1 e1
      have t3 : τ1.1 3 = uf (σ.1 3) 4 (bOr (σ.1 3 4) (bShl 1 (c : Int))) := by rw [e1, sI_s]
      have t33 : τ1.1 3 3 = σ0.1 3 3 := by rw [t3, uf_n (by decide)]; exact h33
      have t34 : τ1.1 3 4 = bOr (σ.1 3 4) (bShl 1 (c : Int)) := by rw [t3, uf_s]
      have frt : Fr [3] σ0 τ1 := by rw [e1]; exact fr.put (by decide)
      have t17 : τ1.1 17 = σ0.1 17 := frt.at (by decide)
      have t18 : τ1.1 18 = σ0.1 18 := frt.at (by decide)
      have t19 : τ1.1 19 = σ0.1 19 := frt.at (by decide)
      have hJt : JX τ1 X B := by show Jp _ X B (τ1.1 18) (τ1.1 19) (τ1.1 3 3); rw [t17, t18, t19, t33]; exact hJ
      have hus := usn_put c16 hunseen
      have hseen : ∀ i, i < 16 → tb (τ1.1 3 4) i = (tb (σ.1 3 4) i || decide (i = c)) := fun i hi => by rw [t34, tb_put _ (by omega) (by omega)]
      refine ⟨fun hu2 => ?_, fun hu2 => ?_⟩
      · refine c_join hrow c16 (fun σ2 f2 g18 g19 g3 => K1 σ2 ((frt.mono (by decide)).tr f2) ?_)
        have := hJt.join hrow c16 hnB (by show tb (τ1.1 17 row) c = true; rw [t17]; exact hopen) (Or.inr (by rw [t33]; exact hfree hu2))
        show Jp _ X _ (σ2.1 18) (σ2.1 19) (σ2.1 3 3)
        rw [g18, g19, g3, uf_s, f2.at (k := 17) (by decide)]
        exact this.cg (fun z _ => ⟨fun q => ⟨q, fun e => hnX (by rw [← e]; exact q)⟩, fun q => q.1⟩) (fun _ => Iff.rfl)
      · have htk := htaken hu2
        obtain ⟨r1, q1, q2, q3⟩ := hJ.2.1 c c16 htk hnX
        obtain ⟨hr16, _⟩ := hJ.1 r1 q2
        refine ⟨⟨by omega, by omega⟩, ⟨by omega, by omega⟩, ?_⟩
        rw [Int.toNat_natCast, t19, q1]
        have ed : ((depth : Int) + 1) = ((depth + 1 : Nat) : Int) := by omega
        rw [ed]
        have hne : row ≠ r1 := fun e => hnB (by rw [e]; exact q2)
        subst ek
        refine nest k' rfl (depth + 1) r1 τ1 (fun z => X z ∨ z = c) (fun z => B z ∧ z ≠ r1) _ (by rw [t34]; omega) (by omega) hr16 (fun r hr => by rw [t17]; exact hop r hr) (hJt.off (by rw [t19]; exact q1) (by rw [t18]; exact q3)) (fun q => q.2 rfl) (fun z hz q => ?_) (fun σ3 f3 h3 => ?_) (fun σ3 f3 h33' hcl3 hop3 => ?_)
        · rw [hseen z hz]
          rcases q with q | q
          · rw [hcl.1 z hz (hX z hz q), Bool.true_or]
          · rw [decide_eq_true q, Bool.or_true]
        · refine ⟨fun q => by omega, fun _ => ?_⟩
          refine c_join hrow c16 (fun σ4 f4 g18 g19 g3 => K1 σ4 (((frt.mono (by decide)).tr f3).tr f4) ?_)
          have := h3.join (r := row) (c := c) hrow c16 (fun q => by
            rcases q with q | q
            · exact hnB q.1
            · exact hne q) (by show tb (σ3.1 17 row) c = true; rw [f3.at (by decide), t17]; exact hopen) (Or.inl (Or.inr rfl))
          show Jp _ X _ (σ4.1 18) (σ4.1 19) (σ4.1 3 3)
          rw [g18, g19, g3, uf_s, f4.at (k := 17) (by decide)]
          refine this.cg (fun z _ => ⟨fun q => ⟨Or.inl q, fun e => hnX (by rw [← e]; exact q)⟩, fun q => ?_⟩) (fun z => ⟨fun q => ?_, fun q => ?_⟩)
          · rcases q.1 with y | y
            · exact y
            · exact absurd y q.2
          · rcases q with q | q
            · by_cases e : z = r1
              · exact Or.inl (Or.inr e)
              · exact Or.inl (Or.inl ⟨q, e⟩)
            · exact Or.inr q
          · rcases q with (q | q) | q
            · exact Or.inl q.1
            · exact Or.inl (by rw [q]; exact q2)
            · exact Or.inr q
        · refine ⟨fun _ => ⟨⟨by omega, by omega⟩, ?_⟩, fun q => by omega⟩
          have et : ((t : Int) + 1) = ((t + 1 : Nat) : Int) := by omega
          rw [et]
          have mono3 : ∀ i, i < 16 → tb (σ.1 3 4) i = true → tb (σ3.1 3 4) i = true := fun i hi q => hcl3.1 i hi (by rw [hseen i hi, q, Bool.true_or])
          have hc3 : tb (σ3.1 3 4) c = true := hcl3.1 c c16 (by rw [hseen c c16, decide_eq_true rfl, Bool.or_true])
          refine ih (t + 1) σ3 ?_ (by omega) (by omega) (frt.tr f3) (by rw [h33', t33]) ⟨fun i hi q => mono3 i hi (hcl.1 i hi q), fun i hi q q' => ?_⟩
          · have := usn_le hcl3.1
            rw [t34] at this
            omega
          · by_cases e : i = c
            · rw [e]
              refine ⟨htk, fun r er c' hc' hq => ?_⟩
              have : r = r1 := by rw [q1] at er; omega
              rw [this] at hq
              exact hop3 c' hc' (by rw [t17]; exact hq)
            · cases hs : tb (σ.1 3 4) i with
              | true =>
                have z := hcl.2 i hi hs q'
                exact ⟨z.1, fun r er c' hc' hq => mono3 c' hc' (z.2 r er c' hc' hq)⟩
              | false =>
                have z := hcl3.2 i hi q (by rw [hseen i hi, hs, decide_eq_false e]; rfl)
                rw [t33, t19, t17] at z
                exact z
    refine ⟨fun h2z => pick u1 r1 m1 hz (fun c hc q => ?_), fun h2n => pick u2 r2 m2 h2n (fun c hc q => ?_)⟩
    · have z := b1 c (by omega)
      rw [q] at z
      simp only [Bool.true_eq, Bool.and_eq_true, Bool.not_eq_true'] at z
      refine ⟨z.1, z.2, fun y => absurd h2z y, fun _ => ?_⟩
      have y := (tb_zero r2).mp h2z c (by omega)
      rw [b2 c (by omega), q, Bool.true_and] at y
      simpa using y
    · have z := b2 c (by omega)
      rw [q] at z
      simp only [Bool.true_eq, Bool.and_eq_true, Bool.not_eq_true'] at z
      have y := b1 c (by omega)
      rw [z.1] at y
      simp only [Bool.true_eq, Bool.and_eq_true, Bool.not_eq_true'] at y
      exact ⟨y.1, y.2, fun _ => z.2, fun y => absurd y h2n⟩
theorem c_seat : ∀ k : Nat, SeatC G (d + k + 2) k := by
  intro k
  induction k with
  | zero =>
    intro depth row σ X B Q hu hdk hrow hop hJ hnB hX K1 K0
    refine conI.of (ls0 := [vR 3, vI row, vI depth, vN, vN, vN, vN]) rfl rfl (Nat.le_of_ble_eq_true rfl) (fun Ret R hret hM => g_X3_seat_0 hM row depth σ ⟨fun _ => ?_, fun q => by omega⟩)
    exact seat_loop (k := 0) hM (fun k' e => by omega) σ hdk hrow hop hJ hnB hX (fun σ' a b => hret _ _ (K1 σ' a b)) (fun σ' a b c e => hret _ _ (K0 σ' a b c e)) 0 0 σ hu (by omega) (by omega) Fr.rfl' rfl ⟨fun _ _ q => q, fun c _ q q' => by rw [q] at q'; cases q'⟩
  | succ k ih =>
    intro depth row σ X B Q hu hdk hrow hop hJ hnB hX K1 K0
    refine conI.of (ls0 := [vR 3, vI row, vI depth, vN, vN, vN, vN]) rfl rfl (Nat.le_of_ble_eq_true rfl) (fun Ret R hret hM => g_X3_seat_0 hM row depth σ ⟨fun _ => ?_, fun q => by omega⟩)
    exact seat_loop (k := k + 1) hM (fun k' e => by cases e; exact ih) σ hdk hrow hop hJ hnB hX (fun σ' a b => hret _ _ (K1 σ' a b)) (fun σ' a b c e => hret _ _ (K0 σ' a b c e)) (k + 1) 0 σ hu (by omega) (by omega) Fr.rfl' rfl ⟨fun _ _ q => q, fun c _ q q' => by rw [q] at q'; cases q'⟩
end Pair
