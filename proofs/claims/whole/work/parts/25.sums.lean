/-! ===== the model's table of sums ===== -/
theorem bOr_nat (a b : Nat) (h : a ||| b < 2 ^ 31) : bOr (a : Int) (b : Int) = ((a ||| b : Nat) : Int) := by
  unfold bOr
  rw [of_nat, of_nat]
  have e : nI a ||| nI b = nI (a ||| b) := by
    apply b_ext
    intro i hi
    rw [b_or]
    show ((BitVec.ofNat 32 a).getLsbD i || (BitVec.ofNat 32 b).getLsbD i) = (BitVec.ofNat 32 (a ||| b)).getLsbD i
    simp [hi]
  rw [e, nI_toInt h]
theorem bShl_n {k : Nat} (h : k < 31) : bShl 1 (k : Int) = ((2 ^ k : Nat) : Int) := by rw [bShl_1 k h]; push_cast; rfl
theorem or16 {s j : Nat} (hs : s < 65536) (hj : j < 16) : s ||| 2 ^ j < 65536 := or_lt (n := 16) hs hj
theorem bOr_set {s j : Nat} (hs : s < 65536) (hj : j < 16) : bOr (s : Int) (bShl 1 (j : Int)) = ((s ||| 2 ^ j : Nat) : Int) := by
  rw [bShl_n (by omega), bOr_nat _ _ (by have := or16 hs hj; omega)]
theorem tb_set {s j : Nat} (hj : j < 32) : tb (s : Int) j = s.testBit j := by rw [tb_nat]; simp [hj]
section Sums
variable {G : GX} {d : Nat} {σ : St} {Q : Int → St → Prop}
abbrev TM (σ : St) (i s : Nat) : Int := σ.1 8 (65536 * i + s)
theorem c_M_with (i j s : Nat) (hB : MB σ) (hi : (i : Int) < σ.1 0 3) (hj : (j : Int) < σ.1 0 3) (hs : s < 65536) (hb : -10000000 ≤ TM σ (i + 1) (s ||| 2 ^ j) ∧ TM σ (i + 1) (s ||| 2 ^ j) ≤ 10000000) (k : Q (TM σ (i + 1) (s ||| 2 ^ j) + pM σ i j - 100000) σ) : conI G wdM d mX10_with [vR 0, vI i, vI j, vI s] σ Q := by
  refine conI.of (ls0 := [vR 0, vI i, vI j, vI s]) rfl rfl (Nat.le_of_ble_eq_true rfl) (fun Ret R hret hM => g_X10_with_0 hM i j s σ ?_)
  have h0 := hB.1
  have hi' : i < 16 := by omega
  have hj' : j < 16 := by omega
  have ri := hB.2.1 i hi'
  have rj := hB.2.1 j hj'
  have hp := hB.p hi' hj'
  have ho := or16 hs hj'
  rw [bOr_set hs hj', Int.toNat_natCast, Int.toNat_natCast]
  have e : (65536 * ((i : Int) + 1) + ((s ||| 2 ^ j : Nat) : Int)).toNat = 65536 * (i + 1) + (s ||| 2 ^ j) := by omega
  rw [e]
  refine ⟨⟨by omega, by omega⟩, ⟨by omega, by omega⟩, ⟨by omega, by omega⟩, ⟨by omega, by omega⟩, ⟨by omega, by omega⟩, ⟨by omega, by omega⟩, ⟨by omega, by omega⟩, ⟨by omega, by omega⟩, ⟨by omega, by omega⟩, ⟨?_, ?_⟩, ⟨?_, ?_⟩, hret _ _ k⟩
  · show -2147483648 ≤ TM σ (i + 1) (s ||| 2 ^ j) + pM σ i j; omega
  · show TM σ (i + 1) (s ||| 2 ^ j) + pM σ i j < 2147483648; omega
  · show -2147483648 ≤ TM σ (i + 1) (s ||| 2 ^ j) + pM σ i j - 100000; omega
  · show TM σ (i + 1) (s ||| 2 ^ j) + pM σ i j - 100000 < 2147483648; omega
abbrev offM (S : List Nat) : Prop := 0 ∉ S ∧ 1 ∉ S ∧ 2 ∉ S ∧ 3 ∉ S ∧ 4 ∉ S ∧ 5 ∉ S ∧ 6 ∉ S ∧ 7 ∉ S
theorem MB.fr {σ σ' : St} (h : MB σ) (e3 : σ'.1 0 3 = σ.1 0 3) (e8 : σ'.1 0 8 = σ.1 0 8) (e9 : σ'.1 0 9 = σ.1 0 9) (e10 : σ'.1 0 10 = σ.1 0 10) (e11 : σ'.1 0 11 = σ.1 0 11) (f1 : σ'.1 1 = σ.1 1) (f2 : σ'.1 2 = σ.1 2) (f3 : σ'.1 3 = σ.1 3) (f4 : σ'.1 4 = σ.1 4) (f5 : σ'.1 5 = σ.1 5) (f6 : σ'.1 6 = σ.1 6) (f7 : σ'.1 7 = σ.1 7) : MB σ' := by
  unfold MB
  rw [e3, e8, e9, e10, e11, f1, f2, f3, f4, f5, f6, f7]
  exact h
theorem MB.frame {S : List Nat} {σ σ' : St} (h : MB σ) (hF : Fr S σ σ') (ho : offM S) : MB σ' := by
  have e := hF.at ho.1
  exact h.fr (by rw [e]) (by rw [e]) (by rw [e]) (by rw [e]) (by rw [e]) (hF.at ho.2.1) (hF.at ho.2.2.1) (hF.at ho.2.2.2.1) (hF.at ho.2.2.2.2.1) (hF.at ho.2.2.2.2.2.1) (hF.at ho.2.2.2.2.2.2.1) (hF.at ho.2.2.2.2.2.2.2)
theorem foM.eq {σ σ' : St} (f1 : σ'.1 1 = σ.1 1) (f4 : σ'.1 4 = σ.1 4) (f5 : σ'.1 5 = σ.1 5) (f6 : σ'.1 6 = σ.1 6) (f7 : σ'.1 7 = σ.1 7) : foM σ' = foM σ := by
  funext i j; unfold foM wM; rw [f1, f4, f5, f6, f7]
theorem pM.eq {σ σ' : St} (f2 : σ'.1 2 = σ.1 2) (f4 : σ'.1 4 = σ.1 4) (f5 : σ'.1 5 = σ.1 5) : pM σ' = pM σ := by
  funext i j; unfold pM; rw [f2, f4, f5]
theorem foM.frame {S : List Nat} {σ σ' : St} (hF : Fr S σ σ') (ho : offM S) : foM σ' = foM σ := foM.eq (hF.at ho.2.1) (hF.at ho.2.2.2.2.1) (hF.at ho.2.2.2.2.2.1) (hF.at ho.2.2.2.2.2.2.1) (hF.at ho.2.2.2.2.2.2.2)
theorem pM.frame {S : List Nat} {σ σ' : St} (hF : Fr S σ σ') (ho : offM S) : pM σ' = pM σ := pM.eq (hF.at ho.2.2.1) (hF.at ho.2.2.2.2.1) (hF.at ho.2.2.2.2.2.1)
/-- rows behind i are done, and of row i the first s places -/
def tdone (n : Nat) (fo : Nat → Nat → Prop) (pr : Nat → Nat → Int) (T : Nat → Nat → Int) (i s : Nat) : Prop :=
  (∀ s', s' < 2 ^ n → T n s' = 0) ∧ (∀ i', i < i' → i' < n → ∀ s', s' < 2 ^ n → cellP n fo pr T i' s') ∧ (i < n → ∀ s', s' < s → cellP n fo pr T i s') ∧
  (∀ i', i < i' → i' ≤ n → ∀ s', s' < 2 ^ n → -(100000 * ((n - i' : Nat) : Int)) ≤ T i' s' ∧ T i' s' ≤ 0) ∧ (i < n → ∀ s', s' < s → -(100000 * ((n - i : Nat) : Int)) ≤ T i s' ∧ T i s' ≤ 0)
theorem cellP.mono {n : Nat} {fo : Nat → Nat → Prop} {pr : Nat → Nat → Int} {T T' : Nat → Nat → Int} {i s : Nat} (h : cellP n fo pr T i s) (hs : s < 2 ^ n) (e1 : T' i s = T i s) (e2 : ∀ s', s' < 2 ^ n → T' (i + 1) s' = T (i + 1) s') : cellP n fo pr T' i s := by
  obtain ⟨h1, h2, h3⟩ := h
  refine ⟨by rw [e1, e2 s hs]; exact h1, fun j hj hb hf => by rw [e1, e2 _ (or_lt hs hj)]; exact h2 j hj hb hf, ?_⟩
  rcases h3 with z | ⟨j, z1, z2, z3, z4⟩
  · left; rw [e1, e2 s hs]; exact z
  · right; exact ⟨j, z1, z2, z3, by rw [e1, e2 _ (or_lt hs z1)]; exact z4⟩
def attP (n : Nat) (fo : Nat → Nat → Prop) (pr : Nat → Nat → Int) (T : Nat → Nat → Int) (i s : Nat) (v : Int) : Prop := v = T (i + 1) s ∨ ∃ j, j < n ∧ s.testBit j = false ∧ fo i j ∧ v = T (i + 1) (s ||| 2 ^ j) + pr i j - 100000
theorem bnd_step {n i : Nat} {t p : Int} (hi : i < n) (h : -(100000 * ((n - (i + 1) : Nat) : Int)) ≤ t ∧ t ≤ 0) (hp : 0 ≤ p ∧ p ≤ 1000) : -(100000 * ((n - i : Nat) : Int)) ≤ t + p - 100000 ∧ t + p - 100000 ≤ 0 := by omega
theorem bnd_keep {n i : Nat} {t : Int} (hi : i < n) (h : -(100000 * ((n - (i + 1) : Nat) : Int)) ≤ t ∧ t ≤ 0) : -(100000 * ((n - i : Nat) : Int)) ≤ t ∧ t ≤ 0 := by omega
theorem bnd_big {n i : Nat} {t : Int} (hn : n ≤ 16) (h : -(100000 * ((n - i : Nat) : Int)) ≤ t ∧ t ≤ 0) : -10000000 ≤ t ∧ t ≤ 10000000 := by omega
theorem c_sums {Q : St → Prop} (hB : MB σ) (K : ∀ σ', Fr [8] σ σ' → tableP (σ.1 0 3).toNat (foM σ) (pM σ) (TM σ') → (∀ i s, i ≤ (σ.1 0 3).toNat → s < 2 ^ (σ.1 0 3).toNat → -10000000 ≤ TM σ' i s ∧ TM σ' i s ≤ 10000000) → Q σ') : conV G wdM (d + 1) mX10_sums [vR 0] σ Q := by
  refine conV.of (ls0 := [vR 0, vN, vN, vN, vN, vN, vN]) rfl rfl (Nat.le_of_ble_eq_true rfl) (fun Ret R hret hM => g_X10_sums_0 hM σ ?_)
  have h16 := hB.1
  have hnn : σ.1 0 3 = ((σ.1 0 3).toNat : Int) := by omega
  generalize hn : (σ.1 0 3).toNat = n at *
  have hn16 : n ≤ 16 := by omega
  have hpw : bShl 1 (σ.1 0 3) = ((2 ^ n : Nat) : Int) := by rw [hnn, bShl_n (by omega)]
  have hpl : 2 ^ n ≤ 65536 := Nat.pow_le_pow_right (n := 2) (j := 16) (by decide) hn16
  rw [hpw]
  -- the loop over j
  have lj : ∀ (i s : Nat), i < n → s < 2 ^ n → ∀ σ' : St, Fr [8] σ σ' → tdone n (foM σ) (pM σ) (TM σ') i s →
      (∀ v : Int, -(100000 * ((n - i : Nat) : Int)) ≤ v → v ≤ 0 → v ≤ TM σ' (i + 1) s → (∀ j, j < n → s.testBit j = false → foM σ i j → v ≤ TM σ' (i + 1) (s ||| 2 ^ j) + pM σ i j - 100000) →
        attP n (foM σ) (pM σ) (TM σ') i s v → R 71 [vR 0, vI ((2 ^ n : Nat) : Int), vI i, vI s, vI v, vI n, vN] [] σ') →
      ∀ m j : Nat, j + m = n → ∀ v : Int, -(100000 * ((n - i : Nat) : Int)) ≤ v → v ≤ 0 → v ≤ TM σ' (i + 1) s → (∀ j', j' < j → s.testBit j' = false → foM σ i j' → v ≤ TM σ' (i + 1) (s ||| 2 ^ j') + pM σ i j' - 100000) →
        attP n (foM σ) (pM σ) (TM σ') i s v → R 71 [vR 0, vI ((2 ^ n : Nat) : Int), vI i, vI s, vI v, vI j, vN] [] σ' := by
    intro i s hi hs σ' f td k m
    have ec : σ'.1 0 = σ.1 0 := f.at (by decide)
    have hB' := hB.frame f (by decide)
    induction m with
    | zero =>
      intro j hj v a1 a2 a3 a4 a5
      have e : j = n := by omega
      subst e
      exact k v a1 a2 a3 a4 a5
    | succ m ih =>
      intro j hj v a1 a2 a3 a4 a5
      have ej : ((j : Int) + 1) = ((j + 1 : Nat) : Int) := by omega
      have hji : j < 16 := by omega
      refine g_X10_sums_71 hM _ i s v j σ' ⟨fun q => by rw [ec] at q; omega, fun _ => ?_⟩
      rw [bit1 _ (by omega), tb_set (by omega)]
      have skip : (s.testBit j = false → foM σ i j → v ≤ TM σ' (i + 1) (s ||| 2 ^ j) + pM σ i j - 100000) → R 71 [vR 0, vI ((2 ^ n : Nat) : Int), vI i, vI s, vI v, vI ((j : Int) + 1), vN] [] σ' := by
        intro q
        rw [ej]
        refine ih (j + 1) (by omega) v a1 a2 a3 (fun j' hj' z1 z2 => ?_) a5
        by_cases e : j' = j
        · rw [e] at z1 z2 ⊢; exact q z1 z2
        · exact a4 j' (by omega) z1 z2
      cases hb : s.testBit j with
      | true => exact ⟨fun _ => ⟨⟨by omega, by omega⟩, skip (fun q => by rw [hb] at q; cases q)⟩, fun q => by simp at q⟩
      | false =>
        refine ⟨fun q => by simp at q, fun _ => ?_⟩
        refine c_M_follows i j hB' (by rw [ec]; omega) (by rw [ec]; omega) (fun hf => ⟨fun q => by omega, fun _ => ?_⟩) (fun hf => ⟨fun _ => ⟨⟨by omega, by omega⟩, skip (fun _ q => absurd (by rw [foM.frame f (by decide)]; exact q) hf)⟩, fun q => by omega⟩)
        have hbd := td.2.2.2.1 (i + 1) (by omega) (by omega) (s ||| 2 ^ j) (or_lt hs (by omega))
        have hp := hB.p (i := i) (j := j) (by omega) hji
        rw [foM.frame f (by decide)] at hf
        have hst := bnd_step hi hbd hp
        refine c_M_with i j s hB' (by rw [ec]; omega) (by rw [ec]; omega) (by omega) (bnd_big hn16 hbd) ?_
        rw [pM.frame f (by decide)]
        refine ⟨fun q => ⟨⟨by omega, by omega⟩, skip (fun _ _ => q)⟩, fun q => ⟨⟨by omega, by omega⟩, ?_⟩⟩
        rw [ej]
        have q' := Int.lt_of_not_ge q
        refine ih (j + 1) (by omega) _ hst.1 hst.2 (Int.le_trans (Int.le_of_lt q') a3) (fun j' hj' z1 z2 => ?_) (Or.inr ⟨j, by omega, hb, hf, rfl⟩)
        by_cases e : j' = j
        · rw [e]; exact Int.le_refl _
        · exact Int.le_trans (Int.le_of_lt q') (a4 j' (by omega) z1 z2)
  -- the loop over sets
  have ls : ∀ i : Nat, i < n → (∀ σ', Fr [8] σ σ' → tdone n (foM σ) (pM σ) (TM σ') i (2 ^ n) → R 42 [vR 0, vI ((2 ^ n : Nat) : Int), vI ((i : Int) + (-1)), vN, vN, vN, vN] [] σ') →
      ∀ m s : Nat, s + m = 2 ^ n → ∀ σ', Fr [8] σ σ' → tdone n (foM σ) (pM σ) (TM σ') i s → R 48 [vR 0, vI ((2 ^ n : Nat) : Int), vI i, vI s, vN, vN, vN] [] σ' := by
    intro i hi k m
    induction m with
    | zero =>
      intro s hs σ' f td
      have e : s = 2 ^ n := by omega
      subst e
      exact g_X10_sums_48 hM _ i _ σ' ⟨fun _ => ⟨⟨by omega, by omega⟩, k σ' f td⟩, fun q => by omega⟩
    | succ m ih =>
      intro s hs σ' f td
      have ec : σ'.1 0 = σ.1 0 := f.at (by decide)
      have es : ((s : Int) + 1) = ((s + 1 : Nat) : Int) := by omega
      refine g_X10_sums_48 hM _ i s σ' ⟨fun q => by omega, fun _ => ⟨⟨by omega, by omega⟩, ⟨by omega, by omega⟩, ⟨by omega, by omega⟩, ⟨by omega, by omega⟩, fun u1 eu1 => ?_⟩⟩
      have e1 : (65536 * ((i : Int) + 1) + (s : Int)).toNat = 65536 * (i + 1) + s := by omega
      rw [e1] at eu1
      have hbd := td.2.2.2.1 (i + 1) (by omega) (by omega) s (by omega)
      have hu : u1 = TM σ' (i + 1) s := eu1
      refine lj i s hi (by omega) σ' f td (fun v a1 a2 a3 a4 a5 => ?_) n 0 (by omega) u1 (by rw [hu]; exact (bnd_keep hi hbd).1) (by rw [hu]; exact hbd.2) (by rw [hu]; exact Int.le_refl _) (fun j' hj' => by omega) (Or.inl hu)
      refine g_X10_sums_71 hM _ i s v n σ' ⟨fun _ => ⟨⟨by omega, by omega⟩, ⟨by omega, by omega⟩, ⟨by omega, by omega⟩, fun τ1 e2 => ⟨⟨by omega, by omega⟩, ?_⟩⟩, fun q => by rw [ec] at q; omega⟩
      have e3 : (65536 * (i : Int) + (s : Int)).toNat = 65536 * i + s := by omega
      rw [e3] at e2
      have hT : ∀ i' s', s' < 2 ^ n → (i' ≠ i ∨ s' ≠ s) → TM τ1 i' s' = TM σ' i' s' := by
        intro i' s' hs' q
        show τ1.1 8 _ = σ'.1 8 _
        rw [e2, sI_s, uf_n (by omega)]
      have hTs : TM τ1 i s = v := by
        show τ1.1 8 _ = v
        rw [e2, sI_s, uf_s]
      rw [es]
      refine ih (s + 1) (by omega) τ1 (by rw [e2]; exact f.put (by decide)) ⟨fun s' hs' => ?_, fun i' h1 h2 s' hs' => ?_, fun _ s' hs' => ?_, fun i' h1 h2 s' hs' => ?_, fun _ s' hs' => ?_⟩
      · rw [hT n s' hs' (Or.inl (by omega))]; exact td.1 s' hs'
      · exact (td.2.1 i' h1 h2 s' hs').mono hs' (hT _ _ hs' (Or.inl (by omega))) (fun s'' hs'' => hT _ _ hs'' (Or.inl (by omega)))
      · by_cases e : s' = s
        · rw [e]
          refine ⟨?_, fun j hj hb hf => ?_, ?_⟩
          · rw [hTs, hT _ _ (by omega) (Or.inl (by omega))]; exact a3
          · rw [hTs, hT _ _ (or_lt (by omega) hj) (Or.inl (by omega))]; exact a4 j hj hb hf
          · rcases a5 with z | ⟨j, z1, z2, z3, z4⟩
            · left; rw [hTs, hT _ _ (by omega) (Or.inl (by omega))]; exact z
            · right; exact ⟨j, z1, z2, z3, by rw [hTs, hT _ _ (or_lt (by omega) z1) (Or.inl (by omega))]; exact z4⟩
        · exact (td.2.2.1 hi s' (by omega)).mono (by omega) (hT _ _ (by omega) (Or.inr e)) (fun s'' hs'' => hT _ _ hs'' (Or.inl (by omega)))
      · rw [hT i' s' hs' (Or.inl (by omega))]; exact td.2.2.2.1 i' h1 h2 s' hs'
      · by_cases e : s' = s
        · rw [e, hTs]; exact ⟨a1, a2⟩
        · rw [hT i s' (by omega) (Or.inr e)]; exact td.2.2.2.2 hi s' (by omega)
  -- the loop over trips, downwards
  have li : ∀ i : Nat, i ≤ n → ∀ σ', Fr [8] σ σ' → (∀ s', s' < 2 ^ n → TM σ' n s' = 0) → (∀ i', i ≤ i' → i' < n → ∀ s', s' < 2 ^ n → cellP n (foM σ) (pM σ) (TM σ') i' s') → (∀ i', i ≤ i' → i' ≤ n → ∀ s', s' < 2 ^ n → -(100000 * ((n - i' : Nat) : Int)) ≤ TM σ' i' s' ∧ TM σ' i' s' ≤ 0) → R 42 [vR 0, vI ((2 ^ n : Nat) : Int), vI ((i : Int) + (-1)), vN, vN, vN, vN] [] σ' := by
    intro i
    induction i with
    | zero =>
      intro _ σ' f t1 t2 t3
      refine g_X10_sums_42 hM _ _ σ' ⟨fun _ => hret _ (K σ' f ⟨t1, fun i hi s hs => t2 i (by omega) hi s hs⟩ (fun i s hi hs => ?_)), fun q => by omega⟩
      exact bnd_big hn16 (t3 i (by omega) hi s hs)
    | succ i ih =>
      intro hi σ' f t1 t2 t3
      have e : (((i + 1 : Nat) : Int) + (-1)) = (i : Int) := by omega
      rw [e]
      refine g_X10_sums_42 hM _ i σ' ⟨fun q => by omega, fun _ => ?_⟩
      refine ls i (by omega) (fun σ'' f2 td => ?_) (2 ^ n) 0 (by omega) σ' f ⟨t1, fun i' h1 h2 => t2 i' (by omega) h2, fun _ s' hs' => by omega, fun i' h1 h2 => t3 i' (by omega) h2, fun _ s' hs' => by omega⟩
      refine ih (by omega) σ'' f2 td.1 (fun i' h1 h2 s' hs' => ?_) (fun i' h1 h2 s' hs' => ?_)
      · by_cases z : i' = i
        · rw [z]; exact td.2.2.1 (by omega) s' hs'
        · exact td.2.1 i' (by omega) h2 s' hs'
      · by_cases z : i' = i
        · rw [z]; exact td.2.2.2.2 (by omega) s' hs'
        · exact td.2.2.2.1 i' (by omega) h2 s' hs'
  have l0 : ∀ m s : Nat, s + m = 2 ^ n → ∀ σ', Fr [8] σ σ' → (∀ s', s' < s → TM σ' n s' = 0) → R 9 [vR 0, vI ((2 ^ n : Nat) : Int), vI s, vN, vN, vN, vN] [] σ' := by
    intro m
    induction m with
    | zero =>
      intro s hs σ' f t
      have ec : σ'.1 0 = σ.1 0 := f.at (by decide)
      refine g_X10_sums_9 hM _ s σ' ⟨fun _ => ?_, fun q => by omega⟩
      rw [ec]
      refine ⟨⟨by omega, by omega⟩, ?_⟩
      have e : σ.1 0 3 - 1 = ((n : Nat) : Int) + (-1) := by omega
      rw [e]
      refine li n (Nat.le_refl _) σ' f (fun s' hs' => t s' (by omega)) (fun i' h1 h2 => by omega) (fun i' h1 h2 s' hs' => ?_)
      have z : i' = n := by omega
      rw [z, t s' (by omega)]
      omega
    | succ m ih =>
      intro s hs σ' f t
      have ec : σ'.1 0 = σ.1 0 := f.at (by decide)
      have es : ((s : Int) + 1) = ((s + 1 : Nat) : Int) := by omega
      refine g_X10_sums_9 hM _ s σ' ⟨fun q => by omega, fun _ => ?_⟩
      rw [ec]
      refine ⟨⟨by omega, by omega⟩, ⟨by omega, by omega⟩, ⟨by omega, by omega⟩, fun τ1 e1 => ⟨⟨by omega, by omega⟩, ?_⟩⟩
      have e2 : (65536 * σ.1 0 3 + (s : Int)).toNat = 65536 * n + s := by omega
      rw [e2] at e1
      rw [es]
      refine ih (s + 1) (by omega) τ1 (by rw [e1]; exact f.put (by decide)) (fun s' hs' => ?_)
      show τ1.1 8 _ = 0
      by_cases e : s' = s
      · rw [e, e1, sI_s, uf_s]
      · rw [e1, sI_s, uf_n (by omega)]; exact t s' (by omega)
  exact l0 (2 ^ n) 0 (by omega) σ Fr.rfl' (fun s' hs' => by omega)
end Sums
