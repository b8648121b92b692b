/-! ===== mostApart; the model's apart ===== -/
/-- a number with given bits -/
def mk (S : Nat → Bool) : Nat → Nat
  | 0 => 0
  | n + 1 => mk S n + (if S n then 2 ^ n else 0)
theorem mk_lt (S : Nat → Bool) : ∀ n, mk S n < 2 ^ n
  | 0 => by simp [mk]
  | n + 1 => by
    have := mk_lt S n
    unfold mk
    rw [Nat.pow_succ]
    split <;> omega
theorem mk_bit (S : Nat → Bool) : ∀ n i, i < n → (mk S n).testBit i = S i
  | 0, i, h => by omega
  | n + 1, i, h => by
    have hl := mk_lt S n
    unfold mk
    by_cases e : i = n
    · subst e
      cases hS : S i with
      | false =>
        rw [if_neg (by decide), Nat.add_zero]
        exact Nat.testBit_lt_two_pow hl
      | true =>
        rw [if_pos rfl, Nat.add_comm, Nat.testBit_two_pow_add_eq, Nat.testBit_lt_two_pow hl]; rfl
    · have ih := mk_bit S n i (by omega)
      cases hS : S n with
      | false => rw [if_neg (by decide), Nat.add_zero]; exact ih
      | true =>
        rw [if_pos rfl, Nat.add_comm, Nat.testBit_two_pow_add_gt (by omega)]; exact ih
section Apart2
variable {G : GX} {d : Nat} {σ : St} {Q : Int → St → Prop}
theorem near_in {Ret : Option AV → St → Prop} {R : Nat → List AV → List AV → St → Prop} (hM : AM G wdX (d + 1) mX2_mostApart Ret R) (σ0 : St) (hB : XB σ0) (hA : AF σ0) (i : Nat) (hi : (i : Int) < σ0.1 7 4)
    (k : ∀ σ', Fr [16] σ0 σ' → (∀ c, c ≠ i → σ'.1 16 c = σ0.1 16 c) → (∀ j, j < 32 → (tb (σ'.1 16 i) j = true ↔ ((j : Int) < σ0.1 7 4 ∧ (foX σ0 i j ∨ foX σ0 j i)))) → R 2 [vR 2, vI ((i : Int) + 1), vN] [] σ') :
    ∀ m j : Nat, (j : Int) + m = σ0.1 7 4 → ∀ σ : St, Fr [16] σ0 σ → (∀ c, c ≠ i → σ.1 16 c = σ0.1 16 c) → (∀ b, b < 32 → (tb (σ.1 16 i) b = true ↔ (((b : Int) < σ0.1 7 4 ∧ foX σ0 i b) ∨ (b < j ∧ foX σ0 b i)))) → R 27 [vR 2, vI i, vI j] [] σ := by
  intro m
  have h16 := hB.1
  induction m with
  | zero =>
    intro j hj σ h1 h2 h3
    have ec : σ.1 7 = σ0.1 7 := h1.at (by decide)
    refine g_X2_mostApart_27 hM i j σ ⟨fun _ => ⟨⟨by omega, by omega⟩, k σ h1 h2 (fun b hb => ?_)⟩, fun h => ?_⟩
    · rw [h3 b hb]
      constructor
      · rintro (⟨q1, q2⟩ | ⟨q1, q2⟩)
        · exact ⟨q1, Or.inl q2⟩
        · exact ⟨by omega, Or.inr q2⟩
      · rintro ⟨q1, q2 | q2⟩
        · exact Or.inl ⟨q1, q2⟩
        · exact Or.inr ⟨by omega, q2⟩
    · rw [ec] at h; omega
  | succ m ih =>
    intro j hj σ h1 h2 h3
    have ec : σ.1 7 = σ0.1 7 := h1.at (by decide)
    have ej : ((j : Int) + 1) = ((j + 1 : Nat) : Int) := by omega
    have e15 : σ.1 15 = σ0.1 15 := h1.at (by decide)
    refine g_X2_mostApart_27 hM i j σ ⟨fun h => ?_, fun h => ⟨⟨by omega, by omega⟩, ⟨by omega, by omega⟩, fun τ1 e1 => ⟨⟨by omega, by omega⟩, ?_⟩⟩⟩
    · rw [ec] at h; omega
    rw [ej]
    rw [Int.toNat_natCast, Int.toNat_natCast, bit1 _ (by omega), e15] at e1
    have hAj := hA j i (by omega) (by omega)
    refine ih (j + 1) (by omega) τ1 (by rw [e1]; exact h1.put (by decide)) (fun c hc => by rw [e1, sI_s, uf_n hc, h2 c hc]) (fun b hb => ?_)
    rw [e1, sI_s, uf_s, tb_or, tb_shl _ (by omega) hb, Bool.or_eq_true, h3 b hb]
    cases hf : tb (σ0.1 15 j) i with
    | true =>
      have q := (hAj.mp hf).2
      rw [if_pos rfl, tb_1]
      simp only [Bool.and_eq_true, decide_eq_true_eq]
      constructor
      · rintro ((z | ⟨z1, z2⟩) | ⟨z1, z2⟩)
        · exact Or.inl z
        · exact Or.inr ⟨by omega, z2⟩
        · have : b = j := by omega
          rw [this]; exact Or.inr ⟨by omega, q⟩
      · rintro (z | ⟨z1, z2⟩)
        · exact Or.inl (Or.inl z)
        · by_cases e : b = j
          · exact Or.inr ⟨by omega, by omega⟩
          · exact Or.inl (Or.inr ⟨by omega, z2⟩)
    | false =>
      have q : ¬ foX σ0 j i := fun z => by rw [hAj.mpr ⟨hi, z⟩] at hf; cases hf
      rw [if_neg (by decide), tb_0]
      simp only [Bool.and_false, Bool.false_eq_true, or_false]
      constructor
      · rintro (z | ⟨z1, z2⟩)
        · exact Or.inl z
        · exact Or.inr ⟨by omega, z2⟩
      · rintro (z | ⟨z1, z2⟩)
        · exact Or.inl z
        · have e : b ≠ j := fun e => q (by rw [← e]; exact z2)
          exact Or.inr ⟨by omega, z2⟩
theorem c_mostApart (hB : XB σ) (hA : AF σ) (K : ∀ (N : Nat) (σ' : St), Fr [16] σ σ' → IsAp (σ.1 7 4) (foX σ) N → Q N σ') : conI G wdX (d + 18) mX2_mostApart [vR 2] σ Q := by
  refine conI.of (ls0 := [vR 2, vN, vN]) rfl rfl (Nat.le_of_ble_eq_true rfl) (fun Ret R hret hM => g_X2_mostApart_0 hM σ ?_)
  have h16 := hB.1
  have main : ∀ m i : Nat, (i : Int) + m = σ.1 7 4 → ∀ σ' : St, Fr [16] σ σ' → (∀ a j : Nat, a < i → j < 32 → (tb (σ'.1 16 a) j = true ↔ ((j : Int) < σ.1 7 4 ∧ (foX σ a j ∨ foX σ j a)))) → R 2 [vR 2, vI i, vN] [] σ' := by
    intro m
    induction m with
    | zero =>
      intro i hi σ' f h
      have ec : σ'.1 7 = σ.1 7 := f.at (by decide)
      have hB' := hB.frame f (by decide)
      have hN : NE σ' := by
        intro a b ha hb
        rw [ec] at ha ⊢
        rw [h a b (by omega) hb, foX.frame f (by decide), foX.frame f (by decide)]
      have hnn : σ.1 7 4 = ((σ.1 7 4).toNat : Int) := by omega
      refine g_X2_mostApart_2 hM i σ' ⟨fun _ => ?_, fun q => by rw [ec] at q; omega⟩
      rw [ec, hnn, bShl_1 _ (by omega)]
      have hpw : (2 : Int) ^ (σ.1 7 4).toNat = ((2 ^ (σ.1 7 4).toNat : Nat) : Int) := by push_cast; rfl
      have hpl : 2 ^ (σ.1 7 4).toNat ≤ 2 ^ 16 := Nat.pow_le_pow_right (by decide) (by omega)
      have hpp : 0 < 2 ^ (σ.1 7 4).toNat := Nat.pow_pos (by decide)
      have hbits : ∀ j, j < 32 → (tb ((2 : Int) ^ (σ.1 7 4).toNat - 1) j = decide (j < (σ.1 7 4).toNat)) := by
        intro j hj
        have e : (2 : Int) ^ (σ.1 7 4).toNat - 1 = ((2 ^ (σ.1 7 4).toNat - 1 : Nat) : Int) := by rw [hpw]; omega
        rw [e, tb_nat, Nat.testBit_two_pow_sub_one]
        simp [hj]
      refine ⟨⟨by omega, by omega⟩, ?_⟩
      refine c_mostOf (d := d) hB' hN 16 0 _ (by omega) ⟨by omega, by omega⟩ (fun b hb q => ?_) (fb_ct_le _ 16) (fun N hN' => hret _ _ (K N σ' f ?_))
      · rw [hbits b hb] at q; rw [ec]; simp at q; omega
      · obtain ⟨⟨S, a1, a2, a3⟩, u⟩ := hN'
        have hin : ∀ b, b < 16 → (tb ((2 : Int) ^ (σ.1 7 4).toNat - 1) b = true ↔ (b : Int) < σ.1 7 4) := by
          intro b hb
          rw [hbits b (by omega), decide_eq_true_eq]; omega
        refine ⟨⟨S, fun b hb q => (hin b hb).mp (a1 b hb q), fun b c hb hc q1 q2 q3 => ?_, a3⟩, fun S' b1 b2 => u S' (fun b hb q => (hin b hb).mpr (b1 b hb q)) (fun b c hb hc q1 q2 => ?_)⟩
        · have := a2 b c hb hc q1 q2
          rw [← Bool.not_eq_true, adX_iff hB' hN hc, ec] at this
          refine this ⟨(hin b hb).mp (a1 b hb q1), (hin c hc).mp (a1 c hc q2), Or.inl ?_⟩
          rw [foX.frame f (by decide)]; exact q3
        · cases e : adX σ' b c with
          | false => rfl
          | true =>
            exfalso
            have q := (adX_iff hB' hN hc).mp e
            rw [foX.frame f (by decide), foX.frame f (by decide)] at q
            rcases q.2.2 with z | z
            · exact b2 b c hb hc q1 q2 z
            · exact b2 c b hc hb q2 q1 z
    | succ m ih =>
      intro i hi σ' f h
      have ec : σ'.1 7 = σ.1 7 := f.at (by decide)
      have e15 : σ'.1 15 = σ.1 15 := f.at (by decide)
      refine g_X2_mostApart_2 hM i σ' ⟨fun q => by rw [ec] at q; omega, fun _ => ⟨⟨by omega, by omega⟩, fun τ1 e1 => ?_⟩⟩
      rw [Int.toNat_natCast] at e1
      have f1 : Fr [16] σ τ1 := by rw [e1]; exact f.put (by decide)
      have ect : τ1.1 7 = σ.1 7 := f1.at (by decide)
      have hAt : AF τ1 := by
        intro a b ha hb
        rw [ect] at ha ⊢
        rw [f1.at (by decide), hA a b ha hb, foX.frame f1 (by decide)]
      refine near_in hM τ1 (hB.frame f1 (by decide)) hAt i (by rw [ect]; omega) (fun σ'' f2 q1 q2 => ?_) (σ.1 7 4).toNat 0 (by rw [ect]; omega) τ1 Fr.rfl' (fun _ _ => rfl) (fun b hb => ?_)
      · have ei : ((i : Int) + 1) = ((i + 1 : Nat) : Int) := by omega
        rw [ei]
        refine ih (i + 1) (by omega) σ'' (f1.tr f2) (fun a b ha hb => ?_)
        by_cases e : a = i
        · rw [e, q2 b hb, ect, foX.frame f1 (by decide), foX.frame f1 (by decide)]
        · rw [q1 a e, e1, sI_s, uf_n e]
          exact h a b (by omega) hb
      · have v : τ1.1 16 i = σ.1 15 i := by rw [e1, sI_s, uf_s, e15]
        rw [v, hA i b (by omega) hb, ect, foX.frame f1 (by decide), foX.frame f1 (by decide)]
        constructor
        · intro z; exact Or.inl z
        · rintro (z | ⟨z, -⟩)
          · exact z
          · omega
  exact main (σ.1 7 4).toNat 0 (by omega) σ Fr.rfl' (fun a j ha => by omega)
theorem foM_bg (h : MB σ) {i j : Nat} (hi : (i : Int) < σ.1 0 3) (hj : (j : Int) < σ.1 0 3) (hf : foM σ i j) : σ.1 6 i < σ.1 6 j := by
  have h0 := h.1
  have h1 := h.2.2.1 i hi
  have := hf.1
  have := hf.2
  omega
theorem c_M_apart (hB : MB σ) (K : ∀ N : Nat, IsAp (σ.1 0 3) (foM σ) N → Q N σ) : conI G wdM (d + 1) mX10_apart [vR 0] σ Q := by
  refine conI.of (ls0 := [vR 0, vN, vN, vN, vN, vN, vN]) rfl rfl (Nat.le_of_ble_eq_true rfl) (fun Ret R hret hM => g_X10_apart_0 hM σ ?_)
  have h16 := hB.1
  have hnn : σ.1 0 3 = ((σ.1 0 3).toNat : Int) := by omega
  generalize hn : (σ.1 0 3).toNat = n at *
  have hn16 : n ≤ 16 := by omega
  have hpw : bShl 1 (σ.1 0 3) = ((2 ^ n : Nat) : Int) := by rw [hnn, bShl_1 _ (by omega)]; push_cast; rfl
  have hpl : 2 ^ n ≤ 2 ^ 16 := Nat.pow_le_pow_right (by decide) hn16
  -- what holds of a set
  let ok : Nat → Nat → Prop := fun s t => ∀ a b, a < t → b < t → tb (s : Int) a = true → tb (s : Int) b = true → ¬ foM σ a b
  have inner : ∀ (ms s c i : Nat), s < 2 ^ n → i < n → tb (s : Int) i = true → ok s i →
      (ok s (i + 1) → R 22 [vR 0, vI ms, vI s, vI c, vI 1, vI ((i : Int) + 1), vN] [] σ) → (¬ ok s n → R 22 [vR 0, vI ms, vI s, vI c, vI 0, vI ((i : Int) + 1), vN] [] σ) →
      ∀ m j : Nat, j + m = i → ∀ are : Int, ((are = 1 ∧ ∀ b, b < j → tb (s : Int) b = true → ¬ foM σ i b ∧ ¬ foM σ b i) ∨ (are = 0 ∧ ¬ ok s n)) → R 54 [vR 0, vI ms, vI s, vI c, vI are, vI i, vI j] [] σ := by
    intro ms s c i hs hi hbi hok k1 k0 m
    induction m with
    | zero =>
      intro j hj are h
      have hj' : j = i := by omega
      subst hj'
      refine g_X10_apart_54 hM ms s c are j j σ ⟨fun _ => ⟨⟨by omega, by omega⟩, ?_⟩, fun q => by omega⟩
      rcases h with ⟨rfl, h⟩ | ⟨rfl, h⟩
      · refine k1 (fun a b ha hb h1 h2 => ?_)
        by_cases ea : a = j
        · by_cases eb : b = j
          · rw [ea, eb]; intro q; have := foM_bg hB (by omega) (by omega) q; omega
          · rw [ea]; exact (h b (by omega) h2).1
        · by_cases eb : b = j
          · rw [eb]; exact (h a (by omega) h1).2
          · exact hok a b (by omega) (by omega) h1 h2
      · exact k0 h
    | succ m ih =>
      intro j hj are h
      have ej : ((j : Int) + 1) = ((j + 1 : Nat) : Int) := by omega
      refine g_X10_apart_54 hM ms s c are i j σ ⟨fun q => by omega, fun _ => ?_⟩
      rcases h with ⟨rfl, h⟩ | ⟨rfl, h⟩
      · refine ⟨fun q => by omega, fun _ => ?_⟩
        rw [bit1 _ (by omega)]
        cases hbj : tb (s : Int) j with
        | false =>
          refine ⟨fun _ => ⟨⟨by omega, by omega⟩, ?_⟩, fun q => by simp at q⟩
          rw [ej]
          refine ih (j + 1) (by omega) 1 (Or.inl ⟨rfl, fun b hb q => ?_⟩)
          by_cases e : b = j
          · rw [e, hbj] at q; cases q
          · exact h b (by omega) q
        | true =>
          refine ⟨fun q => by simp at q, fun _ => ?_⟩
          have bad : (foM σ i j ∨ foM σ j i) → ¬ ok s n := by
            rintro (z | z) q
            · exact q i j (by omega) (by omega) hbi hbj z
            · exact q j i (by omega) (by omega) hbj hbi z
          refine c_M_follows i j hB (by omega) (by omega) (fun f1 => ⟨fun _ => ⟨⟨by omega, by omega⟩, ?_⟩, fun q => by omega⟩) (fun f1 => ⟨fun q => by omega, fun _ => ?_⟩)
          · rw [ej]; exact ih (j + 1) (by omega) 0 (Or.inr ⟨rfl, bad (Or.inl f1)⟩)
          refine c_M_follows j i hB (by omega) (by omega) (fun f2 => ⟨fun _ => ⟨⟨by omega, by omega⟩, ?_⟩, fun q => by omega⟩) (fun f2 => ⟨fun q => by omega, fun _ => ⟨⟨by omega, by omega⟩, ?_⟩⟩)
          · rw [ej]; exact ih (j + 1) (by omega) 0 (Or.inr ⟨rfl, bad (Or.inr f2)⟩)
          · rw [ej]
            refine ih (j + 1) (by omega) 1 (Or.inl ⟨rfl, fun b hb q => ?_⟩)
            by_cases e : b = j
            · rw [e]; exact ⟨f1, f2⟩
            · exact h b (by omega) q
      · refine ⟨fun _ => ⟨⟨by omega, by omega⟩, ?_⟩, fun q => by omega⟩
        rw [ej]; exact ih (j + 1) (by omega) 0 (Or.inr ⟨rfl, h⟩)
  have mid : ∀ (ms s : Nat), s < 2 ^ n → (ok s n → R 116 [vR 0, vI ms, vI s, vI (fb_ct (tb (s : Int)) n : Nat), vI 1, vN, vN] [] σ) → (∀ c : Nat, ¬ ok s n → c ≤ 16 → R 116 [vR 0, vI ms, vI s, vI c, vI 0, vN, vN] [] σ) →
      ∀ m i : Nat, i + m = n → ∀ (c : Nat) (are : Int), c ≤ i → ((are = 1 ∧ c = fb_ct (tb (s : Int)) i ∧ ok s i) ∨ (are = 0 ∧ ¬ ok s n)) → R 22 [vR 0, vI ms, vI s, vI c, vI are, vI i, vN] [] σ := by
    intro ms s hs k1 k0 m
    induction m with
    | zero =>
      intro i hi c are hci h
      have hi' : i = n := by omega
      subst hi'
      refine g_X10_apart_22 hM ms s c are i σ ⟨fun _ => ?_, fun q => by omega⟩
      rcases h with ⟨rfl, h, h'⟩ | ⟨rfl, h⟩
      · rw [h]; exact k1 h'
      · exact k0 c h (by omega)
    | succ m ih =>
      intro i hi c are hci h
      have ei : ((i : Int) + 1) = ((i + 1 : Nat) : Int) := by omega
      refine g_X10_apart_22 hM ms s c are i σ ⟨fun q => by omega, fun _ => ?_⟩
      rcases h with ⟨rfl, h, h'⟩ | ⟨rfl, h⟩
      · refine ⟨fun q => by omega, fun _ => ?_⟩
        rw [bit1 _ (by omega)]
        cases hbi : tb (s : Int) i with
        | false =>
          refine ⟨fun q => by simp at q, fun _ => ⟨⟨by omega, by omega⟩, ?_⟩⟩
          rw [ei]
          refine ih (i + 1) (by omega) c 1 (by omega) (Or.inl ⟨rfl, ?_, fun a b ha hb q1 q2 => ?_⟩)
          · rw [fb_ct_succ, hbi]; simp; exact h
          · have ea : a ≠ i := fun e => by rw [e, hbi] at q1; cases q1
            have eb : b ≠ i := fun e => by rw [e, hbi] at q2; cases q2
            exact h' a b (by omega) (by omega) q1 q2
        | true =>
          refine ⟨fun _ => ⟨⟨by omega, by omega⟩, ?_⟩, fun q => by simp at q⟩
          have ecn : ((c : Int) + 1) = ((c + 1 : Nat) : Int) := by omega
          rw [ecn]
          refine inner ms s (c + 1) i hs (by omega) hbi h' (fun q => ?_) (fun q => ?_) i 0 (by omega) 1 (Or.inl ⟨rfl, fun b hb => by omega⟩)
          · rw [ei]
            refine ih (i + 1) (by omega) (c + 1) 1 (by omega) (Or.inl ⟨rfl, ?_, q⟩)
            rw [fb_ct_succ, hbi, h]; simp
          · rw [ei]; exact ih (i + 1) (by omega) (c + 1) 0 (by omega) (Or.inr ⟨rfl, q⟩)
      · exact ⟨fun _ => k0 c h (by omega), fun q => by omega⟩
  have main : ∀ m s : Nat, s + m = 2 ^ n → ∀ ms : Nat, ms ≤ 16 → (∃ S : Nat → Bool, (∀ i, i < 16 → S i = true → i < n) ∧ (∀ i j, i < 16 → j < 16 → S i = true → S j = true → ¬ foM σ i j) ∧ fb_ct S 16 = ms) → (∀ s', s' < s → ok s' n → fb_ct (tb (s' : Int)) n ≤ ms) → R 4 [vR 0, vI ms, vI s, vN, vN, vN, vN] [] σ := by
    intro m
    induction m with
    | zero =>
      intro s hs ms hms hex hall
      refine g_X10_apart_4 hM ms s σ ⟨fun _ => hret _ _ (K ms ⟨?_, fun S h1 h2 => ?_⟩), fun q => by rw [hpw] at q; omega⟩
      · obtain ⟨S, a, b, c⟩ := hex
        exact ⟨S, fun i hi h => by have := a i hi h; omega, b, c⟩
      · have hl := mk_lt S n
        have hbit : ∀ i, i < n → tb ((mk S n : Nat) : Int) i = S i := by
          intro i hi
          rw [tb_nat, mk_bit S n i hi]
          simp; omega
        have q := hall (mk S n) (by omega) (fun a b ha hb q1 q2 => by
          rw [hbit a ha] at q1
          rw [hbit b hb] at q2
          exact h2 a b (by omega) (by omega) q1 q2)
        have e1 : fb_ct (tb ((mk S n : Nat) : Int)) n = fb_ct S n := fb_ct_cong (fun k hk => hbit k hk)
        have e2 : fb_ct S 16 = fb_ct S n := by
          have := fb_ct_split S n (16 - n)
          rw [show n + (16 - n) = 16 from by omega] at this
          rw [this]
          have z : fb_ct (fun k => S (n + k)) (16 - n) = 0 := fb_ct_zero.mpr (fun k hk => by
            cases e : S (n + k) with
            | false => rfl
            | true => have := h1 (n + k) (by omega) e; omega)
          omega
        omega
    | succ m ih =>
      intro s hs ms hms hex hall
      have es : ((s : Int) + 1) = ((s + 1 : Nat) : Int) := by omega
      refine g_X10_apart_4 hM ms s σ ⟨fun q => by rw [hpw] at q; omega, fun _ => ?_⟩
      have next : ∀ ms' : Nat, ms' ≤ 16 → (∃ S : Nat → Bool, (∀ i, i < 16 → S i = true → i < n) ∧ (∀ i j, i < 16 → j < 16 → S i = true → S j = true → ¬ foM σ i j) ∧ fb_ct S 16 = ms') → ms ≤ ms' → (ok s n → fb_ct (tb (s : Int)) n ≤ ms') → R 4 [vR 0, vI ms', vI ((s : Int) + 1), vN, vN, vN, vN] [] σ := by
        intro ms' q0 q1 q2 q3
        rw [es]
        refine ih (s + 1) (by omega) ms' q0 q1 (fun s' hs' q => ?_)
        by_cases e : s' = s
        · rw [e] at q ⊢; exact q3 q
        · have := hall s' (by omega) q; omega
      refine mid ms s (by omega) (fun hok => ?_) (fun c hok hc => ?_) n 0 (by omega) 0 1 (Nat.le_refl _) (Or.inl ⟨rfl, rfl, fun a b ha => by omega⟩)
      · have hle := fb_ct_le (tb (s : Int)) n
        refine g_X10_apart_116 hM ms s (fb_ct (tb (s : Int)) n : Nat) 1 σ ⟨fun q => by omega, fun _ => ⟨fun q => ⟨⟨by omega, by omega⟩, next ms hms hex (Nat.le_refl _) (fun _ => by omega)⟩, fun q => ⟨⟨by omega, by omega⟩, next _ (by omega) ⟨fun k => decide (k < n) && tb (s : Int) k, ?_, ?_, ?_⟩ (by omega) (fun _ => Nat.le_refl _)⟩⟩⟩
        · intro i _ h; simp only [Bool.and_eq_true, decide_eq_true_eq] at h; exact h.1
        · intro i j _ _ h1 h2
          simp only [Bool.and_eq_true, decide_eq_true_eq] at h1 h2
          exact hok i j h1.1 h2.1 h1.2 h2.2
        · have := fb_ct_split (fun k => decide (k < n) && tb (s : Int) k) n (16 - n)
          rw [show n + (16 - n) = 16 from by omega] at this
          rw [this]
          have z : fb_ct (fun k => decide (n + k < n) && tb (s : Int) (n + k)) (16 - n) = 0 := fb_ct_zero.mpr (fun k hk => by rw [decide_eq_false (by omega)]; rfl)
          have z2 : fb_ct (fun k => decide (k < n) && tb (s : Int) k) n = fb_ct (tb (s : Int)) n := fb_ct_cong (fun k hk => by simp [hk])
          omega
      · refine g_X10_apart_116 hM ms s c 0 σ ⟨fun _ => ⟨⟨by omega, by omega⟩, next ms hms hex (Nat.le_refl _) (fun q => absurd q hok)⟩, fun q => by omega⟩
  refine main (2 ^ n) 0 (by omega) 0 (by omega) ⟨fun _ => false, (fun i _ h => by cases h), (fun i j _ _ h => by cases h), fb_ct_zero.mpr (fun _ _ => rfl)⟩ (fun s' hs' => by omega)
end Apart2
