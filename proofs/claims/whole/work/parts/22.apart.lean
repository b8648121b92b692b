/-! ===== apart, of class and model ===== -/
theorem bDiv_2 (e : Nat) (h : e < 2 ^ 31) : bDiv (e : Int) 2 = ((e / 2 : Nat) : Int) := by
  unfold bDiv
  rw [of_nat, show Int32.ofInt 2 = nI 2 from rfl, pk_div h (by decide) (by decide), nI_toInt (by omega)]
/-- N is the most of n of which none follows another one -/
def IsAp (n : Int) (fo : Nat → Nat → Prop) (N : Nat) : Prop :=
  (∃ S : Nat → Bool, (∀ i, i < 16 → S i = true → (i : Int) < n) ∧ (∀ i j, i < 16 → j < 16 → S i = true → S j = true → ¬ fo i j) ∧ fb_ct S 16 = N) ∧
  ∀ S : Nat → Bool, (∀ i, i < 16 → S i = true → (i : Int) < n) → (∀ i j, i < 16 → j < 16 → S i = true → S j = true → ¬ fo i j) → fb_ct S 16 ≤ N
theorem IsAp.one {n : Int} {fo fo' : Nat → Nat → Prop} (hf : ∀ i j : Nat, i < 16 → j < 16 → (i : Int) < n → (j : Int) < n → (fo i j ↔ fo' i j)) {N M : Nat} (h : IsAp n fo N) (h' : IsAp n fo' M) : N = M := by
  obtain ⟨⟨S, a, b, c⟩, u⟩ := h
  obtain ⟨⟨S', a', b', c'⟩, u'⟩ := h'
  have := u S' a' (fun i j hi hj h1 h2 q => b' i j hi hj h1 h2 ((hf i j hi hj (a' i hi h1) (a' j hj h2)).mp q))
  have := u' S a (fun i j hi hj h1 h2 q => b i j hi hj h1 h2 ((hf i j hi hj (a i hi h1) (a j hj h2)).mpr q))
  omega
section Apart
variable {G : GX} {d : Nat} {σ : St} {Q : Int → St → Prop}
theorem c_bits16 {wd : List CD} (x : Int) (hx : 0 ≤ x ∧ x < 65536) (k : Q (fb_ct (tb x) 16 : Nat) σ) : conI G wd d mJ6_bitCount_0f7a4 [vI x] σ Q := by
  obtain ⟨n, rfl⟩ := Int.eq_ofNat_of_zero_le hx.1
  refine c_bitCount n (by omega) ?_
  have e : fb_ct (fun j => n.testBit j) 16 = fb_ct (tb (n : Int)) 16 := fb_ct_cong (fun j hj => by rw [tb_nat]; simp; omega)
  rw [e]
  exact k
theorem mask16 {x : Int} (hx : r32 x) (h : ∀ i, 16 ≤ i → i < 32 → tb x i = false) : 0 ≤ x ∧ x < 65536 := by
  have h1 := tb_lt hx (n := 16) (by decide) h
  omega
/-- who is near whom, among the first n -/
def adX (σ : St) (i j : Nat) : Bool := decide ((i : Int) < σ.1 7 4) && (decide ((j : Int) < σ.1 7 4) && tb (σ.1 16 i) j)
def NE (σ : St) : Prop := ∀ i j : Nat, (i : Int) < σ.1 7 4 → j < 32 → (tb (σ.1 16 i) j = true ↔ ((j : Int) < σ.1 7 4 ∧ (foX σ i j ∨ foX σ j i)))
theorem adX_iff {σ : St} (hB : XB σ) (h : NE σ) {i j : Nat} (hj : j < 16) : adX σ i j = true ↔ ((i : Int) < σ.1 7 4 ∧ (j : Int) < σ.1 7 4 ∧ (foX σ i j ∨ foX σ j i)) := by
  unfold adX
  simp only [Bool.and_eq_true, decide_eq_true_eq]
  constructor
  · rintro ⟨h1, h2, h3⟩
    exact ⟨h1, h2, ((h i j h1 (by omega)).mp h3).2⟩
  · rintro ⟨h1, h2, h3⟩
    exact ⟨h1, h2, (h i j h1 (by omega)).mpr ⟨h2, h3⟩⟩
theorem adX_s {σ : St} (hB : XB σ) (h : NE σ) : ∀ i j, i < 16 → j < 16 → adX σ i j = adX σ j i := by
  intro i j hi hj
  have e : adX σ i j = true ↔ adX σ j i = true := by
    rw [adX_iff hB h hj, adX_iff hB h hi]
    constructor
    · rintro ⟨a, b, c⟩; exact ⟨b, a, c.symm⟩
    · rintro ⟨a, b, c⟩; exact ⟨b, a, c.symm⟩
  cases e1 : adX σ i j <;> cases e2 : adX σ j i <;> simp_all
theorem adX_i {σ : St} (hB : XB σ) (h : NE σ) : ∀ i, i < 16 → adX σ i i = false := by
  intro i hi
  cases e : adX σ i i with
  | false => rfl
  | true =>
    have q := (adX_iff hB h hi).mp e
    have : foX σ i i := by rcases q.2.2 with z | z <;> exact z
    have := foX_bg hB q.1 q.1 this
    omega
theorem c_mostOf (hB : XB σ) (hN : NE σ) : ∀ (k depth : Nat) (left : Int) {Q : Int → St → Prop}, depth + k = 16 → r32 left → (∀ i, i < 32 → tb left i = true → (i : Int) < σ.1 7 4) → fb_ct (tb left) 16 ≤ k → (∀ N : Nat, AL (adX σ) (tb left) N → Q N σ) → conI G wdX (d + k + 1) mX2_mostOf [vR 16, vI left, vI depth] σ Q := by
  intro k
  have h16 := hB.1
  induction k with
  | zero =>
    intro depth left Q hk hr hl hc K
    refine conI.of (ls0 := [vR 16, vI left, vI depth, vN, vN, vN, vN, vN, vN]) rfl rfl (Nat.le_of_ble_eq_true rfl) (fun Ret R hret hM => g_X2_mostOf_0 hM left depth σ ?_)
    have hz : ∀ i, i < 32 → tb left i = false := by
      intro i hi
      cases e : tb left i with
      | false => rfl
      | true =>
        have := hl i hi e
        have h1 : fb_ct (tb left) 16 = 0 := by omega
        exact absurd (fb_ct_zero.mp h1 i (by omega)) (by rw [e]; decide)
    have e0 : left = 0 := (tb_zero hr).mpr hz
    have loop : ∀ m t : Nat, t + m = 16 → R 11 [vR 16, vI left, vI depth, vI (-1), vI 0, vI 0, vI t, vN, vN] [] σ := by
      intro m
      induction m with
      | zero =>
        intro t ht
        refine g_X2_mostOf_11 hM left depth (-1) 0 0 t σ ⟨fun _ => ⟨fun _ => c_bits16 left (by omega) ⟨⟨?_, ?_⟩, ?_⟩, fun h => by omega⟩, fun h => by omega⟩
        · rw [show bDiv 0 2 = 0 from by decide]; have := fb_ct_le (tb left) 16; omega
        · rw [show bDiv 0 2 = 0 from by decide]; have := fb_ct_le (tb left) 16; omega
        · rw [show bDiv 0 2 = 0 from by decide]
          have hfl := AL.flat (adX_s hB hN) (adX_i hB hN) (L := tb left) (fun i hi h => by rw [hz i (by omega)] at h; cases h)
          have hcr : fb_ct (fun i => tb left i && decide (0 < dg (adX σ) (tb left) i)) 16 = 0 := fb_ct_zero.mpr (fun i hi => by rw [hz i (by omega)]; rfl)
          rw [hcr] at hfl
          have := hret _ _ (K _ hfl)
          rw [show ((fb_ct (tb left) 16 - 0 / 2 : Nat) : Int) = ((fb_ct (tb left) 16 : Nat) : Int) - 0 from by omega] at this
          exact this
      | succ m ih =>
        intro t ht
        have et : ((t : Int) + 1) = ((t + 1 : Nat) : Int) := by omega
        have hb := bit1 left (k := t) (by omega)
        rw [hz t (by omega)] at hb
        refine g_X2_mostOf_11 hM left depth (-1) 0 0 t σ ⟨fun h => by omega, fun _ => ?_⟩
        rw [hb]
        refine ⟨fun _ => ?_, fun h => by simp at h⟩
        refine g_X2_mostOf_41 hM left depth (-1) 0 0 t 0 σ ⟨fun _ => ⟨fun _ => ⟨⟨by omega, by omega⟩, by rw [et]; exact ih (t + 1) (by omega)⟩, fun h => by omega⟩, fun h => by omega⟩
    exact loop 16 0 rfl
  | succ k ihk =>
    intro depth left Q hk hr hl hc K
    refine conI.of (ls0 := [vR 16, vI left, vI depth, vN, vN, vN, vN, vN, vN]) rfl rfl (Nat.le_of_ble_eq_true rfl) (fun Ret R hret hM => g_X2_mostOf_0 hM left depth σ ?_)
    have hlm : 0 ≤ left ∧ left < 65536 := mask16 hr (fun i h1 h2 => by
      cases e : tb left i with
      | false => rfl
      | true => have := hl i h2 e; omega)
    -- what bitCount tells
    have hdg : ∀ t : Nat, t < 16 → tb left t = true → fb_ct (tb (bAnd (σ.1 16 t) left)) 16 = dg (adX σ) (tb left) t := by
      intro t ht hl'
      refine fb_ct_cong (fun j hj => ?_)
      rw [tb_and]
      have h1 := hl t (by omega) hl'
      cases e : tb left j with
      | false => simp
      | true =>
        have h2 := hl j (by omega) e
        simp [adX, h1, h2]
    have loop : ∀ m t : Nat, t + m = 16 → ∀ (pk : Int) (c e : Nat), c ≤ 16 → e = fb_ct (fun i => tb left i && decide (0 < dg (adX σ) (tb left) i)) t → (∀ i, i < t → tb left i = true → dg (adX σ) (tb left) i ≤ c) → (0 < c → ∃ p : Nat, p < 16 ∧ pk = p ∧ tb left p = true ∧ dg (adX σ) (tb left) p = c) → R 11 [vR 16, vI left, vI depth, vI pk, vI c, vI e, vI t, vN, vN] [] σ := by
      intro m
      induction m with
      | zero =>
        intro t ht pk c e hc16 he hmx hpk
        have ht' : t = 16 := by omega
        subst ht'
        have hele := fb_ct_le (fun i => tb left i && decide (0 < dg (adX σ) (tb left) i)) 16
        have hlle := fb_ct_le (tb left) 16
        have hd2 : bDiv (e : Int) 2 = ((e / 2 : Nat) : Int) := bDiv_2 e (by omega)
        have hesub : e ≤ fb_ct (tb left) 16 := by rw [he]; exact fb_ct_sub (fun k _ h => by simp only [Bool.and_eq_true] at h; exact h.1)
        refine g_X2_mostOf_11 hM left depth pk c e 16 σ ⟨fun _ => ⟨fun hc1 => c_bits16 left hlm ?_, fun hc1 => ⟨fun _ u1 eu1 => ?_, fun h => by omega⟩⟩, fun h => by omega⟩
        · rw [hd2]
          refine ⟨⟨by omega, by omega⟩, ?_⟩
          have hfl := AL.flat (adX_s hB hN) (adX_i hB hN) (L := tb left) (fun i hi h => by have := hmx i hi h; omega)
          rw [← he] at hfl
          have := hret _ _ (K _ hfl)
          rw [show ((fb_ct (tb left) 16 - e / 2 : Nat) : Int) = ((fb_ct (tb left) 16 : Nat) : Int) - ((e / 2 : Nat) : Int) from by omega] at this
          exact this
        · obtain ⟨p, hp, rfl, hLp, hdp⟩ := hpk (by omega)
          have ed : ((depth : Int) + 1) = ((depth + 1 : Nat) : Int) := by omega
          rw [ed]
          have hu1 : ∀ i, i < 32 → tb u1 i = (tb left i && !decide (i = p)) := by
            intro i hi
            rw [eu1, tb_and, tb_not _ hi, tb_shl1 (by omega) hi]
          have hcu : fb_ct (tb u1) 16 + 1 = fb_ct (tb left) 16 := by
            have h1 := fb_ct_upd (tb left) false (i := p) (n := 16) hp
            rw [hLp, if_pos rfl, if_neg (by decide)] at h1
            have h2 : fb_ct (tb u1) 16 = fb_ct (fun k => if k = p then false else tb left k) 16 := fb_ct_cong (fun j hj => by
              rw [hu1 j (by omega)]
              by_cases q : j = p <;> simp [q])
            omega
          refine ⟨⟨by omega, by omega⟩, ?_⟩
          refine ihk (depth + 1) u1 (by omega) (by rw [eu1]; exact r32_and _ _) (fun i hi h => ?_) (by omega) (fun a ha => ⟨⟨by omega, by omega⟩, ?_⟩)
          · rw [hu1 i hi] at h; simp only [Bool.and_eq_true] at h; exact hl i hi h.1
          rw [Int.toNat_natCast]
          have hu2 : ∀ i, i < 32 → tb (bAnd u1 (bXor (σ.1 16 p) (-1))) i = (tb u1 i && !tb (σ.1 16 p) i) := by
            intro i hi
            rw [tb_and, tb_not _ hi]
          refine ihk (depth + 1) _ (by omega) (r32_and _ _) (fun i hi h => ?_) ?_ (fun b hb => ?_)
          · rw [hu2 i hi, hu1 i hi] at h; simp only [Bool.and_eq_true] at h; exact hl i hi h.1.1
          · have : fb_ct (tb (bAnd u1 (bXor (σ.1 16 p) (-1)))) 16 ≤ fb_ct (tb u1) 16 := fb_ct_sub (fun j hj h => by rw [hu2 j (by omega)] at h; simp only [Bool.and_eq_true] at h; exact h.1)
            omega
          have hbr := AL.branch (adX_s hB hN) (adX_i hB hN) (L := tb left) (L1 := tb u1) (L2 := tb (bAnd u1 (bXor (σ.1 16 p) (-1)))) hp hLp (fun i hi => hu1 i (by omega)) (fun i hi => by
            rw [hu2 i (by omega)]
            cases e1 : tb u1 i with
            | false => simp
            | true =>
              have h1 : tb left i = true := by rw [hu1 i (by omega)] at e1; simp only [Bool.and_eq_true] at e1; exact e1.1
              have h2 := hl i (by omega) h1
              have h3 := hl p (by omega) hLp
              simp [adX, h2, h3]) ha hb
          have ha' : a ≤ 16 := by obtain ⟨⟨S, -, -, q⟩, -⟩ := ha; have := fb_ct_le S 16; omega
          have hb' : b ≤ 16 := by obtain ⟨⟨S, -, -, q⟩, -⟩ := hb; have := fb_ct_le S 16; omega
          refine ⟨⟨by omega, by omega⟩, ?_⟩
          have := hret _ _ (K _ hbr)
          have eq1 : ((if a < 1 + b then 1 + b else a : Nat) : Int) = if (1 + (b : Int)) < (a : Int) then (a : Int) else 1 + (b : Int) := by
            by_cases q : a < 1 + b
            · rw [if_pos q, if_neg (by omega)]; omega
            · rw [if_neg q]
              by_cases q2 : (1 + (b : Int)) < (a : Int)
              · rw [if_pos q2]
              · rw [if_neg q2]; omega
          rw [eq1] at this
          exact this
      | succ m ih =>
        intro t ht pk c e hc16 he hmx hpk
        have et : ((t : Int) + 1) = ((t + 1 : Nat) : Int) := by omega
        have hele := fb_ct_le (fun i => tb left i && decide (0 < dg (adX σ) (tb left) i)) t
        have hb := bit1 left (k := t) (by omega)
        refine g_X2_mostOf_11 hM left depth pk c e t σ ⟨fun h => by omega, fun _ => ?_⟩
        rw [hb]
        cases hl' : tb left t with
        | false =>
          refine ⟨fun _ => ?_, fun h => by simp at h⟩
          refine g_X2_mostOf_41 hM left depth pk c e t 0 σ ⟨fun _ => ⟨fun _ => ⟨⟨by omega, by omega⟩, ?_⟩, fun h => by omega⟩, fun h => by omega⟩
          rw [et]
          refine ih (t + 1) (by omega) pk c e hc16 ?_ (fun i hi h => ?_) hpk
          · rw [fb_ct_succ, hl']; simp; exact he
          · by_cases q : i = t
            · rw [q, hl'] at h; cases h
            · exact hmx i (by omega) h
        | true =>
          refine ⟨fun h => by simp at h, fun _ => ⟨⟨by omega, by omega⟩, ?_⟩⟩
          rw [Int.toNat_natCast]
          have hdt := hdg t (by omega) hl'
          have hdle : dg (adX σ) (tb left) t ≤ 16 := fb_ct_le _ 16
          refine c_bits16 _ (mask16 (r32_and _ _) (fun i h1 h2 => ?_)) ?_
          · rw [tb_and]
            cases e2 : tb left i with
            | false => simp
            | true => have := hl i h2 e2; omega
          rw [hdt]
          generalize hD : dg (adX σ) (tb left) t = D at *
          have step : ∀ (pk' : Int) (c' e' : Nat), c' ≤ 16 → e' = e + (if 0 < D then 1 else 0) → c ≤ c' → D ≤ c' → (0 < c' → (c' = c ∧ pk' = pk) ∨ (c' = D ∧ pk' = t)) → R 11 [vR 16, vI left, vI depth, vI pk', vI c', vI e', vI ((t + 1 : Nat) : Int), vN, vN] [] σ := by
            intro pk' c' e' q0 q1 q2 q3 q4
            refine ih (t + 1) (by omega) pk' c' e' q0 ?_ (fun i hi h => ?_) (fun h => ?_)
            · rw [q1, fb_ct_succ, hl', hD, he]; simp
            · by_cases q : i = t
              · rw [q, hD]; exact q3
              · have := hmx i (by omega) h; omega
            · rcases q4 h with ⟨z1, z2⟩ | ⟨z1, z2⟩
              · rw [z1, z2]; exact hpk (by omega)
              · exact ⟨t, by omega, z2, hl', by rw [hD, z1]⟩
          refine g_X2_mostOf_41 hM left depth pk c e t D σ ⟨fun h0 => ⟨fun h1 => ⟨⟨by omega, by omega⟩, ?_⟩, fun h1 => by omega⟩, fun h0 => ⟨⟨by omega, by omega⟩, fun h1 => ⟨⟨by omega, by omega⟩, ?_⟩, fun h1 => ⟨⟨by omega, by omega⟩, ?_⟩⟩⟩
          · rw [et]
            exact step pk c e hc16 (by rw [if_neg (by omega), Nat.add_zero]) (Nat.le_refl _) (by omega) (fun _ => Or.inl ⟨rfl, rfl⟩)
          · rw [et, show ((e : Int) + 1) = ((e + 1 : Nat) : Int) from by omega]
            exact step pk c (e + 1) hc16 (by rw [if_pos (by omega)]) (Nat.le_refl _) (by omega) (fun _ => Or.inl ⟨rfl, rfl⟩)
          · rw [et, show ((e : Int) + 1) = ((e + 1 : Nat) : Int) from by omega]
            exact step t D (e + 1) hdle (by rw [if_pos (by omega)]) (by omega) (Nat.le_refl _) (fun _ => Or.inr ⟨rfl, rfl⟩)
    exact loop 16 0 rfl (-1) 0 0 (by omega) rfl (fun i hi => by omega) (fun h => by omega)
end Apart
