/-! ===== the model's table of least numbers, and its roster ===== -/
def LT (A : Nat → Int) (L : DT → Prop) (S : Nat) : Prop := ∀ T, T < S → (A T = -1 ∧ ∀ j, ¬ Pt L j (pS T)) ∨ ∃ k : Nat, A T = (k : Int) ∧ LeK L (pS T) k
def MinK (L : DT → Prop) (p : Nat → Bool) (K v : Int) : Prop :=
  (v = -1 ∧ ∀ δ, L δ → fitP p δ → keyD δ < K → ∀ j, ¬ Pt L j (subD p δ)) ∨
  ∃ k : Nat, v = (k : Int) + 1 ∧ (∃ δ, L δ ∧ fitP p δ ∧ Pt L k (subD p δ)) ∧ ∀ δ, L δ → fitP p δ → keyD δ < K → ∀ j, Pt L j (subD p δ) → k ≤ j
theorem MinK.up {L : DT → Prop} {p : Nat → Bool} {K K' v : Int} (h : MinK L p K v) (hn : ∀ δ, L δ → fitP p δ → keyD δ < K' → keyD δ < K ∨ ∀ j, ¬ Pt L j (subD p δ)) : MinK L p K' v := by
  rcases h with ⟨h1, h2⟩ | ⟨k, h1, h2, h3⟩
  · refine Or.inl ⟨h1, fun δ a b c j z => ?_⟩
    rcases hn δ a b c with w | w
    · exact h2 δ a b w j z
    · exact w j z
  · refine Or.inr ⟨k, h1, h2, fun δ a b c j z => ?_⟩
    rcases hn δ a b c with w | w
    · exact h3 δ a b w j z
    · exact absurd z (w j)
theorem MinK.fin {L : DT → Prop} {p : Nat → Bool} {K v : Int} (h : MinK L p K v) (hK : ∀ δ, L δ → keyD δ < K) {i : Nat} (hi : p i = true) : (v = -1 ∧ ∀ j, ¬ Pt L j p) ∨ ∃ k : Nat, v = (k : Int) ∧ LeK L p k := by
  rcases h with ⟨h1, h2⟩ | ⟨k, h1, h2, h3⟩
  · refine Or.inl ⟨h1, fun j z => ?_⟩
    cases j with
    | zero => rw [z i] at hi; cases hi
    | succ j =>
      obtain ⟨δ, a, b, c⟩ := z
      exact h2 δ a b (hK δ a) j c
  · refine Or.inr ⟨k + 1, by omega, h2, fun j hj z => ?_⟩
    cases j with
    | zero => rw [z i] at hi; cases hi
    | succ j =>
      obtain ⟨δ, a, b, c⟩ := z
      have := h3 δ a b (hK δ a) j c
      omega
theorem Rst.all {L : DT → Prop} : ∀ {k : Nat} {p : Nat → Bool} {q : Nat → DT}, Rst L k p q → ∀ i, i < k → L (q i) := by
  intro k
  induction k with
  | zero => intro p q _ i hi; omega
  | succ k ih =>
    intro p q h i hi
    cases i with
    | zero => exact h.1.1
    | succ i => exact ih h.2 i (by omega)
section MRoster
variable {G : GX} {d : Nat} {σ : St} {N : Nat} {Q : Int → St → Prop}
theorem pS_ne {S : Nat} (h0 : 0 < S) (hS : S < 4096) : ∃ i, pS S i = true := by
  by_cases z : ∃ i, pS S i = true
  · exact z
  · have e : (S : Int) = 0 := (tb_zero ⟨by omega, by omega⟩).mpr (fun i hi => by
      cases w : tb (S : Int) i with
      | false => rfl
      | true => exact absurd ⟨i, w⟩ z)
    omega
theorem c_takes0 {S : Nat} (hMB : MB σ) (hSM : SM σ N) (hN : N ≤ 12) (hS0 : 0 < S) (hS : S < 2 ^ N) (hLT : LT (σ.1 17) (LDM σ N) S) (h17 : σ.1 17 S = -1)
    (Kc : ∀ (r : Int) (σ' : St), MT σ σ' → σ'.1 0 25 = σ.1 0 25 → LT (σ'.1 17) (LDM σ N) (S + 1) → Q r σ') : conI G wdM (d + 3) mX10_takes [vR 0, vI S, vI 0, vI 0] σ Q := by
  have hS12 := D_12 hN hS
  have hrg : ∀ δ : DT, LDM σ N δ → rgD N δ := fun δ h => h.1.rg
  refine takes_gen (d := d) hN hSM hS0 hS 0 0 (fun K σ1 => MT σ σ1 ∧ (∀ r, r ≠ S → σ1.1 17 r = σ.1 17 r) ∧ σ1.1 0 25 = σ.1 0 25 ∧ MinK (LDM σ N) (pS S) K (σ1.1 17 S)) (fun _ => False) (fun K σ1 h => h.1) (fun K K' σ1 h hk hn => ⟨h.1, h.2.1, h.2.2.1, h.2.2.2.up (fun δ a b c => Or.inl ?_)⟩) (fun δ T σ1 hp hf hT hsub hIσ Q' q0 q1 => ?_) ⟨MT.rfl', fun _ _ => rfl, rfl, Or.inl ⟨h17, fun δ a b c => ?_⟩⟩ (fun σ1 h => Kc 0 σ1 h.1 h.2.2.1 (fun T hT => ?_)) (fun σ1 h => h.elim)
  · by_cases w : keyD δ < K
    · exact w
    · have := hn δ a.1 b (by omega)
      omega
  · obtain ⟨m1, m2, m3, m4⟩ := hIσ
    have hB1 := hMB.mt m1
    have hS1 := hSM.mt m1
    have eL : LDM σ1 N = LDM σ N := LDM.mt m1 N
    have e12 : σ1.1 12 = σ.1 12 := m1.1 12 (by decide) (by decide) (by decide)
    -- who bears this key is this one
    have this1 : ∀ δ', LDM σ N δ' → fitP (pS S) δ' → keyD δ' = keyD δ → δ' = δ := fun δ' a b c => key_inj hN (hrg δ' a) hp.rg (fit_1 (hrg δ' a) hp.rg b hf) c
    have nope : (LDM σ N δ → ∀ j, ¬ Pt (LDM σ N) j (subD (pS S) δ)) → MinK (LDM σ N) (pS S) (keyD δ + 1) (σ1.1 17 S) := fun hn => m4.up (fun δ' a b c => by
      by_cases w : keyD δ' < keyD δ
      · exact Or.inl w
      · have e := this1 δ' a b (by omega)
        rw [e] at a ⊢
        exact Or.inr (hn a))
    refine conI.of (ls0 := [vR 0, vI S, vI T, vI δ.1, vI δ.2.1, vI δ.2.2.1, vI δ.2.2.2, vI 0, vI 0, vN]) rfl rfl (Nat.le_of_ble_eq_true rfl) (fun Ret R hret hM => g_X10_takesOne_0 hM S T δ.1 δ.2.1 δ.2.2.1 δ.2.2.2 0 0 σ1 ?_)
    rw [Int.toNat_natCast, m2 T (by omega)]
    have hsT := hLT T hT
    rw [hsub] at hsT
    refine ⟨⟨by omega, by omega⟩, fun z => hret _ _ (q0 σ1 ⟨m1, m2, m3, nope (fun _ => ?_)⟩), fun z => c_brokenD (d := d) hB1 hS1 (by rw [e12]; exact hp) (fun v hv => ⟨fun hv0 => ?_, fun hv0 => hret _ _ (q0 σ1 ⟨m1, m2, m3, nope (fun y => absurd (hv.mpr (by rw [eL]; exact y)) hv0)⟩)⟩)⟩
    · rcases hsT with w | ⟨k, w, _⟩
      · exact w.2
      · omega
    · rcases hsT with w | ⟨k, w, hLe⟩
      · omega
      · rw [eL] at hv
        have hl := hv.mp hv0
        have hk12 : k ≤ 12 := by
          have a := Pt.le hrg hLe.1
          have b := fb_ct_le (subD (pS S) δ) N
          omega
        rw [m2 T (by omega), w]
        refine ⟨⟨by omega, by omega⟩, fun u1 eu => ⟨fun y => absurd rfl y, fun _ => ⟨⟨by omega, by omega⟩, ?_⟩⟩⟩
        rw [Int.toNat_natCast]
        have kk : ∀ δ', LDM σ N δ' → fitP (pS S) δ' → keyD δ' = keyD δ → ∀ j, Pt (LDM σ N) j (subD (pS S) δ') → k ≤ j := fun δ' a b c j y => by
          rw [this1 δ' a b c] at y
          by_cases x : j < k
          · exact absurd y (hLe.2 j x)
          · omega
        have fin : ∀ (τ : St) (v : Int), τ = sI σ1 17 S v → MinK (LDM σ N) (pS S) (keyD δ + 1) v → Ret (some (vI 0)) τ := fun τ v et hm => hret _ _ (q0 τ ⟨m1.p17 et, fun r hr => by rw [et, sI_s, uf_n hr]; exact m2 r hr, by rw [et, sI_n _ (by decide)]; exact m3, by rw [et, sI_s, uf_s]; exact hm⟩)
        rcases m4 with ⟨n1, n2⟩ | ⟨k0, n1, n2, n3⟩
        · refine ⟨fun _ τ5 t5 => fin τ5 _ t5 (Or.inr ⟨k, eu, ⟨δ, hl, hf, hLe.1⟩, fun δ' a b c j y => ?_⟩), fun y => by omega⟩
          by_cases x : keyD δ' < keyD δ
          · exact absurd y (n2 δ' a b x j)
          · exact kk δ' a b (by omega) j y
        · refine ⟨fun y => by omega, fun _ => ⟨fun y τ6 t6 => fin τ6 _ t6 (Or.inr ⟨k0, n1, n2, fun δ' a b c j y' => ?_⟩), fun y τ7 t7 => fin τ7 _ t7 (Or.inr ⟨k, eu, ⟨δ, hl, hf, hLe.1⟩, fun δ' a b c j y' => ?_⟩)⟩⟩
          · by_cases x : keyD δ' < keyD δ
            · exact n3 δ' a b x j y'
            · have := kk δ' a b (by omega) j y'; omega
          · by_cases x : keyD δ' < keyD δ
            · have := n3 δ' a b x j y'; omega
            · exact kk δ' a b (by omega) j y'
  · have := (key_rng hN (hrg δ a)).1
    omega
  · obtain ⟨m1, m2, m3, m4⟩ := h
    by_cases e : T = S
    · rw [e]
      obtain ⟨i, hi⟩ := pS_ne hS0 hS12
      exact m4.fin (fun δ a => (key_rng hN (hrg δ a)).2) hi
    · rw [m2 T e]
      exact hLT T (by omega)
theorem c_rosters {Q : St → Prop} (hMB : MB σ) (hSM : SM σ N) (hN : N ≤ 12) (K : ∀ σ', MT σ σ' → σ'.1 0 25 = σ.1 0 25 → LT (σ'.1 17) (LDM σ N) (2 ^ N) → Q σ') : conV G wdM (d + 4) mX10_rosters [vR 0] σ Q := by
  refine conV.of (ls0 := [vR 0, vN, vN]) rfl rfl (Nat.le_of_ble_eq_true rfl) (fun Ret R hret hM => g_X10_rosters_0 hM σ ⟨by omega, fun τ1 t1 => ?_⟩)
  have hp : 2 ^ N ≤ 4096 := Nat.pow_le_pow_right (n := 2) (by decide) hN
  have hp0 : 0 < 2 ^ N := Nat.pow_pos (by decide)
  have e2 : (2 : Int) ^ N = ((2 ^ N : Nat) : Int) := by simp
  rw [hSM.1, bShl_1 N (by omega), e2]
  have loop : ∀ m S : Nat, S + m = 2 ^ N → 0 < S → ∀ σ1 : St, MT σ σ1 → σ1.1 0 25 = σ.1 0 25 → LT (σ1.1 17) (LDM σ N) S → R 16 [vR 0, vI ((2 ^ N : Nat) : Int), vI S] [] σ1 := by
    intro m
    induction m with
    | zero =>
      intro S hS h0 σ1 m1 m3 hL
      refine g_X10_rosters_16 hM _ S σ1 ⟨fun _ => hret _ (K σ1 m1 m3 (by rw [← hS]; exact hL)), fun z => by omega⟩
    | succ m ih =>
      intro S hS h0 σ1 m1 m3 hL
      refine g_X10_rosters_16 hM _ S σ1 ⟨fun z => by omega, fun _ => ⟨⟨by omega, by omega⟩, fun τ2 t2 => ?_⟩⟩
      rw [Int.toNat_natCast] at t2
      have m2 := m1.p17 t2
      have eL : LDM τ2 N = LDM σ N := LDM.mt m2 N
      refine c_takes0 (d := d) (hMB.mt m2) (hSM.mt m2) hN h0 (by omega) (fun T hT => ?_) (by rw [t2, sI_s, uf_s]) (fun r σ3 m4 m5 hL3 => ⟨⟨by omega, by omega⟩, ?_⟩)
      · rw [eL, t2, sI_s, uf_n (by omega)]
        exact hL T hT
      · rw [show ((S : Int) + 1) = ((S + 1 : Nat) : Int) by omega]
        rw [eL] at hL3
        exact ih (S + 1) (by omega) (by omega) σ3 (m2.tr m4) (by rw [m5, t2, sI_n _ (by decide)]; exact m3) hL3
  refine loop (2 ^ N - 1) 1 (by omega) (by decide) τ1 (MT.rfl'.p17 t1) (by rw [t1, sI_n _ (by decide)]) (fun T hT => Or.inr ⟨0, ?_, ?_, fun j hj => by omega⟩)
  · have e : T = 0 := by omega
    rw [e, t1, sI_s]
    rfl
  · have e : T = 0 := by omega
    rw [e]
    intro i
    exact tb_0 i
theorem c_takes1 {S k t : Nat} (hMB : MB σ) (hSM : SM σ N) (hN : N ≤ 12) (hS0 : 0 < S) (hS : S < 2 ^ N) (ht : t < 12) (hLT : LT (σ.1 17) (LDM σ N) (2 ^ N)) (hLe : LeK (LDM σ N) (pS S) (k + 1))
    (Kc : ∀ (δ : DT) (σ' : St), LDM σ N δ → fitP (pS S) δ → Pt (LDM σ N) k (subD (pS S) δ) → (∀ δ', LDM σ N δ' → fitP (pS S) δ' → Pt (LDM σ N) k (subD (pS S) δ') → keyD δ ≤ keyD δ') → MT σ σ' → σ'.1 17 = σ.1 17 → σ'.1 0 25 = σ.1 0 25 → σ'.1 18 = uf (uf (uf (uf (σ.1 18) (4 * t) δ.1) (4 * t + 1) δ.2.1) (4 * t + 2) δ.2.2.1) (4 * t + 3) δ.2.2.2 → Q 1 σ') : conI G wdM (d + 3) mX10_takes [vR 0, vI S, vI 1, vI t] σ Q := by
  have hS12 := D_12 hN hS
  have hrg : ∀ δ : DT, LDM σ N δ → rgD N δ := fun δ h => h.1.rg
  have e17 : σ.1 17 S = (k : Int) + 1 := by
    rcases hLT S hS with w | ⟨k1, w, w2⟩
    · exact absurd hLe.1 (w.2 _)
    · have := w2.one hLe; omega
  refine takes_gen (d := d) hN hSM hS0 hS 1 t (fun K σ1 => σ1 = σ ∧ ∀ δ, LDM σ N δ → fitP (pS S) δ → keyD δ < K → ¬ Pt (LDM σ N) k (subD (pS S) δ)) (fun σ1 => Q 1 σ1) (fun K σ1 h => by rw [h.1]; exact MT.rfl') (fun K K' σ1 h hk hn => ⟨h.1, fun δ a b c => h.2 δ a b ?_⟩) (fun δ T σ1 hp hf hT hsub hIσ Q' q0 q1 => ?_) ⟨rfl, fun δ a b c => ?_⟩ (fun σ1 h => ?_) (fun σ1 h => h)
  · by_cases w : keyD δ < K
    · exact w
    · have := hn δ a.1 b (by omega)
      omega
  · obtain ⟨rfl, hno⟩ := hIσ
    have this1 : ∀ δ', LDM σ1 N δ' → fitP (pS S) δ' → keyD δ' = keyD δ → δ' = δ := fun δ' a b c => key_inj hN (hrg δ' a) hp.rg (fit_1 (hrg δ' a) hp.rg b hf) c
    have nope : (LDM σ1 N δ → ¬ Pt (LDM σ1 N) k (subD (pS S) δ)) → ∀ δ', LDM σ1 N δ' → fitP (pS S) δ' → keyD δ' < keyD δ + 1 → ¬ Pt (LDM σ1 N) k (subD (pS S) δ') := fun hn δ' a b c => by
      by_cases w : keyD δ' < keyD δ
      · exact hno δ' a b w
      · have e := this1 δ' a b (by omega)
        rw [e] at a ⊢
        exact hn a
    refine conI.of (ls0 := [vR 0, vI S, vI T, vI δ.1, vI δ.2.1, vI δ.2.2.1, vI δ.2.2.2, vI 1, vI t, vN]) rfl rfl (Nat.le_of_ble_eq_true rfl) (fun Ret R hret hM => g_X10_takesOne_0 hM S T δ.1 δ.2.1 δ.2.2.1 δ.2.2.2 1 t σ1 ?_)
    rw [Int.toNat_natCast]
    have hsT := hLT T (by omega)
    rw [hsub] at hsT
    refine ⟨⟨by omega, by omega⟩, fun z => hret _ _ (q0 σ1 ⟨rfl, nope (fun _ => ?_)⟩), fun z => c_brokenD (d := d) hMB hSM hp (fun v hv => ⟨fun hv0 => ?_, fun hv0 => hret _ _ (q0 σ1 ⟨rfl, nope (fun y => absurd (hv.mpr y) hv0)⟩)⟩)⟩
    · rcases hsT with w | ⟨k1, w, _⟩
      · exact w.2 k
      · omega
    · rcases hsT with w | ⟨k1, w, hLe1⟩
      · omega
      · have hl := hv.mp hv0
        have hk12 : k1 ≤ 12 := by
          have a := Pt.le hrg hLe1.1
          have b := fb_ct_le (subD (pS S) δ) N
          omega
        rw [w]
        refine ⟨⟨by omega, by omega⟩, fun u1 eu => ⟨fun _ => ⟨⟨by omega, by omega⟩, ?_⟩, fun y => by omega⟩⟩
        rw [Int.toNat_natCast, e17]
        refine ⟨fun y => ?_, fun y => hret _ _ (q0 σ1 ⟨rfl, nope (fun _ y2 => ?_)⟩)⟩
        · have ek : k1 = k := by omega
          rw [ek] at hLe1
          refine ⟨⟨by omega, by omega⟩, ⟨by omega, by omega⟩, fun τ1 t1 => ⟨⟨by omega, by omega⟩, ⟨by omega, by omega⟩, fun τ2 t2 => ⟨⟨by omega, by omega⟩, ⟨by omega, by omega⟩, fun τ3 t3 => ⟨⟨by omega, by omega⟩, ⟨by omega, by omega⟩, fun τ4 t4 => hret _ _ (q1 τ4 ?_)⟩⟩⟩⟩
          rw [show (4 * (t : Int)).toNat = 4 * t by omega] at t1
          rw [show (4 * (t : Int) + 1).toNat = 4 * t + 1 by omega] at t2
          rw [show (4 * (t : Int) + 2).toNat = 4 * t + 2 by omega] at t3
          rw [show (4 * (t : Int) + 3).toNat = 4 * t + 3 by omega] at t4
          refine Kc δ τ4 hl hf hLe1.1 (fun δ' a b c => ?_) ((((MT.rfl'.p18 t1).p18 t2).p18 t3).p18 t4) ?_ ?_ ?_
          · by_cases x : keyD δ' < keyD δ
            · exact absurd c (hno δ' a b x)
            · omega
          · rw [t4, sI_n _ (by decide), t3, sI_n _ (by decide), t2, sI_n _ (by decide), t1, sI_n _ (by decide)]
          · rw [t4, sI_n _ (by decide), t3, sI_n _ (by decide), t2, sI_n _ (by decide), t1, sI_n _ (by decide)]
          · rw [t4, sI_s, t3, sI_s, t2, sI_s, t1, sI_s]
        · have dn := hLe.dn hl hf y2 (Nat.le_refl _)
          have := dn.2.one hLe1
          omega
  · have := (key_rng hN (hrg δ a)).1
    omega
  · obtain ⟨δ, a, b, c⟩ := hLe.1
    exact absurd c (h.2 δ a b (key_rng hN (hrg δ a)).2)
/-- the model's row of DUTIES from place t on -/
def DM (m : St) (t k : Nat) (q : Nat → DT) : Prop := ∀ i, i < k → m.1 18 (4 * (t + i)) = (q i).1 ∧ m.1 18 (4 * (t + i) + 1) = (q i).2.1 ∧ m.1 18 (4 * (t + i) + 2) = (q i).2.2.1 ∧ m.1 18 (4 * (t + i) + 3) = (q i).2.2.2
theorem roster_loop {Ret : Option AV → St → Prop} {R : Nat → List AV → List AV → St → Prop} (hM : AM G wdM (d + 4) mX10_roster Ret R) (σ0 : St) (hMB : MB σ0) (hSM : SM σ0 N) (hN : N ≤ 12) (hLT : LT (σ0.1 17) (LDM σ0 N) (2 ^ N)) :
    ∀ (j S t : Nat), S < 2 ^ N → t + j ≤ 12 → LeK (LDM σ0 N) (pS S) j → ∀ σ : St, MT σ0 σ → σ.1 17 = σ0.1 17 → σ.1 0 25 = (t : Int) →
      (∀ (σ' : St) (q : Nat → DT), MT σ0 σ' → σ'.1 0 25 = ((t + j : Nat) : Int) → (∀ i, i < 4 * t → σ'.1 18 i = σ.1 18 i) → Rst (LDM σ0 N) j (pS S) q → DM σ' t j q → Ret (some (vI ((t + j : Nat) : Int))) σ') → R 45 [vR 0, vI S, vN, vN] [] σ := by
  have hrg : ∀ δ : DT, LDM σ0 N δ → rgD N δ := fun δ h => h.1.rg
  intro j
  induction j with
  | zero =>
    intro S t hS ht hLe σ m1 m2 m3 K
    have e : S = 0 := by
      by_cases z : S = 0
      · exact z
      · obtain ⟨i, hi⟩ := pS_ne (by omega) (D_12 hN hS)
        rw [hLe.1 i] at hi; cases hi
    subst e
    refine g_X10_roster_45 hM ((0 : Nat) : Int) σ ⟨fun _ => ?_, fun z => absurd (Int.le_refl _) z⟩
    rw [m3]
    exact K σ (fun _ => (0, 0, 0, 0)) m1 m3 (fun _ _ => rfl) trivial (fun i hi => by omega)
  | succ j ih =>
    intro S t hS ht hLe σ m1 m2 m3 K
    have hS12 := D_12 hN hS
    have hS0 : 0 < S := by
      by_cases z : S = 0
      · rw [z] at hLe
        exact absurd (fun i => tb_0 i) (hLe.2 0 (by omega))
      · omega
    have eL : LDM σ N = LDM σ0 N := LDM.mt m1 N
    refine g_X10_roster_45 hM S σ ⟨fun z => by omega, fun _ => ?_⟩
    rw [m3]
    refine c_takes1 (d := d) (k := j) (t := t) (hMB.mt m1) (hSM.mt m1) hN hS0 hS (by omega) (by rw [eL, m2]; exact hLT) (by rw [eL]; exact hLe) (fun δ σ1 hl hf hPt hmin n1 n17 n25 n18 => ?_)
    rw [eL] at hl hPt hmin
    have r := hrg δ hl
    obtain ⟨r1, r2, r3, r4⟩ := r
    have r : rgD N δ := ⟨r1, r2, r3, r4⟩
    have p0 : σ1.1 18 (4 * t) = δ.1 := by rw [n18, uf_n (by omega), uf_n (by omega), uf_n (by omega), uf_s]
    have p1 : σ1.1 18 (4 * t + 1) = δ.2.1 := by rw [n18, uf_n (by omega), uf_n (by omega), uf_s]
    have p2 : σ1.1 18 (4 * t + 2) = δ.2.2.1 := by rw [n18, uf_n (by omega), uf_s]
    have p3 : σ1.1 18 (4 * t + 3) = δ.2.2.2 := by rw [n18, uf_s]
    have po : ∀ i, i < 4 * t → σ1.1 18 i = σ.1 18 i := fun i hi => by rw [n18, uf_n (by omega), uf_n (by omega), uf_n (by omega), uf_n (by omega)]
    rw [n25, m3, show (4 * (t : Int)).toNat = 4 * t by omega, show (4 * (t : Int) + 1).toNat = 4 * t + 1 by omega, p0, p1]
    refine ⟨⟨by omega, by omega⟩, ⟨by omega, by omega⟩, ⟨by omega, by omega⟩, ⟨by omega, by omega⟩, ?_⟩
    have ea : δ.1 = ((δ.1.toNat : Nat) : Int) := by omega
    have eb : δ.2.1 = ((δ.2.1.toNat : Nat) : Int) := by omega
    have hab : bAnd (bN δ.1.toNat δ.2.1.toNat) (S : Int) = bN δ.1.toNat δ.2.1.toNat := (bN_sub (by omega) (by omega)).mpr (fun i h1 h2 => hf.1 i (inD_iff.mpr (Or.inl ⟨by omega, by omega⟩)))
    obtain ⟨T, t1, t2, t3⟩ := bN_rest hS12 (by omega) (by omega) hab
    have dn := hLe.dn hl hf hPt (Nat.le_refl _)
    -- the rest of the row
    have go : ∀ (T' : Nat) (σ2 : St), T' < S → pS T' = subD (pS S) δ → σ2 = sI σ1 0 25 ((t : Int) + 1) → R 45 [vR 0, vI T', vN, vN] [] σ2 := fun T' σ2 w1 w2 w3 => by
      have k18 : σ2.1 18 = σ1.1 18 := by rw [w3, sI_n _ (by decide)]
      refine ih T' (t + 1) (by omega) (by omega) (by rw [w2]; exact dn.2) σ2 ((m1.tr n1).p25 w3) (by rw [w3, sI_n _ (by decide), n17]; exact m2) (by rw [w3, sI_s, uf_s]; rfl) (fun σ' q y1 y2 y3 y4 y5 => ?_)
      rw [show t + 1 + j = t + (j + 1) by omega] at y2 ⊢
      rw [w2] at y4
      refine K σ' (fun n => match n with | 0 => δ | n + 1 => q n) y1 y2 (fun i hi => by rw [y3 i (by omega), k18, po i hi]) ⟨⟨hl, hf, hPt, hmin⟩, y4⟩ (fun i hi => ?_)
      cases i with
      | zero =>
        rw [Nat.add_zero, y3 _ (by omega), y3 _ (by omega), y3 _ (by omega), y3 _ (by omega), k18, p0, p1, p2, p3]
        exact ⟨rfl, rfl, rfl, rfl⟩
      | succ i =>
        have z := y5 i (by omega)
        rw [show t + 1 + i = t + (i + 1) by omega] at z
        exact z
    have goal : conI G wdM (d + 3) mX10_bits [vI (δ.1.toNat : Nat), vI (δ.2.1.toNat : Nat)] σ1 (fun x2 σ2 => (r32 ((S : Int) - x2) ∧ (r32 ((4 * (t : Int)) + 2) ∧ ((0 ≤ ((4 * (t : Int)) + 2) ∧ ((4 * (t : Int)) + 2) < 48) ∧ ((0 ≤ (σ2.1 18 (((4 * (t : Int)) + 2)).toNat) → (r32 ((4 * (t : Int)) + 3) ∧ ((0 ≤ ((4 * (t : Int)) + 3) ∧ ((4 * (t : Int)) + 3) < 48) ∧ conI G wdM (d + 3) mX10_bits [vI (σ2.1 18 (((4 * (t : Int)) + 2)).toNat), vI (σ2.1 18 (((4 * (t : Int)) + 3)).toNat)] σ2 (fun x3 σ3 => (r32 (((S : Int) - x2) - x3) ∧ (r32 ((σ3.1 0 25) + 1) ∧ (∀ τ1, τ1 = sI σ3 0 25 ((σ3.1 0 25) + 1) → R 45 [vR 0, vI (((S : Int) - x2) - x3), vN, vN] [] τ1))))))) ∧ (¬ 0 ≤ (σ2.1 18 (((4 * (t : Int)) + 2)).toNat) → (r32 (((S : Int) - x2) - 0) ∧ (r32 ((σ2.1 0 25) + 1) ∧ (∀ τ2, τ2 = sI σ2 0 25 ((σ2.1 0 25) + 1) → R 45 [vR 0, vI (((S : Int) - x2) - 0), vN, vN] [] τ2)))))))) ) := by
      refine c_M_bits (by omega) (by omega) ?_
      rw [show (4 * (t : Int) + 2).toNat = 4 * t + 2 by omega, show (4 * (t : Int) + 3).toNat = 4 * t + 3 by omega, p2, p3, t1, n25, m3]
      refine ⟨⟨by omega, by omega⟩, ⟨by omega, by omega⟩, ⟨by omega, by omega⟩, fun z => ⟨⟨by omega, by omega⟩, ⟨by omega, by omega⟩, ?_⟩, fun z => ⟨⟨by omega, by omega⟩, ⟨by omega, by omega⟩, fun τ2 e2 => ?_⟩⟩
      · have r4' : δ.2.1 < δ.2.2.1 ∧ δ.2.2.1 ≤ δ.2.2.2 ∧ δ.2.2.2 < N := by omega
        have hcd : bAnd (bN δ.2.2.1.toNat δ.2.2.2.toNat) (T : Int) = bN δ.2.2.1.toNat δ.2.2.2.toNat := (bN_sub (by omega) (by omega)).mpr (fun i h1 h2 => by
          rw [t3 i, hf.1 i (inD_iff.mpr (Or.inr ⟨by omega, by omega⟩)), decide_eq_false (by omega)]
          rfl)
        obtain ⟨T2, w1, w2, w3⟩ := bN_rest (by omega) (by omega) (by omega) hcd
        have goal2 : conI G wdM (d + 3) mX10_bits [vI (δ.2.2.1.toNat : Nat), vI (δ.2.2.2.toNat : Nat)] σ1 (fun x3 σ3 => (r32 ((T : Int) - x3) ∧ (r32 ((σ3.1 0 25) + 1) ∧ (∀ τ1, τ1 = sI σ3 0 25 ((σ3.1 0 25) + 1) → R 45 [vR 0, vI ((T : Int) - x3), vN, vN] [] τ1)))) := by
          refine c_M_bits (by omega) (by omega) ?_
          rw [w1, n25, m3]
          refine ⟨⟨by omega, by omega⟩, ⟨by omega, by omega⟩, fun τ1 e1 => go T2 τ1 (by omega) ?_ e1⟩
          funext i
          rw [w3 i, t3 i]
          unfold subD inD
          rw [Bool.and_assoc, ← Bool.not_or, ← Bool.decide_or]
          congr 2
          exact decide_eq_decide.mpr (by omega)
        rw [show ((δ.2.2.1.toNat : Nat) : Int) = δ.2.2.1 by omega, show ((δ.2.2.2.toNat : Nat) : Int) = δ.2.2.2 by omega] at goal2
        exact goal2
      · have r4' : δ.2.2.1 = -1 ∧ δ.2.2.2 = -1 := by omega
        rw [Int.sub_zero]
        refine go T τ2 t2 ?_ e2
        funext i
        rw [t3 i]
        unfold subD inD
        congr 2
        exact decide_eq_decide.mpr (by omega)
    rw [← ea, ← eb] at goal
    exact goal
end MRoster
