/-! ===== the model's plan ===== -/
theorem Chn.of {n : Nat} (hn : n ≤ 16) {fo : Nat → Nat → Prop} {bg : Nat → Int} {nx : Nat → Int} (h : OkP n fo nx) (hb : ∀ i j, i < n → j < n → fo i j → bg i < bg j) : Chn n (nz n nx) bg := by
  have hz : ∀ i, i < n → nz n nx i = nx i := fun i hi => if_pos hi
  refine ⟨hn, fun i hi => ?_, fun i j hi hj h0 e => ?_⟩
  · rw [hz i hi]
    rcases h.1 i hi with q | q
    · exact Or.inl q
    · exact Or.inr ⟨q.1, q.2.1, hb i _ hi (by omega) q.2.2⟩
  · rw [hz i hi] at h0 e
    rw [hz j hj] at e
    exact h.2 i j hi hj h0 e
/-- the model's plan is made -/
def PMs (σ : St) : Prop :=
  IsPlan (σ.1 0 3).toNat (foM σ) (pM σ) (σ.1 9) ∧ rowsM σ (σ.1 0 3).toNat (nz (σ.1 0 3).toNat (σ.1 9)) (rlM σ) (σ.1 0 3).toNat ∧
  σ.1 0 15 = (bn (σ.1 0 3).toNat (nz (σ.1 0 3).toNat (σ.1 9)) (σ.1 0 3).toNat : Int) ∧ σ.1 0 18 = (bs (σ.1 0 3).toNat (nz (σ.1 0 3).toNat (σ.1 9)) (rlM σ) (σ.1 0 3).toNat : Int)
/-- one choice of the greedy row -/
def gstep (n : Nat) (fo : Nat → Nat → Prop) (pr : Nat → Nat → Int) (T : Nat → Nat → Int) (nx : Nat → Int) (S : Nat → Nat) (i : Nat) : Prop :=
  S i < 2 ^ n ∧
    ((nx i = -1 ∧ S (i + 1) = S i ∧ ∀ j, j < n → (S i).testBit j = false → fo i j → ¬ T (i + 1) (S i ||| 2 ^ j) + pr i j - 100000 = T i (S i)) ∨
     ∃ j : Nat, j < n ∧ nx i = (j : Int) ∧ S (i + 1) = S i ||| 2 ^ j ∧ (S i).testBit j = false ∧ fo i j ∧ T (i + 1) (S i ||| 2 ^ j) + pr i j - 100000 = T i (S i) ∧
       ∀ j', j' < j → (S i).testBit j' = false → fo i j' → ¬ T (i + 1) (S i ||| 2 ^ j') + pr i j' - 100000 = T i (S i))
theorem gstep.congr {n : Nat} {fo : Nat → Nat → Prop} {pr : Nat → Nat → Int} {T : Nat → Nat → Int} {nx nx' : Nat → Int} {S S' : Nat → Nat} {i : Nat} (h : gstep n fo pr T nx S i) (e1 : nx' i = nx i) (e2 : S' i = S i) (e3 : S' (i + 1) = S (i + 1)) : gstep n fo pr T nx' S' i := by
  unfold gstep
  rw [e1, e2, e3]
  exact h
/-- whom the table bears behind i -/
def fits1 (n : Nat) (fo : Nat → Nat → Prop) (pr : Nat → Nat → Int) (T : Nat → Nat → Int) (i s j : Nat) : Prop := j < n ∧ s.testBit j = false ∧ fo i j ∧ T (i + 1) (s ||| 2 ^ j) + pr i j - 100000 = T i s
section Plans
variable {G : GX} {d : Nat} {σ : St}
theorem c_goes {Q : St → Prop} {n : Nat} {f bg : Nat → Int} {rl : Nat → Bool} (hC : Chn n f bg) {t : Nat} (ht : hB n f t = true) (hB0 : MB σ)
    (hf : ∀ u, u < n → σ.1 9 u = f u) (hrl : ∀ u, u < n → rl u = rlM σ u) (hb : σ.1 0 15 = (bn n f t : Int)) (hs : σ.1 0 18 = (bs n f rl t : Int)) (hN : rowsM σ n f rl t)
    (k : ∀ σ', Fr [0, 10, 11, 12, 13, 14, 15, 16] σ σ' → (∀ c, c ≠ 15 → c ≠ 18 → σ'.1 0 c = σ.1 0 c) → σ'.1 0 15 = (bn n f (t + 1) : Int) → σ'.1 0 18 = (bs n f rl (t + 1) : Int) → rowsM σ' n f rl (t + 1) → Q σ') : conV G wdM d mX10_goes [vR 0, vI t] σ Q := by
  refine conV.of (ls0 := [vR 0, vI t, vN, vN, vN]) rfl rfl (Nat.le_of_ble_eq_true rfl) (fun Ret R hret hM => g_X10_goes_0 hM t σ ?_)
  have hlt := (cB_iff.mp ht).1
  have hn := hC.1
  have hfit := upto_fit hC ht
  have hbnu := bn_upto hC t
  have hlp := ln_pos hC hlt
  rw [hb]
  refine ⟨⟨by omega, by omega⟩, fun τ1 e1 => ?_⟩
  rw [Int.toNat_natCast] at e1
  have g10 : τ1.1 10 = uf (σ.1 10) (bn n f t) t := by rw [e1, sI_s]
  have gn : ∀ c, c ≠ 10 → τ1.1 c = σ.1 c := fun c hc => by rw [e1, sI_n _ hc]
  have fr1 : Fr [0, 10, 11, 12, 13, 14, 15, 16] σ τ1 := by rw [e1]; exact Fr.one (by decide)
  have hB1 : MB τ1 := hB0.fr (by rw [gn 0 (by decide)]) (by rw [gn 0 (by decide)]) (by rw [gn 0 (by decide)]) (by rw [gn 0 (by decide)]) (by rw [gn 0 (by decide)]) (gn 1 (by decide)) (gn 2 (by decide)) (gn 3 (by decide)) (gn 4 (by decide)) (gn 5 (by decide)) (gn 6 (by decide)) (gn 7 (by decide))
  have erl : ∀ u, rlM τ1 u = rlM σ u := fun u => by unfold rlM; rw [gn 3 (by decide), gn 5 (by decide)]
  have h0 : itn f t 0 = (t : Int) := rfl
  have key := goes_loop (G := G) (d := d) (rl := rl) hM hC ht τ1 hB1 hn (fun u hu => by rw [gn 9 (by decide)]; exact hf u hu) (fun u hu => by rw [erl]; exact hrl u hu) (by rw [gn 0 (by decide)]; exact hb)
    (fun σ' f1 f2 f3 f4 f5 f6 f7 => hret _ (k σ' (fr1.tr (f1.mono (by decide))) (fun c z1 z2 => by rw [f2 c z1 z2, gn 0 (by decide)]) (by rw [f3, bn_s ht]; omega) (by rw [f4, bs_s ht]) ?_))
    (ln f t) 0 (by omega) t 0 τ1 Fr.rfl' (fun _ _ _ => rfl) (by rw [gn 0 (by decide)]; exact hb)
    (fun _ => ⟨rfl, rfl, by rw [gn 0 (by decide), hs, Rc_0]; rfl, fun j hj => by omega⟩) (fun z => by omega) (fun _ _ _ => ⟨rfl, rfl⟩) (fun _ _ => ⟨rfl, rfl, rfl, rfl⟩)
  · exact key
  · have e10 : σ'.1 10 = τ1.1 10 := f1.at (by decide)
    refine NumT.add hC ht hN (by rw [e10, g10, uf_s]) (fun c hc => by rw [e10, g10, uf_n (by omega)]) f5 (fun u hu q => ?_) (fun s hs' => ?_)
    · have := f6 u hu q; rw [gn 11 (by decide), gn 16 (by decide)] at this; exact this
    · have := f7 s hs'; rw [gn 12 (by decide), gn 13 (by decide), gn 14 (by decide), gn 15 (by decide)] at this; exact this
theorem plans_pick {Ret : Option AV → St → Prop} {R : Nat → List AV → List AV → St → Prop} (hM : AM G wdM (d + 2) mX10_plans Ret R) (σ0 : St) (hB0 : MB σ0) {n : Nat} (hn : σ0.1 0 3 = n) (hT : ∀ i s, i ≤ n → s < 2 ^ n → -10000000 ≤ TM σ0 i s ∧ TM σ0 i s ≤ 10000000) (i s : Nat) (hi : i < n) (hs : s < 2 ^ n)
    (k : ∀ (σ' : St) (x : Int), Fr [9] σ0 σ' → σ'.1 9 = uf (σ0.1 9) i x → ((x = -1 ∧ ∀ j, ¬ fits1 n (foM σ0) (pM σ0) (TM σ0) i s j) ∨ ∃ j : Nat, x = (j : Int) ∧ fits1 n (foM σ0) (pM σ0) (TM σ0) i s j ∧ ∀ j', j' < j → ¬ fits1 n (foM σ0) (pM σ0) (TM σ0) i s j') → R 106 [vR 0, vI s, vI i, vN] [] σ') :
    ∀ m j : Nat, j + m = n → ∀ σ : St, Fr [9] σ0 σ → σ.1 9 = uf (σ0.1 9) i (-1) → (∀ j', j' < j → ¬ fits1 n (foM σ0) (pM σ0) (TM σ0) i s j') → R 38 [vR 0, vI s, vI i, vI j] [] σ := by
  have h16 := hB0.1
  have hpl : 2 ^ n ≤ 65536 := Nat.pow_le_pow_right (n := 2) (j := 16) (by decide) (by omega)
  intro m
  induction m with
  | zero =>
    intro j hj σ f h9 hno
    have ec : σ.1 0 = σ0.1 0 := f.at (by decide)
    refine g_X10_plans_38 hM s i j σ ⟨fun _ => k σ (-1) f h9 (Or.inl ⟨rfl, fun j' q => hno j' (by have := q.1; omega) q⟩), fun q => by rw [ec] at q; omega⟩
  | succ m ih =>
    intro j hj σ f h9 hno
    have ec : σ.1 0 = σ0.1 0 := f.at (by decide)
    have e8 : σ.1 8 = σ0.1 8 := f.at (by decide)
    have hB := hB0.frame f (by decide)
    have ej : ((j : Int) + 1) = ((j + 1 : Nat) : Int) := by omega
    have h9i : σ.1 9 i = -1 := by rw [h9, uf_s]
    have skip : ¬ fits1 n (foM σ0) (pM σ0) (TM σ0) i s j → R 38 [vR 0, vI s, vI i, vI ((j : Int) + 1)] [] σ := by
      intro q
      rw [ej]
      refine ih (j + 1) (by omega) σ f h9 (fun j' hj' => ?_)
      by_cases e : j' = j
      · rw [e]; exact q
      · exact hno j' (by omega)
    refine g_X10_plans_38 hM s i j σ ⟨fun q => by rw [ec] at q; omega, fun _ => ⟨⟨by omega, by omega⟩, ?_⟩⟩
    rw [Int.toNat_natCast, h9i]
    refine ⟨fun q => by omega, fun _ => ?_⟩
    rw [bit1 _ (by omega), tb_set (by omega)]
    cases hb : s.testBit j with
    | true => exact ⟨fun _ => ⟨⟨by omega, by omega⟩, skip (fun q => by rw [q.2.1] at hb; cases hb)⟩, fun q => by simp at q⟩
    | false =>
      refine ⟨fun q => by simp at q, fun _ => ?_⟩
      refine c_M_follows i j hB (by rw [ec]; omega) (by rw [ec]; omega) (fun hf => ⟨fun q => by omega, fun _ => ?_⟩) (fun hf => ⟨fun _ => ⟨⟨by omega, by omega⟩, skip (fun q => hf (by rw [foM.frame f (by decide)]; exact q.2.2.1))⟩, fun q => by omega⟩)
      rw [foM.frame f (by decide)] at hf
      have hbd := hT (i + 1) (s ||| 2 ^ j) (by omega) (or_lt hs (by omega))
      refine c_M_with i j s hB (by rw [ec]; omega) (by rw [ec]; omega) (by omega) (by show -10000000 ≤ σ.1 8 _ ∧ σ.1 8 _ ≤ 10000000; rw [e8]; exact hbd) ?_
      have e1 : (65536 * (i : Int) + (s : Int)).toNat = 65536 * i + s := by omega
      rw [e1, pM.frame f (by decide)]
      show _ ∧ _ ∧ _ ∧ ((¬ σ.1 8 (65536 * (i + 1) + (s ||| 2 ^ j)) + pM σ0 i j - 100000 = σ.1 8 (65536 * i + s) → _) ∧ (σ.1 8 (65536 * (i + 1) + (s ||| 2 ^ j)) + pM σ0 i j - 100000 = σ.1 8 (65536 * i + s) → _))
      rw [e8]
      refine ⟨⟨by omega, by omega⟩, ⟨by omega, by omega⟩, ⟨by omega, by omega⟩, fun q => ⟨⟨by omega, by omega⟩, skip (fun z => q z.2.2.2)⟩, fun q τ1 t1 => ⟨⟨by omega, by omega⟩, ?_⟩⟩
      have ft : Fr [9] σ0 τ1 := by rw [t1]; exact f.put (by decide)
      have ect : τ1.1 0 = σ0.1 0 := ft.at (by decide)
      have t9 : τ1.1 9 = uf (σ0.1 9) i (j : Int) := by
        rw [t1, sI_s, h9]
        funext b
        by_cases e : b = i
        · rw [e, uf_s, uf_s]
        · rw [uf_n e, uf_n e, uf_n e]
      have fin : R 106 [vR 0, vI s, vI i, vN] [] τ1 := k τ1 j ft t9 (Or.inr ⟨j, rfl, ⟨by omega, hb, hf, q⟩, hno⟩)
      refine g_X10_plans_38 hM s i ((j : Int) + 1) τ1 ⟨fun _ => fin, fun q => ⟨⟨by omega, by omega⟩, ?_⟩⟩
      rw [Int.toNat_natCast, t9, uf_s]
      exact ⟨fun _ => fin, fun z => by omega⟩
theorem c_plans {Q : St → Prop} (hMB : MB σ) (h13 : σ.1 0 13 = 0 ∨ σ.1 0 13 = 1) (hP : σ.1 0 13 = 1 → PMs σ)
    (K : ∀ σ', Fr [0, 8, 9, 10, 11, 12, 13, 14, 15, 16] σ σ' → (∀ c, c ≠ 13 → c ≠ 15 → c ≠ 18 → σ'.1 0 c = σ.1 0 c) → σ'.1 0 13 = 1 → PMs σ' → Q σ') : conV G wdM (d + 2) mX10_plans [vR 0] σ Q := by
  refine conV.of (ls0 := [vR 0, vN, vN, vN]) rfl rfl (Nat.le_of_ble_eq_true rfl) (fun Ret R hret hM => g_X10_plans_0 hM σ ?_)
  refine ⟨fun h0 τ1 e1 => ?_, fun h0 => hret _ (K σ Fr.rfl' (fun _ _ _ _ => rfl) (by omega) (hP (by omega)))⟩
  have h16 := hMB.1
  have fr1 : Fr [0, 8, 9, 10, 11, 12, 13, 14, 15, 16] σ τ1 := by rw [e1]; exact Fr.one (by decide)
  have g0 : τ1.1 0 = uf (σ.1 0) 13 1 := by rw [e1, sI_s]
  have gn : ∀ c, c ≠ 0 → τ1.1 c = σ.1 c := fun c hc => by rw [e1, sI_n _ hc]
  have g0n : ∀ c, c ≠ 13 → τ1.1 0 c = σ.1 0 c := fun c hc => by rw [g0, uf_n hc]
  have hB1 : MB τ1 := hMB.fr (g0n 3 (by decide)) (g0n 8 (by decide)) (g0n 9 (by decide)) (g0n 10 (by decide)) (g0n 11 (by decide)) (gn 1 (by decide)) (gn 2 (by decide)) (gn 3 (by decide)) (gn 4 (by decide)) (gn 5 (by decide)) (gn 6 (by decide)) (gn 7 (by decide))
  have hnn : σ.1 0 3 = ((σ.1 0 3).toNat : Int) := by omega
  generalize hn : (σ.1 0 3).toNat = n at hnn
  have hn16 : n ≤ 16 := by omega
  have hpl : 2 ^ n ≤ 65536 := Nat.pow_le_pow_right (n := 2) (j := 16) (by decide) hn16
  have e13 : τ1.1 0 3 = (n : Int) := by rw [g0n 3 (by decide)]; exact hnn
  refine c_sums hB1 (fun σ1 f1 hT hbd => ?_)
  rw [e13, Int.toNat_natCast] at hT hbd
  have c10 : σ1.1 0 = τ1.1 0 := f1.at (by decide)
  have hBs : MB σ1 := hB1.frame f1 (by decide)
  have hn1 : σ1.1 0 3 = (n : Int) := by rw [c10]; exact e13
  have fo1 : foM σ1 = foM τ1 := foM.frame f1 (by decide)
  have pm1 : pM σ1 = pM τ1 := pM.frame f1 (by decide)
  rw [← fo1, ← pm1] at hT
  -- behind the choices: the rows
  have rows : ∀ (σ2 : St) (S : Nat → Nat), Fr [9] σ1 σ2 → S 0 = 0 → (∀ r, r < n → gstep n (foM σ1) (pM σ1) (TM σ1) (σ2.1 9) S r) → S n < 2 ^ n → R 21 [vR 0, vI (S n : Nat), vI n, vN] [] σ2 := by
    intro σ2 S f2 hS0 hg hSn
    have hgr : Greedy n (foM σ1) (pM σ1) (TM σ1) (σ2.1 9) S := ⟨hS0, hg⟩
    have hplan := hgr.plan hn16 hT
    have hC := Chn.of (bg := σ1.1 6) hn16 hplan.1 (fun i j hi hj hf => foM_bg hBs (by omega) (by omega) hf)
    generalize hf : nz n (σ2.1 9) = f at hC
    have hfu : ∀ u, u < n → σ2.1 9 u = f u := fun u hu => by rw [← hf]; exact (if_pos hu).symm
    have c20 : σ2.1 0 = σ1.1 0 := f2.at (by decide)
    have hhead : ∀ t, t < n → ((S n).testBit t = false ↔ hB n f t = true) := by
      intro t ht
      have := hgr.bits n (Nat.le_refl _) t
      constructor
      · intro q
        refine cB_iff.mpr ⟨ht, fun i hi e => ?_⟩
        rw [← hfu i hi] at e
        rw [this.mpr ⟨i, hi, e⟩] at q
        cases q
      · intro q
        cases e : (S n).testBit t with
        | false => rfl
        | true =>
          obtain ⟨r, hr, e'⟩ := this.mp e
          exact absurd (by rw [← hfu r hr]; exact e') ((cB_iff.mp q).2 r hr)
    refine g_X10_plans_21 hM _ n σ2 ⟨fun _ κ1 k1 κ2 k2 => ?_, fun q => by rw [c20, hn1] at q; omega⟩
    have p0 : κ2.1 0 = uf (uf (σ2.1 0) 15 0) 18 0 := by rw [k2, sI_s, k1, sI_s]
    have pn : ∀ c, c ≠ 0 → κ2.1 c = σ2.1 c := fun c hc => by rw [k2, sI_n _ hc, k1, sI_n _ hc]
    have q0 : ∀ c, c ≠ 15 → c ≠ 18 → κ2.1 0 c = σ1.1 0 c := fun c z1 z2 => by rw [p0, uf_n z2, uf_n z1, c20]
    have o9 : ∀ c, c ≠ 0 → c ≠ 9 → κ2.1 c = σ1.1 c := fun c z1 z2 => by rw [pn c z1]; exact f2.at (by simp [z2])
    have hBk : MB κ2 := hBs.fr (q0 3 (by decide) (by decide)) (q0 8 (by decide) (by decide)) (q0 9 (by decide) (by decide)) (q0 10 (by decide) (by decide)) (q0 11 (by decide) (by decide)) (o9 1 (by decide) (by decide)) (o9 2 (by decide) (by decide)) (o9 3 (by decide) (by decide)) (o9 4 (by decide) (by decide)) (o9 5 (by decide) (by decide)) (o9 6 (by decide) (by decide)) (o9 7 (by decide) (by decide))
    have hfk : Fr [0, 8, 9, 10, 11, 12, 13, 14, 15, 16] σ κ2 := by
      refine (fr1.tr (f1.mono (by decide))).tr ?_
      refine (f2.mono (by decide)).tr ?_
      rw [k2, k1]; exact (Fr.one (by decide)).put (by decide)
    have loop : ∀ m t : Nat, t + m = n → ∀ σ3 : St, Fr [0, 10, 11, 12, 13, 14, 15, 16] κ2 σ3 → (∀ c, c ≠ 15 → c ≠ 18 → σ3.1 0 c = κ2.1 0 c) → σ3.1 0 15 = (bn n f t : Int) → σ3.1 0 18 = (bs n f (rlM κ2) t : Int) → rowsM σ3 n f (rlM κ2) t → R 148 [vR 0, vI (S n : Nat), vI t, vN] [] σ3 := by
      intro m
      induction m with
      | zero =>
        intro t ht σ3 f3 a1 a2 a3 a4
        have e : t = n := by omega
        subst e
        have w0 : ∀ c, c ≠ 13 → c ≠ 15 → c ≠ 18 → σ3.1 0 c = σ.1 0 c := fun c z1 z2 z3 => by rw [a1 c z2 z3, q0 c z2 z3, c10, g0n c z1]
        have w3 : σ3.1 0 3 = (t : Int) := by rw [w0 3 (by decide) (by decide) (by decide)]; exact hnn
        have w9 : σ3.1 9 = σ2.1 9 := by rw [f3.at (by decide), pn 9 (by decide)]
        have wn : ∀ c, c = 1 ∨ c = 2 ∨ c = 3 ∨ c = 4 ∨ c = 5 ∨ c = 6 ∨ c = 7 → σ3.1 c = σ1.1 c := fun c hc => by
          have hm : c ∉ [0, 10, 11, 12, 13, 14, 15, 16] := by rcases hc with rfl | rfl | rfl | rfl | rfl | rfl | rfl <;> decide
          rw [f3.at hm, o9 c (by omega) (by omega)]
        have wfo : foM σ3 = foM σ1 := foM.eq (wn 1 (by simp)) (wn 4 (by simp)) (wn 5 (by simp)) (wn 6 (by simp)) (wn 7 (by simp))
        have wpm : pM σ3 = pM σ1 := pM.eq (wn 2 (by simp)) (wn 4 (by simp)) (wn 5 (by simp))
        have wrl : rlM σ3 = rlM κ2 := by funext u; unfold rlM; rw [f3.at (by decide), f3.at (by decide)]
        refine g_X10_plans_148 hM _ t σ3 ⟨fun _ => hret _ (K σ3 (hfk.tr (f3.mono (by decide))) w0 ?_ ?_), fun q => by rw [w3] at q; omega⟩
        · rw [a1 13 (by decide) (by decide), q0 13 (by decide) (by decide), c10, g0, uf_s]
        · unfold PMs
          rw [w3, Int.toNat_natCast, w9, hf, wfo, wpm, wrl]
          exact ⟨hplan, a4, a2, a3⟩
      | succ m ih =>
        intro t ht σ3 f3 a1 a2 a3 a4
        have et : ((t : Int) + 1) = ((t + 1 : Nat) : Int) := by omega
        have w3 : σ3.1 0 3 = (n : Int) := by rw [a1 3 (by decide) (by decide), q0 3 (by decide) (by decide)]; exact hn1
        refine g_X10_plans_148 hM _ t σ3 ⟨fun q => by rw [w3] at q; omega, fun _ => ?_⟩
        rw [bit1 _ (by omega), tb_set (by omega)]
        cases hb : (S n).testBit t with
        | true =>
          have hnh : ¬ hB n f t = true := fun q => by rw [(hhead t (by omega)).mpr q] at hb; cases hb
          refine ⟨fun _ => ⟨⟨by omega, by omega⟩, ?_⟩, fun q => by simp at q⟩
          rw [et]
          exact ih (t + 1) (by omega) σ3 f3 a1 (by rw [bn_n hnh]; exact a2) (by rw [bs_n hnh]; exact a3) (a4.skip hnh)
        | false =>
          have hh := (hhead t (by omega)).mp hb
          have hB3 : MB σ3 := by
            have wn : ∀ c, c = 1 ∨ c = 2 ∨ c = 3 ∨ c = 4 ∨ c = 5 ∨ c = 6 ∨ c = 7 → σ3.1 c = κ2.1 c := fun c hc => by
              have hm : c ∉ [0, 10, 11, 12, 13, 14, 15, 16] := by rcases hc with rfl | rfl | rfl | rfl | rfl | rfl | rfl <;> decide
              rw [f3.at hm]
            exact hBk.fr (a1 3 (by decide) (by decide)) (a1 8 (by decide) (by decide)) (a1 9 (by decide) (by decide)) (a1 10 (by decide) (by decide)) (a1 11 (by decide) (by decide)) (wn 1 (by simp)) (wn 2 (by simp)) (wn 3 (by simp)) (wn 4 (by simp)) (wn 5 (by simp)) (wn 6 (by simp)) (wn 7 (by simp))
          have wrl : ∀ u, rlM σ3 u = rlM κ2 u := fun u => by unfold rlM; rw [f3.at (by decide), f3.at (by decide)]
          refine ⟨fun q => by simp at q, fun _ => c_goes hC hh hB3 (fun u hu => ?_) (fun u hu => (wrl u).symm) a2 a3 a4 (fun σ4 f4 b1 b2 b3 b4 => ⟨⟨by omega, by omega⟩, ?_⟩)⟩
          · rw [f3.at (by decide), pn 9 (by decide)]; exact hfu u hu
          · rw [et]
            exact ih (t + 1) (by omega) σ4 (f3.tr f4) (fun c z1 z2 => by rw [b1 c z1 z2, a1 c z1 z2]) b2 b3 b4
    exact loop n 0 (by omega) κ2 Fr.rfl' (fun _ _ _ => rfl) (by rw [p0]; rfl) (by rw [p0]; rfl) (fun t ht => by omega)
  have pick : ∀ m i : Nat, i + m = n → ∀ (σ2 : St) (S : Nat → Nat), Fr [9] σ1 σ2 → S 0 = 0 → (∀ r, r < i → gstep n (foM σ1) (pM σ1) (TM σ1) (σ2.1 9) S r) → S i < 2 ^ n → R 21 [vR 0, vI (S i : Nat), vI i, vN] [] σ2 := by
    intro m
    induction m with
    | zero =>
      intro i hi σ2 S f2 hS0 hg hSi
      have e : i = n := by omega
      subst e
      exact rows σ2 S f2 hS0 hg hSi
    | succ m ih =>
      intro i hi σ2 S f2 hS0 hg hSi
      have c20 : σ2.1 0 = σ1.1 0 := f2.at (by decide)
      have ei : ((i : Int) + 1) = ((i + 1 : Nat) : Int) := by omega
      refine g_X10_plans_21 hM _ i σ2 ⟨fun q => by rw [c20, hn1] at q; omega, fun _ => ⟨⟨by omega, by omega⟩, fun κ1 k1 => ?_⟩⟩
      rw [Int.toNat_natCast] at k1
      have fk : Fr [9] σ1 κ1 := by rw [k1]; exact f2.put (by decide)
      have n3 : κ1.1 0 3 = (n : Int) := by rw [fk.at (by decide)]; exact hn1
      have e8 : TM κ1 = TM σ1 := by funext a b; show κ1.1 8 _ = σ1.1 8 _; rw [fk.at (by decide)]
      have efo : foM κ1 = foM σ1 := foM.frame fk (by decide)
      have epm : pM κ1 = pM σ1 := pM.frame fk (by decide)
      refine plans_pick (d := d) hM κ1 (hBs.frame fk (by decide)) n3 (fun a b ha hb => by rw [e8]; exact hbd a b ha hb) i (S i) (by omega) hSi (fun σ3 x f3 h9 hx => ?_) n 0 (by omega) κ1 Fr.rfl' ?_ (fun j' hj' => by omega)
      · rw [e8, efo, epm] at hx
        have h9' : ∀ r, r < i → σ3.1 9 r = σ2.1 9 r := fun r hr => by rw [h9, uf_n (by omega), k1, sI_s, uf_n (by omega)]
        have h9i : σ3.1 9 i = x := by rw [h9, uf_s]
        refine g_X10_plans_106 hM _ i σ3 ⟨⟨by omega, by omega⟩, ?_⟩
        rw [Int.toNat_natCast, h9i]
        rcases hx with ⟨rfl, hno⟩ | ⟨j, rfl, hj, hno⟩
        · refine ⟨fun q => by omega, fun _ => ⟨⟨by omega, by omega⟩, ?_⟩⟩
          rw [ei]
          have := ih (i + 1) (by omega) σ3 (fun k => if k ≤ i then S k else S i) (fk.tr f3) hS0 (fun r hr => ?_) ?_
          · simp only [show ¬ (i + 1 ≤ i) from by omega, if_false] at this; exact this
          · by_cases e : r = i
            · rw [e]
              refine ⟨by simp only [Nat.le_refl, if_true]; exact hSi, Or.inl ⟨h9i, ?_, fun j hj hb hf z => ?_⟩⟩
              · simp only [Nat.le_refl, if_true, show ¬ (i + 1 ≤ i) from by omega, if_false]
              · simp only [Nat.le_refl, if_true] at hb z; exact hno j ⟨hj, hb, hf, z⟩
            · exact (hg r (by omega)).congr (h9' r (by omega)) (by simp only [show r ≤ i from by omega, if_true]) (by simp only [show r + 1 ≤ i from by omega, if_true])
          · simp only [show ¬ (i + 1 ≤ i) from by omega, if_false]; exact hSi
        · obtain ⟨j1, j2, j3, j4⟩ := hj
          refine ⟨fun _ u1 eu1 => ⟨⟨by omega, by omega⟩, ?_⟩, fun q => by omega⟩
          rw [bOr_set (by omega) (by omega)] at eu1
          rw [eu1, ei]
          have := ih (i + 1) (by omega) σ3 (fun k => if k ≤ i then S k else S i ||| 2 ^ j) (fk.tr f3) hS0 (fun r hr => ?_) ?_
          · simp only [show ¬ (i + 1 ≤ i) from by omega, if_false] at this; exact this
          · by_cases e : r = i
            · rw [e]
              refine ⟨by simp only [Nat.le_refl, if_true]; exact hSi, Or.inr ⟨j, j1, h9i, ?_, ?_, j3, ?_, fun j' hj' hb hf z => ?_⟩⟩
              · simp only [Nat.le_refl, if_true, show ¬ (i + 1 ≤ i) from by omega, if_false]
              · simp only [Nat.le_refl, if_true]; exact j2
              · simp only [Nat.le_refl, if_true]; exact j4
              · simp only [Nat.le_refl, if_true] at hb z; exact hno j' hj' ⟨by omega, hb, hf, z⟩
            · exact (hg r (by omega)).congr (h9' r (by omega)) (by simp only [show r ≤ i from by omega, if_true]) (by simp only [show r + 1 ≤ i from by omega, if_true])
          · simp only [show ¬ (i + 1 ≤ i) from by omega, if_false]; exact or_lt hSi j1
      · rw [k1, sI_s]
        funext b
        by_cases e : b = i
        · rw [e, uf_s, uf_s]
        · rw [uf_n e, uf_n e, uf_n e]
  exact pick n 0 (by omega) σ1 (fun _ => 0) Fr.rfl' rfl (fun r hr => by omega) (Nat.pow_pos (by decide))
end Plans
