/-! ===== pairs of least cost: all rows; the costs ===== -/
section Solve
variable {G : GX} {d : Nat} {σ : St}
def tgt (σ : St) (n i : Nat) : Prop := ∀ c, c < 32 → (tb (σ.1 17 i) c = true ↔ c < n ∧ ovX σ i c = 0)
theorem ovX_fr {S : List Nat} {σ σ' : St} (f : Fr S σ σ') (h10 : 10 ∉ S) (h11 : 11 ∉ S) (h12 : 12 ∉ S) (i c : Nat) : ovX σ' i c = ovX σ i c := by
  show σ'.1 10 _ - σ'.1 11 _ - σ'.1 12 _ = _
  rw [f.at h10, f.at h11, f.at h12]
theorem HI.frame {S : List Nat} {σ σ' : St} {n r : Nat} (h : HI σ n r) (f : Fr S σ σ') (hS : 1 ∉ S ∧ 3 ∉ S ∧ 10 ∉ S ∧ 11 ∉ S ∧ 12 ∉ S ∧ 18 ∉ S ∧ 19 ∉ S) : HI σ' n r := by
  obtain ⟨s1, s3, s10, s11, s12, s18, s19⟩ := hS
  refine ⟨h.1.fr (by rw [f.at s1]) (f.at s10) (f.at s11) (f.at s12), fun i j hi hj => by rw [ovX_fr f s10 s11 s12]; exact h.2.1 i j hi hj, by rw [f.at s11]; exact h.2.2.1, by rw [f.at s3, f.at s12]; exact h.2.2.2.1, ?_⟩
  rw [f.at s3, f.at s18, f.at s19]
  exact h.2.2.2.2.ok (fun r c _ _ _ q => ⟨q.1, by rw [ovX_fr f s10 s11 s12]; exact q.2⟩)
theorem open_in {Ret : Option AV → St → Prop} {R : Nat → List AV → List AV → St → Prop} (hM : AM G wdX (d + 3) mX1_solve Ret R) (σ0 : St) {n : Nat} (hH : HI σ0 n n) {i : Nat} (hi : i < n)
    (K : ∀ σ', Fr [17] σ0 σ' → (∀ j, j ≠ i → σ'.1 17 j = σ0.1 17 j) → tgt σ' n i → R 60 [vR 1, vN, vI ((i : Int) + 1), vN] [] σ') :
    ∀ m c : Nat, c + m = n → ∀ σ : St, Fr [17] σ0 σ → (∀ j, j ≠ i → σ.1 17 j = σ0.1 17 j) → (∀ b, b < 32 → (tb (σ.1 17 i) b = true ↔ b < c ∧ ovX σ0 i b = 0)) → R 80 [vR 1, vN, vI i, vI c] [] σ := by
  have hn := hH.1.1
  intro m
  induction m with
  | zero =>
    intro c hc σ f h1 h2
    have e6 : σ.1 1 6 = (n : Int) := by rw [f.at (by decide)]; exact hH.1.2.1
    refine g_X1_solve_80 hM i c σ ⟨fun _ => ⟨⟨by omega, by omega⟩, K σ f h1 (fun b hb => ?_)⟩, fun q => by omega⟩
    rw [h2 b hb, ovX_fr f (by decide) (by decide) (by decide)]
    have e : c = n := by omega
    rw [e]
  | succ m ih =>
    intro c hc σ f h1 h2
    have e6 : σ.1 1 6 = (n : Int) := by rw [f.at (by decide)]; exact hH.1.2.1
    have ec : ((c : Int) + 1) = ((c + 1 : Nat) : Int) := by omega
    have hbs : BU σ n := (hH.frame f (by decide)).1
    refine g_X1_solve_80 hM i c σ ⟨fun q => by omega, fun _ => c_over hbs hi (by omega) ?_⟩
    rw [ovX_fr f (by decide) (by decide) (by decide), ec, Int.toNat_natCast]
    refine ⟨fun q => ⟨⟨by omega, by omega⟩, ih (c + 1) (by omega) σ f h1 (fun b hb => ?_)⟩, fun q => ⟨⟨by omega, by omega⟩, fun τ1 t1 => ⟨⟨by omega, by omega⟩, ih (c + 1) (by omega) τ1 (by rw [t1]; exact f.put (by decide)) (fun j hj => by rw [t1, sI_s, uf_n hj]; exact h1 j hj) (fun b hb => ?_)⟩⟩⟩
    · rw [h2 b hb]
      by_cases e : b = c
      · rw [e]; exact ⟨fun z => by omega, fun z => absurd z.2 q⟩
      · exact ⟨fun z => ⟨by omega, z.2⟩, fun z => ⟨by omega, z.2⟩⟩
    · rw [t1, sI_s, uf_s, tb_put _ (by omega) hb, Bool.or_eq_true, decide_eq_true_eq, h2 b hb]
      by_cases e : b = c
      · rw [e]; exact ⟨fun _ => ⟨by omega, q⟩, fun _ => Or.inr rfl⟩
      · exact ⟨fun z => by
          rcases z with z | z
          · exact ⟨by omega, z.2⟩
          · exact absurd z e, fun z => Or.inl ⟨by omega, z.2⟩⟩
theorem c_solve {Q : St → Prop} {n : Nat} (hn : n ≤ 16) (hC : ∀ i j, i < n → j < n → 0 ≤ σ.1 10 (16 * i + j) ∧ σ.1 10 (16 * i + j) ≤ 16001) (hop : opn σ)
    (K : ∀ σ', Fr [1, 3, 11, 12, 13, 14, 17, 18, 19] σ σ' → HI σ' n n → opn σ' → (∀ i, i < n → tgt σ' n i) → Q σ') : conV G wdX (d + 3) mX1_solve [vR 1, vI n] σ Q := by
  refine conV.of (ls0 := [vR 1, vI n, vN, vN]) rfl rfl (Nat.le_of_ble_eq_true rfl) (fun Ret R hret hM => g_X1_solve_0 hM n σ ?_)
  intro τ1 t1
  have es : (if 0 < (if (16 : Int) < (n : Int) then 16 else (n : Int)) then (if (16 : Int) < (n : Int) then 16 else (n : Int)) else 0) = (n : Int) := by
    rw [if_neg (show ¬ (16 : Int) < (n : Int) from by omega)]
    by_cases q : 0 < (n : Int)
    · rw [if_pos q]
    · rw [if_neg q]; omega
  rw [es] at t1
  have g1 : Fr [1, 3, 11, 12, 18, 19] σ τ1 := by rw [t1]; exact Fr.one (by decide)
  have g16 : τ1.1 1 6 = (n : Int) := by rw [t1, sI_s, uf_s]
  refine c_clear (fun σ1 f1 _ hJ1 => c_fill (n := 16) rfl (by decide) _ (fun σ2 a1 a2 a3 a4 => c_fill (n := 16) rfl (by decide) _ (fun σ3 b1 b2 b3 b4 => ?_)))
  have f3 : Fr [1, 3, 11, 12, 18, 19] σ σ3 := by
    refine (g1.tr (f1.mono (by decide))).tr (fun k hk => ?_)
    simp only [List.mem_cons, List.not_mem_nil, or_false, not_or] at hk
    rw [b1 k hk.2.2.2.1, a1 k hk.2.2.1, b2, a2]; exact ⟨rfl, rfl⟩
  have u0 : ∀ i, i < 16 → σ3.1 11 i = 0 := fun i hi => by rw [b1 11 (by decide)]; exact a3 i hi
  have v0 : ∀ i, i < 16 → σ3.1 12 i = 0 := fun i hi => b3 i hi
  have s6 : σ3.1 1 6 = (n : Int) := by rw [b1 1 (by decide), a1 1 (by decide), f1.at (by decide)]; exact g16
  have e10 : σ3.1 10 = σ.1 10 := f3.at (by decide)
  have h0 : HI σ3 n 0 := by
    refine ⟨⟨hn, s6, fun i j hi hj => by rw [e10]; exact hC i j hi hj, fun i hi => by rw [u0 i (by omega)]; omega, fun j hj => by rw [v0 j (by omega)]; omega⟩, fun i j hi hj => ?_, fun i _ hi => u0 i (by omega), fun j hj _ => v0 j (by omega), ?_⟩
    · show 0 ≤ σ3.1 10 _ - σ3.1 11 _ - σ3.1 12 _
      rw [u0 i (by omega), v0 j (by omega), e10]
      have := hC i j hi hj
      omega
    · rw [b1 18 (by decide), b1 19 (by decide), b1 3 (by decide), a1 18 (by decide), a1 19 (by decide), a1 3 (by decide)]
      exact (hJ1 _).cg (fun _ _ => Iff.rfl) (fun r => ⟨fun q => by omega, fun q => q.elim⟩)
  -- the open columns
  have outer : ∀ m i : Nat, i + m = n → ∀ σ4 : St, Fr [1, 3, 11, 12, 13, 14, 17, 18, 19] σ σ4 → HI σ4 n n → opn σ4 → (∀ j, j < i → tgt σ4 n j) → R 60 [vR 1, vN, vI i, vN] [] σ4 := by
    intro m
    induction m with
    | zero =>
      intro i hi σ4 f4 hH ho ht
      have e : i = n := by omega
      subst e
      exact g_X1_solve_60 hM i σ4 ⟨fun _ => hret _ (K σ4 f4 hH ho ht), fun q => by rw [hH.1.2.1] at q; omega⟩
    | succ m ih =>
      intro i hi σ4 f4 hH ho ht
      refine g_X1_solve_60 hM i σ4 ⟨fun q => by rw [hH.1.2.1] at q; omega, fun _ => ⟨⟨by omega, by omega⟩, fun τ2 t2 => ?_⟩⟩
      rw [Int.toNat_natCast] at t2
      have f5 : Fr [17] σ4 τ2 := by rw [t2]; exact Fr.one (by decide)
      have hH5 := hH.frame f5 (by decide)
      have ez : ((0 : Int)) = ((0 : Nat) : Int) := rfl
      refine open_in (d := d) hM τ2 hH5 (by omega) (fun σ5 f6 h6 ht6 => ?_) n 0 (by omega) τ2 Fr.rfl' (fun _ _ => rfl) (fun b _ => ?_)
      · have ei : ((i : Int) + 1) = ((i + 1 : Nat) : Int) := by omega
        have o5 : ∀ j, j ≠ i → σ5.1 17 j = σ4.1 17 j := fun j hj => by rw [h6 j hj, t2, sI_s, uf_n hj]
        rw [ei]
        refine ih (i + 1) (by omega) σ5 ((f4.tr (f5.mono (by decide))).tr (f6.mono (by decide))) (hH5.frame f6 (by decide)) (fun j hj b h1 h2 => ?_) (fun j hj => ?_)
        · by_cases e : j = i
          · rw [e]
            cases q : tb (σ5.1 17 i) b with
            | false => rfl
            | true => have := ((ht6 b h2).mp q).1; omega
          · rw [o5 j e]; exact ho j hj b h1 h2
        · by_cases e : j = i
          · rw [e]; exact ht6
          · intro b hb
            rw [o5 j e, ovX_fr f6 (by decide) (by decide) (by decide), ovX_fr f5 (by decide) (by decide) (by decide)]
            exact ht j (by omega) b hb
      · rw [t2, sI_s, uf_s, tb_0]
        exact ⟨fun q => by (cases q), fun q => by omega⟩
  have rows : ∀ m r : Nat, r + m = n → ∀ σ4 : St, Fr [1, 3, 11, 12, 13, 14, 18, 19] σ σ4 → HI σ4 n r → R 39 [vR 1, vN, vI r, vN] [] σ4 := by
    intro m
    induction m with
    | zero =>
      intro r hr σ4 f4 hH
      have e : r = n := by omega
      subst e
      refine g_X1_solve_39 hM r σ4 ⟨fun _ => ?_, fun q => by rw [hH.1.2.1] at q; omega⟩
      exact outer r 0 (by omega) σ4 (f4.mono (by decide)) hH (fun j hj => by rw [f4.at (by decide)]; exact hop j hj) (fun j hj => by omega)
    | succ m ih =>
      intro r hr σ4 f4 hH
      have er : ((r : Int) + 1) = ((r + 1 : Nat) : Int) := by omega
      refine g_X1_solve_39 hM r σ4 ⟨fun q => by rw [hH.1.2.1] at q; omega, fun _ => c_place (d := d) hH (by omega) (fun σ5 f5 h5 => ⟨⟨by omega, by omega⟩, ?_⟩)⟩
      rw [er]
      exact ih (r + 1) (by omega) σ5 (f4.tr f5) h5
  exact rows n 0 (by omega) σ3 (f3.mono (by decide)) h0
/-- the costs, row by row -/
def CO (σ : St) (n i : Nat) : Prop := ∀ j, j < n → (foX σ i j → σ.1 10 (16 * i + j) = pX σ i j) ∧ (¬ foX σ i j → σ.1 10 (16 * i + j) = 16001)
theorem foX.fr {σ σ' : St} (e34 : σ'.1 34 = σ.1 34) (e35 : σ'.1 35 = σ.1 35) (e36 : σ'.1 36 = σ.1 36) (e37 : σ'.1 37 = σ.1 37) (e38 : σ'.1 38 = σ.1 38) : foX σ' = foX σ := by
  funext i j
  show (¬ σ'.1 38 _ = -1 ∧ σ'.1 37 i + σ'.1 38 _ ≤ σ'.1 36 j) = _
  rw [e34, e35, e36, e37, e38]
theorem pX.fr {σ σ' : St} (e34 : σ'.1 34 = σ.1 34) (e35 : σ'.1 35 = σ.1 35) (e39 : σ'.1 39 = σ.1 39) : pX σ' = pX σ := by
  funext i j
  show σ'.1 39 _ = _
  rw [e34, e35, e39]
theorem wX.fr {σ σ' : St} (e34 : σ'.1 34 = σ.1 34) (e35 : σ'.1 35 = σ.1 35) (e38 : σ'.1 38 = σ.1 38) : wX σ' = wX σ := by
  funext i j
  show σ'.1 38 _ = _
  rw [e34, e35, e38]
theorem costs_in {Ret : Option AV → St → Prop} {R : Nat → List AV → List AV → St → Prop} (hM : AM G wdX (d + 2) mX4_setCosts Ret R) (σ0 : St) (hB : XB σ0) (hA : AF σ0) {n : Nat} (hn : σ0.1 7 4 = (n : Int)) (hn16 : n ≤ 16) {i : Nat} (hi : i < n)
    (K : ∀ σ', Fr [10] σ0 σ' → (∀ j, j < 16 * i ∨ 16 * i + 16 ≤ j → σ'.1 10 j = σ0.1 10 j) → CO σ' n i → R 2 [vR 4, vI ((i : Int) + 1), vN, vN] [] σ') :
    ∀ m c : Nat, c + m = n → ∀ σ : St, Fr [10] σ0 σ → (∀ j, j < 16 * i ∨ 16 * i + 16 ≤ j → σ.1 10 j = σ0.1 10 j) → (∀ j, j < c → (foX σ0 i j → σ.1 10 (16 * i + j) = pX σ0 i j) ∧ (¬ foX σ0 i j → σ.1 10 (16 * i + j) = 16001)) → R 15 [vR 4, vI i, vI c, vN] [] σ := by
  intro m
  induction m with
  | zero =>
    intro c hc σ f h1 h2
    have e7 : σ.1 7 4 = (n : Int) := by rw [f.at (by decide)]; exact hn
    refine g_X4_setCosts_15 hM i c σ ⟨fun _ => ⟨⟨by omega, by omega⟩, K σ f h1 (fun j hj => ?_)⟩, fun q => by omega⟩
    rw [foX.fr (f.at (by decide)) (f.at (by decide)) (f.at (by decide)) (f.at (by decide)) (f.at (by decide)), pX.fr (f.at (by decide)) (f.at (by decide)) (f.at (by decide))]
    exact h2 j (by omega)
  | succ m ih =>
    intro c hc σ f h1 h2
    have e7 : σ.1 7 4 = (n : Int) := by rw [f.at (by decide)]; exact hn
    have ec : ((c : Int) + 1) = ((c + 1 : Nat) : Int) := by omega
    have ex : ((i : Int) * 16 + (c : Int)).toNat = 16 * i + c := by omega
    have e15 : σ.1 15 = σ0.1 15 := f.at (by decide)
    have hBs := hB.frame f (by decide)
    have hp : pX σ = pX σ0 := pX.fr (f.at (by decide)) (f.at (by decide)) (f.at (by decide))
    have hix := hBs.ix (i := i) (j := c) (by omega) (by omega)
    have put : ∀ (v : Int) (τ : St), τ = sI σ 10 (16 * i + c) v → ((foX σ0 i c → v = pX σ0 i c) ∧ (¬ foX σ0 i c → v = 16001)) → R 15 [vR 4, vI i, vI ((c : Int) + 1), vN] [] τ := by
      intro v τ t hv
      have k10 : τ.1 10 = uf (σ.1 10) (16 * i + c) v := by rw [t, sI_s]
      rw [ec]
      refine ih (c + 1) (by omega) τ (by rw [t]; exact f.put (by decide)) (fun j hj => by rw [k10, uf_n (by omega)]; exact h1 j hj) (fun j hj => ?_)
      by_cases e : j = c
      · rw [e, k10, uf_s]; exact hv
      · rw [k10, uf_n (by omega)]; exact h2 j (by omega)
    refine g_X4_setCosts_15 hM i c σ ⟨fun q => by omega, fun _ => ⟨⟨by omega, by omega⟩, ?_⟩⟩
    rw [Int.toNat_natCast, bit1 _ (by omega), e15]
    have ha := hA i c (by omega) (by omega)
    cases hb : tb (σ0.1 15 i) c with
    | false =>
      have hnf : ¬ foX σ0 i c := fun q => by rw [ha.mpr ⟨by omega, q⟩] at hb; cases hb
      refine ⟨fun _ => g_X4_setCosts_48 hM i c 0 σ ⟨⟨by omega, by omega⟩, ⟨by omega, by omega⟩, fun _ => ⟨⟨by omega, by omega⟩, fun τ1 t1 => ⟨⟨by omega, by omega⟩, ?_⟩⟩, fun q => absurd rfl q⟩, fun q => by simp at q⟩
      rw [ex] at t1
      exact put 16001 τ1 t1 ⟨fun q => absurd q hnf, fun _ => rfl⟩
    | true =>
      have hf : foX σ0 i c := (ha.mp hb).2
      refine ⟨fun q => by simp at q, fun _ => g_X4_setCosts_48 hM i c 1 σ ⟨⟨by omega, by omega⟩, ⟨by omega, by omega⟩, fun q => by omega, fun _ => ⟨⟨by omega, by omega⟩, ⟨by omega, by omega⟩, ?_⟩⟩⟩
      rw [Int.toNat_natCast, Int.toNat_natCast]
      refine c_X8_priceOf (d := d) _ _ ?_ ?_ ⟨⟨by omega, by omega⟩, fun τ2 t2 => ⟨⟨by omega, by omega⟩, ?_⟩⟩
      · exact (hBs.2.1 i (by omega)).2.1
      · exact (hBs.2.1 c (by omega)).1
      · rw [ex] at t2
        refine put _ τ2 t2 ⟨fun _ => ?_, fun q => absurd hf q⟩
        rw [← hp]
theorem c_setCosts {Q : St → Prop} (hB : XB σ) (hA : AF σ) {n : Nat} (hn : σ.1 7 4 = (n : Int)) (hn16 : n ≤ 16) (K : ∀ σ', Fr [10] σ σ' → (∀ i, i < n → CO σ' n i) → Q σ') : conV G wdX (d + 2) mX4_setCosts [vR 4] σ Q := by
  refine conV.of (ls0 := [vR 4, vN, vN, vN]) rfl rfl (Nat.le_of_ble_eq_true rfl) (fun Ret R hret hM => g_X4_setCosts_0 hM σ ?_)
  have loop : ∀ m i : Nat, i + m = n → ∀ σ1 : St, Fr [10] σ σ1 → (∀ j, j < i → CO σ1 n j) → R 2 [vR 4, vI i, vN, vN] [] σ1 := by
    intro m
    induction m with
    | zero =>
      intro i hi σ1 f1 h1
      have e : i = n := by omega
      subst e
      exact g_X4_setCosts_2 hM i σ1 ⟨fun _ => hret _ (K σ1 f1 h1), fun q => by rw [f1.at (by decide), hn] at q; omega⟩
    | succ m ih =>
      intro i hi σ1 f1 h1
      have ei : ((i : Int) + 1) = ((i + 1 : Nat) : Int) := by omega
      refine g_X4_setCosts_2 hM i σ1 ⟨fun q => by rw [f1.at (by decide), hn] at q; omega, fun _ => ?_⟩
      refine costs_in (d := d) hM σ1 (hB.frame f1 (by decide)) ?_ (by rw [f1.at (by decide)]; exact hn) hn16 (by omega) (fun σ2 f2 h2 h3 => ?_) n 0 (by omega) σ1 Fr.rfl' (fun _ _ => rfl) (fun j hj => by omega)
      · intro a b ha hb
        rw [f1.at (by decide)] at ha ⊢
        rw [f1.at (by decide), foX.frame f1 (by decide)]
        exact hA a b ha hb
      · rw [ei]
        refine ih (i + 1) (by omega) σ2 (f1.tr f2) (fun j hj => ?_)
        by_cases e : j = i
        · rw [e]; exact h3
        · intro c hc
          rw [h2 _ (by omega), foX.fr (f2.at (by decide)) (f2.at (by decide)) (f2.at (by decide)) (f2.at (by decide)) (f2.at (by decide)), pX.fr (f2.at (by decide)) (f2.at (by decide)) (f2.at (by decide))]
          exact h1 j (by omega) c hc
  exact loop n 0 (by omega) σ Fr.rfl' (fun j hj => by omega)
end Solve
