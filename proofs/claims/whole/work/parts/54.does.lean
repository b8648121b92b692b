/-! ===== the search for THE ROSTER ===== -/
def TF (σ : St) (L : DT → Prop) (N : Nat) : Prop := ∀ D, D < 2 ^ N → 0 < nib (σ.2 27) D → ∀ j : Nat, (j : Int) ≤ nib (σ.2 27) D → ¬ Pt L j (pC N D)
def RI (σ : St) (N : Nat) (L : DT → Prop) : Prop := XB σ ∧ SX σ N ∧ LDX σ N = L ∧ LSt σ L N ∧ ∀ i, i < N → (tb (σ.1 5 7) i = true ↔ ¬ pce N (σ.1 29) ((i : Int) - 1) i)
theorem RI.fr {σ σ' : St} {N : Nat} {L : DT → Prop} (h : RI σ N L) (f : Fr [27, 28] σ σ') : RI σ' N L := by
  obtain ⟨h1, h2, h3, h4, h5⟩ := h
  refine ⟨h1.frame f (by decide), h2.fr f (by decide), by rw [LDX.fr f (by decide)]; exact h3, ?_, ?_⟩
  · unfold LSt at h4 ⊢
    rw [f.at (k := 25) (by decide), f.at (k := 26) (by decide)]
    exact h4
  · rw [f.at (k := 5) (by decide), f.at (k := 29) (by decide)]
    exact h5
theorem Pt.has {L : DT → Prop} {s : Nat} : ∀ {k : Nat} {p : Nat → Bool}, Pt L k p → p s = true → ∃ δ, L δ ∧ inD δ s = true := by
  intro k
  induction k with
  | zero => intro p h hs; rw [h s] at hs; cases hs
  | succ k ih =>
    intro p h hs
    obtain ⟨δ, a1, a2, a3⟩ := h
    cases q : inD δ s with
    | true => exact ⟨δ, a1, q⟩
    | false => exact ih a3 (by unfold subD; rw [hs, q]; rfl)
section Does
variable {G : GX} {d : Nat} {σ : St} {N : Nat} {L : DT → Prop}
theorem c_noteTooFew {Q : St → Prop} {D v : Nat} (hD : D < 4096) (hv : v < 16) (K : ∀ σ', Fr [27] σ σ' → nib (σ'.2 27) D = (v : Int) → (∀ D', D' ≠ D → nib (σ'.2 27) D' = nib (σ.2 27) D') → Q σ') : conV G wdX d mX5_noteTooFew [vR 5, vI D, vI v] σ Q := by
  refine conV.of (ls0 := [vR 5, vI D, vI v, vN, vN, vN]) rfl rfl (Nat.le_of_ble_eq_true rfl) (fun Ret R hret hM => g_X5_noteTooFew_0 hM D v σ ?_)
  obtain ⟨e1, e2⟩ := bS_nib D hD
  rw [e1, e2, show ((D % 16 : Nat) : Int) * 4 = ((4 * (D % 16) : Nat) : Int) by omega, Int.toNat_natCast]
  refine ⟨⟨by omega, by omega⟩, ⟨by omega, by omega⟩, fun τ1 t1 => hret _ ?_⟩
  have e27 : ∀ j, τ1.2 27 j = if j = D / 16 then nibW (σ.2 27 (D / 16)) (4 * (D % 16)) v else σ.2 27 j := fun j => by
    rw [t1]
    show (if (27 : Nat) = 27 ∧ j = D / 16 then _ else σ.2 27 j) = _
    by_cases q : j = D / 16
    · rw [if_pos ⟨rfl, q⟩, if_pos q]; rfl
    · rw [if_neg (fun z => q z.2), if_neg q]
  have z := nib_set hv e27
  exact K τ1 (by rw [t1]; exact (Fr.rfl' (S := [27])).putL (by decide)) z.1 z.2
theorem c_isHopeless {Q : Int → St → Prop} {k D : Nat} (hN : N ≤ 12) (hI : RI σ N L) (hT : TF σ L N) (hD : D < 2 ^ N) (hk : 1 ≤ k ∧ k ≤ 12) (K1 : (∀ j, j ≤ k → ¬ Pt L j (pC N D)) → Q 1 σ) (K0 : Q 0 σ) : conI G wdX (d + 1) mX5_isHopeless [vR 5, vI D, vI k] σ Q := by
  refine conI.of (ls0 := [vR 5, vI D, vI k, vN, vN, vN, vN]) rfl rfl (Nat.le_of_ble_eq_true rfl) (fun Ret R hret hM => g_X5_isHopeless_0 hM D k σ ?_)
  obtain ⟨hB, hS, eL, hL, hH⟩ := hI
  have hD' := D_12 hN hD
  obtain ⟨e1, e2⟩ := bS_nib D hD'
  rw [e1, e2, show ((D % 16 : Nat) : Int) * 4 = ((4 * (D % 16) : Nat) : Int) by omega, Int.toNat_natCast]
  refine ⟨⟨by omega, by omega⟩, ⟨by omega, by omega⟩, fun u1 eu1 => ?_⟩
  have eu : u1 = nib (σ.2 27) D := eu1
  rw [hS.1, (bU_tb N (by omega)).1]
  have hU := (bU_tb N (by omega)).2
  have hp : (2 : Int) ^ N ≤ 4096 ∧ 1 ≤ (2 : Int) ^ N := by
    have a := Nat.pow_le_pow_right (n := 2) (by decide) hN
    have b : 0 < 2 ^ N := Nat.pow_pos (by decide)
    have e : ((2 ^ N : Nat) : Int) = (2 : Int) ^ N := by simp
    omega
  refine ⟨fun q => ⟨⟨by omega, by omega⟩, fun u2 eu2 u3 eu3 => ?_⟩, fun q => hret _ _ (K1 (fun j hj => hT D hD (by omega) j (by omega)))⟩
  have b2 : ∀ i, i < 32 → tb u2 i = pC N D i := fun i hi => by
    rw [eu2, tb_and, hU i hi, tb_not _ hi]; rfl
  have b3 : ∀ i, i < 32 → tb u3 i = ((decide (1 ≤ i) && pC N D (i - 1)) && !tb (σ.1 5 7) i) := fun i hi => by
    have h1 : tb (bShl u2 1) i = (decide (1 ≤ i) && tb u2 (i - 1)) := tb_shl u2 (k := 1) (by decide) hi
    rw [eu3, tb_and, tb_not _ hi, h1, b2 (i - 1) (by omega)]
  have bv : ∀ i, i < 32 → tb (bAnd u2 (bXor u3 (-1))) i = strD (tb (σ.1 5 7)) (pC N D) i := fun i hi => by
    rw [tb_and, tb_not _ hi, b2 i hi, b3 i hi]; rfl
  generalize hv : bAnd u2 (bXor u3 (-1)) = v at bv
  have hr : r32 v := by rw [← hv]; exact r32_and _ _
  have lt := tb_lt hr (n := 16) (by omega) (fun i h1 h2 => by
    rw [bv i h2]
    unfold strD
    have : pC N D i = false := by unfold pC; rw [decide_eq_false (by omega)]; rfl
    rw [this]; rfl)
  have ev : v = ((v.toNat : Nat) : Int) := by omega
  have ect : fb_ct (fun j => v.toNat.testBit j) 16 = fb_ct (strD (tb (σ.1 5 7)) (pC N D)) 16 := fb_ct_cong (fun i hi => by
    rw [← bv i (by omega), tb_toNat hr (by omega) (by omega)])
  have goal : conI G wdX d mJ6_bitCount_0f7a4 [vI (v.toNat : Nat)] σ (fun x1 σ1 => (((σ1.1 0 3) = 0 → ((x1 ≤ (k : Int) → Ret (some (vI 0)) σ1) ∧ (¬ x1 ≤ (k : Int) → Ret (some (vI 1)) σ1))) ∧ (¬ (σ1.1 0 3) = 0 → (r32 (2 * (k : Int)) ∧ ((x1 ≤ (2 * (k : Int)) → Ret (some (vI 0)) σ1) ∧ (¬ x1 ≤ (2 * (k : Int)) → Ret (some (vI 1)) σ1)))))) := by
    refine c_bitCount v.toNat lt.2 ?_
    rw [ect]
    have hop : ∀ j, Pt L j (pC N D) → fb_ct (strD (tb (σ.1 5 7)) (pC N D)) 16 ≤ 2 * j ∧ (σ.1 0 3 = 0 → fb_ct (strD (tb (σ.1 5 7)) (pC N D)) 16 ≤ j) := fun j hj => by
      rw [← eL] at hj
      exact Pt.hopeless hS.2 (gwX_r hB hS) hH hj
    refine ⟨fun q0 => ⟨fun _ => hret _ _ K0, fun q1 => hret _ _ (K1 (fun j hj z => ?_))⟩, fun q0 => ⟨⟨by omega, by omega⟩, fun _ => hret _ _ K0, fun q1 => hret _ _ (K1 (fun j hj z => ?_))⟩⟩
    · have := (hop j z).2 q0
      omega
    · have := (hop j z).1
      omega
  rw [← ev] at goal
  exact goal
theorem c_doesAll (hN : N ≤ 12) : ∀ (k e : Nat), k + 2 ≤ e → ∀ (σ : St) (D : Nat), RI σ N L → TF σ L N → D < 2 ^ N → ∀ all : Nat, k ≤ all → all ≤ 12 → ∀ Q : Int → St → Prop,
    ((∃ j, j ≤ k ∧ Pt L j (pC N D)) → ∀ σ', Fr [27, 28] σ σ' → TF σ' L N → (∀ i, i < all - k → σ'.1 28 i = σ.1 28 i) → (LeK L (pC N D) k → ∃ q, Rst L k (pC N D) q ∧ ∀ i, i < k → σ'.1 28 (all - k + i) = pkD (q i)) → Q 1 σ') →
    ((∀ j, j ≤ k → ¬ Pt L j (pC N D)) → ∀ σ', Fr [27] σ σ' → TF σ' L N → Q 0 σ') → conI G wdX e mX5_doesAll [vR 5, vI D, vI k, vI all] σ Q := by
  intro k
  induction k with
  | zero =>
    intro e he σ D hI hT hD all hk hall Q K1 K0
    obtain ⟨e', rfl⟩ : ∃ e', e = e' + 1 := ⟨e - 1, by omega⟩
    refine conI.of (ls0 := [vR 5, vI D, vI ((0 : Nat) : Int), vI all, vN, vN, vN]) rfl rfl (Nat.le_of_ble_eq_true rfl) (fun Ret R hret hM => g_X5_doesAll_0 hM D ((0 : Nat) : Int) all σ ?_)
    have hS := hI.2.1
    rw [hS.1, (bU_tb N (by omega)).1]
    have hp : (2 : Int) ^ N ≤ 4096 ∧ 1 ≤ (2 : Int) ^ N := by
      have a := Nat.pow_le_pow_right (n := 2) (by decide) hN
      have b : 0 < 2 ^ N := Nat.pow_pos (by decide)
      have e : ((2 ^ N : Nat) : Int) = (2 : Int) ^ N := by simp
      omega
    refine ⟨⟨by omega, by omega⟩, fun q => ⟨fun _ => hret _ _ (K0 (fun j hj z => ?_) σ Fr.rfl' hT), fun z => by omega⟩, fun q => hret _ _ (K1 ⟨0, Nat.le_refl _, (pC_all hN hD).mp q⟩ σ Fr.rfl' hT (fun _ _ => rfl) (fun _ => ⟨fun _ => (0, 0, 0, 0), trivial, fun i hi => by omega⟩))⟩
    have e0 : j = 0 := by omega
    subst e0
    exact q ((pC_all hN hD).mpr z)
  | succ k ih =>
    intro e he σ D hI hT hD all hk hall Q K1 K0
    obtain ⟨e', rfl⟩ : ∃ e', e = e' + 1 + 1 := ⟨e - 2, by omega⟩
    refine conI.of (ls0 := [vR 5, vI D, vI ((k + 1 : Nat) : Int), vI all, vN, vN, vN]) rfl rfl (Nat.le_of_ble_eq_true rfl) (fun Ret R hret hM => g_X5_doesAll_0 hM D ((k + 1 : Nat) : Int) all σ ?_)
    obtain ⟨hB, hS, eL, hLs, hH⟩ := hI
    have hI : RI σ N L := ⟨hB, hS, eL, hLs, hH⟩
    have hrg : ∀ δ : DT, L δ → rgD N δ := fun δ h => by rw [← eL] at h; exact h.1.rg
    have hD' := D_12 hN hD
    rw [hS.1, (bU_tb N (by omega)).1]
    have hp : (2 : Int) ^ N ≤ 4096 ∧ 1 ≤ (2 : Int) ^ N := by
      have a := Nat.pow_le_pow_right (n := 2) (by decide) hN
      have b : 0 < 2 ^ N := Nat.pow_pos (by decide)
      have e : ((2 ^ N : Nat) : Int) = (2 : Int) ^ N := by simp
      omega
    refine ⟨⟨by omega, by omega⟩, fun q => ⟨fun z => by omega, fun _ => ?_⟩, fun q => hret _ _ (K1 ⟨0, by omega, (pC_all hN hD).mp q⟩ σ Fr.rfl' hT (fun _ _ => rfl) (fun hLe => absurd ((pC_all hN hD).mp q) (hLe.2 0 (by omega))))⟩
    -- the lowest that is left
    have hne : ∃ i, i < N ∧ pC N D i = true := by
      by_cases z : ∃ i, i < N ∧ pC N D i = true
      · exact z
      · refine absurd ((pC_all hN hD).mpr (fun i => ?_)) q
        cases w : pC N D i with
        | false => rfl
        | true => exact absurd ⟨i, (pC_iff.mp w).1, w⟩ z
    obtain ⟨s, s1, s2, s3⟩ := fb_first hne
    have slow : ∀ j, j < s → pC N D j = false := fun j hj => by
      have := s3 j hj
      simpa using this
    refine c_isHopeless (d := e') hN hI hT hD ⟨by omega, by omega⟩ (fun hop => ⟨fun z => by omega, fun _ => hret _ _ (K0 hop σ Fr.rfl' hT)⟩) ⟨fun _ => ?_, fun z => absurd rfl z⟩
    have ht : ∀ i, i < 32 → tb (bXor (D : Int) (-1)) i = !tb (D : Int) i := fun i hi => tb_not _ hi
    refine c_lowest (d := e') (k := s) ⟨?_, (r32_xor _ _).2⟩ (by omega) (by rw [ht s (by omega), (pC_iff.mp s2).2]; rfl) (fun j hj => ?_) ⟨⟨by omega, by omega⟩, ?_⟩
    · have h1 := (r32_xor (D : Int) (-1)).1
      by_cases z : bXor (D : Int) (-1) = -2147483648
      · have w := ht 20 (by decide)
        rw [z, D_hi hN hD (by omega) (by decide)] at w
        exact absurd w (by decide)
      · omega
    · rw [ht j (by omega)]
      have w := slow j hj
      cases z : tb (D : Int) j with
      | true => rfl
      | false => rw [pC_iff.mpr ⟨by omega, z⟩] at w; cases w
    obtain ⟨st, hst, hDn, hst9⟩ := hLs
    obtain ⟨hle, hle2, qs, a1, a2, a3⟩ := hDn s s1
    rw [Int.toNat_natCast, hst s (by omega)]
    -- a DUTY that fits begins at s, and stands in the row
    have atS : ∀ δ : DT, L δ → fitP (pC N D) δ → δ.1 = (s : Int) := fun δ h f => by
      have r := hrg δ h
      have w := f.1 _ (inD_1 r)
      have r1 := r.1
      by_cases z : δ.1 < (s : Int)
      · rw [slow _ (by omega)] at w; cases w
      · by_cases z' : (s : Int) < δ.1
        · rw [f.2 s z'] at s2; cases s2
        · omega
    have inR : ∀ δ : DT, L δ → fitP (pC N D) δ → ∃ i, st s ≤ i ∧ i < st (s + 1) ∧ qs i = δ := fun δ h f => a3 δ (atS δ h f) h (key_rng hN (hrg δ h)).2
    have loop : ∀ m i : Nat, i + m = st (s + 1) → st s ≤ i → ∀ σ1 : St, Fr [27] σ σ1 → TF σ1 L N → (∀ i', st s ≤ i' → i' < i → fitP (pC N D) (qs i') → ∀ j, j ≤ k → ¬ Pt L j (subD (pC N D) (qs i'))) → R 49 [vR 5, vI D, vI ((k + 1 : Nat) : Int), vI all, vI s, vI i, vN] [] σ1 := by
      intro m
      induction m with
      | zero =>
        intro i hi hlo σ1 f1 hT1 hno
        refine g_X5_doesAll_49 hM D ((k + 1 : Nat) : Int) all s i σ1 ⟨⟨by omega, by omega⟩, ⟨by omega, by omega⟩, ?_⟩
        rw [show ((s : Int) + 1).toNat = s + 1 by omega, f1.at (k := 26) (by decide), hst (s + 1) (by omega)]
        refine ⟨fun _ => ?_, fun z => by omega⟩
        have nob : ∀ j, j ≤ k + 1 → ¬ Pt L j (pC N D) := fun j hj z => by
          cases j with
          | zero => rw [z s] at s2; cases s2
          | succ j =>
            obtain ⟨δ, b1, b2, b3⟩ := z
            obtain ⟨i', c1, c2, c3⟩ := inR δ b1 b2
            rw [← c3] at b2 b3
            exact hno i' c1 (by omega) b2 j (by omega) b3
        refine c_noteTooFew hD' (by omega) (fun σ' f2 n1 n2 => hret _ _ (K0 nob σ' (f1.tr f2) (fun D2 hD2 h0 j hj => ?_)))
        by_cases z : D2 = D
        · rw [z, n1] at hj
          rw [z]
          exact nob j (by omega)
        · rw [n2 D2 z] at h0 hj
          exact hT1 D2 hD2 h0 j hj
      | succ m ihm =>
        intro i hi hlo σ1 f1 hT1 hno
        obtain ⟨b1, b2, b3, b4⟩ := a1 i hlo (by omega)
        have rq := hrg _ b2
        refine g_X5_doesAll_49 hM D ((k + 1 : Nat) : Int) all s i σ1 ⟨⟨by omega, by omega⟩, ⟨by omega, by omega⟩, ?_⟩
        rw [show ((s : Int) + 1).toNat = s + 1 by omega, f1.at (k := 26) (by decide), hst (s + 1) (by omega), Int.toNat_natCast, f1.at (k := 25) (by decide), b4]
        have next : ∀ σ2 : St, Fr [27] σ σ2 → TF σ2 L N → (fitP (pC N D) (qs i) → ∀ j, j ≤ k → ¬ Pt L j (subD (pC N D) (qs i))) → r32 ((i : Int) + 1) ∧ R 49 [vR 5, vI D, vI ((k + 1 : Nat) : Int), vI all, vI s, vI ((i : Int) + 1), vN] [] σ2 := fun σ2 f2 hT2 hx => by
          refine ⟨⟨by omega, by omega⟩, ?_⟩
          rw [show ((i : Int) + 1) = ((i + 1 : Nat) : Int) by omega]
          refine ihm (i + 1) (by omega) (by omega) σ2 f2 hT2 (fun i' c1 c2 => ?_)
          by_cases z : i' = i
          · rw [z]; exact hx
          · exact hno i' c1 (by omega)
        refine ⟨fun z => by omega, fun _ => ⟨⟨by omega, by omega⟩, fun z => next σ1 f1 hT1 (fun w => absurd ((pC_dis hN hD rq).mpr w.1) z), fun z => ⟨⟨by omega, by omega⟩, ?_⟩⟩⟩
        have fit : fitP (pC N D) (qs i) := ⟨(pC_dis hN hD rq).mp z, fun j hj => slow j (by rw [b1] at hj; omega)⟩
        obtain ⟨D2, o1, o2, o3⟩ := pC_or hN hD rq
        rw [o1, show (((k + 1 : Nat) : Int) - 1) = (k : Int) by omega]
        refine ih (e' + 1) (by omega) σ1 D2 (hI.fr (f1.mono (by decide))) hT1 o2 all (by omega) hall _ (fun hs σ2 f2 hT2 hc hq => ⟨fun w => by omega, fun _ => ⟨⟨by omega, by omega⟩, ⟨by omega, by omega⟩, fun τ1 t1 => hret _ _ ?_⟩⟩) (fun hs σ2 f2 hT2 => ⟨fun _ => next σ2 (f1.tr f2) hT2 (fun _ j hj w => hs j hj (by rw [o3]; exact w)), fun w => absurd rfl w⟩)
        have ix : ((all : Int) - ((k + 1 : Nat) : Int)).toNat = all - (k + 1) := by omega
        rw [ix] at t1
        have g28 : τ1.1 28 = uf (σ2.1 28) (all - (k + 1)) (pkD (qs i)) := by rw [t1, sI_s]
        obtain ⟨j, j1, j2⟩ := hs
        rw [o3] at j2 hq
        refine K1 ⟨j + 1, by omega, qs i, b2, fit, j2⟩ τ1 ?_ ?_ (fun i' hi' => ?_) (fun hLe => ?_)
        · rw [t1]; exact ((f1.mono (by decide)).tr f2).put (by decide)
        · intro D3 h3; rw [t1, sI_2]; exact hT2 D3 h3
        · rw [g28, uf_n (by omega), hc i' (by omega), f1.at (by decide)]
        · have dn := hLe.dn b2 fit j2 j1
          obtain ⟨q', r1, r2⟩ := hq dn.2
          refine ⟨fun n => match n with | 0 => qs i | n + 1 => q' n, ⟨⟨b2, fit, dn.2.1, fun δ y1 y2 y3 => ?_⟩, r1⟩, fun n hn => ?_⟩
          · obtain ⟨i', c1, c2, c3⟩ := inR δ y1 y2
            show keyD (qs i) ≤ keyD δ
            by_cases w : i' < i
            · rw [← c3] at y2 y3
              exact absurd y3 (hno i' c1 w y2 k (Nat.le_refl _))
            · by_cases w2 : i' = i
              · rw [← c3, w2]; exact Int.le_refl _
              · have := a2 i i' hlo (by omega) c2
                rw [c3] at this
                omega
          · cases n with
            | zero => rw [g28]; exact uf_s _ _ _
            | succ n =>
              rw [g28, uf_n (by omega), show all - (k + 1) + (n + 1) = all - k + n by omega]
              exact r2 n (by omega)
    exact loop (st (s + 1) - st s) (st s) (by omega) (Nat.le_refl _) σ Fr.rfl' hT (fun i' c1 c2 => by omega)
end Does
