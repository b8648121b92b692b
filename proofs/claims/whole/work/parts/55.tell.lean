/-! ===== THE ROSTER is told ===== -/
def RX (σ : St) : Prop := ∃ N, SX σ N ∧ ((12 < N ∧ σ.1 5 8 = -2) ∨ (N ≤ 12 ∧ ((σ.1 5 8 = -1 ∧ ∀ j, ¬ Pt (LDX σ N) j (pC N 0)) ∨ ∃ k : Nat, σ.1 5 8 = (k : Int) ∧ LeK (LDX σ N) (pC N 0) k ∧ ∃ q, Rst (LDX σ N) k (pC N 0) q ∧ ∀ i, i < k → σ.1 28 i = pkD (q i))))
theorem RX.fr {S : List Nat} {σ σ' : St} (h : RX σ) (f : Fr S σ σ') (ho : offL S) (h28 : 28 ∉ S) (h5 : σ'.1 5 8 = σ.1 5 8) : RX σ' := by
  obtain ⟨N, h1, h2⟩ := h
  refine ⟨N, h1.fr f ho, ?_⟩
  rw [LDX.fr f ho, h5, f.at h28]
  exact h2
section Tell
variable {G : GX} {d : Nat} {σ : St} {N : Nat} {L : DT → Prop}
theorem fillL2 {wd : List CD} {Ret : Option AV → St → Prop} {R : Nat → List AV → List AV → St → Prop} (hM : AM G wd d mJ7_fill_d0a16 Ret R) {a n : Nat} (ha : wd[a]? = some (.inr (1, n))) (hn : n < 2147483648) (v : Int64) (σ0 : St)
    (k : ∀ σ', Fr [a] σ0 σ' → (∀ j, j < n → σ'.2 a j = v) → Ret none σ') :
    ∀ m i : Nat, i + m = n → ∀ σ : St, Fr [a] σ0 σ → (∀ j, j < i → σ.2 a j = v) → R 6 [vR a, vL v, vN, vI i, vI (n : Int)] [] σ := by
  intro m
  induction m with
  | zero =>
    intro i hi σ h1 h2
    refine g_J7_fill_d0a16_6 hM v i n ha hn σ ⟨fun _ => k σ h1 (fun j hj => h2 j (by omega)), fun h => by omega⟩
  | succ m ih =>
    intro i hi σ h1 h2
    refine g_J7_fill_d0a16_6 hM v i n ha hn σ ⟨fun h => by omega, fun h => ⟨⟨by omega, by omega⟩, fun τ1 e1 => ⟨⟨by omega, by omega⟩, ?_⟩⟩⟩
    have e : ((i : Int) + 1) = ((i + 1 : Nat) : Int) := by omega
    rw [e]
    rw [Int.toNat_natCast] at e1
    refine ih (i + 1) (by omega) τ1 (by rw [e1]; exact h1.putL (List.mem_singleton.mpr rfl)) (fun j hj => ?_)
    rw [e1]
    by_cases q : j = i
    · simp [sL, q]
    · simp [sL, q]; exact h2 j (by omega)
theorem nib_0 {M : Nat → Int64} (h : ∀ j, j < 256 → M j = 0) {D : Nat} (hD : D < 4096) : nib M D = 0 := by
  refine tb_ext (r32_and _ _) ⟨by omega, by omega⟩ (fun i hi => ?_)
  rw [nib_tb _ _ hi, h _ (by omega), tb_0]
  have : lb 0 (4 * (D % 16) + i) = false := by
    unfold lb
    exact BitVec.getLsbD_zero
  rw [this, Bool.and_false]
theorem c_fewest {Q : Int → St → Prop} (hN : N ≤ 12) (hI : RI σ N L) (K : ∀ (r : Int) (σ' : St), Fr [27, 28] σ σ' → ((r = -1 ∧ ∀ j, ¬ Pt L j (pC N 0)) ∨ ∃ k : Nat, r = (k : Int) ∧ LeK L (pC N 0) k ∧ ∃ q, Rst L k (pC N 0) q ∧ ∀ i, i < k → σ'.1 28 i = pkD (q i)) → Q r σ') : conI G wdX (d + 15) mX5_fewest [vR 5] σ Q := by
  refine conI.of (ls0 := [vR 5, vN]) rfl rfl (Nat.le_of_ble_eq_true rfl) (fun Ret R hret hM => g_X5_fewest_0 hM σ ?_)
  refine conV.of (ls0 := [vR 27, vL 0, vN, vN, vN]) rfl rfl (Nat.le_of_ble_eq_true rfl) (fun Ret' R' hret' hM' => g_J7_fill_d0a16_0 hM' 0 (a := 27) (n := 256) rfl (by decide) σ ?_)
  refine fillL2 hM' (a := 27) (n := 256) rfl (by decide) 0 σ (fun σ1 f1 h0 => hret' _ ?_) 256 0 (by omega) σ Fr.rfl' (fun j hj => by omega)
  have hrg : ∀ δ : DT, L δ → rgD N δ := fun δ h => by rw [← hI.2.2.1] at h; exact h.1.rg
  have hT1 : TF σ1 L N := fun D hD h _ _ => by rw [nib_0 h0 (D_12 hN hD)] at h; omega
  have loop : ∀ m k : Nat, k + m = N + 1 → ∀ σ2 : St, Fr [27] σ σ2 → TF σ2 L N → (∀ j, j < k → ¬ Pt L j (pC N 0)) → R 10 [vR 5, vI k] [] σ2 := by
    intro m
    induction m with
    | zero =>
      intro k hk σ2 f2 hT2 hno
      have e65 : σ2.1 6 5 = (N : Int) := by rw [f2.at (by decide)]; exact hI.2.1.1
      refine g_X5_fewest_10 hM k σ2 ⟨fun _ => hret _ _ (K _ σ2 (f2.mono (by decide)) (Or.inl ⟨rfl, fun j z => ?_⟩)), fun z => by omega⟩
      have a := Pt.le hrg z
      have b := fb_ct_le (pC N 0) N
      exact hno j (by omega) z
    | succ m ih =>
      intro k hk σ2 f2 hT2 hno
      have e65 : σ2.1 6 5 = (N : Int) := by rw [f2.at (by decide)]; exact hI.2.1.1
      refine g_X5_fewest_10 hM k σ2 ⟨fun z => by omega, fun _ => ?_⟩
      refine c_doesAll hN k (d + 14) (by omega) σ2 0 (hI.fr (f2.mono (by decide))) hT2 (Nat.pow_pos (by decide)) k (Nat.le_refl _) (by omega) _ (fun hs σ3 f3 hT3 _ hq => ⟨fun z => by omega, fun _ => hret _ _ (K _ σ3 ((f2.mono (by decide)).tr f3) (Or.inr ⟨k, rfl, ?_⟩))⟩) (fun hs σ3 f3 hT3 => ⟨fun _ => ⟨⟨by omega, by omega⟩, ?_⟩, fun z => absurd rfl z⟩)
      · obtain ⟨j, j1, j2⟩ := hs
        have ej : j = k := by
          by_cases z : j = k
          · exact z
          · exact absurd j2 (hno j (by omega))
        subst ej
        have hLe : LeK L (pC N 0) j := ⟨j2, hno⟩
        obtain ⟨q, q1, q2⟩ := hq hLe
        refine ⟨hLe, q, q1, fun i hi => ?_⟩
        have := q2 i hi
        rw [show j - j + i = i by omega] at this
        exact this
      · rw [show ((k : Int) + 1) = ((k + 1 : Nat) : Int) by omega]
        exact ih (k + 1) (by omega) σ3 (f2.tr f3) hT3 (fun j hj => hs j (by omega))
  exact loop (N + 1) 0 (by omega) σ1 f1 hT1 (fun j hj => by omega)
theorem c_X5_tell {Q : Int → St → Prop} (hB : XB σ) (hS : SX σ N) (h59 : σ.1 5 9 = 0 ∨ σ.1 5 9 = 1) (hR : σ.1 5 9 = 1 → RX σ) (K : ∀ σ', Fr [5, 25, 26, 27, 28] σ σ' → σ'.1 5 9 = 1 → RX σ' → Q (σ'.1 5 8) σ') : conI G wdX (d + 16) mX5_tell [vR 5] σ Q := by
  refine conI.of (ls0 := [vR 5]) rfl rfl (Nat.le_of_ble_eq_true rfl) (fun Ret R hret hM => g_X5_tell_0 hM σ ?_)
  refine ⟨fun q => hret _ _ (K σ Fr.rfl' (by omega) (hR (by omega))), fun q τ1 t1 τ2 t2 => ?_⟩
  have f2 : Fr [5, 25, 26, 27, 28] σ τ2 := by rw [t2, t1]; exact (Fr.one (by decide)).put (by decide)
  have f2' : Fr [5] σ τ2 := by rw [t2, t1]; exact (Fr.one (by decide)).put (by decide)
  have hS2 : SX τ2 N := hS.fr f2 (by decide)
  have hB2 : XB τ2 := hB.frame f2 (by decide)
  have c8 : τ2.1 5 8 = -1 := by rw [t2, sI_s, uf_s]
  have c9 : τ2.1 5 9 = 1 := by rw [t2, sI_s, uf_n (by decide), t1, sI_s, uf_s]
  have hS3 := hS2.1
  refine ⟨fun q12 => ?_, fun q12 τ4 t4 => hret _ _ ?_⟩
  · have hN : N ≤ 12 := by omega
    refine c_listLawful (d := d + 10) hB2 hS2 hN (fun σ1 f1 h5 hL hH => ⟨fun z => by omega, fun _ => ?_⟩) (fun σ1 s f1 h5 hs hno => ⟨fun _ => hret _ _ (K σ1 (f2.tr (f1.mono (by decide))) (by rw [h5 9 (by decide) (by decide)]; exact c9) ?_), fun z => absurd rfl z⟩)
    · have hI : RI σ1 N (LDX τ2 N) := ⟨hB2.frame f1 (by decide), hS2.fr f1 (by decide), LDX.fr f1 (by decide) N, hL, by rw [f1.at (k := 29) (by decide)]; exact hH⟩
      refine c_fewest (d := d) hN hI (fun r σ2 f3 hr τ3 t3 => hret _ _ ?_)
      have f13 : Fr [5, 25, 26, 27, 28] τ2 τ3 := by rw [t3]; exact ((f1.mono (by decide)).tr (f3.mono (by decide))).put (by decide)
      have e8 : τ3.1 5 8 = r := by rw [t3, sI_s, uf_s]
      refine K τ3 (f2.tr f13) (by rw [t3, sI_s, uf_n (by decide), f3.at (by decide), h5 9 (by decide) (by decide)]; exact c9) ⟨N, hS2.fr f13 (by decide), Or.inr ⟨hN, ?_⟩⟩
      rw [LDX.fr f13 (by decide), e8, show τ3.1 28 = σ2.1 28 by rw [t3, sI_n _ (by decide)]]
      rcases hr with w | w
      · exact Or.inl w
      · exact Or.inr w
    · refine ⟨N, hS2.fr f1 (by decide), Or.inr ⟨hN, Or.inl ⟨by rw [h5 8 (by decide) (by decide)]; exact c8, fun j z => hno ?_⟩⟩⟩
      rw [LDX.fr f1 (by decide)] at z
      obtain ⟨δ, y1, y2⟩ := Pt.has (s := s) z (pC_iff.mpr ⟨hs, tb_0 _⟩)
      exact y1.alone hS2.2 (gwX_r hB2 hS2) y2
  · have f4 : Fr [5, 25, 26, 27, 28] τ2 τ4 := by rw [t4]; exact Fr.one (by decide)
    exact K τ4 (f2.tr f4) (by rw [t4, sI_s, uf_n (by decide)]; exact c9) ⟨N, hS2.fr f4 (by decide), Or.inl ⟨by omega, by rw [t4, sI_s, uf_s]⟩⟩
theorem c_endAt {Q : Int → St → Prop} (v : Int) {a : Int} (K1 : bAnd (bShr v a) 15 = 15 → Q (-1) σ) (K0 : ¬ bAnd (bShr v a) 15 = 15 → Q (bAnd (bShr v a) 15) σ) : conI G wdX d mX5_endAt [vI v, vI a] σ Q := by
  refine conI.of (ls0 := [vI v, vI a, vN]) rfl rfl (Nat.le_of_ble_eq_true rfl) (fun Ret R hret hM => g_X5_endAt_0 hM v a σ ⟨fun q => hret _ _ (K0 q), fun q => hret _ _ (K1 q)⟩)
/-- DUTY i of the class and of the model -/
def DR (x m : St) (k : Nat) (q : Nat → DT) : Prop := ∀ i, i < k → rgD 12 (q i) ∧ x.1 28 i = pkD (q i) ∧ m.1 18 (4 * i) = (q i).1 ∧ m.1 18 (4 * i + 1) = (q i).2.1 ∧ m.1 18 (4 * i + 2) = (q i).2.2.1 ∧ m.1 18 (4 * i + 3) = (q i).2.2.2
def RR (x m : St) : Prop := (x.1 5 9 = 0 ∧ m.1 0 25 = 0) ∨ (x.1 5 9 = 1 ∧ x.1 9 7 = 1 ∧ RX x ∧ ((x.1 5 8 < 0 ∧ m.1 0 25 = 0) ∨ ∃ (k : Nat) (q : Nat → DT), k ≤ 12 ∧ x.1 5 8 = (k : Int) ∧ m.1 0 25 = (k : Int) ∧ DR x m k q))
theorem RR.step {x m x' m' : St} (h : RR x m) (s : Stq x m x' m') : RR x' m' := by
  rcases s with s | ⟨s1, s2, s3, s4⟩
  · exact Or.inl s
  · rcases h with h | ⟨h1, h2, h3, h4⟩
    · exact Or.inl ⟨by rw [s1]; exact h.1, by rw [s2]; exact h.2⟩
    · obtain ⟨w1, w2⟩ := s4 h2
      refine Or.inr ⟨by rw [s1]; exact h1, w1, h3.fr w2 (by decide) (by decide) (by rw [s1]), ?_⟩
      rcases h4 with z | ⟨k, q, z1, z2, z3, z4⟩
      · exact Or.inl ⟨by rw [s1]; exact z.1, by rw [s2]; exact z.2⟩
      · refine Or.inr ⟨k, q, z1, by rw [s1]; exact z2, by rw [s2]; exact z3, fun i hi => ?_⟩
        rw [w2.at (by decide), s3]
        exact z4 i hi
theorem p_duty {e : Nat} {x m : St} (h : Bas x m) (hR : RR x m) (i w : Int) : conI G wdX (d + 3) mX9_duty [vR 9, vI i, vI w] x (fun r x' => conI G wdM (e + 1) mX10_duty [vR 0, vI i, vI w] m (fun r' m' => r' = r ∧ Bas x' m' ∧ RR x' m')) := by
  refine conI.of (ls0 := [vR 9, vI i, vI w]) rfl rfl (Nat.le_of_ble_eq_true rfl) (fun Ret R hret hMx => g_X9_duty_0 hMx i w x ?_)
  have h25 : 0 ≤ m.1 0 25 ∧ m.1 0 25 ≤ 12 := by
    rcases hR with z | ⟨_, _, _, z | ⟨k, q, z1, z2, z3, z4⟩⟩ <;> omega
  have mm : ∀ r : Int, ((0 ≤ i ∧ i < m.1 0 25) → (0 ≤ w ∧ w ≤ 3) → r = m.1 18 (4 * i + w).toNat) → (¬ ((0 ≤ i ∧ i < m.1 0 25) ∧ (0 ≤ w ∧ w ≤ 3)) → r = -1) → conI G wdM (e + 1) mX10_duty [vR 0, vI i, vI w] m (fun r' m' => r' = r ∧ Bas x m' ∧ RR x m') := fun r k1 k0 => by
    refine conI.of (ls0 := [vR 0, vI i, vI w]) rfl rfl (Nat.le_of_ble_eq_true rfl) (fun Ret' R' hret' hMm => g_X10_duty_0 hMm i w m ⟨⟨by omega, by omega⟩, ?_⟩)
    have fin : ∀ v : Int, r = v → Ret' (some (vI v)) m := fun v q => hret' _ _ ⟨q.symm, h, hR⟩
    refine c_M_in (d := e) _ _ _ (fun q1 => ⟨fun z => by omega, fun _ => c_M_in (d := e) _ _ _ (fun q2 => ⟨fun z => by omega, fun _ => ⟨⟨by omega, by omega⟩, ⟨by omega, by omega⟩, ⟨by omega, by omega⟩, fin _ (k1 (by omega) (by omega))⟩⟩) (fun q2 => ⟨fun _ => fin _ (k0 (fun z => q2 z.2)), fun z => absurd rfl z⟩)⟩) (fun q1 => ⟨fun _ => fin _ (k0 (fun z => q1 (by omega))), fun z => absurd rfl z⟩)
  have no : ¬ (0 ≤ i ∧ i < m.1 0 25) → Ret (some (vI (-1))) x := fun z => hret _ _ (mm _ (fun y => absurd y z) (fun _ => rfl))
  refine conI.of (ls0 := [vR 5, vI i, vI w, vN]) rfl rfl (Nat.le_of_ble_eq_true rfl) (fun Ret' R' hret' hM' => g_X5_of_0 hM' i w x ?_)
  rcases hR with z | ⟨z9, _, _, z8 | ⟨k, q, z1, z2, z3, z4⟩⟩
  · exact ⟨fun _ => hret' _ _ (no (by omega)), fun y => absurd z.1 y⟩
  · exact ⟨fun y => by omega, fun _ => ⟨fun y => hret' _ _ (no (by omega)), fun y => ⟨fun _ => hret' _ _ (no (by omega)), fun y' => by omega⟩⟩⟩
  · refine ⟨fun y => by omega, fun _ => ⟨fun y => hret' _ _ (no (by omega)), fun y => ⟨fun y' => hret' _ _ (no (by omega)), fun y' => ⟨fun _ => ⟨by omega, ?_⟩, fun y2 => by omega⟩⟩⟩⟩
    obtain ⟨r1, r2, r3, r4, r5, r6⟩ := z4 i.toNat (by omega)
    have at3 := pkD_at (Nat.le_refl 12) r1
    have rk := dk_r (Nat.le_refl 12) r1
    obtain ⟨g1, g2, g3, g4⟩ := r1
    have r1 : rgD 12 (q i.toNat) := ⟨g1, g2, g3, g4⟩
    have dk1 : (q i.toNat).2.2.1 = -1 → dk (q i.toNat).2.2.1 = 15 := fun v => if_pos v
    have dk0 : ¬ (q i.toNat).2.2.1 = -1 → dk (q i.toNat).2.2.1 = (q i.toNat).2.2.1 := fun v => if_neg v
    have dk3 : (q i.toNat).2.2.2 = -1 → dk (q i.toNat).2.2.2 = 15 := fun v => if_pos v
    have dk4 : ¬ (q i.toNat).2.2.2 = -1 → dk (q i.toNat).2.2.2 = (q i.toNat).2.2.2 := fun v => if_neg v
    rw [r2]
    have yes : ∀ (c : Nat) (r : Int), w = (c : Int) → c ≤ 3 → r = m.1 18 (4 * i.toNat + c) → Ret (some (vI r)) x := fun c r e1 e2 e3 => hret _ _ (mm _ (fun _ _ => by rw [e3, show (4 * i + w).toNat = 4 * i.toNat + c by omega]) (fun v => absurd ⟨by omega, by omega⟩ v))
    refine ⟨fun v => ?_, fun v => ?_, fun v => ?_, fun v => ?_, fun v => hret' _ _ (hret _ _ (mm _ (fun _ v' => absurd v' v) (fun _ => rfl)))⟩
    · have hb : ∀ j, j < 32 → tb (bAnd (pkD (q i.toNat)) 4095) j = inD (q i.toNat) j := fun j hj => pkD_set (Nat.le_refl 12) r1 hj
      have lt := tb_lt (r32_and (pkD (q i.toNat)) 4095) (n := 12) (by decide) (fun j h1 h2 => by rw [hb j h2]; exact inD_hi r1 h1)
      have hx := r32_and (pkD (q i.toNat)) 4095
      refine c_lowest (d := d) (k := (q i.toNat).1.toNat) ⟨by omega, hx.2⟩ (by omega) (by rw [hb _ (by omega)]; exact inD_1 r1) (fun j hj => ?_) (hret' _ _ (yes 0 _ v (by decide) ?_))
      · rw [hb j (by omega)]
        exact decide_eq_false (by omega)
      · rw [show 4 * i.toNat + 0 = 4 * i.toNat by omega, r3]
        omega
    · refine c_endAt _ (fun u => ?_) (fun u => hret' _ _ (yes 1 _ v (by decide) (by rw [r4]; exact at3.1)))
      rw [at3.1] at u
      omega
    · refine c_endAt _ (fun u => hret' _ _ (yes 2 _ v (by decide) ?_)) (fun u => hret' _ _ (yes 2 _ v (by decide) ?_))
      · rw [at3.2.1] at u
        rw [r5]
        by_cases y3 : (q i.toNat).2.2.1 = -1
        · exact y3.symm
        · rw [dk0 y3] at u; omega
      · rw [at3.2.1] at u ⊢
        rw [r5]
        by_cases y3 : (q i.toNat).2.2.1 = -1
        · exact absurd (dk1 y3) u
        · exact dk0 y3
    · refine c_endAt _ (fun u => hret' _ _ (yes 3 _ v (by decide) ?_)) (fun u => hret' _ _ (yes 3 _ v (by decide) ?_))
      · rw [at3.2.2] at u
        rw [r6]
        by_cases y3 : (q i.toNat).2.2.2 = -1
        · exact y3.symm
        · rw [dk4 y3] at u; omega
      · rw [at3.2.2] at u ⊢
        rw [r6]
        by_cases y3 : (q i.toNat).2.2.2 = -1
        · exact absurd (dk3 y3) u
        · exact dk4 y3
end Tell
