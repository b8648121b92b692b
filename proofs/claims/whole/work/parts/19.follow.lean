/-! ===== MAY FOLLOW: what class and model answer; its row of bits; whether it goes on ===== -/
abbrev wX (σ : St) (i j : Nat) : Int := σ.1 38 (σ.1 35 i * 12 + σ.1 34 j).toNat
abbrev pX (σ : St) (i j : Nat) : Int := σ.1 39 (σ.1 35 i * 12 + σ.1 34 j).toNat
abbrev foL (σ : St) (i j : Nat) (l : Int) : Prop := ¬ wX σ i j = -1 ∧ σ.1 37 i + wX σ i j ≤ σ.1 36 j + l
abbrev foX (σ : St) (i j : Nat) : Prop := ¬ wX σ i j = -1 ∧ σ.1 37 i + wX σ i j ≤ σ.1 36 j
abbrev wM (σ : St) (i j : Nat) : Int := σ.1 1 (12 * σ.1 5 i + σ.1 4 j).toNat
abbrev pM (σ : St) (i j : Nat) : Int := σ.1 2 (12 * σ.1 5 i + σ.1 4 j).toNat
abbrev foM (σ : St) (i j : Nat) : Prop := 0 ≤ wM σ i j ∧ σ.1 7 i + wM σ i j ≤ σ.1 6 j
/-- the class's base is in its ranges -/
def XB (σ : St) : Prop :=
  (0 ≤ σ.1 7 4 ∧ σ.1 7 4 ≤ 16) ∧
  (∀ j, j < 16 → (0 ≤ σ.1 34 j ∧ σ.1 34 j < 12) ∧ (0 ≤ σ.1 35 j ∧ σ.1 35 j < 12) ∧ (0 ≤ σ.1 36 j ∧ σ.1 36 j ≤ 2879) ∧ (0 ≤ σ.1 37 j ∧ σ.1 37 j ≤ 2879)) ∧
  (∀ j : Nat, (j : Int) < σ.1 7 4 → σ.1 36 j < σ.1 37 j) ∧
  (∀ i, i < 144 → (-1 ≤ σ.1 38 i ∧ σ.1 38 i ≤ 600) ∧ (0 ≤ σ.1 39 i ∧ σ.1 39 i ≤ 1000)) ∧
  (∀ p, p < 12 → σ.1 40 p = 0 ∨ σ.1 40 p = 1) ∧
  ((1 ≤ σ.1 0 0 ∧ σ.1 0 0 ≤ 2880) ∧ (1 ≤ σ.1 0 1 ∧ σ.1 0 1 ≤ 2880) ∧ (0 ≤ σ.1 0 2 ∧ σ.1 0 2 ≤ 600) ∧ (σ.1 0 3 = 0 ∨ σ.1 0 3 = 1))
def MB (σ : St) : Prop :=
  (0 ≤ σ.1 0 3 ∧ σ.1 0 3 ≤ 16) ∧
  (∀ j, j < 16 → (0 ≤ σ.1 4 j ∧ σ.1 4 j < 12) ∧ (0 ≤ σ.1 5 j ∧ σ.1 5 j < 12) ∧ (0 ≤ σ.1 6 j ∧ σ.1 6 j ≤ 2879) ∧ (0 ≤ σ.1 7 j ∧ σ.1 7 j ≤ 2879)) ∧
  (∀ j : Nat, (j : Int) < σ.1 0 3 → σ.1 6 j < σ.1 7 j) ∧
  (∀ i, i < 144 → (-1 ≤ σ.1 1 i ∧ σ.1 1 i ≤ 600) ∧ (0 ≤ σ.1 2 i ∧ σ.1 2 i ≤ 1000)) ∧
  (∀ p, p < 12 → σ.1 3 p = 0 ∨ σ.1 3 p = 1) ∧
  ((1 ≤ σ.1 0 8 ∧ σ.1 0 8 ≤ 2880) ∧ (1 ≤ σ.1 0 9 ∧ σ.1 0 9 ≤ 2880) ∧ (0 ≤ σ.1 0 10 ∧ σ.1 0 10 ≤ 600) ∧ (σ.1 0 11 = 0 ∨ σ.1 0 11 = 1))
/-- class and model hold the same base -/
def BR (x m : St) : Prop :=
  x.1 7 4 = m.1 0 3 ∧
  (∀ j, j < 16 → x.1 34 j = m.1 4 j ∧ x.1 35 j = m.1 5 j ∧ x.1 36 j = m.1 6 j ∧ x.1 37 j = m.1 7 j) ∧
  (∀ i, i < 144 → x.1 38 i = m.1 1 i ∧ (¬ x.1 38 i = -1 → x.1 39 i = m.1 2 i)) ∧
  (∀ p, p < 12 → x.1 40 p = m.1 3 p) ∧
  (x.1 0 0 = m.1 0 8 ∧ x.1 0 1 = m.1 0 9 ∧ x.1 0 2 = m.1 0 10 ∧ x.1 0 3 = m.1 0 11)
theorem XB.fr {σ σ' : St} (h : XB σ) (e0 : σ'.1 0 = σ.1 0) (e7 : σ'.1 7 = σ.1 7) (e34 : σ'.1 34 = σ.1 34) (e35 : σ'.1 35 = σ.1 35) (e36 : σ'.1 36 = σ.1 36) (e37 : σ'.1 37 = σ.1 37) (e38 : σ'.1 38 = σ.1 38) (e39 : σ'.1 39 = σ.1 39) (e40 : σ'.1 40 = σ.1 40) : XB σ' := by
  unfold XB
  rw [e0, e7, e34, e35, e36, e37, e38, e39, e40]
  exact h
/-- the base's cells are outside -/
abbrev offB (S : List Nat) : Prop := 0 ∉ S ∧ 7 ∉ S ∧ 34 ∉ S ∧ 35 ∉ S ∧ 36 ∉ S ∧ 37 ∉ S ∧ 38 ∉ S ∧ 39 ∉ S ∧ 40 ∉ S
theorem XB.frame {S : List Nat} {σ σ' : St} (h : XB σ) (hF : Fr S σ σ') (ho : offB S) : XB σ' :=
  h.fr (hF.at ho.1) (hF.at ho.2.1) (hF.at ho.2.2.1) (hF.at ho.2.2.2.1) (hF.at ho.2.2.2.2.1) (hF.at ho.2.2.2.2.2.1) (hF.at ho.2.2.2.2.2.2.1) (hF.at ho.2.2.2.2.2.2.2.1) (hF.at ho.2.2.2.2.2.2.2.2)
theorem foX.frame {S : List Nat} {σ σ' : St} (hF : Fr S σ σ') (ho : offB S) (i j : Nat) : foX σ' i j ↔ foX σ i j := by
  unfold foX wX
  rw [hF.at ho.2.2.1, hF.at ho.2.2.2.1, hF.at ho.2.2.2.2.1, hF.at ho.2.2.2.2.2.1, hF.at ho.2.2.2.2.2.2.1]
theorem foL_0 (σ : St) (i j : Nat) : foL σ i j 0 ↔ foX σ i j := by
  unfold foL foX; rw [Int.add_zero]
theorem XB.ix {σ : St} (h : XB σ) {i j : Nat} (hi : i < 16) (hj : j < 16) : 0 ≤ σ.1 35 i * 12 + σ.1 34 j ∧ σ.1 35 i * 12 + σ.1 34 j < 144 := by
  have h1 := (h.2.1 i hi).2.1
  have h2 := (h.2.1 j hj).1
  omega
theorem XB.w {σ : St} (h : XB σ) {i j : Nat} (hi : i < 16) (hj : j < 16) : -1 ≤ wX σ i j ∧ wX σ i j ≤ 600 := by
  have h1 := h.ix hi hj
  exact (h.2.2.2.1 _ (by omega)).1
theorem XB.p {σ : St} (h : XB σ) {i j : Nat} (hi : i < 16) (hj : j < 16) : 0 ≤ pX σ i j ∧ pX σ i j ≤ 1000 := by
  have h1 := h.ix hi hj
  exact (h.2.2.2.1 _ (by omega)).2
theorem MB.ix {σ : St} (h : MB σ) {i j : Nat} (hi : i < 16) (hj : j < 16) : 0 ≤ 12 * σ.1 5 i + σ.1 4 j ∧ 12 * σ.1 5 i + σ.1 4 j < 144 := by
  have h1 := (h.2.1 i hi).2.1
  have h2 := (h.2.1 j hj).1
  omega
theorem MB.w {σ : St} (h : MB σ) {i j : Nat} (hi : i < 16) (hj : j < 16) : -1 ≤ wM σ i j ∧ wM σ i j ≤ 600 := by
  have h1 := h.ix hi hj
  exact (h.2.2.2.1 _ (by omega)).1
theorem MB.p {σ : St} (h : MB σ) {i j : Nat} (hi : i < 16) (hj : j < 16) : 0 ≤ pM σ i j ∧ pM σ i j ≤ 1000 := by
  have h1 := h.ix hi hj
  exact (h.2.2.2.1 _ (by omega)).2
theorem BR.w {x m : St} (h : BR x m) (hx : XB x) {i j : Nat} (hi : i < 16) (hj : j < 16) : wX x i j = wM m i j := by
  have h1 := hx.ix hi hj
  have a := h.2.1 i hi
  have b := h.2.1 j hj
  unfold wX wM
  rw [← a.2.1, ← b.1, Int.mul_comm 12]
  exact (h.2.2.1 _ (by omega)).1
theorem BR.p {x m : St} (h : BR x m) (hx : XB x) {i j : Nat} (hi : i < 16) (hj : j < 16) (hw : ¬ wX x i j = -1) : pX x i j = pM m i j := by
  have h1 := hx.ix hi hj
  have a := h.2.1 i hi
  have b := h.2.1 j hj
  unfold pX pM
  rw [← a.2.1, ← b.1, Int.mul_comm 12]
  exact (h.2.2.1 _ (by omega)).2 hw
theorem BR.fo {x m : St} (h : BR x m) (hx : XB x) {i j : Nat} (hi : i < 16) (hj : j < 16) : foX x i j ↔ foM m i j := by
  have hw := hx.w hi hj
  have e := h.w hx hi hj
  have a := h.2.1 i hi
  have b := h.2.1 j hj
  unfold foX foM
  rw [← e, ← a.2.2.2, ← b.2.2.1]
  constructor
  · rintro ⟨h1, h2⟩; exact ⟨by omega, h2⟩
  · rintro ⟨h1, h2⟩; exact ⟨by omega, h2⟩
/-- nothing follows itself; who follows begins later -/
theorem foX_bg {σ : St} (h : XB σ) {i j : Nat} (hi : (i : Int) < σ.1 7 4) (hj : (j : Int) < σ.1 7 4) (hf : foX σ i j) : σ.1 36 i < σ.1 36 j := by
  have h0 := h.1
  have h1 := h.2.2.1 i hi
  have h2 := h.w (i := i) (j := j) (by omega) (by omega)
  have := hf.1
  have := hf.2
  omega
section Fol
variable {G : GX} {d : Nat} {σ : St} {Q : Int → St → Prop}
theorem c_X2_follows (i j : Nat) (l : Int) (hB : XB σ) (hi : (i : Int) < σ.1 7 4) (hj : (j : Int) < σ.1 7 4) (hl : -10000 ≤ l ∧ l ≤ 10000) (k1 : foL σ i j l → Q 1 σ) (k0 : ¬ foL σ i j l → Q 0 σ) : conI G wdX (d + 2) mX2_follows [vR 2, vI i, vI j, vI l] σ Q := by
  refine conI.of (ls0 := [vR 2, vI i, vI j, vI l, vN]) rfl rfl (Nat.le_of_ble_eq_true rfl) (fun Ret R hret hM => g_X2_follows_0 hM i j l σ ?_)
  have h0 := hB.1
  have hi' : i < 16 := by omega
  have hj' : j < 16 := by omega
  have ri := hB.2.1 i hi'
  have rj := hB.2.1 j hj'
  refine c_X7_holds _ (fun _ => ⟨fun h => by omega, fun _ => c_X7_holds _ (fun _ => ⟨fun _ => ⟨⟨by omega, by omega⟩, ⟨by omega, by omega⟩, ?_⟩, fun h => by omega⟩) (fun h => absurd ⟨by omega, hj⟩ h)⟩) (fun h => absurd ⟨by omega, hi⟩ h)
  rw [Int.toNat_natCast, Int.toNat_natCast]
  have hw := hB.w hi' hj'
  refine c_X8_minutesOf _ _ ri.2.1 rj.1 ?_
  show (wX σ i j = -1 → _) ∧ _
  refine ⟨fun h => hret _ _ (k0 (fun q => q.1 h)), fun h => ⟨⟨?_, ?_⟩, ⟨by omega, by omega⟩, fun h2 => hret _ _ (k0 (fun q => ?_)), fun h2 => hret _ _ (k1 ⟨h, ?_⟩)⟩⟩
  · show -2147483648 ≤ σ.1 37 i + wX σ i j; omega
  · show σ.1 37 i + wX σ i j < 2147483648; omega
  · have q2 := q.2; have h3 : σ.1 36 j + l < σ.1 37 i + wX σ i j := h2; omega
  · have h3 : ¬ σ.1 36 j + l < σ.1 37 i + wX σ i j := h2; omega
theorem c_M_follows (i j : Nat) (hB : MB σ) (hi : (i : Int) < σ.1 0 3) (hj : (j : Int) < σ.1 0 3) (k1 : foM σ i j → Q 1 σ) (k0 : ¬ foM σ i j → Q 0 σ) : conI G wdM d mX10_follows [vR 0, vI i, vI j] σ Q := by
  refine conI.of (ls0 := [vR 0, vI i, vI j, vN]) rfl rfl (Nat.le_of_ble_eq_true rfl) (fun Ret R hret hM => g_X10_follows_0 hM i j σ ?_)
  have h0 := hB.1
  have hi' : i < 16 := by omega
  have hj' : j < 16 := by omega
  have ri := hB.2.1 i hi'
  have rj := hB.2.1 j hj'
  have hw := hB.w hi' hj'
  rw [Int.toNat_natCast, Int.toNat_natCast]
  refine ⟨⟨by omega, by omega⟩, ⟨by omega, by omega⟩, ⟨by omega, by omega⟩, ⟨by omega, by omega⟩, fun u1 eu1 => ⟨⟨by omega, by omega⟩, ?_⟩⟩
  subst eu1
  refine ⟨fun h => hret _ _ (k0 (fun q => ?_)), fun h => ⟨⟨?_, ?_⟩, fun h2 => hret _ _ (k0 (fun q => ?_)), fun h2 => hret _ _ (k1 ⟨?_, ?_⟩)⟩⟩
  · have h' : wM σ i j < 0 := h; have := q.1; omega
  · show -2147483648 ≤ σ.1 7 i + wM σ i j; omega
  · show σ.1 7 i + wM σ i j < 2147483648; omega
  · have h' : σ.1 6 j < σ.1 7 i + wM σ i j := h2; have := q.2; omega
  · have h' : ¬ wM σ i j < 0 := h; omega
  · have h' : ¬ σ.1 6 j < σ.1 7 i + wM σ i j := h2; omega
/-- the bits of 'after' -/
def AF (σ : St) : Prop := ∀ i j : Nat, (i : Int) < σ.1 7 4 → j < 32 → (tb (σ.1 15 i) j = true ↔ ((j : Int) < σ.1 7 4 ∧ foX σ i j))
theorem tell_in {Ret : Option AV → St → Prop} {R : Nat → List AV → List AV → St → Prop} (hM : AM G wdX (d + 3) mX2_tell Ret R) (σ0 : St) (hB : XB σ0) (i : Nat) (hi : (i : Int) < σ0.1 7 4)
    (k : ∀ σ', Fr [15] σ0 σ' → (∀ c, c ≠ i → σ'.1 15 c = σ0.1 15 c) → (∀ j, j < 32 → (tb (σ'.1 15 i) j = true ↔ ((j : Int) < σ0.1 7 4 ∧ foX σ0 i j))) → R 2 [vR 2, vI ((i : Int) + 1), vN] [] σ') :
    ∀ m j : Nat, (j : Int) + m = σ0.1 7 4 → ∀ σ : St, Fr [15] σ0 σ → (∀ c, c ≠ i → σ.1 15 c = σ0.1 15 c) → (∀ b, b < 32 → (tb (σ.1 15 i) b = true ↔ (b < j ∧ foX σ0 i b))) → R 22 [vR 2, vI i, vI j] [] σ := by
  intro m
  have h16 := hB.1
  induction m with
  | zero =>
    intro j hj σ h1 h2 h3
    have ec : σ.1 7 = σ0.1 7 := h1.at (by decide)
    refine g_X2_tell_22 hM i j σ ⟨fun _ => ⟨⟨by omega, by omega⟩, k σ h1 h2 (fun b hb => ?_)⟩, fun h => ?_⟩
    · rw [h3 b hb]
      constructor
      · rintro ⟨q1, q2⟩; exact ⟨by omega, q2⟩
      · rintro ⟨q1, q2⟩; exact ⟨by omega, q2⟩
    · rw [ec] at h; omega
  | succ m ih =>
    intro j hj σ h1 h2 h3
    have ec : σ.1 7 = σ0.1 7 := h1.at (by decide)
    have hB' : XB σ := hB.frame h1 (by decide)
    have ej : ((j : Int) + 1) = ((j + 1 : Nat) : Int) := by omega
    refine g_X2_tell_22 hM i j σ ⟨fun h => ?_, fun h => ?_⟩
    · rw [ec] at h; omega
    refine c_X2_follows i j 0 hB' (by rw [ec]; exact hi) (by rw [ec]; omega) (by omega) (fun hf => ⟨fun h => by omega, fun _ => ⟨⟨by omega, by omega⟩, fun τ1 e1 => ⟨⟨by omega, by omega⟩, ?_⟩⟩⟩) (fun hf => ⟨fun _ => ⟨⟨by omega, by omega⟩, ?_⟩, fun h => by omega⟩)
    · rw [foL_0, foX.frame h1 (by decide)] at hf
      rw [ej]
      rw [Int.toNat_natCast] at e1
      refine ih (j + 1) (by omega) τ1 ?_ (fun c hc => ?_) (fun b hb => ?_)
      · rw [e1]; exact h1.put (by decide)
      · rw [e1, sI_s, uf_n hc, h2 c hc]
      · rw [e1, sI_s, uf_s, tb_or, tb_shl1 (by omega) hb, Bool.or_eq_true, h3 b hb, decide_eq_true_eq]
        constructor
        · rintro (⟨q1, q2⟩ | q1)
          · exact ⟨by omega, q2⟩
          · rw [q1]; exact ⟨by omega, hf⟩
        · rintro ⟨q1, q2⟩
          by_cases e : b = j
          · exact Or.inr e
          · exact Or.inl ⟨by omega, q2⟩
    · rw [foL_0, foX.frame h1 (by decide)] at hf
      rw [ej]
      refine ih (j + 1) (by omega) σ h1 h2 (fun b hb => ?_)
      rw [h3 b hb]
      constructor
      · rintro ⟨q1, q2⟩; exact ⟨by omega, q2⟩
      · rintro ⟨q1, q2⟩
        have e : b ≠ j := fun e => hf (by rw [← e]; exact q2)
        exact ⟨by omega, q2⟩
theorem tell_out {Ret : Option AV → St → Prop} {R : Nat → List AV → List AV → St → Prop} (hM : AM G wdX (d + 3) mX2_tell Ret R) (σ0 : St) (hB : XB σ0)
    (k : ∀ σ', Fr [15] σ0 σ' → (∀ i j : Nat, (i : Int) < σ0.1 7 4 → j < 32 → (tb (σ'.1 15 i) j = true ↔ ((j : Int) < σ0.1 7 4 ∧ foX σ0 i j))) → Ret none σ') :
    ∀ m i : Nat, (i : Int) + m = σ0.1 7 4 → ∀ σ : St, Fr [15] σ0 σ → (∀ a b : Nat, a < i → b < 32 → (tb (σ.1 15 a) b = true ↔ ((b : Int) < σ0.1 7 4 ∧ foX σ0 a b))) → R 2 [vR 2, vI i, vN] [] σ := by
  intro m
  have h16 := hB.1
  induction m with
  | zero =>
    intro i hi σ h1 h2
    have ec : σ.1 7 = σ0.1 7 := h1.at (by decide)
    refine g_X2_tell_2 hM i σ ⟨fun _ => k σ h1 (fun a b ha hb => h2 a b (by omega) hb), fun h => ?_⟩
    rw [ec] at h; omega
  | succ m ih =>
    intro i hi σ h1 h2
    have ec : σ.1 7 = σ0.1 7 := h1.at (by decide)
    refine g_X2_tell_2 hM i σ ⟨fun h => ?_, fun h => ⟨⟨by omega, by omega⟩, fun τ1 e1 => ?_⟩⟩
    · rw [ec] at h; omega
    rw [Int.toNat_natCast] at e1
    have f1 : Fr [15] σ0 τ1 := by rw [e1]; exact h1.put (by decide)
    have hBt := hB.frame f1 (by decide)
    have ect : τ1.1 7 = σ0.1 7 := f1.at (by decide)
    refine tell_in hM τ1 hBt i (by rw [ect]; omega) (fun σ' f2 q1 q2 => ?_) (σ0.1 7 4).toNat 0 (by rw [ect]; omega) τ1 Fr.rfl' (fun _ _ => rfl) (fun b hb => ?_)
    · have ei : ((i : Int) + 1) = ((i + 1 : Nat) : Int) := by omega
      rw [ei]
      refine ih (i + 1) (by omega) σ' (f1.tr f2) (fun a b ha hb => ?_)
      by_cases e : a = i
      · rw [e, q2 b hb, ect, foX.frame f1 (by decide)]
      · rw [q1 a e, e1, sI_s, uf_n e]
        exact h2 a b (by omega) hb
    · rw [e1, sI_s, uf_s, tb_0]
      constructor
      · intro h; cases h
      · rintro ⟨h, -⟩; omega
theorem c_tell {Q : St → Prop} (hB : XB σ) (k : ∀ σ', Fr [15] σ σ' → AF σ' → Q σ') : conV G wdX (d + 3) mX2_tell [vR 2] σ Q := by
  refine conV.of (ls0 := [vR 2, vN, vN]) rfl rfl (Nat.le_of_ble_eq_true rfl) (fun Ret R hret hM => g_X2_tell_0 hM σ ?_)
  have h16 := hB.1
  refine tell_out hM σ hB (fun σ' f1 q => hret _ (k σ' f1 (fun i j hi hj => ?_))) (σ.1 7 4).toNat 0 (by omega) σ Fr.rfl' (fun a b ha _ => by omega)
  have ec : σ'.1 7 = σ.1 7 := f1.at (by decide)
  rw [ec] at hi ⊢
  rw [q i j hi hj, foX.frame f1 (by decide)]
end Fol
