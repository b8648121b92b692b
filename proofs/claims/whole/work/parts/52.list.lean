/-! ===== lawful DUTIES are listed ===== -/
def rP2 : Nat → Nat
  | 0 => 0
  | n + 1 => rP2 n + (n + 1)
def rP3 : Nat → Nat
  | 0 => 0
  | n + 1 => rP3 n + (1 + rP2 n)
def rP4 : Nat → Nat
  | 0 => 0
  | n + 1 => rP4 n + rP3 (n + 1)
theorem rP4_le : ∀ n, n < 13 → rP4 n ≤ 1079 := by decide +kernel
/-- the rows from lo to hi: the lawful DUTIES with first SEGMENT s and a key below K, by their keys -/
def LSp (A : Nat → Int) (L : DT → Prop) (s lo hi : Nat) (K : Int) : Prop :=
  ∃ q : Nat → DT, (∀ i, lo ≤ i → i < hi → (q i).1 = (s : Int) ∧ L (q i) ∧ keyD (q i) < K ∧ A i = pkD (q i)) ∧ (∀ i i', lo ≤ i → i < i' → i' < hi → keyD (q i) < keyD (q i')) ∧ ∀ δ : DT, δ.1 = (s : Int) → L δ → keyD δ < K → ∃ i, lo ≤ i ∧ i < hi ∧ q i = δ
theorem LSp.skip {A : Nat → Int} {L : DT → Prop} {s lo hi : Nat} {K K' : Int} (h : LSp A L s lo hi K) (hle : K ≤ K') (hn : ∀ δ : DT, δ.1 = (s : Int) → L δ → K ≤ keyD δ → K' ≤ keyD δ) : LSp A L s lo hi K' := by
  obtain ⟨q, h1, h2, h3⟩ := h
  refine ⟨q, fun i a b => ?_, h2, fun δ a b c => ?_⟩
  · obtain ⟨z1, z2, z3, z4⟩ := h1 i a b
    exact ⟨z1, z2, by omega, z4⟩
  · by_cases w : keyD δ < K
    · exact h3 δ a b w
    · have := hn δ a b (by omega); omega
theorem LSp.keep {A A' : Nat → Int} {L : DT → Prop} {s lo hi : Nat} {K : Int} (h : LSp A L s lo hi K) (e : ∀ i, lo ≤ i → i < hi → A' i = A i) : LSp A' L s lo hi K := by
  obtain ⟨q, h1, h2, h3⟩ := h
  refine ⟨q, fun i a b => ?_, h2, h3⟩
  obtain ⟨z1, z2, z3, z4⟩ := h1 i a b
  exact ⟨z1, z2, z3, by rw [e i a b]; exact z4⟩
theorem LSp.add {A A' : Nat → Int} {L : DT → Prop} {s lo hi : Nat} {K : Int} (h : LSp A L s lo hi K) (hlo : lo ≤ hi) {δ : DT} (hδ : L δ) (h1 : δ.1 = (s : Int)) (hk : K = keyD δ) (hA : A' = uf A hi (pkD δ)) (inj : ∀ δ' : DT, δ'.1 = (s : Int) → L δ' → keyD δ' = keyD δ → δ' = δ) : LSp A' L s lo (hi + 1) (K + 1) := by
  obtain ⟨q, a1, a2, a3⟩ := h
  have qn : ∀ i, i ≠ hi → (if i = hi then δ else q i) = q i := fun i hi' => if_neg hi'
  have qs : (if hi = hi then δ else q hi) = δ := if_pos rfl
  refine ⟨fun i => if i = hi then δ else q i, fun i b1 b2 => ?_, fun i i' b1 b2 b3 => ?_, fun δ' b1 b2 b3 => ?_⟩
  · by_cases e : i = hi
    · subst e
      dsimp only
      rw [qs, hA, uf_s]
      exact ⟨h1, hδ, by omega, rfl⟩
    · dsimp only
      obtain ⟨z1, z2, z3, z4⟩ := a1 i b1 (by omega)
      rw [qn i e, hA, uf_n e]
      exact ⟨z1, z2, by omega, z4⟩
  · dsimp only
    rw [qn i (by omega)]
    by_cases e : i' = hi
    · subst e
      rw [qs]
      have := (a1 i b1 (by omega)).2.2.1
      omega
    · rw [qn i' e]
      exact a2 i i' b1 b2 (by omega)
  · by_cases w : keyD δ' < K
    · obtain ⟨i, c1, c2, c3⟩ := a3 δ' b1 b2 w
      refine ⟨i, c1, by omega, ?_⟩
      dsimp only
      rw [qn i (by omega)]
      exact c3
    · refine ⟨hi, hlo, by omega, ?_⟩
      dsimp only
      rw [qs]
      exact (inj δ' b1 b2 (by omega)).symm
theorem LSp.none (A : Nat → Int) {L : DT → Prop} {s lo : Nat} {K : Int} (h : ∀ δ : DT, δ.1 = (s : Int) → L δ → K ≤ keyD δ) : LSp A L s lo lo K := by
  refine ⟨fun _ => (0, 0, 0, 0), fun i a b => by omega, fun i i' a b c => by omega, fun δ a b c => ?_⟩
  have := h δ a b
  omega
abbrev LDX (σ : St) (N : Nat) : DT → Prop := LDt N (σ.1 29) (L1f (σ.1 30) (σ.1 31) (σ.1 36) (σ.1 37) (σ.1 0 0) (σ.1 0 1)) (L2f (σ.1 30) (σ.1 31) (σ.1 36) (σ.1 37) (gwX σ) (σ.1 0 0) (σ.1 0 1) (σ.1 0 2) (σ.1 0 3))
abbrev offL (S : List Nat) : Prop := 0 ∉ S ∧ 6 ∉ S ∧ 29 ∉ S ∧ 30 ∉ S ∧ 31 ∉ S ∧ 34 ∉ S ∧ 35 ∉ S ∧ 36 ∉ S ∧ 37 ∉ S ∧ 38 ∉ S
theorem LDX.fr {S : List Nat} {σ σ' : St} (f : Fr S σ σ') (h : offL S) (N : Nat) : LDX σ' N = LDX σ N := by
  obtain ⟨h0, h6, h29, h30, h31, h34, h35, h36, h37, h38⟩ := h
  have ew : gwX σ' = gwX σ := by
    funext l k
    unfold gwX wX
    rw [f.at h38, f.at h35, f.at h34, f.at h31, f.at h30]
  unfold LDX
  rw [ew, f.at h0, f.at h29, f.at h30, f.at h31, f.at h36, f.at h37]
theorem SX.fr {S : List Nat} {σ σ' : St} {N : Nat} (h : SX σ N) (f : Fr S σ σ') (ho : offL S) : SX σ' N := by
  obtain ⟨h0, h6, h29, h30, h31, h34, h35, h36, h37, h38⟩ := ho
  unfold SX at h ⊢
  rw [f.at h6, f.at h29, f.at h30, f.at h31, f.at h36, f.at h37]
  exact h
theorem gwX_r {σ : St} {N : Nat} (hB : XB σ) (h : SX σ N) : ∀ i j, i < N → j < N → -1 ≤ gwX σ i j := fun i j hi hj => by
  have a := h.2.2.1 i hi
  have b := h.2.2.1 j hj
  exact (hB.w (i := (σ.1 31 i).toNat) (j := (σ.1 30 j).toNat) (by omega) (by omega)).1
theorem pkD1 (s e : Nat) : pkD ((s : Int), (e : Int), -1, -1) = pkS (bN s e) e 15 15 := by
  unfold pkD stD dk
  dsimp only
  rw [if_pos rfl, if_pos rfl, Int.toNat_natCast, Int.toNat_natCast]
theorem pkD2 (s e f g : Nat) : pkD ((s : Int), (e : Int), (f : Int), (g : Int)) = pkS (bOr (bN s e) (bN f g)) e f g := by
  unfold pkD stD dk
  dsimp only
  rw [if_neg (by omega), if_neg (by omega), if_neg (by omega), Int.toNat_natCast, Int.toNat_natCast, Int.toNat_natCast, Int.toNat_natCast]
section Lst
variable {G : GX} {d : Nat} {σ : St} {N : Nat}
theorem c_X5_bits {Q : Int → St → Prop} {a b : Nat} (hb : b < 12) (hab : a ≤ b) (K : Q (bN a b) σ) : conI G wdX d mX5_bits [vI a, vI b] σ Q := by
  refine conI.of (ls0 := [vI a, vI b]) rfl rfl (Nat.le_of_ble_eq_true rfl) (fun Ret R hret hM => g_X5_bits_0 hM a b σ ?_)
  rw [bShl_2 b hb, bShl_1 a (by omega)]
  have r := bN_rng b hb a (by omega) hab
  have e : (2 : Int) ^ (b + 1) - 2 ^ a = bN a b := rfl
  rw [e]
  exact ⟨⟨by omega, by omega⟩, hret _ _ K⟩
theorem c_X5_packed {Q : Int → St → Prop} (S e f g : Int) (K : Q (pkS S e f g) σ) : conI G wdX d mX5_packed [vI S, vI e, vI f, vI g] σ Q := by
  refine conI.of (ls0 := [vI S, vI e, vI f, vI g]) rfl rfl (Nat.le_of_ble_eq_true rfl) (fun Ret R hret hM => g_X5_packed_0 hM S e f g σ ?_)
  exact hret _ _ K
theorem c_X5_list {Q : St → Prop} {n : Nat} (h : σ.1 5 6 = (n : Int)) (hn : n < 1079) (v : Int) (K : ∀ σ', Fr [5, 25] σ σ' → σ'.1 25 = uf (σ.1 25) n v → σ'.1 5 = uf (σ.1 5) 6 ((n + 1 : Nat) : Int) → Q σ') : conV G wdX d mX5_list [vR 5, vI v] σ Q := by
  refine conV.of (ls0 := [vR 5, vI v]) rfl rfl (Nat.le_of_ble_eq_true rfl) (fun Ret R hret hM => g_X5_list_0 hM v σ ?_)
  rw [h]
  refine ⟨fun q => by omega, fun _ => ⟨⟨by omega, by omega⟩, fun τ1 t1 => ?_⟩⟩
  have e5 : τ1.1 5 = σ.1 5 := by rw [t1, sI_n _ (by decide)]
  rw [e5, h]
  refine ⟨⟨by omega, by omega⟩, fun τ2 t2 => hret _ (K τ2 ?_ ?_ ?_)⟩
  · rw [t2, t1]; exact (Fr.one (by decide)).put (by decide)
  · rw [t2, sI_n _ (by decide), t1, sI_s, Int.toNat_natCast]
  · rw [t2, sI_s, e5]; rfl
/-- the second PIECES -/
theorem seconds {Ret : Option AV → St → Prop} {R : Nat → List AV → List AV → St → Prop} (hM : AM G wdX (d + 4) mX5_listSeconds Ret R) (σ0 : St) (hB : XB σ0) (hS : SX σ0 N) (hN : N ≤ 12) {s e lo : Nat} (hp : pce N (σ0.1 29) s e) (R0 : Nat)
    (k : ∀ (σ' : St) (hi' : Nat), Fr [5, 25] σ0 σ' → (∀ c, c ≠ 6 → σ'.1 5 c = σ0.1 5 c) → σ'.1 5 6 = (hi' : Int) → (∀ i, i < lo → σ'.1 25 i = σ0.1 25 i) → lo ≤ hi' → hi' + R0 ≤ 1079 → LSp (σ'.1 25) (LDX σ0 N) s lo hi' (400 * ((e : Int) + 1)) → Ret none σ') :
    ∀ m f : Nat, f + m = N → e < f → ∀ (σ : St) (hi : Nat), Fr [5, 25] σ0 σ → (∀ c, c ≠ 6 → σ.1 5 c = σ0.1 5 c) → σ.1 5 6 = (hi : Int) → (∀ i, i < lo → σ.1 25 i = σ0.1 25 i) → lo ≤ hi → hi + rP2 (N - f) + R0 ≤ 1079 → LSp (σ.1 25) (LDX σ0 N) s lo hi (400 * (e : Int) + 20 * ((f : Int) + 1)) → R 4 [vR 5, vI s, vI e, vI f, vN] [] σ := by
  have hrg : ∀ δ : DT, LDX σ0 N δ → rgD N δ := fun δ h => h.1.rg
  obtain ⟨hp1, hp2, hp3, hp4⟩ := hp
  intro m
  induction m with
  | zero =>
    intro f hf hef σ hi f1 h5 h56 hl hlo hP hL
    have e65 : σ.1 6 5 = (N : Int) := by rw [f1.at (by decide)]; exact hS.1
    refine g_X5_listSeconds_4 hM s e f σ ⟨fun _ => k σ hi f1 h5 h56 hl hlo (by omega) (hL.skip (by omega) (fun δ a b c => ?_)), fun q => by omega⟩
    have r := hrg δ b
    unfold rgD at r
    unfold keyD at c ⊢
    omega
  | succ m ih =>
    intro f hf hef σ hi f1 h5 h56 hl hlo hP hL
    have e65 : σ.1 6 5 = (N : Int) := by rw [f1.at (by decide)]; exact hS.1
    have eP : rP2 (N - f) = rP2 (N - f - 1) + (N - f) := by
      have : N - f = (N - f - 1) + 1 := by omega
      rw [this]; rfl
    have inner : ∀ m' g : Nat, g + m' = N → f ≤ g → ∀ (σ : St) (hi : Nat), Fr [5, 25] σ0 σ → (∀ c, c ≠ 6 → σ.1 5 c = σ0.1 5 c) → σ.1 5 6 = (hi : Int) → (∀ i, i < lo → σ.1 25 i = σ0.1 25 i) → lo ≤ hi → hi + (N - g) + rP2 (N - f - 1) + R0 ≤ 1079 → LSp (σ.1 25) (LDX σ0 N) s lo hi (400 * (e : Int) + 20 * ((f : Int) + 1) + ((g : Int) + 1)) → R 18 [vR 5, vI s, vI e, vI f, vI g] [] σ := by
      intro m'
      induction m' with
      | zero =>
        intro g hg hfg σ hi f1 h5 h56 hl hlo hP hL
        have e65 : σ.1 6 5 = (N : Int) := by rw [f1.at (by decide)]; exact hS.1
        refine g_X5_listSeconds_18 hM s e f g σ ⟨fun _ => ⟨⟨by omega, by omega⟩, ?_⟩, fun q => by omega⟩
        rw [show ((f : Int) + 1) = ((f + 1 : Nat) : Int) by omega]
        refine ih (f + 1) (by omega) (by omega) σ hi f1 h5 h56 hl hlo (by rw [show N - (f + 1) = N - f - 1 by omega]; omega) (hL.skip (by omega) (fun δ a b c => ?_))
        have r := hrg δ b
        unfold rgD at r
        unfold keyD at c ⊢
        omega
      | succ m' ih' =>
        intro g hg hfg σ hi f1 h5 h56 hl hlo hP hL
        have e65 : σ.1 6 5 = (N : Int) := by rw [f1.at (by decide)]; exact hS.1
        have hBσ : XB σ := hB.frame f1 (by decide)
        have hSσ : SX σ N := hS.fr f1 (by decide)
        have eL : LDX σ N = LDX σ0 N := LDX.fr f1 (by decide) N
        have e29 : σ.1 29 = σ0.1 29 := f1.at (by decide)
        have eg : ((g : Int) + 1) = ((g + 1 : Nat) : Int) := by omega
        have go : (∀ δ : DT, δ.1 = (s : Int) → LDX σ0 N δ → 400 * (e : Int) + 20 * ((f : Int) + 1) + ((g : Int) + 1) ≤ keyD δ → 400 * (e : Int) + 20 * ((f : Int) + 1) + ((g + 1 : Nat) : Int) + 1 ≤ keyD δ) → r32 ((g : Int) + 1) ∧ R 18 [vR 5, vI s, vI e, vI f, vI ((g : Int) + 1)] [] σ := fun hn => by
          refine ⟨⟨by omega, by omega⟩, ?_⟩
          rw [eg]
          exact ih' (g + 1) (by omega) (by omega) σ hi f1 h5 h56 hl hlo (by omega) (hL.skip (by omega) (fun δ a b c => by have := hn δ a b c; omega))
        -- only this one bears this key
        have this1 : ∀ δ : DT, δ.1 = (s : Int) → LDX σ0 N δ → keyD δ = 400 * (e : Int) + 20 * ((f : Int) + 1) + ((g : Int) + 1) → δ = ((s : Int), (e : Int), (f : Int), (g : Int)) := fun δ a b c => by
          have r := hrg δ b
          obtain ⟨d1, d2, d3, d4⟩ := δ
          unfold rgD at r
          unfold keyD at c
          dsimp only at *
          have q1 : d2 = (e : Int) := by omega
          have q2 : d3 = (f : Int) := by omega
          have q3 : d4 = (g : Int) := by omega
          rw [a, q1, q2, q3]
        have nt : ¬ LDX σ0 N ((s : Int), (e : Int), (f : Int), (g : Int)) → r32 ((g : Int) + 1) ∧ R 18 [vR 5, vI s, vI e, vI f, vI ((g : Int) + 1)] [] σ := fun hn => go (fun δ a b c => by
          by_cases w : keyD δ = 400 * (e : Int) + 20 * ((f : Int) + 1) + ((g : Int) + 1)
          · rw [this1 δ a b w] at b; exact absurd b hn
          · omega)
        refine g_X5_listSeconds_18 hM s e f g σ ⟨fun q => by omega, fun _ => ?_⟩
        refine c_X6_isPiece (d := d + 2) hSσ f g (fun pc => ⟨fun z => by omega, fun _ => ?_⟩) (fun pc => ⟨fun _ => nt (fun z => ?_), fun z => absurd rfl z⟩)
        · refine c_brokenByTwo (d := d) hBσ hSσ (a := s) (b := e) (c := f) (e := g) (by omega) (by omega) (by omega) (by omega) ⟨fun z => nt (fun y => z ?_), fun z => ?_⟩
          · rw [← eL] at y
            exact y.2.2 (show ¬ (f : Int) = -1 by omega)
          · refine c_X5_bits (by omega) (by omega) (c_X5_bits (by omega) (by omega) (c_X5_packed _ _ _ _ (c_X5_list h56 (by omega) _ (fun σ' f2 w25 w5 => ⟨⟨by omega, by omega⟩, ?_⟩))))
            have hδ : LDX σ0 N ((s : Int), (e : Int), (f : Int), (g : Int)) := by
              rw [← eL]
              refine ⟨⟨⟨hp1, hp2, hp3, ?_⟩, Or.inr ⟨show (e : Int) < (f : Int) by omega, pc⟩⟩, fun y => ?_, fun _ => z⟩
              · rw [e29]; exact hp4
              · have y' : (f : Int) = -1 := y
                omega
            rw [eg]
            refine ih' (g + 1) (by omega) (by omega) σ' (hi + 1) (f1.tr f2) (fun c hc => by rw [w5, uf_n hc, h5 c hc]) (by rw [w5, uf_s]) (fun i hi' => by rw [w25, uf_n (by omega), hl i hi']) (by omega) (by omega) ?_
            have ad := hL.add (δ := ((s : Int), (e : Int), (f : Int), (g : Int))) (A' := σ'.1 25) hlo hδ rfl rfl (by rw [pkD2]; exact w25) (fun δ' a b c => this1 δ' a b c)
            have ek : (400 * (e : Int) + 20 * ((f : Int) + 1) + ((g + 1 : Nat) : Int) + 1) = 400 * (e : Int) + 20 * ((f : Int) + 1) + ((g : Int) + 1) + 1 := by omega
            have ek2 : 400 * (e : Int) + 20 * ((f : Int) + 1) + (((g + 1 : Nat) : Int) + 1) = 400 * (e : Int) + 20 * ((f : Int) + 1) + ((g : Int) + 1) + 1 := by omega
            rw [ek2]
            exact ad
        · rcases z.1.2 with y | y
          · have y' : (f : Int) = -1 := y.1
            omega
          · exact pc (by rw [e29]; exact y.2)
    refine g_X5_listSeconds_4 hM s e f σ ⟨fun q => by omega, fun _ => inner (m + 1) f (by omega) (Nat.le_refl _) σ hi f1 h5 h56 hl hlo (by omega) (hL.skip (by omega) (fun δ a b c => ?_))⟩
    have r := hrg δ b
    unfold rgD at r
    unfold keyD at c ⊢
    rcases Int.lt_trichotomy δ.2.1 (e : Int) with q1 | q1 | q1 <;> rcases Int.lt_trichotomy δ.2.2.1 (f : Int) with q2 | q2 | q2 <;> omega
end Lst
