def Dn (A : Nat → Int) (st : Nat → Nat) (L : DT → Prop) (N s : Nat) : Prop := ∀ s', s' < s → st s' ≤ st (s' + 1) ∧ st (s' + 1) ≤ st s ∧ LSp A L s' (st s') (st (s' + 1)) (400 * (N : Int))
def LSt (σ : St) (L : DT → Prop) (N : Nat) : Prop := ∃ st : Nat → Nat, (∀ s, s ≤ N → σ.1 26 s = (st s : Int)) ∧ Dn (σ.1 25) st L N N ∧ st N ≤ 1079
def LI (σ0 σ : St) (N s hi : Nat) (st : Nat → Nat) : Prop :=
  Fr [5, 25, 26] σ0 σ ∧ (∀ c, c ≠ 6 → c ≠ 7 → σ.1 5 c = σ0.1 5 c) ∧ (∀ s', s' ≤ s → σ.1 26 s' = (st s' : Int)) ∧ σ.1 5 6 = (hi : Int) ∧ st s ≤ hi ∧ Dn (σ.1 25) st (LDX σ0 N) N s ∧
  ∀ i, i < 32 → (tb (σ.1 5 7) i = true ↔ i < s + 1 ∧ ¬ pce N (σ0.1 29) ((i : Int) - 1) i)
theorem Dn.keep {A A' : Nat → Int} {st : Nat → Nat} {L : DT → Prop} {N s : Nat} (h : Dn A st L N s) (e : ∀ i, i < st s → A' i = A i) : Dn A' st L N s := by
  intro s' hs
  obtain ⟨h1, h2, h3⟩ := h s' hs
  exact ⟨h1, h2, h3.keep (fun i _ hi => e i (by omega))⟩
section Lawf
variable {G : GX} {d : Nat} {σ : St} {N : Nat} {Q : Int → St → Prop}
theorem c_listLawful (hB : XB σ) (hS : SX σ N) (hN : N ≤ 12)
    (K1 : ∀ σ', Fr [5, 25, 26] σ σ' → (∀ c, c ≠ 6 → c ≠ 7 → σ'.1 5 c = σ.1 5 c) → LSt σ' (LDX σ N) N → (∀ i, i < N → (tb (σ'.1 5 7) i = true ↔ ¬ pce N (σ.1 29) ((i : Int) - 1) i)) → Q 1 σ')
    (K0 : ∀ (σ' : St) (s : Nat), Fr [5, 25, 26] σ σ' → (∀ c, c ≠ 6 → c ≠ 7 → σ'.1 5 c = σ.1 5 c) → s < N → ¬ LDX σ N ((s : Int), (s : Int), -1, -1) → Q 0 σ') : conI G wdX (d + 5) mX5_listLawful [vR 5] σ Q := by
  refine conI.of (ls0 := [vR 5, vN, vN]) rfl rfl (Nat.le_of_ble_eq_true rfl) (fun Ret R hret hM => g_X5_listLawful_0 hM σ (fun κ1 k1 κ2 k2 => ?_))
  have hrg : ∀ δ : DT, LDX σ N δ → rgD N δ := fun δ h => h.1.rg
  have hW := gwX_r hB hS
  -- the loop over first SEGMENTS
  have outer : ∀ m s : Nat, s + m = N → ∀ (σ1 : St) (st : Nat → Nat), Fr [5, 25, 26] σ σ1 → (∀ c, c ≠ 6 → c ≠ 7 → σ1.1 5 c = σ.1 5 c) → (∀ s', s' < s → σ1.1 26 s' = (st s' : Int)) → σ1.1 5 6 = (st s : Int) → Dn (σ1.1 25) st (LDX σ N) N s → st s + rP4 (N - s) ≤ 1079 →
      (∀ i, i < 32 → (tb (σ1.1 5 7) i = true ↔ i < s ∧ ¬ pce N (σ.1 29) ((i : Int) - 1) i)) → R 12 [vR 5, vI s, vN] [] σ1 := by
    intro m
    induction m with
    | zero =>
      intro s hs σ1 st f1 h5 h26 h56 hD hP hH
      have e65 : σ1.1 6 5 = (N : Int) := by rw [f1.at (by decide)]; exact hS.1
      have e : s = N := by omega
      subst e
      refine g_X5_listLawful_12 hM s σ1 ⟨fun _ => ⟨by omega, fun τ1 t1 => hret _ _ (K1 τ1 ?_ ?_ ⟨st, fun s' hs' => ?_, ?_, by omega⟩ (fun i hi => ?_))⟩, fun q => by omega⟩
      · rw [t1]; exact f1.put (by decide)
      · intro c a b; rw [t1, sI_n _ (by decide)]; exact h5 c a b
      · rw [t1, sI_s, e65, Int.toNat_natCast]
        by_cases q : s' = s
        · rw [q, uf_s]; exact h56
        · rw [uf_n q]; exact h26 s' (by omega)
      · rw [t1, sI_n _ (by decide)]; exact hD
      · rw [t1, sI_n _ (by decide), hH i (by omega)]
        exact ⟨fun q => q.2, fun q => ⟨hi, q⟩⟩
    | succ m ih =>
      intro s hs σ1 st f1 h5 h26 h56 hD hP hH
      have e65 : σ1.1 6 5 = (N : Int) := by rw [f1.at (by decide)]; exact hS.1
      have eP4 : rP4 (N - s) = rP4 (N - s - 1) + rP3 (N - s) := by
        have : N - s = (N - s - 1) + 1 := by omega
        rw [this]; rfl
      -- behind the loop over last SEGMENTS
      have ex : ∀ (σ2 : St) (hi : Nat), LI σ σ2 N s hi st → hi + rP4 (N - s - 1) ≤ 1079 → LSp (σ2.1 25) (LDX σ N) s (st s) hi (400 * (N : Int)) → ((0 ≤ (s : Int) ∧ (s : Int) < 13) ∧ ((¬ (σ2.1 5 6) = (σ2.1 26 ((s : Int)).toNat) → (r32 ((s : Int) + 1) ∧ R 12 [vR 5, vI ((s : Int) + 1), vN] [] σ2)) ∧ ((σ2.1 5 6) = (σ2.1 26 ((s : Int)).toNat) → Ret (some (vI 0)) σ2))) := by
        intro σ2 hi hI hP2 hL
        obtain ⟨g1, g5, g26, g56, gh, gD, gH⟩ := hI
        refine ⟨by omega, fun _ => ⟨⟨by omega, by omega⟩, ?_⟩, fun q => hret _ _ (K0 σ2 s g1 g5 (by omega) (fun z => ?_))⟩
        · rw [show ((s : Int) + 1) = ((s + 1 : Nat) : Int) by omega]
          have es : ∀ i, i ≤ s → (if i ≤ s then st i else hi) = st i := fun i hi' => if_pos hi'
          refine ih (s + 1) (by omega) σ2 (fun i => if i ≤ s then st i else hi) g1 g5 (fun s' hs' => ?_) ?_ (fun s' hs' => ?_) ?_ gH
          · try dsimp only
            rw [es s' (by omega)]
            exact g26 s' (by omega)
          · try dsimp only
            rw [if_neg (by omega)]
            exact g56
          · try dsimp only
            rw [es s' (by omega), if_neg (show ¬ s + 1 ≤ s by omega)]
            by_cases q : s' = s
            · subst q
              rw [if_neg (show ¬ s' + 1 ≤ s' by omega)]
              exact ⟨gh, Nat.le_refl _, hL⟩
            · rw [es (s' + 1) (by omega)]
              obtain ⟨z1, z2, z3⟩ := gD s' (by omega)
              exact ⟨z1, by omega, z3⟩
          · try dsimp only
            rw [if_neg (show ¬ s + 1 ≤ s by omega), show N - (s + 1) = N - s - 1 by omega]
            exact hP2
        · rw [Int.toNat_natCast, g56, g26 s (Nat.le_refl _)] at q
          obtain ⟨qq, a1, a2, a3⟩ := hL
          obtain ⟨i, b1, b2, b3⟩ := a3 _ rfl z (key_rng hN (hrg _ z)).2
          omega
      have eloop : ∀ m' e : Nat, e + m' = N → s ≤ e → ∀ (σ2 : St) (hi : Nat), LI σ σ2 N s hi st → hi + rP3 (N - e) + rP4 (N - s - 1) ≤ 1079 → LSp (σ2.1 25) (LDX σ N) s (st s) hi (400 * (e : Int)) → R 61 [vR 5, vI s, vI e] [] σ2 := by
        intro m'
        induction m' with
        | zero =>
          intro e he hse σ2 hi hI hP2 hL
          have e65' : σ2.1 6 5 = (N : Int) := by rw [hI.1.at (by decide)]; exact hS.1
          have e : e = N := by omega
          subst e
          exact g_X5_listLawful_61 hM s e σ2 ⟨fun _ => ex σ2 hi hI (by omega) hL, fun q => by omega⟩
        | succ m' ih' =>
          intro e he hse σ2 hi hI hP2 hL
          have e65' : σ2.1 6 5 = (N : Int) := by rw [hI.1.at (by decide)]; exact hS.1
          have hB2 : XB σ2 := hB.frame hI.1 (by decide)
          have hS2 : SX σ2 N := hS.fr hI.1 (by decide)
          have eL : LDX σ2 N = LDX σ N := LDX.fr hI.1 (by decide) N
          have e29 : σ2.1 29 = σ.1 29 := hI.1.at (by decide)
          have eP3 : rP3 (N - e) = rP3 (N - e - 1) + (1 + rP2 (N - e - 1)) := by
            have : N - e = (N - e - 1) + 1 := by omega
            rw [this]; rfl
          -- nothing more begins with s
          have stop : ¬ LDX σ N ((s : Int), (e : Int), -1, -1) → LSp (σ2.1 25) (LDX σ N) s (st s) hi (400 * (N : Int)) := fun hn => hL.skip (by omega) (fun δ a b c => by
            have r := hrg δ b
            have hbe : (e : Int) ≤ δ.2.1 := by
              unfold rgD at r
              unfold keyD at c
              omega
            have z := b.first hS.2 hW (e := (e : Int)) (by omega) hbe
            rw [a] at z
            exact absurd z hn)
          refine g_X5_listLawful_61 hM s e σ2 ⟨fun q => by omega, fun _ => ?_⟩
          refine c_X6_isPiece (d := d + 3) hS2 s e (fun pc => ⟨fun z => by omega, fun _ => ?_⟩) (fun pc => ⟨fun _ => ex σ2 hi hI (by omega) (stop (fun z => pc (by rw [e29]; exact z.1.1))), fun z => absurd rfl z⟩)
          refine c_brokenByOne (d := d + 2) hB2 hS2 (a := s) (b := e) (by omega) (by omega) ⟨fun z => ?_, fun z => ex σ2 hi hI (by omega) (stop (fun y => z ?_))⟩
          · have hδ : LDX σ N ((s : Int), (e : Int), -1, -1) := by
              rw [← eL]
              exact ⟨⟨pc, Or.inl ⟨rfl, rfl⟩⟩, fun _ => z, fun y => absurd rfl y⟩
            obtain ⟨g1, g5, g26, g56, gh, gD, gH⟩ := hI
            refine c_X5_bits (by omega) hse (c_X5_packed _ _ _ _ (c_X5_list g56 (by omega) _ (fun σ3 f3 w25 w5 => ?_)))
            have ad := hL.add (δ := ((s : Int), (e : Int), -1, -1)) (A' := σ3.1 25) gh hδ rfl (by unfold keyD; dsimp only; omega) (by rw [pkD1]; exact w25) (fun δ' a b c => by
              have r := hrg δ' b
              obtain ⟨d1, d2, d3, d4⟩ := δ'
              unfold rgD at r
              unfold keyD at c
              dsimp only at *
              have q1 : d2 = (e : Int) := by omega
              have q2 : d3 = -1 := by omega
              have q3 : d4 = -1 := by omega
              rw [a, q1, q2, q3])
            have f13 : Fr [5, 25, 26] σ σ3 := g1.tr (f3.mono (by decide))
            have eL3 : LDX σ3 N = LDX σ N := LDX.fr f13 (by decide) N
            refine conV.of (ls0 := [vR 5, vI s, vI e, vN, vN]) rfl rfl (Nat.le_of_ble_eq_true rfl) (fun Ret' R' hret' hM' => g_X5_listSeconds_0 hM' s e σ3 ⟨⟨by omega, by omega⟩, ?_⟩)
            rw [show ((e : Int) + 1) = ((e + 1 : Nat) : Int) by omega]
            refine seconds (d := d) hM' σ3 (hB.frame f13 (by decide)) (hS.fr f13 (by decide)) hN (s := s) (e := e) (lo := st s) (by rw [f3.at (by decide)]; exact pc) (rP3 (N - e - 1) + rP4 (N - s - 1)) (fun σ4 hi4 f4 h45 h456 h4l h4lo h4P h4L => hret' _ ⟨⟨by omega, by omega⟩, ?_⟩) m' (e + 1) (by omega) (by omega) σ3 (hi + 1) Fr.rfl' (fun _ _ => rfl) (by rw [w5, uf_s]) (fun _ _ => rfl) (by omega) (by rw [show N - (e + 1) = N - e - 1 by omega]; omega) ?_
            · rw [eL3] at h4L
              refine ih' (e + 1) (by omega) (by omega) σ4 hi4 ⟨f13.tr (f4.mono (by decide)), fun c a b => by rw [h45 c a, w5, uf_n a, g5 c a b], fun s' hs' => by rw [f4.at (by decide), f3.at (by decide)]; exact g26 s' hs', h456, h4lo, (gD.keep (A' := σ4.1 25) (fun i hi' => by rw [h4l i hi', w25, uf_n (by omega)])), fun i hi' => by rw [h45 7 (by decide), w5, uf_n (by decide)]; exact gH i hi'⟩ ?_ ?_
              · rw [show N - (e + 1) = N - e - 1 by omega]; omega
              · rw [show 400 * (((e + 1 : Nat)) : Int) = 400 * ((e : Int) + 1) by omega]; exact h4L
            · rw [eL3]
              refine ad.skip (by omega) (fun δ a b c => ?_)
              have r := hrg δ b
              unfold rgD at r
              unfold keyD at c ⊢
              rcases Int.lt_trichotomy δ.2.1 (e : Int) with q1 | q1 | q1 <;> omega
          · rw [← eL] at y
            exact y.2.1 rfl
      -- start[s], the head, the loop
      refine g_X5_listLawful_12 hM s σ1 ⟨fun q => by omega, fun _ => ⟨by omega, fun τ2 t2 => ⟨⟨by omega, by omega⟩, ?_⟩⟩⟩
      rw [Int.toNat_natCast] at t2
      have f2 : Fr [5, 25, 26] σ τ2 := by rw [t2]; exact f1.put (by decide)
      have b5 : τ2.1 5 = σ1.1 5 := by rw [t2, sI_n _ (by decide)]
      have b25 : τ2.1 25 = σ1.1 25 := by rw [t2, sI_n _ (by decide)]
      have b26 : ∀ s', s' ≤ s → τ2.1 26 s' = (st s' : Int) := fun s' hs' => by
        rw [t2, sI_s]
        by_cases q : s' = s
        · rw [q, uf_s]; exact h56
        · rw [uf_n q]; exact h26 s' (by omega)
      have start : LSp (σ1.1 25) (LDX σ N) s (st s) (st s) (400 * (s : Int)) := LSp.none _ (fun δ a b => by
        have r := hrg δ b
        unfold rgD at r
        unfold keyD
        omega)
      have e29 : τ2.1 29 = σ.1 29 := f2.at (by decide)
      refine c_X6_isPiece (d := d + 3) (hS.fr f2 (by decide)) _ _ (fun pc => ⟨fun _ => ?_, fun z => by omega⟩) (fun pc => ⟨fun z => absurd rfl z, fun _ τ3 t3 => ?_⟩)
      · rw [e29] at pc
        refine eloop (m + 1) s (by omega) (Nat.le_refl _) τ2 (st s) ⟨f2, fun c a b => by rw [b5]; exact h5 c a b, b26, by rw [b5]; exact h56, Nat.le_refl _, by rw [b25]; exact hD, fun i hi => ?_⟩ (by omega) (by rw [b25]; exact start)
        rw [b5, hH i hi]
        constructor
        · rintro ⟨q1, q2⟩; exact ⟨by omega, q2⟩
        · rintro ⟨q1, q2⟩
          have : i ≠ s := fun e => q2 (by rw [e]; exact pc)
          exact ⟨by omega, q2⟩
      · rw [e29] at pc
        have c5 : τ3.1 5 = uf (σ1.1 5) 7 (bOr (σ1.1 5 7) (bShl 1 (s : Int))) := by rw [t3, sI_s, b5]
        have c25 : τ3.1 25 = σ1.1 25 := by rw [t3, sI_n _ (by decide), b25]
        have c26 : τ3.1 26 = τ2.1 26 := by rw [t3, sI_n _ (by decide)]
        refine eloop (m + 1) s (by omega) (Nat.le_refl _) τ3 (st s) ⟨by rw [t3]; exact f2.put (by decide), fun c a b => by rw [c5, uf_n b]; exact h5 c a b, fun s' hs' => by rw [c26]; exact b26 s' hs', by rw [c5, uf_n (by decide)]; exact h56, Nat.le_refl _, by rw [c25]; exact hD, fun i hi => ?_⟩ (by omega) (by rw [c25]; exact start)
        rw [c5, uf_s, tb_put _ (by omega) hi, Bool.or_eq_true, decide_eq_true_eq, hH i hi]
        constructor
        · rintro (⟨q1, q2⟩ | q1)
          · exact ⟨by omega, q2⟩
          · rw [q1]; exact ⟨by omega, pc⟩
        · rintro ⟨q1, q2⟩
          by_cases e : i = s
          · exact Or.inr e
          · exact Or.inl ⟨by omega, q2⟩
  have u5 : κ2.1 5 = uf (uf (σ.1 5) 6 0) 7 0 := by rw [k2, sI_s, k1, sI_s]
  refine outer N 0 (by omega) κ2 (fun _ => 0) (by rw [k2, k1]; exact (Fr.one (by decide)).put (by decide)) (fun c a b => by rw [u5, uf_n b, uf_n a]) (fun s' hs' => by omega) (by rw [u5]; rfl) (fun s' hs' => by omega) (by have := rP4_le N (by omega); rw [Nat.sub_zero]; omega) (fun i hi => ?_)
  rw [u5, uf_s, tb_0]
  exact ⟨fun q => by (cases q), fun q => by omega⟩
end Lawf
