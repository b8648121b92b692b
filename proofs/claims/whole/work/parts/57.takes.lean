/-! ===== the model takes DUTIES in their order ===== -/
section Takes
variable {G : GX} {d : Nat} {N : Nat} {Q : Int → St → Prop}
theorem takes_gen {σ0 : St} {S : Nat} (hN : N ≤ 12) (hSM : SM σ0 N) (hS0 : 0 < S) (hS : S < 2 ^ N) (kp pl : Int) (I : Int → St → Prop) (Fin : St → Prop)
    (hI : ∀ K σ, I K σ → MT σ0 σ)
    (hskip : ∀ K K' σ, I K σ → K ≤ K' → (∀ δ : DT, posD N (σ0.1 12) δ → fitP (pS S) δ → K ≤ keyD δ → K' ≤ keyD δ) → I K' σ)
    (hone : ∀ (δ : DT) (T : Nat) (σ : St), posD N (σ0.1 12) δ → fitP (pS S) δ → T < S → pS T = subD (pS S) δ → I (keyD δ) σ → ∀ Q' : Int → St → Prop, (∀ σ', I (keyD δ + 1) σ' → Q' 0 σ') → (∀ σ', Fin σ' → Q' 1 σ') → conI G wdM (d + 2) mX10_takesOne [vR 0, vI S, vI T, vI δ.1, vI δ.2.1, vI δ.2.2.1, vI δ.2.2.2, vI kp, vI pl] σ Q')
    (h0 : I 0 σ0) (K0 : ∀ σ', I (400 * (N : Int)) σ' → Q 0 σ') (K1 : ∀ σ', Fin σ' → Q 1 σ') : conI G wdM (d + 3) mX10_takes [vR 0, vI S, vI kp, vI pl] σ0 Q := by
  refine conI.of (ls0 := [vR 0, vI S, vI kp, vI pl, vN, vN, vN, vN, vN]) rfl rfl (Nat.le_of_ble_eq_true rfl) (fun Ret R hret hM => g_X10_takes_0 hM S kp pl σ0 ?_)
  have hS12 := D_12 hN hS
  -- the lowest
  have hne : ∃ i, i < 32 ∧ pS S i = true := by
    by_cases z : ∃ i, i < 32 ∧ pS S i = true
    · exact z
    · have e : (S : Int) = 0 := (tb_zero ⟨by omega, by omega⟩).mpr (fun i hi => by
        cases w : tb (S : Int) i with
        | false => rfl
        | true => exact absurd ⟨i, hi, w⟩ z)
      omega
  obtain ⟨a, a1, a2, a3⟩ := fb_first hne
  have alow : ∀ j, j < a → pS S j = false := fun j hj => by
    have := a3 j hj
    simpa using this
  have aN : a < N := by
    by_cases z : a < N
    · exact z
    · rw [pS_hi hN hS (by omega)] at a2; cases a2
  have atA : ∀ δ : DT, posD N (σ0.1 12) δ → fitP (pS S) δ → δ.1 = (a : Int) := fun δ h f => by
    have r := h.rg
    have w := f.1 _ (inD_1 r)
    have r1 := r.1
    by_cases z : δ.1 < (a : Int)
    · rw [alow _ (by omega)] at w; cases w
    · by_cases z' : (a : Int) < δ.1
      · rw [f.2 a z'] at a2; cases a2
      · omega
  refine c_M_lowest a1 a2 alow ?_
  have bloop : ∀ m b : Nat, b + m = N → a ≤ b → ∀ σ : St, I (400 * (b : Int)) σ → R 10 [vR 0, vI S, vI kp, vI pl, vI a, vI b, vN, vN, vN] [] σ := by
    intro m
    induction m with
    | zero =>
      intro b hb hab σ hIσ
      have hSσ : SM σ N := hSM.mt (hI _ _ hIσ)
      refine g_X10_takes_10 hM S kp pl a b σ (c_M_isPiece (d := d + 1) hSσ a b (fun p => absurd p.2.2.1 (by omega)) (fun p => ⟨fun _ => hret _ _ (K0 σ ?_), fun z => absurd rfl z⟩))
      have e : b = N := by omega
      rw [e] at hIσ
      exact hIσ
    | succ m ih =>
      intro b hb hab σ hIσ
      have hSσ : SM σ N := hSM.mt (hI _ _ hIσ)
      have e12 : σ.1 12 = σ0.1 12 := (hI _ _ hIσ).1 12 (by decide) (by decide) (by decide)
      -- nothing more fits
      have stop : (∀ δ : DT, posD N (σ0.1 12) δ → fitP (pS S) δ → (b : Int) ≤ δ.2.1 → False) → Q 0 σ := fun hn => K0 σ (hskip _ _ _ hIσ (by omega) (fun δ y1 y2 y3 => by
        have r := y1.rg
        unfold rgD at r
        unfold keyD at y3
        exact absurd (by omega) (hn δ y1 y2)))
      refine g_X10_takes_10 hM S kp pl a b σ (c_M_isPiece (d := d + 1) hSσ a b (fun p => ⟨fun z => by omega, fun _ => ?_⟩) (fun p => ⟨fun _ => hret _ _ (stop (fun δ y1 y2 y3 => p ?_)), fun z => absurd rfl z⟩))
      · have r := bN_rng b (by omega) a (by omega) hab
        refine c_M_bits (by omega) hab (c_M_bits (by omega) hab ⟨fun q => hret _ _ (stop (fun δ y1 y2 y3 => q ?_)), fun q => c_M_bits (by omega) hab ?_⟩)
        · refine (bN_sub (by omega) hab).mpr (fun i h1 h2 => y2.1 i (inD_iff.mpr (Or.inl ⟨?_, by omega⟩)))
          rw [atA δ y1 y2]; omega
        have fa := (bN_sub (by omega) hab).mp q
        obtain ⟨T, t1, t2, t3⟩ := bN_rest hS12 (by omega) hab q
        rw [t1]
        have p1 : posD N (σ0.1 12) ((a : Int), (b : Int), -1, -1) := ⟨by rw [← e12]; exact p, Or.inl ⟨rfl, rfl⟩⟩
        have f1 : fitP (pS S) ((a : Int), (b : Int), -1, -1) := ⟨fun i hi => by
          have w := inD_iff.mp hi
          dsimp only at w
          exact fa i (by omega) (by omega), fun j hj => alow j (by have hj' : (j : Int) < (a : Int) := hj; omega)⟩
        have s1 : pS T = subD (pS S) ((a : Int), (b : Int), -1, -1) := by
          funext i
          rw [t3 i]
          unfold subD inD
          dsimp only
          congr 2
          exact decide_eq_decide.mpr (by omega)
        have ek : keyD ((a : Int), (b : Int), -1, -1) = 400 * (b : Int) := by unfold keyD; dsimp only; omega
        refine ⟨⟨by omega, by omega⟩, hone _ T σ p1 f1 t2 s1 (by rw [ek]; exact hIσ) _ (fun σ1 hI1 => ⟨fun _ => ⟨⟨by omega, by omega⟩, ?_⟩, fun z => absurd rfl z⟩) (fun σ1 hF => ⟨fun z => by omega, fun _ => hret _ _ (K1 σ1 hF)⟩)⟩
        rw [ek] at hI1
        -- the second PIECES
        have cloop : ∀ m' c : Nat, c + m' = N → b < c → ∀ σ : St, I (400 * (b : Int) + 20 * ((c : Int) + 1)) σ → R 77 [vR 0, vI S, vI kp, vI pl, vI a, vI b, vI T, vI c, vN] [] σ := by
          intro m'
          induction m' with
          | zero =>
            intro c hc hbc σ hIσ
            have hSσ : SM σ N := hSM.mt (hI _ _ hIσ)
            refine g_X10_takes_77 hM S kp pl a b T c σ ⟨fun _ => ⟨⟨by omega, by omega⟩, ?_⟩, fun z => absurd (by rw [hSσ.1]; omega) z⟩
            rw [show ((b : Int) + 1) = ((b + 1 : Nat) : Int) by omega]
            refine ih (b + 1) (by omega) (by omega) σ (hskip _ _ _ hIσ (by omega) (fun δ y1 y2 y3 => ?_))
            have r := y1.rg
            unfold rgD at r
            unfold keyD at y3 ⊢
            rcases Int.lt_trichotomy δ.2.1 (b : Int) with q1 | q1 | q1 <;> omega
          | succ m' ih' =>
            intro c hc hbc σ hIσ
            have hSσ : SM σ N := hSM.mt (hI _ _ hIσ)
            have dloop : ∀ m2 k : Nat, k + m2 = N → c ≤ k → ∀ σ : St, I (400 * (b : Int) + 20 * ((c : Int) + 1) + ((k : Int) + 1)) σ → R 90 [vR 0, vI S, vI kp, vI pl, vI a, vI b, vI T, vI c, vI k] [] σ := by
              intro m2
              induction m2 with
              | zero =>
                intro k hk hck σ hIσ
                have hSσ : SM σ N := hSM.mt (hI _ _ hIσ)
                refine g_X10_takes_90 hM S kp pl a b T c k σ (c_M_isPiece (d := d + 1) hSσ c k (fun p => absurd p.2.2.1 (by omega)) (fun p => ⟨fun _ => ⟨⟨by omega, by omega⟩, ?_⟩, fun z => absurd rfl z⟩))
                rw [show ((c : Int) + 1) = ((c + 1 : Nat) : Int) by omega]
                refine ih' (c + 1) (by omega) (by omega) σ (hskip _ _ _ hIσ (by omega) (fun δ y1 y2 y3 => ?_))
                have r := y1.rg
                unfold rgD at r
                unfold keyD at y3 ⊢
                rcases Int.lt_trichotomy δ.2.1 (b : Int) with q1 | q1 | q1 <;> rcases Int.lt_trichotomy δ.2.2.1 (c : Int) with q2 | q2 | q2 <;> omega
              | succ m2 ih2 =>
                intro k hk hck σ hIσ
                have hSσ : SM σ N := hSM.mt (hI _ _ hIσ)
                have e12 : σ.1 12 = σ0.1 12 := (hI _ _ hIσ).1 12 (by decide) (by decide) (by decide)
                have stop2 : (∀ δ : DT, posD N (σ0.1 12) δ → fitP (pS S) δ → δ.2.1 = (b : Int) → δ.2.2.1 = (c : Int) → (k : Int) ≤ δ.2.2.2 → False) → r32 ((c : Int) + 1) ∧ R 77 [vR 0, vI S, vI kp, vI pl, vI a, vI b, vI T, vI ((c : Int) + 1), vN] [] σ := fun hn => by
                  refine ⟨⟨by omega, by omega⟩, ?_⟩
                  rw [show ((c : Int) + 1) = ((c + 1 : Nat) : Int) by omega]
                  refine ih' (c + 1) (by omega) (by omega) σ (hskip _ _ _ hIσ (by omega) (fun δ y1 y2 y3 => ?_))
                  have hn' := hn δ y1 y2
                  have r := y1.rg
                  unfold rgD at r
                  unfold keyD at y3 ⊢
                  by_cases w : δ.2.1 = (b : Int) ∧ δ.2.2.1 = (c : Int) ∧ (k : Int) ≤ δ.2.2.2
                  · exact (hn' w.1 w.2.1 w.2.2).elim
                  · rcases Int.lt_trichotomy δ.2.1 (b : Int) with q1 | q1 | q1 <;> rcases Int.lt_trichotomy δ.2.2.1 (c : Int) with q2 | q2 | q2 <;> omega
                refine g_X10_takes_90 hM S kp pl a b T c k σ (c_M_isPiece (d := d + 1) hSσ c k (fun p' => ⟨fun z => by omega, fun _ => ?_⟩) (fun p' => ⟨fun _ => stop2 (fun δ y1 y2 y3 y4 y5 => p' ?_), fun z => absurd rfl z⟩))
                · have r' := bN_rng k (by omega) c (by omega) hck
                  refine c_M_bits (by omega) hck (c_M_bits (by omega) hck ⟨fun q' => stop2 (fun δ y1 y2 y3 y4 y5 => q' ?_), fun q' => c_M_bits (by omega) hck ?_⟩)
                  · refine (bN_sub (by omega) hck).mpr (fun i h1 h2 => ?_)
                    rw [t3 i, y2.1 i (inD_iff.mpr (Or.inr ⟨by omega, by omega⟩)), decide_eq_false (by omega)]
                    rfl
                  · have fc := (bN_sub (by omega) hck).mp q'
                    obtain ⟨T2, w1, w2, w3⟩ := bN_rest (by omega) (by omega) hck q'
                    rw [w1]
                    have p2 : posD N (σ0.1 12) ((a : Int), (b : Int), (c : Int), (k : Int)) := ⟨p1.1, Or.inr ⟨show (b : Int) < (c : Int) by omega, by rw [← e12]; exact p'⟩⟩
                    have f2 : fitP (pS S) ((a : Int), (b : Int), (c : Int), (k : Int)) := ⟨fun i hi => by
                      have w := inD_iff.mp hi
                      dsimp only at w
                      rcases w with w | w
                      · exact fa i (by omega) (by omega)
                      · have y := fc i (by omega) (by omega)
                        rw [t3 i, Bool.and_eq_true] at y
                        exact y.1, fun j hj => alow j (by have hj' : (j : Int) < (a : Int) := hj; omega)⟩
                    have s2 : pS T2 = subD (pS S) ((a : Int), (b : Int), (c : Int), (k : Int)) := by
                      funext i
                      rw [w3 i, t3 i]
                      unfold subD inD
                      dsimp only
                      rw [Bool.and_assoc, ← Bool.not_or, ← Bool.decide_or]
                      congr 2
                      exact decide_eq_decide.mpr (by omega)
                    have ek2 : keyD ((a : Int), (b : Int), (c : Int), (k : Int)) = 400 * (b : Int) + 20 * ((c : Int) + 1) + ((k : Int) + 1) := rfl
                    refine ⟨⟨by omega, by omega⟩, hone _ T2 σ p2 f2 (by omega) s2 (by rw [ek2]; exact hIσ) _ (fun σ1 hI1 => ⟨fun _ => ⟨⟨by omega, by omega⟩, ?_⟩, fun z => absurd rfl z⟩) (fun σ1 hF => ⟨fun z => by omega, fun _ => hret _ _ (K1 σ1 hF)⟩)⟩
                    rw [show ((k : Int) + 1) = ((k + 1 : Nat) : Int) by omega]
                    refine ih2 (k + 1) (by omega) (by omega) σ1 ?_
                    rw [ek2] at hI1
                    rw [show 400 * (b : Int) + 20 * ((c : Int) + 1) + (((k + 1 : Nat) : Int) + 1) = 400 * (b : Int) + 20 * ((c : Int) + 1) + ((k : Int) + 1) + 1 by omega]
                    exact hI1
                · rcases y1.2 with w | w
                  · omega
                  · rw [e12]
                    have := w.2.sub hSM.2 (i := (c : Int)) (j := (k : Int)) (by omega) (by omega) y5
                    exact this
            refine g_X10_takes_77 hM S kp pl a b T c σ ⟨fun z => absurd z (by rw [hSσ.1]; omega), fun _ => dloop (m' + 1) c (by omega) (Nat.le_refl _) σ (hskip _ _ _ hIσ (by omega) (fun δ y1 y2 y3 => ?_))⟩
            have r := y1.rg
            unfold rgD at r
            unfold keyD at y3 ⊢
            rcases Int.lt_trichotomy δ.2.1 (b : Int) with q1 | q1 | q1 <;> rcases Int.lt_trichotomy δ.2.2.1 (c : Int) with q2 | q2 | q2 <;> omega
        rw [show ((b : Int) + 1) = ((b + 1 : Nat) : Int) by omega]
        refine cloop m (b + 1) (by omega) (by omega) σ1 (hskip _ _ _ hI1 (by omega) (fun δ y1 y2 y3 => ?_))
        have r := y1.rg
        unfold rgD at r
        unfold keyD at y3 ⊢
        rcases Int.lt_trichotomy δ.2.1 (b : Int) with q1 | q1 | q1 <;> omega
      · rw [e12]
        have := y1.1.sub hSM.2 (i := (a : Int)) (j := (b : Int)) (by rw [atA δ y1 y2]; omega) (by omega) y3
        exact this
  refine bloop (N - a) a (by omega) (Nat.le_refl _) σ0 (hskip _ _ _ h0 (by omega) (fun δ y1 y2 y3 => ?_))
  have r := y1.rg
  have := atA δ y1 y2
  unfold rgD at r
  unfold keyD
  omega
end Takes
