/-! ===== goesOn, of class and model ===== -/
def TRn (n : Int) (fo : Nat → Nat → Prop) : Prop := ∀ i j k : Nat, (i : Int) < n → (j : Int) < n → (k : Int) < n → fo i j → fo j k → fo i k
section Goes
variable {G : GX} {d : Nat} {σ : St} {Q : Int → St → Prop}
theorem goOn_in {Ret : Option AV → St → Prop} {R : Nat → List AV → List AV → St → Prop} (hM : AM G wdX d mX2_goOn Ret R) (hB : XB σ) (hA : AF σ) (k0 : ¬ TRn (σ.1 7 4) (foX σ) → Ret (some (vI 0)) σ) (i : Nat) (hi : (i : Int) < σ.1 7 4)
    (k : (∀ b c : Nat, (b : Int) < σ.1 7 4 → (c : Int) < σ.1 7 4 → foX σ i b → foX σ b c → foX σ i c) → R 2 [vR 2, vI ((i : Int) + 1), vN, vN] [] σ) :
    ∀ m j : Nat, (j : Int) + m = σ.1 7 4 → (∀ b c : Nat, b < j → (c : Int) < σ.1 7 4 → foX σ i b → foX σ b c → foX σ i c) → R 15 [vR 2, vI i, vI j, vN] [] σ := by
  intro m
  have h16 := hB.1
  induction m with
  | zero =>
    intro j hj h
    refine g_X2_goOn_15 hM i j σ ⟨fun _ => ⟨⟨by omega, by omega⟩, k (fun b c hb hc => h b c (by omega) hc)⟩, fun q => by omega⟩
  | succ m ih =>
    intro j hj h
    have ej : ((j : Int) + 1) = ((j + 1 : Nat) : Int) := by omega
    have hb := bit1 (σ.1 15 i) (k := j) (by omega)
    have hAj := hA i j hi (by omega)
    refine g_X2_goOn_15 hM i j σ ⟨fun q => by omega, fun _ => ⟨⟨by omega, by omega⟩, ?_⟩⟩
    rw [Int.toNat_natCast, hb]
    by_cases hf : tb (σ.1 15 i) j = true
    · rw [if_pos hf]
      refine ⟨fun q => by omega, fun _ => ?_⟩
      have hfo := (hAj.mp hf).2
      refine g_X2_goOn_45 hM i j 1 σ ⟨fun q => by omega, fun _ => ⟨⟨by omega, by omega⟩, ⟨by omega, by omega⟩, ?_⟩⟩
      rw [Int.toNat_natCast, Int.toNat_natCast]
      have key : bAnd (σ.1 15 j) (bXor (σ.1 15 i) (-1)) = 0 ↔ ∀ c : Nat, (c : Int) < σ.1 7 4 → foX σ j c → foX σ i c := by
        rw [tb_zero (r32_and _ _)]
        constructor
        · intro q c hc h1
          have q1 := q c (by omega)
          rw [tb_and, tb_not _ (by omega), (hA j c (by omega) (by omega)).mpr ⟨hc, h1⟩] at q1
          have : tb (σ.1 15 i) c = true := by simpa using q1
          exact ((hA i c hi (by omega)).mp this).2
        · intro q c hc
          rw [tb_and, tb_not _ hc]
          cases e : tb (σ.1 15 j) c with
          | false => rfl
          | true =>
            have e1 := (hA j c (by omega) hc).mp e
            have e2 := (hA i c hi hc).mpr ⟨e1.1, q c e1.1 e1.2⟩
            rw [e2]; rfl
      refine ⟨fun q => ⟨⟨by omega, by omega⟩, ?_⟩, fun q => k0 (fun T => q (key.mpr (fun c hc h1 => T i j c hi (by omega) hc hfo h1)))⟩
      rw [ej]
      refine ih (j + 1) (by omega) (fun b c hb' hc h1 h2 => ?_)
      by_cases e : b = j
      · subst e; exact key.mp q c hc h2
      · exact h b c (by omega) hc h1 h2
    · rw [if_neg hf]
      refine ⟨fun _ => ?_, fun q => by omega⟩
      refine g_X2_goOn_45 hM i j 0 σ ⟨fun _ => ⟨⟨by omega, by omega⟩, ?_⟩, fun q => by omega⟩
      rw [ej]
      refine ih (j + 1) (by omega) (fun b c hb' hc h1 h2 => ?_)
      by_cases e : b = j
      · subst e; exact absurd (hAj.mpr ⟨by omega, h1⟩) hf
      · exact h b c (by omega) hc h1 h2
theorem c_goOn (hB : XB σ) (hA : AF σ) (k1 : TRn (σ.1 7 4) (foX σ) → Q 1 σ) (k0 : ¬ TRn (σ.1 7 4) (foX σ) → Q 0 σ) : conI G wdX d mX2_goOn [vR 2] σ Q := by
  refine conI.of (ls0 := [vR 2, vN, vN, vN]) rfl rfl (Nat.le_of_ble_eq_true rfl) (fun Ret R hret hM => g_X2_goOn_0 hM σ ?_)
  have h16 := hB.1
  have main : ∀ m i : Nat, (i : Int) + m = σ.1 7 4 → (∀ a b c : Nat, a < i → (b : Int) < σ.1 7 4 → (c : Int) < σ.1 7 4 → foX σ a b → foX σ b c → foX σ a c) → R 2 [vR 2, vI i, vN, vN] [] σ := by
    intro m
    induction m with
    | zero =>
      intro i hi h
      exact g_X2_goOn_2 hM i σ ⟨fun _ => hret _ _ (k1 (fun a b c ha hb hc => h a b c (by omega) hb hc)), fun q => by omega⟩
    | succ m ih =>
      intro i hi h
      refine g_X2_goOn_2 hM i σ ⟨fun q => by omega, fun _ => ?_⟩
      refine goOn_in hM hB hA (fun q => hret _ _ (k0 q)) i (by omega) (fun q => ?_) (σ.1 7 4).toNat 0 (by omega) (fun b c hb => by omega)
      have ei : ((i : Int) + 1) = ((i + 1 : Nat) : Int) := by omega
      rw [ei]
      refine ih (i + 1) (by omega) (fun a b c ha hb hc => ?_)
      by_cases e : a = i
      · subst e; exact q b c hb hc
      · exact h a b c (by omega) hb hc
  exact main (σ.1 7 4).toNat 0 (by omega) (fun a b c ha => by omega)
theorem c_M_goesOn (hB : MB σ) (k1 : TRn (σ.1 0 3) (foM σ) → Q 1 σ) (k0 : ¬ TRn (σ.1 0 3) (foM σ) → Q 0 σ) : conI G wdM (d + 1) mX10_goesOn [vR 0] σ Q := by
  refine conI.of (ls0 := [vR 0, vN, vN, vN]) rfl rfl (Nat.le_of_ble_eq_true rfl) (fun Ret R hret hM => g_X10_goesOn_0 hM σ ?_)
  have h16 := hB.1
  have inner : ∀ i j : Nat, (i : Int) < σ.1 0 3 → (j : Int) < σ.1 0 3 → ((∀ c : Nat, (c : Int) < σ.1 0 3 → foM σ i j → foM σ j c → foM σ i c) → R 12 [vR 0, vI i, vI ((j : Int) + 1), vN] [] σ) → ∀ m c : Nat, (c : Int) + m = σ.1 0 3 → (∀ b : Nat, b < c → foM σ i j → foM σ j b → foM σ i b) → R 22 [vR 0, vI i, vI j, vI c] [] σ := by
    intro i j hi hj k m
    induction m with
    | zero =>
      intro c hc h
      exact g_X10_goesOn_22 hM i j c σ ⟨fun _ => ⟨⟨by omega, by omega⟩, k (fun b hb => h b (by omega))⟩, fun q => by omega⟩
    | succ m ih =>
      intro c hc h
      have ec : ((c : Int) + 1) = ((c + 1 : Nat) : Int) := by omega
      refine g_X10_goesOn_22 hM i j c σ ⟨fun q => by omega, fun _ => ?_⟩
      have go : (foM σ i j → foM σ j c → foM σ i c) → R 22 [vR 0, vI i, vI j, vI ((c : Int) + 1)] [] σ := by
        intro q
        rw [ec]
        refine ih (c + 1) (by omega) (fun b hb => ?_)
        by_cases e : b = c
        · subst e; exact q
        · exact h b (by omega)
      refine c_M_follows i j hB hi hj (fun f1 => ⟨fun q => by omega, fun _ => ?_⟩) (fun f1 => ⟨fun _ => ⟨⟨by omega, by omega⟩, go (fun q => absurd q f1)⟩, fun q => by omega⟩)
      refine c_M_follows j c hB hj (by omega) (fun f2 => ⟨fun q => by omega, fun _ => ?_⟩) (fun f2 => ⟨fun _ => ⟨⟨by omega, by omega⟩, go (fun _ q => absurd q f2)⟩, fun q => by omega⟩)
      refine c_M_follows i c hB hi (by omega) (fun f3 => ⟨fun _ => ⟨⟨by omega, by omega⟩, go (fun _ _ => f3)⟩, fun q => by omega⟩) (fun f3 => ⟨fun q => by omega, fun _ => hret _ _ (k0 (fun T => f3 (T i j c hi hj (by omega) f1 f2)))⟩)
  have mid : ∀ i : Nat, (i : Int) < σ.1 0 3 → ((∀ b c : Nat, (b : Int) < σ.1 0 3 → (c : Int) < σ.1 0 3 → foM σ i b → foM σ b c → foM σ i c) → R 2 [vR 0, vI ((i : Int) + 1), vN, vN] [] σ) → ∀ m j : Nat, (j : Int) + m = σ.1 0 3 → (∀ b c : Nat, b < j → (c : Int) < σ.1 0 3 → foM σ i b → foM σ b c → foM σ i c) → R 12 [vR 0, vI i, vI j, vN] [] σ := by
    intro i hi k m
    induction m with
    | zero =>
      intro j hj h
      exact g_X10_goesOn_12 hM i j σ ⟨fun _ => ⟨⟨by omega, by omega⟩, k (fun b c hb hc => h b c (by omega) hc)⟩, fun q => by omega⟩
    | succ m ih =>
      intro j hj h
      refine g_X10_goesOn_12 hM i j σ ⟨fun q => by omega, fun _ => ?_⟩
      refine inner i j hi (by omega) (fun q => ?_) (σ.1 0 3).toNat 0 (by omega) (fun b hb => by omega)
      have ej : ((j : Int) + 1) = ((j + 1 : Nat) : Int) := by omega
      rw [ej]
      refine ih (j + 1) (by omega) (fun b c hb hc => ?_)
      by_cases e : b = j
      · subst e; exact q c hc
      · exact h b c (by omega) hc
  have main : ∀ m i : Nat, (i : Int) + m = σ.1 0 3 → (∀ a b c : Nat, a < i → (b : Int) < σ.1 0 3 → (c : Int) < σ.1 0 3 → foM σ a b → foM σ b c → foM σ a c) → R 2 [vR 0, vI i, vN, vN] [] σ := by
    intro m
    induction m with
    | zero =>
      intro i hi h
      exact g_X10_goesOn_2 hM i σ ⟨fun _ => hret _ _ (k1 (fun a b c ha hb hc => h a b c (by omega) hb hc)), fun q => by omega⟩
    | succ m ih =>
      intro i hi h
      refine g_X10_goesOn_2 hM i σ ⟨fun q => by omega, fun _ => ?_⟩
      refine mid i (by omega) (fun q => ?_) (σ.1 0 3).toNat 0 (by omega) (fun b c hb => by omega)
      have ei : ((i : Int) + 1) = ((i + 1 : Nat) : Int) := by omega
      rw [ei]
      refine ih (i + 1) (by omega) (fun a b c ha hb hc => ?_)
      by_cases e : a = i
      · subst e; exact q b c hb hc
      · exact h a b c (by omega) hb hc
  exact main (σ.1 0 3).toNat 0 (by omega) (fun a b c ha => by omega)
end Goes
