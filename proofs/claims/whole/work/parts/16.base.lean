/-! ===== contracts: WAYS, trips, laws, small reads ===== -/
section Base
variable {G : GX} {d : Nat} {σ : St} {Q : Int → St → Prop}
theorem c_X8_minutesOf (a b : Int) (ha : 0 ≤ a ∧ a < 12) (hb : 0 ≤ b ∧ b < 12) (k : Q (σ.1 38 (a * 12 + b).toNat) σ) : conI G wdX (d + 1) mX8_minutesOf [vR 8, vI a, vI b] σ Q := by
  refine conI.of (ls0 := [vR 8, vI a, vI b]) rfl rfl (Nat.le_of_ble_eq_true rfl) (fun Ret R hret hM => g_X8_minutesOf_0 hM a b σ ?_)
  refine c_isPlace _ (fun _ => ⟨fun h => by omega, fun _ => c_isPlace _ (fun _ => ⟨fun h => by omega, fun _ => ⟨⟨by omega, by omega⟩, ⟨by omega, by omega⟩, ⟨by omega, by omega⟩, hret _ _ k⟩⟩) (fun h => absurd hb h)⟩) (fun h => absurd ha h)
theorem c_X8_priceOf (a b : Int) (ha : 0 ≤ a ∧ a < 12) (hb : 0 ≤ b ∧ b < 12) (k : Q (σ.1 39 (a * 12 + b).toNat) σ) : conI G wdX (d + 1) mX8_priceOf [vR 8, vI a, vI b] σ Q := by
  refine conI.of (ls0 := [vR 8, vI a, vI b]) rfl rfl (Nat.le_of_ble_eq_true rfl) (fun Ret R hret hM => g_X8_priceOf_0 hM a b σ ?_)
  refine c_isPlace _ (fun _ => ⟨fun h => by omega, fun _ => c_isPlace _ (fun _ => ⟨fun h => by omega, fun _ => ⟨⟨by omega, by omega⟩, ⟨by omega, by omega⟩, ⟨by omega, by omega⟩, hret _ _ k⟩⟩) (fun h => absurd hb h)⟩) (fun h => absurd ha h)
theorem c_X8_isRelief (p : Int) (hp : 0 ≤ p ∧ p < 12) (k1 : ¬ σ.1 40 p.toNat = 0 → Q 1 σ) (k0 : σ.1 40 p.toNat = 0 → Q 0 σ) : conI G wdX (d + 1) mX8_isRelief [vR 8, vI p] σ Q := by
  refine conI.of (ls0 := [vR 8, vI p]) rfl rfl (Nat.le_of_ble_eq_true rfl) (fun Ret R hret hM => g_X8_isRelief_0 hM p σ ?_)
  refine c_isPlace _ (fun _ => ⟨fun h => by omega, fun _ => ⟨hp, fun h => hret _ _ (k0 h), fun h => hret _ _ (k1 h)⟩⟩) (fun h => absurd hp h)
/-- what way() takes -/
abbrev wayOk (a b m p : Int) : Prop := (0 ≤ a ∧ a < 12) ∧ (0 ≤ b ∧ b < 12) ∧ ¬ a = b ∧ (-1 ≤ m ∧ m ≤ 600) ∧ (0 ≤ p ∧ p ≤ 1000)
theorem c_X8_put (a b m p : Int) (k1 : wayOk a b m p → Q 1 (sI (sI σ 38 (a * 12 + b).toNat m) 39 (a * 12 + b).toNat p)) (k0 : ¬ wayOk a b m p → Q 0 σ) : conI G wdX (d + 1) mX8_put [vR 8, vI a, vI b, vI m, vI p] σ Q := by
  refine conI.of (ls0 := [vR 8, vI a, vI b, vI m, vI p]) rfl rfl (Nat.le_of_ble_eq_true rfl) (fun Ret R hret hM => g_X8_put_0 hM a b m p σ ?_)
  refine c_isPlace _ (fun h1 => ⟨fun h => by omega, fun _ => c_isPlace _ (fun h2 => ⟨fun h => by omega, fun _ => ⟨fun h3 => c_within _ _ _ (fun h4 => ⟨fun h => by omega, fun _ => c_within _ _ _ (fun h5 => ⟨fun _ => ⟨⟨by omega, by omega⟩, ⟨by omega, by omega⟩, ⟨by omega, by omega⟩, fun τ1 e1 τ2 e2 => ?_⟩, fun h => by omega⟩) (fun h => ⟨fun q => by omega, fun _ => hret _ _ (k0 (fun q => h q.2.2.2.2))⟩)⟩) (fun h => ⟨fun _ => hret _ _ (k0 (fun q => h q.2.2.2.1)), fun q => by omega⟩), fun h => hret _ _ (k0 (fun q => q.2.2.1 h))⟩⟩) (fun h => ⟨fun _ => hret _ _ (k0 (fun q => h q.2.1)), fun q => by omega⟩)⟩) (fun h => ⟨fun _ => hret _ _ (k0 (fun q => h q.1)), fun q => by omega⟩)
  subst e1; subst e2
  exact hret _ _ (k1 ⟨h1, h2, h3, h4, h5⟩)
theorem c_X8_putRelief (p v : Int) (hv : v = 0 ∨ v = 1) (k1 : 0 ≤ p ∧ p < 12 → Q 1 (sI σ 40 p.toNat v)) (k0 : ¬ (0 ≤ p ∧ p < 12) → Q 0 σ) : conI G wdX (d + 1) mX8_putRelief [vR 8, vI p, vI v] σ Q := by
  refine conI.of (ls0 := [vR 8, vI p, vI v]) rfl rfl (Nat.le_of_ble_eq_true rfl) (fun Ret R hret hM => g_X8_putRelief_0 hM p v σ ?_)
  refine c_isPlace _ (fun h1 => ⟨fun _ => ⟨h1, hv, fun τ1 e1 => ?_⟩, fun h => by omega⟩) (fun h => ⟨fun q => by omega, fun _ => hret _ _ (k0 h)⟩)
  subst e1
  exact hret _ _ (k1 h1)
abbrev tripOk (σ : St) (a b x y : Int) : Prop := σ.1 7 4 < 16 ∧ (0 ≤ a ∧ a < 12) ∧ (0 ≤ b ∧ b < 12) ∧ 0 ≤ x ∧ x < y ∧ y ≤ 2879
theorem c_X7_add (a b x y : Int) (hc : 0 ≤ σ.1 7 4) (k1 : tripOk σ a b x y → Q 1 (sI (sI (sI (sI (sI σ 34 (σ.1 7 4).toNat a) 35 (σ.1 7 4).toNat b) 36 (σ.1 7 4).toNat x) 37 (σ.1 7 4).toNat y) 7 4 (σ.1 7 4 + 1))) (k0 : ¬ tripOk σ a b x y → Q 0 σ) : conI G wdX (d + 1) mX7_add [vR 7, vI a, vI b, vI x, vI y] σ Q := by
  refine conI.of (ls0 := [vR 7, vI a, vI b, vI x, vI y]) rfl rfl (Nat.le_of_ble_eq_true rfl) (fun Ret R hret hM => g_X7_add_0 hM a b x y σ ?_)
  refine ⟨fun h => hret _ _ (k0 (fun q => by omega)), fun h0 => c_isPlace _ (fun h1 => ⟨fun h => by omega, fun _ => c_isPlace _ (fun h2 => ⟨fun _ => ⟨fun h => hret _ _ (k0 (fun q => by omega)), fun h3 => ⟨fun h => hret _ _ (k0 (fun q => by omega)), fun h4 => ⟨fun h5 => ⟨⟨by omega, by omega⟩, fun τ1 e1 => ?_⟩, fun h => hret _ _ (k0 (fun q => by omega))⟩⟩⟩, fun h => by omega⟩) (fun h => ⟨fun q => by omega, fun _ => hret _ _ (k0 (fun q => h q.2.2.1))⟩)⟩) (fun h => ⟨fun _ => hret _ _ (k0 (fun q => h q.2.1)), fun q => by omega⟩)⟩
  have t1 : τ1.1 7 4 = σ.1 7 4 := by rw [e1]; simp [sI]
  rw [t1]
  refine ⟨⟨by omega, by omega⟩, fun τ2 e2 => ?_⟩
  have t2 : τ2.1 7 4 = σ.1 7 4 := by rw [e2]; simp [sI, t1]
  rw [t2]
  refine ⟨⟨by omega, by omega⟩, fun τ3 e3 => ?_⟩
  have t3 : τ3.1 7 4 = σ.1 7 4 := by rw [e3]; simp [sI, t2]
  rw [t3]
  refine ⟨⟨by omega, by omega⟩, fun τ4 e4 => ?_⟩
  have t4 : τ4.1 7 4 = σ.1 7 4 := by rw [e4]; simp [sI, t3]
  rw [t4]
  refine ⟨⟨by omega, by omega⟩, fun τ5 e5 => ?_⟩
  rw [e5, e4, e3, e2, e1]
  exact hret _ _ (k1 ⟨by omega, h1, h2, by omega, h5, by omega⟩)
end Base
