/-! ===== the model's base ===== -/
section MBase
variable {G : GX} {d : Nat} {σ : St} {Q : Int → St → Prop}
theorem c_M_isPlace (v : Int) (k1 : 0 ≤ v ∧ v < 12 → Q 1 σ) (k0 : ¬ (0 ≤ v ∧ v < 12) → Q 0 σ) : conI G wdM (d + 1) mX10_isPlace [vI v] σ Q := by
  refine conI.of (ls0 := [vI v]) rfl rfl (Nat.le_of_ble_eq_true rfl) (fun Ret R hret hM => g_X10_isPlace_0 hM v σ ?_)
  exact c_M_in _ _ _ (fun h => ⟨by omega, hret _ _ (k1 (by omega))⟩) (fun h => ⟨by omega, hret _ _ (k0 (by omega))⟩)
theorem c_M_isTrip (t : Int) (hc : 0 ≤ σ.1 0 3 ∧ σ.1 0 3 ≤ 16) (k1 : 0 ≤ t ∧ t < σ.1 0 3 → Q 1 σ) (k0 : ¬ (0 ≤ t ∧ t < σ.1 0 3) → Q 0 σ) : conI G wdM (d + 1) mX10_isTrip [vR 0, vI t] σ Q := by
  refine conI.of (ls0 := [vR 0, vI t]) rfl rfl (Nat.le_of_ble_eq_true rfl) (fun Ret R hret hM => g_X10_isTrip_0 hM t σ ?_)
  exact ⟨⟨by omega, by omega⟩, c_M_in _ _ _ (fun h => ⟨by omega, hret _ _ (k1 (by omega))⟩) (fun h => ⟨by omega, hret _ _ (k0 (by omega))⟩)⟩
theorem c_M_way (a b m p : Int) (k1 : wayOk a b m p → ∀ σ', Fr [0, 1, 2] σ σ' → σ'.1 1 = uf (σ.1 1) (a * 12 + b).toNat m → (∃ v, (¬ m = -1 → v = p) ∧ (m = -1 → v = 0) ∧ σ'.1 2 = uf (σ.1 2) (a * 12 + b).toNat v) → σ'.1 0 = uf (uf (σ.1 0) 13 0) 25 0 → Q 1 σ') (k0 : ¬ wayOk a b m p → Q 0 σ) : conI G wdM (d + 2) mX10_way [vR 0, vI a, vI b, vI m, vI p] σ Q := by
  refine conI.of (ls0 := [vR 0, vI a, vI b, vI m, vI p]) rfl rfl (Nat.le_of_ble_eq_true rfl) (fun Ret R hret hM => g_X10_way_0 hM a b m p σ ?_)
  refine c_M_isPlace _ (fun h1 => ⟨fun h => by omega, fun _ => c_M_isPlace _ (fun h2 => ⟨fun h => by omega, fun _ => ⟨fun h => hret _ _ (k0 (fun q => q.2.2.1 h)), fun h3 => c_M_in _ _ _ (fun h4 => ⟨fun h => by omega, fun _ => c_M_in _ _ _ (fun h5 => ⟨fun _ => ⟨⟨by omega, by omega⟩, ⟨by omega, by omega⟩, ⟨by omega, by omega⟩, fun τ1 e1 => ⟨fun hm τ2 e2 τ3 e3 τ4 e4 => ?_, fun hm τ2 e2 τ3 e3 τ4 e4 => ?_⟩⟩, fun h => by omega⟩) (fun h => ⟨fun q => by omega, fun _ => hret _ _ (k0 (fun q => h q.2.2.2.2))⟩)⟩) (fun h => ⟨fun _ => hret _ _ (k0 (fun q => h q.2.2.2.1)), fun q => by omega⟩)⟩⟩) (fun h => ⟨fun _ => hret _ _ (k0 (fun q => h q.2.1)), fun q => by omega⟩)⟩) (fun h => ⟨fun _ => hret _ _ (k0 (fun q => h q.1)), fun q => by omega⟩)
  · have ei : (12 * a + b).toNat = (a * 12 + b).toNat := by rw [Int.mul_comm]
    rw [ei] at e1 e2
    refine hret _ _ (k1 ⟨h1, h2, h3, h4, h5⟩ τ4 ?_ ?_ ⟨p, fun _ => rfl, fun h => absurd h hm, ?_⟩ ?_)
    · rw [e4, e3, e2, e1]; exact (((Fr.one (by decide)).put (by decide)).put (by decide)).put (by decide)
    · rw [e4, sI_n _ (by decide), e3, sI_n _ (by decide), e2, sI_n _ (by decide), e1, sI_s]
    · rw [e4, sI_n _ (by decide), e3, sI_n _ (by decide), e2, sI_s, e1, sI_n _ (by decide)]
    · rw [e4, sI_s, e3, sI_s, e2, sI_n _ (by decide), e1, sI_n _ (by decide)]
  · have ei : (12 * a + b).toNat = (a * 12 + b).toNat := by rw [Int.mul_comm]
    rw [ei] at e1 e2
    refine hret _ _ (k1 ⟨h1, h2, h3, h4, h5⟩ τ4 ?_ ?_ ⟨0, fun h => absurd hm h, fun _ => rfl, ?_⟩ ?_)
    · rw [e4, e3, e2, e1]; exact (((Fr.one (by decide)).put (by decide)).put (by decide)).put (by decide)
    · rw [e4, sI_n _ (by decide), e3, sI_n _ (by decide), e2, sI_n _ (by decide), e1, sI_s]
    · rw [e4, sI_n _ (by decide), e3, sI_n _ (by decide), e2, sI_s, e1, sI_n _ (by decide)]
    · rw [e4, sI_s, e3, sI_s, e2, sI_n _ (by decide), e1, sI_n _ (by decide)]
theorem c_M_relief (p v : Int) (hv : v = 0 ∨ v = 1) (k1 : 0 ≤ p ∧ p < 12 → Q 1 (sI (sI (sI σ 3 p.toNat v) 0 13 0) 0 25 0)) (k0 : ¬ (0 ≤ p ∧ p < 12) → Q 0 σ) : conI G wdM (d + 2) mX10_relief [vR 0, vI p, vI v] σ Q := by
  refine conI.of (ls0 := [vR 0, vI p, vI v]) rfl rfl (Nat.le_of_ble_eq_true rfl) (fun Ret R hret hM => g_X10_relief_0 hM p v σ ?_)
  refine c_M_isPlace _ (fun h1 => ⟨fun _ => ⟨h1, hv, fun τ1 e1 τ2 e2 τ3 e3 => ?_⟩, fun h => by omega⟩) (fun h => ⟨fun q => by omega, fun _ => hret _ _ (k0 h)⟩)
  rw [e3, e2, e1]
  exact hret _ _ (k1 h1)
abbrev tripOkM (σ : St) (a b x y : Int) : Prop := σ.1 0 3 < 16 ∧ (0 ≤ a ∧ a < 12) ∧ (0 ≤ b ∧ b < 12) ∧ 0 ≤ x ∧ x < y ∧ y ≤ 2879
theorem c_M_trip (a b x y : Int) (hc : 0 ≤ σ.1 0 3 ∧ σ.1 0 3 ≤ 16) (k1 : tripOkM σ a b x y → ∀ σ', Fr [0, 4, 5, 6, 7] σ σ' → σ'.1 4 = uf (σ.1 4) (σ.1 0 3).toNat a → σ'.1 5 = uf (σ.1 5) (σ.1 0 3).toNat b → σ'.1 6 = uf (σ.1 6) (σ.1 0 3).toNat x → σ'.1 7 = uf (σ.1 7) (σ.1 0 3).toNat y → σ'.1 0 = uf (uf (uf (σ.1 0) 3 (σ.1 0 3 + 1)) 13 0) 25 0 → Q (σ.1 0 3) σ') (k0 : ¬ tripOkM σ a b x y → Q (-1) σ) : conI G wdM (d + 2) mX10_trip [vR 0, vI a, vI b, vI x, vI y] σ Q := by
  refine conI.of (ls0 := [vR 0, vI a, vI b, vI x, vI y]) rfl rfl (Nat.le_of_ble_eq_true rfl) (fun Ret R hret hM => g_X10_trip_0 hM a b x y σ ?_)
  refine c_M_isPlace _ (fun h1 => ⟨fun h => by omega, fun _ => c_M_isPlace _ (fun h2 => ⟨fun h => by omega, fun _ => c_M_in _ _ _ (fun h3 => ⟨fun h => by omega, fun _ => ⟨⟨by omega, by omega⟩, c_M_in _ _ _ (fun h4 => ⟨fun h => by omega, fun _ => ⟨fun h5 => ⟨⟨by omega, by omega⟩, fun τ1 e1 => ?_⟩, fun h => hret _ _ (k0 (fun q => by omega))⟩⟩) (fun h => ⟨fun _ => hret _ _ (k0 (fun q => by omega)), fun q => by omega⟩)⟩⟩) (fun h => ⟨fun _ => hret _ _ (k0 (fun q => by omega)), fun q => by omega⟩)⟩) (fun h => ⟨fun _ => hret _ _ (k0 (fun q => h q.2.2.1)), fun q => by omega⟩)⟩) (fun h => ⟨fun _ => hret _ _ (k0 (fun q => h q.2.1)), fun q => by omega⟩)
  have t1 : τ1.1 0 = σ.1 0 := by rw [e1, sI_n _ (by decide)]
  rw [t1]
  refine ⟨⟨by omega, by omega⟩, fun τ2 e2 => ?_⟩
  have t2 : τ2.1 0 = σ.1 0 := by rw [e2, sI_n _ (by decide), t1]
  rw [t2]
  refine ⟨⟨by omega, by omega⟩, fun τ3 e3 => ?_⟩
  have t3 : τ3.1 0 = σ.1 0 := by rw [e3, sI_n _ (by decide), t2]
  rw [t3]
  refine ⟨⟨by omega, by omega⟩, fun τ4 e4 => ?_⟩
  have t4 : τ4.1 0 = σ.1 0 := by rw [e4, sI_n _ (by decide), t3]
  rw [t4]
  refine ⟨⟨by omega, by omega⟩, fun τ5 e5 τ6 e6 τ7 e7 => ?_⟩
  have t7 : τ7.1 0 = uf (uf (uf (σ.1 0) 3 (σ.1 0 3 + 1)) 13 0) 25 0 := by rw [e7, sI_s, e6, sI_s, e5, sI_s, t4]
  have t73 : τ7.1 0 3 = σ.1 0 3 + 1 := by rw [t7]; rfl
  rw [t73]
  refine ⟨⟨by omega, by omega⟩, ?_⟩
  have e0 : σ.1 0 3 + 1 - 1 = σ.1 0 3 := by omega
  rw [e0]
  refine hret _ _ (k1 ⟨by omega, h1, h2, by omega, by omega, by omega⟩ τ7 ?_ ?_ ?_ ?_ ?_ t7)
  · rw [e7, e6, e5, e4, e3, e2, e1]; exact ((((((Fr.one (by decide)).put (by decide)).put (by decide)).put (by decide)).put (by decide)).put (by decide)).put (by decide)
  · rw [e7, sI_n _ (by decide), e6, sI_n _ (by decide), e5, sI_n _ (by decide), e4, sI_n _ (by decide), e3, sI_n _ (by decide), e2, sI_n _ (by decide), e1, sI_s]
  · rw [e7, sI_n _ (by decide), e6, sI_n _ (by decide), e5, sI_n _ (by decide), e4, sI_n _ (by decide), e3, sI_n _ (by decide), e2, sI_s, e1, sI_n _ (by decide)]
  · rw [e7, sI_n _ (by decide), e6, sI_n _ (by decide), e5, sI_n _ (by decide), e4, sI_n _ (by decide), e3, sI_s, e2, sI_n _ (by decide), e1, sI_n _ (by decide)]
  · rw [e7, sI_n _ (by decide), e6, sI_n _ (by decide), e5, sI_n _ (by decide), e4, sI_s, e3, sI_n _ (by decide), e2, sI_n _ (by decide), e1, sI_n _ (by decide)]
def dropM (σ : St) (t : Nat) (σ' : St) : Prop := Fr [0, 4, 5, 6, 7] σ σ' ∧ σ'.1 0 = uf (uf (uf (σ.1 0) 3 (σ.1 0 3 - 1)) 13 0) 25 0 ∧ ∀ k, k = 4 ∨ k = 5 ∨ k = 6 ∨ k = 7 → σ'.1 k = shp t ((σ.1 0 3).toNat - 1) (σ.1 k)
theorem dropM_loop {Ret : Option AV → St → Prop} {R : Nat → List AV → List AV → St → Prop} (hM : AM G wdM (d + 1) mX10_drop Ret R) (σ0 : St) (t : Nat) (n : Nat) (hn : n + 1 ≤ 16)
    (k : ∀ σ', Fr [0, 4, 5, 6, 7] σ0 σ' → σ'.1 0 = uf (uf (σ0.1 0) 13 0) 25 0 → (∀ k, k = 4 ∨ k = 5 ∨ k = 6 ∨ k = 7 → σ'.1 k = shp t n (σ0.1 k)) → Ret (some (vI 1)) σ') (hc : σ0.1 0 3 = n) :
    ∀ m i : Nat, i + m = n → t ≤ i → ∀ σ : St, Fr [0, 4, 5, 6, 7] σ0 σ → σ.1 0 = σ0.1 0 → (∀ k, k = 4 ∨ k = 5 ∨ k = 6 ∨ k = 7 → σ.1 k = shp t i (σ0.1 k)) → R 22 [vR 0, vN, vI i] [] σ := by
  intro m
  induction m with
  | zero =>
    intro i hi hti σ h1 h2 h3
    have e : i = n := by omega
    subst e
    refine g_X10_drop_22 hM i σ ⟨fun _ τ1 e1 τ2 e2 => k τ2 ?_ ?_ (fun k hk => ?_), fun h => ?_⟩
    · rw [e2, e1]; exact (h1.put (by decide)).put (by decide)
    · rw [e2, sI_s, e1, sI_s, h2]
    · rw [e2, sI_n _ (by omega), e1, sI_n _ (by omega), h3 k hk]
    · rw [h2, hc] at h
      omega
  | succ m ih =>
    intro i hi hti σ h1 h2 h3
    refine g_X10_drop_22 hM i σ ⟨fun h => ?_, fun h => ⟨⟨by omega, by omega⟩, ⟨by omega, by omega⟩, ⟨by omega, by omega⟩, fun τ1 e1 τ2 e2 τ3 e3 τ4 e4 => ?_⟩⟩
    · rw [h2, hc] at h; omega
    · have ei : ((i : Int) + 1) = ((i + 1 : Nat) : Int) := by omega
      rw [ei] at e1 e2 e3 e4 ⊢
      rw [Int.toNat_natCast, Int.toNat_natCast] at e1 e2 e3 e4
      have q34 := h3 4 (by omega)
      have q35 := h3 5 (by omega)
      have q36 := h3 6 (by omega)
      have q37 := h3 7 (by omega)
      have p34 : τ4.1 4 = shp t (i + 1) (σ0.1 4) := by
        rw [e4, sI_n _ (by decide), e3, sI_n _ (by decide), e2, sI_n _ (by decide), e1, sI_s, q34, shp_a (Nat.le_succ i), shp_s hti]
      have p35 : τ4.1 5 = shp t (i + 1) (σ0.1 5) := by
        rw [e4, sI_n _ (by decide), e3, sI_n _ (by decide), e2, sI_s, e1, sI_n _ (by decide), q35, shp_a (Nat.le_succ i), shp_s hti]
      have p36 : τ4.1 6 = shp t (i + 1) (σ0.1 6) := by
        rw [e4, sI_n _ (by decide), e3, sI_s, e2, sI_n _ (by decide), e1, sI_n _ (by decide), q36, shp_a (Nat.le_succ i), shp_s hti]
      have p37 : τ4.1 7 = shp t (i + 1) (σ0.1 7) := by
        rw [e4, sI_s, e3, sI_n _ (by decide), e2, sI_n _ (by decide), e1, sI_n _ (by decide), q37, shp_a (Nat.le_succ i), shp_s hti]
      refine ih (i + 1) (by omega) (by omega) τ4 ?_ ?_ ?_
      · rw [e4, e3, e2, e1]
        exact (((h1.put (by decide)).put (by decide)).put (by decide)).put (by decide)
      · rw [e4, sI_n _ (by decide), e3, sI_n _ (by decide), e2, sI_n _ (by decide), e1, sI_n _ (by decide), h2]
      · rintro k (rfl | rfl | rfl | rfl)
        · exact p34
        · exact p35
        · exact p36
        · exact p37
theorem c_M_drop (t : Int) (hc : 0 ≤ σ.1 0 3 ∧ σ.1 0 3 ≤ 16) (k1 : 0 ≤ t ∧ t < σ.1 0 3 → ∀ σ', dropM σ t.toNat σ' → Q 1 σ') (k0 : ¬ (0 ≤ t ∧ t < σ.1 0 3) → Q 0 σ) : conI G wdM (d + 2) mX10_drop [vR 0, vI t] σ Q := by
  refine conI.of (ls0 := [vR 0, vI t, vN]) rfl rfl (Nat.le_of_ble_eq_true rfl) (fun Ret R hret hM => g_X10_drop_0 hM t σ ?_)
  refine c_M_isTrip _ hc (fun h1 => ⟨fun _ => ⟨⟨by omega, by omega⟩, fun τ1 e1 => ?_⟩, fun h => by omega⟩) (fun h => ⟨fun q => by omega, fun _ => hret _ _ (k0 h)⟩)
  have hn : σ.1 0 3 - 1 = (((σ.1 0 3).toNat - 1 : Nat) : Int) := by omega
  have et : t = (t.toNat : Int) := by omega
  have hh : τ1.1 0 3 = (((σ.1 0 3).toNat - 1 : Nat) : Int) := by rw [e1, sI_s, uf_s, hn]
  rw [et]
  refine dropM_loop hM τ1 t.toNat ((σ.1 0 3).toNat - 1) (by omega) (fun σ' f1 f2 f3 => hret _ _ (k1 h1 σ' ⟨?_, ?_, ?_⟩)) hh ((σ.1 0 3).toNat - 1 - t.toNat) t.toNat (by omega) (Nat.le_refl _) τ1 Fr.rfl' rfl (fun k _ => (shp_0 _ _).symm)
  · refine Fr.tr ?_ f1
    rw [e1]
    exact Fr.one (by decide)
  · rw [f2, e1, sI_s]
  · intro k hk
    rw [f3 k hk, e1, sI_n _ (by omega)]
abbrev canM (σ : St) (t m : Int) : Prop := (0 ≤ t ∧ t < σ.1 0 3) ∧ 0 ≤ σ.1 6 t.toNat + m ∧ σ.1 7 t.toNat + m ≤ 2879
theorem c_M_canMove (t m : Int) (hc : 0 ≤ σ.1 0 3 ∧ σ.1 0 3 ≤ 16) (hr : ∀ j, j < 16 → (0 ≤ σ.1 6 j ∧ σ.1 6 j ≤ 2879) ∧ (0 ≤ σ.1 7 j ∧ σ.1 7 j ≤ 2879)) (k1 : canM σ t m → Q 1 σ) (k0 : ¬ canM σ t m → Q 0 σ) : conI G wdM (d + 2) mX10_canMove [vR 0, vI t, vI m] σ Q := by
  refine conI.of (ls0 := [vR 0, vI t, vI m]) rfl rfl (Nat.le_of_ble_eq_true rfl) (fun Ret R hret hM => g_X10_canMove_0 hM t m σ ?_)
  refine c_M_isTrip _ hc (fun h1 => ⟨fun h => by omega, fun _ => ?_⟩) (fun h => ⟨fun _ => hret _ _ (k0 (fun q => h q.1)), fun q => by omega⟩)
  have r := hr t.toNat (by omega)
  refine c_M_in _ _ _ (fun h2 => ⟨fun h => by omega, fun _ => ⟨⟨by omega, by omega⟩, ⟨by omega, by omega⟩, fun h => hret _ _ (k0 (fun q => by omega)), fun h => ⟨⟨by omega, by omega⟩, fun h3 => hret _ _ (k0 (fun q => by omega)), fun h3 => hret _ _ (k1 ⟨h1, by omega, by omega⟩)⟩⟩⟩) (fun h => ⟨fun _ => hret _ _ (k0 (fun q => by omega)), fun q => by omega⟩)
theorem c_M_move (t m : Int) (hc : 0 ≤ σ.1 0 3 ∧ σ.1 0 3 ≤ 16) (hr : ∀ j, j < 16 → (0 ≤ σ.1 6 j ∧ σ.1 6 j ≤ 2879) ∧ (0 ≤ σ.1 7 j ∧ σ.1 7 j ≤ 2879)) (hse : ∀ j : Nat, (j : Int) < σ.1 0 3 → σ.1 6 j < σ.1 7 j) (k1 : canM σ t m → Q 1 (sI (sI (sI (sI σ 6 t.toNat (σ.1 6 t.toNat + m)) 7 t.toNat (σ.1 7 t.toNat + m)) 0 13 0) 0 25 0)) (k0 : ¬ canM σ t m → Q 0 σ) : conI G wdM (d + 3) mX10_move [vR 0, vI t, vI m] σ Q := by
  refine conI.of (ls0 := [vR 0, vI t, vI m]) rfl rfl (Nat.le_of_ble_eq_true rfl) (fun Ret R hret hM => g_X10_move_0 hM t m σ ?_)
  refine c_M_canMove _ _ hc hr (fun h1 => ⟨fun _ => ?_, fun h => by omega⟩) (fun h => ⟨fun q => by omega, fun _ => hret _ _ (k0 h)⟩)
  have r := hr t.toNat (by omega)
  have r2 := hse t.toNat (by omega)
  refine ⟨⟨by omega, by omega⟩, ⟨by omega, by omega⟩, fun τ1 e1 => ?_⟩
  have q : τ1.1 7 t.toNat = σ.1 7 t.toNat := by rw [e1, sI_n _ (by decide)]
  rw [q]
  refine ⟨⟨by omega, by omega⟩, fun τ2 e2 τ3 e3 τ4 e4 => ?_⟩
  rw [e4, e3, e2, e1]
  exact hret _ _ (k1 h1)
theorem c_M_laws (s w b v : Int) (hv : v = 0 ∨ v = 1) (k1 : lawsOk s w b → Q 1 (sI (sI (sI (sI (sI σ 0 8 s) 0 9 w) 0 10 b) 0 11 v) 0 25 0)) (k0 : ¬ lawsOk s w b → Q 0 σ) : conI G wdM (d + 1) mX10_laws [vR 0, vI s, vI w, vI b, vI v] σ Q := by
  refine conI.of (ls0 := [vR 0, vI s, vI w, vI b, vI v]) rfl rfl (Nat.le_of_ble_eq_true rfl) (fun Ret R hret hM => g_X10_laws_0 hM s w b v σ ?_)
  refine c_M_in _ _ _ (fun h1 => ⟨fun h => by omega, fun _ => c_M_in _ _ _ (fun h2 => ⟨fun h => by omega, fun _ => c_M_in _ _ _ (fun h3 => ⟨fun _ τ1 e1 τ2 e2 τ3 e3 => ⟨hv, fun τ4 e4 τ5 e5 => ?_⟩, fun h => by omega⟩) (fun h => ⟨fun q => by omega, fun _ => hret _ _ (k0 (fun q => h q.2.2))⟩)⟩) (fun h => ⟨fun _ => hret _ _ (k0 (fun q => h q.2.1)), fun q => by omega⟩)⟩) (fun h => ⟨fun _ => hret _ _ (k0 (fun q => h q.1)), fun q => by omega⟩)
  rw [e5, e4, e3, e2, e1]
  exact hret _ _ (k1 ⟨h1, h2, h3⟩)
end MBase
