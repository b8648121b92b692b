/-! ===== stores by cell; frames; trips that go or move; laws; the model's own base ===== -/
def uf (f : Nat → Int) (j : Nat) (v : Int) : Nat → Int := fun b => if b = j then v else f b
theorem uf_s (f : Nat → Int) (j : Nat) (v : Int) : uf f j v j = v := if_pos rfl
theorem uf_n {f : Nat → Int} {j b : Nat} {v : Int} (h : b ≠ j) : uf f j v b = f b := if_neg h
theorem sI_1 (σ : St) (k j : Nat) (v : Int) (a : Nat) : (sI σ k j v).1 a = if a = k then uf (σ.1 k) j v else σ.1 a := by
  funext b
  by_cases h : a = k
  · subst h; simp [sI, uf]
  · simp [sI, h]
theorem sI_s (σ : St) (k j : Nat) (v : Int) : (sI σ k j v).1 k = uf (σ.1 k) j v := by rw [sI_1, if_pos rfl]
theorem sI_n (σ : St) {k a : Nat} (h : a ≠ k) (j : Nat) (v : Int) : (sI σ k j v).1 a = σ.1 a := by rw [sI_1, if_neg h]
theorem sI_2 (σ : St) (k j : Nat) (v : Int) : (sI σ k j v).2 = σ.2 := rfl
theorem sL_1 (σ : St) (k j : Nat) (v : Int64) : (sL σ k j v).1 = σ.1 := rfl
/-- nothing has changed but in the listed cells -/
def Fr (S : List Nat) (σ σ' : St) : Prop := ∀ k, k ∉ S → σ'.1 k = σ.1 k ∧ σ'.2 k = σ.2 k
theorem Fr.rfl' {S : List Nat} {σ : St} : Fr S σ σ := fun _ _ => ⟨rfl, rfl⟩
theorem Fr.tr {S : List Nat} {σ σ' σ'' : St} (h : Fr S σ σ') (h' : Fr S σ' σ'') : Fr S σ σ'' := fun k hk => ⟨(h' k hk).1.trans (h k hk).1, (h' k hk).2.trans (h k hk).2⟩
theorem Fr.mono {S T : List Nat} {σ σ' : St} (h : Fr S σ σ') (hs : ∀ k, k ∈ S → k ∈ T) : Fr T σ σ' := fun k hk => h k (fun q => hk (hs k q))
theorem Fr.at {S : List Nat} {σ σ' : St} (h : Fr S σ σ') {k : Nat} (hk : k ∉ S) : σ'.1 k = σ.1 k := (h k hk).1
theorem Fr.one {S : List Nat} {σ : St} {k j : Nat} {v : Int} (hk : k ∈ S) : Fr S σ (sI σ k j v) := fun a ha => ⟨sI_n σ (fun e : a = k => ha (by rw [e]; exact hk)) j v, rfl⟩
theorem Fr.put {S : List Nat} {σ σ' : St} {k j : Nat} {v : Int} (h : Fr S σ σ') (hk : k ∈ S) : Fr S σ (sI σ' k j v) := h.tr (Fr.one hk)
theorem Fr.putL {S : List Nat} {σ σ' : St} {k j : Nat} {v : Int64} (h : Fr S σ σ') (hk : k ∈ S) : Fr S σ (sL σ' k j v) := h.tr (fun a ha => ⟨rfl, funext fun b => if_neg (fun q : a = k ∧ b = j => ha (by rw [q.1]; exact hk))⟩)
/-- one of n things at t goes away, those behind it come one forward -/
def shf (t n : Nat) (f : Nat → Int) (j : Nat) : Int := if t ≤ j ∧ j + 1 < n then f (j + 1) else f j
def shp (t i : Nat) (f : Nat → Int) : Nat → Int := fun j => if t ≤ j ∧ j < i then f (j + 1) else f j
theorem shp_0 (t : Nat) (f : Nat → Int) : shp t t f = f := by funext j; unfold shp; rw [if_neg (by omega)]
theorem shp_s {t i : Nat} (h : t ≤ i) (f : Nat → Int) : uf (shp t i f) i (f (i + 1)) = shp t (i + 1) f := by
  funext j
  unfold uf shp
  by_cases q : j = i
  · subst q; rw [if_pos rfl, if_pos (by omega)]
  · rw [if_neg q]
    by_cases r : t ≤ j ∧ j < i
    · rw [if_pos r, if_pos (by omega)]
    · rw [if_neg r, if_neg (by omega)]
theorem shp_a {t i j : Nat} (h : i ≤ j) (f : Nat → Int) : shp t i f j = f j := if_neg (by omega)
section Base2
variable {G : GX} {d : Nat} {σ : St} {Q : Int → St → Prop}
/-- what drop() leaves -/
def dropX (σ : St) (t : Nat) (σ' : St) : Prop := Fr [7, 34, 35, 36, 37] σ σ' ∧ σ'.1 7 = uf (σ.1 7) 4 (σ.1 7 4 - 1) ∧ ∀ k, k = 34 ∨ k = 35 ∨ k = 36 ∨ k = 37 → σ'.1 k = shp t ((σ.1 7 4).toNat - 1) (σ.1 k)
theorem takeAway_loop {Ret : Option AV → St → Prop} {R : Nat → List AV → List AV → St → Prop} (hM : AM G wdX (d + 1) mX7_takeAway Ret R) (σ0 : St) (t : Nat) (n : Nat) (hn : n + 1 ≤ 16)
    (k : ∀ σ', Fr [7, 34, 35, 36, 37] σ0 σ' → σ'.1 7 = σ0.1 7 → (∀ k, k = 34 ∨ k = 35 ∨ k = 36 ∨ k = 37 → σ'.1 k = shp t n (σ0.1 k)) → Ret (some (vI 1)) σ') (hc : σ0.1 7 4 = n) :
    ∀ m i : Nat, i + m = n → t ≤ i → ∀ σ : St, Fr [7, 34, 35, 36, 37] σ0 σ → σ.1 7 = σ0.1 7 → (∀ k, k = 34 ∨ k = 35 ∨ k = 36 ∨ k = 37 → σ.1 k = shp t i (σ0.1 k)) → R 22 [vR 7, vN, vI i] [] σ := by
  intro m
  induction m with
  | zero =>
    intro i hi hti σ h1 h2 h3
    have e : i = n := by omega
    subst e
    refine g_X7_takeAway_22 hM i σ ⟨fun _ => k σ h1 h2 h3, fun h => ?_⟩
    rw [h2, hc] at h
    omega
  | succ m ih =>
    intro i hi hti σ h1 h2 h3
    refine g_X7_takeAway_22 hM i σ ⟨fun h => ?_, fun h => ⟨⟨by omega, by omega⟩, ⟨by omega, by omega⟩, ⟨by omega, by omega⟩, fun τ1 e1 τ2 e2 τ3 e3 τ4 e4 => ?_⟩⟩
    · rw [h2, hc] at h; omega
    · have ei : ((i : Int) + 1) = ((i + 1 : Nat) : Int) := by omega
      rw [ei] at e1 e2 e3 e4 ⊢
      rw [Int.toNat_natCast, Int.toNat_natCast] at e1 e2 e3 e4
      have q34 := h3 34 (by omega)
      have q35 := h3 35 (by omega)
      have q36 := h3 36 (by omega)
      have q37 := h3 37 (by omega)
      have p34 : τ4.1 34 = shp t (i + 1) (σ0.1 34) := by
        rw [e4, sI_n _ (by decide), e3, sI_n _ (by decide), e2, sI_n _ (by decide), e1, sI_s, q34, shp_a (Nat.le_succ i), shp_s hti]
      have p35 : τ4.1 35 = shp t (i + 1) (σ0.1 35) := by
        rw [e4, sI_n _ (by decide), e3, sI_n _ (by decide), e2, sI_s, e1, sI_n _ (by decide), q35, shp_a (Nat.le_succ i), shp_s hti]
      have p36 : τ4.1 36 = shp t (i + 1) (σ0.1 36) := by
        rw [e4, sI_n _ (by decide), e3, sI_s, e2, sI_n _ (by decide), e1, sI_n _ (by decide), q36, shp_a (Nat.le_succ i), shp_s hti]
      have p37 : τ4.1 37 = shp t (i + 1) (σ0.1 37) := by
        rw [e4, sI_s, e3, sI_n _ (by decide), e2, sI_n _ (by decide), e1, sI_n _ (by decide), q37, shp_a (Nat.le_succ i), shp_s hti]
      refine ih (i + 1) (by omega) (by omega) τ4 ?_ ?_ ?_
      · rw [e4, e3, e2, e1]
        exact (((h1.put (by decide)).put (by decide)).put (by decide)).put (by decide)
      · rw [e4, sI_n _ (by decide), e3, sI_n _ (by decide), e2, sI_n _ (by decide), e1, sI_n _ (by decide), h2]
      · rintro k (rfl | rfl | rfl | rfl)
        · exact p34
        · exact p35
        · exact p36
        · exact p37
theorem c_X7_takeAway (t : Int) (hc : σ.1 7 4 ≤ 16) (k1 : 0 ≤ t ∧ t < σ.1 7 4 → ∀ σ', dropX σ t.toNat σ' → Q 1 σ') (k0 : ¬ (0 ≤ t ∧ t < σ.1 7 4) → Q 0 σ) : conI G wdX (d + 1) mX7_takeAway [vR 7, vI t] σ Q := by
  refine conI.of (ls0 := [vR 7, vI t, vN]) rfl rfl (Nat.le_of_ble_eq_true rfl) (fun Ret R hret hM => g_X7_takeAway_0 hM t σ ?_)
  refine c_X7_holds _ (fun h1 => ⟨fun _ => ⟨⟨by omega, by omega⟩, fun τ1 e1 => ?_⟩, fun h => by omega⟩) (fun h => ⟨fun q => by omega, fun _ => hret _ _ (k0 h)⟩)
  have hn : σ.1 7 4 - 1 = (((σ.1 7 4).toNat - 1 : Nat) : Int) := by omega
  have et : t = (t.toNat : Int) := by omega
  have hh : τ1.1 7 4 = (((σ.1 7 4).toNat - 1 : Nat) : Int) := by rw [e1, sI_s, uf_s, hn]
  rw [et]
  refine takeAway_loop hM τ1 t.toNat ((σ.1 7 4).toNat - 1) (by omega) (fun σ' f1 f2 f3 => hret _ _ (k1 h1 σ' ⟨?_, ?_, ?_⟩)) hh ((σ.1 7 4).toNat - 1 - t.toNat) t.toNat (by omega) (Nat.le_refl _) τ1 Fr.rfl' rfl (fun k _ => (shp_0 _ _).symm)
  · refine Fr.tr ?_ f1
    rw [e1]
    exact Fr.one (by decide)
  · rw [f2, e1, sI_s]
  · intro k hk
    rw [f3 k hk, e1, sI_n _ (by omega)]
abbrev canX (σ : St) (t m : Int) : Prop := (0 ≤ t ∧ t < σ.1 7 4) ∧ 0 ≤ σ.1 36 t.toNat + m ∧ σ.1 37 t.toNat + m ≤ 2879
theorem c_X7_canShift (t m : Int) (hc : σ.1 7 4 ≤ 16) (hr : ∀ j, j < 16 → (0 ≤ σ.1 36 j ∧ σ.1 36 j ≤ 2879) ∧ (0 ≤ σ.1 37 j ∧ σ.1 37 j ≤ 2879)) (k1 : canX σ t m → Q 1 σ) (k0 : ¬ canX σ t m → Q 0 σ) : conI G wdX (d + 1) mX7_canShift [vR 7, vI t, vI m] σ Q := by
  refine conI.of (ls0 := [vR 7, vI t, vI m]) rfl rfl (Nat.le_of_ble_eq_true rfl) (fun Ret R hret hM => g_X7_canShift_0 hM t m σ ?_)
  refine c_X7_holds _ (fun h1 => ⟨fun h => by omega, fun _ => ?_⟩) (fun h => ⟨fun _ => hret _ _ (k0 (fun q => h q.1)), fun q => by omega⟩)
  have r := hr t.toNat (by omega)
  refine ⟨⟨by omega, by omega⟩, ⟨by omega, by omega⟩, fun h => hret _ _ (k0 (fun q => by omega)), fun h => ⟨⟨by omega, by omega⟩, fun h2 => hret _ _ (k0 (fun q => by omega)), fun h2 => hret _ _ (k1 ⟨h1, by omega, by omega⟩)⟩⟩
theorem c_X7_shift (t m : Int) (hc : σ.1 7 4 ≤ 16) (hr : ∀ j, j < 16 → (0 ≤ σ.1 36 j ∧ σ.1 36 j ≤ 2879) ∧ (0 ≤ σ.1 37 j ∧ σ.1 37 j ≤ 2879)) (hse : ∀ j : Nat, (j : Int) < σ.1 7 4 → σ.1 36 j < σ.1 37 j) (k1 : canX σ t m → Q 1 (sI (sI σ 36 t.toNat (σ.1 36 t.toNat + m)) 37 t.toNat (σ.1 37 t.toNat + m))) (k0 : ¬ canX σ t m → Q 0 σ) : conI G wdX (d + 2) mX7_shift [vR 7, vI t, vI m] σ Q := by
  refine conI.of (ls0 := [vR 7, vI t, vI m]) rfl rfl (Nat.le_of_ble_eq_true rfl) (fun Ret R hret hM => g_X7_shift_0 hM t m σ ?_)
  refine c_X7_canShift _ _ hc hr (fun h1 => ⟨fun _ => ?_, fun h => by omega⟩) (fun h => ⟨fun q => by omega, fun _ => hret _ _ (k0 h)⟩)
  have r := hr t.toNat (by omega)
  have r2 := hse t.toNat (by omega)
  refine ⟨⟨by omega, by omega⟩, ⟨by omega, by omega⟩, fun τ1 e1 => ?_⟩
  have q : τ1.1 37 t.toNat = σ.1 37 t.toNat := by rw [e1, sI_n _ (by decide)]
  rw [q]
  refine ⟨⟨by omega, by omega⟩, fun τ2 e2 => ?_⟩
  rw [e2, e1]
  exact hret _ _ (k1 h1)
abbrev lawsOk (s w b : Int) : Prop := (1 ≤ s ∧ s ≤ 2880) ∧ (1 ≤ w ∧ w ≤ 2880) ∧ (0 ≤ b ∧ b ≤ 600)
theorem c_X0_put (s w b v : Int) (hv : v = 0 ∨ v = 1) (k1 : lawsOk s w b → Q 1 (sI (sI (sI (sI σ 0 0 s) 0 1 w) 0 2 b) 0 3 v)) (k0 : ¬ lawsOk s w b → Q 0 σ) : conI G wdX (d + 1) mX0_put [vR 0, vI s, vI w, vI b, vI v] σ Q := by
  refine conI.of (ls0 := [vR 0, vI s, vI w, vI b, vI v]) rfl rfl (Nat.le_of_ble_eq_true rfl) (fun Ret R hret hM => g_X0_put_0 hM s w b v σ ?_)
  refine c_within _ _ _ (fun h1 => ⟨fun h => by omega, fun _ => c_within _ _ _ (fun h2 => ⟨fun h => by omega, fun _ => c_within _ _ _ (fun h3 => ⟨fun _ τ1 e1 τ2 e2 τ3 e3 => ⟨hv, fun τ4 e4 => ?_⟩, fun h => by omega⟩) (fun h => ⟨fun q => by omega, fun _ => hret _ _ (k0 (fun q => h q.2.2))⟩)⟩) (fun h => ⟨fun _ => hret _ _ (k0 (fun q => h q.2.1)), fun q => by omega⟩)⟩) (fun h => ⟨fun _ => hret _ _ (k0 (fun q => h q.1)), fun q => by omega⟩)
  rw [e4, e3, e2, e1]
  exact hret _ _ (k1 ⟨h1, h2, h3⟩)
theorem c_X5_forget {Q : St → Prop} (k : Q (sI σ 5 9 0)) : conV G wdX d mX5_forget [vR 5] σ Q := by
  refine conV.of (ls0 := [vR 5]) rfl rfl (Nat.le_of_ble_eq_true rfl) (fun Ret R hret hM => g_X5_forget_0 hM σ ?_)
  intro τ1 e1
  rw [e1]
  exact hret _ k
theorem c_noted (v : Int) (hv : v = 0 ∨ v = 1) (k1 : v = 1 → Q 1 (sI (sI σ 9 7 0) 5 9 0)) (k0 : v = 0 → Q 0 σ) : conI G wdX (d + 1) mX9_noted [vR 9, vI v] σ Q := by
  refine conI.of (ls0 := [vR 9, vI v]) rfl rfl (Nat.le_of_ble_eq_true rfl) (fun Ret R hret hM => g_X9_noted_0 hM v σ ?_)
  refine ⟨fun h => ⟨hv, ?_⟩, fun h τ1 e1 => c_X5_forget ⟨hv, ?_⟩⟩
  · subst h; exact hret _ _ (k0 rfl)
  · rw [e1]
    have h1 : v = 1 := by omega
    subst h1
    exact hret _ _ (k1 rfl)
end Base2
