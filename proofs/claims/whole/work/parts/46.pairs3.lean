section Pairs3
variable {G : GX} {d e : Nat} {x m : St}
/-- one of four, or none -/
def four (a b c f w : Int) : Int := if w = 0 then a else if w = 1 then b else if w = 2 then c else if w = 3 then f else -1
theorem p_planned (h : Bas x m) (t w : Int) : conI G wdX (d + 23) mX9_planned [vR 9, vI t, vI w] x (fun r x' => conI G wdM (e + 3) mX10_planned [vR 0, vI t, vI w] m (fun r' m' => r' = r ∧ Bas x' m' ∧ Stq x m x' m')) := by
  have h16 := h.1.1
  have e3 := h.2.2.1.1
  refine conI.of (ls0 := [vR 9, vI t, vI w]) rfl rfl (Nat.le_of_ble_eq_true rfl) (fun Ret R hret hMx => g_X9_planned_0 hMx t w x ?_)
  refine c_X7_holds t (fun q => ⟨fun _ => ?_, fun z => by omega⟩) (fun q => ⟨fun z => absurd rfl z, fun _ => hret _ _ ?_⟩)
  · refine p_bring (d := d) h (fun x' f y hb h1 => ?_)
    have mm : ∀ r : Int, (∀ m' n N f, SamB x' m' n N f → r = four (m'.1 11 t.toNat) (m'.1 9 t.toNat) (slm m' (m'.1 9) t.toNat) (m'.1 16 t.toNat) w) → conI G wdM (e + 3) mX10_planned [vR 0, vI t, vI w] m (fun r' m' => r' = r ∧ Bas x' m' ∧ Stq x m x' m') := by
      intro r k
      refine conI.of (ls0 := [vR 0, vI t, vI w]) rfl rfl (Nat.le_of_ble_eq_true rfl) (fun Ret' R' hret' hMm => g_X10_planned_0 hMm t w m ?_)
      refine p_plans (e := e) hb (fun m' g a hb' h13 => ?_)
      obtain ⟨n, N, ff, hS⟩ := sam hb'.1 hb'.2.1 hb'.2.2.1 (hb'.2.2.2.2.2.2.1 h1).2 (hb'.2.2.2.2.2.2.2 h13)
      have kk := k m' n N ff hS
      have m3 : m'.1 0 3 = m.1 0 3 := a 3 (by decide) (by decide) (by decide)
      have hn := hS.1
      have fin : ∀ v : Int, r = v → Ret' (some (vI v)) m' := fun v q => hret' _ _ ⟨q.symm, hb', Stq.up f y h1 g a⟩
      unfold four at kk
      refine c_M_isTrip (d := e + 1) t hb'.2.1.1 (fun q' => ⟨fun _ => ⟨fun z0 => ⟨fun z1 => ⟨fun z2 => ⟨fun z3 => fin _ ?_, fun z => ⟨⟨by omega, by omega⟩, fin _ ?_⟩⟩, fun z => ?_⟩, fun z => ⟨⟨by omega, by omega⟩, fin _ ?_⟩⟩, fun z => ⟨⟨by omega, by omega⟩, fin _ ?_⟩⟩, fun z => by omega⟩) (fun q' => absurd (by rw [m3, ← e3]; exact q) q')
      · rw [kk, if_neg z0, if_neg z1, if_neg z2, if_neg z3]
      · rw [kk, if_neg z0, if_neg z1, if_neg z2, if_pos z]
      · have et : t = (t.toNat : Int) := by omega
        have goal : conI G wdM (e + 2) mX10_slack [vR 0, vI (t.toNat : Int)] m' (fun x3 σ3 => Ret' (some (vI x3)) σ3) := c_M_slack (n := n) hb'.2.1 hn.2.2 hS.2.2.2.1 (by omega) (fin _ (by rw [kk, if_neg z0, if_neg z1, if_pos z]))
        rw [← et] at goal
        exact goal
      · rw [kk, if_neg z0, if_pos z]
      · rw [kk, if_pos z]
    have n74 : x'.1 7 4 = x.1 7 4 := by rw [f.at (by decide)]
    refine ⟨fun z => ⟨⟨by omega, by omega⟩, hret _ _ (mm _ (fun m' n N f hS => ?_))⟩, fun z => ⟨⟨by omega, by omega⟩, hret _ _ (mm _ (fun m' n N f hS => ?_))⟩, fun z => ⟨⟨by omega, by omega⟩, hret _ _ (mm _ (fun m' n N f hS => ?_))⟩, fun z => ⟨⟨by omega, by omega⟩, hret _ _ (mm _ (fun m' n N f hS => ?_))⟩, fun z => hret _ _ (mm _ (fun m' n N f hS => ?_))⟩ <;> unfold four <;> have h7 := hS.1.1
    · rw [if_pos z]; exact (hS.2.2.2.2.2.2.2.2.2.1 t.toNat (by omega)).1
    · rw [if_neg (by omega), if_pos z, (hS.2.2.1 t.toNat (by omega)).1, (hS.2.2.1 t.toNat (by omega)).2]
    · rw [if_neg (by omega), if_neg (by omega), if_pos z]; exact hS.2.2.2.2.2.2.1 t.toNat (by omega)
    · rw [if_neg (by omega), if_neg (by omega), if_neg (by omega), if_pos z]; exact (hS.2.2.2.2.2.2.2.2.2.1 t.toNat (by omega)).2
    · rw [if_neg (by omega), if_neg (by omega), if_neg (by omega), if_neg (by omega)]
  · refine conI.of (ls0 := [vR 0, vI t, vI w]) rfl rfl (Nat.le_of_ble_eq_true rfl) (fun Ret' R' hret' hMm => g_X10_planned_0 hMm t w m ?_)
    refine p_plans (e := e) h (fun m' g a hb' h13 => ?_)
    have m3 : m'.1 0 3 = m.1 0 3 := a 3 (by decide) (by decide) (by decide)
    refine c_M_isTrip (d := e + 1) t hb'.2.1.1 (fun q' => absurd (by rw [e3, ← m3]; exact q') q) (fun q' => ⟨fun z => absurd rfl z, fun _ => hret' _ _ ⟨rfl, hb', Or.inr ⟨rfl, a 25 (by decide) (by decide) (by decide), g.at (by decide), fun z => ⟨z, Fr.rfl'⟩⟩⟩⟩)
theorem p_segment (h : Bas x m) (s w : Int) : conI G wdX (d + 23) mX9_segment [vR 9, vI s, vI w] x (fun r x' => conI G wdM (e + 3) mX10_segment [vR 0, vI s, vI w] m (fun r' m' => r' = r ∧ Bas x' m' ∧ Stq x m x' m')) := by
  refine conI.of (ls0 := [vR 9, vI s, vI w]) rfl rfl (Nat.le_of_ble_eq_true rfl) (fun Ret R hret hMx => g_X9_segment_0 hMx s w x ?_)
  refine p_bring (d := d) h (fun x' f y hb h1 => ?_)
  have mm : ∀ r : Int, (∀ m' n N f, SamB x' m' n N f → (0 ≤ s ∧ s < N → r = four (m'.1 12 s.toNat) (m'.1 13 s.toNat) (m'.1 14 s.toNat) (m'.1 15 s.toNat) w) ∧ (¬ (0 ≤ s ∧ s < N) → r = -1)) → conI G wdM (e + 3) mX10_segment [vR 0, vI s, vI w] m (fun r' m' => r' = r ∧ Bas x' m' ∧ Stq x m x' m') := by
    intro r k
    refine conI.of (ls0 := [vR 0, vI s, vI w]) rfl rfl (Nat.le_of_ble_eq_true rfl) (fun Ret' R' hret' hMm => g_X10_segment_0 hMm s w m ?_)
    refine p_plans (e := e) hb (fun m' g a hb' h13 => ?_)
    obtain ⟨n, N, ff, hS⟩ := sam hb'.1 hb'.2.1 hb'.2.2.1 (hb'.2.2.2.2.2.2.1 h1).2 (hb'.2.2.2.2.2.2.2 h13)
    have kk := k m' n N ff hS
    have hM6 := hS.2.2.2.2.2.2.2.2.1
    have hN := hM6.2.1
    have fin : ∀ v : Int, r = v → Ret' (some (vI v)) m' := fun v q => hret' _ _ ⟨q.symm, hb', Stq.up f y h1 g a⟩
    unfold four at kk
    rw [hM6.1]
    refine ⟨⟨by omega, by omega⟩, c_M_in (d := e + 2) s 0 _ (fun q => ⟨fun _ => ?_, fun z => by omega⟩) (fun q => ⟨fun z => absurd rfl z, fun _ => fin _ (kk.2 (by omega))⟩)⟩
    have k1 := kk.1 (by omega)
    refine ⟨fun z => ⟨⟨by omega, by omega⟩, fin _ ?_⟩, fun z => ⟨⟨by omega, by omega⟩, fin _ ?_⟩, fun z => ⟨⟨by omega, by omega⟩, fin _ ?_⟩, fun z => ⟨⟨by omega, by omega⟩, fin _ ?_⟩, fun z => fin _ ?_⟩
    · rw [k1, if_pos z]
    · rw [k1, if_neg (by omega), if_pos z]
    · rw [k1, if_neg (by omega), if_neg (by omega), if_pos z]
    · rw [k1, if_neg (by omega), if_neg (by omega), if_neg (by omega), if_pos z]
    · rw [k1, if_neg (by omega), if_neg (by omega), if_neg (by omega), if_neg (by omega)]
  have h65 : x'.1 6 5 ≤ 16 := by
    obtain ⟨n0, e7, hPl, hCu⟩ := (hb.2.2.2.2.2.2.1 h1).2
    have hX := hb.1
    have hn16 : n0 ≤ 16 := by have := hX.1; omega
    have hC : Chn n0 (nz n0 (x'.1 20)) (x'.1 36) := Chn.of hn16 hPl.1.1 (fun i j hi hj q => foX_bg hX (by omega) (by omega) q)
    have a := bs_upto hC (rlX x') n0
    have b := upto_le hC n0 (Nat.le_refl _)
    rw [hCu.1]; omega
  refine c_X6_holds s (fun q => ⟨fun _ => ⟨fun z => ⟨⟨by omega, by omega⟩, hret _ _ (mm _ (fun m' n N f hS => ?_))⟩, fun z => ⟨⟨by omega, by omega⟩, hret _ _ (mm _ (fun m' n N f hS => ?_))⟩, fun z => ⟨⟨by omega, by omega⟩, hret _ _ (mm _ (fun m' n N f hS => ?_))⟩, fun z => ⟨⟨by omega, by omega⟩, hret _ _ (mm _ (fun m' n N f hS => ?_))⟩, fun z => hret _ _ (mm _ (fun m' n N f hS => ?_))⟩, fun z => by omega⟩) (fun q => ⟨fun z => absurd rfl z, fun _ => hret _ _ (mm _ (fun m' n N f hS => ⟨fun z => absurd (by have := hS.2.2.2.2.2.2.2.1.1; omega) q, fun _ => rfl⟩))⟩) <;> have h6 := hS.2.2.2.2.2.2.2.1.1 <;> have sg := hS.2.2.2.2.2.2.2.2.2.2.1 s.toNat (by omega) <;> refine ⟨fun _ => ?_, fun y => absurd (by omega) y⟩ <;> unfold four
  · rw [if_pos z]; exact sg.1
  · rw [if_neg (by omega), if_pos z]; exact sg.2.1
  · rw [if_neg (by omega), if_neg (by omega), if_pos z]; exact sg.2.2.1
  · rw [if_neg (by omega), if_neg (by omega), if_neg (by omega), if_pos z]; exact sg.2.2.2
  · rw [if_neg (by omega), if_neg (by omega), if_neg (by omega), if_neg (by omega)]
end Pairs3
