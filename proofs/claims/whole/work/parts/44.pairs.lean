/-! ===== class and model answer alike: questions ===== -/
def Stq (x m x' m' : St) : Prop := (x'.1 5 9 = 0 ∧ m'.1 0 25 = 0) ∨ (x'.1 5 = x.1 5 ∧ m'.1 0 25 = m.1 0 25 ∧ m'.1 18 = m.1 18 ∧ (x.1 9 7 = 1 → x'.1 9 7 = 1 ∧ Fr [3, 16, 17, 18, 19] x x'))
theorem Stq.no (x m : St) : Stq x m x m := Or.inr ⟨rfl, rfl, rfl, fun h => ⟨h, Fr.rfl'⟩⟩
theorem Stq.up {x m x' m' : St} (f : Fr upC x x') (w : x.1 9 7 = 1 → x' = x) (h1 : x'.1 9 7 = 1) (g : Fr mpC m m') (a : ∀ c, c ≠ 13 → c ≠ 15 → c ≠ 18 → m'.1 0 c = m.1 0 c) : Stq x m x' m' :=
  Or.inr ⟨f.at (by decide), a 25 (by decide) (by decide) (by decide), g.at (by decide), fun z => ⟨h1, by rw [w z]; exact Fr.rfl'⟩⟩
theorem Stq.ux {x m x' : St} (f : Fr upC x x') (w : x.1 9 7 = 1 → x' = x) (h1 : x'.1 9 7 = 1) : Stq x m x' m :=
  Or.inr ⟨f.at (by decide), rfl, rfl, fun z => ⟨h1, by rw [w z]; exact Fr.rfl'⟩⟩
section Pairs
variable {G : GX} {d e : Nat} {x m : St}
theorem p_tripOf (h : Bas x m) (t w : Int) : conI G wdX (d + 1) mX9_tripOf [vR 9, vI t, vI w] x (fun r x' => conI G wdM (e + 2) mX10_tripOf [vR 0, vI t, vI w] m (fun r' m' => r' = r ∧ Bas x' m' ∧ Stq x m x' m')) := by
  have hX := h.1
  have hM := h.2.1
  have hR := h.2.2.1
  have h16 := hX.1
  refine conI.of (ls0 := [vR 9, vI t, vI w]) rfl rfl (Nat.le_of_ble_eq_true rfl) (fun Ret R hret hMx => g_X9_tripOf_0 hMx t w x ?_)
  have mm : ∀ r : Int, (0 ≤ t ∧ t < x.1 7 4 → (w = 0 → r = m.1 4 t.toNat) ∧ (w = 1 → r = m.1 5 t.toNat) ∧ (w = 2 → r = m.1 6 t.toNat) ∧ (w = 3 → r = m.1 7 t.toNat) ∧ (¬ (0 ≤ w ∧ w ≤ 3) → r = -1)) → (¬ (0 ≤ t ∧ t < x.1 7 4) → r = -1) → conI G wdM (e + 2) mX10_tripOf [vR 0, vI t, vI w] m (fun r' m' => r' = r ∧ Bas x m' ∧ Stq x m x m') := by
    intro r k1 k0
    refine conI.of (ls0 := [vR 0, vI t, vI w]) rfl rfl (Nat.le_of_ble_eq_true rfl) (fun Ret' R' hret' hMm => g_X10_tripOf_0 hMm t w m ?_)
    have fin : ∀ v : Int, v = r → Ret' (some (vI v)) m := fun v q => hret' _ _ ⟨q, h, Stq.no x m⟩
    refine c_M_isTrip (d := e) t hM.1 (fun q => ⟨fun _ => ?_, fun z => by omega⟩) (fun q => ⟨fun z => absurd rfl z, fun _ => fin _ (k0 (fun z => q (by rw [← hR.1]; exact z))).symm⟩)
    have kk := k1 (by rw [hR.1]; exact q)
    have q' := q
    rw [← hR.1] at q'
    exact ⟨fun z0 => ⟨fun z1 => ⟨fun z2 => ⟨fun z3 => fin _ (kk.2.2.2.2 (by omega)).symm, fun z => ⟨⟨by omega, by omega⟩, fin _ (kk.2.2.2.1 z).symm⟩⟩, fun z => ⟨⟨by omega, by omega⟩, fin _ (kk.2.2.1 z).symm⟩⟩, fun z => ⟨⟨by omega, by omega⟩, fin _ (kk.2.1 z).symm⟩⟩, fun z => ⟨⟨by omega, by omega⟩, fin _ (kk.1 z).symm⟩⟩
  refine c_X7_holds t (fun q => ⟨fun _ => ?_, fun z => by omega⟩) (fun q => ⟨fun z => absurd rfl z, fun _ => hret _ _ (mm _ (fun z => absurd z q) (fun _ => rfl))⟩)
  have b := hR.2.1 t.toNat (by omega)
  refine ⟨fun z => ⟨⟨by omega, by omega⟩, hret _ _ (mm _ (fun _ => ⟨fun _ => b.1, fun y => by omega, fun y => by omega, fun y => by omega, fun y => by omega⟩) (fun y => absurd q y))⟩, fun z => ⟨⟨by omega, by omega⟩, hret _ _ (mm _ (fun _ => ⟨fun y => by omega, fun _ => b.2.1, fun y => by omega, fun y => by omega, fun y => by omega⟩) (fun y => absurd q y))⟩, fun z => ⟨⟨by omega, by omega⟩, hret _ _ (mm _ (fun _ => ⟨fun y => by omega, fun y => by omega, fun _ => b.2.2.1, fun y => by omega, fun y => by omega⟩) (fun y => absurd q y))⟩, fun z => ⟨⟨by omega, by omega⟩, hret _ _ (mm _ (fun _ => ⟨fun y => by omega, fun y => by omega, fun y => by omega, fun _ => b.2.2.2, fun y => by omega⟩) (fun y => absurd q y))⟩, fun z => hret _ _ (mm _ (fun _ => ⟨fun y => by omega, fun y => by omega, fun y => by omega, fun y => by omega, fun _ => rfl⟩) (fun y => absurd q y))⟩
theorem p_may (h : Bas x m) (i j : Int) : conI G wdX (d + 3) mX9_may [vR 9, vI i, vI j] x (fun r x' => conI G wdM (e + 2) mX10_may [vR 0, vI i, vI j] m (fun r' m' => r' = r ∧ Bas x' m' ∧ Stq x m x' m')) := by
  have hX := h.1
  have hM := h.2.1
  have hR := h.2.2.1
  have h16 := hX.1
  have e3 := hR.1
  refine conI.of (ls0 := [vR 9, vI i, vI j]) rfl rfl (Nat.le_of_ble_eq_true rfl) (fun Ret R hret hMx => g_X9_may_0 hMx i j x ?_)
  have mm : ∀ r : Int, ((0 ≤ i ∧ i < x.1 7 4) ∧ (0 ≤ j ∧ j < x.1 7 4) → (foX x i.toNat j.toNat → r = 1) ∧ (¬ foX x i.toNat j.toNat → r = 0)) → (¬ ((0 ≤ i ∧ i < x.1 7 4) ∧ (0 ≤ j ∧ j < x.1 7 4)) → r = -1) → conI G wdM (e + 2) mX10_may [vR 0, vI i, vI j] m (fun r' m' => r' = r ∧ Bas x m' ∧ Stq x m x m') := by
    intro r k1 k0
    refine conI.of (ls0 := [vR 0, vI i, vI j]) rfl rfl (Nat.le_of_ble_eq_true rfl) (fun Ret' R' hret' hMm => g_X10_may_0 hMm i j m ?_)
    have fin : ∀ v : Int, v = r → Ret' (some (vI v)) m := fun v q => hret' _ _ ⟨q, h, Stq.no x m⟩
    refine c_M_isTrip (d := e) i hM.1 (fun q => ⟨fun z => by omega, fun _ => c_M_isTrip (d := e) j hM.1 (fun q' => ⟨fun _ => ?_, fun z => by omega⟩) (fun q' => ⟨fun z => absurd rfl z, fun _ => fin _ (k0 (fun z => q' (by rw [← e3]; exact z.2))).symm⟩)⟩) (fun q => ⟨fun _ => fin _ (k0 (fun z => q (by rw [← e3]; exact z.1))).symm, fun z => absurd rfl z⟩)
    have kk := k1 ⟨by rw [e3]; exact q, by rw [e3]; exact q'⟩
    have ff := hR.fo hX (i := i.toNat) (j := j.toNat) (by omega) (by omega)
    have ei : i = (i.toNat : Int) := by omega
    have ej : j = (j.toNat : Int) := by omega
    rw [ei, ej]
    exact c_M_follows i.toNat j.toNat hM (by omega) (by omega) (fun z => ⟨fun y => by omega, fun _ => fin _ (kk.1 (ff.mpr z)).symm⟩) (fun z => ⟨fun _ => fin _ (kk.2 (fun y => z (ff.mp y))).symm, fun y => absurd rfl y⟩)
  refine c_X7_holds i (fun q => ⟨fun z => by omega, fun _ => c_X7_holds j (fun q' => ⟨fun _ => ?_, fun z => by omega⟩) (fun q' => ⟨fun z => absurd rfl z, fun _ => hret _ _ (mm _ (fun z => absurd z.2 q') (fun _ => rfl))⟩)⟩) (fun q => ⟨fun _ => hret _ _ (mm _ (fun z => absurd z.1 q) (fun _ => rfl)), fun z => absurd rfl z⟩)
  have ei : i = (i.toNat : Int) := by omega
  have ej : j = (j.toNat : Int) := by omega
  have goal : conI G wdX (d + 2) mX2_follows [vR 2, vI (i.toNat : Int), vI (j.toNat : Int), vI 0] x (fun x3 σ3 => ((x3 = 0 → Ret (some (vI 0)) σ3) ∧ (¬ x3 = 0 → Ret (some (vI 1)) σ3))) :=
    c_X2_follows (d := d) i.toNat j.toNat 0 hX (by omega) (by omega) ⟨by omega, by omega⟩ (fun z => ⟨fun y => by omega, fun _ => hret _ _ (mm _ (fun _ => ⟨fun _ => rfl, fun y => absurd ((foL_0 x _ _).mp z) y⟩) (fun y => absurd ⟨q, q'⟩ y))⟩) (fun z => ⟨fun _ => hret _ _ (mm _ (fun _ => ⟨fun y => absurd ((foL_0 x _ _).mpr y) z, fun _ => rfl⟩) (fun y => absurd ⟨q, q'⟩ y)), fun y => absurd rfl y⟩)
  rw [← ei, ← ej] at goal
  exact goal
theorem p_about (h : Bas x m) (w : Int) : conI G wdX d mX9_about [vR 9, vI w] x (fun r x' => conI G wdM e mX10_about [vR 0, vI w] m (fun r' m' => r' = r ∧ Bas x' m' ∧ Stq x m x' m')) := by
  have hR := h.2.2.1
  have l := hR.2.2.2.2
  refine conI.of (ls0 := [vR 9, vI w]) rfl rfl (Nat.le_of_ble_eq_true rfl) (fun Ret R hret hMx => g_X9_about_0 hMx w x ?_)
  have mm : ∀ r : Int, (w = 0 → r = m.1 0 3) ∧ (w = 1 → r = m.1 0 8) ∧ (w = 2 → r = m.1 0 9) ∧ (w = 3 → r = m.1 0 10) ∧ (w = 4 → (m.1 0 11 = 0 → r = 0) ∧ (¬ m.1 0 11 = 0 → r = 1)) ∧ (¬ (0 ≤ w ∧ w ≤ 4) → r = -1) → conI G wdM e mX10_about [vR 0, vI w] m (fun r' m' => r' = r ∧ Bas x m' ∧ Stq x m x m') := by
    intro r k
    refine conI.of (ls0 := [vR 0, vI w]) rfl rfl (Nat.le_of_ble_eq_true rfl) (fun Ret' R' hret' hMm => g_X10_about_0 hMm w m ?_)
    have fin : ∀ v : Int, r = v → Ret' (some (vI v)) m := fun v q => hret' _ _ ⟨q.symm, h, Stq.no x m⟩
    exact ⟨fun z => fin _ (k.1 z), fun z => fin _ (k.2.1 z), fun z => fin _ (k.2.2.1 z), fun z => fin _ (k.2.2.2.1 z), fun z => ⟨fun y => fin _ ((k.2.2.2.2.1 z).1 y), fun y => fin _ ((k.2.2.2.2.1 z).2 y)⟩, fun z => fin _ (k.2.2.2.2.2 z)⟩
  refine ⟨fun z => hret _ _ (mm _ ?_), fun z => hret _ _ (mm _ ?_), fun z => hret _ _ (mm _ ?_), fun z => hret _ _ (mm _ ?_), fun z => ⟨fun y => hret _ _ (mm _ ?_), fun y => hret _ _ (mm _ ?_)⟩, fun z => hret _ _ (mm _ ?_)⟩
  · exact ⟨fun _ => hR.1, fun y => by omega, fun y => by omega, fun y => by omega, fun y => by omega, fun y => by omega⟩
  · exact ⟨fun y => by omega, fun _ => l.1, fun y => by omega, fun y => by omega, fun y => by omega, fun y => by omega⟩
  · exact ⟨fun y => by omega, fun y => by omega, fun _ => l.2.1, fun y => by omega, fun y => by omega, fun y => by omega⟩
  · exact ⟨fun y => by omega, fun y => by omega, fun y => by omega, fun _ => l.2.2.1, fun y => by omega, fun y => by omega⟩
  · rw [l.2.2.2] at y
    exact ⟨fun y => by omega, fun y => by omega, fun y => by omega, fun y => by omega, fun _ => ⟨fun _ => rfl, fun w' => absurd y w'⟩, fun y => by omega⟩
  · rw [l.2.2.2] at y
    exact ⟨fun y => by omega, fun y => by omega, fun y => by omega, fun y => by omega, fun _ => ⟨fun w' => absurd w' y, fun _ => rfl⟩, fun y => by omega⟩
  · exact ⟨fun y => by omega, fun y => by omega, fun y => by omega, fun y => by omega, fun y => by omega, fun _ => rfl⟩
theorem p_goesOn (h : Bas x m) : conI G wdX (d + 23) mX9_goesOn [vR 9] x (fun r x' => conI G wdM (e + 1) mX10_goesOn [vR 0] m (fun r' m' => r' = r ∧ Bas x' m' ∧ Stq x m x' m')) := by
  refine conI.of (ls0 := [vR 9]) rfl rfl (Nat.le_of_ble_eq_true rfl) (fun Ret R hret hMx => g_X9_goesOn_0 hMx x ?_)
  refine p_bring (d := d) h (fun x' f w hb h1 => ?_)
  have hR := hb.2.2.1
  have hX := hb.1
  have h16 := hX.1
  have tr : TRn (x'.1 7 4) (foX x') ↔ TRn (m.1 0 3) (foM m) := by
    unfold TRn
    rw [hR.1] at h16 ⊢
    constructor
    · intro z i j k hi hj hk a b
      exact (hR.fo hX (by omega) (by omega)).mp (z i j k hi hj hk ((hR.fo hX (by omega) (by omega)).mpr a) ((hR.fo hX (by omega) (by omega)).mpr b))
    · intro z i j k hi hj hk a b
      exact (hR.fo hX (by omega) (by omega)).mpr (z i j k hi hj hk ((hR.fo hX (by omega) (by omega)).mp a) ((hR.fo hX (by omega) (by omega)).mp b))
  have st : Stq x m x' m := Stq.ux f w h1
  refine c_goOn hX (hb.2.2.2.2.2.2.1 h1).1 (fun z => ⟨fun y => by omega, fun _ => hret _ _ (c_M_goesOn hb.2.1 (fun _ => ⟨rfl, hb, st⟩) (fun y => absurd (tr.mp z) y))⟩) (fun z => ⟨fun _ => hret _ _ (c_M_goesOn hb.2.1 (fun y => absurd (tr.mpr y) z) (fun _ => ⟨rfl, hb, st⟩)), fun y => absurd rfl y⟩)
theorem AF.same {x x' : St} (f : Fr [16] x x') (h : AF x ∧ PX x) : AF x' ∧ PX x' := ⟨h.1.fr f (by decide) (by decide), h.2.fr f (fun k hk => by simp; omega)⟩
theorem p_apart (h : Bas x m) : conI G wdX (d + 23) mX9_apart [vR 9] x (fun r x' => conI G wdM (e + 1) mX10_apart [vR 0] m (fun r' m' => r' = r ∧ Bas x' m' ∧ Stq x m x' m')) := by
  refine conI.of (ls0 := [vR 9]) rfl rfl (Nat.le_of_ble_eq_true rfl) (fun Ret R hret hMx => g_X9_apart_0 hMx x ?_)
  refine p_bring (d := d) h (fun x' f w hb h1 => ?_)
  have hR := hb.2.2.1
  have hX := hb.1
  have h16 := hX.1
  refine c_mostApart (d := d + 4) hX (hb.2.2.2.2.2.2.1 h1).1 (fun N x2 f2 hN => hret _ _ (c_M_apart (d := e) hb.2.1 (fun N' hN' => ⟨?_, ?_, ?_⟩)))
  · rw [hR.1] at hN
    have := hN'.one (fun i j hi hj _ _ => (hR.fo hX hi hj).symm) hN
    omega
  · have f97 : x2.1 9 = x'.1 9 := f2.at (by decide)
    exact ⟨hX.frame f2 (by decide), hb.2.1, hR.fr f2 (Fr.rfl' (S := [])) (by decide) (by decide) ⟨rfl, rfl, rfl, rfl, rfl⟩, fun r hr => by rw [f2.at (by decide)]; exact hb.2.2.2.1 r hr, by rw [f97]; exact hb.2.2.2.2.1, hb.2.2.2.2.2.1, fun z => AF.same f2 (hb.2.2.2.2.2.2.1 h1), hb.2.2.2.2.2.2.2⟩
  · refine Or.inr ⟨by rw [f2.at (by decide), f.at (by decide)], rfl, rfl, fun z => ⟨by rw [f2.at (by decide)]; exact h1, ?_⟩⟩
    rw [← w z] at *
    exact f2.mono (by decide)
theorem p_plan (h : Bas x m) (w : Int) : conI G wdX (d + 23) mX9_plan [vR 9, vI w] x (fun r x' => conI G wdM (e + 3) mX10_plan [vR 0, vI w] m (fun r' m' => r' = r ∧ Bas x' m' ∧ Stq x m x' m')) := by
  refine conI.of (ls0 := [vR 9, vI w]) rfl rfl (Nat.le_of_ble_eq_true rfl) (fun Ret R hret hMx => g_X9_plan_0 hMx w x ?_)
  refine p_bring (d := d) h (fun x' f y hb h1 => ?_)
  have mm : ∀ r : Int, (∀ m' n N f, SamB x' m' n N f → r = plA (m'.1 0 15) (Pc n (pM m') (m'.1 9)) (m'.1 0 18) (gsl (slm m' (m'.1 9)) n) (lsl (slm m' (m'.1 9)) n) w) → conI G wdM (e + 3) mX10_plan [vR 0, vI w] m (fun r' m' => r' = r ∧ Bas x' m' ∧ Stq x m x' m') := by
    intro r k
    refine conI.of (ls0 := [vR 0, vI w, vN, vN, vN, vN]) rfl rfl (Nat.le_of_ble_eq_true rfl) (fun Ret' R' hret' hMm => g_X10_plan_0 hMm w m ?_)
    refine p_plans (e := e) hb (fun m' g a hb' h13 => ?_)
    obtain ⟨n, N, ff, hS⟩ := sam hb'.1 hb'.2.1 hb'.2.2.1 (hb'.2.2.2.2.2.2.1 h1).2 (hb'.2.2.2.2.2.2.2 h13)
    refine plan_loop (d := e + 2) hMm hb'.2.1 hS.1.2.1 hS.1.2.2 hS.2.2.2.1 w (hret' _ _ ⟨(k m' n N ff hS).symm, hb', Stq.up f y h1 g a⟩) n 0 (by omega)
  have gs : ∀ m' n N f, SamB x' m' n N f → gsl (x'.1 21) n = gsl (slm m' (m'.1 9)) n ∧ lsl (x'.1 21) n = lsl (slm m' (m'.1 9)) n := fun m' n N f hS => gsl_c (fun i hi => hS.2.2.2.2.2.2.1 i hi)
  obtain ⟨n0, e7, hPl, hCu⟩ := (hb.2.2.2.2.2.2.1 h1).2
  have hn16 : n0 ≤ 16 := by have := hb.1.1; omega
  have en : ∀ m' n N f, SamB x' m' n N f → n = n0 := fun m' n N f hS => by have := hS.1.1; omega
  have hs : ∀ i, i < n0 → -1 ≤ x'.1 21 i := fun i hi => by
    rw [hPl.2.1 i hi]
    by_cases q : x'.1 20 i < 0
    · exact Int.le_of_eq (if_pos q).symm
    · have e1 : slk x' (x'.1 20) i = x'.1 36 (x'.1 20 i).toNat - x'.1 37 i - wX x' i (x'.1 20 i).toNat := if_neg q
      rcases hPl.1.1.1 i hi with z | z
      · omega
      · have e2 : x'.1 37 i + wX x' i (x'.1 20 i).toNat ≤ x'.1 36 (x'.1 20 i).toNat := z.2.2.2
        omega
  refine ⟨fun z => hret _ _ (mm _ (fun m' n N f hS => ?_)), fun z => hret _ _ (mm _ (fun m' n N f hS => ?_)), fun z => hret _ _ (mm _ (fun m' n N f hS => ?_)), fun z => c_greatestSlack (d := d + 21) e7 hn16 (hret _ _ (mm _ (fun m' n N f hS => ?_))), fun z => c_leastSlack e7 hn16 hs (hret _ _ (mm _ (fun m' n N f hS => ?_))), fun z => hret _ _ (mm _ (fun m' n N f hS => ?_))⟩ <;> unfold plA
  · rw [if_pos z, hS.2.2.2.2.1.1, hS.2.2.2.2.1.2]
  · rw [if_neg (by omega), if_pos z]; exact hS.2.2.2.2.2.1
  · rw [if_neg (by omega), if_neg (by omega), if_pos z, hS.2.2.2.2.2.2.2.1.1, hS.2.2.2.2.2.2.2.2.1.1]
  · rw [if_neg (by omega), if_neg (by omega), if_neg (by omega), if_pos z, ← (gs m' n N f hS).1, en m' n N f hS]
  · rw [if_neg (by omega), if_neg (by omega), if_neg (by omega), if_neg (by omega), if_pos z, ← (gs m' n N f hS).2, en m' n N f hS]
  · rw [if_neg (by omega), if_neg (by omega), if_neg (by omega), if_neg (by omega), if_neg (by omega)]
end Pairs
