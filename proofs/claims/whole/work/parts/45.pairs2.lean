/-! ===== class and model answer alike: rows and SEGMENTS ===== -/
section Pairs2
variable {G : GX} {d e : Nat} {x m : St}
theorem p_block (h : Bas x m) (b i : Int) (hi : r32 i) : conI G wdX (d + 23) mX9_block [vR 9, vI b, vI i] x (fun r x' => conI G wdM (e + 3) mX10_block [vR 0, vI b, vI i] m (fun r' m' => r' = r ∧ Bas x' m' ∧ Stq x m x' m')) := by
  refine conI.of (ls0 := [vR 9, vI b, vI i]) rfl rfl (Nat.le_of_ble_eq_true rfl) (fun Ret R hret hMx => g_X9_block_0 hMx b i x ?_)
  refine p_bring (d := d) h (fun x' f y hb h1 => ?_)
  have mm : ∀ r : Int, (∀ m' n N f, SamB x' m' n N f → (i < 0 ∨ b < 0 ∨ x'.1 4 3 ≤ b → r = -1) ∧ (∀ t, hB n f t = true → b = (bn n f t : Int) → 0 ≤ i → r = itn f t i.toNat)) → conI G wdM (e + 3) mX10_block [vR 0, vI b, vI i] m (fun r' m' => r' = r ∧ Bas x' m' ∧ Stq x m x' m') := by
    intro r k
    refine conI.of (ls0 := [vR 0, vI b, vI i, vN, vN]) rfl rfl (Nat.le_of_ble_eq_true rfl) (fun Ret' R' hret' hMm => g_X10_block_0 hMm b i m ?_)
    refine p_plans (e := e) hb (fun m' g a hb' h13 => ?_)
    obtain ⟨n, N, ff, hS⟩ := sam hb'.1 hb'.2.1 hb'.2.2.1 (hb'.2.2.2.2.2.2.1 h1).2 (hb'.2.2.2.2.2.2.2 h13)
    have kk := k m' n N ff hS
    have e43 := hS.2.2.2.2.1
    have hC := hS.2.1
    have hbu := bn_upto hC n
    have hul := upto_le hC n (Nat.le_refl _)
    have hn := hC.1
    have fin : ∀ v : Int, r = v → Ret' (some (vI v)) m' := fun v q => hret' _ _ ⟨q.symm, hb', Stq.up f y h1 g a⟩
    rw [e43.2]
    refine ⟨⟨by omega, by omega⟩, c_M_in (d := e + 2) b 0 _ (fun q => ⟨fun z => by omega, fun _ => ⟨fun z => ⟨⟨by omega, by omega⟩, ?_⟩, fun z => fin _ (kk.1 (Or.inl (by omega)))⟩⟩) (fun q => ⟨fun _ => fin _ (kk.1 (by rw [e43.1]; omega)), fun z => absurd rfl z⟩)⟩
    obtain ⟨t, ht, hh, et⟩ := fb_ct_kth (p := hB n ff) (k := b.toNat) (n := n) (show b.toNat < bn n ff n by omega)
    have ebn : bn n ff t = b.toNat := et
    have e10 : m'.1 10 b.toNat = (t : Int) := by rw [← ebn]; exact hS.2.2.2.2.2.2.2.2.2.2.2.2.2 t ht hh
    rw [e10]
    exact block_loop (d := e + 2) hMm hC (fun u hu => (hS.2.2.1 u hu).2) ht i ⟨z, hi.2⟩ (fin _ (kk.2 t hh (by omega) z)) i.toNat 0 (by omega)
  obtain ⟨n0, e7, hPl, hCu⟩ := (hb.2.2.2.2.2.2.1 h1).2
  have hX := hb.1
  have hn16 : n0 ≤ 16 := by have := hX.1; omega
  have hC : Chn n0 (nz n0 (x'.1 20)) (x'.1 36) := Chn.of hn16 hPl.1.1 (fun i j hi hj q => foX_bg hX (by omega) (by omega) q)
  by_cases q : i < 0 ∨ b < 0 ∨ x'.1 4 3 ≤ b
  · refine c_tripAt_0 (d := d + 21) b i q (hret _ _ (mm _ (fun m' n N f hS => ⟨fun _ => rfl, fun t ht eb z => ?_⟩)))
    have := bn_lt ht
    have := hS.2.2.2.2.1.1
    omega
  · have e43 := hPl.2.2.2.1
    obtain ⟨t, ht, hh, et⟩ := fb_ct_kth (p := hB n0 (nz n0 (x'.1 20))) (k := b.toNat) (n := n0) (show b.toNat < bn n0 (nz n0 (x'.1 20)) n0 by omega)
    have ebn : bn n0 (nz n0 (x'.1 20)) t = b.toNat := et
    have eb : b = ((bn n0 (nz n0 (x'.1 20)) t : Nat) : Int) := by omega
    have ei : i = ((i.toNat : Nat) : Int) := by omega
    have goal : conI G wdX (d + 22) mX4_tripAt [vR 4, vI (bn n0 (nz n0 (x'.1 20)) t : Nat), vI (i.toNat : Nat)] x' (fun x2 σ2 => Ret (some (vI x2)) σ2) := by
      refine c_tripAt (d := d + 21) hC e43 hPl.2.2.2.2.1 hPl.2.2.2.2.2 hh i.toNat (hret _ _ (mm _ (fun m' n N f hS => ⟨fun z => absurd z q, fun t' ht' eb' _ => ?_⟩)))
      have en : n = n0 := by have := hS.1.1; omega
      subst en
      have hu : ∀ u, u < n → nz n (x'.1 20) u = f u := fun u hu => by rw [show nz n (x'.1 20) u = x'.1 20 u from if_pos hu]; exact (hS.2.2.1 u hu).1
      -- heads and rows see the first n alone
      have hhd : ∀ u, hB n (nz n (x'.1 20)) u = hB n f u := fun u => by
        unfold hB
        congr 1
        exact propext ⟨fun z => ⟨z.1, fun i hi y => z.2 i hi (by rw [hu i hi]; exact y)⟩, fun z => ⟨z.1, fun i hi y => z.2 i hi (by rw [← hu i hi]; exact y)⟩⟩
      have hbn : ∀ u, bn n (nz n (x'.1 20)) u = bn n f u := fun u => fb_ct_cong (fun k _ => hhd k)
      have hit : ∀ k, itn (nz n (x'.1 20)) t k = itn f t k := fun k => by
        induction k with
        | zero => rfl
        | succ k ih =>
          show (if itn (nz n (x'.1 20)) t k < 0 then -1 else nz n (x'.1 20) (itn (nz n (x'.1 20)) t k).toNat) = (if itn f t k < 0 then -1 else f (itn f t k).toNat)
          rw [ih]
          by_cases w : itn f t k < 0
          · rw [if_pos w, if_pos w]
          · have r := itn_rng hS.2.1 ht k
            rw [if_neg w, if_neg w, hu _ (by omega)]
      have ett : t = t' := fb_ct_kth_one (p := hB n f) (by rw [← hhd]; exact hh) ht' (by
        show bn n f t = bn n f t'
        rw [← hbn]; omega)
      rw [hit, ett]
    rw [← eb, ← ei] at goal
    exact goal
end Pairs2
