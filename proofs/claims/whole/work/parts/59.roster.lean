/-! ===== class and model tell the same roster ===== -/
theorem LD_eq {x m : St} {n N : Nat} {f : Nat → Int} (hX : XB x) (hR : BR x m) (hS : SamB x m n N f) : LDX x N = LDM m N := by
  have sg := hS.2.2.2.2.2.2.2.2.2.2.1
  have ep : ∀ u v, (pce N (x.1 29) u v ↔ pce N (m.1 12) u v) := fun u v => by
    unfold pce
    constructor
    · rintro ⟨q1, q2, q3, q4⟩
      exact ⟨q1, q2, q3, by rw [← (sg u.toNat (by omega)).1, ← (sg v.toNat (by omega)).1]; exact q4⟩
    · rintro ⟨q1, q2, q3, q4⟩
      exact ⟨q1, q2, q3, by rw [(sg u.toNat (by omega)).1, (sg v.toNat (by omega)).1]; exact q4⟩
  have epos : ∀ δ, posD N (x.1 29) δ ↔ posD N (m.1 12) δ := fun δ => by
    unfold posD
    rw [ep, ep]
  funext δ
  apply propext
  have law : posD N (x.1 29) δ → ∀ (l1 : Nat → Nat → Int), True → (lawD (L1f (x.1 30) (x.1 31) (x.1 36) (x.1 37) (x.1 0 0) (x.1 0 1)) (L2f (x.1 30) (x.1 31) (x.1 36) (x.1 37) (gwX x) (x.1 0 0) (x.1 0 1) (x.1 0 2) (x.1 0 3)) δ ↔ lawD (L1f (m.1 13) (m.1 14) (m.1 6) (m.1 7) (m.1 0 8) (m.1 0 9)) (L2f (m.1 13) (m.1 14) (m.1 6) (m.1 7) (gwM m) (m.1 0 8) (m.1 0 9) (m.1 0 10) (m.1 0 11)) δ) := fun hp _ _ => by
    have r := hp.rg
    obtain ⟨r1, r2, r3, r4⟩ := r
    have e1 : L1f (x.1 30) (x.1 31) (x.1 36) (x.1 37) (x.1 0 0) (x.1 0 1) δ.1.toNat δ.2.1.toNat = L1f (m.1 13) (m.1 14) (m.1 6) (m.1 7) (m.1 0 8) (m.1 0 9) δ.1.toNat δ.2.1.toNat := (lw_eq hX hR hS (a := δ.1.toNat) (b := δ.2.1.toNat) (c := δ.1.toNat) (k := δ.1.toNat) (by omega) (by omega) (by omega) (by omega)).1
    unfold lawD
    rw [e1]
    rcases r4 with w | w
    · exact ⟨fun z => ⟨z.1, fun y => absurd w.1 y⟩, fun z => ⟨z.1, fun y => absurd w.1 y⟩⟩
    · have e2 : L2f (x.1 30) (x.1 31) (x.1 36) (x.1 37) (gwX x) (x.1 0 0) (x.1 0 1) (x.1 0 2) (x.1 0 3) δ.1.toNat δ.2.1.toNat δ.2.2.1.toNat δ.2.2.2.toNat = L2f (m.1 13) (m.1 14) (m.1 6) (m.1 7) (gwM m) (m.1 0 8) (m.1 0 9) (m.1 0 10) (m.1 0 11) δ.1.toNat δ.2.1.toNat δ.2.2.1.toNat δ.2.2.2.toNat := (lw_eq hX hR hS (a := δ.1.toNat) (b := δ.2.1.toNat) (c := δ.2.2.1.toNat) (k := δ.2.2.2.toNat) (by omega) (by omega) (by omega) (by omega)).2
      rw [e2]
  constructor
  · rintro ⟨h1, h2⟩
    exact ⟨(epos δ).mp h1, (law h1 (fun _ _ => 0) trivial).mp h2⟩
  · rintro ⟨h1, h2⟩
    have h1' := (epos δ).mpr h1
    exact ⟨h1', (law h1' (fun _ _ => 0) trivial).mpr h2⟩
theorem PX.sx {x : St} (hX : XB x) (h : PX x) : ∃ N, SX x N := by
  obtain ⟨n0, e7, hPl, hCu⟩ := h
  have hn16 : n0 ≤ 16 := by have := hX.1; omega
  have hC : Chn n0 (nz n0 (x.1 20)) (x.1 36) := Chn.of hn16 hPl.1.1 (fun i j hi hj q => foX_bg hX (by omega) (by omega) q)
  refine ⟨_, hCu.1, (numX hPl.2.2.2.2.1 hCu hC).sg hC (fun u hu => hX.2.2.1 u (by omega)) (fun u hu q => ?_)⟩
  rw [show nz n0 (x.1 20) u = x.1 20 u from if_pos hu] at q ⊢
  rcases hPl.1.1.1 u hu with z | z
  · omega
  · have w := hX.w (i := u) (j := (x.1 20 u).toNat) (by omega) (by omega)
    have y1 := z.2.2.1
    have y2 : x.1 37 u + wX x u (x.1 20 u).toNat ≤ x.1 36 (x.1 20 u).toNat := z.2.2.2
    omega
section Roster
variable {G : GX} {d e : Nat} {x m : St}
theorem p_roster (h : Bas x m) (hR : RR x m) : conI G wdX (d + 23) mX9_roster [vR 9] x (fun r x' => conI G wdM (e + 5) mX10_roster [vR 0] m (fun r' m' => r' = r ∧ Bas x' m' ∧ RR x' m')) := by
  refine conI.of (ls0 := [vR 9]) rfl rfl (Nat.le_of_ble_eq_true rfl) (fun Ret R hret hMx => g_X9_roster_0 hMx x ?_)
  refine p_bring (d := d) h (fun x1 f1 w1 hb1 h97 => ?_)
  have e5 : x1.1 5 = x.1 5 := f1.at (by decide)
  have k59 : x1.1 5 9 = 0 ∨ x1.1 5 9 = 1 := by
    rw [e5]
    rcases hR with z | z
    · exact Or.inl z.1
    · exact Or.inr z.1
  have kRX : x1.1 5 9 = 1 → RX x1 := fun z => by
    rw [e5] at z
    rcases hR with y | y
    · omega
    · rw [w1 y.2.1]; exact y.2.2.1
  obtain ⟨N0, hSX0⟩ := PX.sx hb1.1 (hb1.2.2.2.2.2.2.1 h97).2
  refine c_X5_tell (d := d + 6) hb1.1 hSX0 k59 kRX (fun x2 f2 k9 hRX => hret _ _ ?_)
  have hb2 : Bas x2 m := by
    obtain ⟨h1, h2, h3, h4, h5, h6, h7, h8⟩ := hb1
    exact ⟨h1.frame f2 (by decide), h2, h3.fr f2 (Fr.rfl' (S := [])) (by decide) (by decide) ⟨rfl, rfl, rfl, rfl, rfl⟩, fun r hr => by rw [f2.at (by decide)]; exact h4 r hr, by rw [f2.at (by decide)]; exact h5, h6, fun z => ⟨AF.fr (h7 h97).1 f2 (by decide) (by decide), PX.fr (h7 h97).2 f2 (fun k hk => by simp; omega)⟩, h8⟩
  have k97 : x2.1 9 7 = 1 := by rw [f2.at (by decide)]; exact h97
  refine conI.of (ls0 := [vR 0, vN, vN, vN]) rfl rfl (Nat.le_of_ble_eq_true rfl) (fun Ret' R' hret' hMm => g_X10_roster_0 hMm m ?_)
  refine p_plans (e := e + 2) hb2 (fun m1 g1 a1 hb3 h13 τ1 t1 => ?_)
  obtain ⟨n, N, ff, hS⟩ := sam hb3.1 hb3.2.1 hb3.2.2.1 (hb3.2.2.2.2.2.2.1 k97).2 (hb3.2.2.2.2.2.2.2 h13)
  have hSX := hS.2.2.2.2.2.2.2.1
  have hSM := hS.2.2.2.2.2.2.2.2.1
  have mt1 : MT m1 τ1 := MT.rfl'.p25 t1
  have c25 : τ1.1 0 25 = 0 := by rw [t1, sI_s, uf_s]
  have eL : LDX x2 N = LDM τ1 N := by rw [LDM.mt mt1]; exact LD_eq hb3.1 hb3.2.2.1 hS
  have hSM1 : SM τ1 N := hSM.mt mt1
  have hMB1 : MB τ1 := hb3.2.1.mt mt1
  have hbT : Bas x2 τ1 := hb3.mt mt1
  obtain ⟨N', hSX', hrx⟩ := hRX
  have hRX : RX x2 := ⟨N', hSX', hrx⟩
  have eN : N' = N := by have := hSX'.1; have := hSX.1; omega
  subst eN
  have hs1 := hSM1.1
  refine ⟨fun q12 => ?_, fun q12 => ?_⟩
  · have hN : N' ≤ 12 := by omega
    have hrg : ∀ δ : DT, LDM τ1 N' δ → rgD N' δ := fun δ h => h.1.rg
    rcases hrx with z | ⟨_, hrx⟩
    · omega
    rw [eL] at hrx
    refine c_rosters (d := e) hMB1 hSM1 hN (fun σ2 mt2 m25 hLT => ?_)
    have hp : 2 ^ N' ≤ 4096 := Nat.pow_le_pow_right (n := 2) (by decide) hN
    have hp0 : 0 < 2 ^ N' := Nat.pow_pos (by decide)
    have e2 : (2 : Int) ^ N' = ((2 ^ N' : Nat) : Int) := by simp
    rw [mt2.2 18 (by decide), hs1, (bU_tb N' (by omega)).1, e2]
    refine ⟨⟨by omega, by omega⟩, fun u1 eu => ⟨⟨by omega, by omega⟩, ?_⟩⟩
    have eu' : u1 = ((2 ^ N' - 1 : Nat) : Int) := by omega
    rw [eu', Int.toNat_natCast]
    have hU := hLT (2 ^ N' - 1) (by omega)
    rw [pS_full hN] at hU
    have hb4 : Bas x2 σ2 := hbT.mt mt2
    rcases hrx with ⟨z1, z2⟩ | ⟨k, z1, z2, q, z3, z4⟩
    · rcases hU with w | ⟨k, w, w2⟩
      · rw [w.1]
        exact ⟨fun y => by omega, fun _ => hret' _ _ ⟨z1.symm, hb4, Or.inr ⟨k9, k97, hRX, Or.inl ⟨by omega, by rw [m25]; exact c25⟩⟩⟩⟩
      · exact absurd w2.1 (z2 k)
    · rcases hU with w | ⟨k', w, w2⟩
      · exact absurd z2.1 (w.2 k)
      · have ek : k' = k := w2.one z2
        subst ek
        rw [w]
        have hk12 : k' ≤ 12 := by
          have a := Pt.le hrg z2.1
          have b := fb_ct_le (pC N' 0) N'
          omega
        have eL2 : LDM σ2 N' = LDM τ1 N' := LDM.mt mt2 N'
        refine ⟨fun _ => ?_, fun y => by omega⟩
        refine roster_loop (d := e + 1) (N := N') hMm σ2 (hMB1.mt mt2) (hSM1.mt mt2) hN (by rw [eL2]; exact hLT) k' (2 ^ N' - 1) 0 (by omega) (by omega) (by rw [eL2, pS_full hN]; exact z2) σ2 MT.rfl' rfl (by rw [m25]; exact c25) (fun σ3 q' y1 y2 _ y4 y5 => hret' _ _ ?_)
        rw [Nat.zero_add] at y2 ⊢
        rw [eL2, pS_full hN] at y4
        have eq : ∀ i, i < k' → q i = q' i := Rst.one hN hrg z3 y4
        refine ⟨z1.symm, hb4.mt y1, Or.inr ⟨k9, k97, hRX, Or.inr ⟨k', q, hk12, z1, y2, fun i hi => ?_⟩⟩⟩
        have v := y5 i hi
        rw [Nat.zero_add, ← eq i hi] at v
        have r := hrg _ (z3.all i hi)
        refine ⟨?_, z4 i hi, v⟩
        unfold rgD at r ⊢
        omega
  · rcases hrx with z | z
    · exact hret' _ _ ⟨z.2.symm, hbT, Or.inr ⟨k9, k97, hRX, Or.inl ⟨by omega, c25⟩⟩⟩
    · omega
end Roster
