section Clash
variable {G : GX} {d e : Nat} {x m : St}
theorem seg_eq {n N : Nat} {f : Nat → Int} (hX : XB x) (hR : BR x m) (hS : SamB x m n N f) {s k : Nat} (hs : s < N) (hk : k < N) : bgX x s = bgM m s ∧ enX x s = enM m s ∧ gwX x s k = gwM m s k := by
  have a := hS.2.2.2.2.2.2.2.2.2.2.1 s hs
  have b := hS.2.2.2.2.2.2.2.2.2.2.1 k hk
  have g := hS.2.2.2.2.2.2.2.2.1.2.2.1 s hs
  have g' := hS.2.2.2.2.2.2.2.2.1.2.2.1 k hk
  refine ⟨?_, ?_, ?_⟩
  · show x.1 36 (x.1 30 s).toNat = m.1 6 (m.1 13 s).toNat
    rw [a.2.1, (hR.2.1 _ (by omega)).2.2.1]
  · show x.1 37 (x.1 31 s).toNat = m.1 7 (m.1 14 s).toNat
    rw [a.2.2.1, (hR.2.1 _ (by omega)).2.2.2]
  · show wX x (x.1 31 s).toNat (x.1 30 k).toNat = wM m (m.1 14 s).toNat (m.1 13 k).toNat
    rw [a.2.2.1, b.2.1]
    exact hR.w hX (by omega) (by omega)
theorem lw_eq {n N : Nat} {f : Nat → Int} (hX : XB x) (hR : BR x m) (hS : SamB x m n N f) {a b c k : Nat} (ha : a < N) (hb : b < N) (hc : c < N) (hk : k < N) :
    lw1 (bgX x) (enX x) (x.1 0 0) (x.1 0 1) a b = lw1 (bgM m) (enM m) (m.1 0 8) (m.1 0 9) a b ∧
    lw2 (bgX x) (enX x) (gwX x) (x.1 0 0) (x.1 0 1) (x.1 0 2) (x.1 0 3) a b c k = lw2 (bgM m) (enM m) (gwM m) (m.1 0 8) (m.1 0 9) (m.1 0 10) (m.1 0 11) a b c k := by
  have l := hR.2.2.2.2
  have ea := seg_eq hX hR hS ha hb
  have eb := seg_eq hX hR hS hb hc
  have ec := seg_eq hX hR hS hc hk
  have ek := seg_eq hX hR hS hk ha
  have c1 : chg (bgX x) (enX x) (gwX x) (x.1 0 2) k a = chg (bgM m) (enM m) (gwM m) (m.1 0 10) k a := by
    unfold chg; rw [ek.2.2, ek.2.1, ea.1, l.2.2.1]
  have c2 : chg (bgX x) (enX x) (gwX x) (x.1 0 2) b c = chg (bgM m) (enM m) (gwM m) (m.1 0 10) b c := by
    unfold chg; rw [eb.2.2, eb.2.1, ec.1, l.2.2.1]
  constructor
  · unfold lw1; rw [eb.2.1, ea.1, l.1, l.2.1]
  · unfold lw2; rw [c1, c2, ea.1, eb.2.1, ec.1, ek.2.1, l.1, l.2.1, l.2.2.2]
theorem p_clash (h : Bas x m) (a b c k : Int) : conI G wdX (d + 23) mX9_clash [vR 9, vI a, vI b, vI c, vI k] x (fun r x' => conI G wdM (e + 3) mX10_clash [vR 0, vI a, vI b, vI c, vI k] m (fun r' m' => r' = r ∧ Bas x' m' ∧ Stq x m x' m')) := by
  refine conI.of (ls0 := [vR 9, vI a, vI b, vI c, vI k, vN]) rfl rfl (Nat.le_of_ble_eq_true rfl) (fun Ret R hret hMx => g_X9_clash_0 hMx a b c k x ?_)
  refine p_bring (d := d) h (fun x' f y hb h1 => ?_)
  have mm : ∀ r : Int, (∀ m' n N f, Bas x' m' → SamB x' m' n N f → (pce N (m'.1 12) a b → (c = -1 → r = lw1 (bgM m') (enM m') (m'.1 0 8) (m'.1 0 9) a.toNat b.toNat) ∧ (¬ c = -1 → (pce N (m'.1 12) c k ∧ (b < c ∨ k < a) → r = lw2 (bgM m') (enM m') (gwM m') (m'.1 0 8) (m'.1 0 9) (m'.1 0 10) (m'.1 0 11) a.toNat b.toNat c.toNat k.toNat) ∧ (¬ (pce N (m'.1 12) c k ∧ (b < c ∨ k < a)) → r = -1))) ∧ (¬ pce N (m'.1 12) a b → r = -1)) → conI G wdM (e + 3) mX10_clash [vR 0, vI a, vI b, vI c, vI k] m (fun r' m' => r' = r ∧ Bas x' m' ∧ Stq x m x' m') := by
    intro r kr
    refine conI.of (ls0 := [vR 0, vI a, vI b, vI c, vI k]) rfl rfl (Nat.le_of_ble_eq_true rfl) (fun Ret' R' hret' hMm => g_X10_clash_0 hMm a b c k m ?_)
    refine p_plans (e := e) hb (fun m' g aa hb' h13 => ?_)
    obtain ⟨n, N, ff, hS⟩ := sam hb'.1 hb'.2.1 hb'.2.2.1 (hb'.2.2.2.2.2.2.1 h1).2 (hb'.2.2.2.2.2.2.2 h13)
    have kk := kr m' n N ff hb' hS
    have hSM := hS.2.2.2.2.2.2.2.2.1
    have fin : ∀ v : Int, r = v → Ret' (some (vI v)) m' := fun v q => hret' _ _ ⟨q.symm, hb', Stq.up f y h1 g aa⟩
    have bge : ∀ u v : Int, pce N (m'.1 12) u v → bgM m' u.toNat < enM m' v.toNat := fun u v q => by
      have q1 := q.1
      have q2 := q.2.1
      have q3 := q.2.2.1
      have z := (hSM.2.2.2 u.toNat v.toNat (by omega) (by omega)).2 q.2.2.2
      have w := (hSM.2.2.1 u.toNat (by omega)).2.2
      have z2 := z.2
      show m'.1 6 (m'.1 13 u.toNat).toNat < m'.1 7 (m'.1 14 v.toNat).toNat
      omega
    refine c_M_isPiece (d := e + 1) hSM a b (fun p => ⟨fun z => by omega, fun _ => ⟨fun z => ?_, fun z => ?_⟩⟩) (fun p => ⟨fun _ => fin _ (kk.2 p), fun z => absurd rfl z⟩)
    · have p1 := p.1
      have p2 := p.2.1
      have p3 := p.2.2.1
      have goal : conI G wdM (e + 2) mX10_broken [vR 0, vI (a.toNat : Int), vI (b.toNat : Int), vI c, vI k] m' (fun x3 σ3 => Ret' (some (vI x3)) σ3) := c_M_broken1 (d := e + 1) hb'.2.1 hSM (by omega) (by omega) c k (by omega) (fin _ ((kk.1 p).1 z))
      rw [show (a.toNat : Int) = a by omega, show (b.toNat : Int) = b by omega] at goal
      exact goal
    · have two : pce N (m'.1 12) c k → (b < c ∨ k < a) → conI G wdM (e + 2) mX10_broken [vR 0, vI a, vI b, vI c, vI k] m' (fun x3 σ3 => Ret' (some (vI x3)) σ3) := fun p' ap => by
        have p1 := p.1
        have p2 := p.2.1
        have p3 := p.2.2.1
        have r1 := p'.1
        have r2 := p'.2.1
        have r3 := p'.2.2.1
        have goal : conI G wdM (e + 2) mX10_broken [vR 0, vI (a.toNat : Int), vI (b.toNat : Int), vI (c.toNat : Int), vI (k.toNat : Int)] m' (fun x3 σ3 => Ret' (some (vI x3)) σ3) := c_M_broken2 (d := e + 1) hb'.2.1 hSM (by omega) (by omega) (by omega) (by omega) (bge a b p) (bge c k p') (fin _ (((kk.1 p).2 z).1 ⟨p', ap⟩))
        rw [show (a.toNat : Int) = a by omega, show (b.toNat : Int) = b by omega, show (c.toNat : Int) = c by omega, show (k.toNat : Int) = k by omega] at goal
        exact goal
      refine c_M_isPiece (d := e + 1) hSM c k (fun p' => ⟨fun w => by omega, fun _ => ⟨fun w => two p' (Or.inl w), fun w => ⟨fun w2 => two p' (Or.inr w2), fun w2 => fin _ (((kk.1 p).2 z).2 (fun q => by
        rcases q.2 with u | u
        · exact w u
        · exact w2 u))⟩⟩⟩) (fun p' => ⟨fun _ => fin _ (((kk.1 p).2 z).2 (fun q => p' q.1)), fun w => absurd rfl w⟩)
  -- the class
  obtain ⟨N0, hSX⟩ : ∃ N0, SX x' N0 := by
    have hpx := (hb.2.2.2.2.2.2.1 h1).2
    obtain ⟨n0, e7, hPl, hCu⟩ := hpx
    have hX := hb.1
    have hn16 : n0 ≤ 16 := by have := hX.1; omega
    have hC : Chn n0 (nz n0 (x'.1 20)) (x'.1 36) := Chn.of hn16 hPl.1.1 (fun i j hi hj q => foX_bg hX (by omega) (by omega) q)
    refine ⟨_, hCu.1, (numX hPl.2.2.2.2.1 hCu hC).sg hC (fun u hu => hX.2.2.1 u (by omega)) (fun u hu q => ?_)⟩
    rw [show nz n0 (x'.1 20) u = x'.1 20 u from if_pos hu] at q ⊢
    rcases hPl.1.1.1 u hu with z | z
    · omega
    · have w := hX.w (i := u) (j := (x'.1 20 u).toNat) (by omega) (by omega)
      have y1 := z.2.2.1
      have y2 : x'.1 37 u + wX x' u (x'.1 20 u).toNat ≤ x'.1 36 (x'.1 20 u).toNat := z.2.2.2
      omega
  have eN : ∀ m' n N f, SamB x' m' n N f → N = N0 := fun m' n N f hS => by
    have a1 := hS.2.2.2.2.2.2.2.1.1
    have a2 := hSX.1
    omega
  have ep : ∀ m' n N f, SamB x' m' n N f → ∀ u v, (pce N (m'.1 12) u v ↔ pce N0 (x'.1 29) u v) := fun m' n N f hS u v => by
    have en := eN m' n N f hS
    subst en
    unfold pce
    constructor
    · rintro ⟨q1, q2, q3, q4⟩
      exact ⟨q1, q2, q3, by rw [(hS.2.2.2.2.2.2.2.2.2.2.1 u.toNat (by omega)).1, (hS.2.2.2.2.2.2.2.2.2.2.1 v.toNat (by omega)).1]; exact q4⟩
    · rintro ⟨q1, q2, q3, q4⟩
      exact ⟨q1, q2, q3, by rw [← (hS.2.2.2.2.2.2.2.2.2.2.1 u.toNat (by omega)).1, ← (hS.2.2.2.2.2.2.2.2.2.2.1 v.toNat (by omega)).1]; exact q4⟩
  refine c_X6_isPiece (d := d + 21) hSX a b (fun p => ⟨fun _ => ?_, fun z => by omega⟩) (fun p => ⟨fun z => absurd rfl z, fun _ => hret _ _ (mm _ (fun m' n N f _ hS => ⟨fun q => absurd ((ep m' n N f hS a b).mp q) p, fun _ => rfl⟩))⟩)
  have p1 := p.1
  have p2 := p.2.1
  have p3 := p.2.2.1
  have behind : ∀ w0 : Int, (¬ w0 = 0 ↔ (b < c ∨ k < a)) → ¬ c = -1 → R 49 [vR 9, vI a, vI b, vI c, vI k, vN] [vI w0] x' := fun w0 hw hc => by
    refine g_X9_clash_49 hMx a b c k w0 x' (c_X6_isPiece (d := d + 21) hSX c k (fun p' => ⟨fun z => by omega, fun _ => ⟨fun z => ?_, fun z => hret _ _ (mm _ (fun m' n N f _ hS => ⟨fun _ => ⟨fun y => absurd y hc, fun _ => ⟨fun y => absurd (hw.mpr y.2) (by omega), fun _ => rfl⟩⟩, fun y => absurd ((ep m' n N f hS a b).mpr p) y⟩))⟩⟩) (fun p' => ⟨fun _ => hret _ _ (mm _ (fun m' n N f _ hS => ⟨fun _ => ⟨fun y => absurd y hc, fun _ => ⟨fun y => absurd ((ep m' n N f hS c k).mp y.1) p', fun _ => rfl⟩⟩, fun y => absurd ((ep m' n N f hS a b).mpr p) y⟩)), fun z => absurd rfl z⟩))
    have r1 := p'.1
    have r2 := p'.2.1
    have r3 := p'.2.2.1
    have goal : conI G wdX (d + 22) mX0_brokenByTwo [vR 0, vI (a.toNat : Int), vI (b.toNat : Int), vI (c.toNat : Int), vI (k.toNat : Int)] x' (fun x2 σ2 => Ret (some (vI x2)) σ2) := c_brokenByTwo (d := d + 19) hb.1 hSX (by omega) (by omega) (by omega) (by omega) (hret _ _ (mm _ (fun m' n N f hbb hS => ⟨fun _ => ⟨fun y => absurd y hc, fun _ => ⟨fun _ => ?_, fun y => absurd ⟨(ep m' n N f hS c k).mpr p', hw.mp z⟩ y⟩⟩, fun y => absurd ((ep m' n N f hS a b).mpr p) y⟩)))
    · rw [show (a.toNat : Int) = a by omega, show (b.toNat : Int) = b by omega, show (c.toNat : Int) = c by omega, show (k.toNat : Int) = k by omega] at goal
      exact goal
    · have en := eN m' n N f hS
      exact (lw_eq hbb.1 hbb.2.2.1 hS (a := a.toNat) (b := b.toNat) (c := c.toNat) (k := k.toNat) (by omega) (by omega) (by omega) (by omega)).2
  refine ⟨fun hc => ⟨fun z => behind 1 ⟨fun _ => Or.inl z, fun _ => by decide⟩ hc, fun z => ⟨fun z2 => behind 0 ⟨fun y => absurd rfl y, fun y => by omega⟩ hc, fun z2 => behind 1 ⟨fun _ => Or.inr (by omega), fun _ => by decide⟩ hc⟩⟩, fun hc => ?_⟩
  have goal : conI G wdX (d + 22) mX0_brokenByOne [vR 0, vI (a.toNat : Int), vI (b.toNat : Int)] x' (fun x3 σ3 => Ret (some (vI x3)) σ3) := c_brokenByOne (d := d + 20) hb.1 hSX (by omega) (by omega) (hret _ _ (mm _ (fun m' n N f hbb hS => ⟨fun _ => ⟨fun _ => ?_, fun y => absurd hc y⟩, fun y => absurd ((ep m' n N f hS a b).mpr p) y⟩)))
  · rw [show (a.toNat : Int) = a by omega, show (b.toNat : Int) = b by omega] at goal
    exact goal
  · have en := eN m' n N f hS
    exact (lw_eq hbb.1 hbb.2.2.1 hS (a := a.toNat) (b := b.toNat) (c := a.toNat) (k := a.toNat) (by omega) (by omega) (by omega) (by omega)).1
end Clash
