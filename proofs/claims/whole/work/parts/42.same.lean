/-! ===== class and model hold the same plan ===== -/
def SamB (x m : St) (n N : Nat) (f : Nat → Int) : Prop :=
  (x.1 7 4 = (n : Int) ∧ m.1 0 3 = (n : Int) ∧ n ≤ 16) ∧ Chn n f (x.1 36) ∧ (∀ u, u < n → x.1 20 u = f u ∧ m.1 9 u = f u) ∧ OkP n (foM m) (m.1 9) ∧
  (x.1 4 3 = (bn n f n : Int) ∧ m.1 0 15 = (bn n f n : Int)) ∧ x.1 4 4 = Pc n (pM m) (m.1 9) ∧ (∀ u, u < n → x.1 21 u = slm m (m.1 9) u) ∧
  SX x N ∧ SM m N ∧ (∀ u, u < n → x.1 22 u = m.1 11 u ∧ x.1 33 u = m.1 16 u) ∧ (∀ s, s < N → x.1 29 s = m.1 12 s ∧ x.1 30 s = m.1 13 s ∧ x.1 31 s = m.1 14 s ∧ x.1 32 s = m.1 15 s) ∧
  RwX n f n (x.1 22) (x.1 23) (x.1 24) ∧ x.1 24 (bn n f n) = (upto n f n : Int) ∧ ∀ t, t < n → hB n f t = true → m.1 10 (bn n f t) = (t : Int)
theorem sam {x m : St} (hX : XB x) (hM : MB m) (hR : BR x m) (hx : PX x) (hm : PMs m) : ∃ n N f, SamB x m n N f := by
  obtain ⟨n, h7, hPl, hCu⟩ := hx
  have hn16 : n ≤ 16 := by have := hX.1; omega
  have h3 : m.1 0 3 = (n : Int) := by rw [← hR.1]; exact h7
  unfold PMs at hm
  rw [h3, Int.toNat_natCast] at hm
  obtain ⟨mp, mr, mb, ms⟩ := hm
  have hfo : ∀ i j, i < n → j < n → (foX x i j ↔ foM m i j) := fun i j hi hj => hR.fo hX (by omega) (by omega)
  have hpr : ∀ i j, i < n → j < n → foX x i j → pX x i j = pM m i j := fun i j hi hj q => hR.p hX (by omega) (by omega) q.1
  have px : IsPlan n (foM m) (pM m) (x.1 20) := hPl.1.congr hfo hpr
  have e20 : ∀ u, u < n → x.1 20 u = m.1 9 u := px.one hn16 mp
  have enz : nz n (x.1 20) = nz n (m.1 9) := by
    funext u
    show (if u < n then x.1 20 u else -1) = if u < n then m.1 9 u else -1
    by_cases q : u < n
    · rw [if_pos q, if_pos q, e20 u q]
    · rw [if_neg q, if_neg q]
  have hC : Chn n (nz n (m.1 9)) (x.1 36) := by
    rw [← enz]
    exact Chn.of hn16 hPl.1.1 (fun i j hi hj q => foX_bg hX (by omega) (by omega) q)
  have hrl : ∀ u, u < n → rlM m u = rlX x u := fun u hu => by
    unfold rlM rlX
    have a := hX.2.1 u (by omega)
    rw [(hR.2.1 u (by omega)).2.1] at a ⊢
    rw [hR.2.2.2.1 _ (by omega)]
  unfold PlX at hPl
  rw [enz] at hPl hCu
  have nX := numX hPl.2.2.2.2.1 hCu hC
  have nM : NumT n (nz n (m.1 9)) (rlX x) n (m.1 10) (m.1 11) (m.1 16) (m.1 12) (m.1 13) (m.1 14) (m.1 15) := NumT.re hC hrl mr
  rw [bs_c hC hrl] at ms
  have hen : ∀ u, u < n → 0 ≤ nz n (m.1 9) u → x.1 37 u ≤ x.1 36 (nz n (m.1 9) u).toNat := fun u hu q => by
    rw [show nz n (m.1 9) u = m.1 9 u from if_pos hu] at q ⊢
    rcases mp.1.1 u hu with z | z
    · omega
    · have y := (hfo u _ hu (by omega)).mpr z.2.2
      have w := hX.w (i := u) (j := (m.1 9 u).toNat) (by omega) (by omega)
      have y1 := y.1
      have y2 := y.2
      omega
  have hbe : ∀ u, u < n → x.1 36 u < x.1 37 u := fun u hu => hX.2.2.1 u (by omega)
  have sgx := nX.sg (en := x.1 37) hC hbe hen
  have seg : ∀ s, s < bs n (nz n (m.1 9)) (rlX x) n → x.1 29 s = m.1 12 s ∧ x.1 30 s = m.1 13 s ∧ x.1 31 s = m.1 14 s ∧ x.1 32 s = m.1 15 s := fun s hs => by
    obtain ⟨t, i, a1, a2, a3, a4, a5⟩ := seg_all hC (rlX x) n (Nat.le_refl _) s hs
    have p := ((nX t a1 a2).2 i a3).2 (Rc_sc a3)
    have q := ((nM t a1 a2).2 i a3).2 (Rc_sc a3)
    rw [← a5] at p q
    have p3 := p.2.2 a4
    have q3 := q.2.2 a4
    rw [p.1, p.2.1, p3.1, p3.2, q.1, q.2.1, q3.1, q3.2]
    exact ⟨rfl, rfl, rfl, rfl⟩
  have sgm : SG (bs n (nz n (m.1 9)) (rlX x) n) (m.1 12) (m.1 13) (m.1 14) (m.1 6) (m.1 7) := by
    refine ⟨sgx.1, fun s hs => ?_, fun s s' h1 h2 => ?_⟩
    · have a := sgx.2.1 s hs
      have b := seg s hs
      rw [b.2.1, b.2.2.1] at a
      rw [(hR.2.1 _ (by omega)).2.2.1, (hR.2.1 (m.1 14 s).toNat (by omega)).2.2.2] at a
      exact a
    · have a := sgx.2.2 s s' h1 h2
      have b := seg s (by omega)
      have b' := seg s' h2
      have c := sgx.2.1 s (by omega)
      have c' := sgx.2.1 s' h2
      rw [b.2.1, b.2.2.1] at c
      rw [b'.2.1, b'.2.2.1] at c'
      rw [b.1, b.2.1, b.2.2.1, b'.1, b'.2.1, b'.2.2.1, (hR.2.1 (m.1 13 s).toNat (by omega)).2.2.1, (hR.2.1 (m.1 13 s').toNat (by omega)).2.2.1, (hR.2.1 (m.1 14 s).toNat (by omega)).2.2.2, (hR.2.1 (m.1 14 s').toNat (by omega)).2.2.2] at a
      exact a
  refine ⟨n, bs n (nz n (m.1 9)) (rlX x) n, nz n (m.1 9), ⟨h7, h3, hn16⟩, hC, fun u hu => ⟨by rw [e20 u hu]; exact (if_pos hu).symm, (if_pos hu).symm⟩, mp.1, ⟨hPl.2.2.2.1, mb⟩, ?_, fun u hu => ?_, ⟨hCu.1, sgx⟩, ⟨ms, sgm⟩, fun u hu => ?_, seg, hPl.2.2.2.2.1, hPl.2.2.2.2.2, fun t ht q => (nM t ht q).1⟩
  · rw [hPl.2.2.1]
    unfold Pc
    refine fb_si_cong (fun i hi => ?_)
    rw [e20 i hi]
    by_cases q : m.1 9 i < 0
    · rw [if_pos q, if_pos q]
    · rw [if_neg q, if_neg q]
      rcases mp.1.1 i hi with z | z
      · omega
      · exact hpr i _ hi (by omega) ((hfo i _ hi (by omega)).mpr z.2.2)
  · rw [hPl.2.1 u hu]
    unfold slk slm
    rw [e20 u hu]
    by_cases q : m.1 9 u < 0
    · rw [if_pos q, if_pos q]
    · rw [if_neg q, if_neg q]
      have z := mp.1.rng hu
      rw [hR.w hX (i := u) (j := (m.1 9 u).toNat) (by omega) (by omega), (hR.2.1 u (by omega)).2.2.2, (hR.2.1 (m.1 9 u).toNat (by omega)).2.2.1]
  · obtain ⟨t, k, a1, a2, a3⟩ := itn_all hC u hu
    have p := ((nX t (cB_iff.mp a1).1 a1).2 k a2).1
    have q := ((nM t (cB_iff.mp a1).1 a1).2 k a2).1
    rw [a3, Int.toNat_natCast] at p q
    rw [p.1, p.2, q.1, q.2]
    exact ⟨rfl, rfl⟩
/-- the base of class and model, and what is kept of it -/
def Bas (x m : St) : Prop := XB x ∧ MB m ∧ BR x m ∧ opn x ∧ (x.1 9 7 = 0 ∨ x.1 9 7 = 1) ∧ (m.1 0 13 = 0 ∨ m.1 0 13 = 1) ∧ (x.1 9 7 = 1 → AF x ∧ PX x) ∧ (m.1 0 13 = 1 → PMs m)
theorem BR.fr {S T : List Nat} {x m x' m' : St} (h : BR x m) (f : Fr S x x') (g : Fr T m m') (hS : offB S) (hT : 1 ∉ T ∧ 2 ∉ T ∧ 3 ∉ T ∧ 4 ∉ T ∧ 5 ∉ T ∧ 6 ∉ T ∧ 7 ∉ T) (h0 : m'.1 0 3 = m.1 0 3 ∧ m'.1 0 8 = m.1 0 8 ∧ m'.1 0 9 = m.1 0 9 ∧ m'.1 0 10 = m.1 0 10 ∧ m'.1 0 11 = m.1 0 11) : BR x' m' := by
  obtain ⟨s0, s7, s34, s35, s36, s37, s38, s39, s40⟩ := hS
  obtain ⟨t1, t2, t3, t4, t5, t6, t7⟩ := hT
  unfold BR
  rw [f.at s0, f.at s7, f.at s34, f.at s35, f.at s36, f.at s37, f.at s38, f.at s39, f.at s40, g.at t1, g.at t2, g.at t3, g.at t4, g.at t5, g.at t6, g.at t7, h0.1, h0.2.1, h0.2.2.1, h0.2.2.2.1, h0.2.2.2.2]
  exact h
abbrev mpC : List Nat := [0, 8, 9, 10, 11, 12, 13, 14, 15, 16]
section Up
variable {G : GX} {d e : Nat}
/-- the class is brought up to date -/
theorem p_bring {x m : St} (h : Bas x m) {Q : St → Prop} (K : ∀ x', Fr upC x x' → (x.1 9 7 = 1 → x' = x) → Bas x' m → x'.1 9 7 = 1 → Q x') : conV G wdX (d + 22) mX9_bringUpToDate [vR 9] x Q := by
  obtain ⟨h1, h2, h3, h4, h5, h6, h7, h8⟩ := h
  refine c_bring (d := d) h1 h4 h5 h7 (fun x' f w a b c e => K x' f w ⟨h1.frame f (by decide), h2, h3.fr f (Fr.rfl' (S := [])) (by decide) (by decide) ⟨rfl, rfl, rfl, rfl, rfl⟩, b, Or.inr a, h6, fun _ => ⟨c, e⟩, h8⟩ a)
/-- the model makes its plan -/
theorem p_plans {x m : St} (h : Bas x m) {Q : St → Prop} (K : ∀ m', Fr mpC m m' → (∀ c, c ≠ 13 → c ≠ 15 → c ≠ 18 → m'.1 0 c = m.1 0 c) → Bas x m' → m'.1 0 13 = 1 → Q m') : conV G wdM (e + 2) mX10_plans [vR 0] m Q := by
  obtain ⟨h1, h2, h3, h4, h5, h6, h7, h8⟩ := h
  refine c_plans (d := e) h2 h6 h8 (fun m' f a b c => K m' f a ⟨h1, ?_, h3.fr (Fr.rfl' (S := [])) f (by decide) (by decide) ⟨a 3 (by decide) (by decide) (by decide), a 8 (by decide) (by decide) (by decide), a 9 (by decide) (by decide) (by decide), a 10 (by decide) (by decide) (by decide), a 11 (by decide) (by decide) (by decide)⟩, h4, h5, Or.inr b, h7, fun _ => c⟩ b)
  exact h2.fr (a 3 (by decide) (by decide) (by decide)) (a 8 (by decide) (by decide) (by decide)) (a 9 (by decide) (by decide) (by decide)) (a 10 (by decide) (by decide) (by decide)) (a 11 (by decide) (by decide) (by decide)) (f.at (by decide)) (f.at (by decide)) (f.at (by decide)) (f.at (by decide)) (f.at (by decide)) (f.at (by decide)) (f.at (by decide))
end Up
