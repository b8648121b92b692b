/-! ===== the class is brought up to date ===== -/
section RlC
variable {n : Nat} {f bg : Nat → Int} {rl rl' : Nat → Bool}
theorem rl_at (hC : Chn n f bg) (h : ∀ u, u < n → rl u = rl' u) {t : Nat} (ht : t < n) (j : Nat) : rl (itn f t j).toNat = rl' (itn f t j).toNat := by
  have := itn_rng hC ht j
  exact h _ (by omega)
theorem Rc_c (hC : Chn n f bg) (h : ∀ u, u < n → rl u = rl' u) {t : Nat} (ht : t < n) (i : Nat) : Rc f rl t i = Rc f rl' t i := fb_ct_cong (fun j _ => rl_at hC h ht j)
theorem stf_c (hC : Chn n f bg) (h : ∀ u, u < n → rl u = rl' u) {t : Nat} (ht : t < n) : ∀ i, stf f rl t i = stf f rl' t i ∧ psf f rl t i = psf f rl' t i
  | 0 => ⟨rfl, rfl⟩
  | i + 1 => by
    have ih := stf_c hC h ht i
    constructor
    · show (if rl (itn f t i).toNat then itn f t (i + 1) else stf f rl t i) = (if rl' (itn f t i).toNat then itn f t (i + 1) else stf f rl' t i)
      rw [rl_at hC h ht i, ih.1]
    · show (if rl (itn f t i).toNat then 1 else psf f rl t i + 1) = (if rl' (itn f t i).toNat then 1 else psf f rl' t i + 1)
      rw [rl_at hC h ht i, ih.2]
theorem sc_c (hC : Chn n f bg) (h : ∀ u, u < n → rl u = rl' u) {t : Nat} (ht : t < n) : sc f rl t = sc f rl' t := by unfold sc; rw [Rc_c hC h ht]
theorem bs_c (hC : Chn n f bg) (h : ∀ u, u < n → rl u = rl' u) (t : Nat) : bs n f rl t = bs n f rl' t := by
  unfold bs
  refine fb_sm_cong (fun u _ => ?_)
  by_cases q : hB n f u = true
  · rw [if_pos q, if_pos q, sc_c hC h (cB_iff.mp q).1]
  · rw [if_neg q, if_neg q]
theorem NumT.re (hC : Chn n f bg) (h : ∀ u, u < n → rl u = rl' u) {T : Nat} {hd bo so sb sf sl sm : Nat → Int} (hN : NumT n f rl T hd bo so sb sf sl sm) : NumT n f rl' T hd bo so sb sf sl sm := by
  intro t ht q
  have z := hN t ht q
  have hlt := (cB_iff.mp q).1
  refine ⟨z.1, fun j hj => ?_⟩
  have w := z.2 j hj
  rw [Rc_c hC h hlt, bs_c hC h, (stf_c hC h hlt j).1, (stf_c hC h hlt j).2, sc_c hC h hlt] at w
  refine ⟨w.1, fun y => ⟨(w.2 y).1, (w.2 y).2.1, fun e => (w.2 y).2.2 ?_⟩⟩
  unfold endS at e ⊢
  rw [rl_at hC h hlt j]
  exact e
end RlC
def PX (σ : St) : Prop := ∃ n : Nat, σ.1 7 4 = (n : Int) ∧ PlX σ n ∧ CutX σ n (nz n (σ.1 20)) (rlX σ) n
theorem PX.fr {S : List Nat} {σ σ' : St} (h : PX σ) (f : Fr S σ σ') (hS : ∀ k, k = 4 ∨ k = 6 ∨ k = 7 ∨ (20 ≤ k ∧ k ≤ 24) ∨ (29 ≤ k ∧ k ≤ 40) → k ∉ S) : PX σ' := by
  have e : ∀ k, (k = 4 ∨ k = 6 ∨ k = 7 ∨ (20 ≤ k ∧ k ≤ 24) ∨ (29 ≤ k ∧ k ≤ 40)) → σ'.1 k = σ.1 k := fun k hk => f.at (hS k hk)
  have efo : foX σ' = foX σ := foX.fr (e 34 (by omega)) (e 35 (by omega)) (e 36 (by omega)) (e 37 (by omega)) (e 38 (by omega))
  have epr : pX σ' = pX σ := pX.fr (e 34 (by omega)) (e 35 (by omega)) (e 39 (by omega))
  have ew : wX σ' = wX σ := wX.fr (e 34 (by omega)) (e 35 (by omega)) (e 38 (by omega))
  have erl : rlX σ' = rlX σ := by funext u; unfold rlX; rw [e 40 (by omega), e 35 (by omega)]
  have esl : slk σ' = slk σ := by funext nx i; unfold slk; rw [ew, e 36 (by omega), e 37 (by omega)]
  obtain ⟨n, h1, h2, h3⟩ := h
  refine ⟨n, by rw [e 7 (by omega)]; exact h1, ?_, ?_⟩
  · unfold PlX at h2 ⊢
    rw [efo, epr, esl, e 20 (by omega), e 21 (by omega), e 4 (by omega), e 22 (by omega), e 23 (by omega), e 24 (by omega)]
    exact h2
  · unfold CutX at h3 ⊢
    rw [erl, e 20 (by omega), e 6 (by omega), e 29 (by omega), e 30 (by omega), e 31 (by omega), e 32 (by omega), e 33 (by omega)]
    exact h3
theorem AF.fr {S : List Nat} {σ σ' : St} (h : AF σ) (f : Fr S σ σ') (h15 : 15 ∉ S) (ho : offB S) : AF σ' := fun a b ha hb => by
  have e7 : σ'.1 7 = σ.1 7 := f.at ho.2.1
  rw [e7] at ha ⊢
  rw [f.at h15, foX.frame f ho]
  exact h a b ha hb
theorem numX {σ : St} {n : Nat} {f : Nat → Int} {rl : Nat → Bool} (hR : RwX n f n (σ.1 22) (σ.1 23) (σ.1 24)) (hK : CutX σ n f rl n) {bg : Nat → Int} (hC : Chn n f bg) : NumT n f rl n (fun b => σ.1 23 (σ.1 24 b).toNat) (σ.1 22) (σ.1 33) (σ.1 29) (σ.1 30) (σ.1 31) (σ.1 32) := by
  intro t ht q
  have hlt := (cB_iff.mp q).1
  have z := hR t ht q
  have hlp := ln_pos hC hlt
  refine ⟨?_, fun j hj => ?_⟩
  · show σ.1 23 (σ.1 24 (bn n f t)).toNat = _
    rw [z.1, Int.toNat_natCast]
    have := (z.2 0 hlp).1
    rw [Nat.add_zero] at this
    rw [this]; rfl
  · have w := hK.2 t ht q j hj
    refine ⟨⟨(z.2 j hj).2, w.1⟩, fun _ => ⟨w.2.1, w.2.2.1, fun e => w.2.2.2 ?_⟩⟩
    rcases e with e | e
    · exact Or.inr e
    · exact Or.inl ((itn_last hC hlt hj).mp e)
section Bring
variable {G : GX} {d : Nat} {σ : St}
abbrev upC : List Nat := [1, 3, 4, 6, 9, 10, 11, 12, 13, 14, 15, 17, 18, 19, 20, 21, 22, 23, 24, 29, 30, 31, 32, 33]
theorem c_bring {Q : St → Prop} (hB : XB σ) (hop : opn σ) (h97 : σ.1 9 7 = 0 ∨ σ.1 9 7 = 1) (hP : σ.1 9 7 = 1 → AF σ ∧ PX σ)
    (K : ∀ σ', Fr upC σ σ' → (σ.1 9 7 = 1 → σ' = σ) → σ'.1 9 7 = 1 → opn σ' → AF σ' → PX σ' → Q σ') : conV G wdX (d + 22) mX9_bringUpToDate [vR 9] σ Q := by
  refine conV.of (ls0 := [vR 9]) rfl rfl (Nat.le_of_ble_eq_true rfl) (fun Ret R hret hM => g_X9_bringUpToDate_0 hM σ ?_)
  refine ⟨fun q => hret _ ?_, fun q => ?_⟩
  · have h1 : σ.1 9 7 = 1 := by rcases h97 with z | z; exact absurd z q; exact z
    exact K σ Fr.rfl' (fun _ => rfl) h1 hop (hP h1).1 (hP h1).2
  · have hn0 := hB.1
    have hn : σ.1 7 4 = ((σ.1 7 4).toNat : Int) := by omega
    generalize hnn : (σ.1 7 4).toNat = n at hn
    refine c_tell (d := d + 18) hB (fun σ1 f1 hA => ?_)
    have hB1 := hB.frame f1 (by decide)
    refine c_make (d := d) (n := n) hB1 hA (fun r hr => by rw [f1.at (by decide)]; exact hop r hr) (by rw [f1.at (by decide)]; exact hn) (fun σ2 f2 ho2 hPl => ?_)
    have hB2 := hB1.frame f2 (by decide)
    have n2 : σ2.1 7 4 = (n : Int) := by rw [f2.at (by decide), f1.at (by decide)]; exact hn
    have hC : Chn n (nz n (σ2.1 20)) (σ2.1 36) := Chn.of (by omega) hPl.1.1 (fun i j hi hj z => foX_bg hB2 (by omega) (by omega) z)
    refine c_cut (d := d + 19) (rl := rlX σ2) hC hB2 hPl.2.2.2.1 hPl.2.2.2.2.1 hPl.2.2.2.2.2 (fun _ _ => rfl) (fun σ3 f3 hK τ1 t1 => hret _ ?_)
    have ft : Fr [9] σ3 τ1 := by rw [t1]; exact Fr.one (by decide)
    have f23 : Fr [6, 9, 29, 30, 31, 32, 33] σ2 τ1 := (f3.mono (by decide)).tr (ft.mono (by decide))
    refine K τ1 (((f1.mono (by decide)).tr (f2.mono (by decide))).tr (f23.mono (by decide))) (fun z => by omega) (by rw [t1, sI_s, uf_s]) (fun r hr => by rw [f23.at (by decide)]; exact ho2 r hr) (AF.fr (AF.fr hA f2 (by decide) (by decide)) f23 (by decide) (by decide)) ⟨n, by rw [f23.at (by decide)]; exact n2, ?_, ?_⟩
    · have efo : foX τ1 = foX σ2 := foX.fr (f23.at (by decide)) (f23.at (by decide)) (f23.at (by decide)) (f23.at (by decide)) (f23.at (by decide))
      have epr : pX τ1 = pX σ2 := pX.fr (f23.at (by decide)) (f23.at (by decide)) (f23.at (by decide))
      have ew : wX τ1 = wX σ2 := wX.fr (f23.at (by decide)) (f23.at (by decide)) (f23.at (by decide))
      have esl : slk τ1 = slk σ2 := by funext nx i; unfold slk; rw [ew, f23.at (by decide), f23.at (by decide)]
      unfold PlX at hPl ⊢
      rw [efo, epr, esl, f23.at (k := 20) (by decide), f23.at (k := 21) (by decide), f23.at (k := 4) (by decide), f23.at (k := 22) (by decide), f23.at (k := 23) (by decide), f23.at (k := 24) (by decide)]
      exact hPl
    · have erl : rlX τ1 = rlX σ2 := by funext u; unfold rlX; rw [f23.at (by decide), f23.at (by decide)]
      have e20 : τ1.1 20 = σ2.1 20 := f23.at (by decide)
      unfold CutX at hK ⊢
      rw [erl, e20, ft.at (k := 6) (by decide), ft.at (k := 29) (by decide), ft.at (k := 30) (by decide), ft.at (k := 31) (by decide), ft.at (k := 32) (by decide), ft.at (k := 33) (by decide)]
      exact hK
end Bring
