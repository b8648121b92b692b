/-! ===== the class's plan is made ===== -/
def RwX (n : Nat) (f : Nat → Int) (T : Nat) (bo rw' st : Nat → Int) : Prop :=
  ∀ t, t < T → hB n f t = true → st (bn n f t) = (upto n f t : Int) ∧ ∀ k, k < ln f t → rw' (upto n f t + k) = itn f t k ∧ bo (itn f t k).toNat = (bn n f t : Int)
theorem RwX.nxt {n : Nat} {f : Nat → Int} {bo rw' st : Nat → Int} (h : RwX n f n bo rw' st) (he : st (bn n f n) = (upto n f n : Int)) {t : Nat} (ht : hB n f t = true) : st (bn n f t + 1) = ((upto n f t + ln f t : Nat) : Int) := by
  have main : ∀ m T : Nat, T + m = n → t < T → bn n f T = bn n f t + 1 → upto n f T = upto n f t + ln f t → st (bn n f t + 1) = ((upto n f t + ln f t : Nat) : Int) := by
    intro m
    induction m with
    | zero =>
      intro T hT _ e1 e2
      have e : T = n := by omega
      subst e
      rw [← e1, ← e2]; exact he
    | succ m ih =>
      intro T hT htT e1 e2
      by_cases q : hB n f T = true
      · rw [← e1, ← e2]; exact (h T (by omega) q).1
      · exact ih (T + 1) (by omega) (by omega) (by rw [bn_n q]; exact e1) (by rw [upto_n q]; exact e2)
  have hlt := (cB_iff.mp ht).1
  exact main (n - (t + 1)) (t + 1) (by omega) (by omega) (bn_s ht) (upto_s ht)
section Make
variable {G : GX} {d : Nat} {σ : St} {Q : Int → St → Prop}
theorem fill_b {Ret : Option AV → St → Prop} {R : Nat → List AV → List AV → St → Prop} (hM : AM G wdX d mX4_fillBlock Ret R) {n : Nat} {f bg : Nat → Int} (hC : Chn n f bg) {t : Nat} (ht : hB n f t = true) (σ0 : St) (hf : ∀ u, u < n → σ0.1 20 u = f u) (hb : σ0.1 4 3 = (bn n f t : Int))
    (K : ∀ σ', Fr [22, 23] σ0 σ' → (∀ k, k < ln f t → σ'.1 23 (upto n f t + k) = itn f t k ∧ σ'.1 22 (itn f t k).toNat = (bn n f t : Int)) → (∀ p, p < upto n f t → σ'.1 23 p = σ0.1 23 p) → (∀ u, u < n → (∀ k, k < ln f t → ¬ itn f t k = (u : Int)) → σ'.1 22 u = σ0.1 22 u) → Ret (some (vI ((upto n f t + ln f t : Nat) : Int))) σ') :
    ∀ m i : Nat, i + m = ln f t → ∀ σ : St, Fr [22, 23] σ0 σ → (∀ k, k < i → σ.1 23 (upto n f t + k) = itn f t k ∧ σ.1 22 (itn f t k).toNat = (bn n f t : Int)) → (∀ p, p < upto n f t → σ.1 23 p = σ0.1 23 p) → (∀ u, u < n → (∀ k, k < i → ¬ itn f t k = (u : Int)) → σ.1 22 u = σ0.1 22 u) → R 5 [vR 4, vN, vN, vI (itn f t i), vI ((upto n f t + i : Nat) : Int)] [] σ := by
  have hlt := (cB_iff.mp ht).1
  have hfit := upto_fit hC ht
  have hn := hC.1
  intro m
  induction m with
  | zero =>
    intro i hi σ fr h1 h2 h3
    have e : i = ln f t := by omega
    have hneg : itn f t i = -1 := by
      have := itn_rng hC hlt i
      have := ln_iff hC hlt i
      omega
    rw [hneg]
    subst e
    exact g_X4_fillBlock_5 hM (-1) _ σ ⟨fun _ => K σ fr h1 h2 h3, fun q => absurd rfl q⟩
  | succ m ih =>
    intro i hi σ fr h1 h2 h3
    have hin := itn_in hC hlt (show i < ln f t by omega)
    refine g_X4_fillBlock_5 hM (itn f t i) _ σ ⟨fun q => by omega, fun _ => ⟨fun q => by omega, fun _ => ⟨⟨by omega, by omega⟩, fun τ1 t1 => ⟨⟨by omega, by omega⟩, fun τ2 t2 => ⟨⟨by omega, by omega⟩, ?_⟩⟩⟩⟩⟩
    rw [Int.toNat_natCast] at t1
    have k4 : τ1.1 4 3 = (bn n f t : Int) := by rw [t1, sI_n _ (by decide), fr.at (by decide)]; exact hb
    rw [k4] at t2
    have k20 : τ2.1 20 (itn f t i).toNat = itn f t (i + 1) := by rw [t2, sI_n _ (by decide), t1, sI_n _ (by decide), fr.at (by decide), hf _ (by omega), itn_s hin.1]
    have k23 : τ2.1 23 = uf (σ.1 23) (upto n f t + i) (itn f t i) := by rw [t2, sI_n _ (by decide), t1, sI_s]
    have k22 : τ2.1 22 = uf (σ.1 22) (itn f t i).toNat (bn n f t) := by rw [t2, sI_s, t1, sI_n _ (by decide)]
    have ea : ((upto n f t + i : Nat) : Int) + 1 = ((upto n f t + (i + 1) : Nat) : Int) := by omega
    rw [k20, ea]
    refine ih (i + 1) (by omega) τ2 (by rw [t2, t1]; exact (fr.put (by decide)).put (by decide)) (fun k hk => ?_) (fun p hp => by rw [k23, uf_n (by omega)]; exact h2 p hp) (fun u hu q => ?_)
    · rw [k23, k22]
      by_cases e : k = i
      · rw [e, uf_s, uf_s]; exact ⟨rfl, rfl⟩
      · rw [uf_n (by omega)]
        have hk' := itn_in hC hlt (show k < ln f t by omega)
        rw [uf_n (fun z => e (itn_one hC ht ht k i hk'.1 (by omega)).2)]
        exact h1 k (by omega)
    · rw [k22, uf_n (fun z => q i (by omega) (by omega))]
      exact h3 u hu (fun k hk => q k (by omega))
theorem c_fillBlock {n : Nat} {f bg : Nat → Int} (hC : Chn n f bg) {t : Nat} (ht : hB n f t = true) (hf : ∀ u, u < n → σ.1 20 u = f u) (hb : σ.1 4 3 = (bn n f t : Int))
    (K : ∀ σ', Fr [22, 23] σ σ' → (∀ k, k < ln f t → σ'.1 23 (upto n f t + k) = itn f t k ∧ σ'.1 22 (itn f t k).toNat = (bn n f t : Int)) → (∀ p, p < upto n f t → σ'.1 23 p = σ.1 23 p) → (∀ u, u < n → (∀ k, k < ln f t → ¬ itn f t k = (u : Int)) → σ'.1 22 u = σ.1 22 u) → Q ((upto n f t + ln f t : Nat) : Int) σ') : conI G wdX d mX4_fillBlock [vR 4, vI t, vI (upto n f t : Nat)] σ Q := by
  refine conI.of (ls0 := [vR 4, vI t, vI (upto n f t : Nat), vN, vN]) rfl rfl (Nat.le_of_ble_eq_true rfl) (fun Ret R hret hM => g_X4_fillBlock_0 hM t _ σ ?_)
  exact fill_b hM hC ht σ hf hb (fun σ' a b c e => hret _ _ (K σ' a b c e)) (ln f t) 0 (by omega) σ Fr.rfl' (fun k hk => by omega) (fun _ _ => rfl) (fun _ _ _ => rfl)
theorem c_numberBlocks {Q : St → Prop} {n : Nat} {f bg : Nat → Int} (hC : Chn n f bg) (hn : σ.1 7 4 = (n : Int)) (hf : ∀ u, u < n → σ.1 20 u = f u)
    (K : ∀ σ', Fr [4, 22, 23, 24] σ σ' → (∀ c, c ≠ 3 → σ'.1 4 c = σ.1 4 c) → σ'.1 4 3 = (bn n f n : Int) → RwX n f n (σ'.1 22) (σ'.1 23) (σ'.1 24) → σ'.1 24 (bn n f n) = (upto n f n : Int) → Q σ') : conV G wdX (d + 1) mX4_numberBlocks [vR 4] σ Q := by
  refine conV.of (ls0 := [vR 4, vN, vN, vN]) rfl rfl (Nat.le_of_ble_eq_true rfl) (fun Ret R hret hM => g_X4_numberBlocks_0 hM σ ?_)
  have hn16 := hC.1
  have rows : ∀ F : Int, (∀ c : Nat, c < n → (tb F c = false ↔ hB n f c = true)) → ∀ m t : Nat, t + m = n → ∀ σ1 : St, Fr [4, 22, 23, 24] σ σ1 → (∀ c, c ≠ 3 → σ1.1 4 c = σ.1 4 c) → σ1.1 4 3 = (bn n f t : Int) → RwX n f t (σ1.1 22) (σ1.1 23) (σ1.1 24) → R 51 [vR 4, vI F, vI (upto n f t : Nat), vI t] [] σ1 := by
    intro F hF m
    induction m with
    | zero =>
      intro t ht σ1 f1 h1 h2 h3
      have e : t = n := by omega
      subst e
      have hbu := bn_upto hC t
      have hul := upto_le hC t (Nat.le_refl _)
      refine g_X4_numberBlocks_51 hM F _ t σ1 ⟨fun _ => ?_, fun q => by rw [f1.at (by decide), hn] at q; omega⟩
      rw [h2]
      refine ⟨⟨by omega, by omega⟩, fun τ1 t1 => ?_⟩
      rw [Int.toNat_natCast] at t1
      have k24 : τ1.1 24 = uf (σ1.1 24) (bn t f t) (upto t f t : Nat) := by rw [t1, sI_s]
      have kn : ∀ c, c ≠ 24 → τ1.1 c = σ1.1 c := fun c hc => by rw [t1, sI_n _ hc]
      refine hret _ (K τ1 (by rw [t1]; exact f1.put (by decide)) (fun c hc => by rw [kn 4 (by decide)]; exact h1 c hc) (by rw [kn 4 (by decide)]; exact h2) (fun u hu q => ?_) (by rw [k24, uf_s]))
      rw [kn 22 (by decide), kn 23 (by decide), k24, uf_n (by have := bn_lt q; omega)]
      exact h3 u hu q
    | succ m ih =>
      intro t ht σ1 f1 h1 h2 h3
      have et : ((t : Int) + 1) = ((t + 1 : Nat) : Int) := by omega
      have hbu := bn_upto hC t
      refine g_X4_numberBlocks_51 hM F _ t σ1 ⟨fun q => by rw [f1.at (by decide), hn] at q; omega, fun _ => ?_⟩
      rw [bit1 _ (by omega), et]
      cases hb : tb F t with
      | true =>
        have hnh : ¬ hB n f t = true := fun q => by rw [(hF t (by omega)).mpr q] at hb; cases hb
        refine ⟨fun _ => ⟨⟨by omega, by omega⟩, ?_⟩, fun q => by simp at q⟩
        have := ih (t + 1) (by omega) σ1 f1 h1 (by rw [bn_n hnh]; exact h2) (fun u hu q => by
          by_cases e : u = t
          · rw [e] at q; exact absurd q hnh
          · exact h3 u (by omega) q)
        rw [upto_n hnh] at this
        exact this
      | false =>
        have hh := (hF t (by omega)).mp hb
        have hfit := upto_fit hC hh
        refine ⟨fun q => by simp at q, fun _ => ?_⟩
        rw [h2]
        refine ⟨⟨by omega, by omega⟩, fun τ2 t2 => ?_⟩
        rw [Int.toNat_natCast] at t2
        have k24 : τ2.1 24 = uf (σ1.1 24) (bn n f t) (upto n f t : Nat) := by rw [t2, sI_s]
        have kn : ∀ c, c ≠ 24 → τ2.1 c = σ1.1 c := fun c hc => by rw [t2, sI_n _ hc]
        refine c_fillBlock (d := d) hC hh (fun u hu => by rw [kn 20 (by decide), f1.at (by decide)]; exact hf u hu) (by rw [kn 4 (by decide)]; exact h2) (fun σ2 f2 g1 g2 g3 => ?_)
        have j4 : σ2.1 4 = σ1.1 4 := by rw [f2.at (by decide), kn 4 (by decide)]
        rw [j4, h2]
        refine ⟨⟨by omega, by omega⟩, fun τ3 t3 => ⟨⟨by omega, by omega⟩, ?_⟩⟩
        have l4 : τ3.1 4 = uf (σ1.1 4) 3 ((bn n f t : Int) + 1) := by rw [t3, sI_s, j4]
        have ln' : ∀ c, c ≠ 4 → τ3.1 c = σ2.1 c := fun c hc => by rw [t3, sI_n _ hc]
        have f3 : Fr [4, 22, 23, 24] σ τ3 := by
          rw [t3]
          refine Fr.put (Fr.tr ?_ (f2.mono (by decide))) (by decide)
          rw [t2]; exact f1.put (by decide)
        have := ih (t + 1) (by omega) τ3 f3 (fun c hc => by rw [l4, uf_n hc]; exact h1 c hc) (by rw [l4, uf_s, bn_s hh]; omega) (fun u hu q => ?_)
        · rw [upto_s hh] at this
          exact this
        · rw [ln' 22 (by decide), ln' 23 (by decide), ln' 24 (by decide), f2.at (k := 24) (by decide), k24]
          by_cases e : u = t
          · rw [e, uf_s]; exact ⟨rfl, g1⟩
          · have hut : u < t := by omega
            have hbl : bn n f u < bn n f t := ct_lt hut q
            have hul : upto n f u + ln f u ≤ upto n f t := by
              rw [← upto_s q]
              unfold upto
              have z := fb_sm_mono (fun v => if hB n f v then ln f v else 0) (u + 1) (t - (u + 1))
              rw [show u + 1 + (t - (u + 1)) = t from by omega] at z
              exact z
            rw [uf_n (by omega)]
            refine ⟨(h3 u hut q).1, fun k hk => ?_⟩
            have z := (h3 u hut q).2 k hk
            have hkin := itn_in hC (cB_iff.mp q).1 hk
            rw [g2 _ (by omega), kn 23 (by decide), g3 _ (by omega) (fun k' hk' e' => ?_), kn 22 (by decide)]
            · exact z
            · have hk'in := itn_in hC (cB_iff.mp hh).1 hk'
              exact e (itn_one hC q hh k k' hkin.1 (by omega)).1
  have fol : ∀ m t : Nat, t + m = n → ∀ F : Int, (∀ c : Nat, c < 32 → (tb F c = true ↔ ∃ i, i < t ∧ f i = (c : Int))) → R 4 [vR 4, vI F, vI t, vN] [] σ := by
    intro m
    induction m with
    | zero =>
      intro t ht F hF
      have e : t = n := by omega
      subst e
      refine g_X4_numberBlocks_4 hM F t σ ⟨fun _ τ1 t1 => ?_, fun q => by omega⟩
      have := rows F (fun c hc => ?_) t 0 (by omega) τ1 (by rw [t1]; exact Fr.one (by decide)) (fun c hc => by rw [t1, sI_s, uf_n hc]) (by rw [t1, sI_s, uf_s]; rfl) (fun u hu => by omega)
      · exact this
      · have z := hF c (by omega)
        constructor
        · intro q
          exact cB_iff.mpr ⟨hc, fun i hi e => by rw [z.mpr ⟨i, hi, e⟩] at q; cases q⟩
        · intro q
          cases y : tb F c with
          | false => rfl
          | true => obtain ⟨i, hi, e⟩ := z.mp y; exact absurd e ((cB_iff.mp q).2 i hi)
    | succ m ih =>
      intro t ht F hF
      have et : ((t : Int) + 1) = ((t + 1 : Nat) : Int) := by omega
      have rng := hC.2.1 t (by omega)
      refine g_X4_numberBlocks_4 hM F t σ ⟨fun q => by omega, fun _ => ⟨⟨by omega, by omega⟩, ?_⟩⟩
      rw [Int.toNat_natCast, hf t (by omega), et]
      refine ⟨fun q => ⟨⟨by omega, by omega⟩, ih (t + 1) (by omega) F (fun c hc => ?_)⟩, fun q u1 eu => ⟨⟨by omega, by omega⟩, ih (t + 1) (by omega) u1 (fun c hc => ?_)⟩⟩
      · rw [hF c hc]
        constructor
        · rintro ⟨i, hi, e⟩; exact ⟨i, by omega, e⟩
        · rintro ⟨i, hi, e⟩
          by_cases z : i = t
          · rw [z] at e; omega
          · exact ⟨i, by omega, e⟩
      · have hx : f t = ((f t).toNat : Int) := by omega
        rw [eu, hx, tb_put _ (by omega) hc, Bool.or_eq_true, decide_eq_true_eq, hF c hc]
        constructor
        · rintro (⟨i, hi, e⟩ | e)
          · exact ⟨i, by omega, e⟩
          · exact ⟨t, by omega, by omega⟩
        · rintro ⟨i, hi, e⟩
          by_cases z : i = t
          · rw [z] at e; exact Or.inr (by omega)
          · exact Or.inl ⟨i, by omega, e⟩
  exact fol n 0 (by omega) 0 (fun c _ => by rw [tb_0]; exact ⟨fun q => by (cases q), fun ⟨i, hi, _⟩ => by omega⟩)
/-- the class's plan is made -/
def PlX (σ : St) (n : Nat) : Prop :=
  IsPlan n (foX σ) (pX σ) (σ.1 20) ∧ (∀ i, i < n → σ.1 21 i = slk σ (σ.1 20) i) ∧ σ.1 4 4 = Pc n (pX σ) (σ.1 20) ∧ σ.1 4 3 = (bn n (nz n (σ.1 20)) n : Int) ∧ RwX n (nz n (σ.1 20)) n (σ.1 22) (σ.1 23) (σ.1 24) ∧ σ.1 24 (bn n (nz n (σ.1 20)) n) = (upto n (nz n (σ.1 20)) n : Int)
theorem c_make {Q : St → Prop} (hB : XB σ) (hA : AF σ) (hop : opn σ) {n : Nat} (hn : σ.1 7 4 = (n : Int))
    (K : ∀ σ', Fr [1, 3, 4, 10, 11, 12, 13, 14, 17, 18, 19, 20, 21, 22, 23, 24] σ σ' → opn σ' → PlX σ' n → Q σ') : conV G wdX (d + 21) mX4_make [vR 4] σ Q := by
  refine conV.of (ls0 := [vR 4, vN, vN, vN]) rfl rfl (Nat.le_of_ble_eq_true rfl) (fun Ret R hret hM => g_X4_make_0 hM σ ?_)
  have hn16 : n ≤ 16 := by have := hB.1; omega
  refine c_setCosts (d := d + 18) hB hA hn hn16 (fun σ1 f1 hco => ?_)
  have e7 : σ1.1 7 4 = (n : Int) := by rw [f1.at (by decide)]; exact hn
  have hB1 := hB.frame f1 (by decide)
  rw [e7]
  have hC1 : ∀ i j, i < n → j < n → 0 ≤ σ1.1 10 (16 * i + j) ∧ σ1.1 10 (16 * i + j) ≤ 16001 := fun i j hi hj => by
    have z := hco i hi j hj
    by_cases q : foX σ1 i j
    · rw [z.1 q]
      have := hB1.p (i := i) (j := j) (by omega) (by omega)
      omega
    · rw [z.2 q]; omega
  refine c_solve (d := d + 17) hn16 hC1 (fun r hr => by rw [f1.at (by decide)]; exact hop r hr) (fun σ2 f2 hH ho ht => ?_)
  intro τ1 t1
  have f12 : Fr [1, 3, 10, 11, 12, 13, 14, 17, 18, 19] σ σ2 := (f1.mono (by decide)).tr (f2.mono (by decide))
  have ft : Fr [1, 3, 4, 10, 11, 12, 13, 14, 17, 18, 19] σ τ1 := by rw [t1]; exact (f12.mono (by decide)).put (by decide)
  have fo1 : foX τ1 = foX σ := foX.fr (ft.at (by decide)) (ft.at (by decide)) (ft.at (by decide)) (ft.at (by decide)) (ft.at (by decide))
  have kn : ∀ c, c ≠ 4 → τ1.1 c = σ2.1 c := fun c hc => by rw [t1, sI_n _ hc]
  have ov1 : ∀ i c, ovX τ1 i c = ovX σ2 i c := fun i c => by show τ1.1 10 _ - τ1.1 11 _ - τ1.1 12 _ = _; rw [kn 10 (by decide), kn 11 (by decide), kn 12 (by decide)]
  have hBt := hB.frame ft (by decide)
  have hAt : AF τ1 := fun a b ha hb => by
    rw [ft.at (by decide)] at ha ⊢
    rw [ft.at (by decide), fo1]
    exact hA a b ha hb
  have e7t : τ1.1 7 4 = (n : Int) := by rw [ft.at (by decide)]; exact hn
  have hot : opn τ1 := fun r hr => by rw [kn 17 (by decide)]; exact ho r hr
  have hJt : JX τ1 (fun _ => False) (fun r => r < n) := by
    show Jp _ _ _ (τ1.1 18) (τ1.1 19) (τ1.1 3 3)
    rw [kn 17 (by decide), kn 18 (by decide), kn 19 (by decide), kn 3 (by decide)]
    exact hH.2.2.2.2.ok (fun r c hr hc _ q => (ht r hr c (by omega)).mpr q)
  refine make_loop (d := d) hM τ1 hBt hAt e7t (T := fun i j => ovX σ2 i j = 0) (fun σ3 f3 hS h3 h4 => ?_) n 0 (by omega) τ1 Fr.rfl' ⟨hJt, hot, fun i hi c hc => ?_⟩ (fun i hi => by omega) (by rw [t1, sI_s, uf_s]; rfl)
  · have fo3 : foX σ3 = foX τ1 := foX.fr (f3.at (by decide)) (f3.at (by decide)) (f3.at (by decide)) (f3.at (by decide)) (f3.at (by decide))
    have pr3 : pX σ3 = pX τ1 := pX.fr (f3.at (by decide)) (f3.at (by decide)) (f3.at (by decide))
    have bits := hS.2.2
    have cin : ∀ i, i < n → ∃ c : Nat, c < 16 ∧ σ3.1 18 i = (c : Int) ∧ σ3.1 19 c = (i : Int) ∧ c < n ∧ (0 ≤ σ3.1 20 i → (c : Int) = σ3.1 20 i) ∧ ovX σ2 i c = 0 := fun i hi => by
      obtain ⟨_, c, a1, a2, a3, a4, _⟩ := hS.1.1 i hi
      refine ⟨c, a1, a2, a3, ?_⟩
      rcases (bits i hi c a1).mp a4 with z | z
      · have hx := (h3 i hi).1
        rcases hx with y | y
        · omega
        · refine ⟨by omega, fun _ => z.2.2, ?_⟩
          have := y.2.2.2
          rw [← z.2.2, Int.toNat_natCast] at this
          exact this
      · exact ⟨z.2.1, fun q => absurd ⟨hi, q⟩ z.1, z.2.2⟩
    have hfull : Full n (σ3.1 18) := ⟨fun i hi => by
        obtain ⟨c, _, a2, _, a4, _⟩ := cin i hi
        rw [a2]; omega, fun i j hi hj e => by
        obtain ⟨c, _, a2, a3, _⟩ := cin i hi
        obtain ⟨c', _, b2, b3, _⟩ := cin j hj
        rw [a2, b2] at e
        have : c = c' := by omega
        rw [this, b3] at a3
        omega⟩
    have e10 : σ2.1 10 = σ1.1 10 := f2.at (by decide)
    have fo21 : foX σ1 = foX τ1 := by rw [fo1]; exact foX.fr (f1.at (by decide)) (f1.at (by decide)) (f1.at (by decide)) (f1.at (by decide)) (f1.at (by decide))
    have pr21 : pX σ1 = pX τ1 := by
      rw [pX.fr (f1.at (k := 34) (by decide)) (f1.at (k := 35) (by decide)) (f1.at (k := 39) (by decide))]
      exact (pX.fr (ft.at (by decide)) (ft.at (by decide)) (ft.at (by decide))).symm
    have plan : IsPlan n (foX τ1) (pX τ1) (σ3.1 20) := by
      refine opt_plan (C := fun i j => σ2.1 10 (16 * i + j)) (u := σ2.1 11) (v := σ2.1 12) (π := σ3.1 18) hn16 (fun i j hi hj => hBt.p (by omega) (by omega)) (fun i j hi hj q => ?_) (fun i j hi hj q => ?_) (fun i j hi hj => hH.2.1 i j hi hj) (fun i hi => ?_) hfull (fun i hi => ?_) (fun i hi h0 => ?_) (fun t ht' => (h3 t ht').2.1)
      · rw [e10, (hco i hi j hj).1 (by rw [fo21]; exact q), pr21]
      · rw [e10, (hco i hi j hj).2 (by rw [fo21]; exact q)]
      · rcases (h3 i hi).1 with q | q
        · exact Or.inl q
        · exact Or.inr ⟨q.1, q.2.1, q.2.2.1⟩
      · obtain ⟨c, _, a2, _, _, _, a6⟩ := cin i hi
        rw [a2, Int.toNat_natCast]; exact a6
      · obtain ⟨c, _, a2, _, _, a5, _⟩ := cin i hi
        rw [a2]; exact a5 h0
    have hCn : Chn n (nz n (σ3.1 20)) (τ1.1 36) := Chn.of hn16 plan.1 (fun i j hi hj q => foX_bg hBt (by omega) (by omega) q)
    refine c_numberBlocks (d := d + 19) hCn (by rw [f3.at (by decide)]; exact e7t) (fun u hu => (if_pos hu).symm) (fun σ4 f4 g1 g2 g3 g4 => hret _ (K σ4 ?_ ?_ ?_))
    · exact ((ft.mono (by decide)).tr (f3.mono (by decide))).tr (f4.mono (by decide))
    · intro r hr
      rw [f4.at (by decide)]; exact hS.2.1 r hr
    · have e20 : σ4.1 20 = σ3.1 20 := f4.at (by decide)
      have fo4 : foX σ4 = foX τ1 := by rw [← fo3]; exact foX.fr (f4.at (by decide)) (f4.at (by decide)) (f4.at (by decide)) (f4.at (by decide)) (f4.at (by decide))
      have pr4 : pX σ4 = pX τ1 := by rw [← pr3]; exact pX.fr (f4.at (by decide)) (f4.at (by decide)) (f4.at (by decide))
      have w4 : wX σ4 = wX τ1 := by
        rw [wX.fr (f4.at (k := 34) (by decide)) (f4.at (k := 35) (by decide)) (f4.at (k := 38) (by decide))]
        exact wX.fr (f3.at (by decide)) (f3.at (by decide)) (f3.at (by decide))
      unfold PlX
      rw [e20, fo4, pr4, g1 4 (by decide), f4.at (k := 21) (by decide)]
      refine ⟨plan, fun i hi => ?_, h4, g2, g3, g4⟩
      rw [(h3 i hi).2.2]
      unfold slk
      rw [w4, f4.at (k := 36) (by decide), f4.at (k := 37) (by decide), f3.at (k := 36) (by decide), f3.at (k := 37) (by decide)]
  · rw [kn 17 (by decide), ht i hi c (by omega)]
    constructor
    · intro q; exact Or.inr ⟨by omega, q⟩
    · rintro (q | q)
      · omega
      · exact q.2
end Make
