/-! ===== the next trips, from the least on ===== -/
def MS (σ : St) (n : Nat) (T : Nat → Nat → Prop) (nx : Nat → Int) (t : Nat) : Prop :=
  JX σ (fun _ => False) (fun r => r < n) ∧ opn σ ∧ ∀ i, i < n → ∀ c : Nat, c < 16 → (tb (σ.1 17 i) c = true ↔ ((i < t ∧ 0 ≤ nx i ∧ (c : Int) = nx i) ∨ (¬ (i < t ∧ 0 ≤ nx i) ∧ c < n ∧ T i c)))
section Least
variable {G : GX} {d : Nat} {σ : St} {Q : Int → St → Prop}
theorem least_loop {Ret : Option AV → St → Prop} {R : Nat → List AV → List AV → St → Prop} (hM : AM G wdX (d + 20) mX4_leastNext Ret R) (σ0 : St) {n : Nat} (hn16 : n ≤ 16) (hn : σ0.1 7 4 = (n : Int)) {T fo : Nat → Nat → Prop} {nx : Nat → Int} {t : Nat} (ht : t < n) (hnx : ∀ i, i < t → nx i = -1 ∨ (0 ≤ nx i ∧ nx i < n))
    (hafter : ∀ c, c < n → (tb (σ0.1 15 t) c = true ↔ fo t c)) (u1 : Int) (hu1 : ∀ c, c < n → tb u1 c = (tb (σ0.1 17 t) c && tb (σ0.1 15 t) c))
    (K : ∀ (σ' : St) (x : Int), Fr [3, 17, 18, 19] σ0 σ' → (x = -1 ∨ (0 ≤ x ∧ x < n ∧ fo t x.toNat ∧ T t x.toNat)) → MS σ' n T (uf nx t x) (t + 1) → Chs n fo T nx t x → Ret (some (vI x)) σ') :
    ∀ m j : Nat, j + m = n → ∀ σ : St, Fr [3, 17, 18, 19] σ0 σ → σ.1 17 = σ0.1 17 → MS σ n T nx t → (∀ π, Full n π → (∀ i, i < n → T i (π i).toNat) → (∀ i, i < t → 0 ≤ nx i → π i = nx i) → ∀ j' : Nat, j' < j → fo t j' → π t ≠ (j' : Int)) → R 22 [vR 4, vI t, vI u1, vI j] [] σ := by
  intro m
  induction m with
  | zero =>
    intro j hj σ f h17 hS hno
    have e7 : σ.1 7 4 = (n : Int) := by rw [f.at (by decide)]; exact hn
    refine g_X4_leastNext_22 hM t u1 j σ ⟨fun _ => K σ (-1) f (Or.inl rfl) ⟨hS.1, hS.2.1, fun i hi c hc => ?_⟩ (fun π a b c => ⟨fun _ q => ?_, fun j' q => by omega⟩), fun q => by omega⟩
    · rw [hS.2.2 i hi c hc]
      by_cases e : i = t
      · rw [e, uf_s]
        exact ⟨fun z => by
          rcases z with z | z
          · omega
          · exact Or.inr ⟨by omega, z.2⟩, fun z => by
          rcases z with z | z
          · omega
          · exact Or.inr ⟨by omega, z.2⟩⟩
      · rw [uf_n e]
        have e1 : i < t + 1 ↔ i < t := by omega
        rw [e1]
    · have z := a.1 t ht
      exact hno π a b c (π t).toNat (by omega) q (by omega)
  | succ m ih =>
    intro j hj σ f h17 hS hno
    have e7 : σ.1 7 4 = (n : Int) := by rw [f.at (by decide)]; exact hn
    have ej : ((j : Int) + 1) = ((j + 1 : Nat) : Int) := by omega
    have hb := hu1 j (by omega)
    have ha := hafter j (by omega)
    have grow : (∀ π, Full n π → (∀ i, i < n → T i (π i).toNat) → (∀ i, i < t → 0 ≤ nx i → π i = nx i) → fo t j → π t ≠ (j : Int)) → ∀ π, Full n π → (∀ i, i < n → T i (π i).toNat) → (∀ i, i < t → 0 ≤ nx i → π i = nx i) → ∀ j' : Nat, j' < j + 1 → fo t j' → π t ≠ (j' : Int) := fun h π a b c j' hj' q => by
      by_cases e : j' = j
      · rw [e] at q ⊢; exact h π a b c q
      · exact hno π a b c j' (by omega) q
    refine g_X4_leastNext_22 hM t u1 j σ ⟨fun q => by omega, fun _ => ?_⟩
    rw [bit1 _ (by omega), ej]
    cases hc : tb u1 j with
    | false =>
      refine ⟨fun _ => ⟨⟨by omega, by omega⟩, ih (j + 1) (by omega) σ f h17 hS (grow (fun π a b c q e => ?_))⟩, fun q => by simp at q⟩
      rw [hc, ha.mpr q, Bool.and_true] at hb
      have z := (hS.2.2 t ht j (by omega)).mpr (Or.inr ⟨by omega, by omega, by have := b t ht; rw [e, Int.toNat_natCast] at this; exact this⟩)
      rw [h17, ← hb] at z
      cases z
    | true =>
      rw [hc] at hb
      simp only [Bool.true_eq, Bool.and_eq_true] at hb
      have hf := ha.mp hb.2
      have hTj : T t j := by
        have z := (hS.2.2 t ht j (by omega)).mp (by rw [h17]; exact hb.1)
        rcases z with z | z
        · omega
        · exact z.2.2
      refine ⟨fun q => by simp at q, fun _ => ?_⟩
      refine c_bind (d := d) (n := n) hn16 ht (by omega) hS.2.1 (fun r hr c hc q => ?_) hS.1 (by rw [h17]; exact hb.1) (fun σ1 f1 g17 hJ1 => ⟨fun q => by omega, fun _ => ?_⟩) (fun σ1 f1 g17 hJ1 hno1 => ⟨fun _ => ⟨⟨by omega, by omega⟩, ih (j + 1) (by omega) σ1 (f.tr f1) (by rw [g17, h17]) ⟨hJ1, fun r hr => by rw [g17]; exact hS.2.1 r hr, fun i hi => by rw [g17]; exact hS.2.2 i hi⟩ (grow (fun π a b c q e => ?_))⟩, fun q => by omega⟩)
      · rcases (hS.2.2 r hr c hc).mp q with z | z
        · have := hnx r z.1; omega
        · exact z.2.1
      · refine K σ1 j (f.tr f1) (Or.inr ⟨by omega, by omega, by rw [Int.toNat_natCast]; exact hf, by rw [Int.toNat_natCast]; exact hTj⟩) ⟨hJ1, fun r hr i h1 h2 => ?_, fun i hi c hc => ?_⟩ (fun π a b c => ⟨fun q => by omega, fun j' q => hno π a b c j' (by omega)⟩)
        · rw [g17]
          by_cases e : r = t
          · rw [e, uf_s, tb_shl1 (by omega) h2]; exact decide_eq_false (by omega)
          · rw [uf_n e]; exact hS.2.1 r hr i h1 h2
        · rw [g17]
          by_cases e : i = t
          · rw [e, uf_s, uf_s, tb_shl1 (by omega) (by omega), decide_eq_true_eq]
            exact ⟨fun q => Or.inl ⟨by omega, by omega, by omega⟩, fun q => by
              rcases q with q | q
              · omega
              · omega⟩
          · rw [uf_n e, uf_n e, hS.2.2 i hi c hc]
            have e1 : i < t + 1 ↔ i < t := by omega
            rw [e1]
      · refine hno1 (nz n π) ⟨fun r hr => ?_, fun i k hi hk h0 e => ?_⟩ (fun r hr => ?_) ?_
        · by_cases z : r < n
          · have p := a.1 r z
            refine Or.inr ?_
            show 0 ≤ nz n π r ∧ _
            rw [show nz n π r = π r from if_pos z]
            refine ⟨p.1, by omega, (hS.2.2 r z _ (by omega)).mpr ?_⟩
            by_cases y : r < t ∧ 0 ≤ nx r
            · exact Or.inl ⟨y.1, y.2, by have := c r y.1 y.2; omega⟩
            · exact Or.inr ⟨y, by omega, b r z⟩
          · exact Or.inl (if_neg z)
        · have hi' : i < n := by
            by_cases z : i < n
            · exact z
            · rw [show nz n π i = -1 from if_neg z] at h0; omega
          rw [show nz n π i = π i from if_pos hi'] at h0 e
          have hk' : k < n := by
            by_cases z : k < n
            · exact z
            · rw [show nz n π k = -1 from if_neg z] at e; omega
          rw [show nz n π k = π k from if_pos hk'] at e
          exact a.2 i k hi' hk' e
        · rw [show nz n π r = π r from if_pos hr]; exact (a.1 r hr).1
        · rw [show nz n π t = π t from if_pos ht]; exact e
theorem c_leastNext (hB : XB σ) (hA : AF σ) {n : Nat} (hn : σ.1 7 4 = (n : Int)) {T : Nat → Nat → Prop} {nx : Nat → Int} {t : Nat} (ht : t < n) (hnx : ∀ i, i < t → nx i = -1 ∨ (0 ≤ nx i ∧ nx i < n)) (hS : MS σ n T nx t)
    (K : ∀ (σ' : St) (x : Int), Fr [3, 17, 18, 19] σ σ' → (x = -1 ∨ (0 ≤ x ∧ x < n ∧ foX σ t x.toNat ∧ T t x.toNat)) → MS σ' n T (uf nx t x) (t + 1) → Chs n (foX σ) T nx t x → Q x σ') : conI G wdX (d + 20) mX4_leastNext [vR 4, vI t] σ Q := by
  refine conI.of (ls0 := [vR 4, vI t, vN, vN]) rfl rfl (Nat.le_of_ble_eq_true rfl) (fun Ret R hret hM => g_X4_leastNext_0 hM t σ ?_)
  have hn16 : n ≤ 16 := by have := hB.1; omega
  rw [Int.toNat_natCast]
  refine ⟨⟨by omega, by omega⟩, fun u1 eu => ?_⟩
  refine least_loop (d := d) hM σ hn16 hn ht hnx (fun c hc => ?_) u1 (fun c _ => by rw [eu, tb_and]) (fun σ' x a b c e => hret _ _ (K σ' x a b c e)) n 0 (by omega) σ Fr.rfl' rfl hS (fun _ _ _ _ j' q => by omega)
  rw [hA t c (by omega) (by omega)]
  exact ⟨fun q => q.2, fun q => ⟨by omega, q⟩⟩
def slk (σ : St) (nx : Nat → Int) (i : Nat) : Int := if nx i < 0 then -1 else σ.1 36 (nx i).toNat - σ.1 37 i - wX σ i (nx i).toNat
theorem Chs.cg {n : Nat} {fo T : Nat → Nat → Prop} {nx nx' : Nat → Int} {t : Nat} {x : Int} (h : Chs n fo T nx t x) (e : ∀ i, i < t → nx' i = nx i) : Chs n fo T nx' t x := fun π a b c => h π a b (fun i hi h0 => by rw [← e i hi]; exact c i hi (by rw [e i hi]; exact h0))
theorem make_loop {Ret : Option AV → St → Prop} {R : Nat → List AV → List AV → St → Prop} (hM : AM G wdX (d + 21) mX4_make Ret R) (σ0 : St) (hB : XB σ0) (hA : AF σ0) {n : Nat} (hn : σ0.1 7 4 = (n : Int)) {T : Nat → Nat → Prop}
    (K : ∀ σ', Fr [3, 4, 17, 18, 19, 20, 21] σ0 σ' → MS σ' n T (σ'.1 20) n → (∀ i, i < n → (σ'.1 20 i = -1 ∨ (0 ≤ σ'.1 20 i ∧ σ'.1 20 i < n ∧ foX σ0 i (σ'.1 20 i).toNat ∧ T i (σ'.1 20 i).toNat)) ∧ Chs n (foX σ0) T (σ'.1 20) i (σ'.1 20 i) ∧ σ'.1 21 i = slk σ0 (σ'.1 20) i) → σ'.1 4 4 = Pc n (pX σ0) (σ'.1 20) → conV G wdX (d + 20) mX4_numberBlocks [vR 4] σ' (fun σ1 => Ret none σ1)) :
    ∀ m t : Nat, t + m = n → ∀ σ : St, Fr [3, 4, 17, 18, 19, 20, 21] σ0 σ → MS σ n T (σ.1 20) t → (∀ i, i < t → (σ.1 20 i = -1 ∨ (0 ≤ σ.1 20 i ∧ σ.1 20 i < n ∧ foX σ0 i (σ.1 20 i).toNat ∧ T i (σ.1 20 i).toNat)) ∧ Chs n (foX σ0) T (σ.1 20) i (σ.1 20 i) ∧ σ.1 21 i = slk σ0 (σ.1 20) i) → σ.1 4 4 = Pc t (pX σ0) (σ.1 20) → R 25 [vR 4, vI t, vN, vN] [] σ := by
  have hn16 : n ≤ 16 := by have := hB.1; omega
  intro m
  induction m with
  | zero =>
    intro t ht σ f hS h1 h2
    have e7 : σ.1 7 4 = (n : Int) := by rw [f.at (by decide)]; exact hn
    have e : t = n := by omega
    subst e
    exact g_X4_make_25 hM t σ ⟨fun _ => K σ f hS h1 h2, fun q => by omega⟩
  | succ m ih =>
    intro t ht σ f hS h1 h2
    have e7 : σ.1 7 4 = (n : Int) := by rw [f.at (by decide)]; exact hn
    have et : ((t : Int) + 1) = ((t + 1 : Nat) : Int) := by omega
    have efo : foX σ = foX σ0 := foX.fr (f.at (by decide)) (f.at (by decide)) (f.at (by decide)) (f.at (by decide)) (f.at (by decide))
    have hBs := hB.frame f (by decide)
    have hAs : AF σ := fun a b ha hb => by
      rw [f.at (by decide)] at ha ⊢
      rw [f.at (by decide), efo]
      exact hA a b ha hb
    refine g_X4_make_25 hM t σ ⟨fun q => by omega, fun _ => c_leastNext (d := d) hBs hAs e7 (by omega) (fun i hi => ?_) hS (fun σ2 x f2 hx hS2 hch => ⟨⟨by omega, by omega⟩, ?_⟩)⟩
    · rcases (h1 i hi).1 with q | q
      · exact Or.inl q
      · exact Or.inr ⟨q.1, q.2.1⟩
    rw [Int.toNat_natCast, efo] at *
    intro τ1 t1 τ2 t2
    have fr2 : Fr [3, 4, 17, 18, 19, 20, 21] σ0 σ2 := f.tr (f2.mono (by decide))
    have ft : Fr [3, 4, 17, 18, 19, 20, 21] σ0 τ2 := by rw [t2, t1]; exact (fr2.put (by decide)).put (by decide)
    have k20 : τ2.1 20 = uf (σ.1 20) t x := by rw [t2, sI_n _ (by decide), t1, sI_s, f2.at (by decide)]
    have k21 : τ2.1 21 = uf (σ.1 21) t (-1) := by rw [t2, sI_s, t1, sI_n _ (by decide), f2.at (by decide)]
    have k4 : τ2.1 4 = σ.1 4 := by rw [t2, sI_n _ (by decide), t1, sI_n _ (by decide), f2.at (by decide)]
    have k20t : τ2.1 20 t = x := by rw [k20, uf_s]
    have old : ∀ (τ : St), τ.1 20 = uf (σ.1 20) t x → (∀ i, i ≠ t → τ.1 21 i = σ.1 21 i) → τ.1 21 t = slk σ0 (uf (σ.1 20) t x) t → ∀ i, i < t + 1 → (τ.1 20 i = -1 ∨ (0 ≤ τ.1 20 i ∧ τ.1 20 i < n ∧ foX σ0 i (τ.1 20 i).toNat ∧ T i (τ.1 20 i).toNat)) ∧ Chs n (foX σ0) T (τ.1 20) i (τ.1 20 i) ∧ τ.1 21 i = slk σ0 (τ.1 20) i := by
      intro τ q20 q21 q21t i hi
      rw [q20]
      by_cases e : i = t
      · rw [e, uf_s, q21t]
        refine ⟨hx, hch.cg (fun i hi => uf_n (by omega)), rfl⟩
      · have z := h1 i (by omega)
        rw [uf_n e, q21 i e]
        refine ⟨z.1, z.2.1.cg (fun i hi => uf_n (by omega)), ?_⟩
        rw [z.2.2]
        unfold slk
        rw [uf_n e]
    have msx : ∀ τ : St, τ.1 17 = σ2.1 17 → τ.1 18 = σ2.1 18 → τ.1 19 = σ2.1 19 → τ.1 3 = σ2.1 3 → τ.1 20 = uf (σ.1 20) t x → MS τ n T (τ.1 20) (t + 1) := by
      intro τ q17 q18 q19 q3 q20
      unfold MS
      rw [q20]
      show Jp (fun r c => tb (τ.1 17 r) c = true) _ _ (τ.1 18) (τ.1 19) (τ.1 3 3) ∧ (∀ r, r < 16 → ∀ i, 16 ≤ i → i < 32 → tb (τ.1 17 r) i = false) ∧ _
      rw [q17, q18, q19, q3]
      exact hS2
    have pcx : Pc (t + 1) (pX σ0) (uf (σ.1 20) t x) = Pc t (pX σ0) (σ.1 20) + (if x < 0 then 0 else pX σ0 t x.toNat) := by
      unfold Pc
      rw [fb_si_succ, uf_s]
      congr 1
      exact fb_si_cong (fun i hi => by rw [uf_n (by omega)])
    have hpr : 0 ≤ Pc t (pX σ0) (σ.1 20) ∧ Pc t (pX σ0) (σ.1 20) ≤ 16 * 1000 := by
      have hb := fb_si_bound (f := fun i => if σ.1 20 i < 0 then 0 else pX σ0 i (σ.1 20 i).toNat) (c := 1000) (by decide) (n := t) (fun i hi => by
        have z := (h1 i hi).1
        by_cases q : σ.1 20 i < 0
        · simp only [if_pos q]; omega
        · simp only [if_neg q]
          have := hB.p (i := i) (j := (σ.1 20 i).toNat) (by omega) (by omega)
          omega)
      have a := si_zero (f := fun i => if σ.1 20 i < 0 then 0 else pX σ0 i (σ.1 20 i).toNat) (n := t) (fun i hi => by
        have z := (h1 i hi).1
        by_cases q : σ.1 20 i < 0
        · rw [if_pos q]; omega
        · rw [if_neg q]
          exact (hB.p (i := i) (j := (σ.1 20 i).toNat) (by omega) (by omega)).1)
      have hb2 := hb.2
      exact ⟨a.1, by show fb_si _ t ≤ _; omega⟩
    rw [k20t]
    refine ⟨fun q => ⟨⟨by omega, by omega⟩, ?_⟩, fun q => ?_⟩
    · rw [et]
      refine ih (t + 1) (by omega) τ2 ft (msx τ2 (by rw [t2, sI_n _ (by decide), t1, sI_n _ (by decide)]) (by rw [t2, sI_n _ (by decide), t1, sI_n _ (by decide)]) (by rw [t2, sI_n _ (by decide), t1, sI_n _ (by decide)]) (by rw [t2, sI_n _ (by decide), t1, sI_n _ (by decide)]) k20) (old τ2 k20 (fun i hi => by rw [k21, uf_n hi]) ?_) ?_
      · rw [k21, uf_s]; unfold slk; rw [uf_s, if_pos (by omega)]
      · rw [k4, k20, pcx, h2, if_pos (by omega)]; omega
    · have hx' : 0 ≤ x ∧ x < n ∧ foX σ0 t x.toNat ∧ T t x.toNat := by
        rcases hx with z | z
        · exact absurd z q
        · exact z
      have e34 : τ2.1 34 = σ0.1 34 := ft.at (by decide)
      have e35 : τ2.1 35 = σ0.1 35 := ft.at (by decide)
      refine ⟨⟨by omega, by omega⟩, fun u1 eu => c_X8_priceOf (d := d + 19) _ _ (by rw [e35]; exact (hB.2.1 t (by omega)).2.1) (by rw [eu, e34]; exact (hB.2.1 _ (by omega)).1) ?_⟩
      have ep : τ2.1 39 (τ2.1 35 t * 12 + u1).toNat = pX σ0 t x.toNat := by rw [eu, e34, e35, ft.at (by decide)]
      have hpp := hB.p (i := t) (j := x.toNat) (by omega) (by omega)
      rw [ep, k4, h2]
      refine ⟨⟨by omega, by omega⟩, fun τ3 t3 => ?_⟩
      have f3 : Fr [3, 4, 17, 18, 19, 20, 21] σ0 τ3 := by rw [t3]; exact ft.put (by decide)
      have j20 : τ3.1 20 = uf (σ.1 20) t x := by rw [t3, sI_n _ (by decide)]; exact k20
      have j36 : τ3.1 36 = σ0.1 36 := f3.at (by decide)
      have j37 : τ3.1 37 = σ0.1 37 := f3.at (by decide)
      have b1 := hB.2.1 t (by omega)
      have b2 := hB.2.1 x.toNat (by omega)
      have bw := hB.w (i := t) (j := x.toNat) (by omega) (by omega)
      rw [j20, uf_s, j36, j37]
      refine ⟨⟨by omega, by omega⟩, ⟨by omega, by omega⟩, c_X8_minutesOf (d := d + 19) _ _ (by rw [e35]; exact b1.2.1) (by rw [eu, e34]; exact b2.1) ?_⟩
      have ew : τ3.1 38 (τ2.1 35 t * 12 + u1).toNat = wX σ0 t x.toNat := by rw [eu, e34, e35, f3.at (by decide)]
      rw [ew]
      refine ⟨⟨by omega, by omega⟩, fun τ4 t4 => ⟨⟨by omega, by omega⟩, ?_⟩⟩
      have f4 : Fr [3, 4, 17, 18, 19, 20, 21] σ0 τ4 := by rw [t4]; exact f3.put (by decide)
      have l20 : τ4.1 20 = uf (σ.1 20) t x := by rw [t4, sI_n _ (by decide)]; exact j20
      have l21 : τ4.1 21 = uf (uf (σ.1 21) t (-1)) t (σ0.1 36 x.toNat - σ0.1 37 t - wX σ0 t x.toNat) := by rw [t4, sI_s, t3, sI_n _ (by decide), k21]
      have ln' : ∀ c, c ≠ 20 → c ≠ 21 → c ≠ 4 → τ4.1 c = σ2.1 c := fun c z1 z2 z3 => by rw [t4, sI_n _ z2, t3, sI_n _ z3, t2, sI_n _ z2, t1, sI_n _ z1]
      rw [et]
      refine ih (t + 1) (by omega) τ4 f4 (msx τ4 (ln' 17 (by decide) (by decide) (by decide)) (ln' 18 (by decide) (by decide) (by decide)) (ln' 19 (by decide) (by decide) (by decide)) (ln' 3 (by decide) (by decide) (by decide)) l20) (old τ4 l20 (fun i hi => by rw [l21, uf_n hi, uf_n hi]) ?_) ?_
      · rw [l21, uf_s]; unfold slk; rw [uf_s, if_neg (by omega)]
      · rw [l20, pcx, if_neg (by omega), t4, sI_n _ (by decide), t3, sI_s, uf_s]
end Least
