/-! ===== by how many BLOCKS a plan would be fewer ===== -/
theorem heads_links {n : Nat} {f bg : Nat → Int} (hC : Chn n f bg) : bn n f n + Lc n f = n := by
  have a := fb_ct_not (hB n f) n
  have e : fb_ct (fun t => !hB n f t) n = Lc n f := by
    have hx : ∀ t, ∃ i, t < n → hB n f t = false → (i < n ∧ f i = (t : Int)) := fun t => by
      by_cases q : t < n ∧ hB n f t = false
      · by_cases z : ∃ i, i < n ∧ f i = (t : Int)
        · obtain ⟨i, hi⟩ := z; exact ⟨i, fun _ _ => hi⟩
        · have : hB n f t = true := cB_iff.mpr ⟨q.1, fun i hi y => z ⟨i, hi, y⟩⟩
          rw [this] at q; cases q.2
      · exact ⟨0, fun y w => absurd ⟨y, w⟩ q⟩
    obtain ⟨g, hg⟩ := Classical.axiomOfChoice hx
    refine Nat.le_antisymm (ct_inj g (fun t ht q => ?_) (fun t t' ht ht' q q' y => ?_)) (ct_inj (fun i => (f i).toNat) (fun i hi q => ?_) (fun i j hi hj q q' y => ?_))
    · have q1 : hB n f t = false := by simpa using q
      have z := hg t ht q1
      exact ⟨z.1, decide_eq_true (by rw [z.2]; omega)⟩
    · have q1 : hB n f t = false := by simpa using q
      have q2 : hB n f t' = false := by simpa using q'
      have z := (hg t ht q1).2
      rw [y, (hg t' ht' q2).2] at z
      omega
    · have q1 : 0 ≤ f i := of_decide_eq_true q
      have r := hC.2.1 i hi
      refine ⟨by omega, ?_⟩
      cases w : hB n f (f i).toNat with
      | false => rfl
      | true => exact absurd (by omega) ((cB_iff.mp w).2 i hi)
    · have q1 : 0 ≤ f i := of_decide_eq_true q
      have q2 : 0 ≤ f j := of_decide_eq_true q'
      exact hC.2.2 i j hi hj q1 (by omega)
  unfold bn
  omega
theorem Lc_c {n : Nat} {a b : Nat → Int} (h : ∀ i, i < n → a i = b i) : Lc n a = Lc n b := fb_ct_cong (fun i hi => by rw [h i hi])
theorem ct_pad {p : Nat → Bool} {n : Nat} (hn : n ≤ 16) (h : ∀ i, n ≤ i → i < 16 → p i = false) : fb_ct p 16 = fb_ct p n := by
  have a := fb_ct_split p n (16 - n)
  rw [show n + (16 - n) = 16 from by omega] at a
  have b : fb_ct (fun k => p (n + k)) (16 - n) = 0 := fb_ct_zero.mpr (fun k hk => h (n + k) (by omega) (by omega))
  omega
theorem mx_plan {n : Nat} (hn : n ≤ 16) {fo ok : Nat → Nat → Prop} {pr : Nat → Nat → Int} {nx : Nat → Int} (hp : ∀ i j, i < n → j < n → 0 ≤ pr i j ∧ pr i j ≤ 1000) (h : IsPlan n fo pr nx) {N : Nat} (hM : MaxM n ok N) (hok : ∀ i j, i < n → j < 16 → (ok i j ↔ j < n ∧ fo i j)) : Lc n nx = N := by
  obtain ⟨⟨ny, y1, y2, y3⟩, ub⟩ := hM
  have hy : OkP n fo ny := ⟨fun i hi => by
      rcases y1.1 i (by omega) with q | q
      · exact Or.inl q
      · have z := (hok i _ hi (by omega)).mp q.2.2
        exact Or.inr ⟨q.1, by omega, z.2⟩, fun i j hi hj h0 e => y1.2 i j (by omega) (by omega) h0 e⟩
  have ey : cnt ny = Lc n ny := ct_pad hn (fun i h1 h2 => decide_eq_false (fun q => by have := y2 i h2 q; omega))
  have a := vals pr nx n
  have b := vals pr ny n
  have ra := Pc_rng (nx := nx) hn (fun i hi => h.1.rng hi) hp
  have rb := Pc_rng (nx := ny) hn (fun i hi => hy.rng hi) hp
  have le := h.2.1 ny hy
  have u := ub (nz n nx) ⟨fun i hi => by
      by_cases q : i < n
      · rw [show nz n nx i = nx i from if_pos q]
        rcases h.1.1 i q with z | z
        · exact Or.inl z
        · exact Or.inr ⟨z.1, by omega, (hok i _ q (by omega)).mpr ⟨by omega, z.2.2⟩⟩
      · exact Or.inl (if_neg q), fun i j hi hj h0 e => by
      have qi : i < n := by
        by_cases q : i < n
        · exact q
        · rw [show nz n nx i = -1 from if_neg q] at h0; omega
      rw [show nz n nx i = nx i from if_pos qi] at h0 e
      have qj : j < n := by
        by_cases q : j < n
        · exact q
        · rw [show nz n nx j = -1 from if_neg q] at e; omega
      rw [show nz n nx j = nx j from if_pos qj] at e
      exact h.1.2 i j qi qj h0 e⟩ (fun r _ q => by
      by_cases z : r < n
      · exact z
      · rw [show nz n nx r = -1 from if_neg z] at q; omega)
  have eu : cnt (nz n nx) = Lc n nx := by
    have e1 : cnt (nz n nx) = Lc n (nz n nx) := ct_pad hn (fun i h1 h2 => decide_eq_false (fun q => by rw [show nz n nx i = -1 from if_neg (by omega)] at q; omega))
    rw [e1]
    exact Lc_c (fun i hi => if_pos hi)
  omega
/-- MAY FOLLOW with trip t so much later -/
def mvF (σ : St) (t : Nat) (l : Int) (i j : Nat) : Prop := (i = t ∧ j ≠ t ∧ foL σ t j (-l)) ∨ (i ≠ t ∧ j = t ∧ foL σ i t l) ∨ (i ≠ t ∧ j ≠ t ∧ foX σ i j)
section Saves
variable {G : GX} {d : Nat} {σ : St} {Q : Int → St → Prop}
theorem foL.fr {S : List Nat} {σ σ' : St} (f : Fr S σ σ') (hS : offB S) (i j : Nat) (l : Int) : foL σ' i j l ↔ foL σ i j l := by
  obtain ⟨_, _, s34, s35, s36, s37, s38, _⟩ := hS
  show (¬ σ'.1 38 _ = -1 ∧ σ'.1 37 i + σ'.1 38 _ ≤ σ'.1 36 j + l) ↔ _
  rw [f.at s34, f.at s35, f.at s36, f.at s37, f.at s38]
theorem c_fewestWith (hB : XB σ) (hA : AF σ) (hop : opn σ) {n t : Nat} (hn : σ.1 7 4 = (n : Int)) (ht : t < n) (l : Int) (hl : -2879 ≤ l ∧ l ≤ 2879)
    (K : ∀ (σ' : St) (N : Nat) (ok : Nat → Nat → Prop), Fr [3, 17, 18, 19] σ σ' → opn σ' → MaxM n ok N → (∀ i j, i < n → j < 16 → (ok i j ↔ j < n ∧ mvF σ t l i j)) → Q ((n : Int) - (N : Int)) σ') : conI G wdX (d + 20) mX4_fewestWith [vR 4, vI t, vI l] σ Q := by
  refine conI.of (ls0 := [vR 4, vI t, vI l, vN]) rfl rfl (Nat.le_of_ble_eq_true rfl) (fun Ret R hret hM => g_X4_fewestWith_0 hM t l σ ?_)
  have hn16 : n ≤ 16 := by have := hB.1; omega
  -- what the second row of questions leaves
  have second : ∀ m j : Nat, j + m = n → ∀ σ1 : St, Fr [17] σ σ1 → opn σ1 → (∀ i, i < n → i ≠ t → ∀ c, c < 32 → (tb (σ1.1 17 i) c = true ↔ c < n ∧ mvF σ t l i c)) → (∀ c, c < 32 → (tb (σ1.1 17 t) c = true ↔ c < j ∧ mvF σ t l t c)) → R 88 [vR 4, vI t, vI l, vI j] [] σ1 := by
    intro m
    induction m with
    | zero =>
      intro j hj σ1 f1 ho h1 h2
      have e : j = n := by omega
      subst e
      have e7 : σ1.1 7 4 = (j : Int) := by rw [f1.at (by decide)]; exact hn
      refine g_X4_fewestWith_88 hM t l j σ1 ⟨fun _ => ?_, fun q => by omega⟩
      rw [e7]
      refine c_most (d := d) hn16 ho (fun σ2 N f2 hMx => ?_)
      have hN : N ≤ 16 := by
        obtain ⟨nx, _, _, e3⟩ := hMx.1
        rw [← e3]; exact fb_ct_le _ _
      refine ⟨⟨by omega, by omega⟩, hret _ _ (K σ2 N (opX σ1) ((f1.mono (by decide)).tr (f2.mono (by decide))) (fun r hr => by rw [f2.at (by decide)]; exact ho r hr) hMx (fun i c hi hc => ?_))⟩
      by_cases q : i = t
      · rw [q]; exact h2 c (by omega)
      · exact h1 i hi q c (by omega)
    | succ m ih =>
      intro j hj σ1 f1 ho h1 h2
      have e7 : σ1.1 7 4 = (n : Int) := by rw [f1.at (by decide)]; exact hn
      have ej : ((j : Int) + 1) = ((j + 1 : Nat) : Int) := by omega
      have hB1 := hB.frame f1 (by decide)
      have skip : ¬ mvF σ t l t j → R 88 [vR 4, vI t, vI l, vI ((j : Int) + 1)] [] σ1 := fun q => by
        rw [ej]
        refine ih (j + 1) (by omega) σ1 f1 ho h1 (fun c hc => ?_)
        rw [h2 c hc]
        by_cases e : c = j
        · rw [e]; exact ⟨fun z => by omega, fun z => absurd z.2 q⟩
        · exact ⟨fun z => ⟨by omega, z.2⟩, fun z => ⟨by omega, z.2⟩⟩
      refine g_X4_fewestWith_88 hM t l j σ1 ⟨fun q => by omega, fun _ => ⟨fun q => ⟨⟨by omega, by omega⟩, skip (fun z => ?_)⟩, fun q => ⟨⟨by omega, by omega⟩, ?_⟩⟩⟩
      · have ejt : j = t := by omega
        rcases z with z | z | z
        · exact z.2.1 ejt
        · exact z.1 rfl
        · exact z.1 rfl
      · have hjt : j ≠ t := fun e => q (by omega)
        refine c_X2_follows (d := d + 17) t j (-l) hB1 (by omega) (by omega) ⟨by omega, by omega⟩ (fun z => ⟨fun y => by omega, fun _ => ⟨⟨by omega, by omega⟩, fun τ1 t1 => ⟨⟨by omega, by omega⟩, ?_⟩⟩⟩) (fun z => ⟨fun _ => ⟨⟨by omega, by omega⟩, skip (fun y => ?_)⟩, fun y => absurd rfl y⟩)
        · rw [Int.toNat_natCast] at t1
          rw [foL.fr f1 (by decide)] at z
          have k17 : τ1.1 17 = uf (σ1.1 17) t (bOr (σ1.1 17 t) (bShl 1 (j : Int))) := by rw [t1, sI_s]
          rw [ej]
          refine ih (j + 1) (by omega) τ1 (by rw [t1]; exact f1.put (by decide)) (fun r hr i h3 h4 => ?_) (fun i hi hit c hc => by rw [k17, uf_n hit]; exact h1 i hi hit c hc) (fun c hc => ?_)
          · rw [k17]
            by_cases e : r = t
            · rw [e, uf_s, tb_put _ (by omega) h4, ho t (by omega) i h3 h4, decide_eq_false (by omega)]; rfl
            · rw [uf_n e]; exact ho r hr i h3 h4
          · rw [k17, uf_s, tb_put _ (by omega) hc, Bool.or_eq_true, decide_eq_true_eq, h2 c hc]
            constructor
            · rintro (y | y)
              · exact ⟨by omega, y.2⟩
              · rw [y]; exact ⟨by omega, Or.inl ⟨rfl, hjt, z⟩⟩
            · intro y
              by_cases e : c = j
              · exact Or.inr e
              · exact Or.inl ⟨by omega, y.2⟩
        · rw [foL.fr f1 (by decide)] at z
          rcases y with y | y | y
          · exact z y.2.2
          · exact y.1 rfl
          · exact y.1 rfl
  have first : ∀ m i : Nat, i + m = n → ∀ σ1 : St, Fr [17] σ σ1 → opn σ1 → (∀ a, a < i → a ≠ t → ∀ c, c < 32 → (tb (σ1.1 17 a) c = true ↔ c < n ∧ mvF σ t l a c)) → R 2 [vR 4, vI t, vI l, vI i] [] σ1 := by
    intro m
    induction m with
    | zero =>
      intro i hi σ1 f1 ho h1
      have e : i = n := by omega
      subst e
      have e7 : σ1.1 7 4 = (i : Int) := by rw [f1.at (by decide)]; exact hn
      refine g_X4_fewestWith_2 hM t l i σ1 ⟨fun _ => ⟨⟨by omega, by omega⟩, fun τ1 t1 => ?_⟩, fun q => by omega⟩
      rw [Int.toNat_natCast] at t1
      have k17 : τ1.1 17 = uf (σ1.1 17) t 0 := by rw [t1, sI_s]
      refine second i 0 (by omega) τ1 (by rw [t1]; exact f1.put (by decide)) (fun r hr b h3 h4 => ?_) (fun a ha hat c hc => by rw [k17, uf_n hat]; exact h1 a ha hat c hc) (fun c hc => ?_)
      · rw [k17]
        by_cases e : r = t
        · rw [e, uf_s, tb_0]
        · rw [uf_n e]; exact ho r hr b h3 h4
      · rw [k17, uf_s, tb_0]
        exact ⟨fun y => by (cases y), fun y => by omega⟩
    | succ m ih =>
      intro i hi σ1 f1 ho h1
      have e7 : σ1.1 7 4 = (n : Int) := by rw [f1.at (by decide)]; exact hn
      have ei : ((i : Int) + 1) = ((i + 1 : Nat) : Int) := by omega
      refine g_X4_fewestWith_2 hM t l i σ1 ⟨fun q => by omega, fun _ => ⟨⟨by omega, by omega⟩, fun τ2 t2 => ?_⟩⟩
      rw [Int.toNat_natCast, f1.at (k := 15) (by decide)] at t2
      have k17 : τ2.1 17 = uf (σ1.1 17) i (bAnd (σ.1 15 i) (bXor (bShl 1 (t : Int)) (-1))) := by rw [t2, sI_s]
      have f2 : Fr [17] σ τ2 := by rw [t2]; exact f1.put (by decide)
      have hB2 := hB.frame f2 (by decide)
      have bits : ∀ c, c < 32 → (tb (τ2.1 17 i) c = true ↔ (c < n ∧ foX σ i c) ∧ c ≠ t) := fun c hc => by
        rw [k17, uf_s, tb_and, tb_not _ hc, tb_shl1 (by omega) hc, Bool.and_eq_true, Bool.not_eq_true', decide_eq_false_iff_not, hA i c (by omega) hc]
        have : (c : Int) < σ.1 7 4 ↔ c < n := by omega
        rw [this]
      have o2 : opn τ2 := fun r hr b h3 h4 => by
        by_cases e : r = i
        · cases y : tb (τ2.1 17 r) b with
          | false => rfl
          | true => rw [e] at y; have := ((bits b h4).mp y).1.1; omega
        · rw [k17, uf_n e]; exact ho r hr b h3 h4
      have o1 : ∀ a, a ≠ i → τ2.1 17 a = σ1.1 17 a := fun a ha => by rw [k17, uf_n ha]
      refine ⟨fun q => ⟨⟨by omega, by omega⟩, ?_⟩, fun q => ?_⟩
      · rw [ei]
        refine ih (i + 1) (by omega) τ2 f2 o2 (fun a ha hat c hc => ?_)
        have : a ≠ i := by omega
        rw [o1 a this]; exact h1 a (by omega) hat c hc
      · have hit : i ≠ t := fun e => q (by omega)
        refine c_X2_follows (d := d + 17) i t l hB2 (by rw [f2.at (by decide)]; omega) (by rw [f2.at (by decide)]; omega) ⟨by omega, by omega⟩ (fun z => ⟨fun y => by omega, fun _ τ3 t3 => ⟨⟨by omega, by omega⟩, ?_⟩⟩) (fun z => ⟨fun _ => ⟨⟨by omega, by omega⟩, ?_⟩, fun y => absurd rfl y⟩)
        · rw [Int.toNat_natCast] at t3
          rw [foL.fr f2 (by decide)] at z
          have j17 : τ3.1 17 = uf (τ2.1 17) i (bOr (τ2.1 17 i) (bShl 1 (t : Int))) := by rw [t3, sI_s]
          rw [ei]
          refine ih (i + 1) (by omega) τ3 (by rw [t3]; exact f2.put (by decide)) (fun r hr b h3 h4 => ?_) (fun a ha hat c hc => ?_)
          · rw [j17]
            by_cases e : r = i
            · rw [e, uf_s, tb_put _ (by omega) h4, o2 i (by omega) b h3 h4, decide_eq_false (by omega)]; rfl
            · rw [uf_n e]; exact o2 r hr b h3 h4
          · rw [j17]
            by_cases e : a = i
            · rw [e, uf_s, tb_put _ (by omega) hc, Bool.or_eq_true, decide_eq_true_eq, bits c hc]
              constructor
              · rintro (y | y)
                · exact ⟨y.1.1, Or.inr (Or.inr ⟨hit, y.2, y.1.2⟩)⟩
                · rw [y]; exact ⟨ht, Or.inr (Or.inl ⟨hit, rfl, z⟩)⟩
              · rintro ⟨y1, y | y | y⟩
                · exact absurd y.1 hit
                · exact Or.inr y.2.1
                · exact Or.inl ⟨⟨y1, y.2.2⟩, y.2.1⟩
            · rw [uf_n e, o1 a e]; exact h1 a (by omega) hat c hc
        · rw [foL.fr f2 (by decide)] at z
          rw [ei]
          refine ih (i + 1) (by omega) τ2 f2 o2 (fun a ha hat c hc => ?_)
          by_cases e : a = i
          · rw [e, bits c hc]
            constructor
            · intro y; exact ⟨y.1.1, Or.inr (Or.inr ⟨hit, y.2, y.1.2⟩)⟩
            · rintro ⟨y1, y | y | y⟩
              · exact absurd y.1 hit
              · exact absurd y.2.2 z
              · exact ⟨⟨y1, y.2.2⟩, y.2.1⟩
          · rw [o1 a e]; exact h1 a (by omega) hat c hc
  exact first n 0 (by omega) σ Fr.rfl' hop (fun a ha => by omega)
end Saves
