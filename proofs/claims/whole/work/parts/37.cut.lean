/-! ===== the class's SEGMENTS ===== -/
/-- the first i trips of a row are cut -/
def RowS (n : Nat) (f : Nat → Int) (rl : Nat → Bool) (t i : Nat) (so sb sf sl sm : Nat → Int) : Prop :=
  ∀ j, j < i → so (itn f t j).toNat = ((bs n f rl t + Rc f rl t j : Nat) : Int) ∧ sb (bs n f rl t + Rc f rl t j) = (bn n f t : Int) ∧ sf (bs n f rl t + Rc f rl t j) = stf f rl t j ∧
    ((j + 1 = i ∨ rl (itn f t j).toNat = true) → sl (bs n f rl t + Rc f rl t j) = itn f t j ∧ sm (bs n f rl t + Rc f rl t j) = psf f rl t j)
/-- a new SEGMENT begins at trip i -/
def nwS (f : Nat → Int) (rl : Nat → Bool) (t : Nat) : Nat → Bool
  | 0 => true
  | i + 1 => rl (itn f t i).toNat
theorem stf_nw {f : Nat → Int} {rl : Nat → Bool} {t : Nat} : ∀ {i : Nat}, nwS f rl t i = true → stf f rl t i = itn f t i ∧ psf f rl t i = 1
  | 0, _ => ⟨rfl, rfl⟩
  | i + 1, h => by
    have h' : rl (itn f t i).toNat = true := h
    exact ⟨by show (if rl (itn f t i).toNat then itn f t (i + 1) else _) = _; rw [if_pos h'], by show (if rl (itn f t i).toNat then 1 else _) = _; rw [if_pos h']⟩
theorem RowS.step {n : Nat} {f bg : Nat → Int} {rl : Nat → Bool} (hC : Chn n f bg) {t i : Nat} (ht : hB n f t = true) (hi : i < ln f t) {so sb sf sl sm so' sb' sf' sl' sm' : Nat → Int} (h : RowS n f rl t i so sb sf sl sm)
    (e1 : so' = uf so (itn f t i).toNat ((bs n f rl t + Rc f rl t i : Nat) : Int)) (e2 : sb' = if nwS f rl t i then uf sb (bs n f rl t + Rc f rl t i) (bn n f t) else sb) (e3 : sf' = if nwS f rl t i then uf sf (bs n f rl t + Rc f rl t i) (itn f t i) else sf)
    (e4 : sl' = uf sl (bs n f rl t + Rc f rl t i) (itn f t i)) (e5 : sm' = uf sm (bs n f rl t + Rc f rl t i) (if nwS f rl t i then 1 else sm (bs n f rl t + Rc f rl t i) + 1)) : RowS n f rl t (i + 1) so' sb' sf' sl' sm' := by
  have hlt := (cB_iff.mp ht).1
  intro j hj
  have hin := itn_in hC hlt hi
  by_cases e : j = i
  · rw [e, e1, e4, e5, uf_s, uf_s, uf_s]
    cases q : nwS f rl t i with
    | true =>
      rw [q] at e2 e3
      have z := stf_nw q
      rw [e2, e3]
      simp only [if_true]
      rw [uf_s, uf_s, z.1, z.2]
      exact ⟨trivial, rfl, rfl, fun _ => ⟨trivial, rfl⟩⟩
    | false =>
      rw [q] at e2 e3
      cases i with
      | zero => cases q
      | succ i =>
        have q' : rl (itn f t i).toNat = false := q
        have hp := h i (by omega)
        have er : Rc f rl t (i + 1) = Rc f rl t i := by rw [Rc_s, q']; rfl
        have es : stf f rl t (i + 1) = stf f rl t i := by show (if rl (itn f t i).toNat then itn f t (i + 1) else stf f rl t i) = _; rw [q']; rfl
        have ep : psf f rl t (i + 1) = psf f rl t i + 1 := by show (if rl (itn f t i).toNat then 1 else psf f rl t i + 1) = _; rw [q']; rfl
        rw [e2, e3, er, es, ep]
        simp only [Bool.false_eq_true, if_false]
        have := (hp.2.2.2 (Or.inl rfl)).2
        exact ⟨trivial, hp.2.1, hp.2.2.1, fun _ => ⟨trivial, by rw [this]⟩⟩
  · have hj' : j < i := by omega
    have hjin := itn_in hC hlt (show j < ln f t by omega)
    have hp := h j hj'
    have ne : (itn f t j).toNat ≠ (itn f t i).toNat := fun z => e (itn_one hC ht ht j i hjin.1 (by omega)).2
    have hm : Rc f rl t j ≤ Rc f rl t i := Rc_mono rl t (by omega)
    -- where a new one begins its number is new
    have hnew : nwS f rl t i = true → Rc f rl t j < Rc f rl t i := fun q => by
      cases i with
      | zero => omega
      | succ i =>
        have q' : rl (itn f t i).toNat = true := q
        have a := Rc_mono (f := f) rl t (show j ≤ i by omega)
        have b : Rc f rl t (i + 1) = Rc f rl t i + 1 := by rw [Rc_s, q']; rfl
        omega
    refine ⟨by rw [e1, uf_n ne]; exact hp.1, ?_, ?_, fun z => ?_⟩
    · rw [e2]
      cases q : nwS f rl t i with
      | false => exact hp.2.1
      | true =>
        simp only [if_true]
        rw [uf_n (by have := hnew q; omega)]; exact hp.2.1
    · rw [e3]
      cases q : nwS f rl t i with
      | false => exact hp.2.2.1
      | true =>
        simp only [if_true]
        rw [uf_n (by have := hnew q; omega)]; exact hp.2.2.1
    · have hr : rl (itn f t j).toNat = true := by
        rcases z with z | z
        · omega
        · exact z
      have hlt2 : Rc f rl t j < Rc f rl t i := by
        have a := Rc_mono (f := f) rl t (show j + 1 ≤ i by omega)
        have b : Rc f rl t (j + 1) = Rc f rl t j + 1 := by rw [Rc_s, hr]; rfl
        omega
      rw [e4, e5, uf_n (by omega), uf_n (by omega)]
      exact hp.2.2.2 (Or.inr hr)
theorem RowS.keep {n : Nat} {f : Nat → Int} {rl : Nat → Bool} {t i : Nat} {so sb sf sl sm so' sb' sf' sl' sm' : Nat → Int} (h : RowS n f rl t i so sb sf sl sm) (h1 : ∀ j, j < i → so' (itn f t j).toNat = so (itn f t j).toNat)
    (h2 : ∀ j, j < i → sb' (bs n f rl t + Rc f rl t j) = sb (bs n f rl t + Rc f rl t j) ∧ sf' (bs n f rl t + Rc f rl t j) = sf (bs n f rl t + Rc f rl t j) ∧ sl' (bs n f rl t + Rc f rl t j) = sl (bs n f rl t + Rc f rl t j) ∧ sm' (bs n f rl t + Rc f rl t j) = sm (bs n f rl t + Rc f rl t j)) : RowS n f rl t i so' sb' sf' sl' sm' := by
  intro j hj
  have a := h j hj
  have b := h2 j hj
  rw [h1 j hj, b.1, b.2.1, b.2.2.1, b.2.2.2]
  exact a
def rlX (σ : St) (t : Nat) : Bool := !decide (σ.1 40 (σ.1 35 t).toNat = 0)
section Cut
variable {G : GX} {d : Nat} {σ : St} {Q : Int → St → Prop}
theorem c_sizeOf {n : Nat} {f bg : Nat → Int} (hC : Chn n f bg) (h3 : σ.1 4 3 = (bn n f n : Int)) (hR : RwX n f n (σ.1 22) (σ.1 23) (σ.1 24)) (hE : σ.1 24 (bn n f n) = (upto n f n : Int)) {t : Nat} (ht : hB n f t = true) (K : Q (ln f t : Nat) σ) : conI G wdX d mX4_sizeOf [vR 4, vI (bn n f t : Nat)] σ Q := by
  refine conI.of (ls0 := [vR 4, vI (bn n f t : Nat)]) rfl rfl (Nat.le_of_ble_eq_true rfl) (fun Ret R hret hM => g_X4_sizeOf_0 hM _ σ ?_)
  have hlt := (cB_iff.mp ht).1
  have hbl := bn_lt ht
  have hbu := bn_upto hC n
  have hul := upto_le hC n (Nat.le_refl _)
  have hn := hC.1
  have hfit := upto_fit hC ht
  have e1 : (((bn n f t : Nat) : Int) + 1).toNat = bn n f t + 1 := by omega
  rw [h3, e1, Int.toNat_natCast, hR.nxt hE ht, (hR t hlt ht).1]
  refine ⟨fun q => by omega, fun _ => ⟨fun q => by omega, fun _ => ⟨⟨by omega, by omega⟩, ⟨by omega, by omega⟩, ⟨by omega, by omega⟩, ⟨by omega, by omega⟩, ?_⟩⟩⟩
  have e : ((upto n f t + ln f t : Nat) : Int) - ((upto n f t : Nat) : Int) = ((ln f t : Nat) : Int) := by omega
  rw [e]
  exact hret _ _ K
theorem c_sizeOf_0 (b : Int) (hb : b < 0 ∨ σ.1 4 3 ≤ b) (K : Q 0 σ) : conI G wdX d mX4_sizeOf [vR 4, vI b] σ Q := by
  refine conI.of (ls0 := [vR 4, vI b]) rfl rfl (Nat.le_of_ble_eq_true rfl) (fun Ret R hret hM => g_X4_sizeOf_0 hM _ σ ?_)
  exact ⟨fun _ => hret _ _ K, fun q => ⟨fun _ => hret _ _ K, fun q' => by omega⟩⟩
theorem c_tripAt {n : Nat} {f bg : Nat → Int} (hC : Chn n f bg) (h3 : σ.1 4 3 = (bn n f n : Int)) (hR : RwX n f n (σ.1 22) (σ.1 23) (σ.1 24)) (hE : σ.1 24 (bn n f n) = (upto n f n : Int)) {t : Nat} (ht : hB n f t = true) (i : Nat) (K : Q (itn f t i) σ) : conI G wdX (d + 1) mX4_tripAt [vR 4, vI (bn n f t : Nat), vI i] σ Q := by
  refine conI.of (ls0 := [vR 4, vI (bn n f t : Nat), vI i]) rfl rfl (Nat.le_of_ble_eq_true rfl) (fun Ret R hret hM => g_X4_tripAt_0 hM _ _ σ ?_)
  have hlt := (cB_iff.mp ht).1
  have hbl := bn_lt ht
  have hbu := bn_upto hC n
  have hul := upto_le hC n (Nat.le_refl _)
  have hn := hC.1
  have hfit := upto_fit hC ht
  refine ⟨fun q => by omega, fun _ => c_sizeOf (d := d) hC h3 hR hE ht ⟨fun q => ?_, fun q => ⟨⟨by omega, by omega⟩, ?_⟩⟩⟩
  · have : itn f t i = -1 := by
      have a := itn_rng hC hlt i
      have b := ln_iff hC hlt i
      omega
    rw [this] at K
    exact hret _ _ K
  · have e : (((upto n f t : Nat) : Int) + (i : Int)).toNat = upto n f t + i := by omega
    rw [Int.toNat_natCast, (hR t hlt ht).1, e, ((hR t hlt ht).2 i (by omega)).1]
    exact ⟨⟨by omega, by omega⟩, ⟨by omega, by omega⟩, hret _ _ K⟩
theorem c_tripAt_0 (b i : Int) (h : i < 0 ∨ b < 0 ∨ σ.1 4 3 ≤ b) (K : Q (-1) σ) : conI G wdX (d + 1) mX4_tripAt [vR 4, vI b, vI i] σ Q := by
  refine conI.of (ls0 := [vR 4, vI b, vI i]) rfl rfl (Nat.le_of_ble_eq_true rfl) (fun Ret R hret hM => g_X4_tripAt_0 hM _ _ σ ?_)
  exact ⟨fun _ => hret _ _ K, fun q => c_sizeOf_0 b (by omega) ⟨fun _ => hret _ _ K, fun q' => by omega⟩⟩
/-- rows of heads below T are cut -/
def CutX (σ : St) (n : Nat) (f : Nat → Int) (rl : Nat → Bool) (T : Nat) : Prop := σ.1 6 5 = (bs n f rl T : Int) ∧ ∀ t, t < T → hB n f t = true → RowS n f rl t (ln f t) (σ.1 33) (σ.1 29) (σ.1 30) (σ.1 31) (σ.1 32)
theorem cut_row {Ret : Option AV → St → Prop} {R : Nat → List AV → List AV → St → Prop} (hM : AM G wdX (d + 2) mX6_cut Ret R) {n : Nat} {f bg : Nat → Int} {rl : Nat → Bool} (hC : Chn n f bg) (σ0 : St) (hB0 : XB σ0) (h3 : σ0.1 4 3 = (bn n f n : Int)) (hR : RwX n f n (σ0.1 22) (σ0.1 23) (σ0.1 24)) (hE : σ0.1 24 (bn n f n) = (upto n f n : Int)) (hrl : ∀ u, u < n → rl u = rlX σ0 u) {t : Nat} (ht : hB n f t = true) (hcut : CutX σ0 n f rl t)
    (K : ∀ σ', Fr [6, 29, 30, 31, 32, 33] σ0 σ' → CutX σ' n f rl (t + 1) → R 7 [vR 6, vI ((bn n f t : Int) + 1), vN, vN, vN] [] σ') :
    ∀ m i : Nat, i + m = ln f t → ∀ (σ : St) (w : Int), (i < ln f t → (w = 0 ↔ nwS f rl t i = false)) → Fr [6, 29, 30, 31, 32, 33] σ0 σ → σ.1 6 5 = (if i = 0 then (bs n f rl t : Int) else ((bs n f rl t + Rc f rl t (i - 1) + 1 : Nat) : Int)) → (∀ u, u < t → hB n f u = true → RowS n f rl u (ln f u) (σ.1 33) (σ.1 29) (σ.1 30) (σ.1 31) (σ.1 32)) → RowS n f rl t i (σ.1 33) (σ.1 29) (σ.1 30) (σ.1 31) (σ.1 32) → R 22 [vR 6, vI (bn n f t : Nat), vI w, vI i, vN] [] σ := by
  have hlt := (cB_iff.mp ht).1
  have hn := hC.1
  have hbl := bn_lt ht
  have hbu := bn_upto hC n
  have hul := upto_le hC n (Nat.le_refl _)
  have hlp := ln_pos hC hlt
  have hle := ln_le hC hlt
  have hbs := bs_upto hC rl t
  have hfit := upto_fit hC ht
  intro m
  induction m with
  | zero =>
    intro i hi σ w hw fr hcnt hold hrow
    have e : i = ln f t := by omega
    refine g_X6_cut_22 hM _ w i σ ?_
    refine c_sizeOf (d := d + 1) hC (by rw [fr.at (by decide)]; exact h3) (by rw [fr.at (by decide), fr.at (by decide), fr.at (by decide)]; exact hR) (by rw [fr.at (by decide)]; exact hE) ht ⟨fun _ => ⟨⟨by omega, by omega⟩, K σ fr ⟨?_, fun u hu q => ?_⟩⟩, fun q => by omega⟩
    · rw [hcnt, if_neg (by omega), bs_s ht, e]
      show ((_ : Nat) : Int) = ((bs n f rl t + (Rc f rl t (ln f t - 1) + 1) : Nat) : Int)
      omega
    · by_cases z : u = t
      · rw [z, ← e]; exact hrow
      · exact hold u (by omega) q
  | succ m ih =>
    intro i hi σ w hw fr hcnt hold hrow
    have hil : i < ln f t := by omega
    have hin := itn_in hC hlt hil
    have hrcl : Rc f rl t i ≤ i := fb_ct_le _ _
    refine g_X6_cut_22 hM _ w i σ ?_
    have c1 : σ.1 4 3 = (bn n f n : Int) := by rw [fr.at (by decide)]; exact h3
    have c2 : RwX n f n (σ.1 22) (σ.1 23) (σ.1 24) := by rw [fr.at (by decide), fr.at (by decide), fr.at (by decide)]; exact hR
    have c3 : σ.1 24 (bn n f n) = (upto n f n : Int) := by rw [fr.at (by decide)]; exact hE
    -- behind the opening
    have rest : ∀ σ2 : St, Fr [6, 29, 30, 31, 32, 33] σ0 σ2 → σ2.1 6 5 = ((bs n f rl t + Rc f rl t i + 1 : Nat) : Int) → σ2.1 33 = σ.1 33 → σ2.1 31 = σ.1 31 → σ2.1 29 = (if nwS f rl t i then uf (σ.1 29) (bs n f rl t + Rc f rl t i) (bn n f t) else σ.1 29) → σ2.1 30 = (if nwS f rl t i then uf (σ.1 30) (bs n f rl t + Rc f rl t i) (itn f t i) else σ.1 30) → σ2.1 32 = (if nwS f rl t i then uf (σ.1 32) (bs n f rl t + Rc f rl t i) 0 else σ.1 32) → R 56 [vR 6, vI (bn n f t : Nat), vN, vI i, vI (itn f t i)] [] σ2 := by
      intro σ2 fr2 q6 q33 q31 q29 q30 q32
      refine g_X6_cut_56 hM _ i (itn f t i) σ2 ?_
      have e0 : σ2.1 6 5 - 1 = ((bs n f rl t + Rc f rl t i : Nat) : Int) := by rw [q6]; omega
      rw [e0, Int.toNat_natCast]
      refine ⟨⟨by omega, by omega⟩, ⟨by omega, by omega⟩, fun τ1 t1 => ?_⟩
      have e1 : τ1.1 6 5 - 1 = ((bs n f rl t + Rc f rl t i : Nat) : Int) := by rw [t1, sI_n _ (by decide)]; exact e0
      have k32 : τ1.1 32 = σ2.1 32 := by rw [t1, sI_n _ (by decide)]
      rw [e1, Int.toNat_natCast, k32]
      -- the size so far
      have hsz : 0 ≤ σ2.1 32 (bs n f rl t + Rc f rl t i) ∧ σ2.1 32 (bs n f rl t + Rc f rl t i) ≤ 16 := by
        rw [q32]
        cases q : nwS f rl t i with
        | true => simp only [if_true]; rw [uf_s]; omega
        | false =>
          simp only [Bool.false_eq_true, if_false]
          cases i with
          | zero => cases q
          | succ i =>
            have q' : rl (itn f t i).toNat = false := q
            have er : Rc f rl t (i + 1) = Rc f rl t i := by rw [Rc_s, q']; rfl
            have := ((hrow i (by omega)).2.2.2 (Or.inl rfl)).2
            rw [er, this]
            have := psf_rng (f := f) rl t i
            omega
      refine ⟨⟨by omega, by omega⟩, ⟨by omega, by omega⟩, ⟨by omega, by omega⟩, fun τ2 t2 => ?_⟩
      have e2 : τ2.1 6 5 - 1 = ((bs n f rl t + Rc f rl t i : Nat) : Int) := by rw [t2, sI_n _ (by decide)]; exact e1
      rw [e2]
      refine ⟨⟨by omega, by omega⟩, ⟨by omega, by omega⟩, fun τ3 t3 => ?_⟩
      have f3 : Fr [6, 29, 30, 31, 32, 33] σ0 τ3 := by rw [t3, t2, t1]; exact ((fr2.put (by decide)).put (by decide)).put (by decide)
      have e35 : τ3.1 35 = σ0.1 35 := f3.at (by decide)
      have e40 : τ3.1 40 = σ0.1 40 := f3.at (by decide)
      have fin : ∀ x1 : Int, (i + 1 < ln f t → (x1 = 0 ↔ nwS f rl t (i + 1) = false)) → r32 ((i : Int) + 1) ∧ R 22 [vR 6, vI (bn n f t : Nat), vI x1, vI ((i : Int) + 1), vN] [] τ3 := by
        intro x1 hx
        refine ⟨⟨by omega, by omega⟩, ?_⟩
        have ei : ((i : Int) + 1) = ((i + 1 : Nat) : Int) := by omega
        rw [ei]
        have j33 : τ3.1 33 = uf (σ.1 33) (itn f t i).toNat ((bs n f rl t + Rc f rl t i : Nat) : Int) := by rw [t3, sI_s, t2, sI_n _ (by decide), t1, sI_n _ (by decide), q33]
        have j31 : τ3.1 31 = uf (σ.1 31) (bs n f rl t + Rc f rl t i) (itn f t i) := by rw [t3, sI_n _ (by decide), t2, sI_n _ (by decide), t1, sI_s, q31]
        have j29 : τ3.1 29 = σ2.1 29 := by rw [t3, sI_n _ (by decide), t2, sI_n _ (by decide), t1, sI_n _ (by decide)]
        have j30 : τ3.1 30 = σ2.1 30 := by rw [t3, sI_n _ (by decide), t2, sI_n _ (by decide), t1, sI_n _ (by decide)]
        have j32 : τ3.1 32 = uf (σ.1 32) (bs n f rl t + Rc f rl t i) (if nwS f rl t i then 1 else σ.1 32 (bs n f rl t + Rc f rl t i) + 1) := by
          rw [t3, sI_n _ (by decide), t2, sI_s, k32, q32]
          cases nwS f rl t i with
          | true =>
            simp only [if_true]
            funext b
            by_cases z : b = bs n f rl t + Rc f rl t i
            · rw [z, uf_s, uf_s, uf_s]; rfl
            · rw [uf_n z, uf_n z, uf_n z]
          | false => rfl
        refine ih (i + 1) (by omega) τ3 x1 hx f3 ?_ (fun u hu q => ?_) (hrow.step hC ht hil j33 (by rw [j29, q29]) (by rw [j30, q30]) j31 j32)
        · rw [if_neg (by omega), t3, sI_n _ (by decide), t2, sI_n _ (by decide), t1, sI_n _ (by decide), q6]
          show _ = ((bs n f rl t + Rc f rl t (i + 1 - 1) + 1 : Nat) : Int)
          rw [Nat.add_sub_cancel]
        · have hu' := (cB_iff.mp q).1
          have hmono : bs n f rl u + sc f rl u ≤ bs n f rl t := by rw [← bs_s q]; exact bs_mono rl (by omega)
          refine (hold u hu q).keep (fun j hj => ?_) (fun j hj => ?_)
          · have hjin := itn_in hC hu' hj
            rw [j33, uf_n (fun z => ?_)]
            have := (itn_one hC q ht j i hjin.1 (by omega)).1
            omega
          · have := Rc_sc (rl := rl) hj
            have ne : bs n f rl u + Rc f rl u j ≠ bs n f rl t + Rc f rl t i := by omega
            rw [j29, j30, j31, j32, q29, q30, uf_n ne, uf_n ne]
            refine ⟨?_, ?_, rfl, rfl⟩
            · cases nwS f rl t i with
              | true => simp only [if_true]; rw [uf_n ne]
              | false => rfl
            · cases nwS f rl t i with
              | true => simp only [if_true]; rw [uf_n ne]
              | false => rfl
      refine c_X8_isRelief (d := d) _ (by rw [e35]; exact (hB0.2.1 _ (by omega)).2.1) (fun q => fin 1 (fun _ => ?_)) (fun q => fin 0 (fun _ => ?_))
      · rw [e35, e40] at q
        show (1 : Int) = 0 ↔ rl (itn f t i).toNat = false
        rw [hrl _ (by omega)]
        unfold rlX
        rw [decide_eq_false q]
        simp
      · rw [e35, e40] at q
        show (0 : Int) = 0 ↔ rl (itn f t i).toNat = false
        rw [hrl _ (by omega)]
        unfold rlX
        rw [decide_eq_true q]
        simp
    refine c_sizeOf (d := d + 1) hC c1 c2 c3 ht ⟨fun q => by omega, fun _ => c_tripAt (d := d) hC c1 c2 c3 ht i ⟨fun q => ?_, fun q => ?_⟩⟩
    · have hnw := (hw hil).mp q
      refine rest σ fr ?_ rfl rfl (by rw [hnw]; rfl) (by rw [hnw]; rfl) (by rw [hnw]; rfl)
      cases i with
      | zero => cases hnw
      | succ i =>
        have q' : rl (itn f t i).toNat = false := hnw
        have er : Rc f rl t (i + 1) = Rc f rl t i := by rw [Rc_s, q']; rfl
        rw [hcnt, if_neg (by omega), er]
        show ((bs n f rl t + Rc f rl t (i + 1 - 1) + 1 : Nat) : Int) = _
        rw [Nat.add_sub_cancel]
    · have hnw : nwS f rl t i = true := by
        cases y : nwS f rl t i with
        | true => rfl
        | false => exact absurd ((hw hil).mpr y) q
      have h6 : σ.1 6 5 = ((bs n f rl t + Rc f rl t i : Nat) : Int) := by
        rw [hcnt]
        cases i with
        | zero => rw [if_pos rfl]; rfl
        | succ i =>
          have q' : rl (itn f t i).toNat = true := hnw
          have er : Rc f rl t (i + 1) = Rc f rl t i + 1 := by rw [Rc_s, q']; rfl
          rw [if_neg (by omega), er]
          show ((bs n f rl t + Rc f rl t (i + 1 - 1) + 1 : Nat) : Int) = _
          rw [Nat.add_sub_cancel]; omega
      refine conV.of (ls0 := [vR 6, vI (bn n f t : Nat), vI (itn f t i)]) rfl rfl (Nat.le_of_ble_eq_true rfl) (fun Ret' R' hret' hM' => g_X6_open_0 hM' _ _ σ ?_)
      rw [h6, Int.toNat_natCast]
      refine ⟨⟨by omega, by omega⟩, fun τ1 t1 => ?_⟩
      have a1 : τ1.1 6 = σ.1 6 := by rw [t1, sI_n _ (by decide)]
      rw [a1, h6, Int.toNat_natCast]
      refine ⟨⟨by omega, by omega⟩, fun τ2 t2 => ?_⟩
      have a2 : τ2.1 6 = σ.1 6 := by rw [t2, sI_n _ (by decide), a1]
      rw [a2, h6, Int.toNat_natCast]
      refine ⟨⟨by omega, by omega⟩, fun τ3 t3 => ?_⟩
      have a3 : τ3.1 6 = σ.1 6 := by rw [t3, sI_n _ (by decide), a2]
      rw [a3, h6]
      refine ⟨⟨by omega, by omega⟩, fun τ4 t4 => hret' _ ?_⟩
      refine rest τ4 (by rw [t4, t3, t2, t1]; exact (((fr.put (by decide)).put (by decide)).put (by decide)).put (by decide)) ?_ ?_ ?_ ?_ ?_ ?_
      · rw [t4, sI_s, uf_s]; omega
      · rw [t4, sI_n _ (by decide), t3, sI_n _ (by decide), t2, sI_n _ (by decide), t1, sI_n _ (by decide)]
      · rw [t4, sI_n _ (by decide), t3, sI_n _ (by decide), t2, sI_n _ (by decide), t1, sI_n _ (by decide)]
      · rw [t4, sI_n _ (by decide), t3, sI_n _ (by decide), t2, sI_n _ (by decide), t1, sI_s, hnw]; rfl
      · rw [t4, sI_n _ (by decide), t3, sI_n _ (by decide), t2, sI_s, t1, sI_n _ (by decide), hnw]; rfl
      · rw [t4, sI_n _ (by decide), t3, sI_s, t2, sI_n _ (by decide), t1, sI_n _ (by decide), hnw]; rfl
theorem c_cut {Q : St → Prop} {n : Nat} {f bg : Nat → Int} {rl : Nat → Bool} (hC : Chn n f bg) (hB0 : XB σ) (h3 : σ.1 4 3 = (bn n f n : Int)) (hR : RwX n f n (σ.1 22) (σ.1 23) (σ.1 24)) (hE : σ.1 24 (bn n f n) = (upto n f n : Int)) (hrl : ∀ u, u < n → rl u = rlX σ u)
    (K : ∀ σ', Fr [6, 29, 30, 31, 32, 33] σ σ' → CutX σ' n f rl n → Q σ') : conV G wdX (d + 2) mX6_cut [vR 6] σ Q := by
  refine conV.of (ls0 := [vR 6, vN, vN, vN, vN]) rfl rfl (Nat.le_of_ble_eq_true rfl) (fun Ret R hret hM => g_X6_cut_0 hM σ ?_)
  intro τ1 t1
  have loop : ∀ m T : Nat, T + m = n → ∀ σ1 : St, Fr [6, 29, 30, 31, 32, 33] σ σ1 → CutX σ1 n f rl T → R 7 [vR 6, vI (bn n f T : Nat), vN, vN, vN] [] σ1 := by
    intro m
    induction m with
    | zero =>
      intro T hT σ1 f1 h1
      have e : T = n := by omega
      subst e
      exact g_X6_cut_7 hM _ σ1 ⟨fun _ => hret _ (K σ1 f1 h1), fun q => by rw [f1.at (by decide), h3] at q; omega⟩
    | succ m ih =>
      intro T hT σ1 f1 h1
      by_cases q : hB n f T = true
      · have hbl := bn_lt q
        refine g_X6_cut_7 hM _ σ1 ⟨fun z => by rw [f1.at (by decide), h3] at z; omega, fun _ => ?_⟩
        refine cut_row (d := d) hM hC σ1 (hB0.frame f1 (by decide)) (by rw [f1.at (by decide)]; exact h3) (by rw [f1.at (by decide), f1.at (by decide), f1.at (by decide)]; exact hR) (by rw [f1.at (by decide)]; exact hE) (fun u hu => by rw [hrl u hu]; unfold rlX; rw [f1.at (by decide), f1.at (by decide)]) q h1 (fun σ2 f2 h2 => ?_) (ln f T) 0 (by omega) σ1 1 (fun _ => ⟨fun z => by omega, fun z => by (cases z)⟩) Fr.rfl' (by rw [if_pos rfl]; exact h1.1) h1.2 (fun j hj => by omega)
        have := ih (T + 1) (by omega) σ2 (f1.tr f2) h2
        rw [bn_s q] at this
        exact this
      · have := ih (T + 1) (by omega) σ1 f1 ⟨by rw [bs_n q]; exact h1.1, fun u hu z => by
          by_cases e : u = T
          · rw [e] at z; exact absurd z q
          · exact h1.2 u (by omega) z⟩
        rw [bn_n q] at this
        exact this
  exact loop n 0 (by omega) τ1 (by rw [t1]; exact Fr.one (by decide)) ⟨by rw [t1, sI_s, uf_s]; rfl, fun t ht => by omega⟩
end Cut
