/-! ===== the rows of blocks and segments as they fill ===== -/
def RowP (n : Nat) (f : Nat → Int) (rl : Nat → Bool) (t i c : Nat) (bo so sb sf sl sm : Nat → Int) : Prop :=
  ∀ j, j < i → (bo (itn f t j).toNat = (bn n f t : Int) ∧ so (itn f t j).toNat = ((bs n f rl t + Rc f rl t j : Nat) : Int)) ∧
    (Rc f rl t j < c → sb (bs n f rl t + Rc f rl t j) = (bn n f t : Int) ∧ sf (bs n f rl t + Rc f rl t j) = stf f rl t j ∧ (endS f rl t j → sl (bs n f rl t + Rc f rl t j) = itn f t j ∧ sm (bs n f rl t + Rc f rl t j) = psf f rl t j))
theorem Rc_mono {f : Nat → Int} (rl : Nat → Bool) (t : Nat) {i j : Nat} (h : j ≤ i) : Rc f rl t j ≤ Rc f rl t i := fb_ct_mono _ h
theorem stf_same {f : Nat → Int} {rl : Nat → Bool} {t : Nat} : ∀ {i j : Nat}, j ≤ i → Rc f rl t j = Rc f rl t i → stf f rl t j = stf f rl t i := by
  intro i
  induction i with
  | zero => intro j hj _; have : j = 0 := by omega
            rw [this]
  | succ i ih =>
    intro j hj e
    rcases Nat.lt_or_ge j (i + 1) with q | q
    · have h1 := Rc_mono (f := f) rl t (i := i) (j := j) (by omega)
      have h2 := Rc_s (f := f) rl t i
      cases hr : rl (itn f t i).toNat with
      | true => rw [hr, if_pos rfl] at h2; omega
      | false =>
        rw [hr, if_neg (by decide)] at h2
        simp only [stf]
        rw [hr, if_neg (by decide)]
        exact ih (by omega) (by omega)
    · have : j = i + 1 := by omega
      rw [this]
section RowL
variable {n : Nat} {f bg : Nat → Int} {rl : Nat → Bool}
/-- a trip is noted: its block and its segment -/
theorem RowP.trip (h : Chn n f bg) {t i : Nat} (ht : hB n f t = true) (hi : i < ln f t) {bo so sb sf sl sm : Nat → Int} (hr : RowP n f rl t i (Rc f rl t i) bo so sb sf sl sm) :
    RowP n f rl t (i + 1) (Rc f rl t i) (uf bo (itn f t i).toNat (bn n f t)) (uf so (itn f t i).toNat ((bs n f rl t + Rc f rl t i : Nat) : Int)) sb sf sl sm := by
  intro j hj
  by_cases e : j = i
  · rw [e, uf_s, uf_s]
    exact ⟨⟨rfl, rfl⟩, fun q => by omega⟩
  · have hlt := (cB_iff.mp ht).1
    have hne : (itn f t j).toNat ≠ (itn f t i).toNat := fun z => by
      have r1 := itn_in h hlt (k := j) (by omega)
      have r2 := itn_in h hlt hi
      have := itn_one h ht ht j i r1.1 (by omega)
      omega
    rw [uf_n hne, uf_n hne]
    exact hr j (by omega)
/-- a segment is closed at trip i -/
theorem RowP.close (h : Chn n f bg) {t i : Nat} (ht : hB n f t = true) (hi : i < ln f t) {bo so sb sf sl sm : Nat → Int} (hr : RowP n f rl t (i + 1) (Rc f rl t i) bo so sb sf sl sm) :
    RowP n f rl t (i + 1) (Rc f rl t i + 1) bo so (uf sb (bs n f rl t + Rc f rl t i) (bn n f t)) (uf sf (bs n f rl t + Rc f rl t i) (stf f rl t i)) (uf sl (bs n f rl t + Rc f rl t i) (itn f t i)) (uf sm (bs n f rl t + Rc f rl t i) (psf f rl t i)) := by
  intro j hj
  have hlt := (cB_iff.mp ht).1
  refine ⟨(hr j hj).1, fun hc => ?_⟩
  by_cases e : Rc f rl t j = Rc f rl t i
  · rw [e, uf_s, uf_s, uf_s, uf_s]
    refine ⟨rfl, (stf_same (by omega) e).symm, fun he => ?_⟩
    by_cases z : j = i
    · rw [z]; exact ⟨rfl, rfl⟩
    · exfalso
      rcases he with q | q
      · have h1 := Rc_s (f := f) rl t j
        rw [q, if_pos rfl] at h1
        have := Rc_mono (f := f) rl t (i := i) (j := j + 1) (by omega)
        omega
      · have := (itn_last h hlt (k := j) (by omega)).mp q
        omega
  · have hne : bs n f rl t + Rc f rl t j ≠ bs n f rl t + Rc f rl t i := by omega
    rw [uf_n hne, uf_n hne, uf_n hne, uf_n hne]
    exact (hr j hj).2 (by omega)
/-- what is behind stays -/
theorem RowP.keep {t i c : Nat} {bo so sb sf sl sm bo' so' sb' sf' sl' sm' : Nat → Int} (hr : RowP n f rl t i c bo so sb sf sl sm)
    (h1 : ∀ j, j < i → bo' (itn f t j).toNat = bo (itn f t j).toNat ∧ so' (itn f t j).toNat = so (itn f t j).toNat)
    (h2 : ∀ j, j < i → sb' (bs n f rl t + Rc f rl t j) = sb (bs n f rl t + Rc f rl t j) ∧ sf' (bs n f rl t + Rc f rl t j) = sf (bs n f rl t + Rc f rl t j) ∧ sl' (bs n f rl t + Rc f rl t j) = sl (bs n f rl t + Rc f rl t j) ∧ sm' (bs n f rl t + Rc f rl t j) = sm (bs n f rl t + Rc f rl t j)) : RowP n f rl t i c bo' so' sb' sf' sl' sm' := by
  intro j hj
  rw [(h1 j hj).1, (h1 j hj).2, (h2 j hj).1, (h2 j hj).2.1, (h2 j hj).2.2.1, (h2 j hj).2.2.2]
  exact hr j hj
/-- all heads below T are done -/
def NumT (n : Nat) (f : Nat → Int) (rl : Nat → Bool) (T : Nat) (hd bo so sb sf sl sm : Nat → Int) : Prop :=
  ∀ t, t < T → hB n f t = true → hd (bn n f t) = (t : Int) ∧ RowP n f rl t (ln f t) (sc f rl t) bo so sb sf sl sm
theorem bs_mono (rl : Nat → Bool) {a b : Nat} (h : a ≤ b) : bs n f rl a ≤ bs n f rl b := by
  have e : b = a + (b - a) := by omega
  unfold bs
  rw [e]
  exact fb_sm_mono _ a (b - a)
theorem NumT.skip {T : Nat} {hd bo so sb sf sl sm : Nat → Int} (h : NumT n f rl T hd bo so sb sf sl sm) (hT : ¬ hB n f T = true) : NumT n f rl (T + 1) hd bo so sb sf sl sm := by
  intro t ht hh
  by_cases e : t = T
  · rw [e] at hh; exact absurd hh hT
  · exact h t (by omega) hh
/-- head T's row is done too: what was done stays -/
theorem NumT.add (h : Chn n f bg) {T : Nat} (hT : hB n f T = true) {hd bo so sb sf sl sm hd' bo' so' sb' sf' sl' sm' : Nat → Int} (hN : NumT n f rl T hd bo so sb sf sl sm)
    (h0 : hd' (bn n f T) = (T : Int)) (h0' : ∀ k, k < bn n f T → hd' k = hd k) (hr : RowP n f rl T (ln f T) (sc f rl T) bo' so' sb' sf' sl' sm')
    (h1 : ∀ u, u < n → (∀ i, i < ln f T → ¬ itn f T i = (u : Int)) → bo' u = bo u ∧ so' u = so u)
    (h2 : ∀ s, s < bs n f rl T → sb' s = sb s ∧ sf' s = sf s ∧ sl' s = sl s ∧ sm' s = sm s) : NumT n f rl (T + 1) hd' bo' so' sb' sf' sl' sm' := by
  intro t ht hh
  by_cases e : t = T
  · rw [e]; exact ⟨h0, hr⟩
  · have hq := hN t (by omega) hh
    have hlt := (cB_iff.mp hh).1
    refine ⟨?_, hq.2.keep (fun j hj => ?_) (fun j hj => ?_)⟩
    · rw [h0' (bn n f t) (ct_lt (by omega) hh)]; exact hq.1
    · have r := itn_in h hlt hj
      refine h1 _ (by omega) (fun i hi z => ?_)
      have := itn_one h hh hT j i r.1 (by omega)
      omega
    · refine h2 _ ?_
      have := Rc_sc (rl := rl) hj
      have e1 := bs_s (rl := rl) hh
      have := bs_mono (n := n) (f := f) rl (a := t + 1) (b := T) (by omega)
      omega
end RowL
section GoesM
variable {G : GX} {d : Nat}
/-- whether trip t ends at a RELIEF -/
def rlM (σ : St) (t : Nat) : Bool := !decide (σ.1 3 (σ.1 5 t).toNat = 0)
abbrev rowsM (σ : St) (n : Nat) (f : Nat → Int) (rl : Nat → Bool) (T : Nat) : Prop := NumT n f rl T (σ.1 10) (σ.1 11) (σ.1 16) (σ.1 12) (σ.1 13) (σ.1 14) (σ.1 15)
theorem goes_loop {Ret : Option AV → St → Prop} {R : Nat → List AV → List AV → St → Prop} (hM : AM G wdM d mX10_goes Ret R) {n : Nat} {f bg : Nat → Int} {rl : Nat → Bool} (hC : Chn n f bg) {t : Nat} (ht : hB n f t = true) (σ0 : St) (hB0 : MB σ0)
    (hn : n ≤ 16) (hf : ∀ u, u < n → σ0.1 9 u = f u) (hrl : ∀ u, u < n → rl u = rlM σ0 u) (hb : σ0.1 0 15 = (bn n f t : Int))
    (k : ∀ σ', Fr [0, 11, 12, 13, 14, 15, 16] σ0 σ' → (∀ c, c ≠ 15 → c ≠ 18 → σ'.1 0 c = σ0.1 0 c) → σ'.1 0 15 = (bn n f t : Int) + 1 → σ'.1 0 18 = ((bs n f rl t + sc f rl t : Nat) : Int) → RowP n f rl t (ln f t) (sc f rl t) (σ'.1 11) (σ'.1 16) (σ'.1 12) (σ'.1 13) (σ'.1 14) (σ'.1 15) →
      (∀ u, u < n → (∀ i, i < ln f t → ¬ itn f t i = (u : Int)) → σ'.1 11 u = σ0.1 11 u ∧ σ'.1 16 u = σ0.1 16 u) → (∀ s, s < bs n f rl t → σ'.1 12 s = σ0.1 12 s ∧ σ'.1 13 s = σ0.1 13 s ∧ σ'.1 14 s = σ0.1 14 s ∧ σ'.1 15 s = σ0.1 15 s) → Ret none σ') :
    ∀ m i : Nat, i + m = ln f t → ∀ (v2 v3 : Int) (σ : St), Fr [0, 11, 12, 13, 14, 15, 16] σ0 σ → (∀ c, c ≠ 15 → c ≠ 18 → σ.1 0 c = σ0.1 0 c) → σ.1 0 15 = (bn n f t : Int) →
      (i < ln f t → v2 = stf f rl t i ∧ v3 = psf f rl t i - 1 ∧ σ.1 0 18 = ((bs n f rl t + Rc f rl t i : Nat) : Int) ∧ RowP n f rl t i (Rc f rl t i) (σ.1 11) (σ.1 16) (σ.1 12) (σ.1 13) (σ.1 14) (σ.1 15)) →
      (i = ln f t → σ.1 0 18 = ((bs n f rl t + sc f rl t : Nat) : Int) ∧ RowP n f rl t (ln f t) (sc f rl t) (σ.1 11) (σ.1 16) (σ.1 12) (σ.1 13) (σ.1 14) (σ.1 15)) →
      (∀ u, u < n → (∀ j, j < i → ¬ itn f t j = (u : Int)) → σ.1 11 u = σ0.1 11 u ∧ σ.1 16 u = σ0.1 16 u) → (∀ s, s < bs n f rl t → σ.1 12 s = σ0.1 12 s ∧ σ.1 13 s = σ0.1 13 s ∧ σ.1 14 s = σ0.1 14 s ∧ σ.1 15 s = σ0.1 15 s) →
      R 17 [vR 0, vN, vI v2, vI v3, vI (itn f t i)] [] σ := by
  have hlt := (cB_iff.mp ht).1
  have hfit := upto_fit hC ht
  have hbu := bs_upto hC rl (t + 1)
  rw [upto_s ht, bs_s ht] at hbu
  have hbnu := bn_upto hC (t + 1)
  rw [bn_s ht, upto_s ht] at hbnu
  intro m
  induction m with
  | zero =>
    intro i hi v2 v3 σ f1 f2 f3 a1 a2 a3 a4
    have e : i = ln f t := by omega
    have hneg : itn f t i < 0 := by
      have := ln_iff hC hlt i
      omega
    obtain ⟨b1, b2⟩ := a2 e
    refine g_X10_goes_17 hM v2 v3 _ σ ⟨fun _ => ?_, fun q => absurd hneg q⟩
    rw [f3]
    refine ⟨⟨by omega, by omega⟩, fun τ1 e1 => ?_⟩
    have g0 : τ1.1 0 = uf (σ.1 0) 15 ((bn n f t : Int) + 1) := by rw [e1, sI_s]
    have gn : ∀ c, c ≠ 0 → τ1.1 c = σ.1 c := fun c hc => by rw [e1, sI_n _ hc]
    refine k τ1 (by rw [e1]; exact f1.put (by decide)) (fun c q1 q2 => ?_) ?_ ?_ ?_ ?_ ?_
    · rw [g0, uf_n q1]; exact f2 c q1 q2
    · rw [g0, uf_s]
    · rw [g0, uf_n (by decide)]; exact b1
    · rw [gn 11 (by decide), gn 16 (by decide), gn 12 (by decide), gn 13 (by decide), gn 14 (by decide), gn 15 (by decide)]; exact b2
    · intro u hu q
      rw [gn 11 (by decide), gn 16 (by decide)]
      exact a3 u hu (by rw [e]; exact q)
    · intro s hs
      rw [gn 12 (by decide), gn 13 (by decide), gn 14 (by decide), gn 15 (by decide)]
      exact a4 s hs
  | succ m ih =>
    intro i hi v2 v3 σ f1 f2 f3 a1 a2 a3 a4
    have hil : i < ln f t := by omega
    have hr := itn_in hC hlt hil
    obtain ⟨b1, b2, b3, b4⟩ := a1 hil
    have hps := psf_rng (f := f) rl t i
    have hln := ln_le hC hlt
    generalize hu : (itn f t i).toNat = u
    have hun : u < n := by omega
    have huI : itn f t i = (u : Int) := by omega
    have e5 : σ.1 5 = σ0.1 5 := f1.at (by decide)
    have e3 : σ.1 3 = σ0.1 3 := f1.at (by decide)
    have e9 : σ.1 9 = σ0.1 9 := f1.at (by decide)
    have hto := (hB0.2.1 u (by omega)).2.1
    have hfu := hf u hun
    have hnext : itn f t (i + 1) = f u := by rw [itn_s hr.1, hu]
    have hlast := itn_last hC hlt hil
    rw [hu] at hlast
    have hrlu : rl u = rlM σ0 u := hrl u hun
    have hRs := Rc_s (f := f) rl t i
    rw [hu] at hRs
    refine g_X10_goes_17 hM v2 v3 _ σ ⟨fun q => by omega, fun _ => ⟨⟨by omega, by omega⟩, fun τ2 e2 τ3 e3' => ⟨⟨by omega, by omega⟩, ?_⟩⟩⟩
    rw [hu] at e2 e3'
    have g11 : τ3.1 11 = uf (σ.1 11) u (bn n f t) := by rw [e3', sI_n _ (by decide), e2, sI_s, f3]
    have g0 : τ3.1 0 = σ.1 0 := by rw [e3', sI_n _ (by decide), e2, sI_n _ (by decide)]
    have g16 : τ3.1 16 = uf (σ.1 16) u ((bs n f rl t + Rc f rl t i : Nat) : Int) := by rw [e3', sI_s, e2, sI_n _ (by decide), sI_n _ (by decide), b3]
    have gn : ∀ c, c ≠ 11 → c ≠ 16 → τ3.1 c = σ.1 c := fun c h1 h2 => by rw [e3', sI_n _ h2, e2, sI_n _ h1]
    have f3' : Fr [0, 11, 12, 13, 14, 15, 16] σ0 τ3 := by rw [e3', e2]; exact (f1.put (by decide)).put (by decide)
    have hrow : RowP n f rl t (i + 1) (Rc f rl t i) (τ3.1 11) (τ3.1 16) (τ3.1 12) (τ3.1 13) (τ3.1 14) (τ3.1 15) := by
      rw [g11, g16, gn 12 (by decide) (by decide), gn 13 (by decide) (by decide), gn 14 (by decide) (by decide), gn 15 (by decide) (by decide), ← hu]
      exact b4.trip hC ht hil
    have hoth : ∀ w, w < n → (∀ j, j < i + 1 → ¬ itn f t j = (w : Int)) → τ3.1 11 w = σ0.1 11 w ∧ τ3.1 16 w = σ0.1 16 w := by
      intro w hw q
      have hne : w ≠ u := fun z => q i (by omega) (by omega)
      rw [g11, g16, uf_n hne, uf_n hne]
      exact a3 w hw (fun j hj => q j (by omega))
    have hseg : ∀ s, s < bs n f rl t → τ3.1 12 s = σ0.1 12 s ∧ τ3.1 13 s = σ0.1 13 s ∧ τ3.1 14 s = σ0.1 14 s ∧ τ3.1 15 s = σ0.1 15 s := by
      intro s hs
      rw [gn 12 (by decide) (by decide), gn 13 (by decide) (by decide), gn 14 (by decide) (by decide), gn 15 (by decide) (by decide)]
      exact a4 s hs
    have e95 : τ3.1 9 u = f u := by rw [gn 9 (by decide) (by decide), e9, hfu]
    have et5 : τ3.1 5 u = σ0.1 5 u := by rw [gn 5 (by decide) (by decide), e5]
    have et3 : τ3.1 3 = σ0.1 3 := by rw [gn 3 (by decide) (by decide), e3]
    rw [hu, et5, et3, e95]
    -- the end of a segment
    have close : (rl u = true ∨ f u = -1) → R 72 [vR 0, vN, vI v2, vI (v3 + 1), vI (itn f t i)] [] τ3 := by
      intro hend
      have hRc : Rc f rl t i < sc f rl t := Rc_sc hil
      have hS : τ3.1 0 18 = ((bs n f rl t + Rc f rl t i : Nat) : Int) := by rw [g0]; exact b3
      refine g_X10_goes_72 hM v2 (v3 + 1) _ τ3 ?_
      rw [hS]
      refine ⟨⟨by omega, by omega⟩, fun κ1 k1 => ?_⟩
      have p1 : κ1.1 0 = τ3.1 0 := by rw [k1, sI_n _ (by decide)]
      rw [p1, hS]
      refine ⟨⟨by omega, by omega⟩, fun κ2 k2 => ?_⟩
      have p2 : κ2.1 0 = τ3.1 0 := by rw [k2, sI_n _ (by decide), p1]
      rw [p2, hS]
      refine ⟨⟨by omega, by omega⟩, fun κ3 k3 => ?_⟩
      have p3 : κ3.1 0 = τ3.1 0 := by rw [k3, sI_n _ (by decide), p2]
      rw [p3, hS]
      refine ⟨⟨by omega, by omega⟩, fun κ4 k4 => ?_⟩
      have p4 : κ4.1 0 = τ3.1 0 := by rw [k4, sI_n _ (by decide), p3]
      rw [p4, hS]
      refine ⟨⟨by omega, by omega⟩, fun κ5 k5 => ⟨⟨by omega, by omega⟩, ?_⟩⟩
      rw [Int.toNat_natCast] at k1 k2 k3 k4
      have q0 : κ5.1 0 = uf (τ3.1 0) 18 (((bs n f rl t + Rc f rl t i : Nat) : Int) + 1) := by rw [k5, sI_s, p4]
      have q12 : κ5.1 12 = uf (τ3.1 12) (bs n f rl t + Rc f rl t i) (bn n f t) := by rw [k5, sI_n _ (by decide), k4, sI_n _ (by decide), k3, sI_n _ (by decide), k2, sI_n _ (by decide), k1, sI_s, g0, f3]
      have q13 : κ5.1 13 = uf (τ3.1 13) (bs n f rl t + Rc f rl t i) (stf f rl t i) := by rw [k5, sI_n _ (by decide), k4, sI_n _ (by decide), k3, sI_n _ (by decide), k2, sI_s, k1, sI_n _ (by decide), b1]
      have q14 : κ5.1 14 = uf (τ3.1 14) (bs n f rl t + Rc f rl t i) (itn f t i) := by rw [k5, sI_n _ (by decide), k4, sI_n _ (by decide), k3, sI_s, k2, sI_n _ (by decide), k1, sI_n _ (by decide)]
      have q15 : κ5.1 15 = uf (τ3.1 15) (bs n f rl t + Rc f rl t i) (psf f rl t i) := by rw [k5, sI_n _ (by decide), k4, sI_s, k3, sI_n _ (by decide), k2, sI_n _ (by decide), k1, sI_n _ (by decide), b2, Int.sub_add_cancel]
      have qn : ∀ c, c ≠ 0 → c ≠ 12 → c ≠ 13 → c ≠ 14 → c ≠ 15 → κ5.1 c = τ3.1 c := fun c z0 z1 z2 z3 z4 => by rw [k5, sI_n _ z0, k4, sI_n _ z4, k3, sI_n _ z3, k2, sI_n _ z2, k1, sI_n _ z1]
      have hrow' : RowP n f rl t (i + 1) (Rc f rl t i + 1) (κ5.1 11) (κ5.1 16) (κ5.1 12) (κ5.1 13) (κ5.1 14) (κ5.1 15) := by
        rw [q12, q13, q14, q15, qn 11 (by decide) (by decide) (by decide) (by decide) (by decide), qn 16 (by decide) (by decide) (by decide) (by decide) (by decide)]
        exact hrow.close hC ht hil
      have q9 : κ5.1 9 (itn f t i).toNat = itn f t (i + 1) := by rw [hu, qn 9 (by decide) (by decide) (by decide) (by decide) (by decide), e95, hnext]
      rw [q9]
      refine ih (i + 1) (by omega) _ _ κ5 ?_ (fun c z1 z2 => ?_) ?_ (fun hlt' => ?_) (fun heq => ?_) (fun w hw q => ?_) (fun s hs => ?_)
      · rw [k5, k4, k3, k2, k1]; exact ((((f3'.put (by decide)).put (by decide)).put (by decide)).put (by decide)).put (by decide)
      · rw [q0, uf_n z2, g0]; exact f2 c z1 z2
      · rw [q0, uf_n (by decide), g0]; exact f3
      · have hrlt : rl u = true := by
          rcases hend with z | z
          · exact z
          · have := hlast.mp z; omega
        rw [hrlt, if_pos rfl] at hRs
        refine ⟨?_, ?_, ?_, ?_⟩
        · simp only [stf]; rw [hu, hrlt, if_pos rfl]
        · simp only [psf]; rw [hu, hrlt, if_pos rfl]; rfl
        · rw [q0, uf_s, hRs]; omega
        · rw [hRs]; exact hrow'
      · have hsc : sc f rl t = Rc f rl t i + 1 := by unfold sc; rw [← heq]; rfl
        refine ⟨?_, ?_⟩
        · rw [q0, uf_s, hsc]; omega
        · rw [hsc, ← heq]; exact hrow'
      · rw [qn 11 (by decide) (by decide) (by decide) (by decide) (by decide), qn 16 (by decide) (by decide) (by decide) (by decide) (by decide)]
        exact hoth w hw q
      · have hne : s ≠ bs n f rl t + Rc f rl t i := by omega
        rw [q12, q13, q14, q15, uf_n hne, uf_n hne, uf_n hne, uf_n hne]
        exact hseg s hs
    refine ⟨by omega, fun q => close (Or.inl ?_), fun q => ⟨fun h0 => ?_, fun h0 => close (Or.inr ?_)⟩⟩
    · rw [hrlu]; unfold rlM; simp [q]
    · have hrlf : rl u = false := by rw [hrlu]; unfold rlM; simp [q]
      rw [hrlf, if_neg (by decide), Nat.add_zero] at hRs
      rw [← hnext]
      refine ih (i + 1) (by omega) v2 (v3 + 1) τ3 f3' (fun c z1 z2 => by rw [g0]; exact f2 c z1 z2) (by rw [g0]; exact f3) (fun hlt' => ⟨?_, ?_, ?_, ?_⟩) (fun heq => ?_) hoth hseg
      · simp only [stf]; rw [hu, hrlf, if_neg (by decide)]; exact b1
      · simp only [psf]; rw [hu, hrlf, if_neg (by decide)]; omega
      · rw [g0, hRs]; exact b3
      · rw [hRs]; exact hrow
      · exfalso
        have := hlast.mpr heq
        omega
    · have := (hC.2.1 u hun)
      rcases this with z | z
      · exact z
      · omega
end GoesM
