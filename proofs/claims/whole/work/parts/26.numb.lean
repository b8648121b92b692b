/-! ===== BLOCKS and SEGMENTS of a plan, as numbers ===== -/
noncomputable def cB (p : Prop) : Bool := @decide p (Classical.propDecidable p)
theorem cB_iff {p : Prop} : cB p = true ↔ p := by unfold cB; exact @decide_eq_true_iff p (Classical.propDecidable p)
/-- trips from t on, one behind the other; -1 behind the last -/
def itn (f : Nat → Int) (t : Nat) : Nat → Int
  | 0 => t
  | k + 1 => if itn f t k < 0 then -1 else f (itn f t k).toNat
/-- nx goes from trips below n to such, or to -1; none twice; times grow -/
def Chn (n : Nat) (f : Nat → Int) (bg : Nat → Int) : Prop :=
  n ≤ 16 ∧ (∀ i, i < n → f i = -1 ∨ (0 ≤ f i ∧ f i < n ∧ bg i < bg (f i).toNat)) ∧ ∀ i j, i < n → j < n → 0 ≤ f i → f i = f j → i = j
noncomputable def hB (n : Nat) (f : Nat → Int) (t : Nat) : Bool := cB (t < n ∧ ∀ i, i < n → ¬ f i = (t : Int))
noncomputable def ln (f : Nat → Int) (t : Nat) : Nat := fb_ct (fun i => cB (0 ≤ itn f t i)) 17
section Numb
variable {n : Nat} {f bg : Nat → Int}
theorem itn_rng (h : Chn n f bg) {t : Nat} (ht : t < n) : ∀ k, itn f t k = -1 ∨ (0 ≤ itn f t k ∧ itn f t k < n) := by
  intro k
  induction k with
  | zero => right; simp only [itn]; omega
  | succ k ih =>
    simp only [itn]
    split
    · exact Or.inl rfl
    · rcases ih with q | q
      · omega
      · rcases h.2.1 (itn f t k).toNat (by omega) with z | z
        · exact Or.inl z
        · exact Or.inr ⟨z.1, z.2.1⟩
theorem itn_s {t k : Nat} (h : 0 ≤ itn f t k) : itn f t (k + 1) = f (itn f t k).toNat := by
  simp only [itn]; rw [if_neg (by omega)]
theorem itn_dn {t k : Nat} (h : 0 ≤ itn f t (k + 1)) : 0 ≤ itn f t k := by
  simp only [itn] at h
  split at h
  · omega
  · omega
theorem itn_le {t k m : Nat} (hkm : m ≤ k) (h : 0 ≤ itn f t k) : 0 ≤ itn f t m := by
  induction k with
  | zero => have : m = 0 := by omega
            subst this; exact h
  | succ k ih =>
    rcases Nat.lt_or_ge m (k + 1) with q | q
    · exact ih (by omega) (itn_dn h)
    · have : m = k + 1 := by omega
      subst this; exact h
theorem itn_bg (h : Chn n f bg) {t : Nat} (ht : t < n) : ∀ k, 0 ≤ itn f t k → ∀ m, m < k → bg (itn f t m).toNat < bg (itn f t k).toNat := by
  intro k
  induction k with
  | zero => intro _ m hm; omega
  | succ k ih =>
    intro h0 m hm
    have hk := itn_dn h0
    have hs := itn_s hk
    rcases itn_rng h ht k with q | q
    · omega
    · rcases h.2.1 (itn f t k).toNat (by omega) with z | z
      · rw [hs, z] at h0; omega
      · have h1 : bg (itn f t k).toNat < bg (itn f t (k + 1)).toNat := by rw [hs]; exact z.2.2
        rcases Nat.lt_or_ge m k with y | y
        · have := ih hk m y; omega
        · have : m = k := by omega
          subst this; exact h1
theorem itn_16 (h : Chn n f bg) {t : Nat} (ht : t < n) : itn f t 16 < 0 := by
  refine Classical.byContradiction fun hx => ?_
  have h16 := h.1
  have h0 : 0 ≤ itn f t 16 := by omega
  have := fb_holes n 17 (fun i => (itn f t i).toNat) (fun i hi => by
    have := itn_le (m := i) (k := 16) (by omega) h0
    rcases itn_rng h ht i with q | q <;> omega) (fun i j hij hj e => by
    have hj0 := itn_le (m := j) (k := 16) (by omega) h0
    have := itn_bg h ht j hj0 i hij
    have e' : (itn f t i).toNat = (itn f t j).toNat := e
    rw [e'] at this
    omega)
  omega
theorem ln_iff (h : Chn n f bg) {t : Nat} (ht : t < n) (k : Nat) : 0 ≤ itn f t k ↔ k < ln f t := by
  have key : ∀ N k, k < N → (0 ≤ itn f t k ↔ k < fb_ct (fun i => cB (0 ≤ itn f t i)) N) := by
    intro N
    induction N with
    | zero => intro k hk; omega
    | succ N ih =>
      intro k hk
      rw [fb_ct_succ]
      by_cases hN : 0 ≤ itn f t N
      · rw [if_pos (cB_iff.mpr hN)]
        have hall : fb_ct (fun i => cB (0 ≤ itn f t i)) N = N := fb_ct_all.mpr (fun i hi => cB_iff.mpr (itn_le (by omega) hN))
        rw [hall]
        exact ⟨fun _ => by omega, fun _ => itn_le (by omega) hN⟩
      · rw [if_neg (by rw [cB_iff]; exact hN), Nat.add_zero]
        rcases Nat.lt_or_ge k N with q | q
        · exact ih k q
        · have : k = N := by omega
          subst this
          have := fb_ct_le (fun i => cB (0 ≤ itn f t i)) k
          exact ⟨fun z => absurd z hN, fun z => by omega⟩
  have h16 := itn_16 h ht
  have hl : ln f t ≤ 16 := by
    have e : fb_ct (fun i => cB (0 ≤ itn f t i)) 17 = fb_ct (fun i => cB (0 ≤ itn f t i)) 16 + (if cB (0 ≤ itn f t 16) then 1 else 0) := fb_ct_succ _ 16
    rw [if_neg (by rw [cB_iff]; omega)] at e
    have := fb_ct_le (fun i => cB (0 ≤ itn f t i)) 16
    unfold ln
    omega
  rcases Nat.lt_or_ge k 17 with q | q
  · exact key 17 k q
  · constructor
    · intro z; have := itn_le (m := 16) (by omega) z; omega
    · intro z; omega
theorem ln_pos (h : Chn n f bg) {t : Nat} (ht : t < n) : 0 < ln f t := (ln_iff h ht 0).mp (by simp only [itn]; omega)
theorem ln_le (h : Chn n f bg) {t : Nat} (ht : t < n) : ln f t ≤ 16 := by
  have h16 := itn_16 h ht
  have := ln_iff h ht 16
  omega
theorem itn_in (h : Chn n f bg) {t k : Nat} (ht : t < n) (hk : k < ln f t) : 0 ≤ itn f t k ∧ itn f t k < n := by
  have := (ln_iff h ht k).mpr hk
  rcases itn_rng h ht k with q | q <;> omega
theorem itn_last (h : Chn n f bg) {t k : Nat} (ht : t < n) (hk : k < ln f t) : f (itn f t k).toNat = -1 ↔ k + 1 = ln f t := by
  have h0 := (ln_iff h ht k).mpr hk
  have hs := itn_s h0
  have h1 := ln_iff h ht (k + 1)
  have hr := itn_rng h ht (k + 1)
  constructor
  · intro z; rw [z] at hs; omega
  · intro z; rw [← hs]; omega
/-- no trip stands in two rows, or twice in one -/
theorem itn_one (h : Chn n f bg) {t t' : Nat} (ht : hB n f t = true) (ht' : hB n f t' = true) : ∀ k k', 0 ≤ itn f t k → itn f t k = itn f t' k' → t = t' ∧ k = k' := by
  have q := cB_iff.mp ht
  have q' := cB_iff.mp ht'
  intro k
  induction k with
  | zero =>
    intro k' h0 e
    cases k' with
    | zero => simp only [itn] at e; exact ⟨by omega, rfl⟩
    | succ k' =>
      exfalso
      have h1 : 0 ≤ itn f t' (k' + 1) := by omega
      have h2 := itn_dn h1
      rw [itn_s h2] at e
      simp only [itn] at e
      rcases itn_rng h q'.1 k' with z | z
      · omega
      · exact q.2 (itn f t' k').toNat (by omega) (by omega)
  | succ k ih =>
    intro k' h0 e
    have hk := itn_dn h0
    cases k' with
    | zero =>
      exfalso
      rw [itn_s hk] at e
      simp only [itn] at e
      rcases itn_rng h q.1 k with z | z
      · omega
      · exact q'.2 (itn f t k).toNat (by omega) (by omega)
    | succ k' =>
      have h1 : 0 ≤ itn f t' (k' + 1) := by omega
      have h2 := itn_dn h1
      have e0 := e
      rw [itn_s hk, itn_s h2] at e
      rw [itn_s hk] at h0
      have r1 := itn_rng h q.1 k
      have r2 := itn_rng h q'.1 k'
      have e2 := h.2.2 (itn f t k).toNat (itn f t' k').toNat (by omega) (by omega) h0 e
      obtain ⟨a, b⟩ := ih k' hk (by omega)
      exact ⟨a, by omega⟩
/-- each trip stands in some row -/
theorem itn_all (h : Chn n f bg) : ∀ u, u < n → ∃ t k, hB n f t = true ∧ k < ln f t ∧ itn f t k = (u : Int) := by
  have main : ∀ m u, u < n → fb_ct (fun v => cB (bg v < bg u)) n ≤ m → ∃ t k, hB n f t = true ∧ k < ln f t ∧ itn f t k = (u : Int) := by
    intro m
    induction m with
    | zero =>
      intro u hu hm
      refine ⟨u, 0, cB_iff.mpr ⟨hu, fun i hi e => ?_⟩, ln_pos h hu, rfl⟩
      rcases h.2.1 i hi with z | z
      · omega
      · have hz : fb_ct (fun v => cB (bg v < bg u)) n = 0 := by omega
        have := fb_ct_zero.mp hz i hi
        have e' : (f i).toNat = u := by omega
        rw [cB_iff.mpr (by rw [← e']; exact z.2.2)] at this
        cases this
    | succ m ih =>
      intro u hu hm
      by_cases hh : ∃ i, i < n ∧ f i = (u : Int)
      · obtain ⟨i, hi, e⟩ := hh
        have hb : bg i < bg u := by
          rcases h.2.1 i hi with z | z
          · omega
          · have e' : (f i).toNat = u := by omega
            rw [← e']; exact z.2.2
        have hlt : fb_ct (fun v => cB (bg v < bg i)) n < fb_ct (fun v => cB (bg v < bg u)) n := by
          have h1 : fb_ct (fun v => cB (bg v < bg i)) n ≤ fb_ct (fun v => if v = i then false else cB (bg v < bg u)) n := fb_ct_sub (fun v _ hv => by
            have := cB_iff.mp hv
            have hne : v ≠ i := fun z => by rw [z] at this; omega
            rw [if_neg hne]
            exact cB_iff.mpr (by omega))
          have h2 := fb_ct_upd (fun v => cB (bg v < bg u)) false (i := i) (n := n) hi
          rw [if_pos (cB_iff.mpr hb), if_neg (by decide)] at h2
          omega
        obtain ⟨t, k, a, b, c⟩ := ih i hi (by omega)
        have q := cB_iff.mp a
        have h0 : 0 ≤ itn f t k := by omega
        have hs := itn_s h0
        rw [c, Int.toNat_natCast, e] at hs
        exact ⟨t, k + 1, a, (ln_iff h q.1 (k + 1)).mp (by omega), hs⟩
      · exact ⟨u, 0, cB_iff.mpr ⟨hu, fun i hi e => hh ⟨i, hi, e⟩⟩, ln_pos h hu, rfl⟩
  intro u hu
  exact main n u hu (fb_ct_le _ n)
/-- how many trips stand in the rows of heads below t -/
noncomputable def upto (n : Nat) (f : Nat → Int) (t : Nat) : Nat := fb_sm (fun u => if hB n f u then ln f u else 0) t
theorem upto_s {t : Nat} (ht : hB n f t = true) : upto n f (t + 1) = upto n f t + ln f t := by unfold upto; rw [fb_sm_succ, if_pos ht]
theorem upto_n {t : Nat} (ht : ¬ hB n f t = true) : upto n f (t + 1) = upto n f t := by unfold upto; rw [fb_sm_succ, if_neg ht, Nat.add_zero]
theorem upto_le (h : Chn n f bg) : ∀ t, t ≤ n → upto n f t ≤ n := by
  have main : ∀ t, t ≤ n → upto n f t ≤ fb_ct (fun v => cB (∃ u k, u < t ∧ hB n f u = true ∧ k < ln f u ∧ itn f u k = (v : Int))) n := by
    intro t
    induction t with
    | zero => intro _; simp [upto, fb_sm]
    | succ t ih =>
      intro ht
      have ih := ih (by omega)
      by_cases hh : hB n f t = true
      · rw [upto_s hh]
        have hd : ∀ v, v < n → ¬ (cB (∃ u k, u < t ∧ hB n f u = true ∧ k < ln f u ∧ itn f u k = (v : Int)) = true ∧ cB (∃ k, k < ln f t ∧ itn f t k = (v : Int)) = true) := by
          rintro v hv ⟨a, b⟩
          obtain ⟨u, k, h1, h2, h3, h4⟩ := cB_iff.mp a
          obtain ⟨k', h5, h6⟩ := cB_iff.mp b
          have := itn_one h h2 hh k k' (by omega) (by omega)
          omega
        have e1 := fb_ct_or hd
        have e2 : ln f t ≤ fb_ct (fun v => cB (∃ k, k < ln f t ∧ itn f t k = (v : Int))) n := by
          have hl := ln_le h (cB_iff.mp hh).1
          have hq := cB_iff.mp hh
          have := fb_holes (fb_ct (fun v => cB (∃ k, k < ln f t ∧ itn f t k = (v : Int))) n) (ln f t) (fun i => fb_ct (fun v => cB (∃ k, k < ln f t ∧ itn f t k = (v : Int))) (itn f t i).toNat) (fun i hi => by
            have r := itn_in h hq.1 hi
            exact ct_lt (by omega) (cB_iff.mpr ⟨i, hi, by omega⟩)) (fun i j hij hj e => by
            have ri := itn_in h hq.1 (k := i) (by omega)
            have rj := itn_in h hq.1 (k := j) hj
            have := fb_ct_kth_one (p := fun v => cB (∃ k, k < ln f t ∧ itn f t k = (v : Int))) (i := (itn f t i).toNat) (j := (itn f t j).toNat) (cB_iff.mpr ⟨i, by omega, by omega⟩) (cB_iff.mpr ⟨j, hj, by omega⟩) e
            have := itn_one h hh hh i j ri.1 (by omega)
            omega)
          exact this
        have e3 : fb_ct (fun v => cB (∃ u k, u < t ∧ hB n f u = true ∧ k < ln f u ∧ itn f u k = (v : Int)) || cB (∃ k, k < ln f t ∧ itn f t k = (v : Int))) n ≤ fb_ct (fun v => cB (∃ u k, u < t + 1 ∧ hB n f u = true ∧ k < ln f u ∧ itn f u k = (v : Int))) n := fb_ct_sub (fun v _ hv => by
          rw [Bool.or_eq_true] at hv
          rcases hv with z | z
          · obtain ⟨u, k, h1, h2, h3, h4⟩ := cB_iff.mp z
            exact cB_iff.mpr ⟨u, k, by omega, h2, h3, h4⟩
          · obtain ⟨k, h3, h4⟩ := cB_iff.mp z
            exact cB_iff.mpr ⟨t, k, by omega, hh, h3, h4⟩)
        omega
      · rw [upto_n hh]
        have : fb_ct (fun v => cB (∃ u k, u < t ∧ hB n f u = true ∧ k < ln f u ∧ itn f u k = (v : Int))) n ≤ fb_ct (fun v => cB (∃ u k, u < t + 1 ∧ hB n f u = true ∧ k < ln f u ∧ itn f u k = (v : Int))) n := fb_ct_sub (fun v _ hv => by
          obtain ⟨u, k, h1, h2, h3, h4⟩ := cB_iff.mp hv
          exact cB_iff.mpr ⟨u, k, by omega, h2, h3, h4⟩)
        omega
  intro t ht
  exact Nat.le_trans (main t ht) (fb_ct_le _ n)
/-- a head's own row fits behind those ahead of it -/
theorem upto_fit (h : Chn n f bg) {t : Nat} (ht : hB n f t = true) : upto n f t + ln f t ≤ n := by
  have := upto_le h (t + 1) (by have := (cB_iff.mp ht).1; omega)
  rwa [upto_s ht] at this
/-- RELIEFS behind the first i trips of t's row -/
def Rc (f : Nat → Int) (rl : Nat → Bool) (t i : Nat) : Nat := fb_ct (fun j => rl (itn f t j).toNat) i
noncomputable def sc (f : Nat → Int) (rl : Nat → Bool) (t : Nat) : Nat := Rc f rl t (ln f t - 1) + 1
/-- SEGMENTS of the rows of heads below t -/
noncomputable def bs (n : Nat) (f : Nat → Int) (rl : Nat → Bool) (t : Nat) : Nat := fb_sm (fun u => if hB n f u then sc f rl u else 0) t
theorem bs_s {rl : Nat → Bool} {t : Nat} (ht : hB n f t = true) : bs n f rl (t + 1) = bs n f rl t + sc f rl t := by unfold bs; rw [fb_sm_succ, if_pos ht]
theorem bs_n {rl : Nat → Bool} {t : Nat} (ht : ¬ hB n f t = true) : bs n f rl (t + 1) = bs n f rl t := by unfold bs; rw [fb_sm_succ, if_neg ht, Nat.add_zero]
theorem bs_upto (h : Chn n f bg) (rl : Nat → Bool) : ∀ t, bs n f rl t ≤ upto n f t := by
  intro t
  induction t with
  | zero => simp [bs, upto, fb_sm]
  | succ t ih =>
    by_cases hh : hB n f t = true
    · rw [bs_s hh, upto_s hh]
      have hp := ln_pos h (cB_iff.mp hh).1
      have := fb_ct_le (fun j => rl (itn f t j).toNat) (ln f t - 1)
      unfold sc Rc
      omega
    · rw [bs_n hh, upto_n hh]; exact ih
theorem Rc_sc {rl : Nat → Bool} {t i : Nat} (hi : i < ln f t) : Rc f rl t i < sc f rl t := by
  have := fb_ct_mono (fun j => rl (itn f t j).toNat) (m := i) (n := ln f t - 1) (by omega)
  unfold sc Rc
  omega
theorem Rc_0 (rl : Nat → Bool) (t : Nat) : Rc f rl t 0 = 0 := rfl
theorem Rc_s (rl : Nat → Bool) (t i : Nat) : Rc f rl t (i + 1) = Rc f rl t i + (if rl (itn f t i).toNat then 1 else 0) := rfl
/-- the SEGMENT's first trip, and how many trips of it stand up to here -/
def stf (f : Nat → Int) (rl : Nat → Bool) (t : Nat) : Nat → Int
  | 0 => t
  | i + 1 => if rl (itn f t i).toNat then itn f t (i + 1) else stf f rl t i
def psf (f : Nat → Int) (rl : Nat → Bool) (t : Nat) : Nat → Int
  | 0 => 1
  | i + 1 => if rl (itn f t i).toNat then 1 else psf f rl t i + 1
theorem psf_rng (rl : Nat → Bool) (t : Nat) : ∀ i, 1 ≤ psf f rl t i ∧ psf f rl t i ≤ i + 1 := by
  intro i
  induction i with
  | zero => simp [psf]
  | succ i ih => simp only [psf]; split <;> omega
theorem stf_rng (h : Chn n f bg) (rl : Nat → Bool) {t : Nat} (ht : t < n) : ∀ i, i < ln f t → 0 ≤ stf f rl t i ∧ stf f rl t i < n := by
  intro i
  induction i with
  | zero => intro _; simp only [stf]; omega
  | succ i ih =>
    intro hi
    simp only [stf]
    split
    · exact itn_in h ht hi
    · exact ih (by omega)
/-- where trip i of head t's row ends its SEGMENT -/
def endS (f : Nat → Int) (rl : Nat → Bool) (t i : Nat) : Prop := rl (itn f t i).toNat = true ∨ f (itn f t i).toNat = -1
/-- every SEGMENT has an end -/
theorem seg_all (h : Chn n f bg) (rl : Nat → Bool) : ∀ T, T ≤ n → ∀ s, s < bs n f rl T → ∃ t i, t < T ∧ hB n f t = true ∧ i < ln f t ∧ endS f rl t i ∧ s = bs n f rl t + Rc f rl t i := by
  intro T
  induction T with
  | zero => intro _ s hs; simp [bs, fb_sm] at hs
  | succ T ih =>
    intro hT s hs
    by_cases hh : hB n f T = true
    · rw [bs_s hh] at hs
      rcases Nat.lt_or_ge s (bs n f rl T) with q | q
      · obtain ⟨t, i, a1, a2, a3, a4, a5⟩ := ih (by omega) s q
        exact ⟨t, i, by omega, a2, a3, a4, a5⟩
      · have hp := ln_pos h (cB_iff.mp hh).1
        have hlt := (cB_iff.mp hh).1
        -- the k-th RELIEF of the row, or its end
        rcases Nat.lt_or_ge (s - bs n f rl T) (Rc f rl T (ln f T - 1)) with y | y
        · obtain ⟨i, b1, b2, b3⟩ := fb_ct_kth (p := fun j => rl (itn f T j).toNat) y
          exact ⟨T, i, by omega, hh, by omega, Or.inl b2, by unfold Rc; omega⟩
        · refine ⟨T, ln f T - 1, by omega, hh, by omega, Or.inr ?_, by unfold sc at hs; omega⟩
          exact (itn_last h hlt (by omega)).mpr (by omega)
    · rw [bs_n hh] at hs
      obtain ⟨t, i, a1, a2, a3, a4, a5⟩ := ih (by omega) s hs
      exact ⟨t, i, by omega, a2, a3, a4, a5⟩
/-- a head's number: how many heads are below it -/
noncomputable def bn (n : Nat) (f : Nat → Int) (t : Nat) : Nat := fb_ct (hB n f) t
theorem bn_s {t : Nat} (ht : hB n f t = true) : bn n f (t + 1) = bn n f t + 1 := by unfold bn; rw [fb_ct_succ, if_pos ht]
theorem bn_n {t : Nat} (ht : ¬ hB n f t = true) : bn n f (t + 1) = bn n f t := by unfold bn; rw [fb_ct_succ, if_neg ht, Nat.add_zero]
theorem bn_lt {t : Nat} (ht : hB n f t = true) : bn n f t < bn n f n := ct_lt (cB_iff.mp ht).1 ht
theorem bn_upto (h : Chn n f bg) : ∀ t, bn n f t ≤ upto n f t := by
  intro t
  induction t with
  | zero => simp [bn, upto, fb_sm, fb_ct]
  | succ t ih =>
    by_cases hh : hB n f t = true
    · rw [bn_s hh, upto_s hh]
      have := ln_pos h (cB_iff.mp hh).1
      omega
    · rw [bn_n hh, upto_n hh]; exact ih
end Numb
/-- the plan beyond its trips -/
def nz (n : Nat) (nx : Nat → Int) : Nat → Int := fun i => if i < n then nx i else -1
