/-! ===== questions about the plan ===== -/
def gsl (sl : Nat → Int) : Nat → Int
  | 0 => -1
  | t + 1 => if gsl sl t < sl t then sl t else gsl sl t
def lsl (sl : Nat → Int) : Nat → Int
  | 0 => -1
  | t + 1 => if sl t < 0 then lsl sl t else if lsl sl t < 0 then sl t else if sl t < lsl sl t then sl t else lsl sl t
theorem gsl_ge (sl : Nat → Int) : ∀ t, -1 ≤ gsl sl t
  | 0 => Int.le_refl _
  | t + 1 => by
    have := gsl_ge sl t
    show -1 ≤ if gsl sl t < sl t then sl t else gsl sl t
    by_cases q : gsl sl t < sl t
    · rw [if_pos q]; omega
    · rw [if_neg q]; omega
theorem lsl_ge {sl : Nat → Int} : ∀ {t : Nat}, (∀ i, i < t → -1 ≤ sl i) → -1 ≤ lsl sl t
  | 0, _ => Int.le_refl _
  | t + 1, h => by
    have := lsl_ge (t := t) (fun i hi => h i (by omega))
    have := h t (by omega)
    show -1 ≤ if sl t < 0 then lsl sl t else if lsl sl t < 0 then sl t else if sl t < lsl sl t then sl t else lsl sl t
    by_cases q : sl t < 0
    · rw [if_pos q]; omega
    · rw [if_neg q]
      by_cases q2 : lsl sl t < 0
      · rw [if_pos q2]; omega
      · rw [if_neg q2]
        by_cases q3 : sl t < lsl sl t
        · rw [if_pos q3]; omega
        · rw [if_neg q3]; omega
theorem gsl_c {sl sl' : Nat → Int} : ∀ {t : Nat}, (∀ i, i < t → sl i = sl' i) → gsl sl t = gsl sl' t ∧ lsl sl t = lsl sl' t
  | 0, _ => ⟨rfl, rfl⟩
  | t + 1, h => by
    have ih := gsl_c (t := t) (fun i hi => h i (by omega))
    have e := h t (by omega)
    constructor
    · show (if gsl sl t < sl t then sl t else gsl sl t) = if gsl sl' t < sl' t then sl' t else gsl sl' t
      rw [ih.1, e]
    · show (if sl t < 0 then lsl sl t else if lsl sl t < 0 then sl t else if sl t < lsl sl t then sl t else lsl sl t) = if sl' t < 0 then lsl sl' t else if lsl sl' t < 0 then sl' t else if sl' t < lsl sl' t then sl' t else lsl sl' t
      rw [ih.2, e]
section QX
variable {G : GX} {d : Nat} {σ : St} {Q : Int → St → Prop} {n : Nat}
theorem c_greatestSlack (hn : σ.1 7 4 = (n : Int)) (hn16 : n ≤ 16) (K : Q (gsl (σ.1 21) n) σ) : conI G wdX (d + 1) mX4_greatestSlack [vR 4] σ Q := by
  refine conI.of (ls0 := [vR 4, vN, vN]) rfl rfl (Nat.le_of_ble_eq_true rfl) (fun Ret R hret hM => g_X4_greatestSlack_0 hM σ ?_)
  have loop : ∀ m t : Nat, t + m = n → R 4 [vR 4, vI (gsl (σ.1 21) t), vI t] [] σ := by
    intro m
    induction m with
    | zero =>
      intro t ht
      have e : t = n := by omega
      subst e
      exact g_X4_greatestSlack_4 hM _ t σ ⟨fun _ => hret _ _ K, fun q => by omega⟩
    | succ m ih =>
      intro t ht
      have et : ((t : Int) + 1) = ((t + 1 : Nat) : Int) := by omega
      refine g_X4_greatestSlack_4 hM _ t σ ⟨fun q => by omega, fun _ => ⟨⟨by omega, by omega⟩, fun u1 eu => ⟨⟨by omega, by omega⟩, ?_⟩⟩⟩
      rw [Int.toNat_natCast] at eu
      have := ih (t + 1) (by omega)
      rw [et, eu]
      exact this
  exact loop n 0 (by omega)
theorem c_leastSlack (hn : σ.1 7 4 = (n : Int)) (hn16 : n ≤ 16) (hs : ∀ i, i < n → -1 ≤ σ.1 21 i) (K : Q (lsl (σ.1 21) n) σ) : conI G wdX d mX4_leastSlack [vR 4] σ Q := by
  refine conI.of (ls0 := [vR 4, vN, vN]) rfl rfl (Nat.le_of_ble_eq_true rfl) (fun Ret R hret hM => g_X4_leastSlack_0 hM σ ?_)
  have loop : ∀ m t : Nat, t + m = n → R 4 [vR 4, vI (lsl (σ.1 21) t), vI t] [] σ := by
    intro m
    induction m with
    | zero =>
      intro t ht
      have e : t = n := by omega
      subst e
      exact g_X4_leastSlack_4 hM _ t σ ⟨fun _ => hret _ _ K, fun q => by omega⟩
    | succ m ih =>
      intro t ht
      have et : ((t : Int) + 1) = ((t + 1 : Nat) : Int) := by omega
      have nx := ih (t + 1) (by omega)
      have a := hs t (by omega)
      have b := lsl_ge (sl := σ.1 21) (t := t) (fun i hi => hs i (by omega))
      have e0 : lsl (σ.1 21) (t + 1) = if σ.1 21 t < 0 then lsl (σ.1 21) t else if lsl (σ.1 21) t < 0 then σ.1 21 t else if σ.1 21 t < lsl (σ.1 21) t then σ.1 21 t else lsl (σ.1 21) t := rfl
      rw [e0] at nx
      refine g_X4_leastSlack_4 hM _ t σ ⟨fun q => by omega, fun _ => ⟨⟨by omega, by omega⟩, ?_⟩⟩
      rw [Int.toNat_natCast, et]
      refine ⟨fun q => ⟨⟨by omega, by omega⟩, ?_⟩, fun q => ⟨fun q2 => ⟨⟨by omega, by omega⟩, ?_⟩, fun q2 => ⟨fun q3 => ⟨⟨by omega, by omega⟩, ?_⟩, fun q3 => ⟨⟨by omega, by omega⟩, ?_⟩⟩⟩⟩
      · rw [if_pos (by omega)] at nx; exact nx
      · rw [if_neg (by omega), if_pos (by omega)] at nx; exact nx
      · rw [if_neg (by omega), if_neg (by omega), if_neg (by omega)] at nx; exact nx
      · rw [if_neg (by omega), if_neg (by omega), if_pos (by omega)] at nx; exact nx
  exact loop n 0 (by omega)
end QX
def slm (σ : St) (nx : Nat → Int) (i : Nat) : Int := if nx i < 0 then -1 else σ.1 6 (nx i).toNat - σ.1 7 i - wM σ i (nx i).toNat
section QM
variable {G : GX} {d : Nat} {σ : St} {Q : Int → St → Prop} {n : Nat}
theorem c_M_slack (hB : MB σ) (hn16 : n ≤ 16) (hnx : OkP n (foM σ) (σ.1 9)) {t : Nat} (ht : t < n) (K : Q (slm σ (σ.1 9) t) σ) : conI G wdM d mX10_slack [vR 0, vI t] σ Q := by
  refine conI.of (ls0 := [vR 0, vI t]) rfl rfl (Nat.le_of_ble_eq_true rfl) (fun Ret R hret hM => g_X10_slack_0 hM t σ ?_)
  rw [Int.toNat_natCast]
  have z := hnx.rng ht
  have a := hB.2.1 t (by omega)
  unfold slm at K
  refine ⟨⟨by omega, by omega⟩, fun q => ?_, fun q => ?_⟩
  · have b := hB.2.1 (σ.1 9 t).toNat (by omega)
    have w : -1 ≤ σ.1 1 (12 * σ.1 5 t + σ.1 4 (σ.1 9 t).toNat).toNat ∧ σ.1 1 (12 * σ.1 5 t + σ.1 4 (σ.1 9 t).toNat).toNat ≤ 600 := hB.w (i := t) (j := (σ.1 9 t).toNat) (by omega) (by omega)
    rw [if_neg (by omega)] at K
    exact ⟨⟨by omega, by omega⟩, ⟨by omega, by omega⟩, ⟨by omega, by omega⟩, ⟨by omega, by omega⟩, ⟨by omega, by omega⟩, ⟨by omega, by omega⟩, hret _ _ K⟩
  · rw [if_pos (by omega)] at K; exact hret _ _ K
theorem slm_r (hB : MB σ) (hn16 : n ≤ 16) (hnx : OkP n (foM σ) (σ.1 9)) {t : Nat} (ht : t < n) : (σ.1 9 t < 0 → slm σ (σ.1 9) t = -1) ∧ (¬ σ.1 9 t < 0 → 0 ≤ slm σ (σ.1 9) t) := by
  unfold slm
  refine ⟨fun q => if_pos q, fun q => ?_⟩
  rw [if_neg q]
  rcases hnx.1 t ht with z | z
  · omega
  · have := z.2.2.2
    show 0 ≤ σ.1 6 (σ.1 9 t).toNat - σ.1 7 t - σ.1 1 _
    have e : σ.1 7 t + σ.1 1 (12 * σ.1 5 t + σ.1 4 (σ.1 9 t).toNat).toNat ≤ σ.1 6 (σ.1 9 t).toNat := this
    omega
/-- what `plan` tells -/
def plA (bl pr sg gs ls what : Int) : Int := if what = 0 then bl else if what = 1 then pr else if what = 2 then sg else if what = 3 then gs else if what = 4 then ls else -1
theorem plan_loop {Ret : Option AV → St → Prop} {R : Nat → List AV → List AV → St → Prop} (hM : AM G wdM (d + 1) mX10_plan Ret R) (hB : MB σ) (hn : σ.1 0 3 = (n : Int)) (hn16 : n ≤ 16) (hnx : OkP n (foM σ) (σ.1 9)) (what : Int)
    (K : Ret (some (vI (plA (σ.1 0 15) (Pc n (pM σ) (σ.1 9)) (σ.1 0 18) (gsl (slm σ (σ.1 9)) n) (lsl (slm σ (σ.1 9)) n) what))) σ) :
    ∀ m t : Nat, t + m = n → R 14 [vR 0, vI what, vI (Pc t (pM σ) (σ.1 9)), vI (gsl (slm σ (σ.1 9)) t), vI (lsl (slm σ (σ.1 9)) t), vI t] [] σ := by
  intro m
  induction m with
  | zero =>
    intro t ht
    have e : t = n := by omega
    subst e
    unfold plA at K
    refine g_X10_plan_14 hM what _ _ _ t σ ⟨fun _ => ⟨fun q => ?_, fun q => ?_, fun q => ?_, fun q => ?_, fun q => ?_, fun q => ?_⟩, fun q => by omega⟩
    · rw [if_pos q] at K; exact K
    · rw [if_neg (by omega), if_pos q] at K; exact K
    · rw [if_neg (by omega), if_neg (by omega), if_pos q] at K; exact K
    · rw [if_neg (by omega), if_neg (by omega), if_neg (by omega), if_pos q] at K; exact K
    · rw [if_neg (by omega), if_neg (by omega), if_neg (by omega), if_neg (by omega), if_pos q] at K; exact K
    · rw [if_neg (by omega), if_neg (by omega), if_neg (by omega), if_neg (by omega), if_neg (by omega)] at K; exact K
  | succ m ih =>
    intro t ht
    have et : ((t : Int) + 1) = ((t + 1 : Nat) : Int) := by omega
    have nxt := ih (t + 1) (by omega)
    have sr := slm_r hB hn16 hnx (show t < n by omega)
    have hP : ∀ k, k ≤ n → 0 ≤ Pc k (pM σ) (σ.1 9) ∧ Pc k (pM σ) (σ.1 9) ≤ 16000 := fun k hk => by
      have b := fb_si_bound (f := fun i => if σ.1 9 i < 0 then 0 else pM σ i (σ.1 9 i).toNat) (c := 1000) (by decide) (n := k) (fun i hi => by
        have z := hnx.rng (show i < n by omega)
        by_cases q : σ.1 9 i < 0
        · simp only [if_pos q]; omega
        · simp only [if_neg q]
          have := hB.p (i := i) (j := (σ.1 9 i).toNat) (by omega) (by omega)
          omega)
      have a := si_zero (f := fun i => if σ.1 9 i < 0 then 0 else pM σ i (σ.1 9 i).toNat) (n := k) (fun i hi => by
        have z := hnx.rng (show i < n by omega)
        by_cases q : σ.1 9 i < 0
        · rw [if_pos q]; omega
        · rw [if_neg q]
          exact (hB.p (i := i) (j := (σ.1 9 i).toNat) (by omega) (by omega)).1)
      have b2 := b.2
      exact ⟨a.1, by show fb_si _ k ≤ _; omega⟩
    have eP : Pc (t + 1) (pM σ) (σ.1 9) = Pc t (pM σ) (σ.1 9) + (if σ.1 9 t < 0 then 0 else pM σ t (σ.1 9 t).toNat) := rfl
    have eG : gsl (slm σ (σ.1 9)) (t + 1) = if gsl (slm σ (σ.1 9)) t < slm σ (σ.1 9) t then slm σ (σ.1 9) t else gsl (slm σ (σ.1 9)) t := rfl
    have eL : lsl (slm σ (σ.1 9)) (t + 1) = if slm σ (σ.1 9) t < 0 then lsl (slm σ (σ.1 9)) t else if lsl (slm σ (σ.1 9)) t < 0 then slm σ (σ.1 9) t else if slm σ (σ.1 9) t < lsl (slm σ (σ.1 9)) t then slm σ (σ.1 9) t else lsl (slm σ (σ.1 9)) t := rfl
    have hg := gsl_ge (slm σ (σ.1 9)) t
    refine g_X10_plan_14 hM what _ _ _ t σ ⟨fun q => by omega, fun _ => ⟨⟨by omega, by omega⟩, ?_⟩⟩
    rw [Int.toNat_natCast]
    have z := hnx.rng (show t < n by omega)
    have a := hB.2.1 t (by omega)
    refine ⟨fun q => ⟨⟨by omega, by omega⟩, ?_⟩, fun q => ?_⟩
    · have e1 := sr.1 q
      rw [eP, eG, eL, if_pos q, e1, if_neg (by omega), if_pos (by omega)] at nxt
      rw [et]
      have e2 : Pc t (pM σ) (σ.1 9) + 0 = Pc t (pM σ) (σ.1 9) := by omega
      rw [e2] at nxt
      exact nxt
    · have b := hB.2.1 (σ.1 9 t).toNat (by omega)
      have e1 := sr.2 q
      have pp : 0 ≤ σ.1 2 (12 * σ.1 5 t + σ.1 4 (σ.1 9 t).toNat).toNat ∧ σ.1 2 (12 * σ.1 5 t + σ.1 4 (σ.1 9 t).toNat).toNat ≤ 1000 := hB.p (i := t) (j := (σ.1 9 t).toNat) (by omega) (by omega)
      have hPt := hP t (by omega)
      rw [eP, eG, eL, if_neg q, if_neg (show ¬ slm σ (σ.1 9) t < 0 by omega)] at nxt
      refine ⟨⟨by omega, by omega⟩, ⟨by omega, by omega⟩, ⟨by omega, by omega⟩, ⟨by omega, by omega⟩, ⟨by omega, by omega⟩, fun u1 eu => ?_⟩
      have eu' : u1 = Pc t (pM σ) (σ.1 9) + pM σ t (σ.1 9 t).toNat := eu
      -- behind the greatest one
      have rest : ∀ w0 : Int, w0 = (if gsl (slm σ (σ.1 9)) t < slm σ (σ.1 9) t then slm σ (σ.1 9) t else gsl (slm σ (σ.1 9)) t) → R 84 [vR 0, vI what, vI u1, vN, vI (lsl (slm σ (σ.1 9)) t), vI t] [vI w0] σ := by
        intro w0 ew
        rw [← ew, ← eu'] at nxt
        refine g_X10_plan_84 hM what u1 _ t w0 σ ⟨fun q2 => c_M_slack hB hn16 hnx (by omega) ⟨⟨by omega, by omega⟩, ?_⟩, fun q2 => c_M_slack hB hn16 hnx (by omega) ⟨fun q3 => ⟨⟨by omega, by omega⟩, ?_⟩, fun q3 => c_M_slack hB hn16 hnx (by omega) ⟨⟨by omega, by omega⟩, ?_⟩⟩⟩
        · rw [if_pos q2] at nxt; rw [et]; exact nxt
        · rw [if_neg q2, if_neg (by omega)] at nxt; rw [et]; exact nxt
        · rw [if_neg q2, if_pos (by omega)] at nxt; rw [et]; exact nxt
      refine c_M_slack hB hn16 hnx (by omega) ⟨fun q2 => rest _ (by rw [if_neg (by omega)]), fun q2 => c_M_slack hB hn16 hnx (by omega) (rest _ (by rw [if_pos (by omega)]))⟩
theorem block_loop {Ret : Option AV → St → Prop} {R : Nat → List AV → List AV → St → Prop} (hM : AM G wdM (d + 1) mX10_block Ret R) {f bg : Nat → Int} (hC : Chn n f bg) (hf : ∀ u, u < n → σ.1 9 u = f u) {t : Nat} (ht : t < n) (i : Int) (hi : 0 ≤ i ∧ i < 2147483648) (K : Ret (some (vI (itn f t i.toNat))) σ) :
    ∀ m k : Nat, k + m = i.toNat → R 34 [vR 0, vN, vI i, vI (itn f t k), vI k] [] σ := by
  have hn := hC.1
  intro m
  induction m with
  | zero =>
    intro k hk
    have e : k = i.toNat := by omega
    subst e
    exact g_X10_block_34 hM i _ _ σ ⟨fun _ => K, fun q => by omega⟩
  | succ m ih =>
    intro k hk
    have ek : ((k : Int) + 1) = ((k + 1 : Nat) : Int) := by omega
    have z := itn_rng hC ht k
    refine g_X10_block_34 hM i _ k σ ⟨fun q => by omega, fun _ => ⟨fun q => ?_, fun q => ⟨⟨by omega, by omega⟩, ⟨by omega, by omega⟩, ?_⟩⟩⟩
    · have e1 : itn f t k = -1 := by omega
      have e2 : itn f t i.toNat = -1 := by
        have y := itn_rng hC ht i.toNat
        by_cases w : 0 ≤ itn f t i.toNat
        · have := itn_le (show k ≤ i.toNat by omega) w
          omega
        · omega
      rw [e2] at K
      rw [e1]
      exact K
    · rw [hf _ (by omega), ← itn_s (f := f) (t := t) (k := k) (by omega), ek]
      exact ih (k + 1) (by omega)
end QM
