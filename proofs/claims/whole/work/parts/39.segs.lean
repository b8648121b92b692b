/-! ===== the table of SEGMENTS ===== -/
def sti (f : Nat → Int) (rl : Nat → Bool) (t : Nat) : Nat → Nat
  | 0 => 0
  | i + 1 => if rl (itn f t i).toNat then i + 1 else sti f rl t i
theorem sti_le (f : Nat → Int) (rl : Nat → Bool) (t : Nat) : ∀ i, sti f rl t i ≤ i ∧ stf f rl t i = itn f t (sti f rl t i)
  | 0 => ⟨Nat.le_refl _, rfl⟩
  | i + 1 => by
    have ih := sti_le f rl t i
    show (if rl (itn f t i).toNat then i + 1 else sti f rl t i) ≤ i + 1 ∧ (if rl (itn f t i).toNat then itn f t (i + 1) else stf f rl t i) = itn f t (if rl (itn f t i).toNat then i + 1 else sti f rl t i)
    cases rl (itn f t i).toNat with
    | true => exact ⟨Nat.le_refl _, rfl⟩
    | false => exact ⟨by have := ih.1; simp only [Bool.false_eq_true, if_false]; omega, ih.2⟩
theorem sti_mono (f : Nat → Int) (rl : Nat → Bool) (t : Nat) : ∀ {i j : Nat}, i ≤ j → sti f rl t i ≤ sti f rl t j := by
  intro i j h
  induction j with
  | zero => have : i = 0 := by omega
            rw [this]; exact Nat.le_refl _
  | succ j ih =>
    by_cases e : i = j + 1
    · rw [e]; exact Nat.le_refl _
    · have a := ih (by omega)
      have b := (sti_le f rl t j).1
      show _ ≤ if rl (itn f t j).toNat then j + 1 else sti f rl t j
      cases rl (itn f t j).toNat with
      | true => simp only [if_true]; omega
      | false => exact a
/-- what the laws and THE ROSTER need of the table: `N` SEGMENTS with block, first and last trip -/
def SG (N : Nat) (sb sf sl bg en : Nat → Int) : Prop :=
  N ≤ 16 ∧ (∀ s, s < N → (0 ≤ sf s ∧ sf s < 16) ∧ (0 ≤ sl s ∧ sl s < 16) ∧ bg (sf s).toNat < en (sl s).toNat) ∧
  ∀ s s', s ≤ s' → s' < N → sb s ≤ sb s' ∧ (sb s = sb s' → bg (sf s).toNat ≤ bg (sf s').toNat ∧ en (sl s).toNat ≤ en (sl s').toNat)
theorem NumT.sg {n : Nat} {f bg en : Nat → Int} {rl : Nat → Bool} (hC : Chn n f bg) (h1 : ∀ u, u < n → bg u < en u) (h2 : ∀ u, u < n → 0 ≤ f u → en u ≤ bg (f u).toNat) {hd bo so sb sf sl sm : Nat → Int} (hN : NumT n f rl n hd bo so sb sf sl sm) : SG (bs n f rl n) sb sf sl bg en := by
  have hn := hC.1
  have hbu := bs_upto hC rl n
  have hul := upto_le hC n (Nat.le_refl _)
  have val : ∀ s, s < bs n f rl n → ∃ t i, hB n f t = true ∧ i < ln f t ∧ endS f rl t i ∧ s = bs n f rl t + Rc f rl t i ∧ sb s = (bn n f t : Int) ∧ sf s = itn f t (sti f rl t i) ∧ sl s = itn f t i := fun s hs => by
    obtain ⟨t, i, a1, a2, a3, a4, a5⟩ := seg_all hC rl n (Nat.le_refl _) s hs
    have z := ((hN t a1 a2).2 i a3).2 (Rc_sc a3)
    rw [← a5] at z
    exact ⟨t, i, a2, a3, a4, a5, z.1, by rw [z.2.1]; exact (sti_le f rl t i).2, (z.2.2 a4).1⟩
  -- along a row
  have bgm : ∀ t, hB n f t = true → ∀ i j, i ≤ j → j < ln f t → bg (itn f t i).toNat ≤ bg (itn f t j).toNat := fun t ht i j hij hj => by
    by_cases e : i = j
    · rw [e]; exact Int.le_refl _
    · have := itn_bg hC (cB_iff.mp ht).1 j (itn_in hC (cB_iff.mp ht).1 hj).1 i (by omega)
      omega
  have enm : ∀ t, hB n f t = true → ∀ i j, i ≤ j → j < ln f t → en (itn f t i).toNat ≤ en (itn f t j).toNat := fun t ht i j hij hj => by
    have hlt := (cB_iff.mp ht).1
    by_cases e : i = j
    · rw [e]; exact Int.le_refl _
    · have hi := itn_in hC hlt (show i < ln f t by omega)
      have hi1 := itn_in hC hlt (show i + 1 < ln f t by omega)
      have hj' := itn_in hC hlt hj
      have a := h2 (itn f t i).toNat (by omega) (by rw [← itn_s hi.1]; exact hi1.1)
      rw [← itn_s hi.1] at a
      have b := bgm t ht (i + 1) j (by omega) hj
      have c := h1 (itn f t j).toNat (by omega)
      omega
  refine ⟨by omega, fun s hs => ?_, fun s s' hss hs' => ?_⟩
  · obtain ⟨t, i, a1, a2, _, _, _, a6, a7⟩ := val s hs
    have hlt := (cB_iff.mp a1).1
    have hi := itn_in hC hlt a2
    have hst := (sti_le f rl t i).1
    have hj := itn_in hC hlt (show sti f rl t i < ln f t by omega)
    have b := bgm t a1 (sti f rl t i) i hst a2
    have c := h1 (itn f t i).toNat (by omega)
    rw [a6, a7]
    exact ⟨⟨hj.1, by omega⟩, ⟨hi.1, by omega⟩, by omega⟩
  · obtain ⟨t, i, a1, a2, a3, a4, a5, a6, a7⟩ := val s (by omega)
    obtain ⟨t', i', b1, b2, b3, b4, b5, b6, b7⟩ := val s' hs'
    have r1 := Rc_sc (rl := rl) a2
    have r2 := Rc_sc (rl := rl) b2
    have htt : t ≤ t' := by
      by_cases q : t ≤ t'
      · exact q
      · have := bs_mono (f := f) (n := n) rl (show t' + 1 ≤ t by omega)
        rw [bs_s b1] at this
        omega
    by_cases e : t = t'
    · subst e
      have hii : i ≤ i' := by
        by_cases q : i ≤ i'
        · exact q
        · have hr : rl (itn f t i').toNat = true := by
            rcases b3 with z | z
            · exact z
            · have := (itn_last hC (cB_iff.mp b1).1 b2).mp z
              omega
          have m := Rc_mono (f := f) rl t (show i' + 1 ≤ i by omega)
          have m2 : Rc f rl t (i' + 1) = Rc f rl t i' + 1 := by rw [Rc_s, hr]; rfl
          omega
      refine ⟨by rw [a5, b5]; exact Int.le_refl _, fun _ => ?_⟩
      have s1 := (sti_le f rl t i').1
      rw [a6, b6, a7, b7]
      exact ⟨bgm t a1 _ _ (sti_mono f rl t hii) (by omega), enm t a1 i i' hii b2⟩
    · have : bn n f t < bn n f t' := ct_lt (by omega) a1
      refine ⟨by rw [a5, b5]; omega, fun z => ?_⟩
      rw [a5, b5] at z
      omega
/-- the first law that is broken -/
def lw1 (BG EN : Nat → Int) (sp wk : Int) (a b : Nat) : Int := if EN b - BG a ≤ sp then (if EN b - BG a ≤ wk then 0 else 4) else 3
def chg (BG EN : Nat → Int) (W : Nat → Nat → Int) (ps : Int) (l k : Nat) : Prop := ¬ W l k = -1 ∧ W l k ≤ BG k - EN l ∧ ps ≤ BG k - EN l
noncomputable def lw2 (BG EN : Nat → Int) (W : Nat → Nat → Int) (sp wk ps tw : Int) (a b c d : Nat) : Int :=
  if tw = 0 then 1 else
  if BG c < BG a then (if cB (chg BG EN W ps d a) = true then (if EN b - BG c ≤ sp then (if (EN b - BG a) + (EN d - BG c) ≤ wk then 0 else 4) else 3) else 2)
  else (if cB (chg BG EN W ps b c) = true then (if EN d - BG a ≤ sp then (if (EN b - BG a) + (EN d - BG c) ≤ wk then 0 else 4) else 3) else 2)
abbrev bgX (σ : St) (s : Nat) : Int := σ.1 36 (σ.1 30 s).toNat
abbrev enX (σ : St) (s : Nat) : Int := σ.1 37 (σ.1 31 s).toNat
abbrev gwX (σ : St) (l k : Nat) : Int := wX σ (σ.1 31 l).toNat (σ.1 30 k).toNat
abbrev SX (σ : St) (N : Nat) : Prop := σ.1 6 5 = (N : Int) ∧ SG N (σ.1 29) (σ.1 30) (σ.1 31) (σ.1 36) (σ.1 37)
section LawX
variable {G : GX} {d : Nat} {σ : St} {Q : Int → St → Prop} {N : Nat}
theorem c_beginning (h : SX σ N) {s : Nat} (hs : s < N) (K : Q (bgX σ s) σ) : conI G wdX d mX6_beginning [vR 6, vI s] σ Q := by
  refine conI.of (ls0 := [vR 6, vI s]) rfl rfl (Nat.le_of_ble_eq_true rfl) (fun Ret R hret hM => g_X6_beginning_0 hM s σ ?_)
  rw [Int.toNat_natCast]
  have := h.2.1
  have z := h.2.2.1 s hs
  exact ⟨⟨by omega, by omega⟩, z.1, hret _ _ K⟩
theorem c_ending (h : SX σ N) {s : Nat} (hs : s < N) (K : Q (enX σ s) σ) : conI G wdX d mX6_ending [vR 6, vI s] σ Q := by
  refine conI.of (ls0 := [vR 6, vI s]) rfl rfl (Nat.le_of_ble_eq_true rfl) (fun Ret R hret hM => g_X6_ending_0 hM s σ ?_)
  rw [Int.toNat_natCast]
  have := h.2.1
  have z := h.2.2.1 s hs
  exact ⟨⟨by omega, by omega⟩, z.2.1, hret _ _ K⟩
theorem bgX_r (hB : XB σ) (h : SX σ N) {s : Nat} (hs : s < N) : (0 ≤ bgX σ s ∧ bgX σ s ≤ 2879) ∧ (0 ≤ enX σ s ∧ enX σ s ≤ 2879) := by
  have z := h.2.2.1 s hs
  exact ⟨(hB.2.1 _ (by omega)).2.2.1, (hB.2.1 _ (by omega)).2.2.2⟩
theorem c_minutes (hB : XB σ) (h : SX σ N) {a b : Nat} (ha : a < N) (hb : b < N) (K : Q (enX σ b - bgX σ a) σ) : conI G wdX (d + 1) mX0_minutesOf [vR 0, vI a, vI b] σ Q := by
  refine conI.of (ls0 := [vR 0, vI a, vI b]) rfl rfl (Nat.le_of_ble_eq_true rfl) (fun Ret R hret hM => g_X0_minutesOf_0 hM a b σ ?_)
  have za := bgX_r hB h ha
  have zb := bgX_r hB h hb
  exact c_ending h hb (c_beginning h ha ⟨⟨by omega, by omega⟩, hret _ _ K⟩)
theorem c_brokenByOne (hB : XB σ) (h : SX σ N) {a b : Nat} (ha : a < N) (hb : b < N) (K : Q (lw1 (bgX σ) (enX σ) (σ.1 0 0) (σ.1 0 1) a b) σ) : conI G wdX (d + 2) mX0_brokenByOne [vR 0, vI a, vI b] σ Q := by
  refine conI.of (ls0 := [vR 0, vI a, vI b, vN]) rfl rfl (Nat.le_of_ble_eq_true rfl) (fun Ret R hret hM => g_X0_brokenByOne_0 hM a b σ ?_)
  unfold lw1 at K
  refine c_minutes (d := d) hB h ha hb ⟨fun q => ⟨fun q' => ?_, fun q' => ?_⟩, fun q => ?_⟩
  · rw [if_pos q, if_pos q'] at K; exact hret _ _ K
  · rw [if_pos q, if_neg q'] at K; exact hret _ _ K
  · rw [if_neg q] at K; exact hret _ _ K
theorem c_canChange (hB : XB σ) (h : SX σ N) {l k : Nat} (hl : l < N) (hk : k < N) (K1 : chg (bgX σ) (enX σ) (gwX σ) (σ.1 0 2) l k → Q 1 σ) (K0 : ¬ chg (bgX σ) (enX σ) (gwX σ) (σ.1 0 2) l k → Q 0 σ) : conI G wdX (d + 2) mX0_canChange [vR 0, vI l, vI k] σ Q := by
  refine conI.of (ls0 := [vR 0, vI l, vI k, vN, vN]) rfl rfl (Nat.le_of_ble_eq_true rfl) (fun Ret R hret hM => g_X0_canChange_0 hM l k σ ?_)
  have hN := h.2.1
  have zl := h.2.2.1 l hl
  have zk := h.2.2.1 k hk
  have rl' := bgX_r hB h hl
  have rk := bgX_r hB h hk
  refine conI.of (ls0 := [vR 6, vI l]) rfl rfl (Nat.le_of_ble_eq_true rfl) (fun Ret' R' hret' hM' => g_X6_placeAtEnd_0 hM' l σ ?_)
  rw [Int.toNat_natCast]
  refine ⟨⟨by omega, by omega⟩, zl.2.1, hret' _ _ ?_⟩
  refine conI.of (ls0 := [vR 6, vI k]) rfl rfl (Nat.le_of_ble_eq_true rfl) (fun Ret' R' hret' hM' => g_X6_placeAtBeginning_0 hM' k σ ?_)
  rw [Int.toNat_natCast]
  refine ⟨⟨by omega, by omega⟩, zk.1, hret' _ _ ?_⟩
  refine c_X8_minutesOf (d := d) _ _ (hB.2.1 _ (by omega)).2.1 (hB.2.1 _ (by omega)).1 ?_
  refine c_beginning h hk (c_ending h hl ⟨⟨by omega, by omega⟩, fun q => hret _ _ (K0 (fun z => z.1 q)), fun q => ⟨fun q' => hret _ _ (K0 (fun z => ?_)), fun q' => ⟨fun q2 => hret _ _ (K0 (fun z => ?_)), fun q2 => hret _ _ (K1 ⟨q, ?_, ?_⟩)⟩⟩⟩)
  · have y : σ.1 38 (σ.1 35 (σ.1 31 l).toNat * 12 + σ.1 34 (σ.1 30 k).toNat).toNat ≤ bgX σ k - enX σ l := z.2.1
    omega
  · have := z.2.2
    omega
  · show σ.1 38 _ ≤ _
    omega
  · omega
theorem c_brokenByTwo (hB : XB σ) (h : SX σ N) {a b c e : Nat} (ha : a < N) (hb : b < N) (hc : c < N) (he : e < N) (K : Q (lw2 (bgX σ) (enX σ) (gwX σ) (σ.1 0 0) (σ.1 0 1) (σ.1 0 2) (σ.1 0 3) a b c e) σ) : conI G wdX (d + 3) mX0_brokenByTwo [vR 0, vI a, vI b, vI c, vI e] σ Q := by
  refine conI.of (ls0 := [vR 0, vI a, vI b, vI c, vI e, vN, vN, vN, vN, vN]) rfl rfl (Nat.le_of_ble_eq_true rfl) (fun Ret R hret hM => g_X0_brokenByTwo_0 hM a b c e σ ?_)
  have ra := bgX_r hB h ha
  have rb := bgX_r hB h hb
  have rc := bgX_r hB h hc
  have re := bgX_r hB h he
  unfold lw2 at K
  refine ⟨fun q => c_beginning h ha (c_beginning h hc ⟨fun q1 => ?_, fun q1 => ?_⟩), fun q => by rw [if_pos q] at K; exact hret _ _ K⟩
  · rw [if_neg q, if_pos q1] at K
    refine g_X0_brokenByTwo_33 hM a b c e 0 σ ⟨fun _ => ⟨fun _ => ?_, fun z => absurd rfl z⟩, fun z => absurd rfl z⟩
    refine g_X0_brokenByTwo_58 hM a b c e 0 c e σ ⟨fun _ => ⟨fun _ => ?_, fun z => absurd rfl z⟩, fun z => absurd rfl z⟩
    refine g_X0_brokenByTwo_83 hM a b c e c e a b σ ?_
    refine c_canChange (d := d) hB h he ha (fun q2 => ⟨fun _ => ?_, fun z => by omega⟩) (fun q2 => ⟨fun z => absurd rfl z, fun _ => ?_⟩)
    · rw [if_pos (cB_iff.mpr q2)] at K
      refine c_ending h hb (c_beginning h hc ⟨⟨by omega, by omega⟩, fun q3 => ?_, fun q3 => ?_⟩)
      · rw [if_pos q3] at K
        refine c_minutes (d := d + 1) hB h ha hb (c_minutes (d := d + 1) hB h hc he ⟨⟨by omega, by omega⟩, fun q4 => ?_, fun q4 => ?_⟩)
        · rw [if_pos q4] at K; exact hret _ _ K
        · rw [if_neg q4] at K; exact hret _ _ K
      · rw [if_neg q3] at K; exact hret _ _ K
    · rw [if_neg (fun z => q2 (cB_iff.mp z))] at K; exact hret _ _ K
  · rw [if_neg q, if_neg q1] at K
    refine g_X0_brokenByTwo_33 hM a b c e 1 σ ⟨fun z => by omega, fun _ => ⟨fun z => by omega, fun _ => ?_⟩⟩
    refine g_X0_brokenByTwo_58 hM a b c e 1 a b σ ⟨fun z => by omega, fun _ => ⟨fun z => by omega, fun _ => ?_⟩⟩
    refine g_X0_brokenByTwo_83 hM a b c e a b c e σ ?_
    refine c_canChange (d := d) hB h hb hc (fun q2 => ⟨fun _ => ?_, fun z => by omega⟩) (fun q2 => ⟨fun z => absurd rfl z, fun _ => ?_⟩)
    · rw [if_pos (cB_iff.mpr q2)] at K
      refine c_ending h he (c_beginning h ha ⟨⟨by omega, by omega⟩, fun q3 => ?_, fun q3 => ?_⟩)
      · rw [if_pos q3] at K
        refine c_minutes (d := d + 1) hB h ha hb (c_minutes (d := d + 1) hB h hc he ⟨⟨by omega, by omega⟩, fun q4 => ?_, fun q4 => ?_⟩)
        · rw [if_pos q4] at K; exact hret _ _ K
        · rw [if_neg q4] at K; exact hret _ _ K
      · rw [if_neg q3] at K; exact hret _ _ K
    · rw [if_neg (fun z => q2 (cB_iff.mp z))] at K; exact hret _ _ K
/-- SEGMENTS from a to b are a PIECE -/
def pce (N : Nat) (sb : Nat → Int) (a b : Int) : Prop := 0 ≤ a ∧ a ≤ b ∧ b < N ∧ sb a.toNat = sb b.toNat
theorem c_X6_isPiece (h : SX σ N) (a b : Int) (K1 : pce N (σ.1 29) a b → Q 1 σ) (K0 : ¬ pce N (σ.1 29) a b → Q 0 σ) : conI G wdX (d + 1) mX6_isPiece [vR 6, vI a, vI b] σ Q := by
  refine conI.of (ls0 := [vR 6, vI a, vI b]) rfl rfl (Nat.le_of_ble_eq_true rfl) (fun Ret R hret hM => g_X6_isPiece_0 hM a b σ ?_)
  have h6 := h.1
  have hN := h.2.1
  refine c_X6_holds (d := d) a (fun q => ⟨fun z => by omega, fun _ => c_X6_holds (d := d) b (fun q' => ⟨fun z => by omega, fun _ => ⟨fun z => hret _ _ (K0 (fun y => by have := y.2.1; omega)), fun z => ⟨⟨by omega, by omega⟩, ⟨by omega, by omega⟩, fun w => hret _ _ (K0 (fun y => w y.2.2.2)), fun w => hret _ _ (K1 ⟨by omega, by omega, by omega, w⟩)⟩⟩⟩) (fun q' => ⟨fun _ => hret _ _ (K0 (fun y => q' ⟨by have := y.1; have := y.2.1; omega, by have := y.2.2.1; omega⟩)), fun z => absurd rfl z⟩)⟩) (fun q => ⟨fun _ => hret _ _ (K0 (fun y => q ⟨y.1, by have := y.2.1; have := y.2.2.1; omega⟩)), fun z => absurd rfl z⟩)
end LawX
