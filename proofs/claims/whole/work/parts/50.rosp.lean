/-! ===== THE ROSTER, as numbers ===== -/
/-- a DUTY: first and last SEGMENT of its first PIECE, of its second one (-1: none) -/
abbrev DT : Type := Int × Int × Int × Int
def inD (δ : DT) (i : Nat) : Bool := decide ((δ.1 ≤ (i : Int) ∧ (i : Int) ≤ δ.2.1) ∨ (δ.2.2.1 ≤ (i : Int) ∧ (i : Int) ≤ δ.2.2.2))
def keyD (δ : DT) : Int := 400 * δ.2.1 + 20 * (δ.2.2.1 + 1) + (δ.2.2.2 + 1)
def rgD (N : Nat) (δ : DT) : Prop := 0 ≤ δ.1 ∧ δ.1 ≤ δ.2.1 ∧ δ.2.1 < N ∧ ((δ.2.2.1 = -1 ∧ δ.2.2.2 = -1) ∨ (δ.2.1 < δ.2.2.1 ∧ δ.2.2.1 ≤ δ.2.2.2 ∧ δ.2.2.2 < N))
def subD (p : Nat → Bool) (δ : DT) : Nat → Bool := fun i => p i && !inD δ i
def fitP (p : Nat → Bool) (δ : DT) : Prop := (∀ i : Nat, inD δ i = true → p i = true) ∧ ∀ j : Nat, (j : Int) < δ.1 → p j = false
def Pt (L : DT → Prop) : Nat → (Nat → Bool) → Prop
  | 0, p => ∀ i, p i = false
  | k + 1, p => ∃ δ, L δ ∧ fitP p δ ∧ Pt L k (subD p δ)
def LeK (L : DT → Prop) (p : Nat → Bool) (k : Nat) : Prop := Pt L k p ∧ ∀ j, j < k → ¬ Pt L j p
def Rst (L : DT → Prop) : Nat → (Nat → Bool) → (Nat → DT) → Prop
  | 0, _, _ => True
  | k + 1, p, q => (L (q 0) ∧ fitP p (q 0) ∧ Pt L k (subD p (q 0)) ∧ ∀ δ, L δ → fitP p δ → Pt L k (subD p δ) → keyD (q 0) ≤ keyD δ) ∧ Rst L k (subD p (q 0)) (fun i => q (i + 1))
theorem inD_iff {δ : DT} {i : Nat} : inD δ i = true ↔ ((δ.1 ≤ (i : Int) ∧ (i : Int) ≤ δ.2.1) ∨ (δ.2.2.1 ≤ (i : Int) ∧ (i : Int) ≤ δ.2.2.2)) := decide_eq_true_iff
theorem inD_1 {N : Nat} {δ : DT} (h : rgD N δ) : inD δ δ.1.toNat = true := by
  obtain ⟨h1, h2, h3, h4⟩ := h
  exact inD_iff.mpr (Or.inl ⟨by omega, by omega⟩)
theorem fit_1 {N : Nat} {p : Nat → Bool} {δ δ' : DT} (h : rgD N δ) (h' : rgD N δ') (f : fitP p δ) (f' : fitP p δ') : δ.1 = δ'.1 := by
  have a := f.1 _ (inD_1 h)
  have b := f'.1 _ (inD_1 h')
  have h1 := h.1
  have h1' := h'.1
  by_cases q : δ.1 < δ'.1
  · have := f'.2 δ.1.toNat (by omega)
    rw [this] at a; cases a
  · by_cases q' : δ'.1 < δ.1
    · have := f.2 δ'.1.toNat (by omega)
      rw [this] at b; cases b
    · omega
theorem key_inj {N : Nat} (hN : N ≤ 12) {δ δ' : DT} (h : rgD N δ) (h' : rgD N δ') (e1 : δ.1 = δ'.1) (e : keyD δ = keyD δ') : δ = δ' := by
  obtain ⟨a, b, c, k⟩ := δ
  obtain ⟨a', b', c', k'⟩ := δ'
  unfold rgD at h h'
  unfold keyD at e
  dsimp only at *
  have q1 : b = b' := by omega
  have q2 : c = c' := by omega
  have q3 : k = k' := by omega
  rw [e1, q1, q2, q3]
theorem key_rng {N : Nat} (hN : N ≤ 12) {δ : DT} (h : rgD N δ) : 0 ≤ keyD δ ∧ keyD δ < 400 * N := by
  unfold rgD at h
  unfold keyD
  omega
section RosP
variable {N : Nat} {L : DT → Prop}
theorem Rst.one (hN : N ≤ 12) (hL : ∀ δ, L δ → rgD N δ) : ∀ {k : Nat} {p : Nat → Bool} {q q' : Nat → DT}, Rst L k p q → Rst L k p q' → ∀ i, i < k → q i = q' i := by
  intro k
  induction k with
  | zero => intro p q q' _ _ i hi; omega
  | succ k ih =>
    intro p q q' h h' i hi
    obtain ⟨⟨a1, a2, a3, a4⟩, a5⟩ := h
    obtain ⟨⟨b1, b2, b3, b4⟩, b5⟩ := h'
    have e : q 0 = q' 0 := key_inj hN (hL _ a1) (hL _ b1) (fit_1 (hL _ a1) (hL _ b1) a2 b2) (Int.le_antisymm (a4 _ b1 b2 b3) (b4 _ a1 a2 a3))
    cases i with
    | zero => exact e
    | succ i =>
      rw [← e] at b5
      exact ih a5 b5 i (by omega)
theorem Rst.congr {k : Nat} : ∀ {p : Nat → Bool} {q q' : Nat → DT}, Rst L k p q → (∀ i, i < k → q' i = q i) → Rst L k p q' := by
  induction k with
  | zero => intro p q q' h _; trivial
  | succ k ih =>
    intro p q q' h e
    have e0 := e 0 (by omega)
    refine ⟨?_, ?_⟩
    · rw [e0]; exact h.1
    · rw [e0]; exact ih h.2 (fun i hi => e (i + 1) (by omega))
theorem LeK.one {p : Nat → Bool} {j k : Nat} (h : LeK L p j) (h' : LeK L p k) : j = k := by
  by_cases q : j < k
  · exact absurd h.1 (h'.2 j q)
  · by_cases q' : k < j
    · exact absurd h'.1 (h.2 k q')
    · omega
theorem LeK.dn {p : Nat → Bool} {k j : Nat} {δ : DT} (h : LeK L p (k + 1)) (hl : L δ) (hf : fitP p δ) (hj : Pt L j (subD p δ)) (hk : j ≤ k) : j = k ∧ LeK L (subD p δ) k := by
  have e : j = k := by
    by_cases q : j = k
    · exact q
    · exact absurd ⟨δ, hl, hf, hj⟩ (h.2 (j + 1) (by omega))
  rw [e] at hj
  exact ⟨e, hj, fun i hi z => h.2 (i + 1) (by omega) ⟨δ, hl, hf, z⟩⟩
theorem LeK.some {p : Nat → Bool} {k : Nat} (h : Pt L k p) : ∃ j, j ≤ k ∧ LeK L p j := by
  induction k using Nat.strongRecOn with
  | _ k ih =>
    by_cases q : ∃ j, j < k ∧ Pt L j p
    · obtain ⟨j, q1, q2⟩ := q
      obtain ⟨i, r1, r2⟩ := ih j q1 q2
      exact ⟨i, by omega, r2⟩
    · exact ⟨k, Nat.le_refl _, h, fun j hj z => q ⟨j, hj, z⟩⟩
theorem ct_less {p q : Nat → Bool} {n i : Nat} (hi : i < n) (h : ∀ k, k < n → q k = true → p k = true) (hp : p i = true) (hq : q i = false) : fb_ct q n < fb_ct p n := by
  have a := fb_ct_upd q true hi
  have b : fb_ct (fun k => if k = i then true else q k) n ≤ fb_ct p n := fb_ct_sub (fun k hk z => by
    by_cases e : k = i
    · rw [e]; exact hp
    · rw [if_neg e] at z; exact h k hk z)
  rw [hq, if_neg (by decide), if_pos rfl] at a
  omega
theorem Pt.le (hL : ∀ δ, L δ → rgD N δ) : ∀ {k : Nat} {p : Nat → Bool}, Pt L k p → k ≤ fb_ct p N := by
  intro k
  induction k with
  | zero => intro p _; omega
  | succ k ih =>
    intro p h
    obtain ⟨δ, a1, a2, a3⟩ := h
    have r := hL _ a1
    have b := ih a3
    have c := inD_1 r
    have lt : fb_ct (subD p δ) N < fb_ct p N := ct_less (i := δ.1.toNat) (by unfold rgD at r; omega) (fun i _ z => by
      unfold subD at z
      rw [Bool.and_eq_true] at z
      exact z.1) (a2.1 _ c) (by unfold subD; rw [c]; simp)
    omega
/-- heads of stretches -/
def strD (hd p : Nat → Bool) (i : Nat) : Bool := p i && !(decide (1 ≤ i) && p (i - 1) && !hd i)
theorem ct_or_le (p q : Nat → Bool) : ∀ n, fb_ct (fun k => p k || q k) n ≤ fb_ct p n + fb_ct q n
  | 0 => Nat.le_refl _
  | n + 1 => by
    have ih := ct_or_le p q n
    rw [fb_ct_succ, fb_ct_succ, fb_ct_succ]
    cases p n <;> cases q n <;> simp <;> omega
theorem Pt.str {hd : Nat → Bool} {c : Nat} (hA : ∀ δ, L δ → ∃ A : Nat → Bool, fb_ct A 16 ≤ c ∧ ∀ i, i < 16 → inD δ i = true → A i = true ∨ (1 ≤ i ∧ inD δ (i - 1) = true ∧ hd i = false)) : ∀ {k : Nat} {p : Nat → Bool}, Pt L k p → fb_ct (strD hd p) 16 ≤ c * k := by
  intro k
  induction k with
  | zero =>
    intro p h
    have : fb_ct (strD hd p) 16 = 0 := fb_ct_zero.mpr (fun i _ => by unfold strD; rw [h i]; rfl)
    omega
  | succ k ih =>
    intro p h
    obtain ⟨δ, a1, a2, a3⟩ := h
    obtain ⟨A, b1, b2⟩ := hA δ a1
    have b := ih a3
    have le : fb_ct (strD hd p) 16 ≤ fb_ct (fun i => A i || strD hd (subD p δ) i) 16 := fb_ct_sub (fun i hi z => by
      unfold strD at z
      rw [Bool.and_eq_true, Bool.not_eq_true'] at z
      rw [Bool.or_eq_true]
      cases q : inD δ i with
      | true =>
        rcases b2 i hi q with y | y
        · exact Or.inl y
        · have w := a2.1 _ y.2.1
          rw [w, y.2.2, decide_eq_true y.1] at z
          exact absurd z.2 (by decide)
      | false =>
        right
        unfold strD subD
        rw [z.1, q]
        have z2 := z.2
        cases q1 : p (i - 1) with
        | false => simp
        | true =>
          rw [q1] at z2
          cases q2 : hd i with
          | true => simp
          | false =>
            rw [q2] at z2
            simp at z2
            simp [z2])
    have := ct_or_le A (strD hd (subD p δ)) 16
    rw [Nat.mul_succ]
    omega
theorem ct_one (a : Nat) : ∀ n, fb_ct (fun i => decide (i = a)) n ≤ 1
  | 0 => Nat.zero_le _
  | n + 1 => by
    have ih := ct_one a n
    rw [fb_ct_succ]
    by_cases e : n = a
    · have : fb_ct (fun i => decide (i = a)) n = 0 := fb_ct_zero.mpr (fun k hk => decide_eq_false (by omega))
      rw [this, decide_eq_true e]
      decide
    · rw [decide_eq_false e]
      simpa using ih
end RosP
/-! ===== DUTIES by tables and laws ===== -/
def posD (N : Nat) (sb : Nat → Int) (δ : DT) : Prop := pce N sb δ.1 δ.2.1 ∧ ((δ.2.2.1 = -1 ∧ δ.2.2.2 = -1) ∨ (δ.2.1 < δ.2.2.1 ∧ pce N sb δ.2.2.1 δ.2.2.2))
def lawD (l1 : Nat → Nat → Int) (l2 : Nat → Nat → Nat → Nat → Int) (δ : DT) : Prop := (δ.2.2.1 = -1 → l1 δ.1.toNat δ.2.1.toNat = 0) ∧ (¬ δ.2.2.1 = -1 → l2 δ.1.toNat δ.2.1.toNat δ.2.2.1.toNat δ.2.2.2.toNat = 0)
def LDt (N : Nat) (sb : Nat → Int) (l1 : Nat → Nat → Int) (l2 : Nat → Nat → Nat → Nat → Int) (δ : DT) : Prop := posD N sb δ ∧ lawD l1 l2 δ
theorem posD.rg {N : Nat} {sb : Nat → Int} {δ : DT} (h : posD N sb δ) : rgD N δ := by
  obtain ⟨⟨a1, a2, a3, _⟩, h2⟩ := h
  refine ⟨a1, a2, a3, ?_⟩
  rcases h2 with q | ⟨q1, q2, q3, q4, _⟩
  · exact Or.inl q
  · exact Or.inr ⟨q1, q3, q4⟩
section Tab
variable {N : Nat} {sb sf sl bg en : Nat → Int} {W : Nat → Nat → Int} {sp wk ps tw : Int}
abbrev BGf (sf bg : Nat → Int) : Nat → Int := fun s => bg (sf s).toNat
theorem pce.sub (hS : SG N sb sf sl bg en) {a b i j : Int} (h : pce N sb a b) (h1 : a ≤ i) (h2 : i ≤ j) (h3 : j ≤ b) : pce N sb i j := by
  obtain ⟨a1, a2, a3, a4⟩ := h
  refine ⟨by omega, h2, by omega, ?_⟩
  have q1 := (hS.2.2 a.toNat i.toNat (by omega) (by omega)).1
  have q2 := (hS.2.2 i.toNat j.toNat (by omega) (by omega)).1
  have q3 := (hS.2.2 j.toNat b.toNat (by omega) (by omega)).1
  omega
theorem pce.le (hS : SG N sb sf sl bg en) {a b i j : Int} (h : pce N sb a b) (h1 : a ≤ i) (h2 : i ≤ j) (h3 : j ≤ b) : BGf sf bg a.toNat ≤ BGf sf bg i.toNat ∧ BGf sl en j.toNat ≤ BGf sl en b.toNat ∧ BGf sf bg i.toNat < BGf sl en j.toNat := by
  have c1 := h.sub hS (Int.le_refl a) h1 (by omega)
  have c2 := h.sub hS (i := j) (j := b) (by omega) h3 (Int.le_refl b)
  have c3 := h.sub hS h1 h2 h3
  obtain ⟨a1, a2, a3, a4⟩ := h
  have q1 := ((hS.2.2 a.toNat i.toNat (by omega) (by omega)).2 c1.2.2.2).1
  have q2 := ((hS.2.2 j.toNat b.toNat (by omega) (by omega)).2 c2.2.2.2).2
  have q3 := ((hS.2.2 i.toNat j.toNat (by omega) (by omega)).2 c3.2.2.2).1
  have q4 := (hS.2.1 j.toNat (by omega)).2.2
  exact ⟨q1, q2, Int.lt_of_le_of_lt q3 q4⟩
abbrev L1f (sf sl bg en : Nat → Int) (sp wk : Int) : Nat → Nat → Int := lw1 (BGf sf bg) (BGf sl en) sp wk
noncomputable abbrev L2f (sf sl bg en : Nat → Int) (W : Nat → Nat → Int) (sp wk ps tw : Int) : Nat → Nat → Nat → Nat → Int := lw2 (BGf sf bg) (BGf sl en) W sp wk ps tw
theorem lw1_0 {BG EN : Nat → Int} {a b : Nat} : lw1 BG EN sp wk a b = 0 ↔ EN b - BG a ≤ sp ∧ EN b - BG a ≤ wk := by
  unfold lw1
  constructor
  · intro h
    by_cases q : EN b - BG a ≤ sp
    · rw [if_pos q] at h
      by_cases q' : EN b - BG a ≤ wk
      · exact ⟨q, q'⟩
      · rw [if_neg q'] at h; cases h
    · rw [if_neg q] at h; cases h
  · rintro ⟨q, q'⟩
    rw [if_pos q, if_pos q']
theorem lw2_0 {BG EN : Nat → Int} {a b c k : Nat} (h : lw2 BG EN W sp wk ps tw a b c k = 0) (hW1 : -1 ≤ W k a) (hW2 : -1 ≤ W b c) (h1 : BG a < EN b) (h2 : BG c < EN k) : ¬ tw = 0 ∧ (EN b - BG a ≤ sp ∧ EN b - BG a ≤ wk) ∧ (EN k - BG c ≤ sp ∧ EN k - BG c ≤ wk) := by
  unfold lw2 at h
  by_cases q0 : tw = 0
  · rw [if_pos q0] at h; cases h
  refine ⟨q0, ?_⟩
  rw [if_neg q0] at h
  by_cases q1 : BG c < BG a
  · rw [if_pos q1] at h
    by_cases q2 : cB (chg BG EN W ps k a) = true
    · rw [if_pos q2] at h
      have q2' := cB_iff.mp q2
      have w := hW1
      have w1 := q2'.1
      have w2 := q2'.2.1
      by_cases q3 : EN b - BG c ≤ sp
      · rw [if_pos q3] at h
        by_cases q4 : (EN b - BG a) + (EN k - BG c) ≤ wk
        · omega
        · rw [if_neg q4] at h; cases h
      · rw [if_neg q3] at h; cases h
    · rw [if_neg q2] at h; cases h
  · rw [if_neg q1] at h
    by_cases q2 : cB (chg BG EN W ps b c) = true
    · rw [if_pos q2] at h
      have q2' := cB_iff.mp q2
      have w := hW2
      have w1 := q2'.1
      have w2 := q2'.2.1
      by_cases q3 : EN k - BG a ≤ sp
      · rw [if_pos q3] at h
        by_cases q4 : (EN b - BG a) + (EN k - BG c) ≤ wk
        · omega
        · rw [if_neg q4] at h; cases h
      · rw [if_neg q3] at h; cases h
    · rw [if_neg q2] at h; cases h
/-- what a lawful DUTY holds is lawful alone -/
theorem LDt.parts (hS : SG N sb sf sl bg en) (hW : ∀ i j, i < N → j < N → -1 ≤ W i j) {δ : DT} (h : LDt N sb (L1f sf sl bg en sp wk) (L2f sf sl bg en W sp wk ps tw) δ) :
    L1f sf sl bg en sp wk δ.1.toNat δ.2.1.toNat = 0 ∧ (¬ δ.2.2.1 = -1 → ¬ tw = 0 ∧ L1f sf sl bg en sp wk δ.2.2.1.toNat δ.2.2.2.toNat = 0) := by
  obtain ⟨⟨h1, h2⟩, h3, h4⟩ := h
  by_cases q : δ.2.2.1 = -1
  · exact ⟨h3 q, fun z => absurd q z⟩
  · have y := h4 q
    have c := (h1.le hS (Int.le_refl _) h1.2.1 (Int.le_refl _)).2.2
    rcases h2 with z | z
    · exact absurd z.1 q
    · have c2 := (z.2.le hS (Int.le_refl _) z.2.2.1 (Int.le_refl _)).2.2
      have r1 := h1.1
      have r2 := h1.2.1
      have r3 := h1.2.2.1
      have r4 := z.2.1
      have r5 := z.2.2.1
      have r6 := z.2.2.2.1
      have w := lw2_0 y (hW _ _ (by omega) (by omega)) (hW _ _ (by omega) (by omega)) c c2
      exact ⟨lw1_0.mpr w.2.1, fun _ => ⟨w.1, lw1_0.mpr w.2.2⟩⟩
theorem LDt.first (hS : SG N sb sf sl bg en) (hW : ∀ i j, i < N → j < N → -1 ≤ W i j) {δ : DT} (h : LDt N sb (L1f sf sl bg en sp wk) (L2f sf sl bg en W sp wk ps tw) δ) {e : Int} (h1 : δ.1 ≤ e) (h2 : e ≤ δ.2.1) : LDt N sb (L1f sf sl bg en sp wk) (L2f sf sl bg en W sp wk ps tw) (δ.1, e, -1, -1) := by
  have p := (h.parts hS hW).1
  have c := h.1.1.sub hS (Int.le_refl _) h1 h2
  have l := h.1.1.le hS (Int.le_refl _) h1 h2
  refine ⟨⟨c, Or.inl ⟨rfl, rfl⟩⟩, fun _ => ?_, fun z => absurd rfl z⟩
  show L1f sf sl bg en sp wk δ.1.toNat e.toNat = 0
  have w := lw1_0.mp p
  exact lw1_0.mpr ⟨by omega, by omega⟩
theorem LDt.alone (hS : SG N sb sf sl bg en) (hW : ∀ i j, i < N → j < N → -1 ≤ W i j) {δ : DT} (h : LDt N sb (L1f sf sl bg en sp wk) (L2f sf sl bg en W sp wk ps tw) δ) {i : Nat} (hi : inD δ i = true) : LDt N sb (L1f sf sl bg en sp wk) (L2f sf sl bg en W sp wk ps tw) (i, i, -1, -1) := by
  have rg := h.1.rg
  obtain ⟨pp, pq⟩ := h.parts hS hW
  have one : ∀ a b : Int, pce N sb a b → a ≤ i → (i : Int) ≤ b → L1f sf sl bg en sp wk a.toNat b.toNat = 0 → LDt N sb (L1f sf sl bg en sp wk) (L2f sf sl bg en W sp wk ps tw) (i, i, -1, -1) := fun a b hp h1 h2 hl => by
    have l := hp.le hS h1 (Int.le_refl _) h2
    refine ⟨⟨hp.sub hS h1 (Int.le_refl _) h2, Or.inl ⟨rfl, rfl⟩⟩, fun _ => ?_, fun z => absurd rfl z⟩
    show L1f sf sl bg en sp wk ((i : Nat) : Int).toNat ((i : Nat) : Int).toNat = 0
    have w := lw1_0.mp hl
    exact lw1_0.mpr ⟨by omega, by omega⟩
  rcases inD_iff.mp hi with q | q
  · exact one _ _ h.1.1 q.1 q.2 pp
  · rcases h.1.2 with z | z
    · omega
    · have z1 := z.2.1
      exact one _ _ z.2 q.1 q.2 (pq (by omega)).2
theorem LDt.cov (hS : SG N sb sf sl bg en) {hd : Nat → Bool} (hh : ∀ i, i < N → (hd i = true ↔ ¬ pce N sb ((i : Int) - 1) i)) {δ : DT} (h : LDt N sb (L1f sf sl bg en sp wk) (L2f sf sl bg en W sp wk ps tw) δ) {i : Nat} (hi : inD δ i = true) :
    (i : Int) = δ.1 ∨ ((i : Int) = δ.2.2.1 ∧ ¬ δ.2.2.1 = -1) ∨ (1 ≤ i ∧ inD δ (i - 1) = true ∧ hd i = false) := by
  have one : ∀ a b : Int, pce N sb a b → a < i → (i : Int) ≤ b → 1 ≤ i ∧ hd i = false := fun a b hp h1 h2 => by
    have p0 := hp.1
    have p3 := hp.2.2.1
    have s := hp.sub hS (i := (i : Int) - 1) (j := i) (by omega) (by omega) h2
    refine ⟨by omega, ?_⟩
    cases e : hd i with
    | false => rfl
    | true => exact absurd s ((hh i (by omega)).mp e)
  rcases inD_iff.mp hi with q | q
  · by_cases e : (i : Int) = δ.1
    · exact Or.inl e
    · have w := one _ _ h.1.1 (by omega) q.2
      exact Or.inr (Or.inr ⟨w.1, inD_iff.mpr (Or.inl ⟨by omega, by omega⟩), w.2⟩)
  · rcases h.1.2 with z | z
    · omega
    · by_cases e : (i : Int) = δ.2.2.1
      · have z1 := z.2.1
        exact Or.inr (Or.inl ⟨e, by omega⟩)
      · have w := one _ _ z.2 (by omega) q.2
        exact Or.inr (Or.inr ⟨w.1, inD_iff.mpr (Or.inr ⟨by omega, by omega⟩), w.2⟩)
/-- too many stretches -/
theorem Pt.hopeless (hS : SG N sb sf sl bg en) (hW : ∀ i j, i < N → j < N → -1 ≤ W i j) {hd : Nat → Bool} (hh : ∀ i, i < N → (hd i = true ↔ ¬ pce N sb ((i : Int) - 1) i)) {k : Nat} {p : Nat → Bool} (h : Pt (LDt N sb (L1f sf sl bg en sp wk) (L2f sf sl bg en W sp wk ps tw)) k p) :
    fb_ct (strD hd p) 16 ≤ 2 * k ∧ (tw = 0 → fb_ct (strD hd p) 16 ≤ k) := by
  constructor
  · refine Pt.str (fun δ hδ => ⟨fun i => decide (i = δ.1.toNat) || decide (i = δ.2.2.1.toNat), ?_, fun i _ hi => ?_⟩) h
    · have a := ct_or_le (fun i => decide (i = δ.1.toNat)) (fun i => decide (i = δ.2.2.1.toNat)) 16
      have b := ct_one δ.1.toNat 16
      have c := ct_one δ.2.2.1.toNat 16
      omega
    · rcases hδ.cov hS hh hi with q | q | q
      · left; rw [Bool.or_eq_true, decide_eq_true_eq, decide_eq_true_eq]; left; omega
      · left; rw [Bool.or_eq_true, decide_eq_true_eq, decide_eq_true_eq]; right; omega
      · exact Or.inr q
  · intro ht
    have z := Pt.str (hd := hd) (c := 1) (fun δ hδ => ⟨fun i => decide (i = δ.1.toNat), ct_one _ _, fun i _ hi => ?_⟩) h
    · omega
    · rcases hδ.cov hS hh hi with q | q | q
      · left; rw [decide_eq_true_eq]; omega
      · exact absurd ht ((hδ.parts hS hW).2 q.2).1
      · exact Or.inr q
end Tab
