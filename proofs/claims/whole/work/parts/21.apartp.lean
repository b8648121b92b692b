/-! ===== the most that are apart: the numbers of it ===== -/
theorem ct_lt {p : Nat → Bool} {i n : Nat} (hi : i < n) (hp : p i = true) : fb_ct p i < fb_ct p n := by
  have h1 := fb_ct_succ p i
  rw [if_pos hp] at h1
  have h2 := fb_ct_mono p (m := i + 1) (n := n) (by omega)
  omega
/-- as many at least as what goes into them one by one -/
theorem ct_inj {p q : Nat → Bool} {n : Nat} (f : Nat → Nat) (h1 : ∀ i, i < n → p i = true → f i < n ∧ q (f i) = true) (h2 : ∀ i j, i < n → j < n → p i = true → p j = true → f i = f j → i = j) : fb_ct p n ≤ fb_ct q n := by
  have hx : ∀ k, ∃ i, k < fb_ct p n → (i < n ∧ p i = true ∧ fb_ct p i = k) := by
    intro k
    by_cases h : k < fb_ct p n
    · obtain ⟨i, a, b, c⟩ := fb_ct_kth h
      exact ⟨i, fun _ => ⟨a, b, c⟩⟩
    · exact ⟨0, fun q => absurd q h⟩
  let g : Nat → Nat := fun k => Classical.choose (hx k)
  have hg : ∀ k, k < fb_ct p n → (g k < n ∧ p (g k) = true ∧ fb_ct p (g k) = k) := fun k => Classical.choose_spec (hx k)
  refine fb_holes (fb_ct q n) (fb_ct p n) (fun k => fb_ct q (f (g k))) (fun k hk => ?_) (fun a b hab hb e => ?_)
  · have h := hg k hk
    have h' := h1 _ h.1 h.2.1
    exact ct_lt h'.1 h'.2
  · have ha := hg a (by omega)
    have hb' := hg b hb
    have e1 := h1 _ ha.1 ha.2.1
    have e2 := h1 _ hb'.1 hb'.2.1
    have e3 := fb_ct_kth_one e1.2 e2.2 e
    have e4 := h2 _ _ ha.1 hb'.1 ha.2.1 hb'.2.1 e3
    have := ha.2.2
    have := hb'.2.2
    rw [e4] at ha
    omega
theorem ct_split (p q : Nat → Bool) (n : Nat) : fb_ct p n = fb_ct (fun k => p k && q k) n + fb_ct (fun k => p k && !q k) n := by
  rw [← fb_ct_or (fun k _ => by cases p k <;> cases q k <;> simp)]
  exact fb_ct_cong (fun k _ => by cases p k <;> cases q k <;> rfl)
def sub16 (S L : Nat → Bool) : Prop := ∀ i, i < 16 → S i = true → L i = true
def ind16 (ad : Nat → Nat → Bool) (S : Nat → Bool) : Prop := ∀ i j, i < 16 → j < 16 → S i = true → S j = true → ad i j = false
/-- N is the most of L of which no two are near -/
def AL (ad : Nat → Nat → Bool) (L : Nat → Bool) (N : Nat) : Prop := (∃ S, sub16 S L ∧ ind16 ad S ∧ fb_ct S 16 = N) ∧ ∀ S, sub16 S L → ind16 ad S → fb_ct S 16 ≤ N
theorem AL.one {ad : Nat → Nat → Bool} {L : Nat → Bool} {N M : Nat} (h : AL ad L N) (h' : AL ad L M) : N = M := by
  obtain ⟨⟨S, a, b, c⟩, u⟩ := h
  obtain ⟨⟨S', a', b', c'⟩, u'⟩ := h'
  have := u S' a' b'
  have := u' S a b
  omega
theorem AL.branch {ad : Nat → Nat → Bool} (hs : ∀ i j, i < 16 → j < 16 → ad i j = ad j i) (hi : ∀ i, i < 16 → ad i i = false) {L L1 L2 : Nat → Bool} {p a b : Nat} (hp : p < 16) (hL : L p = true) (e1 : ∀ i, i < 16 → L1 i = (L i && !decide (i = p))) (e2 : ∀ i, i < 16 → L2 i = (L1 i && !ad p i)) (h1 : AL ad L1 a) (h2 : AL ad L2 b) : AL ad L (if a < 1 + b then 1 + b else a) := by
  constructor
  · split
    · obtain ⟨⟨S, q1, q2, q3⟩, -⟩ := h2
      have hSp : S p = false := by
        cases e : S p with
        | false => rfl
        | true =>
          have := q1 p hp e
          rw [e2 p hp, e1 p hp] at this
          simp at this
      refine ⟨fun k => if k = p then true else S k, fun i hi' h => ?_, fun i j hi' hj h h' => ?_, ?_⟩
      · by_cases e : i = p
        · rw [e]; exact hL
        · have h' : S i = true := by simpa [e] using h
          have := q1 i hi' h'
          rw [e2 i hi', e1 i hi'] at this
          simp at this
          exact this.1.1
      · by_cases ei : i = p
        · by_cases ej : j = p
          · rw [ei, ej]; exact hi p hp
          · have hj' : S j = true := by simpa [ej] using h'
            have := q1 j hj hj'
            rw [e2 j hj] at this
            simp at this
            rw [ei]; exact this.2
        · have hi'' : S i = true := by simpa [ei] using h
          by_cases ej : j = p
          · have := q1 i hi' hi''
            rw [e2 i hi'] at this
            simp at this
            rw [ej, hs i p hi' hp]; exact this.2
          · have hj' : S j = true := by simpa [ej] using h'
            exact q2 i j hi' hj hi'' hj'
      · have := fb_ct_upd S true (i := p) (n := 16) hp
        rw [hSp, if_neg (by decide), if_pos rfl] at this
        omega
    · obtain ⟨⟨S, q1, q2, q3⟩, -⟩ := h1
      refine ⟨S, fun i hi' h => ?_, q2, q3⟩
      have := q1 i hi' h
      rw [e1 i hi'] at this
      simp at this
      exact this.1
  · intro S q1 q2
    cases e : S p with
    | false =>
      have := h1.2 S (fun i hi' h => by
        rw [e1 i hi', q1 i hi' h]
        have : i ≠ p := fun q => by rw [q, e] at h; cases h
        simp [this]) q2
      split <;> omega
    | true =>
      have hb := h2.2 (fun k => if k = p then false else S k) (fun i hi' h => by
        by_cases ei : i = p
        · simp [ei] at h
        · have h' : S i = true := by simpa [ei] using h
          rw [e2 i hi', e1 i hi', q1 i hi' h', q2 p i hp hi' e h']
          simp [ei]) (fun i j hi' hj h h' => by
        by_cases ei : i = p
        · simp [ei] at h
        · by_cases ej : j = p
          · simp [ej] at h'
          · exact q2 i j hi' hj (by simpa [ei] using h) (by simpa [ej] using h'))
      have := fb_ct_upd S false (i := p) (n := 16) hp
      rw [e, if_pos rfl, if_neg (by decide)] at this
      split <;> omega
def dg (ad : Nat → Nat → Bool) (L : Nat → Bool) (i : Nat) : Nat := fb_ct (fun j => ad i j && L j) 16
/-- where each is near one at most, half of those that are near any must go -/
theorem AL.flat {ad : Nat → Nat → Bool} (hs : ∀ i j, i < 16 → j < 16 → ad i j = ad j i) (hi : ∀ i, i < 16 → ad i i = false) {L : Nat → Bool} (hd : ∀ i, i < 16 → L i = true → dg ad L i ≤ 1) : AL ad L (fb_ct L 16 - fb_ct (fun i => L i && decide (0 < dg ad L i)) 16 / 2) := by
  have hex : ∀ i, ∃ j, i < 16 → L i = true → 0 < dg ad L i → (j < 16 ∧ ad i j = true ∧ L j = true) := by
    intro i
    by_cases h : 0 < dg ad L i
    · obtain ⟨j, h1, h2⟩ := fb_ct_pos.mp h
      simp only [Bool.and_eq_true] at h2
      exact ⟨j, fun _ _ _ => ⟨h1, h2.1, h2.2⟩⟩
    · exact ⟨0, fun _ _ q => absurd q h⟩
  let f : Nat → Nat := fun i => Classical.choose (hex i)
  have hf : ∀ i, i < 16 → L i = true → 0 < dg ad L i → (f i < 16 ∧ ad i (f i) = true ∧ L (f i) = true) := fun i => Classical.choose_spec (hex i)
  have huniq : ∀ i a b, i < 16 → L i = true → a < 16 → b < 16 → ad i a = true → ad i b = true → L a = true → L b = true → a = b := by
    intro i a b h1 h2 h3 h4 h5 h6 h7 h8
    have hle := hd i h1 h2
    refine Classical.byContradiction fun hne => ?_
    have key : ∀ x y, x < y → y < 16 → ad i x = true → L x = true → ad i y = true → L y = true → False := by
      intro x y hxy hy a1 a2 a3 a4
      have q1 : fb_ct (fun j => ad i j && L j) x < fb_ct (fun j => ad i j && L j) y := ct_lt hxy (by simp [a1, a2])
      have q2 : fb_ct (fun j => ad i j && L j) y < dg ad L i := ct_lt hy (by simp [a3, a4])
      omega
    rcases Nat.lt_or_ge a b with q | q
    · exact key a b q h4 h5 h7 h6 h8
    · exact key b a (by omega) h3 h6 h8 h5 h7
  have hdp : ∀ i, i < 16 → L i = true → ∀ j, j < 16 → L j = true → ad i j = true → 0 < dg ad L i := fun i _ _ j h3 h4 h5 => fb_ct_pos.mpr ⟨j, h3, by simp [h4, h5]⟩
  have hff : ∀ i, i < 16 → L i = true → 0 < dg ad L i → 0 < dg ad L (f i) ∧ f (f i) = i := by
    intro i h1 h2 h3
    have q := hf i h1 h2 h3
    have h4 : ad (f i) i = true := by rw [hs (f i) i q.1 h1]; exact q.2.1
    have h5 := hdp (f i) q.1 q.2.2 i h1 h2 h4
    have q' := hf (f i) q.1 q.2.2 h5
    exact ⟨h5, huniq (f i) _ _ q.1 q.2.2 q'.1 h1 q'.2.1 h4 q'.2.2 h2⟩
  generalize hcr : (fun i => L i && decide (0 < dg ad L i)) = cr
  have hcr1 : ∀ i, cr i = true ↔ (L i = true ∧ 0 < dg ad L i) := by
    intro i; rw [← hcr]; simp
  have hne : ∀ i, i < 16 → cr i = true → f i ≠ i := by
    intro i h1 h2 h3
    have q := (hcr1 i).mp h2
    have := (hf i h1 q.1 q.2).2.1
    rw [h3, hi i h1] at this
    cases this
  have hlo : fb_ct (fun i => cr i && decide (i < f i)) 16 = fb_ct (fun i => cr i && !decide (i < f i)) 16 := by
    apply Nat.le_antisymm
    · refine ct_inj f (fun i h1 h2 => ?_) (fun i j h1 h2 h3 h4 h5 => ?_)
      · simp only [Bool.and_eq_true, decide_eq_true_eq] at h2
        have q := (hcr1 i).mp h2.1
        have q1 := hf i h1 q.1 q.2
        have q2 := hff i h1 q.1 q.2
        refine ⟨q1.1, ?_⟩
        simp only [Bool.and_eq_true, Bool.not_eq_true', decide_eq_false_iff_not]
        refine ⟨(hcr1 _).mpr ⟨q1.2.2, q2.1⟩, ?_⟩
        rw [q2.2]; omega
      · simp only [Bool.and_eq_true] at h3 h4
        have q := (hcr1 i).mp h3.1
        have q' := (hcr1 j).mp h4.1
        rw [← (hff i h1 q.1 q.2).2, h5, (hff j h2 q'.1 q'.2).2]
    · refine ct_inj f (fun i h1 h2 => ?_) (fun i j h1 h2 h3 h4 h5 => ?_)
      · simp only [Bool.and_eq_true, Bool.not_eq_true', decide_eq_false_iff_not] at h2
        have q := (hcr1 i).mp h2.1
        have q1 := hf i h1 q.1 q.2
        have q2 := hff i h1 q.1 q.2
        have q3 := hne i h1 h2.1
        refine ⟨q1.1, ?_⟩
        simp only [Bool.and_eq_true, decide_eq_true_eq]
        refine ⟨(hcr1 _).mpr ⟨q1.2.2, q2.1⟩, ?_⟩
        rw [q2.2]; omega
      · simp only [Bool.and_eq_true] at h3 h4
        have q := (hcr1 i).mp h3.1
        have q' := (hcr1 j).mp h4.1
        rw [← (hff i h1 q.1 q.2).2, h5, (hff j h2 q'.1 q'.2).2]
  have hcs := ct_split cr (fun i => decide (i < f i)) 16
  constructor
  · refine ⟨fun i => L i && !(cr i && !decide (i < f i)), fun i _ h => by simp only [Bool.and_eq_true] at h; exact h.1, fun i j h1 h2 h3 h4 => ?_, ?_⟩
    · simp only [Bool.and_eq_true, Bool.not_eq_true', Bool.and_eq_false_iff, Bool.not_eq_false', decide_eq_true_eq] at h3 h4
      cases e : ad i j with
      | false => rfl
      | true =>
        exfalso
        have c1 := hdp i h1 h3.1 j h2 h4.1 e
        have e' : ad j i = true := by rw [hs j i h2 h1]; exact e
        have c2 := hdp j h2 h4.1 i h1 h3.1 e'
        have k1 : cr i = true := (hcr1 i).mpr ⟨h3.1, c1⟩
        have k2 : cr j = true := (hcr1 j).mpr ⟨h4.1, c2⟩
        have f1 := hf i h1 h3.1 c1
        have f2 := hf j h2 h4.1 c2
        have g1 : f i = j := huniq i _ _ h1 h3.1 f1.1 h2 f1.2.1 e f1.2.2 h4.1
        have g2 : f j = i := huniq j _ _ h2 h4.1 f2.1 h1 f2.2.1 e' f2.2.2 h3.1
        rcases h3.2 with z | z
        · rw [k1] at z; cases z
        · rcases h4.2 with z' | z'
          · rw [k2] at z'; cases z'
          · omega
    · have h1 := ct_split L (fun i => cr i && !decide (i < f i)) 16
      have h2 : fb_ct (fun k => L k && (cr k && !decide (k < f k))) 16 = fb_ct (fun i => cr i && !decide (i < f i)) 16 := fb_ct_cong (fun k _ => by
        cases e : cr k with
        | false => simp
        | true => rw [((hcr1 k).mp e).1]; simp)
      rw [h2] at h1
      have h3 : (fun k => L k && !(cr k && !decide (k < f k))) = fun i => L i && !(cr i && !decide (i < f i)) := rfl
      omega
  · intro S q1 q2
    have h1 := ct_split cr S 16
    have h2 : fb_ct (fun k => cr k && S k) 16 ≤ fb_ct (fun k => cr k && !S k) 16 := by
      refine ct_inj f (fun i h1 h2 => ?_) (fun i j h1 h2 h3 h4 h5 => ?_)
      · simp only [Bool.and_eq_true] at h2
        have q := (hcr1 i).mp h2.1
        have f1 := hf i h1 q.1 q.2
        have f2 := hff i h1 q.1 q.2
        refine ⟨f1.1, ?_⟩
        simp only [Bool.and_eq_true, Bool.not_eq_true']
        refine ⟨(hcr1 _).mpr ⟨f1.2.2, f2.1⟩, ?_⟩
        cases e : S (f i) with
        | false => rfl
        | true =>
          have := q2 i (f i) h1 f1.1 h2.2 e
          rw [f1.2.1] at this
          cases this
      · simp only [Bool.and_eq_true] at h3 h4
        have q := (hcr1 i).mp h3.1
        have q' := (hcr1 j).mp h4.1
        rw [← (hff i h1 q.1 q.2).2, h5, (hff j h2 q'.1 q'.2).2]
    have h3 : fb_ct (fun k => cr k && !S k) 16 ≤ fb_ct (fun k => L k && !S k) 16 := fb_ct_sub (fun k _ h => by
      simp only [Bool.and_eq_true] at h ⊢
      exact ⟨((hcr1 k).mp h.1).1, h.2⟩)
    have h4 := ct_split L S 16
    have h5 : fb_ct (fun k => L k && S k) 16 = fb_ct S 16 := fb_ct_cong (fun k hk => by
      cases e : S k with
      | false => simp
      | true => rw [q1 k hk e]; rfl)
    omega
