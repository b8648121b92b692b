/-! ===== THE PLAN, as numbers: what it is, that there is one alone, and that the table of sums leads to it ===== -/
/-- each trip has a next one that follows it, or none; none is next twice -/
def OkP (n : Nat) (fo : Nat → Nat → Prop) (nx : Nat → Int) : Prop :=
  (∀ i, i < n → nx i = -1 ∨ (0 ≤ nx i ∧ nx i < n ∧ fo i (nx i).toNat)) ∧ ∀ i j, i < n → j < n → 0 ≤ nx i → nx i = nx j → i = j
/-- what a trip's next one gives -/
def gain (pr : Nat → Nat → Int) (nx : Nat → Int) (i : Nat) : Int := if nx i < 0 then 0 else pr i (nx i).toNat - 100000
def valP (n : Nat) (pr : Nat → Nat → Int) (nx : Nat → Int) : Int := fb_si (gain pr nx) n
def keyP (x : Int) : Int := if x < 0 then 16 else x
def IsPlan (n : Nat) (fo : Nat → Nat → Prop) (pr : Nat → Nat → Int) (nx : Nat → Int) : Prop :=
  OkP n fo nx ∧ (∀ nx', OkP n fo nx' → valP n pr nx ≤ valP n pr nx') ∧ ∀ nx', OkP n fo nx' → valP n pr nx' = valP n pr nx → ∀ i, i < n → (∀ j, j < i → nx' j = nx j) → keyP (nx i) ≤ keyP (nx' i)
theorem keyP_inj {x y : Int} (hx : x = -1 ∨ (0 ≤ x ∧ x < 16)) (hy : y = -1 ∨ (0 ≤ y ∧ y < 16)) (h : keyP x = keyP y) : x = y := by
  unfold keyP at h
  rcases hx with rfl | hx <;> rcases hy with rfl | hy
  · rfl
  · rw [if_pos (by decide), if_neg (by omega)] at h; omega
  · rw [if_neg (by omega), if_pos (by decide)] at h; omega
  · rw [if_neg (by omega), if_neg (by omega)] at h; exact h
theorem OkP.rng {n : Nat} {fo : Nat → Nat → Prop} {nx : Nat → Int} (h : OkP n fo nx) {i : Nat} (hi : i < n) : nx i = -1 ∨ (0 ≤ nx i ∧ nx i < n) := by
  rcases h.1 i hi with q | q
  · exact Or.inl q
  · exact Or.inr ⟨q.1, q.2.1⟩
theorem IsPlan.one {n : Nat} (hn : n ≤ 16) {fo : Nat → Nat → Prop} {pr : Nat → Nat → Int} {a b : Nat → Int} (ha : IsPlan n fo pr a) (hb : IsPlan n fo pr b) : ∀ i, i < n → a i = b i := by
  have hv : valP n pr a = valP n pr b := Int.le_antisymm (ha.2.1 b hb.1) (hb.2.1 a ha.1)
  intro i
  induction i using Nat.strongRecOn with
  | _ i ih =>
    intro hi
    have h1 := ha.2.2 b hb.1 hv.symm i hi (fun j hj => (ih j hj (by omega)).symm)
    have h2 := hb.2.2 a ha.1 hv i hi (fun j hj => ih j hj (by omega))
    have ra := ha.1.rng hi
    have rb := hb.1.rng hi
    exact keyP_inj (by omega) (by omega) (Int.le_antisymm h1 h2)
theorem OkP.congr {n : Nat} {fo fo' : Nat → Nat → Prop} (hf : ∀ i j, i < n → j < n → (fo i j ↔ fo' i j)) {nx : Nat → Int} (h : OkP n fo nx) : OkP n fo' nx := by
  refine ⟨fun i hi => ?_, h.2⟩
  rcases h.1 i hi with q | q
  · exact Or.inl q
  · exact Or.inr ⟨q.1, q.2.1, (hf i _ hi (by omega)).mp q.2.2⟩
theorem valP_congr {n : Nat} {pr pr' : Nat → Nat → Int} {fo : Nat → Nat → Prop} (hp : ∀ i j, i < n → j < n → fo i j → pr i j = pr' i j) {nx : Nat → Int} (h : OkP n fo nx) : valP n pr nx = valP n pr' nx := by
  refine fb_si_cong (fun i hi => ?_)
  unfold gain
  rcases h.1 i hi with q | q
  · rw [if_pos (by omega), if_pos (by omega)]
  · rw [if_neg (by omega), if_neg (by omega), hp i _ hi (by omega) q.2.2]
theorem IsPlan.congr {n : Nat} {fo fo' : Nat → Nat → Prop} {pr pr' : Nat → Nat → Int} (hf : ∀ i j, i < n → j < n → (fo i j ↔ fo' i j)) (hp : ∀ i j, i < n → j < n → fo i j → pr i j = pr' i j) {nx : Nat → Int} (h : IsPlan n fo pr nx) : IsPlan n fo' pr' nx := by
  have hf' : ∀ i j, i < n → j < n → (fo' i j ↔ fo i j) := fun i j hi hj => (hf i j hi hj).symm
  refine ⟨h.1.congr hf, fun nx' h' => ?_, fun nx' h' hv i hi hj => ?_⟩
  · have := h.2.1 nx' (h'.congr hf')
    rw [valP_congr hp h.1, valP_congr hp (h'.congr hf')] at this
    exact this
  · refine h.2.2 nx' (h'.congr hf') ?_ i hi hj
    rw [valP_congr hp h.1, valP_congr hp (h'.congr hf')]
    exact hv
/-! the table: T i s, the least sum of the trips from i on, the trips of s being taken -/
def cellP (n : Nat) (fo : Nat → Nat → Prop) (pr : Nat → Nat → Int) (T : Nat → Nat → Int) (i s : Nat) : Prop :=
  T i s ≤ T (i + 1) s ∧ (∀ j, j < n → s.testBit j = false → fo i j → T i s ≤ T (i + 1) (s ||| 2 ^ j) + pr i j - 100000) ∧
  (T i s = T (i + 1) s ∨ ∃ j, j < n ∧ s.testBit j = false ∧ fo i j ∧ T i s = T (i + 1) (s ||| 2 ^ j) + pr i j - 100000)
def tableP (n : Nat) (fo : Nat → Nat → Prop) (pr : Nat → Nat → Int) (T : Nat → Nat → Int) : Prop := (∀ s, s < 2 ^ n → T n s = 0) ∧ ∀ i, i < n → ∀ s, s < 2 ^ n → cellP n fo pr T i s
/-- from row i on, beside the taken ones -/
def OkF (n : Nat) (fo : Nat → Nat → Prop) (i s : Nat) (nx : Nat → Int) : Prop :=
  (∀ r, i ≤ r → r < n → nx r = -1 ∨ (0 ≤ nx r ∧ nx r < n ∧ fo r (nx r).toNat ∧ s.testBit (nx r).toNat = false)) ∧ ∀ r q, i ≤ r → r < n → i ≤ q → q < n → 0 ≤ nx r → nx r = nx q → r = q
def valF (n : Nat) (pr : Nat → Nat → Int) (i : Nat) (nx : Nat → Int) : Int := fb_si (fun k => gain pr nx (i + k)) (n - i)
theorem valF_succ {n : Nat} {pr : Nat → Nat → Int} {i : Nat} (hi : i < n) (nx : Nat → Int) : valF n pr i nx = gain pr nx i + valF n pr (i + 1) nx := by
  unfold valF
  have e : n - i = 1 + (n - (i + 1)) := by omega
  rw [e, fb_si_split]
  have e1 : fb_si (fun k => gain pr nx (i + k)) 1 = gain pr nx i := by simp [fb_si]
  rw [e1]
  congr 1
  exact fb_si_cong (fun k _ => by rw [Nat.add_assoc])
theorem or_lt {n s j : Nat} (hs : s < 2 ^ n) (hj : j < n) : s ||| 2 ^ j < 2 ^ n := Nat.or_lt_two_pow hs (Nat.pow_lt_pow_right (by decide) hj)
theorem or_bit (s j k : Nat) : (s ||| 2 ^ j).testBit k = (s.testBit k || decide (j = k)) := by rw [Nat.testBit_or, Nat.testBit_two_pow]
theorem OkF.down {n : Nat} {fo : Nat → Nat → Prop} {i s : Nat} {nx : Nat → Int} (hi : i < n) (h : OkF n fo i s nx) (h1 : nx i = -1) : OkF n fo (i + 1) s nx :=
  ⟨fun r hr hrn => h.1 r (by omega) hrn, fun r q hr hrn hq hqn => h.2 r q (by omega) hrn (by omega) hqn⟩
theorem OkF.downj {n : Nat} {fo : Nat → Nat → Prop} {i s : Nat} {nx : Nat → Int} (hi : i < n) (h : OkF n fo i s nx) (h1 : 0 ≤ nx i) : OkF n fo (i + 1) (s ||| 2 ^ (nx i).toNat) nx := by
  refine ⟨fun r hr hrn => ?_, fun r q hr hrn hq hqn => h.2 r q (by omega) hrn (by omega) hqn⟩
  rcases h.1 r (by omega) hrn with q | ⟨q1, q2, q3, q4⟩
  · exact Or.inl q
  · refine Or.inr ⟨q1, q2, q3, ?_⟩
    rw [or_bit, q4]
    have : (nx i).toNat ≠ (nx r).toNat := fun e => by
      have := h.2 r i (by omega) hrn (Nat.le_refl _) hi q1 (by omega)
      omega
    simp [this]
theorem table_le {n : Nat} {fo : Nat → Nat → Prop} {pr : Nat → Nat → Int} {T : Nat → Nat → Int} (h : tableP n fo pr T) : ∀ m i : Nat, i + m = n → ∀ s, s < 2 ^ n → ∀ nx, OkF n fo i s nx → T i s ≤ valF n pr i nx := by
  intro m
  induction m with
  | zero =>
    intro i hi s hs nx _
    have e : i = n := by omega
    subst e
    rw [h.1 s hs]
    simp [valF, fb_si]
  | succ m ih =>
    intro i hi s hs nx hk
    have hc := h.2 i (by omega) s hs
    rw [valF_succ (by omega)]
    rcases hk.1 i (Nat.le_refl _) (by omega) with q | ⟨q1, q2, q3, q4⟩
    · have := ih (i + 1) (by omega) s hs nx (hk.down (by omega) q)
      unfold gain
      rw [if_pos (by omega)]
      have := hc.1
      omega
    · have := ih (i + 1) (by omega) (s ||| 2 ^ (nx i).toNat) (or_lt hs (by omega)) nx (hk.downj (by omega) q1)
      have h2 := hc.2.1 (nx i).toNat (by omega) q4 q3
      unfold gain
      rw [if_neg (by omega)]
      omega
/-- the trips chosen one by one, each the least that the table bears -/
def Greedy (n : Nat) (fo : Nat → Nat → Prop) (pr : Nat → Nat → Int) (T : Nat → Nat → Int) (nx : Nat → Int) (S : Nat → Nat) : Prop :=
  S 0 = 0 ∧ ∀ i, i < n → S i < 2 ^ n ∧
    ((nx i = -1 ∧ S (i + 1) = S i ∧ ∀ j, j < n → (S i).testBit j = false → fo i j → ¬ T (i + 1) (S i ||| 2 ^ j) + pr i j - 100000 = T i (S i)) ∨
     ∃ j, j < n ∧ nx i = (j : Int) ∧ S (i + 1) = S i ||| 2 ^ j ∧ (S i).testBit j = false ∧ fo i j ∧ T (i + 1) (S i ||| 2 ^ j) + pr i j - 100000 = T i (S i) ∧
       ∀ j', j' < j → (S i).testBit j' = false → fo i j' → ¬ T (i + 1) (S i ||| 2 ^ j') + pr i j' - 100000 = T i (S i))
theorem Greedy.bits {n : Nat} {fo : Nat → Nat → Prop} {pr : Nat → Nat → Int} {T : Nat → Nat → Int} {nx : Nat → Int} {S : Nat → Nat} (h : Greedy n fo pr T nx S) : ∀ i, i ≤ n → ∀ j, ((S i).testBit j = true ↔ ∃ r, r < i ∧ nx r = (j : Int)) := by
  intro i
  induction i with
  | zero =>
    intro _ j
    rw [h.1]
    simp
  | succ i ih =>
    intro hi j
    have ih := ih (by omega) j
    rcases (h.2 i (by omega)).2 with ⟨q1, q2, -⟩ | ⟨k, hk, q1, q2, -⟩
    · rw [q2, ih]
      constructor
      · rintro ⟨r, hr, e⟩; exact ⟨r, by omega, e⟩
      · rintro ⟨r, hr, e⟩
        by_cases z : r = i
        · rw [z, q1] at e; omega
        · exact ⟨r, by omega, e⟩
    · rw [q2, or_bit, Bool.or_eq_true, ih, decide_eq_true_eq]
      constructor
      · rintro (⟨r, hr, e⟩ | e)
        · exact ⟨r, by omega, e⟩
        · exact ⟨i, by omega, by rw [q1, e]⟩
      · rintro ⟨r, hr, e⟩
        by_cases z : r = i
        · right; rw [z, q1] at e; omega
        · left; exact ⟨r, by omega, e⟩
theorem Greedy.plan {n : Nat} (hn : n ≤ 16) {fo : Nat → Nat → Prop} {pr : Nat → Nat → Int} {T : Nat → Nat → Int} {nx : Nat → Int} {S : Nat → Nat} (hT : tableP n fo pr T) (h : Greedy n fo pr T nx S) : IsPlan n fo pr nx := by
  have hS : ∀ i, i ≤ n → S i < 2 ^ n := by
    intro i hi
    rcases Nat.lt_or_ge i n with q | q
    · exact (h.2 i q).1
    · have e : i = n := by omega
      subst e
      rcases Nat.eq_zero_or_pos i with z | z
      · rw [z, h.1]; simp
      · have hp := h.2 (i - 1) (by omega)
        have e1 : i - 1 + 1 = i := by omega
        rcases hp.2 with ⟨-, q2, -⟩ | ⟨j, hj, -, q2, -⟩
        · rw [e1] at q2; rw [q2]; exact hp.1
        · rw [e1] at q2; rw [q2]; exact or_lt hp.1 hj
  -- the row's sum is the table's
  have hval : ∀ m i : Nat, i + m = n → valF n pr i nx = T i (S i) := by
    intro m
    induction m with
    | zero =>
      intro i hi
      have e : i = n := by omega
      subst e
      rw [hT.1 _ (hS i (Nat.le_refl _))]
      simp [valF, fb_si]
    | succ m ih =>
      intro i hi
      rw [valF_succ (by omega), ih (i + 1) (by omega)]
      rcases (h.2 i (by omega)).2 with ⟨q1, q2, q3⟩ | ⟨j, hj, q1, q2, q3, q4, q5, q6⟩
      · unfold gain
        rw [if_pos (by omega), q2]
        rcases (hT.2 i (by omega) (S i) (hS i (by omega))).2.2 with z | ⟨j, z1, z2, z3, z4⟩
        · omega
        · exact absurd z4.symm (q3 j z1 z2 z3)
      · unfold gain
        rw [if_neg (by omega), q2, q1, Int.toNat_natCast]
        omega
  have hok : OkP n fo nx := by
    refine ⟨fun i hi => ?_, ?_⟩
    · rcases (h.2 i hi).2 with ⟨q1, -⟩ | ⟨j, hj, q1, -, -, q4, -⟩
      · exact Or.inl q1
      · right; rw [q1]; exact ⟨by omega, by omega, by rw [Int.toNat_natCast]; exact q4⟩
    · have key : ∀ i j, i < j → j < n → 0 ≤ nx i → nx i = nx j → False := by
        intro i j hij hj h0 e
        rcases (h.2 j hj).2 with ⟨q1, -⟩ | ⟨k, hk, q1, -, q3, -⟩
        · omega
        · have := (h.bits j (by omega) k).mpr ⟨i, hij, by omega⟩
          rw [this] at q3
          cases q3
      intro i j hi hj h0 e
      rcases Nat.lt_trichotomy i j with q | q | q
      · exact (key i j q hj h0 e).elim
      · exact q
      · exact (key j i q hi (by omega) e.symm).elim
  have hv0 : ∀ nx' : Nat → Int, valP n pr nx' = valF n pr 0 nx' := by
    intro nx'
    unfold valP valF
    rw [Nat.sub_zero]
    exact fb_si_cong (fun k _ => by rw [Nat.zero_add])
  have ok0 : ∀ nx' : Nat → Int, OkP n fo nx' → OkF n fo 0 0 nx' := by
    intro nx' q
    refine ⟨fun r _ hr => ?_, fun r q' _ hr _ hq => q.2 r q' hr hq⟩
    rcases q.1 r hr with z | z
    · exact Or.inl z
    · exact Or.inr ⟨z.1, z.2.1, z.2.2, by simp⟩
  have h2n : (0 : Nat) < 2 ^ n := Nat.pow_pos (by decide)
  refine ⟨hok, fun nx' hk => ?_, fun nx' hk hv i hi hj => ?_⟩
  · rw [hv0, hv0, hval n 0 (by omega), h.1]
    exact table_le hT n 0 (by omega) 0 h2n nx' (ok0 nx' hk)
  · -- beside the same trips ahead, the other's rest is of the table's sum too
    have pre : ∀ r, r ≤ i → OkF n fo r (S r) nx' ∧ valF n pr r nx' = T r (S r) := by
      intro r
      induction r with
      | zero =>
        intro _
        rw [h.1]
        refine ⟨ok0 nx' hk, ?_⟩
        rw [← hv0, hv, hv0, hval n 0 (by omega), h.1]
      | succ r ih =>
        intro hr
        obtain ⟨a, b⟩ := ih (by omega)
        have e := hj r (by omega)
        rw [valF_succ (by omega)] at b
        rcases (h.2 r (by omega)).2 with ⟨q1, q2, q3⟩ | ⟨j, hj', q1, q2, q3, q4, q5, q6⟩
        · rw [q2]
          refine ⟨a.down (by omega) (by omega), ?_⟩
          unfold gain at b
          rw [if_pos (by omega)] at b
          rcases (hT.2 r (by omega) (S r) (hS r (by omega))).2.2 with z | ⟨j, z1, z2, z3, z4⟩
          · omega
          · exact absurd z4.symm (q3 j z1 z2 z3)
        · have ej : (nx' r).toNat = j := by omega
          have a' := a.downj (by omega) (by omega)
          rw [ej] at a'
          rw [q2]
          refine ⟨a', ?_⟩
          unfold gain at b
          rw [if_neg (by omega), ej] at b
          omega
    obtain ⟨a, b⟩ := pre i (Nat.le_refl _)
    rw [valF_succ hi] at b
    rcases a.1 i (Nat.le_refl _) hi with z | ⟨z1, z2, z3, z4⟩
    · unfold keyP
      rw [z, if_pos (by decide : (-1 : Int) < 0)]
      have := hok.rng hi
      split <;> omega
    · have hl := table_le hT (n - (i + 1)) (i + 1) (by omega) (S i ||| 2 ^ (nx' i).toNat) (or_lt (hS i (by omega)) (by omega)) nx' (a.downj hi z1)
      have hc := (hT.2 i hi (S i) (hS i (by omega))).2.1 (nx' i).toNat (by omega) z4 z3
      unfold gain at b
      rw [if_neg (by omega)] at b
      have heq : T (i + 1) (S i ||| 2 ^ (nx' i).toNat) + pr i (nx' i).toNat - 100000 = T i (S i) := by omega
      rcases (h.2 i hi).2 with ⟨q1, q2, q3⟩ | ⟨j, hj', q1, q2, q3, q4, q5, q6⟩
      · exact absurd heq (q3 _ (by omega) z4 z3)
      · have : j ≤ (nx' i).toNat := by
          rcases Nat.lt_or_ge (nx' i).toNat j with y | y
          · exact absurd heq (q6 _ y z4 z3)
          · exact y
        unfold keyP
        rw [q1, if_neg (by omega), if_neg (by omega)]
        omega
