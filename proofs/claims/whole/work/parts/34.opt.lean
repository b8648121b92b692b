/-! ===== pairs of least cost are THE PLAN ===== -/
theorem si_zero {f : Nat → Int} : ∀ {n : Nat}, (∀ i, i < n → 0 ≤ f i) → 0 ≤ fb_si f n ∧ (fb_si f n = 0 → ∀ i, i < n → f i = 0)
  | 0, _ => ⟨Int.le_refl 0, fun _ i hi => by omega⟩
  | n + 1, h => by
    have ih := si_zero (n := n) (fun i hi => h i (by omega))
    have a := h n (by omega)
    rw [fb_si_succ]
    refine ⟨by omega, fun e i hi => ?_⟩
    by_cases q : i = n
    · rw [q]; omega
    · exact ih.2 (by omega) i (by omega)
theorem si_le {f g : Nat → Int} {n : Nat} (h : ∀ i, i < n → f i ≤ g i) : fb_si f n ≤ fb_si g n ∧ (fb_si f n = fb_si g n → ∀ i, i < n → f i = g i) := by
  have z := si_zero (f := fun i => g i - f i) (n := n) (fun i hi => by have := h i hi; omega)
  rw [fb_si_sub] at z
  refine ⟨by omega, fun e i hi => ?_⟩
  have := z.2 (by omega) i hi
  omega
/-- sums don't see the order -/
theorem si_perm (v : Nat → Int) : ∀ (n : Nat) (f : Nat → Nat), (∀ i, i < n → f i < n) → (∀ i j, i < j → j < n → f i ≠ f j) → fb_si (fun i => v (f i)) n = fb_si v n := by
  intro n
  induction n with
  | zero => intro f _ _; rfl
  | succ n ih =>
    intro f h1 h2
    obtain ⟨k, hk, ek⟩ := fb_onto h1 h2 (show n < n + 1 by omega)
    rw [fb_si_succ, fb_si_succ]
    by_cases e : k = n
    · rw [← e, ek]
      have := ih f (fun i hi => by
        have a := h1 i (by omega)
        have b := h2 i k (by omega) hk
        omega) (fun i j hij hj => h2 i j hij (by omega))
      rw [e] at ek
      rw [← e] at this
      rw [e, ← e, this, e]
    · have := ih (fun i => if i = k then f n else f i) (fun i hi => by
        by_cases q : i = k
        · simp only [if_pos q]
          have a := h1 n (by omega)
          have b := h2 k n (by omega) (by omega)
          omega
        · simp only [if_neg q]
          have a := h1 i (by omega)
          have b : f i ≠ f k := by
            by_cases z : i < k
            · exact h2 i k z hk
            · exact fun y => h2 k i (by omega) (by omega) y.symm
          omega) (fun i j hij hj => by
        by_cases q : i = k
        · simp only [if_pos q, if_neg (show ¬ j = k by omega)]
          exact fun y => h2 j n (by omega) (by omega) y.symm
        · by_cases z : j = k
          · simp only [if_neg q, if_pos z]
            exact h2 i n (by omega) (by omega)
          · simp only [if_neg q, if_neg z]
            exact h2 i j hij (by omega))
      have e2 : fb_si (fun i => v ((fun i => if i = k then f n else f i) i)) n = fb_si (fun i => if i = k then v (f n) else v (f i)) n := fb_si_cong (fun i _ => by
        by_cases q : i = k
        · simp only [if_pos q]
        · simp only [if_neg q])
      rw [e2, fb_si_upd (fun i => v (f i)) (v (f n)) (i := k) (by omega)] at this
      simp only [ek] at this
      omega
/-- every row has a column -/
def Full (n : Nat) (π : Nat → Int) : Prop := (∀ i, i < n → 0 ≤ π i ∧ π i < n) ∧ ∀ i j, i < n → j < n → π i = π j → i = j
theorem Full.sum {n : Nat} {π : Nat → Int} (h : Full n π) (v : Nat → Int) : fb_si (fun i => v (π i).toNat) n = fb_si v n :=
  si_perm v n (fun i => (π i).toNat) (fun i hi => by have := h.1 i hi; omega) (fun i j hij hj e => by
    have a := h.1 i (by omega)
    have b := h.1 j hj
    have := h.2 i j (by omega) hj (by omega)
    omega)
theorem ext_full {n : Nat} : ∀ (m : Nat) (nx : Nat → Int), (∀ i, i < n → nx i = -1 ∨ (0 ≤ nx i ∧ nx i < n)) → (∀ i j, i < n → j < n → 0 ≤ nx i → nx i = nx j → i = j) → fb_ct (fun i => decide (nx i < 0)) n = m → ∃ π, Full n π ∧ ∀ i, i < n → 0 ≤ nx i → π i = nx i := by
  intro m
  induction m with
  | zero =>
    intro nx h1 h2 hc
    have hz := fb_ct_zero.mp hc
    have h0 : ∀ i, i < n → 0 ≤ nx i := fun i hi => by
      have := of_decide_eq_false (hz i hi)
      omega
    exact ⟨nx, ⟨fun i hi => by have := h1 i hi; have := h0 i hi; omega, fun i j hi hj e => h2 i j hi hj (h0 i hi) e⟩, fun _ _ _ => rfl⟩
  | succ m ih =>
    intro nx h1 h2 hc
    obtain ⟨k, hk, hkn⟩ := fb_ct_pos.mp (show 0 < fb_ct (fun i => decide (nx i < 0)) n by omega)
    have hkn' : nx k < 0 := of_decide_eq_true hkn
    -- some column is free
    have : ∃ c : Nat, c < n ∧ ∀ i, i < n → nx i ≠ (c : Int) := by
      by_cases q : ∃ c : Nat, c < n ∧ ∀ i, i < n → nx i ≠ (c : Int)
      · exact q
      · have all : ∀ c : Nat, ∃ i, c < n → (i < n ∧ nx i = (c : Int)) := fun c => by
          by_cases z : c < n
          · by_cases y : ∃ i, i < n ∧ nx i = (c : Int)
            · obtain ⟨i, hi⟩ := y; exact ⟨i, fun _ => hi⟩
            · exact absurd ⟨c, z, fun i hi e => y ⟨i, hi, e⟩⟩ q
          · exact ⟨0, fun w => absurd w z⟩
        obtain ⟨g, hg⟩ := Classical.axiomOfChoice all
        obtain ⟨c, hc', e⟩ := fb_onto (n := n) (f := g) (fun c hc => (hg c hc).1) (fun c c' hcc hc' e => by
          have a := (hg c (by omega)).2
          rw [e, (hg c' hc').2] at a
          omega) hk
        have := (hg c hc').2
        rw [e] at this
        omega
    obtain ⟨c, hcn, hfree⟩ := this
    obtain ⟨π, hf, he⟩ := ih (uf nx k c) (fun i hi => by
        by_cases q : i = k
        · rw [q, uf_s]; exact Or.inr ⟨by omega, by omega⟩
        · rw [uf_n q]; exact h1 i hi) (fun i j hi hj h0 e => by
        by_cases q : i = k
        · by_cases z : j = k
          · omega
          · rw [q, uf_s, uf_n z] at e
            exact absurd e.symm (hfree j hj)
        · by_cases z : j = k
          · rw [z, uf_s, uf_n q] at e
            exact absurd e (hfree i hi)
          · rw [uf_n q] at h0 e
            rw [uf_n z] at e
            exact h2 i j hi hj h0 e) (by
        have e := fb_ct_upd (fun i => decide (nx i < 0)) false (i := k) hk
        have e2 : fb_ct (fun i => decide (uf nx k c i < 0)) n = fb_ct (fun i => if i = k then false else decide (nx i < 0)) n := fb_ct_cong (fun i _ => by
          by_cases q : i = k
          · rw [if_pos q, q, uf_s]; exact decide_eq_false (by omega)
          · rw [if_neg q, uf_n q])
        rw [e2]
        rw [hkn] at e
        simp only [Bool.false_eq_true, if_false, if_true] at e
        omega)
    refine ⟨π, hf, fun i hi h0 => ?_⟩
    have ne : i ≠ k := fun q => by rw [q] at h0; omega
    have := he i hi (by rw [uf_n ne]; exact h0)
    rw [uf_n ne] at this
    exact this
/-- the cost of a plan, with 16001 for each that has no next one -/
def csP (n : Nat) (pr : Nat → Nat → Int) (nx : Nat → Int) : Int := fb_si (fun i => if nx i < 0 then 16001 else pr i (nx i).toNat) n
def Lc (n : Nat) (nx : Nat → Int) : Nat := fb_ct (fun i => decide (0 ≤ nx i)) n
def Pc (n : Nat) (pr : Nat → Nat → Int) (nx : Nat → Int) : Int := fb_si (fun i => if nx i < 0 then 0 else pr i (nx i).toNat) n
theorem vals (pr : Nat → Nat → Int) (nx : Nat → Int) : ∀ n, valP n pr nx = Pc n pr nx - 100000 * (Lc n nx : Int) ∧ csP n pr nx = Pc n pr nx + 16001 * ((n : Int) - (Lc n nx : Int)) := by
  intro n
  induction n with
  | zero => exact ⟨rfl, rfl⟩
  | succ n ih =>
    unfold valP csP Pc Lc at *
    rw [fb_si_succ, fb_si_succ, fb_si_succ, fb_ct_succ]
    unfold gain at *
    by_cases q : nx n < 0
    · rw [if_pos q, if_pos q, if_pos q, decide_eq_false (by omega)]
      simp only [Bool.false_eq_true, if_false]
      omega
    · rw [if_neg q, if_neg q, if_neg q, decide_eq_true (by omega)]
      simp only [if_true]
      omega
theorem Pc_rng {n : Nat} (hn : n ≤ 16) {pr : Nat → Nat → Int} {nx : Nat → Int} (hx : ∀ i, i < n → nx i = -1 ∨ (0 ≤ nx i ∧ nx i < n)) (hp : ∀ i j, i < n → j < n → 0 ≤ pr i j ∧ pr i j ≤ 1000) : 0 ≤ Pc n pr nx ∧ Pc n pr nx ≤ 16000 := by
  unfold Pc
  have hb : ∀ i, i < n → 0 ≤ (if nx i < 0 then 0 else pr i (nx i).toNat) ∧ (if nx i < 0 then 0 else pr i (nx i).toNat) ≤ 1000 := fun i hi => by
    by_cases q : nx i < 0
    · rw [if_pos q]; omega
    · rw [if_neg q]
      exact hp i _ hi (by have := hx i hi; omega)
  have a := si_zero (f := fun i => if nx i < 0 then 0 else pr i (nx i).toNat) (n := n) (fun i hi => (hb i hi).1)
  have b := si_le (f := fun i => if nx i < 0 then 0 else pr i (nx i).toNat) (g := fun _ => 1000) (n := n) (fun i hi => (hb i hi).2)
  have c : ∀ m : Nat, fb_si (fun _ => 1000) m = 1000 * (m : Int) := fun m => by
    induction m with
    | zero => rfl
    | succ m ih => rw [fb_si_succ, ih]; omega
  rw [c] at b
  have b1 := b.1
  exact ⟨a.1, by omega⟩
theorem order {n : Nat} {a b P P' : Int} {L L' : Nat} (hP : 0 ≤ P ∧ P ≤ 16000) (hP' : 0 ≤ P' ∧ P' ≤ 16000) (ha : a = P - 100000 * (L : Int)) (hb : b = P' - 100000 * (L' : Int)) : (P + 16001 * ((n : Int) - (L : Int)) ≤ P' + 16001 * ((n : Int) - (L' : Int)) → a ≤ b) ∧ (a = b → P + 16001 * ((n : Int) - (L : Int)) = P' + 16001 * ((n : Int) - (L' : Int))) := by
  constructor <;> intro h <;> omega
/-- what the row of choices keeps -/
def Chs (n : Nat) (fo : Nat → Nat → Prop) (T : Nat → Nat → Prop) (nx : Nat → Int) (t : Nat) (x : Int) : Prop :=
  ∀ π, Full n π → (∀ i, i < n → T i (π i).toNat) → (∀ i, i < t → 0 ≤ nx i → π i = nx i) → (x = -1 → ¬ fo t (π t).toNat) ∧ ∀ j : Nat, (j : Int) < x → fo t j → π t ≠ (j : Int)
theorem opt_plan {n : Nat} (hn : n ≤ 16) {fo : Nat → Nat → Prop} {pr C : Nat → Nat → Int} {u v : Nat → Int} {nx : Nat → Int} (hp : ∀ i j, i < n → j < n → 0 ≤ pr i j ∧ pr i j ≤ 1000) (hC1 : ∀ i j, i < n → j < n → fo i j → C i j = pr i j) (hC2 : ∀ i j, i < n → j < n → ¬ fo i j → C i j = 16001)
    (hov : ∀ i j, i < n → j < n → 0 ≤ C i j - u i - v j) (hx : ∀ i, i < n → nx i = -1 ∨ (0 ≤ nx i ∧ nx i < n ∧ fo i (nx i).toNat)) {π : Nat → Int} (hF : Full n π) (hT : ∀ i, i < n → C i (π i).toNat - u i - v (π i).toNat = 0) (hπ : ∀ i, i < n → 0 ≤ nx i → π i = nx i)
    (hch : ∀ t, t < n → Chs n fo (fun i j => C i j - u i - v j = 0) nx t (nx t)) : IsPlan n fo pr nx := by
  -- what a full row costs
  have cost : ∀ ρ, Full n ρ → fb_si (fun i => C i (ρ i).toNat) n = fb_si (fun i => C i (ρ i).toNat - u i - v (ρ i).toNat) n + fb_si u n + fb_si v n := fun ρ hρ => by
    have e : fb_si (fun i => C i (ρ i).toNat) n = fb_si (fun i => (C i (ρ i).toNat - u i - v (ρ i).toNat + u i) + v (ρ i).toNat) n := fb_si_cong (fun i _ => by omega)
    rw [e, fb_si_add, fb_si_add, hρ.sum v]
  have sl : ∀ ρ, Full n ρ → ∀ i, i < n → 0 ≤ C i (ρ i).toNat - u i - v (ρ i).toNat := fun ρ hρ i hi => hov i _ hi (by have := hρ.1 i hi; omega)
  have z0 : fb_si (fun i => C i (π i).toNat - u i - v (π i).toNat) n = 0 := by
    have : fb_si (fun i => C i (π i).toNat - u i - v (π i).toNat) n = fb_si (fun _ => 0) n := fb_si_cong (fun i hi => hT i hi)
    rw [this]
    have c : ∀ m : Nat, fb_si (fun _ => 0) m = 0 := fun m => by
      induction m with
      | zero => rfl
      | succ m ih => rw [fb_si_succ, ih]; rfl
    exact c n
  have least : ∀ ρ, Full n ρ → fb_si (fun i => C i (π i).toNat) n ≤ fb_si (fun i => C i (ρ i).toNat) n ∧ (fb_si (fun i => C i (π i).toNat) n = fb_si (fun i => C i (ρ i).toNat) n → ∀ i, i < n → C i (ρ i).toNat - u i - v (ρ i).toNat = 0) := fun ρ hρ => by
    have a := si_zero (n := n) (sl ρ hρ)
    rw [cost π hF, cost ρ hρ, z0]
    exact ⟨by omega, fun e => a.2 (by omega)⟩
  -- the row's own plan
  have hnf : ∀ i, i < n → nx i = -1 → ¬ fo i (π i).toNat := fun i hi e => (hch i hi π hF hT (fun j hj h0 => hπ j (by omega) h0)).1 e
  have hok : OkP n fo nx := ⟨hx, fun i j hi hj h0 e => hF.2 i j hi hj (by rw [hπ i hi h0, hπ j hj (by omega)]; exact e)⟩
  have rx : ∀ nx', OkP n fo nx' → ∀ i, i < n → nx' i = -1 ∨ (0 ≤ nx' i ∧ nx' i < n) := fun nx' h i hi => h.rng hi
  have cnx : fb_si (fun i => C i (π i).toNat) n = csP n pr nx := fb_si_cong (fun i hi => by
    rcases hx i hi with q | q
    · have a := hF.1 i hi
      show C i (π i).toNat = if nx i < 0 then 16001 else _
      rw [if_pos (by omega)]
      exact hC2 i _ hi (by omega) (hnf i hi q)
    · show C i (π i).toNat = if nx i < 0 then 16001 else _
      rw [if_neg (by omega), hπ i hi q.1]
      exact hC1 i _ hi (by omega) q.2.2)
  -- another plan, and the full row that it lies in
  have other : ∀ nx', OkP n fo nx' → ∃ ρ, Full n ρ ∧ (∀ i, i < n → 0 ≤ nx' i → ρ i = nx' i) ∧ fb_si (fun i => C i (ρ i).toNat) n ≤ csP n pr nx' ∧ (fb_si (fun i => C i (ρ i).toNat) n = csP n pr nx' → ∀ i, i < n → nx' i = -1 → ¬ fo i (ρ i).toNat) := fun nx' h => by
    obtain ⟨ρ, hρ, he⟩ := ext_full _ nx' (rx nx' h) (fun i j hi hj h0 e => h.2 i j hi hj h0 e) rfl
    have pw : ∀ i, i < n → C i (ρ i).toNat ≤ (if nx' i < 0 then 16001 else pr i (nx' i).toNat) := fun i hi => by
      have a := hρ.1 i hi
      rcases h.1 i hi with q | q
      · rw [if_pos (by omega)]
        by_cases z : fo i (ρ i).toNat
        · rw [hC1 i _ hi (by omega) z]
          have := hp i (ρ i).toNat hi (by omega)
          omega
        · rw [hC2 i _ hi (by omega) z]; omega
      · rw [if_neg (by omega), he i hi q.1, hC1 i _ hi (by omega) q.2.2]; omega
    have s := si_le (n := n) pw
    refine ⟨ρ, hρ, he, s.1, fun e i hi q z => ?_⟩
    have a := hρ.1 i hi
    have := s.2 e i hi
    rw [if_pos (by omega), hC1 i _ hi (by omega) z] at this
    have := hp i (ρ i).toNat hi (by omega)
    omega
  have ord : ∀ nx', OkP n fo nx' → (csP n pr nx ≤ csP n pr nx' → valP n pr nx ≤ valP n pr nx') ∧ (valP n pr nx = valP n pr nx' → csP n pr nx = csP n pr nx') := fun nx' h => by
    have a := vals pr nx n
    have b := vals pr nx' n
    rw [a.2, b.2]
    exact order (Pc_rng hn (rx nx hok) hp) (Pc_rng hn (rx nx' h) hp) a.1 b.1
  refine ⟨hok, fun nx' h => ?_, fun nx' h e i hi hpre => ?_⟩
  · obtain ⟨ρ, hρ, _, hle, _⟩ := other nx' h
    refine (ord nx' h).1 ?_
    have := (least ρ hρ).1
    omega
  · obtain ⟨ρ, hρ, he, hle, hne⟩ := other nx' h
    have e2 := (ord nx' h).2 e.symm
    have l := least ρ hρ
    have e3 : fb_si (fun i => C i (ρ i).toNat) n = csP n pr nx' := by omega
    have hTρ := l.2 (by omega)
    have ch := hch i hi ρ hρ hTρ (fun j hj h0 => by
      have hj' : j < n := by omega
      rw [he j hj' (by rw [hpre j hj]; exact h0), hpre j hj])
    rcases h.1 i hi with q | q
    · rw [q]
      rcases hx i hi with z | z
      · rw [z]; exact Int.le_refl _
      · unfold keyP
        rw [if_neg (by omega), if_pos (by decide)]; omega
    · have eρ := he i hi q.1
      rcases hx i hi with z | z
      · exact absurd (by rw [eρ]; exact q.2.2) (ch.1 z)
      · unfold keyP
        rw [if_neg (by omega), if_neg (by omega)]
        by_cases y : nx i ≤ nx' i
        · exact y
        · exact absurd (by rw [eρ]; omega) (ch.2 (nx' i).toNat (by omega) q.2.2)
