/-! ===== pairs of least cost: one row is placed ===== -/
/-- the rows that are looked at, and how far each is -/
def lrF (r : Nat) (ro : Nat → Int) (sq : Nat → Nat) : Nat → Nat
  | 0 => r
  | m + 1 => (ro (sq m)).toNat
def dvF (ds : Nat → Int) (sq : Nat → Nat) : Nat → Int
  | 0 => 0
  | m + 1 => ds (sq m)
theorem lrF_eq {r : Nat} {ro : Nat → Int} {sq sq' : Nat → Nat} : ∀ {m : Nat}, (∀ i, i < m → sq' i = sq i) → lrF r ro sq' m = lrF r ro sq m
  | 0, _ => rfl
  | m + 1, h => by show (ro (sq' m)).toNat = (ro (sq m)).toNat; rw [h m (by omega)]
theorem dvF_eq {ds ds' : Nat → Int} {sq sq' : Nat → Nat} : ∀ {m : Nat}, (∀ i, i < m → sq' i = sq i ∧ ds' (sq i) = ds (sq i)) → dvF ds' sq' m = dvF ds sq m
  | 0, _ => rfl
  | m + 1, h => by show ds' (sq' m) = ds (sq m); rw [(h m (by omega)).1, (h m (by omega)).2]
def DJ (n r k K : Nat) (ov : Nat → Nat → Int) (ro cf ds : Nat → Int) (sq : Nat → Nat) : Prop :=
  (∀ i, i < k → sq i < n ∧ 0 ≤ ds (sq i) ∧ ds (sq i) ≤ dvF ds sq k) ∧
  (∀ m, m < K → ∀ c, c < n → ds c ≤ dvF ds sq m + ov (lrF r ro sq m) c) ∧
  (∀ i, i < k → ∃ m, m ≤ i ∧ cf (sq i) = (lrF r ro sq m : Int) ∧ ds (sq i) = dvF ds sq m + ov (lrF r ro sq m) (sq i)) ∧
  (∀ c, c < n → (∀ i, i < k → sq i ≠ c) → dvF ds sq k ≤ ds c ∧ ((∃ m, m < K ∧ cf c = (lrF r ro sq m : Int) ∧ ds c = dvF ds sq m + ov (lrF r ro sq m) c) ∨ (K = 0 ∧ ds c = 1000000)))
theorem DJ.w0 {n r k K : Nat} {ov : Nat → Nat → Int} {ro cf ds : Nat → Int} {sq : Nat → Nat} (h : DJ n r k K ov ro cf ds sq) : 0 ≤ dvF ds sq k := by
  cases k with
  | zero => exact Int.le_refl 0
  | succ k => exact (h.1 k (by omega)).2.1
theorem DJ.look {n r k : Nat} {ov : Nat → Nat → Int} {ro cf ds cf' ds' : Nat → Int} {sq : Nat → Nat} (h : DJ n r k k ov ro cf ds sq) (hov : ∀ c, c < n → 0 ≤ ov (lrF r ro sq k) c ∧ dvF ds sq k + ov (lrF r ro sq k) c < 1000000)
    (h1 : ∀ i, i < k → ds' (sq i) = ds (sq i) ∧ cf' (sq i) = cf (sq i))
    (h2 : ∀ c, c < n → (∀ i, i < k → sq i ≠ c) → (¬ ds c ≤ dvF ds sq k + ov (lrF r ro sq k) c → ds' c = dvF ds sq k + ov (lrF r ro sq k) c ∧ cf' c = (lrF r ro sq k : Int)) ∧ (ds c ≤ dvF ds sq k + ov (lrF r ro sq k) c → ds' c = ds c ∧ cf' c = cf c)) :
    DJ n r k (k + 1) ov ro cf' ds' sq := by
  have hv : ∀ m, m ≤ k → dvF ds' sq m = dvF ds sq m := fun m hm => dvF_eq (fun i hi => ⟨rfl, (h1 i (by omega)).1⟩)
  have w0 := h.w0
  refine ⟨fun i hi => ?_, fun m hm c hc => ?_, fun i hi => ?_, fun c hc hn => ?_⟩
  · rw [(h1 i hi).1, hv k (by omega)]; exact h.1 i hi
  · rw [hv m (by omega)]
    by_cases e : ∃ i, i < k ∧ sq i = c
    · obtain ⟨i, hi, e⟩ := e
      rw [← e, (h1 i hi).1]
      by_cases q : m = k
      · have a := (h.1 i hi).2.2
        have b := (hov (sq i) (h.1 i hi).1).1
        rw [q]; omega
      · exact h.2.1 m (by omega) _ (h.1 i hi).1
    · have hn : ∀ i, i < k → sq i ≠ c := fun i hi z => e ⟨i, hi, z⟩
      have z := h2 c hc hn
      by_cases y : ds c ≤ dvF ds sq k + ov (lrF r ro sq k) c
      · rw [(z.2 y).1]
        by_cases q : m = k
        · rw [q]; exact y
        · exact h.2.1 m (by omega) c hc
      · rw [(z.1 y).1]
        by_cases q : m = k
        · rw [q]; omega
        · have := h.2.1 m (by omega) c hc; omega
  · obtain ⟨m, a1, a2, a3⟩ := h.2.2.1 i hi
    exact ⟨m, a1, by rw [(h1 i hi).2]; exact a2, by rw [(h1 i hi).1, hv m (by omega)]; exact a3⟩
  · have z := h2 c hc hn
    have o := h.2.2.2 c hc hn
    have b := hov c hc
    rw [hv k (by omega)]
    by_cases y : ds c ≤ dvF ds sq k + ov (lrF r ro sq k) c
    · rw [(z.2 y).1, (z.2 y).2]
      refine ⟨o.1, Or.inl ?_⟩
      rcases o.2 with ⟨m, a1, a2, a3⟩ | ⟨_, q⟩
      · exact ⟨m, by omega, a2, by rw [hv m (by omega)]; exact a3⟩
      · omega
    · rw [(z.1 y).1, (z.1 y).2]
      exact ⟨by omega, Or.inl ⟨k, by omega, rfl, by rw [hv k (by omega)]⟩⟩
def sqp (sq : Nat → Nat) (k x : Nat) : Nat → Nat := fun i => if i = k then x else sq i
theorem sqp_s (sq : Nat → Nat) (k x : Nat) : sqp sq k x k = x := if_pos rfl
theorem sqp_n {sq : Nat → Nat} {k x i : Nat} (h : i < k) : sqp sq k x i = sq i := if_neg (by omega)
theorem DJ.pick {n r k : Nat} {ov : Nat → Nat → Int} {ro cf ds : Nat → Int} {sq : Nat → Nat} (h : DJ n r k (k + 1) ov ro cf ds sq) {x : Nat} (hx : x < n) (hx2 : ∀ i, i < k → sq i ≠ x) (hmin : ∀ c, c < n → (∀ i, i < k → sq i ≠ c) → ds x ≤ ds c) :
    DJ n r (k + 1) (k + 1) ov ro cf ds (sqp sq k x) := by
  have w0 := h.w0
  have ev : ∀ m, m ≤ k → dvF ds (sqp sq k x) m = dvF ds sq m := fun m hm => dvF_eq (fun i hi => ⟨sqp_n (by omega), rfl⟩)
  have el : ∀ m, m ≤ k → lrF r ro (sqp sq k x) m = lrF r ro sq m := fun m hm => lrF_eq (fun i hi => sqp_n (by omega))
  have ew : dvF ds (sqp sq k x) (k + 1) = ds x := by show ds (sqp sq k x k) = _; rw [sqp_s]
  have ox := h.2.2.2 x hx hx2
  refine ⟨fun i hi => ?_, fun m hm c hc => ?_, fun i hi => ?_, fun c hc hn => ?_⟩
  · rw [ew]
    by_cases e : i = k
    · rw [e, sqp_s]; exact ⟨hx, by omega, by omega⟩
    · rw [sqp_n (by omega)]
      have := h.1 i (by omega)
      exact ⟨this.1, this.2.1, by omega⟩
  · rw [ev m (by omega), el m (by omega)]; exact h.2.1 m hm c hc
  · by_cases e : i = k
    · rw [e, sqp_s]
      rcases ox.2 with ⟨m, a1, a2, a3⟩ | ⟨q, _⟩
      · exact ⟨m, by omega, by rw [el m (by omega)]; exact a2, by rw [ev m (by omega), el m (by omega)]; exact a3⟩
      · omega
    · rw [sqp_n (by omega)]
      obtain ⟨m, a1, a2, a3⟩ := h.2.2.1 i (by omega)
      exact ⟨m, a1, by rw [el m (by omega)]; exact a2, by rw [ev m (by omega), el m (by omega)]; exact a3⟩
  · rw [ew]
    have hn' : ∀ i, i < k → sq i ≠ c := fun i hi => by have := hn i (by omega); rw [sqp_n hi] at this; exact this
    refine ⟨hmin c hc hn', Or.inl ?_⟩
    rcases (h.2.2.2 c hc hn').2 with ⟨m, a1, a2, a3⟩ | ⟨q, _⟩
    · exact ⟨m, a1, by rw [el m (by omega)]; exact a2, by rw [ev m (by omega), el m (by omega)]; exact a3⟩
    · omega
/-- the tolls behind a search: no pair above its cost, and those of the way reach it -/
theorem hung {n r k : Nat} {C : Nat → Nat → Int} {u v u' v' ro cf ds : Nat → Int} {sq : Nat → Nat} (h : DJ n r (k + 1) (k + 1) (fun i c => C i c - u i - v c) ro cf ds sq) (hov : ∀ i c, i < n → c < n → 0 ≤ C i c - u i - v c)
    (U1 : ∀ m, m ≤ k → u' (lrF r ro sq m) = u (lrF r ro sq m) + (ds (sq k) - dvF ds sq m)) (U2 : ∀ i, (∀ m, m ≤ k → lrF r ro sq m ≠ i) → u' i = u i)
    (V1 : ∀ i, i ≤ k → v' (sq i) = v (sq i) - (ds (sq k) - ds (sq i))) (V2 : ∀ c, c < n → (∀ i, i ≤ k → sq i ≠ c) → v' c = v c) :
    (∀ i c, i < n → c < n → 0 ≤ C i c - u' i - v' c) ∧ (∀ i, i ≤ k → ∃ m, m ≤ i ∧ cf (sq i) = (lrF r ro sq m : Int) ∧ C (lrF r ro sq m) (sq i) - u' (lrF r ro sq m) - v' (sq i) = 0) ∧
    (∀ m, m ≤ k → dvF ds sq m ≤ ds (sq k)) ∧ ∀ i, i ≤ k → ds (sq i) ≤ ds (sq k) := by
  have hw : ∀ i, i ≤ k → ds (sq i) ≤ ds (sq k) := fun i hi => (h.1 i (by omega)).2.2
  have hdm : ∀ m, m ≤ k → dvF ds sq m ≤ ds (sq k) := by
    intro m hm
    cases m with
    | zero => exact (h.1 k (by omega)).2.1
    | succ m => exact hw m (by omega)
  refine ⟨fun i c hi hc => ?_, fun i hi => ?_, hdm, hw⟩
  · have a := hov i c hi hc
    by_cases e : ∃ j, j ≤ k ∧ sq j = c
    · obtain ⟨j, hj, e⟩ := e
      have b := V1 j hj
      rw [e] at b
      have b' := hw j hj
      rw [e] at b'
      by_cases q : ∃ m, m ≤ k ∧ lrF r ro sq m = i
      · obtain ⟨m, hm, q⟩ := q
        have y := U1 m hm
        have z := h.2.1 m (by omega) c hc
        rw [q] at y z
        simp only at z
        omega
      · have y := U2 i (fun m hm z => q ⟨m, hm, z⟩)
        omega
    · have hn : ∀ j, j ≤ k → sq j ≠ c := fun j hj z => e ⟨j, hj, z⟩
      have b := V2 c hc hn
      have o : ds (sq k) ≤ ds c := (h.2.2.2 c hc (fun j hj => hn j (by omega))).1
      by_cases q : ∃ m, m ≤ k ∧ lrF r ro sq m = i
      · obtain ⟨m, hm, q⟩ := q
        have y := U1 m hm
        have z := h.2.1 m (by omega) c hc
        rw [q] at y z
        simp only at z
        omega
      · have y := U2 i (fun m hm z => q ⟨m, hm, z⟩)
        omega
  · obtain ⟨m, a1, a2, a3⟩ := h.2.2.1 i (by omega)
    have y := U1 m (by omega)
    have b := V1 i hi
    simp only at a3
    exact ⟨m, a1, a2, by omega⟩
def HI (σ : St) (n r : Nat) : Prop := BU σ n ∧ (∀ i j, i < n → j < n → 0 ≤ ovX σ i j) ∧ (∀ i, r ≤ i → i < n → σ.1 11 i = 0) ∧ (∀ j, j < n → tb (σ.1 3 3) j = false → σ.1 12 j = 0) ∧ Jp (fun i c => c < n ∧ ovX σ i c = 0) (fun _ => False) (fun i => i < r) (σ.1 18) (σ.1 19) (σ.1 3 3)
theorem HI.free {σ : St} {n r : Nat} (h : HI σ n r) (hr : r < n) : ∃ f, f < n ∧ tb (σ.1 3 3) f = false := by
  have hn := h.1.1
  by_cases q : ∃ f, f < n ∧ tb (σ.1 3 3) f = false
  · exact q
  · have all : ∀ c, c < n → tb (σ.1 3 3) c = true := fun c hc => by
      cases e : tb (σ.1 3 3) c with
      | true => rfl
      | false => exact absurd ⟨c, hc, e⟩ q
    have := fb_holes r n (fun c => (σ.1 19 c).toNat) (fun c hc => by
      obtain ⟨i, a1, a2, _⟩ := h.2.2.2.2.2.1 c (by omega) (all c hc) (fun z => z)
      simp only [a1, Int.toNat_natCast]; exact a2) (fun c c' hcc hc' e => by
      obtain ⟨i, a1, a2, a3⟩ := h.2.2.2.2.2.1 c (by omega) (all c (by omega)) (fun z => z)
      obtain ⟨i', b1, b2, b3⟩ := h.2.2.2.2.2.1 c' (by omega) (all c' hc') (fun z => z)
      simp only [a1, b1, Int.toNat_natCast] at e
      rw [e, b3] at a3
      omega)
    omega
theorem HI.fine {σ : St} {n r : Nat} (h : HI σ n r) (hr : r < n) : (∀ i, i < n → 0 ≤ σ.1 11 i ∧ σ.1 11 i ≤ 16001) ∧ ∀ j, j < n → -16001 ≤ σ.1 12 j ∧ σ.1 12 j ≤ 0 := by
  obtain ⟨f, f1, f2⟩ := h.free hr
  have hn := h.1.1
  have hu : ∀ i, i < n → 0 ≤ σ.1 11 i ∧ σ.1 11 i ≤ 16001 := fun i hi => by
    have a : 0 ≤ σ.1 10 (16 * i + f) - σ.1 11 i - σ.1 12 f := h.2.1 i f hi f1
    have b := h.2.2.2.1 f f1 f2
    have c := h.1.2.2.1 i f hi f1
    have e := h.1.2.2.2.1 i hi
    omega
  refine ⟨hu, fun j hj => ?_⟩
  have e := h.1.2.2.2.2 j hj
  cases q : tb (σ.1 3 3) j with
  | false => have := h.2.2.2.1 j hj q; omega
  | true =>
    obtain ⟨i, a1, a2, a3⟩ := h.2.2.2.2.2.1 j (by omega) q (fun z => z)
    obtain ⟨_, c, b1, b2, b3, b4, _⟩ := h.2.2.2.2.1 i a2
    have ec : c = j := by rw [b2] at a3; omega
    rw [ec] at b4
    have b5 : σ.1 10 (16 * i + j) - σ.1 11 i - σ.1 12 j = 0 := b4.2
    have c' := h.1.2.2.1 i j (by omega) hj
    have := hu i (by omega)
    omega
section Place
variable {G : GX} {d : Nat} {σ : St}
theorem turn_loop {Ret : Option AV → St → Prop} {R : Nat → List AV → List AV → St → Prop} (hM : AM G wdX (d + 1) mX1_turnOver Ret R) {n r k : Nat} (hn : n ≤ 16) (hr : r < n) (hk : k ≤ r) {ok : Nat → Nat → Prop} {ro0 : Nat → Int} {sq : Nat → Nat} (σ0 : St) (h6 : σ0.1 1 6 = (n : Int)) (hsq : ∀ i, i ≤ k → sq i < n) (hinj : ∀ i j, i < j → j ≤ k → sq i ≠ sq j)
    (hro : ∀ i, i < k → lrF r ro0 sq (i + 1) < r) (hroi : ∀ i j, i < j → j < k → lrF r ro0 sq (i + 1) ≠ lrF r ro0 sq (j + 1))
    (hcf : ∀ i, i ≤ k → ∃ m, m ≤ i ∧ σ0.1 14 (sq i) = (lrF r ro0 sq m : Int) ∧ ok (lrF r ro0 sq m) (sq i))
    (K : ∀ σ', Fr [3, 18, 19] σ0 σ' → (∀ c, c < 16 → tb (σ'.1 3 3) c = false → tb (σ0.1 3 3) c = false) → Jp ok (fun _ => False) (fun i => i < r + 1) (σ'.1 18) (σ'.1 19) (σ'.1 3 3) → Ret none σ') :
    ∀ i t : Nat, i ≤ k → t + i ≤ k → ∀ σ : St, Fr [3, 18, 19] σ0 σ → (∀ c, c < 16 → tb (σ.1 3 3) c = false → tb (σ0.1 3 3) c = false) → Jp ok (fun z => z = sq i) (fun i => i < r) (σ.1 18) (σ.1 19) (σ.1 3 3) → (∀ j, j < i → σ.1 18 (lrF r ro0 sq (j + 1)) = (sq j : Int) ∧ σ.1 19 (sq j) = (lrF r ro0 sq (j + 1) : Int)) → R 5 [vR 1, vI r, vN, vI (sq i : Nat), vI t, vN, vN] [] σ := by
  intro i
  induction i using Nat.strongRecOn with
  | _ i ih =>
    intro t hi ht σ f htk hJ hold
    have e6 : σ.1 1 6 = (n : Int) := by rw [f.at (by decide)]; exact h6
    have e14 : σ.1 14 = σ0.1 14 := f.at (by decide)
    obtain ⟨m, m1, m2, m3⟩ := hcf i hi
    have hs := hsq i hi
    have hlr : lrF r ro0 sq m < 16 := by
      cases m with
      | zero => show r < 16; omega
      | succ m => have := hro m (by omega); omega
    refine g_X1_turnOver_5 hM r (sq i : Nat) t σ ⟨fun q => by omega, fun _ => ⟨⟨by omega, by omega⟩, ?_⟩⟩
    rw [Int.toNat_natCast, e14, m2, Int.toNat_natCast]
    refine ⟨⟨by omega, by omega⟩, fun u1 eu => c_join hlr (by omega) (fun σ1 f1 g18 g19 g3 => ?_)⟩
    have tk1 : ∀ c, c < 16 → tb (σ1.1 3 3) c = false → tb (σ0.1 3 3) c = false := fun c hc q => by
      rw [g3, uf_s, tb_put _ (by omega) (by omega)] at q
      refine htk c hc ?_
      cases e : tb (σ.1 3 3) c with
      | false => rfl
      | true => rw [e] at q; simp at q
    cases m with
    | zero =>
      refine ⟨fun _ => K σ1 (f.tr f1) tk1 ?_, fun q => absurd rfl q⟩
      have := hJ.join (r := r) (c := sq i) (by omega) (by omega) (fun q => by omega) m3 (Or.inl rfl)
      rw [g18, g19, g3, uf_s]
      exact this.cg (fun z _ => ⟨fun q => q.elim, fun q => q.2 q.1⟩) (fun z => ⟨fun q => by
        by_cases e : z = r
        · exact Or.inr e
        · exact Or.inl (by omega), fun q => by
        rcases q with q | q <;> omega⟩)
    | succ m =>
      have hrm := hro m (by omega)
      have ho := hold m (by omega)
      have hsm := hsq m (by omega)
      have hne : sq m ≠ sq i := hinj m i (by omega) hi
      refine ⟨fun q => by omega, fun _ => ⟨fun _ => ⟨⟨by omega, by omega⟩, ?_⟩, fun q => by rw [eu, ho.1] at q; omega⟩⟩
      have et : ((t : Int) + 1) = ((t + 1 : Nat) : Int) := by omega
      rw [eu, ho.1, et]
      refine ih m (by omega) (t + 1) (by omega) (by omega) σ1 (f.tr f1) tk1 ?_ (fun j hj => ?_)
      · have j1 := hJ.off (r := lrF r ro0 sq (m + 1)) (c := sq m) ho.2 ho.1
        have j2 := j1.join (r := lrF r ro0 sq (m + 1)) (c := sq i) hlr (by omega) (fun q => q.2 rfl) m3 (Or.inl (Or.inl rfl))
        rw [g18, g19, g3, uf_s]
        refine j2.cg (fun z _ => ⟨fun q => ⟨Or.inr q, fun e => hne (by rw [← q, e])⟩, fun q => ?_⟩) (fun z => ⟨fun q => ?_, fun q => ?_⟩)
        · rcases q.1 with y | y
          · exact absurd y q.2
          · exact y
        · by_cases e : z = lrF r ro0 sq (m + 1)
          · exact Or.inr e
          · exact Or.inl ⟨q, e⟩
        · rcases q with q | q
          · exact q.1
          · rw [q]; exact hrm
      · rw [g18, g19, uf_n (hroi j m hj (by omega)), uf_n (hinj j i (by omega) hi)]
        exact hold j (by omega)
theorem c_turnOver {Q : St → Prop} {n r k : Nat} (hn : n ≤ 16) (hr : r < n) (hk : k ≤ r) {ok : Nat → Nat → Prop} {sq : Nat → Nat} (h6 : σ.1 1 6 = (n : Int)) (hsq : ∀ i, i ≤ k → sq i < n) (hinj : ∀ i j, i < j → j ≤ k → sq i ≠ sq j)
    (hcf : ∀ i, i ≤ k → ∃ m, m ≤ i ∧ σ.1 14 (sq i) = (lrF r (σ.1 19) sq m : Int) ∧ ok (lrF r (σ.1 19) sq m) (sq i)) (hJ : Jp ok (fun _ => False) (fun i => i < r) (σ.1 18) (σ.1 19) (σ.1 3 3)) (htk : ∀ i, i < k → tb (σ.1 3 3) (sq i) = true) (hfr : tb (σ.1 3 3) (sq k) = false)
    (K : ∀ σ', Fr [3, 18, 19] σ σ' → (∀ c, c < 16 → tb (σ'.1 3 3) c = false → tb (σ.1 3 3) c = false) → Jp ok (fun _ => False) (fun i => i < r + 1) (σ'.1 18) (σ'.1 19) (σ'.1 3 3) → Q σ') : conV G wdX (d + 1) mX1_turnOver [vR 1, vI r, vI (sq k : Nat)] σ Q := by
  refine conV.of (ls0 := [vR 1, vI r, vI (sq k : Nat), vN, vN, vN, vN]) rfl rfl (Nat.le_of_ble_eq_true rfl) (fun Ret R hret hM => g_X1_turnOver_0 hM r (sq k : Nat) σ ?_)
  have rows : ∀ i, i < k → ∃ r1 : Nat, σ.1 19 (sq i) = (r1 : Int) ∧ r1 < r ∧ σ.1 18 r1 = (sq i : Int) := fun i hi => hJ.2.1 (sq i) (by have := hsq i (by omega); omega) (htk i hi) (fun z => z)
  have lr : ∀ i, i < k → lrF r (σ.1 19) sq (i + 1) < r ∧ σ.1 18 (lrF r (σ.1 19) sq (i + 1)) = (sq i : Int) ∧ σ.1 19 (sq i) = (lrF r (σ.1 19) sq (i + 1) : Int) := fun i hi => by
    obtain ⟨r1, a1, a2, a3⟩ := rows i hi
    have e : lrF r (σ.1 19) sq (i + 1) = r1 := by show (σ.1 19 (sq i)).toNat = r1; rw [a1, Int.toNat_natCast]
    rw [e]
    exact ⟨a2, a3, a1⟩
  refine turn_loop hM hn hr hk σ h6 hsq hinj (fun i hi => (lr i hi).1) (fun i j hij hj e => ?_) hcf (fun σ' a b c => hret _ (K σ' a b c)) k 0 (Nat.le_refl _) (by omega) σ Fr.rfl' (fun _ _ q => q) ?_ (fun j hj => (lr j hj).2)
  · have a := (lr i (by omega)).2.1
    rw [e, (lr j hj).2.1] at a
    exact hinj i j hij (by omega) (by omega)
  · refine ⟨fun i hi => ?_, fun c hc q _ => hJ.2.1 c hc q (fun z => z), hJ.2.2⟩
    obtain ⟨q, c, a1, a2, a3, a4, a5, _⟩ := hJ.1 i hi
    exact ⟨q, c, a1, a2, a3, a4, a5, fun z => by rw [z, hfr] at a5; cases a5⟩
def PI (σ0 σ : St) (n r k : Nat) (sq : Nat → Nat) : Prop :=
  Fr [1, 13, 14] σ0 σ ∧ σ.1 1 6 = (n : Int) ∧ (∀ c, c < 32 → (tb (σ.1 1 7) c = true ↔ ∃ i, i < k ∧ sq i = c)) ∧ (∀ i, i < k → tb (σ0.1 3 3) (sq i) = true) ∧ (∀ i j, i < j → j < k → sq i ≠ sq j) ∧ DJ n r k k (ovX σ0) (σ0.1 19) (σ.1 14) (σ.1 13) sq ∧ dvF (σ.1 13) sq k ≤ 16001
theorem place_step {Ret : Option AV → St → Prop} {R : Nat → List AV → List AV → St → Prop} (hM : AM G wdX (d + 2) mX1_place Ret R) (σ0 : St) {n r : Nat} (hH : HI σ0 n r) (hr : r < n)
    (K : ∀ σ', Fr [1, 3, 11, 12, 13, 14, 18, 19] σ0 σ' → HI σ' n (r + 1) → Ret none σ') {k : Nat} (hk : k ≤ r)
    (nxt : k + 1 ≤ r → ∀ σ sq, PI σ0 σ n r (k + 1) sq → R 21 [vR 1, vI r, vI (lrF r (σ0.1 19) sq (k + 1) : Nat), vI (dvF (σ.1 13) sq (k + 1)), vI ((k + 1 : Nat) : Int), vN] [] σ) {sq : Nat → Nat} (hP : PI σ0 σ n r k sq) :
    R 21 [vR 1, vI r, vI (lrF r (σ0.1 19) sq k : Nat), vI (dvF (σ.1 13) sq k), vI k, vN] [] σ := by
  obtain ⟨f, e6, hrc, htk, hinj, hD, hway⟩ := hP
  have hn := hH.1.1
  obtain ⟨fu, fv⟩ := hH.fine hr
  have hJ := hH.2.2.2.2
  have rows : ∀ c, c < 16 → tb (σ0.1 3 3) c = true → ∃ r1 : Nat, σ0.1 19 c = (r1 : Int) ∧ r1 < r ∧ σ0.1 18 r1 = (c : Int) := fun c hc q => hJ.2.1 c hc q (fun z => z)
  have hlr : ∀ m, m ≤ k → lrF r (σ0.1 19) sq m < n := fun m hm => by
    cases m with
    | zero => exact hr
    | succ m =>
      obtain ⟨r1, a1, a2, _⟩ := rows (sq m) (by have := (hD.1 m (by omega)).1; omega) (htk m (by omega))
      show (σ0.1 19 (sq m)).toNat < n
      rw [a1, Int.toNat_natCast]; omega
  have hov : ∀ i c, i < n → c < n → 0 ≤ ovX σ0 i c ∧ ovX σ0 i c ≤ 32002 := fun i c hi hc => by
    have a := hH.1.2.2.1 i c hi hc
    have b := fu i hi
    have e := fv c hc
    refine ⟨hH.2.1 i c hi hc, ?_⟩
    show σ0.1 10 (16 * i + c) - σ0.1 11 i - σ0.1 12 c ≤ 32002
    omega
  have w0 := hD.w0
  have hbs : BU σ n := hH.1.fr (by rw [e6, hH.1.2.1]) (f.at (by decide)) (f.at (by decide)) (f.at (by decide))
  have eov : ∀ i c, ovX σ i c = ovX σ0 i c := fun i c => by show σ.1 10 _ - σ.1 11 _ - σ.1 12 _ = _; rw [f.at (by decide), f.at (by decide), f.at (by decide)]
  have unr : ∀ c, c < n → (rch σ c = false ↔ ∀ i, i < k → sq i ≠ c) := fun c hc => by
    have q := hrc c (by omega)
    constructor
    · intro z i hi e
      have := q.mpr ⟨i, hi, e⟩
      rw [show tb (σ.1 1 7) c = false from z] at this; cases this
    · intro z
      cases e : tb (σ.1 1 7) c with
      | false => exact e
      | true => obtain ⟨i, hi, y⟩ := q.mp e; exact absurd y (z i hi)
  refine g_X1_place_21 hM r _ _ k σ ⟨fun q => by omega, fun _ => ?_⟩
  refine c_look hbs (hlr k (Nat.le_refl _)) ⟨w0, by omega⟩ (fun σ1 f1 h1 => ?_)
  have e1 : σ1.1 1 = σ.1 1 := f1.at (by decide)
  have hD1 : DJ n r k (k + 1) (ovX σ0) (σ0.1 19) (σ1.1 14) (σ1.1 13) sq := by
    refine hD.look (fun c hc => ?_) (fun i hi => ?_) (fun c hc hn' => ?_)
    · have := hov _ c (hlr k (Nat.le_refl _)) hc
      exact ⟨this.1, by omega⟩
    · have hc := (hD.1 i hi).1
      exact (h1 (sq i) hc).2 (fun q => (unr _ hc).mp q.1 i hi rfl)
    · have z := h1 c hc
      have u := (unr c hc).mpr hn'
      rw [eov] at z
      exact ⟨fun q => z.1 ⟨u, q⟩, fun q => z.2 (fun y => y.2 q)⟩
  obtain ⟨fc, fc1, fc2⟩ := hH.free hr
  have fcu : ∀ i, i < k → sq i ≠ fc := fun i hi e => by
    have := htk i hi
    rw [e, fc2] at this; cases this
  have unr1 : ∀ c, c < n → (rch σ1 c = false ↔ ∀ i, i < k → sq i ≠ c) := fun c hc => by
    show tb (σ1.1 1 7) c = false ↔ _
    rw [e1]; exact unr c hc
  have d0 : ∀ c, c < n → σ1.1 13 c ≤ ovX σ0 r c := fun c hc => by
    have := hD1.2.1 0 (by omega) c hc
    have z : dvF (σ1.1 13) sq 0 + ovX σ0 (lrF r (σ0.1 19) sq 0) c = 0 + ovX σ0 r c := rfl
    omega
  refine c_nearest hn (by rw [e1]; exact e6) (fun c hc _ => ?_) ⟨fc, fc1, (unr1 fc fc1).mpr fcu⟩ (fun x hx hxu hmin => ?_)
  · have := d0 c hc
    have := hov r c hr hc
    omega
  have hx2 := (unr1 x hx).mp hxu
  have hD2 := hD1.pick hx hx2 (fun c hc z => hmin c hc ((unr1 c hc).mpr z))
  have hfx : σ1.1 13 x ≤ 16001 := by
    have a := hmin fc fc1 ((unr1 fc fc1).mpr fcu)
    have b := d0 fc fc1
    have c : ovX σ0 r fc = σ0.1 10 (16 * r + fc) - σ0.1 11 r - σ0.1 12 fc := rfl
    have c1 := hH.1.2.2.1 r fc hr fc1
    have c2 := hH.2.2.1 r (Nat.le_refl _) hr
    have c3 := hH.2.2.2.1 fc fc1 fc2
    omega
  have fr1 : Fr [1, 13, 14] σ0 σ1 := f.tr (f1.mono (by decide))
  have e19 : σ1.1 19 = σ0.1 19 := fr1.at (by decide)
  refine ⟨fun _ => ⟨⟨by omega, by omega⟩, ?_⟩, fun q => by omega⟩
  rw [Int.toNat_natCast, e19]
  have hinj2 : ∀ i j, i < j → j < k + 1 → sqp sq k x i ≠ sqp sq k x j := fun i j hij hj => by
    rw [sqp_n (by omega)]
    by_cases e : j = k
    · rw [e, sqp_s]; exact hx2 i (by omega)
    · rw [sqp_n (by omega)]; exact hinj i j hij (by omega)
  cases htx : tb (σ0.1 3 3) x with
  | true =>
    obtain ⟨r1, a1, a2, a3⟩ := rows x (by omega) htx
    have htk2 : ∀ i, i < k + 1 → tb (σ0.1 3 3) (sqp sq k x i) = true := fun i hi => by
      by_cases e : i = k
      · rw [e, sqp_s]; exact htx
      · rw [sqp_n (by omega)]; exact htk i (by omega)
    refine ⟨fun _ τ1 t1 => ⟨⟨by omega, by omega⟩, ?_⟩, fun q => by omega⟩
    have hk1 : k + 1 ≤ r := fb_holes r (k + 1) (fun i => (σ0.1 19 (sqp sq k x i)).toNat) (fun i hi => by
        obtain ⟨r2, b1, b2, _⟩ := rows (sqp sq k x i) (by have := (hD2.1 i hi).1; omega) (htk2 i hi)
        simp only [b1, Int.toNat_natCast]; exact b2) (fun i j hij hj e => by
        obtain ⟨r2, b1, b2, b3⟩ := rows (sqp sq k x i) (by have := (hD2.1 i (by omega)).1; omega) (htk2 i (by omega))
        obtain ⟨r3, c1, c2, c3⟩ := rows (sqp sq k x j) (by have := (hD2.1 j hj).1; omega) (htk2 j hj)
        simp only [b1, c1, Int.toNat_natCast] at e
        rw [e, c3] at b3
        exact hinj2 i j hij hj (by omega))
    have t19 : τ1.1 19 = σ0.1 19 := by rw [t1, sI_n _ (by decide), e19]
    have t13 : τ1.1 13 = σ1.1 13 := by rw [t1, sI_n _ (by decide)]
    have t14 : τ1.1 14 = σ1.1 14 := by rw [t1, sI_n _ (by decide)]
    have t1c : τ1.1 1 = uf (σ.1 1) 7 (bOr (σ.1 1 7) (bShl 1 (x : Int))) := by rw [t1, sI_s, e1]
    have := nxt hk1 τ1 (sqp sq k x) ⟨by rw [t1]; exact fr1.put (by decide), by rw [t1c, uf_n (by decide)]; exact e6, fun c hc => ?_, htk2, hinj2, by rw [t13, t14]; exact hD2, ?_⟩
    · have ek : ((k : Int) + 1) = ((k + 1 : Nat) : Int) := by omega
      have ew : dvF (τ1.1 13) (sqp sq k x) (k + 1) = σ1.1 13 x := by show τ1.1 13 (sqp sq k x k) = _; rw [sqp_s, t13]
      have el : lrF r (σ0.1 19) (sqp sq k x) (k + 1) = r1 := by show (σ0.1 19 (sqp sq k x k)).toNat = _; rw [sqp_s, a1, Int.toNat_natCast]
      rw [ew, el] at this
      rw [t19, a1, ek]
      exact this
    · rw [t1c, uf_s, tb_put _ (by omega) hc]
      constructor
      · intro q
        by_cases e : c = x
        · exact ⟨k, by omega, by rw [sqp_s, e]⟩
        · rw [decide_eq_false e, Bool.or_false] at q
          obtain ⟨i, hi, y⟩ := (hrc c hc).mp q
          exact ⟨i, by omega, by rw [sqp_n hi]; exact y⟩
      · rintro ⟨i, hi, y⟩
        by_cases e : i = k
        · rw [e, sqp_s] at y; rw [decide_eq_true y.symm, Bool.or_true]
        · rw [sqp_n (by omega)] at y
          rw [(hrc c hc).mpr ⟨i, by omega, y⟩, Bool.true_or]
    · show τ1.1 13 (sqp sq k x k) ≤ 16001
      rw [sqp_s, t13]; exact hfx
  | false =>
    have hro := hJ.2.2 x (by omega) htx
    refine ⟨fun q => absurd hro q, fun _ => ?_⟩
    have rc1 : ∀ c, c < n → rch σ1 c = true → ∃ i, i < k ∧ sq i = c := fun c hc q => (hrc c (by omega)).mp (by rw [← e1]; exact q)
    have e11 : σ1.1 11 = σ0.1 11 := fr1.at (by decide)
    have e12 : σ1.1 12 = σ0.1 12 := fr1.at (by decide)
    have dx0 : 0 ≤ σ1.1 13 x := by have := hD2.1 k (by omega); rw [sqp_s] at this; exact this.2.1
    have q13 : ∀ j, j < n → rch σ1 j = true → 0 ≤ σ1.1 13 j ∧ σ1.1 13 j ≤ σ1.1 13 x := fun j hj q => by
      obtain ⟨i, hi, e⟩ := rc1 j hj q
      have := hD2.1 i (by omega)
      rw [sqp_n hi, e, show dvF (σ1.1 13) (sqp sq k x) (k + 1) = σ1.1 13 x from by show σ1.1 13 (sqp sq k x k) = _; rw [sqp_s]] at this
      exact this.2
    have rr : ∀ j, j < n → rch σ1 j = true → ∃ r1 : Nat, σ0.1 19 j = (r1 : Int) ∧ r1 < r ∧ σ0.1 18 r1 = (j : Int) := fun j hj q => by
      obtain ⟨i, hi, e⟩ := rc1 j hj q
      exact rows j (by omega) (by rw [← e]; exact htk i hi)
    refine c_changeTolls hn hr (by rw [e1]; exact e6) ⟨dx0, by omega⟩ (fun i hi => by rw [e11]; have := fu i hi; omega) (fun j hj => by rw [e12]; have := fv j hj; omega) (fun j hj q => by have := q13 j hj q; omega) (fun j hj q => ?_) (fun i j hi hj qi qj e => ?_) (fun σ2 f2 hT => ?_)
    · obtain ⟨r1, a1, a2, _⟩ := rr j hj q
      rw [e19, a1]; omega
    · obtain ⟨r1, a1, a2, a3⟩ := rr i hi qi
      obtain ⟨r2, b1, b2, b3⟩ := rr j hj qj
      rw [e19, a1, b1, Int.toNat_natCast, Int.toNat_natCast] at e
      rw [e, b3] at a3
      omega
    -- the new tolls
    have U1 : ∀ m, m ≤ k → σ2.1 11 (lrF r (σ0.1 19) (sqp sq k x) m) = σ0.1 11 (lrF r (σ0.1 19) (sqp sq k x) m) + (σ1.1 13 (sqp sq k x k) - dvF (σ1.1 13) (sqp sq k x) m) := fun m hm => by
      rw [sqp_s]
      cases m with
      | zero =>
        show σ2.1 11 r = σ0.1 11 r + (σ1.1 13 x - 0)
        rw [hT.2.1, e11]; omega
      | succ m =>
        show σ2.1 11 (σ0.1 19 (sqp sq k x m)).toNat = σ0.1 11 (σ0.1 19 (sqp sq k x m)).toNat + (σ1.1 13 x - σ1.1 13 (sqp sq k x m))
        rw [sqp_n (by omega)]
        have hc := (hD.1 m (by omega)).1
        have := hT.2.2.1 (sq m) hc (by show tb (σ1.1 1 7) (sq m) = true; rw [e1]; exact (hrc _ (by omega)).mpr ⟨m, by omega, rfl⟩)
        rw [if_pos hc, e19, e11] at this
        exact this
    have U2 : ∀ i, (∀ m, m ≤ k → lrF r (σ0.1 19) (sqp sq k x) m ≠ i) → σ2.1 11 i = σ0.1 11 i := fun i hi => by
      rw [hT.2.2.2 i (fun e => hi 0 (by omega) e.symm) (fun j hj q e => ?_), e11]
      obtain ⟨m, hm, y⟩ := rc1 j hj q
      refine hi (m + 1) (by omega) ?_
      show (σ0.1 19 (sqp sq k x m)).toNat = i
      rw [sqp_n hm, y, ← e19]; exact e
    have V1 : ∀ i, i ≤ k → σ2.1 12 (sqp sq k x i) = σ0.1 12 (sqp sq k x i) - (σ1.1 13 (sqp sq k x k) - σ1.1 13 (sqp sq k x i)) := fun i hi => by
      rw [sqp_s]
      by_cases e : i = k
      · rw [e, sqp_s, hT.1 x hx, if_neg (fun q => by rw [hxu] at q; cases q.1), e12]; omega
      · rw [sqp_n (by omega)]
        have hc := (hD.1 i (by omega)).1
        rw [hT.1 _ hc, if_pos ⟨by show tb (σ1.1 1 7) (sq i) = true; rw [e1]; exact (hrc _ (by omega)).mpr ⟨i, by omega, rfl⟩, hc⟩, e12]
    have V2 : ∀ c, c < n → (∀ i, i ≤ k → sqp sq k x i ≠ c) → σ2.1 12 c = σ0.1 12 c := fun c hc q => by
      rw [hT.1 c hc, if_neg (fun z => ?_), e12]
      obtain ⟨m, hm, y⟩ := rc1 c hc z.1
      exact q m (by omega) (by rw [sqp_n hm]; exact y)
    obtain ⟨N1, N2, N3, N4⟩ := hung (C := fun i c => σ0.1 10 (16 * i + c)) (u := σ0.1 11) (v := σ0.1 12) hD2 (fun i c hi hc => hH.2.1 i c hi hc) U1 U2 V1 V2
    have fr2 : Fr [1, 11, 12, 13, 14] σ0 σ2 := (fr1.mono (by decide)).tr (f2.mono (by decide))
    have ov2 : ∀ i c, ovX σ2 i c = σ0.1 10 (16 * i + c) - σ2.1 11 i - σ2.1 12 c := fun i c => by show σ2.1 10 _ - _ - _ = _; rw [fr2.at (by decide)]
    have nb : ∀ i, i < n → 0 ≤ σ2.1 11 i ∧ σ2.1 11 i ≤ 40000 := fun i hi => by
      have b := fu i hi
      by_cases q : ∃ m, m ≤ k ∧ lrF r (σ0.1 19) (sqp sq k x) m = i
      · obtain ⟨m, hm, q⟩ := q
        have y := U1 m hm
        have z := N3 m hm
        rw [q] at y
        rw [sqp_s] at y z
        have dm : 0 ≤ dvF (σ1.1 13) (sqp sq k x) m := by
          cases m with
          | zero => exact Int.le_refl 0
          | succ m => exact (hD2.1 m (by omega)).2.1
        omega
      · rw [U2 i (fun m hm z => q ⟨m, hm, z⟩)]; omega
    have vb : ∀ j, j < n → -40000 ≤ σ2.1 12 j ∧ σ2.1 12 j ≤ 0 := fun j hj => by
      have b := fv j hj
      by_cases q : ∃ i, i ≤ k ∧ sqp sq k x i = j
      · obtain ⟨i, hi, q⟩ := q
        have y := V1 i hi
        have z := N4 i hi
        have w := (hD2.1 i (by omega)).2.1
        rw [q] at y z w
        rw [sqp_s] at y z
        omega
      · rw [V2 j hj (fun i hi z => q ⟨i, hi, z⟩)]; omega
    have bu2 : BU σ2 n := ⟨hn, by rw [f2.at (by decide), e1]; exact e6, fun i j hi hj => by rw [fr2.at (by decide)]; exact hH.1.2.2.1 i j hi hj, nb, vb⟩
    have J2 : Jp (fun i c => c < n ∧ ovX σ2 i c = 0) (fun _ => False) (fun i => i < r) (σ2.1 18) (σ2.1 19) (σ2.1 3 3) := by
      rw [fr2.at (by decide), fr2.at (by decide), fr2.at (by decide)]
      refine ⟨fun i hi => ?_, hJ.2.1, hJ.2.2⟩
      obtain ⟨q, c, a1, a2, a3, a4, a5, a6⟩ := hJ.1 i hi
      refine ⟨q, c, a1, a2, a3, ⟨a4.1, ?_⟩, a5, a6⟩
      rw [ov2]
      have a4' : σ0.1 10 (16 * i + c) - σ0.1 11 i - σ0.1 12 c = 0 := a4.2
      by_cases z : ∃ j, j < k ∧ sq j = c
      · obtain ⟨j, hj, z⟩ := z
        have y := U1 (j + 1) (by omega)
        have w := V1 j (by omega)
        have el : lrF r (σ0.1 19) (sqp sq k x) (j + 1) = i := by show (σ0.1 19 (sqp sq k x j)).toNat = i; rw [sqp_n hj, z, a3, Int.toNat_natCast]
        have ed : dvF (σ1.1 13) (sqp sq k x) (j + 1) = σ1.1 13 c := by show σ1.1 13 (sqp sq k x j) = _; rw [sqp_n hj, z]
        rw [el, ed] at y
        rw [sqp_n hj, z] at w
        omega
      · have hcx : c ≠ x := fun e => by rw [e, htx] at a5; cases a5
        rw [V2 c a4.1 (fun j hj e => ?_), U2 i (fun m hm e => ?_)]
        · exact a4'
        · cases m with
          | zero => have : r = i := e; omega
          | succ m =>
            have e' : (σ0.1 19 (sqp sq k x m)).toNat = i := e
            rw [sqp_n (by omega)] at e'
            obtain ⟨r1, b1, b2, b3⟩ := rows (sq m) (by have := (hD.1 m (by omega)).1; omega) (htk m (by omega))
            rw [b1, Int.toNat_natCast] at e'
            rw [e', a2] at b3
            exact z ⟨m, by omega, by omega⟩
        · by_cases y : j = k
          · rw [y, sqp_s] at e; exact hcx e.symm
          · rw [sqp_n (by omega)] at e; exact z ⟨j, by omega, e⟩
    have s3 : σ2.1 3 = σ0.1 3 := fr2.at (by decide)
    have s19 : σ2.1 19 = σ0.1 19 := fr2.at (by decide)
    have s14 : σ2.1 14 = σ1.1 14 := f2.at (by decide)
    have e1k : sqp sq k x k = x := sqp_s _ _ _
    have tgt : conV G wdX (d + 1) mX1_turnOver [vR 1, vI r, vI (sqp sq k x k : Nat)] σ2 (fun σ4 => Ret none σ4) := by
      refine c_turnOver hn hr hk bu2.2.1 (fun i hi => (hD2.1 i (by omega)).1) (fun i j hij hj => hinj2 i j hij (by omega)) (fun i hi => ?_) J2 (fun i hi => ?_) ?_ (fun σ3 f3 htk3 J3 => K σ3 ?_ ?_)
      · obtain ⟨m, m1, m2, m3⟩ := N2 i hi
        rw [s14, s19]
        exact ⟨m, m1, m2, (hD2.1 i (by omega)).1, by rw [ov2]; exact m3⟩
      · rw [s3, sqp_n hi]; exact htk i hi
      · rw [s3, e1k]; exact htx
      · exact (fr2.mono (by decide)).tr (f3.mono (by decide))
      · have o3 : ∀ i c, ovX σ3 i c = ovX σ2 i c := fun i c => by show σ3.1 10 _ - σ3.1 11 _ - σ3.1 12 _ = _; rw [f3.at (by decide), f3.at (by decide), f3.at (by decide)]
        refine ⟨bu2.fr (by rw [f3.at (by decide)]) (f3.at (by decide)) (f3.at (by decide)) (f3.at (by decide)), fun i j hi hj => ?_, fun i h1 h2 => ?_, fun j hj q => ?_, ?_⟩
        · rw [o3, ov2]; exact N1 i j hi hj
        · rw [f3.at (by decide), U2 i (fun m hm e => ?_)]
          · exact hH.2.2.1 i (by omega) h2
          · cases m with
            | zero => have : r = i := e; omega
            | succ m =>
              have e' : (σ0.1 19 (sqp sq k x m)).toNat = i := e
              rw [sqp_n (by omega)] at e'
              obtain ⟨r1, b1, b2, b3⟩ := rows (sq m) (by have := (hD.1 m (by omega)).1; omega) (htk m (by omega))
              rw [b1, Int.toNat_natCast] at e'
              omega
        · have q2 := htk3 j (by omega) q
          rw [s3] at q2
          rw [f3.at (by decide)]
          by_cases e : j = x
          · have := V1 k (Nat.le_refl _)
            rw [e1k] at this
            have z := hH.2.2.2.1 x hx htx
            rw [e]; omega
          · rw [V2 j hj (fun i hi y => ?_)]
            · exact hH.2.2.2.1 j hj q2
            · by_cases w : i = k
              · rw [w, e1k] at y; exact e y.symm
              · rw [sqp_n (by omega)] at y
                have := htk i (by omega)
                rw [y, q2] at this; cases this
        · exact J3.ok (fun i c _ _ _ h => ⟨h.1, by rw [o3]; exact h.2⟩)
    rw [e1k] at tgt
    exact tgt
theorem c_place {Q : St → Prop} {n r : Nat} (hH : HI σ n r) (hr : r < n) (K : ∀ σ', Fr [1, 3, 11, 12, 13, 14, 18, 19] σ σ' → HI σ' n (r + 1) → Q σ') : conV G wdX (d + 2) mX1_place [vR 1, vI r] σ Q := by
  refine conV.of (ls0 := [vR 1, vI r, vN, vN, vN, vN]) rfl rfl (Nat.le_of_ble_eq_true rfl) (fun Ret R hret hM => g_X1_place_0 hM r σ ?_)
  have hn := hH.1.1
  refine c_fill (n := 16) rfl (by decide) _ (fun σ1 a1 a2 a3 a4 τ1 t1 => ?_)
  have f0 : Fr [1, 13, 14] σ τ1 := by
    rw [t1]
    refine Fr.put (fun k hk => ?_) (by decide)
    simp only [List.mem_cons, List.not_mem_nil, or_false, not_or] at hk
    rw [a1 k hk.2.1, a2]; exact ⟨rfl, rfl⟩
  have loop : ∀ m k : Nat, k + m = r → ∀ σ' sq, PI σ σ' n r k sq → R 21 [vR 1, vI r, vI (lrF r (σ.1 19) sq k : Nat), vI (dvF (σ'.1 13) sq k), vI k, vN] [] σ' := by
    intro m
    induction m with
    | zero =>
      intro k hk σ' sq hP
      exact place_step (d := d) hM σ hH hr (fun σ'' a b => hret _ (K σ'' a b)) (by omega) (fun z => by omega) hP
    | succ m ih =>
      intro k hk σ' sq hP
      exact place_step (d := d) hM σ hH hr (fun σ'' a b => hret _ (K σ'' a b)) (by omega) (fun _ σ'' sq' hP' => ih (k + 1) (by omega) σ'' sq' hP') hP
  have t13 : ∀ j, j < 16 → τ1.1 13 j = 1000000 := fun j hj => by rw [t1, sI_n _ (by decide)]; exact a3 j hj
  have := loop r 0 (by omega) τ1 (fun _ => 0) ⟨f0, ?_, fun c _ => ?_, fun i hi => by omega, fun i j _ hj => by omega, ⟨fun i hi => by omega, fun m hm => by omega, fun i hi => by omega, fun c hc _ => ⟨?_, Or.inr ⟨rfl, t13 c (by omega)⟩⟩⟩, ?_⟩
  · exact this
  · rw [t1, sI_s, uf_n (by decide), a1 1 (by decide)]; exact hH.1.2.1
  · rw [t1, sI_s, uf_s, tb_0]
    exact ⟨fun q => by (cases q), fun ⟨i, hi, _⟩ => by omega⟩
  · show (0 : Int) ≤ _; rw [t13 c (by omega)]; decide
  · show (0 : Int) ≤ _; decide
end Place
