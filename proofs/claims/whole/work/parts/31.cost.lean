/-! ===== pairs of least cost: the steps ===== -/
abbrev ovX (σ : St) (i j : Nat) : Int := σ.1 10 (16 * i + j) - σ.1 11 i - σ.1 12 j
def BU (σ : St) (n : Nat) : Prop := n ≤ 16 ∧ σ.1 1 6 = (n : Int) ∧ (∀ i j, i < n → j < n → 0 ≤ σ.1 10 (16 * i + j) ∧ σ.1 10 (16 * i + j) ≤ 16001) ∧ (∀ i, i < n → 0 ≤ σ.1 11 i ∧ σ.1 11 i ≤ 40000) ∧ ∀ j, j < n → -40000 ≤ σ.1 12 j ∧ σ.1 12 j ≤ 0
theorem BU.fr {σ σ' : St} {n : Nat} (h : BU σ n) (e1 : σ'.1 1 6 = σ.1 1 6) (e10 : σ'.1 10 = σ.1 10) (e11 : σ'.1 11 = σ.1 11) (e12 : σ'.1 12 = σ.1 12) : BU σ' n := by
  unfold BU
  rw [e1, e10, e11, e12]
  exact h
theorem BU.ov {σ : St} {n : Nat} (h : BU σ n) {i j : Nat} (hi : i < n) (hj : j < n) : -40000 ≤ ovX σ i j ∧ ovX σ i j ≤ 56001 := by
  have a := h.2.2.1 i j hi hj
  have b := h.2.2.2.1 i hi
  have c := h.2.2.2.2 j hj
  show -40000 ≤ σ.1 10 (16 * i + j) - σ.1 11 i - σ.1 12 j ∧ σ.1 10 (16 * i + j) - σ.1 11 i - σ.1 12 j ≤ 56001
  exact ⟨by omega, by omega⟩
section Cost
variable {G : GX} {d : Nat} {σ : St} {Q : Int → St → Prop}
theorem c_over {n i j : Nat} (h : BU σ n) (hi : i < n) (hj : j < n) (K : Q (ovX σ i j) σ) : conI G wdX d mX1_over [vR 1, vI i, vI j] σ Q := by
  refine conI.of (ls0 := [vR 1, vI i, vI j]) rfl rfl (Nat.le_of_ble_eq_true rfl) (fun Ret R hret hM => g_X1_over_0 hM i j σ ?_)
  have e : ((i : Int) * 16 + (j : Int)).toNat = 16 * i + j := by omega
  have hn := h.1
  have a := h.2.2.1 i j hi hj
  have b := h.2.2.2.1 i hi
  have c := h.2.2.2.2 j hj
  rw [e, Int.toNat_natCast, Int.toNat_natCast]
  exact ⟨⟨by omega, by omega⟩, ⟨by omega, by omega⟩, ⟨by omega, by omega⟩, ⟨by omega, by omega⟩, ⟨by omega, by omega⟩, ⟨by omega, by omega⟩, ⟨by omega, by omega⟩, hret _ _ K⟩
abbrev rch (σ : St) (c : Nat) : Bool := tb (σ.1 1 7) c
theorem look_loop {Ret : Option AV → St → Prop} {R : Nat → List AV → List AV → St → Prop} (hM : AM G wdX (d + 1) mX1_look Ret R) (σ0 : St) {n : Nat} (hb : BU σ0 n) {fr : Nat} (hfr : fr < n) {way : Int} (hw : 0 ≤ way ∧ way ≤ 100000)
    (K : ∀ σ', Fr [13, 14] σ0 σ' → (∀ c, c < n → (rch σ0 c = false ∧ ¬ σ0.1 13 c ≤ way + ovX σ0 fr c → σ'.1 13 c = way + ovX σ0 fr c ∧ σ'.1 14 c = (fr : Int)) ∧ (¬ (rch σ0 c = false ∧ ¬ σ0.1 13 c ≤ way + ovX σ0 fr c) → σ'.1 13 c = σ0.1 13 c ∧ σ'.1 14 c = σ0.1 14 c)) → Ret none σ') :
    ∀ m c : Nat, c + m = n → ∀ σ : St, Fr [13, 14] σ0 σ → (∀ j, j < c → (rch σ0 j = false ∧ ¬ σ0.1 13 j ≤ way + ovX σ0 fr j → σ.1 13 j = way + ovX σ0 fr j ∧ σ.1 14 j = (fr : Int)) ∧ (¬ (rch σ0 j = false ∧ ¬ σ0.1 13 j ≤ way + ovX σ0 fr j) → σ.1 13 j = σ0.1 13 j ∧ σ.1 14 j = σ0.1 14 j)) → (∀ j, c ≤ j → σ.1 13 j = σ0.1 13 j ∧ σ.1 14 j = σ0.1 14 j) → R 2 [vR 1, vI fr, vI way, vI c, vN] [] σ := by
  have hn := hb.1
  intro m
  induction m with
  | zero =>
    intro c hc σ f h1 h2
    have e1 : σ.1 1 = σ0.1 1 := f.at (by decide)
    have e6 : σ.1 1 6 = (n : Int) := by rw [e1]; exact hb.2.1
    have e : c = n := by omega
    subst e
    exact g_X1_look_2 hM fr way c σ ⟨fun _ => K σ f h1, fun q => by omega⟩
  | succ m ih =>
    intro c hc σ f h1 h2
    have e1 : σ.1 1 = σ0.1 1 := f.at (by decide)
    have e6 : σ.1 1 6 = (n : Int) := by rw [e1]; exact hb.2.1
    have hbs : BU σ n := hb.fr (by rw [e1]) (f.at (by decide)) (f.at (by decide)) (f.at (by decide))
    have eo : ovX σ fr c = ovX σ0 fr c := by show σ.1 10 _ - σ.1 11 _ - σ.1 12 _ = _; rw [f.at (by decide), f.at (by decide), f.at (by decide)]
    have ec : ((c : Int) + 1) = ((c + 1 : Nat) : Int) := by omega
    have hov := hb.ov hfr (show c < n by omega)
    have skip : ¬ (rch σ0 c = false ∧ ¬ σ0.1 13 c ≤ way + ovX σ0 fr c) → R 2 [vR 1, vI fr, vI way, vI ((c : Int) + 1), vN] [] σ := fun q => by
      rw [ec]
      refine ih (c + 1) (by omega) σ f (fun j hj => ?_) (fun j hj => h2 j (by omega))
      by_cases e : j = c
      · rw [e]; exact ⟨fun z => absurd z q, fun _ => h2 c (by omega)⟩
      · exact h1 j (by omega)
    refine g_X1_look_2 hM fr way c σ ⟨fun q => by omega, fun _ => ?_⟩
    rw [bit1 _ (by omega), e1]
    cases hr : tb (σ0.1 1 7) c with
    | true => exact ⟨fun _ => ⟨⟨by omega, by omega⟩, skip (fun q => by rw [show rch σ0 c = true from hr] at q; cases q.1)⟩, fun q => by simp at q⟩
    | false =>
      refine ⟨fun q => by simp at q, fun _ => c_over hbs hfr (by omega) ?_⟩
      rw [eo, Int.toNat_natCast, (h2 c (by omega)).1]
      refine ⟨⟨by omega, by omega⟩, ⟨by omega, by omega⟩, fun q => ⟨⟨by omega, by omega⟩, skip (fun z => z.2 q)⟩, fun q τ1 t1 τ2 t2 => ⟨⟨by omega, by omega⟩, ?_⟩⟩
      rw [ec]
      have k13 : τ2.1 13 = uf (σ.1 13) c (way + ovX σ0 fr c) := by rw [t2, sI_n _ (by decide), t1, sI_s]
      have k14 : τ2.1 14 = uf (σ.1 14) c fr := by rw [t2, sI_s, t1, sI_n _ (by decide)]
      refine ih (c + 1) (by omega) τ2 (by rw [t2, t1]; exact (f.put (by decide)).put (by decide)) (fun j hj => ?_) (fun j hj => ?_)
      · rw [k13, k14]
        by_cases e : j = c
        · rw [e, uf_s, uf_s]; exact ⟨fun _ => ⟨rfl, rfl⟩, fun z => absurd ⟨hr, q⟩ z⟩
        · rw [uf_n e, uf_n e]; exact h1 j (by omega)
      · rw [k13, k14, uf_n (by omega), uf_n (by omega)]; exact h2 j (by omega)
theorem c_look {Q : St → Prop} {n : Nat} (hb : BU σ n) {fr : Nat} (hfr : fr < n) {way : Int} (hw : 0 ≤ way ∧ way ≤ 100000)
    (K : ∀ σ', Fr [13, 14] σ σ' → (∀ c, c < n → (rch σ c = false ∧ ¬ σ.1 13 c ≤ way + ovX σ fr c → σ'.1 13 c = way + ovX σ fr c ∧ σ'.1 14 c = (fr : Int)) ∧ (¬ (rch σ c = false ∧ ¬ σ.1 13 c ≤ way + ovX σ fr c) → σ'.1 13 c = σ.1 13 c ∧ σ'.1 14 c = σ.1 14 c)) → Q σ') : conV G wdX (d + 1) mX1_look [vR 1, vI fr, vI way] σ Q := by
  refine conV.of (ls0 := [vR 1, vI fr, vI way, vN, vN]) rfl rfl (Nat.le_of_ble_eq_true rfl) (fun Ret R hret hM => g_X1_look_0 hM fr way σ ?_)
  exact look_loop hM σ hb hfr hw (fun σ' a b => hret _ (K σ' a b)) n 0 (by omega) σ Fr.rfl' (fun j hj => by omega) (fun _ _ => ⟨rfl, rfl⟩)
theorem nearest_loop {Ret : Option AV → St → Prop} {R : Nat → List AV → List AV → St → Prop} (hM : AM G wdX d mX1_nearest Ret R) {n : Nat} (hn : n ≤ 16) (h6 : σ.1 1 6 = (n : Int)) (hd : ∀ c, c < n → rch σ c = false → σ.1 13 c < 1000000) (hex : ∃ c, c < n ∧ rch σ c = false)
    (K : ∀ x : Nat, x < n → rch σ x = false → (∀ c, c < n → rch σ c = false → σ.1 13 x ≤ σ.1 13 c) → Ret (some (vI x)) σ) :
    ∀ m c : Nat, c + m = n → ∀ b l : Int, (b = -1 ∧ l = 1000000 ∧ (∀ j, j < c → rch σ j = true)) ∨ (∃ x : Nat, b = (x : Int) ∧ l = σ.1 13 x ∧ x < c ∧ rch σ x = false ∧ ∀ j, j < c → rch σ j = false → σ.1 13 x ≤ σ.1 13 j) → R 7 [vR 1, vI b, vI l, vI c, vN] [] σ := by
  intro m
  induction m with
  | zero =>
    intro c hc b l h
    have e : c = n := by omega
    subst e
    refine g_X1_nearest_7 hM b l c σ ⟨fun _ => ?_, fun q => by omega⟩
    rcases h with ⟨_, _, h⟩ | ⟨x, rfl, _, h2, h3, h4⟩
    · obtain ⟨j, hj, q⟩ := hex
      rw [h j hj] at q; cases q
    · exact K x h2 h3 h4
  | succ m ih =>
    intro c hc b l h
    have ec : ((c : Int) + 1) = ((c + 1 : Nat) : Int) := by omega
    have hl : l ≤ 1000000 := by
      rcases h with ⟨_, h, _⟩ | ⟨x, _, h1, h2, h3, _⟩
      · omega
      · have := hd x (by omega) h3; omega
    refine g_X1_nearest_7 hM b l c σ ⟨fun q => by omega, fun _ => ?_⟩
    rw [bit1 _ (by omega), ec]
    cases hr : tb (σ.1 1 7) c with
    | true =>
      refine ⟨fun _ => ⟨⟨by omega, by omega⟩, ih (c + 1) (by omega) b l ?_⟩, fun q => by simp at q⟩
      rcases h with ⟨h1, h2, h3⟩ | ⟨x, h1, h2, h3, h4, h5⟩
      · refine Or.inl ⟨h1, h2, fun j hj => ?_⟩
        by_cases e : j = c
        · rw [e]; exact hr
        · exact h3 j (by omega)
      · refine Or.inr ⟨x, h1, h2, by omega, h4, fun j hj q => ?_⟩
        by_cases e : j = c
        · rw [e, show rch σ c = true from hr] at q; cases q
        · exact h5 j (by omega) q
    | false =>
      have take : σ.1 13 c ≤ l → R 7 [vR 1, vI c, vI (σ.1 13 c), vI ((c + 1 : Nat) : Int), vN] [] σ := fun hle => by
        refine ih (c + 1) (by omega) c (σ.1 13 c) (Or.inr ⟨c, rfl, rfl, by omega, hr, fun j hj q => ?_⟩)
        by_cases e : j = c
        · rw [e]; omega
        · rcases h with ⟨h1, h2, h3⟩ | ⟨x, h1, h2, h3, h4, h5⟩
          · rw [h3 j (by omega)] at q; cases q
          · have := h5 j (by omega) q; omega
      have keep : l ≤ σ.1 13 c → ∃ x : Nat, b = (x : Int) ∧ l = σ.1 13 x ∧ x < c + 1 ∧ rch σ x = false ∧ ∀ j, j < c + 1 → rch σ j = false → σ.1 13 x ≤ σ.1 13 j := fun hle => by
        rcases h with ⟨h1, h2, h3⟩ | ⟨x, h1, h2, h3, h4, h5⟩
        · have := hd c (by omega) hr; omega
        · refine ⟨x, h1, h2, by omega, h4, fun j hj q => ?_⟩
          by_cases e : j = c
          · rw [e]; omega
          · exact h5 j (by omega) q
      refine ⟨fun q => by simp at q, fun _ => ⟨⟨by omega, by omega⟩, ?_⟩⟩
      rw [Int.toNat_natCast]
      refine ⟨fun q => ⟨⟨by omega, by omega⟩, ih (c + 1) (by omega) b l (Or.inr (keep (by omega)))⟩, fun q => ⟨fun _ => ?_, fun _ => ?_⟩⟩
      · refine g_X1_nearest_54 hM b l c 0 σ ⟨fun z => absurd rfl z, fun _ => ⟨⟨by omega, by omega⟩, ?_⟩⟩
        rw [Int.toNat_natCast, ec]
        exact ⟨fun z => ⟨⟨by omega, by omega⟩, ih (c + 1) (by omega) b l (Or.inr (keep z))⟩, fun z => ⟨⟨by omega, by omega⟩, take (by omega)⟩⟩
      · refine g_X1_nearest_54 hM b l c 1 σ ⟨fun _ => ⟨⟨by omega, by omega⟩, ⟨by omega, by omega⟩, ?_⟩, fun z => by omega⟩
        rw [Int.toNat_natCast, ec]
        exact take (by omega)
theorem c_nearest {n : Nat} (hn : n ≤ 16) (h6 : σ.1 1 6 = (n : Int)) (hd : ∀ c, c < n → rch σ c = false → σ.1 13 c < 1000000) (hex : ∃ c, c < n ∧ rch σ c = false)
    (K : ∀ x : Nat, x < n → rch σ x = false → (∀ c, c < n → rch σ c = false → σ.1 13 x ≤ σ.1 13 c) → Q x σ) : conI G wdX d mX1_nearest [vR 1] σ Q := by
  refine conI.of (ls0 := [vR 1, vN, vN, vN, vN]) rfl rfl (Nat.le_of_ble_eq_true rfl) (fun Ret R hret hM => g_X1_nearest_0 hM σ ?_)
  exact nearest_loop hM hn h6 hd hex (fun x a b c => hret _ _ (K x a b c)) n 0 (by omega) (-1) 1000000 (Or.inl ⟨rfl, rfl, fun j hj => by omega⟩)
/-- tolls, when the first columns are changed -/
def Tl (σ0 σ : St) (n r c : Nat) (w : Int) : Prop :=
  (∀ j, j < n → σ.1 12 j = if rch σ0 j = true ∧ j < c then σ0.1 12 j - (w - σ0.1 13 j) else σ0.1 12 j) ∧ σ.1 11 r = σ0.1 11 r + w ∧
  (∀ j, j < n → rch σ0 j = true → σ.1 11 (σ0.1 19 j).toNat = if j < c then σ0.1 11 (σ0.1 19 j).toNat + (w - σ0.1 13 j) else σ0.1 11 (σ0.1 19 j).toNat) ∧
  ∀ i, i ≠ r → (∀ j, j < n → rch σ0 j = true → (σ0.1 19 j).toNat ≠ i) → σ.1 11 i = σ0.1 11 i
theorem tolls_loop {Ret : Option AV → St → Prop} {R : Nat → List AV → List AV → St → Prop} (hM : AM G wdX d mX1_changeTolls Ret R) (σ0 : St) {n r : Nat} (hn : n ≤ 16) (hr : r < n) (h6 : σ0.1 1 6 = (n : Int)) {w : Int} (hw : 0 ≤ w ∧ w ≤ 100000)
    (hu : ∀ i, i < n → 0 ≤ σ0.1 11 i ∧ σ0.1 11 i ≤ 100000) (hv : ∀ j, j < n → -100000 ≤ σ0.1 12 j ∧ σ0.1 12 j ≤ 0) (hds : ∀ j, j < n → rch σ0 j = true → 0 ≤ σ0.1 13 j ∧ σ0.1 13 j ≤ 100000)
    (hro : ∀ j, j < n → rch σ0 j = true → 0 ≤ σ0.1 19 j ∧ σ0.1 19 j < n ∧ (σ0.1 19 j).toNat ≠ r) (hinj : ∀ i j, i < n → j < n → rch σ0 i = true → rch σ0 j = true → (σ0.1 19 i).toNat = (σ0.1 19 j).toNat → i = j)
    (K : ∀ σ', Fr [11, 12] σ0 σ' → Tl σ0 σ' n r n w → Ret none σ') :
    ∀ m c : Nat, c + m = n → ∀ σ : St, Fr [11, 12] σ0 σ → Tl σ0 σ n r c w → R 12 [vR 1, vN, vI w, vI c, vN] [] σ := by
  intro m
  induction m with
  | zero =>
    intro c hc σ f h
    have e6 : σ.1 1 6 = (n : Int) := by rw [f.at (by decide)]; exact h6
    have e : c = n := by omega
    subst e
    exact g_X1_changeTolls_12 hM w c σ ⟨fun _ => K σ f h, fun q => by omega⟩
  | succ m ih =>
    intro c hc σ f h
    have e1 : σ.1 1 = σ0.1 1 := f.at (by decide)
    have e13 : σ.1 13 = σ0.1 13 := f.at (by decide)
    have e19 : σ.1 19 = σ0.1 19 := f.at (by decide)
    have e6 : σ.1 1 6 = (n : Int) := by rw [e1]; exact h6
    have ec : ((c : Int) + 1) = ((c + 1 : Nat) : Int) := by omega
    refine g_X1_changeTolls_12 hM w c σ ⟨fun q => by omega, fun _ => ?_⟩
    rw [bit1 _ (by omega), e1, ec]
    cases hrc : tb (σ0.1 1 7) c with
    | false =>
      refine ⟨fun _ => ⟨⟨by omega, by omega⟩, ih (c + 1) (by omega) σ f ⟨fun j hj => ?_, h.2.1, fun j hj q => ?_, h.2.2.2⟩⟩, fun q => by simp at q⟩
      · rw [h.1 j hj]
        by_cases e : j = c
        · rw [e, if_neg (fun q => by rw [show rch σ0 c = false from hrc] at q; cases q.1), if_neg (fun q => by rw [show rch σ0 c = false from hrc] at q; cases q.1)]
        · by_cases z : rch σ0 j = true ∧ j < c
          · rw [if_pos z, if_pos ⟨z.1, by omega⟩]
          · rw [if_neg z, if_neg (fun y => z ⟨y.1, by omega⟩)]
      · rw [h.2.2.1 j hj q]
        have ne : j ≠ c := fun e => by rw [e, show rch σ0 c = false from hrc] at q; cases q
        by_cases z : j < c
        · rw [if_pos z, if_pos (by omega)]
        · rw [if_neg z, if_neg (by omega)]
    | true =>
      have hrc' : rch σ0 c = true := hrc
      refine ⟨fun q => by simp at q, fun _ => ⟨⟨by omega, by omega⟩, ?_⟩⟩
      rw [Int.toNat_natCast, e13, e19]
      have d1 := hds c (by omega) hrc'
      have d2 := hro c (by omega) hrc'
      have d3 := hu (σ0.1 19 c).toNat (by omega)
      have d4 := hv c (by omega)
      have q1 := h.2.2.1 c (by omega) hrc'
      rw [if_neg (by omega)] at q1
      have q2 := h.1 c (by omega)
      rw [if_neg (by omega)] at q2
      rw [q1]
      refine ⟨⟨by omega, by omega⟩, fun u1 eu => ⟨⟨by omega, by omega⟩, ⟨by omega, by omega⟩, fun τ1 t1 => ?_⟩⟩
      have k12 : τ1.1 12 = σ.1 12 := by rw [t1, sI_n _ (by decide)]
      rw [k12, q2]
      refine ⟨⟨by omega, by omega⟩, fun τ2 t2 => ⟨⟨by omega, by omega⟩, ?_⟩⟩
      have k11 : τ2.1 11 = uf (σ.1 11) (σ0.1 19 c).toNat (σ0.1 11 (σ0.1 19 c).toNat + u1) := by rw [t2, sI_n _ (by decide), t1, sI_s]
      have k12' : τ2.1 12 = uf (σ.1 12) c (σ0.1 12 c - u1) := by rw [t2, sI_s, k12]
      refine ih (c + 1) (by omega) τ2 (by rw [t2, t1]; exact (f.put (by decide)).put (by decide)) ⟨fun j hj => ?_, ?_, fun j hj q => ?_, fun i hi q => ?_⟩
      · rw [k12']
        by_cases e : j = c
        · rw [e, uf_s, if_pos ⟨hrc', by omega⟩, eu]
        · rw [uf_n e, h.1 j hj]
          by_cases z : rch σ0 j = true ∧ j < c
          · rw [if_pos z, if_pos ⟨z.1, by omega⟩]
          · rw [if_neg z, if_neg (fun y => z ⟨y.1, by omega⟩)]
      · rw [k11, uf_n (fun e => d2.2.2 e.symm)]; exact h.2.1
      · rw [k11]
        by_cases e : j = c
        · rw [e, uf_s, if_pos (by omega), eu]
        · rw [uf_n (fun z => e (hinj j c hj (by omega) q hrc' z)), h.2.2.1 j hj q]
          by_cases z : j < c
          · rw [if_pos z, if_pos (by omega)]
          · rw [if_neg z, if_neg (by omega)]
      · rw [k11, uf_n (fun z => q c (by omega) hrc' z.symm)]
        exact h.2.2.2 i hi q
theorem c_changeTolls {Q : St → Prop} {n r : Nat} (hn : n ≤ 16) (hr : r < n) (h6 : σ.1 1 6 = (n : Int)) {w : Int} (hw : 0 ≤ w ∧ w ≤ 100000)
    (hu : ∀ i, i < n → 0 ≤ σ.1 11 i ∧ σ.1 11 i ≤ 100000) (hv : ∀ j, j < n → -100000 ≤ σ.1 12 j ∧ σ.1 12 j ≤ 0) (hds : ∀ j, j < n → rch σ j = true → 0 ≤ σ.1 13 j ∧ σ.1 13 j ≤ 100000)
    (hro : ∀ j, j < n → rch σ j = true → 0 ≤ σ.1 19 j ∧ σ.1 19 j < n ∧ (σ.1 19 j).toNat ≠ r) (hinj : ∀ i j, i < n → j < n → rch σ i = true → rch σ j = true → (σ.1 19 i).toNat = (σ.1 19 j).toNat → i = j)
    (K : ∀ σ', Fr [11, 12] σ σ' → Tl σ σ' n r n w → Q σ') : conV G wdX d mX1_changeTolls [vR 1, vI r, vI w] σ Q := by
  refine conV.of (ls0 := [vR 1, vI r, vI w, vN, vN]) rfl rfl (Nat.le_of_ble_eq_true rfl) (fun Ret R hret hM => g_X1_changeTolls_0 hM r w σ ?_)
  have a := hu r hr
  rw [Int.toNat_natCast]
  refine ⟨⟨by omega, by omega⟩, ⟨by omega, by omega⟩, fun τ1 t1 => ?_⟩
  have fr1 : Fr [11, 12] σ τ1 := by rw [t1]; exact Fr.one (by decide)
  have k11 : τ1.1 11 = uf (σ.1 11) r (σ.1 11 r + w) := by rw [t1, sI_s]
  refine tolls_loop hM σ hn hr h6 hw hu hv hds hro hinj (fun σ' a b => hret _ (K σ' a b)) n 0 (by omega) τ1 fr1 ⟨fun j hj => ?_, ?_, fun j hj q => ?_, fun i hi _ => ?_⟩
  · rw [if_neg (by omega), t1, sI_n _ (by decide)]
  · rw [k11, uf_s]
  · rw [if_neg (by omega), k11, uf_n (hro j hj q).2.2]
  · rw [k11, uf_n hi]
end Cost
