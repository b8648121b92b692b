/-! ===== the most pairs, and a pair that is bound ===== -/
theorem Jp.free {ok : Nat → Nat → Prop} {X B : Nat → Prop} {co ro : Nat → Int} {tk : Int} (h : Jp ok X B co ro tk) {c : Nat} (hc : c < 16) (hx : X c) : Jp ok (fun z => X z ∧ z ≠ c) B co (uf ro c (-1)) (bAnd tk (bXor (bShl 1 (c : Int)) (-1))) := by
  have ht : ∀ i, i < 16 → tb (bAnd tk (bXor (bShl 1 (c : Int)) (-1))) i = (tb tk i && !decide (i = c)) := fun i hi => by rw [tb_and, tb_not _ (by omega), tb_shl1 (by omega) (by omega)]
  refine ⟨fun r hr => ?_, fun c' hc' ht' hx' => ?_, fun c' hc' ht' => ?_⟩
  · obtain ⟨q, c1, a1, a2, a3, a4, a5, a6⟩ := h.1 r hr
    have ne : c1 ≠ c := fun e => a6 (by rw [e]; exact hx)
    exact ⟨q, c1, a1, a2, by rw [uf_n ne]; exact a3, a4, by rw [ht c1 a1, a5, decide_eq_false ne]; rfl, fun z => a6 z.1⟩
  · rw [ht c' hc'] at ht'
    have e : c' ≠ c := fun z => by rw [decide_eq_true z] at ht'; simp at ht'
    rw [decide_eq_false e] at ht'
    simp only [Bool.not_false, Bool.and_true] at ht'
    obtain ⟨r1, a1, a2, a3⟩ := h.2.1 c' hc' ht' (fun z => hx' ⟨z, e⟩)
    exact ⟨r1, by rw [uf_n e]; exact a1, a2, a3⟩
  · by_cases e : c' = c
    · rw [e, uf_s]
    · rw [ht c' hc', decide_eq_false e] at ht'
      simp only [Bool.not_false, Bool.and_true] at ht'
      rw [uf_n e]
      exact h.2.2 c' hc' ht'
noncomputable def mtB (B : Nat → Prop) (co : Nat → Int) : Nat → Int := fun r => if cB (B r) = true then co r else -1
theorem mt_1 {B : Nat → Prop} {co : Nat → Int} {r : Nat} (h : B r) : mtB B co r = co r := if_pos (cB_iff.mpr h)
theorem mt_0 {B : Nat → Prop} {co : Nat → Int} {r : Nat} (h : ¬ B r) : mtB B co r = -1 := if_neg (fun q => h (cB_iff.mp q))
theorem Jp.okm {ok : Nat → Nat → Prop} {B : Nat → Prop} {co ro : Nat → Int} {tk : Int} (h : Jp ok (fun _ => False) B co ro tk) : OkP 16 ok (mtB B co) ∧ ∀ r, 0 ≤ mtB B co r ↔ B r := by
  have hz : ∀ r, 0 ≤ mtB B co r ↔ B r := fun r => by
    by_cases q : B r
    · obtain ⟨_, c, _, a2, _⟩ := h.1 r q
      rw [mt_1 q, a2]
      exact ⟨fun _ => q, fun _ => by omega⟩
    · rw [mt_0 q]
      exact ⟨fun z => by omega, fun z => absurd z q⟩
  refine ⟨⟨fun r _ => ?_, fun i j _ _ h0 e => ?_⟩, hz⟩
  · by_cases q : B r
    · obtain ⟨_, c, a1, a2, a3, a4, _⟩ := h.1 r q
      rw [mt_1 q, a2, Int.toNat_natCast]
      exact Or.inr ⟨by omega, by omega, a4⟩
    · exact Or.inl (mt_0 q)
  · have bi := (hz i).mp h0
    have bj := (hz j).mp (by rw [← e]; exact h0)
    rw [mt_1 bi, mt_1 bj] at e
    obtain ⟨_, c, _, a2, a3, _⟩ := h.1 i bi
    obtain ⟨_, c', _, b2, b3, _⟩ := h.1 j bj
    rw [a2, b2] at e
    have e' : c = c' := by omega
    rw [e', b3] at a3
    omega
theorem Jp.cntm {ok : Nat → Nat → Prop} {B : Nat → Prop} {co ro : Nat → Int} {tk : Int} (h : Jp ok (fun _ => False) B co ro tk) : cnt (mtB B co) = fb_ct (fun r => cB (B r)) 16 := by
  refine fb_ct_cong (fun r _ => ?_)
  have := h.okm.2 r
  by_cases q : B r
  · rw [decide_eq_true (this.mpr q), cB_iff.mpr q]
  · rw [decide_eq_false (fun z => q (this.mp z))]
    cases e : cB (B r) with
    | false => rfl
    | true => exact absurd (cB_iff.mp e) q
abbrev opX (σ : St) : Nat → Nat → Prop := fun r c => tb (σ.1 17 r) c = true
theorem fail_ub {σ : St} {s' : Int} {B : Nat → Prop} {p : Nat} (hJ : JX σ (fun _ => False) B) (hp : ¬ B p) (hp16 : p < 16) (hcl : Cl σ 0 s') (ho : ∀ c, c < 16 → tb (σ.1 17 p) c = true → tb s' c = true) {nx' : Nat → Int} (h' : OkP 16 (opX σ) nx') :
    ∃ N : Nat → Int, OkP 16 (opX σ) N ∧ N p = -1 ∧ cnt nx' ≤ cnt N ∧ ∀ r, r < 16 → 0 ≤ N r → B r ∨ 0 ≤ nx' r := by
  have hm := hJ.okm
  have k1 : ∀ c : Nat, c < 16 → tb s' c = true → ∃ r, r < 16 ∧ mtB B (σ.1 18) r = (c : Int) := fun c hc q => by
    obtain ⟨r, b1, b2, b3⟩ := hJ.2.1 c hc (hcl.2 c hc q (tb_0 c)).1 (fun z => z)
    exact ⟨r, (hJ.1 r b2).1, by rw [mt_1 b2]; exact b3⟩
  have k2 : ∀ r, r < 16 → 0 ≤ mtB B (σ.1 18) r → tb s' (mtB B (σ.1 18) r).toNat = true → ∀ c, c < 16 → opX σ r c → tb s' c = true := fun r hr h0 q c hc hok => by
    have hb := (hm.2 r).mp h0
    obtain ⟨_, c0, b1, b2, b3, _⟩ := hJ.1 r hb
    rw [mt_1 hb, b2, Int.toNat_natCast] at q
    exact (hcl.2 c0 b1 q (tb_0 c0)).2 r b3 c hc hok
  obtain ⟨N, a1, a2, a3, a4⟩ := kuhn (S := fun c => tb s' c) hm.1 (by rw [mt_0 hp]; decide) hp16 h' k1 k2 ho
  exact ⟨N, a1, a2, a3, fun r hr q => by
    rcases a4 r hr q with z | z
    · exact Or.inl ((hm.2 r).mp z)
    · exact Or.inr z⟩
theorem cnt_lt {N nx' : Nat → Int} {p : Nat} (hp : p < 16) (h1 : N p < 0) (h2 : 0 ≤ nx' p) (h : ∀ r, r < 16 → 0 ≤ N r → 0 ≤ nx' r) : cnt N < cnt nx' := by
  unfold cnt
  have e := fb_ct_upd (fun i => decide (0 ≤ nx' i)) false (i := p) (n := 16) hp
  rw [decide_eq_true h2] at e
  have := fb_ct_sub (p := fun i => decide (0 ≤ N i)) (q := fun k => if k = p then false else decide (0 ≤ nx' k)) (n := 16) (fun k hk q => by
    have q' : 0 ≤ N k := by simpa using q
    by_cases z : k = p
    · rw [z] at q'; omega
    · simp only [if_neg z, decide_eq_true_eq]; exact h k hk q')
  simp only [Bool.false_eq_true, if_false, if_true] at e
  omega
theorem cnt_off {nx' : Nat → Int} {p : Nat} (hp : p < 16) : cnt nx' ≤ cnt (uf nx' p (-1)) + 1 := by
  unfold cnt
  have e := fb_ct_upd (fun i => decide (0 ≤ nx' i)) false (i := p) (n := 16) hp
  have e2 : fb_ct (fun i => decide (0 ≤ uf nx' p (-1) i)) 16 = fb_ct (fun k => if k = p then false else decide (0 ≤ nx' k)) 16 := fb_ct_cong (fun k _ => by
    by_cases q : k = p
    · rw [if_pos q, q, uf_s]; rfl
    · rw [if_neg q, uf_n q])
  rw [e2]
  simp only [Bool.false_eq_true, if_false] at e
  split at e <;> omega
/-- the most pairs of the first p rows -/
def MaxM (p : Nat) (ok : Nat → Nat → Prop) (N : Nat) : Prop := (∃ nx, OkP 16 ok nx ∧ (∀ r, r < 16 → 0 ≤ nx r → r < p) ∧ cnt nx = N) ∧ ∀ nx, OkP 16 ok nx → (∀ r, r < 16 → 0 ≤ nx r → r < p) → cnt nx ≤ N
section Pair2
variable {G : GX} {d : Nat} {σ : St} {Q : Int → St → Prop}
theorem most_loop {Ret : Option AV → St → Prop} {R : Nat → List AV → List AV → St → Prop} (hM : AM G wdX (d + 19) mX3_most Ret R) (σ0 : St) (hop : opn σ0) {n : Nat} (hn : n ≤ 16)
    (K : ∀ σ' N, Fr [3, 18, 19] σ0 σ' → MaxM n (opX σ0) N → Ret (some (vI (N : Nat))) σ') :
    ∀ m p : Nat, p + m = n → ∀ (σ : St) (N : Nat) (B : Nat → Prop), Fr [3, 18, 19] σ0 σ → JX σ (fun _ => False) B → (∀ r, B r → r < p) → cnt (mtB B (σ.1 18)) = N → (∀ nx, OkP 16 (opX σ0) nx → (∀ r, r < 16 → 0 ≤ nx r → r < p) → cnt nx ≤ N) → R 8 [vR 3, vI n, vI N, vI p] [] σ := by
  intro m
  induction m with
  | zero =>
    intro p hp σ N B fr hJ hB hc hub
    have e : p = n := by omega
    subst e
    refine g_X3_most_8 hM p N p σ ⟨fun _ => K σ N fr ⟨⟨mtB B (σ.1 18), ?_, fun r _ q => hB r ((hJ.okm.2 r).mp q), hc⟩, hub⟩, fun q => by omega⟩
    have := hJ.okm.1
    rw [fr.at (k := 17) (by decide)] at this
    exact this
  | succ m ih =>
    intro p hp σ N B fr hJ hB hc hub
    have e17 : σ.1 17 = σ0.1 17 := fr.at (by decide)
    refine g_X3_most_8 hM n N p σ ⟨fun q => by omega, fun _ τ1 e1 => ?_⟩
    have frt : Fr [3, 18, 19] σ0 τ1 := by rw [e1]; exact fr.put (by decide)
    have t34 : τ1.1 3 4 = 0 := by rw [e1, sI_s, uf_s]
    have t33 : τ1.1 3 3 = σ.1 3 3 := by rw [e1, sI_s, uf_n (by decide)]
    have t17 : τ1.1 17 = σ0.1 17 := frt.at (by decide)
    have t18 : τ1.1 18 = σ.1 18 := by rw [e1, sI_n _ (by decide)]
    have t19 : τ1.1 19 = σ.1 19 := by rw [e1, sI_n _ (by decide)]
    have hJt : JX τ1 (fun _ => False) B := by
      show Jp _ _ B (τ1.1 18) (τ1.1 19) (τ1.1 3 3)
      rw [t17, t18, t19, t33, ← e17]; exact hJ
    have hnp : ¬ B p := fun q => by have := hB p q; omega
    have ep : ((p : Int) + 1) = ((p + 1 : Nat) : Int) := by omega
    have eN : ((N : Int) + 1) = ((N + 1 : Nat) : Int) := by omega
    have hN16 : N ≤ 16 := by rw [← hc]; exact fb_ct_le _ _
    have ez : ((0 : Int)) = ((0 : Nat) : Int) := rfl
    refine c_seat (d := d) 16 0 p τ1 (fun _ => False) B _ (by rw [t34]; exact fb_ct_le _ _) (by omega) (by omega) (fun r hr => by rw [t17]; exact hop r hr) hJt hnp (fun _ _ q => q.elim) (fun σ1 f1 h1 => ⟨fun q => by omega, fun _ => ⟨⟨by omega, by omega⟩, ⟨by omega, by omega⟩, ?_⟩⟩) (fun σ1 f1 h33 hcl hopn => ⟨fun _ => ⟨⟨by omega, by omega⟩, ?_⟩, fun q => by omega⟩)
    · rw [ep, eN]
      refine ih (p + 1) (by omega) σ1 (N + 1) (fun z => B z ∨ z = p) (frt.tr f1) h1 (fun r q => ?_) ?_ (fun nx a1 a2 => ?_)
      · rcases q with q | q
        · have := hB r q; omega
        · omega
      · rw [h1.cntm, ← hc, hJ.cntm]
        have e := fb_ct_upd (fun r => cB (B r)) true (i := p) (n := 16) (by omega)
        have e0 : cB (B p) = false := by
          cases e : cB (B p) with
          | false => rfl
          | true => exact absurd (cB_iff.mp e) hnp
        have e2 : fb_ct (fun r => cB (B r ∨ r = p)) 16 = fb_ct (fun k => if k = p then true else cB (B k)) 16 := fb_ct_cong (fun k _ => by
          by_cases q : k = p
          · rw [if_pos q]; exact cB_iff.mpr (Or.inr q)
          · rw [if_neg q]
            by_cases z : B k
            · rw [cB_iff.mpr z]; exact cB_iff.mpr (Or.inl z)
            · cases y : cB (B k) with
              | true => exact absurd (cB_iff.mp y) z
              | false =>
                cases x : cB (B k ∨ k = p) with
                | false => rfl
                | true =>
                  rcases cB_iff.mp x with w | w
                  · exact absurd w z
                  · exact absurd w q)
        rw [e2]
        rw [e0] at e
        simpa using e
      · have := hub (uf nx p (-1)) ⟨fun r hr => ?_, fun i j hi hj h0 e => ?_⟩ (fun r hr q => ?_)
        · have := cnt_off (nx' := nx) (p := p) (by omega)
          omega
        · by_cases q : r = p
          · rw [q, uf_s]; exact Or.inl rfl
          · rw [uf_n q]; exact a1.1 r hr
        · have ni : i ≠ p := fun q => by rw [q, uf_s] at h0; omega
          rw [uf_n ni] at h0 e
          have nj : j ≠ p := fun q => by rw [q, uf_s] at e; omega
          rw [uf_n nj] at e
          exact a1.2 i j hi hj h0 e
        · have nr : r ≠ p := fun z => by rw [z, uf_s] at q; omega
          rw [uf_n nr] at q
          have := a2 r hr q
          omega
    · rw [ep]
      have hcl' : Cl τ1 0 (σ1.1 3 4) := by rw [← t34]; exact hcl
      refine ih (p + 1) (by omega) σ1 N B (frt.tr (f1.mono (by decide))) ?_ (fun r q => by have := hB r q; omega) (by rw [f1.at (by decide), t18]; exact hc) (fun nx a1 a2 => ?_)
      · show Jp _ _ B (σ1.1 18) (σ1.1 19) (σ1.1 3 3)
        rw [h33, f1.at (k := 17) (by decide), f1.at (k := 18) (by decide), f1.at (k := 19) (by decide)]
        exact hJt
      · have a1' : OkP 16 (opX τ1) nx := by show OkP 16 (fun r c => tb (τ1.1 17 r) c = true) nx; rw [t17]; exact a1
        obtain ⟨M, b1, b2, b3, b4⟩ := fail_ub hJt hnp (by omega) hcl' hopn a1'
        have b1' : OkP 16 (opX σ0) M := by show OkP 16 (fun r c => tb (σ0.1 17 r) c = true) M; rw [← t17]; exact b1
        have := hub M b1' (fun r hr q => by
          have nr : r ≠ p := fun z => by rw [z, b2] at q; omega
          rcases b4 r hr q with z | z
          · exact hB r z
          · have := a2 r hr z; omega)
        omega
theorem c_most {n : Nat} (hn : n ≤ 16) (hop : opn σ) (K : ∀ σ' N, Fr [3, 18, 19] σ σ' → MaxM n (opX σ) N → Q (N : Nat) σ') : conI G wdX (d + 19) mX3_most [vR 3, vI n] σ Q := by
  refine conI.of (ls0 := [vR 3, vI n, vN, vN]) rfl rfl (Nat.le_of_ble_eq_true rfl) (fun Ret R hret hM => g_X3_most_0 hM n σ ?_)
  refine c_clear (fun σ1 f1 _ hJ => ?_)
  have := most_loop (d := d) hM σ hop hn (fun σ' N a b => hret _ _ (K σ' N a b)) n 0 (by omega) σ1 0 (fun _ => False) f1 (hJ _) (fun _ q => q.elim) ?_ (fun nx _ h => ?_)
  · exact this
  · rw [(hJ (fun _ _ => True)).cntm]
    exact fb_ct_zero.mpr (fun k _ => by
      cases e : cB False with
      | false => rfl
      | true => exact (cB_iff.mp e).elim)
  · refine Nat.le_of_eq (fb_ct_zero.mpr (fun k hk => ?_))
    exact decide_eq_false (fun q => by have := h k hk q; omega)
theorem c_bind {n row column : Nat} (hn : n ≤ 16) (hrow : row < n) (hcol : column < n) (hop : opn σ) (hcols : ∀ r, r < n → ∀ c, c < 16 → tb (σ.1 17 r) c = true → c < n) (hJ : JX σ (fun _ => False) (fun r => r < n)) (hc : tb (σ.1 17 row) column = true)
    (K1 : ∀ σ', Fr [3, 17, 18, 19] σ σ' → σ'.1 17 = uf (σ.1 17) row (bShl 1 (column : Int)) → JX σ' (fun _ => False) (fun r => r < n) → Q 1 σ')
    (K0 : ∀ σ', Fr [3, 17, 18, 19] σ σ' → σ'.1 17 = σ.1 17 → JX σ' (fun _ => False) (fun r => r < n) → (∀ nx', OkP 16 (opX σ) nx' → (∀ r, r < n → 0 ≤ nx' r) → nx' row ≠ (column : Int)) → Q 0 σ') : conI G wdX (d + 19) mX3_bind [vR 3, vI row, vI column] σ Q := by
  refine conI.of (ls0 := [vR 3, vI row, vI column, vN, vN, vN]) rfl rfl (Nat.le_of_ble_eq_true rfl) (fun Ret R hret hM => g_X3_bind_0 hM row column σ ?_)
  rw [Int.toNat_natCast, Int.toNat_natCast]
  obtain ⟨_, c0, c01, c02, c03, c04, c05, _⟩ := hJ.1 row hrow
  have hc0n : c0 < n := hcols row hrow c0 c01 c04
  -- the column is taken
  have onto : ∃ i, i < n ∧ (σ.1 18 i).toNat = column := by
    refine fb_onto (f := fun i => (σ.1 18 i).toNat) (fun i hi => ?_) (fun i j hij hj e => ?_) hcol
    · obtain ⟨_, c, a1, a2, _, a4, _⟩ := hJ.1 i hi
      simp only [a2, Int.toNat_natCast]
      exact hcols i hi c a1 a4
    · obtain ⟨_, c, a1, a2, a3, a4, _⟩ := hJ.1 i (by show i < n; omega)
      obtain ⟨_, c', b1, b2, b3, b4, _⟩ := hJ.1 j hj
      simp only [a2, b2, Int.toNat_natCast] at e
      rw [e, b3] at a3
      omega
  obtain ⟨r1, hr1, er1⟩ := onto
  obtain ⟨_, c1, d1, d2, d3, d4, d5, _⟩ := hJ.1 r1 hr1
  have ec1 : c1 = column := by rw [d2, Int.toNat_natCast] at er1; exact er1
  rw [ec1] at d2 d3 d4 d5
  rw [c02, d3]
  have bit : ∀ i, i < 16 → (tb (bShl 1 (column : Int)) i = true ↔ i = column) := fun i hi => by rw [tb_shl1 (by omega) (by omega), decide_eq_true_eq]
  refine ⟨⟨by omega, by omega⟩, fun hne => ?_, fun he τ6 e6 => hret _ _ (K1 τ6 (by rw [e6]; exact Fr.one (by decide)) (by rw [e6, sI_s]) ?_)⟩
  · have hne' : c0 ≠ column := fun q => hne (by omega)
    have hrr : r1 ≠ row := fun q => by rw [q, c02] at d2; omega
    refine ⟨⟨by omega, by omega⟩, fun q => by omega, fun _ => ⟨fun _ τ1 e1 => ?_, fun q => by omega⟩⟩
    have t17 : τ1.1 17 = uf (σ.1 17) row (bShl 1 (column : Int)) := by rw [e1, sI_s]
    have tn : ∀ c, c ≠ 17 → τ1.1 c = σ.1 c := fun c h => by rw [e1, sI_n _ h]
    refine c_join (by omega) (by omega) (fun σ1 f1 g18 g19 g3 => ⟨⟨by omega, by omega⟩, fun τ2 e2 τ3 e3 τ4 e4 => ?_⟩)
    rw [Int.toNat_natCast] at e2
    rw [tn 18 (by decide)] at g18
    rw [tn 19 (by decide)] at g19
    rw [tn 3 (by decide)] at g3
    have k17 : τ4.1 17 = uf (σ.1 17) row (bShl 1 (column : Int)) := by rw [e4, sI_n _ (by decide), e3, sI_n _ (by decide), e2, sI_n _ (by decide), f1.at (by decide), t17]
    have k18 : τ4.1 18 = uf (σ.1 18) row column := by rw [e4, sI_n _ (by decide), e3, sI_n _ (by decide), e2, sI_n _ (by decide), g18]
    have k19 : τ4.1 19 = uf (uf (σ.1 19) column row) c0 (-1) := by rw [e4, sI_n _ (by decide), e3, sI_n _ (by decide), e2, sI_s, g19]
    have k33 : τ4.1 3 3 = bAnd (bOr (σ.1 3 3) (bShl 1 (column : Int))) (bXor (bShl 1 (c0 : Int)) (-1)) := by rw [e4, sI_s, uf_n (by decide), e3, sI_s, uf_s, e2, sI_n _ (by decide), g3, uf_s]
    have k34 : τ4.1 3 4 = 0 := by rw [e4, sI_s, uf_s]
    have fr0 : Fr [3, 17, 18, 19] σ τ1 := by rw [e1]; exact Fr.one (by decide)
    have frk : Fr [3, 17, 18, 19] σ τ4 := by
      rw [e4, e3, e2]
      exact (((fr0.tr (f1.mono (by decide))).put (by decide)).put (by decide)).put (by decide)
    -- the pairs, but for the row that lost its column
    have J1 : JX τ4 (fun _ => False) (fun r => r < n ∧ r ≠ r1) := by
      have j1 := (hJ.off c03 c02).off d3 d2
      have j2 : Jp (fun r c => tb (uf (σ.1 17) row (bShl 1 (column : Int)) r) c = true) (fun z => (False ∨ z = c0) ∨ z = column) (fun z => (z < n ∧ z ≠ row) ∧ z ≠ r1) (σ.1 18) (σ.1 19) (σ.1 3 3) :=
        j1.ok (fun r c hr _ _ h => by rw [uf_n hr.1.2]; exact h)
      have j3 := j2.join (r := row) (c := column) (by omega) (by omega) (fun q => q.1.2 rfl) (by rw [uf_s]; exact (bit column (by omega)).mpr rfl) (Or.inl (Or.inr rfl))
      have j4 := j3.free (c := c0) c01 ⟨Or.inl (Or.inr rfl), hne'⟩
      show Jp _ _ _ (τ4.1 18) (τ4.1 19) (τ4.1 3 3)
      rw [k17, k18, k19, k33]
      refine j4.cg (fun z _ => ⟨fun q => q.elim, fun q => ?_⟩) (fun z => ⟨fun q => ?_, fun q => ?_⟩)
      · rcases q with ⟨⟨(q | q) | q, w⟩, y⟩
        · exact q
        · exact y q
        · exact w q
      · by_cases e : z = row
        · exact Or.inr e
        · exact Or.inl ⟨⟨q.1, e⟩, q.2⟩
      · rcases q with q | q
        · exact ⟨q.1.1, q.2⟩
        · rw [q]; exact ⟨hrow, fun z => hrr z.symm⟩
    have op4 : opn τ4 := fun r hr i h1 h2 => by
      rw [k17]
      by_cases e : r = row
      · rw [e, uf_s, tb_shl1 (by omega) h2]; exact decide_eq_false (by omega)
      · rw [uf_n e]; exact hop r hr i h1 h2
    refine c_seat (d := d) 16 0 r1 τ4 (fun _ => False) (fun r => r < n ∧ r ≠ r1) _ (by rw [k34]; exact fb_ct_le _ _) (by omega) (by omega) op4 J1 (fun q => q.2 rfl) (fun _ _ q => q.elim) (fun σ2 f2 h2 => ⟨fun q => by omega, fun _ => hret _ _ (K1 σ2 (frk.tr (f2.mono (by decide))) (by rw [f2.at (by decide), k17]) ?_)⟩) (fun σ2 f2 h33 hcl hopn => ⟨fun _ τ5 e5 => ?_, fun q => by omega⟩)
    · exact h2.cg (fun _ _ => Iff.rfl) (fun z => ⟨fun q => by
        by_cases e : z = r1
        · exact Or.inr e
        · exact Or.inl ⟨q, e⟩, fun q => by
        rcases q with q | q
        · exact q.1
        · rw [q]; exact hr1⟩)
    · have l17 : τ5.1 17 = σ.1 17 := by
        rw [e5, sI_s, f2.at (by decide), k17]
        funext b
        by_cases e : b = row
        · rw [e, uf_s]
        · rw [uf_n e, uf_n e]
      have ln' : ∀ c, c ≠ 17 → τ5.1 c = σ2.1 c := fun c h => by rw [e5, sI_n _ h]
      have fr5 : Fr [3, 17, 18, 19] σ τ5 := by rw [e5]; exact (frk.tr (f2.mono (by decide))).put (by decide)
      refine c_join (by omega) c01 (fun σ3 f3 a18 a19 a3 => c_join (by omega) (by omega) (fun σ4 f4 b18 b19 b3 => hret _ _ (K0 σ4 ((fr5.tr (f3.mono (by decide))).tr (f4.mono (by decide))) (by rw [f4.at (by decide), f3.at (by decide), l17]) ?_ ?_)))
      · have J2 : Jp (fun r c => tb (τ4.1 17 r) c = true) (fun _ => False) (fun r => r < n ∧ r ≠ r1) (τ5.1 18) (τ5.1 19) (τ5.1 3 3) := by
          rw [ln' 18 (by decide), ln' 19 (by decide), ln' 3 (by decide), f2.at (by decide), f2.at (by decide), h33]
          exact J1
        have q18 : τ5.1 18 row = (column : Int) := by rw [ln' 18 (by decide), f2.at (by decide), k18, uf_s]
        have q19 : τ5.1 19 column = (row : Int) := by rw [ln' 19 (by decide), f2.at (by decide), k19, uf_n (fun q => hne' q.symm), uf_s]
        have j1 := J2.off (r := row) (c := column) q19 q18
        have j2 : Jp (fun r c => tb (σ.1 17 r) c = true) (fun z => False ∨ z = column) (fun z => (z < n ∧ z ≠ r1) ∧ z ≠ row) (τ5.1 18) (τ5.1 19) (τ5.1 3 3) :=
          j1.ok (fun r c hr _ _ h => by rw [k17, uf_n hr.2] at h; exact h)
        have j3 := j2.join (r := row) (c := c0) (by omega) c01 (fun q => q.2 rfl) c04 (Or.inr (by
          rw [ln' 3 (by decide), h33, k33, tb_and, tb_not _ (by omega), tb_shl1 (by omega) (by omega), decide_eq_true rfl]; exact Bool.and_false _))
        have j4 := j3.join (r := r1) (c := column) (by omega) (by omega) (fun q => by
          rcases q with q | q
          · exact q.1.2 rfl
          · exact hrr q) d4 (Or.inl ⟨Or.inr rfl, fun q => hne' q.symm⟩)
        show Jp _ _ _ (σ4.1 18) (σ4.1 19) (σ4.1 3 3)
        rw [f4.at (k := 17) (by decide), f3.at (k := 17) (by decide), l17, b18, b19, b3, uf_s, a18, a19, a3, uf_s]
        refine j4.cg (fun z _ => ⟨fun q => q.elim, fun q => ?_⟩) (fun z => ⟨fun q => ?_, fun q => ?_⟩)
        · rcases q with ⟨⟨q | q, _⟩, y⟩
          · exact q
          · exact y q
        · by_cases e : z = r1
          · exact Or.inr e
          · by_cases e' : z = row
            · exact Or.inl (Or.inr e')
            · exact Or.inl (Or.inl ⟨⟨q, e⟩, e'⟩)
        · rcases q with (q | q) | q
          · exact q.1.1
          · rw [q]; exact hrow
          · rw [q]; exact hr1
      · intro nx' hok hall heq
        have hok' : OkP 16 (opX τ4) nx' := by
          refine ⟨fun r hr => ?_, hok.2⟩
          rcases hok.1 r hr with q | q
          · exact Or.inl q
          · refine Or.inr ⟨q.1, q.2.1, ?_⟩
            show tb (τ4.1 17 r) _ = true
            rw [k17]
            by_cases e : r = row
            · rw [e, uf_s, heq, Int.toNat_natCast]; exact (bit column (by omega)).mpr rfl
            · rw [uf_n e]; exact q.2.2
        have hcl' : Cl τ4 0 (σ2.1 3 4) := by rw [← k34]; exact hcl
        obtain ⟨N, b1, b2, b3, b4⟩ := fail_ub J1 (fun q => q.2 rfl) (by omega) hcl' hopn hok'
        have := cnt_lt (N := N) (nx' := nx') (p := r1) (by omega) (by omega) (hall r1 hr1) (fun r hr q => by
          rcases b4 r hr q with z | z
          · exact hall r z.1
          · exact z)
        omega
  · have ec : c0 = column := by omega
    show Jp _ _ _ (τ6.1 18) (τ6.1 19) (τ6.1 3 3)
    have w18 : τ6.1 18 = σ.1 18 := by rw [e6, sI_n _ (by decide)]
    have w19 : τ6.1 19 = σ.1 19 := by rw [e6, sI_n _ (by decide)]
    have w3 : τ6.1 3 = σ.1 3 := by rw [e6, sI_n _ (by decide)]
    have w17 : τ6.1 17 = uf (σ.1 17) row (bShl 1 (column : Int)) := by rw [e6, sI_s]
    rw [w18, w19, w3, w17]
    refine hJ.ok (fun r c hr hc16 er h => ?_)
    by_cases e : r = row
    · rw [e, c02] at er
      rw [e, uf_s]
      exact (bit c hc16).mpr (by omega)
    · rw [uf_n e]; exact h
end Pair2
