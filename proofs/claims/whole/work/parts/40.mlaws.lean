/-! ===== the model's laws ===== -/
abbrev bgM (σ : St) (s : Nat) : Int := σ.1 6 (σ.1 13 s).toNat
abbrev enM (σ : St) (s : Nat) : Int := σ.1 7 (σ.1 14 s).toNat
abbrev gwM (σ : St) (l k : Nat) : Int := wM σ (σ.1 14 l).toNat (σ.1 13 k).toNat
abbrev SM (σ : St) (N : Nat) : Prop := σ.1 0 18 = (N : Int) ∧ SG N (σ.1 12) (σ.1 13) (σ.1 14) (σ.1 6) (σ.1 7)
section LawM
variable {G : GX} {d : Nat} {σ : St} {Q : Int → St → Prop} {N : Nat}
theorem c_beginOf (h : SM σ N) {s : Nat} (hs : s < N) (K : Q (bgM σ s) σ) : conI G wdM d mX10_beginOf [vR 0, vI s] σ Q := by
  refine conI.of (ls0 := [vR 0, vI s]) rfl rfl (Nat.le_of_ble_eq_true rfl) (fun Ret R hret hM => g_X10_beginOf_0 hM s σ ?_)
  rw [Int.toNat_natCast]
  have := h.2.1
  exact ⟨⟨by omega, by omega⟩, (h.2.2.1 s hs).1, hret _ _ K⟩
theorem c_endOf (h : SM σ N) {s : Nat} (hs : s < N) (K : Q (enM σ s) σ) : conI G wdM d mX10_endOf [vR 0, vI s] σ Q := by
  refine conI.of (ls0 := [vR 0, vI s]) rfl rfl (Nat.le_of_ble_eq_true rfl) (fun Ret R hret hM => g_X10_endOf_0 hM s σ ?_)
  rw [Int.toNat_natCast]
  have := h.2.1
  exact ⟨⟨by omega, by omega⟩, (h.2.2.1 s hs).2.1, hret _ _ K⟩
theorem bgM_r (hB : MB σ) (h : SM σ N) {s : Nat} (hs : s < N) : (0 ≤ bgM σ s ∧ bgM σ s ≤ 2879) ∧ (0 ≤ enM σ s ∧ enM σ s ≤ 2879) := by
  have z := h.2.2.1 s hs
  exact ⟨(hB.2.1 _ (by omega)).2.2.1, (hB.2.1 _ (by omega)).2.2.2⟩
theorem c_M_isPiece (h : SM σ N) (a b : Int) (K1 : pce N (σ.1 12) a b → Q 1 σ) (K0 : ¬ pce N (σ.1 12) a b → Q 0 σ) : conI G wdM (d + 1) mX10_isPiece [vR 0, vI a, vI b] σ Q := by
  refine conI.of (ls0 := [vR 0, vI a, vI b]) rfl rfl (Nat.le_of_ble_eq_true rfl) (fun Ret R hret hM => g_X10_isPiece_0 hM a b σ ?_)
  have h6 := h.1
  have hN := h.2.1
  rw [h6]
  refine ⟨⟨by omega, by omega⟩, c_M_in (d := d) a 0 _ (fun q => ⟨fun z => by omega, fun _ => ⟨⟨by omega, by omega⟩, c_M_in (d := d) b a _ (fun q' => ⟨fun z => by omega, fun _ => ⟨⟨by omega, by omega⟩, ⟨by omega, by omega⟩, fun w => hret _ _ (K0 (fun y => w y.2.2.2)), fun w => hret _ _ (K1 ⟨by omega, by omega, by omega, w⟩)⟩⟩) (fun q' => ⟨fun _ => hret _ _ (K0 (fun y => q' ⟨y.2.1, by have := y.2.2.1; omega⟩)), fun z => absurd rfl z⟩)⟩⟩) (fun q => ⟨fun _ => hret _ _ (K0 (fun y => q ⟨y.1, by have := y.2.1; have := y.2.2.1; omega⟩)), fun z => absurd rfl z⟩)⟩
theorem c_M_broken1 (hB : MB σ) (h : SM σ N) {a b : Nat} (ha : a < N) (hb : b < N) (c e : Int) (hc : c < 0) (K : Q (lw1 (bgM σ) (enM σ) (σ.1 0 8) (σ.1 0 9) a b) σ) : conI G wdM (d + 1) mX10_broken [vR 0, vI a, vI b, vI c, vI e] σ Q := by
  refine conI.of (ls0 := [vR 0, vI a, vI b, vI c, vI e, vN, vN, vN, vN, vN, vN, vN]) rfl rfl (Nat.le_of_ble_eq_true rfl) (fun Ret R hret hM => g_X10_broken_0 hM a b c e σ ?_)
  have ra := bgM_r hB h ha
  have rb := bgM_r hB h hb
  unfold lw1 at K
  refine c_beginOf h ha (c_endOf h hb ⟨⟨by omega, by omega⟩, fun _ => ?_, fun z => absurd hc z⟩)
  refine g_X10_broken_225 hM _ _ _ σ ⟨⟨by omega, by omega⟩, fun q => ⟨fun q' => ?_, fun q' => ?_⟩, fun q => ?_⟩
  · rw [if_pos q, if_pos q'] at K; exact hret _ _ K
  · rw [if_pos q, if_neg q'] at K; exact hret _ _ K
  · rw [if_neg q] at K; exact hret _ _ K
theorem c_M_broken2 (hB : MB σ) (h : SM σ N) {a b c e : Nat} (ha : a < N) (hb : b < N) (hc : c < N) (he : e < N) (hab : bgM σ a < enM σ b) (hce : bgM σ c < enM σ e) (K : Q (lw2 (bgM σ) (enM σ) (gwM σ) (σ.1 0 8) (σ.1 0 9) (σ.1 0 10) (σ.1 0 11) a b c e) σ) : conI G wdM (d + 1) mX10_broken [vR 0, vI a, vI b, vI c, vI e] σ Q := by
  refine conI.of (ls0 := [vR 0, vI a, vI b, vI c, vI e, vN, vN, vN, vN, vN, vN, vN]) rfl rfl (Nat.le_of_ble_eq_true rfl) (fun Ret R hret hM => g_X10_broken_0 hM a b c e σ ?_)
  have hN := h.2.1
  have ra := bgM_r hB h ha
  have rb := bgM_r hB h hb
  have rc := bgM_r hB h hc
  have re := bgM_r hB h he
  have za := h.2.2.1 a ha
  have zb := h.2.2.1 b hb
  have zc := h.2.2.1 c hc
  have ze := h.2.2.1 e he
  have hps := hB.2.2.2.2.2.2.2.1
  unfold lw2 at K
  -- the last question
  have last : ∀ lo hi dr : Int, (-10000 ≤ lo ∧ lo ≤ 10000) → (-10000 ≤ hi ∧ hi ≤ 10000) → Q (if hi - lo ≤ σ.1 0 8 then (if dr ≤ σ.1 0 9 then 0 else 4) else 3) σ → R 225 [vR 0, vN, vN, vN, vN, vI lo, vI hi, vI dr, vN, vN, vN, vN] [] σ := by
    intro lo hi dr h1 h2 k
    refine g_X10_broken_225 hM lo hi dr σ ⟨⟨by omega, by omega⟩, fun q => ⟨fun q' => ?_, fun q' => ?_⟩, fun q => ?_⟩
    · rw [if_pos q, if_pos q'] at k; exact hret _ _ k
    · rw [if_pos q, if_neg q'] at k; exact hret _ _ k
    · rw [if_neg q] at k; exact hret _ _ k
  refine c_beginOf h ha (c_endOf h hb ⟨⟨by omega, by omega⟩, fun z => by omega, fun _ => ⟨fun q => c_beginOf h hc ⟨fun q1 => ?_, fun q1 => ?_⟩, fun q => by rw [if_pos q] at K; exact hret _ _ K⟩⟩)
  · -- as told
    rw [if_neg q, if_neg (show ¬ bgM σ c < bgM σ a by omega)] at K
    refine g_X10_broken_49 hM a b c e _ _ _ 0 σ ⟨fun _ => ⟨fun _ => c_beginOf h hc ?_, fun z => absurd rfl z⟩, fun z => absurd rfl z⟩
    refine g_X10_broken_84 hM a b c e _ _ _ 0 _ _ σ ⟨fun _ => ?_, fun z => absurd rfl z⟩
    rw [Int.toNat_natCast]
    have b5 := (hB.2.1 (σ.1 14 b).toNat (by omega)).2.1
    have c4 := (hB.2.1 (σ.1 13 c).toNat (by omega)).1
    have hw : -1 ≤ σ.1 1 (12 * σ.1 5 (σ.1 14 b).toNat + σ.1 4 (σ.1 13 c).toNat).toNat ∧ σ.1 1 (12 * σ.1 5 (σ.1 14 b).toNat + σ.1 4 (σ.1 13 c).toNat).toNat ≤ 600 := hB.w (i := (σ.1 14 b).toNat) (j := (σ.1 13 c).toNat) (by omega) (by omega)
    refine ⟨⟨by omega, by omega⟩, zb.2.1, ⟨by omega, by omega⟩, fun _ => ?_, fun z => absurd rfl z⟩
    refine g_X10_broken_132 hM c e _ _ _ 0 _ _ _ c σ ?_
    rw [Int.toNat_natCast]
    refine ⟨⟨by omega, by omega⟩, zc.1, ⟨by omega, by omega⟩, ⟨by omega, by omega⟩, fun u1 eu => ⟨⟨by omega, by omega⟩, fun q2 => ?_, fun q2 => ⟨fun q3 => ?_, fun q3 => ⟨⟨by omega, by omega⟩, fun q4 => ?_, fun q4 => ?_⟩⟩⟩⟩
    · rw [if_neg (fun z => by have := (cB_iff.mp z).2.2; omega)] at K; exact hret _ _ K
    · rw [if_neg (fun z => (cB_iff.mp z).1 (by show σ.1 1 _ = -1; omega))] at K; exact hret _ _ K
    · have eg : gwM σ b c = u1 := eu.symm
      have hch : chg (bgM σ) (enM σ) (gwM σ) (σ.1 0 10) b c := ⟨by omega, by omega, by omega⟩
      rw [if_pos (cB_iff.mpr hch)] at K
      refine c_endOf h he (c_beginOf h hc ⟨⟨by omega, by omega⟩, ⟨by omega, by omega⟩, fun _ => ?_, fun z => absurd rfl z⟩)
      refine g_X10_broken_199 hM e _ _ _ σ (c_endOf h he ⟨fun q5 => by omega, fun _ => c_endOf h he ?_⟩)
      exact last _ _ _ ⟨by omega, by omega⟩ ⟨by omega, by omega⟩ K
    · have eg : gwM σ b c = u1 := eu.symm
      rw [if_neg (fun z => by have := (cB_iff.mp z).2.1; omega)] at K; exact hret _ _ K
  · -- turned
    rw [if_neg q, if_pos (show bgM σ c < bgM σ a by omega)] at K
    refine g_X10_broken_49 hM a b c e _ _ _ 1 σ ⟨fun z => by omega, fun _ => c_endOf h he ⟨fun z => by omega, fun _ => ?_⟩⟩
    refine g_X10_broken_84 hM a b c e _ _ _ 1 _ _ σ ⟨fun z => by omega, fun _ => ?_⟩
    rw [Int.toNat_natCast]
    have b5 := (hB.2.1 (σ.1 14 e).toNat (by omega)).2.1
    have c4 := (hB.2.1 (σ.1 13 a).toNat (by omega)).1
    have hw : -1 ≤ σ.1 1 (12 * σ.1 5 (σ.1 14 e).toNat + σ.1 4 (σ.1 13 a).toNat).toNat ∧ σ.1 1 (12 * σ.1 5 (σ.1 14 e).toNat + σ.1 4 (σ.1 13 a).toNat).toNat ≤ 600 := hB.w (i := (σ.1 14 e).toNat) (j := (σ.1 13 a).toNat) (by omega) (by omega)
    refine ⟨⟨by omega, by omega⟩, ze.2.1, ⟨by omega, by omega⟩, fun z => by omega, fun _ => ?_⟩
    refine g_X10_broken_132 hM c e _ _ _ 1 _ _ _ a σ ?_
    rw [Int.toNat_natCast]
    refine ⟨⟨by omega, by omega⟩, za.1, ⟨by omega, by omega⟩, ⟨by omega, by omega⟩, fun u1 eu => ⟨⟨by omega, by omega⟩, fun q2 => ?_, fun q2 => ⟨fun q3 => ?_, fun q3 => ⟨⟨by omega, by omega⟩, fun q4 => ?_, fun q4 => ?_⟩⟩⟩⟩
    · rw [if_neg (fun z => by have := (cB_iff.mp z).2.2; omega)] at K; exact hret _ _ K
    · rw [if_neg (fun z => (cB_iff.mp z).1 (by show σ.1 1 _ = -1; omega))] at K; exact hret _ _ K
    · have eg : gwM σ e a = u1 := eu.symm
      have hch : chg (bgM σ) (enM σ) (gwM σ) (σ.1 0 10) e a := ⟨by omega, by omega, by omega⟩
      rw [if_pos (cB_iff.mpr hch)] at K
      refine c_endOf h he (c_beginOf h hc ⟨⟨by omega, by omega⟩, ⟨by omega, by omega⟩, fun z => by omega, fun _ => c_beginOf h hc ?_⟩)
      refine g_X10_broken_199 hM e _ _ _ σ (c_endOf h he ⟨fun _ => ?_, fun q5 => by omega⟩)
      exact last _ _ _ ⟨by omega, by omega⟩ ⟨by omega, by omega⟩ K
    · have eg : gwM σ e a = u1 := eu.symm
      rw [if_neg (fun z => by have := (cB_iff.mp z).2.1; omega)] at K; exact hret _ _ K
end LawM
