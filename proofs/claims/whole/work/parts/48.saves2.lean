/-! ===== class and model answer alike: what a move would save ===== -/
theorem mvR {bg en : Nat → Int} {t : Nat} {l n : Int} (h1 : ∀ j, j < 16 → (0 ≤ bg j ∧ bg j ≤ 2879) ∧ (0 ≤ en j ∧ en j ≤ 2879)) (h2 : ∀ j : Nat, (j : Int) < n → bg j < en j) (ht : (t : Int) < n) (hc : 0 ≤ bg t + l ∧ en t + l ≤ 2879) :
    (∀ j, j < 16 → (0 ≤ uf bg t (bg t + l) j ∧ uf bg t (bg t + l) j ≤ 2879) ∧ (0 ≤ uf en t (en t + l) j ∧ uf en t (en t + l) j ≤ 2879)) ∧ ∀ j : Nat, (j : Int) < n → uf bg t (bg t + l) j < uf en t (en t + l) j := by
  have a := h2 t ht
  refine ⟨fun j hj => ?_, fun j hj => ?_⟩
  · by_cases e : j = t
    · rw [e, uf_s, uf_s]; omega
    · rw [uf_n e, uf_n e]; exact h1 j hj
  · by_cases e : j = t
    · rw [e, uf_s, uf_s]; omega
    · rw [uf_n e, uf_n e]; exact h2 j hj
theorem MB.mv {m m' : St} (h : MB m) {t : Nat} {l : Int} (ht : (t : Int) < m.1 0 3) (hc : 0 ≤ m.1 6 t + l ∧ m.1 7 t + l ≤ 2879) (e6 : m'.1 6 = uf (m.1 6) t (m.1 6 t + l)) (e7 : m'.1 7 = uf (m.1 7) t (m.1 7 t + l))
    (e3 : m'.1 0 3 = m.1 0 3) (e8 : m'.1 0 8 = m.1 0 8) (e9 : m'.1 0 9 = m.1 0 9) (e10 : m'.1 0 10 = m.1 0 10) (e11 : m'.1 0 11 = m.1 0 11) (f1 : m'.1 1 = m.1 1) (f2 : m'.1 2 = m.1 2) (f3 : m'.1 3 = m.1 3) (f4 : m'.1 4 = m.1 4) (f5 : m'.1 5 = m.1 5) : MB m' := by
  obtain ⟨a1, a2, a3, a4⟩ := h
  have z := mvR (l := l) (fun j hj => (a2 j hj).2.2) a3 ht hc
  unfold MB
  rw [e3, e8, e9, e10, e11, f1, f2, f3, f4, f5, e6, e7]
  exact ⟨a1, fun j hj => ⟨(a2 j hj).1, (a2 j hj).2.1, z.1 j hj⟩, z.2, a4⟩
theorem XB.mv {x x' : St} (h : XB x) {t : Nat} {l : Int} (ht : (t : Int) < x.1 7 4) (hc : 0 ≤ x.1 36 t + l ∧ x.1 37 t + l ≤ 2879) (e36 : x'.1 36 = uf (x.1 36) t (x.1 36 t + l)) (e37 : x'.1 37 = uf (x.1 37) t (x.1 37 t + l))
    (e0 : x'.1 0 = x.1 0) (e7 : x'.1 7 = x.1 7) (e34 : x'.1 34 = x.1 34) (e35 : x'.1 35 = x.1 35) (e38 : x'.1 38 = x.1 38) (e39 : x'.1 39 = x.1 39) (e40 : x'.1 40 = x.1 40) : XB x' := by
  obtain ⟨a1, a2, a3, a4⟩ := h
  have z := mvR (l := l) (fun j hj => (a2 j hj).2.2) a3 ht hc
  unfold XB
  rw [e0, e7, e34, e35, e36, e37, e38, e39, e40]
  exact ⟨a1, fun j hj => ⟨(a2 j hj).1, (a2 j hj).2.1, z.1 j hj⟩, z.2, a4⟩
theorem Bas.un {x m m' : St} (h : Bas x m) (e : m' = sI m 0 13 0) : Bas x m' := by
  obtain ⟨h1, h2, h3, h4, h5, h6, h7, h8⟩ := h
  have f : Fr [0] m m' := by rw [e]; exact Fr.one (by decide)
  have q : ∀ c, c ≠ 13 → m'.1 0 c = m.1 0 c := fun c hc => by rw [e, sI_s, uf_n hc]
  have z : m'.1 0 13 = 0 := by rw [e, sI_s, uf_s]
  refine ⟨h1, h2.fr (q 3 (by decide)) (q 8 (by decide)) (q 9 (by decide)) (q 10 (by decide)) (q 11 (by decide)) (f.at (by decide)) (f.at (by decide)) (f.at (by decide)) (f.at (by decide)) (f.at (by decide)) (f.at (by decide)) (f.at (by decide)), h3.fr (Fr.rfl' (S := [])) f (by decide) (by decide) ⟨q 3 (by decide), q 8 (by decide), q 9 (by decide), q 10 (by decide), q 11 (by decide)⟩, h4, h5, Or.inl z, h7, fun y => by omega⟩
/-- MAY FOLLOW with trip t moved, as the model has it -/
theorem mvF_iff {x m m' : St} (hX : XB x) (hR : BR x m) {t : Nat} {l : Int} (ht : (t : Int) < x.1 7 4) (f1 : m'.1 1 = m.1 1) (f4 : m'.1 4 = m.1 4) (f5 : m'.1 5 = m.1 5) (e6 : m'.1 6 = uf (m.1 6) t (m.1 6 t + l)) (e7 : m'.1 7 = uf (m.1 7) t (m.1 7 t + l)) {i j : Nat} (hi : (i : Int) < x.1 7 4) (hj : (j : Int) < x.1 7 4) : mvF x t l i j ↔ foM m' i j := by
  have h16 := hX.1
  have ew : wX x i j = wM m i j := hR.w hX (by omega) (by omega)
  have hw := hX.w (i := i) (j := j) (by omega) (by omega)
  have ri := hR.2.1 i (by omega)
  have rj := hR.2.1 j (by omega)
  have rt := hR.2.1 t (by omega)
  have be := hX.2.2.1 t ht
  have em : foM m' i j ↔ 0 ≤ wX x i j ∧ uf (m.1 7) t (m.1 7 t + l) i + wX x i j ≤ uf (m.1 6) t (m.1 6 t + l) j := by
    unfold foM wM
    rw [f1, f4, f5, e6, e7, ew]
  rw [em]
  by_cases a : i = t
  · subst a
    by_cases b : j = i
    · subst b
      rw [uf_s, uf_s]
      constructor
      · rintro (q | q | q)
        · exact absurd rfl q.2.1
        · exact absurd rfl q.1
        · exact absurd rfl q.1
      · intro q; omega
    · rw [uf_s, uf_n b]
      constructor
      · rintro (q | q | q)
        · have q1 := q.2.2.1
          have q2 : x.1 37 i + wX x i j ≤ x.1 36 j + -l := q.2.2.2
          omega
        · exact absurd rfl q.1
        · exact absurd rfl q.1
      · intro q
        exact Or.inl ⟨rfl, b, by omega, by show x.1 37 i + wX x i j ≤ x.1 36 j + -l; omega⟩
  · by_cases b : j = t
    · subst b
      rw [uf_s, uf_n a]
      constructor
      · rintro (q | q | q)
        · exact absurd q.1 a
        · have q1 := q.2.2.1
          have q2 : x.1 37 i + wX x i j ≤ x.1 36 j + l := q.2.2.2
          omega
        · exact absurd rfl q.2.1
      · intro q
        exact Or.inr (Or.inl ⟨a, rfl, by omega, by show x.1 37 i + wX x i j ≤ x.1 36 j + l; omega⟩)
    · rw [uf_n a, uf_n b]
      constructor
      · rintro (q | q | q)
        · exact absurd q.1 a
        · exact absurd q.2.1 b
        · have q1 := q.2.2.1
          have q2 : x.1 37 i + wX x i j ≤ x.1 36 j := q.2.2.2
          omega
      · intro q
        exact Or.inr (Or.inr ⟨a, b, by omega, by show x.1 37 i + wX x i j ≤ x.1 36 j; omega⟩)
section Saves2
variable {G : GX} {d e : Nat} {x m : St}
theorem p_saves (h : Bas x m) (t l : Int) : conI G wdX (d + 23) mX9_saves [vR 9, vI t, vI l] x (fun r x' => conI G wdM (e + 4) mX10_saves [vR 0, vI t, vI l] m (fun r' m' => r' = r ∧ Bas x' m' ∧ Stq x m x' m')) := by
  have hX := h.1
  have hM := h.2.1
  have hR := h.2.2.1
  have h16 := hX.1
  have e3 := hR.1
  have hrX : ∀ j, j < 16 → (0 ≤ x.1 36 j ∧ x.1 36 j ≤ 2879) ∧ (0 ≤ x.1 37 j ∧ x.1 37 j ≤ 2879) := fun j hj => (hX.2.1 j hj).2.2
  have hrM : ∀ j, j < 16 → (0 ≤ m.1 6 j ∧ m.1 6 j ≤ 2879) ∧ (0 ≤ m.1 7 j ∧ m.1 7 j ≤ 2879) := fun j hj => (hM.2.1 j hj).2.2
  have can : canX x t l ↔ canM m t l := by
    constructor
    · rintro ⟨q1, q2, q3⟩
      have r := hR.2.1 t.toNat (by omega)
      exact ⟨by omega, by omega, by omega⟩
    · rintro ⟨q1, q2, q3⟩
      have r := hR.2.1 t.toNat (by omega)
      exact ⟨by omega, by omega, by omega⟩
  refine conI.of (ls0 := [vR 9, vI t, vI l]) rfl rfl (Nat.le_of_ble_eq_true rfl) (fun Ret R hret hMx => g_X9_saves_0 hMx t l x ?_)
  refine c_X7_canShift (d := d + 21) t l h16.2 hrX (fun hc => ⟨fun _ => ?_, fun z => by omega⟩) (fun hc => ⟨fun z => absurd rfl z, fun _ => hret _ _ ?_⟩)
  · refine p_bring (d := d) h (fun x' f w hb h1 => ?_)
    have hX' := hb.1
    have hR' := hb.2.2.1
    obtain ⟨⟨c1, c2⟩, c3, c4⟩ := hc
    have n74 : x'.1 7 = x.1 7 := f.at (by decide)
    have hb36 := hX.2.1 t.toNat (by omega)
    have et : t = (t.toNat : Int) := by omega
    generalize hn : (x.1 7 4).toNat = n at *
    have en : x'.1 7 4 = (n : Int) := by rw [n74]; omega
    have goal : conI G wdX (d + 22) mX4_fewestWith [vR 4, vI (t.toNat : Int), vI l] x' (fun x3 σ3 => (r32 ((x'.1 4 3) - x3) ∧ Ret (some (vI ((x'.1 4 3) - x3))) σ3)) := by
      refine c_fewestWith (d := d + 2) hX' (hb.2.2.2.2.2.2.1 h1).1 hb.2.2.2.1 (n := n) (t := t.toNat) en (by omega) l ⟨by omega, by omega⟩ (fun x2 N ok f2 ho2 hMx hok => ?_)
      have hN : N ≤ 16 := by
        obtain ⟨nx, _, _, q3⟩ := hMx.1
        rw [← q3]; exact fb_ct_le _ _
      have h43 : 0 ≤ x'.1 4 3 ∧ x'.1 4 3 ≤ 16 := by
        obtain ⟨n0, e7, hPl, hCu⟩ := (hb.2.2.2.2.2.2.1 h1).2
        have hC : Chn n0 (nz n0 (x'.1 20)) (x'.1 36) := Chn.of (by omega) hPl.1.1 (fun i j hi hj q => foX_bg hX' (by omega) (by omega) q)
        have b1 := bn_upto hC n0
        have b2 := upto_le hC n0 (Nat.le_refl _)
        rw [hPl.2.2.2.1]
        omega
      refine ⟨⟨by omega, by omega⟩, hret _ _ ?_⟩
      refine conI.of (ls0 := [vR 0, vI t, vI l, vN]) rfl rfl (Nat.le_of_ble_eq_true rfl) (fun Ret' R' hret' hMm => g_X10_saves_0 hMm t l m ?_)
      refine c_M_canMove (d := e + 1) t l hM.1 hrM (fun hc' => ⟨fun _ => ?_, fun z => by omega⟩) (fun z => absurd (can.mp ⟨⟨c1, c2⟩, c3, c4⟩) z)
      refine conI.of (ls0 := [vR 0]) rfl rfl (Nat.le_of_ble_eq_true rfl) (fun Ret2 R2 hret2 hM2 => g_X10_blocksNow_0 hM2 m (fun τ1 t1 => ?_))
      refine p_plans (e := e) (hb.un t1) (fun m1 g1 a1 hb1 h13 => hret2 _ _ ?_)
      obtain ⟨n', N', ff, hS⟩ := sam hb1.1 hb1.2.1 hb1.2.2.1 (hb1.2.2.2.2.2.2.1 h1).2 (hb1.2.2.2.2.2.2.2 h13)
      have eb : m1.1 0 15 = x'.1 4 3 := by rw [hS.2.2.2.2.1.1, hS.2.2.2.2.1.2]
      have gm : Fr mpC m m1 := by
        refine Fr.tr ?_ g1
        rw [t1]; exact Fr.one (by decide)
      have am : ∀ c, c ≠ 13 → c ≠ 15 → c ≠ 18 → m1.1 0 c = m.1 0 c := fun c q1 q2 q3 => by rw [a1 c q1 q2 q3, t1, sI_s, uf_n q1]
      have k6 : m1.1 6 = m.1 6 := gm.at (by decide)
      have k7 : m1.1 7 = m.1 7 := gm.at (by decide)
      have rt := hrM t.toNat (by omega)
      have ct : 0 ≤ m.1 6 t.toNat + l ∧ m.1 7 t.toNat + l ≤ 2879 := ⟨hc'.2.1, hc'.2.2⟩
      have rbe := hM.2.2.1 t.toNat (by omega)
      rw [k6]
      refine ⟨⟨c1, by omega⟩, ⟨by omega, by omega⟩, fun τ2 t2 => ?_⟩
      have k72 : τ2.1 7 = m.1 7 := by rw [t2, sI_n _ (by decide), k7]
      rw [k72]
      refine ⟨⟨by omega, by omega⟩, fun τ3 t3 => ?_⟩
      have w6 : τ3.1 6 = uf (m.1 6) t.toNat (m.1 6 t.toNat + l) := by rw [t3, sI_n _ (by decide), t2, sI_s, k6]
      have w7 : τ3.1 7 = uf (m.1 7) t.toNat (m.1 7 t.toNat + l) := by rw [t3, sI_s, k72]
      have wo : ∀ c, c ≠ 6 → c ≠ 7 → τ3.1 c = m1.1 c := fun c q1 q2 => by rw [t3, sI_n _ q2, t2, sI_n _ q1]
      refine conI.of (ls0 := [vR 0]) rfl rfl (Nat.le_of_ble_eq_true rfl) (fun Ret3 R3 hret3 hM3 => g_X10_blocksNow_0 hM3 τ3 (fun τ4 t4 => ?_))
      have v6 : τ4.1 6 = uf (m.1 6) t.toNat (m.1 6 t.toNat + l) := by rw [t4, sI_n _ (by decide), w6]
      have v7 : τ4.1 7 = uf (m.1 7) t.toNat (m.1 7 t.toNat + l) := by rw [t4, sI_n _ (by decide), w7]
      have vo : ∀ c, c ≠ 0 → c ≠ 6 → c ≠ 7 → τ4.1 c = m1.1 c := fun c q0 q1 q2 => by rw [t4, sI_n _ q0, wo c q1 q2]
      have v0 : ∀ c, c ≠ 13 → τ4.1 0 c = m1.1 0 c := fun c q => by rw [t4, sI_s, uf_n q, wo 0 (by decide) (by decide)]
      have v13 : τ4.1 0 13 = 0 := by rw [t4, sI_s, uf_s]
      have u0 : ∀ c, c ≠ 13 → c ≠ 15 → c ≠ 18 → τ4.1 0 c = m.1 0 c := fun c q1 q2 q3 => by rw [v0 c q1, am c q1 q2 q3]
      have hM4 : MB τ4 := hM.mv (t := t.toNat) (l := l) (by omega) ct v6 v7 (u0 3 (by decide) (by decide) (by decide)) (u0 8 (by decide) (by decide) (by decide)) (u0 9 (by decide) (by decide) (by decide)) (u0 10 (by decide) (by decide) (by decide)) (u0 11 (by decide) (by decide) (by decide)) (by rw [vo 1 (by decide) (by decide) (by decide), gm.at (by decide)]) (by rw [vo 2 (by decide) (by decide) (by decide), gm.at (by decide)]) (by rw [vo 3 (by decide) (by decide) (by decide), gm.at (by decide)]) (by rw [vo 4 (by decide) (by decide) (by decide), gm.at (by decide)]) (by rw [vo 5 (by decide) (by decide) (by decide), gm.at (by decide)])
      refine c_plans (d := e) hM4 (Or.inl v13) (fun z => by omega) (fun m3 g3 a3 h133 hP3 => hret3 _ _ ?_)
      have hM3' : MB m3 := hM4.fr (a3 3 (by decide) (by decide) (by decide)) (a3 8 (by decide) (by decide) (by decide)) (a3 9 (by decide) (by decide) (by decide)) (a3 10 (by decide) (by decide) (by decide)) (a3 11 (by decide) (by decide) (by decide)) (g3.at (by decide)) (g3.at (by decide)) (g3.at (by decide)) (g3.at (by decide)) (g3.at (by decide)) (g3.at (by decide)) (g3.at (by decide))
      have y6 : m3.1 6 = uf (m.1 6) t.toNat (m.1 6 t.toNat + l) := by rw [g3.at (by decide), v6]
      have y7 : m3.1 7 = uf (m.1 7) t.toNat (m.1 7 t.toNat + l) := by rw [g3.at (by decide), v7]
      have yo : ∀ c, c = 1 ∨ c = 2 ∨ c = 3 ∨ c = 4 ∨ c = 5 → m3.1 c = m.1 c := fun c hcc => by
        have q1 : c ∉ mpC := by rcases hcc with rfl | rfl | rfl | rfl | rfl <;> decide
        rw [g3.at q1, vo c (by omega) (by omega) (by omega), gm.at q1]
      have y0 : ∀ c, c ≠ 13 → c ≠ 15 → c ≠ 18 → m3.1 0 c = m.1 0 c := fun c q1 q2 q3 => by rw [a3 c q1 q2 q3, u0 c q1 q2 q3]
      have y3 : m3.1 0 3 = (n : Int) := by rw [y0 3 (by decide) (by decide) (by decide)]; omega
      unfold PMs at hP3
      rw [y3, Int.toNat_natCast] at hP3
      have hn16 : n ≤ 16 := by omega
      have hC3 : Chn n (nz n (m3.1 9)) (m3.1 6) := Chn.of hn16 hP3.1.1 (fun i j hi hj q => by
        have q1 := q.1
        have q2 := q.2
        have q3 := hM3'.2.2.1 i (by omega)
        omega)
      have eL : Lc n (m3.1 9) = N := mx_plan hn16 (fun i j hi hj => hM3'.p (by omega) (by omega)) hP3.1 hMx (fun i j hi hj => by
        rw [hok i j hi hj]
        constructor
        · rintro ⟨q1, q2⟩
          exact ⟨q1, (mvF_iff hX' hR' (by omega) (yo 1 (by simp)) (yo 4 (by simp)) (yo 5 (by simp)) y6 y7 (by omega) (by omega)).mp q2⟩
        · rintro ⟨q1, q2⟩
          exact ⟨q1, (mvF_iff hX' hR' (by omega) (yo 1 (by simp)) (yo 4 (by simp)) (yo 5 (by simp)) y6 y7 (by omega) (by omega)).mpr q2⟩)
      have hL := heads_links hC3
      rw [show Lc n (nz n (m3.1 9)) = Lc n (m3.1 9) from Lc_c (fun i hi => if_pos hi), eL] at hL
      have e15 := hP3.2.2.1
      rw [eb, y6, uf_s]
      refine ⟨⟨by omega, by omega⟩, ⟨by omega, by omega⟩, fun τ5 t5 => ?_⟩
      have y75 : τ5.1 7 = uf (m.1 7) t.toNat (m.1 7 t.toNat + l) := by rw [t5, sI_n _ (by decide), y7]
      rw [y75, uf_s]
      refine ⟨⟨by omega, by omega⟩, fun τ6 t6 τ7 t7 => hret' _ _ ⟨by omega, ?_, ?_⟩⟩
      · have z6 : τ7.1 6 = m.1 6 := by
          rw [t7, sI_n _ (by decide), t6, sI_n _ (by decide), t5, sI_s, y6]
          funext b
          by_cases q : b = t.toNat
          · rw [q, uf_s]; omega
          · rw [uf_n q, uf_n q]
        have z7 : τ7.1 7 = m.1 7 := by
          rw [t7, sI_n _ (by decide), t6, sI_s, y75]
          funext b
          by_cases q : b = t.toNat
          · rw [q, uf_s]; omega
          · rw [uf_n q, uf_n q]
        have zo : ∀ c, c ≠ 0 → c ≠ 6 → c ≠ 7 → τ7.1 c = m3.1 c := fun c q0 q1 q2 => by rw [t7, sI_n _ q0, t6, sI_n _ q2, t5, sI_n _ q1]
        have z0 : ∀ c, c ≠ 13 → c ≠ 15 → c ≠ 18 → τ7.1 0 c = m.1 0 c := fun c q1 q2 q3 => by rw [t7, sI_s, uf_n q1, t6, sI_n _ (by decide), t5, sI_n _ (by decide), y0 c q1 q2 q3]
        have z13 : τ7.1 0 13 = 0 := by rw [t7, sI_s, uf_s]
        have zz : ∀ c, c = 1 ∨ c = 2 ∨ c = 3 ∨ c = 4 ∨ c = 5 → τ7.1 c = m.1 c := fun c hcc => by rw [zo c (by omega) (by omega) (by omega), yo c hcc]
        have fx : Fr [3, 17, 18, 19] x' x2 := f2
        refine ⟨hX'.frame fx (by decide), hM.fr (z0 3 (by decide) (by decide) (by decide)) (z0 8 (by decide) (by decide) (by decide)) (z0 9 (by decide) (by decide) (by decide)) (z0 10 (by decide) (by decide) (by decide)) (z0 11 (by decide) (by decide) (by decide)) (zz 1 (by simp)) (zz 2 (by simp)) (zz 3 (by simp)) (zz 4 (by simp)) (zz 5 (by simp)) z6 z7, ?_, ho2, by rw [fx.at (by decide)]; exact hb.2.2.2.2.1, Or.inl z13, fun _ => ⟨AF.fr (hb.2.2.2.2.2.2.1 h1).1 fx (by decide) (by decide), PX.fr (hb.2.2.2.2.2.2.1 h1).2 fx (fun k hk => by simp; omega)⟩, fun z => by omega⟩
        have br : BR x2 m := hR'.fr fx (Fr.rfl' (S := [])) (by decide) (by decide) ⟨rfl, rfl, rfl, rfl, rfl⟩
        unfold BR at br ⊢
        rw [z6, z7, zz 1 (by simp), zz 2 (by simp), zz 3 (by simp), zz 4 (by simp), zz 5 (by simp), z0 3 (by decide) (by decide) (by decide), z0 8 (by decide) (by decide) (by decide), z0 9 (by decide) (by decide) (by decide), z0 10 (by decide) (by decide) (by decide), z0 11 (by decide) (by decide) (by decide)]
        exact br
      · refine Or.inr ⟨by rw [f2.at (by decide), f.at (by decide)], ?_, ?_, fun z => ⟨by rw [f2.at (by decide)]; exact h1, ?_⟩⟩
        · rw [t7, sI_s, uf_n (by decide), t6, sI_n _ (by decide), t5, sI_n _ (by decide), y0 25 (by decide) (by decide) (by decide)]
        · rw [t7, sI_n _ (by decide), t6, sI_n _ (by decide), t5, sI_n _ (by decide), g3.at (by decide), vo 18 (by decide) (by decide) (by decide), gm.at (by decide)]
        · rw [w z] at f2
          exact f2.mono (by decide)
    rw [← et] at goal
    exact goal
  · refine conI.of (ls0 := [vR 0, vI t, vI l, vN]) rfl rfl (Nat.le_of_ble_eq_true rfl) (fun Ret' R' hret' hMm => g_X10_saves_0 hMm t l m ?_)
    exact c_M_canMove (d := e + 1) t l hM.1 hrM (fun z => absurd (can.mpr z) hc) (fun _ => ⟨fun z => absurd rfl z, fun _ => hret' _ _ ⟨rfl, h, Stq.no x m⟩⟩)
end Saves2
