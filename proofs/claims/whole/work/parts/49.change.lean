/-! ===== class and model answer alike: changes ===== -/
theorem Bas.new {x m : St} (h1 : XB x) (h2 : MB m) (h3 : BR x m) (h4 : opn x) (h5 : x.1 9 7 = 0) (h6 : m.1 0 13 = 0) : Bas x m := ⟨h1, h2, h3, h4, Or.inl h5, Or.inl h6, fun z => by omega, fun z => by omega⟩
theorem way_bas {x m x' m' : St} (h : Bas x m) {a b mi pr : Int} (hw : wayOk a b mi pr) (hx : x' = sI (sI (sI (sI x 38 (a * 12 + b).toNat mi) 39 (a * 12 + b).toNat pr) 9 7 0) 5 9 0) (g : Fr [0, 1, 2] m m') (f1 : m'.1 1 = uf (m.1 1) (a * 12 + b).toNat mi)
    (f2 : ∃ v, (¬ mi = -1 → v = pr) ∧ (mi = -1 → v = 0) ∧ m'.1 2 = uf (m.1 2) (a * 12 + b).toNat v) (f0 : m'.1 0 = uf (uf (m.1 0) 13 0) 25 0) : Bas x' m' ∧ Stq x m x' m' := by
  obtain ⟨hX, hM, hR, ho, _⟩ := h
  obtain ⟨v, v1, v2, f2⟩ := f2
  have q38 : x'.1 38 = uf (x.1 38) (a * 12 + b).toNat mi := by rw [hx, sI_n _ (by decide), sI_n _ (by decide), sI_n _ (by decide), sI_s]
  have q39 : x'.1 39 = uf (x.1 39) (a * 12 + b).toNat pr := by rw [hx, sI_n _ (by decide), sI_n _ (by decide), sI_s, sI_n _ (by decide)]
  have qo : ∀ c, c ≠ 38 → c ≠ 39 → c ≠ 9 → c ≠ 5 → x'.1 c = x.1 c := fun c r1 r2 r3 r4 => by rw [hx, sI_n _ r4, sI_n _ r3, sI_n _ r2, sI_n _ r1]
  have p0 : ∀ c, c ≠ 13 → c ≠ 25 → m'.1 0 c = m.1 0 c := fun c r1 r2 => by rw [f0, uf_n r2, uf_n r1]
  have p13 : m'.1 0 13 = 0 := by rw [f0, uf_n (by decide), uf_s]
  have p25 : m'.1 0 25 = 0 := by rw [f0, uf_s]
  have q9 : x'.1 9 7 = 0 := by rw [hx, sI_n _ (by decide), sI_s, uf_s]
  have q5 : x'.1 5 9 = 0 := by rw [hx, sI_s, uf_s]
  obtain ⟨w1, w2, w3, w4, w5⟩ := hw
  have hv : 0 ≤ v ∧ v ≤ 1000 := by
    by_cases z : mi = -1
    · rw [v2 z]; omega
    · rw [v1 z]; exact w5
  refine ⟨Bas.new ?_ ?_ ?_ (fun r hr => by rw [qo 17 (by decide) (by decide) (by decide) (by decide)]; exact ho r hr) q9 p13, Or.inl ⟨q5, p25⟩⟩
  · obtain ⟨a1, a2, a3, a4, a5⟩ := hX
    unfold XB
    rw [q38, q39, qo 0 (by decide) (by decide) (by decide) (by decide), qo 7 (by decide) (by decide) (by decide) (by decide), qo 34 (by decide) (by decide) (by decide) (by decide), qo 35 (by decide) (by decide) (by decide) (by decide), qo 36 (by decide) (by decide) (by decide) (by decide), qo 37 (by decide) (by decide) (by decide) (by decide), qo 40 (by decide) (by decide) (by decide) (by decide)]
    refine ⟨a1, a2, a3, fun i hi => ?_, a5⟩
    by_cases z : i = (a * 12 + b).toNat
    · rw [z, uf_s, uf_s]; exact ⟨w4, w5⟩
    · rw [uf_n z, uf_n z]; exact a4 i hi
  · obtain ⟨a1, a2, a3, a4, a5⟩ := hM
    unfold MB
    rw [p0 3 (by decide) (by decide), p0 8 (by decide) (by decide), p0 9 (by decide) (by decide), p0 10 (by decide) (by decide), p0 11 (by decide) (by decide), f1, f2, g.at (k := 3) (by decide), g.at (k := 4) (by decide), g.at (k := 5) (by decide), g.at (k := 6) (by decide), g.at (k := 7) (by decide)]
    refine ⟨a1, a2, a3, fun i hi => ?_, a5⟩
    by_cases z : i = (a * 12 + b).toNat
    · rw [z, uf_s, uf_s]; exact ⟨w4, hv⟩
    · rw [uf_n z, uf_n z]; exact a4 i hi
  · obtain ⟨a1, a2, a3, a4⟩ := hR
    unfold BR
    rw [q38, q39, qo 0 (by decide) (by decide) (by decide) (by decide), qo 7 (by decide) (by decide) (by decide) (by decide), qo 34 (by decide) (by decide) (by decide) (by decide), qo 35 (by decide) (by decide) (by decide) (by decide), qo 36 (by decide) (by decide) (by decide) (by decide), qo 37 (by decide) (by decide) (by decide) (by decide), qo 40 (by decide) (by decide) (by decide) (by decide)]
    rw [p0 3 (by decide) (by decide), p0 8 (by decide) (by decide), p0 9 (by decide) (by decide), p0 10 (by decide) (by decide), p0 11 (by decide) (by decide), f1, f2, g.at (k := 3) (by decide), g.at (k := 4) (by decide), g.at (k := 5) (by decide), g.at (k := 6) (by decide), g.at (k := 7) (by decide)]
    refine ⟨a1, a2, fun i hi => ?_, a4⟩
    by_cases z : i = (a * 12 + b).toNat
    · rw [z, uf_s, uf_s, uf_s, uf_s]; exact ⟨rfl, fun y => (v1 y).symm⟩
    · rw [uf_n z, uf_n z, uf_n z, uf_n z]; exact a3 i hi
theorem relief_bas {x m x' m' : St} (h : Bas x m) {p v : Int} (hp : 0 ≤ p ∧ p < 12) (hv : v = 0 ∨ v = 1) (hx : x' = sI (sI (sI x 40 p.toNat v) 9 7 0) 5 9 0) (hm : m' = sI (sI (sI m 3 p.toNat v) 0 13 0) 0 25 0) : Bas x' m' ∧ Stq x m x' m' := by
  obtain ⟨hX, hM, hR, ho, _⟩ := h
  have q40 : x'.1 40 = uf (x.1 40) p.toNat v := by rw [hx, sI_n _ (by decide), sI_n _ (by decide), sI_s]
  have qo : ∀ c, c ≠ 40 → c ≠ 9 → c ≠ 5 → x'.1 c = x.1 c := fun c r2 r3 r4 => by rw [hx, sI_n _ r4, sI_n _ r3, sI_n _ r2]
  have p3 : m'.1 3 = uf (m.1 3) p.toNat v := by rw [hm, sI_n _ (by decide), sI_n _ (by decide), sI_s]
  have po : ∀ c, c ≠ 3 → c ≠ 0 → m'.1 c = m.1 c := fun c r2 r3 => by rw [hm, sI_n _ r3, sI_n _ r3, sI_n _ r2]
  have p0 : ∀ c, c ≠ 13 → c ≠ 25 → m'.1 0 c = m.1 0 c := fun c r1 r2 => by rw [hm, sI_s, uf_n r2, sI_s, uf_n r1, sI_n _ (by decide)]
  have p13 : m'.1 0 13 = 0 := by rw [hm, sI_s, uf_n (by decide), sI_s, uf_s]
  have p25 : m'.1 0 25 = 0 := by rw [hm, sI_s, uf_s]
  have q9 : x'.1 9 7 = 0 := by rw [hx, sI_n _ (by decide), sI_s, uf_s]
  have q5 : x'.1 5 9 = 0 := by rw [hx, sI_s, uf_s]
  refine ⟨Bas.new ?_ ?_ ?_ (fun r hr => by rw [qo 17 (by decide) (by decide) (by decide)]; exact ho r hr) q9 p13, Or.inl ⟨q5, p25⟩⟩
  · obtain ⟨a1, a2, a3, a4, a5, a6⟩ := hX
    unfold XB
    rw [q40, qo 0 (by decide) (by decide) (by decide), qo 7 (by decide) (by decide) (by decide), qo 34 (by decide) (by decide) (by decide), qo 35 (by decide) (by decide) (by decide), qo 36 (by decide) (by decide) (by decide), qo 37 (by decide) (by decide) (by decide), qo 38 (by decide) (by decide) (by decide), qo 39 (by decide) (by decide) (by decide)]
    refine ⟨a1, a2, a3, a4, fun i hi => ?_, a6⟩
    by_cases z : i = p.toNat
    · rw [z, uf_s]; exact hv
    · rw [uf_n z]; exact a5 i hi
  · obtain ⟨a1, a2, a3, a4, a5, a6⟩ := hM
    unfold MB
    rw [p0 3 (by decide) (by decide), p0 8 (by decide) (by decide), p0 9 (by decide) (by decide), p0 10 (by decide) (by decide), p0 11 (by decide) (by decide), p3, po 1 (by decide) (by decide), po 2 (by decide) (by decide), po 4 (by decide) (by decide), po 5 (by decide) (by decide), po 6 (by decide) (by decide), po 7 (by decide) (by decide)]
    refine ⟨a1, a2, a3, a4, fun i hi => ?_, a6⟩
    by_cases z : i = p.toNat
    · rw [z, uf_s]; exact hv
    · rw [uf_n z]; exact a5 i hi
  · obtain ⟨a1, a2, a3, a4, a5⟩ := hR
    unfold BR
    rw [q40, qo 0 (by decide) (by decide) (by decide), qo 7 (by decide) (by decide) (by decide), qo 34 (by decide) (by decide) (by decide), qo 35 (by decide) (by decide) (by decide), qo 36 (by decide) (by decide) (by decide), qo 37 (by decide) (by decide) (by decide), qo 38 (by decide) (by decide) (by decide), qo 39 (by decide) (by decide) (by decide)]
    rw [p0 3 (by decide) (by decide), p0 8 (by decide) (by decide), p0 9 (by decide) (by decide), p0 10 (by decide) (by decide), p0 11 (by decide) (by decide), p3, po 1 (by decide) (by decide), po 2 (by decide) (by decide), po 4 (by decide) (by decide), po 5 (by decide) (by decide), po 6 (by decide) (by decide), po 7 (by decide) (by decide)]
    refine ⟨a1, a2, a3, fun i hi => ?_, a5⟩
    by_cases z : i = p.toNat
    · rw [z, uf_s, uf_s]
    · rw [uf_n z, uf_n z]; exact a4 i hi
/-- trips and laws apart, class and model are as they were -/
theorem trips_bas {x m x' m' : St} (h : Bas x m) (q : ∀ c, c = 0 ∨ c = 17 ∨ c = 38 ∨ c = 39 ∨ c = 40 → x'.1 c = x.1 c) (p : ∀ c, c = 1 ∨ c = 2 ∨ c = 3 → m'.1 c = m.1 c) (p0 : ∀ c, c = 8 ∨ c = 9 ∨ c = 10 ∨ c = 11 → m'.1 0 c = m.1 0 c)
    (q9 : x'.1 9 7 = 0) (q5 : x'.1 5 9 = 0) (p13 : m'.1 0 13 = 0) (p25 : m'.1 0 25 = 0) (e7 : x'.1 7 4 = m'.1 0 3) (h7 : 0 ≤ x'.1 7 4 ∧ x'.1 7 4 ≤ 16)
    (t1 : ∀ j, j < 16 → (0 ≤ x'.1 34 j ∧ x'.1 34 j < 12) ∧ (0 ≤ x'.1 35 j ∧ x'.1 35 j < 12) ∧ (0 ≤ x'.1 36 j ∧ x'.1 36 j ≤ 2879) ∧ (0 ≤ x'.1 37 j ∧ x'.1 37 j ≤ 2879)) (t2 : ∀ j : Nat, (j : Int) < x'.1 7 4 → x'.1 36 j < x'.1 37 j)
    (t3 : ∀ j, j < 16 → x'.1 34 j = m'.1 4 j ∧ x'.1 35 j = m'.1 5 j ∧ x'.1 36 j = m'.1 6 j ∧ x'.1 37 j = m'.1 7 j) : Bas x' m' ∧ Stq x m x' m' := by
  obtain ⟨hX, hM, hR, ho, _⟩ := h
  refine ⟨Bas.new ?_ ?_ ?_ (fun r hr => by rw [q 17 (by simp)]; exact ho r hr) q9 p13, Or.inl ⟨q5, p25⟩⟩
  · obtain ⟨a1, a2, a3, a4⟩ := hX
    unfold XB
    rw [q 0 (by simp), q 38 (by simp), q 39 (by simp), q 40 (by simp)]
    exact ⟨h7, t1, t2, a4⟩
  · obtain ⟨a1, a2, a3, a4⟩ := hM
    unfold MB
    rw [p 1 (by simp), p 2 (by simp), p 3 (by simp), p0 8 (by simp), p0 9 (by simp), p0 10 (by simp), p0 11 (by simp), ← e7]
    refine ⟨h7, fun j hj => ?_, fun j hj => ?_, a4⟩
    · have z := t3 j hj
      rw [← z.1, ← z.2.1, ← z.2.2.1, ← z.2.2.2]
      exact t1 j hj
    · have z := t3 j (by omega)
      rw [← z.2.2.1, ← z.2.2.2]
      exact t2 j hj
  · obtain ⟨a1, a2, a3⟩ := hR
    unfold BR
    rw [q 0 (by simp), q 38 (by simp), q 39 (by simp), q 40 (by simp), p 1 (by simp), p 2 (by simp), p 3 (by simp), p0 8 (by simp), p0 9 (by simp), p0 10 (by simp), p0 11 (by simp)]
    exact ⟨e7, t3, a3⟩
theorem PMs.laws {m m' : St} (h : PMs m) (p : ∀ c, c ≠ 0 → m'.1 c = m.1 c) (p0 : ∀ c, c = 3 ∨ c = 15 ∨ c = 18 → m'.1 0 c = m.1 0 c) : PMs m' := by
  have efo : foM m' = foM m := foM.eq (p 1 (by decide)) (p 4 (by decide)) (p 5 (by decide)) (p 6 (by decide)) (p 7 (by decide))
  have epm : pM m' = pM m := pM.eq (p 2 (by decide)) (p 4 (by decide)) (p 5 (by decide))
  have erl : rlM m' = rlM m := by funext u; unfold rlM; rw [p 3 (by decide), p 5 (by decide)]
  unfold PMs rowsM at h ⊢
  rw [efo, epm, erl, p0 3 (by simp), p0 15 (by simp), p0 18 (by simp), p 9 (by decide), p 10 (by decide), p 11 (by decide), p 12 (by decide), p 13 (by decide), p 14 (by decide), p 15 (by decide), p 16 (by decide)]
  exact h
theorem laws_bas {x m x' m' : St} (h : Bas x m) {s w b v : Int} (hw : lawsOk s w b) (hv : v = 0 ∨ v = 1) (hx : x' = sI (sI (sI (sI (sI x 0 0 s) 0 1 w) 0 2 b) 0 3 v) 5 9 0) (hm : m' = sI (sI (sI (sI (sI m 0 8 s) 0 9 w) 0 10 b) 0 11 v) 0 25 0) : Bas x' m' ∧ Stq x m x' m' := by
  obtain ⟨hX, hM, hR, ho, k5, k6, k7, k8⟩ := h
  have qo : ∀ c, c ≠ 0 → c ≠ 5 → x'.1 c = x.1 c := fun c r2 r3 => by rw [hx, sI_n _ r3, sI_n _ r2, sI_n _ r2, sI_n _ r2, sI_n _ r2]
  have q0 : x'.1 0 0 = s ∧ x'.1 0 1 = w ∧ x'.1 0 2 = b ∧ x'.1 0 3 = v := by
    rw [hx, sI_n _ (by decide), sI_s, sI_s, sI_s, sI_s]
    exact ⟨rfl, rfl, rfl, rfl⟩
  have po : ∀ c, c ≠ 0 → m'.1 c = m.1 c := fun c r => by rw [hm, sI_n _ r, sI_n _ r, sI_n _ r, sI_n _ r, sI_n _ r]
  have p0 : m'.1 0 = uf (uf (uf (uf (uf (m.1 0) 8 s) 9 w) 10 b) 11 v) 25 0 := by rw [hm, sI_s, sI_s, sI_s, sI_s, sI_s]
  have p8 : m'.1 0 8 = s ∧ m'.1 0 9 = w ∧ m'.1 0 10 = b ∧ m'.1 0 11 = v := by rw [p0]; exact ⟨rfl, rfl, rfl, rfl⟩
  have pn : ∀ c, c ≠ 8 → c ≠ 9 → c ≠ 10 → c ≠ 11 → c ≠ 25 → m'.1 0 c = m.1 0 c := fun c r1 r2 r3 r4 r5 => by rw [p0, uf_n r5, uf_n r4, uf_n r3, uf_n r2, uf_n r1]
  have p25 : m'.1 0 25 = 0 := by rw [p0, uf_s]
  have q5 : x'.1 5 9 = 0 := by rw [hx, sI_s, uf_s]
  have q97 : x'.1 9 7 = x.1 9 7 := by rw [qo 9 (by decide) (by decide)]
  have p13 : m'.1 0 13 = m.1 0 13 := pn 13 (by decide) (by decide) (by decide) (by decide) (by decide)
  have f : Fr [0, 5] x x' := by rw [hx]; exact ((((Fr.one (by decide)).put (by decide)).put (by decide)).put (by decide)).put (by decide)
  refine ⟨⟨?_, ?_, ?_, fun r hr => by rw [qo 17 (by decide) (by decide)]; exact ho r hr, by rw [q97]; exact k5, by rw [p13]; exact k6, fun z => ?_, fun z => ?_⟩, Or.inl ⟨q5, p25⟩⟩
  · obtain ⟨a1, a2, a3, a4, a5, a6⟩ := hX
    unfold XB
    rw [q0.1, q0.2.1, q0.2.2.1, q0.2.2.2, qo 7 (by decide) (by decide), qo 34 (by decide) (by decide), qo 35 (by decide) (by decide), qo 36 (by decide) (by decide), qo 37 (by decide) (by decide), qo 38 (by decide) (by decide), qo 39 (by decide) (by decide), qo 40 (by decide) (by decide)]
    exact ⟨a1, a2, a3, a4, a5, hw.1, hw.2.1, hw.2.2, hv⟩
  · obtain ⟨a1, a2, a3, a4, a5, a6⟩ := hM
    unfold MB
    rw [p8.1, p8.2.1, p8.2.2.1, p8.2.2.2, pn 3 (by decide) (by decide) (by decide) (by decide) (by decide), po 1 (by decide), po 2 (by decide), po 3 (by decide), po 4 (by decide), po 5 (by decide), po 6 (by decide), po 7 (by decide)]
    exact ⟨a1, a2, a3, a4, a5, hw.1, hw.2.1, hw.2.2, hv⟩
  · obtain ⟨a1, a2, a3, a4, a5⟩ := hR
    unfold BR
    rw [q0.1, q0.2.1, q0.2.2.1, q0.2.2.2, qo 7 (by decide) (by decide), qo 34 (by decide) (by decide), qo 35 (by decide) (by decide), qo 36 (by decide) (by decide), qo 37 (by decide) (by decide), qo 38 (by decide) (by decide), qo 39 (by decide) (by decide), qo 40 (by decide) (by decide)]
    rw [p8.1, p8.2.1, p8.2.2.1, p8.2.2.2, pn 3 (by decide) (by decide) (by decide) (by decide) (by decide), po 1 (by decide), po 2 (by decide), po 3 (by decide), po 4 (by decide), po 5 (by decide), po 6 (by decide), po 7 (by decide)]
    exact ⟨a1, a2, a3, a4, rfl, rfl, rfl, rfl⟩
  · rw [q97] at z
    have k := k7 z
    refine ⟨?_, k.2.fr f (fun k hk => by simp; omega)⟩
    have efo : foX x' = foX x := foX.fr (qo 34 (by decide) (by decide)) (qo 35 (by decide) (by decide)) (qo 36 (by decide) (by decide)) (qo 37 (by decide) (by decide)) (qo 38 (by decide) (by decide))
    have k1 := k.1
    unfold AF at k1 ⊢
    rw [efo, qo 7 (by decide) (by decide), qo 15 (by decide) (by decide)]
    exact k1
  · rw [p13] at z
    exact (k8 z).laws po (fun c hc => pn c (by omega) (by omega) (by omega) (by omega) (by omega))
section Change
variable {G : GX} {d e : Nat} {x m : St}
theorem p_way (h : Bas x m) (a b mi pr : Int) : conI G wdX (d + 2) mX9_way [vR 9, vI a, vI b, vI mi, vI pr] x (fun r x' => conI G wdM (e + 2) mX10_way [vR 0, vI a, vI b, vI mi, vI pr] m (fun r' m' => r' = r ∧ Bas x' m' ∧ Stq x m x' m')) := by
  refine conI.of (ls0 := [vR 9, vI a, vI b, vI mi, vI pr]) rfl rfl (Nat.le_of_ble_eq_true rfl) (fun Ret R hret hMx => g_X9_way_0 hMx a b mi pr x ?_)
  refine c_X8_put (d := d) a b mi pr (fun hw => c_noted (d := d) 1 (Or.inr rfl) (fun _ => ⟨Or.inr rfl, hret _ _ ?_⟩) (fun z => by omega)) (fun hw => c_noted (d := d) 0 (Or.inl rfl) (fun z => by omega) (fun _ => ⟨Or.inl rfl, hret _ _ ?_⟩))
  · exact c_M_way (d := e) a b mi pr (fun _ m' g f1 f2 f0 => ⟨rfl, way_bas h hw rfl g f1 f2 f0⟩) (fun z => absurd hw z)
  · exact c_M_way (d := e) a b mi pr (fun z => absurd z hw) (fun _ => ⟨rfl, h, Stq.no x m⟩)
theorem p_relief (h : Bas x m) (p v : Int) (hv : v = 0 ∨ v = 1) : conI G wdX (d + 2) mX9_relief [vR 9, vI p, vI v] x (fun r x' => conI G wdM (e + 2) mX10_relief [vR 0, vI p, vI v] m (fun r' m' => r' = r ∧ Bas x' m' ∧ Stq x m x' m')) := by
  refine conI.of (ls0 := [vR 9, vI p, vI v]) rfl rfl (Nat.le_of_ble_eq_true rfl) (fun Ret R hret hMx => g_X9_relief_0 hMx p v x ?_)
  refine c_X8_putRelief (d := d) p v hv (fun hp => c_noted (d := d) 1 (Or.inr rfl) (fun _ => ⟨Or.inr rfl, hret _ _ ?_⟩) (fun z => by omega)) (fun hp => c_noted (d := d) 0 (Or.inl rfl) (fun z => by omega) (fun _ => ⟨Or.inl rfl, hret _ _ ?_⟩))
  · exact c_M_relief (d := e) p v hv (fun _ => ⟨rfl, relief_bas h hp hv rfl rfl⟩) (fun z => absurd hp z)
  · exact c_M_relief (d := e) p v hv (fun z => absurd z hp) (fun _ => ⟨rfl, h, Stq.no x m⟩)
theorem p_laws (h : Bas x m) (s w b v : Int) (hv : v = 0 ∨ v = 1) : conI G wdX (d + 2) mX9_laws [vR 9, vI s, vI w, vI b, vI v] x (fun r x' => conI G wdM (e + 1) mX10_laws [vR 0, vI s, vI w, vI b, vI v] m (fun r' m' => r' = r ∧ Bas x' m' ∧ Stq x m x' m')) := by
  refine conI.of (ls0 := [vR 9, vI s, vI w, vI b, vI v, vN]) rfl rfl (Nat.le_of_ble_eq_true rfl) (fun Ret R hret hMx => g_X9_laws_0 hMx s w b v x ?_)
  refine c_X0_put (d := d) s w b v hv (fun hp => ⟨fun z => by omega, fun _ => c_X5_forget ⟨Or.inr rfl, hret _ _ ?_⟩⟩) (fun hp => ⟨fun _ => ⟨Or.inl rfl, hret _ _ ?_⟩, fun z => absurd rfl z⟩)
  · exact c_M_laws (d := e) s w b v hv (fun _ => ⟨rfl, laws_bas h hp hv rfl rfl⟩) (fun z => absurd hp z)
  · exact c_M_laws (d := e) s w b v hv (fun z => absurd z hp) (fun _ => ⟨rfl, h, Stq.no x m⟩)
theorem p_trip (h : Bas x m) (a b p q : Int) : conI G wdX (d + 2) mX9_trip [vR 9, vI a, vI b, vI p, vI q] x (fun r x' => conI G wdM (e + 2) mX10_trip [vR 0, vI a, vI b, vI p, vI q] m (fun r' m' => r' = r ∧ Bas x' m' ∧ Stq x m x' m')) := by
  have hX := h.1
  have hR := h.2.2.1
  have e3 := hR.1
  have h16 := hX.1
  refine conI.of (ls0 := [vR 9, vI a, vI b, vI p, vI q]) rfl rfl (Nat.le_of_ble_eq_true rfl) (fun Ret R hret hMx => g_X9_trip_0 hMx a b p q x ?_)
  refine c_X7_add (d := d) a b p q h16.1 (fun hp => c_noted (d := d) 1 (Or.inr rfl) (fun _ => ⟨fun z => by omega, fun _ => ?_⟩) (fun z => by omega)) (fun hp => c_noted (d := d) 0 (Or.inl rfl) (fun z => by omega) (fun _ => ⟨fun _ => hret _ _ ?_, fun z => absurd rfl z⟩))
  · generalize hx : sI (sI (sI (sI (sI (sI (sI x 34 (x.1 7 4).toNat a) 35 (x.1 7 4).toNat b) 36 (x.1 7 4).toNat p) 37 (x.1 7 4).toNat q) 7 4 (x.1 7 4 + 1)) 9 7 0) 5 9 0 = x'
    have qo : ∀ c, c ≠ 34 → c ≠ 35 → c ≠ 36 → c ≠ 37 → c ≠ 7 → c ≠ 9 → c ≠ 5 → x'.1 c = x.1 c := fun c r1 r2 r3 r4 r5 r6 r7 => by rw [← hx, sI_n _ r7, sI_n _ r6, sI_n _ r5, sI_n _ r4, sI_n _ r3, sI_n _ r2, sI_n _ r1]
    have q34 : x'.1 34 = uf (x.1 34) (x.1 7 4).toNat a := by rw [← hx, sI_n _ (by decide), sI_n _ (by decide), sI_n _ (by decide), sI_n _ (by decide), sI_n _ (by decide), sI_n _ (by decide), sI_s]
    have q35 : x'.1 35 = uf (x.1 35) (x.1 7 4).toNat b := by rw [← hx, sI_n _ (by decide), sI_n _ (by decide), sI_n _ (by decide), sI_n _ (by decide), sI_n _ (by decide), sI_s, sI_n _ (by decide)]
    have q36 : x'.1 36 = uf (x.1 36) (x.1 7 4).toNat p := by rw [← hx, sI_n _ (by decide), sI_n _ (by decide), sI_n _ (by decide), sI_n _ (by decide), sI_s, sI_n _ (by decide), sI_n _ (by decide)]
    have q37 : x'.1 37 = uf (x.1 37) (x.1 7 4).toNat q := by rw [← hx, sI_n _ (by decide), sI_n _ (by decide), sI_n _ (by decide), sI_s, sI_n _ (by decide), sI_n _ (by decide), sI_n _ (by decide)]
    have q7 : x'.1 7 4 = x.1 7 4 + 1 := by rw [← hx, sI_n _ (by decide), sI_n _ (by decide), sI_s, uf_s]
    have q9 : x'.1 9 7 = 0 := by rw [← hx, sI_n _ (by decide), sI_s, uf_s]
    have q5 : x'.1 5 9 = 0 := by rw [← hx, sI_s, uf_s]
    obtain ⟨w1, w2, w3, w4, w5, w6⟩ := hp
    rw [q7, show x.1 7 4 + 1 - 1 = x.1 7 4 from by omega]
    refine ⟨⟨by omega, by omega⟩, hret _ _ ?_⟩
    refine c_M_trip (d := e) a b p q h.2.1.1 (fun _ m' g f4 f5 f6 f7 f0 => ⟨e3.symm, ?_⟩) (fun z => absurd ⟨by omega, w2, w3, w4, w5, w6⟩ z)
    have p3 : m'.1 0 3 = m.1 0 3 + 1 := by rw [f0]; rfl
    have p0 : ∀ c, c ≠ 3 → c ≠ 13 → c ≠ 25 → m'.1 0 c = m.1 0 c := fun c r0 r1 r2 => by rw [f0, uf_n r2, uf_n r1, uf_n r0]
    refine trips_bas h (fun c hc => qo c (by omega) (by omega) (by omega) (by omega) (by omega) (by omega) (by omega)) (fun c hc => g.at (by rcases hc with rfl | rfl | rfl <;> decide)) (fun c hc => p0 c (by omega) (by omega) (by omega)) q9 q5 (by rw [f0]; rfl) (by rw [f0]; rfl) (by omega) (by omega) (fun j hj => ?_) (fun j hj => ?_) (fun j hj => ?_)
    · rw [q34, q35, q36, q37]
      by_cases z : j = (x.1 7 4).toNat
      · rw [z, uf_s, uf_s, uf_s, uf_s]; omega
      · rw [uf_n z, uf_n z, uf_n z, uf_n z]; exact hX.2.1 j hj
    · rw [q36, q37]
      by_cases z : j = (x.1 7 4).toNat
      · rw [z, uf_s, uf_s]; omega
      · rw [uf_n z, uf_n z]; exact hX.2.2.1 j (by omega)
    · rw [q34, q35, q36, q37, f4, f5, f6, f7, ← e3]
      by_cases z : j = (x.1 7 4).toNat
      · rw [z, uf_s, uf_s, uf_s, uf_s, uf_s, uf_s, uf_s, uf_s]; exact ⟨rfl, rfl, rfl, rfl⟩
      · rw [uf_n z, uf_n z, uf_n z, uf_n z, uf_n z, uf_n z, uf_n z, uf_n z]; exact hR.2.1 j hj
  · exact c_M_trip (d := e) a b p q h.2.1.1 (fun z => absurd ⟨by omega, z.2⟩ hp) (fun _ => ⟨rfl, h, Stq.no x m⟩)
theorem p_drop (h : Bas x m) (t : Int) : conI G wdX (d + 2) mX9_drop [vR 9, vI t] x (fun r x' => conI G wdM (e + 2) mX10_drop [vR 0, vI t] m (fun r' m' => r' = r ∧ Bas x' m' ∧ Stq x m x' m')) := by
  have hX := h.1
  have hR := h.2.2.1
  have e3 := hR.1
  have h16 := hX.1
  refine conI.of (ls0 := [vR 9, vI t]) rfl rfl (Nat.le_of_ble_eq_true rfl) (fun Ret R hret hMx => g_X9_drop_0 hMx t x ?_)
  refine c_X7_takeAway (d := d) t h16.2 (fun hp x1 hdr => c_noted (d := d) 1 (Or.inr rfl) (fun _ => ⟨Or.inr rfl, hret _ _ ?_⟩) (fun z => by omega)) (fun hp => c_noted (d := d) 0 (Or.inl rfl) (fun z => by omega) (fun _ => ⟨Or.inl rfl, hret _ _ ?_⟩))
  · generalize hx : sI (sI x1 9 7 0) 5 9 0 = x'
    obtain ⟨fr, d7, dk⟩ := hdr
    have qo : ∀ c, c ≠ 9 → c ≠ 5 → x'.1 c = x1.1 c := fun c r6 r7 => by rw [← hx, sI_n _ r7, sI_n _ r6]
    have qk : ∀ k, k = 34 ∨ k = 35 ∨ k = 36 ∨ k = 37 → x'.1 k = shp t.toNat ((x.1 7 4).toNat - 1) (x.1 k) := fun k hk => by rw [qo k (by omega) (by omega), dk k hk]
    have q7 : x'.1 7 4 = x.1 7 4 - 1 := by rw [qo 7 (by decide) (by decide), d7, uf_s]
    have q9 : x'.1 9 7 = 0 := by rw [← hx, sI_n _ (by decide), sI_s, uf_s]
    have q5 : x'.1 5 9 = 0 := by rw [← hx, sI_s, uf_s]
    refine c_M_drop (d := e) t h.2.1.1 (fun _ m' hdm => ⟨rfl, ?_⟩) (fun z => absurd (by omega) z)
    obtain ⟨g, f0, fk⟩ := hdm
    have p3 : m'.1 0 3 = m.1 0 3 - 1 := by rw [f0]; rfl
    have p0 : ∀ c, c ≠ 3 → c ≠ 13 → c ≠ 25 → m'.1 0 c = m.1 0 c := fun c r0 r1 r2 => by rw [f0, uf_n r2, uf_n r1, uf_n r0]
    refine trips_bas h (fun c hc => ?_) (fun c hc => g.at (by rcases hc with rfl | rfl | rfl <;> decide)) (fun c hc => p0 c (by omega) (by omega) (by omega)) q9 q5 (by rw [f0]; rfl) (by rw [f0]; rfl) (by omega) (by omega) (fun j hj => ?_) (fun j hj => ?_) (fun j hj => ?_)
    · rw [qo c (by omega) (by omega), fr.at (by rcases hc with rfl | rfl | rfl | rfl | rfl <;> decide)]
    · rw [qk 34 (by simp), qk 35 (by simp), qk 36 (by simp), qk 37 (by simp)]
      unfold shp
      by_cases z : t.toNat ≤ j ∧ j < (x.1 7 4).toNat - 1
      · rw [if_pos z, if_pos z, if_pos z, if_pos z]; exact hX.2.1 (j + 1) (by omega)
      · rw [if_neg z, if_neg z, if_neg z, if_neg z]; exact hX.2.1 j hj
    · rw [qk 36 (by simp), qk 37 (by simp)]
      unfold shp
      by_cases z : t.toNat ≤ j ∧ j < (x.1 7 4).toNat - 1
      · rw [if_pos z, if_pos z]; exact hX.2.2.1 (j + 1) (by omega)
      · rw [if_neg z, if_neg z]; exact hX.2.2.1 j (by omega)
    · rw [qk 34 (by simp), qk 35 (by simp), qk 36 (by simp), qk 37 (by simp), fk 4 (by simp), fk 5 (by simp), fk 6 (by simp), fk 7 (by simp), ← e3]
      unfold shp
      by_cases z : t.toNat ≤ j ∧ j < (x.1 7 4).toNat - 1
      · rw [if_pos z, if_pos z, if_pos z, if_pos z, if_pos z, if_pos z, if_pos z, if_pos z]; exact hR.2.1 (j + 1) (by omega)
      · rw [if_neg z, if_neg z, if_neg z, if_neg z, if_neg z, if_neg z, if_neg z, if_neg z]; exact hR.2.1 j hj
  · exact c_M_drop (d := e) t h.2.1.1 (fun z => absurd (by omega) hp) (fun _ => ⟨rfl, h, Stq.no x m⟩)
theorem p_move (h : Bas x m) (t l : Int) : conI G wdX (d + 3) mX9_move [vR 9, vI t, vI l] x (fun r x' => conI G wdM (e + 3) mX10_move [vR 0, vI t, vI l] m (fun r' m' => r' = r ∧ Bas x' m' ∧ Stq x m x' m')) := by
  have hX := h.1
  have hM := h.2.1
  have hR := h.2.2.1
  have e3 := hR.1
  have h16 := hX.1
  have hrX : ∀ j, j < 16 → (0 ≤ x.1 36 j ∧ x.1 36 j ≤ 2879) ∧ (0 ≤ x.1 37 j ∧ x.1 37 j ≤ 2879) := fun j hj => (hX.2.1 j hj).2.2
  have hrM : ∀ j, j < 16 → (0 ≤ m.1 6 j ∧ m.1 6 j ≤ 2879) ∧ (0 ≤ m.1 7 j ∧ m.1 7 j ≤ 2879) := fun j hj => (hM.2.1 j hj).2.2
  refine conI.of (ls0 := [vR 9, vI t, vI l]) rfl rfl (Nat.le_of_ble_eq_true rfl) (fun Ret R hret hMx => g_X9_move_0 hMx t l x ?_)
  refine c_X7_shift (d := d) t l h16.2 hrX hX.2.2.1 (fun hp => c_noted (d := d + 1) 1 (Or.inr rfl) (fun _ => ⟨Or.inr rfl, hret _ _ ?_⟩) (fun z => by omega)) (fun hp => c_noted (d := d + 1) 0 (Or.inl rfl) (fun z => by omega) (fun _ => ⟨Or.inl rfl, hret _ _ ?_⟩))
  · generalize hx : sI (sI (sI (sI x 36 t.toNat (x.1 36 t.toNat + l)) 37 t.toNat (x.1 37 t.toNat + l)) 9 7 0) 5 9 0 = x'
    have rt := hR.2.1 t.toNat (by omega)
    have qo : ∀ c, c ≠ 36 → c ≠ 37 → c ≠ 9 → c ≠ 5 → x'.1 c = x.1 c := fun c r3 r4 r6 r7 => by rw [← hx, sI_n _ r7, sI_n _ r6, sI_n _ r4, sI_n _ r3]
    have q36 : x'.1 36 = uf (x.1 36) t.toNat (x.1 36 t.toNat + l) := by rw [← hx, sI_n _ (by decide), sI_n _ (by decide), sI_n _ (by decide), sI_s]
    have q37 : x'.1 37 = uf (x.1 37) t.toNat (x.1 37 t.toNat + l) := by rw [← hx, sI_n _ (by decide), sI_n _ (by decide), sI_s, sI_n _ (by decide)]
    have q9 : x'.1 9 7 = 0 := by rw [← hx, sI_n _ (by decide), sI_s, uf_s]
    have q5 : x'.1 5 9 = 0 := by rw [← hx, sI_s, uf_s]
    have z := mvR (l := l) (t := t.toNat) hrX hX.2.2.1 (by omega) hp.2
    refine c_M_move (d := e) t l hM.1 hrM hM.2.2.1 (fun _ => ⟨rfl, ?_⟩) (fun y => absurd (by omega) y)
    generalize hm : sI (sI (sI (sI m 6 t.toNat (m.1 6 t.toNat + l)) 7 t.toNat (m.1 7 t.toNat + l)) 0 13 0) 0 25 0 = m'
    have po : ∀ c, c ≠ 6 → c ≠ 7 → c ≠ 0 → m'.1 c = m.1 c := fun c r3 r4 r6 => by rw [← hm, sI_n _ r6, sI_n _ r6, sI_n _ r4, sI_n _ r3]
    have p6 : m'.1 6 = uf (m.1 6) t.toNat (m.1 6 t.toNat + l) := by rw [← hm, sI_n _ (by decide), sI_n _ (by decide), sI_n _ (by decide), sI_s]
    have p7 : m'.1 7 = uf (m.1 7) t.toNat (m.1 7 t.toNat + l) := by rw [← hm, sI_n _ (by decide), sI_n _ (by decide), sI_s, sI_n _ (by decide)]
    have p0 : ∀ c, c ≠ 13 → c ≠ 25 → m'.1 0 c = m.1 0 c := fun c r1 r2 => by rw [← hm, sI_s, uf_n r2, sI_s, uf_n r1, sI_n _ (by decide), sI_n _ (by decide)]
    have q7 : x'.1 7 = x.1 7 := qo 7 (by decide) (by decide) (by decide) (by decide)
    refine trips_bas h (fun c hc => qo c (by omega) (by omega) (by omega) (by omega)) (fun c hc => po c (by omega) (by omega) (by omega)) (fun c hc => p0 c (by omega) (by omega)) q9 q5 (by rw [← hm, sI_s, uf_n (by decide), sI_s, uf_s]) (by rw [← hm, sI_s, uf_s]) (by rw [q7, p0 3 (by decide) (by decide)]; exact e3) (by rw [q7]; exact h16) (fun j hj => ?_) (fun j hj => ?_) (fun j hj => ?_)
    · rw [qo 34 (by decide) (by decide) (by decide) (by decide), qo 35 (by decide) (by decide) (by decide) (by decide), q36, q37]
      exact ⟨(hX.2.1 j hj).1, (hX.2.1 j hj).2.1, z.1 j hj⟩
    · rw [q36, q37]
      exact z.2 j (by rw [← q7]; exact hj)
    · rw [qo 34 (by decide) (by decide) (by decide) (by decide), qo 35 (by decide) (by decide) (by decide) (by decide), q36, q37, p6, p7, po 4 (by decide) (by decide) (by decide), po 5 (by decide) (by decide) (by decide), ← rt.2.2.1, ← rt.2.2.2]
      have y := hR.2.1 j hj
      refine ⟨y.1, y.2.1, ?_⟩
      by_cases w : j = t.toNat
      · rw [w, uf_s, uf_s, uf_s, uf_s]; exact ⟨rfl, rfl⟩
      · rw [uf_n w, uf_n w, uf_n w, uf_n w]; exact y.2.2
  · refine c_M_move (d := e) t l hM.1 hrM hM.2.2.1 (fun z => absurd ?_ hp) (fun _ => ⟨rfl, h, Stq.no x m⟩)
    have rt := hR.2.1 t.toNat (by omega)
    exact ⟨by omega, by omega, by omega⟩
end Change
