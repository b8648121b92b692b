theorem nw_L_7 : NW RL 7 9 [.null, .null, .null, .null, .null, .null, .null, .int (Int32.ofInt 0)] := ⟨(RX9, TX9, 8), rfl, inwX9, ⟨tyX9, tyX9_ok, fun j hj => match j, hj with | 0, _ => rfl | 1, _ => rfl | 2, _ => rfl | 3, _ => rfl | 4, _ => rfl | 5, _ => rfl | 6, _ => rfl | 7, _ => rfl | n + 8, h => absurd h (by show ¬ n + 8 < 8; omega)⟩, gw_mem 52 (by decide +kernel) rfl, gw_mem 53 (by decide +kernel) rfl, gw_mem 38 (by decide +kernel) rfl, rfl⟩
theorem nw_L_10 : NW RL 10 10 [.null, .null, .null, .int (Int32.ofInt 0), .null, .null, .null, .null, .int (Int32.ofInt 0), .int (Int32.ofInt 0), .int (Int32.ofInt 0), .int (Int32.ofInt 0), .null, .int (Int32.ofInt 0), .null, .int (Int32.ofInt 0), .null, .null, .int (Int32.ofInt 0), .null, .null, .null, .null, .null, .null, .int (Int32.ofInt 0), .null] := ⟨(RX10, TX10, 27), rfl, inwX10, ⟨tyX10, tyX10_ok, fun j hj => match j, hj with | 0, _ => rfl | 1, _ => rfl | 2, _ => rfl | 3, _ => rfl | 4, _ => rfl | 5, _ => rfl | 6, _ => rfl | 7, _ => rfl | 8, _ => rfl | 9, _ => rfl | 10, _ => rfl | 11, _ => rfl | 12, _ => rfl | 13, _ => rfl | 14, _ => rfl | 15, _ => rfl | 16, _ => rfl | 17, _ => rfl | 18, _ => rfl | 19, _ => rfl | 20, _ => rfl | 21, _ => rfl | 22, _ => rfl | 23, _ => rfl | 24, _ => rfl | 25, _ => rfl | 26, _ => rfl | n + 27, h => absurd h (by show ¬ n + 27 < 27; omega)⟩, gw_mem 764 (by decide +kernel) rfl, gw_mem 765 (by decide +kernel) rfl, gw_mem 49 (by decide +kernel) rfl, rfl⟩
theorem cl_L_9 : CL RL 9 mX9_init 0 := ⟨Or.inl (gw_mem 54 (by decide +kernel) rfl), gw_mem 55 (by decide +kernel) rfl, gw_mem 38 (by decide +kernel) rfl, mwX9_init, rfl, rfl, ⟨by decide, by decide, by decide +kernel⟩, by decide⟩
theorem cl_L_12 : CL RL 12 mX10_init 0 := ⟨Or.inl (gw_mem 766 (by decide +kernel) rfl), gw_mem 767 (by decide +kernel) rfl, gw_mem 49 (by decide +kernel) rfl, mwX10_init, rfl, rfl, ⟨by decide, by decide, by decide +kernel⟩, by decide⟩
theorem st0 {g g' : Nat → Int} (h : ∀ i, i < 144 → g i = dgW i) (hr : ∀ j, r32 (g j)) (h' : ∀ i, i < 144 → g' i = dgW i) (hr' : ∀ j, r32 (g' j)) : Bas (stX g) (stM g') ∧ RR (stX g) (stM g') ∧ s_ok (stX g) ∧ s_ok (stM g') := by
  have dg : ∀ i, -1 ≤ dgW i ∧ dgW i ≤ 600 := fun i => by
    unfold dgW
    by_cases q : i % 13 = 0
    · rw [if_pos q]; decide
    · rw [if_neg q]; decide
  refine ⟨Bas.new ⟨⟨(show (0 : Int) ≤ 0 by decide), (show (0 : Int) ≤ 16 by decide)⟩, fun j _ => ⟨⟨(show (0 : Int) ≤ 0 by decide), (show (0 : Int) < 12 by decide)⟩, ⟨(show (0 : Int) ≤ 0 by decide), (show (0 : Int) < 12 by decide)⟩, ⟨(show (0 : Int) ≤ 0 by decide), (show (0 : Int) ≤ 2879 by decide)⟩, (show (0 : Int) ≤ 0 by decide), (show (0 : Int) ≤ 2879 by decide)⟩, fun j hj => ?_, fun i hi => ⟨?_, (show (0 : Int) ≤ 0 by decide), (show (0 : Int) ≤ 1000 by decide)⟩, fun q _ => Or.inl rfl, ⟨(show (1 : Int) ≤ 900 by decide), (show (900 : Int) ≤ 2880 by decide)⟩, ⟨(show (1 : Int) ≤ 540 by decide), (show (540 : Int) ≤ 2880 by decide)⟩, ⟨(show (0 : Int) ≤ 30 by decide), (show (30 : Int) ≤ 600 by decide)⟩, Or.inr rfl⟩ ⟨⟨(show (0 : Int) ≤ 0 by decide), (show (0 : Int) ≤ 16 by decide)⟩, fun j _ => ⟨⟨(show (0 : Int) ≤ 0 by decide), (show (0 : Int) < 12 by decide)⟩, ⟨(show (0 : Int) ≤ 0 by decide), (show (0 : Int) < 12 by decide)⟩, ⟨(show (0 : Int) ≤ 0 by decide), (show (0 : Int) ≤ 2879 by decide)⟩, (show (0 : Int) ≤ 0 by decide), (show (0 : Int) ≤ 2879 by decide)⟩, fun j hj => ?_, fun i hi => ⟨?_, (show (0 : Int) ≤ 0 by decide), (show (0 : Int) ≤ 1000 by decide)⟩, fun q _ => Or.inl rfl, ⟨(show (1 : Int) ≤ 900 by decide), (show (900 : Int) ≤ 2880 by decide)⟩, ⟨(show (1 : Int) ≤ 540 by decide), (show (540 : Int) ≤ 2880 by decide)⟩, ⟨(show (0 : Int) ≤ 30 by decide), (show (30 : Int) ≤ 600 by decide)⟩, Or.inr rfl⟩ ⟨rfl, fun j _ => ⟨rfl, rfl, rfl, rfl⟩, fun i hi => ⟨?_, fun _ => rfl⟩, fun q _ => rfl, rfl, rfl, rfl, rfl⟩ (fun r _ i _ _ => tb_0 i) rfl rfl, Or.inl ⟨rfl, rfl⟩, fun k j => ?_, fun k j => ?_⟩
  · have hj' : (j : Int) < 0 := hj
    omega
  · show -1 ≤ g i ∧ g i ≤ 600
    rw [h i hi]; exact dg i
  · have hj' : (j : Int) < 0 := hj
    omega
  · show -1 ≤ g' i ∧ g' i ≤ 600
    rw [h' i hi]; exact dg i
  · show g i = g' i
    rw [h i hi, h' i hi]
  · show r32 ((stX g).1 k j)
    unfold stX
    dsimp only
    split
    · split <;> exact ⟨by decide, by decide⟩
    · split <;> exact ⟨by decide, by decide⟩
    · exact hr j
    · exact ⟨by decide, by decide⟩
  · show r32 ((stM g').1 k j)
    unfold stM
    dsimp only
    split
    · split <;> exact ⟨by decide, by decide⟩
    · exact hr' j
    · exact ⟨by decide, by decide⟩
section LLoop
variable {p : Program} {e : Env} {s : State} {m : MethodId} {args : Array Value} {below : List Frame} {meth : Method} {c : Code} {Q : State → Prop} {A : Nat → Prop} {G : GX} {b L cells slots : Nat} {xs : Nat → Int32} {adX adM : Nat → Nat}
theorem law_loop (C : bC p s m args c A G RL code 4) (hX : va_X b L xs s s.heap) (hbl : b < s.heap.size) (hbA : ¬ A b) (hL : L ≤ 2560) (hR2 : cells ≤ room_1.cells ∧ slots ≤ room_1.slots) (fin : ∀ (ls : List (Nat × Value)) (ws : va_W), bR p e room_1 s m args below meth c Q A G 4 779 ls [] ws cells slots) :
    ∀ n i : Nat, L + 1 ≤ i + n → i ≤ L → ∀ x y : St, Bas x y → RR x y → s_ok x → s_ok y → bR p e room_1 s m args below meth c Q A G 4 18 (lsL b (adX 9) (adM 0) i) [] (cs G wdM adM y ++ cs G wdX adX x) cells slots := by
  intro n
  induction n with
  | zero => intro i h1 h2; omega
  | succ n ih =>
    intro i h1 h2 x y hB hR sx sy
    refine b_iload (pc' := 19) C 0 dL_18 rfl rfl ?_
    refine b_aload (pc' := 20) (x := b) C 3 dL_19 rfl rfl ?_
    refine b_slen (pc' := 21) C hX hbl hbA dL_20 rfl ?_
    refine b_iconst (pc' := 22) C dL_21 rfl ?_
    refine b_isub (pc' := 23) C dL_22 rfl ?_
    rw [← Int32.ofInt_sub]
    refine b_icmp_gt (pc' := 26) (tgt := 779) C dL_23 rfl (by decide) (fun _ => fin _ _) (fun q => ?_)
    rw [i32_lt ⟨by omega, by omega⟩ (n32 (by omega))] at q
    have next : ∀ x' y' : St, Bas x' y' → RR x' y' → s_ok x' → s_ok y' → bR p e room_1 s m args below meth c Q A G 4 773 (lsL b (adX 9) (adM 0) i) [] (cs G wdM adM y' ++ cs G wdX adX x') cells slots := fun x' y' hB' hR' sx' sy' => by
      refine b_iinc (pc' := 776) (ls' := lsL b (adX 9) (adM 0) (i + 5)) C 0 dL_773 rfl rfl (i32_s i 5) (by decide) rfl ?_
      exact b_goto (tgt := 18) C dL_776 (by decide) (ih (i + 5) (by omega) (by omega) x' y' hB' hR' sx' sy')
    refine b_aload (pc' := 27) (x := b) C 3 dL_26 rfl rfl ?_
    refine b_iload (pc' := 28) C 0 dL_27 rfl rfl ?_
    refine b_sld (pc' := 29) C hX hbl hbA hL (by omega) dL_28 rfl ?_
    refine b_bipush (pc' := 31) C dL_29 rfl (by decide) ?_
    refine b_iand (pc' := 32) C dL_31 rfl ?_
    exact b_table (tgt := 773) C [124, 177, 226, 279, 302, 335, 404, 437, 470, 483, 506, 539, 572, 605, 658, 671, 704, 717, 750] dL_32 (by decide) (by decide) (by decide) ⟨fun _ => lc_way C hX hbl hbA hL (by omega) hR2 hB hR sx sy next, fun _ => lc_relief C hX hbl hbA hL (by omega) hR2 hB hR sx sy next, fun _ => lc_trip C hX hbl hbA hL (by omega) hR2 hB hR sx sy next, fun _ => lc_drop C hX hbl hbA hL (by omega) hR2 hB hR sx sy next, fun _ => lc_move C hX hbl hbA hL (by omega) hR2 hB hR sx sy next, fun _ => lc_laws C hX hbl hbA hL (by omega) hR2 hB hR sx sy next, fun _ => lc_tripOf C hX hbl hbA hL (by omega) hR2 hB hR sx sy next, fun _ => lc_may C hX hbl hbA hL (by omega) hR2 hB hR sx sy next, fun _ => lc_goesOn C hX hbl hbA hL (by omega) hR2 hB hR sx sy next, fun _ => lc_plan C hX hbl hbA hL (by omega) hR2 hB hR sx sy next, fun _ => lc_block C hX hbl hbA hL (by omega) hR2 hB hR sx sy next, fun _ => lc_planned C hX hbl hbA hL (by omega) hR2 hB hR sx sy next, fun _ => lc_segment C hX hbl hbA hL (by omega) hR2 hB hR sx sy next, fun _ => lc_clash C hX hbl hbA hL (by omega) hR2 hB hR sx sy next, fun _ => lc_roster C hX hbl hbA hL (by omega) hR2 hB hR sx sy next, fun _ => lc_duty C hX hbl hbA hL (by omega) hR2 hB hR sx sy next, fun _ => lc_apart C hX hbl hbA hL (by omega) hR2 hB hR sx sy next, fun _ => lc_saves C hX hbl hbA hL (by omega) hR2 hB hR sx sy next, fun _ => lc_about C hX hbl hbA hL (by omega) hR2 hB hR sx sy next, trivial⟩ (next x y hB hR sx sy)
end LLoop
