theorem ml_X1_38 : MLs RX1 38 mJ9_min_7cf53 2 := ⟨gw_mem 502 (by decide +kernel) rfl, gw_mem 503 (by decide +kernel) rfl, gw_mem 50 (by decide +kernel) rfl, mwJ9_min_7cf53, ⟨by decide, by decide, by decide +kernel⟩, by decide⟩
theorem ml_X1_44 : MLs RX1 44 mJ9_max_7cf53 2 := ⟨gw_mem 505 (by decide +kernel) rfl, gw_mem 506 (by decide +kernel) rfl, gw_mem 50 (by decide +kernel) rfl, mwJ9_max_7cf53, ⟨by decide, by decide, by decide +kernel⟩, by decide⟩
theorem fp_X1_27 : FP RX1 27 1 6 .int := ⟨(RX1, TX1, 8), rfl, by decide, gw_mem 187 (by decide +kernel) rfl, inwX1, ⟨tyX1, tyX1_ok⟩, nmX1, rfl, by decide +kernel⟩
theorem fl_X1_34 : FL RX1 34 1 5 := ⟨(RX1, TX1, 8), rfl, by decide, gw_mem 186 (by decide +kernel) rfl, inwX1⟩
theorem ml_X1_47 : MLv RX1 47 mX3_clear 3 0 := ⟨(RX3, TX3, 5), rfl, rfl, gw_mem 508 (by decide +kernel) rfl, gw_mem 509 (by decide +kernel) rfl, gw_mem 510 (by decide +kernel) rfl, gw_mem 44 (by decide +kernel) rfl, mwX3_clear, ⟨by decide, by decide, by decide +kernel⟩, by decide⟩
theorem fl_X1_15 : FL RX1 15 1 1 := ⟨(RX1, TX1, 8), rfl, by decide, gw_mem 182 (by decide +kernel) rfl, inwX1⟩
theorem ml_X1_52 : MLs RX1 52 mJ7_fill_53178 2 := ⟨gw_mem 513 (by decide +kernel) rfl, gw_mem 67 (by decide +kernel) rfl, gw_mem 40 (by decide +kernel) rfl, mwJ7_fill_53178, ⟨by decide, by decide, by decide +kernel⟩, by decide⟩
theorem fl_X1_18 : FL RX1 18 1 2 := ⟨(RX1, TX1, 8), rfl, by decide, gw_mem 183 (by decide +kernel) rfl, inwX1⟩
theorem fl_X1_27 : FL RX1 27 1 6 := ⟨(RX1, TX1, 8), rfl, by decide, gw_mem 187 (by decide +kernel) rfl, inwX1⟩
theorem ml_X1_58 : MLv RX1 58 mX1_place 1 1 := ⟨(RX1, TX1, 8), rfl, rfl, gw_mem 514 (by decide +kernel) rfl, gw_mem 516 (by decide +kernel) rfl, gw_mem 3 (by decide +kernel) rfl, gw_mem 45 (by decide +kernel) rfl, mwX1_place, ⟨by decide, by decide, by decide +kernel⟩, by decide⟩
theorem fl_X1_62 : FL RX1 62 3 0 := ⟨(RX3, TX3, 5), rfl, by decide, gw_mem 155 (by decide +kernel) rfl, inwX3⟩
theorem ml_X1_65 : MLv RX1 65 mX1_over 1 2 := ⟨(RX1, TX1, 8), rfl, rfl, gw_mem 523 (by decide +kernel) rfl, gw_mem 525 (by decide +kernel) rfl, gw_mem 5 (by decide +kernel) rfl, gw_mem 45 (by decide +kernel) rfl, mwX1_over, ⟨by decide, by decide, by decide +kernel⟩, by decide⟩
theorem fl_X1_9 : FL RX1 9 1 0 := ⟨(RX1, TX1, 8), rfl, by decide, gw_mem 180 (by decide +kernel) rfl, inwX1⟩
theorem fl_X1_21 : FL RX1 21 1 3 := ⟨(RX1, TX1, 8), rfl, by decide, gw_mem 184 (by decide +kernel) rfl, inwX1⟩
theorem k_X1_68 : Cond.constant RX1 68 (Int32.ofInt 1000000) ∈ gw := gw_mem 518 (by decide +kernel) rfl
theorem fp_X1_31 : FP RX1 31 1 7 .int := ⟨(RX1, TX1, 8), rfl, by decide, gw_mem 188 (by decide +kernel) rfl, inwX1, ⟨tyX1, tyX1_ok⟩, nmX1, rfl, by decide +kernel⟩
theorem ml_X1_69 : MLv RX1 69 mX1_look 1 2 := ⟨(RX1, TX1, 8), rfl, rfl, gw_mem 519 (by decide +kernel) rfl, gw_mem 521 (by decide +kernel) rfl, gw_mem 4 (by decide +kernel) rfl, gw_mem 45 (by decide +kernel) rfl, mwX1_look, ⟨by decide, by decide, by decide +kernel⟩, by decide⟩
theorem ml_X1_73 : MLv RX1 73 mX1_nearest 1 0 := ⟨(RX1, TX1, 8), rfl, rfl, gw_mem 527 (by decide +kernel) rfl, gw_mem 529 (by decide +kernel) rfl, gw_mem 6 (by decide +kernel) rfl, gw_mem 45 (by decide +kernel) rfl, mwX1_nearest, ⟨by decide, by decide, by decide +kernel⟩, by decide⟩
theorem fl_X1_77 : FL RX1 77 3 2 := ⟨(RX3, TX3, 5), rfl, by decide, gw_mem 160 (by decide +kernel) rfl, inwX3⟩
theorem ml_X1_80 : MLv RX1 80 mX1_changeTolls 1 2 := ⟨(RX1, TX1, 8), rfl, rfl, gw_mem 531 (by decide +kernel) rfl, gw_mem 533 (by decide +kernel) rfl, gw_mem 7 (by decide +kernel) rfl, gw_mem 45 (by decide +kernel) rfl, mwX1_changeTolls, ⟨by decide, by decide, by decide +kernel⟩, by decide⟩
theorem ml_X1_83 : MLv RX1 83 mX1_turnOver 1 2 := ⟨(RX1, TX1, 8), rfl, rfl, gw_mem 535 (by decide +kernel) rfl, gw_mem 537 (by decide +kernel) rfl, gw_mem 8 (by decide +kernel) rfl, gw_mem 45 (by decide +kernel) rfl, mwX1_turnOver, ⟨by decide, by decide, by decide +kernel⟩, by decide⟩
theorem fl_X1_31 : FL RX1 31 1 7 := ⟨(RX1, TX1, 8), rfl, by decide, gw_mem 188 (by decide +kernel) rfl, inwX1⟩
theorem fl_X1_24 : FL RX1 24 1 4 := ⟨(RX1, TX1, 8), rfl, by decide, gw_mem 185 (by decide +kernel) rfl, inwX1⟩
theorem fl_X1_86 : FL RX1 86 3 1 := ⟨(RX3, TX3, 5), rfl, by decide, gw_mem 158 (by decide +kernel) rfl, inwX3⟩
theorem ml_X1_89 : MLv RX1 89 mX3_join 3 2 := ⟨(RX3, TX3, 5), rfl, rfl, gw_mem 539 (by decide +kernel) rfl, gw_mem 540 (by decide +kernel) rfl, gw_mem 541 (by decide +kernel) rfl, gw_mem 44 (by decide +kernel) rfl, mwX3_join, ⟨by decide, by decide, by decide +kernel⟩, by decide⟩
theorem fl_X3_15 : FL RX3 15 3 1 := ⟨(RX3, TX3, 5), rfl, by decide, gw_mem 157 (by decide +kernel) rfl, inwX3⟩
theorem ml_X3_28 : MLs RX3 28 mJ7_fill_53178 2 := ⟨gw_mem 512 (by decide +kernel) rfl, gw_mem 67 (by decide +kernel) rfl, gw_mem 40 (by decide +kernel) rfl, mwJ7_fill_53178, ⟨by decide, by decide, by decide +kernel⟩, by decide⟩
theorem fl_X3_18 : FL RX3 18 3 2 := ⟨(RX3, TX3, 5), rfl, by decide, gw_mem 159 (by decide +kernel) rfl, inwX3⟩
theorem fp_X3_21 : FP RX3 21 3 3 .int := ⟨(RX3, TX3, 5), rfl, by decide, gw_mem 161 (by decide +kernel) rfl, inwX3, ⟨tyX3, tyX3_ok⟩, nmX3, rfl, by decide +kernel⟩
theorem fl_X3_21 : FL RX3 21 3 3 := ⟨(RX3, TX3, 5), rfl, by decide, gw_mem 161 (by decide +kernel) rfl, inwX3⟩
theorem ml_X3_34 : MLv RX3 34 mX3_clear 3 0 := ⟨(RX3, TX3, 5), rfl, rfl, gw_mem 759 (by decide +kernel) rfl, gw_mem 509 (by decide +kernel) rfl, gw_mem 510 (by decide +kernel) rfl, gw_mem 44 (by decide +kernel) rfl, mwX3_clear, ⟨by decide, by decide, by decide +kernel⟩, by decide⟩
theorem fp_X3_25 : FP RX3 25 3 4 .int := ⟨(RX3, TX3, 5), rfl, by decide, gw_mem 162 (by decide +kernel) rfl, inwX3, ⟨tyX3, tyX3_ok⟩, nmX3, rfl, by decide +kernel⟩
theorem ml_X3_37 : MLs RX3 37 mX3_seat 3 := ⟨gw_mem 552 (by decide +kernel) rfl, gw_mem 553 (by decide +kernel) rfl, gw_mem 44 (by decide +kernel) rfl, mwX3_seat, ⟨by decide, by decide, by decide +kernel⟩, by decide⟩
theorem fl_X3_9 : FL RX3 9 3 0 := ⟨(RX3, TX3, 5), rfl, by decide, gw_mem 154 (by decide +kernel) rfl, inwX3⟩
theorem ml_X3_41 : MLv RX3 41 mX3_join 3 2 := ⟨(RX3, TX3, 5), rfl, rfl, gw_mem 551 (by decide +kernel) rfl, gw_mem 540 (by decide +kernel) rfl, gw_mem 541 (by decide +kernel) rfl, gw_mem 44 (by decide +kernel) rfl, mwX3_join, ⟨by decide, by decide, by decide +kernel⟩, by decide⟩
theorem fl_X3_25 : FL RX3 25 3 4 := ⟨(RX3, TX3, 5), rfl, by decide, gw_mem 162 (by decide +kernel) rfl, inwX3⟩
theorem ml_X3_45 : MLn RX3 45 mX9_lowest 1 := ⟨⟨RX9, by decide +kernel⟩, gw_mem 556 (by decide +kernel) rfl, gw_mem 38 (by decide +kernel) rfl, mwX9_lowest, ⟨by decide, by decide, by decide +kernel⟩, by decide⟩
theorem dX1_solve_0 : decode cX1_solve 0 = .ok (.aload_n 0, 1) := by decide +kernel
theorem dX1_solve_1 : decode cX1_solve 1 = .ok (.iconst 0, 1) := by decide +kernel
theorem dX1_solve_2 : decode cX1_solve 2 = .ok (.iload_n 1, 1) := by decide +kernel
theorem dX1_solve_3 : decode cX1_solve 3 = .ok (.bipush 16, 2) := by decide +kernel
theorem dX1_solve_5 : decode cX1_solve 5 = .ok (.invokestatic 38, 3) := by decide +kernel
theorem dX1_solve_8 : decode cX1_solve 8 = .ok (.invokestatic 44, 3) := by decide +kernel
theorem dX1_solve_11 : decode cX1_solve 11 = .ok (.putfield 27, 3) := by decide +kernel
theorem dX1_solve_14 : decode cX1_solve 14 = .ok (.aload_n 0, 1) := by decide +kernel
theorem dX1_solve_15 : decode cX1_solve 15 = .ok (.getfield 34, 3) := by decide +kernel
theorem dX1_solve_18 : decode cX1_solve 18 = .ok (.invokevirtual 47, 3) := by decide +kernel
theorem dX1_solve_21 : decode cX1_solve 21 = .ok (.aload_n 0, 1) := by decide +kernel
theorem dX1_solve_22 : decode cX1_solve 22 = .ok (.getfield 15, 3) := by decide +kernel
theorem dX1_solve_25 : decode cX1_solve 25 = .ok (.iconst 0, 1) := by decide +kernel
theorem dX1_solve_26 : decode cX1_solve 26 = .ok (.invokestatic 52, 3) := by decide +kernel
theorem dX1_solve_29 : decode cX1_solve 29 = .ok (.aload_n 0, 1) := by decide +kernel
theorem dX1_solve_30 : decode cX1_solve 30 = .ok (.getfield 18, 3) := by decide +kernel
theorem dX1_solve_33 : decode cX1_solve 33 = .ok (.iconst 0, 1) := by decide +kernel
theorem dX1_solve_34 : decode cX1_solve 34 = .ok (.invokestatic 52, 3) := by decide +kernel
theorem dX1_solve_37 : decode cX1_solve 37 = .ok (.iconst 0, 1) := by decide +kernel
theorem dX1_solve_38 : decode cX1_solve 38 = .ok (.istore_n 2, 1) := by decide +kernel
theorem dX1_solve_39 : decode cX1_solve 39 = .ok (.iload_n 2, 1) := by decide +kernel
theorem dX1_solve_40 : decode cX1_solve 40 = .ok (.aload_n 0, 1) := by decide +kernel
theorem dX1_solve_41 : decode cX1_solve 41 = .ok (.getfield 27, 3) := by decide +kernel
theorem dX1_solve_44 : decode cX1_solve 44 = .ok (.if_icmp .ge 14, 3) := by decide +kernel
theorem dX1_solve_47 : decode cX1_solve 47 = .ok (.aload_n 0, 1) := by decide +kernel
theorem dX1_solve_48 : decode cX1_solve 48 = .ok (.iload_n 2, 1) := by decide +kernel
theorem dX1_solve_49 : decode cX1_solve 49 = .ok (.invokevirtual 58, 3) := by decide +kernel
theorem dX1_solve_52 : decode cX1_solve 52 = .ok (.iinc 2 1, 3) := by decide +kernel
theorem dX1_solve_55 : decode cX1_solve 55 = .ok (.goto (-16), 3) := by decide +kernel
theorem dX1_solve_58 : decode cX1_solve 58 = .ok (.iconst 0, 1) := by decide +kernel
theorem dX1_solve_59 : decode cX1_solve 59 = .ok (.istore_n 2, 1) := by decide +kernel
theorem dX1_solve_60 : decode cX1_solve 60 = .ok (.iload_n 2, 1) := by decide +kernel
theorem dX1_solve_61 : decode cX1_solve 61 = .ok (.aload_n 0, 1) := by decide +kernel
theorem dX1_solve_62 : decode cX1_solve 62 = .ok (.getfield 27, 3) := by decide +kernel
theorem dX1_solve_65 : decode cX1_solve 65 = .ok (.if_icmp .ge 59, 3) := by decide +kernel
theorem dX1_solve_68 : decode cX1_solve 68 = .ok (.aload_n 0, 1) := by decide +kernel
theorem dX1_solve_69 : decode cX1_solve 69 = .ok (.getfield 34, 3) := by decide +kernel
theorem dX1_solve_72 : decode cX1_solve 72 = .ok (.getfield 62, 3) := by decide +kernel
theorem dX1_solve_75 : decode cX1_solve 75 = .ok (.iload_n 2, 1) := by decide +kernel
theorem dX1_solve_76 : decode cX1_solve 76 = .ok (.iconst 0, 1) := by decide +kernel
theorem dX1_solve_77 : decode cX1_solve 77 = .ok (.iastore, 1) := by decide +kernel
theorem dX1_solve_78 : decode cX1_solve 78 = .ok (.iconst 0, 1) := by decide +kernel
theorem dX1_solve_79 : decode cX1_solve 79 = .ok (.istore_n 3, 1) := by decide +kernel
theorem dX1_solve_80 : decode cX1_solve 80 = .ok (.iload_n 3, 1) := by decide +kernel
theorem dX1_solve_81 : decode cX1_solve 81 = .ok (.aload_n 0, 1) := by decide +kernel
theorem dX1_solve_82 : decode cX1_solve 82 = .ok (.getfield 27, 3) := by decide +kernel
theorem dX1_solve_85 : decode cX1_solve 85 = .ok (.if_icmp .ge 33, 3) := by decide +kernel
theorem dX1_solve_88 : decode cX1_solve 88 = .ok (.aload_n 0, 1) := by decide +kernel
theorem dX1_solve_89 : decode cX1_solve 89 = .ok (.iload_n 2, 1) := by decide +kernel
theorem dX1_solve_90 : decode cX1_solve 90 = .ok (.iload_n 3, 1) := by decide +kernel
theorem dX1_solve_91 : decode cX1_solve 91 = .ok (.invokevirtual 65, 3) := by decide +kernel
theorem dX1_solve_94 : decode cX1_solve 94 = .ok (.ifCond .ne 18, 3) := by decide +kernel
theorem dX1_solve_97 : decode cX1_solve 97 = .ok (.aload_n 0, 1) := by decide +kernel
theorem dX1_solve_98 : decode cX1_solve 98 = .ok (.getfield 34, 3) := by decide +kernel
theorem dX1_solve_101 : decode cX1_solve 101 = .ok (.getfield 62, 3) := by decide +kernel
theorem dX1_solve_104 : decode cX1_solve 104 = .ok (.iload_n 2, 1) := by decide +kernel
theorem dX1_solve_105 : decode cX1_solve 105 = .ok (.dup2, 1) := by decide +kernel
theorem dX1_solve_106 : decode cX1_solve 106 = .ok (.iaload, 1) := by decide +kernel
theorem dX1_solve_107 : decode cX1_solve 107 = .ok (.iconst 1, 1) := by decide +kernel
theorem dX1_solve_108 : decode cX1_solve 108 = .ok (.iload_n 3, 1) := by decide +kernel
theorem dX1_solve_109 : decode cX1_solve 109 = .ok (.ishl, 1) := by decide +kernel
theorem dX1_solve_110 : decode cX1_solve 110 = .ok (.ior, 1) := by decide +kernel
theorem dX1_solve_111 : decode cX1_solve 111 = .ok (.iastore, 1) := by decide +kernel
theorem dX1_solve_112 : decode cX1_solve 112 = .ok (.iinc 3 1, 3) := by decide +kernel
theorem dX1_solve_115 : decode cX1_solve 115 = .ok (.goto (-35), 3) := by decide +kernel
theorem dX1_solve_118 : decode cX1_solve 118 = .ok (.iinc 2 1, 3) := by decide +kernel
theorem dX1_solve_121 : decode cX1_solve 121 = .ok (.goto (-61), 3) := by decide +kernel
theorem dX1_solve_124 : decode cX1_solve 124 = .ok (.return_, 1) := by decide +kernel
set_option maxRecDepth 20000 in
theorem g_X1_solve_0 {G : GX} {d : Nat} {Ret : Option AV → St → Prop} {R : Nat → List AV → List AV → St → Prop} (hM : AM G wdX (d + 1) mX1_solve Ret R) (v1 : Int) (σ : St)
    (h : (∀ τ1, τ1 = sI σ 1 6 (if 0 < (if 16 < v1 then 16 else v1) then (if 16 < v1 then 16 else v1) else 0) → conV G wdX d mX3_clear [vR 3] τ1 (fun σ1 => conV G wdX d mJ7_fill_53178 [vR 11, vI 0] σ1 (fun σ2 => conV G wdX d mJ7_fill_53178 [vR 12, vI 0] σ2 (fun σ3 => R 39 [vR 1, vN, vI 0, vN] [] σ3))))) : R 0 [vR 1, vI v1, vN, vN] [] σ := by
  refine r_aload_n hM (pc' := 1) dX1_solve_0 rfl (x := 1) rfl ?_
  refine r_iconst hM (pc' := 2) dX1_solve_1 rfl (by decide) ?_
  refine r_iload_n hM (pc' := 3) dX1_solve_2 rfl (x := v1) rfl ?_
  refine r_bipush hM (pc' := 5) dX1_solve_3 rfl (by decide) (by decide) ?_
  refine r_min hM (pc' := 8) dX1_solve_5 rfl ml_X1_38 (Nat.le_of_ble_eq_true rfl) ?_
  refine r_max hM (pc' := 11) dX1_solve_8 rfl ml_X1_44 (Nat.le_of_ble_eq_true rfl) ?_
  refine r_putI hM (pc' := 14) dX1_solve_11 rfl fp_X1_27 wx_1 rfl (fun τ1 e1 => ?_)
  have h := h τ1 e1
  refine r_aload_n hM (pc' := 15) dX1_solve_14 rfl (x := 1) rfl ?_
  refine r_getR hM (pc' := 18) dX1_solve_15 rfl fl_X1_34 wx_1 rfl ?_
  refine r_callVV hM (pc' := 21) [] dX1_solve_18 rfl ml_X1_47 wx_3 rfl rfl (Nat.le_of_ble_eq_true rfl) (conV.mono h (fun σ1 h => ?_))
  refine r_aload_n hM (pc' := 22) dX1_solve_21 rfl (x := 1) rfl ?_
  refine r_getR hM (pc' := 25) dX1_solve_22 rfl fl_X1_15 wx_1 rfl ?_
  refine r_iconst hM (pc' := 26) dX1_solve_25 rfl (by decide) ?_
  refine r_callSV hM (pc' := 29) [vR 11, vI 0] dX1_solve_26 rfl ml_X1_52 rfl rfl (Nat.le_of_ble_eq_true rfl) (conV.mono h (fun σ2 h => ?_))
  refine r_aload_n hM (pc' := 30) dX1_solve_29 rfl (x := 1) rfl ?_
  refine r_getR hM (pc' := 33) dX1_solve_30 rfl fl_X1_18 wx_1 rfl ?_
  refine r_iconst hM (pc' := 34) dX1_solve_33 rfl (by decide) ?_
  refine r_callSV hM (pc' := 37) [vR 12, vI 0] dX1_solve_34 rfl ml_X1_52 rfl rfl (Nat.le_of_ble_eq_true rfl) (conV.mono h (fun σ3 h => ?_))
  refine r_iconst hM (pc' := 38) dX1_solve_37 rfl (by decide) ?_
  refine r_istore_n hM (pc' := 39) dX1_solve_38 rfl (Nat.le_of_ble_eq_true rfl) rfl ?_
  show R 39 [vR 1, vI v1, vI 0, vN] _ _
  refine r_weak hM (ls' := [vR 1, vN, vI 0, vN]) ⟨Or.inl rfl, Or.inr rfl, Or.inl rfl, Or.inl rfl, trivial⟩ ?_
  exact h
set_option maxRecDepth 20000 in
theorem g_X1_solve_39 {G : GX} {d : Nat} {Ret : Option AV → St → Prop} {R : Nat → List AV → List AV → St → Prop} (hM : AM G wdX (d + 1) mX1_solve Ret R) (v2 : Int) (σ : St)
    (h : (((σ.1 1 6) ≤ v2 → R 60 [vR 1, vN, vI 0, vN] [] σ) ∧ (¬ (σ.1 1 6) ≤ v2 → conV G wdX d mX1_place [vR 1, vI v2] σ (fun σ1 => (r32 (v2 + 1) ∧ R 39 [vR 1, vN, vI (v2 + 1), vN] [] σ1))))) : R 39 [vR 1, vN, vI v2, vN] [] σ := by
  refine r_iload_n hM (pc' := 40) dX1_solve_39 rfl (x := v2) rfl ?_
  refine r_aload_n hM (pc' := 41) dX1_solve_40 rfl (x := 1) rfl ?_
  refine r_getI hM (pc' := 44) dX1_solve_41 rfl fl_X1_27 wx_1 rfl ?_
  refine r_icmp_ge hM (pc' := 47) (tgt := 58) dX1_solve_44 rfl (by decide) (fun c => ?_) (fun c => ?_)
  · have h := h.1 c
    refine r_iconst hM (pc' := 59) dX1_solve_58 rfl (by decide) ?_
    refine r_istore_n hM (pc' := 60) dX1_solve_59 rfl (Nat.le_of_ble_eq_true rfl) rfl ?_
    show R 60 [vR 1, vN, vI 0, vN] _ _
    exact h
  · have h := h.2 c
    refine r_aload_n hM (pc' := 48) dX1_solve_47 rfl (x := 1) rfl ?_
    refine r_iload_n hM (pc' := 49) dX1_solve_48 rfl (x := v2) rfl ?_
    refine r_callVV hM (pc' := 52) [vI v2] dX1_solve_49 rfl ml_X1_58 wx_1 rfl rfl (Nat.le_of_ble_eq_true rfl) (conV.mono h (fun σ1 h => ?_))
    have o1 := h.1
    have h := h.2
    refine r_iinc hM (pc' := 55) dX1_solve_52 rfl (x := v2) rfl rfl o1 ?_
    show R 55 [vR 1, vN, vI (v2 + 1), vN] _ _
    refine r_goto hM (tgt := 39) dX1_solve_55 (by decide) ?_
    exact h
set_option maxRecDepth 20000 in
theorem g_X1_solve_60 {G : GX} {d : Nat} {Ret : Option AV → St → Prop} {R : Nat → List AV → List AV → St → Prop} (hM : AM G wdX (d + 1) mX1_solve Ret R) (v2 : Int) (σ : St)
    (h : (((σ.1 1 6) ≤ v2 → Ret none σ) ∧ (¬ (σ.1 1 6) ≤ v2 → ((0 ≤ v2 ∧ v2 < 16) ∧ (∀ τ1, τ1 = sI σ 17 (v2).toNat 0 → R 80 [vR 1, vN, vI v2, vI 0] [] τ1))))) : R 60 [vR 1, vN, vI v2, vN] [] σ := by
  refine r_iload_n hM (pc' := 61) dX1_solve_60 rfl (x := v2) rfl ?_
  refine r_aload_n hM (pc' := 62) dX1_solve_61 rfl (x := 1) rfl ?_
  refine r_getI hM (pc' := 65) dX1_solve_62 rfl fl_X1_27 wx_1 rfl ?_
  refine r_icmp_ge hM (pc' := 68) (tgt := 124) dX1_solve_65 rfl (by decide) (fun c => ?_) (fun c => ?_)
  · have h := h.1 c
    exact r_return hM dX1_solve_124 rfl h
  · have h := h.2 c
    refine r_aload_n hM (pc' := 69) dX1_solve_68 rfl (x := 1) rfl ?_
    refine r_getR hM (pc' := 72) dX1_solve_69 rfl fl_X1_34 wx_1 rfl ?_
    refine r_getR hM (pc' := 75) dX1_solve_72 rfl fl_X1_62 wx_3 rfl ?_
    refine r_iload_n hM (pc' := 76) dX1_solve_75 rfl (x := v2) rfl ?_
    refine r_iconst hM (pc' := 77) dX1_solve_76 rfl (by decide) ?_
    have o1 := h.1
    have h := h.2
    refine r_iastore hM (pc' := 78) dX1_solve_77 rfl wx_17 o1 (fun τ1 e1 => ?_)
    have h := h τ1 e1
    refine r_iconst hM (pc' := 79) dX1_solve_78 rfl (by decide) ?_
    refine r_istore_n hM (pc' := 80) dX1_solve_79 rfl (Nat.le_of_ble_eq_true rfl) rfl ?_
    show R 80 [vR 1, vN, vI v2, vI 0] _ _
    exact h
set_option maxRecDepth 20000 in
theorem g_X1_solve_80 {G : GX} {d : Nat} {Ret : Option AV → St → Prop} {R : Nat → List AV → List AV → St → Prop} (hM : AM G wdX (d + 1) mX1_solve Ret R) (v2 : Int) (v3 : Int) (σ : St)
    (h : (((σ.1 1 6) ≤ v3 → (r32 (v2 + 1) ∧ R 60 [vR 1, vN, vI (v2 + 1), vN] [] σ)) ∧ (¬ (σ.1 1 6) ≤ v3 → conI G wdX d mX1_over [vR 1, vI v2, vI v3] σ (fun x1 σ1 => ((¬ x1 = 0 → (r32 (v3 + 1) ∧ R 80 [vR 1, vN, vI v2, vI (v3 + 1)] [] σ1)) ∧ (x1 = 0 → ((0 ≤ v2 ∧ v2 < 16) ∧ (∀ τ1, τ1 = sI σ1 17 (v2).toNat (bOr (σ1.1 17 (v2).toNat) (bShl 1 v3)) → (r32 (v3 + 1) ∧ R 80 [vR 1, vN, vI v2, vI (v3 + 1)] [] τ1))))))))) : R 80 [vR 1, vN, vI v2, vI v3] [] σ := by
  refine r_iload_n hM (pc' := 81) dX1_solve_80 rfl (x := v3) rfl ?_
  refine r_aload_n hM (pc' := 82) dX1_solve_81 rfl (x := 1) rfl ?_
  refine r_getI hM (pc' := 85) dX1_solve_82 rfl fl_X1_27 wx_1 rfl ?_
  refine r_icmp_ge hM (pc' := 88) (tgt := 118) dX1_solve_85 rfl (by decide) (fun c => ?_) (fun c => ?_)
  · have h := h.1 c
    have o1 := h.1
    have h := h.2
    refine r_iinc hM (pc' := 121) dX1_solve_118 rfl (x := v2) rfl rfl o1 ?_
    show R 121 [vR 1, vN, vI (v2 + 1), vI v3] _ _
    refine r_goto hM (tgt := 60) dX1_solve_121 (by decide) ?_
    refine r_weak hM (ls' := [vR 1, vN, vI (v2 + 1), vN]) ⟨Or.inl rfl, Or.inl rfl, Or.inl rfl, Or.inr rfl, trivial⟩ ?_
    exact h
  · have h := h.2 c
    refine r_aload_n hM (pc' := 89) dX1_solve_88 rfl (x := 1) rfl ?_
    refine r_iload_n hM (pc' := 90) dX1_solve_89 rfl (x := v2) rfl ?_
    refine r_iload_n hM (pc' := 91) dX1_solve_90 rfl (x := v3) rfl ?_
    refine r_callVI hM (pc' := 94) [vI v2, vI v3] dX1_solve_91 rfl ml_X1_65 wx_1 rfl rfl (Nat.le_of_ble_eq_true rfl) (conI.mono h (fun x1 σ1 h => ?_))
    refine r_if_ne hM (pc' := 97) (tgt := 112) dX1_solve_94 rfl (by decide) (fun c => ?_) (fun c => ?_)
    · have h := h.1 c
      have o2 := h.1
      have h := h.2
      refine r_iinc hM (pc' := 115) dX1_solve_112 rfl (x := v3) rfl rfl o2 ?_
      show R 115 [vR 1, vN, vI v2, vI (v3 + 1)] _ _
      refine r_goto hM (tgt := 80) dX1_solve_115 (by decide) ?_
      exact h
    · have h := h.2 c
      refine r_aload_n hM (pc' := 98) dX1_solve_97 rfl (x := 1) rfl ?_
      refine r_getR hM (pc' := 101) dX1_solve_98 rfl fl_X1_34 wx_1 rfl ?_
      refine r_getR hM (pc' := 104) dX1_solve_101 rfl fl_X1_62 wx_3 rfl ?_
      refine r_iload_n hM (pc' := 105) dX1_solve_104 rfl (x := v2) rfl ?_
      refine r_dup2 hM (pc' := 106) dX1_solve_105 rfl (fun _ => rfl) (fun _ => rfl) ?_
      have o3 := h.1
      have h := h.2
      refine r_iaload hM (pc' := 107) dX1_solve_106 rfl wx_17 o3 ?_
      refine r_iconst hM (pc' := 108) dX1_solve_107 rfl (by decide) ?_
      refine r_iload_n hM (pc' := 109) dX1_solve_108 rfl (x := v3) rfl ?_
      refine r_ishl hM (pc' := 110) dX1_solve_109 rfl ?_
      refine r_ior hM (pc' := 111) dX1_solve_110 rfl ?_
      refine r_iastore hM (pc' := 112) dX1_solve_111 rfl wx_17 o3 (fun τ1 e1 => ?_)
      have h := h τ1 e1
      have o4 := h.1
      have h := h.2
      refine r_iinc hM (pc' := 115) dX1_solve_112 rfl (x := v3) rfl rfl o4 ?_
      show R 115 [vR 1, vN, vI v2, vI (v3 + 1)] _ _
      refine r_goto hM (tgt := 80) dX1_solve_115 (by decide) ?_
      exact h
theorem dX1_over_0 : decode cX1_over 0 = .ok (.aload_n 0, 1) := by decide +kernel
theorem dX1_over_1 : decode cX1_over 1 = .ok (.getfield 9, 3) := by decide +kernel
theorem dX1_over_4 : decode cX1_over 4 = .ok (.iload_n 1, 1) := by decide +kernel
theorem dX1_over_5 : decode cX1_over 5 = .ok (.bipush 16, 2) := by decide +kernel
theorem dX1_over_7 : decode cX1_over 7 = .ok (.imul, 1) := by decide +kernel
theorem dX1_over_8 : decode cX1_over 8 = .ok (.iload_n 2, 1) := by decide +kernel
theorem dX1_over_9 : decode cX1_over 9 = .ok (.iadd, 1) := by decide +kernel
theorem dX1_over_10 : decode cX1_over 10 = .ok (.iaload, 1) := by decide +kernel
theorem dX1_over_11 : decode cX1_over 11 = .ok (.aload_n 0, 1) := by decide +kernel
theorem dX1_over_12 : decode cX1_over 12 = .ok (.getfield 15, 3) := by decide +kernel
theorem dX1_over_15 : decode cX1_over 15 = .ok (.iload_n 1, 1) := by decide +kernel
theorem dX1_over_16 : decode cX1_over 16 = .ok (.iaload, 1) := by decide +kernel
theorem dX1_over_17 : decode cX1_over 17 = .ok (.isub, 1) := by decide +kernel
theorem dX1_over_18 : decode cX1_over 18 = .ok (.aload_n 0, 1) := by decide +kernel
theorem dX1_over_19 : decode cX1_over 19 = .ok (.getfield 18, 3) := by decide +kernel
theorem dX1_over_22 : decode cX1_over 22 = .ok (.iload_n 2, 1) := by decide +kernel
theorem dX1_over_23 : decode cX1_over 23 = .ok (.iaload, 1) := by decide +kernel
theorem dX1_over_24 : decode cX1_over 24 = .ok (.isub, 1) := by decide +kernel
theorem dX1_over_25 : decode cX1_over 25 = .ok (.ireturn, 1) := by decide +kernel
set_option maxRecDepth 20000 in
theorem g_X1_over_0 {G : GX} {d : Nat} {Ret : Option AV → St → Prop} {R : Nat → List AV → List AV → St → Prop} (hM : AM G wdX d mX1_over Ret R) (v1 : Int) (v2 : Int) (σ : St)
    (h : (r32 (v1 * 16) ∧ (r32 ((v1 * 16) + v2) ∧ ((0 ≤ ((v1 * 16) + v2) ∧ ((v1 * 16) + v2) < 256) ∧ ((0 ≤ v1 ∧ v1 < 16) ∧ (r32 ((σ.1 10 (((v1 * 16) + v2)).toNat) - (σ.1 11 (v1).toNat)) ∧ ((0 ≤ v2 ∧ v2 < 16) ∧ (r32 (((σ.1 10 (((v1 * 16) + v2)).toNat) - (σ.1 11 (v1).toNat)) - (σ.1 12 (v2).toNat)) ∧ Ret (some (vI (((σ.1 10 (((v1 * 16) + v2)).toNat) - (σ.1 11 (v1).toNat)) - (σ.1 12 (v2).toNat)))) σ)))))))) : R 0 [vR 1, vI v1, vI v2] [] σ := by
  refine r_aload_n hM (pc' := 1) dX1_over_0 rfl (x := 1) rfl ?_
  refine r_getR hM (pc' := 4) dX1_over_1 rfl fl_X1_9 wx_1 rfl ?_
  refine r_iload_n hM (pc' := 5) dX1_over_4 rfl (x := v1) rfl ?_
  refine r_bipush hM (pc' := 7) dX1_over_5 rfl (by decide) (by decide) ?_
  have o1 := h.1
  have h := h.2
  refine r_imul hM (pc' := 8) dX1_over_7 rfl o1 ?_
  refine r_iload_n hM (pc' := 9) dX1_over_8 rfl (x := v2) rfl ?_
  have o2 := h.1
  have h := h.2
  refine r_iadd hM (pc' := 10) dX1_over_9 rfl o2 ?_
  have o3 := h.1
  have h := h.2
  refine r_iaload hM (pc' := 11) dX1_over_10 rfl wx_10 o3 ?_
  refine r_aload_n hM (pc' := 12) dX1_over_11 rfl (x := 1) rfl ?_
  refine r_getR hM (pc' := 15) dX1_over_12 rfl fl_X1_15 wx_1 rfl ?_
  refine r_iload_n hM (pc' := 16) dX1_over_15 rfl (x := v1) rfl ?_
  have o4 := h.1
  have h := h.2
  refine r_iaload hM (pc' := 17) dX1_over_16 rfl wx_11 o4 ?_
  have o5 := h.1
  have h := h.2
  refine r_isub hM (pc' := 18) dX1_over_17 rfl o5 ?_
  refine r_aload_n hM (pc' := 19) dX1_over_18 rfl (x := 1) rfl ?_
  refine r_getR hM (pc' := 22) dX1_over_19 rfl fl_X1_18 wx_1 rfl ?_
  refine r_iload_n hM (pc' := 23) dX1_over_22 rfl (x := v2) rfl ?_
  have o6 := h.1
  have h := h.2
  refine r_iaload hM (pc' := 24) dX1_over_23 rfl wx_12 o6 ?_
  have o7 := h.1
  have h := h.2
  refine r_isub hM (pc' := 25) dX1_over_24 rfl o7 ?_
  exact r_ireturn hM dX1_over_25 rfl h
theorem dX1_place_0 : decode cX1_place 0 = .ok (.aload_n 0, 1) := by decide +kernel
theorem dX1_place_1 : decode cX1_place 1 = .ok (.getfield 21, 3) := by decide +kernel
theorem dX1_place_4 : decode cX1_place 4 = .ok (.ldc 68, 2) := by decide +kernel
theorem dX1_place_6 : decode cX1_place 6 = .ok (.invokestatic 52, 3) := by decide +kernel
theorem dX1_place_9 : decode cX1_place 9 = .ok (.aload_n 0, 1) := by decide +kernel
theorem dX1_place_10 : decode cX1_place 10 = .ok (.iconst 0, 1) := by decide +kernel
theorem dX1_place_11 : decode cX1_place 11 = .ok (.putfield 31, 3) := by decide +kernel
theorem dX1_place_14 : decode cX1_place 14 = .ok (.iload_n 1, 1) := by decide +kernel
theorem dX1_place_15 : decode cX1_place 15 = .ok (.istore_n 2, 1) := by decide +kernel
theorem dX1_place_16 : decode cX1_place 16 = .ok (.iconst 0, 1) := by decide +kernel
theorem dX1_place_17 : decode cX1_place 17 = .ok (.istore_n 3, 1) := by decide +kernel
theorem dX1_place_18 : decode cX1_place 18 = .ok (.iconst 0, 1) := by decide +kernel
theorem dX1_place_19 : decode cX1_place 19 = .ok (.istore 4, 2) := by decide +kernel
theorem dX1_place_21 : decode cX1_place 21 = .ok (.iload 4, 2) := by decide +kernel
theorem dX1_place_23 : decode cX1_place 23 = .ok (.aload_n 0, 1) := by decide +kernel
theorem dX1_place_24 : decode cX1_place 24 = .ok (.getfield 27, 3) := by decide +kernel
theorem dX1_place_27 : decode cX1_place 27 = .ok (.if_icmp .ge 88, 3) := by decide +kernel
theorem dX1_place_30 : decode cX1_place 30 = .ok (.aload_n 0, 1) := by decide +kernel
theorem dX1_place_31 : decode cX1_place 31 = .ok (.iload_n 2, 1) := by decide +kernel
theorem dX1_place_32 : decode cX1_place 32 = .ok (.iload_n 3, 1) := by decide +kernel
theorem dX1_place_33 : decode cX1_place 33 = .ok (.invokevirtual 69, 3) := by decide +kernel
theorem dX1_place_36 : decode cX1_place 36 = .ok (.aload_n 0, 1) := by decide +kernel
theorem dX1_place_37 : decode cX1_place 37 = .ok (.invokevirtual 73, 3) := by decide +kernel
theorem dX1_place_40 : decode cX1_place 40 = .ok (.istore 5, 2) := by decide +kernel
theorem dX1_place_42 : decode cX1_place 42 = .ok (.iload 5, 2) := by decide +kernel
theorem dX1_place_44 : decode cX1_place 44 = .ok (.iconst (-1), 1) := by decide +kernel
theorem dX1_place_45 : decode cX1_place 45 = .ok (.if_icmp .ne 4, 3) := by decide +kernel
theorem dX1_place_48 : decode cX1_place 48 = .ok (.return_, 1) := by decide +kernel
theorem dX1_place_49 : decode cX1_place 49 = .ok (.aload_n 0, 1) := by decide +kernel
theorem dX1_place_50 : decode cX1_place 50 = .ok (.getfield 21, 3) := by decide +kernel
theorem dX1_place_53 : decode cX1_place 53 = .ok (.iload 5, 2) := by decide +kernel
theorem dX1_place_55 : decode cX1_place 55 = .ok (.iaload, 1) := by decide +kernel
theorem dX1_place_56 : decode cX1_place 56 = .ok (.istore_n 3, 1) := by decide +kernel
theorem dX1_place_57 : decode cX1_place 57 = .ok (.aload_n 0, 1) := by decide +kernel
theorem dX1_place_58 : decode cX1_place 58 = .ok (.getfield 34, 3) := by decide +kernel
theorem dX1_place_61 : decode cX1_place 61 = .ok (.getfield 77, 3) := by decide +kernel
theorem dX1_place_64 : decode cX1_place 64 = .ok (.iload 5, 2) := by decide +kernel
theorem dX1_place_66 : decode cX1_place 66 = .ok (.iaload, 1) := by decide +kernel
theorem dX1_place_67 : decode cX1_place 67 = .ok (.iconst (-1), 1) := by decide +kernel
theorem dX1_place_68 : decode cX1_place 68 = .ok (.if_icmp .ne 17, 3) := by decide +kernel
theorem dX1_place_71 : decode cX1_place 71 = .ok (.aload_n 0, 1) := by decide +kernel
theorem dX1_place_72 : decode cX1_place 72 = .ok (.iload_n 1, 1) := by decide +kernel
theorem dX1_place_73 : decode cX1_place 73 = .ok (.iload_n 3, 1) := by decide +kernel
theorem dX1_place_74 : decode cX1_place 74 = .ok (.invokevirtual 80, 3) := by decide +kernel
theorem dX1_place_77 : decode cX1_place 77 = .ok (.aload_n 0, 1) := by decide +kernel
theorem dX1_place_78 : decode cX1_place 78 = .ok (.iload_n 1, 1) := by decide +kernel
theorem dX1_place_79 : decode cX1_place 79 = .ok (.iload 5, 2) := by decide +kernel
theorem dX1_place_81 : decode cX1_place 81 = .ok (.invokevirtual 83, 3) := by decide +kernel
theorem dX1_place_84 : decode cX1_place 84 = .ok (.return_, 1) := by decide +kernel
theorem dX1_place_85 : decode cX1_place 85 = .ok (.aload_n 0, 1) := by decide +kernel
theorem dX1_place_86 : decode cX1_place 86 = .ok (.dup, 1) := by decide +kernel
theorem dX1_place_87 : decode cX1_place 87 = .ok (.getfield 31, 3) := by decide +kernel
theorem dX1_place_90 : decode cX1_place 90 = .ok (.iconst 1, 1) := by decide +kernel
theorem dX1_place_91 : decode cX1_place 91 = .ok (.iload 5, 2) := by decide +kernel
theorem dX1_place_93 : decode cX1_place 93 = .ok (.ishl, 1) := by decide +kernel
theorem dX1_place_94 : decode cX1_place 94 = .ok (.ior, 1) := by decide +kernel
theorem dX1_place_95 : decode cX1_place 95 = .ok (.putfield 31, 3) := by decide +kernel
theorem dX1_place_98 : decode cX1_place 98 = .ok (.aload_n 0, 1) := by decide +kernel
theorem dX1_place_99 : decode cX1_place 99 = .ok (.getfield 34, 3) := by decide +kernel
theorem dX1_place_102 : decode cX1_place 102 = .ok (.getfield 77, 3) := by decide +kernel
theorem dX1_place_105 : decode cX1_place 105 = .ok (.iload 5, 2) := by decide +kernel
theorem dX1_place_107 : decode cX1_place 107 = .ok (.iaload, 1) := by decide +kernel
theorem dX1_place_108 : decode cX1_place 108 = .ok (.istore_n 2, 1) := by decide +kernel
theorem dX1_place_109 : decode cX1_place 109 = .ok (.iinc 4 1, 3) := by decide +kernel
theorem dX1_place_112 : decode cX1_place 112 = .ok (.goto (-91), 3) := by decide +kernel
theorem dX1_place_115 : decode cX1_place 115 = .ok (.return_, 1) := by decide +kernel
set_option maxRecDepth 20000 in
theorem g_X1_place_0 {G : GX} {d : Nat} {Ret : Option AV → St → Prop} {R : Nat → List AV → List AV → St → Prop} (hM : AM G wdX (d + 1) mX1_place Ret R) (v1 : Int) (σ : St)
    (h : conV G wdX d mJ7_fill_53178 [vR 13, vI 1000000] σ (fun σ1 => (∀ τ1, τ1 = sI σ1 1 7 0 → R 21 [vR 1, vI v1, vI v1, vI 0, vI 0, vN] [] τ1))) : R 0 [vR 1, vI v1, vN, vN, vN, vN] [] σ := by
  refine r_aload_n hM (pc' := 1) dX1_place_0 rfl (x := 1) rfl ?_
  refine r_getR hM (pc' := 4) dX1_place_1 rfl fl_X1_21 wx_1 rfl ?_
  refine r_ldc hM (pc' := 6) dX1_place_4 rfl (x := 1000000) k_X1_68 (by decide) ?_
  refine r_callSV hM (pc' := 9) [vR 13, vI 1000000] dX1_place_6 rfl ml_X1_52 rfl rfl (Nat.le_of_ble_eq_true rfl) (conV.mono h (fun σ1 h => ?_))
  refine r_aload_n hM (pc' := 10) dX1_place_9 rfl (x := 1) rfl ?_
  refine r_iconst hM (pc' := 11) dX1_place_10 rfl (by decide) ?_
  refine r_putI hM (pc' := 14) dX1_place_11 rfl fp_X1_31 wx_1 rfl (fun τ1 e1 => ?_)
  have h := h τ1 e1
  refine r_iload_n hM (pc' := 15) dX1_place_14 rfl (x := v1) rfl ?_
  refine r_istore_n hM (pc' := 16) dX1_place_15 rfl (Nat.le_of_ble_eq_true rfl) rfl ?_
  show R 16 [vR 1, vI v1, vI v1, vN, vN, vN] _ _
  refine r_iconst hM (pc' := 17) dX1_place_16 rfl (by decide) ?_
  refine r_istore_n hM (pc' := 18) dX1_place_17 rfl (Nat.le_of_ble_eq_true rfl) rfl ?_
  show R 18 [vR 1, vI v1, vI v1, vI 0, vN, vN] _ _
  refine r_iconst hM (pc' := 19) dX1_place_18 rfl (by decide) ?_
  refine r_istore hM (pc' := 21) dX1_place_19 rfl (Nat.le_of_ble_eq_true rfl) rfl ?_
  show R 21 [vR 1, vI v1, vI v1, vI 0, vI 0, vN] _ _
  exact h
set_option maxRecDepth 20000 in
theorem g_X1_place_21 {G : GX} {d : Nat} {Ret : Option AV → St → Prop} {R : Nat → List AV → List AV → St → Prop} (hM : AM G wdX (d + 1) mX1_place Ret R) (v1 : Int) (v2 : Int) (v3 : Int) (v4 : Int) (σ : St)
    (h : (((σ.1 1 6) ≤ v4 → Ret none σ) ∧ (¬ (σ.1 1 6) ≤ v4 → conV G wdX d mX1_look [vR 1, vI v2, vI v3] σ (fun σ1 => conI G wdX d mX1_nearest [vR 1] σ1 (fun x2 σ2 => ((¬ x2 = (-1) → ((0 ≤ x2 ∧ x2 < 16) ∧ ((¬ (σ2.1 19 (x2).toNat) = (-1) → (∀ τ1, τ1 = sI σ2 1 7 (bOr (σ2.1 1 7) (bShl 1 x2)) → (r32 (v4 + 1) ∧ R 21 [vR 1, vI v1, vI (τ1.1 19 (x2).toNat), vI (σ2.1 13 (x2).toNat), vI (v4 + 1), vN] [] τ1))) ∧ ((σ2.1 19 (x2).toNat) = (-1) → conV G wdX d mX1_changeTolls [vR 1, vI v1, vI (σ2.1 13 (x2).toNat)] σ2 (fun σ3 => conV G wdX d mX1_turnOver [vR 1, vI v1, vI x2] σ3 (fun σ4 => Ret none σ4)))))) ∧ (x2 = (-1) → Ret none σ2))))))) : R 21 [vR 1, vI v1, vI v2, vI v3, vI v4, vN] [] σ := by
  refine r_iload hM (pc' := 23) dX1_place_21 rfl (x := v4) rfl ?_
  refine r_aload_n hM (pc' := 24) dX1_place_23 rfl (x := 1) rfl ?_
  refine r_getI hM (pc' := 27) dX1_place_24 rfl fl_X1_27 wx_1 rfl ?_
  refine r_icmp_ge hM (pc' := 30) (tgt := 115) dX1_place_27 rfl (by decide) (fun c => ?_) (fun c => ?_)
  · have h := h.1 c
    exact r_return hM dX1_place_115 rfl h
  · have h := h.2 c
    refine r_aload_n hM (pc' := 31) dX1_place_30 rfl (x := 1) rfl ?_
    refine r_iload_n hM (pc' := 32) dX1_place_31 rfl (x := v2) rfl ?_
    refine r_iload_n hM (pc' := 33) dX1_place_32 rfl (x := v3) rfl ?_
    refine r_callVV hM (pc' := 36) [vI v2, vI v3] dX1_place_33 rfl ml_X1_69 wx_1 rfl rfl (Nat.le_of_ble_eq_true rfl) (conV.mono h (fun σ1 h => ?_))
    refine r_aload_n hM (pc' := 37) dX1_place_36 rfl (x := 1) rfl ?_
    refine r_callVI hM (pc' := 40) [] dX1_place_37 rfl ml_X1_73 wx_1 rfl rfl (Nat.le_of_ble_eq_true rfl) (conI.mono h (fun x2 σ2 h => ?_))
    refine r_istore hM (pc' := 42) dX1_place_40 rfl (Nat.le_of_ble_eq_true rfl) rfl ?_
    show R 42 [vR 1, vI v1, vI v2, vI v3, vI v4, vI x2] _ _
    refine r_iload hM (pc' := 44) dX1_place_42 rfl (x := x2) rfl ?_
    refine r_iconst hM (pc' := 45) dX1_place_44 rfl (by decide) ?_
    refine r_icmp_ne hM (pc' := 48) (tgt := 49) dX1_place_45 rfl (by decide) (fun c => ?_) (fun c => ?_)
    · have h := h.1 c
      refine r_aload_n hM (pc' := 50) dX1_place_49 rfl (x := 1) rfl ?_
      refine r_getR hM (pc' := 53) dX1_place_50 rfl fl_X1_21 wx_1 rfl ?_
      refine r_iload hM (pc' := 55) dX1_place_53 rfl (x := x2) rfl ?_
      have o1 := h.1
      have h := h.2
      refine r_iaload hM (pc' := 56) dX1_place_55 rfl wx_13 o1 ?_
      refine r_istore_n hM (pc' := 57) dX1_place_56 rfl (Nat.le_of_ble_eq_true rfl) rfl ?_
      show R 57 [vR 1, vI v1, vI v2, vI (σ2.1 13 (x2).toNat), vI v4, vI x2] _ _
      refine r_aload_n hM (pc' := 58) dX1_place_57 rfl (x := 1) rfl ?_
      refine r_getR hM (pc' := 61) dX1_place_58 rfl fl_X1_34 wx_1 rfl ?_
      refine r_getR hM (pc' := 64) dX1_place_61 rfl fl_X1_77 wx_3 rfl ?_
      refine r_iload hM (pc' := 66) dX1_place_64 rfl (x := x2) rfl ?_
      refine r_iaload hM (pc' := 67) dX1_place_66 rfl wx_19 o1 ?_
      refine r_iconst hM (pc' := 68) dX1_place_67 rfl (by decide) ?_
      refine r_icmp_ne hM (pc' := 71) (tgt := 85) dX1_place_68 rfl (by decide) (fun c => ?_) (fun c => ?_)
      · have h := h.1 c
        refine r_aload_n hM (pc' := 86) dX1_place_85 rfl (x := 1) rfl ?_
        refine r_dup hM (pc' := 87) dX1_place_86 rfl (fun _ => rfl) ?_
        refine r_getI hM (pc' := 90) dX1_place_87 rfl fl_X1_31 wx_1 rfl ?_
        refine r_iconst hM (pc' := 91) dX1_place_90 rfl (by decide) ?_
        refine r_iload hM (pc' := 93) dX1_place_91 rfl (x := x2) rfl ?_
        refine r_ishl hM (pc' := 94) dX1_place_93 rfl ?_
        refine r_ior hM (pc' := 95) dX1_place_94 rfl ?_
        refine r_putI hM (pc' := 98) dX1_place_95 rfl fp_X1_31 wx_1 rfl (fun τ1 e1 => ?_)
        have h := h τ1 e1
        refine r_aload_n hM (pc' := 99) dX1_place_98 rfl (x := 1) rfl ?_
        refine r_getR hM (pc' := 102) dX1_place_99 rfl fl_X1_34 wx_1 rfl ?_
        refine r_getR hM (pc' := 105) dX1_place_102 rfl fl_X1_77 wx_3 rfl ?_
        refine r_iload hM (pc' := 107) dX1_place_105 rfl (x := x2) rfl ?_
        refine r_iaload hM (pc' := 108) dX1_place_107 rfl wx_19 o1 ?_
        refine r_istore_n hM (pc' := 109) dX1_place_108 rfl (Nat.le_of_ble_eq_true rfl) rfl ?_
        show R 109 [vR 1, vI v1, vI (τ1.1 19 (x2).toNat), vI (σ2.1 13 (x2).toNat), vI v4, vI x2] _ _
        have o2 := h.1
        have h := h.2
        refine r_iinc hM (pc' := 112) dX1_place_109 rfl (x := v4) rfl rfl o2 ?_
        show R 112 [vR 1, vI v1, vI (τ1.1 19 (x2).toNat), vI (σ2.1 13 (x2).toNat), vI (v4 + 1), vI x2] _ _
        refine r_goto hM (tgt := 21) dX1_place_112 (by decide) ?_
        refine r_weak hM (ls' := [vR 1, vI v1, vI (τ1.1 19 (x2).toNat), vI (σ2.1 13 (x2).toNat), vI (v4 + 1), vN]) ⟨Or.inl rfl, Or.inl rfl, Or.inl rfl, Or.inl rfl, Or.inl rfl, Or.inr rfl, trivial⟩ ?_
        exact h
      · have h := h.2 c
        refine r_aload_n hM (pc' := 72) dX1_place_71 rfl (x := 1) rfl ?_
        refine r_iload_n hM (pc' := 73) dX1_place_72 rfl (x := v1) rfl ?_
        refine r_iload_n hM (pc' := 74) dX1_place_73 rfl (x := (σ2.1 13 (x2).toNat)) rfl ?_
        refine r_callVV hM (pc' := 77) [vI v1, vI (σ2.1 13 (x2).toNat)] dX1_place_74 rfl ml_X1_80 wx_1 rfl rfl (Nat.le_of_ble_eq_true rfl) (conV.mono h (fun σ3 h => ?_))
        refine r_aload_n hM (pc' := 78) dX1_place_77 rfl (x := 1) rfl ?_
        refine r_iload_n hM (pc' := 79) dX1_place_78 rfl (x := v1) rfl ?_
        refine r_iload hM (pc' := 81) dX1_place_79 rfl (x := x2) rfl ?_
        refine r_callVV hM (pc' := 84) [vI v1, vI x2] dX1_place_81 rfl ml_X1_83 wx_1 rfl rfl (Nat.le_of_ble_eq_true rfl) (conV.mono h (fun σ4 h => ?_))
        exact r_return hM dX1_place_84 rfl h
    · have h := h.2 c
      exact r_return hM dX1_place_48 rfl h
theorem dX1_look_0 : decode cX1_look 0 = .ok (.iconst 0, 1) := by decide +kernel
theorem dX1_look_1 : decode cX1_look 1 = .ok (.istore_n 3, 1) := by decide +kernel
theorem dX1_look_2 : decode cX1_look 2 = .ok (.iload_n 3, 1) := by decide +kernel
theorem dX1_look_3 : decode cX1_look 3 = .ok (.aload_n 0, 1) := by decide +kernel
theorem dX1_look_4 : decode cX1_look 4 = .ok (.getfield 27, 3) := by decide +kernel
theorem dX1_look_7 : decode cX1_look 7 = .ok (.if_icmp .ge 56, 3) := by decide +kernel
theorem dX1_look_10 : decode cX1_look 10 = .ok (.aload_n 0, 1) := by decide +kernel
theorem dX1_look_11 : decode cX1_look 11 = .ok (.getfield 31, 3) := by decide +kernel
theorem dX1_look_14 : decode cX1_look 14 = .ok (.iload_n 3, 1) := by decide +kernel
theorem dX1_look_15 : decode cX1_look 15 = .ok (.ishr, 1) := by decide +kernel
theorem dX1_look_16 : decode cX1_look 16 = .ok (.iconst 1, 1) := by decide +kernel
theorem dX1_look_17 : decode cX1_look 17 = .ok (.iand, 1) := by decide +kernel
theorem dX1_look_18 : decode cX1_look 18 = .ok (.ifCond .ne 39, 3) := by decide +kernel
theorem dX1_look_21 : decode cX1_look 21 = .ok (.iload_n 2, 1) := by decide +kernel
theorem dX1_look_22 : decode cX1_look 22 = .ok (.aload_n 0, 1) := by decide +kernel
theorem dX1_look_23 : decode cX1_look 23 = .ok (.iload_n 1, 1) := by decide +kernel
theorem dX1_look_24 : decode cX1_look 24 = .ok (.iload_n 3, 1) := by decide +kernel
theorem dX1_look_25 : decode cX1_look 25 = .ok (.invokevirtual 65, 3) := by decide +kernel
theorem dX1_look_28 : decode cX1_look 28 = .ok (.iadd, 1) := by decide +kernel
theorem dX1_look_29 : decode cX1_look 29 = .ok (.istore 4, 2) := by decide +kernel
theorem dX1_look_31 : decode cX1_look 31 = .ok (.iload 4, 2) := by decide +kernel
theorem dX1_look_33 : decode cX1_look 33 = .ok (.aload_n 0, 1) := by decide +kernel
theorem dX1_look_34 : decode cX1_look 34 = .ok (.getfield 21, 3) := by decide +kernel
theorem dX1_look_37 : decode cX1_look 37 = .ok (.iload_n 3, 1) := by decide +kernel
theorem dX1_look_38 : decode cX1_look 38 = .ok (.iaload, 1) := by decide +kernel
theorem dX1_look_39 : decode cX1_look 39 = .ok (.if_icmp .ge 18, 3) := by decide +kernel
theorem dX1_look_42 : decode cX1_look 42 = .ok (.aload_n 0, 1) := by decide +kernel
theorem dX1_look_43 : decode cX1_look 43 = .ok (.getfield 21, 3) := by decide +kernel
theorem dX1_look_46 : decode cX1_look 46 = .ok (.iload_n 3, 1) := by decide +kernel
theorem dX1_look_47 : decode cX1_look 47 = .ok (.iload 4, 2) := by decide +kernel
theorem dX1_look_49 : decode cX1_look 49 = .ok (.iastore, 1) := by decide +kernel
theorem dX1_look_50 : decode cX1_look 50 = .ok (.aload_n 0, 1) := by decide +kernel
theorem dX1_look_51 : decode cX1_look 51 = .ok (.getfield 24, 3) := by decide +kernel
theorem dX1_look_54 : decode cX1_look 54 = .ok (.iload_n 3, 1) := by decide +kernel
theorem dX1_look_55 : decode cX1_look 55 = .ok (.iload_n 1, 1) := by decide +kernel
theorem dX1_look_56 : decode cX1_look 56 = .ok (.iastore, 1) := by decide +kernel
theorem dX1_look_57 : decode cX1_look 57 = .ok (.iinc 3 1, 3) := by decide +kernel
theorem dX1_look_60 : decode cX1_look 60 = .ok (.goto (-58), 3) := by decide +kernel
theorem dX1_look_63 : decode cX1_look 63 = .ok (.return_, 1) := by decide +kernel
set_option maxRecDepth 20000 in
theorem g_X1_look_0 {G : GX} {d : Nat} {Ret : Option AV → St → Prop} {R : Nat → List AV → List AV → St → Prop} (hM : AM G wdX (d + 1) mX1_look Ret R) (v1 : Int) (v2 : Int) (σ : St)
    (h : R 2 [vR 1, vI v1, vI v2, vI 0, vN] [] σ) : R 0 [vR 1, vI v1, vI v2, vN, vN] [] σ := by
  refine r_iconst hM (pc' := 1) dX1_look_0 rfl (by decide) ?_
  refine r_istore_n hM (pc' := 2) dX1_look_1 rfl (Nat.le_of_ble_eq_true rfl) rfl ?_
  show R 2 [vR 1, vI v1, vI v2, vI 0, vN] _ _
  exact h
set_option maxRecDepth 20000 in
theorem g_X1_look_2 {G : GX} {d : Nat} {Ret : Option AV → St → Prop} {R : Nat → List AV → List AV → St → Prop} (hM : AM G wdX (d + 1) mX1_look Ret R) (v1 : Int) (v2 : Int) (v3 : Int) (σ : St)
    (h : (((σ.1 1 6) ≤ v3 → Ret none σ) ∧ (¬ (σ.1 1 6) ≤ v3 → ((¬ (bAnd (bShr (σ.1 1 7) v3) 1) = 0 → (r32 (v3 + 1) ∧ R 2 [vR 1, vI v1, vI v2, vI (v3 + 1), vN] [] σ)) ∧ ((bAnd (bShr (σ.1 1 7) v3) 1) = 0 → conI G wdX d mX1_over [vR 1, vI v1, vI v3] σ (fun x1 σ1 => (r32 (v2 + x1) ∧ ((0 ≤ v3 ∧ v3 < 16) ∧ (((σ1.1 13 (v3).toNat) ≤ (v2 + x1) → (r32 (v3 + 1) ∧ R 2 [vR 1, vI v1, vI v2, vI (v3 + 1), vN] [] σ1)) ∧ (¬ (σ1.1 13 (v3).toNat) ≤ (v2 + x1) → (∀ τ1, τ1 = sI σ1 13 (v3).toNat (v2 + x1) → (∀ τ2, τ2 = sI τ1 14 (v3).toNat v1 → (r32 (v3 + 1) ∧ R 2 [vR 1, vI v1, vI v2, vI (v3 + 1), vN] [] τ2))))))))))))) : R 2 [vR 1, vI v1, vI v2, vI v3, vN] [] σ := by
  refine r_iload_n hM (pc' := 3) dX1_look_2 rfl (x := v3) rfl ?_
  refine r_aload_n hM (pc' := 4) dX1_look_3 rfl (x := 1) rfl ?_
  refine r_getI hM (pc' := 7) dX1_look_4 rfl fl_X1_27 wx_1 rfl ?_
  refine r_icmp_ge hM (pc' := 10) (tgt := 63) dX1_look_7 rfl (by decide) (fun c => ?_) (fun c => ?_)
  · have h := h.1 c
    exact r_return hM dX1_look_63 rfl h
  · have h := h.2 c
    refine r_aload_n hM (pc' := 11) dX1_look_10 rfl (x := 1) rfl ?_
    refine r_getI hM (pc' := 14) dX1_look_11 rfl fl_X1_31 wx_1 rfl ?_
    refine r_iload_n hM (pc' := 15) dX1_look_14 rfl (x := v3) rfl ?_
    refine r_ishr hM (pc' := 16) dX1_look_15 rfl ?_
    refine r_iconst hM (pc' := 17) dX1_look_16 rfl (by decide) ?_
    refine r_iand hM (pc' := 18) dX1_look_17 rfl ?_
    refine r_if_ne hM (pc' := 21) (tgt := 57) dX1_look_18 rfl (by decide) (fun c => ?_) (fun c => ?_)
    · have h := h.1 c
      have o1 := h.1
      have h := h.2
      refine r_iinc hM (pc' := 60) dX1_look_57 rfl (x := v3) rfl rfl o1 ?_
      show R 60 [vR 1, vI v1, vI v2, vI (v3 + 1), vN] _ _
      refine r_goto hM (tgt := 2) dX1_look_60 (by decide) ?_
      exact h
    · have h := h.2 c
      refine r_iload_n hM (pc' := 22) dX1_look_21 rfl (x := v2) rfl ?_
      refine r_aload_n hM (pc' := 23) dX1_look_22 rfl (x := 1) rfl ?_
      refine r_iload_n hM (pc' := 24) dX1_look_23 rfl (x := v1) rfl ?_
      refine r_iload_n hM (pc' := 25) dX1_look_24 rfl (x := v3) rfl ?_
      refine r_callVI hM (pc' := 28) [vI v1, vI v3] dX1_look_25 rfl ml_X1_65 wx_1 rfl rfl (Nat.le_of_ble_eq_true rfl) (conI.mono h (fun x1 σ1 h => ?_))
      have o2 := h.1
      have h := h.2
      refine r_iadd hM (pc' := 29) dX1_look_28 rfl o2 ?_
      refine r_istore hM (pc' := 31) dX1_look_29 rfl (Nat.le_of_ble_eq_true rfl) rfl ?_
      show R 31 [vR 1, vI v1, vI v2, vI v3, vI (v2 + x1)] _ _
      refine r_iload hM (pc' := 33) dX1_look_31 rfl (x := (v2 + x1)) rfl ?_
      refine r_aload_n hM (pc' := 34) dX1_look_33 rfl (x := 1) rfl ?_
      refine r_getR hM (pc' := 37) dX1_look_34 rfl fl_X1_21 wx_1 rfl ?_
      refine r_iload_n hM (pc' := 38) dX1_look_37 rfl (x := v3) rfl ?_
      have o3 := h.1
      have h := h.2
      refine r_iaload hM (pc' := 39) dX1_look_38 rfl wx_13 o3 ?_
      refine r_icmp_ge hM (pc' := 42) (tgt := 57) dX1_look_39 rfl (by decide) (fun c => ?_) (fun c => ?_)
      · have h := h.1 c
        have o4 := h.1
        have h := h.2
        refine r_iinc hM (pc' := 60) dX1_look_57 rfl (x := v3) rfl rfl o4 ?_
        show R 60 [vR 1, vI v1, vI v2, vI (v3 + 1), vI (v2 + x1)] _ _
        refine r_goto hM (tgt := 2) dX1_look_60 (by decide) ?_
        refine r_weak hM (ls' := [vR 1, vI v1, vI v2, vI (v3 + 1), vN]) ⟨Or.inl rfl, Or.inl rfl, Or.inl rfl, Or.inl rfl, Or.inr rfl, trivial⟩ ?_
        exact h
      · have h := h.2 c
        refine r_aload_n hM (pc' := 43) dX1_look_42 rfl (x := 1) rfl ?_
        refine r_getR hM (pc' := 46) dX1_look_43 rfl fl_X1_21 wx_1 rfl ?_
        refine r_iload_n hM (pc' := 47) dX1_look_46 rfl (x := v3) rfl ?_
        refine r_iload hM (pc' := 49) dX1_look_47 rfl (x := (v2 + x1)) rfl ?_
        refine r_iastore hM (pc' := 50) dX1_look_49 rfl wx_13 o3 (fun τ1 e1 => ?_)
        have h := h τ1 e1
        refine r_aload_n hM (pc' := 51) dX1_look_50 rfl (x := 1) rfl ?_
        refine r_getR hM (pc' := 54) dX1_look_51 rfl fl_X1_24 wx_1 rfl ?_
        refine r_iload_n hM (pc' := 55) dX1_look_54 rfl (x := v3) rfl ?_
        refine r_iload_n hM (pc' := 56) dX1_look_55 rfl (x := v1) rfl ?_
        refine r_iastore hM (pc' := 57) dX1_look_56 rfl wx_14 o3 (fun τ2 e2 => ?_)
        have h := h τ2 e2
        have o5 := h.1
        have h := h.2
        refine r_iinc hM (pc' := 60) dX1_look_57 rfl (x := v3) rfl rfl o5 ?_
        show R 60 [vR 1, vI v1, vI v2, vI (v3 + 1), vI (v2 + x1)] _ _
        refine r_goto hM (tgt := 2) dX1_look_60 (by decide) ?_
        refine r_weak hM (ls' := [vR 1, vI v1, vI v2, vI (v3 + 1), vN]) ⟨Or.inl rfl, Or.inl rfl, Or.inl rfl, Or.inl rfl, Or.inr rfl, trivial⟩ ?_
        exact h
theorem dX1_nearest_0 : decode cX1_nearest 0 = .ok (.iconst (-1), 1) := by decide +kernel
theorem dX1_nearest_1 : decode cX1_nearest 1 = .ok (.istore_n 1, 1) := by decide +kernel
theorem dX1_nearest_2 : decode cX1_nearest 2 = .ok (.ldc 68, 2) := by decide +kernel
theorem dX1_nearest_4 : decode cX1_nearest 4 = .ok (.istore_n 2, 1) := by decide +kernel
theorem dX1_nearest_5 : decode cX1_nearest 5 = .ok (.iconst 0, 1) := by decide +kernel
theorem dX1_nearest_6 : decode cX1_nearest 6 = .ok (.istore_n 3, 1) := by decide +kernel
theorem dX1_nearest_7 : decode cX1_nearest 7 = .ok (.iload_n 3, 1) := by decide +kernel
theorem dX1_nearest_8 : decode cX1_nearest 8 = .ok (.aload_n 0, 1) := by decide +kernel
theorem dX1_nearest_9 : decode cX1_nearest 9 = .ok (.getfield 27, 3) := by decide +kernel
theorem dX1_nearest_12 : decode cX1_nearest 12 = .ok (.if_icmp .ge 74, 3) := by decide +kernel
theorem dX1_nearest_15 : decode cX1_nearest 15 = .ok (.aload_n 0, 1) := by decide +kernel
theorem dX1_nearest_16 : decode cX1_nearest 16 = .ok (.getfield 31, 3) := by decide +kernel
theorem dX1_nearest_19 : decode cX1_nearest 19 = .ok (.iload_n 3, 1) := by decide +kernel
theorem dX1_nearest_20 : decode cX1_nearest 20 = .ok (.ishr, 1) := by decide +kernel
theorem dX1_nearest_21 : decode cX1_nearest 21 = .ok (.iconst 1, 1) := by decide +kernel
theorem dX1_nearest_22 : decode cX1_nearest 22 = .ok (.iand, 1) := by decide +kernel
theorem dX1_nearest_23 : decode cX1_nearest 23 = .ok (.ifCond .ne 57, 3) := by decide +kernel
theorem dX1_nearest_26 : decode cX1_nearest 26 = .ok (.aload_n 0, 1) := by decide +kernel
theorem dX1_nearest_27 : decode cX1_nearest 27 = .ok (.getfield 21, 3) := by decide +kernel
theorem dX1_nearest_30 : decode cX1_nearest 30 = .ok (.iload_n 3, 1) := by decide +kernel
theorem dX1_nearest_31 : decode cX1_nearest 31 = .ok (.iaload, 1) := by decide +kernel
theorem dX1_nearest_32 : decode cX1_nearest 32 = .ok (.iload_n 2, 1) := by decide +kernel
theorem dX1_nearest_33 : decode cX1_nearest 33 = .ok (.if_icmp .gt 47, 3) := by decide +kernel
theorem dX1_nearest_36 : decode cX1_nearest 36 = .ok (.aload_n 0, 1) := by decide +kernel
theorem dX1_nearest_37 : decode cX1_nearest 37 = .ok (.getfield 34, 3) := by decide +kernel
theorem dX1_nearest_40 : decode cX1_nearest 40 = .ok (.getfield 77, 3) := by decide +kernel
theorem dX1_nearest_43 : decode cX1_nearest 43 = .ok (.iload_n 3, 1) := by decide +kernel
theorem dX1_nearest_44 : decode cX1_nearest 44 = .ok (.iaload, 1) := by decide +kernel
theorem dX1_nearest_45 : decode cX1_nearest 45 = .ok (.iconst (-1), 1) := by decide +kernel
theorem dX1_nearest_46 : decode cX1_nearest 46 = .ok (.if_icmp .ne 7, 3) := by decide +kernel
theorem dX1_nearest_49 : decode cX1_nearest 49 = .ok (.iconst 1, 1) := by decide +kernel
theorem dX1_nearest_50 : decode cX1_nearest 50 = .ok (.goto 4, 3) := by decide +kernel
theorem dX1_nearest_53 : decode cX1_nearest 53 = .ok (.iconst 0, 1) := by decide +kernel
theorem dX1_nearest_54 : decode cX1_nearest 54 = .ok (.istore 4, 2) := by decide +kernel
theorem dX1_nearest_56 : decode cX1_nearest 56 = .ok (.iload 4, 2) := by decide +kernel
theorem dX1_nearest_58 : decode cX1_nearest 58 = .ok (.ifCond .ne 13, 3) := by decide +kernel
theorem dX1_nearest_61 : decode cX1_nearest 61 = .ok (.aload_n 0, 1) := by decide +kernel
theorem dX1_nearest_62 : decode cX1_nearest 62 = .ok (.getfield 21, 3) := by decide +kernel
theorem dX1_nearest_65 : decode cX1_nearest 65 = .ok (.iload_n 3, 1) := by decide +kernel
theorem dX1_nearest_66 : decode cX1_nearest 66 = .ok (.iaload, 1) := by decide +kernel
theorem dX1_nearest_67 : decode cX1_nearest 67 = .ok (.iload_n 2, 1) := by decide +kernel
theorem dX1_nearest_68 : decode cX1_nearest 68 = .ok (.if_icmp .ge 12, 3) := by decide +kernel
theorem dX1_nearest_71 : decode cX1_nearest 71 = .ok (.iload_n 3, 1) := by decide +kernel
theorem dX1_nearest_72 : decode cX1_nearest 72 = .ok (.istore_n 1, 1) := by decide +kernel
theorem dX1_nearest_73 : decode cX1_nearest 73 = .ok (.aload_n 0, 1) := by decide +kernel
theorem dX1_nearest_74 : decode cX1_nearest 74 = .ok (.getfield 21, 3) := by decide +kernel
theorem dX1_nearest_77 : decode cX1_nearest 77 = .ok (.iload_n 3, 1) := by decide +kernel
theorem dX1_nearest_78 : decode cX1_nearest 78 = .ok (.iaload, 1) := by decide +kernel
theorem dX1_nearest_79 : decode cX1_nearest 79 = .ok (.istore_n 2, 1) := by decide +kernel
theorem dX1_nearest_80 : decode cX1_nearest 80 = .ok (.iinc 3 1, 3) := by decide +kernel
theorem dX1_nearest_83 : decode cX1_nearest 83 = .ok (.goto (-76), 3) := by decide +kernel
theorem dX1_nearest_86 : decode cX1_nearest 86 = .ok (.iload_n 1, 1) := by decide +kernel
theorem dX1_nearest_87 : decode cX1_nearest 87 = .ok (.ireturn, 1) := by decide +kernel
set_option maxRecDepth 20000 in
theorem g_X1_nearest_0 {G : GX} {d : Nat} {Ret : Option AV → St → Prop} {R : Nat → List AV → List AV → St → Prop} (hM : AM G wdX d mX1_nearest Ret R) (σ : St)
    (h : R 7 [vR 1, vI (-1), vI 1000000, vI 0, vN] [] σ) : R 0 [vR 1, vN, vN, vN, vN] [] σ := by
  refine r_iconst hM (pc' := 1) dX1_nearest_0 rfl (by decide) ?_
  refine r_istore_n hM (pc' := 2) dX1_nearest_1 rfl (Nat.le_of_ble_eq_true rfl) rfl ?_
  show R 2 [vR 1, vI (-1), vN, vN, vN] _ _
  refine r_ldc hM (pc' := 4) dX1_nearest_2 rfl (x := 1000000) k_X1_68 (by decide) ?_
  refine r_istore_n hM (pc' := 5) dX1_nearest_4 rfl (Nat.le_of_ble_eq_true rfl) rfl ?_
  show R 5 [vR 1, vI (-1), vI 1000000, vN, vN] _ _
  refine r_iconst hM (pc' := 6) dX1_nearest_5 rfl (by decide) ?_
  refine r_istore_n hM (pc' := 7) dX1_nearest_6 rfl (Nat.le_of_ble_eq_true rfl) rfl ?_
  show R 7 [vR 1, vI (-1), vI 1000000, vI 0, vN] _ _
  exact h
set_option maxRecDepth 20000 in
theorem g_X1_nearest_7 {G : GX} {d : Nat} {Ret : Option AV → St → Prop} {R : Nat → List AV → List AV → St → Prop} (hM : AM G wdX d mX1_nearest Ret R) (v1 : Int) (v2 : Int) (v3 : Int) (σ : St)
    (h : (((σ.1 1 6) ≤ v3 → Ret (some (vI v1)) σ) ∧ (¬ (σ.1 1 6) ≤ v3 → ((¬ (bAnd (bShr (σ.1 1 7) v3) 1) = 0 → (r32 (v3 + 1) ∧ R 7 [vR 1, vI v1, vI v2, vI (v3 + 1), vN] [] σ)) ∧ ((bAnd (bShr (σ.1 1 7) v3) 1) = 0 → ((0 ≤ v3 ∧ v3 < 16) ∧ ((v2 < (σ.1 13 (v3).toNat) → (r32 (v3 + 1) ∧ R 7 [vR 1, vI v1, vI v2, vI (v3 + 1), vN] [] σ)) ∧ (¬ v2 < (σ.1 13 (v3).toNat) → ((¬ (σ.1 19 (v3).toNat) = (-1) → R 54 [vR 1, vI v1, vI v2, vI v3, vN] [vI 0] σ) ∧ ((σ.1 19 (v3).toNat) = (-1) → R 54 [vR 1, vI v1, vI v2, vI v3, vN] [vI 1] σ)))))))))) : R 7 [vR 1, vI v1, vI v2, vI v3, vN] [] σ := by
  refine r_iload_n hM (pc' := 8) dX1_nearest_7 rfl (x := v3) rfl ?_
  refine r_aload_n hM (pc' := 9) dX1_nearest_8 rfl (x := 1) rfl ?_
  refine r_getI hM (pc' := 12) dX1_nearest_9 rfl fl_X1_27 wx_1 rfl ?_
  refine r_icmp_ge hM (pc' := 15) (tgt := 86) dX1_nearest_12 rfl (by decide) (fun c => ?_) (fun c => ?_)
  · have h := h.1 c
    refine r_iload_n hM (pc' := 87) dX1_nearest_86 rfl (x := v1) rfl ?_
    exact r_ireturn hM dX1_nearest_87 rfl h
  · have h := h.2 c
    refine r_aload_n hM (pc' := 16) dX1_nearest_15 rfl (x := 1) rfl ?_
    refine r_getI hM (pc' := 19) dX1_nearest_16 rfl fl_X1_31 wx_1 rfl ?_
    refine r_iload_n hM (pc' := 20) dX1_nearest_19 rfl (x := v3) rfl ?_
    refine r_ishr hM (pc' := 21) dX1_nearest_20 rfl ?_
    refine r_iconst hM (pc' := 22) dX1_nearest_21 rfl (by decide) ?_
    refine r_iand hM (pc' := 23) dX1_nearest_22 rfl ?_
    refine r_if_ne hM (pc' := 26) (tgt := 80) dX1_nearest_23 rfl (by decide) (fun c => ?_) (fun c => ?_)
    · have h := h.1 c
      have o1 := h.1
      have h := h.2
      refine r_iinc hM (pc' := 83) dX1_nearest_80 rfl (x := v3) rfl rfl o1 ?_
      show R 83 [vR 1, vI v1, vI v2, vI (v3 + 1), vN] _ _
      refine r_goto hM (tgt := 7) dX1_nearest_83 (by decide) ?_
      exact h
    · have h := h.2 c
      refine r_aload_n hM (pc' := 27) dX1_nearest_26 rfl (x := 1) rfl ?_
      refine r_getR hM (pc' := 30) dX1_nearest_27 rfl fl_X1_21 wx_1 rfl ?_
      refine r_iload_n hM (pc' := 31) dX1_nearest_30 rfl (x := v3) rfl ?_
      have o2 := h.1
      have h := h.2
      refine r_iaload hM (pc' := 32) dX1_nearest_31 rfl wx_13 o2 ?_
      refine r_iload_n hM (pc' := 33) dX1_nearest_32 rfl (x := v2) rfl ?_
      refine r_icmp_gt hM (pc' := 36) (tgt := 80) dX1_nearest_33 rfl (by decide) (fun c => ?_) (fun c => ?_)
      · have h := h.1 c
        have o3 := h.1
        have h := h.2
        refine r_iinc hM (pc' := 83) dX1_nearest_80 rfl (x := v3) rfl rfl o3 ?_
        show R 83 [vR 1, vI v1, vI v2, vI (v3 + 1), vN] _ _
        refine r_goto hM (tgt := 7) dX1_nearest_83 (by decide) ?_
        exact h
      · have h := h.2 c
        refine r_aload_n hM (pc' := 37) dX1_nearest_36 rfl (x := 1) rfl ?_
        refine r_getR hM (pc' := 40) dX1_nearest_37 rfl fl_X1_34 wx_1 rfl ?_
        refine r_getR hM (pc' := 43) dX1_nearest_40 rfl fl_X1_77 wx_3 rfl ?_
        refine r_iload_n hM (pc' := 44) dX1_nearest_43 rfl (x := v3) rfl ?_
        refine r_iaload hM (pc' := 45) dX1_nearest_44 rfl wx_19 o2 ?_
        refine r_iconst hM (pc' := 46) dX1_nearest_45 rfl (by decide) ?_
        refine r_icmp_ne hM (pc' := 49) (tgt := 53) dX1_nearest_46 rfl (by decide) (fun c => ?_) (fun c => ?_)
        · have h := h.1 c
          refine r_iconst hM (pc' := 54) dX1_nearest_53 rfl (by decide) ?_
          exact h
        · have h := h.2 c
          refine r_iconst hM (pc' := 50) dX1_nearest_49 rfl (by decide) ?_
          refine r_goto hM (tgt := 54) dX1_nearest_50 (by decide) ?_
          exact h
set_option maxRecDepth 20000 in
theorem g_X1_nearest_54 {G : GX} {d : Nat} {Ret : Option AV → St → Prop} {R : Nat → List AV → List AV → St → Prop} (hM : AM G wdX d mX1_nearest Ret R) (v1 : Int) (v2 : Int) (v3 : Int) (w0 : Int) (σ : St)
    (h : ((¬ w0 = 0 → ((0 ≤ v3 ∧ v3 < 16) ∧ (r32 (v3 + 1) ∧ R 7 [vR 1, vI v3, vI (σ.1 13 (v3).toNat), vI (v3 + 1), vN] [] σ))) ∧ (w0 = 0 → ((0 ≤ v3 ∧ v3 < 16) ∧ ((v2 ≤ (σ.1 13 (v3).toNat) → (r32 (v3 + 1) ∧ R 7 [vR 1, vI v1, vI v2, vI (v3 + 1), vN] [] σ)) ∧ (¬ v2 ≤ (σ.1 13 (v3).toNat) → (r32 (v3 + 1) ∧ R 7 [vR 1, vI v3, vI (σ.1 13 (v3).toNat), vI (v3 + 1), vN] [] σ))))))) : R 54 [vR 1, vI v1, vI v2, vI v3, vN] [vI w0] σ := by
  refine r_istore hM (pc' := 56) dX1_nearest_54 rfl (Nat.le_of_ble_eq_true rfl) rfl ?_
  show R 56 [vR 1, vI v1, vI v2, vI v3, vI w0] _ _
  refine r_iload hM (pc' := 58) dX1_nearest_56 rfl (x := w0) rfl ?_
  refine r_if_ne hM (pc' := 61) (tgt := 71) dX1_nearest_58 rfl (by decide) (fun c => ?_) (fun c => ?_)
  · have h := h.1 c
    refine r_iload_n hM (pc' := 72) dX1_nearest_71 rfl (x := v3) rfl ?_
    refine r_istore_n hM (pc' := 73) dX1_nearest_72 rfl (Nat.le_of_ble_eq_true rfl) rfl ?_
    show R 73 [vR 1, vI v3, vI v2, vI v3, vI w0] _ _
    refine r_aload_n hM (pc' := 74) dX1_nearest_73 rfl (x := 1) rfl ?_
    refine r_getR hM (pc' := 77) dX1_nearest_74 rfl fl_X1_21 wx_1 rfl ?_
    refine r_iload_n hM (pc' := 78) dX1_nearest_77 rfl (x := v3) rfl ?_
    have o1 := h.1
    have h := h.2
    refine r_iaload hM (pc' := 79) dX1_nearest_78 rfl wx_13 o1 ?_
    refine r_istore_n hM (pc' := 80) dX1_nearest_79 rfl (Nat.le_of_ble_eq_true rfl) rfl ?_
    show R 80 [vR 1, vI v3, vI (σ.1 13 (v3).toNat), vI v3, vI w0] _ _
    have o2 := h.1
    have h := h.2
    refine r_iinc hM (pc' := 83) dX1_nearest_80 rfl (x := v3) rfl rfl o2 ?_
    show R 83 [vR 1, vI v3, vI (σ.1 13 (v3).toNat), vI (v3 + 1), vI w0] _ _
    refine r_goto hM (tgt := 7) dX1_nearest_83 (by decide) ?_
    refine r_weak hM (ls' := [vR 1, vI v3, vI (σ.1 13 (v3).toNat), vI (v3 + 1), vN]) ⟨Or.inl rfl, Or.inl rfl, Or.inl rfl, Or.inl rfl, Or.inr rfl, trivial⟩ ?_
    exact h
  · have h := h.2 c
    refine r_aload_n hM (pc' := 62) dX1_nearest_61 rfl (x := 1) rfl ?_
    refine r_getR hM (pc' := 65) dX1_nearest_62 rfl fl_X1_21 wx_1 rfl ?_
    refine r_iload_n hM (pc' := 66) dX1_nearest_65 rfl (x := v3) rfl ?_
    have o3 := h.1
    have h := h.2
    refine r_iaload hM (pc' := 67) dX1_nearest_66 rfl wx_13 o3 ?_
    refine r_iload_n hM (pc' := 68) dX1_nearest_67 rfl (x := v2) rfl ?_
    refine r_icmp_ge hM (pc' := 71) (tgt := 80) dX1_nearest_68 rfl (by decide) (fun c => ?_) (fun c => ?_)
    · have h := h.1 c
      have o4 := h.1
      have h := h.2
      refine r_iinc hM (pc' := 83) dX1_nearest_80 rfl (x := v3) rfl rfl o4 ?_
      show R 83 [vR 1, vI v1, vI v2, vI (v3 + 1), vI w0] _ _
      refine r_goto hM (tgt := 7) dX1_nearest_83 (by decide) ?_
      refine r_weak hM (ls' := [vR 1, vI v1, vI v2, vI (v3 + 1), vN]) ⟨Or.inl rfl, Or.inl rfl, Or.inl rfl, Or.inl rfl, Or.inr rfl, trivial⟩ ?_
      exact h
    · have h := h.2 c
      refine r_iload_n hM (pc' := 72) dX1_nearest_71 rfl (x := v3) rfl ?_
      refine r_istore_n hM (pc' := 73) dX1_nearest_72 rfl (Nat.le_of_ble_eq_true rfl) rfl ?_
      show R 73 [vR 1, vI v3, vI v2, vI v3, vI w0] _ _
      refine r_aload_n hM (pc' := 74) dX1_nearest_73 rfl (x := 1) rfl ?_
      refine r_getR hM (pc' := 77) dX1_nearest_74 rfl fl_X1_21 wx_1 rfl ?_
      refine r_iload_n hM (pc' := 78) dX1_nearest_77 rfl (x := v3) rfl ?_
      refine r_iaload hM (pc' := 79) dX1_nearest_78 rfl wx_13 o3 ?_
      refine r_istore_n hM (pc' := 80) dX1_nearest_79 rfl (Nat.le_of_ble_eq_true rfl) rfl ?_
      show R 80 [vR 1, vI v3, vI (σ.1 13 (v3).toNat), vI v3, vI w0] _ _
      have o5 := h.1
      have h := h.2
      refine r_iinc hM (pc' := 83) dX1_nearest_80 rfl (x := v3) rfl rfl o5 ?_
      show R 83 [vR 1, vI v3, vI (σ.1 13 (v3).toNat), vI (v3 + 1), vI w0] _ _
      refine r_goto hM (tgt := 7) dX1_nearest_83 (by decide) ?_
      refine r_weak hM (ls' := [vR 1, vI v3, vI (σ.1 13 (v3).toNat), vI (v3 + 1), vN]) ⟨Or.inl rfl, Or.inl rfl, Or.inl rfl, Or.inl rfl, Or.inr rfl, trivial⟩ ?_
      exact h
theorem dX1_changeTolls_0 : decode cX1_changeTolls 0 = .ok (.aload_n 0, 1) := by decide +kernel
theorem dX1_changeTolls_1 : decode cX1_changeTolls 1 = .ok (.getfield 15, 3) := by decide +kernel
theorem dX1_changeTolls_4 : decode cX1_changeTolls 4 = .ok (.iload_n 1, 1) := by decide +kernel
theorem dX1_changeTolls_5 : decode cX1_changeTolls 5 = .ok (.dup2, 1) := by decide +kernel
theorem dX1_changeTolls_6 : decode cX1_changeTolls 6 = .ok (.iaload, 1) := by decide +kernel
theorem dX1_changeTolls_7 : decode cX1_changeTolls 7 = .ok (.iload_n 2, 1) := by decide +kernel
theorem dX1_changeTolls_8 : decode cX1_changeTolls 8 = .ok (.iadd, 1) := by decide +kernel
theorem dX1_changeTolls_9 : decode cX1_changeTolls 9 = .ok (.iastore, 1) := by decide +kernel
theorem dX1_changeTolls_10 : decode cX1_changeTolls 10 = .ok (.iconst 0, 1) := by decide +kernel
theorem dX1_changeTolls_11 : decode cX1_changeTolls 11 = .ok (.istore_n 3, 1) := by decide +kernel
theorem dX1_changeTolls_12 : decode cX1_changeTolls 12 = .ok (.iload_n 3, 1) := by decide +kernel
theorem dX1_changeTolls_13 : decode cX1_changeTolls 13 = .ok (.aload_n 0, 1) := by decide +kernel
theorem dX1_changeTolls_14 : decode cX1_changeTolls 14 = .ok (.getfield 27, 3) := by decide +kernel
theorem dX1_changeTolls_17 : decode cX1_changeTolls 17 = .ok (.if_icmp .ge 61, 3) := by decide +kernel
theorem dX1_changeTolls_20 : decode cX1_changeTolls 20 = .ok (.aload_n 0, 1) := by decide +kernel
theorem dX1_changeTolls_21 : decode cX1_changeTolls 21 = .ok (.getfield 31, 3) := by decide +kernel
theorem dX1_changeTolls_24 : decode cX1_changeTolls 24 = .ok (.iload_n 3, 1) := by decide +kernel
theorem dX1_changeTolls_25 : decode cX1_changeTolls 25 = .ok (.ishr, 1) := by decide +kernel
theorem dX1_changeTolls_26 : decode cX1_changeTolls 26 = .ok (.iconst 1, 1) := by decide +kernel
theorem dX1_changeTolls_27 : decode cX1_changeTolls 27 = .ok (.iand, 1) := by decide +kernel
theorem dX1_changeTolls_28 : decode cX1_changeTolls 28 = .ok (.iconst 1, 1) := by decide +kernel
theorem dX1_changeTolls_29 : decode cX1_changeTolls 29 = .ok (.if_icmp .ne 43, 3) := by decide +kernel
theorem dX1_changeTolls_32 : decode cX1_changeTolls 32 = .ok (.iload_n 2, 1) := by decide +kernel
theorem dX1_changeTolls_33 : decode cX1_changeTolls 33 = .ok (.aload_n 0, 1) := by decide +kernel
theorem dX1_changeTolls_34 : decode cX1_changeTolls 34 = .ok (.getfield 21, 3) := by decide +kernel
theorem dX1_changeTolls_37 : decode cX1_changeTolls 37 = .ok (.iload_n 3, 1) := by decide +kernel
theorem dX1_changeTolls_38 : decode cX1_changeTolls 38 = .ok (.iaload, 1) := by decide +kernel
theorem dX1_changeTolls_39 : decode cX1_changeTolls 39 = .ok (.isub, 1) := by decide +kernel
theorem dX1_changeTolls_40 : decode cX1_changeTolls 40 = .ok (.istore 4, 2) := by decide +kernel
theorem dX1_changeTolls_42 : decode cX1_changeTolls 42 = .ok (.aload_n 0, 1) := by decide +kernel
theorem dX1_changeTolls_43 : decode cX1_changeTolls 43 = .ok (.getfield 15, 3) := by decide +kernel
theorem dX1_changeTolls_46 : decode cX1_changeTolls 46 = .ok (.aload_n 0, 1) := by decide +kernel
theorem dX1_changeTolls_47 : decode cX1_changeTolls 47 = .ok (.getfield 34, 3) := by decide +kernel
theorem dX1_changeTolls_50 : decode cX1_changeTolls 50 = .ok (.getfield 77, 3) := by decide +kernel
theorem dX1_changeTolls_53 : decode cX1_changeTolls 53 = .ok (.iload_n 3, 1) := by decide +kernel
theorem dX1_changeTolls_54 : decode cX1_changeTolls 54 = .ok (.iaload, 1) := by decide +kernel
theorem dX1_changeTolls_55 : decode cX1_changeTolls 55 = .ok (.dup2, 1) := by decide +kernel
theorem dX1_changeTolls_56 : decode cX1_changeTolls 56 = .ok (.iaload, 1) := by decide +kernel
theorem dX1_changeTolls_57 : decode cX1_changeTolls 57 = .ok (.iload 4, 2) := by decide +kernel
theorem dX1_changeTolls_59 : decode cX1_changeTolls 59 = .ok (.iadd, 1) := by decide +kernel
theorem dX1_changeTolls_60 : decode cX1_changeTolls 60 = .ok (.iastore, 1) := by decide +kernel
theorem dX1_changeTolls_61 : decode cX1_changeTolls 61 = .ok (.aload_n 0, 1) := by decide +kernel
theorem dX1_changeTolls_62 : decode cX1_changeTolls 62 = .ok (.getfield 18, 3) := by decide +kernel
theorem dX1_changeTolls_65 : decode cX1_changeTolls 65 = .ok (.iload_n 3, 1) := by decide +kernel
theorem dX1_changeTolls_66 : decode cX1_changeTolls 66 = .ok (.dup2, 1) := by decide +kernel
theorem dX1_changeTolls_67 : decode cX1_changeTolls 67 = .ok (.iaload, 1) := by decide +kernel
theorem dX1_changeTolls_68 : decode cX1_changeTolls 68 = .ok (.iload 4, 2) := by decide +kernel
theorem dX1_changeTolls_70 : decode cX1_changeTolls 70 = .ok (.isub, 1) := by decide +kernel
theorem dX1_changeTolls_71 : decode cX1_changeTolls 71 = .ok (.iastore, 1) := by decide +kernel
theorem dX1_changeTolls_72 : decode cX1_changeTolls 72 = .ok (.iinc 3 1, 3) := by decide +kernel
theorem dX1_changeTolls_75 : decode cX1_changeTolls 75 = .ok (.goto (-63), 3) := by decide +kernel
theorem dX1_changeTolls_78 : decode cX1_changeTolls 78 = .ok (.return_, 1) := by decide +kernel
set_option maxRecDepth 20000 in
theorem g_X1_changeTolls_0 {G : GX} {d : Nat} {Ret : Option AV → St → Prop} {R : Nat → List AV → List AV → St → Prop} (hM : AM G wdX d mX1_changeTolls Ret R) (v1 : Int) (v2 : Int) (σ : St)
    (h : ((0 ≤ v1 ∧ v1 < 16) ∧ (r32 ((σ.1 11 (v1).toNat) + v2) ∧ (∀ τ1, τ1 = sI σ 11 (v1).toNat ((σ.1 11 (v1).toNat) + v2) → R 12 [vR 1, vN, vI v2, vI 0, vN] [] τ1)))) : R 0 [vR 1, vI v1, vI v2, vN, vN] [] σ := by
  refine r_aload_n hM (pc' := 1) dX1_changeTolls_0 rfl (x := 1) rfl ?_
  refine r_getR hM (pc' := 4) dX1_changeTolls_1 rfl fl_X1_15 wx_1 rfl ?_
  refine r_iload_n hM (pc' := 5) dX1_changeTolls_4 rfl (x := v1) rfl ?_
  refine r_dup2 hM (pc' := 6) dX1_changeTolls_5 rfl (fun _ => rfl) (fun _ => rfl) ?_
  have o1 := h.1
  have h := h.2
  refine r_iaload hM (pc' := 7) dX1_changeTolls_6 rfl wx_11 o1 ?_
  refine r_iload_n hM (pc' := 8) dX1_changeTolls_7 rfl (x := v2) rfl ?_
  have o2 := h.1
  have h := h.2
  refine r_iadd hM (pc' := 9) dX1_changeTolls_8 rfl o2 ?_
  refine r_iastore hM (pc' := 10) dX1_changeTolls_9 rfl wx_11 o1 (fun τ1 e1 => ?_)
  have h := h τ1 e1
  refine r_iconst hM (pc' := 11) dX1_changeTolls_10 rfl (by decide) ?_
  refine r_istore_n hM (pc' := 12) dX1_changeTolls_11 rfl (Nat.le_of_ble_eq_true rfl) rfl ?_
  show R 12 [vR 1, vI v1, vI v2, vI 0, vN] _ _
  refine r_weak hM (ls' := [vR 1, vN, vI v2, vI 0, vN]) ⟨Or.inl rfl, Or.inr rfl, Or.inl rfl, Or.inl rfl, Or.inl rfl, trivial⟩ ?_
  exact h
set_option maxRecDepth 20000 in
theorem g_X1_changeTolls_12 {G : GX} {d : Nat} {Ret : Option AV → St → Prop} {R : Nat → List AV → List AV → St → Prop} (hM : AM G wdX d mX1_changeTolls Ret R) (v2 : Int) (v3 : Int) (σ : St)
    (h : (((σ.1 1 6) ≤ v3 → Ret none σ) ∧ (¬ (σ.1 1 6) ≤ v3 → ((¬ (bAnd (bShr (σ.1 1 7) v3) 1) = 1 → (r32 (v3 + 1) ∧ R 12 [vR 1, vN, vI v2, vI (v3 + 1), vN] [] σ)) ∧ ((bAnd (bShr (σ.1 1 7) v3) 1) = 1 → ((0 ≤ v3 ∧ v3 < 16) ∧ (r32 (v2 - (σ.1 13 (v3).toNat)) ∧ (∀ u1, u1 = (v2 - (σ.1 13 (v3).toNat)) → ((0 ≤ (σ.1 19 (v3).toNat) ∧ (σ.1 19 (v3).toNat) < 16) ∧ (r32 ((σ.1 11 ((σ.1 19 (v3).toNat)).toNat) + u1) ∧ (∀ τ1, τ1 = sI σ 11 ((σ.1 19 (v3).toNat)).toNat ((σ.1 11 ((σ.1 19 (v3).toNat)).toNat) + u1) → (r32 ((τ1.1 12 (v3).toNat) - u1) ∧ (∀ τ2, τ2 = sI τ1 12 (v3).toNat ((τ1.1 12 (v3).toNat) - u1) → (r32 (v3 + 1) ∧ R 12 [vR 1, vN, vI v2, vI (v3 + 1), vN] [] τ2)))))))))))))) : R 12 [vR 1, vN, vI v2, vI v3, vN] [] σ := by
  refine r_iload_n hM (pc' := 13) dX1_changeTolls_12 rfl (x := v3) rfl ?_
  refine r_aload_n hM (pc' := 14) dX1_changeTolls_13 rfl (x := 1) rfl ?_
  refine r_getI hM (pc' := 17) dX1_changeTolls_14 rfl fl_X1_27 wx_1 rfl ?_
  refine r_icmp_ge hM (pc' := 20) (tgt := 78) dX1_changeTolls_17 rfl (by decide) (fun c => ?_) (fun c => ?_)
  · have h := h.1 c
    exact r_return hM dX1_changeTolls_78 rfl h
  · have h := h.2 c
    refine r_aload_n hM (pc' := 21) dX1_changeTolls_20 rfl (x := 1) rfl ?_
    refine r_getI hM (pc' := 24) dX1_changeTolls_21 rfl fl_X1_31 wx_1 rfl ?_
    refine r_iload_n hM (pc' := 25) dX1_changeTolls_24 rfl (x := v3) rfl ?_
    refine r_ishr hM (pc' := 26) dX1_changeTolls_25 rfl ?_
    refine r_iconst hM (pc' := 27) dX1_changeTolls_26 rfl (by decide) ?_
    refine r_iand hM (pc' := 28) dX1_changeTolls_27 rfl ?_
    refine r_iconst hM (pc' := 29) dX1_changeTolls_28 rfl (by decide) ?_
    refine r_icmp_ne hM (pc' := 32) (tgt := 72) dX1_changeTolls_29 rfl (by decide) (fun c => ?_) (fun c => ?_)
    · have h := h.1 c
      have o1 := h.1
      have h := h.2
      refine r_iinc hM (pc' := 75) dX1_changeTolls_72 rfl (x := v3) rfl rfl o1 ?_
      show R 75 [vR 1, vN, vI v2, vI (v3 + 1), vN] _ _
      refine r_goto hM (tgt := 12) dX1_changeTolls_75 (by decide) ?_
      exact h
    · have h := h.2 c
      refine r_iload_n hM (pc' := 33) dX1_changeTolls_32 rfl (x := v2) rfl ?_
      refine r_aload_n hM (pc' := 34) dX1_changeTolls_33 rfl (x := 1) rfl ?_
      refine r_getR hM (pc' := 37) dX1_changeTolls_34 rfl fl_X1_21 wx_1 rfl ?_
      refine r_iload_n hM (pc' := 38) dX1_changeTolls_37 rfl (x := v3) rfl ?_
      have o2 := h.1
      have h := h.2
      refine r_iaload hM (pc' := 39) dX1_changeTolls_38 rfl wx_13 o2 ?_
      have o3 := h.1
      have h := h.2
      refine r_isub hM (pc' := 40) dX1_changeTolls_39 rfl o3 ?_
      refine r_istoreN hM (pc' := 42) dX1_changeTolls_40 rfl (Nat.le_of_ble_eq_true rfl) rfl (fun u1 eu1 => ?_)
      have h := h u1 eu1
      show R 42 [vR 1, vN, vI v2, vI v3, vI u1] _ _
      refine r_aload_n hM (pc' := 43) dX1_changeTolls_42 rfl (x := 1) rfl ?_
      refine r_getR hM (pc' := 46) dX1_changeTolls_43 rfl fl_X1_15 wx_1 rfl ?_
      refine r_aload_n hM (pc' := 47) dX1_changeTolls_46 rfl (x := 1) rfl ?_
      refine r_getR hM (pc' := 50) dX1_changeTolls_47 rfl fl_X1_34 wx_1 rfl ?_
      refine r_getR hM (pc' := 53) dX1_changeTolls_50 rfl fl_X1_77 wx_3 rfl ?_
      refine r_iload_n hM (pc' := 54) dX1_changeTolls_53 rfl (x := v3) rfl ?_
      refine r_iaload hM (pc' := 55) dX1_changeTolls_54 rfl wx_19 o2 ?_
      refine r_dup2 hM (pc' := 56) dX1_changeTolls_55 rfl (fun _ => rfl) (fun _ => rfl) ?_
      have o4 := h.1
      have h := h.2
      refine r_iaload hM (pc' := 57) dX1_changeTolls_56 rfl wx_11 o4 ?_
      refine r_iload hM (pc' := 59) dX1_changeTolls_57 rfl (x := u1) rfl ?_
      have o5 := h.1
      have h := h.2
      refine r_iadd hM (pc' := 60) dX1_changeTolls_59 rfl o5 ?_
      refine r_iastore hM (pc' := 61) dX1_changeTolls_60 rfl wx_11 o4 (fun τ1 e1 => ?_)
      have h := h τ1 e1
      refine r_aload_n hM (pc' := 62) dX1_changeTolls_61 rfl (x := 1) rfl ?_
      refine r_getR hM (pc' := 65) dX1_changeTolls_62 rfl fl_X1_18 wx_1 rfl ?_
      refine r_iload_n hM (pc' := 66) dX1_changeTolls_65 rfl (x := v3) rfl ?_
      refine r_dup2 hM (pc' := 67) dX1_changeTolls_66 rfl (fun _ => rfl) (fun _ => rfl) ?_
      refine r_iaload hM (pc' := 68) dX1_changeTolls_67 rfl wx_12 o2 ?_
      refine r_iload hM (pc' := 70) dX1_changeTolls_68 rfl (x := u1) rfl ?_
      have o6 := h.1
      have h := h.2
      refine r_isub hM (pc' := 71) dX1_changeTolls_70 rfl o6 ?_
      refine r_iastore hM (pc' := 72) dX1_changeTolls_71 rfl wx_12 o2 (fun τ2 e2 => ?_)
      have h := h τ2 e2
      have o7 := h.1
      have h := h.2
      refine r_iinc hM (pc' := 75) dX1_changeTolls_72 rfl (x := v3) rfl rfl o7 ?_
      show R 75 [vR 1, vN, vI v2, vI (v3 + 1), vI u1] _ _
      refine r_goto hM (tgt := 12) dX1_changeTolls_75 (by decide) ?_
      refine r_weak hM (ls' := [vR 1, vN, vI v2, vI (v3 + 1), vN]) ⟨Or.inl rfl, Or.inl rfl, Or.inl rfl, Or.inl rfl, Or.inr rfl, trivial⟩ ?_
      exact h
theorem dX1_turnOver_0 : decode cX1_turnOver 0 = .ok (.iload_n 2, 1) := by decide +kernel
theorem dX1_turnOver_1 : decode cX1_turnOver 1 = .ok (.istore_n 3, 1) := by decide +kernel
theorem dX1_turnOver_2 : decode cX1_turnOver 2 = .ok (.iconst 0, 1) := by decide +kernel
theorem dX1_turnOver_3 : decode cX1_turnOver 3 = .ok (.istore 4, 2) := by decide +kernel
theorem dX1_turnOver_5 : decode cX1_turnOver 5 = .ok (.iload 4, 2) := by decide +kernel
theorem dX1_turnOver_7 : decode cX1_turnOver 7 = .ok (.aload_n 0, 1) := by decide +kernel
theorem dX1_turnOver_8 : decode cX1_turnOver 8 = .ok (.getfield 27, 3) := by decide +kernel
theorem dX1_turnOver_11 : decode cX1_turnOver 11 = .ok (.if_icmp .ge 55, 3) := by decide +kernel
theorem dX1_turnOver_14 : decode cX1_turnOver 14 = .ok (.aload_n 0, 1) := by decide +kernel
theorem dX1_turnOver_15 : decode cX1_turnOver 15 = .ok (.getfield 24, 3) := by decide +kernel
theorem dX1_turnOver_18 : decode cX1_turnOver 18 = .ok (.iload_n 3, 1) := by decide +kernel
theorem dX1_turnOver_19 : decode cX1_turnOver 19 = .ok (.iaload, 1) := by decide +kernel
theorem dX1_turnOver_20 : decode cX1_turnOver 20 = .ok (.istore 5, 2) := by decide +kernel
theorem dX1_turnOver_22 : decode cX1_turnOver 22 = .ok (.aload_n 0, 1) := by decide +kernel
theorem dX1_turnOver_23 : decode cX1_turnOver 23 = .ok (.getfield 34, 3) := by decide +kernel
theorem dX1_turnOver_26 : decode cX1_turnOver 26 = .ok (.getfield 86, 3) := by decide +kernel
theorem dX1_turnOver_29 : decode cX1_turnOver 29 = .ok (.iload 5, 2) := by decide +kernel
theorem dX1_turnOver_31 : decode cX1_turnOver 31 = .ok (.iaload, 1) := by decide +kernel
theorem dX1_turnOver_32 : decode cX1_turnOver 32 = .ok (.istore 6, 2) := by decide +kernel
theorem dX1_turnOver_34 : decode cX1_turnOver 34 = .ok (.aload_n 0, 1) := by decide +kernel
theorem dX1_turnOver_35 : decode cX1_turnOver 35 = .ok (.getfield 34, 3) := by decide +kernel
theorem dX1_turnOver_38 : decode cX1_turnOver 38 = .ok (.iload 5, 2) := by decide +kernel
theorem dX1_turnOver_40 : decode cX1_turnOver 40 = .ok (.iload_n 3, 1) := by decide +kernel
theorem dX1_turnOver_41 : decode cX1_turnOver 41 = .ok (.invokevirtual 89, 3) := by decide +kernel
theorem dX1_turnOver_44 : decode cX1_turnOver 44 = .ok (.iload 5, 2) := by decide +kernel
theorem dX1_turnOver_46 : decode cX1_turnOver 46 = .ok (.iload_n 1, 1) := by decide +kernel
theorem dX1_turnOver_47 : decode cX1_turnOver 47 = .ok (.if_icmp .eq 9, 3) := by decide +kernel
theorem dX1_turnOver_50 : decode cX1_turnOver 50 = .ok (.iload 6, 2) := by decide +kernel
theorem dX1_turnOver_52 : decode cX1_turnOver 52 = .ok (.iconst (-1), 1) := by decide +kernel
theorem dX1_turnOver_53 : decode cX1_turnOver 53 = .ok (.if_icmp .ne 4, 3) := by decide +kernel
theorem dX1_turnOver_56 : decode cX1_turnOver 56 = .ok (.return_, 1) := by decide +kernel
theorem dX1_turnOver_57 : decode cX1_turnOver 57 = .ok (.iload 6, 2) := by decide +kernel
theorem dX1_turnOver_59 : decode cX1_turnOver 59 = .ok (.istore_n 3, 1) := by decide +kernel
theorem dX1_turnOver_60 : decode cX1_turnOver 60 = .ok (.iinc 4 1, 3) := by decide +kernel
theorem dX1_turnOver_63 : decode cX1_turnOver 63 = .ok (.goto (-58), 3) := by decide +kernel
theorem dX1_turnOver_66 : decode cX1_turnOver 66 = .ok (.return_, 1) := by decide +kernel
set_option maxRecDepth 20000 in
theorem g_X1_turnOver_0 {G : GX} {d : Nat} {Ret : Option AV → St → Prop} {R : Nat → List AV → List AV → St → Prop} (hM : AM G wdX (d + 1) mX1_turnOver Ret R) (v1 : Int) (v2 : Int) (σ : St)
    (h : R 5 [vR 1, vI v1, vN, vI v2, vI 0, vN, vN] [] σ) : R 0 [vR 1, vI v1, vI v2, vN, vN, vN, vN] [] σ := by
  refine r_iload_n hM (pc' := 1) dX1_turnOver_0 rfl (x := v2) rfl ?_
  refine r_istore_n hM (pc' := 2) dX1_turnOver_1 rfl (Nat.le_of_ble_eq_true rfl) rfl ?_
  show R 2 [vR 1, vI v1, vI v2, vI v2, vN, vN, vN] _ _
  refine r_iconst hM (pc' := 3) dX1_turnOver_2 rfl (by decide) ?_
  refine r_istore hM (pc' := 5) dX1_turnOver_3 rfl (Nat.le_of_ble_eq_true rfl) rfl ?_
  show R 5 [vR 1, vI v1, vI v2, vI v2, vI 0, vN, vN] _ _
  refine r_weak hM (ls' := [vR 1, vI v1, vN, vI v2, vI 0, vN, vN]) ⟨Or.inl rfl, Or.inl rfl, Or.inr rfl, Or.inl rfl, Or.inl rfl, Or.inl rfl, Or.inl rfl, trivial⟩ ?_
  exact h
set_option maxRecDepth 20000 in
theorem g_X1_turnOver_5 {G : GX} {d : Nat} {Ret : Option AV → St → Prop} {R : Nat → List AV → List AV → St → Prop} (hM : AM G wdX (d + 1) mX1_turnOver Ret R) (v1 : Int) (v3 : Int) (v4 : Int) (σ : St)
    (h : (((σ.1 1 6) ≤ v4 → Ret none σ) ∧ (¬ (σ.1 1 6) ≤ v4 → ((0 ≤ v3 ∧ v3 < 16) ∧ ((0 ≤ (σ.1 14 (v3).toNat) ∧ (σ.1 14 (v3).toNat) < 16) ∧ (∀ u1, u1 = (σ.1 18 ((σ.1 14 (v3).toNat)).toNat) → conV G wdX d mX3_join [vR 3, vI (σ.1 14 (v3).toNat), vI v3] σ (fun σ1 => (((σ.1 14 (v3).toNat) = v1 → Ret none σ1) ∧ (¬ (σ.1 14 (v3).toNat) = v1 → ((¬ u1 = (-1) → (r32 (v4 + 1) ∧ R 5 [vR 1, vI v1, vN, vI u1, vI (v4 + 1), vN, vN] [] σ1)) ∧ (u1 = (-1) → Ret none σ1))))))))))) : R 5 [vR 1, vI v1, vN, vI v3, vI v4, vN, vN] [] σ := by
  refine r_iload hM (pc' := 7) dX1_turnOver_5 rfl (x := v4) rfl ?_
  refine r_aload_n hM (pc' := 8) dX1_turnOver_7 rfl (x := 1) rfl ?_
  refine r_getI hM (pc' := 11) dX1_turnOver_8 rfl fl_X1_27 wx_1 rfl ?_
  refine r_icmp_ge hM (pc' := 14) (tgt := 66) dX1_turnOver_11 rfl (by decide) (fun c => ?_) (fun c => ?_)
  · have h := h.1 c
    exact r_return hM dX1_turnOver_66 rfl h
  · have h := h.2 c
    refine r_aload_n hM (pc' := 15) dX1_turnOver_14 rfl (x := 1) rfl ?_
    refine r_getR hM (pc' := 18) dX1_turnOver_15 rfl fl_X1_24 wx_1 rfl ?_
    refine r_iload_n hM (pc' := 19) dX1_turnOver_18 rfl (x := v3) rfl ?_
    have o1 := h.1
    have h := h.2
    refine r_iaload hM (pc' := 20) dX1_turnOver_19 rfl wx_14 o1 ?_
    refine r_istore hM (pc' := 22) dX1_turnOver_20 rfl (Nat.le_of_ble_eq_true rfl) rfl ?_
    show R 22 [vR 1, vI v1, vN, vI v3, vI v4, vI (σ.1 14 (v3).toNat), vN] _ _
    refine r_aload_n hM (pc' := 23) dX1_turnOver_22 rfl (x := 1) rfl ?_
    refine r_getR hM (pc' := 26) dX1_turnOver_23 rfl fl_X1_34 wx_1 rfl ?_
    refine r_getR hM (pc' := 29) dX1_turnOver_26 rfl fl_X1_86 wx_3 rfl ?_
    refine r_iload hM (pc' := 31) dX1_turnOver_29 rfl (x := (σ.1 14 (v3).toNat)) rfl ?_
    have o2 := h.1
    have h := h.2
    refine r_iaload hM (pc' := 32) dX1_turnOver_31 rfl wx_18 o2 ?_
    refine r_istoreN hM (pc' := 34) dX1_turnOver_32 rfl (Nat.le_of_ble_eq_true rfl) rfl (fun u1 eu1 => ?_)
    have h := h u1 eu1
    show R 34 [vR 1, vI v1, vN, vI v3, vI v4, vI (σ.1 14 (v3).toNat), vI u1] _ _
    refine r_aload_n hM (pc' := 35) dX1_turnOver_34 rfl (x := 1) rfl ?_
    refine r_getR hM (pc' := 38) dX1_turnOver_35 rfl fl_X1_34 wx_1 rfl ?_
    refine r_iload hM (pc' := 40) dX1_turnOver_38 rfl (x := (σ.1 14 (v3).toNat)) rfl ?_
    refine r_iload_n hM (pc' := 41) dX1_turnOver_40 rfl (x := v3) rfl ?_
    refine r_callVV hM (pc' := 44) [vI (σ.1 14 (v3).toNat), vI v3] dX1_turnOver_41 rfl ml_X1_89 wx_3 rfl rfl (Nat.le_of_ble_eq_true rfl) (conV.mono h (fun σ1 h => ?_))
    refine r_iload hM (pc' := 46) dX1_turnOver_44 rfl (x := (σ.1 14 (v3).toNat)) rfl ?_
    refine r_iload_n hM (pc' := 47) dX1_turnOver_46 rfl (x := v1) rfl ?_
    refine r_icmp_eq hM (pc' := 50) (tgt := 56) dX1_turnOver_47 rfl (by decide) (fun c => ?_) (fun c => ?_)
    · have h := h.1 c
      exact r_return hM dX1_turnOver_56 rfl h
    · have h := h.2 c
      refine r_iload hM (pc' := 52) dX1_turnOver_50 rfl (x := u1) rfl ?_
      refine r_iconst hM (pc' := 53) dX1_turnOver_52 rfl (by decide) ?_
      refine r_icmp_ne hM (pc' := 56) (tgt := 57) dX1_turnOver_53 rfl (by decide) (fun c => ?_) (fun c => ?_)
      · have h := h.1 c
        refine r_iload hM (pc' := 59) dX1_turnOver_57 rfl (x := u1) rfl ?_
        refine r_istore_n hM (pc' := 60) dX1_turnOver_59 rfl (Nat.le_of_ble_eq_true rfl) rfl ?_
        show R 60 [vR 1, vI v1, vN, vI u1, vI v4, vI (σ.1 14 (v3).toNat), vI u1] _ _
        have o3 := h.1
        have h := h.2
        refine r_iinc hM (pc' := 63) dX1_turnOver_60 rfl (x := v4) rfl rfl o3 ?_
        show R 63 [vR 1, vI v1, vN, vI u1, vI (v4 + 1), vI (σ.1 14 (v3).toNat), vI u1] _ _
        refine r_goto hM (tgt := 5) dX1_turnOver_63 (by decide) ?_
        refine r_weak hM (ls' := [vR 1, vI v1, vN, vI u1, vI (v4 + 1), vN, vN]) ⟨Or.inl rfl, Or.inl rfl, Or.inl rfl, Or.inl rfl, Or.inl rfl, Or.inr rfl, Or.inr rfl, trivial⟩ ?_
        exact h
      · have h := h.2 c
        exact r_return hM dX1_turnOver_56 rfl h
theorem dX3_clear_0 : decode cX3_clear 0 = .ok (.aload_n 0, 1) := by decide +kernel
theorem dX3_clear_1 : decode cX3_clear 1 = .ok (.getfield 15, 3) := by decide +kernel
theorem dX3_clear_4 : decode cX3_clear 4 = .ok (.iconst (-1), 1) := by decide +kernel
theorem dX3_clear_5 : decode cX3_clear 5 = .ok (.invokestatic 28, 3) := by decide +kernel
theorem dX3_clear_8 : decode cX3_clear 8 = .ok (.aload_n 0, 1) := by decide +kernel
theorem dX3_clear_9 : decode cX3_clear 9 = .ok (.getfield 18, 3) := by decide +kernel
theorem dX3_clear_12 : decode cX3_clear 12 = .ok (.iconst (-1), 1) := by decide +kernel
theorem dX3_clear_13 : decode cX3_clear 13 = .ok (.invokestatic 28, 3) := by decide +kernel
theorem dX3_clear_16 : decode cX3_clear 16 = .ok (.aload_n 0, 1) := by decide +kernel
theorem dX3_clear_17 : decode cX3_clear 17 = .ok (.iconst 0, 1) := by decide +kernel
theorem dX3_clear_18 : decode cX3_clear 18 = .ok (.putfield 21, 3) := by decide +kernel
theorem dX3_clear_21 : decode cX3_clear 21 = .ok (.return_, 1) := by decide +kernel
set_option maxRecDepth 20000 in
theorem g_X3_clear_0 {G : GX} {d : Nat} {Ret : Option AV → St → Prop} {R : Nat → List AV → List AV → St → Prop} (hM : AM G wdX (d + 1) mX3_clear Ret R) (σ : St)
    (h : conV G wdX d mJ7_fill_53178 [vR 18, vI (-1)] σ (fun σ1 => conV G wdX d mJ7_fill_53178 [vR 19, vI (-1)] σ1 (fun σ2 => (∀ τ1, τ1 = sI σ2 3 3 0 → Ret none τ1)))) : R 0 [vR 3] [] σ := by
  refine r_aload_n hM (pc' := 1) dX3_clear_0 rfl (x := 3) rfl ?_
  refine r_getR hM (pc' := 4) dX3_clear_1 rfl fl_X3_15 wx_3 rfl ?_
  refine r_iconst hM (pc' := 5) dX3_clear_4 rfl (by decide) ?_
  refine r_callSV hM (pc' := 8) [vR 18, vI (-1)] dX3_clear_5 rfl ml_X3_28 rfl rfl (Nat.le_of_ble_eq_true rfl) (conV.mono h (fun σ1 h => ?_))
  refine r_aload_n hM (pc' := 9) dX3_clear_8 rfl (x := 3) rfl ?_
  refine r_getR hM (pc' := 12) dX3_clear_9 rfl fl_X3_18 wx_3 rfl ?_
  refine r_iconst hM (pc' := 13) dX3_clear_12 rfl (by decide) ?_
  refine r_callSV hM (pc' := 16) [vR 19, vI (-1)] dX3_clear_13 rfl ml_X3_28 rfl rfl (Nat.le_of_ble_eq_true rfl) (conV.mono h (fun σ2 h => ?_))
  refine r_aload_n hM (pc' := 17) dX3_clear_16 rfl (x := 3) rfl ?_
  refine r_iconst hM (pc' := 18) dX3_clear_17 rfl (by decide) ?_
  refine r_putI hM (pc' := 21) dX3_clear_18 rfl fp_X3_21 wx_3 rfl (fun τ1 e1 => ?_)
  have h := h τ1 e1
  exact r_return hM dX3_clear_21 rfl h
theorem dX3_join_0 : decode cX3_join 0 = .ok (.aload_n 0, 1) := by decide +kernel
theorem dX3_join_1 : decode cX3_join 1 = .ok (.getfield 15, 3) := by decide +kernel
theorem dX3_join_4 : decode cX3_join 4 = .ok (.iload_n 1, 1) := by decide +kernel
theorem dX3_join_5 : decode cX3_join 5 = .ok (.iload_n 2, 1) := by decide +kernel
theorem dX3_join_6 : decode cX3_join 6 = .ok (.iastore, 1) := by decide +kernel
theorem dX3_join_7 : decode cX3_join 7 = .ok (.aload_n 0, 1) := by decide +kernel
theorem dX3_join_8 : decode cX3_join 8 = .ok (.getfield 18, 3) := by decide +kernel
theorem dX3_join_11 : decode cX3_join 11 = .ok (.iload_n 2, 1) := by decide +kernel
theorem dX3_join_12 : decode cX3_join 12 = .ok (.iload_n 1, 1) := by decide +kernel
theorem dX3_join_13 : decode cX3_join 13 = .ok (.iastore, 1) := by decide +kernel
theorem dX3_join_14 : decode cX3_join 14 = .ok (.aload_n 0, 1) := by decide +kernel
theorem dX3_join_15 : decode cX3_join 15 = .ok (.dup, 1) := by decide +kernel
theorem dX3_join_16 : decode cX3_join 16 = .ok (.getfield 21, 3) := by decide +kernel
theorem dX3_join_19 : decode cX3_join 19 = .ok (.iconst 1, 1) := by decide +kernel
theorem dX3_join_20 : decode cX3_join 20 = .ok (.iload_n 2, 1) := by decide +kernel
theorem dX3_join_21 : decode cX3_join 21 = .ok (.ishl, 1) := by decide +kernel
theorem dX3_join_22 : decode cX3_join 22 = .ok (.ior, 1) := by decide +kernel
theorem dX3_join_23 : decode cX3_join 23 = .ok (.putfield 21, 3) := by decide +kernel
theorem dX3_join_26 : decode cX3_join 26 = .ok (.return_, 1) := by decide +kernel
set_option maxRecDepth 20000 in
theorem g_X3_join_0 {G : GX} {d : Nat} {Ret : Option AV → St → Prop} {R : Nat → List AV → List AV → St → Prop} (hM : AM G wdX d mX3_join Ret R) (v1 : Int) (v2 : Int) (σ : St)
    (h : ((0 ≤ v1 ∧ v1 < 16) ∧ (∀ τ1, τ1 = sI σ 18 (v1).toNat v2 → ((0 ≤ v2 ∧ v2 < 16) ∧ (∀ τ2, τ2 = sI τ1 19 (v2).toNat v1 → (∀ τ3, τ3 = sI τ2 3 3 (bOr (τ2.1 3 3) (bShl 1 v2)) → Ret none τ3)))))) : R 0 [vR 3, vI v1, vI v2] [] σ := by
  refine r_aload_n hM (pc' := 1) dX3_join_0 rfl (x := 3) rfl ?_
  refine r_getR hM (pc' := 4) dX3_join_1 rfl fl_X3_15 wx_3 rfl ?_
  refine r_iload_n hM (pc' := 5) dX3_join_4 rfl (x := v1) rfl ?_
  refine r_iload_n hM (pc' := 6) dX3_join_5 rfl (x := v2) rfl ?_
  have o1 := h.1
  have h := h.2
  refine r_iastore hM (pc' := 7) dX3_join_6 rfl wx_18 o1 (fun τ1 e1 => ?_)
  have h := h τ1 e1
  refine r_aload_n hM (pc' := 8) dX3_join_7 rfl (x := 3) rfl ?_
  refine r_getR hM (pc' := 11) dX3_join_8 rfl fl_X3_18 wx_3 rfl ?_
  refine r_iload_n hM (pc' := 12) dX3_join_11 rfl (x := v2) rfl ?_
  refine r_iload_n hM (pc' := 13) dX3_join_12 rfl (x := v1) rfl ?_
  have o2 := h.1
  have h := h.2
  refine r_iastore hM (pc' := 14) dX3_join_13 rfl wx_19 o2 (fun τ2 e2 => ?_)
  have h := h τ2 e2
  refine r_aload_n hM (pc' := 15) dX3_join_14 rfl (x := 3) rfl ?_
  refine r_dup hM (pc' := 16) dX3_join_15 rfl (fun _ => rfl) ?_
  refine r_getI hM (pc' := 19) dX3_join_16 rfl fl_X3_21 wx_3 rfl ?_
  refine r_iconst hM (pc' := 20) dX3_join_19 rfl (by decide) ?_
  refine r_iload_n hM (pc' := 21) dX3_join_20 rfl (x := v2) rfl ?_
  refine r_ishl hM (pc' := 22) dX3_join_21 rfl ?_
  refine r_ior hM (pc' := 23) dX3_join_22 rfl ?_
  refine r_putI hM (pc' := 26) dX3_join_23 rfl fp_X3_21 wx_3 rfl (fun τ3 e3 => ?_)
  have h := h τ3 e3
  exact r_return hM dX3_join_26 rfl h
theorem dX3_most_0 : decode cX3_most 0 = .ok (.aload_n 0, 1) := by decide +kernel
theorem dX3_most_1 : decode cX3_most 1 = .ok (.invokevirtual 34, 3) := by decide +kernel
theorem dX3_most_4 : decode cX3_most 4 = .ok (.iconst 0, 1) := by decide +kernel
theorem dX3_most_5 : decode cX3_most 5 = .ok (.istore_n 2, 1) := by decide +kernel
theorem dX3_most_6 : decode cX3_most 6 = .ok (.iconst 0, 1) := by decide +kernel
theorem dX3_most_7 : decode cX3_most 7 = .ok (.istore_n 3, 1) := by decide +kernel
theorem dX3_most_8 : decode cX3_most 8 = .ok (.iload_n 3, 1) := by decide +kernel
theorem dX3_most_9 : decode cX3_most 9 = .ok (.iload_n 1, 1) := by decide +kernel
theorem dX3_most_10 : decode cX3_most 10 = .ok (.if_icmp .ge 26, 3) := by decide +kernel
theorem dX3_most_13 : decode cX3_most 13 = .ok (.aload_n 0, 1) := by decide +kernel
theorem dX3_most_14 : decode cX3_most 14 = .ok (.iconst 0, 1) := by decide +kernel
theorem dX3_most_15 : decode cX3_most 15 = .ok (.putfield 25, 3) := by decide +kernel
theorem dX3_most_18 : decode cX3_most 18 = .ok (.aload_n 0, 1) := by decide +kernel
theorem dX3_most_19 : decode cX3_most 19 = .ok (.iload_n 3, 1) := by decide +kernel
theorem dX3_most_20 : decode cX3_most 20 = .ok (.iconst 0, 1) := by decide +kernel
theorem dX3_most_21 : decode cX3_most 21 = .ok (.invokestatic 37, 3) := by decide +kernel
theorem dX3_most_24 : decode cX3_most 24 = .ok (.ifCond .eq 6, 3) := by decide +kernel
theorem dX3_most_27 : decode cX3_most 27 = .ok (.iinc 2 1, 3) := by decide +kernel
theorem dX3_most_30 : decode cX3_most 30 = .ok (.iinc 3 1, 3) := by decide +kernel
theorem dX3_most_33 : decode cX3_most 33 = .ok (.goto (-25), 3) := by decide +kernel
theorem dX3_most_36 : decode cX3_most 36 = .ok (.iload_n 2, 1) := by decide +kernel
theorem dX3_most_37 : decode cX3_most 37 = .ok (.ireturn, 1) := by decide +kernel
set_option maxRecDepth 20000 in
theorem g_X3_most_0 {G : GX} {d : Nat} {Ret : Option AV → St → Prop} {R : Nat → List AV → List AV → St → Prop} (hM : AM G wdX (d + 1) mX3_most Ret R) (v1 : Int) (σ : St)
    (h : conV G wdX d mX3_clear [vR 3] σ (fun σ1 => R 8 [vR 3, vI v1, vI 0, vI 0] [] σ1)) : R 0 [vR 3, vI v1, vN, vN] [] σ := by
  refine r_aload_n hM (pc' := 1) dX3_most_0 rfl (x := 3) rfl ?_
  refine r_callVV hM (pc' := 4) [] dX3_most_1 rfl ml_X3_34 wx_3 rfl rfl (Nat.le_of_ble_eq_true rfl) (conV.mono h (fun σ1 h => ?_))
  refine r_iconst hM (pc' := 5) dX3_most_4 rfl (by decide) ?_
  refine r_istore_n hM (pc' := 6) dX3_most_5 rfl (Nat.le_of_ble_eq_true rfl) rfl ?_
  show R 6 [vR 3, vI v1, vI 0, vN] _ _
  refine r_iconst hM (pc' := 7) dX3_most_6 rfl (by decide) ?_
  refine r_istore_n hM (pc' := 8) dX3_most_7 rfl (Nat.le_of_ble_eq_true rfl) rfl ?_
  show R 8 [vR 3, vI v1, vI 0, vI 0] _ _
  exact h
set_option maxRecDepth 20000 in
theorem g_X3_most_8 {G : GX} {d : Nat} {Ret : Option AV → St → Prop} {R : Nat → List AV → List AV → St → Prop} (hM : AM G wdX (d + 1) mX3_most Ret R) (v1 : Int) (v2 : Int) (v3 : Int) (σ : St)
    (h : ((v1 ≤ v3 → Ret (some (vI v2)) σ) ∧ (¬ v1 ≤ v3 → (∀ τ1, τ1 = sI σ 3 4 0 → conI G wdX d mX3_seat [vR 3, vI v3, vI 0] τ1 (fun x1 σ1 => ((x1 = 0 → (r32 (v3 + 1) ∧ R 8 [vR 3, vI v1, vI v2, vI (v3 + 1)] [] σ1)) ∧ (¬ x1 = 0 → (r32 (v2 + 1) ∧ (r32 (v3 + 1) ∧ R 8 [vR 3, vI v1, vI (v2 + 1), vI (v3 + 1)] [] σ1))))))))) : R 8 [vR 3, vI v1, vI v2, vI v3] [] σ := by
  refine r_iload_n hM (pc' := 9) dX3_most_8 rfl (x := v3) rfl ?_
  refine r_iload_n hM (pc' := 10) dX3_most_9 rfl (x := v1) rfl ?_
  refine r_icmp_ge hM (pc' := 13) (tgt := 36) dX3_most_10 rfl (by decide) (fun c => ?_) (fun c => ?_)
  · have h := h.1 c
    refine r_iload_n hM (pc' := 37) dX3_most_36 rfl (x := v2) rfl ?_
    exact r_ireturn hM dX3_most_37 rfl h
  · have h := h.2 c
    refine r_aload_n hM (pc' := 14) dX3_most_13 rfl (x := 3) rfl ?_
    refine r_iconst hM (pc' := 15) dX3_most_14 rfl (by decide) ?_
    refine r_putI hM (pc' := 18) dX3_most_15 rfl fp_X3_25 wx_3 rfl (fun τ1 e1 => ?_)
    have h := h τ1 e1
    refine r_aload_n hM (pc' := 19) dX3_most_18 rfl (x := 3) rfl ?_
    refine r_iload_n hM (pc' := 20) dX3_most_19 rfl (x := v3) rfl ?_
    refine r_iconst hM (pc' := 21) dX3_most_20 rfl (by decide) ?_
    refine r_callSI hM (pc' := 24) [vR 3, vI v3, vI 0] dX3_most_21 rfl ml_X3_37 rfl rfl (Nat.le_of_ble_eq_true rfl) (conI.mono h (fun x1 σ1 h => ?_))
    refine r_if_eq hM (pc' := 27) (tgt := 30) dX3_most_24 rfl (by decide) (fun c => ?_) (fun c => ?_)
    · have h := h.1 c
      have o1 := h.1
      have h := h.2
      refine r_iinc hM (pc' := 33) dX3_most_30 rfl (x := v3) rfl rfl o1 ?_
      show R 33 [vR 3, vI v1, vI v2, vI (v3 + 1)] _ _
      refine r_goto hM (tgt := 8) dX3_most_33 (by decide) ?_
      exact h
    · have h := h.2 c
      have o2 := h.1
      have h := h.2
      refine r_iinc hM (pc' := 30) dX3_most_27 rfl (x := v2) rfl rfl o2 ?_
      show R 30 [vR 3, vI v1, vI (v2 + 1), vI v3] _ _
      have o3 := h.1
      have h := h.2
      refine r_iinc hM (pc' := 33) dX3_most_30 rfl (x := v3) rfl rfl o3 ?_
      show R 33 [vR 3, vI v1, vI (v2 + 1), vI (v3 + 1)] _ _
      refine r_goto hM (tgt := 8) dX3_most_33 (by decide) ?_
      exact h
theorem dX3_bind_0 : decode cX3_bind 0 = .ok (.aload_n 0, 1) := by decide +kernel
theorem dX3_bind_1 : decode cX3_bind 1 = .ok (.getfield 15, 3) := by decide +kernel
theorem dX3_bind_4 : decode cX3_bind 4 = .ok (.iload_n 1, 1) := by decide +kernel
theorem dX3_bind_5 : decode cX3_bind 5 = .ok (.iaload, 1) := by decide +kernel
theorem dX3_bind_6 : decode cX3_bind 6 = .ok (.istore_n 3, 1) := by decide +kernel
theorem dX3_bind_7 : decode cX3_bind 7 = .ok (.iload_n 3, 1) := by decide +kernel
theorem dX3_bind_8 : decode cX3_bind 8 = .ok (.iload_n 2, 1) := by decide +kernel
theorem dX3_bind_9 : decode cX3_bind 9 = .ok (.if_icmp .ne 14, 3) := by decide +kernel
theorem dX3_bind_12 : decode cX3_bind 12 = .ok (.aload_n 0, 1) := by decide +kernel
theorem dX3_bind_13 : decode cX3_bind 13 = .ok (.getfield 9, 3) := by decide +kernel
theorem dX3_bind_16 : decode cX3_bind 16 = .ok (.iload_n 1, 1) := by decide +kernel
theorem dX3_bind_17 : decode cX3_bind 17 = .ok (.iconst 1, 1) := by decide +kernel
theorem dX3_bind_18 : decode cX3_bind 18 = .ok (.iload_n 2, 1) := by decide +kernel
theorem dX3_bind_19 : decode cX3_bind 19 = .ok (.ishl, 1) := by decide +kernel
theorem dX3_bind_20 : decode cX3_bind 20 = .ok (.iastore, 1) := by decide +kernel
theorem dX3_bind_21 : decode cX3_bind 21 = .ok (.iconst 1, 1) := by decide +kernel
theorem dX3_bind_22 : decode cX3_bind 22 = .ok (.ireturn, 1) := by decide +kernel
theorem dX3_bind_23 : decode cX3_bind 23 = .ok (.aload_n 0, 1) := by decide +kernel
theorem dX3_bind_24 : decode cX3_bind 24 = .ok (.getfield 18, 3) := by decide +kernel
theorem dX3_bind_27 : decode cX3_bind 27 = .ok (.iload_n 2, 1) := by decide +kernel
theorem dX3_bind_28 : decode cX3_bind 28 = .ok (.iaload, 1) := by decide +kernel
theorem dX3_bind_29 : decode cX3_bind 29 = .ok (.istore 4, 2) := by decide +kernel
theorem dX3_bind_31 : decode cX3_bind 31 = .ok (.iload_n 3, 1) := by decide +kernel
theorem dX3_bind_32 : decode cX3_bind 32 = .ok (.iconst (-1), 1) := by decide +kernel
theorem dX3_bind_33 : decode cX3_bind 33 = .ok (.if_icmp .eq 9, 3) := by decide +kernel
theorem dX3_bind_36 : decode cX3_bind 36 = .ok (.iload 4, 2) := by decide +kernel
theorem dX3_bind_38 : decode cX3_bind 38 = .ok (.iconst (-1), 1) := by decide +kernel
theorem dX3_bind_39 : decode cX3_bind 39 = .ok (.if_icmp .ne 5, 3) := by decide +kernel
theorem dX3_bind_42 : decode cX3_bind 42 = .ok (.iconst 0, 1) := by decide +kernel
theorem dX3_bind_43 : decode cX3_bind 43 = .ok (.ireturn, 1) := by decide +kernel
theorem dX3_bind_44 : decode cX3_bind 44 = .ok (.aload_n 0, 1) := by decide +kernel
theorem dX3_bind_45 : decode cX3_bind 45 = .ok (.getfield 9, 3) := by decide +kernel
theorem dX3_bind_48 : decode cX3_bind 48 = .ok (.iload_n 1, 1) := by decide +kernel
theorem dX3_bind_49 : decode cX3_bind 49 = .ok (.iaload, 1) := by decide +kernel
theorem dX3_bind_50 : decode cX3_bind 50 = .ok (.istore 5, 2) := by decide +kernel
theorem dX3_bind_52 : decode cX3_bind 52 = .ok (.aload_n 0, 1) := by decide +kernel
theorem dX3_bind_53 : decode cX3_bind 53 = .ok (.getfield 9, 3) := by decide +kernel
theorem dX3_bind_56 : decode cX3_bind 56 = .ok (.iload_n 1, 1) := by decide +kernel
theorem dX3_bind_57 : decode cX3_bind 57 = .ok (.iconst 1, 1) := by decide +kernel
theorem dX3_bind_58 : decode cX3_bind 58 = .ok (.iload_n 2, 1) := by decide +kernel
theorem dX3_bind_59 : decode cX3_bind 59 = .ok (.ishl, 1) := by decide +kernel
theorem dX3_bind_60 : decode cX3_bind 60 = .ok (.iastore, 1) := by decide +kernel
theorem dX3_bind_61 : decode cX3_bind 61 = .ok (.aload_n 0, 1) := by decide +kernel
theorem dX3_bind_62 : decode cX3_bind 62 = .ok (.iload_n 1, 1) := by decide +kernel
theorem dX3_bind_63 : decode cX3_bind 63 = .ok (.iload_n 2, 1) := by decide +kernel
theorem dX3_bind_64 : decode cX3_bind 64 = .ok (.invokevirtual 41, 3) := by decide +kernel
theorem dX3_bind_67 : decode cX3_bind 67 = .ok (.aload_n 0, 1) := by decide +kernel
theorem dX3_bind_68 : decode cX3_bind 68 = .ok (.getfield 18, 3) := by decide +kernel
theorem dX3_bind_71 : decode cX3_bind 71 = .ok (.iload_n 3, 1) := by decide +kernel
theorem dX3_bind_72 : decode cX3_bind 72 = .ok (.iconst (-1), 1) := by decide +kernel
theorem dX3_bind_73 : decode cX3_bind 73 = .ok (.iastore, 1) := by decide +kernel
theorem dX3_bind_74 : decode cX3_bind 74 = .ok (.aload_n 0, 1) := by decide +kernel
theorem dX3_bind_75 : decode cX3_bind 75 = .ok (.dup, 1) := by decide +kernel
theorem dX3_bind_76 : decode cX3_bind 76 = .ok (.getfield 21, 3) := by decide +kernel
theorem dX3_bind_79 : decode cX3_bind 79 = .ok (.iconst 1, 1) := by decide +kernel
theorem dX3_bind_80 : decode cX3_bind 80 = .ok (.iload_n 3, 1) := by decide +kernel
theorem dX3_bind_81 : decode cX3_bind 81 = .ok (.ishl, 1) := by decide +kernel
theorem dX3_bind_82 : decode cX3_bind 82 = .ok (.iconst (-1), 1) := by decide +kernel
theorem dX3_bind_83 : decode cX3_bind 83 = .ok (.ixor, 1) := by decide +kernel
theorem dX3_bind_84 : decode cX3_bind 84 = .ok (.iand, 1) := by decide +kernel
theorem dX3_bind_85 : decode cX3_bind 85 = .ok (.putfield 21, 3) := by decide +kernel
theorem dX3_bind_88 : decode cX3_bind 88 = .ok (.aload_n 0, 1) := by decide +kernel
theorem dX3_bind_89 : decode cX3_bind 89 = .ok (.iconst 0, 1) := by decide +kernel
theorem dX3_bind_90 : decode cX3_bind 90 = .ok (.putfield 25, 3) := by decide +kernel
theorem dX3_bind_93 : decode cX3_bind 93 = .ok (.aload_n 0, 1) := by decide +kernel
theorem dX3_bind_94 : decode cX3_bind 94 = .ok (.iload 4, 2) := by decide +kernel
theorem dX3_bind_96 : decode cX3_bind 96 = .ok (.iconst 0, 1) := by decide +kernel
theorem dX3_bind_97 : decode cX3_bind 97 = .ok (.invokestatic 37, 3) := by decide +kernel
theorem dX3_bind_100 : decode cX3_bind 100 = .ok (.ifCond .eq 5, 3) := by decide +kernel
theorem dX3_bind_103 : decode cX3_bind 103 = .ok (.iconst 1, 1) := by decide +kernel
theorem dX3_bind_104 : decode cX3_bind 104 = .ok (.ireturn, 1) := by decide +kernel
theorem dX3_bind_105 : decode cX3_bind 105 = .ok (.aload_n 0, 1) := by decide +kernel
theorem dX3_bind_106 : decode cX3_bind 106 = .ok (.getfield 9, 3) := by decide +kernel
theorem dX3_bind_109 : decode cX3_bind 109 = .ok (.iload_n 1, 1) := by decide +kernel
theorem dX3_bind_110 : decode cX3_bind 110 = .ok (.iload 5, 2) := by decide +kernel
theorem dX3_bind_112 : decode cX3_bind 112 = .ok (.iastore, 1) := by decide +kernel
theorem dX3_bind_113 : decode cX3_bind 113 = .ok (.aload_n 0, 1) := by decide +kernel
theorem dX3_bind_114 : decode cX3_bind 114 = .ok (.iload_n 1, 1) := by decide +kernel
theorem dX3_bind_115 : decode cX3_bind 115 = .ok (.iload_n 3, 1) := by decide +kernel
theorem dX3_bind_116 : decode cX3_bind 116 = .ok (.invokevirtual 41, 3) := by decide +kernel
theorem dX3_bind_119 : decode cX3_bind 119 = .ok (.aload_n 0, 1) := by decide +kernel
theorem dX3_bind_120 : decode cX3_bind 120 = .ok (.iload 4, 2) := by decide +kernel
theorem dX3_bind_122 : decode cX3_bind 122 = .ok (.iload_n 2, 1) := by decide +kernel
theorem dX3_bind_123 : decode cX3_bind 123 = .ok (.invokevirtual 41, 3) := by decide +kernel
theorem dX3_bind_126 : decode cX3_bind 126 = .ok (.iconst 0, 1) := by decide +kernel
theorem dX3_bind_127 : decode cX3_bind 127 = .ok (.ireturn, 1) := by decide +kernel
set_option maxRecDepth 20000 in
theorem g_X3_bind_0 {G : GX} {d : Nat} {Ret : Option AV → St → Prop} {R : Nat → List AV → List AV → St → Prop} (hM : AM G wdX (d + 1) mX3_bind Ret R) (v1 : Int) (v2 : Int) (σ : St)
    (h : ((0 ≤ v1 ∧ v1 < 16) ∧ ((¬ (σ.1 18 (v1).toNat) = v2 → ((0 ≤ v2 ∧ v2 < 16) ∧ (((σ.1 18 (v1).toNat) = (-1) → Ret (some (vI 0)) σ) ∧ (¬ (σ.1 18 (v1).toNat) = (-1) → ((¬ (σ.1 19 (v2).toNat) = (-1) → (∀ τ1, τ1 = sI σ 17 (v1).toNat (bShl 1 v2) → conV G wdX d mX3_join [vR 3, vI v1, vI v2] τ1 (fun σ1 => ((0 ≤ (σ.1 18 (v1).toNat) ∧ (σ.1 18 (v1).toNat) < 16) ∧ (∀ τ2, τ2 = sI σ1 19 ((σ.1 18 (v1).toNat)).toNat (-1) → (∀ τ3, τ3 = sI τ2 3 3 (bAnd (τ2.1 3 3) (bXor (bShl 1 (σ.1 18 (v1).toNat)) (-1))) → (∀ τ4, τ4 = sI τ3 3 4 0 → conI G wdX d mX3_seat [vR 3, vI (σ.1 19 (v2).toNat), vI 0] τ4 (fun x2 σ2 => ((x2 = 0 → (∀ τ5, τ5 = sI σ2 17 (v1).toNat (σ.1 17 (v1).toNat) → conV G wdX d mX3_join [vR 3, vI v1, vI (σ.1 18 (v1).toNat)] τ5 (fun σ3 => conV G wdX d mX3_join [vR 3, vI (σ.1 19 (v2).toNat), vI v2] σ3 (fun σ4 => Ret (some (vI 0)) σ4)))) ∧ (¬ x2 = 0 → Ret (some (vI 1)) σ2)))))))))) ∧ ((σ.1 19 (v2).toNat) = (-1) → Ret (some (vI 0)) σ)))))) ∧ ((σ.1 18 (v1).toNat) = v2 → (∀ τ6, τ6 = sI σ 17 (v1).toNat (bShl 1 v2) → Ret (some (vI 1)) τ6))))) : R 0 [vR 3, vI v1, vI v2, vN, vN, vN] [] σ := by
  refine r_aload_n hM (pc' := 1) dX3_bind_0 rfl (x := 3) rfl ?_
  refine r_getR hM (pc' := 4) dX3_bind_1 rfl fl_X3_15 wx_3 rfl ?_
  refine r_iload_n hM (pc' := 5) dX3_bind_4 rfl (x := v1) rfl ?_
  have o1 := h.1
  have h := h.2
  refine r_iaload hM (pc' := 6) dX3_bind_5 rfl wx_18 o1 ?_
  refine r_istore_n hM (pc' := 7) dX3_bind_6 rfl (Nat.le_of_ble_eq_true rfl) rfl ?_
  show R 7 [vR 3, vI v1, vI v2, vI (σ.1 18 (v1).toNat), vN, vN] _ _
  refine r_iload_n hM (pc' := 8) dX3_bind_7 rfl (x := (σ.1 18 (v1).toNat)) rfl ?_
  refine r_iload_n hM (pc' := 9) dX3_bind_8 rfl (x := v2) rfl ?_
  refine r_icmp_ne hM (pc' := 12) (tgt := 23) dX3_bind_9 rfl (by decide) (fun c => ?_) (fun c => ?_)
  · have h := h.1 c
    refine r_aload_n hM (pc' := 24) dX3_bind_23 rfl (x := 3) rfl ?_
    refine r_getR hM (pc' := 27) dX3_bind_24 rfl fl_X3_18 wx_3 rfl ?_
    refine r_iload_n hM (pc' := 28) dX3_bind_27 rfl (x := v2) rfl ?_
    have o2 := h.1
    have h := h.2
    refine r_iaload hM (pc' := 29) dX3_bind_28 rfl wx_19 o2 ?_
    refine r_istore hM (pc' := 31) dX3_bind_29 rfl (Nat.le_of_ble_eq_true rfl) rfl ?_
    show R 31 [vR 3, vI v1, vI v2, vI (σ.1 18 (v1).toNat), vI (σ.1 19 (v2).toNat), vN] _ _
    refine r_iload_n hM (pc' := 32) dX3_bind_31 rfl (x := (σ.1 18 (v1).toNat)) rfl ?_
    refine r_iconst hM (pc' := 33) dX3_bind_32 rfl (by decide) ?_
    refine r_icmp_eq hM (pc' := 36) (tgt := 42) dX3_bind_33 rfl (by decide) (fun c => ?_) (fun c => ?_)
    · have h := h.1 c
      refine r_iconst hM (pc' := 43) dX3_bind_42 rfl (by decide) ?_
      exact r_zreturn hM dX3_bind_43 rfl (by decide) h
    · have h := h.2 c
      refine r_iload hM (pc' := 38) dX3_bind_36 rfl (x := (σ.1 19 (v2).toNat)) rfl ?_
      refine r_iconst hM (pc' := 39) dX3_bind_38 rfl (by decide) ?_
      refine r_icmp_ne hM (pc' := 42) (tgt := 44) dX3_bind_39 rfl (by decide) (fun c => ?_) (fun c => ?_)
      · have h := h.1 c
        refine r_aload_n hM (pc' := 45) dX3_bind_44 rfl (x := 3) rfl ?_
        refine r_getR hM (pc' := 48) dX3_bind_45 rfl fl_X3_9 wx_3 rfl ?_
        refine r_iload_n hM (pc' := 49) dX3_bind_48 rfl (x := v1) rfl ?_
        refine r_iaload hM (pc' := 50) dX3_bind_49 rfl wx_17 o1 ?_
        refine r_istore hM (pc' := 52) dX3_bind_50 rfl (Nat.le_of_ble_eq_true rfl) rfl ?_
        show R 52 [vR 3, vI v1, vI v2, vI (σ.1 18 (v1).toNat), vI (σ.1 19 (v2).toNat), vI (σ.1 17 (v1).toNat)] _ _
        refine r_aload_n hM (pc' := 53) dX3_bind_52 rfl (x := 3) rfl ?_
        refine r_getR hM (pc' := 56) dX3_bind_53 rfl fl_X3_9 wx_3 rfl ?_
        refine r_iload_n hM (pc' := 57) dX3_bind_56 rfl (x := v1) rfl ?_
        refine r_iconst hM (pc' := 58) dX3_bind_57 rfl (by decide) ?_
        refine r_iload_n hM (pc' := 59) dX3_bind_58 rfl (x := v2) rfl ?_
        refine r_ishl hM (pc' := 60) dX3_bind_59 rfl ?_
        refine r_iastore hM (pc' := 61) dX3_bind_60 rfl wx_17 o1 (fun τ1 e1 => ?_)
        have h := h τ1 e1
        refine r_aload_n hM (pc' := 62) dX3_bind_61 rfl (x := 3) rfl ?_
        refine r_iload_n hM (pc' := 63) dX3_bind_62 rfl (x := v1) rfl ?_
        refine r_iload_n hM (pc' := 64) dX3_bind_63 rfl (x := v2) rfl ?_
        refine r_callVV hM (pc' := 67) [vI v1, vI v2] dX3_bind_64 rfl ml_X3_41 wx_3 rfl rfl (Nat.le_of_ble_eq_true rfl) (conV.mono h (fun σ1 h => ?_))
        refine r_aload_n hM (pc' := 68) dX3_bind_67 rfl (x := 3) rfl ?_
        refine r_getR hM (pc' := 71) dX3_bind_68 rfl fl_X3_18 wx_3 rfl ?_
        refine r_iload_n hM (pc' := 72) dX3_bind_71 rfl (x := (σ.1 18 (v1).toNat)) rfl ?_
        refine r_iconst hM (pc' := 73) dX3_bind_72 rfl (by decide) ?_
        have o3 := h.1
        have h := h.2
        refine r_iastore hM (pc' := 74) dX3_bind_73 rfl wx_19 o3 (fun τ2 e2 => ?_)
        have h := h τ2 e2
        refine r_aload_n hM (pc' := 75) dX3_bind_74 rfl (x := 3) rfl ?_
        refine r_dup hM (pc' := 76) dX3_bind_75 rfl (fun _ => rfl) ?_
        refine r_getI hM (pc' := 79) dX3_bind_76 rfl fl_X3_21 wx_3 rfl ?_
        refine r_iconst hM (pc' := 80) dX3_bind_79 rfl (by decide) ?_
        refine r_iload_n hM (pc' := 81) dX3_bind_80 rfl (x := (σ.1 18 (v1).toNat)) rfl ?_
        refine r_ishl hM (pc' := 82) dX3_bind_81 rfl ?_
        refine r_iconst hM (pc' := 83) dX3_bind_82 rfl (by decide) ?_
        refine r_ixor hM (pc' := 84) dX3_bind_83 rfl ?_
        refine r_iand hM (pc' := 85) dX3_bind_84 rfl ?_
        refine r_putI hM (pc' := 88) dX3_bind_85 rfl fp_X3_21 wx_3 rfl (fun τ3 e3 => ?_)
        have h := h τ3 e3
        refine r_aload_n hM (pc' := 89) dX3_bind_88 rfl (x := 3) rfl ?_
        refine r_iconst hM (pc' := 90) dX3_bind_89 rfl (by decide) ?_
        refine r_putI hM (pc' := 93) dX3_bind_90 rfl fp_X3_25 wx_3 rfl (fun τ4 e4 => ?_)
        have h := h τ4 e4
        refine r_aload_n hM (pc' := 94) dX3_bind_93 rfl (x := 3) rfl ?_
        refine r_iload hM (pc' := 96) dX3_bind_94 rfl (x := (σ.1 19 (v2).toNat)) rfl ?_
        refine r_iconst hM (pc' := 97) dX3_bind_96 rfl (by decide) ?_
        refine r_callSI hM (pc' := 100) [vR 3, vI (σ.1 19 (v2).toNat), vI 0] dX3_bind_97 rfl ml_X3_37 rfl rfl (Nat.le_of_ble_eq_true rfl) (conI.mono h (fun x2 σ2 h => ?_))
        refine r_if_eq hM (pc' := 103) (tgt := 105) dX3_bind_100 rfl (by decide) (fun c => ?_) (fun c => ?_)
        · have h := h.1 c
          refine r_aload_n hM (pc' := 106) dX3_bind_105 rfl (x := 3) rfl ?_
          refine r_getR hM (pc' := 109) dX3_bind_106 rfl fl_X3_9 wx_3 rfl ?_
          refine r_iload_n hM (pc' := 110) dX3_bind_109 rfl (x := v1) rfl ?_
          refine r_iload hM (pc' := 112) dX3_bind_110 rfl (x := (σ.1 17 (v1).toNat)) rfl ?_
          refine r_iastore hM (pc' := 113) dX3_bind_112 rfl wx_17 o1 (fun τ5 e5 => ?_)
          have h := h τ5 e5
          refine r_aload_n hM (pc' := 114) dX3_bind_113 rfl (x := 3) rfl ?_
          refine r_iload_n hM (pc' := 115) dX3_bind_114 rfl (x := v1) rfl ?_
          refine r_iload_n hM (pc' := 116) dX3_bind_115 rfl (x := (σ.1 18 (v1).toNat)) rfl ?_
          refine r_callVV hM (pc' := 119) [vI v1, vI (σ.1 18 (v1).toNat)] dX3_bind_116 rfl ml_X3_41 wx_3 rfl rfl (Nat.le_of_ble_eq_true rfl) (conV.mono h (fun σ3 h => ?_))
          refine r_aload_n hM (pc' := 120) dX3_bind_119 rfl (x := 3) rfl ?_
          refine r_iload hM (pc' := 122) dX3_bind_120 rfl (x := (σ.1 19 (v2).toNat)) rfl ?_
          refine r_iload_n hM (pc' := 123) dX3_bind_122 rfl (x := v2) rfl ?_
          refine r_callVV hM (pc' := 126) [vI (σ.1 19 (v2).toNat), vI v2] dX3_bind_123 rfl ml_X3_41 wx_3 rfl rfl (Nat.le_of_ble_eq_true rfl) (conV.mono h (fun σ4 h => ?_))
          refine r_iconst hM (pc' := 127) dX3_bind_126 rfl (by decide) ?_
          exact r_zreturn hM dX3_bind_127 rfl (by decide) h
        · have h := h.2 c
          refine r_iconst hM (pc' := 104) dX3_bind_103 rfl (by decide) ?_
          exact r_zreturn hM dX3_bind_104 rfl (by decide) h
      · have h := h.2 c
        refine r_iconst hM (pc' := 43) dX3_bind_42 rfl (by decide) ?_
        exact r_zreturn hM dX3_bind_43 rfl (by decide) h
  · have h := h.2 c
    refine r_aload_n hM (pc' := 13) dX3_bind_12 rfl (x := 3) rfl ?_
    refine r_getR hM (pc' := 16) dX3_bind_13 rfl fl_X3_9 wx_3 rfl ?_
    refine r_iload_n hM (pc' := 17) dX3_bind_16 rfl (x := v1) rfl ?_
    refine r_iconst hM (pc' := 18) dX3_bind_17 rfl (by decide) ?_
    refine r_iload_n hM (pc' := 19) dX3_bind_18 rfl (x := v2) rfl ?_
    refine r_ishl hM (pc' := 20) dX3_bind_19 rfl ?_
    refine r_iastore hM (pc' := 21) dX3_bind_20 rfl wx_17 o1 (fun τ6 e6 => ?_)
    have h := h τ6 e6
    refine r_iconst hM (pc' := 22) dX3_bind_21 rfl (by decide) ?_
    exact r_zreturn hM dX3_bind_22 rfl (by decide) h
theorem dX3_seat_0 : decode cX3_seat 0 = .ok (.iload_n 2, 1) := by decide +kernel
theorem dX3_seat_1 : decode cX3_seat 1 = .ok (.bipush 16, 2) := by decide +kernel
theorem dX3_seat_3 : decode cX3_seat 3 = .ok (.if_icmp .le 5, 3) := by decide +kernel
theorem dX3_seat_6 : decode cX3_seat 6 = .ok (.iconst 0, 1) := by decide +kernel
theorem dX3_seat_7 : decode cX3_seat 7 = .ok (.ireturn, 1) := by decide +kernel
theorem dX3_seat_8 : decode cX3_seat 8 = .ok (.iconst 0, 1) := by decide +kernel
theorem dX3_seat_9 : decode cX3_seat 9 = .ok (.istore_n 3, 1) := by decide +kernel
theorem dX3_seat_10 : decode cX3_seat 10 = .ok (.iload_n 3, 1) := by decide +kernel
theorem dX3_seat_11 : decode cX3_seat 11 = .ok (.bipush 16, 2) := by decide +kernel
theorem dX3_seat_13 : decode cX3_seat 13 = .ok (.if_icmp .ge 103, 3) := by decide +kernel
theorem dX3_seat_16 : decode cX3_seat 16 = .ok (.aload_n 0, 1) := by decide +kernel
theorem dX3_seat_17 : decode cX3_seat 17 = .ok (.getfield 9, 3) := by decide +kernel
theorem dX3_seat_20 : decode cX3_seat 20 = .ok (.iload_n 1, 1) := by decide +kernel
theorem dX3_seat_21 : decode cX3_seat 21 = .ok (.iaload, 1) := by decide +kernel
theorem dX3_seat_22 : decode cX3_seat 22 = .ok (.aload_n 0, 1) := by decide +kernel
theorem dX3_seat_23 : decode cX3_seat 23 = .ok (.getfield 25, 3) := by decide +kernel
theorem dX3_seat_26 : decode cX3_seat 26 = .ok (.iconst (-1), 1) := by decide +kernel
theorem dX3_seat_27 : decode cX3_seat 27 = .ok (.ixor, 1) := by decide +kernel
theorem dX3_seat_28 : decode cX3_seat 28 = .ok (.iand, 1) := by decide +kernel
theorem dX3_seat_29 : decode cX3_seat 29 = .ok (.istore 4, 2) := by decide +kernel
theorem dX3_seat_31 : decode cX3_seat 31 = .ok (.iload 4, 2) := by decide +kernel
theorem dX3_seat_33 : decode cX3_seat 33 = .ok (.ifCond .ne 5, 3) := by decide +kernel
theorem dX3_seat_36 : decode cX3_seat 36 = .ok (.iconst 0, 1) := by decide +kernel
theorem dX3_seat_37 : decode cX3_seat 37 = .ok (.ireturn, 1) := by decide +kernel
theorem dX3_seat_38 : decode cX3_seat 38 = .ok (.iload 4, 2) := by decide +kernel
theorem dX3_seat_40 : decode cX3_seat 40 = .ok (.aload_n 0, 1) := by decide +kernel
theorem dX3_seat_41 : decode cX3_seat 41 = .ok (.getfield 21, 3) := by decide +kernel
theorem dX3_seat_44 : decode cX3_seat 44 = .ok (.iconst (-1), 1) := by decide +kernel
theorem dX3_seat_45 : decode cX3_seat 45 = .ok (.ixor, 1) := by decide +kernel
theorem dX3_seat_46 : decode cX3_seat 46 = .ok (.iand, 1) := by decide +kernel
theorem dX3_seat_47 : decode cX3_seat 47 = .ok (.istore 5, 2) := by decide +kernel
theorem dX3_seat_49 : decode cX3_seat 49 = .ok (.iload 5, 2) := by decide +kernel
theorem dX3_seat_51 : decode cX3_seat 51 = .ok (.ifCond .eq 8, 3) := by decide +kernel
theorem dX3_seat_54 : decode cX3_seat 54 = .ok (.iload 5, 2) := by decide +kernel
theorem dX3_seat_56 : decode cX3_seat 56 = .ok (.goto 5, 3) := by decide +kernel
theorem dX3_seat_59 : decode cX3_seat 59 = .ok (.iload 4, 2) := by decide +kernel
theorem dX3_seat_61 : decode cX3_seat 61 = .ok (.invokestatic 45, 3) := by decide +kernel
theorem dX3_seat_64 : decode cX3_seat 64 = .ok (.istore 6, 2) := by decide +kernel
theorem dX3_seat_66 : decode cX3_seat 66 = .ok (.aload_n 0, 1) := by decide +kernel
theorem dX3_seat_67 : decode cX3_seat 67 = .ok (.dup, 1) := by decide +kernel
theorem dX3_seat_68 : decode cX3_seat 68 = .ok (.getfield 25, 3) := by decide +kernel
theorem dX3_seat_71 : decode cX3_seat 71 = .ok (.iconst 1, 1) := by decide +kernel
theorem dX3_seat_72 : decode cX3_seat 72 = .ok (.iload 6, 2) := by decide +kernel
theorem dX3_seat_74 : decode cX3_seat 74 = .ok (.ishl, 1) := by decide +kernel
theorem dX3_seat_75 : decode cX3_seat 75 = .ok (.ior, 1) := by decide +kernel
theorem dX3_seat_76 : decode cX3_seat 76 = .ok (.putfield 25, 3) := by decide +kernel
theorem dX3_seat_79 : decode cX3_seat 79 = .ok (.iload 5, 2) := by decide +kernel
theorem dX3_seat_81 : decode cX3_seat 81 = .ok (.ifCond .ne 20, 3) := by decide +kernel
theorem dX3_seat_84 : decode cX3_seat 84 = .ok (.aload_n 0, 1) := by decide +kernel
theorem dX3_seat_85 : decode cX3_seat 85 = .ok (.aload_n 0, 1) := by decide +kernel
theorem dX3_seat_86 : decode cX3_seat 86 = .ok (.getfield 18, 3) := by decide +kernel
theorem dX3_seat_89 : decode cX3_seat 89 = .ok (.iload 6, 2) := by decide +kernel
theorem dX3_seat_91 : decode cX3_seat 91 = .ok (.iaload, 1) := by decide +kernel
theorem dX3_seat_92 : decode cX3_seat 92 = .ok (.iload_n 2, 1) := by decide +kernel
theorem dX3_seat_93 : decode cX3_seat 93 = .ok (.iconst 1, 1) := by decide +kernel
theorem dX3_seat_94 : decode cX3_seat 94 = .ok (.iadd, 1) := by decide +kernel
theorem dX3_seat_95 : decode cX3_seat 95 = .ok (.invokestatic 37, 3) := by decide +kernel
theorem dX3_seat_98 : decode cX3_seat 98 = .ok (.ifCond .eq 12, 3) := by decide +kernel
theorem dX3_seat_101 : decode cX3_seat 101 = .ok (.aload_n 0, 1) := by decide +kernel
theorem dX3_seat_102 : decode cX3_seat 102 = .ok (.iload_n 1, 1) := by decide +kernel
theorem dX3_seat_103 : decode cX3_seat 103 = .ok (.iload 6, 2) := by decide +kernel
theorem dX3_seat_105 : decode cX3_seat 105 = .ok (.invokevirtual 41, 3) := by decide +kernel
theorem dX3_seat_108 : decode cX3_seat 108 = .ok (.iconst 1, 1) := by decide +kernel
theorem dX3_seat_109 : decode cX3_seat 109 = .ok (.ireturn, 1) := by decide +kernel
theorem dX3_seat_110 : decode cX3_seat 110 = .ok (.iinc 3 1, 3) := by decide +kernel
theorem dX3_seat_113 : decode cX3_seat 113 = .ok (.goto (-103), 3) := by decide +kernel
theorem dX3_seat_116 : decode cX3_seat 116 = .ok (.iconst 0, 1) := by decide +kernel
theorem dX3_seat_117 : decode cX3_seat 117 = .ok (.ireturn, 1) := by decide +kernel
set_option maxRecDepth 20000 in
theorem g_X3_seat_0 {G : GX} {d : Nat} {Ret : Option AV → St → Prop} {R : Nat → List AV → List AV → St → Prop} (hM : AM G wdX (d + 1) mX3_seat Ret R) (v1 : Int) (v2 : Int) (σ : St)
    (h : ((v2 ≤ 16 → R 10 [vR 3, vI v1, vI v2, vI 0, vN, vN, vN] [] σ) ∧ (¬ v2 ≤ 16 → Ret (some (vI 0)) σ))) : R 0 [vR 3, vI v1, vI v2, vN, vN, vN, vN] [] σ := by
  refine r_iload_n hM (pc' := 1) dX3_seat_0 rfl (x := v2) rfl ?_
  refine r_bipush hM (pc' := 3) dX3_seat_1 rfl (by decide) (by decide) ?_
  refine r_icmp_le hM (pc' := 6) (tgt := 8) dX3_seat_3 rfl (by decide) (fun c => ?_) (fun c => ?_)
  · have h := h.1 c
    refine r_iconst hM (pc' := 9) dX3_seat_8 rfl (by decide) ?_
    refine r_istore_n hM (pc' := 10) dX3_seat_9 rfl (Nat.le_of_ble_eq_true rfl) rfl ?_
    show R 10 [vR 3, vI v1, vI v2, vI 0, vN, vN, vN] _ _
    exact h
  · have h := h.2 c
    refine r_iconst hM (pc' := 7) dX3_seat_6 rfl (by decide) ?_
    exact r_zreturn hM dX3_seat_7 rfl (by decide) h
set_option maxRecDepth 20000 in
theorem g_X3_seat_10 {G : GX} {d : Nat} {Ret : Option AV → St → Prop} {R : Nat → List AV → List AV → St → Prop} (hM : AM G wdX (d + 1) mX3_seat Ret R) (v1 : Int) (v2 : Int) (v3 : Int) (σ : St)
    (h : ((16 ≤ v3 → Ret (some (vI 0)) σ) ∧ (¬ 16 ≤ v3 → ((0 ≤ v1 ∧ v1 < 16) ∧ (∀ u1, u1 = (bAnd (σ.1 17 (v1).toNat) (bXor (σ.1 3 4) (-1))) → ((¬ u1 = 0 → (∀ u2, u2 = (bAnd u1 (bXor (σ.1 3 3) (-1))) → ((u2 = 0 → R 61 [vR 3, vI v1, vI v2, vI v3, vN, vI u2, vN] [vI u1] σ) ∧ (¬ u2 = 0 → R 61 [vR 3, vI v1, vI v2, vI v3, vN, vI u2, vN] [vI u2] σ)))) ∧ (u1 = 0 → Ret (some (vI 0)) σ))))))) : R 10 [vR 3, vI v1, vI v2, vI v3, vN, vN, vN] [] σ := by
  refine r_iload_n hM (pc' := 11) dX3_seat_10 rfl (x := v3) rfl ?_
  refine r_bipush hM (pc' := 13) dX3_seat_11 rfl (by decide) (by decide) ?_
  refine r_icmp_ge hM (pc' := 16) (tgt := 116) dX3_seat_13 rfl (by decide) (fun c => ?_) (fun c => ?_)
  · have h := h.1 c
    refine r_iconst hM (pc' := 117) dX3_seat_116 rfl (by decide) ?_
    exact r_zreturn hM dX3_seat_117 rfl (by decide) h
  · have h := h.2 c
    refine r_aload_n hM (pc' := 17) dX3_seat_16 rfl (x := 3) rfl ?_
    refine r_getR hM (pc' := 20) dX3_seat_17 rfl fl_X3_9 wx_3 rfl ?_
    refine r_iload_n hM (pc' := 21) dX3_seat_20 rfl (x := v1) rfl ?_
    have o1 := h.1
    have h := h.2
    refine r_iaload hM (pc' := 22) dX3_seat_21 rfl wx_17 o1 ?_
    refine r_aload_n hM (pc' := 23) dX3_seat_22 rfl (x := 3) rfl ?_
    refine r_getI hM (pc' := 26) dX3_seat_23 rfl fl_X3_25 wx_3 rfl ?_
    refine r_iconst hM (pc' := 27) dX3_seat_26 rfl (by decide) ?_
    refine r_ixor hM (pc' := 28) dX3_seat_27 rfl ?_
    refine r_iand hM (pc' := 29) dX3_seat_28 rfl ?_
    refine r_istoreN hM (pc' := 31) dX3_seat_29 rfl (Nat.le_of_ble_eq_true rfl) rfl (fun u1 eu1 => ?_)
    have h := h u1 eu1
    show R 31 [vR 3, vI v1, vI v2, vI v3, vI u1, vN, vN] _ _
    refine r_iload hM (pc' := 33) dX3_seat_31 rfl (x := u1) rfl ?_
    refine r_if_ne hM (pc' := 36) (tgt := 38) dX3_seat_33 rfl (by decide) (fun c => ?_) (fun c => ?_)
    · have h := h.1 c
      refine r_iload hM (pc' := 40) dX3_seat_38 rfl (x := u1) rfl ?_
      refine r_aload_n hM (pc' := 41) dX3_seat_40 rfl (x := 3) rfl ?_
      refine r_getI hM (pc' := 44) dX3_seat_41 rfl fl_X3_21 wx_3 rfl ?_
      refine r_iconst hM (pc' := 45) dX3_seat_44 rfl (by decide) ?_
      refine r_ixor hM (pc' := 46) dX3_seat_45 rfl ?_
      refine r_iand hM (pc' := 47) dX3_seat_46 rfl ?_
      refine r_istoreN hM (pc' := 49) dX3_seat_47 rfl (Nat.le_of_ble_eq_true rfl) rfl (fun u2 eu2 => ?_)
      have h := h u2 eu2
      show R 49 [vR 3, vI v1, vI v2, vI v3, vI u1, vI u2, vN] _ _
      refine r_iload hM (pc' := 51) dX3_seat_49 rfl (x := u2) rfl ?_
      refine r_if_eq hM (pc' := 54) (tgt := 59) dX3_seat_51 rfl (by decide) (fun c => ?_) (fun c => ?_)
      · have h := h.1 c
        refine r_iload hM (pc' := 61) dX3_seat_59 rfl (x := u1) rfl ?_
        refine r_weak hM (ls' := [vR 3, vI v1, vI v2, vI v3, vN, vI u2, vN]) ⟨Or.inl rfl, Or.inl rfl, Or.inl rfl, Or.inl rfl, Or.inr rfl, Or.inl rfl, Or.inl rfl, trivial⟩ ?_
        exact h
      · have h := h.2 c
        refine r_iload hM (pc' := 56) dX3_seat_54 rfl (x := u2) rfl ?_
        refine r_goto hM (tgt := 61) dX3_seat_56 (by decide) ?_
        refine r_weak hM (ls' := [vR 3, vI v1, vI v2, vI v3, vN, vI u2, vN]) ⟨Or.inl rfl, Or.inl rfl, Or.inl rfl, Or.inl rfl, Or.inr rfl, Or.inl rfl, Or.inl rfl, trivial⟩ ?_
        exact h
    · have h := h.2 c
      refine r_iconst hM (pc' := 37) dX3_seat_36 rfl (by decide) ?_
      exact r_zreturn hM dX3_seat_37 rfl (by decide) h
set_option maxRecDepth 20000 in
theorem g_X3_seat_61 {G : GX} {d : Nat} {Ret : Option AV → St → Prop} {R : Nat → List AV → List AV → St → Prop} (hM : AM G wdX (d + 1) mX3_seat Ret R) (v1 : Int) (v2 : Int) (v3 : Int) (v5 : Int) (w0 : Int) (σ : St)
    (h : conI G wdX d mX9_lowest [vI w0] σ (fun x1 σ1 => (∀ τ1, τ1 = sI σ1 3 4 (bOr (σ1.1 3 4) (bShl 1 x1)) → ((¬ v5 = 0 → conV G wdX d mX3_join [vR 3, vI v1, vI x1] τ1 (fun σ2 => Ret (some (vI 1)) σ2)) ∧ (v5 = 0 → ((0 ≤ x1 ∧ x1 < 16) ∧ (r32 (v2 + 1) ∧ conI G wdX d mX3_seat [vR 3, vI (τ1.1 19 (x1).toNat), vI (v2 + 1)] τ1 (fun x3 σ3 => ((x3 = 0 → (r32 (v3 + 1) ∧ R 10 [vR 3, vI v1, vI v2, vI (v3 + 1), vN, vN, vN] [] σ3)) ∧ (¬ x3 = 0 → conV G wdX d mX3_join [vR 3, vI v1, vI x1] σ3 (fun σ4 => Ret (some (vI 1)) σ4))))))))))) : R 61 [vR 3, vI v1, vI v2, vI v3, vN, vI v5, vN] [vI w0] σ := by
  refine r_callNI hM (pc' := 64) [vI w0] dX3_seat_61 rfl ml_X3_45 rfl rfl (Nat.le_of_ble_eq_true rfl) (conI.mono h (fun x1 σ1 h => ?_))
  refine r_istore hM (pc' := 66) dX3_seat_64 rfl (Nat.le_of_ble_eq_true rfl) rfl ?_
  show R 66 [vR 3, vI v1, vI v2, vI v3, vN, vI v5, vI x1] _ _
  refine r_aload_n hM (pc' := 67) dX3_seat_66 rfl (x := 3) rfl ?_
  refine r_dup hM (pc' := 68) dX3_seat_67 rfl (fun _ => rfl) ?_
  refine r_getI hM (pc' := 71) dX3_seat_68 rfl fl_X3_25 wx_3 rfl ?_
  refine r_iconst hM (pc' := 72) dX3_seat_71 rfl (by decide) ?_
  refine r_iload hM (pc' := 74) dX3_seat_72 rfl (x := x1) rfl ?_
  refine r_ishl hM (pc' := 75) dX3_seat_74 rfl ?_
  refine r_ior hM (pc' := 76) dX3_seat_75 rfl ?_
  refine r_putI hM (pc' := 79) dX3_seat_76 rfl fp_X3_25 wx_3 rfl (fun τ1 e1 => ?_)
  have h := h τ1 e1
  refine r_iload hM (pc' := 81) dX3_seat_79 rfl (x := v5) rfl ?_
  refine r_if_ne hM (pc' := 84) (tgt := 101) dX3_seat_81 rfl (by decide) (fun c => ?_) (fun c => ?_)
  · have h := h.1 c
    refine r_aload_n hM (pc' := 102) dX3_seat_101 rfl (x := 3) rfl ?_
    refine r_iload_n hM (pc' := 103) dX3_seat_102 rfl (x := v1) rfl ?_
    refine r_iload hM (pc' := 105) dX3_seat_103 rfl (x := x1) rfl ?_
    refine r_callVV hM (pc' := 108) [vI v1, vI x1] dX3_seat_105 rfl ml_X3_41 wx_3 rfl rfl (Nat.le_of_ble_eq_true rfl) (conV.mono h (fun σ2 h => ?_))
    refine r_iconst hM (pc' := 109) dX3_seat_108 rfl (by decide) ?_
    exact r_zreturn hM dX3_seat_109 rfl (by decide) h
  · have h := h.2 c
    refine r_aload_n hM (pc' := 85) dX3_seat_84 rfl (x := 3) rfl ?_
    refine r_aload_n hM (pc' := 86) dX3_seat_85 rfl (x := 3) rfl ?_
    refine r_getR hM (pc' := 89) dX3_seat_86 rfl fl_X3_18 wx_3 rfl ?_
    refine r_iload hM (pc' := 91) dX3_seat_89 rfl (x := x1) rfl ?_
    have o1 := h.1
    have h := h.2
    refine r_iaload hM (pc' := 92) dX3_seat_91 rfl wx_19 o1 ?_
    refine r_iload_n hM (pc' := 93) dX3_seat_92 rfl (x := v2) rfl ?_
    refine r_iconst hM (pc' := 94) dX3_seat_93 rfl (by decide) ?_
    have o2 := h.1
    have h := h.2
    refine r_iadd hM (pc' := 95) dX3_seat_94 rfl o2 ?_
    refine r_callSI hM (pc' := 98) [vR 3, vI (τ1.1 19 (x1).toNat), vI (v2 + 1)] dX3_seat_95 rfl ml_X3_37 rfl rfl (Nat.le_of_ble_eq_true rfl) (conI.mono h (fun x3 σ3 h => ?_))
    refine r_if_eq hM (pc' := 101) (tgt := 110) dX3_seat_98 rfl (by decide) (fun c => ?_) (fun c => ?_)
    · have h := h.1 c
      have o3 := h.1
      have h := h.2
      refine r_iinc hM (pc' := 113) dX3_seat_110 rfl (x := v3) rfl rfl o3 ?_
      show R 113 [vR 3, vI v1, vI v2, vI (v3 + 1), vN, vI v5, vI x1] _ _
      refine r_goto hM (tgt := 10) dX3_seat_113 (by decide) ?_
      refine r_weak hM (ls' := [vR 3, vI v1, vI v2, vI (v3 + 1), vN, vN, vN]) ⟨Or.inl rfl, Or.inl rfl, Or.inl rfl, Or.inl rfl, Or.inl rfl, Or.inr rfl, Or.inr rfl, trivial⟩ ?_
      exact h
    · have h := h.2 c
      refine r_aload_n hM (pc' := 102) dX3_seat_101 rfl (x := 3) rfl ?_
      refine r_iload_n hM (pc' := 103) dX3_seat_102 rfl (x := v1) rfl ?_
      refine r_iload hM (pc' := 105) dX3_seat_103 rfl (x := x1) rfl ?_
      refine r_callVV hM (pc' := 108) [vI v1, vI x1] dX3_seat_105 rfl ml_X3_41 wx_3 rfl rfl (Nat.le_of_ble_eq_true rfl) (conV.mono h (fun σ4 h => ?_))
      refine r_iconst hM (pc' := 109) dX3_seat_108 rfl (by decide) ?_
      exact r_zreturn hM dX3_seat_109 rfl (by decide) h
