theorem ml_X4_62 : MLv RX4 62 mX4_setCosts 4 0 := ⟨(RX4, TX4, 12), rfl, rfl, gw_mem 490 (by decide +kernel) rfl, gw_mem 492 (by decide +kernel) rfl, gw_mem 2 (by decide +kernel) rfl, gw_mem 43 (by decide +kernel) rfl, mwX4_setCosts, ⟨by decide, by decide, by decide +kernel⟩, by decide⟩
theorem fl_X4_46 : FL RX4 46 4 11 := ⟨(RX4, TX4, 12), rfl, by decide, gw_mem 223 (by decide +kernel) rfl, inwX4⟩
theorem fl_X4_54 : FL RX4 54 4 8 := ⟨(RX4, TX4, 12), rfl, by decide, gw_mem 220 (by decide +kernel) rfl, inwX4⟩
theorem fl_X4_65 : FL RX4 65 7 4 := ⟨(RX7, TX7, 5), rfl, by decide, gw_mem 109 (by decide +kernel) rfl, inwX7⟩
theorem ml_X4_68 : MLv RX4 68 mX1_solve 1 1 := ⟨(RX1, TX1, 8), rfl, rfl, gw_mem 498 (by decide +kernel) rfl, gw_mem 499 (by decide +kernel) rfl, gw_mem 500 (by decide +kernel) rfl, gw_mem 45 (by decide +kernel) rfl, mwX1_solve, ⟨by decide, by decide, by decide +kernel⟩, by decide⟩
theorem fp_X4_25 : FP RX4 25 4 4 .int := ⟨(RX4, TX4, 12), rfl, by decide, gw_mem 215 (by decide +kernel) rfl, inwX4, ⟨tyX4, tyX4_ok⟩, nmX4, rfl, by decide +kernel⟩
theorem fl_X4_9 : FL RX4 9 4 0 := ⟨(RX4, TX4, 12), rfl, by decide, gw_mem 206 (by decide +kernel) rfl, inwX4⟩
theorem ml_X4_72 : MLv RX4 72 mX4_leastNext 4 1 := ⟨(RX4, TX4, 12), rfl, rfl, gw_mem 543 (by decide +kernel) rfl, gw_mem 545 (by decide +kernel) rfl, gw_mem 9 (by decide +kernel) rfl, gw_mem 43 (by decide +kernel) rfl, mwX4_leastNext, ⟨by decide, by decide, by decide +kernel⟩, by decide⟩
theorem fl_X4_15 : FL RX4 15 4 1 := ⟨(RX4, TX4, 12), rfl, by decide, gw_mem 208 (by decide +kernel) rfl, inwX4⟩
theorem fl_X4_76 : FL RX4 76 7 1 := ⟨(RX7, TX7, 5), rfl, by decide, gw_mem 93 (by decide +kernel) rfl, inwX7⟩
theorem fl_X4_79 : FL RX4 79 7 0 := ⟨(RX7, TX7, 5), rfl, by decide, gw_mem 88 (by decide +kernel) rfl, inwX7⟩
theorem fl_X4_25 : FL RX4 25 4 4 := ⟨(RX4, TX4, 12), rfl, by decide, gw_mem 215 (by decide +kernel) rfl, inwX4⟩
theorem fl_X4_50 : FL RX4 50 4 7 := ⟨(RX4, TX4, 12), rfl, by decide, gw_mem 219 (by decide +kernel) rfl, inwX4⟩
theorem ml_X4_82 : MLv RX4 82 mX8_priceOf 8 2 := ⟨(RX8, TX8, 3), rfl, rfl, gw_mem 494 (by decide +kernel) rfl, gw_mem 495 (by decide +kernel) rfl, gw_mem 496 (by decide +kernel) rfl, gw_mem 39 (by decide +kernel) rfl, mwX8_priceOf, ⟨by decide, by decide, by decide +kernel⟩, by decide⟩
theorem fl_X4_88 : FL RX4 88 7 2 := ⟨(RX7, TX7, 5), rfl, by decide, gw_mem 98 (by decide +kernel) rfl, inwX7⟩
theorem fl_X4_91 : FL RX4 91 7 3 := ⟨(RX7, TX7, 5), rfl, by decide, gw_mem 103 (by decide +kernel) rfl, inwX7⟩
theorem ml_X4_94 : MLv RX4 94 mX8_minutesOf 8 2 := ⟨(RX8, TX8, 3), rfl, rfl, gw_mem 564 (by decide +kernel) rfl, gw_mem 470 (by decide +kernel) rfl, gw_mem 471 (by decide +kernel) rfl, gw_mem 39 (by decide +kernel) rfl, mwX8_minutesOf, ⟨by decide, by decide, by decide +kernel⟩, by decide⟩
theorem ml_X4_97 : MLv RX4 97 mX4_numberBlocks 4 0 := ⟨(RX4, TX4, 12), rfl, rfl, gw_mem 565 (by decide +kernel) rfl, gw_mem 567 (by decide +kernel) rfl, gw_mem 10 (by decide +kernel) rfl, gw_mem 43 (by decide +kernel) rfl, mwX4_numberBlocks, ⟨by decide, by decide, by decide +kernel⟩, by decide⟩
theorem fl_X4_58 : FL RX4 58 4 9 := ⟨(RX4, TX4, 12), rfl, by decide, gw_mem 221 (by decide +kernel) rfl, inwX4⟩
theorem fl_X4_100 : FL RX4 100 2 0 := ⟨(RX2, TX2, 4), rfl, by decide, gw_mem 129 (by decide +kernel) rfl, inwX2⟩
theorem fl_X4_105 : FL RX4 105 1 0 := ⟨(RX1, TX1, 8), rfl, by decide, gw_mem 181 (by decide +kernel) rfl, inwX1⟩
theorem fl_X4_37 : FL RX4 37 4 10 := ⟨(RX4, TX4, 12), rfl, by decide, gw_mem 222 (by decide +kernel) rfl, inwX4⟩
theorem fl_X4_108 : FL RX4 108 3 0 := ⟨(RX3, TX3, 5), rfl, by decide, gw_mem 156 (by decide +kernel) rfl, inwX3⟩
theorem ml_X4_111 : MLv RX4 111 mX3_bind 3 2 := ⟨(RX3, TX3, 5), rfl, rfl, gw_mem 547 (by decide +kernel) rfl, gw_mem 548 (by decide +kernel) rfl, gw_mem 549 (by decide +kernel) rfl, gw_mem 44 (by decide +kernel) rfl, mwX3_bind, ⟨by decide, by decide, by decide +kernel⟩, by decide⟩
theorem fp_X4_21 : FP RX4 21 4 3 .int := ⟨(RX4, TX4, 12), rfl, by decide, gw_mem 212 (by decide +kernel) rfl, inwX4, ⟨tyX4, tyX4_ok⟩, nmX4, rfl, by decide +kernel⟩
theorem fl_X4_31 : FL RX4 31 4 6 := ⟨(RX4, TX4, 12), rfl, by decide, gw_mem 218 (by decide +kernel) rfl, inwX4⟩
theorem fl_X4_21 : FL RX4 21 4 3 := ⟨(RX4, TX4, 12), rfl, by decide, gw_mem 212 (by decide +kernel) rfl, inwX4⟩
theorem ml_X4_115 : MLv RX4 115 mX4_fillBlock 4 2 := ⟨(RX4, TX4, 12), rfl, rfl, gw_mem 569 (by decide +kernel) rfl, gw_mem 571 (by decide +kernel) rfl, gw_mem 11 (by decide +kernel) rfl, gw_mem 43 (by decide +kernel) rfl, mwX4_fillBlock, ⟨by decide, by decide, by decide +kernel⟩, by decide⟩
theorem fl_X4_28 : FL RX4 28 4 5 := ⟨(RX4, TX4, 12), rfl, by decide, gw_mem 217 (by decide +kernel) rfl, inwX4⟩
theorem fl_X4_18 : FL RX4 18 4 2 := ⟨(RX4, TX4, 12), rfl, by decide, gw_mem 210 (by decide +kernel) rfl, inwX4⟩
theorem ml_X4_118 : MLv RX4 118 mX4_sizeOf 4 1 := ⟨(RX4, TX4, 12), rfl, rfl, gw_mem 585 (by decide +kernel) rfl, gw_mem 578 (by decide +kernel) rfl, gw_mem 579 (by decide +kernel) rfl, gw_mem 43 (by decide +kernel) rfl, mwX4_sizeOf, ⟨by decide, by decide, by decide +kernel⟩, by decide⟩
theorem ml_X4_121 : MLs RX4 121 mJ9_max_7cf53 2 := ⟨gw_mem 606 (by decide +kernel) rfl, gw_mem 506 (by decide +kernel) rfl, gw_mem 50 (by decide +kernel) rfl, mwJ9_max_7cf53, ⟨by decide, by decide, by decide +kernel⟩, by decide⟩
theorem ml_X4_126 : MLv RX4 126 mX2_follows 2 3 := ⟨(RX2, TX2, 4), rfl, rfl, gw_mem 754 (by decide +kernel) rfl, gw_mem 465 (by decide +kernel) rfl, gw_mem 466 (by decide +kernel) rfl, gw_mem 42 (by decide +kernel) rfl, mwX2_follows, ⟨by decide, by decide, by decide +kernel⟩, by decide⟩
theorem ml_X4_130 : MLv RX4 130 mX3_most 3 1 := ⟨(RX3, TX3, 5), rfl, rfl, gw_mem 755 (by decide +kernel) rfl, gw_mem 756 (by decide +kernel) rfl, gw_mem 757 (by decide +kernel) rfl, gw_mem 44 (by decide +kernel) rfl, mwX3_most, ⟨by decide, by decide, by decide +kernel⟩, by decide⟩
theorem dX4_make_0 : decode cX4_make 0 = .ok (.aload_n 0, 1) := by decide +kernel
theorem dX4_make_1 : decode cX4_make 1 = .ok (.invokevirtual 62, 3) := by decide +kernel
theorem dX4_make_4 : decode cX4_make 4 = .ok (.aload_n 0, 1) := by decide +kernel
theorem dX4_make_5 : decode cX4_make 5 = .ok (.getfield 46, 3) := by decide +kernel
theorem dX4_make_8 : decode cX4_make 8 = .ok (.aload_n 0, 1) := by decide +kernel
theorem dX4_make_9 : decode cX4_make 9 = .ok (.getfield 54, 3) := by decide +kernel
theorem dX4_make_12 : decode cX4_make 12 = .ok (.getfield 65, 3) := by decide +kernel
theorem dX4_make_15 : decode cX4_make 15 = .ok (.invokevirtual 68, 3) := by decide +kernel
theorem dX4_make_18 : decode cX4_make 18 = .ok (.aload_n 0, 1) := by decide +kernel
theorem dX4_make_19 : decode cX4_make 19 = .ok (.iconst 0, 1) := by decide +kernel
theorem dX4_make_20 : decode cX4_make 20 = .ok (.putfield 25, 3) := by decide +kernel
theorem dX4_make_23 : decode cX4_make 23 = .ok (.iconst 0, 1) := by decide +kernel
theorem dX4_make_24 : decode cX4_make 24 = .ok (.istore_n 1, 1) := by decide +kernel
theorem dX4_make_25 : decode cX4_make 25 = .ok (.iload_n 1, 1) := by decide +kernel
theorem dX4_make_26 : decode cX4_make 26 = .ok (.aload_n 0, 1) := by decide +kernel
theorem dX4_make_27 : decode cX4_make 27 = .ok (.getfield 54, 3) := by decide +kernel
theorem dX4_make_30 : decode cX4_make 30 = .ok (.getfield 65, 3) := by decide +kernel
theorem dX4_make_33 : decode cX4_make 33 = .ok (.if_icmp .ge 120, 3) := by decide +kernel
theorem dX4_make_36 : decode cX4_make 36 = .ok (.aload_n 0, 1) := by decide +kernel
theorem dX4_make_37 : decode cX4_make 37 = .ok (.getfield 9, 3) := by decide +kernel
theorem dX4_make_40 : decode cX4_make 40 = .ok (.iload_n 1, 1) := by decide +kernel
theorem dX4_make_41 : decode cX4_make 41 = .ok (.aload_n 0, 1) := by decide +kernel
theorem dX4_make_42 : decode cX4_make 42 = .ok (.iload_n 1, 1) := by decide +kernel
theorem dX4_make_43 : decode cX4_make 43 = .ok (.invokevirtual 72, 3) := by decide +kernel
theorem dX4_make_46 : decode cX4_make 46 = .ok (.iastore, 1) := by decide +kernel
theorem dX4_make_47 : decode cX4_make 47 = .ok (.aload_n 0, 1) := by decide +kernel
theorem dX4_make_48 : decode cX4_make 48 = .ok (.getfield 15, 3) := by decide +kernel
theorem dX4_make_51 : decode cX4_make 51 = .ok (.iload_n 1, 1) := by decide +kernel
theorem dX4_make_52 : decode cX4_make 52 = .ok (.iconst (-1), 1) := by decide +kernel
theorem dX4_make_53 : decode cX4_make 53 = .ok (.iastore, 1) := by decide +kernel
theorem dX4_make_54 : decode cX4_make 54 = .ok (.aload_n 0, 1) := by decide +kernel
theorem dX4_make_55 : decode cX4_make 55 = .ok (.getfield 9, 3) := by decide +kernel
theorem dX4_make_58 : decode cX4_make 58 = .ok (.iload_n 1, 1) := by decide +kernel
theorem dX4_make_59 : decode cX4_make 59 = .ok (.iaload, 1) := by decide +kernel
theorem dX4_make_60 : decode cX4_make 60 = .ok (.iconst (-1), 1) := by decide +kernel
theorem dX4_make_61 : decode cX4_make 61 = .ok (.if_icmp .eq 86, 3) := by decide +kernel
theorem dX4_make_64 : decode cX4_make 64 = .ok (.aload_n 0, 1) := by decide +kernel
theorem dX4_make_65 : decode cX4_make 65 = .ok (.getfield 54, 3) := by decide +kernel
theorem dX4_make_68 : decode cX4_make 68 = .ok (.getfield 76, 3) := by decide +kernel
theorem dX4_make_71 : decode cX4_make 71 = .ok (.iload_n 1, 1) := by decide +kernel
theorem dX4_make_72 : decode cX4_make 72 = .ok (.iaload, 1) := by decide +kernel
theorem dX4_make_73 : decode cX4_make 73 = .ok (.istore_n 2, 1) := by decide +kernel
theorem dX4_make_74 : decode cX4_make 74 = .ok (.aload_n 0, 1) := by decide +kernel
theorem dX4_make_75 : decode cX4_make 75 = .ok (.getfield 54, 3) := by decide +kernel
theorem dX4_make_78 : decode cX4_make 78 = .ok (.getfield 79, 3) := by decide +kernel
theorem dX4_make_81 : decode cX4_make 81 = .ok (.aload_n 0, 1) := by decide +kernel
theorem dX4_make_82 : decode cX4_make 82 = .ok (.getfield 9, 3) := by decide +kernel
theorem dX4_make_85 : decode cX4_make 85 = .ok (.iload_n 1, 1) := by decide +kernel
theorem dX4_make_86 : decode cX4_make 86 = .ok (.iaload, 1) := by decide +kernel
theorem dX4_make_87 : decode cX4_make 87 = .ok (.iaload, 1) := by decide +kernel
theorem dX4_make_88 : decode cX4_make 88 = .ok (.istore_n 3, 1) := by decide +kernel
theorem dX4_make_89 : decode cX4_make 89 = .ok (.aload_n 0, 1) := by decide +kernel
theorem dX4_make_90 : decode cX4_make 90 = .ok (.dup, 1) := by decide +kernel
theorem dX4_make_91 : decode cX4_make 91 = .ok (.getfield 25, 3) := by decide +kernel
theorem dX4_make_94 : decode cX4_make 94 = .ok (.aload_n 0, 1) := by decide +kernel
theorem dX4_make_95 : decode cX4_make 95 = .ok (.getfield 50, 3) := by decide +kernel
theorem dX4_make_98 : decode cX4_make 98 = .ok (.iload_n 2, 1) := by decide +kernel
theorem dX4_make_99 : decode cX4_make 99 = .ok (.iload_n 3, 1) := by decide +kernel
theorem dX4_make_100 : decode cX4_make 100 = .ok (.invokevirtual 82, 3) := by decide +kernel
theorem dX4_make_103 : decode cX4_make 103 = .ok (.iadd, 1) := by decide +kernel
theorem dX4_make_104 : decode cX4_make 104 = .ok (.putfield 25, 3) := by decide +kernel
theorem dX4_make_107 : decode cX4_make 107 = .ok (.aload_n 0, 1) := by decide +kernel
theorem dX4_make_108 : decode cX4_make 108 = .ok (.getfield 15, 3) := by decide +kernel
theorem dX4_make_111 : decode cX4_make 111 = .ok (.iload_n 1, 1) := by decide +kernel
theorem dX4_make_112 : decode cX4_make 112 = .ok (.aload_n 0, 1) := by decide +kernel
theorem dX4_make_113 : decode cX4_make 113 = .ok (.getfield 54, 3) := by decide +kernel
theorem dX4_make_116 : decode cX4_make 116 = .ok (.getfield 88, 3) := by decide +kernel
theorem dX4_make_119 : decode cX4_make 119 = .ok (.aload_n 0, 1) := by decide +kernel
theorem dX4_make_120 : decode cX4_make 120 = .ok (.getfield 9, 3) := by decide +kernel
theorem dX4_make_123 : decode cX4_make 123 = .ok (.iload_n 1, 1) := by decide +kernel
theorem dX4_make_124 : decode cX4_make 124 = .ok (.iaload, 1) := by decide +kernel
theorem dX4_make_125 : decode cX4_make 125 = .ok (.iaload, 1) := by decide +kernel
theorem dX4_make_126 : decode cX4_make 126 = .ok (.aload_n 0, 1) := by decide +kernel
theorem dX4_make_127 : decode cX4_make 127 = .ok (.getfield 54, 3) := by decide +kernel
theorem dX4_make_130 : decode cX4_make 130 = .ok (.getfield 91, 3) := by decide +kernel
theorem dX4_make_133 : decode cX4_make 133 = .ok (.iload_n 1, 1) := by decide +kernel
theorem dX4_make_134 : decode cX4_make 134 = .ok (.iaload, 1) := by decide +kernel
theorem dX4_make_135 : decode cX4_make 135 = .ok (.isub, 1) := by decide +kernel
theorem dX4_make_136 : decode cX4_make 136 = .ok (.aload_n 0, 1) := by decide +kernel
theorem dX4_make_137 : decode cX4_make 137 = .ok (.getfield 50, 3) := by decide +kernel
theorem dX4_make_140 : decode cX4_make 140 = .ok (.iload_n 2, 1) := by decide +kernel
theorem dX4_make_141 : decode cX4_make 141 = .ok (.iload_n 3, 1) := by decide +kernel
theorem dX4_make_142 : decode cX4_make 142 = .ok (.invokevirtual 94, 3) := by decide +kernel
theorem dX4_make_145 : decode cX4_make 145 = .ok (.isub, 1) := by decide +kernel
theorem dX4_make_146 : decode cX4_make 146 = .ok (.iastore, 1) := by decide +kernel
theorem dX4_make_147 : decode cX4_make 147 = .ok (.iinc 1 1, 3) := by decide +kernel
theorem dX4_make_150 : decode cX4_make 150 = .ok (.goto (-125), 3) := by decide +kernel
theorem dX4_make_153 : decode cX4_make 153 = .ok (.aload_n 0, 1) := by decide +kernel
theorem dX4_make_154 : decode cX4_make 154 = .ok (.invokevirtual 97, 3) := by decide +kernel
theorem dX4_make_157 : decode cX4_make 157 = .ok (.return_, 1) := by decide +kernel
set_option maxRecDepth 20000 in
theorem g_X4_make_0 {G : GX} {d : Nat} {Ret : Option AV → St → Prop} {R : Nat → List AV → List AV → St → Prop} (hM : AM G wdX (d + 1) mX4_make Ret R) (σ : St)
    (h : conV G wdX d mX4_setCosts [vR 4] σ (fun σ1 => conV G wdX d mX1_solve [vR 1, vI (σ1.1 7 4)] σ1 (fun σ2 => (∀ τ1, τ1 = sI σ2 4 4 0 → R 25 [vR 4, vI 0, vN, vN] [] τ1)))) : R 0 [vR 4, vN, vN, vN] [] σ := by
  refine r_aload_n hM (pc' := 1) dX4_make_0 rfl (x := 4) rfl ?_
  refine r_callVV hM (pc' := 4) [] dX4_make_1 rfl ml_X4_62 wx_4 rfl rfl (Nat.le_of_ble_eq_true rfl) (conV.mono h (fun σ1 h => ?_))
  refine r_aload_n hM (pc' := 5) dX4_make_4 rfl (x := 4) rfl ?_
  refine r_getR hM (pc' := 8) dX4_make_5 rfl fl_X4_46 wx_4 rfl ?_
  refine r_aload_n hM (pc' := 9) dX4_make_8 rfl (x := 4) rfl ?_
  refine r_getR hM (pc' := 12) dX4_make_9 rfl fl_X4_54 wx_4 rfl ?_
  refine r_getI hM (pc' := 15) dX4_make_12 rfl fl_X4_65 wx_7 rfl ?_
  refine r_callVV hM (pc' := 18) [vI (σ1.1 7 4)] dX4_make_15 rfl ml_X4_68 wx_1 rfl rfl (Nat.le_of_ble_eq_true rfl) (conV.mono h (fun σ2 h => ?_))
  refine r_aload_n hM (pc' := 19) dX4_make_18 rfl (x := 4) rfl ?_
  refine r_iconst hM (pc' := 20) dX4_make_19 rfl (by decide) ?_
  refine r_putI hM (pc' := 23) dX4_make_20 rfl fp_X4_25 wx_4 rfl (fun τ1 e1 => ?_)
  have h := h τ1 e1
  refine r_iconst hM (pc' := 24) dX4_make_23 rfl (by decide) ?_
  refine r_istore_n hM (pc' := 25) dX4_make_24 rfl (Nat.le_of_ble_eq_true rfl) rfl ?_
  show R 25 [vR 4, vI 0, vN, vN] _ _
  exact h
set_option maxRecDepth 20000 in
theorem g_X4_make_25 {G : GX} {d : Nat} {Ret : Option AV → St → Prop} {R : Nat → List AV → List AV → St → Prop} (hM : AM G wdX (d + 1) mX4_make Ret R) (v1 : Int) (σ : St)
    (h : (((σ.1 7 4) ≤ v1 → conV G wdX d mX4_numberBlocks [vR 4] σ (fun σ1 => Ret none σ1)) ∧ (¬ (σ.1 7 4) ≤ v1 → conI G wdX d mX4_leastNext [vR 4, vI v1] σ (fun x2 σ2 => ((0 ≤ v1 ∧ v1 < 16) ∧ (∀ τ1, τ1 = sI σ2 20 (v1).toNat x2 → (∀ τ2, τ2 = sI τ1 21 (v1).toNat (-1) → (((τ2.1 20 (v1).toNat) = (-1) → (r32 (v1 + 1) ∧ R 25 [vR 4, vI (v1 + 1), vN, vN] [] τ2)) ∧ (¬ (τ2.1 20 (v1).toNat) = (-1) → ((0 ≤ (τ2.1 20 (v1).toNat) ∧ (τ2.1 20 (v1).toNat) < 16) ∧ (∀ u1, u1 = (τ2.1 34 ((τ2.1 20 (v1).toNat)).toNat) → conI G wdX d mX8_priceOf [vR 8, vI (τ2.1 35 (v1).toNat), vI u1] τ2 (fun x3 σ3 => (r32 ((τ2.1 4 4) + x3) ∧ (∀ τ3, τ3 = sI σ3 4 4 ((τ2.1 4 4) + x3) → ((0 ≤ (τ3.1 20 (v1).toNat) ∧ (τ3.1 20 (v1).toNat) < 16) ∧ (r32 ((τ3.1 36 ((τ3.1 20 (v1).toNat)).toNat) - (τ3.1 37 (v1).toNat)) ∧ conI G wdX d mX8_minutesOf [vR 8, vI (τ2.1 35 (v1).toNat), vI u1] τ3 (fun x4 σ4 => (r32 (((τ3.1 36 ((τ3.1 20 (v1).toNat)).toNat) - (τ3.1 37 (v1).toNat)) - x4) ∧ (∀ τ4, τ4 = sI σ4 21 (v1).toNat (((τ3.1 36 ((τ3.1 20 (v1).toNat)).toNat) - (τ3.1 37 (v1).toNat)) - x4) → (r32 (v1 + 1) ∧ R 25 [vR 4, vI (v1 + 1), vN, vN] [] τ4)))))))))))))))))))) : R 25 [vR 4, vI v1, vN, vN] [] σ := by
  refine r_iload_n hM (pc' := 26) dX4_make_25 rfl (x := v1) rfl ?_
  refine r_aload_n hM (pc' := 27) dX4_make_26 rfl (x := 4) rfl ?_
  refine r_getR hM (pc' := 30) dX4_make_27 rfl fl_X4_54 wx_4 rfl ?_
  refine r_getI hM (pc' := 33) dX4_make_30 rfl fl_X4_65 wx_7 rfl ?_
  refine r_icmp_ge hM (pc' := 36) (tgt := 153) dX4_make_33 rfl (by decide) (fun c => ?_) (fun c => ?_)
  · have h := h.1 c
    refine r_aload_n hM (pc' := 154) dX4_make_153 rfl (x := 4) rfl ?_
    refine r_callVV hM (pc' := 157) [] dX4_make_154 rfl ml_X4_97 wx_4 rfl rfl (Nat.le_of_ble_eq_true rfl) (conV.mono h (fun σ1 h => ?_))
    exact r_return hM dX4_make_157 rfl h
  · have h := h.2 c
    refine r_aload_n hM (pc' := 37) dX4_make_36 rfl (x := 4) rfl ?_
    refine r_getR hM (pc' := 40) dX4_make_37 rfl fl_X4_9 wx_4 rfl ?_
    refine r_iload_n hM (pc' := 41) dX4_make_40 rfl (x := v1) rfl ?_
    refine r_aload_n hM (pc' := 42) dX4_make_41 rfl (x := 4) rfl ?_
    refine r_iload_n hM (pc' := 43) dX4_make_42 rfl (x := v1) rfl ?_
    refine r_callVI hM (pc' := 46) [vI v1] dX4_make_43 rfl ml_X4_72 wx_4 rfl rfl (Nat.le_of_ble_eq_true rfl) (conI.mono h (fun x2 σ2 h => ?_))
    have o1 := h.1
    have h := h.2
    refine r_iastore hM (pc' := 47) dX4_make_46 rfl wx_20 o1 (fun τ1 e1 => ?_)
    have h := h τ1 e1
    refine r_aload_n hM (pc' := 48) dX4_make_47 rfl (x := 4) rfl ?_
    refine r_getR hM (pc' := 51) dX4_make_48 rfl fl_X4_15 wx_4 rfl ?_
    refine r_iload_n hM (pc' := 52) dX4_make_51 rfl (x := v1) rfl ?_
    refine r_iconst hM (pc' := 53) dX4_make_52 rfl (by decide) ?_
    refine r_iastore hM (pc' := 54) dX4_make_53 rfl wx_21 o1 (fun τ2 e2 => ?_)
    have h := h τ2 e2
    refine r_aload_n hM (pc' := 55) dX4_make_54 rfl (x := 4) rfl ?_
    refine r_getR hM (pc' := 58) dX4_make_55 rfl fl_X4_9 wx_4 rfl ?_
    refine r_iload_n hM (pc' := 59) dX4_make_58 rfl (x := v1) rfl ?_
    refine r_iaload hM (pc' := 60) dX4_make_59 rfl wx_20 o1 ?_
    refine r_iconst hM (pc' := 61) dX4_make_60 rfl (by decide) ?_
    refine r_icmp_eq hM (pc' := 64) (tgt := 147) dX4_make_61 rfl (by decide) (fun c => ?_) (fun c => ?_)
    · have h := h.1 c
      have o2 := h.1
      have h := h.2
      refine r_iinc hM (pc' := 150) dX4_make_147 rfl (x := v1) rfl rfl o2 ?_
      show R 150 [vR 4, vI (v1 + 1), vN, vN] _ _
      refine r_goto hM (tgt := 25) dX4_make_150 (by decide) ?_
      exact h
    · have h := h.2 c
      refine r_aload_n hM (pc' := 65) dX4_make_64 rfl (x := 4) rfl ?_
      refine r_getR hM (pc' := 68) dX4_make_65 rfl fl_X4_54 wx_4 rfl ?_
      refine r_getR hM (pc' := 71) dX4_make_68 rfl fl_X4_76 wx_7 rfl ?_
      refine r_iload_n hM (pc' := 72) dX4_make_71 rfl (x := v1) rfl ?_
      refine r_iaload hM (pc' := 73) dX4_make_72 rfl wx_35 o1 ?_
      refine r_istore_n hM (pc' := 74) dX4_make_73 rfl (Nat.le_of_ble_eq_true rfl) rfl ?_
      show R 74 [vR 4, vI v1, vI (τ2.1 35 (v1).toNat), vN] _ _
      refine r_aload_n hM (pc' := 75) dX4_make_74 rfl (x := 4) rfl ?_
      refine r_getR hM (pc' := 78) dX4_make_75 rfl fl_X4_54 wx_4 rfl ?_
      refine r_getR hM (pc' := 81) dX4_make_78 rfl fl_X4_79 wx_7 rfl ?_
      refine r_aload_n hM (pc' := 82) dX4_make_81 rfl (x := 4) rfl ?_
      refine r_getR hM (pc' := 85) dX4_make_82 rfl fl_X4_9 wx_4 rfl ?_
      refine r_iload_n hM (pc' := 86) dX4_make_85 rfl (x := v1) rfl ?_
      refine r_iaload hM (pc' := 87) dX4_make_86 rfl wx_20 o1 ?_
      have o3 := h.1
      have h := h.2
      refine r_iaload hM (pc' := 88) dX4_make_87 rfl wx_34 o3 ?_
      refine r_istore_nN hM (pc' := 89) dX4_make_88 rfl (Nat.le_of_ble_eq_true rfl) rfl (fun u1 eu1 => ?_)
      have h := h u1 eu1
      show R 89 [vR 4, vI v1, vI (τ2.1 35 (v1).toNat), vI u1] _ _
      refine r_aload_n hM (pc' := 90) dX4_make_89 rfl (x := 4) rfl ?_
      refine r_dup hM (pc' := 91) dX4_make_90 rfl (fun _ => rfl) ?_
      refine r_getI hM (pc' := 94) dX4_make_91 rfl fl_X4_25 wx_4 rfl ?_
      refine r_aload_n hM (pc' := 95) dX4_make_94 rfl (x := 4) rfl ?_
      refine r_getR hM (pc' := 98) dX4_make_95 rfl fl_X4_50 wx_4 rfl ?_
      refine r_iload_n hM (pc' := 99) dX4_make_98 rfl (x := (τ2.1 35 (v1).toNat)) rfl ?_
      refine r_iload_n hM (pc' := 100) dX4_make_99 rfl (x := u1) rfl ?_
      refine r_callVI hM (pc' := 103) [vI (τ2.1 35 (v1).toNat), vI u1] dX4_make_100 rfl ml_X4_82 wx_8 rfl rfl (Nat.le_of_ble_eq_true rfl) (conI.mono h (fun x3 σ3 h => ?_))
      have o4 := h.1
      have h := h.2
      refine r_iadd hM (pc' := 104) dX4_make_103 rfl o4 ?_
      refine r_putI hM (pc' := 107) dX4_make_104 rfl fp_X4_25 wx_4 rfl (fun τ3 e3 => ?_)
      have h := h τ3 e3
      refine r_aload_n hM (pc' := 108) dX4_make_107 rfl (x := 4) rfl ?_
      refine r_getR hM (pc' := 111) dX4_make_108 rfl fl_X4_15 wx_4 rfl ?_
      refine r_iload_n hM (pc' := 112) dX4_make_111 rfl (x := v1) rfl ?_
      refine r_aload_n hM (pc' := 113) dX4_make_112 rfl (x := 4) rfl ?_
      refine r_getR hM (pc' := 116) dX4_make_113 rfl fl_X4_54 wx_4 rfl ?_
      refine r_getR hM (pc' := 119) dX4_make_116 rfl fl_X4_88 wx_7 rfl ?_
      refine r_aload_n hM (pc' := 120) dX4_make_119 rfl (x := 4) rfl ?_
      refine r_getR hM (pc' := 123) dX4_make_120 rfl fl_X4_9 wx_4 rfl ?_
      refine r_iload_n hM (pc' := 124) dX4_make_123 rfl (x := v1) rfl ?_
      refine r_iaload hM (pc' := 125) dX4_make_124 rfl wx_20 o1 ?_
      have o5 := h.1
      have h := h.2
      refine r_iaload hM (pc' := 126) dX4_make_125 rfl wx_36 o5 ?_
      refine r_aload_n hM (pc' := 127) dX4_make_126 rfl (x := 4) rfl ?_
      refine r_getR hM (pc' := 130) dX4_make_127 rfl fl_X4_54 wx_4 rfl ?_
      refine r_getR hM (pc' := 133) dX4_make_130 rfl fl_X4_91 wx_7 rfl ?_
      refine r_iload_n hM (pc' := 134) dX4_make_133 rfl (x := v1) rfl ?_
      refine r_iaload hM (pc' := 135) dX4_make_134 rfl wx_37 o1 ?_
      have o6 := h.1
      have h := h.2
      refine r_isub hM (pc' := 136) dX4_make_135 rfl o6 ?_
      refine r_aload_n hM (pc' := 137) dX4_make_136 rfl (x := 4) rfl ?_
      refine r_getR hM (pc' := 140) dX4_make_137 rfl fl_X4_50 wx_4 rfl ?_
      refine r_iload_n hM (pc' := 141) dX4_make_140 rfl (x := (τ2.1 35 (v1).toNat)) rfl ?_
      refine r_iload_n hM (pc' := 142) dX4_make_141 rfl (x := u1) rfl ?_
      refine r_callVI hM (pc' := 145) [vI (τ2.1 35 (v1).toNat), vI u1] dX4_make_142 rfl ml_X4_94 wx_8 rfl rfl (Nat.le_of_ble_eq_true rfl) (conI.mono h (fun x4 σ4 h => ?_))
      have o7 := h.1
      have h := h.2
      refine r_isub hM (pc' := 146) dX4_make_145 rfl o7 ?_
      refine r_iastore hM (pc' := 147) dX4_make_146 rfl wx_21 o1 (fun τ4 e4 => ?_)
      have h := h τ4 e4
      have o8 := h.1
      have h := h.2
      refine r_iinc hM (pc' := 150) dX4_make_147 rfl (x := v1) rfl rfl o8 ?_
      show R 150 [vR 4, vI (v1 + 1), vI (τ2.1 35 (v1).toNat), vI u1] _ _
      refine r_goto hM (tgt := 25) dX4_make_150 (by decide) ?_
      refine r_weak hM (ls' := [vR 4, vI (v1 + 1), vN, vN]) ⟨Or.inl rfl, Or.inl rfl, Or.inr rfl, Or.inr rfl, trivial⟩ ?_
      exact h
theorem dX4_setCosts_0 : decode cX4_setCosts 0 = .ok (.iconst 0, 1) := by decide +kernel
theorem dX4_setCosts_1 : decode cX4_setCosts 1 = .ok (.istore_n 1, 1) := by decide +kernel
theorem dX4_setCosts_2 : decode cX4_setCosts 2 = .ok (.iload_n 1, 1) := by decide +kernel
theorem dX4_setCosts_3 : decode cX4_setCosts 3 = .ok (.aload_n 0, 1) := by decide +kernel
theorem dX4_setCosts_4 : decode cX4_setCosts 4 = .ok (.getfield 54, 3) := by decide +kernel
theorem dX4_setCosts_7 : decode cX4_setCosts 7 = .ok (.getfield 65, 3) := by decide +kernel
theorem dX4_setCosts_10 : decode cX4_setCosts 10 = .ok (.if_icmp .ge 100, 3) := by decide +kernel
theorem dX4_setCosts_13 : decode cX4_setCosts 13 = .ok (.iconst 0, 1) := by decide +kernel
theorem dX4_setCosts_14 : decode cX4_setCosts 14 = .ok (.istore_n 2, 1) := by decide +kernel
theorem dX4_setCosts_15 : decode cX4_setCosts 15 = .ok (.iload_n 2, 1) := by decide +kernel
theorem dX4_setCosts_16 : decode cX4_setCosts 16 = .ok (.aload_n 0, 1) := by decide +kernel
theorem dX4_setCosts_17 : decode cX4_setCosts 17 = .ok (.getfield 54, 3) := by decide +kernel
theorem dX4_setCosts_20 : decode cX4_setCosts 20 = .ok (.getfield 65, 3) := by decide +kernel
theorem dX4_setCosts_23 : decode cX4_setCosts 23 = .ok (.if_icmp .ge 81, 3) := by decide +kernel
theorem dX4_setCosts_26 : decode cX4_setCosts 26 = .ok (.aload_n 0, 1) := by decide +kernel
theorem dX4_setCosts_27 : decode cX4_setCosts 27 = .ok (.getfield 58, 3) := by decide +kernel
theorem dX4_setCosts_30 : decode cX4_setCosts 30 = .ok (.getfield 100, 3) := by decide +kernel
theorem dX4_setCosts_33 : decode cX4_setCosts 33 = .ok (.iload_n 1, 1) := by decide +kernel
theorem dX4_setCosts_34 : decode cX4_setCosts 34 = .ok (.iaload, 1) := by decide +kernel
theorem dX4_setCosts_35 : decode cX4_setCosts 35 = .ok (.iload_n 2, 1) := by decide +kernel
theorem dX4_setCosts_36 : decode cX4_setCosts 36 = .ok (.ishr, 1) := by decide +kernel
theorem dX4_setCosts_37 : decode cX4_setCosts 37 = .ok (.iconst 1, 1) := by decide +kernel
theorem dX4_setCosts_38 : decode cX4_setCosts 38 = .ok (.iand, 1) := by decide +kernel
theorem dX4_setCosts_39 : decode cX4_setCosts 39 = .ok (.iconst 1, 1) := by decide +kernel
theorem dX4_setCosts_40 : decode cX4_setCosts 40 = .ok (.if_icmp .ne 7, 3) := by decide +kernel
theorem dX4_setCosts_43 : decode cX4_setCosts 43 = .ok (.iconst 1, 1) := by decide +kernel
theorem dX4_setCosts_44 : decode cX4_setCosts 44 = .ok (.goto 4, 3) := by decide +kernel
theorem dX4_setCosts_47 : decode cX4_setCosts 47 = .ok (.iconst 0, 1) := by decide +kernel
theorem dX4_setCosts_48 : decode cX4_setCosts 48 = .ok (.istore_n 3, 1) := by decide +kernel
theorem dX4_setCosts_49 : decode cX4_setCosts 49 = .ok (.aload_n 0, 1) := by decide +kernel
theorem dX4_setCosts_50 : decode cX4_setCosts 50 = .ok (.getfield 46, 3) := by decide +kernel
theorem dX4_setCosts_53 : decode cX4_setCosts 53 = .ok (.getfield 105, 3) := by decide +kernel
theorem dX4_setCosts_56 : decode cX4_setCosts 56 = .ok (.iload_n 1, 1) := by decide +kernel
theorem dX4_setCosts_57 : decode cX4_setCosts 57 = .ok (.bipush 16, 2) := by decide +kernel
theorem dX4_setCosts_59 : decode cX4_setCosts 59 = .ok (.imul, 1) := by decide +kernel
theorem dX4_setCosts_60 : decode cX4_setCosts 60 = .ok (.iload_n 2, 1) := by decide +kernel
theorem dX4_setCosts_61 : decode cX4_setCosts 61 = .ok (.iadd, 1) := by decide +kernel
theorem dX4_setCosts_62 : decode cX4_setCosts 62 = .ok (.iload_n 3, 1) := by decide +kernel
theorem dX4_setCosts_63 : decode cX4_setCosts 63 = .ok (.ifCond .eq 31, 3) := by decide +kernel
theorem dX4_setCosts_66 : decode cX4_setCosts 66 = .ok (.aload_n 0, 1) := by decide +kernel
theorem dX4_setCosts_67 : decode cX4_setCosts 67 = .ok (.getfield 50, 3) := by decide +kernel
theorem dX4_setCosts_70 : decode cX4_setCosts 70 = .ok (.aload_n 0, 1) := by decide +kernel
theorem dX4_setCosts_71 : decode cX4_setCosts 71 = .ok (.getfield 54, 3) := by decide +kernel
theorem dX4_setCosts_74 : decode cX4_setCosts 74 = .ok (.getfield 76, 3) := by decide +kernel
theorem dX4_setCosts_77 : decode cX4_setCosts 77 = .ok (.iload_n 1, 1) := by decide +kernel
theorem dX4_setCosts_78 : decode cX4_setCosts 78 = .ok (.iaload, 1) := by decide +kernel
theorem dX4_setCosts_79 : decode cX4_setCosts 79 = .ok (.aload_n 0, 1) := by decide +kernel
theorem dX4_setCosts_80 : decode cX4_setCosts 80 = .ok (.getfield 54, 3) := by decide +kernel
theorem dX4_setCosts_83 : decode cX4_setCosts 83 = .ok (.getfield 79, 3) := by decide +kernel
theorem dX4_setCosts_86 : decode cX4_setCosts 86 = .ok (.iload_n 2, 1) := by decide +kernel
theorem dX4_setCosts_87 : decode cX4_setCosts 87 = .ok (.iaload, 1) := by decide +kernel
theorem dX4_setCosts_88 : decode cX4_setCosts 88 = .ok (.invokevirtual 82, 3) := by decide +kernel
theorem dX4_setCosts_91 : decode cX4_setCosts 91 = .ok (.goto 6, 3) := by decide +kernel
theorem dX4_setCosts_94 : decode cX4_setCosts 94 = .ok (.sipush 16001, 3) := by decide +kernel
theorem dX4_setCosts_97 : decode cX4_setCosts 97 = .ok (.iastore, 1) := by decide +kernel
theorem dX4_setCosts_98 : decode cX4_setCosts 98 = .ok (.iinc 2 1, 3) := by decide +kernel
theorem dX4_setCosts_101 : decode cX4_setCosts 101 = .ok (.goto (-86), 3) := by decide +kernel
theorem dX4_setCosts_104 : decode cX4_setCosts 104 = .ok (.iinc 1 1, 3) := by decide +kernel
theorem dX4_setCosts_107 : decode cX4_setCosts 107 = .ok (.goto (-105), 3) := by decide +kernel
theorem dX4_setCosts_110 : decode cX4_setCosts 110 = .ok (.return_, 1) := by decide +kernel
set_option maxRecDepth 20000 in
theorem g_X4_setCosts_0 {G : GX} {d : Nat} {Ret : Option AV → St → Prop} {R : Nat → List AV → List AV → St → Prop} (hM : AM G wdX (d + 1) mX4_setCosts Ret R) (σ : St)
    (h : R 2 [vR 4, vI 0, vN, vN] [] σ) : R 0 [vR 4, vN, vN, vN] [] σ := by
  refine r_iconst hM (pc' := 1) dX4_setCosts_0 rfl (by decide) ?_
  refine r_istore_n hM (pc' := 2) dX4_setCosts_1 rfl (Nat.le_of_ble_eq_true rfl) rfl ?_
  show R 2 [vR 4, vI 0, vN, vN] _ _
  exact h
set_option maxRecDepth 20000 in
theorem g_X4_setCosts_2 {G : GX} {d : Nat} {Ret : Option AV → St → Prop} {R : Nat → List AV → List AV → St → Prop} (hM : AM G wdX (d + 1) mX4_setCosts Ret R) (v1 : Int) (σ : St)
    (h : (((σ.1 7 4) ≤ v1 → Ret none σ) ∧ (¬ (σ.1 7 4) ≤ v1 → R 15 [vR 4, vI v1, vI 0, vN] [] σ))) : R 2 [vR 4, vI v1, vN, vN] [] σ := by
  refine r_iload_n hM (pc' := 3) dX4_setCosts_2 rfl (x := v1) rfl ?_
  refine r_aload_n hM (pc' := 4) dX4_setCosts_3 rfl (x := 4) rfl ?_
  refine r_getR hM (pc' := 7) dX4_setCosts_4 rfl fl_X4_54 wx_4 rfl ?_
  refine r_getI hM (pc' := 10) dX4_setCosts_7 rfl fl_X4_65 wx_7 rfl ?_
  refine r_icmp_ge hM (pc' := 13) (tgt := 110) dX4_setCosts_10 rfl (by decide) (fun c => ?_) (fun c => ?_)
  · have h := h.1 c
    exact r_return hM dX4_setCosts_110 rfl h
  · have h := h.2 c
    refine r_iconst hM (pc' := 14) dX4_setCosts_13 rfl (by decide) ?_
    refine r_istore_n hM (pc' := 15) dX4_setCosts_14 rfl (Nat.le_of_ble_eq_true rfl) rfl ?_
    show R 15 [vR 4, vI v1, vI 0, vN] _ _
    exact h
set_option maxRecDepth 20000 in
theorem g_X4_setCosts_15 {G : GX} {d : Nat} {Ret : Option AV → St → Prop} {R : Nat → List AV → List AV → St → Prop} (hM : AM G wdX (d + 1) mX4_setCosts Ret R) (v1 : Int) (v2 : Int) (σ : St)
    (h : (((σ.1 7 4) ≤ v2 → (r32 (v1 + 1) ∧ R 2 [vR 4, vI (v1 + 1), vN, vN] [] σ)) ∧ (¬ (σ.1 7 4) ≤ v2 → ((0 ≤ v1 ∧ v1 < 16) ∧ ((¬ (bAnd (bShr (σ.1 15 (v1).toNat) v2) 1) = 1 → R 48 [vR 4, vI v1, vI v2, vN] [vI 0] σ) ∧ ((bAnd (bShr (σ.1 15 (v1).toNat) v2) 1) = 1 → R 48 [vR 4, vI v1, vI v2, vN] [vI 1] σ)))))) : R 15 [vR 4, vI v1, vI v2, vN] [] σ := by
  refine r_iload_n hM (pc' := 16) dX4_setCosts_15 rfl (x := v2) rfl ?_
  refine r_aload_n hM (pc' := 17) dX4_setCosts_16 rfl (x := 4) rfl ?_
  refine r_getR hM (pc' := 20) dX4_setCosts_17 rfl fl_X4_54 wx_4 rfl ?_
  refine r_getI hM (pc' := 23) dX4_setCosts_20 rfl fl_X4_65 wx_7 rfl ?_
  refine r_icmp_ge hM (pc' := 26) (tgt := 104) dX4_setCosts_23 rfl (by decide) (fun c => ?_) (fun c => ?_)
  · have h := h.1 c
    have o1 := h.1
    have h := h.2
    refine r_iinc hM (pc' := 107) dX4_setCosts_104 rfl (x := v1) rfl rfl o1 ?_
    show R 107 [vR 4, vI (v1 + 1), vI v2, vN] _ _
    refine r_goto hM (tgt := 2) dX4_setCosts_107 (by decide) ?_
    refine r_weak hM (ls' := [vR 4, vI (v1 + 1), vN, vN]) ⟨Or.inl rfl, Or.inl rfl, Or.inr rfl, Or.inl rfl, trivial⟩ ?_
    exact h
  · have h := h.2 c
    refine r_aload_n hM (pc' := 27) dX4_setCosts_26 rfl (x := 4) rfl ?_
    refine r_getR hM (pc' := 30) dX4_setCosts_27 rfl fl_X4_58 wx_4 rfl ?_
    refine r_getR hM (pc' := 33) dX4_setCosts_30 rfl fl_X4_100 wx_2 rfl ?_
    refine r_iload_n hM (pc' := 34) dX4_setCosts_33 rfl (x := v1) rfl ?_
    have o2 := h.1
    have h := h.2
    refine r_iaload hM (pc' := 35) dX4_setCosts_34 rfl wx_15 o2 ?_
    refine r_iload_n hM (pc' := 36) dX4_setCosts_35 rfl (x := v2) rfl ?_
    refine r_ishr hM (pc' := 37) dX4_setCosts_36 rfl ?_
    refine r_iconst hM (pc' := 38) dX4_setCosts_37 rfl (by decide) ?_
    refine r_iand hM (pc' := 39) dX4_setCosts_38 rfl ?_
    refine r_iconst hM (pc' := 40) dX4_setCosts_39 rfl (by decide) ?_
    refine r_icmp_ne hM (pc' := 43) (tgt := 47) dX4_setCosts_40 rfl (by decide) (fun c => ?_) (fun c => ?_)
    · have h := h.1 c
      refine r_iconst hM (pc' := 48) dX4_setCosts_47 rfl (by decide) ?_
      exact h
    · have h := h.2 c
      refine r_iconst hM (pc' := 44) dX4_setCosts_43 rfl (by decide) ?_
      refine r_goto hM (tgt := 48) dX4_setCosts_44 (by decide) ?_
      exact h
set_option maxRecDepth 20000 in
theorem g_X4_setCosts_48 {G : GX} {d : Nat} {Ret : Option AV → St → Prop} {R : Nat → List AV → List AV → St → Prop} (hM : AM G wdX (d + 1) mX4_setCosts Ret R) (v1 : Int) (v2 : Int) (w0 : Int) (σ : St)
    (h : (r32 (v1 * 16) ∧ (r32 ((v1 * 16) + v2) ∧ ((w0 = 0 → ((0 ≤ ((v1 * 16) + v2) ∧ ((v1 * 16) + v2) < 256) ∧ (∀ τ1, τ1 = sI σ 10 (((v1 * 16) + v2)).toNat 16001 → (r32 (v2 + 1) ∧ R 15 [vR 4, vI v1, vI (v2 + 1), vN] [] τ1)))) ∧ (¬ w0 = 0 → ((0 ≤ v1 ∧ v1 < 16) ∧ ((0 ≤ v2 ∧ v2 < 16) ∧ conI G wdX d mX8_priceOf [vR 8, vI (σ.1 35 (v1).toNat), vI (σ.1 34 (v2).toNat)] σ (fun x1 σ1 => ((0 ≤ ((v1 * 16) + v2) ∧ ((v1 * 16) + v2) < 256) ∧ (∀ τ2, τ2 = sI σ1 10 (((v1 * 16) + v2)).toNat x1 → (r32 (v2 + 1) ∧ R 15 [vR 4, vI v1, vI (v2 + 1), vN] [] τ2))))))))))) : R 48 [vR 4, vI v1, vI v2, vN] [vI w0] σ := by
  refine r_istore_n hM (pc' := 49) dX4_setCosts_48 rfl (Nat.le_of_ble_eq_true rfl) rfl ?_
  show R 49 [vR 4, vI v1, vI v2, vI w0] _ _
  refine r_aload_n hM (pc' := 50) dX4_setCosts_49 rfl (x := 4) rfl ?_
  refine r_getR hM (pc' := 53) dX4_setCosts_50 rfl fl_X4_46 wx_4 rfl ?_
  refine r_getR hM (pc' := 56) dX4_setCosts_53 rfl fl_X4_105 wx_1 rfl ?_
  refine r_iload_n hM (pc' := 57) dX4_setCosts_56 rfl (x := v1) rfl ?_
  refine r_bipush hM (pc' := 59) dX4_setCosts_57 rfl (by decide) (by decide) ?_
  have o1 := h.1
  have h := h.2
  refine r_imul hM (pc' := 60) dX4_setCosts_59 rfl o1 ?_
  refine r_iload_n hM (pc' := 61) dX4_setCosts_60 rfl (x := v2) rfl ?_
  have o2 := h.1
  have h := h.2
  refine r_iadd hM (pc' := 62) dX4_setCosts_61 rfl o2 ?_
  refine r_iload_n hM (pc' := 63) dX4_setCosts_62 rfl (x := w0) rfl ?_
  refine r_if_eq hM (pc' := 66) (tgt := 94) dX4_setCosts_63 rfl (by decide) (fun c => ?_) (fun c => ?_)
  · have h := h.1 c
    refine r_sipush hM (pc' := 97) dX4_setCosts_94 rfl (by decide) (by decide) ?_
    have o3 := h.1
    have h := h.2
    refine r_iastore hM (pc' := 98) dX4_setCosts_97 rfl wx_10 o3 (fun τ1 e1 => ?_)
    have h := h τ1 e1
    have o4 := h.1
    have h := h.2
    refine r_iinc hM (pc' := 101) dX4_setCosts_98 rfl (x := v2) rfl rfl o4 ?_
    show R 101 [vR 4, vI v1, vI (v2 + 1), vI w0] _ _
    refine r_goto hM (tgt := 15) dX4_setCosts_101 (by decide) ?_
    refine r_weak hM (ls' := [vR 4, vI v1, vI (v2 + 1), vN]) ⟨Or.inl rfl, Or.inl rfl, Or.inl rfl, Or.inr rfl, trivial⟩ ?_
    exact h
  · have h := h.2 c
    refine r_aload_n hM (pc' := 67) dX4_setCosts_66 rfl (x := 4) rfl ?_
    refine r_getR hM (pc' := 70) dX4_setCosts_67 rfl fl_X4_50 wx_4 rfl ?_
    refine r_aload_n hM (pc' := 71) dX4_setCosts_70 rfl (x := 4) rfl ?_
    refine r_getR hM (pc' := 74) dX4_setCosts_71 rfl fl_X4_54 wx_4 rfl ?_
    refine r_getR hM (pc' := 77) dX4_setCosts_74 rfl fl_X4_76 wx_7 rfl ?_
    refine r_iload_n hM (pc' := 78) dX4_setCosts_77 rfl (x := v1) rfl ?_
    have o5 := h.1
    have h := h.2
    refine r_iaload hM (pc' := 79) dX4_setCosts_78 rfl wx_35 o5 ?_
    refine r_aload_n hM (pc' := 80) dX4_setCosts_79 rfl (x := 4) rfl ?_
    refine r_getR hM (pc' := 83) dX4_setCosts_80 rfl fl_X4_54 wx_4 rfl ?_
    refine r_getR hM (pc' := 86) dX4_setCosts_83 rfl fl_X4_79 wx_7 rfl ?_
    refine r_iload_n hM (pc' := 87) dX4_setCosts_86 rfl (x := v2) rfl ?_
    have o6 := h.1
    have h := h.2
    refine r_iaload hM (pc' := 88) dX4_setCosts_87 rfl wx_34 o6 ?_
    refine r_callVI hM (pc' := 91) [vI (σ.1 35 (v1).toNat), vI (σ.1 34 (v2).toNat)] dX4_setCosts_88 rfl ml_X4_82 wx_8 rfl rfl (Nat.le_of_ble_eq_true rfl) (conI.mono h (fun x1 σ1 h => ?_))
    refine r_goto hM (tgt := 97) dX4_setCosts_91 (by decide) ?_
    have o7 := h.1
    have h := h.2
    refine r_iastore hM (pc' := 98) dX4_setCosts_97 rfl wx_10 o7 (fun τ2 e2 => ?_)
    have h := h τ2 e2
    have o8 := h.1
    have h := h.2
    refine r_iinc hM (pc' := 101) dX4_setCosts_98 rfl (x := v2) rfl rfl o8 ?_
    show R 101 [vR 4, vI v1, vI (v2 + 1), vI w0] _ _
    refine r_goto hM (tgt := 15) dX4_setCosts_101 (by decide) ?_
    refine r_weak hM (ls' := [vR 4, vI v1, vI (v2 + 1), vN]) ⟨Or.inl rfl, Or.inl rfl, Or.inl rfl, Or.inr rfl, trivial⟩ ?_
    exact h
theorem dX4_leastNext_0 : decode cX4_leastNext 0 = .ok (.aload_n 0, 1) := by decide +kernel
theorem dX4_leastNext_1 : decode cX4_leastNext 1 = .ok (.getfield 37, 3) := by decide +kernel
theorem dX4_leastNext_4 : decode cX4_leastNext 4 = .ok (.getfield 108, 3) := by decide +kernel
theorem dX4_leastNext_7 : decode cX4_leastNext 7 = .ok (.iload_n 1, 1) := by decide +kernel
theorem dX4_leastNext_8 : decode cX4_leastNext 8 = .ok (.iaload, 1) := by decide +kernel
theorem dX4_leastNext_9 : decode cX4_leastNext 9 = .ok (.aload_n 0, 1) := by decide +kernel
theorem dX4_leastNext_10 : decode cX4_leastNext 10 = .ok (.getfield 58, 3) := by decide +kernel
theorem dX4_leastNext_13 : decode cX4_leastNext 13 = .ok (.getfield 100, 3) := by decide +kernel
theorem dX4_leastNext_16 : decode cX4_leastNext 16 = .ok (.iload_n 1, 1) := by decide +kernel
theorem dX4_leastNext_17 : decode cX4_leastNext 17 = .ok (.iaload, 1) := by decide +kernel
theorem dX4_leastNext_18 : decode cX4_leastNext 18 = .ok (.iand, 1) := by decide +kernel
theorem dX4_leastNext_19 : decode cX4_leastNext 19 = .ok (.istore_n 2, 1) := by decide +kernel
theorem dX4_leastNext_20 : decode cX4_leastNext 20 = .ok (.iconst 0, 1) := by decide +kernel
theorem dX4_leastNext_21 : decode cX4_leastNext 21 = .ok (.istore_n 3, 1) := by decide +kernel
theorem dX4_leastNext_22 : decode cX4_leastNext 22 = .ok (.iload_n 3, 1) := by decide +kernel
theorem dX4_leastNext_23 : decode cX4_leastNext 23 = .ok (.aload_n 0, 1) := by decide +kernel
theorem dX4_leastNext_24 : decode cX4_leastNext 24 = .ok (.getfield 54, 3) := by decide +kernel
theorem dX4_leastNext_27 : decode cX4_leastNext 27 = .ok (.getfield 65, 3) := by decide +kernel
theorem dX4_leastNext_30 : decode cX4_leastNext 30 = .ok (.if_icmp .ge 32, 3) := by decide +kernel
theorem dX4_leastNext_33 : decode cX4_leastNext 33 = .ok (.iload_n 2, 1) := by decide +kernel
theorem dX4_leastNext_34 : decode cX4_leastNext 34 = .ok (.iload_n 3, 1) := by decide +kernel
theorem dX4_leastNext_35 : decode cX4_leastNext 35 = .ok (.ishr, 1) := by decide +kernel
theorem dX4_leastNext_36 : decode cX4_leastNext 36 = .ok (.iconst 1, 1) := by decide +kernel
theorem dX4_leastNext_37 : decode cX4_leastNext 37 = .ok (.iand, 1) := by decide +kernel
theorem dX4_leastNext_38 : decode cX4_leastNext 38 = .ok (.iconst 1, 1) := by decide +kernel
theorem dX4_leastNext_39 : decode cX4_leastNext 39 = .ok (.if_icmp .ne 17, 3) := by decide +kernel
theorem dX4_leastNext_42 : decode cX4_leastNext 42 = .ok (.aload_n 0, 1) := by decide +kernel
theorem dX4_leastNext_43 : decode cX4_leastNext 43 = .ok (.getfield 37, 3) := by decide +kernel
theorem dX4_leastNext_46 : decode cX4_leastNext 46 = .ok (.iload_n 1, 1) := by decide +kernel
theorem dX4_leastNext_47 : decode cX4_leastNext 47 = .ok (.iload_n 3, 1) := by decide +kernel
theorem dX4_leastNext_48 : decode cX4_leastNext 48 = .ok (.invokevirtual 111, 3) := by decide +kernel
theorem dX4_leastNext_51 : decode cX4_leastNext 51 = .ok (.ifCond .eq 5, 3) := by decide +kernel
theorem dX4_leastNext_54 : decode cX4_leastNext 54 = .ok (.iload_n 3, 1) := by decide +kernel
theorem dX4_leastNext_55 : decode cX4_leastNext 55 = .ok (.ireturn, 1) := by decide +kernel
theorem dX4_leastNext_56 : decode cX4_leastNext 56 = .ok (.iinc 3 1, 3) := by decide +kernel
theorem dX4_leastNext_59 : decode cX4_leastNext 59 = .ok (.goto (-37), 3) := by decide +kernel
theorem dX4_leastNext_62 : decode cX4_leastNext 62 = .ok (.iconst (-1), 1) := by decide +kernel
theorem dX4_leastNext_63 : decode cX4_leastNext 63 = .ok (.ireturn, 1) := by decide +kernel
set_option maxRecDepth 20000 in
theorem g_X4_leastNext_0 {G : GX} {d : Nat} {Ret : Option AV → St → Prop} {R : Nat → List AV → List AV → St → Prop} (hM : AM G wdX (d + 1) mX4_leastNext Ret R) (v1 : Int) (σ : St)
    (h : ((0 ≤ v1 ∧ v1 < 16) ∧ (∀ u1, u1 = (bAnd (σ.1 17 (v1).toNat) (σ.1 15 (v1).toNat)) → R 22 [vR 4, vI v1, vI u1, vI 0] [] σ))) : R 0 [vR 4, vI v1, vN, vN] [] σ := by
  refine r_aload_n hM (pc' := 1) dX4_leastNext_0 rfl (x := 4) rfl ?_
  refine r_getR hM (pc' := 4) dX4_leastNext_1 rfl fl_X4_37 wx_4 rfl ?_
  refine r_getR hM (pc' := 7) dX4_leastNext_4 rfl fl_X4_108 wx_3 rfl ?_
  refine r_iload_n hM (pc' := 8) dX4_leastNext_7 rfl (x := v1) rfl ?_
  have o1 := h.1
  have h := h.2
  refine r_iaload hM (pc' := 9) dX4_leastNext_8 rfl wx_17 o1 ?_
  refine r_aload_n hM (pc' := 10) dX4_leastNext_9 rfl (x := 4) rfl ?_
  refine r_getR hM (pc' := 13) dX4_leastNext_10 rfl fl_X4_58 wx_4 rfl ?_
  refine r_getR hM (pc' := 16) dX4_leastNext_13 rfl fl_X4_100 wx_2 rfl ?_
  refine r_iload_n hM (pc' := 17) dX4_leastNext_16 rfl (x := v1) rfl ?_
  refine r_iaload hM (pc' := 18) dX4_leastNext_17 rfl wx_15 o1 ?_
  refine r_iand hM (pc' := 19) dX4_leastNext_18 rfl ?_
  refine r_istore_nN hM (pc' := 20) dX4_leastNext_19 rfl (Nat.le_of_ble_eq_true rfl) rfl (fun u1 eu1 => ?_)
  have h := h u1 eu1
  show R 20 [vR 4, vI v1, vI u1, vN] _ _
  refine r_iconst hM (pc' := 21) dX4_leastNext_20 rfl (by decide) ?_
  refine r_istore_n hM (pc' := 22) dX4_leastNext_21 rfl (Nat.le_of_ble_eq_true rfl) rfl ?_
  show R 22 [vR 4, vI v1, vI u1, vI 0] _ _
  exact h
set_option maxRecDepth 20000 in
theorem g_X4_leastNext_22 {G : GX} {d : Nat} {Ret : Option AV → St → Prop} {R : Nat → List AV → List AV → St → Prop} (hM : AM G wdX (d + 1) mX4_leastNext Ret R) (v1 : Int) (v2 : Int) (v3 : Int) (σ : St)
    (h : (((σ.1 7 4) ≤ v3 → Ret (some (vI (-1))) σ) ∧ (¬ (σ.1 7 4) ≤ v3 → ((¬ (bAnd (bShr v2 v3) 1) = 1 → (r32 (v3 + 1) ∧ R 22 [vR 4, vI v1, vI v2, vI (v3 + 1)] [] σ)) ∧ ((bAnd (bShr v2 v3) 1) = 1 → conI G wdX d mX3_bind [vR 3, vI v1, vI v3] σ (fun x1 σ1 => ((x1 = 0 → (r32 (v3 + 1) ∧ R 22 [vR 4, vI v1, vI v2, vI (v3 + 1)] [] σ1)) ∧ (¬ x1 = 0 → Ret (some (vI v3)) σ1)))))))) : R 22 [vR 4, vI v1, vI v2, vI v3] [] σ := by
  refine r_iload_n hM (pc' := 23) dX4_leastNext_22 rfl (x := v3) rfl ?_
  refine r_aload_n hM (pc' := 24) dX4_leastNext_23 rfl (x := 4) rfl ?_
  refine r_getR hM (pc' := 27) dX4_leastNext_24 rfl fl_X4_54 wx_4 rfl ?_
  refine r_getI hM (pc' := 30) dX4_leastNext_27 rfl fl_X4_65 wx_7 rfl ?_
  refine r_icmp_ge hM (pc' := 33) (tgt := 62) dX4_leastNext_30 rfl (by decide) (fun c => ?_) (fun c => ?_)
  · have h := h.1 c
    refine r_iconst hM (pc' := 63) dX4_leastNext_62 rfl (by decide) ?_
    exact r_ireturn hM dX4_leastNext_63 rfl h
  · have h := h.2 c
    refine r_iload_n hM (pc' := 34) dX4_leastNext_33 rfl (x := v2) rfl ?_
    refine r_iload_n hM (pc' := 35) dX4_leastNext_34 rfl (x := v3) rfl ?_
    refine r_ishr hM (pc' := 36) dX4_leastNext_35 rfl ?_
    refine r_iconst hM (pc' := 37) dX4_leastNext_36 rfl (by decide) ?_
    refine r_iand hM (pc' := 38) dX4_leastNext_37 rfl ?_
    refine r_iconst hM (pc' := 39) dX4_leastNext_38 rfl (by decide) ?_
    refine r_icmp_ne hM (pc' := 42) (tgt := 56) dX4_leastNext_39 rfl (by decide) (fun c => ?_) (fun c => ?_)
    · have h := h.1 c
      have o1 := h.1
      have h := h.2
      refine r_iinc hM (pc' := 59) dX4_leastNext_56 rfl (x := v3) rfl rfl o1 ?_
      show R 59 [vR 4, vI v1, vI v2, vI (v3 + 1)] _ _
      refine r_goto hM (tgt := 22) dX4_leastNext_59 (by decide) ?_
      exact h
    · have h := h.2 c
      refine r_aload_n hM (pc' := 43) dX4_leastNext_42 rfl (x := 4) rfl ?_
      refine r_getR hM (pc' := 46) dX4_leastNext_43 rfl fl_X4_37 wx_4 rfl ?_
      refine r_iload_n hM (pc' := 47) dX4_leastNext_46 rfl (x := v1) rfl ?_
      refine r_iload_n hM (pc' := 48) dX4_leastNext_47 rfl (x := v3) rfl ?_
      refine r_callVI hM (pc' := 51) [vI v1, vI v3] dX4_leastNext_48 rfl ml_X4_111 wx_3 rfl rfl (Nat.le_of_ble_eq_true rfl) (conI.mono h (fun x1 σ1 h => ?_))
      refine r_if_eq hM (pc' := 54) (tgt := 56) dX4_leastNext_51 rfl (by decide) (fun c => ?_) (fun c => ?_)
      · have h := h.1 c
        have o2 := h.1
        have h := h.2
        refine r_iinc hM (pc' := 59) dX4_leastNext_56 rfl (x := v3) rfl rfl o2 ?_
        show R 59 [vR 4, vI v1, vI v2, vI (v3 + 1)] _ _
        refine r_goto hM (tgt := 22) dX4_leastNext_59 (by decide) ?_
        exact h
      · have h := h.2 c
        refine r_iload_n hM (pc' := 55) dX4_leastNext_54 rfl (x := v3) rfl ?_
        exact r_ireturn hM dX4_leastNext_55 rfl h
theorem dX4_numberBlocks_0 : decode cX4_numberBlocks 0 = .ok (.iconst 0, 1) := by decide +kernel
theorem dX4_numberBlocks_1 : decode cX4_numberBlocks 1 = .ok (.istore_n 1, 1) := by decide +kernel
theorem dX4_numberBlocks_2 : decode cX4_numberBlocks 2 = .ok (.iconst 0, 1) := by decide +kernel
theorem dX4_numberBlocks_3 : decode cX4_numberBlocks 3 = .ok (.istore_n 2, 1) := by decide +kernel
theorem dX4_numberBlocks_4 : decode cX4_numberBlocks 4 = .ok (.iload_n 2, 1) := by decide +kernel
theorem dX4_numberBlocks_5 : decode cX4_numberBlocks 5 = .ok (.aload_n 0, 1) := by decide +kernel
theorem dX4_numberBlocks_6 : decode cX4_numberBlocks 6 = .ok (.getfield 54, 3) := by decide +kernel
theorem dX4_numberBlocks_9 : decode cX4_numberBlocks 9 = .ok (.getfield 65, 3) := by decide +kernel
theorem dX4_numberBlocks_12 : decode cX4_numberBlocks 12 = .ok (.if_icmp .ge 30, 3) := by decide +kernel
theorem dX4_numberBlocks_15 : decode cX4_numberBlocks 15 = .ok (.aload_n 0, 1) := by decide +kernel
theorem dX4_numberBlocks_16 : decode cX4_numberBlocks 16 = .ok (.getfield 9, 3) := by decide +kernel
theorem dX4_numberBlocks_19 : decode cX4_numberBlocks 19 = .ok (.iload_n 2, 1) := by decide +kernel
theorem dX4_numberBlocks_20 : decode cX4_numberBlocks 20 = .ok (.iaload, 1) := by decide +kernel
theorem dX4_numberBlocks_21 : decode cX4_numberBlocks 21 = .ok (.iconst (-1), 1) := by decide +kernel
theorem dX4_numberBlocks_22 : decode cX4_numberBlocks 22 = .ok (.if_icmp .eq 14, 3) := by decide +kernel
theorem dX4_numberBlocks_25 : decode cX4_numberBlocks 25 = .ok (.iload_n 1, 1) := by decide +kernel
theorem dX4_numberBlocks_26 : decode cX4_numberBlocks 26 = .ok (.iconst 1, 1) := by decide +kernel
theorem dX4_numberBlocks_27 : decode cX4_numberBlocks 27 = .ok (.aload_n 0, 1) := by decide +kernel
theorem dX4_numberBlocks_28 : decode cX4_numberBlocks 28 = .ok (.getfield 9, 3) := by decide +kernel
theorem dX4_numberBlocks_31 : decode cX4_numberBlocks 31 = .ok (.iload_n 2, 1) := by decide +kernel
theorem dX4_numberBlocks_32 : decode cX4_numberBlocks 32 = .ok (.iaload, 1) := by decide +kernel
theorem dX4_numberBlocks_33 : decode cX4_numberBlocks 33 = .ok (.ishl, 1) := by decide +kernel
theorem dX4_numberBlocks_34 : decode cX4_numberBlocks 34 = .ok (.ior, 1) := by decide +kernel
theorem dX4_numberBlocks_35 : decode cX4_numberBlocks 35 = .ok (.istore_n 1, 1) := by decide +kernel
theorem dX4_numberBlocks_36 : decode cX4_numberBlocks 36 = .ok (.iinc 2 1, 3) := by decide +kernel
theorem dX4_numberBlocks_39 : decode cX4_numberBlocks 39 = .ok (.goto (-35), 3) := by decide +kernel
theorem dX4_numberBlocks_42 : decode cX4_numberBlocks 42 = .ok (.aload_n 0, 1) := by decide +kernel
theorem dX4_numberBlocks_43 : decode cX4_numberBlocks 43 = .ok (.iconst 0, 1) := by decide +kernel
theorem dX4_numberBlocks_44 : decode cX4_numberBlocks 44 = .ok (.putfield 21, 3) := by decide +kernel
theorem dX4_numberBlocks_47 : decode cX4_numberBlocks 47 = .ok (.iconst 0, 1) := by decide +kernel
theorem dX4_numberBlocks_48 : decode cX4_numberBlocks 48 = .ok (.istore_n 2, 1) := by decide +kernel
theorem dX4_numberBlocks_49 : decode cX4_numberBlocks 49 = .ok (.iconst 0, 1) := by decide +kernel
theorem dX4_numberBlocks_50 : decode cX4_numberBlocks 50 = .ok (.istore_n 3, 1) := by decide +kernel
theorem dX4_numberBlocks_51 : decode cX4_numberBlocks 51 = .ok (.iload_n 3, 1) := by decide +kernel
theorem dX4_numberBlocks_52 : decode cX4_numberBlocks 52 = .ok (.aload_n 0, 1) := by decide +kernel
theorem dX4_numberBlocks_53 : decode cX4_numberBlocks 53 = .ok (.getfield 54, 3) := by decide +kernel
theorem dX4_numberBlocks_56 : decode cX4_numberBlocks 56 = .ok (.getfield 65, 3) := by decide +kernel
theorem dX4_numberBlocks_59 : decode cX4_numberBlocks 59 = .ok (.if_icmp .ge 44, 3) := by decide +kernel
theorem dX4_numberBlocks_62 : decode cX4_numberBlocks 62 = .ok (.iload_n 1, 1) := by decide +kernel
theorem dX4_numberBlocks_63 : decode cX4_numberBlocks 63 = .ok (.iload_n 3, 1) := by decide +kernel
theorem dX4_numberBlocks_64 : decode cX4_numberBlocks 64 = .ok (.ishr, 1) := by decide +kernel
theorem dX4_numberBlocks_65 : decode cX4_numberBlocks 65 = .ok (.iconst 1, 1) := by decide +kernel
theorem dX4_numberBlocks_66 : decode cX4_numberBlocks 66 = .ok (.iand, 1) := by decide +kernel
theorem dX4_numberBlocks_67 : decode cX4_numberBlocks 67 = .ok (.ifCond .ne 30, 3) := by decide +kernel
theorem dX4_numberBlocks_70 : decode cX4_numberBlocks 70 = .ok (.aload_n 0, 1) := by decide +kernel
theorem dX4_numberBlocks_71 : decode cX4_numberBlocks 71 = .ok (.getfield 31, 3) := by decide +kernel
theorem dX4_numberBlocks_74 : decode cX4_numberBlocks 74 = .ok (.aload_n 0, 1) := by decide +kernel
theorem dX4_numberBlocks_75 : decode cX4_numberBlocks 75 = .ok (.getfield 21, 3) := by decide +kernel
theorem dX4_numberBlocks_78 : decode cX4_numberBlocks 78 = .ok (.iload_n 2, 1) := by decide +kernel
theorem dX4_numberBlocks_79 : decode cX4_numberBlocks 79 = .ok (.iastore, 1) := by decide +kernel
theorem dX4_numberBlocks_80 : decode cX4_numberBlocks 80 = .ok (.aload_n 0, 1) := by decide +kernel
theorem dX4_numberBlocks_81 : decode cX4_numberBlocks 81 = .ok (.iload_n 3, 1) := by decide +kernel
theorem dX4_numberBlocks_82 : decode cX4_numberBlocks 82 = .ok (.iload_n 2, 1) := by decide +kernel
theorem dX4_numberBlocks_83 : decode cX4_numberBlocks 83 = .ok (.invokevirtual 115, 3) := by decide +kernel
theorem dX4_numberBlocks_86 : decode cX4_numberBlocks 86 = .ok (.istore_n 2, 1) := by decide +kernel
theorem dX4_numberBlocks_87 : decode cX4_numberBlocks 87 = .ok (.aload_n 0, 1) := by decide +kernel
theorem dX4_numberBlocks_88 : decode cX4_numberBlocks 88 = .ok (.dup, 1) := by decide +kernel
theorem dX4_numberBlocks_89 : decode cX4_numberBlocks 89 = .ok (.getfield 21, 3) := by decide +kernel
theorem dX4_numberBlocks_92 : decode cX4_numberBlocks 92 = .ok (.iconst 1, 1) := by decide +kernel
theorem dX4_numberBlocks_93 : decode cX4_numberBlocks 93 = .ok (.iadd, 1) := by decide +kernel
theorem dX4_numberBlocks_94 : decode cX4_numberBlocks 94 = .ok (.putfield 21, 3) := by decide +kernel
theorem dX4_numberBlocks_97 : decode cX4_numberBlocks 97 = .ok (.iinc 3 1, 3) := by decide +kernel
theorem dX4_numberBlocks_100 : decode cX4_numberBlocks 100 = .ok (.goto (-49), 3) := by decide +kernel
theorem dX4_numberBlocks_103 : decode cX4_numberBlocks 103 = .ok (.aload_n 0, 1) := by decide +kernel
theorem dX4_numberBlocks_104 : decode cX4_numberBlocks 104 = .ok (.getfield 31, 3) := by decide +kernel
theorem dX4_numberBlocks_107 : decode cX4_numberBlocks 107 = .ok (.aload_n 0, 1) := by decide +kernel
theorem dX4_numberBlocks_108 : decode cX4_numberBlocks 108 = .ok (.getfield 21, 3) := by decide +kernel
theorem dX4_numberBlocks_111 : decode cX4_numberBlocks 111 = .ok (.iload_n 2, 1) := by decide +kernel
theorem dX4_numberBlocks_112 : decode cX4_numberBlocks 112 = .ok (.iastore, 1) := by decide +kernel
theorem dX4_numberBlocks_113 : decode cX4_numberBlocks 113 = .ok (.return_, 1) := by decide +kernel
set_option maxRecDepth 20000 in
theorem g_X4_numberBlocks_0 {G : GX} {d : Nat} {Ret : Option AV → St → Prop} {R : Nat → List AV → List AV → St → Prop} (hM : AM G wdX (d + 1) mX4_numberBlocks Ret R) (σ : St)
    (h : R 4 [vR 4, vI 0, vI 0, vN] [] σ) : R 0 [vR 4, vN, vN, vN] [] σ := by
  refine r_iconst hM (pc' := 1) dX4_numberBlocks_0 rfl (by decide) ?_
  refine r_istore_n hM (pc' := 2) dX4_numberBlocks_1 rfl (Nat.le_of_ble_eq_true rfl) rfl ?_
  show R 2 [vR 4, vI 0, vN, vN] _ _
  refine r_iconst hM (pc' := 3) dX4_numberBlocks_2 rfl (by decide) ?_
  refine r_istore_n hM (pc' := 4) dX4_numberBlocks_3 rfl (Nat.le_of_ble_eq_true rfl) rfl ?_
  show R 4 [vR 4, vI 0, vI 0, vN] _ _
  exact h
set_option maxRecDepth 20000 in
theorem g_X4_numberBlocks_4 {G : GX} {d : Nat} {Ret : Option AV → St → Prop} {R : Nat → List AV → List AV → St → Prop} (hM : AM G wdX (d + 1) mX4_numberBlocks Ret R) (v1 : Int) (v2 : Int) (σ : St)
    (h : (((σ.1 7 4) ≤ v2 → (∀ τ1, τ1 = sI σ 4 3 0 → R 51 [vR 4, vI v1, vI 0, vI 0] [] τ1)) ∧ (¬ (σ.1 7 4) ≤ v2 → ((0 ≤ v2 ∧ v2 < 16) ∧ (((σ.1 20 (v2).toNat) = (-1) → (r32 (v2 + 1) ∧ R 4 [vR 4, vI v1, vI (v2 + 1), vN] [] σ)) ∧ (¬ (σ.1 20 (v2).toNat) = (-1) → (∀ u1, u1 = (bOr v1 (bShl 1 (σ.1 20 (v2).toNat))) → (r32 (v2 + 1) ∧ R 4 [vR 4, vI u1, vI (v2 + 1), vN] [] σ)))))))) : R 4 [vR 4, vI v1, vI v2, vN] [] σ := by
  refine r_iload_n hM (pc' := 5) dX4_numberBlocks_4 rfl (x := v2) rfl ?_
  refine r_aload_n hM (pc' := 6) dX4_numberBlocks_5 rfl (x := 4) rfl ?_
  refine r_getR hM (pc' := 9) dX4_numberBlocks_6 rfl fl_X4_54 wx_4 rfl ?_
  refine r_getI hM (pc' := 12) dX4_numberBlocks_9 rfl fl_X4_65 wx_7 rfl ?_
  refine r_icmp_ge hM (pc' := 15) (tgt := 42) dX4_numberBlocks_12 rfl (by decide) (fun c => ?_) (fun c => ?_)
  · have h := h.1 c
    refine r_aload_n hM (pc' := 43) dX4_numberBlocks_42 rfl (x := 4) rfl ?_
    refine r_iconst hM (pc' := 44) dX4_numberBlocks_43 rfl (by decide) ?_
    refine r_putI hM (pc' := 47) dX4_numberBlocks_44 rfl fp_X4_21 wx_4 rfl (fun τ1 e1 => ?_)
    have h := h τ1 e1
    refine r_iconst hM (pc' := 48) dX4_numberBlocks_47 rfl (by decide) ?_
    refine r_istore_n hM (pc' := 49) dX4_numberBlocks_48 rfl (Nat.le_of_ble_eq_true rfl) rfl ?_
    show R 49 [vR 4, vI v1, vI 0, vN] _ _
    refine r_iconst hM (pc' := 50) dX4_numberBlocks_49 rfl (by decide) ?_
    refine r_istore_n hM (pc' := 51) dX4_numberBlocks_50 rfl (Nat.le_of_ble_eq_true rfl) rfl ?_
    show R 51 [vR 4, vI v1, vI 0, vI 0] _ _
    exact h
  · have h := h.2 c
    refine r_aload_n hM (pc' := 16) dX4_numberBlocks_15 rfl (x := 4) rfl ?_
    refine r_getR hM (pc' := 19) dX4_numberBlocks_16 rfl fl_X4_9 wx_4 rfl ?_
    refine r_iload_n hM (pc' := 20) dX4_numberBlocks_19 rfl (x := v2) rfl ?_
    have o1 := h.1
    have h := h.2
    refine r_iaload hM (pc' := 21) dX4_numberBlocks_20 rfl wx_20 o1 ?_
    refine r_iconst hM (pc' := 22) dX4_numberBlocks_21 rfl (by decide) ?_
    refine r_icmp_eq hM (pc' := 25) (tgt := 36) dX4_numberBlocks_22 rfl (by decide) (fun c => ?_) (fun c => ?_)
    · have h := h.1 c
      have o2 := h.1
      have h := h.2
      refine r_iinc hM (pc' := 39) dX4_numberBlocks_36 rfl (x := v2) rfl rfl o2 ?_
      show R 39 [vR 4, vI v1, vI (v2 + 1), vN] _ _
      refine r_goto hM (tgt := 4) dX4_numberBlocks_39 (by decide) ?_
      exact h
    · have h := h.2 c
      refine r_iload_n hM (pc' := 26) dX4_numberBlocks_25 rfl (x := v1) rfl ?_
      refine r_iconst hM (pc' := 27) dX4_numberBlocks_26 rfl (by decide) ?_
      refine r_aload_n hM (pc' := 28) dX4_numberBlocks_27 rfl (x := 4) rfl ?_
      refine r_getR hM (pc' := 31) dX4_numberBlocks_28 rfl fl_X4_9 wx_4 rfl ?_
      refine r_iload_n hM (pc' := 32) dX4_numberBlocks_31 rfl (x := v2) rfl ?_
      refine r_iaload hM (pc' := 33) dX4_numberBlocks_32 rfl wx_20 o1 ?_
      refine r_ishl hM (pc' := 34) dX4_numberBlocks_33 rfl ?_
      refine r_ior hM (pc' := 35) dX4_numberBlocks_34 rfl ?_
      refine r_istore_nN hM (pc' := 36) dX4_numberBlocks_35 rfl (Nat.le_of_ble_eq_true rfl) rfl (fun u1 eu1 => ?_)
      have h := h u1 eu1
      show R 36 [vR 4, vI u1, vI v2, vN] _ _
      have o3 := h.1
      have h := h.2
      refine r_iinc hM (pc' := 39) dX4_numberBlocks_36 rfl (x := v2) rfl rfl o3 ?_
      show R 39 [vR 4, vI u1, vI (v2 + 1), vN] _ _
      refine r_goto hM (tgt := 4) dX4_numberBlocks_39 (by decide) ?_
      exact h
set_option maxRecDepth 20000 in
theorem g_X4_numberBlocks_51 {G : GX} {d : Nat} {Ret : Option AV → St → Prop} {R : Nat → List AV → List AV → St → Prop} (hM : AM G wdX (d + 1) mX4_numberBlocks Ret R) (v1 : Int) (v2 : Int) (v3 : Int) (σ : St)
    (h : (((σ.1 7 4) ≤ v3 → ((0 ≤ (σ.1 4 3) ∧ (σ.1 4 3) < 17) ∧ (∀ τ1, τ1 = sI σ 24 ((σ.1 4 3)).toNat v2 → Ret none τ1))) ∧ (¬ (σ.1 7 4) ≤ v3 → ((¬ (bAnd (bShr v1 v3) 1) = 0 → (r32 (v3 + 1) ∧ R 51 [vR 4, vI v1, vI v2, vI (v3 + 1)] [] σ)) ∧ ((bAnd (bShr v1 v3) 1) = 0 → ((0 ≤ (σ.1 4 3) ∧ (σ.1 4 3) < 17) ∧ (∀ τ2, τ2 = sI σ 24 ((σ.1 4 3)).toNat v2 → conI G wdX d mX4_fillBlock [vR 4, vI v3, vI v2] τ2 (fun x1 σ1 => (r32 ((σ1.1 4 3) + 1) ∧ (∀ τ3, τ3 = sI σ1 4 3 ((σ1.1 4 3) + 1) → (r32 (v3 + 1) ∧ R 51 [vR 4, vI v1, vI x1, vI (v3 + 1)] [] τ3))))))))))) : R 51 [vR 4, vI v1, vI v2, vI v3] [] σ := by
  refine r_iload_n hM (pc' := 52) dX4_numberBlocks_51 rfl (x := v3) rfl ?_
  refine r_aload_n hM (pc' := 53) dX4_numberBlocks_52 rfl (x := 4) rfl ?_
  refine r_getR hM (pc' := 56) dX4_numberBlocks_53 rfl fl_X4_54 wx_4 rfl ?_
  refine r_getI hM (pc' := 59) dX4_numberBlocks_56 rfl fl_X4_65 wx_7 rfl ?_
  refine r_icmp_ge hM (pc' := 62) (tgt := 103) dX4_numberBlocks_59 rfl (by decide) (fun c => ?_) (fun c => ?_)
  · have h := h.1 c
    refine r_aload_n hM (pc' := 104) dX4_numberBlocks_103 rfl (x := 4) rfl ?_
    refine r_getR hM (pc' := 107) dX4_numberBlocks_104 rfl fl_X4_31 wx_4 rfl ?_
    refine r_aload_n hM (pc' := 108) dX4_numberBlocks_107 rfl (x := 4) rfl ?_
    refine r_getI hM (pc' := 111) dX4_numberBlocks_108 rfl fl_X4_21 wx_4 rfl ?_
    refine r_iload_n hM (pc' := 112) dX4_numberBlocks_111 rfl (x := v2) rfl ?_
    have o1 := h.1
    have h := h.2
    refine r_iastore hM (pc' := 113) dX4_numberBlocks_112 rfl wx_24 o1 (fun τ1 e1 => ?_)
    have h := h τ1 e1
    exact r_return hM dX4_numberBlocks_113 rfl h
  · have h := h.2 c
    refine r_iload_n hM (pc' := 63) dX4_numberBlocks_62 rfl (x := v1) rfl ?_
    refine r_iload_n hM (pc' := 64) dX4_numberBlocks_63 rfl (x := v3) rfl ?_
    refine r_ishr hM (pc' := 65) dX4_numberBlocks_64 rfl ?_
    refine r_iconst hM (pc' := 66) dX4_numberBlocks_65 rfl (by decide) ?_
    refine r_iand hM (pc' := 67) dX4_numberBlocks_66 rfl ?_
    refine r_if_ne hM (pc' := 70) (tgt := 97) dX4_numberBlocks_67 rfl (by decide) (fun c => ?_) (fun c => ?_)
    · have h := h.1 c
      have o2 := h.1
      have h := h.2
      refine r_iinc hM (pc' := 100) dX4_numberBlocks_97 rfl (x := v3) rfl rfl o2 ?_
      show R 100 [vR 4, vI v1, vI v2, vI (v3 + 1)] _ _
      refine r_goto hM (tgt := 51) dX4_numberBlocks_100 (by decide) ?_
      exact h
    · have h := h.2 c
      refine r_aload_n hM (pc' := 71) dX4_numberBlocks_70 rfl (x := 4) rfl ?_
      refine r_getR hM (pc' := 74) dX4_numberBlocks_71 rfl fl_X4_31 wx_4 rfl ?_
      refine r_aload_n hM (pc' := 75) dX4_numberBlocks_74 rfl (x := 4) rfl ?_
      refine r_getI hM (pc' := 78) dX4_numberBlocks_75 rfl fl_X4_21 wx_4 rfl ?_
      refine r_iload_n hM (pc' := 79) dX4_numberBlocks_78 rfl (x := v2) rfl ?_
      have o3 := h.1
      have h := h.2
      refine r_iastore hM (pc' := 80) dX4_numberBlocks_79 rfl wx_24 o3 (fun τ2 e2 => ?_)
      have h := h τ2 e2
      refine r_aload_n hM (pc' := 81) dX4_numberBlocks_80 rfl (x := 4) rfl ?_
      refine r_iload_n hM (pc' := 82) dX4_numberBlocks_81 rfl (x := v3) rfl ?_
      refine r_iload_n hM (pc' := 83) dX4_numberBlocks_82 rfl (x := v2) rfl ?_
      refine r_callVI hM (pc' := 86) [vI v3, vI v2] dX4_numberBlocks_83 rfl ml_X4_115 wx_4 rfl rfl (Nat.le_of_ble_eq_true rfl) (conI.mono h (fun x1 σ1 h => ?_))
      refine r_istore_n hM (pc' := 87) dX4_numberBlocks_86 rfl (Nat.le_of_ble_eq_true rfl) rfl ?_
      show R 87 [vR 4, vI v1, vI x1, vI v3] _ _
      refine r_aload_n hM (pc' := 88) dX4_numberBlocks_87 rfl (x := 4) rfl ?_
      refine r_dup hM (pc' := 89) dX4_numberBlocks_88 rfl (fun _ => rfl) ?_
      refine r_getI hM (pc' := 92) dX4_numberBlocks_89 rfl fl_X4_21 wx_4 rfl ?_
      refine r_iconst hM (pc' := 93) dX4_numberBlocks_92 rfl (by decide) ?_
      have o4 := h.1
      have h := h.2
      refine r_iadd hM (pc' := 94) dX4_numberBlocks_93 rfl o4 ?_
      refine r_putI hM (pc' := 97) dX4_numberBlocks_94 rfl fp_X4_21 wx_4 rfl (fun τ3 e3 => ?_)
      have h := h τ3 e3
      have o5 := h.1
      have h := h.2
      refine r_iinc hM (pc' := 100) dX4_numberBlocks_97 rfl (x := v3) rfl rfl o5 ?_
      show R 100 [vR 4, vI v1, vI x1, vI (v3 + 1)] _ _
      refine r_goto hM (tgt := 51) dX4_numberBlocks_100 (by decide) ?_
      exact h
theorem dX4_fillBlock_0 : decode cX4_fillBlock 0 = .ok (.iload_n 1, 1) := by decide +kernel
theorem dX4_fillBlock_1 : decode cX4_fillBlock 1 = .ok (.istore_n 3, 1) := by decide +kernel
theorem dX4_fillBlock_2 : decode cX4_fillBlock 2 = .ok (.iload_n 2, 1) := by decide +kernel
theorem dX4_fillBlock_3 : decode cX4_fillBlock 3 = .ok (.istore 4, 2) := by decide +kernel
theorem dX4_fillBlock_5 : decode cX4_fillBlock 5 = .ok (.iload_n 3, 1) := by decide +kernel
theorem dX4_fillBlock_6 : decode cX4_fillBlock 6 = .ok (.iconst (-1), 1) := by decide +kernel
theorem dX4_fillBlock_7 : decode cX4_fillBlock 7 = .ok (.if_icmp .eq 41, 3) := by decide +kernel
theorem dX4_fillBlock_10 : decode cX4_fillBlock 10 = .ok (.iload 4, 2) := by decide +kernel
theorem dX4_fillBlock_12 : decode cX4_fillBlock 12 = .ok (.bipush 16, 2) := by decide +kernel
theorem dX4_fillBlock_14 : decode cX4_fillBlock 14 = .ok (.if_icmp .ge 34, 3) := by decide +kernel
theorem dX4_fillBlock_17 : decode cX4_fillBlock 17 = .ok (.aload_n 0, 1) := by decide +kernel
theorem dX4_fillBlock_18 : decode cX4_fillBlock 18 = .ok (.getfield 28, 3) := by decide +kernel
theorem dX4_fillBlock_21 : decode cX4_fillBlock 21 = .ok (.iload 4, 2) := by decide +kernel
theorem dX4_fillBlock_23 : decode cX4_fillBlock 23 = .ok (.iload_n 3, 1) := by decide +kernel
theorem dX4_fillBlock_24 : decode cX4_fillBlock 24 = .ok (.iastore, 1) := by decide +kernel
theorem dX4_fillBlock_25 : decode cX4_fillBlock 25 = .ok (.aload_n 0, 1) := by decide +kernel
theorem dX4_fillBlock_26 : decode cX4_fillBlock 26 = .ok (.getfield 18, 3) := by decide +kernel
theorem dX4_fillBlock_29 : decode cX4_fillBlock 29 = .ok (.iload_n 3, 1) := by decide +kernel
theorem dX4_fillBlock_30 : decode cX4_fillBlock 30 = .ok (.aload_n 0, 1) := by decide +kernel
theorem dX4_fillBlock_31 : decode cX4_fillBlock 31 = .ok (.getfield 21, 3) := by decide +kernel
theorem dX4_fillBlock_34 : decode cX4_fillBlock 34 = .ok (.iastore, 1) := by decide +kernel
theorem dX4_fillBlock_35 : decode cX4_fillBlock 35 = .ok (.iinc 4 1, 3) := by decide +kernel
theorem dX4_fillBlock_38 : decode cX4_fillBlock 38 = .ok (.aload_n 0, 1) := by decide +kernel
theorem dX4_fillBlock_39 : decode cX4_fillBlock 39 = .ok (.getfield 9, 3) := by decide +kernel
theorem dX4_fillBlock_42 : decode cX4_fillBlock 42 = .ok (.iload_n 3, 1) := by decide +kernel
theorem dX4_fillBlock_43 : decode cX4_fillBlock 43 = .ok (.iaload, 1) := by decide +kernel
theorem dX4_fillBlock_44 : decode cX4_fillBlock 44 = .ok (.istore_n 3, 1) := by decide +kernel
theorem dX4_fillBlock_45 : decode cX4_fillBlock 45 = .ok (.goto (-40), 3) := by decide +kernel
theorem dX4_fillBlock_48 : decode cX4_fillBlock 48 = .ok (.iload 4, 2) := by decide +kernel
theorem dX4_fillBlock_50 : decode cX4_fillBlock 50 = .ok (.ireturn, 1) := by decide +kernel
set_option maxRecDepth 20000 in
theorem g_X4_fillBlock_0 {G : GX} {d : Nat} {Ret : Option AV → St → Prop} {R : Nat → List AV → List AV → St → Prop} (hM : AM G wdX d mX4_fillBlock Ret R) (v1 : Int) (v2 : Int) (σ : St)
    (h : R 5 [vR 4, vN, vN, vI v1, vI v2] [] σ) : R 0 [vR 4, vI v1, vI v2, vN, vN] [] σ := by
  refine r_iload_n hM (pc' := 1) dX4_fillBlock_0 rfl (x := v1) rfl ?_
  refine r_istore_n hM (pc' := 2) dX4_fillBlock_1 rfl (Nat.le_of_ble_eq_true rfl) rfl ?_
  show R 2 [vR 4, vI v1, vI v2, vI v1, vN] _ _
  refine r_iload_n hM (pc' := 3) dX4_fillBlock_2 rfl (x := v2) rfl ?_
  refine r_istore hM (pc' := 5) dX4_fillBlock_3 rfl (Nat.le_of_ble_eq_true rfl) rfl ?_
  show R 5 [vR 4, vI v1, vI v2, vI v1, vI v2] _ _
  refine r_weak hM (ls' := [vR 4, vN, vN, vI v1, vI v2]) ⟨Or.inl rfl, Or.inr rfl, Or.inr rfl, Or.inl rfl, Or.inl rfl, trivial⟩ ?_
  exact h
set_option maxRecDepth 20000 in
theorem g_X4_fillBlock_5 {G : GX} {d : Nat} {Ret : Option AV → St → Prop} {R : Nat → List AV → List AV → St → Prop} (hM : AM G wdX d mX4_fillBlock Ret R) (v3 : Int) (v4 : Int) (σ : St)
    (h : ((v3 = (-1) → Ret (some (vI v4)) σ) ∧ (¬ v3 = (-1) → ((16 ≤ v4 → Ret (some (vI v4)) σ) ∧ (¬ 16 ≤ v4 → ((0 ≤ v4 ∧ v4 < 16) ∧ (∀ τ1, τ1 = sI σ 23 (v4).toNat v3 → ((0 ≤ v3 ∧ v3 < 16) ∧ (∀ τ2, τ2 = sI τ1 22 (v3).toNat (τ1.1 4 3) → (r32 (v4 + 1) ∧ R 5 [vR 4, vN, vN, vI (τ2.1 20 (v3).toNat), vI (v4 + 1)] [] τ2)))))))))) : R 5 [vR 4, vN, vN, vI v3, vI v4] [] σ := by
  refine r_iload_n hM (pc' := 6) dX4_fillBlock_5 rfl (x := v3) rfl ?_
  refine r_iconst hM (pc' := 7) dX4_fillBlock_6 rfl (by decide) ?_
  refine r_icmp_eq hM (pc' := 10) (tgt := 48) dX4_fillBlock_7 rfl (by decide) (fun c => ?_) (fun c => ?_)
  · have h := h.1 c
    refine r_iload hM (pc' := 50) dX4_fillBlock_48 rfl (x := v4) rfl ?_
    exact r_ireturn hM dX4_fillBlock_50 rfl h
  · have h := h.2 c
    refine r_iload hM (pc' := 12) dX4_fillBlock_10 rfl (x := v4) rfl ?_
    refine r_bipush hM (pc' := 14) dX4_fillBlock_12 rfl (by decide) (by decide) ?_
    refine r_icmp_ge hM (pc' := 17) (tgt := 48) dX4_fillBlock_14 rfl (by decide) (fun c => ?_) (fun c => ?_)
    · have h := h.1 c
      refine r_iload hM (pc' := 50) dX4_fillBlock_48 rfl (x := v4) rfl ?_
      exact r_ireturn hM dX4_fillBlock_50 rfl h
    · have h := h.2 c
      refine r_aload_n hM (pc' := 18) dX4_fillBlock_17 rfl (x := 4) rfl ?_
      refine r_getR hM (pc' := 21) dX4_fillBlock_18 rfl fl_X4_28 wx_4 rfl ?_
      refine r_iload hM (pc' := 23) dX4_fillBlock_21 rfl (x := v4) rfl ?_
      refine r_iload_n hM (pc' := 24) dX4_fillBlock_23 rfl (x := v3) rfl ?_
      have o1 := h.1
      have h := h.2
      refine r_iastore hM (pc' := 25) dX4_fillBlock_24 rfl wx_23 o1 (fun τ1 e1 => ?_)
      have h := h τ1 e1
      refine r_aload_n hM (pc' := 26) dX4_fillBlock_25 rfl (x := 4) rfl ?_
      refine r_getR hM (pc' := 29) dX4_fillBlock_26 rfl fl_X4_18 wx_4 rfl ?_
      refine r_iload_n hM (pc' := 30) dX4_fillBlock_29 rfl (x := v3) rfl ?_
      refine r_aload_n hM (pc' := 31) dX4_fillBlock_30 rfl (x := 4) rfl ?_
      refine r_getI hM (pc' := 34) dX4_fillBlock_31 rfl fl_X4_21 wx_4 rfl ?_
      have o2 := h.1
      have h := h.2
      refine r_iastore hM (pc' := 35) dX4_fillBlock_34 rfl wx_22 o2 (fun τ2 e2 => ?_)
      have h := h τ2 e2
      have o3 := h.1
      have h := h.2
      refine r_iinc hM (pc' := 38) dX4_fillBlock_35 rfl (x := v4) rfl rfl o3 ?_
      show R 38 [vR 4, vN, vN, vI v3, vI (v4 + 1)] _ _
      refine r_aload_n hM (pc' := 39) dX4_fillBlock_38 rfl (x := 4) rfl ?_
      refine r_getR hM (pc' := 42) dX4_fillBlock_39 rfl fl_X4_9 wx_4 rfl ?_
      refine r_iload_n hM (pc' := 43) dX4_fillBlock_42 rfl (x := v3) rfl ?_
      refine r_iaload hM (pc' := 44) dX4_fillBlock_43 rfl wx_20 o2 ?_
      refine r_istore_n hM (pc' := 45) dX4_fillBlock_44 rfl (Nat.le_of_ble_eq_true rfl) rfl ?_
      show R 45 [vR 4, vN, vN, vI (τ2.1 20 (v3).toNat), vI (v4 + 1)] _ _
      refine r_goto hM (tgt := 5) dX4_fillBlock_45 (by decide) ?_
      exact h
theorem dX4_sizeOf_0 : decode cX4_sizeOf 0 = .ok (.iload_n 1, 1) := by decide +kernel
theorem dX4_sizeOf_1 : decode cX4_sizeOf 1 = .ok (.ifCond .lt 29, 3) := by decide +kernel
theorem dX4_sizeOf_4 : decode cX4_sizeOf 4 = .ok (.iload_n 1, 1) := by decide +kernel
theorem dX4_sizeOf_5 : decode cX4_sizeOf 5 = .ok (.aload_n 0, 1) := by decide +kernel
theorem dX4_sizeOf_6 : decode cX4_sizeOf 6 = .ok (.getfield 21, 3) := by decide +kernel
theorem dX4_sizeOf_9 : decode cX4_sizeOf 9 = .ok (.if_icmp .ge 21, 3) := by decide +kernel
theorem dX4_sizeOf_12 : decode cX4_sizeOf 12 = .ok (.aload_n 0, 1) := by decide +kernel
theorem dX4_sizeOf_13 : decode cX4_sizeOf 13 = .ok (.getfield 31, 3) := by decide +kernel
theorem dX4_sizeOf_16 : decode cX4_sizeOf 16 = .ok (.iload_n 1, 1) := by decide +kernel
theorem dX4_sizeOf_17 : decode cX4_sizeOf 17 = .ok (.iconst 1, 1) := by decide +kernel
theorem dX4_sizeOf_18 : decode cX4_sizeOf 18 = .ok (.iadd, 1) := by decide +kernel
theorem dX4_sizeOf_19 : decode cX4_sizeOf 19 = .ok (.iaload, 1) := by decide +kernel
theorem dX4_sizeOf_20 : decode cX4_sizeOf 20 = .ok (.aload_n 0, 1) := by decide +kernel
theorem dX4_sizeOf_21 : decode cX4_sizeOf 21 = .ok (.getfield 31, 3) := by decide +kernel
theorem dX4_sizeOf_24 : decode cX4_sizeOf 24 = .ok (.iload_n 1, 1) := by decide +kernel
theorem dX4_sizeOf_25 : decode cX4_sizeOf 25 = .ok (.iaload, 1) := by decide +kernel
theorem dX4_sizeOf_26 : decode cX4_sizeOf 26 = .ok (.isub, 1) := by decide +kernel
theorem dX4_sizeOf_27 : decode cX4_sizeOf 27 = .ok (.goto 4, 3) := by decide +kernel
theorem dX4_sizeOf_30 : decode cX4_sizeOf 30 = .ok (.iconst 0, 1) := by decide +kernel
theorem dX4_sizeOf_31 : decode cX4_sizeOf 31 = .ok (.ireturn, 1) := by decide +kernel
set_option maxRecDepth 20000 in
theorem g_X4_sizeOf_0 {G : GX} {d : Nat} {Ret : Option AV → St → Prop} {R : Nat → List AV → List AV → St → Prop} (hM : AM G wdX d mX4_sizeOf Ret R) (v1 : Int) (σ : St)
    (h : ((v1 < 0 → Ret (some (vI 0)) σ) ∧ (¬ v1 < 0 → (((σ.1 4 3) ≤ v1 → Ret (some (vI 0)) σ) ∧ (¬ (σ.1 4 3) ≤ v1 → (r32 (v1 + 1) ∧ ((0 ≤ (v1 + 1) ∧ (v1 + 1) < 17) ∧ ((0 ≤ v1 ∧ v1 < 17) ∧ (r32 ((σ.1 24 ((v1 + 1)).toNat) - (σ.1 24 (v1).toNat)) ∧ Ret (some (vI ((σ.1 24 ((v1 + 1)).toNat) - (σ.1 24 (v1).toNat)))) σ))))))))) : R 0 [vR 4, vI v1] [] σ := by
  refine r_iload_n hM (pc' := 1) dX4_sizeOf_0 rfl (x := v1) rfl ?_
  refine r_if_lt hM (pc' := 4) (tgt := 30) dX4_sizeOf_1 rfl (by decide) (fun c => ?_) (fun c => ?_)
  · have h := h.1 c
    refine r_iconst hM (pc' := 31) dX4_sizeOf_30 rfl (by decide) ?_
    exact r_ireturn hM dX4_sizeOf_31 rfl h
  · have h := h.2 c
    refine r_iload_n hM (pc' := 5) dX4_sizeOf_4 rfl (x := v1) rfl ?_
    refine r_aload_n hM (pc' := 6) dX4_sizeOf_5 rfl (x := 4) rfl ?_
    refine r_getI hM (pc' := 9) dX4_sizeOf_6 rfl fl_X4_21 wx_4 rfl ?_
    refine r_icmp_ge hM (pc' := 12) (tgt := 30) dX4_sizeOf_9 rfl (by decide) (fun c => ?_) (fun c => ?_)
    · have h := h.1 c
      refine r_iconst hM (pc' := 31) dX4_sizeOf_30 rfl (by decide) ?_
      exact r_ireturn hM dX4_sizeOf_31 rfl h
    · have h := h.2 c
      refine r_aload_n hM (pc' := 13) dX4_sizeOf_12 rfl (x := 4) rfl ?_
      refine r_getR hM (pc' := 16) dX4_sizeOf_13 rfl fl_X4_31 wx_4 rfl ?_
      refine r_iload_n hM (pc' := 17) dX4_sizeOf_16 rfl (x := v1) rfl ?_
      refine r_iconst hM (pc' := 18) dX4_sizeOf_17 rfl (by decide) ?_
      have o1 := h.1
      have h := h.2
      refine r_iadd hM (pc' := 19) dX4_sizeOf_18 rfl o1 ?_
      have o2 := h.1
      have h := h.2
      refine r_iaload hM (pc' := 20) dX4_sizeOf_19 rfl wx_24 o2 ?_
      refine r_aload_n hM (pc' := 21) dX4_sizeOf_20 rfl (x := 4) rfl ?_
      refine r_getR hM (pc' := 24) dX4_sizeOf_21 rfl fl_X4_31 wx_4 rfl ?_
      refine r_iload_n hM (pc' := 25) dX4_sizeOf_24 rfl (x := v1) rfl ?_
      have o3 := h.1
      have h := h.2
      refine r_iaload hM (pc' := 26) dX4_sizeOf_25 rfl wx_24 o3 ?_
      have o4 := h.1
      have h := h.2
      refine r_isub hM (pc' := 27) dX4_sizeOf_26 rfl o4 ?_
      refine r_goto hM (tgt := 31) dX4_sizeOf_27 (by decide) ?_
      exact r_ireturn hM dX4_sizeOf_31 rfl h
theorem dX4_tripAt_0 : decode cX4_tripAt 0 = .ok (.iload_n 2, 1) := by decide +kernel
theorem dX4_tripAt_1 : decode cX4_tripAt 1 = .ok (.ifCond .lt 28, 3) := by decide +kernel
theorem dX4_tripAt_4 : decode cX4_tripAt 4 = .ok (.iload_n 2, 1) := by decide +kernel
theorem dX4_tripAt_5 : decode cX4_tripAt 5 = .ok (.aload_n 0, 1) := by decide +kernel
theorem dX4_tripAt_6 : decode cX4_tripAt 6 = .ok (.iload_n 1, 1) := by decide +kernel
theorem dX4_tripAt_7 : decode cX4_tripAt 7 = .ok (.invokevirtual 118, 3) := by decide +kernel
theorem dX4_tripAt_10 : decode cX4_tripAt 10 = .ok (.if_icmp .ge 19, 3) := by decide +kernel
theorem dX4_tripAt_13 : decode cX4_tripAt 13 = .ok (.aload_n 0, 1) := by decide +kernel
theorem dX4_tripAt_14 : decode cX4_tripAt 14 = .ok (.getfield 28, 3) := by decide +kernel
theorem dX4_tripAt_17 : decode cX4_tripAt 17 = .ok (.aload_n 0, 1) := by decide +kernel
theorem dX4_tripAt_18 : decode cX4_tripAt 18 = .ok (.getfield 31, 3) := by decide +kernel
theorem dX4_tripAt_21 : decode cX4_tripAt 21 = .ok (.iload_n 1, 1) := by decide +kernel
theorem dX4_tripAt_22 : decode cX4_tripAt 22 = .ok (.iaload, 1) := by decide +kernel
theorem dX4_tripAt_23 : decode cX4_tripAt 23 = .ok (.iload_n 2, 1) := by decide +kernel
theorem dX4_tripAt_24 : decode cX4_tripAt 24 = .ok (.iadd, 1) := by decide +kernel
theorem dX4_tripAt_25 : decode cX4_tripAt 25 = .ok (.iaload, 1) := by decide +kernel
theorem dX4_tripAt_26 : decode cX4_tripAt 26 = .ok (.goto 4, 3) := by decide +kernel
theorem dX4_tripAt_29 : decode cX4_tripAt 29 = .ok (.iconst (-1), 1) := by decide +kernel
theorem dX4_tripAt_30 : decode cX4_tripAt 30 = .ok (.ireturn, 1) := by decide +kernel
set_option maxRecDepth 20000 in
theorem g_X4_tripAt_0 {G : GX} {d : Nat} {Ret : Option AV → St → Prop} {R : Nat → List AV → List AV → St → Prop} (hM : AM G wdX (d + 1) mX4_tripAt Ret R) (v1 : Int) (v2 : Int) (σ : St)
    (h : ((v2 < 0 → Ret (some (vI (-1))) σ) ∧ (¬ v2 < 0 → conI G wdX d mX4_sizeOf [vR 4, vI v1] σ (fun x1 σ1 => ((x1 ≤ v2 → Ret (some (vI (-1))) σ1) ∧ (¬ x1 ≤ v2 → ((0 ≤ v1 ∧ v1 < 17) ∧ (r32 ((σ1.1 24 (v1).toNat) + v2) ∧ ((0 ≤ ((σ1.1 24 (v1).toNat) + v2) ∧ ((σ1.1 24 (v1).toNat) + v2) < 16) ∧ Ret (some (vI (σ1.1 23 (((σ1.1 24 (v1).toNat) + v2)).toNat))) σ1))))))))) : R 0 [vR 4, vI v1, vI v2] [] σ := by
  refine r_iload_n hM (pc' := 1) dX4_tripAt_0 rfl (x := v2) rfl ?_
  refine r_if_lt hM (pc' := 4) (tgt := 29) dX4_tripAt_1 rfl (by decide) (fun c => ?_) (fun c => ?_)
  · have h := h.1 c
    refine r_iconst hM (pc' := 30) dX4_tripAt_29 rfl (by decide) ?_
    exact r_ireturn hM dX4_tripAt_30 rfl h
  · have h := h.2 c
    refine r_iload_n hM (pc' := 5) dX4_tripAt_4 rfl (x := v2) rfl ?_
    refine r_aload_n hM (pc' := 6) dX4_tripAt_5 rfl (x := 4) rfl ?_
    refine r_iload_n hM (pc' := 7) dX4_tripAt_6 rfl (x := v1) rfl ?_
    refine r_callVI hM (pc' := 10) [vI v1] dX4_tripAt_7 rfl ml_X4_118 wx_4 rfl rfl (Nat.le_of_ble_eq_true rfl) (conI.mono h (fun x1 σ1 h => ?_))
    refine r_icmp_ge hM (pc' := 13) (tgt := 29) dX4_tripAt_10 rfl (by decide) (fun c => ?_) (fun c => ?_)
    · have h := h.1 c
      refine r_iconst hM (pc' := 30) dX4_tripAt_29 rfl (by decide) ?_
      exact r_ireturn hM dX4_tripAt_30 rfl h
    · have h := h.2 c
      refine r_aload_n hM (pc' := 14) dX4_tripAt_13 rfl (x := 4) rfl ?_
      refine r_getR hM (pc' := 17) dX4_tripAt_14 rfl fl_X4_28 wx_4 rfl ?_
      refine r_aload_n hM (pc' := 18) dX4_tripAt_17 rfl (x := 4) rfl ?_
      refine r_getR hM (pc' := 21) dX4_tripAt_18 rfl fl_X4_31 wx_4 rfl ?_
      refine r_iload_n hM (pc' := 22) dX4_tripAt_21 rfl (x := v1) rfl ?_
      have o1 := h.1
      have h := h.2
      refine r_iaload hM (pc' := 23) dX4_tripAt_22 rfl wx_24 o1 ?_
      refine r_iload_n hM (pc' := 24) dX4_tripAt_23 rfl (x := v2) rfl ?_
      have o2 := h.1
      have h := h.2
      refine r_iadd hM (pc' := 25) dX4_tripAt_24 rfl o2 ?_
      have o3 := h.1
      have h := h.2
      refine r_iaload hM (pc' := 26) dX4_tripAt_25 rfl wx_23 o3 ?_
      refine r_goto hM (tgt := 30) dX4_tripAt_26 (by decide) ?_
      exact r_ireturn hM dX4_tripAt_30 rfl h
theorem dX4_greatestSlack_0 : decode cX4_greatestSlack 0 = .ok (.iconst (-1), 1) := by decide +kernel
theorem dX4_greatestSlack_1 : decode cX4_greatestSlack 1 = .ok (.istore_n 1, 1) := by decide +kernel
theorem dX4_greatestSlack_2 : decode cX4_greatestSlack 2 = .ok (.iconst 0, 1) := by decide +kernel
theorem dX4_greatestSlack_3 : decode cX4_greatestSlack 3 = .ok (.istore_n 2, 1) := by decide +kernel
theorem dX4_greatestSlack_4 : decode cX4_greatestSlack 4 = .ok (.iload_n 2, 1) := by decide +kernel
theorem dX4_greatestSlack_5 : decode cX4_greatestSlack 5 = .ok (.aload_n 0, 1) := by decide +kernel
theorem dX4_greatestSlack_6 : decode cX4_greatestSlack 6 = .ok (.getfield 54, 3) := by decide +kernel
theorem dX4_greatestSlack_9 : decode cX4_greatestSlack 9 = .ok (.getfield 65, 3) := by decide +kernel
theorem dX4_greatestSlack_12 : decode cX4_greatestSlack 12 = .ok (.if_icmp .ge 20, 3) := by decide +kernel
theorem dX4_greatestSlack_15 : decode cX4_greatestSlack 15 = .ok (.iload_n 1, 1) := by decide +kernel
theorem dX4_greatestSlack_16 : decode cX4_greatestSlack 16 = .ok (.aload_n 0, 1) := by decide +kernel
theorem dX4_greatestSlack_17 : decode cX4_greatestSlack 17 = .ok (.getfield 15, 3) := by decide +kernel
theorem dX4_greatestSlack_20 : decode cX4_greatestSlack 20 = .ok (.iload_n 2, 1) := by decide +kernel
theorem dX4_greatestSlack_21 : decode cX4_greatestSlack 21 = .ok (.iaload, 1) := by decide +kernel
theorem dX4_greatestSlack_22 : decode cX4_greatestSlack 22 = .ok (.invokestatic 121, 3) := by decide +kernel
theorem dX4_greatestSlack_25 : decode cX4_greatestSlack 25 = .ok (.istore_n 1, 1) := by decide +kernel
theorem dX4_greatestSlack_26 : decode cX4_greatestSlack 26 = .ok (.iinc 2 1, 3) := by decide +kernel
theorem dX4_greatestSlack_29 : decode cX4_greatestSlack 29 = .ok (.goto (-25), 3) := by decide +kernel
theorem dX4_greatestSlack_32 : decode cX4_greatestSlack 32 = .ok (.iload_n 1, 1) := by decide +kernel
theorem dX4_greatestSlack_33 : decode cX4_greatestSlack 33 = .ok (.ireturn, 1) := by decide +kernel
set_option maxRecDepth 20000 in
theorem g_X4_greatestSlack_0 {G : GX} {d : Nat} {Ret : Option AV → St → Prop} {R : Nat → List AV → List AV → St → Prop} (hM : AM G wdX (d + 1) mX4_greatestSlack Ret R) (σ : St)
    (h : R 4 [vR 4, vI (-1), vI 0] [] σ) : R 0 [vR 4, vN, vN] [] σ := by
  refine r_iconst hM (pc' := 1) dX4_greatestSlack_0 rfl (by decide) ?_
  refine r_istore_n hM (pc' := 2) dX4_greatestSlack_1 rfl (Nat.le_of_ble_eq_true rfl) rfl ?_
  show R 2 [vR 4, vI (-1), vN] _ _
  refine r_iconst hM (pc' := 3) dX4_greatestSlack_2 rfl (by decide) ?_
  refine r_istore_n hM (pc' := 4) dX4_greatestSlack_3 rfl (Nat.le_of_ble_eq_true rfl) rfl ?_
  show R 4 [vR 4, vI (-1), vI 0] _ _
  exact h
set_option maxRecDepth 20000 in
theorem g_X4_greatestSlack_4 {G : GX} {d : Nat} {Ret : Option AV → St → Prop} {R : Nat → List AV → List AV → St → Prop} (hM : AM G wdX (d + 1) mX4_greatestSlack Ret R) (v1 : Int) (v2 : Int) (σ : St)
    (h : (((σ.1 7 4) ≤ v2 → Ret (some (vI v1)) σ) ∧ (¬ (σ.1 7 4) ≤ v2 → ((0 ≤ v2 ∧ v2 < 16) ∧ (∀ u1, u1 = (if v1 < (σ.1 21 (v2).toNat) then (σ.1 21 (v2).toNat) else v1) → (r32 (v2 + 1) ∧ R 4 [vR 4, vI u1, vI (v2 + 1)] [] σ)))))) : R 4 [vR 4, vI v1, vI v2] [] σ := by
  refine r_iload_n hM (pc' := 5) dX4_greatestSlack_4 rfl (x := v2) rfl ?_
  refine r_aload_n hM (pc' := 6) dX4_greatestSlack_5 rfl (x := 4) rfl ?_
  refine r_getR hM (pc' := 9) dX4_greatestSlack_6 rfl fl_X4_54 wx_4 rfl ?_
  refine r_getI hM (pc' := 12) dX4_greatestSlack_9 rfl fl_X4_65 wx_7 rfl ?_
  refine r_icmp_ge hM (pc' := 15) (tgt := 32) dX4_greatestSlack_12 rfl (by decide) (fun c => ?_) (fun c => ?_)
  · have h := h.1 c
    refine r_iload_n hM (pc' := 33) dX4_greatestSlack_32 rfl (x := v1) rfl ?_
    exact r_ireturn hM dX4_greatestSlack_33 rfl h
  · have h := h.2 c
    refine r_iload_n hM (pc' := 16) dX4_greatestSlack_15 rfl (x := v1) rfl ?_
    refine r_aload_n hM (pc' := 17) dX4_greatestSlack_16 rfl (x := 4) rfl ?_
    refine r_getR hM (pc' := 20) dX4_greatestSlack_17 rfl fl_X4_15 wx_4 rfl ?_
    refine r_iload_n hM (pc' := 21) dX4_greatestSlack_20 rfl (x := v2) rfl ?_
    have o1 := h.1
    have h := h.2
    refine r_iaload hM (pc' := 22) dX4_greatestSlack_21 rfl wx_21 o1 ?_
    refine r_max hM (pc' := 25) dX4_greatestSlack_22 rfl ml_X4_121 (Nat.le_of_ble_eq_true rfl) ?_
    refine r_istore_nN hM (pc' := 26) dX4_greatestSlack_25 rfl (Nat.le_of_ble_eq_true rfl) rfl (fun u1 eu1 => ?_)
    have h := h u1 eu1
    show R 26 [vR 4, vI u1, vI v2] _ _
    have o2 := h.1
    have h := h.2
    refine r_iinc hM (pc' := 29) dX4_greatestSlack_26 rfl (x := v2) rfl rfl o2 ?_
    show R 29 [vR 4, vI u1, vI (v2 + 1)] _ _
    refine r_goto hM (tgt := 4) dX4_greatestSlack_29 (by decide) ?_
    exact h
theorem dX4_leastSlack_0 : decode cX4_leastSlack 0 = .ok (.iconst (-1), 1) := by decide +kernel
theorem dX4_leastSlack_1 : decode cX4_leastSlack 1 = .ok (.istore_n 1, 1) := by decide +kernel
theorem dX4_leastSlack_2 : decode cX4_leastSlack 2 = .ok (.iconst 0, 1) := by decide +kernel
theorem dX4_leastSlack_3 : decode cX4_leastSlack 3 = .ok (.istore_n 2, 1) := by decide +kernel
theorem dX4_leastSlack_4 : decode cX4_leastSlack 4 = .ok (.iload_n 2, 1) := by decide +kernel
theorem dX4_leastSlack_5 : decode cX4_leastSlack 5 = .ok (.aload_n 0, 1) := by decide +kernel
theorem dX4_leastSlack_6 : decode cX4_leastSlack 6 = .ok (.getfield 54, 3) := by decide +kernel
theorem dX4_leastSlack_9 : decode cX4_leastSlack 9 = .ok (.getfield 65, 3) := by decide +kernel
theorem dX4_leastSlack_12 : decode cX4_leastSlack 12 = .ok (.if_icmp .ge 41, 3) := by decide +kernel
theorem dX4_leastSlack_15 : decode cX4_leastSlack 15 = .ok (.aload_n 0, 1) := by decide +kernel
theorem dX4_leastSlack_16 : decode cX4_leastSlack 16 = .ok (.getfield 15, 3) := by decide +kernel
theorem dX4_leastSlack_19 : decode cX4_leastSlack 19 = .ok (.iload_n 2, 1) := by decide +kernel
theorem dX4_leastSlack_20 : decode cX4_leastSlack 20 = .ok (.iaload, 1) := by decide +kernel
theorem dX4_leastSlack_21 : decode cX4_leastSlack 21 = .ok (.iconst (-1), 1) := by decide +kernel
theorem dX4_leastSlack_22 : decode cX4_leastSlack 22 = .ok (.if_icmp .eq 25, 3) := by decide +kernel
theorem dX4_leastSlack_25 : decode cX4_leastSlack 25 = .ok (.iload_n 1, 1) := by decide +kernel
theorem dX4_leastSlack_26 : decode cX4_leastSlack 26 = .ok (.iconst (-1), 1) := by decide +kernel
theorem dX4_leastSlack_27 : decode cX4_leastSlack 27 = .ok (.if_icmp .eq 13, 3) := by decide +kernel
theorem dX4_leastSlack_30 : decode cX4_leastSlack 30 = .ok (.aload_n 0, 1) := by decide +kernel
theorem dX4_leastSlack_31 : decode cX4_leastSlack 31 = .ok (.getfield 15, 3) := by decide +kernel
theorem dX4_leastSlack_34 : decode cX4_leastSlack 34 = .ok (.iload_n 2, 1) := by decide +kernel
theorem dX4_leastSlack_35 : decode cX4_leastSlack 35 = .ok (.iaload, 1) := by decide +kernel
theorem dX4_leastSlack_36 : decode cX4_leastSlack 36 = .ok (.iload_n 1, 1) := by decide +kernel
theorem dX4_leastSlack_37 : decode cX4_leastSlack 37 = .ok (.if_icmp .ge 10, 3) := by decide +kernel
theorem dX4_leastSlack_40 : decode cX4_leastSlack 40 = .ok (.aload_n 0, 1) := by decide +kernel
theorem dX4_leastSlack_41 : decode cX4_leastSlack 41 = .ok (.getfield 15, 3) := by decide +kernel
theorem dX4_leastSlack_44 : decode cX4_leastSlack 44 = .ok (.iload_n 2, 1) := by decide +kernel
theorem dX4_leastSlack_45 : decode cX4_leastSlack 45 = .ok (.iaload, 1) := by decide +kernel
theorem dX4_leastSlack_46 : decode cX4_leastSlack 46 = .ok (.istore_n 1, 1) := by decide +kernel
theorem dX4_leastSlack_47 : decode cX4_leastSlack 47 = .ok (.iinc 2 1, 3) := by decide +kernel
theorem dX4_leastSlack_50 : decode cX4_leastSlack 50 = .ok (.goto (-46), 3) := by decide +kernel
theorem dX4_leastSlack_53 : decode cX4_leastSlack 53 = .ok (.iload_n 1, 1) := by decide +kernel
theorem dX4_leastSlack_54 : decode cX4_leastSlack 54 = .ok (.ireturn, 1) := by decide +kernel
set_option maxRecDepth 20000 in
theorem g_X4_leastSlack_0 {G : GX} {d : Nat} {Ret : Option AV → St → Prop} {R : Nat → List AV → List AV → St → Prop} (hM : AM G wdX d mX4_leastSlack Ret R) (σ : St)
    (h : R 4 [vR 4, vI (-1), vI 0] [] σ) : R 0 [vR 4, vN, vN] [] σ := by
  refine r_iconst hM (pc' := 1) dX4_leastSlack_0 rfl (by decide) ?_
  refine r_istore_n hM (pc' := 2) dX4_leastSlack_1 rfl (Nat.le_of_ble_eq_true rfl) rfl ?_
  show R 2 [vR 4, vI (-1), vN] _ _
  refine r_iconst hM (pc' := 3) dX4_leastSlack_2 rfl (by decide) ?_
  refine r_istore_n hM (pc' := 4) dX4_leastSlack_3 rfl (Nat.le_of_ble_eq_true rfl) rfl ?_
  show R 4 [vR 4, vI (-1), vI 0] _ _
  exact h
set_option maxRecDepth 20000 in
theorem g_X4_leastSlack_4 {G : GX} {d : Nat} {Ret : Option AV → St → Prop} {R : Nat → List AV → List AV → St → Prop} (hM : AM G wdX d mX4_leastSlack Ret R) (v1 : Int) (v2 : Int) (σ : St)
    (h : (((σ.1 7 4) ≤ v2 → Ret (some (vI v1)) σ) ∧ (¬ (σ.1 7 4) ≤ v2 → ((0 ≤ v2 ∧ v2 < 16) ∧ (((σ.1 21 (v2).toNat) = (-1) → (r32 (v2 + 1) ∧ R 4 [vR 4, vI v1, vI (v2 + 1)] [] σ)) ∧ (¬ (σ.1 21 (v2).toNat) = (-1) → ((v1 = (-1) → (r32 (v2 + 1) ∧ R 4 [vR 4, vI (σ.1 21 (v2).toNat), vI (v2 + 1)] [] σ)) ∧ (¬ v1 = (-1) → ((v1 ≤ (σ.1 21 (v2).toNat) → (r32 (v2 + 1) ∧ R 4 [vR 4, vI v1, vI (v2 + 1)] [] σ)) ∧ (¬ v1 ≤ (σ.1 21 (v2).toNat) → (r32 (v2 + 1) ∧ R 4 [vR 4, vI (σ.1 21 (v2).toNat), vI (v2 + 1)] [] σ))))))))))) : R 4 [vR 4, vI v1, vI v2] [] σ := by
  refine r_iload_n hM (pc' := 5) dX4_leastSlack_4 rfl (x := v2) rfl ?_
  refine r_aload_n hM (pc' := 6) dX4_leastSlack_5 rfl (x := 4) rfl ?_
  refine r_getR hM (pc' := 9) dX4_leastSlack_6 rfl fl_X4_54 wx_4 rfl ?_
  refine r_getI hM (pc' := 12) dX4_leastSlack_9 rfl fl_X4_65 wx_7 rfl ?_
  refine r_icmp_ge hM (pc' := 15) (tgt := 53) dX4_leastSlack_12 rfl (by decide) (fun c => ?_) (fun c => ?_)
  · have h := h.1 c
    refine r_iload_n hM (pc' := 54) dX4_leastSlack_53 rfl (x := v1) rfl ?_
    exact r_ireturn hM dX4_leastSlack_54 rfl h
  · have h := h.2 c
    refine r_aload_n hM (pc' := 16) dX4_leastSlack_15 rfl (x := 4) rfl ?_
    refine r_getR hM (pc' := 19) dX4_leastSlack_16 rfl fl_X4_15 wx_4 rfl ?_
    refine r_iload_n hM (pc' := 20) dX4_leastSlack_19 rfl (x := v2) rfl ?_
    have o1 := h.1
    have h := h.2
    refine r_iaload hM (pc' := 21) dX4_leastSlack_20 rfl wx_21 o1 ?_
    refine r_iconst hM (pc' := 22) dX4_leastSlack_21 rfl (by decide) ?_
    refine r_icmp_eq hM (pc' := 25) (tgt := 47) dX4_leastSlack_22 rfl (by decide) (fun c => ?_) (fun c => ?_)
    · have h := h.1 c
      have o2 := h.1
      have h := h.2
      refine r_iinc hM (pc' := 50) dX4_leastSlack_47 rfl (x := v2) rfl rfl o2 ?_
      show R 50 [vR 4, vI v1, vI (v2 + 1)] _ _
      refine r_goto hM (tgt := 4) dX4_leastSlack_50 (by decide) ?_
      exact h
    · have h := h.2 c
      refine r_iload_n hM (pc' := 26) dX4_leastSlack_25 rfl (x := v1) rfl ?_
      refine r_iconst hM (pc' := 27) dX4_leastSlack_26 rfl (by decide) ?_
      refine r_icmp_eq hM (pc' := 30) (tgt := 40) dX4_leastSlack_27 rfl (by decide) (fun c => ?_) (fun c => ?_)
      · have h := h.1 c
        refine r_aload_n hM (pc' := 41) dX4_leastSlack_40 rfl (x := 4) rfl ?_
        refine r_getR hM (pc' := 44) dX4_leastSlack_41 rfl fl_X4_15 wx_4 rfl ?_
        refine r_iload_n hM (pc' := 45) dX4_leastSlack_44 rfl (x := v2) rfl ?_
        refine r_iaload hM (pc' := 46) dX4_leastSlack_45 rfl wx_21 o1 ?_
        refine r_istore_n hM (pc' := 47) dX4_leastSlack_46 rfl (Nat.le_of_ble_eq_true rfl) rfl ?_
        show R 47 [vR 4, vI (σ.1 21 (v2).toNat), vI v2] _ _
        have o3 := h.1
        have h := h.2
        refine r_iinc hM (pc' := 50) dX4_leastSlack_47 rfl (x := v2) rfl rfl o3 ?_
        show R 50 [vR 4, vI (σ.1 21 (v2).toNat), vI (v2 + 1)] _ _
        refine r_goto hM (tgt := 4) dX4_leastSlack_50 (by decide) ?_
        exact h
      · have h := h.2 c
        refine r_aload_n hM (pc' := 31) dX4_leastSlack_30 rfl (x := 4) rfl ?_
        refine r_getR hM (pc' := 34) dX4_leastSlack_31 rfl fl_X4_15 wx_4 rfl ?_
        refine r_iload_n hM (pc' := 35) dX4_leastSlack_34 rfl (x := v2) rfl ?_
        refine r_iaload hM (pc' := 36) dX4_leastSlack_35 rfl wx_21 o1 ?_
        refine r_iload_n hM (pc' := 37) dX4_leastSlack_36 rfl (x := v1) rfl ?_
        refine r_icmp_ge hM (pc' := 40) (tgt := 47) dX4_leastSlack_37 rfl (by decide) (fun c => ?_) (fun c => ?_)
        · have h := h.1 c
          have o4 := h.1
          have h := h.2
          refine r_iinc hM (pc' := 50) dX4_leastSlack_47 rfl (x := v2) rfl rfl o4 ?_
          show R 50 [vR 4, vI v1, vI (v2 + 1)] _ _
          refine r_goto hM (tgt := 4) dX4_leastSlack_50 (by decide) ?_
          exact h
        · have h := h.2 c
          refine r_aload_n hM (pc' := 41) dX4_leastSlack_40 rfl (x := 4) rfl ?_
          refine r_getR hM (pc' := 44) dX4_leastSlack_41 rfl fl_X4_15 wx_4 rfl ?_
          refine r_iload_n hM (pc' := 45) dX4_leastSlack_44 rfl (x := v2) rfl ?_
          refine r_iaload hM (pc' := 46) dX4_leastSlack_45 rfl wx_21 o1 ?_
          refine r_istore_n hM (pc' := 47) dX4_leastSlack_46 rfl (Nat.le_of_ble_eq_true rfl) rfl ?_
          show R 47 [vR 4, vI (σ.1 21 (v2).toNat), vI v2] _ _
          have o5 := h.1
          have h := h.2
          refine r_iinc hM (pc' := 50) dX4_leastSlack_47 rfl (x := v2) rfl rfl o5 ?_
          show R 50 [vR 4, vI (σ.1 21 (v2).toNat), vI (v2 + 1)] _ _
          refine r_goto hM (tgt := 4) dX4_leastSlack_50 (by decide) ?_
          exact h
theorem dX4_fewestWith_0 : decode cX4_fewestWith 0 = .ok (.iconst 0, 1) := by decide +kernel
theorem dX4_fewestWith_1 : decode cX4_fewestWith 1 = .ok (.istore_n 3, 1) := by decide +kernel
theorem dX4_fewestWith_2 : decode cX4_fewestWith 2 = .ok (.iload_n 3, 1) := by decide +kernel
theorem dX4_fewestWith_3 : decode cX4_fewestWith 3 = .ok (.aload_n 0, 1) := by decide +kernel
theorem dX4_fewestWith_4 : decode cX4_fewestWith 4 = .ok (.getfield 54, 3) := by decide +kernel
theorem dX4_fewestWith_7 : decode cX4_fewestWith 7 = .ok (.getfield 65, 3) := by decide +kernel
theorem dX4_fewestWith_10 : decode cX4_fewestWith 10 = .ok (.if_icmp .ge 66, 3) := by decide +kernel
theorem dX4_fewestWith_13 : decode cX4_fewestWith 13 = .ok (.aload_n 0, 1) := by decide +kernel
theorem dX4_fewestWith_14 : decode cX4_fewestWith 14 = .ok (.getfield 37, 3) := by decide +kernel
theorem dX4_fewestWith_17 : decode cX4_fewestWith 17 = .ok (.getfield 108, 3) := by decide +kernel
theorem dX4_fewestWith_20 : decode cX4_fewestWith 20 = .ok (.iload_n 3, 1) := by decide +kernel
theorem dX4_fewestWith_21 : decode cX4_fewestWith 21 = .ok (.aload_n 0, 1) := by decide +kernel
theorem dX4_fewestWith_22 : decode cX4_fewestWith 22 = .ok (.getfield 58, 3) := by decide +kernel
theorem dX4_fewestWith_25 : decode cX4_fewestWith 25 = .ok (.getfield 100, 3) := by decide +kernel
theorem dX4_fewestWith_28 : decode cX4_fewestWith 28 = .ok (.iload_n 3, 1) := by decide +kernel
theorem dX4_fewestWith_29 : decode cX4_fewestWith 29 = .ok (.iaload, 1) := by decide +kernel
theorem dX4_fewestWith_30 : decode cX4_fewestWith 30 = .ok (.iconst 1, 1) := by decide +kernel
theorem dX4_fewestWith_31 : decode cX4_fewestWith 31 = .ok (.iload_n 1, 1) := by decide +kernel
theorem dX4_fewestWith_32 : decode cX4_fewestWith 32 = .ok (.ishl, 1) := by decide +kernel
theorem dX4_fewestWith_33 : decode cX4_fewestWith 33 = .ok (.iconst (-1), 1) := by decide +kernel
theorem dX4_fewestWith_34 : decode cX4_fewestWith 34 = .ok (.ixor, 1) := by decide +kernel
theorem dX4_fewestWith_35 : decode cX4_fewestWith 35 = .ok (.iand, 1) := by decide +kernel
theorem dX4_fewestWith_36 : decode cX4_fewestWith 36 = .ok (.iastore, 1) := by decide +kernel
theorem dX4_fewestWith_37 : decode cX4_fewestWith 37 = .ok (.iload_n 3, 1) := by decide +kernel
theorem dX4_fewestWith_38 : decode cX4_fewestWith 38 = .ok (.iload_n 1, 1) := by decide +kernel
theorem dX4_fewestWith_39 : decode cX4_fewestWith 39 = .ok (.if_icmp .eq 31, 3) := by decide +kernel
theorem dX4_fewestWith_42 : decode cX4_fewestWith 42 = .ok (.aload_n 0, 1) := by decide +kernel
theorem dX4_fewestWith_43 : decode cX4_fewestWith 43 = .ok (.getfield 58, 3) := by decide +kernel
theorem dX4_fewestWith_46 : decode cX4_fewestWith 46 = .ok (.iload_n 3, 1) := by decide +kernel
theorem dX4_fewestWith_47 : decode cX4_fewestWith 47 = .ok (.iload_n 1, 1) := by decide +kernel
theorem dX4_fewestWith_48 : decode cX4_fewestWith 48 = .ok (.iload_n 2, 1) := by decide +kernel
theorem dX4_fewestWith_49 : decode cX4_fewestWith 49 = .ok (.invokevirtual 126, 3) := by decide +kernel
theorem dX4_fewestWith_52 : decode cX4_fewestWith 52 = .ok (.ifCond .eq 18, 3) := by decide +kernel
theorem dX4_fewestWith_55 : decode cX4_fewestWith 55 = .ok (.aload_n 0, 1) := by decide +kernel
theorem dX4_fewestWith_56 : decode cX4_fewestWith 56 = .ok (.getfield 37, 3) := by decide +kernel
theorem dX4_fewestWith_59 : decode cX4_fewestWith 59 = .ok (.getfield 108, 3) := by decide +kernel
theorem dX4_fewestWith_62 : decode cX4_fewestWith 62 = .ok (.iload_n 3, 1) := by decide +kernel
theorem dX4_fewestWith_63 : decode cX4_fewestWith 63 = .ok (.dup2, 1) := by decide +kernel
theorem dX4_fewestWith_64 : decode cX4_fewestWith 64 = .ok (.iaload, 1) := by decide +kernel
theorem dX4_fewestWith_65 : decode cX4_fewestWith 65 = .ok (.iconst 1, 1) := by decide +kernel
theorem dX4_fewestWith_66 : decode cX4_fewestWith 66 = .ok (.iload_n 1, 1) := by decide +kernel
theorem dX4_fewestWith_67 : decode cX4_fewestWith 67 = .ok (.ishl, 1) := by decide +kernel
theorem dX4_fewestWith_68 : decode cX4_fewestWith 68 = .ok (.ior, 1) := by decide +kernel
theorem dX4_fewestWith_69 : decode cX4_fewestWith 69 = .ok (.iastore, 1) := by decide +kernel
theorem dX4_fewestWith_70 : decode cX4_fewestWith 70 = .ok (.iinc 3 1, 3) := by decide +kernel
theorem dX4_fewestWith_73 : decode cX4_fewestWith 73 = .ok (.goto (-71), 3) := by decide +kernel
theorem dX4_fewestWith_76 : decode cX4_fewestWith 76 = .ok (.aload_n 0, 1) := by decide +kernel
theorem dX4_fewestWith_77 : decode cX4_fewestWith 77 = .ok (.getfield 37, 3) := by decide +kernel
theorem dX4_fewestWith_80 : decode cX4_fewestWith 80 = .ok (.getfield 108, 3) := by decide +kernel
theorem dX4_fewestWith_83 : decode cX4_fewestWith 83 = .ok (.iload_n 1, 1) := by decide +kernel
theorem dX4_fewestWith_84 : decode cX4_fewestWith 84 = .ok (.iconst 0, 1) := by decide +kernel
theorem dX4_fewestWith_85 : decode cX4_fewestWith 85 = .ok (.iastore, 1) := by decide +kernel
theorem dX4_fewestWith_86 : decode cX4_fewestWith 86 = .ok (.iconst 0, 1) := by decide +kernel
theorem dX4_fewestWith_87 : decode cX4_fewestWith 87 = .ok (.istore_n 3, 1) := by decide +kernel
theorem dX4_fewestWith_88 : decode cX4_fewestWith 88 = .ok (.iload_n 3, 1) := by decide +kernel
theorem dX4_fewestWith_89 : decode cX4_fewestWith 89 = .ok (.aload_n 0, 1) := by decide +kernel
theorem dX4_fewestWith_90 : decode cX4_fewestWith 90 = .ok (.getfield 54, 3) := by decide +kernel
theorem dX4_fewestWith_93 : decode cX4_fewestWith 93 = .ok (.getfield 65, 3) := by decide +kernel
theorem dX4_fewestWith_96 : decode cX4_fewestWith 96 = .ok (.if_icmp .ge 43, 3) := by decide +kernel
theorem dX4_fewestWith_99 : decode cX4_fewestWith 99 = .ok (.iload_n 3, 1) := by decide +kernel
theorem dX4_fewestWith_100 : decode cX4_fewestWith 100 = .ok (.iload_n 1, 1) := by decide +kernel
theorem dX4_fewestWith_101 : decode cX4_fewestWith 101 = .ok (.if_icmp .eq 32, 3) := by decide +kernel
theorem dX4_fewestWith_104 : decode cX4_fewestWith 104 = .ok (.aload_n 0, 1) := by decide +kernel
theorem dX4_fewestWith_105 : decode cX4_fewestWith 105 = .ok (.getfield 58, 3) := by decide +kernel
theorem dX4_fewestWith_108 : decode cX4_fewestWith 108 = .ok (.iload_n 1, 1) := by decide +kernel
theorem dX4_fewestWith_109 : decode cX4_fewestWith 109 = .ok (.iload_n 3, 1) := by decide +kernel
theorem dX4_fewestWith_110 : decode cX4_fewestWith 110 = .ok (.iload_n 2, 1) := by decide +kernel
theorem dX4_fewestWith_111 : decode cX4_fewestWith 111 = .ok (.ineg, 1) := by decide +kernel
theorem dX4_fewestWith_112 : decode cX4_fewestWith 112 = .ok (.invokevirtual 126, 3) := by decide +kernel
theorem dX4_fewestWith_115 : decode cX4_fewestWith 115 = .ok (.ifCond .eq 18, 3) := by decide +kernel
theorem dX4_fewestWith_118 : decode cX4_fewestWith 118 = .ok (.aload_n 0, 1) := by decide +kernel
theorem dX4_fewestWith_119 : decode cX4_fewestWith 119 = .ok (.getfield 37, 3) := by decide +kernel
theorem dX4_fewestWith_122 : decode cX4_fewestWith 122 = .ok (.getfield 108, 3) := by decide +kernel
theorem dX4_fewestWith_125 : decode cX4_fewestWith 125 = .ok (.iload_n 1, 1) := by decide +kernel
theorem dX4_fewestWith_126 : decode cX4_fewestWith 126 = .ok (.dup2, 1) := by decide +kernel
theorem dX4_fewestWith_127 : decode cX4_fewestWith 127 = .ok (.iaload, 1) := by decide +kernel
theorem dX4_fewestWith_128 : decode cX4_fewestWith 128 = .ok (.iconst 1, 1) := by decide +kernel
theorem dX4_fewestWith_129 : decode cX4_fewestWith 129 = .ok (.iload_n 3, 1) := by decide +kernel
theorem dX4_fewestWith_130 : decode cX4_fewestWith 130 = .ok (.ishl, 1) := by decide +kernel
theorem dX4_fewestWith_131 : decode cX4_fewestWith 131 = .ok (.ior, 1) := by decide +kernel
theorem dX4_fewestWith_132 : decode cX4_fewestWith 132 = .ok (.iastore, 1) := by decide +kernel
theorem dX4_fewestWith_133 : decode cX4_fewestWith 133 = .ok (.iinc 3 1, 3) := by decide +kernel
theorem dX4_fewestWith_136 : decode cX4_fewestWith 136 = .ok (.goto (-48), 3) := by decide +kernel
theorem dX4_fewestWith_139 : decode cX4_fewestWith 139 = .ok (.aload_n 0, 1) := by decide +kernel
theorem dX4_fewestWith_140 : decode cX4_fewestWith 140 = .ok (.getfield 54, 3) := by decide +kernel
theorem dX4_fewestWith_143 : decode cX4_fewestWith 143 = .ok (.getfield 65, 3) := by decide +kernel
theorem dX4_fewestWith_146 : decode cX4_fewestWith 146 = .ok (.aload_n 0, 1) := by decide +kernel
theorem dX4_fewestWith_147 : decode cX4_fewestWith 147 = .ok (.getfield 37, 3) := by decide +kernel
theorem dX4_fewestWith_150 : decode cX4_fewestWith 150 = .ok (.aload_n 0, 1) := by decide +kernel
theorem dX4_fewestWith_151 : decode cX4_fewestWith 151 = .ok (.getfield 54, 3) := by decide +kernel
theorem dX4_fewestWith_154 : decode cX4_fewestWith 154 = .ok (.getfield 65, 3) := by decide +kernel
theorem dX4_fewestWith_157 : decode cX4_fewestWith 157 = .ok (.invokevirtual 130, 3) := by decide +kernel
theorem dX4_fewestWith_160 : decode cX4_fewestWith 160 = .ok (.isub, 1) := by decide +kernel
theorem dX4_fewestWith_161 : decode cX4_fewestWith 161 = .ok (.ireturn, 1) := by decide +kernel
set_option maxRecDepth 20000 in
theorem g_X4_fewestWith_0 {G : GX} {d : Nat} {Ret : Option AV → St → Prop} {R : Nat → List AV → List AV → St → Prop} (hM : AM G wdX (d + 1) mX4_fewestWith Ret R) (v1 : Int) (v2 : Int) (σ : St)
    (h : R 2 [vR 4, vI v1, vI v2, vI 0] [] σ) : R 0 [vR 4, vI v1, vI v2, vN] [] σ := by
  refine r_iconst hM (pc' := 1) dX4_fewestWith_0 rfl (by decide) ?_
  refine r_istore_n hM (pc' := 2) dX4_fewestWith_1 rfl (Nat.le_of_ble_eq_true rfl) rfl ?_
  show R 2 [vR 4, vI v1, vI v2, vI 0] _ _
  exact h
set_option maxRecDepth 20000 in
theorem g_X4_fewestWith_2 {G : GX} {d : Nat} {Ret : Option AV → St → Prop} {R : Nat → List AV → List AV → St → Prop} (hM : AM G wdX (d + 1) mX4_fewestWith Ret R) (v1 : Int) (v2 : Int) (v3 : Int) (σ : St)
    (h : (((σ.1 7 4) ≤ v3 → ((0 ≤ v1 ∧ v1 < 16) ∧ (∀ τ1, τ1 = sI σ 17 (v1).toNat 0 → R 88 [vR 4, vI v1, vI v2, vI 0] [] τ1))) ∧ (¬ (σ.1 7 4) ≤ v3 → ((0 ≤ v3 ∧ v3 < 16) ∧ (∀ τ2, τ2 = sI σ 17 (v3).toNat (bAnd (σ.1 15 (v3).toNat) (bXor (bShl 1 v1) (-1))) → ((v3 = v1 → (r32 (v3 + 1) ∧ R 2 [vR 4, vI v1, vI v2, vI (v3 + 1)] [] τ2)) ∧ (¬ v3 = v1 → conI G wdX d mX2_follows [vR 2, vI v3, vI v1, vI v2] τ2 (fun x1 σ1 => ((x1 = 0 → (r32 (v3 + 1) ∧ R 2 [vR 4, vI v1, vI v2, vI (v3 + 1)] [] σ1)) ∧ (¬ x1 = 0 → (∀ τ3, τ3 = sI σ1 17 (v3).toNat (bOr (σ1.1 17 (v3).toNat) (bShl 1 v1)) → (r32 (v3 + 1) ∧ R 2 [vR 4, vI v1, vI v2, vI (v3 + 1)] [] τ3)))))))))))) : R 2 [vR 4, vI v1, vI v2, vI v3] [] σ := by
  refine r_iload_n hM (pc' := 3) dX4_fewestWith_2 rfl (x := v3) rfl ?_
  refine r_aload_n hM (pc' := 4) dX4_fewestWith_3 rfl (x := 4) rfl ?_
  refine r_getR hM (pc' := 7) dX4_fewestWith_4 rfl fl_X4_54 wx_4 rfl ?_
  refine r_getI hM (pc' := 10) dX4_fewestWith_7 rfl fl_X4_65 wx_7 rfl ?_
  refine r_icmp_ge hM (pc' := 13) (tgt := 76) dX4_fewestWith_10 rfl (by decide) (fun c => ?_) (fun c => ?_)
  · have h := h.1 c
    refine r_aload_n hM (pc' := 77) dX4_fewestWith_76 rfl (x := 4) rfl ?_
    refine r_getR hM (pc' := 80) dX4_fewestWith_77 rfl fl_X4_37 wx_4 rfl ?_
    refine r_getR hM (pc' := 83) dX4_fewestWith_80 rfl fl_X4_108 wx_3 rfl ?_
    refine r_iload_n hM (pc' := 84) dX4_fewestWith_83 rfl (x := v1) rfl ?_
    refine r_iconst hM (pc' := 85) dX4_fewestWith_84 rfl (by decide) ?_
    have o1 := h.1
    have h := h.2
    refine r_iastore hM (pc' := 86) dX4_fewestWith_85 rfl wx_17 o1 (fun τ1 e1 => ?_)
    have h := h τ1 e1
    refine r_iconst hM (pc' := 87) dX4_fewestWith_86 rfl (by decide) ?_
    refine r_istore_n hM (pc' := 88) dX4_fewestWith_87 rfl (Nat.le_of_ble_eq_true rfl) rfl ?_
    show R 88 [vR 4, vI v1, vI v2, vI 0] _ _
    exact h
  · have h := h.2 c
    refine r_aload_n hM (pc' := 14) dX4_fewestWith_13 rfl (x := 4) rfl ?_
    refine r_getR hM (pc' := 17) dX4_fewestWith_14 rfl fl_X4_37 wx_4 rfl ?_
    refine r_getR hM (pc' := 20) dX4_fewestWith_17 rfl fl_X4_108 wx_3 rfl ?_
    refine r_iload_n hM (pc' := 21) dX4_fewestWith_20 rfl (x := v3) rfl ?_
    refine r_aload_n hM (pc' := 22) dX4_fewestWith_21 rfl (x := 4) rfl ?_
    refine r_getR hM (pc' := 25) dX4_fewestWith_22 rfl fl_X4_58 wx_4 rfl ?_
    refine r_getR hM (pc' := 28) dX4_fewestWith_25 rfl fl_X4_100 wx_2 rfl ?_
    refine r_iload_n hM (pc' := 29) dX4_fewestWith_28 rfl (x := v3) rfl ?_
    have o2 := h.1
    have h := h.2
    refine r_iaload hM (pc' := 30) dX4_fewestWith_29 rfl wx_15 o2 ?_
    refine r_iconst hM (pc' := 31) dX4_fewestWith_30 rfl (by decide) ?_
    refine r_iload_n hM (pc' := 32) dX4_fewestWith_31 rfl (x := v1) rfl ?_
    refine r_ishl hM (pc' := 33) dX4_fewestWith_32 rfl ?_
    refine r_iconst hM (pc' := 34) dX4_fewestWith_33 rfl (by decide) ?_
    refine r_ixor hM (pc' := 35) dX4_fewestWith_34 rfl ?_
    refine r_iand hM (pc' := 36) dX4_fewestWith_35 rfl ?_
    refine r_iastore hM (pc' := 37) dX4_fewestWith_36 rfl wx_17 o2 (fun τ2 e2 => ?_)
    have h := h τ2 e2
    refine r_iload_n hM (pc' := 38) dX4_fewestWith_37 rfl (x := v3) rfl ?_
    refine r_iload_n hM (pc' := 39) dX4_fewestWith_38 rfl (x := v1) rfl ?_
    refine r_icmp_eq hM (pc' := 42) (tgt := 70) dX4_fewestWith_39 rfl (by decide) (fun c => ?_) (fun c => ?_)
    · have h := h.1 c
      have o3 := h.1
      have h := h.2
      refine r_iinc hM (pc' := 73) dX4_fewestWith_70 rfl (x := v3) rfl rfl o3 ?_
      show R 73 [vR 4, vI v1, vI v2, vI (v3 + 1)] _ _
      refine r_goto hM (tgt := 2) dX4_fewestWith_73 (by decide) ?_
      exact h
    · have h := h.2 c
      refine r_aload_n hM (pc' := 43) dX4_fewestWith_42 rfl (x := 4) rfl ?_
      refine r_getR hM (pc' := 46) dX4_fewestWith_43 rfl fl_X4_58 wx_4 rfl ?_
      refine r_iload_n hM (pc' := 47) dX4_fewestWith_46 rfl (x := v3) rfl ?_
      refine r_iload_n hM (pc' := 48) dX4_fewestWith_47 rfl (x := v1) rfl ?_
      refine r_iload_n hM (pc' := 49) dX4_fewestWith_48 rfl (x := v2) rfl ?_
      refine r_callVI hM (pc' := 52) [vI v3, vI v1, vI v2] dX4_fewestWith_49 rfl ml_X4_126 wx_2 rfl rfl (Nat.le_of_ble_eq_true rfl) (conI.mono h (fun x1 σ1 h => ?_))
      refine r_if_eq hM (pc' := 55) (tgt := 70) dX4_fewestWith_52 rfl (by decide) (fun c => ?_) (fun c => ?_)
      · have h := h.1 c
        have o4 := h.1
        have h := h.2
        refine r_iinc hM (pc' := 73) dX4_fewestWith_70 rfl (x := v3) rfl rfl o4 ?_
        show R 73 [vR 4, vI v1, vI v2, vI (v3 + 1)] _ _
        refine r_goto hM (tgt := 2) dX4_fewestWith_73 (by decide) ?_
        exact h
      · have h := h.2 c
        refine r_aload_n hM (pc' := 56) dX4_fewestWith_55 rfl (x := 4) rfl ?_
        refine r_getR hM (pc' := 59) dX4_fewestWith_56 rfl fl_X4_37 wx_4 rfl ?_
        refine r_getR hM (pc' := 62) dX4_fewestWith_59 rfl fl_X4_108 wx_3 rfl ?_
        refine r_iload_n hM (pc' := 63) dX4_fewestWith_62 rfl (x := v3) rfl ?_
        refine r_dup2 hM (pc' := 64) dX4_fewestWith_63 rfl (fun _ => rfl) (fun _ => rfl) ?_
        refine r_iaload hM (pc' := 65) dX4_fewestWith_64 rfl wx_17 o2 ?_
        refine r_iconst hM (pc' := 66) dX4_fewestWith_65 rfl (by decide) ?_
        refine r_iload_n hM (pc' := 67) dX4_fewestWith_66 rfl (x := v1) rfl ?_
        refine r_ishl hM (pc' := 68) dX4_fewestWith_67 rfl ?_
        refine r_ior hM (pc' := 69) dX4_fewestWith_68 rfl ?_
        refine r_iastore hM (pc' := 70) dX4_fewestWith_69 rfl wx_17 o2 (fun τ3 e3 => ?_)
        have h := h τ3 e3
        have o5 := h.1
        have h := h.2
        refine r_iinc hM (pc' := 73) dX4_fewestWith_70 rfl (x := v3) rfl rfl o5 ?_
        show R 73 [vR 4, vI v1, vI v2, vI (v3 + 1)] _ _
        refine r_goto hM (tgt := 2) dX4_fewestWith_73 (by decide) ?_
        exact h
set_option maxRecDepth 20000 in
theorem g_X4_fewestWith_88 {G : GX} {d : Nat} {Ret : Option AV → St → Prop} {R : Nat → List AV → List AV → St → Prop} (hM : AM G wdX (d + 1) mX4_fewestWith Ret R) (v1 : Int) (v2 : Int) (v3 : Int) (σ : St)
    (h : (((σ.1 7 4) ≤ v3 → conI G wdX d mX3_most [vR 3, vI (σ.1 7 4)] σ (fun x1 σ1 => (r32 ((σ.1 7 4) - x1) ∧ Ret (some (vI ((σ.1 7 4) - x1))) σ1))) ∧ (¬ (σ.1 7 4) ≤ v3 → ((v3 = v1 → (r32 (v3 + 1) ∧ R 88 [vR 4, vI v1, vI v2, vI (v3 + 1)] [] σ)) ∧ (¬ v3 = v1 → (r32 (-v2) ∧ conI G wdX d mX2_follows [vR 2, vI v1, vI v3, vI (-v2)] σ (fun x2 σ2 => ((x2 = 0 → (r32 (v3 + 1) ∧ R 88 [vR 4, vI v1, vI v2, vI (v3 + 1)] [] σ2)) ∧ (¬ x2 = 0 → ((0 ≤ v1 ∧ v1 < 16) ∧ (∀ τ1, τ1 = sI σ2 17 (v1).toNat (bOr (σ2.1 17 (v1).toNat) (bShl 1 v3)) → (r32 (v3 + 1) ∧ R 88 [vR 4, vI v1, vI v2, vI (v3 + 1)] [] τ1)))))))))))) : R 88 [vR 4, vI v1, vI v2, vI v3] [] σ := by
  refine r_iload_n hM (pc' := 89) dX4_fewestWith_88 rfl (x := v3) rfl ?_
  refine r_aload_n hM (pc' := 90) dX4_fewestWith_89 rfl (x := 4) rfl ?_
  refine r_getR hM (pc' := 93) dX4_fewestWith_90 rfl fl_X4_54 wx_4 rfl ?_
  refine r_getI hM (pc' := 96) dX4_fewestWith_93 rfl fl_X4_65 wx_7 rfl ?_
  refine r_icmp_ge hM (pc' := 99) (tgt := 139) dX4_fewestWith_96 rfl (by decide) (fun c => ?_) (fun c => ?_)
  · have h := h.1 c
    refine r_aload_n hM (pc' := 140) dX4_fewestWith_139 rfl (x := 4) rfl ?_
    refine r_getR hM (pc' := 143) dX4_fewestWith_140 rfl fl_X4_54 wx_4 rfl ?_
    refine r_getI hM (pc' := 146) dX4_fewestWith_143 rfl fl_X4_65 wx_7 rfl ?_
    refine r_aload_n hM (pc' := 147) dX4_fewestWith_146 rfl (x := 4) rfl ?_
    refine r_getR hM (pc' := 150) dX4_fewestWith_147 rfl fl_X4_37 wx_4 rfl ?_
    refine r_aload_n hM (pc' := 151) dX4_fewestWith_150 rfl (x := 4) rfl ?_
    refine r_getR hM (pc' := 154) dX4_fewestWith_151 rfl fl_X4_54 wx_4 rfl ?_
    refine r_getI hM (pc' := 157) dX4_fewestWith_154 rfl fl_X4_65 wx_7 rfl ?_
    refine r_callVI hM (pc' := 160) [vI (σ.1 7 4)] dX4_fewestWith_157 rfl ml_X4_130 wx_3 rfl rfl (Nat.le_of_ble_eq_true rfl) (conI.mono h (fun x1 σ1 h => ?_))
    have o1 := h.1
    have h := h.2
    refine r_isub hM (pc' := 161) dX4_fewestWith_160 rfl o1 ?_
    exact r_ireturn hM dX4_fewestWith_161 rfl h
  · have h := h.2 c
    refine r_iload_n hM (pc' := 100) dX4_fewestWith_99 rfl (x := v3) rfl ?_
    refine r_iload_n hM (pc' := 101) dX4_fewestWith_100 rfl (x := v1) rfl ?_
    refine r_icmp_eq hM (pc' := 104) (tgt := 133) dX4_fewestWith_101 rfl (by decide) (fun c => ?_) (fun c => ?_)
    · have h := h.1 c
      have o2 := h.1
      have h := h.2
      refine r_iinc hM (pc' := 136) dX4_fewestWith_133 rfl (x := v3) rfl rfl o2 ?_
      show R 136 [vR 4, vI v1, vI v2, vI (v3 + 1)] _ _
      refine r_goto hM (tgt := 88) dX4_fewestWith_136 (by decide) ?_
      exact h
    · have h := h.2 c
      refine r_aload_n hM (pc' := 105) dX4_fewestWith_104 rfl (x := 4) rfl ?_
      refine r_getR hM (pc' := 108) dX4_fewestWith_105 rfl fl_X4_58 wx_4 rfl ?_
      refine r_iload_n hM (pc' := 109) dX4_fewestWith_108 rfl (x := v1) rfl ?_
      refine r_iload_n hM (pc' := 110) dX4_fewestWith_109 rfl (x := v3) rfl ?_
      refine r_iload_n hM (pc' := 111) dX4_fewestWith_110 rfl (x := v2) rfl ?_
      have o3 := h.1
      have h := h.2
      refine r_ineg hM (pc' := 112) dX4_fewestWith_111 rfl o3 ?_
      refine r_callVI hM (pc' := 115) [vI v1, vI v3, vI (-v2)] dX4_fewestWith_112 rfl ml_X4_126 wx_2 rfl rfl (Nat.le_of_ble_eq_true rfl) (conI.mono h (fun x2 σ2 h => ?_))
      refine r_if_eq hM (pc' := 118) (tgt := 133) dX4_fewestWith_115 rfl (by decide) (fun c => ?_) (fun c => ?_)
      · have h := h.1 c
        have o4 := h.1
        have h := h.2
        refine r_iinc hM (pc' := 136) dX4_fewestWith_133 rfl (x := v3) rfl rfl o4 ?_
        show R 136 [vR 4, vI v1, vI v2, vI (v3 + 1)] _ _
        refine r_goto hM (tgt := 88) dX4_fewestWith_136 (by decide) ?_
        exact h
      · have h := h.2 c
        refine r_aload_n hM (pc' := 119) dX4_fewestWith_118 rfl (x := 4) rfl ?_
        refine r_getR hM (pc' := 122) dX4_fewestWith_119 rfl fl_X4_37 wx_4 rfl ?_
        refine r_getR hM (pc' := 125) dX4_fewestWith_122 rfl fl_X4_108 wx_3 rfl ?_
        refine r_iload_n hM (pc' := 126) dX4_fewestWith_125 rfl (x := v1) rfl ?_
        refine r_dup2 hM (pc' := 127) dX4_fewestWith_126 rfl (fun _ => rfl) (fun _ => rfl) ?_
        have o5 := h.1
        have h := h.2
        refine r_iaload hM (pc' := 128) dX4_fewestWith_127 rfl wx_17 o5 ?_
        refine r_iconst hM (pc' := 129) dX4_fewestWith_128 rfl (by decide) ?_
        refine r_iload_n hM (pc' := 130) dX4_fewestWith_129 rfl (x := v3) rfl ?_
        refine r_ishl hM (pc' := 131) dX4_fewestWith_130 rfl ?_
        refine r_ior hM (pc' := 132) dX4_fewestWith_131 rfl ?_
        refine r_iastore hM (pc' := 133) dX4_fewestWith_132 rfl wx_17 o5 (fun τ1 e1 => ?_)
        have h := h τ1 e1
        have o6 := h.1
        have h := h.2
        refine r_iinc hM (pc' := 136) dX4_fewestWith_133 rfl (x := v3) rfl rfl o6 ?_
        show R 136 [vR 4, vI v1, vI v2, vI (v3 + 1)] _ _
        refine r_goto hM (tgt := 88) dX4_fewestWith_136 (by decide) ?_
        exact h
