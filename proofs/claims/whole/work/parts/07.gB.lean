theorem ml_X0_33 : MLn RX0 33 mX9_within 3 := ⟨⟨RX9, by decide +kernel⟩, gw_mem 395 (by decide +kernel) rfl, gw_mem 38 (by decide +kernel) rfl, mwX9_within, ⟨by decide, by decide, by decide +kernel⟩, by decide⟩
theorem fp_X0_9 : FP RX0 9 0 0 .int := ⟨(RX0, TX0, 6), rfl, by decide, gw_mem 296 (by decide +kernel) rfl, inwX0, ⟨tyX0, tyX0_ok⟩, nmX0, rfl, by decide +kernel⟩
theorem fp_X0_15 : FP RX0 15 0 1 .int := ⟨(RX0, TX0, 6), rfl, by decide, gw_mem 298 (by decide +kernel) rfl, inwX0, ⟨tyX0, tyX0_ok⟩, nmX0, rfl, by decide +kernel⟩
theorem fp_X0_18 : FP RX0 18 0 2 .int := ⟨(RX0, TX0, 6), rfl, by decide, gw_mem 300 (by decide +kernel) rfl, inwX0, ⟨tyX0, tyX0_ok⟩, nmX0, rfl, by decide +kernel⟩
theorem fp_X0_21 : FP RX0 21 0 3 .boolean := ⟨(RX0, TX0, 6), rfl, by decide, gw_mem 302 (by decide +kernel) rfl, inwX0, ⟨tyX0, tyX0_ok⟩, nmX0, rfl, by decide +kernel⟩
theorem ml_X0_37 : MLv RX0 37 mX0_minutesOf 0 2 := ⟨(RX0, TX0, 6), rfl, rfl, gw_mem 641 (by decide +kernel) rfl, gw_mem 643 (by decide +kernel) rfl, gw_mem 13 (by decide +kernel) rfl, gw_mem 47 (by decide +kernel) rfl, mwX0_minutesOf, ⟨by decide, by decide, by decide +kernel⟩, by decide⟩
theorem fl_X0_9 : FL RX0 9 0 0 := ⟨(RX0, TX0, 6), rfl, by decide, gw_mem 296 (by decide +kernel) rfl, inwX0⟩
theorem fl_X0_15 : FL RX0 15 0 1 := ⟨(RX0, TX0, 6), rfl, by decide, gw_mem 298 (by decide +kernel) rfl, inwX0⟩
theorem fl_X0_21 : FL RX0 21 0 3 := ⟨(RX0, TX0, 6), rfl, by decide, gw_mem 302 (by decide +kernel) rfl, inwX0⟩
theorem fl_X0_29 : FL RX0 29 0 5 := ⟨(RX0, TX0, 6), rfl, by decide, gw_mem 306 (by decide +kernel) rfl, inwX0⟩
theorem ml_X0_41 : MLv RX0 41 mX6_beginning 6 1 := ⟨(RX6, TX6, 9), rfl, rfl, gw_mem 649 (by decide +kernel) rfl, gw_mem 650 (by decide +kernel) rfl, gw_mem 651 (by decide +kernel) rfl, gw_mem 46 (by decide +kernel) rfl, mwX6_beginning, ⟨by decide, by decide, by decide +kernel⟩, by decide⟩
theorem ml_X0_47 : MLv RX0 47 mX0_canChange 0 2 := ⟨(RX0, TX0, 6), rfl, rfl, gw_mem 657 (by decide +kernel) rfl, gw_mem 659 (by decide +kernel) rfl, gw_mem 14 (by decide +kernel) rfl, gw_mem 47 (by decide +kernel) rfl, mwX0_canChange, ⟨by decide, by decide, by decide +kernel⟩, by decide⟩
theorem ml_X0_51 : MLv RX0 51 mX6_ending 6 1 := ⟨(RX6, TX6, 9), rfl, rfl, gw_mem 645 (by decide +kernel) rfl, gw_mem 646 (by decide +kernel) rfl, gw_mem 647 (by decide +kernel) rfl, gw_mem 46 (by decide +kernel) rfl, mwX6_ending, ⟨by decide, by decide, by decide +kernel⟩, by decide⟩
theorem fl_X0_25 : FL RX0 25 0 4 := ⟨(RX0, TX0, 6), rfl, by decide, gw_mem 305 (by decide +kernel) rfl, inwX0⟩
theorem ml_X0_54 : MLv RX0 54 mX6_placeAtEnd 6 1 := ⟨(RX6, TX6, 9), rfl, rfl, gw_mem 661 (by decide +kernel) rfl, gw_mem 662 (by decide +kernel) rfl, gw_mem 663 (by decide +kernel) rfl, gw_mem 46 (by decide +kernel) rfl, mwX6_placeAtEnd, ⟨by decide, by decide, by decide +kernel⟩, by decide⟩
theorem ml_X0_57 : MLv RX0 57 mX6_placeAtBeginning 6 1 := ⟨(RX6, TX6, 9), rfl, rfl, gw_mem 665 (by decide +kernel) rfl, gw_mem 666 (by decide +kernel) rfl, gw_mem 667 (by decide +kernel) rfl, gw_mem 46 (by decide +kernel) rfl, mwX6_placeAtBeginning, ⟨by decide, by decide, by decide +kernel⟩, by decide⟩
theorem ml_X0_60 : MLv RX0 60 mX8_minutesOf 8 2 := ⟨(RX8, TX8, 3), rfl, rfl, gw_mem 669 (by decide +kernel) rfl, gw_mem 470 (by decide +kernel) rfl, gw_mem 471 (by decide +kernel) rfl, gw_mem 39 (by decide +kernel) rfl, mwX8_minutesOf, ⟨by decide, by decide, by decide +kernel⟩, by decide⟩
theorem fl_X0_18 : FL RX0 18 0 2 := ⟨(RX0, TX0, 6), rfl, by decide, gw_mem 300 (by decide +kernel) rfl, inwX0⟩
theorem fl_X2_22 : FL RX2 22 2 3 := ⟨(RX2, TX2, 4), rfl, by decide, gw_mem 132 (by decide +kernel) rfl, inwX2⟩
theorem fl_X2_26 : FL RX2 26 7 4 := ⟨(RX7, TX7, 5), rfl, by decide, gw_mem 108 (by decide +kernel) rfl, inwX7⟩
theorem fl_X2_9 : FL RX2 9 2 0 := ⟨(RX2, TX2, 4), rfl, by decide, gw_mem 128 (by decide +kernel) rfl, inwX2⟩
theorem ml_X2_32 : MLv RX2 32 mX2_follows 2 3 := ⟨(RX2, TX2, 4), rfl, rfl, gw_mem 485 (by decide +kernel) rfl, gw_mem 465 (by decide +kernel) rfl, gw_mem 466 (by decide +kernel) rfl, gw_mem 42 (by decide +kernel) rfl, mwX2_follows, ⟨by decide, by decide, by decide +kernel⟩, by decide⟩
theorem ml_X2_36 : MLv RX2 36 mX7_holds 7 1 := ⟨(RX7, TX7, 5), rfl, rfl, gw_mem 468 (by decide +kernel) rfl, gw_mem 431 (by decide +kernel) rfl, gw_mem 432 (by decide +kernel) rfl, gw_mem 41 (by decide +kernel) rfl, mwX7_holds, ⟨by decide, by decide, by decide +kernel⟩, by decide⟩
theorem fl_X2_18 : FL RX2 18 2 2 := ⟨(RX2, TX2, 4), rfl, by decide, gw_mem 131 (by decide +kernel) rfl, inwX2⟩
theorem fl_X2_40 : FL RX2 40 7 1 := ⟨(RX7, TX7, 5), rfl, by decide, gw_mem 95 (by decide +kernel) rfl, inwX7⟩
theorem fl_X2_43 : FL RX2 43 7 0 := ⟨(RX7, TX7, 5), rfl, by decide, gw_mem 89 (by decide +kernel) rfl, inwX7⟩
theorem ml_X2_46 : MLv RX2 46 mX8_minutesOf 8 2 := ⟨(RX8, TX8, 3), rfl, rfl, gw_mem 469 (by decide +kernel) rfl, gw_mem 470 (by decide +kernel) rfl, gw_mem 471 (by decide +kernel) rfl, gw_mem 39 (by decide +kernel) rfl, mwX8_minutesOf, ⟨by decide, by decide, by decide +kernel⟩, by decide⟩
theorem fl_X2_52 : FL RX2 52 7 3 := ⟨(RX7, TX7, 5), rfl, by decide, gw_mem 104 (by decide +kernel) rfl, inwX7⟩
theorem fl_X2_55 : FL RX2 55 7 2 := ⟨(RX7, TX7, 5), rfl, by decide, gw_mem 99 (by decide +kernel) rfl, inwX7⟩
theorem fl_X2_15 : FL RX2 15 2 1 := ⟨(RX2, TX2, 4), rfl, by decide, gw_mem 130 (by decide +kernel) rfl, inwX2⟩
theorem ml_X2_58 : MLs RX2 58 mX2_mostOf 3 := ⟨gw_mem 740 (by decide +kernel) rfl, gw_mem 741 (by decide +kernel) rfl, gw_mem 42 (by decide +kernel) rfl, mwX2_mostOf, ⟨by decide, by decide, by decide +kernel⟩, by decide⟩
theorem ml_X2_62 : MLs RX2 62 mJ6_bitCount_0f7a4 1 := ⟨gw_mem 743 (by decide +kernel) rfl, gw_mem 559 (by decide +kernel) rfl, gw_mem 51 (by decide +kernel) rfl, mwJ6_bitCount_0f7a4, ⟨by decide, by decide, by decide +kernel⟩, by decide⟩
theorem ml_X2_68 : MLs RX2 68 mJ9_max_7cf53 2 := ⟨gw_mem 744 (by decide +kernel) rfl, gw_mem 506 (by decide +kernel) rfl, gw_mem 50 (by decide +kernel) rfl, mwJ9_max_7cf53, ⟨by decide, by decide, by decide +kernel⟩, by decide⟩
theorem fp_X6_27 : FP RX6 27 6 5 .int := ⟨(RX6, TX6, 9), rfl, by decide, gw_mem 265 (by decide +kernel) rfl, inwX6, ⟨tyX6, tyX6_ok⟩, nmX6, rfl, by decide +kernel⟩
theorem fl_X6_39 : FL RX6 39 6 8 := ⟨(RX6, TX6, 9), rfl, by decide, gw_mem 270 (by decide +kernel) rfl, inwX6⟩
theorem fl_X6_43 : FL RX6 43 4 3 := ⟨(RX4, TX4, 12), rfl, by decide, gw_mem 213 (by decide +kernel) rfl, inwX4⟩
theorem ml_X6_46 : MLv RX6 46 mX4_sizeOf 4 1 := ⟨(RX4, TX4, 12), rfl, rfl, gw_mem 577 (by decide +kernel) rfl, gw_mem 578 (by decide +kernel) rfl, gw_mem 579 (by decide +kernel) rfl, gw_mem 43 (by decide +kernel) rfl, mwX4_sizeOf, ⟨by decide, by decide, by decide +kernel⟩, by decide⟩
theorem ml_X6_50 : MLv RX6 50 mX4_tripAt 4 2 := ⟨(RX4, TX4, 12), rfl, rfl, gw_mem 581 (by decide +kernel) rfl, gw_mem 582 (by decide +kernel) rfl, gw_mem 583 (by decide +kernel) rfl, gw_mem 43 (by decide +kernel) rfl, mwX4_tripAt, ⟨by decide, by decide, by decide +kernel⟩, by decide⟩
theorem ml_X6_54 : MLv RX6 54 mX6_open 6 2 := ⟨(RX6, TX6, 9), rfl, rfl, gw_mem 586 (by decide +kernel) rfl, gw_mem 588 (by decide +kernel) rfl, gw_mem 12 (by decide +kernel) rfl, gw_mem 46 (by decide +kernel) rfl, mwX6_open, ⟨by decide, by decide, by decide +kernel⟩, by decide⟩
theorem fl_X6_18 : FL RX6 18 6 2 := ⟨(RX6, TX6, 9), rfl, by decide, gw_mem 259 (by decide +kernel) rfl, inwX6⟩
theorem fl_X6_27 : FL RX6 27 6 5 := ⟨(RX6, TX6, 9), rfl, by decide, gw_mem 265 (by decide +kernel) rfl, inwX6⟩
theorem fl_X6_21 : FL RX6 21 6 3 := ⟨(RX6, TX6, 9), rfl, by decide, gw_mem 261 (by decide +kernel) rfl, inwX6⟩
theorem fl_X6_24 : FL RX6 24 6 4 := ⟨(RX6, TX6, 9), rfl, by decide, gw_mem 263 (by decide +kernel) rfl, inwX6⟩
theorem fl_X6_31 : FL RX6 31 6 6 := ⟨(RX6, TX6, 9), rfl, by decide, gw_mem 268 (by decide +kernel) rfl, inwX6⟩
theorem fl_X6_35 : FL RX6 35 6 7 := ⟨(RX6, TX6, 9), rfl, by decide, gw_mem 269 (by decide +kernel) rfl, inwX6⟩
theorem fl_X6_58 : FL RX6 58 7 1 := ⟨(RX7, TX7, 5), rfl, by decide, gw_mem 94 (by decide +kernel) rfl, inwX7⟩
theorem ml_X6_63 : MLv RX6 63 mX8_isRelief 8 1 := ⟨(RX8, TX8, 3), rfl, rfl, gw_mem 590 (by decide +kernel) rfl, gw_mem 591 (by decide +kernel) rfl, gw_mem 592 (by decide +kernel) rfl, gw_mem 39 (by decide +kernel) rfl, mwX8_isRelief, ⟨by decide, by decide, by decide +kernel⟩, by decide⟩
theorem fl_X6_9 : FL RX6 9 6 0 := ⟨(RX6, TX6, 9), rfl, by decide, gw_mem 255 (by decide +kernel) rfl, inwX6⟩
theorem fl_X6_15 : FL RX6 15 6 1 := ⟨(RX6, TX6, 9), rfl, by decide, gw_mem 257 (by decide +kernel) rfl, inwX6⟩
theorem ml_X6_69 : MLv RX6 69 mX6_holds 6 1 := ⟨(RX6, TX6, 9), rfl, rfl, gw_mem 636 (by decide +kernel) rfl, gw_mem 625 (by decide +kernel) rfl, gw_mem 626 (by decide +kernel) rfl, gw_mem 46 (by decide +kernel) rfl, mwX6_holds, ⟨by decide, by decide, by decide +kernel⟩, by decide⟩
theorem fl_X6_72 : FL RX6 72 7 2 := ⟨(RX7, TX7, 5), rfl, by decide, gw_mem 100 (by decide +kernel) rfl, inwX7⟩
theorem fl_X6_75 : FL RX6 75 7 3 := ⟨(RX7, TX7, 5), rfl, by decide, gw_mem 105 (by decide +kernel) rfl, inwX7⟩
theorem fl_X6_78 : FL RX6 78 7 0 := ⟨(RX7, TX7, 5), rfl, by decide, gw_mem 90 (by decide +kernel) rfl, inwX7⟩
theorem dX0_put_0 : decode cX0_put 0 = .ok (.iload_n 1, 1) := by decide +kernel
theorem dX0_put_1 : decode cX0_put 1 = .ok (.iconst 1, 1) := by decide +kernel
theorem dX0_put_2 : decode cX0_put 2 = .ok (.sipush 2880, 3) := by decide +kernel
theorem dX0_put_5 : decode cX0_put 5 = .ok (.invokestatic 33, 3) := by decide +kernel
theorem dX0_put_8 : decode cX0_put 8 = .ok (.ifCond .eq 25, 3) := by decide +kernel
theorem dX0_put_11 : decode cX0_put 11 = .ok (.iload_n 2, 1) := by decide +kernel
theorem dX0_put_12 : decode cX0_put 12 = .ok (.iconst 1, 1) := by decide +kernel
theorem dX0_put_13 : decode cX0_put 13 = .ok (.sipush 2880, 3) := by decide +kernel
theorem dX0_put_16 : decode cX0_put 16 = .ok (.invokestatic 33, 3) := by decide +kernel
theorem dX0_put_19 : decode cX0_put 19 = .ok (.ifCond .eq 14, 3) := by decide +kernel
theorem dX0_put_22 : decode cX0_put 22 = .ok (.iload_n 3, 1) := by decide +kernel
theorem dX0_put_23 : decode cX0_put 23 = .ok (.iconst 0, 1) := by decide +kernel
theorem dX0_put_24 : decode cX0_put 24 = .ok (.sipush 600, 3) := by decide +kernel
theorem dX0_put_27 : decode cX0_put 27 = .ok (.invokestatic 33, 3) := by decide +kernel
theorem dX0_put_30 : decode cX0_put 30 = .ok (.ifCond .ne 5, 3) := by decide +kernel
theorem dX0_put_33 : decode cX0_put 33 = .ok (.iconst 0, 1) := by decide +kernel
theorem dX0_put_34 : decode cX0_put 34 = .ok (.ireturn, 1) := by decide +kernel
theorem dX0_put_35 : decode cX0_put 35 = .ok (.aload_n 0, 1) := by decide +kernel
theorem dX0_put_36 : decode cX0_put 36 = .ok (.iload_n 1, 1) := by decide +kernel
theorem dX0_put_37 : decode cX0_put 37 = .ok (.putfield 9, 3) := by decide +kernel
theorem dX0_put_40 : decode cX0_put 40 = .ok (.aload_n 0, 1) := by decide +kernel
theorem dX0_put_41 : decode cX0_put 41 = .ok (.iload_n 2, 1) := by decide +kernel
theorem dX0_put_42 : decode cX0_put 42 = .ok (.putfield 15, 3) := by decide +kernel
theorem dX0_put_45 : decode cX0_put 45 = .ok (.aload_n 0, 1) := by decide +kernel
theorem dX0_put_46 : decode cX0_put 46 = .ok (.iload_n 3, 1) := by decide +kernel
theorem dX0_put_47 : decode cX0_put 47 = .ok (.putfield 18, 3) := by decide +kernel
theorem dX0_put_50 : decode cX0_put 50 = .ok (.aload_n 0, 1) := by decide +kernel
theorem dX0_put_51 : decode cX0_put 51 = .ok (.iload 4, 2) := by decide +kernel
theorem dX0_put_53 : decode cX0_put 53 = .ok (.putfield 21, 3) := by decide +kernel
theorem dX0_put_56 : decode cX0_put 56 = .ok (.iconst 1, 1) := by decide +kernel
theorem dX0_put_57 : decode cX0_put 57 = .ok (.ireturn, 1) := by decide +kernel
set_option maxRecDepth 20000 in
theorem g_X0_put_0 {G : GX} {d : Nat} {Ret : Option AV → St → Prop} {R : Nat → List AV → List AV → St → Prop} (hM : AM G wdX (d + 1) mX0_put Ret R) (v1 : Int) (v2 : Int) (v3 : Int) (v4 : Int) (σ : St)
    (h : conI G wdX d mX9_within [vI v1, vI 1, vI 2880] σ (fun x1 σ1 => ((x1 = 0 → Ret (some (vI 0)) σ1) ∧ (¬ x1 = 0 → conI G wdX d mX9_within [vI v2, vI 1, vI 2880] σ1 (fun x2 σ2 => ((x2 = 0 → Ret (some (vI 0)) σ2) ∧ (¬ x2 = 0 → conI G wdX d mX9_within [vI v3, vI 0, vI 600] σ2 (fun x3 σ3 => ((¬ x3 = 0 → (∀ τ1, τ1 = sI σ3 0 0 v1 → (∀ τ2, τ2 = sI τ1 0 1 v2 → (∀ τ3, τ3 = sI τ2 0 2 v3 → ((v4 = 0 ∨ v4 = 1) ∧ (∀ τ4, τ4 = sI τ3 0 3 v4 → Ret (some (vI 1)) τ4)))))) ∧ (x3 = 0 → Ret (some (vI 0)) σ3)))))))))) : R 0 [vR 0, vI v1, vI v2, vI v3, vI v4] [] σ := by
  refine r_iload_n hM (pc' := 1) dX0_put_0 rfl (x := v1) rfl ?_
  refine r_iconst hM (pc' := 2) dX0_put_1 rfl (by decide) ?_
  refine r_sipush hM (pc' := 5) dX0_put_2 rfl (by decide) (by decide) ?_
  refine r_callNI hM (pc' := 8) [vI v1, vI 1, vI 2880] dX0_put_5 rfl ml_X0_33 rfl rfl (Nat.le_of_ble_eq_true rfl) (conI.mono h (fun x1 σ1 h => ?_))
  refine r_if_eq hM (pc' := 11) (tgt := 33) dX0_put_8 rfl (by decide) (fun c => ?_) (fun c => ?_)
  · have h := h.1 c
    refine r_iconst hM (pc' := 34) dX0_put_33 rfl (by decide) ?_
    exact r_zreturn hM dX0_put_34 rfl (by decide) h
  · have h := h.2 c
    refine r_iload_n hM (pc' := 12) dX0_put_11 rfl (x := v2) rfl ?_
    refine r_iconst hM (pc' := 13) dX0_put_12 rfl (by decide) ?_
    refine r_sipush hM (pc' := 16) dX0_put_13 rfl (by decide) (by decide) ?_
    refine r_callNI hM (pc' := 19) [vI v2, vI 1, vI 2880] dX0_put_16 rfl ml_X0_33 rfl rfl (Nat.le_of_ble_eq_true rfl) (conI.mono h (fun x2 σ2 h => ?_))
    refine r_if_eq hM (pc' := 22) (tgt := 33) dX0_put_19 rfl (by decide) (fun c => ?_) (fun c => ?_)
    · have h := h.1 c
      refine r_iconst hM (pc' := 34) dX0_put_33 rfl (by decide) ?_
      exact r_zreturn hM dX0_put_34 rfl (by decide) h
    · have h := h.2 c
      refine r_iload_n hM (pc' := 23) dX0_put_22 rfl (x := v3) rfl ?_
      refine r_iconst hM (pc' := 24) dX0_put_23 rfl (by decide) ?_
      refine r_sipush hM (pc' := 27) dX0_put_24 rfl (by decide) (by decide) ?_
      refine r_callNI hM (pc' := 30) [vI v3, vI 0, vI 600] dX0_put_27 rfl ml_X0_33 rfl rfl (Nat.le_of_ble_eq_true rfl) (conI.mono h (fun x3 σ3 h => ?_))
      refine r_if_ne hM (pc' := 33) (tgt := 35) dX0_put_30 rfl (by decide) (fun c => ?_) (fun c => ?_)
      · have h := h.1 c
        refine r_aload_n hM (pc' := 36) dX0_put_35 rfl (x := 0) rfl ?_
        refine r_iload_n hM (pc' := 37) dX0_put_36 rfl (x := v1) rfl ?_
        refine r_putI hM (pc' := 40) dX0_put_37 rfl fp_X0_9 wx_0 rfl (fun τ1 e1 => ?_)
        have h := h τ1 e1
        refine r_aload_n hM (pc' := 41) dX0_put_40 rfl (x := 0) rfl ?_
        refine r_iload_n hM (pc' := 42) dX0_put_41 rfl (x := v2) rfl ?_
        refine r_putI hM (pc' := 45) dX0_put_42 rfl fp_X0_15 wx_0 rfl (fun τ2 e2 => ?_)
        have h := h τ2 e2
        refine r_aload_n hM (pc' := 46) dX0_put_45 rfl (x := 0) rfl ?_
        refine r_iload_n hM (pc' := 47) dX0_put_46 rfl (x := v3) rfl ?_
        refine r_putI hM (pc' := 50) dX0_put_47 rfl fp_X0_18 wx_0 rfl (fun τ3 e3 => ?_)
        have h := h τ3 e3
        refine r_aload_n hM (pc' := 51) dX0_put_50 rfl (x := 0) rfl ?_
        refine r_iload hM (pc' := 53) dX0_put_51 rfl (x := v4) rfl ?_
        have o1 := h.1
        have h := h.2
        refine r_putZ hM (pc' := 56) dX0_put_53 rfl fp_X0_21 wx_0 rfl o1 (fun τ4 e4 => ?_)
        have h := h τ4 e4
        refine r_iconst hM (pc' := 57) dX0_put_56 rfl (by decide) ?_
        exact r_zreturn hM dX0_put_57 rfl (by decide) h
      · have h := h.2 c
        refine r_iconst hM (pc' := 34) dX0_put_33 rfl (by decide) ?_
        exact r_zreturn hM dX0_put_34 rfl (by decide) h
theorem dX0_brokenByOne_0 : decode cX0_brokenByOne 0 = .ok (.aload_n 0, 1) := by decide +kernel
theorem dX0_brokenByOne_1 : decode cX0_brokenByOne 1 = .ok (.iload_n 1, 1) := by decide +kernel
theorem dX0_brokenByOne_2 : decode cX0_brokenByOne 2 = .ok (.iload_n 2, 1) := by decide +kernel
theorem dX0_brokenByOne_3 : decode cX0_brokenByOne 3 = .ok (.invokevirtual 37, 3) := by decide +kernel
theorem dX0_brokenByOne_6 : decode cX0_brokenByOne 6 = .ok (.istore_n 3, 1) := by decide +kernel
theorem dX0_brokenByOne_7 : decode cX0_brokenByOne 7 = .ok (.iload_n 3, 1) := by decide +kernel
theorem dX0_brokenByOne_8 : decode cX0_brokenByOne 8 = .ok (.aload_n 0, 1) := by decide +kernel
theorem dX0_brokenByOne_9 : decode cX0_brokenByOne 9 = .ok (.getfield 9, 3) := by decide +kernel
theorem dX0_brokenByOne_12 : decode cX0_brokenByOne 12 = .ok (.if_icmp .le 5, 3) := by decide +kernel
theorem dX0_brokenByOne_15 : decode cX0_brokenByOne 15 = .ok (.iconst 3, 1) := by decide +kernel
theorem dX0_brokenByOne_16 : decode cX0_brokenByOne 16 = .ok (.ireturn, 1) := by decide +kernel
theorem dX0_brokenByOne_17 : decode cX0_brokenByOne 17 = .ok (.iload_n 3, 1) := by decide +kernel
theorem dX0_brokenByOne_18 : decode cX0_brokenByOne 18 = .ok (.aload_n 0, 1) := by decide +kernel
theorem dX0_brokenByOne_19 : decode cX0_brokenByOne 19 = .ok (.getfield 15, 3) := by decide +kernel
theorem dX0_brokenByOne_22 : decode cX0_brokenByOne 22 = .ok (.if_icmp .le 7, 3) := by decide +kernel
theorem dX0_brokenByOne_25 : decode cX0_brokenByOne 25 = .ok (.iconst 4, 1) := by decide +kernel
theorem dX0_brokenByOne_26 : decode cX0_brokenByOne 26 = .ok (.goto 4, 3) := by decide +kernel
theorem dX0_brokenByOne_29 : decode cX0_brokenByOne 29 = .ok (.iconst 0, 1) := by decide +kernel
theorem dX0_brokenByOne_30 : decode cX0_brokenByOne 30 = .ok (.ireturn, 1) := by decide +kernel
set_option maxRecDepth 20000 in
theorem g_X0_brokenByOne_0 {G : GX} {d : Nat} {Ret : Option AV → St → Prop} {R : Nat → List AV → List AV → St → Prop} (hM : AM G wdX (d + 1) mX0_brokenByOne Ret R) (v1 : Int) (v2 : Int) (σ : St)
    (h : conI G wdX d mX0_minutesOf [vR 0, vI v1, vI v2] σ (fun x1 σ1 => ((x1 ≤ (σ1.1 0 0) → ((x1 ≤ (σ1.1 0 1) → Ret (some (vI 0)) σ1) ∧ (¬ x1 ≤ (σ1.1 0 1) → Ret (some (vI 4)) σ1))) ∧ (¬ x1 ≤ (σ1.1 0 0) → Ret (some (vI 3)) σ1)))) : R 0 [vR 0, vI v1, vI v2, vN] [] σ := by
  refine r_aload_n hM (pc' := 1) dX0_brokenByOne_0 rfl (x := 0) rfl ?_
  refine r_iload_n hM (pc' := 2) dX0_brokenByOne_1 rfl (x := v1) rfl ?_
  refine r_iload_n hM (pc' := 3) dX0_brokenByOne_2 rfl (x := v2) rfl ?_
  refine r_callVI hM (pc' := 6) [vI v1, vI v2] dX0_brokenByOne_3 rfl ml_X0_37 wx_0 rfl rfl (Nat.le_of_ble_eq_true rfl) (conI.mono h (fun x1 σ1 h => ?_))
  refine r_istore_n hM (pc' := 7) dX0_brokenByOne_6 rfl (Nat.le_of_ble_eq_true rfl) rfl ?_
  show R 7 [vR 0, vI v1, vI v2, vI x1] _ _
  refine r_iload_n hM (pc' := 8) dX0_brokenByOne_7 rfl (x := x1) rfl ?_
  refine r_aload_n hM (pc' := 9) dX0_brokenByOne_8 rfl (x := 0) rfl ?_
  refine r_getI hM (pc' := 12) dX0_brokenByOne_9 rfl fl_X0_9 wx_0 rfl ?_
  refine r_icmp_le hM (pc' := 15) (tgt := 17) dX0_brokenByOne_12 rfl (by decide) (fun c => ?_) (fun c => ?_)
  · have h := h.1 c
    refine r_iload_n hM (pc' := 18) dX0_brokenByOne_17 rfl (x := x1) rfl ?_
    refine r_aload_n hM (pc' := 19) dX0_brokenByOne_18 rfl (x := 0) rfl ?_
    refine r_getI hM (pc' := 22) dX0_brokenByOne_19 rfl fl_X0_15 wx_0 rfl ?_
    refine r_icmp_le hM (pc' := 25) (tgt := 29) dX0_brokenByOne_22 rfl (by decide) (fun c => ?_) (fun c => ?_)
    · have h := h.1 c
      refine r_iconst hM (pc' := 30) dX0_brokenByOne_29 rfl (by decide) ?_
      exact r_ireturn hM dX0_brokenByOne_30 rfl h
    · have h := h.2 c
      refine r_iconst hM (pc' := 26) dX0_brokenByOne_25 rfl (by decide) ?_
      refine r_goto hM (tgt := 30) dX0_brokenByOne_26 (by decide) ?_
      exact r_ireturn hM dX0_brokenByOne_30 rfl h
  · have h := h.2 c
    refine r_iconst hM (pc' := 16) dX0_brokenByOne_15 rfl (by decide) ?_
    exact r_ireturn hM dX0_brokenByOne_16 rfl h
theorem dX0_brokenByTwo_0 : decode cX0_brokenByTwo 0 = .ok (.aload_n 0, 1) := by decide +kernel
theorem dX0_brokenByTwo_1 : decode cX0_brokenByTwo 1 = .ok (.getfield 21, 3) := by decide +kernel
theorem dX0_brokenByTwo_4 : decode cX0_brokenByTwo 4 = .ok (.ifCond .ne 5, 3) := by decide +kernel
theorem dX0_brokenByTwo_7 : decode cX0_brokenByTwo 7 = .ok (.iconst 1, 1) := by decide +kernel
theorem dX0_brokenByTwo_8 : decode cX0_brokenByTwo 8 = .ok (.ireturn, 1) := by decide +kernel
theorem dX0_brokenByTwo_9 : decode cX0_brokenByTwo 9 = .ok (.aload_n 0, 1) := by decide +kernel
theorem dX0_brokenByTwo_10 : decode cX0_brokenByTwo 10 = .ok (.getfield 29, 3) := by decide +kernel
theorem dX0_brokenByTwo_13 : decode cX0_brokenByTwo 13 = .ok (.iload_n 1, 1) := by decide +kernel
theorem dX0_brokenByTwo_14 : decode cX0_brokenByTwo 14 = .ok (.invokevirtual 41, 3) := by decide +kernel
theorem dX0_brokenByTwo_17 : decode cX0_brokenByTwo 17 = .ok (.aload_n 0, 1) := by decide +kernel
theorem dX0_brokenByTwo_18 : decode cX0_brokenByTwo 18 = .ok (.getfield 29, 3) := by decide +kernel
theorem dX0_brokenByTwo_21 : decode cX0_brokenByTwo 21 = .ok (.iload_n 3, 1) := by decide +kernel
theorem dX0_brokenByTwo_22 : decode cX0_brokenByTwo 22 = .ok (.invokevirtual 41, 3) := by decide +kernel
theorem dX0_brokenByTwo_25 : decode cX0_brokenByTwo 25 = .ok (.if_icmp .gt 7, 3) := by decide +kernel
theorem dX0_brokenByTwo_28 : decode cX0_brokenByTwo 28 = .ok (.iconst 1, 1) := by decide +kernel
theorem dX0_brokenByTwo_29 : decode cX0_brokenByTwo 29 = .ok (.goto 4, 3) := by decide +kernel
theorem dX0_brokenByTwo_32 : decode cX0_brokenByTwo 32 = .ok (.iconst 0, 1) := by decide +kernel
theorem dX0_brokenByTwo_33 : decode cX0_brokenByTwo 33 = .ok (.istore 5, 2) := by decide +kernel
theorem dX0_brokenByTwo_35 : decode cX0_brokenByTwo 35 = .ok (.iload 5, 2) := by decide +kernel
theorem dX0_brokenByTwo_37 : decode cX0_brokenByTwo 37 = .ok (.ifCond .eq 7, 3) := by decide +kernel
theorem dX0_brokenByTwo_40 : decode cX0_brokenByTwo 40 = .ok (.iload_n 1, 1) := by decide +kernel
theorem dX0_brokenByTwo_41 : decode cX0_brokenByTwo 41 = .ok (.goto 4, 3) := by decide +kernel
theorem dX0_brokenByTwo_44 : decode cX0_brokenByTwo 44 = .ok (.iload_n 3, 1) := by decide +kernel
theorem dX0_brokenByTwo_45 : decode cX0_brokenByTwo 45 = .ok (.istore 6, 2) := by decide +kernel
theorem dX0_brokenByTwo_47 : decode cX0_brokenByTwo 47 = .ok (.iload 5, 2) := by decide +kernel
theorem dX0_brokenByTwo_49 : decode cX0_brokenByTwo 49 = .ok (.ifCond .eq 7, 3) := by decide +kernel
theorem dX0_brokenByTwo_52 : decode cX0_brokenByTwo 52 = .ok (.iload_n 2, 1) := by decide +kernel
theorem dX0_brokenByTwo_53 : decode cX0_brokenByTwo 53 = .ok (.goto 5, 3) := by decide +kernel
theorem dX0_brokenByTwo_56 : decode cX0_brokenByTwo 56 = .ok (.iload 4, 2) := by decide +kernel
theorem dX0_brokenByTwo_58 : decode cX0_brokenByTwo 58 = .ok (.istore 7, 2) := by decide +kernel
theorem dX0_brokenByTwo_60 : decode cX0_brokenByTwo 60 = .ok (.iload 5, 2) := by decide +kernel
theorem dX0_brokenByTwo_62 : decode cX0_brokenByTwo 62 = .ok (.ifCond .eq 7, 3) := by decide +kernel
theorem dX0_brokenByTwo_65 : decode cX0_brokenByTwo 65 = .ok (.iload_n 3, 1) := by decide +kernel
theorem dX0_brokenByTwo_66 : decode cX0_brokenByTwo 66 = .ok (.goto 4, 3) := by decide +kernel
theorem dX0_brokenByTwo_69 : decode cX0_brokenByTwo 69 = .ok (.iload_n 1, 1) := by decide +kernel
theorem dX0_brokenByTwo_70 : decode cX0_brokenByTwo 70 = .ok (.istore 8, 2) := by decide +kernel
theorem dX0_brokenByTwo_72 : decode cX0_brokenByTwo 72 = .ok (.iload 5, 2) := by decide +kernel
theorem dX0_brokenByTwo_74 : decode cX0_brokenByTwo 74 = .ok (.ifCond .eq 8, 3) := by decide +kernel
theorem dX0_brokenByTwo_77 : decode cX0_brokenByTwo 77 = .ok (.iload 4, 2) := by decide +kernel
theorem dX0_brokenByTwo_79 : decode cX0_brokenByTwo 79 = .ok (.goto 4, 3) := by decide +kernel
theorem dX0_brokenByTwo_82 : decode cX0_brokenByTwo 82 = .ok (.iload_n 2, 1) := by decide +kernel
theorem dX0_brokenByTwo_83 : decode cX0_brokenByTwo 83 = .ok (.istore 9, 2) := by decide +kernel
theorem dX0_brokenByTwo_85 : decode cX0_brokenByTwo 85 = .ok (.aload_n 0, 1) := by decide +kernel
theorem dX0_brokenByTwo_86 : decode cX0_brokenByTwo 86 = .ok (.iload 7, 2) := by decide +kernel
theorem dX0_brokenByTwo_88 : decode cX0_brokenByTwo 88 = .ok (.iload 8, 2) := by decide +kernel
theorem dX0_brokenByTwo_90 : decode cX0_brokenByTwo 90 = .ok (.invokevirtual 47, 3) := by decide +kernel
theorem dX0_brokenByTwo_93 : decode cX0_brokenByTwo 93 = .ok (.ifCond .ne 5, 3) := by decide +kernel
theorem dX0_brokenByTwo_96 : decode cX0_brokenByTwo 96 = .ok (.iconst 2, 1) := by decide +kernel
theorem dX0_brokenByTwo_97 : decode cX0_brokenByTwo 97 = .ok (.ireturn, 1) := by decide +kernel
theorem dX0_brokenByTwo_98 : decode cX0_brokenByTwo 98 = .ok (.aload_n 0, 1) := by decide +kernel
theorem dX0_brokenByTwo_99 : decode cX0_brokenByTwo 99 = .ok (.getfield 29, 3) := by decide +kernel
theorem dX0_brokenByTwo_102 : decode cX0_brokenByTwo 102 = .ok (.iload 9, 2) := by decide +kernel
theorem dX0_brokenByTwo_104 : decode cX0_brokenByTwo 104 = .ok (.invokevirtual 51, 3) := by decide +kernel
theorem dX0_brokenByTwo_107 : decode cX0_brokenByTwo 107 = .ok (.aload_n 0, 1) := by decide +kernel
theorem dX0_brokenByTwo_108 : decode cX0_brokenByTwo 108 = .ok (.getfield 29, 3) := by decide +kernel
theorem dX0_brokenByTwo_111 : decode cX0_brokenByTwo 111 = .ok (.iload 6, 2) := by decide +kernel
theorem dX0_brokenByTwo_113 : decode cX0_brokenByTwo 113 = .ok (.invokevirtual 41, 3) := by decide +kernel
theorem dX0_brokenByTwo_116 : decode cX0_brokenByTwo 116 = .ok (.isub, 1) := by decide +kernel
theorem dX0_brokenByTwo_117 : decode cX0_brokenByTwo 117 = .ok (.aload_n 0, 1) := by decide +kernel
theorem dX0_brokenByTwo_118 : decode cX0_brokenByTwo 118 = .ok (.getfield 9, 3) := by decide +kernel
theorem dX0_brokenByTwo_121 : decode cX0_brokenByTwo 121 = .ok (.if_icmp .le 5, 3) := by decide +kernel
theorem dX0_brokenByTwo_124 : decode cX0_brokenByTwo 124 = .ok (.iconst 3, 1) := by decide +kernel
theorem dX0_brokenByTwo_125 : decode cX0_brokenByTwo 125 = .ok (.ireturn, 1) := by decide +kernel
theorem dX0_brokenByTwo_126 : decode cX0_brokenByTwo 126 = .ok (.aload_n 0, 1) := by decide +kernel
theorem dX0_brokenByTwo_127 : decode cX0_brokenByTwo 127 = .ok (.iload_n 1, 1) := by decide +kernel
theorem dX0_brokenByTwo_128 : decode cX0_brokenByTwo 128 = .ok (.iload_n 2, 1) := by decide +kernel
theorem dX0_brokenByTwo_129 : decode cX0_brokenByTwo 129 = .ok (.invokevirtual 37, 3) := by decide +kernel
theorem dX0_brokenByTwo_132 : decode cX0_brokenByTwo 132 = .ok (.aload_n 0, 1) := by decide +kernel
theorem dX0_brokenByTwo_133 : decode cX0_brokenByTwo 133 = .ok (.iload_n 3, 1) := by decide +kernel
theorem dX0_brokenByTwo_134 : decode cX0_brokenByTwo 134 = .ok (.iload 4, 2) := by decide +kernel
theorem dX0_brokenByTwo_136 : decode cX0_brokenByTwo 136 = .ok (.invokevirtual 37, 3) := by decide +kernel
theorem dX0_brokenByTwo_139 : decode cX0_brokenByTwo 139 = .ok (.iadd, 1) := by decide +kernel
theorem dX0_brokenByTwo_140 : decode cX0_brokenByTwo 140 = .ok (.aload_n 0, 1) := by decide +kernel
theorem dX0_brokenByTwo_141 : decode cX0_brokenByTwo 141 = .ok (.getfield 15, 3) := by decide +kernel
theorem dX0_brokenByTwo_144 : decode cX0_brokenByTwo 144 = .ok (.if_icmp .le 7, 3) := by decide +kernel
theorem dX0_brokenByTwo_147 : decode cX0_brokenByTwo 147 = .ok (.iconst 4, 1) := by decide +kernel
theorem dX0_brokenByTwo_148 : decode cX0_brokenByTwo 148 = .ok (.goto 4, 3) := by decide +kernel
theorem dX0_brokenByTwo_151 : decode cX0_brokenByTwo 151 = .ok (.iconst 0, 1) := by decide +kernel
theorem dX0_brokenByTwo_152 : decode cX0_brokenByTwo 152 = .ok (.ireturn, 1) := by decide +kernel
set_option maxRecDepth 20000 in
theorem g_X0_brokenByTwo_0 {G : GX} {d : Nat} {Ret : Option AV → St → Prop} {R : Nat → List AV → List AV → St → Prop} (hM : AM G wdX (d + 1) mX0_brokenByTwo Ret R) (v1 : Int) (v2 : Int) (v3 : Int) (v4 : Int) (σ : St)
    (h : ((¬ (σ.1 0 3) = 0 → conI G wdX d mX6_beginning [vR 6, vI v1] σ (fun x1 σ1 => conI G wdX d mX6_beginning [vR 6, vI v3] σ1 (fun x2 σ2 => ((x2 < x1 → R 33 [vR 0, vI v1, vI v2, vI v3, vI v4, vN, vN, vN, vN, vN] [vI 0] σ2) ∧ (¬ x2 < x1 → R 33 [vR 0, vI v1, vI v2, vI v3, vI v4, vN, vN, vN, vN, vN] [vI 1] σ2))))) ∧ ((σ.1 0 3) = 0 → Ret (some (vI 1)) σ))) : R 0 [vR 0, vI v1, vI v2, vI v3, vI v4, vN, vN, vN, vN, vN] [] σ := by
  refine r_aload_n hM (pc' := 1) dX0_brokenByTwo_0 rfl (x := 0) rfl ?_
  refine r_getI hM (pc' := 4) dX0_brokenByTwo_1 rfl fl_X0_21 wx_0 rfl ?_
  refine r_if_ne hM (pc' := 7) (tgt := 9) dX0_brokenByTwo_4 rfl (by decide) (fun c => ?_) (fun c => ?_)
  · have h := h.1 c
    refine r_aload_n hM (pc' := 10) dX0_brokenByTwo_9 rfl (x := 0) rfl ?_
    refine r_getR hM (pc' := 13) dX0_brokenByTwo_10 rfl fl_X0_29 wx_0 rfl ?_
    refine r_iload_n hM (pc' := 14) dX0_brokenByTwo_13 rfl (x := v1) rfl ?_
    refine r_callVI hM (pc' := 17) [vI v1] dX0_brokenByTwo_14 rfl ml_X0_41 wx_6 rfl rfl (Nat.le_of_ble_eq_true rfl) (conI.mono h (fun x1 σ1 h => ?_))
    refine r_aload_n hM (pc' := 18) dX0_brokenByTwo_17 rfl (x := 0) rfl ?_
    refine r_getR hM (pc' := 21) dX0_brokenByTwo_18 rfl fl_X0_29 wx_0 rfl ?_
    refine r_iload_n hM (pc' := 22) dX0_brokenByTwo_21 rfl (x := v3) rfl ?_
    refine r_callVI hM (pc' := 25) [vI v3] dX0_brokenByTwo_22 rfl ml_X0_41 wx_6 rfl rfl (Nat.le_of_ble_eq_true rfl) (conI.mono h (fun x2 σ2 h => ?_))
    refine r_icmp_gt hM (pc' := 28) (tgt := 32) dX0_brokenByTwo_25 rfl (by decide) (fun c => ?_) (fun c => ?_)
    · have h := h.1 c
      refine r_iconst hM (pc' := 33) dX0_brokenByTwo_32 rfl (by decide) ?_
      exact h
    · have h := h.2 c
      refine r_iconst hM (pc' := 29) dX0_brokenByTwo_28 rfl (by decide) ?_
      refine r_goto hM (tgt := 33) dX0_brokenByTwo_29 (by decide) ?_
      exact h
  · have h := h.2 c
    refine r_iconst hM (pc' := 8) dX0_brokenByTwo_7 rfl (by decide) ?_
    exact r_ireturn hM dX0_brokenByTwo_8 rfl h
set_option maxRecDepth 20000 in
theorem g_X0_brokenByTwo_33 {G : GX} {d : Nat} {Ret : Option AV → St → Prop} {R : Nat → List AV → List AV → St → Prop} (hM : AM G wdX (d + 1) mX0_brokenByTwo Ret R) (v1 : Int) (v2 : Int) (v3 : Int) (v4 : Int) (w0 : Int) (σ : St)
    (h : ((w0 = 0 → ((w0 = 0 → R 58 [vR 0, vI v1, vI v2, vI v3, vI v4, vI w0, vI v3, vN, vN, vN] [vI v4] σ) ∧ (¬ w0 = 0 → R 58 [vR 0, vI v1, vI v2, vI v3, vI v4, vI w0, vI v3, vN, vN, vN] [vI v2] σ))) ∧ (¬ w0 = 0 → ((w0 = 0 → R 58 [vR 0, vI v1, vI v2, vI v3, vI v4, vI w0, vI v1, vN, vN, vN] [vI v4] σ) ∧ (¬ w0 = 0 → R 58 [vR 0, vI v1, vI v2, vI v3, vI v4, vI w0, vI v1, vN, vN, vN] [vI v2] σ))))) : R 33 [vR 0, vI v1, vI v2, vI v3, vI v4, vN, vN, vN, vN, vN] [vI w0] σ := by
  refine r_istore hM (pc' := 35) dX0_brokenByTwo_33 rfl (Nat.le_of_ble_eq_true rfl) rfl ?_
  show R 35 [vR 0, vI v1, vI v2, vI v3, vI v4, vI w0, vN, vN, vN, vN] _ _
  refine r_iload hM (pc' := 37) dX0_brokenByTwo_35 rfl (x := w0) rfl ?_
  refine r_if_eq hM (pc' := 40) (tgt := 44) dX0_brokenByTwo_37 rfl (by decide) (fun c => ?_) (fun c => ?_)
  · have h := h.1 c
    refine r_iload_n hM (pc' := 45) dX0_brokenByTwo_44 rfl (x := v3) rfl ?_
    refine r_istore hM (pc' := 47) dX0_brokenByTwo_45 rfl (Nat.le_of_ble_eq_true rfl) rfl ?_
    show R 47 [vR 0, vI v1, vI v2, vI v3, vI v4, vI w0, vI v3, vN, vN, vN] _ _
    refine r_iload hM (pc' := 49) dX0_brokenByTwo_47 rfl (x := w0) rfl ?_
    refine r_if_eq hM (pc' := 52) (tgt := 56) dX0_brokenByTwo_49 rfl (by decide) (fun c => ?_) (fun c => ?_)
    · have h := h.1 c
      refine r_iload hM (pc' := 58) dX0_brokenByTwo_56 rfl (x := v4) rfl ?_
      exact h
    · have h := h.2 c
      refine r_iload_n hM (pc' := 53) dX0_brokenByTwo_52 rfl (x := v2) rfl ?_
      refine r_goto hM (tgt := 58) dX0_brokenByTwo_53 (by decide) ?_
      exact h
  · have h := h.2 c
    refine r_iload_n hM (pc' := 41) dX0_brokenByTwo_40 rfl (x := v1) rfl ?_
    refine r_goto hM (tgt := 45) dX0_brokenByTwo_41 (by decide) ?_
    refine r_istore hM (pc' := 47) dX0_brokenByTwo_45 rfl (Nat.le_of_ble_eq_true rfl) rfl ?_
    show R 47 [vR 0, vI v1, vI v2, vI v3, vI v4, vI w0, vI v1, vN, vN, vN] _ _
    refine r_iload hM (pc' := 49) dX0_brokenByTwo_47 rfl (x := w0) rfl ?_
    refine r_if_eq hM (pc' := 52) (tgt := 56) dX0_brokenByTwo_49 rfl (by decide) (fun c => ?_) (fun c => ?_)
    · have h := h.1 c
      refine r_iload hM (pc' := 58) dX0_brokenByTwo_56 rfl (x := v4) rfl ?_
      exact h
    · have h := h.2 c
      refine r_iload_n hM (pc' := 53) dX0_brokenByTwo_52 rfl (x := v2) rfl ?_
      refine r_goto hM (tgt := 58) dX0_brokenByTwo_53 (by decide) ?_
      exact h
set_option maxRecDepth 20000 in
theorem g_X0_brokenByTwo_58 {G : GX} {d : Nat} {Ret : Option AV → St → Prop} {R : Nat → List AV → List AV → St → Prop} (hM : AM G wdX (d + 1) mX0_brokenByTwo Ret R) (v1 : Int) (v2 : Int) (v3 : Int) (v4 : Int) (v5 : Int) (v6 : Int) (w0 : Int) (σ : St)
    (h : ((v5 = 0 → ((v5 = 0 → R 83 [vR 0, vI v1, vI v2, vI v3, vI v4, vN, vI v6, vI w0, vI v1, vN] [vI v2] σ) ∧ (¬ v5 = 0 → R 83 [vR 0, vI v1, vI v2, vI v3, vI v4, vN, vI v6, vI w0, vI v1, vN] [vI v4] σ))) ∧ (¬ v5 = 0 → ((v5 = 0 → R 83 [vR 0, vI v1, vI v2, vI v3, vI v4, vN, vI v6, vI w0, vI v3, vN] [vI v2] σ) ∧ (¬ v5 = 0 → R 83 [vR 0, vI v1, vI v2, vI v3, vI v4, vN, vI v6, vI w0, vI v3, vN] [vI v4] σ))))) : R 58 [vR 0, vI v1, vI v2, vI v3, vI v4, vI v5, vI v6, vN, vN, vN] [vI w0] σ := by
  refine r_istore hM (pc' := 60) dX0_brokenByTwo_58 rfl (Nat.le_of_ble_eq_true rfl) rfl ?_
  show R 60 [vR 0, vI v1, vI v2, vI v3, vI v4, vI v5, vI v6, vI w0, vN, vN] _ _
  refine r_iload hM (pc' := 62) dX0_brokenByTwo_60 rfl (x := v5) rfl ?_
  refine r_if_eq hM (pc' := 65) (tgt := 69) dX0_brokenByTwo_62 rfl (by decide) (fun c => ?_) (fun c => ?_)
  · have h := h.1 c
    refine r_iload_n hM (pc' := 70) dX0_brokenByTwo_69 rfl (x := v1) rfl ?_
    refine r_istore hM (pc' := 72) dX0_brokenByTwo_70 rfl (Nat.le_of_ble_eq_true rfl) rfl ?_
    show R 72 [vR 0, vI v1, vI v2, vI v3, vI v4, vI v5, vI v6, vI w0, vI v1, vN] _ _
    refine r_iload hM (pc' := 74) dX0_brokenByTwo_72 rfl (x := v5) rfl ?_
    refine r_if_eq hM (pc' := 77) (tgt := 82) dX0_brokenByTwo_74 rfl (by decide) (fun c => ?_) (fun c => ?_)
    · have h := h.1 c
      refine r_iload_n hM (pc' := 83) dX0_brokenByTwo_82 rfl (x := v2) rfl ?_
      refine r_weak hM (ls' := [vR 0, vI v1, vI v2, vI v3, vI v4, vN, vI v6, vI w0, vI v1, vN]) ⟨Or.inl rfl, Or.inl rfl, Or.inl rfl, Or.inl rfl, Or.inl rfl, Or.inr rfl, Or.inl rfl, Or.inl rfl, Or.inl rfl, Or.inl rfl, trivial⟩ ?_
      exact h
    · have h := h.2 c
      refine r_iload hM (pc' := 79) dX0_brokenByTwo_77 rfl (x := v4) rfl ?_
      refine r_goto hM (tgt := 83) dX0_brokenByTwo_79 (by decide) ?_
      refine r_weak hM (ls' := [vR 0, vI v1, vI v2, vI v3, vI v4, vN, vI v6, vI w0, vI v1, vN]) ⟨Or.inl rfl, Or.inl rfl, Or.inl rfl, Or.inl rfl, Or.inl rfl, Or.inr rfl, Or.inl rfl, Or.inl rfl, Or.inl rfl, Or.inl rfl, trivial⟩ ?_
      exact h
  · have h := h.2 c
    refine r_iload_n hM (pc' := 66) dX0_brokenByTwo_65 rfl (x := v3) rfl ?_
    refine r_goto hM (tgt := 70) dX0_brokenByTwo_66 (by decide) ?_
    refine r_istore hM (pc' := 72) dX0_brokenByTwo_70 rfl (Nat.le_of_ble_eq_true rfl) rfl ?_
    show R 72 [vR 0, vI v1, vI v2, vI v3, vI v4, vI v5, vI v6, vI w0, vI v3, vN] _ _
    refine r_iload hM (pc' := 74) dX0_brokenByTwo_72 rfl (x := v5) rfl ?_
    refine r_if_eq hM (pc' := 77) (tgt := 82) dX0_brokenByTwo_74 rfl (by decide) (fun c => ?_) (fun c => ?_)
    · have h := h.1 c
      refine r_iload_n hM (pc' := 83) dX0_brokenByTwo_82 rfl (x := v2) rfl ?_
      refine r_weak hM (ls' := [vR 0, vI v1, vI v2, vI v3, vI v4, vN, vI v6, vI w0, vI v3, vN]) ⟨Or.inl rfl, Or.inl rfl, Or.inl rfl, Or.inl rfl, Or.inl rfl, Or.inr rfl, Or.inl rfl, Or.inl rfl, Or.inl rfl, Or.inl rfl, trivial⟩ ?_
      exact h
    · have h := h.2 c
      refine r_iload hM (pc' := 79) dX0_brokenByTwo_77 rfl (x := v4) rfl ?_
      refine r_goto hM (tgt := 83) dX0_brokenByTwo_79 (by decide) ?_
      refine r_weak hM (ls' := [vR 0, vI v1, vI v2, vI v3, vI v4, vN, vI v6, vI w0, vI v3, vN]) ⟨Or.inl rfl, Or.inl rfl, Or.inl rfl, Or.inl rfl, Or.inl rfl, Or.inr rfl, Or.inl rfl, Or.inl rfl, Or.inl rfl, Or.inl rfl, trivial⟩ ?_
      exact h
set_option maxRecDepth 20000 in
theorem g_X0_brokenByTwo_83 {G : GX} {d : Nat} {Ret : Option AV → St → Prop} {R : Nat → List AV → List AV → St → Prop} (hM : AM G wdX (d + 1) mX0_brokenByTwo Ret R) (v1 : Int) (v2 : Int) (v3 : Int) (v4 : Int) (v6 : Int) (v7 : Int) (v8 : Int) (w0 : Int) (σ : St)
    (h : conI G wdX d mX0_canChange [vR 0, vI v7, vI v8] σ (fun x1 σ1 => ((¬ x1 = 0 → conI G wdX d mX6_ending [vR 6, vI w0] σ1 (fun x2 σ2 => conI G wdX d mX6_beginning [vR 6, vI v6] σ2 (fun x3 σ3 => (r32 (x2 - x3) ∧ (((x2 - x3) ≤ (σ3.1 0 0) → conI G wdX d mX0_minutesOf [vR 0, vI v1, vI v2] σ3 (fun x4 σ4 => conI G wdX d mX0_minutesOf [vR 0, vI v3, vI v4] σ4 (fun x5 σ5 => (r32 (x4 + x5) ∧ (((x4 + x5) ≤ (σ5.1 0 1) → Ret (some (vI 0)) σ5) ∧ (¬ (x4 + x5) ≤ (σ5.1 0 1) → Ret (some (vI 4)) σ5)))))) ∧ (¬ (x2 - x3) ≤ (σ3.1 0 0) → Ret (some (vI 3)) σ3)))))) ∧ (x1 = 0 → Ret (some (vI 2)) σ1)))) : R 83 [vR 0, vI v1, vI v2, vI v3, vI v4, vN, vI v6, vI v7, vI v8, vN] [vI w0] σ := by
  refine r_istore hM (pc' := 85) dX0_brokenByTwo_83 rfl (Nat.le_of_ble_eq_true rfl) rfl ?_
  show R 85 [vR 0, vI v1, vI v2, vI v3, vI v4, vN, vI v6, vI v7, vI v8, vI w0] _ _
  refine r_aload_n hM (pc' := 86) dX0_brokenByTwo_85 rfl (x := 0) rfl ?_
  refine r_iload hM (pc' := 88) dX0_brokenByTwo_86 rfl (x := v7) rfl ?_
  refine r_iload hM (pc' := 90) dX0_brokenByTwo_88 rfl (x := v8) rfl ?_
  refine r_callVI hM (pc' := 93) [vI v7, vI v8] dX0_brokenByTwo_90 rfl ml_X0_47 wx_0 rfl rfl (Nat.le_of_ble_eq_true rfl) (conI.mono h (fun x1 σ1 h => ?_))
  refine r_if_ne hM (pc' := 96) (tgt := 98) dX0_brokenByTwo_93 rfl (by decide) (fun c => ?_) (fun c => ?_)
  · have h := h.1 c
    refine r_aload_n hM (pc' := 99) dX0_brokenByTwo_98 rfl (x := 0) rfl ?_
    refine r_getR hM (pc' := 102) dX0_brokenByTwo_99 rfl fl_X0_29 wx_0 rfl ?_
    refine r_iload hM (pc' := 104) dX0_brokenByTwo_102 rfl (x := w0) rfl ?_
    refine r_callVI hM (pc' := 107) [vI w0] dX0_brokenByTwo_104 rfl ml_X0_51 wx_6 rfl rfl (Nat.le_of_ble_eq_true rfl) (conI.mono h (fun x2 σ2 h => ?_))
    refine r_aload_n hM (pc' := 108) dX0_brokenByTwo_107 rfl (x := 0) rfl ?_
    refine r_getR hM (pc' := 111) dX0_brokenByTwo_108 rfl fl_X0_29 wx_0 rfl ?_
    refine r_iload hM (pc' := 113) dX0_brokenByTwo_111 rfl (x := v6) rfl ?_
    refine r_callVI hM (pc' := 116) [vI v6] dX0_brokenByTwo_113 rfl ml_X0_41 wx_6 rfl rfl (Nat.le_of_ble_eq_true rfl) (conI.mono h (fun x3 σ3 h => ?_))
    have o1 := h.1
    have h := h.2
    refine r_isub hM (pc' := 117) dX0_brokenByTwo_116 rfl o1 ?_
    refine r_aload_n hM (pc' := 118) dX0_brokenByTwo_117 rfl (x := 0) rfl ?_
    refine r_getI hM (pc' := 121) dX0_brokenByTwo_118 rfl fl_X0_9 wx_0 rfl ?_
    refine r_icmp_le hM (pc' := 124) (tgt := 126) dX0_brokenByTwo_121 rfl (by decide) (fun c => ?_) (fun c => ?_)
    · have h := h.1 c
      refine r_aload_n hM (pc' := 127) dX0_brokenByTwo_126 rfl (x := 0) rfl ?_
      refine r_iload_n hM (pc' := 128) dX0_brokenByTwo_127 rfl (x := v1) rfl ?_
      refine r_iload_n hM (pc' := 129) dX0_brokenByTwo_128 rfl (x := v2) rfl ?_
      refine r_callVI hM (pc' := 132) [vI v1, vI v2] dX0_brokenByTwo_129 rfl ml_X0_37 wx_0 rfl rfl (Nat.le_of_ble_eq_true rfl) (conI.mono h (fun x4 σ4 h => ?_))
      refine r_aload_n hM (pc' := 133) dX0_brokenByTwo_132 rfl (x := 0) rfl ?_
      refine r_iload_n hM (pc' := 134) dX0_brokenByTwo_133 rfl (x := v3) rfl ?_
      refine r_iload hM (pc' := 136) dX0_brokenByTwo_134 rfl (x := v4) rfl ?_
      refine r_callVI hM (pc' := 139) [vI v3, vI v4] dX0_brokenByTwo_136 rfl ml_X0_37 wx_0 rfl rfl (Nat.le_of_ble_eq_true rfl) (conI.mono h (fun x5 σ5 h => ?_))
      have o2 := h.1
      have h := h.2
      refine r_iadd hM (pc' := 140) dX0_brokenByTwo_139 rfl o2 ?_
      refine r_aload_n hM (pc' := 141) dX0_brokenByTwo_140 rfl (x := 0) rfl ?_
      refine r_getI hM (pc' := 144) dX0_brokenByTwo_141 rfl fl_X0_15 wx_0 rfl ?_
      refine r_icmp_le hM (pc' := 147) (tgt := 151) dX0_brokenByTwo_144 rfl (by decide) (fun c => ?_) (fun c => ?_)
      · have h := h.1 c
        refine r_iconst hM (pc' := 152) dX0_brokenByTwo_151 rfl (by decide) ?_
        exact r_ireturn hM dX0_brokenByTwo_152 rfl h
      · have h := h.2 c
        refine r_iconst hM (pc' := 148) dX0_brokenByTwo_147 rfl (by decide) ?_
        refine r_goto hM (tgt := 152) dX0_brokenByTwo_148 (by decide) ?_
        exact r_ireturn hM dX0_brokenByTwo_152 rfl h
    · have h := h.2 c
      refine r_iconst hM (pc' := 125) dX0_brokenByTwo_124 rfl (by decide) ?_
      exact r_ireturn hM dX0_brokenByTwo_125 rfl h
  · have h := h.2 c
    refine r_iconst hM (pc' := 97) dX0_brokenByTwo_96 rfl (by decide) ?_
    exact r_ireturn hM dX0_brokenByTwo_97 rfl h
theorem dX0_canChange_0 : decode cX0_canChange 0 = .ok (.aload_n 0, 1) := by decide +kernel
theorem dX0_canChange_1 : decode cX0_canChange 1 = .ok (.getfield 25, 3) := by decide +kernel
theorem dX0_canChange_4 : decode cX0_canChange 4 = .ok (.aload_n 0, 1) := by decide +kernel
theorem dX0_canChange_5 : decode cX0_canChange 5 = .ok (.getfield 29, 3) := by decide +kernel
theorem dX0_canChange_8 : decode cX0_canChange 8 = .ok (.iload_n 1, 1) := by decide +kernel
theorem dX0_canChange_9 : decode cX0_canChange 9 = .ok (.invokevirtual 54, 3) := by decide +kernel
theorem dX0_canChange_12 : decode cX0_canChange 12 = .ok (.aload_n 0, 1) := by decide +kernel
theorem dX0_canChange_13 : decode cX0_canChange 13 = .ok (.getfield 29, 3) := by decide +kernel
theorem dX0_canChange_16 : decode cX0_canChange 16 = .ok (.iload_n 2, 1) := by decide +kernel
theorem dX0_canChange_17 : decode cX0_canChange 17 = .ok (.invokevirtual 57, 3) := by decide +kernel
theorem dX0_canChange_20 : decode cX0_canChange 20 = .ok (.invokevirtual 60, 3) := by decide +kernel
theorem dX0_canChange_23 : decode cX0_canChange 23 = .ok (.istore_n 3, 1) := by decide +kernel
theorem dX0_canChange_24 : decode cX0_canChange 24 = .ok (.aload_n 0, 1) := by decide +kernel
theorem dX0_canChange_25 : decode cX0_canChange 25 = .ok (.getfield 29, 3) := by decide +kernel
theorem dX0_canChange_28 : decode cX0_canChange 28 = .ok (.iload_n 2, 1) := by decide +kernel
theorem dX0_canChange_29 : decode cX0_canChange 29 = .ok (.invokevirtual 41, 3) := by decide +kernel
theorem dX0_canChange_32 : decode cX0_canChange 32 = .ok (.aload_n 0, 1) := by decide +kernel
theorem dX0_canChange_33 : decode cX0_canChange 33 = .ok (.getfield 29, 3) := by decide +kernel
theorem dX0_canChange_36 : decode cX0_canChange 36 = .ok (.iload_n 1, 1) := by decide +kernel
theorem dX0_canChange_37 : decode cX0_canChange 37 = .ok (.invokevirtual 51, 3) := by decide +kernel
theorem dX0_canChange_40 : decode cX0_canChange 40 = .ok (.isub, 1) := by decide +kernel
theorem dX0_canChange_41 : decode cX0_canChange 41 = .ok (.istore 4, 2) := by decide +kernel
theorem dX0_canChange_43 : decode cX0_canChange 43 = .ok (.iload_n 3, 1) := by decide +kernel
theorem dX0_canChange_44 : decode cX0_canChange 44 = .ok (.iconst (-1), 1) := by decide +kernel
theorem dX0_canChange_45 : decode cX0_canChange 45 = .ok (.if_icmp .eq 22, 3) := by decide +kernel
theorem dX0_canChange_48 : decode cX0_canChange 48 = .ok (.iload 4, 2) := by decide +kernel
theorem dX0_canChange_50 : decode cX0_canChange 50 = .ok (.iload_n 3, 1) := by decide +kernel
theorem dX0_canChange_51 : decode cX0_canChange 51 = .ok (.if_icmp .lt 16, 3) := by decide +kernel
theorem dX0_canChange_54 : decode cX0_canChange 54 = .ok (.iload 4, 2) := by decide +kernel
theorem dX0_canChange_56 : decode cX0_canChange 56 = .ok (.aload_n 0, 1) := by decide +kernel
theorem dX0_canChange_57 : decode cX0_canChange 57 = .ok (.getfield 18, 3) := by decide +kernel
theorem dX0_canChange_60 : decode cX0_canChange 60 = .ok (.if_icmp .lt 7, 3) := by decide +kernel
theorem dX0_canChange_63 : decode cX0_canChange 63 = .ok (.iconst 1, 1) := by decide +kernel
theorem dX0_canChange_64 : decode cX0_canChange 64 = .ok (.goto 4, 3) := by decide +kernel
theorem dX0_canChange_67 : decode cX0_canChange 67 = .ok (.iconst 0, 1) := by decide +kernel
theorem dX0_canChange_68 : decode cX0_canChange 68 = .ok (.ireturn, 1) := by decide +kernel
set_option maxRecDepth 20000 in
theorem g_X0_canChange_0 {G : GX} {d : Nat} {Ret : Option AV → St → Prop} {R : Nat → List AV → List AV → St → Prop} (hM : AM G wdX (d + 1) mX0_canChange Ret R) (v1 : Int) (v2 : Int) (σ : St)
    (h : conI G wdX d mX6_placeAtEnd [vR 6, vI v1] σ (fun x1 σ1 => conI G wdX d mX6_placeAtBeginning [vR 6, vI v2] σ1 (fun x2 σ2 => conI G wdX d mX8_minutesOf [vR 8, vI x1, vI x2] σ2 (fun x3 σ3 => conI G wdX d mX6_beginning [vR 6, vI v2] σ3 (fun x4 σ4 => conI G wdX d mX6_ending [vR 6, vI v1] σ4 (fun x5 σ5 => (r32 (x4 - x5) ∧ ((x3 = (-1) → Ret (some (vI 0)) σ5) ∧ (¬ x3 = (-1) → (((x4 - x5) < x3 → Ret (some (vI 0)) σ5) ∧ (¬ (x4 - x5) < x3 → (((x4 - x5) < (σ5.1 0 2) → Ret (some (vI 0)) σ5) ∧ (¬ (x4 - x5) < (σ5.1 0 2) → Ret (some (vI 1)) σ5))))))))))))) : R 0 [vR 0, vI v1, vI v2, vN, vN] [] σ := by
  refine r_aload_n hM (pc' := 1) dX0_canChange_0 rfl (x := 0) rfl ?_
  refine r_getR hM (pc' := 4) dX0_canChange_1 rfl fl_X0_25 wx_0 rfl ?_
  refine r_aload_n hM (pc' := 5) dX0_canChange_4 rfl (x := 0) rfl ?_
  refine r_getR hM (pc' := 8) dX0_canChange_5 rfl fl_X0_29 wx_0 rfl ?_
  refine r_iload_n hM (pc' := 9) dX0_canChange_8 rfl (x := v1) rfl ?_
  refine r_callVI hM (pc' := 12) [vI v1] dX0_canChange_9 rfl ml_X0_54 wx_6 rfl rfl (Nat.le_of_ble_eq_true rfl) (conI.mono h (fun x1 σ1 h => ?_))
  refine r_aload_n hM (pc' := 13) dX0_canChange_12 rfl (x := 0) rfl ?_
  refine r_getR hM (pc' := 16) dX0_canChange_13 rfl fl_X0_29 wx_0 rfl ?_
  refine r_iload_n hM (pc' := 17) dX0_canChange_16 rfl (x := v2) rfl ?_
  refine r_callVI hM (pc' := 20) [vI v2] dX0_canChange_17 rfl ml_X0_57 wx_6 rfl rfl (Nat.le_of_ble_eq_true rfl) (conI.mono h (fun x2 σ2 h => ?_))
  refine r_callVI hM (pc' := 23) [vI x1, vI x2] dX0_canChange_20 rfl ml_X0_60 wx_8 rfl rfl (Nat.le_of_ble_eq_true rfl) (conI.mono h (fun x3 σ3 h => ?_))
  refine r_istore_n hM (pc' := 24) dX0_canChange_23 rfl (Nat.le_of_ble_eq_true rfl) rfl ?_
  show R 24 [vR 0, vI v1, vI v2, vI x3, vN] _ _
  refine r_aload_n hM (pc' := 25) dX0_canChange_24 rfl (x := 0) rfl ?_
  refine r_getR hM (pc' := 28) dX0_canChange_25 rfl fl_X0_29 wx_0 rfl ?_
  refine r_iload_n hM (pc' := 29) dX0_canChange_28 rfl (x := v2) rfl ?_
  refine r_callVI hM (pc' := 32) [vI v2] dX0_canChange_29 rfl ml_X0_41 wx_6 rfl rfl (Nat.le_of_ble_eq_true rfl) (conI.mono h (fun x4 σ4 h => ?_))
  refine r_aload_n hM (pc' := 33) dX0_canChange_32 rfl (x := 0) rfl ?_
  refine r_getR hM (pc' := 36) dX0_canChange_33 rfl fl_X0_29 wx_0 rfl ?_
  refine r_iload_n hM (pc' := 37) dX0_canChange_36 rfl (x := v1) rfl ?_
  refine r_callVI hM (pc' := 40) [vI v1] dX0_canChange_37 rfl ml_X0_51 wx_6 rfl rfl (Nat.le_of_ble_eq_true rfl) (conI.mono h (fun x5 σ5 h => ?_))
  have o1 := h.1
  have h := h.2
  refine r_isub hM (pc' := 41) dX0_canChange_40 rfl o1 ?_
  refine r_istore hM (pc' := 43) dX0_canChange_41 rfl (Nat.le_of_ble_eq_true rfl) rfl ?_
  show R 43 [vR 0, vI v1, vI v2, vI x3, vI (x4 - x5)] _ _
  refine r_iload_n hM (pc' := 44) dX0_canChange_43 rfl (x := x3) rfl ?_
  refine r_iconst hM (pc' := 45) dX0_canChange_44 rfl (by decide) ?_
  refine r_icmp_eq hM (pc' := 48) (tgt := 67) dX0_canChange_45 rfl (by decide) (fun c => ?_) (fun c => ?_)
  · have h := h.1 c
    refine r_iconst hM (pc' := 68) dX0_canChange_67 rfl (by decide) ?_
    exact r_zreturn hM dX0_canChange_68 rfl (by decide) h
  · have h := h.2 c
    refine r_iload hM (pc' := 50) dX0_canChange_48 rfl (x := (x4 - x5)) rfl ?_
    refine r_iload_n hM (pc' := 51) dX0_canChange_50 rfl (x := x3) rfl ?_
    refine r_icmp_lt hM (pc' := 54) (tgt := 67) dX0_canChange_51 rfl (by decide) (fun c => ?_) (fun c => ?_)
    · have h := h.1 c
      refine r_iconst hM (pc' := 68) dX0_canChange_67 rfl (by decide) ?_
      exact r_zreturn hM dX0_canChange_68 rfl (by decide) h
    · have h := h.2 c
      refine r_iload hM (pc' := 56) dX0_canChange_54 rfl (x := (x4 - x5)) rfl ?_
      refine r_aload_n hM (pc' := 57) dX0_canChange_56 rfl (x := 0) rfl ?_
      refine r_getI hM (pc' := 60) dX0_canChange_57 rfl fl_X0_18 wx_0 rfl ?_
      refine r_icmp_lt hM (pc' := 63) (tgt := 67) dX0_canChange_60 rfl (by decide) (fun c => ?_) (fun c => ?_)
      · have h := h.1 c
        refine r_iconst hM (pc' := 68) dX0_canChange_67 rfl (by decide) ?_
        exact r_zreturn hM dX0_canChange_68 rfl (by decide) h
      · have h := h.2 c
        refine r_iconst hM (pc' := 64) dX0_canChange_63 rfl (by decide) ?_
        refine r_goto hM (tgt := 68) dX0_canChange_64 (by decide) ?_
        exact r_zreturn hM dX0_canChange_68 rfl (by decide) h
theorem dX0_minutesOf_0 : decode cX0_minutesOf 0 = .ok (.aload_n 0, 1) := by decide +kernel
theorem dX0_minutesOf_1 : decode cX0_minutesOf 1 = .ok (.getfield 29, 3) := by decide +kernel
theorem dX0_minutesOf_4 : decode cX0_minutesOf 4 = .ok (.iload_n 2, 1) := by decide +kernel
theorem dX0_minutesOf_5 : decode cX0_minutesOf 5 = .ok (.invokevirtual 51, 3) := by decide +kernel
theorem dX0_minutesOf_8 : decode cX0_minutesOf 8 = .ok (.aload_n 0, 1) := by decide +kernel
theorem dX0_minutesOf_9 : decode cX0_minutesOf 9 = .ok (.getfield 29, 3) := by decide +kernel
theorem dX0_minutesOf_12 : decode cX0_minutesOf 12 = .ok (.iload_n 1, 1) := by decide +kernel
theorem dX0_minutesOf_13 : decode cX0_minutesOf 13 = .ok (.invokevirtual 41, 3) := by decide +kernel
theorem dX0_minutesOf_16 : decode cX0_minutesOf 16 = .ok (.isub, 1) := by decide +kernel
theorem dX0_minutesOf_17 : decode cX0_minutesOf 17 = .ok (.ireturn, 1) := by decide +kernel
set_option maxRecDepth 20000 in
theorem g_X0_minutesOf_0 {G : GX} {d : Nat} {Ret : Option AV → St → Prop} {R : Nat → List AV → List AV → St → Prop} (hM : AM G wdX (d + 1) mX0_minutesOf Ret R) (v1 : Int) (v2 : Int) (σ : St)
    (h : conI G wdX d mX6_ending [vR 6, vI v2] σ (fun x1 σ1 => conI G wdX d mX6_beginning [vR 6, vI v1] σ1 (fun x2 σ2 => (r32 (x1 - x2) ∧ Ret (some (vI (x1 - x2))) σ2)))) : R 0 [vR 0, vI v1, vI v2] [] σ := by
  refine r_aload_n hM (pc' := 1) dX0_minutesOf_0 rfl (x := 0) rfl ?_
  refine r_getR hM (pc' := 4) dX0_minutesOf_1 rfl fl_X0_29 wx_0 rfl ?_
  refine r_iload_n hM (pc' := 5) dX0_minutesOf_4 rfl (x := v2) rfl ?_
  refine r_callVI hM (pc' := 8) [vI v2] dX0_minutesOf_5 rfl ml_X0_51 wx_6 rfl rfl (Nat.le_of_ble_eq_true rfl) (conI.mono h (fun x1 σ1 h => ?_))
  refine r_aload_n hM (pc' := 9) dX0_minutesOf_8 rfl (x := 0) rfl ?_
  refine r_getR hM (pc' := 12) dX0_minutesOf_9 rfl fl_X0_29 wx_0 rfl ?_
  refine r_iload_n hM (pc' := 13) dX0_minutesOf_12 rfl (x := v1) rfl ?_
  refine r_callVI hM (pc' := 16) [vI v1] dX0_minutesOf_13 rfl ml_X0_41 wx_6 rfl rfl (Nat.le_of_ble_eq_true rfl) (conI.mono h (fun x2 σ2 h => ?_))
  have o1 := h.1
  have h := h.2
  refine r_isub hM (pc' := 17) dX0_minutesOf_16 rfl o1 ?_
  exact r_ireturn hM dX0_minutesOf_17 rfl h
theorem dX2_tell_0 : decode cX2_tell 0 = .ok (.iconst 0, 1) := by decide +kernel
theorem dX2_tell_1 : decode cX2_tell 1 = .ok (.istore_n 1, 1) := by decide +kernel
theorem dX2_tell_2 : decode cX2_tell 2 = .ok (.iload_n 1, 1) := by decide +kernel
theorem dX2_tell_3 : decode cX2_tell 3 = .ok (.aload_n 0, 1) := by decide +kernel
theorem dX2_tell_4 : decode cX2_tell 4 = .ok (.getfield 22, 3) := by decide +kernel
theorem dX2_tell_7 : decode cX2_tell 7 = .ok (.getfield 26, 3) := by decide +kernel
theorem dX2_tell_10 : decode cX2_tell 10 = .ok (.if_icmp .ge 57, 3) := by decide +kernel
theorem dX2_tell_13 : decode cX2_tell 13 = .ok (.aload_n 0, 1) := by decide +kernel
theorem dX2_tell_14 : decode cX2_tell 14 = .ok (.getfield 9, 3) := by decide +kernel
theorem dX2_tell_17 : decode cX2_tell 17 = .ok (.iload_n 1, 1) := by decide +kernel
theorem dX2_tell_18 : decode cX2_tell 18 = .ok (.iconst 0, 1) := by decide +kernel
theorem dX2_tell_19 : decode cX2_tell 19 = .ok (.iastore, 1) := by decide +kernel
theorem dX2_tell_20 : decode cX2_tell 20 = .ok (.iconst 0, 1) := by decide +kernel
theorem dX2_tell_21 : decode cX2_tell 21 = .ok (.istore_n 2, 1) := by decide +kernel
theorem dX2_tell_22 : decode cX2_tell 22 = .ok (.iload_n 2, 1) := by decide +kernel
theorem dX2_tell_23 : decode cX2_tell 23 = .ok (.aload_n 0, 1) := by decide +kernel
theorem dX2_tell_24 : decode cX2_tell 24 = .ok (.getfield 22, 3) := by decide +kernel
theorem dX2_tell_27 : decode cX2_tell 27 = .ok (.getfield 26, 3) := by decide +kernel
theorem dX2_tell_30 : decode cX2_tell 30 = .ok (.if_icmp .ge 31, 3) := by decide +kernel
theorem dX2_tell_33 : decode cX2_tell 33 = .ok (.aload_n 0, 1) := by decide +kernel
theorem dX2_tell_34 : decode cX2_tell 34 = .ok (.iload_n 1, 1) := by decide +kernel
theorem dX2_tell_35 : decode cX2_tell 35 = .ok (.iload_n 2, 1) := by decide +kernel
theorem dX2_tell_36 : decode cX2_tell 36 = .ok (.iconst 0, 1) := by decide +kernel
theorem dX2_tell_37 : decode cX2_tell 37 = .ok (.invokevirtual 32, 3) := by decide +kernel
theorem dX2_tell_40 : decode cX2_tell 40 = .ok (.ifCond .eq 15, 3) := by decide +kernel
theorem dX2_tell_43 : decode cX2_tell 43 = .ok (.aload_n 0, 1) := by decide +kernel
theorem dX2_tell_44 : decode cX2_tell 44 = .ok (.getfield 9, 3) := by decide +kernel
theorem dX2_tell_47 : decode cX2_tell 47 = .ok (.iload_n 1, 1) := by decide +kernel
theorem dX2_tell_48 : decode cX2_tell 48 = .ok (.dup2, 1) := by decide +kernel
theorem dX2_tell_49 : decode cX2_tell 49 = .ok (.iaload, 1) := by decide +kernel
theorem dX2_tell_50 : decode cX2_tell 50 = .ok (.iconst 1, 1) := by decide +kernel
theorem dX2_tell_51 : decode cX2_tell 51 = .ok (.iload_n 2, 1) := by decide +kernel
theorem dX2_tell_52 : decode cX2_tell 52 = .ok (.ishl, 1) := by decide +kernel
theorem dX2_tell_53 : decode cX2_tell 53 = .ok (.ior, 1) := by decide +kernel
theorem dX2_tell_54 : decode cX2_tell 54 = .ok (.iastore, 1) := by decide +kernel
theorem dX2_tell_55 : decode cX2_tell 55 = .ok (.iinc 2 1, 3) := by decide +kernel
theorem dX2_tell_58 : decode cX2_tell 58 = .ok (.goto (-36), 3) := by decide +kernel
theorem dX2_tell_61 : decode cX2_tell 61 = .ok (.iinc 1 1, 3) := by decide +kernel
theorem dX2_tell_64 : decode cX2_tell 64 = .ok (.goto (-62), 3) := by decide +kernel
theorem dX2_tell_67 : decode cX2_tell 67 = .ok (.return_, 1) := by decide +kernel
set_option maxRecDepth 20000 in
theorem g_X2_tell_0 {G : GX} {d : Nat} {Ret : Option AV → St → Prop} {R : Nat → List AV → List AV → St → Prop} (hM : AM G wdX (d + 1) mX2_tell Ret R) (σ : St)
    (h : R 2 [vR 2, vI 0, vN] [] σ) : R 0 [vR 2, vN, vN] [] σ := by
  refine r_iconst hM (pc' := 1) dX2_tell_0 rfl (by decide) ?_
  refine r_istore_n hM (pc' := 2) dX2_tell_1 rfl (Nat.le_of_ble_eq_true rfl) rfl ?_
  show R 2 [vR 2, vI 0, vN] _ _
  exact h
set_option maxRecDepth 20000 in
theorem g_X2_tell_2 {G : GX} {d : Nat} {Ret : Option AV → St → Prop} {R : Nat → List AV → List AV → St → Prop} (hM : AM G wdX (d + 1) mX2_tell Ret R) (v1 : Int) (σ : St)
    (h : (((σ.1 7 4) ≤ v1 → Ret none σ) ∧ (¬ (σ.1 7 4) ≤ v1 → ((0 ≤ v1 ∧ v1 < 16) ∧ (∀ τ1, τ1 = sI σ 15 (v1).toNat 0 → R 22 [vR 2, vI v1, vI 0] [] τ1))))) : R 2 [vR 2, vI v1, vN] [] σ := by
  refine r_iload_n hM (pc' := 3) dX2_tell_2 rfl (x := v1) rfl ?_
  refine r_aload_n hM (pc' := 4) dX2_tell_3 rfl (x := 2) rfl ?_
  refine r_getR hM (pc' := 7) dX2_tell_4 rfl fl_X2_22 wx_2 rfl ?_
  refine r_getI hM (pc' := 10) dX2_tell_7 rfl fl_X2_26 wx_7 rfl ?_
  refine r_icmp_ge hM (pc' := 13) (tgt := 67) dX2_tell_10 rfl (by decide) (fun c => ?_) (fun c => ?_)
  · have h := h.1 c
    exact r_return hM dX2_tell_67 rfl h
  · have h := h.2 c
    refine r_aload_n hM (pc' := 14) dX2_tell_13 rfl (x := 2) rfl ?_
    refine r_getR hM (pc' := 17) dX2_tell_14 rfl fl_X2_9 wx_2 rfl ?_
    refine r_iload_n hM (pc' := 18) dX2_tell_17 rfl (x := v1) rfl ?_
    refine r_iconst hM (pc' := 19) dX2_tell_18 rfl (by decide) ?_
    have o1 := h.1
    have h := h.2
    refine r_iastore hM (pc' := 20) dX2_tell_19 rfl wx_15 o1 (fun τ1 e1 => ?_)
    have h := h τ1 e1
    refine r_iconst hM (pc' := 21) dX2_tell_20 rfl (by decide) ?_
    refine r_istore_n hM (pc' := 22) dX2_tell_21 rfl (Nat.le_of_ble_eq_true rfl) rfl ?_
    show R 22 [vR 2, vI v1, vI 0] _ _
    exact h
set_option maxRecDepth 20000 in
theorem g_X2_tell_22 {G : GX} {d : Nat} {Ret : Option AV → St → Prop} {R : Nat → List AV → List AV → St → Prop} (hM : AM G wdX (d + 1) mX2_tell Ret R) (v1 : Int) (v2 : Int) (σ : St)
    (h : (((σ.1 7 4) ≤ v2 → (r32 (v1 + 1) ∧ R 2 [vR 2, vI (v1 + 1), vN] [] σ)) ∧ (¬ (σ.1 7 4) ≤ v2 → conI G wdX d mX2_follows [vR 2, vI v1, vI v2, vI 0] σ (fun x1 σ1 => ((x1 = 0 → (r32 (v2 + 1) ∧ R 22 [vR 2, vI v1, vI (v2 + 1)] [] σ1)) ∧ (¬ x1 = 0 → ((0 ≤ v1 ∧ v1 < 16) ∧ (∀ τ1, τ1 = sI σ1 15 (v1).toNat (bOr (σ1.1 15 (v1).toNat) (bShl 1 v2)) → (r32 (v2 + 1) ∧ R 22 [vR 2, vI v1, vI (v2 + 1)] [] τ1))))))))) : R 22 [vR 2, vI v1, vI v2] [] σ := by
  refine r_iload_n hM (pc' := 23) dX2_tell_22 rfl (x := v2) rfl ?_
  refine r_aload_n hM (pc' := 24) dX2_tell_23 rfl (x := 2) rfl ?_
  refine r_getR hM (pc' := 27) dX2_tell_24 rfl fl_X2_22 wx_2 rfl ?_
  refine r_getI hM (pc' := 30) dX2_tell_27 rfl fl_X2_26 wx_7 rfl ?_
  refine r_icmp_ge hM (pc' := 33) (tgt := 61) dX2_tell_30 rfl (by decide) (fun c => ?_) (fun c => ?_)
  · have h := h.1 c
    have o1 := h.1
    have h := h.2
    refine r_iinc hM (pc' := 64) dX2_tell_61 rfl (x := v1) rfl rfl o1 ?_
    show R 64 [vR 2, vI (v1 + 1), vI v2] _ _
    refine r_goto hM (tgt := 2) dX2_tell_64 (by decide) ?_
    refine r_weak hM (ls' := [vR 2, vI (v1 + 1), vN]) ⟨Or.inl rfl, Or.inl rfl, Or.inr rfl, trivial⟩ ?_
    exact h
  · have h := h.2 c
    refine r_aload_n hM (pc' := 34) dX2_tell_33 rfl (x := 2) rfl ?_
    refine r_iload_n hM (pc' := 35) dX2_tell_34 rfl (x := v1) rfl ?_
    refine r_iload_n hM (pc' := 36) dX2_tell_35 rfl (x := v2) rfl ?_
    refine r_iconst hM (pc' := 37) dX2_tell_36 rfl (by decide) ?_
    refine r_callVI hM (pc' := 40) [vI v1, vI v2, vI 0] dX2_tell_37 rfl ml_X2_32 wx_2 rfl rfl (Nat.le_of_ble_eq_true rfl) (conI.mono h (fun x1 σ1 h => ?_))
    refine r_if_eq hM (pc' := 43) (tgt := 55) dX2_tell_40 rfl (by decide) (fun c => ?_) (fun c => ?_)
    · have h := h.1 c
      have o2 := h.1
      have h := h.2
      refine r_iinc hM (pc' := 58) dX2_tell_55 rfl (x := v2) rfl rfl o2 ?_
      show R 58 [vR 2, vI v1, vI (v2 + 1)] _ _
      refine r_goto hM (tgt := 22) dX2_tell_58 (by decide) ?_
      exact h
    · have h := h.2 c
      refine r_aload_n hM (pc' := 44) dX2_tell_43 rfl (x := 2) rfl ?_
      refine r_getR hM (pc' := 47) dX2_tell_44 rfl fl_X2_9 wx_2 rfl ?_
      refine r_iload_n hM (pc' := 48) dX2_tell_47 rfl (x := v1) rfl ?_
      refine r_dup2 hM (pc' := 49) dX2_tell_48 rfl (fun _ => rfl) (fun _ => rfl) ?_
      have o3 := h.1
      have h := h.2
      refine r_iaload hM (pc' := 50) dX2_tell_49 rfl wx_15 o3 ?_
      refine r_iconst hM (pc' := 51) dX2_tell_50 rfl (by decide) ?_
      refine r_iload_n hM (pc' := 52) dX2_tell_51 rfl (x := v2) rfl ?_
      refine r_ishl hM (pc' := 53) dX2_tell_52 rfl ?_
      refine r_ior hM (pc' := 54) dX2_tell_53 rfl ?_
      refine r_iastore hM (pc' := 55) dX2_tell_54 rfl wx_15 o3 (fun τ1 e1 => ?_)
      have h := h τ1 e1
      have o4 := h.1
      have h := h.2
      refine r_iinc hM (pc' := 58) dX2_tell_55 rfl (x := v2) rfl rfl o4 ?_
      show R 58 [vR 2, vI v1, vI (v2 + 1)] _ _
      refine r_goto hM (tgt := 22) dX2_tell_58 (by decide) ?_
      exact h
theorem dX2_follows_0 : decode cX2_follows 0 = .ok (.aload_n 0, 1) := by decide +kernel
theorem dX2_follows_1 : decode cX2_follows 1 = .ok (.getfield 22, 3) := by decide +kernel
theorem dX2_follows_4 : decode cX2_follows 4 = .ok (.iload_n 1, 1) := by decide +kernel
theorem dX2_follows_5 : decode cX2_follows 5 = .ok (.invokevirtual 36, 3) := by decide +kernel
theorem dX2_follows_8 : decode cX2_follows 8 = .ok (.ifCond .eq 14, 3) := by decide +kernel
theorem dX2_follows_11 : decode cX2_follows 11 = .ok (.aload_n 0, 1) := by decide +kernel
theorem dX2_follows_12 : decode cX2_follows 12 = .ok (.getfield 22, 3) := by decide +kernel
theorem dX2_follows_15 : decode cX2_follows 15 = .ok (.iload_n 2, 1) := by decide +kernel
theorem dX2_follows_16 : decode cX2_follows 16 = .ok (.invokevirtual 36, 3) := by decide +kernel
theorem dX2_follows_19 : decode cX2_follows 19 = .ok (.ifCond .ne 5, 3) := by decide +kernel
theorem dX2_follows_22 : decode cX2_follows 22 = .ok (.iconst 0, 1) := by decide +kernel
theorem dX2_follows_23 : decode cX2_follows 23 = .ok (.ireturn, 1) := by decide +kernel
theorem dX2_follows_24 : decode cX2_follows 24 = .ok (.aload_n 0, 1) := by decide +kernel
theorem dX2_follows_25 : decode cX2_follows 25 = .ok (.getfield 18, 3) := by decide +kernel
theorem dX2_follows_28 : decode cX2_follows 28 = .ok (.aload_n 0, 1) := by decide +kernel
theorem dX2_follows_29 : decode cX2_follows 29 = .ok (.getfield 22, 3) := by decide +kernel
theorem dX2_follows_32 : decode cX2_follows 32 = .ok (.getfield 40, 3) := by decide +kernel
theorem dX2_follows_35 : decode cX2_follows 35 = .ok (.iload_n 1, 1) := by decide +kernel
theorem dX2_follows_36 : decode cX2_follows 36 = .ok (.iaload, 1) := by decide +kernel
theorem dX2_follows_37 : decode cX2_follows 37 = .ok (.aload_n 0, 1) := by decide +kernel
theorem dX2_follows_38 : decode cX2_follows 38 = .ok (.getfield 22, 3) := by decide +kernel
theorem dX2_follows_41 : decode cX2_follows 41 = .ok (.getfield 43, 3) := by decide +kernel
theorem dX2_follows_44 : decode cX2_follows 44 = .ok (.iload_n 2, 1) := by decide +kernel
theorem dX2_follows_45 : decode cX2_follows 45 = .ok (.iaload, 1) := by decide +kernel
theorem dX2_follows_46 : decode cX2_follows 46 = .ok (.invokevirtual 46, 3) := by decide +kernel
theorem dX2_follows_49 : decode cX2_follows 49 = .ok (.istore 4, 2) := by decide +kernel
theorem dX2_follows_51 : decode cX2_follows 51 = .ok (.iload 4, 2) := by decide +kernel
theorem dX2_follows_53 : decode cX2_follows 53 = .ok (.iconst (-1), 1) := by decide +kernel
theorem dX2_follows_54 : decode cX2_follows 54 = .ok (.if_icmp .eq 33, 3) := by decide +kernel
theorem dX2_follows_57 : decode cX2_follows 57 = .ok (.aload_n 0, 1) := by decide +kernel
theorem dX2_follows_58 : decode cX2_follows 58 = .ok (.getfield 22, 3) := by decide +kernel
theorem dX2_follows_61 : decode cX2_follows 61 = .ok (.getfield 52, 3) := by decide +kernel
theorem dX2_follows_64 : decode cX2_follows 64 = .ok (.iload_n 1, 1) := by decide +kernel
theorem dX2_follows_65 : decode cX2_follows 65 = .ok (.iaload, 1) := by decide +kernel
theorem dX2_follows_66 : decode cX2_follows 66 = .ok (.iload 4, 2) := by decide +kernel
theorem dX2_follows_68 : decode cX2_follows 68 = .ok (.iadd, 1) := by decide +kernel
theorem dX2_follows_69 : decode cX2_follows 69 = .ok (.aload_n 0, 1) := by decide +kernel
theorem dX2_follows_70 : decode cX2_follows 70 = .ok (.getfield 22, 3) := by decide +kernel
theorem dX2_follows_73 : decode cX2_follows 73 = .ok (.getfield 55, 3) := by decide +kernel
theorem dX2_follows_76 : decode cX2_follows 76 = .ok (.iload_n 2, 1) := by decide +kernel
theorem dX2_follows_77 : decode cX2_follows 77 = .ok (.iaload, 1) := by decide +kernel
theorem dX2_follows_78 : decode cX2_follows 78 = .ok (.iload_n 3, 1) := by decide +kernel
theorem dX2_follows_79 : decode cX2_follows 79 = .ok (.iadd, 1) := by decide +kernel
theorem dX2_follows_80 : decode cX2_follows 80 = .ok (.if_icmp .gt 7, 3) := by decide +kernel
theorem dX2_follows_83 : decode cX2_follows 83 = .ok (.iconst 1, 1) := by decide +kernel
theorem dX2_follows_84 : decode cX2_follows 84 = .ok (.goto 4, 3) := by decide +kernel
theorem dX2_follows_87 : decode cX2_follows 87 = .ok (.iconst 0, 1) := by decide +kernel
theorem dX2_follows_88 : decode cX2_follows 88 = .ok (.ireturn, 1) := by decide +kernel
set_option maxRecDepth 20000 in
theorem g_X2_follows_0 {G : GX} {d : Nat} {Ret : Option AV → St → Prop} {R : Nat → List AV → List AV → St → Prop} (hM : AM G wdX (d + 1) mX2_follows Ret R) (v1 : Int) (v2 : Int) (v3 : Int) (σ : St)
    (h : conI G wdX d mX7_holds [vR 7, vI v1] σ (fun x1 σ1 => ((x1 = 0 → Ret (some (vI 0)) σ1) ∧ (¬ x1 = 0 → conI G wdX d mX7_holds [vR 7, vI v2] σ1 (fun x2 σ2 => ((¬ x2 = 0 → ((0 ≤ v1 ∧ v1 < 16) ∧ ((0 ≤ v2 ∧ v2 < 16) ∧ conI G wdX d mX8_minutesOf [vR 8, vI (σ2.1 35 (v1).toNat), vI (σ2.1 34 (v2).toNat)] σ2 (fun x3 σ3 => ((x3 = (-1) → Ret (some (vI 0)) σ3) ∧ (¬ x3 = (-1) → (r32 ((σ3.1 37 (v1).toNat) + x3) ∧ (r32 ((σ3.1 36 (v2).toNat) + v3) ∧ ((((σ3.1 36 (v2).toNat) + v3) < ((σ3.1 37 (v1).toNat) + x3) → Ret (some (vI 0)) σ3) ∧ (¬ ((σ3.1 36 (v2).toNat) + v3) < ((σ3.1 37 (v1).toNat) + x3) → Ret (some (vI 1)) σ3)))))))))) ∧ (x2 = 0 → Ret (some (vI 0)) σ2))))))) : R 0 [vR 2, vI v1, vI v2, vI v3, vN] [] σ := by
  refine r_aload_n hM (pc' := 1) dX2_follows_0 rfl (x := 2) rfl ?_
  refine r_getR hM (pc' := 4) dX2_follows_1 rfl fl_X2_22 wx_2 rfl ?_
  refine r_iload_n hM (pc' := 5) dX2_follows_4 rfl (x := v1) rfl ?_
  refine r_callVI hM (pc' := 8) [vI v1] dX2_follows_5 rfl ml_X2_36 wx_7 rfl rfl (Nat.le_of_ble_eq_true rfl) (conI.mono h (fun x1 σ1 h => ?_))
  refine r_if_eq hM (pc' := 11) (tgt := 22) dX2_follows_8 rfl (by decide) (fun c => ?_) (fun c => ?_)
  · have h := h.1 c
    refine r_iconst hM (pc' := 23) dX2_follows_22 rfl (by decide) ?_
    exact r_zreturn hM dX2_follows_23 rfl (by decide) h
  · have h := h.2 c
    refine r_aload_n hM (pc' := 12) dX2_follows_11 rfl (x := 2) rfl ?_
    refine r_getR hM (pc' := 15) dX2_follows_12 rfl fl_X2_22 wx_2 rfl ?_
    refine r_iload_n hM (pc' := 16) dX2_follows_15 rfl (x := v2) rfl ?_
    refine r_callVI hM (pc' := 19) [vI v2] dX2_follows_16 rfl ml_X2_36 wx_7 rfl rfl (Nat.le_of_ble_eq_true rfl) (conI.mono h (fun x2 σ2 h => ?_))
    refine r_if_ne hM (pc' := 22) (tgt := 24) dX2_follows_19 rfl (by decide) (fun c => ?_) (fun c => ?_)
    · have h := h.1 c
      refine r_aload_n hM (pc' := 25) dX2_follows_24 rfl (x := 2) rfl ?_
      refine r_getR hM (pc' := 28) dX2_follows_25 rfl fl_X2_18 wx_2 rfl ?_
      refine r_aload_n hM (pc' := 29) dX2_follows_28 rfl (x := 2) rfl ?_
      refine r_getR hM (pc' := 32) dX2_follows_29 rfl fl_X2_22 wx_2 rfl ?_
      refine r_getR hM (pc' := 35) dX2_follows_32 rfl fl_X2_40 wx_7 rfl ?_
      refine r_iload_n hM (pc' := 36) dX2_follows_35 rfl (x := v1) rfl ?_
      have o1 := h.1
      have h := h.2
      refine r_iaload hM (pc' := 37) dX2_follows_36 rfl wx_35 o1 ?_
      refine r_aload_n hM (pc' := 38) dX2_follows_37 rfl (x := 2) rfl ?_
      refine r_getR hM (pc' := 41) dX2_follows_38 rfl fl_X2_22 wx_2 rfl ?_
      refine r_getR hM (pc' := 44) dX2_follows_41 rfl fl_X2_43 wx_7 rfl ?_
      refine r_iload_n hM (pc' := 45) dX2_follows_44 rfl (x := v2) rfl ?_
      have o2 := h.1
      have h := h.2
      refine r_iaload hM (pc' := 46) dX2_follows_45 rfl wx_34 o2 ?_
      refine r_callVI hM (pc' := 49) [vI (σ2.1 35 (v1).toNat), vI (σ2.1 34 (v2).toNat)] dX2_follows_46 rfl ml_X2_46 wx_8 rfl rfl (Nat.le_of_ble_eq_true rfl) (conI.mono h (fun x3 σ3 h => ?_))
      refine r_istore hM (pc' := 51) dX2_follows_49 rfl (Nat.le_of_ble_eq_true rfl) rfl ?_
      show R 51 [vR 2, vI v1, vI v2, vI v3, vI x3] _ _
      refine r_iload hM (pc' := 53) dX2_follows_51 rfl (x := x3) rfl ?_
      refine r_iconst hM (pc' := 54) dX2_follows_53 rfl (by decide) ?_
      refine r_icmp_eq hM (pc' := 57) (tgt := 87) dX2_follows_54 rfl (by decide) (fun c => ?_) (fun c => ?_)
      · have h := h.1 c
        refine r_iconst hM (pc' := 88) dX2_follows_87 rfl (by decide) ?_
        exact r_zreturn hM dX2_follows_88 rfl (by decide) h
      · have h := h.2 c
        refine r_aload_n hM (pc' := 58) dX2_follows_57 rfl (x := 2) rfl ?_
        refine r_getR hM (pc' := 61) dX2_follows_58 rfl fl_X2_22 wx_2 rfl ?_
        refine r_getR hM (pc' := 64) dX2_follows_61 rfl fl_X2_52 wx_7 rfl ?_
        refine r_iload_n hM (pc' := 65) dX2_follows_64 rfl (x := v1) rfl ?_
        refine r_iaload hM (pc' := 66) dX2_follows_65 rfl wx_37 o1 ?_
        refine r_iload hM (pc' := 68) dX2_follows_66 rfl (x := x3) rfl ?_
        have o3 := h.1
        have h := h.2
        refine r_iadd hM (pc' := 69) dX2_follows_68 rfl o3 ?_
        refine r_aload_n hM (pc' := 70) dX2_follows_69 rfl (x := 2) rfl ?_
        refine r_getR hM (pc' := 73) dX2_follows_70 rfl fl_X2_22 wx_2 rfl ?_
        refine r_getR hM (pc' := 76) dX2_follows_73 rfl fl_X2_55 wx_7 rfl ?_
        refine r_iload_n hM (pc' := 77) dX2_follows_76 rfl (x := v2) rfl ?_
        refine r_iaload hM (pc' := 78) dX2_follows_77 rfl wx_36 o2 ?_
        refine r_iload_n hM (pc' := 79) dX2_follows_78 rfl (x := v3) rfl ?_
        have o4 := h.1
        have h := h.2
        refine r_iadd hM (pc' := 80) dX2_follows_79 rfl o4 ?_
        refine r_icmp_gt hM (pc' := 83) (tgt := 87) dX2_follows_80 rfl (by decide) (fun c => ?_) (fun c => ?_)
        · have h := h.1 c
          refine r_iconst hM (pc' := 88) dX2_follows_87 rfl (by decide) ?_
          exact r_zreturn hM dX2_follows_88 rfl (by decide) h
        · have h := h.2 c
          refine r_iconst hM (pc' := 84) dX2_follows_83 rfl (by decide) ?_
          refine r_goto hM (tgt := 88) dX2_follows_84 (by decide) ?_
          exact r_zreturn hM dX2_follows_88 rfl (by decide) h
    · have h := h.2 c
      refine r_iconst hM (pc' := 23) dX2_follows_22 rfl (by decide) ?_
      exact r_zreturn hM dX2_follows_23 rfl (by decide) h
theorem dX2_goOn_0 : decode cX2_goOn 0 = .ok (.iconst 0, 1) := by decide +kernel
theorem dX2_goOn_1 : decode cX2_goOn 1 = .ok (.istore_n 1, 1) := by decide +kernel
theorem dX2_goOn_2 : decode cX2_goOn 2 = .ok (.iload_n 1, 1) := by decide +kernel
theorem dX2_goOn_3 : decode cX2_goOn 3 = .ok (.aload_n 0, 1) := by decide +kernel
theorem dX2_goOn_4 : decode cX2_goOn 4 = .ok (.getfield 22, 3) := by decide +kernel
theorem dX2_goOn_7 : decode cX2_goOn 7 = .ok (.getfield 26, 3) := by decide +kernel
theorem dX2_goOn_10 : decode cX2_goOn 10 = .ok (.if_icmp .ge 72, 3) := by decide +kernel
theorem dX2_goOn_13 : decode cX2_goOn 13 = .ok (.iconst 0, 1) := by decide +kernel
theorem dX2_goOn_14 : decode cX2_goOn 14 = .ok (.istore_n 2, 1) := by decide +kernel
theorem dX2_goOn_15 : decode cX2_goOn 15 = .ok (.iload_n 2, 1) := by decide +kernel
theorem dX2_goOn_16 : decode cX2_goOn 16 = .ok (.aload_n 0, 1) := by decide +kernel
theorem dX2_goOn_17 : decode cX2_goOn 17 = .ok (.getfield 22, 3) := by decide +kernel
theorem dX2_goOn_20 : decode cX2_goOn 20 = .ok (.getfield 26, 3) := by decide +kernel
theorem dX2_goOn_23 : decode cX2_goOn 23 = .ok (.if_icmp .ge 53, 3) := by decide +kernel
theorem dX2_goOn_26 : decode cX2_goOn 26 = .ok (.aload_n 0, 1) := by decide +kernel
theorem dX2_goOn_27 : decode cX2_goOn 27 = .ok (.getfield 9, 3) := by decide +kernel
theorem dX2_goOn_30 : decode cX2_goOn 30 = .ok (.iload_n 1, 1) := by decide +kernel
theorem dX2_goOn_31 : decode cX2_goOn 31 = .ok (.iaload, 1) := by decide +kernel
theorem dX2_goOn_32 : decode cX2_goOn 32 = .ok (.iload_n 2, 1) := by decide +kernel
theorem dX2_goOn_33 : decode cX2_goOn 33 = .ok (.ishr, 1) := by decide +kernel
theorem dX2_goOn_34 : decode cX2_goOn 34 = .ok (.iconst 1, 1) := by decide +kernel
theorem dX2_goOn_35 : decode cX2_goOn 35 = .ok (.iand, 1) := by decide +kernel
theorem dX2_goOn_36 : decode cX2_goOn 36 = .ok (.iconst 1, 1) := by decide +kernel
theorem dX2_goOn_37 : decode cX2_goOn 37 = .ok (.if_icmp .ne 7, 3) := by decide +kernel
theorem dX2_goOn_40 : decode cX2_goOn 40 = .ok (.iconst 1, 1) := by decide +kernel
theorem dX2_goOn_41 : decode cX2_goOn 41 = .ok (.goto 4, 3) := by decide +kernel
theorem dX2_goOn_44 : decode cX2_goOn 44 = .ok (.iconst 0, 1) := by decide +kernel
theorem dX2_goOn_45 : decode cX2_goOn 45 = .ok (.istore_n 3, 1) := by decide +kernel
theorem dX2_goOn_46 : decode cX2_goOn 46 = .ok (.iload_n 3, 1) := by decide +kernel
theorem dX2_goOn_47 : decode cX2_goOn 47 = .ok (.ifCond .eq 23, 3) := by decide +kernel
theorem dX2_goOn_50 : decode cX2_goOn 50 = .ok (.aload_n 0, 1) := by decide +kernel
theorem dX2_goOn_51 : decode cX2_goOn 51 = .ok (.getfield 9, 3) := by decide +kernel
theorem dX2_goOn_54 : decode cX2_goOn 54 = .ok (.iload_n 2, 1) := by decide +kernel
theorem dX2_goOn_55 : decode cX2_goOn 55 = .ok (.iaload, 1) := by decide +kernel
theorem dX2_goOn_56 : decode cX2_goOn 56 = .ok (.aload_n 0, 1) := by decide +kernel
theorem dX2_goOn_57 : decode cX2_goOn 57 = .ok (.getfield 9, 3) := by decide +kernel
theorem dX2_goOn_60 : decode cX2_goOn 60 = .ok (.iload_n 1, 1) := by decide +kernel
theorem dX2_goOn_61 : decode cX2_goOn 61 = .ok (.iaload, 1) := by decide +kernel
theorem dX2_goOn_62 : decode cX2_goOn 62 = .ok (.iconst (-1), 1) := by decide +kernel
theorem dX2_goOn_63 : decode cX2_goOn 63 = .ok (.ixor, 1) := by decide +kernel
theorem dX2_goOn_64 : decode cX2_goOn 64 = .ok (.iand, 1) := by decide +kernel
theorem dX2_goOn_65 : decode cX2_goOn 65 = .ok (.ifCond .eq 5, 3) := by decide +kernel
theorem dX2_goOn_68 : decode cX2_goOn 68 = .ok (.iconst 0, 1) := by decide +kernel
theorem dX2_goOn_69 : decode cX2_goOn 69 = .ok (.ireturn, 1) := by decide +kernel
theorem dX2_goOn_70 : decode cX2_goOn 70 = .ok (.iinc 2 1, 3) := by decide +kernel
theorem dX2_goOn_73 : decode cX2_goOn 73 = .ok (.goto (-58), 3) := by decide +kernel
theorem dX2_goOn_76 : decode cX2_goOn 76 = .ok (.iinc 1 1, 3) := by decide +kernel
theorem dX2_goOn_79 : decode cX2_goOn 79 = .ok (.goto (-77), 3) := by decide +kernel
theorem dX2_goOn_82 : decode cX2_goOn 82 = .ok (.iconst 1, 1) := by decide +kernel
theorem dX2_goOn_83 : decode cX2_goOn 83 = .ok (.ireturn, 1) := by decide +kernel
set_option maxRecDepth 20000 in
theorem g_X2_goOn_0 {G : GX} {d : Nat} {Ret : Option AV → St → Prop} {R : Nat → List AV → List AV → St → Prop} (hM : AM G wdX d mX2_goOn Ret R) (σ : St)
    (h : R 2 [vR 2, vI 0, vN, vN] [] σ) : R 0 [vR 2, vN, vN, vN] [] σ := by
  refine r_iconst hM (pc' := 1) dX2_goOn_0 rfl (by decide) ?_
  refine r_istore_n hM (pc' := 2) dX2_goOn_1 rfl (Nat.le_of_ble_eq_true rfl) rfl ?_
  show R 2 [vR 2, vI 0, vN, vN] _ _
  exact h
set_option maxRecDepth 20000 in
theorem g_X2_goOn_2 {G : GX} {d : Nat} {Ret : Option AV → St → Prop} {R : Nat → List AV → List AV → St → Prop} (hM : AM G wdX d mX2_goOn Ret R) (v1 : Int) (σ : St)
    (h : (((σ.1 7 4) ≤ v1 → Ret (some (vI 1)) σ) ∧ (¬ (σ.1 7 4) ≤ v1 → R 15 [vR 2, vI v1, vI 0, vN] [] σ))) : R 2 [vR 2, vI v1, vN, vN] [] σ := by
  refine r_iload_n hM (pc' := 3) dX2_goOn_2 rfl (x := v1) rfl ?_
  refine r_aload_n hM (pc' := 4) dX2_goOn_3 rfl (x := 2) rfl ?_
  refine r_getR hM (pc' := 7) dX2_goOn_4 rfl fl_X2_22 wx_2 rfl ?_
  refine r_getI hM (pc' := 10) dX2_goOn_7 rfl fl_X2_26 wx_7 rfl ?_
  refine r_icmp_ge hM (pc' := 13) (tgt := 82) dX2_goOn_10 rfl (by decide) (fun c => ?_) (fun c => ?_)
  · have h := h.1 c
    refine r_iconst hM (pc' := 83) dX2_goOn_82 rfl (by decide) ?_
    exact r_zreturn hM dX2_goOn_83 rfl (by decide) h
  · have h := h.2 c
    refine r_iconst hM (pc' := 14) dX2_goOn_13 rfl (by decide) ?_
    refine r_istore_n hM (pc' := 15) dX2_goOn_14 rfl (Nat.le_of_ble_eq_true rfl) rfl ?_
    show R 15 [vR 2, vI v1, vI 0, vN] _ _
    exact h
set_option maxRecDepth 20000 in
theorem g_X2_goOn_15 {G : GX} {d : Nat} {Ret : Option AV → St → Prop} {R : Nat → List AV → List AV → St → Prop} (hM : AM G wdX d mX2_goOn Ret R) (v1 : Int) (v2 : Int) (σ : St)
    (h : (((σ.1 7 4) ≤ v2 → (r32 (v1 + 1) ∧ R 2 [vR 2, vI (v1 + 1), vN, vN] [] σ)) ∧ (¬ (σ.1 7 4) ≤ v2 → ((0 ≤ v1 ∧ v1 < 16) ∧ ((¬ (bAnd (bShr (σ.1 15 (v1).toNat) v2) 1) = 1 → R 45 [vR 2, vI v1, vI v2, vN] [vI 0] σ) ∧ ((bAnd (bShr (σ.1 15 (v1).toNat) v2) 1) = 1 → R 45 [vR 2, vI v1, vI v2, vN] [vI 1] σ)))))) : R 15 [vR 2, vI v1, vI v2, vN] [] σ := by
  refine r_iload_n hM (pc' := 16) dX2_goOn_15 rfl (x := v2) rfl ?_
  refine r_aload_n hM (pc' := 17) dX2_goOn_16 rfl (x := 2) rfl ?_
  refine r_getR hM (pc' := 20) dX2_goOn_17 rfl fl_X2_22 wx_2 rfl ?_
  refine r_getI hM (pc' := 23) dX2_goOn_20 rfl fl_X2_26 wx_7 rfl ?_
  refine r_icmp_ge hM (pc' := 26) (tgt := 76) dX2_goOn_23 rfl (by decide) (fun c => ?_) (fun c => ?_)
  · have h := h.1 c
    have o1 := h.1
    have h := h.2
    refine r_iinc hM (pc' := 79) dX2_goOn_76 rfl (x := v1) rfl rfl o1 ?_
    show R 79 [vR 2, vI (v1 + 1), vI v2, vN] _ _
    refine r_goto hM (tgt := 2) dX2_goOn_79 (by decide) ?_
    refine r_weak hM (ls' := [vR 2, vI (v1 + 1), vN, vN]) ⟨Or.inl rfl, Or.inl rfl, Or.inr rfl, Or.inl rfl, trivial⟩ ?_
    exact h
  · have h := h.2 c
    refine r_aload_n hM (pc' := 27) dX2_goOn_26 rfl (x := 2) rfl ?_
    refine r_getR hM (pc' := 30) dX2_goOn_27 rfl fl_X2_9 wx_2 rfl ?_
    refine r_iload_n hM (pc' := 31) dX2_goOn_30 rfl (x := v1) rfl ?_
    have o2 := h.1
    have h := h.2
    refine r_iaload hM (pc' := 32) dX2_goOn_31 rfl wx_15 o2 ?_
    refine r_iload_n hM (pc' := 33) dX2_goOn_32 rfl (x := v2) rfl ?_
    refine r_ishr hM (pc' := 34) dX2_goOn_33 rfl ?_
    refine r_iconst hM (pc' := 35) dX2_goOn_34 rfl (by decide) ?_
    refine r_iand hM (pc' := 36) dX2_goOn_35 rfl ?_
    refine r_iconst hM (pc' := 37) dX2_goOn_36 rfl (by decide) ?_
    refine r_icmp_ne hM (pc' := 40) (tgt := 44) dX2_goOn_37 rfl (by decide) (fun c => ?_) (fun c => ?_)
    · have h := h.1 c
      refine r_iconst hM (pc' := 45) dX2_goOn_44 rfl (by decide) ?_
      exact h
    · have h := h.2 c
      refine r_iconst hM (pc' := 41) dX2_goOn_40 rfl (by decide) ?_
      refine r_goto hM (tgt := 45) dX2_goOn_41 (by decide) ?_
      exact h
set_option maxRecDepth 20000 in
theorem g_X2_goOn_45 {G : GX} {d : Nat} {Ret : Option AV → St → Prop} {R : Nat → List AV → List AV → St → Prop} (hM : AM G wdX d mX2_goOn Ret R) (v1 : Int) (v2 : Int) (w0 : Int) (σ : St)
    (h : ((w0 = 0 → (r32 (v2 + 1) ∧ R 15 [vR 2, vI v1, vI (v2 + 1), vN] [] σ)) ∧ (¬ w0 = 0 → ((0 ≤ v2 ∧ v2 < 16) ∧ ((0 ≤ v1 ∧ v1 < 16) ∧ (((bAnd (σ.1 15 (v2).toNat) (bXor (σ.1 15 (v1).toNat) (-1))) = 0 → (r32 (v2 + 1) ∧ R 15 [vR 2, vI v1, vI (v2 + 1), vN] [] σ)) ∧ (¬ (bAnd (σ.1 15 (v2).toNat) (bXor (σ.1 15 (v1).toNat) (-1))) = 0 → Ret (some (vI 0)) σ))))))) : R 45 [vR 2, vI v1, vI v2, vN] [vI w0] σ := by
  refine r_istore_n hM (pc' := 46) dX2_goOn_45 rfl (Nat.le_of_ble_eq_true rfl) rfl ?_
  show R 46 [vR 2, vI v1, vI v2, vI w0] _ _
  refine r_iload_n hM (pc' := 47) dX2_goOn_46 rfl (x := w0) rfl ?_
  refine r_if_eq hM (pc' := 50) (tgt := 70) dX2_goOn_47 rfl (by decide) (fun c => ?_) (fun c => ?_)
  · have h := h.1 c
    have o1 := h.1
    have h := h.2
    refine r_iinc hM (pc' := 73) dX2_goOn_70 rfl (x := v2) rfl rfl o1 ?_
    show R 73 [vR 2, vI v1, vI (v2 + 1), vI w0] _ _
    refine r_goto hM (tgt := 15) dX2_goOn_73 (by decide) ?_
    refine r_weak hM (ls' := [vR 2, vI v1, vI (v2 + 1), vN]) ⟨Or.inl rfl, Or.inl rfl, Or.inl rfl, Or.inr rfl, trivial⟩ ?_
    exact h
  · have h := h.2 c
    refine r_aload_n hM (pc' := 51) dX2_goOn_50 rfl (x := 2) rfl ?_
    refine r_getR hM (pc' := 54) dX2_goOn_51 rfl fl_X2_9 wx_2 rfl ?_
    refine r_iload_n hM (pc' := 55) dX2_goOn_54 rfl (x := v2) rfl ?_
    have o2 := h.1
    have h := h.2
    refine r_iaload hM (pc' := 56) dX2_goOn_55 rfl wx_15 o2 ?_
    refine r_aload_n hM (pc' := 57) dX2_goOn_56 rfl (x := 2) rfl ?_
    refine r_getR hM (pc' := 60) dX2_goOn_57 rfl fl_X2_9 wx_2 rfl ?_
    refine r_iload_n hM (pc' := 61) dX2_goOn_60 rfl (x := v1) rfl ?_
    have o3 := h.1
    have h := h.2
    refine r_iaload hM (pc' := 62) dX2_goOn_61 rfl wx_15 o3 ?_
    refine r_iconst hM (pc' := 63) dX2_goOn_62 rfl (by decide) ?_
    refine r_ixor hM (pc' := 64) dX2_goOn_63 rfl ?_
    refine r_iand hM (pc' := 65) dX2_goOn_64 rfl ?_
    refine r_if_eq hM (pc' := 68) (tgt := 70) dX2_goOn_65 rfl (by decide) (fun c => ?_) (fun c => ?_)
    · have h := h.1 c
      have o4 := h.1
      have h := h.2
      refine r_iinc hM (pc' := 73) dX2_goOn_70 rfl (x := v2) rfl rfl o4 ?_
      show R 73 [vR 2, vI v1, vI (v2 + 1), vI w0] _ _
      refine r_goto hM (tgt := 15) dX2_goOn_73 (by decide) ?_
      refine r_weak hM (ls' := [vR 2, vI v1, vI (v2 + 1), vN]) ⟨Or.inl rfl, Or.inl rfl, Or.inl rfl, Or.inr rfl, trivial⟩ ?_
      exact h
    · have h := h.2 c
      refine r_iconst hM (pc' := 69) dX2_goOn_68 rfl (by decide) ?_
      exact r_zreturn hM dX2_goOn_69 rfl (by decide) h
theorem dX2_mostApart_0 : decode cX2_mostApart 0 = .ok (.iconst 0, 1) := by decide +kernel
theorem dX2_mostApart_1 : decode cX2_mostApart 1 = .ok (.istore_n 1, 1) := by decide +kernel
theorem dX2_mostApart_2 : decode cX2_mostApart 2 = .ok (.iload_n 1, 1) := by decide +kernel
theorem dX2_mostApart_3 : decode cX2_mostApart 3 = .ok (.aload_n 0, 1) := by decide +kernel
theorem dX2_mostApart_4 : decode cX2_mostApart 4 = .ok (.getfield 22, 3) := by decide +kernel
theorem dX2_mostApart_7 : decode cX2_mostApart 7 = .ok (.getfield 26, 3) := by decide +kernel
theorem dX2_mostApart_10 : decode cX2_mostApart 10 = .ok (.if_icmp .ge 61, 3) := by decide +kernel
theorem dX2_mostApart_13 : decode cX2_mostApart 13 = .ok (.aload_n 0, 1) := by decide +kernel
theorem dX2_mostApart_14 : decode cX2_mostApart 14 = .ok (.getfield 15, 3) := by decide +kernel
theorem dX2_mostApart_17 : decode cX2_mostApart 17 = .ok (.iload_n 1, 1) := by decide +kernel
theorem dX2_mostApart_18 : decode cX2_mostApart 18 = .ok (.aload_n 0, 1) := by decide +kernel
theorem dX2_mostApart_19 : decode cX2_mostApart 19 = .ok (.getfield 9, 3) := by decide +kernel
theorem dX2_mostApart_22 : decode cX2_mostApart 22 = .ok (.iload_n 1, 1) := by decide +kernel
theorem dX2_mostApart_23 : decode cX2_mostApart 23 = .ok (.iaload, 1) := by decide +kernel
theorem dX2_mostApart_24 : decode cX2_mostApart 24 = .ok (.iastore, 1) := by decide +kernel
theorem dX2_mostApart_25 : decode cX2_mostApart 25 = .ok (.iconst 0, 1) := by decide +kernel
theorem dX2_mostApart_26 : decode cX2_mostApart 26 = .ok (.istore_n 2, 1) := by decide +kernel
theorem dX2_mostApart_27 : decode cX2_mostApart 27 = .ok (.iload_n 2, 1) := by decide +kernel
theorem dX2_mostApart_28 : decode cX2_mostApart 28 = .ok (.aload_n 0, 1) := by decide +kernel
theorem dX2_mostApart_29 : decode cX2_mostApart 29 = .ok (.getfield 22, 3) := by decide +kernel
theorem dX2_mostApart_32 : decode cX2_mostApart 32 = .ok (.getfield 26, 3) := by decide +kernel
theorem dX2_mostApart_35 : decode cX2_mostApart 35 = .ok (.if_icmp .ge 30, 3) := by decide +kernel
theorem dX2_mostApart_38 : decode cX2_mostApart 38 = .ok (.aload_n 0, 1) := by decide +kernel
theorem dX2_mostApart_39 : decode cX2_mostApart 39 = .ok (.getfield 15, 3) := by decide +kernel
theorem dX2_mostApart_42 : decode cX2_mostApart 42 = .ok (.iload_n 1, 1) := by decide +kernel
theorem dX2_mostApart_43 : decode cX2_mostApart 43 = .ok (.dup2, 1) := by decide +kernel
theorem dX2_mostApart_44 : decode cX2_mostApart 44 = .ok (.iaload, 1) := by decide +kernel
theorem dX2_mostApart_45 : decode cX2_mostApart 45 = .ok (.aload_n 0, 1) := by decide +kernel
theorem dX2_mostApart_46 : decode cX2_mostApart 46 = .ok (.getfield 9, 3) := by decide +kernel
theorem dX2_mostApart_49 : decode cX2_mostApart 49 = .ok (.iload_n 2, 1) := by decide +kernel
theorem dX2_mostApart_50 : decode cX2_mostApart 50 = .ok (.iaload, 1) := by decide +kernel
theorem dX2_mostApart_51 : decode cX2_mostApart 51 = .ok (.iload_n 1, 1) := by decide +kernel
theorem dX2_mostApart_52 : decode cX2_mostApart 52 = .ok (.ishr, 1) := by decide +kernel
theorem dX2_mostApart_53 : decode cX2_mostApart 53 = .ok (.iconst 1, 1) := by decide +kernel
theorem dX2_mostApart_54 : decode cX2_mostApart 54 = .ok (.iand, 1) := by decide +kernel
theorem dX2_mostApart_55 : decode cX2_mostApart 55 = .ok (.iload_n 2, 1) := by decide +kernel
theorem dX2_mostApart_56 : decode cX2_mostApart 56 = .ok (.ishl, 1) := by decide +kernel
theorem dX2_mostApart_57 : decode cX2_mostApart 57 = .ok (.ior, 1) := by decide +kernel
theorem dX2_mostApart_58 : decode cX2_mostApart 58 = .ok (.iastore, 1) := by decide +kernel
theorem dX2_mostApart_59 : decode cX2_mostApart 59 = .ok (.iinc 2 1, 3) := by decide +kernel
theorem dX2_mostApart_62 : decode cX2_mostApart 62 = .ok (.goto (-35), 3) := by decide +kernel
theorem dX2_mostApart_65 : decode cX2_mostApart 65 = .ok (.iinc 1 1, 3) := by decide +kernel
theorem dX2_mostApart_68 : decode cX2_mostApart 68 = .ok (.goto (-66), 3) := by decide +kernel
theorem dX2_mostApart_71 : decode cX2_mostApart 71 = .ok (.aload_n 0, 1) := by decide +kernel
theorem dX2_mostApart_72 : decode cX2_mostApart 72 = .ok (.getfield 15, 3) := by decide +kernel
theorem dX2_mostApart_75 : decode cX2_mostApart 75 = .ok (.iconst 1, 1) := by decide +kernel
theorem dX2_mostApart_76 : decode cX2_mostApart 76 = .ok (.aload_n 0, 1) := by decide +kernel
theorem dX2_mostApart_77 : decode cX2_mostApart 77 = .ok (.getfield 22, 3) := by decide +kernel
theorem dX2_mostApart_80 : decode cX2_mostApart 80 = .ok (.getfield 26, 3) := by decide +kernel
theorem dX2_mostApart_83 : decode cX2_mostApart 83 = .ok (.ishl, 1) := by decide +kernel
theorem dX2_mostApart_84 : decode cX2_mostApart 84 = .ok (.iconst 1, 1) := by decide +kernel
theorem dX2_mostApart_85 : decode cX2_mostApart 85 = .ok (.isub, 1) := by decide +kernel
theorem dX2_mostApart_86 : decode cX2_mostApart 86 = .ok (.iconst 0, 1) := by decide +kernel
theorem dX2_mostApart_87 : decode cX2_mostApart 87 = .ok (.invokestatic 58, 3) := by decide +kernel
theorem dX2_mostApart_90 : decode cX2_mostApart 90 = .ok (.ireturn, 1) := by decide +kernel
set_option maxRecDepth 20000 in
theorem g_X2_mostApart_0 {G : GX} {d : Nat} {Ret : Option AV → St → Prop} {R : Nat → List AV → List AV → St → Prop} (hM : AM G wdX (d + 1) mX2_mostApart Ret R) (σ : St)
    (h : R 2 [vR 2, vI 0, vN] [] σ) : R 0 [vR 2, vN, vN] [] σ := by
  refine r_iconst hM (pc' := 1) dX2_mostApart_0 rfl (by decide) ?_
  refine r_istore_n hM (pc' := 2) dX2_mostApart_1 rfl (Nat.le_of_ble_eq_true rfl) rfl ?_
  show R 2 [vR 2, vI 0, vN] _ _
  exact h
set_option maxRecDepth 20000 in
theorem g_X2_mostApart_2 {G : GX} {d : Nat} {Ret : Option AV → St → Prop} {R : Nat → List AV → List AV → St → Prop} (hM : AM G wdX (d + 1) mX2_mostApart Ret R) (v1 : Int) (σ : St)
    (h : (((σ.1 7 4) ≤ v1 → (r32 ((bShl 1 (σ.1 7 4)) - 1) ∧ conI G wdX d mX2_mostOf [vR 16, vI ((bShl 1 (σ.1 7 4)) - 1), vI 0] σ (fun x1 σ1 => Ret (some (vI x1)) σ1))) ∧ (¬ (σ.1 7 4) ≤ v1 → ((0 ≤ v1 ∧ v1 < 16) ∧ (∀ τ1, τ1 = sI σ 16 (v1).toNat (σ.1 15 (v1).toNat) → R 27 [vR 2, vI v1, vI 0] [] τ1))))) : R 2 [vR 2, vI v1, vN] [] σ := by
  refine r_iload_n hM (pc' := 3) dX2_mostApart_2 rfl (x := v1) rfl ?_
  refine r_aload_n hM (pc' := 4) dX2_mostApart_3 rfl (x := 2) rfl ?_
  refine r_getR hM (pc' := 7) dX2_mostApart_4 rfl fl_X2_22 wx_2 rfl ?_
  refine r_getI hM (pc' := 10) dX2_mostApart_7 rfl fl_X2_26 wx_7 rfl ?_
  refine r_icmp_ge hM (pc' := 13) (tgt := 71) dX2_mostApart_10 rfl (by decide) (fun c => ?_) (fun c => ?_)
  · have h := h.1 c
    refine r_aload_n hM (pc' := 72) dX2_mostApart_71 rfl (x := 2) rfl ?_
    refine r_getR hM (pc' := 75) dX2_mostApart_72 rfl fl_X2_15 wx_2 rfl ?_
    refine r_iconst hM (pc' := 76) dX2_mostApart_75 rfl (by decide) ?_
    refine r_aload_n hM (pc' := 77) dX2_mostApart_76 rfl (x := 2) rfl ?_
    refine r_getR hM (pc' := 80) dX2_mostApart_77 rfl fl_X2_22 wx_2 rfl ?_
    refine r_getI hM (pc' := 83) dX2_mostApart_80 rfl fl_X2_26 wx_7 rfl ?_
    refine r_ishl hM (pc' := 84) dX2_mostApart_83 rfl ?_
    refine r_iconst hM (pc' := 85) dX2_mostApart_84 rfl (by decide) ?_
    have o1 := h.1
    have h := h.2
    refine r_isub hM (pc' := 86) dX2_mostApart_85 rfl o1 ?_
    refine r_iconst hM (pc' := 87) dX2_mostApart_86 rfl (by decide) ?_
    refine r_callSI hM (pc' := 90) [vR 16, vI ((bShl 1 (σ.1 7 4)) - 1), vI 0] dX2_mostApart_87 rfl ml_X2_58 rfl rfl (Nat.le_of_ble_eq_true rfl) (conI.mono h (fun x1 σ1 h => ?_))
    exact r_ireturn hM dX2_mostApart_90 rfl h
  · have h := h.2 c
    refine r_aload_n hM (pc' := 14) dX2_mostApart_13 rfl (x := 2) rfl ?_
    refine r_getR hM (pc' := 17) dX2_mostApart_14 rfl fl_X2_15 wx_2 rfl ?_
    refine r_iload_n hM (pc' := 18) dX2_mostApart_17 rfl (x := v1) rfl ?_
    refine r_aload_n hM (pc' := 19) dX2_mostApart_18 rfl (x := 2) rfl ?_
    refine r_getR hM (pc' := 22) dX2_mostApart_19 rfl fl_X2_9 wx_2 rfl ?_
    refine r_iload_n hM (pc' := 23) dX2_mostApart_22 rfl (x := v1) rfl ?_
    have o2 := h.1
    have h := h.2
    refine r_iaload hM (pc' := 24) dX2_mostApart_23 rfl wx_15 o2 ?_
    refine r_iastore hM (pc' := 25) dX2_mostApart_24 rfl wx_16 o2 (fun τ1 e1 => ?_)
    have h := h τ1 e1
    refine r_iconst hM (pc' := 26) dX2_mostApart_25 rfl (by decide) ?_
    refine r_istore_n hM (pc' := 27) dX2_mostApart_26 rfl (Nat.le_of_ble_eq_true rfl) rfl ?_
    show R 27 [vR 2, vI v1, vI 0] _ _
    exact h
set_option maxRecDepth 20000 in
theorem g_X2_mostApart_27 {G : GX} {d : Nat} {Ret : Option AV → St → Prop} {R : Nat → List AV → List AV → St → Prop} (hM : AM G wdX (d + 1) mX2_mostApart Ret R) (v1 : Int) (v2 : Int) (σ : St)
    (h : (((σ.1 7 4) ≤ v2 → (r32 (v1 + 1) ∧ R 2 [vR 2, vI (v1 + 1), vN] [] σ)) ∧ (¬ (σ.1 7 4) ≤ v2 → ((0 ≤ v1 ∧ v1 < 16) ∧ ((0 ≤ v2 ∧ v2 < 16) ∧ (∀ τ1, τ1 = sI σ 16 (v1).toNat (bOr (σ.1 16 (v1).toNat) (bShl (bAnd (bShr (σ.1 15 (v2).toNat) v1) 1) v2)) → (r32 (v2 + 1) ∧ R 27 [vR 2, vI v1, vI (v2 + 1)] [] τ1))))))) : R 27 [vR 2, vI v1, vI v2] [] σ := by
  refine r_iload_n hM (pc' := 28) dX2_mostApart_27 rfl (x := v2) rfl ?_
  refine r_aload_n hM (pc' := 29) dX2_mostApart_28 rfl (x := 2) rfl ?_
  refine r_getR hM (pc' := 32) dX2_mostApart_29 rfl fl_X2_22 wx_2 rfl ?_
  refine r_getI hM (pc' := 35) dX2_mostApart_32 rfl fl_X2_26 wx_7 rfl ?_
  refine r_icmp_ge hM (pc' := 38) (tgt := 65) dX2_mostApart_35 rfl (by decide) (fun c => ?_) (fun c => ?_)
  · have h := h.1 c
    have o1 := h.1
    have h := h.2
    refine r_iinc hM (pc' := 68) dX2_mostApart_65 rfl (x := v1) rfl rfl o1 ?_
    show R 68 [vR 2, vI (v1 + 1), vI v2] _ _
    refine r_goto hM (tgt := 2) dX2_mostApart_68 (by decide) ?_
    refine r_weak hM (ls' := [vR 2, vI (v1 + 1), vN]) ⟨Or.inl rfl, Or.inl rfl, Or.inr rfl, trivial⟩ ?_
    exact h
  · have h := h.2 c
    refine r_aload_n hM (pc' := 39) dX2_mostApart_38 rfl (x := 2) rfl ?_
    refine r_getR hM (pc' := 42) dX2_mostApart_39 rfl fl_X2_15 wx_2 rfl ?_
    refine r_iload_n hM (pc' := 43) dX2_mostApart_42 rfl (x := v1) rfl ?_
    refine r_dup2 hM (pc' := 44) dX2_mostApart_43 rfl (fun _ => rfl) (fun _ => rfl) ?_
    have o2 := h.1
    have h := h.2
    refine r_iaload hM (pc' := 45) dX2_mostApart_44 rfl wx_16 o2 ?_
    refine r_aload_n hM (pc' := 46) dX2_mostApart_45 rfl (x := 2) rfl ?_
    refine r_getR hM (pc' := 49) dX2_mostApart_46 rfl fl_X2_9 wx_2 rfl ?_
    refine r_iload_n hM (pc' := 50) dX2_mostApart_49 rfl (x := v2) rfl ?_
    have o3 := h.1
    have h := h.2
    refine r_iaload hM (pc' := 51) dX2_mostApart_50 rfl wx_15 o3 ?_
    refine r_iload_n hM (pc' := 52) dX2_mostApart_51 rfl (x := v1) rfl ?_
    refine r_ishr hM (pc' := 53) dX2_mostApart_52 rfl ?_
    refine r_iconst hM (pc' := 54) dX2_mostApart_53 rfl (by decide) ?_
    refine r_iand hM (pc' := 55) dX2_mostApart_54 rfl ?_
    refine r_iload_n hM (pc' := 56) dX2_mostApart_55 rfl (x := v2) rfl ?_
    refine r_ishl hM (pc' := 57) dX2_mostApart_56 rfl ?_
    refine r_ior hM (pc' := 58) dX2_mostApart_57 rfl ?_
    refine r_iastore hM (pc' := 59) dX2_mostApart_58 rfl wx_16 o2 (fun τ1 e1 => ?_)
    have h := h τ1 e1
    have o4 := h.1
    have h := h.2
    refine r_iinc hM (pc' := 62) dX2_mostApart_59 rfl (x := v2) rfl rfl o4 ?_
    show R 62 [vR 2, vI v1, vI (v2 + 1)] _ _
    refine r_goto hM (tgt := 27) dX2_mostApart_62 (by decide) ?_
    exact h
theorem dX2_mostOf_0 : decode cX2_mostOf 0 = .ok (.iconst (-1), 1) := by decide +kernel
theorem dX2_mostOf_1 : decode cX2_mostOf 1 = .ok (.istore_n 3, 1) := by decide +kernel
theorem dX2_mostOf_2 : decode cX2_mostOf 2 = .ok (.iconst 0, 1) := by decide +kernel
theorem dX2_mostOf_3 : decode cX2_mostOf 3 = .ok (.istore 4, 2) := by decide +kernel
theorem dX2_mostOf_5 : decode cX2_mostOf 5 = .ok (.iconst 0, 1) := by decide +kernel
theorem dX2_mostOf_6 : decode cX2_mostOf 6 = .ok (.istore 5, 2) := by decide +kernel
theorem dX2_mostOf_8 : decode cX2_mostOf 8 = .ok (.iconst 0, 1) := by decide +kernel
theorem dX2_mostOf_9 : decode cX2_mostOf 9 = .ok (.istore 6, 2) := by decide +kernel
theorem dX2_mostOf_11 : decode cX2_mostOf 11 = .ok (.iload 6, 2) := by decide +kernel
theorem dX2_mostOf_13 : decode cX2_mostOf 13 = .ok (.bipush 16, 2) := by decide +kernel
theorem dX2_mostOf_15 : decode cX2_mostOf 15 = .ok (.if_icmp .ge 56, 3) := by decide +kernel
theorem dX2_mostOf_18 : decode cX2_mostOf 18 = .ok (.iload_n 1, 1) := by decide +kernel
theorem dX2_mostOf_19 : decode cX2_mostOf 19 = .ok (.iload 6, 2) := by decide +kernel
theorem dX2_mostOf_21 : decode cX2_mostOf 21 = .ok (.ishr, 1) := by decide +kernel
theorem dX2_mostOf_22 : decode cX2_mostOf 22 = .ok (.iconst 1, 1) := by decide +kernel
theorem dX2_mostOf_23 : decode cX2_mostOf 23 = .ok (.iand, 1) := by decide +kernel
theorem dX2_mostOf_24 : decode cX2_mostOf 24 = .ok (.iconst 1, 1) := by decide +kernel
theorem dX2_mostOf_25 : decode cX2_mostOf 25 = .ok (.if_icmp .ne 15, 3) := by decide +kernel
theorem dX2_mostOf_28 : decode cX2_mostOf 28 = .ok (.aload_n 0, 1) := by decide +kernel
theorem dX2_mostOf_29 : decode cX2_mostOf 29 = .ok (.iload 6, 2) := by decide +kernel
theorem dX2_mostOf_31 : decode cX2_mostOf 31 = .ok (.iaload, 1) := by decide +kernel
theorem dX2_mostOf_32 : decode cX2_mostOf 32 = .ok (.iload_n 1, 1) := by decide +kernel
theorem dX2_mostOf_33 : decode cX2_mostOf 33 = .ok (.iand, 1) := by decide +kernel
theorem dX2_mostOf_34 : decode cX2_mostOf 34 = .ok (.invokestatic 62, 3) := by decide +kernel
theorem dX2_mostOf_37 : decode cX2_mostOf 37 = .ok (.goto 4, 3) := by decide +kernel
theorem dX2_mostOf_40 : decode cX2_mostOf 40 = .ok (.iconst 0, 1) := by decide +kernel
theorem dX2_mostOf_41 : decode cX2_mostOf 41 = .ok (.istore 7, 2) := by decide +kernel
theorem dX2_mostOf_43 : decode cX2_mostOf 43 = .ok (.iload 7, 2) := by decide +kernel
theorem dX2_mostOf_45 : decode cX2_mostOf 45 = .ok (.ifCond .le 6, 3) := by decide +kernel
theorem dX2_mostOf_48 : decode cX2_mostOf 48 = .ok (.iinc 5 1, 3) := by decide +kernel
theorem dX2_mostOf_51 : decode cX2_mostOf 51 = .ok (.iload 7, 2) := by decide +kernel
theorem dX2_mostOf_53 : decode cX2_mostOf 53 = .ok (.iload 4, 2) := by decide +kernel
theorem dX2_mostOf_55 : decode cX2_mostOf 55 = .ok (.if_icmp .le 10, 3) := by decide +kernel
theorem dX2_mostOf_58 : decode cX2_mostOf 58 = .ok (.iload 7, 2) := by decide +kernel
theorem dX2_mostOf_60 : decode cX2_mostOf 60 = .ok (.istore 4, 2) := by decide +kernel
theorem dX2_mostOf_62 : decode cX2_mostOf 62 = .ok (.iload 6, 2) := by decide +kernel
theorem dX2_mostOf_64 : decode cX2_mostOf 64 = .ok (.istore_n 3, 1) := by decide +kernel
theorem dX2_mostOf_65 : decode cX2_mostOf 65 = .ok (.iinc 6 1, 3) := by decide +kernel
theorem dX2_mostOf_68 : decode cX2_mostOf 68 = .ok (.goto (-57), 3) := by decide +kernel
theorem dX2_mostOf_71 : decode cX2_mostOf 71 = .ok (.iload 4, 2) := by decide +kernel
theorem dX2_mostOf_73 : decode cX2_mostOf 73 = .ok (.iconst 1, 1) := by decide +kernel
theorem dX2_mostOf_74 : decode cX2_mostOf 74 = .ok (.if_icmp .le 9, 3) := by decide +kernel
theorem dX2_mostOf_77 : decode cX2_mostOf 77 = .ok (.iload_n 2, 1) := by decide +kernel
theorem dX2_mostOf_78 : decode cX2_mostOf 78 = .ok (.bipush 16, 2) := by decide +kernel
theorem dX2_mostOf_80 : decode cX2_mostOf 80 = .ok (.if_icmp .lt 13, 3) := by decide +kernel
theorem dX2_mostOf_83 : decode cX2_mostOf 83 = .ok (.iload_n 1, 1) := by decide +kernel
theorem dX2_mostOf_84 : decode cX2_mostOf 84 = .ok (.invokestatic 62, 3) := by decide +kernel
theorem dX2_mostOf_87 : decode cX2_mostOf 87 = .ok (.iload 5, 2) := by decide +kernel
theorem dX2_mostOf_89 : decode cX2_mostOf 89 = .ok (.iconst 2, 1) := by decide +kernel
theorem dX2_mostOf_90 : decode cX2_mostOf 90 = .ok (.idiv, 1) := by decide +kernel
theorem dX2_mostOf_91 : decode cX2_mostOf 91 = .ok (.isub, 1) := by decide +kernel
theorem dX2_mostOf_92 : decode cX2_mostOf 92 = .ok (.ireturn, 1) := by decide +kernel
theorem dX2_mostOf_93 : decode cX2_mostOf 93 = .ok (.iload_n 1, 1) := by decide +kernel
theorem dX2_mostOf_94 : decode cX2_mostOf 94 = .ok (.iconst 1, 1) := by decide +kernel
theorem dX2_mostOf_95 : decode cX2_mostOf 95 = .ok (.iload_n 3, 1) := by decide +kernel
theorem dX2_mostOf_96 : decode cX2_mostOf 96 = .ok (.ishl, 1) := by decide +kernel
theorem dX2_mostOf_97 : decode cX2_mostOf 97 = .ok (.iconst (-1), 1) := by decide +kernel
theorem dX2_mostOf_98 : decode cX2_mostOf 98 = .ok (.ixor, 1) := by decide +kernel
theorem dX2_mostOf_99 : decode cX2_mostOf 99 = .ok (.iand, 1) := by decide +kernel
theorem dX2_mostOf_100 : decode cX2_mostOf 100 = .ok (.istore 6, 2) := by decide +kernel
theorem dX2_mostOf_102 : decode cX2_mostOf 102 = .ok (.aload_n 0, 1) := by decide +kernel
theorem dX2_mostOf_103 : decode cX2_mostOf 103 = .ok (.iload 6, 2) := by decide +kernel
theorem dX2_mostOf_105 : decode cX2_mostOf 105 = .ok (.iload_n 2, 1) := by decide +kernel
theorem dX2_mostOf_106 : decode cX2_mostOf 106 = .ok (.iconst 1, 1) := by decide +kernel
theorem dX2_mostOf_107 : decode cX2_mostOf 107 = .ok (.iadd, 1) := by decide +kernel
theorem dX2_mostOf_108 : decode cX2_mostOf 108 = .ok (.invokestatic 58, 3) := by decide +kernel
theorem dX2_mostOf_111 : decode cX2_mostOf 111 = .ok (.istore 7, 2) := by decide +kernel
theorem dX2_mostOf_113 : decode cX2_mostOf 113 = .ok (.iconst 1, 1) := by decide +kernel
theorem dX2_mostOf_114 : decode cX2_mostOf 114 = .ok (.aload_n 0, 1) := by decide +kernel
theorem dX2_mostOf_115 : decode cX2_mostOf 115 = .ok (.iload 6, 2) := by decide +kernel
theorem dX2_mostOf_117 : decode cX2_mostOf 117 = .ok (.aload_n 0, 1) := by decide +kernel
theorem dX2_mostOf_118 : decode cX2_mostOf 118 = .ok (.iload_n 3, 1) := by decide +kernel
theorem dX2_mostOf_119 : decode cX2_mostOf 119 = .ok (.iaload, 1) := by decide +kernel
theorem dX2_mostOf_120 : decode cX2_mostOf 120 = .ok (.iconst (-1), 1) := by decide +kernel
theorem dX2_mostOf_121 : decode cX2_mostOf 121 = .ok (.ixor, 1) := by decide +kernel
theorem dX2_mostOf_122 : decode cX2_mostOf 122 = .ok (.iand, 1) := by decide +kernel
theorem dX2_mostOf_123 : decode cX2_mostOf 123 = .ok (.iload_n 2, 1) := by decide +kernel
theorem dX2_mostOf_124 : decode cX2_mostOf 124 = .ok (.iconst 1, 1) := by decide +kernel
theorem dX2_mostOf_125 : decode cX2_mostOf 125 = .ok (.iadd, 1) := by decide +kernel
theorem dX2_mostOf_126 : decode cX2_mostOf 126 = .ok (.invokestatic 58, 3) := by decide +kernel
theorem dX2_mostOf_129 : decode cX2_mostOf 129 = .ok (.iadd, 1) := by decide +kernel
theorem dX2_mostOf_130 : decode cX2_mostOf 130 = .ok (.istore 8, 2) := by decide +kernel
theorem dX2_mostOf_132 : decode cX2_mostOf 132 = .ok (.iload 8, 2) := by decide +kernel
theorem dX2_mostOf_134 : decode cX2_mostOf 134 = .ok (.iload 7, 2) := by decide +kernel
theorem dX2_mostOf_136 : decode cX2_mostOf 136 = .ok (.invokestatic 68, 3) := by decide +kernel
theorem dX2_mostOf_139 : decode cX2_mostOf 139 = .ok (.ireturn, 1) := by decide +kernel
set_option maxRecDepth 20000 in
theorem g_X2_mostOf_0 {G : GX} {d : Nat} {Ret : Option AV → St → Prop} {R : Nat → List AV → List AV → St → Prop} (hM : AM G wdX (d + 1) mX2_mostOf Ret R) (v1 : Int) (v2 : Int) (σ : St)
    (h : R 11 [vR 16, vI v1, vI v2, vI (-1), vI 0, vI 0, vI 0, vN, vN] [] σ) : R 0 [vR 16, vI v1, vI v2, vN, vN, vN, vN, vN, vN] [] σ := by
  refine r_iconst hM (pc' := 1) dX2_mostOf_0 rfl (by decide) ?_
  refine r_istore_n hM (pc' := 2) dX2_mostOf_1 rfl (Nat.le_of_ble_eq_true rfl) rfl ?_
  show R 2 [vR 16, vI v1, vI v2, vI (-1), vN, vN, vN, vN, vN] _ _
  refine r_iconst hM (pc' := 3) dX2_mostOf_2 rfl (by decide) ?_
  refine r_istore hM (pc' := 5) dX2_mostOf_3 rfl (Nat.le_of_ble_eq_true rfl) rfl ?_
  show R 5 [vR 16, vI v1, vI v2, vI (-1), vI 0, vN, vN, vN, vN] _ _
  refine r_iconst hM (pc' := 6) dX2_mostOf_5 rfl (by decide) ?_
  refine r_istore hM (pc' := 8) dX2_mostOf_6 rfl (Nat.le_of_ble_eq_true rfl) rfl ?_
  show R 8 [vR 16, vI v1, vI v2, vI (-1), vI 0, vI 0, vN, vN, vN] _ _
  refine r_iconst hM (pc' := 9) dX2_mostOf_8 rfl (by decide) ?_
  refine r_istore hM (pc' := 11) dX2_mostOf_9 rfl (Nat.le_of_ble_eq_true rfl) rfl ?_
  show R 11 [vR 16, vI v1, vI v2, vI (-1), vI 0, vI 0, vI 0, vN, vN] _ _
  exact h
set_option maxRecDepth 20000 in
theorem g_X2_mostOf_11 {G : GX} {d : Nat} {Ret : Option AV → St → Prop} {R : Nat → List AV → List AV → St → Prop} (hM : AM G wdX (d + 1) mX2_mostOf Ret R) (v1 : Int) (v2 : Int) (v3 : Int) (v4 : Int) (v5 : Int) (v6 : Int) (σ : St)
    (h : ((16 ≤ v6 → ((v4 ≤ 1 → conI G wdX d mJ6_bitCount_0f7a4 [vI v1] σ (fun x1 σ1 => (r32 (x1 - (bDiv v5 2)) ∧ Ret (some (vI (x1 - (bDiv v5 2)))) σ1))) ∧ (¬ v4 ≤ 1 → ((v2 < 16 → (∀ u1, u1 = (bAnd v1 (bXor (bShl 1 v3) (-1))) → (r32 (v2 + 1) ∧ conI G wdX d mX2_mostOf [vR 16, vI u1, vI (v2 + 1)] σ (fun x2 σ2 => ((0 ≤ v3 ∧ v3 < 16) ∧ conI G wdX d mX2_mostOf [vR 16, vI (bAnd u1 (bXor (σ2.1 16 (v3).toNat) (-1))), vI (v2 + 1)] σ2 (fun x3 σ3 => (r32 (1 + x3) ∧ Ret (some (vI (if (1 + x3) < x2 then x2 else (1 + x3)))) σ3))))))) ∧ (¬ v2 < 16 → conI G wdX d mJ6_bitCount_0f7a4 [vI v1] σ (fun x4 σ4 => (r32 (x4 - (bDiv v5 2)) ∧ Ret (some (vI (x4 - (bDiv v5 2)))) σ4))))))) ∧ (¬ 16 ≤ v6 → ((¬ (bAnd (bShr v1 v6) 1) = 1 → R 41 [vR 16, vI v1, vI v2, vI v3, vI v4, vI v5, vI v6, vN, vN] [vI 0] σ) ∧ ((bAnd (bShr v1 v6) 1) = 1 → ((0 ≤ v6 ∧ v6 < 16) ∧ conI G wdX d mJ6_bitCount_0f7a4 [vI (bAnd (σ.1 16 (v6).toNat) v1)] σ (fun x5 σ5 => R 41 [vR 16, vI v1, vI v2, vI v3, vI v4, vI v5, vI v6, vN, vN] [vI x5] σ5))))))) : R 11 [vR 16, vI v1, vI v2, vI v3, vI v4, vI v5, vI v6, vN, vN] [] σ := by
  refine r_iload hM (pc' := 13) dX2_mostOf_11 rfl (x := v6) rfl ?_
  refine r_bipush hM (pc' := 15) dX2_mostOf_13 rfl (by decide) (by decide) ?_
  refine r_icmp_ge hM (pc' := 18) (tgt := 71) dX2_mostOf_15 rfl (by decide) (fun c => ?_) (fun c => ?_)
  · have h := h.1 c
    refine r_iload hM (pc' := 73) dX2_mostOf_71 rfl (x := v4) rfl ?_
    refine r_iconst hM (pc' := 74) dX2_mostOf_73 rfl (by decide) ?_
    refine r_icmp_le hM (pc' := 77) (tgt := 83) dX2_mostOf_74 rfl (by decide) (fun c => ?_) (fun c => ?_)
    · have h := h.1 c
      refine r_iload_n hM (pc' := 84) dX2_mostOf_83 rfl (x := v1) rfl ?_
      refine r_callSI hM (pc' := 87) [vI v1] dX2_mostOf_84 rfl ml_X2_62 rfl rfl (Nat.le_of_ble_eq_true rfl) (conI.mono h (fun x1 σ1 h => ?_))
      refine r_iload hM (pc' := 89) dX2_mostOf_87 rfl (x := v5) rfl ?_
      refine r_iconst hM (pc' := 90) dX2_mostOf_89 rfl (by decide) ?_
      refine r_idiv hM (pc' := 91) dX2_mostOf_90 rfl (by decide) ?_
      have o1 := h.1
      have h := h.2
      refine r_isub hM (pc' := 92) dX2_mostOf_91 rfl o1 ?_
      exact r_ireturn hM dX2_mostOf_92 rfl h
    · have h := h.2 c
      refine r_iload_n hM (pc' := 78) dX2_mostOf_77 rfl (x := v2) rfl ?_
      refine r_bipush hM (pc' := 80) dX2_mostOf_78 rfl (by decide) (by decide) ?_
      refine r_icmp_lt hM (pc' := 83) (tgt := 93) dX2_mostOf_80 rfl (by decide) (fun c => ?_) (fun c => ?_)
      · have h := h.1 c
        refine r_iload_n hM (pc' := 94) dX2_mostOf_93 rfl (x := v1) rfl ?_
        refine r_iconst hM (pc' := 95) dX2_mostOf_94 rfl (by decide) ?_
        refine r_iload_n hM (pc' := 96) dX2_mostOf_95 rfl (x := v3) rfl ?_
        refine r_ishl hM (pc' := 97) dX2_mostOf_96 rfl ?_
        refine r_iconst hM (pc' := 98) dX2_mostOf_97 rfl (by decide) ?_
        refine r_ixor hM (pc' := 99) dX2_mostOf_98 rfl ?_
        refine r_iand hM (pc' := 100) dX2_mostOf_99 rfl ?_
        refine r_istoreN hM (pc' := 102) dX2_mostOf_100 rfl (Nat.le_of_ble_eq_true rfl) rfl (fun u1 eu1 => ?_)
        have h := h u1 eu1
        show R 102 [vR 16, vI v1, vI v2, vI v3, vI v4, vI v5, vI u1, vN, vN] _ _
        refine r_aload_n hM (pc' := 103) dX2_mostOf_102 rfl (x := 16) rfl ?_
        refine r_iload hM (pc' := 105) dX2_mostOf_103 rfl (x := u1) rfl ?_
        refine r_iload_n hM (pc' := 106) dX2_mostOf_105 rfl (x := v2) rfl ?_
        refine r_iconst hM (pc' := 107) dX2_mostOf_106 rfl (by decide) ?_
        have o2 := h.1
        have h := h.2
        refine r_iadd hM (pc' := 108) dX2_mostOf_107 rfl o2 ?_
        refine r_callSI hM (pc' := 111) [vR 16, vI u1, vI (v2 + 1)] dX2_mostOf_108 rfl ml_X2_58 rfl rfl (Nat.le_of_ble_eq_true rfl) (conI.mono h (fun x2 σ2 h => ?_))
        refine r_istore hM (pc' := 113) dX2_mostOf_111 rfl (Nat.le_of_ble_eq_true rfl) rfl ?_
        show R 113 [vR 16, vI v1, vI v2, vI v3, vI v4, vI v5, vI u1, vI x2, vN] _ _
        refine r_iconst hM (pc' := 114) dX2_mostOf_113 rfl (by decide) ?_
        refine r_aload_n hM (pc' := 115) dX2_mostOf_114 rfl (x := 16) rfl ?_
        refine r_iload hM (pc' := 117) dX2_mostOf_115 rfl (x := u1) rfl ?_
        refine r_aload_n hM (pc' := 118) dX2_mostOf_117 rfl (x := 16) rfl ?_
        refine r_iload_n hM (pc' := 119) dX2_mostOf_118 rfl (x := v3) rfl ?_
        have o3 := h.1
        have h := h.2
        refine r_iaload hM (pc' := 120) dX2_mostOf_119 rfl wx_16 o3 ?_
        refine r_iconst hM (pc' := 121) dX2_mostOf_120 rfl (by decide) ?_
        refine r_ixor hM (pc' := 122) dX2_mostOf_121 rfl ?_
        refine r_iand hM (pc' := 123) dX2_mostOf_122 rfl ?_
        refine r_iload_n hM (pc' := 124) dX2_mostOf_123 rfl (x := v2) rfl ?_
        refine r_iconst hM (pc' := 125) dX2_mostOf_124 rfl (by decide) ?_
        refine r_iadd hM (pc' := 126) dX2_mostOf_125 rfl o2 ?_
        refine r_callSI hM (pc' := 129) [vR 16, vI (bAnd u1 (bXor (σ2.1 16 (v3).toNat) (-1))), vI (v2 + 1)] dX2_mostOf_126 rfl ml_X2_58 rfl rfl (Nat.le_of_ble_eq_true rfl) (conI.mono h (fun x3 σ3 h => ?_))
        have o4 := h.1
        have h := h.2
        refine r_iadd hM (pc' := 130) dX2_mostOf_129 rfl o4 ?_
        refine r_istore hM (pc' := 132) dX2_mostOf_130 rfl (Nat.le_of_ble_eq_true rfl) rfl ?_
        show R 132 [vR 16, vI v1, vI v2, vI v3, vI v4, vI v5, vI u1, vI x2, vI (1 + x3)] _ _
        refine r_iload hM (pc' := 134) dX2_mostOf_132 rfl (x := (1 + x3)) rfl ?_
        refine r_iload hM (pc' := 136) dX2_mostOf_134 rfl (x := x2) rfl ?_
        refine r_max hM (pc' := 139) dX2_mostOf_136 rfl ml_X2_68 (Nat.le_of_ble_eq_true rfl) ?_
        exact r_ireturn hM dX2_mostOf_139 rfl h
      · have h := h.2 c
        refine r_iload_n hM (pc' := 84) dX2_mostOf_83 rfl (x := v1) rfl ?_
        refine r_callSI hM (pc' := 87) [vI v1] dX2_mostOf_84 rfl ml_X2_62 rfl rfl (Nat.le_of_ble_eq_true rfl) (conI.mono h (fun x4 σ4 h => ?_))
        refine r_iload hM (pc' := 89) dX2_mostOf_87 rfl (x := v5) rfl ?_
        refine r_iconst hM (pc' := 90) dX2_mostOf_89 rfl (by decide) ?_
        refine r_idiv hM (pc' := 91) dX2_mostOf_90 rfl (by decide) ?_
        have o5 := h.1
        have h := h.2
        refine r_isub hM (pc' := 92) dX2_mostOf_91 rfl o5 ?_
        exact r_ireturn hM dX2_mostOf_92 rfl h
  · have h := h.2 c
    refine r_iload_n hM (pc' := 19) dX2_mostOf_18 rfl (x := v1) rfl ?_
    refine r_iload hM (pc' := 21) dX2_mostOf_19 rfl (x := v6) rfl ?_
    refine r_ishr hM (pc' := 22) dX2_mostOf_21 rfl ?_
    refine r_iconst hM (pc' := 23) dX2_mostOf_22 rfl (by decide) ?_
    refine r_iand hM (pc' := 24) dX2_mostOf_23 rfl ?_
    refine r_iconst hM (pc' := 25) dX2_mostOf_24 rfl (by decide) ?_
    refine r_icmp_ne hM (pc' := 28) (tgt := 40) dX2_mostOf_25 rfl (by decide) (fun c => ?_) (fun c => ?_)
    · have h := h.1 c
      refine r_iconst hM (pc' := 41) dX2_mostOf_40 rfl (by decide) ?_
      exact h
    · have h := h.2 c
      refine r_aload_n hM (pc' := 29) dX2_mostOf_28 rfl (x := 16) rfl ?_
      refine r_iload hM (pc' := 31) dX2_mostOf_29 rfl (x := v6) rfl ?_
      have o6 := h.1
      have h := h.2
      refine r_iaload hM (pc' := 32) dX2_mostOf_31 rfl wx_16 o6 ?_
      refine r_iload_n hM (pc' := 33) dX2_mostOf_32 rfl (x := v1) rfl ?_
      refine r_iand hM (pc' := 34) dX2_mostOf_33 rfl ?_
      refine r_callSI hM (pc' := 37) [vI (bAnd (σ.1 16 (v6).toNat) v1)] dX2_mostOf_34 rfl ml_X2_62 rfl rfl (Nat.le_of_ble_eq_true rfl) (conI.mono h (fun x5 σ5 h => ?_))
      refine r_goto hM (tgt := 41) dX2_mostOf_37 (by decide) ?_
      exact h
set_option maxRecDepth 20000 in
theorem g_X2_mostOf_41 {G : GX} {d : Nat} {Ret : Option AV → St → Prop} {R : Nat → List AV → List AV → St → Prop} (hM : AM G wdX (d + 1) mX2_mostOf Ret R) (v1 : Int) (v2 : Int) (v3 : Int) (v4 : Int) (v5 : Int) (v6 : Int) (w0 : Int) (σ : St)
    (h : ((w0 ≤ 0 → ((w0 ≤ v4 → (r32 (v6 + 1) ∧ R 11 [vR 16, vI v1, vI v2, vI v3, vI v4, vI v5, vI (v6 + 1), vN, vN] [] σ)) ∧ (¬ w0 ≤ v4 → (r32 (v6 + 1) ∧ R 11 [vR 16, vI v1, vI v2, vI v6, vI w0, vI v5, vI (v6 + 1), vN, vN] [] σ)))) ∧ (¬ w0 ≤ 0 → (r32 (v5 + 1) ∧ ((w0 ≤ v4 → (r32 (v6 + 1) ∧ R 11 [vR 16, vI v1, vI v2, vI v3, vI v4, vI (v5 + 1), vI (v6 + 1), vN, vN] [] σ)) ∧ (¬ w0 ≤ v4 → (r32 (v6 + 1) ∧ R 11 [vR 16, vI v1, vI v2, vI v6, vI w0, vI (v5 + 1), vI (v6 + 1), vN, vN] [] σ))))))) : R 41 [vR 16, vI v1, vI v2, vI v3, vI v4, vI v5, vI v6, vN, vN] [vI w0] σ := by
  refine r_istore hM (pc' := 43) dX2_mostOf_41 rfl (Nat.le_of_ble_eq_true rfl) rfl ?_
  show R 43 [vR 16, vI v1, vI v2, vI v3, vI v4, vI v5, vI v6, vI w0, vN] _ _
  refine r_iload hM (pc' := 45) dX2_mostOf_43 rfl (x := w0) rfl ?_
  refine r_if_le hM (pc' := 48) (tgt := 51) dX2_mostOf_45 rfl (by decide) (fun c => ?_) (fun c => ?_)
  · have h := h.1 c
    refine r_iload hM (pc' := 53) dX2_mostOf_51 rfl (x := w0) rfl ?_
    refine r_iload hM (pc' := 55) dX2_mostOf_53 rfl (x := v4) rfl ?_
    refine r_icmp_le hM (pc' := 58) (tgt := 65) dX2_mostOf_55 rfl (by decide) (fun c => ?_) (fun c => ?_)
    · have h := h.1 c
      have o1 := h.1
      have h := h.2
      refine r_iinc hM (pc' := 68) dX2_mostOf_65 rfl (x := v6) rfl rfl o1 ?_
      show R 68 [vR 16, vI v1, vI v2, vI v3, vI v4, vI v5, vI (v6 + 1), vI w0, vN] _ _
      refine r_goto hM (tgt := 11) dX2_mostOf_68 (by decide) ?_
      refine r_weak hM (ls' := [vR 16, vI v1, vI v2, vI v3, vI v4, vI v5, vI (v6 + 1), vN, vN]) ⟨Or.inl rfl, Or.inl rfl, Or.inl rfl, Or.inl rfl, Or.inl rfl, Or.inl rfl, Or.inl rfl, Or.inr rfl, Or.inl rfl, trivial⟩ ?_
      exact h
    · have h := h.2 c
      refine r_iload hM (pc' := 60) dX2_mostOf_58 rfl (x := w0) rfl ?_
      refine r_istore hM (pc' := 62) dX2_mostOf_60 rfl (Nat.le_of_ble_eq_true rfl) rfl ?_
      show R 62 [vR 16, vI v1, vI v2, vI v3, vI w0, vI v5, vI v6, vI w0, vN] _ _
      refine r_iload hM (pc' := 64) dX2_mostOf_62 rfl (x := v6) rfl ?_
      refine r_istore_n hM (pc' := 65) dX2_mostOf_64 rfl (Nat.le_of_ble_eq_true rfl) rfl ?_
      show R 65 [vR 16, vI v1, vI v2, vI v6, vI w0, vI v5, vI v6, vI w0, vN] _ _
      have o2 := h.1
      have h := h.2
      refine r_iinc hM (pc' := 68) dX2_mostOf_65 rfl (x := v6) rfl rfl o2 ?_
      show R 68 [vR 16, vI v1, vI v2, vI v6, vI w0, vI v5, vI (v6 + 1), vI w0, vN] _ _
      refine r_goto hM (tgt := 11) dX2_mostOf_68 (by decide) ?_
      refine r_weak hM (ls' := [vR 16, vI v1, vI v2, vI v6, vI w0, vI v5, vI (v6 + 1), vN, vN]) ⟨Or.inl rfl, Or.inl rfl, Or.inl rfl, Or.inl rfl, Or.inl rfl, Or.inl rfl, Or.inl rfl, Or.inr rfl, Or.inl rfl, trivial⟩ ?_
      exact h
  · have h := h.2 c
    have o3 := h.1
    have h := h.2
    refine r_iinc hM (pc' := 51) dX2_mostOf_48 rfl (x := v5) rfl rfl o3 ?_
    show R 51 [vR 16, vI v1, vI v2, vI v3, vI v4, vI (v5 + 1), vI v6, vI w0, vN] _ _
    refine r_iload hM (pc' := 53) dX2_mostOf_51 rfl (x := w0) rfl ?_
    refine r_iload hM (pc' := 55) dX2_mostOf_53 rfl (x := v4) rfl ?_
    refine r_icmp_le hM (pc' := 58) (tgt := 65) dX2_mostOf_55 rfl (by decide) (fun c => ?_) (fun c => ?_)
    · have h := h.1 c
      have o4 := h.1
      have h := h.2
      refine r_iinc hM (pc' := 68) dX2_mostOf_65 rfl (x := v6) rfl rfl o4 ?_
      show R 68 [vR 16, vI v1, vI v2, vI v3, vI v4, vI (v5 + 1), vI (v6 + 1), vI w0, vN] _ _
      refine r_goto hM (tgt := 11) dX2_mostOf_68 (by decide) ?_
      refine r_weak hM (ls' := [vR 16, vI v1, vI v2, vI v3, vI v4, vI (v5 + 1), vI (v6 + 1), vN, vN]) ⟨Or.inl rfl, Or.inl rfl, Or.inl rfl, Or.inl rfl, Or.inl rfl, Or.inl rfl, Or.inl rfl, Or.inr rfl, Or.inl rfl, trivial⟩ ?_
      exact h
    · have h := h.2 c
      refine r_iload hM (pc' := 60) dX2_mostOf_58 rfl (x := w0) rfl ?_
      refine r_istore hM (pc' := 62) dX2_mostOf_60 rfl (Nat.le_of_ble_eq_true rfl) rfl ?_
      show R 62 [vR 16, vI v1, vI v2, vI v3, vI w0, vI (v5 + 1), vI v6, vI w0, vN] _ _
      refine r_iload hM (pc' := 64) dX2_mostOf_62 rfl (x := v6) rfl ?_
      refine r_istore_n hM (pc' := 65) dX2_mostOf_64 rfl (Nat.le_of_ble_eq_true rfl) rfl ?_
      show R 65 [vR 16, vI v1, vI v2, vI v6, vI w0, vI (v5 + 1), vI v6, vI w0, vN] _ _
      have o5 := h.1
      have h := h.2
      refine r_iinc hM (pc' := 68) dX2_mostOf_65 rfl (x := v6) rfl rfl o5 ?_
      show R 68 [vR 16, vI v1, vI v2, vI v6, vI w0, vI (v5 + 1), vI (v6 + 1), vI w0, vN] _ _
      refine r_goto hM (tgt := 11) dX2_mostOf_68 (by decide) ?_
      refine r_weak hM (ls' := [vR 16, vI v1, vI v2, vI v6, vI w0, vI (v5 + 1), vI (v6 + 1), vN, vN]) ⟨Or.inl rfl, Or.inl rfl, Or.inl rfl, Or.inl rfl, Or.inl rfl, Or.inl rfl, Or.inl rfl, Or.inr rfl, Or.inl rfl, trivial⟩ ?_
      exact h
theorem dX6_cut_0 : decode cX6_cut 0 = .ok (.aload_n 0, 1) := by decide +kernel
theorem dX6_cut_1 : decode cX6_cut 1 = .ok (.iconst 0, 1) := by decide +kernel
theorem dX6_cut_2 : decode cX6_cut 2 = .ok (.putfield 27, 3) := by decide +kernel
theorem dX6_cut_5 : decode cX6_cut 5 = .ok (.iconst 0, 1) := by decide +kernel
theorem dX6_cut_6 : decode cX6_cut 6 = .ok (.istore_n 1, 1) := by decide +kernel
theorem dX6_cut_7 : decode cX6_cut 7 = .ok (.iload_n 1, 1) := by decide +kernel
theorem dX6_cut_8 : decode cX6_cut 8 = .ok (.aload_n 0, 1) := by decide +kernel
theorem dX6_cut_9 : decode cX6_cut 9 = .ok (.getfield 39, 3) := by decide +kernel
theorem dX6_cut_12 : decode cX6_cut 12 = .ok (.getfield 43, 3) := by decide +kernel
theorem dX6_cut_15 : decode cX6_cut 15 = .ok (.if_icmp .ge 112, 3) := by decide +kernel
theorem dX6_cut_18 : decode cX6_cut 18 = .ok (.iconst 1, 1) := by decide +kernel
theorem dX6_cut_19 : decode cX6_cut 19 = .ok (.istore_n 2, 1) := by decide +kernel
theorem dX6_cut_20 : decode cX6_cut 20 = .ok (.iconst 0, 1) := by decide +kernel
theorem dX6_cut_21 : decode cX6_cut 21 = .ok (.istore_n 3, 1) := by decide +kernel
theorem dX6_cut_22 : decode cX6_cut 22 = .ok (.iload_n 3, 1) := by decide +kernel
theorem dX6_cut_23 : decode cX6_cut 23 = .ok (.aload_n 0, 1) := by decide +kernel
theorem dX6_cut_24 : decode cX6_cut 24 = .ok (.getfield 39, 3) := by decide +kernel
theorem dX6_cut_27 : decode cX6_cut 27 = .ok (.iload_n 1, 1) := by decide +kernel
theorem dX6_cut_28 : decode cX6_cut 28 = .ok (.invokevirtual 46, 3) := by decide +kernel
theorem dX6_cut_31 : decode cX6_cut 31 = .ok (.if_icmp .ge 90, 3) := by decide +kernel
theorem dX6_cut_34 : decode cX6_cut 34 = .ok (.aload_n 0, 1) := by decide +kernel
theorem dX6_cut_35 : decode cX6_cut 35 = .ok (.getfield 39, 3) := by decide +kernel
theorem dX6_cut_38 : decode cX6_cut 38 = .ok (.iload_n 1, 1) := by decide +kernel
theorem dX6_cut_39 : decode cX6_cut 39 = .ok (.iload_n 3, 1) := by decide +kernel
theorem dX6_cut_40 : decode cX6_cut 40 = .ok (.invokevirtual 50, 3) := by decide +kernel
theorem dX6_cut_43 : decode cX6_cut 43 = .ok (.istore 4, 2) := by decide +kernel
theorem dX6_cut_45 : decode cX6_cut 45 = .ok (.iload_n 2, 1) := by decide +kernel
theorem dX6_cut_46 : decode cX6_cut 46 = .ok (.ifCond .eq 10, 3) := by decide +kernel
theorem dX6_cut_49 : decode cX6_cut 49 = .ok (.aload_n 0, 1) := by decide +kernel
theorem dX6_cut_50 : decode cX6_cut 50 = .ok (.iload_n 1, 1) := by decide +kernel
theorem dX6_cut_51 : decode cX6_cut 51 = .ok (.iload 4, 2) := by decide +kernel
theorem dX6_cut_53 : decode cX6_cut 53 = .ok (.invokevirtual 54, 3) := by decide +kernel
theorem dX6_cut_56 : decode cX6_cut 56 = .ok (.aload_n 0, 1) := by decide +kernel
theorem dX6_cut_57 : decode cX6_cut 57 = .ok (.getfield 18, 3) := by decide +kernel
theorem dX6_cut_60 : decode cX6_cut 60 = .ok (.aload_n 0, 1) := by decide +kernel
theorem dX6_cut_61 : decode cX6_cut 61 = .ok (.getfield 27, 3) := by decide +kernel
theorem dX6_cut_64 : decode cX6_cut 64 = .ok (.iconst 1, 1) := by decide +kernel
theorem dX6_cut_65 : decode cX6_cut 65 = .ok (.isub, 1) := by decide +kernel
theorem dX6_cut_66 : decode cX6_cut 66 = .ok (.iload 4, 2) := by decide +kernel
theorem dX6_cut_68 : decode cX6_cut 68 = .ok (.iastore, 1) := by decide +kernel
theorem dX6_cut_69 : decode cX6_cut 69 = .ok (.aload_n 0, 1) := by decide +kernel
theorem dX6_cut_70 : decode cX6_cut 70 = .ok (.getfield 21, 3) := by decide +kernel
theorem dX6_cut_73 : decode cX6_cut 73 = .ok (.aload_n 0, 1) := by decide +kernel
theorem dX6_cut_74 : decode cX6_cut 74 = .ok (.getfield 27, 3) := by decide +kernel
theorem dX6_cut_77 : decode cX6_cut 77 = .ok (.iconst 1, 1) := by decide +kernel
theorem dX6_cut_78 : decode cX6_cut 78 = .ok (.isub, 1) := by decide +kernel
theorem dX6_cut_79 : decode cX6_cut 79 = .ok (.dup2, 1) := by decide +kernel
theorem dX6_cut_80 : decode cX6_cut 80 = .ok (.iaload, 1) := by decide +kernel
theorem dX6_cut_81 : decode cX6_cut 81 = .ok (.iconst 1, 1) := by decide +kernel
theorem dX6_cut_82 : decode cX6_cut 82 = .ok (.iadd, 1) := by decide +kernel
theorem dX6_cut_83 : decode cX6_cut 83 = .ok (.iastore, 1) := by decide +kernel
theorem dX6_cut_84 : decode cX6_cut 84 = .ok (.aload_n 0, 1) := by decide +kernel
theorem dX6_cut_85 : decode cX6_cut 85 = .ok (.getfield 24, 3) := by decide +kernel
theorem dX6_cut_88 : decode cX6_cut 88 = .ok (.iload 4, 2) := by decide +kernel
theorem dX6_cut_90 : decode cX6_cut 90 = .ok (.aload_n 0, 1) := by decide +kernel
theorem dX6_cut_91 : decode cX6_cut 91 = .ok (.getfield 27, 3) := by decide +kernel
theorem dX6_cut_94 : decode cX6_cut 94 = .ok (.iconst 1, 1) := by decide +kernel
theorem dX6_cut_95 : decode cX6_cut 95 = .ok (.isub, 1) := by decide +kernel
theorem dX6_cut_96 : decode cX6_cut 96 = .ok (.iastore, 1) := by decide +kernel
theorem dX6_cut_97 : decode cX6_cut 97 = .ok (.aload_n 0, 1) := by decide +kernel
theorem dX6_cut_98 : decode cX6_cut 98 = .ok (.getfield 31, 3) := by decide +kernel
theorem dX6_cut_101 : decode cX6_cut 101 = .ok (.aload_n 0, 1) := by decide +kernel
theorem dX6_cut_102 : decode cX6_cut 102 = .ok (.getfield 35, 3) := by decide +kernel
theorem dX6_cut_105 : decode cX6_cut 105 = .ok (.getfield 58, 3) := by decide +kernel
theorem dX6_cut_108 : decode cX6_cut 108 = .ok (.iload 4, 2) := by decide +kernel
theorem dX6_cut_110 : decode cX6_cut 110 = .ok (.iaload, 1) := by decide +kernel
theorem dX6_cut_111 : decode cX6_cut 111 = .ok (.invokevirtual 63, 3) := by decide +kernel
theorem dX6_cut_114 : decode cX6_cut 114 = .ok (.istore_n 2, 1) := by decide +kernel
theorem dX6_cut_115 : decode cX6_cut 115 = .ok (.iinc 3 1, 3) := by decide +kernel
theorem dX6_cut_118 : decode cX6_cut 118 = .ok (.goto (-96), 3) := by decide +kernel
theorem dX6_cut_121 : decode cX6_cut 121 = .ok (.iinc 1 1, 3) := by decide +kernel
theorem dX6_cut_124 : decode cX6_cut 124 = .ok (.goto (-117), 3) := by decide +kernel
theorem dX6_cut_127 : decode cX6_cut 127 = .ok (.return_, 1) := by decide +kernel
set_option maxRecDepth 20000 in
theorem g_X6_cut_0 {G : GX} {d : Nat} {Ret : Option AV → St → Prop} {R : Nat → List AV → List AV → St → Prop} (hM : AM G wdX (d + 1) mX6_cut Ret R) (σ : St)
    (h : (∀ τ1, τ1 = sI σ 6 5 0 → R 7 [vR 6, vI 0, vN, vN, vN] [] τ1)) : R 0 [vR 6, vN, vN, vN, vN] [] σ := by
  refine r_aload_n hM (pc' := 1) dX6_cut_0 rfl (x := 6) rfl ?_
  refine r_iconst hM (pc' := 2) dX6_cut_1 rfl (by decide) ?_
  refine r_putI hM (pc' := 5) dX6_cut_2 rfl fp_X6_27 wx_6 rfl (fun τ1 e1 => ?_)
  have h := h τ1 e1
  refine r_iconst hM (pc' := 6) dX6_cut_5 rfl (by decide) ?_
  refine r_istore_n hM (pc' := 7) dX6_cut_6 rfl (Nat.le_of_ble_eq_true rfl) rfl ?_
  show R 7 [vR 6, vI 0, vN, vN, vN] _ _
  exact h
set_option maxRecDepth 20000 in
theorem g_X6_cut_7 {G : GX} {d : Nat} {Ret : Option AV → St → Prop} {R : Nat → List AV → List AV → St → Prop} (hM : AM G wdX (d + 1) mX6_cut Ret R) (v1 : Int) (σ : St)
    (h : (((σ.1 4 3) ≤ v1 → Ret none σ) ∧ (¬ (σ.1 4 3) ≤ v1 → R 22 [vR 6, vI v1, vI 1, vI 0, vN] [] σ))) : R 7 [vR 6, vI v1, vN, vN, vN] [] σ := by
  refine r_iload_n hM (pc' := 8) dX6_cut_7 rfl (x := v1) rfl ?_
  refine r_aload_n hM (pc' := 9) dX6_cut_8 rfl (x := 6) rfl ?_
  refine r_getR hM (pc' := 12) dX6_cut_9 rfl fl_X6_39 wx_6 rfl ?_
  refine r_getI hM (pc' := 15) dX6_cut_12 rfl fl_X6_43 wx_4 rfl ?_
  refine r_icmp_ge hM (pc' := 18) (tgt := 127) dX6_cut_15 rfl (by decide) (fun c => ?_) (fun c => ?_)
  · have h := h.1 c
    exact r_return hM dX6_cut_127 rfl h
  · have h := h.2 c
    refine r_iconst hM (pc' := 19) dX6_cut_18 rfl (by decide) ?_
    refine r_istore_n hM (pc' := 20) dX6_cut_19 rfl (Nat.le_of_ble_eq_true rfl) rfl ?_
    show R 20 [vR 6, vI v1, vI 1, vN, vN] _ _
    refine r_iconst hM (pc' := 21) dX6_cut_20 rfl (by decide) ?_
    refine r_istore_n hM (pc' := 22) dX6_cut_21 rfl (Nat.le_of_ble_eq_true rfl) rfl ?_
    show R 22 [vR 6, vI v1, vI 1, vI 0, vN] _ _
    exact h
set_option maxRecDepth 20000 in
theorem g_X6_cut_22 {G : GX} {d : Nat} {Ret : Option AV → St → Prop} {R : Nat → List AV → List AV → St → Prop} (hM : AM G wdX (d + 1) mX6_cut Ret R) (v1 : Int) (v2 : Int) (v3 : Int) (σ : St)
    (h : conI G wdX d mX4_sizeOf [vR 4, vI v1] σ (fun x1 σ1 => ((x1 ≤ v3 → (r32 (v1 + 1) ∧ R 7 [vR 6, vI (v1 + 1), vN, vN, vN] [] σ1)) ∧ (¬ x1 ≤ v3 → conI G wdX d mX4_tripAt [vR 4, vI v1, vI v3] σ1 (fun x2 σ2 => ((v2 = 0 → R 56 [vR 6, vI v1, vN, vI v3, vI x2] [] σ2) ∧ (¬ v2 = 0 → conV G wdX d mX6_open [vR 6, vI v1, vI x2] σ2 (fun σ3 => R 56 [vR 6, vI v1, vN, vI v3, vI x2] [] σ3)))))))) : R 22 [vR 6, vI v1, vI v2, vI v3, vN] [] σ := by
  refine r_iload_n hM (pc' := 23) dX6_cut_22 rfl (x := v3) rfl ?_
  refine r_aload_n hM (pc' := 24) dX6_cut_23 rfl (x := 6) rfl ?_
  refine r_getR hM (pc' := 27) dX6_cut_24 rfl fl_X6_39 wx_6 rfl ?_
  refine r_iload_n hM (pc' := 28) dX6_cut_27 rfl (x := v1) rfl ?_
  refine r_callVI hM (pc' := 31) [vI v1] dX6_cut_28 rfl ml_X6_46 wx_4 rfl rfl (Nat.le_of_ble_eq_true rfl) (conI.mono h (fun x1 σ1 h => ?_))
  refine r_icmp_ge hM (pc' := 34) (tgt := 121) dX6_cut_31 rfl (by decide) (fun c => ?_) (fun c => ?_)
  · have h := h.1 c
    have o1 := h.1
    have h := h.2
    refine r_iinc hM (pc' := 124) dX6_cut_121 rfl (x := v1) rfl rfl o1 ?_
    show R 124 [vR 6, vI (v1 + 1), vI v2, vI v3, vN] _ _
    refine r_goto hM (tgt := 7) dX6_cut_124 (by decide) ?_
    refine r_weak hM (ls' := [vR 6, vI (v1 + 1), vN, vN, vN]) ⟨Or.inl rfl, Or.inl rfl, Or.inr rfl, Or.inr rfl, Or.inl rfl, trivial⟩ ?_
    exact h
  · have h := h.2 c
    refine r_aload_n hM (pc' := 35) dX6_cut_34 rfl (x := 6) rfl ?_
    refine r_getR hM (pc' := 38) dX6_cut_35 rfl fl_X6_39 wx_6 rfl ?_
    refine r_iload_n hM (pc' := 39) dX6_cut_38 rfl (x := v1) rfl ?_
    refine r_iload_n hM (pc' := 40) dX6_cut_39 rfl (x := v3) rfl ?_
    refine r_callVI hM (pc' := 43) [vI v1, vI v3] dX6_cut_40 rfl ml_X6_50 wx_4 rfl rfl (Nat.le_of_ble_eq_true rfl) (conI.mono h (fun x2 σ2 h => ?_))
    refine r_istore hM (pc' := 45) dX6_cut_43 rfl (Nat.le_of_ble_eq_true rfl) rfl ?_
    show R 45 [vR 6, vI v1, vI v2, vI v3, vI x2] _ _
    refine r_iload_n hM (pc' := 46) dX6_cut_45 rfl (x := v2) rfl ?_
    refine r_if_eq hM (pc' := 49) (tgt := 56) dX6_cut_46 rfl (by decide) (fun c => ?_) (fun c => ?_)
    · have h := h.1 c
      refine r_weak hM (ls' := [vR 6, vI v1, vN, vI v3, vI x2]) ⟨Or.inl rfl, Or.inl rfl, Or.inr rfl, Or.inl rfl, Or.inl rfl, trivial⟩ ?_
      exact h
    · have h := h.2 c
      refine r_aload_n hM (pc' := 50) dX6_cut_49 rfl (x := 6) rfl ?_
      refine r_iload_n hM (pc' := 51) dX6_cut_50 rfl (x := v1) rfl ?_
      refine r_iload hM (pc' := 53) dX6_cut_51 rfl (x := x2) rfl ?_
      refine r_callVV hM (pc' := 56) [vI v1, vI x2] dX6_cut_53 rfl ml_X6_54 wx_6 rfl rfl (Nat.le_of_ble_eq_true rfl) (conV.mono h (fun σ3 h => ?_))
      refine r_weak hM (ls' := [vR 6, vI v1, vN, vI v3, vI x2]) ⟨Or.inl rfl, Or.inl rfl, Or.inr rfl, Or.inl rfl, Or.inl rfl, trivial⟩ ?_
      exact h
set_option maxRecDepth 20000 in
theorem g_X6_cut_56 {G : GX} {d : Nat} {Ret : Option AV → St → Prop} {R : Nat → List AV → List AV → St → Prop} (hM : AM G wdX (d + 1) mX6_cut Ret R) (v1 : Int) (v3 : Int) (v4 : Int) (σ : St)
    (h : (r32 ((σ.1 6 5) - 1) ∧ ((0 ≤ ((σ.1 6 5) - 1) ∧ ((σ.1 6 5) - 1) < 16) ∧ (∀ τ1, τ1 = sI σ 31 (((σ.1 6 5) - 1)).toNat v4 → (r32 ((τ1.1 6 5) - 1) ∧ ((0 ≤ ((τ1.1 6 5) - 1) ∧ ((τ1.1 6 5) - 1) < 16) ∧ (r32 ((τ1.1 32 (((τ1.1 6 5) - 1)).toNat) + 1) ∧ (∀ τ2, τ2 = sI τ1 32 (((τ1.1 6 5) - 1)).toNat ((τ1.1 32 (((τ1.1 6 5) - 1)).toNat) + 1) → (r32 ((τ2.1 6 5) - 1) ∧ ((0 ≤ v4 ∧ v4 < 16) ∧ (∀ τ3, τ3 = sI τ2 33 (v4).toNat ((τ2.1 6 5) - 1) → conI G wdX d mX8_isRelief [vR 8, vI (τ3.1 35 (v4).toNat)] τ3 (fun x1 σ1 => (r32 (v3 + 1) ∧ R 22 [vR 6, vI v1, vI x1, vI (v3 + 1), vN] [] σ1))))))))))))) : R 56 [vR 6, vI v1, vN, vI v3, vI v4] [] σ := by
  refine r_aload_n hM (pc' := 57) dX6_cut_56 rfl (x := 6) rfl ?_
  refine r_getR hM (pc' := 60) dX6_cut_57 rfl fl_X6_18 wx_6 rfl ?_
  refine r_aload_n hM (pc' := 61) dX6_cut_60 rfl (x := 6) rfl ?_
  refine r_getI hM (pc' := 64) dX6_cut_61 rfl fl_X6_27 wx_6 rfl ?_
  refine r_iconst hM (pc' := 65) dX6_cut_64 rfl (by decide) ?_
  have o1 := h.1
  have h := h.2
  refine r_isub hM (pc' := 66) dX6_cut_65 rfl o1 ?_
  refine r_iload hM (pc' := 68) dX6_cut_66 rfl (x := v4) rfl ?_
  have o2 := h.1
  have h := h.2
  refine r_iastore hM (pc' := 69) dX6_cut_68 rfl wx_31 o2 (fun τ1 e1 => ?_)
  have h := h τ1 e1
  refine r_aload_n hM (pc' := 70) dX6_cut_69 rfl (x := 6) rfl ?_
  refine r_getR hM (pc' := 73) dX6_cut_70 rfl fl_X6_21 wx_6 rfl ?_
  refine r_aload_n hM (pc' := 74) dX6_cut_73 rfl (x := 6) rfl ?_
  refine r_getI hM (pc' := 77) dX6_cut_74 rfl fl_X6_27 wx_6 rfl ?_
  refine r_iconst hM (pc' := 78) dX6_cut_77 rfl (by decide) ?_
  have o3 := h.1
  have h := h.2
  refine r_isub hM (pc' := 79) dX6_cut_78 rfl o3 ?_
  refine r_dup2 hM (pc' := 80) dX6_cut_79 rfl (fun _ => rfl) (fun _ => rfl) ?_
  have o4 := h.1
  have h := h.2
  refine r_iaload hM (pc' := 81) dX6_cut_80 rfl wx_32 o4 ?_
  refine r_iconst hM (pc' := 82) dX6_cut_81 rfl (by decide) ?_
  have o5 := h.1
  have h := h.2
  refine r_iadd hM (pc' := 83) dX6_cut_82 rfl o5 ?_
  refine r_iastore hM (pc' := 84) dX6_cut_83 rfl wx_32 o4 (fun τ2 e2 => ?_)
  have h := h τ2 e2
  refine r_aload_n hM (pc' := 85) dX6_cut_84 rfl (x := 6) rfl ?_
  refine r_getR hM (pc' := 88) dX6_cut_85 rfl fl_X6_24 wx_6 rfl ?_
  refine r_iload hM (pc' := 90) dX6_cut_88 rfl (x := v4) rfl ?_
  refine r_aload_n hM (pc' := 91) dX6_cut_90 rfl (x := 6) rfl ?_
  refine r_getI hM (pc' := 94) dX6_cut_91 rfl fl_X6_27 wx_6 rfl ?_
  refine r_iconst hM (pc' := 95) dX6_cut_94 rfl (by decide) ?_
  have o6 := h.1
  have h := h.2
  refine r_isub hM (pc' := 96) dX6_cut_95 rfl o6 ?_
  have o7 := h.1
  have h := h.2
  refine r_iastore hM (pc' := 97) dX6_cut_96 rfl wx_33 o7 (fun τ3 e3 => ?_)
  have h := h τ3 e3
  refine r_aload_n hM (pc' := 98) dX6_cut_97 rfl (x := 6) rfl ?_
  refine r_getR hM (pc' := 101) dX6_cut_98 rfl fl_X6_31 wx_6 rfl ?_
  refine r_aload_n hM (pc' := 102) dX6_cut_101 rfl (x := 6) rfl ?_
  refine r_getR hM (pc' := 105) dX6_cut_102 rfl fl_X6_35 wx_6 rfl ?_
  refine r_getR hM (pc' := 108) dX6_cut_105 rfl fl_X6_58 wx_7 rfl ?_
  refine r_iload hM (pc' := 110) dX6_cut_108 rfl (x := v4) rfl ?_
  refine r_iaload hM (pc' := 111) dX6_cut_110 rfl wx_35 o7 ?_
  refine r_callVI hM (pc' := 114) [vI (τ3.1 35 (v4).toNat)] dX6_cut_111 rfl ml_X6_63 wx_8 rfl rfl (Nat.le_of_ble_eq_true rfl) (conI.mono h (fun x1 σ1 h => ?_))
  refine r_istore_n hM (pc' := 115) dX6_cut_114 rfl (Nat.le_of_ble_eq_true rfl) rfl ?_
  show R 115 [vR 6, vI v1, vI x1, vI v3, vI v4] _ _
  have o8 := h.1
  have h := h.2
  refine r_iinc hM (pc' := 118) dX6_cut_115 rfl (x := v3) rfl rfl o8 ?_
  show R 118 [vR 6, vI v1, vI x1, vI (v3 + 1), vI v4] _ _
  refine r_goto hM (tgt := 22) dX6_cut_118 (by decide) ?_
  refine r_weak hM (ls' := [vR 6, vI v1, vI x1, vI (v3 + 1), vN]) ⟨Or.inl rfl, Or.inl rfl, Or.inl rfl, Or.inl rfl, Or.inr rfl, trivial⟩ ?_
  exact h
theorem dX6_open_0 : decode cX6_open 0 = .ok (.aload_n 0, 1) := by decide +kernel
theorem dX6_open_1 : decode cX6_open 1 = .ok (.getfield 9, 3) := by decide +kernel
theorem dX6_open_4 : decode cX6_open 4 = .ok (.aload_n 0, 1) := by decide +kernel
theorem dX6_open_5 : decode cX6_open 5 = .ok (.getfield 27, 3) := by decide +kernel
theorem dX6_open_8 : decode cX6_open 8 = .ok (.iload_n 1, 1) := by decide +kernel
theorem dX6_open_9 : decode cX6_open 9 = .ok (.iastore, 1) := by decide +kernel
theorem dX6_open_10 : decode cX6_open 10 = .ok (.aload_n 0, 1) := by decide +kernel
theorem dX6_open_11 : decode cX6_open 11 = .ok (.getfield 15, 3) := by decide +kernel
theorem dX6_open_14 : decode cX6_open 14 = .ok (.aload_n 0, 1) := by decide +kernel
theorem dX6_open_15 : decode cX6_open 15 = .ok (.getfield 27, 3) := by decide +kernel
theorem dX6_open_18 : decode cX6_open 18 = .ok (.iload_n 2, 1) := by decide +kernel
theorem dX6_open_19 : decode cX6_open 19 = .ok (.iastore, 1) := by decide +kernel
theorem dX6_open_20 : decode cX6_open 20 = .ok (.aload_n 0, 1) := by decide +kernel
theorem dX6_open_21 : decode cX6_open 21 = .ok (.getfield 21, 3) := by decide +kernel
theorem dX6_open_24 : decode cX6_open 24 = .ok (.aload_n 0, 1) := by decide +kernel
theorem dX6_open_25 : decode cX6_open 25 = .ok (.getfield 27, 3) := by decide +kernel
theorem dX6_open_28 : decode cX6_open 28 = .ok (.iconst 0, 1) := by decide +kernel
theorem dX6_open_29 : decode cX6_open 29 = .ok (.iastore, 1) := by decide +kernel
theorem dX6_open_30 : decode cX6_open 30 = .ok (.aload_n 0, 1) := by decide +kernel
theorem dX6_open_31 : decode cX6_open 31 = .ok (.dup, 1) := by decide +kernel
theorem dX6_open_32 : decode cX6_open 32 = .ok (.getfield 27, 3) := by decide +kernel
theorem dX6_open_35 : decode cX6_open 35 = .ok (.iconst 1, 1) := by decide +kernel
theorem dX6_open_36 : decode cX6_open 36 = .ok (.iadd, 1) := by decide +kernel
theorem dX6_open_37 : decode cX6_open 37 = .ok (.putfield 27, 3) := by decide +kernel
theorem dX6_open_40 : decode cX6_open 40 = .ok (.return_, 1) := by decide +kernel
set_option maxRecDepth 20000 in
theorem g_X6_open_0 {G : GX} {d : Nat} {Ret : Option AV → St → Prop} {R : Nat → List AV → List AV → St → Prop} (hM : AM G wdX d mX6_open Ret R) (v1 : Int) (v2 : Int) (σ : St)
    (h : ((0 ≤ (σ.1 6 5) ∧ (σ.1 6 5) < 16) ∧ (∀ τ1, τ1 = sI σ 29 ((σ.1 6 5)).toNat v1 → ((0 ≤ (τ1.1 6 5) ∧ (τ1.1 6 5) < 16) ∧ (∀ τ2, τ2 = sI τ1 30 ((τ1.1 6 5)).toNat v2 → ((0 ≤ (τ2.1 6 5) ∧ (τ2.1 6 5) < 16) ∧ (∀ τ3, τ3 = sI τ2 32 ((τ2.1 6 5)).toNat 0 → (r32 ((τ3.1 6 5) + 1) ∧ (∀ τ4, τ4 = sI τ3 6 5 ((τ3.1 6 5) + 1) → Ret none τ4))))))))) : R 0 [vR 6, vI v1, vI v2] [] σ := by
  refine r_aload_n hM (pc' := 1) dX6_open_0 rfl (x := 6) rfl ?_
  refine r_getR hM (pc' := 4) dX6_open_1 rfl fl_X6_9 wx_6 rfl ?_
  refine r_aload_n hM (pc' := 5) dX6_open_4 rfl (x := 6) rfl ?_
  refine r_getI hM (pc' := 8) dX6_open_5 rfl fl_X6_27 wx_6 rfl ?_
  refine r_iload_n hM (pc' := 9) dX6_open_8 rfl (x := v1) rfl ?_
  have o1 := h.1
  have h := h.2
  refine r_iastore hM (pc' := 10) dX6_open_9 rfl wx_29 o1 (fun τ1 e1 => ?_)
  have h := h τ1 e1
  refine r_aload_n hM (pc' := 11) dX6_open_10 rfl (x := 6) rfl ?_
  refine r_getR hM (pc' := 14) dX6_open_11 rfl fl_X6_15 wx_6 rfl ?_
  refine r_aload_n hM (pc' := 15) dX6_open_14 rfl (x := 6) rfl ?_
  refine r_getI hM (pc' := 18) dX6_open_15 rfl fl_X6_27 wx_6 rfl ?_
  refine r_iload_n hM (pc' := 19) dX6_open_18 rfl (x := v2) rfl ?_
  have o2 := h.1
  have h := h.2
  refine r_iastore hM (pc' := 20) dX6_open_19 rfl wx_30 o2 (fun τ2 e2 => ?_)
  have h := h τ2 e2
  refine r_aload_n hM (pc' := 21) dX6_open_20 rfl (x := 6) rfl ?_
  refine r_getR hM (pc' := 24) dX6_open_21 rfl fl_X6_21 wx_6 rfl ?_
  refine r_aload_n hM (pc' := 25) dX6_open_24 rfl (x := 6) rfl ?_
  refine r_getI hM (pc' := 28) dX6_open_25 rfl fl_X6_27 wx_6 rfl ?_
  refine r_iconst hM (pc' := 29) dX6_open_28 rfl (by decide) ?_
  have o3 := h.1
  have h := h.2
  refine r_iastore hM (pc' := 30) dX6_open_29 rfl wx_32 o3 (fun τ3 e3 => ?_)
  have h := h τ3 e3
  refine r_aload_n hM (pc' := 31) dX6_open_30 rfl (x := 6) rfl ?_
  refine r_dup hM (pc' := 32) dX6_open_31 rfl (fun _ => rfl) ?_
  refine r_getI hM (pc' := 35) dX6_open_32 rfl fl_X6_27 wx_6 rfl ?_
  refine r_iconst hM (pc' := 36) dX6_open_35 rfl (by decide) ?_
  have o4 := h.1
  have h := h.2
  refine r_iadd hM (pc' := 37) dX6_open_36 rfl o4 ?_
  refine r_putI hM (pc' := 40) dX6_open_37 rfl fp_X6_27 wx_6 rfl (fun τ4 e4 => ?_)
  have h := h τ4 e4
  exact r_return hM dX6_open_40 rfl h
theorem dX6_holds_0 : decode cX6_holds 0 = .ok (.iload_n 1, 1) := by decide +kernel
theorem dX6_holds_1 : decode cX6_holds 1 = .ok (.ifCond .lt 15, 3) := by decide +kernel
theorem dX6_holds_4 : decode cX6_holds 4 = .ok (.iload_n 1, 1) := by decide +kernel
theorem dX6_holds_5 : decode cX6_holds 5 = .ok (.aload_n 0, 1) := by decide +kernel
theorem dX6_holds_6 : decode cX6_holds 6 = .ok (.getfield 27, 3) := by decide +kernel
theorem dX6_holds_9 : decode cX6_holds 9 = .ok (.if_icmp .ge 7, 3) := by decide +kernel
theorem dX6_holds_12 : decode cX6_holds 12 = .ok (.iconst 1, 1) := by decide +kernel
theorem dX6_holds_13 : decode cX6_holds 13 = .ok (.goto 4, 3) := by decide +kernel
theorem dX6_holds_16 : decode cX6_holds 16 = .ok (.iconst 0, 1) := by decide +kernel
theorem dX6_holds_17 : decode cX6_holds 17 = .ok (.ireturn, 1) := by decide +kernel
set_option maxRecDepth 20000 in
theorem g_X6_holds_0 {G : GX} {d : Nat} {Ret : Option AV → St → Prop} {R : Nat → List AV → List AV → St → Prop} (hM : AM G wdX d mX6_holds Ret R) (v1 : Int) (σ : St)
    (h : ((v1 < 0 → Ret (some (vI 0)) σ) ∧ (¬ v1 < 0 → (((σ.1 6 5) ≤ v1 → Ret (some (vI 0)) σ) ∧ (¬ (σ.1 6 5) ≤ v1 → Ret (some (vI 1)) σ))))) : R 0 [vR 6, vI v1] [] σ := by
  refine r_iload_n hM (pc' := 1) dX6_holds_0 rfl (x := v1) rfl ?_
  refine r_if_lt hM (pc' := 4) (tgt := 16) dX6_holds_1 rfl (by decide) (fun c => ?_) (fun c => ?_)
  · have h := h.1 c
    refine r_iconst hM (pc' := 17) dX6_holds_16 rfl (by decide) ?_
    exact r_zreturn hM dX6_holds_17 rfl (by decide) h
  · have h := h.2 c
    refine r_iload_n hM (pc' := 5) dX6_holds_4 rfl (x := v1) rfl ?_
    refine r_aload_n hM (pc' := 6) dX6_holds_5 rfl (x := 6) rfl ?_
    refine r_getI hM (pc' := 9) dX6_holds_6 rfl fl_X6_27 wx_6 rfl ?_
    refine r_icmp_ge hM (pc' := 12) (tgt := 16) dX6_holds_9 rfl (by decide) (fun c => ?_) (fun c => ?_)
    · have h := h.1 c
      refine r_iconst hM (pc' := 17) dX6_holds_16 rfl (by decide) ?_
      exact r_zreturn hM dX6_holds_17 rfl (by decide) h
    · have h := h.2 c
      refine r_iconst hM (pc' := 13) dX6_holds_12 rfl (by decide) ?_
      refine r_goto hM (tgt := 17) dX6_holds_13 (by decide) ?_
      exact r_zreturn hM dX6_holds_17 rfl (by decide) h
theorem dX6_isPiece_0 : decode cX6_isPiece 0 = .ok (.aload_n 0, 1) := by decide +kernel
theorem dX6_isPiece_1 : decode cX6_isPiece 1 = .ok (.iload_n 1, 1) := by decide +kernel
theorem dX6_isPiece_2 : decode cX6_isPiece 2 = .ok (.invokevirtual 69, 3) := by decide +kernel
theorem dX6_isPiece_5 : decode cX6_isPiece 5 = .ok (.ifCond .eq 35, 3) := by decide +kernel
theorem dX6_isPiece_8 : decode cX6_isPiece 8 = .ok (.aload_n 0, 1) := by decide +kernel
theorem dX6_isPiece_9 : decode cX6_isPiece 9 = .ok (.iload_n 2, 1) := by decide +kernel
theorem dX6_isPiece_10 : decode cX6_isPiece 10 = .ok (.invokevirtual 69, 3) := by decide +kernel
theorem dX6_isPiece_13 : decode cX6_isPiece 13 = .ok (.ifCond .eq 27, 3) := by decide +kernel
theorem dX6_isPiece_16 : decode cX6_isPiece 16 = .ok (.iload_n 1, 1) := by decide +kernel
theorem dX6_isPiece_17 : decode cX6_isPiece 17 = .ok (.iload_n 2, 1) := by decide +kernel
theorem dX6_isPiece_18 : decode cX6_isPiece 18 = .ok (.if_icmp .gt 22, 3) := by decide +kernel
theorem dX6_isPiece_21 : decode cX6_isPiece 21 = .ok (.aload_n 0, 1) := by decide +kernel
theorem dX6_isPiece_22 : decode cX6_isPiece 22 = .ok (.getfield 9, 3) := by decide +kernel
theorem dX6_isPiece_25 : decode cX6_isPiece 25 = .ok (.iload_n 1, 1) := by decide +kernel
theorem dX6_isPiece_26 : decode cX6_isPiece 26 = .ok (.iaload, 1) := by decide +kernel
theorem dX6_isPiece_27 : decode cX6_isPiece 27 = .ok (.aload_n 0, 1) := by decide +kernel
theorem dX6_isPiece_28 : decode cX6_isPiece 28 = .ok (.getfield 9, 3) := by decide +kernel
theorem dX6_isPiece_31 : decode cX6_isPiece 31 = .ok (.iload_n 2, 1) := by decide +kernel
theorem dX6_isPiece_32 : decode cX6_isPiece 32 = .ok (.iaload, 1) := by decide +kernel
theorem dX6_isPiece_33 : decode cX6_isPiece 33 = .ok (.if_icmp .ne 7, 3) := by decide +kernel
theorem dX6_isPiece_36 : decode cX6_isPiece 36 = .ok (.iconst 1, 1) := by decide +kernel
theorem dX6_isPiece_37 : decode cX6_isPiece 37 = .ok (.goto 4, 3) := by decide +kernel
theorem dX6_isPiece_40 : decode cX6_isPiece 40 = .ok (.iconst 0, 1) := by decide +kernel
theorem dX6_isPiece_41 : decode cX6_isPiece 41 = .ok (.ireturn, 1) := by decide +kernel
set_option maxRecDepth 20000 in
theorem g_X6_isPiece_0 {G : GX} {d : Nat} {Ret : Option AV → St → Prop} {R : Nat → List AV → List AV → St → Prop} (hM : AM G wdX (d + 1) mX6_isPiece Ret R) (v1 : Int) (v2 : Int) (σ : St)
    (h : conI G wdX d mX6_holds [vR 6, vI v1] σ (fun x1 σ1 => ((x1 = 0 → Ret (some (vI 0)) σ1) ∧ (¬ x1 = 0 → conI G wdX d mX6_holds [vR 6, vI v2] σ1 (fun x2 σ2 => ((x2 = 0 → Ret (some (vI 0)) σ2) ∧ (¬ x2 = 0 → ((v2 < v1 → Ret (some (vI 0)) σ2) ∧ (¬ v2 < v1 → ((0 ≤ v1 ∧ v1 < 16) ∧ ((0 ≤ v2 ∧ v2 < 16) ∧ ((¬ (σ2.1 29 (v1).toNat) = (σ2.1 29 (v2).toNat) → Ret (some (vI 0)) σ2) ∧ ((σ2.1 29 (v1).toNat) = (σ2.1 29 (v2).toNat) → Ret (some (vI 1)) σ2))))))))))))) : R 0 [vR 6, vI v1, vI v2] [] σ := by
  refine r_aload_n hM (pc' := 1) dX6_isPiece_0 rfl (x := 6) rfl ?_
  refine r_iload_n hM (pc' := 2) dX6_isPiece_1 rfl (x := v1) rfl ?_
  refine r_callVI hM (pc' := 5) [vI v1] dX6_isPiece_2 rfl ml_X6_69 wx_6 rfl rfl (Nat.le_of_ble_eq_true rfl) (conI.mono h (fun x1 σ1 h => ?_))
  refine r_if_eq hM (pc' := 8) (tgt := 40) dX6_isPiece_5 rfl (by decide) (fun c => ?_) (fun c => ?_)
  · have h := h.1 c
    refine r_iconst hM (pc' := 41) dX6_isPiece_40 rfl (by decide) ?_
    exact r_zreturn hM dX6_isPiece_41 rfl (by decide) h
  · have h := h.2 c
    refine r_aload_n hM (pc' := 9) dX6_isPiece_8 rfl (x := 6) rfl ?_
    refine r_iload_n hM (pc' := 10) dX6_isPiece_9 rfl (x := v2) rfl ?_
    refine r_callVI hM (pc' := 13) [vI v2] dX6_isPiece_10 rfl ml_X6_69 wx_6 rfl rfl (Nat.le_of_ble_eq_true rfl) (conI.mono h (fun x2 σ2 h => ?_))
    refine r_if_eq hM (pc' := 16) (tgt := 40) dX6_isPiece_13 rfl (by decide) (fun c => ?_) (fun c => ?_)
    · have h := h.1 c
      refine r_iconst hM (pc' := 41) dX6_isPiece_40 rfl (by decide) ?_
      exact r_zreturn hM dX6_isPiece_41 rfl (by decide) h
    · have h := h.2 c
      refine r_iload_n hM (pc' := 17) dX6_isPiece_16 rfl (x := v1) rfl ?_
      refine r_iload_n hM (pc' := 18) dX6_isPiece_17 rfl (x := v2) rfl ?_
      refine r_icmp_gt hM (pc' := 21) (tgt := 40) dX6_isPiece_18 rfl (by decide) (fun c => ?_) (fun c => ?_)
      · have h := h.1 c
        refine r_iconst hM (pc' := 41) dX6_isPiece_40 rfl (by decide) ?_
        exact r_zreturn hM dX6_isPiece_41 rfl (by decide) h
      · have h := h.2 c
        refine r_aload_n hM (pc' := 22) dX6_isPiece_21 rfl (x := 6) rfl ?_
        refine r_getR hM (pc' := 25) dX6_isPiece_22 rfl fl_X6_9 wx_6 rfl ?_
        refine r_iload_n hM (pc' := 26) dX6_isPiece_25 rfl (x := v1) rfl ?_
        have o1 := h.1
        have h := h.2
        refine r_iaload hM (pc' := 27) dX6_isPiece_26 rfl wx_29 o1 ?_
        refine r_aload_n hM (pc' := 28) dX6_isPiece_27 rfl (x := 6) rfl ?_
        refine r_getR hM (pc' := 31) dX6_isPiece_28 rfl fl_X6_9 wx_6 rfl ?_
        refine r_iload_n hM (pc' := 32) dX6_isPiece_31 rfl (x := v2) rfl ?_
        have o2 := h.1
        have h := h.2
        refine r_iaload hM (pc' := 33) dX6_isPiece_32 rfl wx_29 o2 ?_
        refine r_icmp_ne hM (pc' := 36) (tgt := 40) dX6_isPiece_33 rfl (by decide) (fun c => ?_) (fun c => ?_)
        · have h := h.1 c
          refine r_iconst hM (pc' := 41) dX6_isPiece_40 rfl (by decide) ?_
          exact r_zreturn hM dX6_isPiece_41 rfl (by decide) h
        · have h := h.2 c
          refine r_iconst hM (pc' := 37) dX6_isPiece_36 rfl (by decide) ?_
          refine r_goto hM (tgt := 41) dX6_isPiece_37 (by decide) ?_
          exact r_zreturn hM dX6_isPiece_41 rfl (by decide) h
theorem dX6_beginning_0 : decode cX6_beginning 0 = .ok (.aload_n 0, 1) := by decide +kernel
theorem dX6_beginning_1 : decode cX6_beginning 1 = .ok (.getfield 35, 3) := by decide +kernel
theorem dX6_beginning_4 : decode cX6_beginning 4 = .ok (.getfield 72, 3) := by decide +kernel
theorem dX6_beginning_7 : decode cX6_beginning 7 = .ok (.aload_n 0, 1) := by decide +kernel
theorem dX6_beginning_8 : decode cX6_beginning 8 = .ok (.getfield 15, 3) := by decide +kernel
theorem dX6_beginning_11 : decode cX6_beginning 11 = .ok (.iload_n 1, 1) := by decide +kernel
theorem dX6_beginning_12 : decode cX6_beginning 12 = .ok (.iaload, 1) := by decide +kernel
theorem dX6_beginning_13 : decode cX6_beginning 13 = .ok (.iaload, 1) := by decide +kernel
theorem dX6_beginning_14 : decode cX6_beginning 14 = .ok (.ireturn, 1) := by decide +kernel
set_option maxRecDepth 20000 in
theorem g_X6_beginning_0 {G : GX} {d : Nat} {Ret : Option AV → St → Prop} {R : Nat → List AV → List AV → St → Prop} (hM : AM G wdX d mX6_beginning Ret R) (v1 : Int) (σ : St)
    (h : ((0 ≤ v1 ∧ v1 < 16) ∧ ((0 ≤ (σ.1 30 (v1).toNat) ∧ (σ.1 30 (v1).toNat) < 16) ∧ Ret (some (vI (σ.1 36 ((σ.1 30 (v1).toNat)).toNat))) σ))) : R 0 [vR 6, vI v1] [] σ := by
  refine r_aload_n hM (pc' := 1) dX6_beginning_0 rfl (x := 6) rfl ?_
  refine r_getR hM (pc' := 4) dX6_beginning_1 rfl fl_X6_35 wx_6 rfl ?_
  refine r_getR hM (pc' := 7) dX6_beginning_4 rfl fl_X6_72 wx_7 rfl ?_
  refine r_aload_n hM (pc' := 8) dX6_beginning_7 rfl (x := 6) rfl ?_
  refine r_getR hM (pc' := 11) dX6_beginning_8 rfl fl_X6_15 wx_6 rfl ?_
  refine r_iload_n hM (pc' := 12) dX6_beginning_11 rfl (x := v1) rfl ?_
  have o1 := h.1
  have h := h.2
  refine r_iaload hM (pc' := 13) dX6_beginning_12 rfl wx_30 o1 ?_
  have o2 := h.1
  have h := h.2
  refine r_iaload hM (pc' := 14) dX6_beginning_13 rfl wx_36 o2 ?_
  exact r_ireturn hM dX6_beginning_14 rfl h
theorem dX6_ending_0 : decode cX6_ending 0 = .ok (.aload_n 0, 1) := by decide +kernel
theorem dX6_ending_1 : decode cX6_ending 1 = .ok (.getfield 35, 3) := by decide +kernel
theorem dX6_ending_4 : decode cX6_ending 4 = .ok (.getfield 75, 3) := by decide +kernel
theorem dX6_ending_7 : decode cX6_ending 7 = .ok (.aload_n 0, 1) := by decide +kernel
theorem dX6_ending_8 : decode cX6_ending 8 = .ok (.getfield 18, 3) := by decide +kernel
theorem dX6_ending_11 : decode cX6_ending 11 = .ok (.iload_n 1, 1) := by decide +kernel
theorem dX6_ending_12 : decode cX6_ending 12 = .ok (.iaload, 1) := by decide +kernel
theorem dX6_ending_13 : decode cX6_ending 13 = .ok (.iaload, 1) := by decide +kernel
theorem dX6_ending_14 : decode cX6_ending 14 = .ok (.ireturn, 1) := by decide +kernel
set_option maxRecDepth 20000 in
theorem g_X6_ending_0 {G : GX} {d : Nat} {Ret : Option AV → St → Prop} {R : Nat → List AV → List AV → St → Prop} (hM : AM G wdX d mX6_ending Ret R) (v1 : Int) (σ : St)
    (h : ((0 ≤ v1 ∧ v1 < 16) ∧ ((0 ≤ (σ.1 31 (v1).toNat) ∧ (σ.1 31 (v1).toNat) < 16) ∧ Ret (some (vI (σ.1 37 ((σ.1 31 (v1).toNat)).toNat))) σ))) : R 0 [vR 6, vI v1] [] σ := by
  refine r_aload_n hM (pc' := 1) dX6_ending_0 rfl (x := 6) rfl ?_
  refine r_getR hM (pc' := 4) dX6_ending_1 rfl fl_X6_35 wx_6 rfl ?_
  refine r_getR hM (pc' := 7) dX6_ending_4 rfl fl_X6_75 wx_7 rfl ?_
  refine r_aload_n hM (pc' := 8) dX6_ending_7 rfl (x := 6) rfl ?_
  refine r_getR hM (pc' := 11) dX6_ending_8 rfl fl_X6_18 wx_6 rfl ?_
  refine r_iload_n hM (pc' := 12) dX6_ending_11 rfl (x := v1) rfl ?_
  have o1 := h.1
  have h := h.2
  refine r_iaload hM (pc' := 13) dX6_ending_12 rfl wx_31 o1 ?_
  have o2 := h.1
  have h := h.2
  refine r_iaload hM (pc' := 14) dX6_ending_13 rfl wx_37 o2 ?_
  exact r_ireturn hM dX6_ending_14 rfl h
theorem dX6_placeAtBeginning_0 : decode cX6_placeAtBeginning 0 = .ok (.aload_n 0, 1) := by decide +kernel
theorem dX6_placeAtBeginning_1 : decode cX6_placeAtBeginning 1 = .ok (.getfield 35, 3) := by decide +kernel
theorem dX6_placeAtBeginning_4 : decode cX6_placeAtBeginning 4 = .ok (.getfield 78, 3) := by decide +kernel
theorem dX6_placeAtBeginning_7 : decode cX6_placeAtBeginning 7 = .ok (.aload_n 0, 1) := by decide +kernel
theorem dX6_placeAtBeginning_8 : decode cX6_placeAtBeginning 8 = .ok (.getfield 15, 3) := by decide +kernel
theorem dX6_placeAtBeginning_11 : decode cX6_placeAtBeginning 11 = .ok (.iload_n 1, 1) := by decide +kernel
theorem dX6_placeAtBeginning_12 : decode cX6_placeAtBeginning 12 = .ok (.iaload, 1) := by decide +kernel
theorem dX6_placeAtBeginning_13 : decode cX6_placeAtBeginning 13 = .ok (.iaload, 1) := by decide +kernel
theorem dX6_placeAtBeginning_14 : decode cX6_placeAtBeginning 14 = .ok (.ireturn, 1) := by decide +kernel
set_option maxRecDepth 20000 in
theorem g_X6_placeAtBeginning_0 {G : GX} {d : Nat} {Ret : Option AV → St → Prop} {R : Nat → List AV → List AV → St → Prop} (hM : AM G wdX d mX6_placeAtBeginning Ret R) (v1 : Int) (σ : St)
    (h : ((0 ≤ v1 ∧ v1 < 16) ∧ ((0 ≤ (σ.1 30 (v1).toNat) ∧ (σ.1 30 (v1).toNat) < 16) ∧ Ret (some (vI (σ.1 34 ((σ.1 30 (v1).toNat)).toNat))) σ))) : R 0 [vR 6, vI v1] [] σ := by
  refine r_aload_n hM (pc' := 1) dX6_placeAtBeginning_0 rfl (x := 6) rfl ?_
  refine r_getR hM (pc' := 4) dX6_placeAtBeginning_1 rfl fl_X6_35 wx_6 rfl ?_
  refine r_getR hM (pc' := 7) dX6_placeAtBeginning_4 rfl fl_X6_78 wx_7 rfl ?_
  refine r_aload_n hM (pc' := 8) dX6_placeAtBeginning_7 rfl (x := 6) rfl ?_
  refine r_getR hM (pc' := 11) dX6_placeAtBeginning_8 rfl fl_X6_15 wx_6 rfl ?_
  refine r_iload_n hM (pc' := 12) dX6_placeAtBeginning_11 rfl (x := v1) rfl ?_
  have o1 := h.1
  have h := h.2
  refine r_iaload hM (pc' := 13) dX6_placeAtBeginning_12 rfl wx_30 o1 ?_
  have o2 := h.1
  have h := h.2
  refine r_iaload hM (pc' := 14) dX6_placeAtBeginning_13 rfl wx_34 o2 ?_
  exact r_ireturn hM dX6_placeAtBeginning_14 rfl h
theorem dX6_placeAtEnd_0 : decode cX6_placeAtEnd 0 = .ok (.aload_n 0, 1) := by decide +kernel
theorem dX6_placeAtEnd_1 : decode cX6_placeAtEnd 1 = .ok (.getfield 35, 3) := by decide +kernel
theorem dX6_placeAtEnd_4 : decode cX6_placeAtEnd 4 = .ok (.getfield 58, 3) := by decide +kernel
theorem dX6_placeAtEnd_7 : decode cX6_placeAtEnd 7 = .ok (.aload_n 0, 1) := by decide +kernel
theorem dX6_placeAtEnd_8 : decode cX6_placeAtEnd 8 = .ok (.getfield 18, 3) := by decide +kernel
theorem dX6_placeAtEnd_11 : decode cX6_placeAtEnd 11 = .ok (.iload_n 1, 1) := by decide +kernel
theorem dX6_placeAtEnd_12 : decode cX6_placeAtEnd 12 = .ok (.iaload, 1) := by decide +kernel
theorem dX6_placeAtEnd_13 : decode cX6_placeAtEnd 13 = .ok (.iaload, 1) := by decide +kernel
theorem dX6_placeAtEnd_14 : decode cX6_placeAtEnd 14 = .ok (.ireturn, 1) := by decide +kernel
set_option maxRecDepth 20000 in
theorem g_X6_placeAtEnd_0 {G : GX} {d : Nat} {Ret : Option AV → St → Prop} {R : Nat → List AV → List AV → St → Prop} (hM : AM G wdX d mX6_placeAtEnd Ret R) (v1 : Int) (σ : St)
    (h : ((0 ≤ v1 ∧ v1 < 16) ∧ ((0 ≤ (σ.1 31 (v1).toNat) ∧ (σ.1 31 (v1).toNat) < 16) ∧ Ret (some (vI (σ.1 35 ((σ.1 31 (v1).toNat)).toNat))) σ))) : R 0 [vR 6, vI v1] [] σ := by
  refine r_aload_n hM (pc' := 1) dX6_placeAtEnd_0 rfl (x := 6) rfl ?_
  refine r_getR hM (pc' := 4) dX6_placeAtEnd_1 rfl fl_X6_35 wx_6 rfl ?_
  refine r_getR hM (pc' := 7) dX6_placeAtEnd_4 rfl fl_X6_58 wx_7 rfl ?_
  refine r_aload_n hM (pc' := 8) dX6_placeAtEnd_7 rfl (x := 6) rfl ?_
  refine r_getR hM (pc' := 11) dX6_placeAtEnd_8 rfl fl_X6_18 wx_6 rfl ?_
  refine r_iload_n hM (pc' := 12) dX6_placeAtEnd_11 rfl (x := v1) rfl ?_
  have o1 := h.1
  have h := h.2
  refine r_iaload hM (pc' := 13) dX6_placeAtEnd_12 rfl wx_31 o1 ?_
  have o2 := h.1
  have h := h.2
  refine r_iaload hM (pc' := 14) dX6_placeAtEnd_13 rfl wx_35 o2 ?_
  exact r_ireturn hM dX6_placeAtEnd_14 rfl h
