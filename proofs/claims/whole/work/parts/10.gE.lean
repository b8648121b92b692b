theorem fp_X5_35 : FP RX5 35 5 9 .boolean := ⟨(RX5, TX5, 10), rfl, by decide, gw_mem 335 (by decide +kernel) rfl, inwX5, ⟨tyX5, tyX5_ok⟩, nmX5, rfl, by decide +kernel⟩
theorem fl_X5_35 : FL RX5 35 5 9 := ⟨(RX5, TX5, 10), rfl, by decide, gw_mem 335 (by decide +kernel) rfl, inwX5⟩
theorem fp_X5_32 : FP RX5 32 5 8 .int := ⟨(RX5, TX5, 10), rfl, by decide, gw_mem 334 (by decide +kernel) rfl, inwX5, ⟨tyX5, tyX5_ok⟩, nmX5, rfl, by decide +kernel⟩
theorem fl_X5_39 : FL RX5 39 5 0 := ⟨(RX5, TX5, 10), rfl, by decide, gw_mem 326 (by decide +kernel) rfl, inwX5⟩
theorem fl_X5_47 : FL RX5 47 6 5 := ⟨(RX6, TX6, 9), rfl, by decide, gw_mem 266 (by decide +kernel) rfl, inwX6⟩
theorem ml_X5_52 : MLv RX5 52 mX5_listLawful 5 0 := ⟨(RX5, TX5, 10), rfl, rfl, gw_mem 678 (by decide +kernel) rfl, gw_mem 680 (by decide +kernel) rfl, gw_mem 15 (by decide +kernel) rfl, gw_mem 48 (by decide +kernel) rfl, mwX5_listLawful, ⟨by decide, by decide, by decide +kernel⟩, by decide⟩
theorem ml_X5_56 : MLv RX5 56 mX5_fewest 5 0 := ⟨(RX5, TX5, 10), rfl, rfl, gw_mem 699 (by decide +kernel) rfl, gw_mem 701 (by decide +kernel) rfl, gw_mem 18 (by decide +kernel) rfl, gw_mem 48 (by decide +kernel) rfl, mwX5_fewest, ⟨by decide, by decide, by decide +kernel⟩, by decide⟩
theorem fl_X5_32 : FL RX5 32 5 8 := ⟨(RX5, TX5, 10), rfl, by decide, gw_mem 334 (by decide +kernel) rfl, inwX5⟩
theorem fl_X5_22 : FL RX5 22 5 5 := ⟨(RX5, TX5, 10), rfl, by decide, gw_mem 331 (by decide +kernel) rfl, inwX5⟩
theorem ml_X5_60 : MLn RX5 60 mX9_lowest 1 := ⟨⟨RX9, by decide +kernel⟩, gw_mem 556 (by decide +kernel) rfl, gw_mem 38 (by decide +kernel) rfl, mwX9_lowest, ⟨by decide, by decide, by decide +kernel⟩, by decide⟩
theorem ml_X5_64 : MLs RX5 64 mX5_endAt 2 := ⟨gw_mem 729 (by decide +kernel) rfl, gw_mem 730 (by decide +kernel) rfl, gw_mem 48 (by decide +kernel) rfl, mwX5_endAt, ⟨by decide, by decide, by decide +kernel⟩, by decide⟩
theorem fp_X5_25 : FP RX5 25 5 6 .int := ⟨(RX5, TX5, 10), rfl, by decide, gw_mem 332 (by decide +kernel) rfl, inwX5, ⟨tyX5, tyX5_ok⟩, nmX5, rfl, by decide +kernel⟩
theorem fp_X5_29 : FP RX5 29 5 7 .int := ⟨(RX5, TX5, 10), rfl, by decide, gw_mem 333 (by decide +kernel) rfl, inwX5, ⟨tyX5, tyX5_ok⟩, nmX5, rfl, by decide +kernel⟩
theorem fl_X5_15 : FL RX5 15 5 3 := ⟨(RX5, TX5, 10), rfl, by decide, gw_mem 329 (by decide +kernel) rfl, inwX5⟩
theorem fl_X5_25 : FL RX5 25 5 6 := ⟨(RX5, TX5, 10), rfl, by decide, gw_mem 332 (by decide +kernel) rfl, inwX5⟩
theorem ml_X5_68 : MLv RX5 68 mX6_isPiece 6 2 := ⟨(RX6, TX6, 9), rfl, rfl, gw_mem 682 (by decide +kernel) rfl, gw_mem 633 (by decide +kernel) rfl, gw_mem 634 (by decide +kernel) rfl, gw_mem 46 (by decide +kernel) rfl, mwX6_isPiece, ⟨by decide, by decide, by decide +kernel⟩, by decide⟩
theorem fl_X5_29 : FL RX5 29 5 7 := ⟨(RX5, TX5, 10), rfl, by decide, gw_mem 333 (by decide +kernel) rfl, inwX5⟩
theorem fl_X5_43 : FL RX5 43 5 1 := ⟨(RX5, TX5, 10), rfl, by decide, gw_mem 327 (by decide +kernel) rfl, inwX5⟩
theorem ml_X5_72 : MLv RX5 72 mX0_brokenByOne 0 2 := ⟨(RX0, TX0, 6), rfl, rfl, gw_mem 683 (by decide +kernel) rfl, gw_mem 638 (by decide +kernel) rfl, gw_mem 639 (by decide +kernel) rfl, gw_mem 47 (by decide +kernel) rfl, mwX0_brokenByOne, ⟨by decide, by decide, by decide +kernel⟩, by decide⟩
theorem ml_X5_77 : MLs RX5 77 mX5_bits 2 := ⟨gw_mem 684 (by decide +kernel) rfl, gw_mem 685 (by decide +kernel) rfl, gw_mem 48 (by decide +kernel) rfl, mwX5_bits, ⟨by decide, by decide, by decide +kernel⟩, by decide⟩
theorem ml_X5_80 : MLs RX5 80 mX5_packed 4 := ⟨gw_mem 687 (by decide +kernel) rfl, gw_mem 688 (by decide +kernel) rfl, gw_mem 48 (by decide +kernel) rfl, mwX5_packed, ⟨by decide, by decide, by decide +kernel⟩, by decide⟩
theorem ml_X5_84 : MLv RX5 84 mX5_list 5 1 := ⟨(RX5, TX5, 10), rfl, rfl, gw_mem 690 (by decide +kernel) rfl, gw_mem 692 (by decide +kernel) rfl, gw_mem 16 (by decide +kernel) rfl, gw_mem 48 (by decide +kernel) rfl, mwX5_list, ⟨by decide, by decide, by decide +kernel⟩, by decide⟩
theorem ml_X5_88 : MLv RX5 88 mX5_listSeconds 5 2 := ⟨(RX5, TX5, 10), rfl, rfl, gw_mem 694 (by decide +kernel) rfl, gw_mem 696 (by decide +kernel) rfl, gw_mem 17 (by decide +kernel) rfl, gw_mem 48 (by decide +kernel) rfl, mwX5_listSeconds, ⟨by decide, by decide, by decide +kernel⟩, by decide⟩
theorem ml_X5_92 : MLv RX5 92 mX0_brokenByTwo 0 4 := ⟨(RX0, TX0, 6), rfl, rfl, gw_mem 698 (by decide +kernel) rfl, gw_mem 654 (by decide +kernel) rfl, gw_mem 655 (by decide +kernel) rfl, gw_mem 47 (by decide +kernel) rfl, mwX0_brokenByTwo, ⟨by decide, by decide, by decide +kernel⟩, by decide⟩
theorem fl_X5_11 : FL RX5 11 5 2 := ⟨(RX5, TX5, 10), rfl, by decide, gw_mem 328 (by decide +kernel) rfl, inwX5⟩
theorem fl_X5_18 : FL RX5 18 5 4 := ⟨(RX5, TX5, 10), rfl, by decide, gw_mem 330 (by decide +kernel) rfl, inwX5⟩
theorem ml_X5_95 : MLs RX5 95 mJ7_fill_d0a16 2 := ⟨gw_mem 703 (by decide +kernel) rfl, gw_mem 704 (by decide +kernel) rfl, gw_mem 40 (by decide +kernel) rfl, mwJ7_fill_d0a16, ⟨by decide, by decide, by decide +kernel⟩, by decide⟩
theorem ml_X5_101 : MLs RX5 101 mX5_doesAll 4 := ⟨gw_mem 706 (by decide +kernel) rfl, gw_mem 707 (by decide +kernel) rfl, gw_mem 48 (by decide +kernel) rfl, mwX5_doesAll, ⟨by decide, by decide, by decide +kernel⟩, by decide⟩
theorem ml_X5_105 : MLv RX5 105 mX5_isHopeless 5 2 := ⟨(RX5, TX5, 10), rfl, rfl, gw_mem 709 (by decide +kernel) rfl, gw_mem 711 (by decide +kernel) rfl, gw_mem 19 (by decide +kernel) rfl, gw_mem 48 (by decide +kernel) rfl, mwX5_isHopeless, ⟨by decide, by decide, by decide +kernel⟩, by decide⟩
theorem ml_X5_108 : MLv RX5 108 mX5_noteTooFew 5 2 := ⟨(RX5, TX5, 10), rfl, rfl, gw_mem 715 (by decide +kernel) rfl, gw_mem 717 (by decide +kernel) rfl, gw_mem 20 (by decide +kernel) rfl, gw_mem 48 (by decide +kernel) rfl, mwX5_noteTooFew, ⟨by decide, by decide, by decide +kernel⟩, by decide⟩
theorem ml_X5_111 : MLs RX5 111 mJ6_bitCount_0f7a4 1 := ⟨gw_mem 713 (by decide +kernel) rfl, gw_mem 559 (by decide +kernel) rfl, gw_mem 51 (by decide +kernel) rfl, mwJ6_bitCount_0f7a4, ⟨by decide, by decide, by decide +kernel⟩, by decide⟩
theorem fl_X5_116 : FL RX5 116 0 3 := ⟨(RX0, TX0, 6), rfl, by decide, gw_mem 303 (by decide +kernel) rfl, inwX0⟩
theorem k_X5_119 : Cond.constantLong RX5 119 (15) ∈ gw := gw_mem 719 (by decide +kernel) rfl
theorem k_X5_121 : Cond.constantLong RX5 121 (-1) ∈ gw := gw_mem 720 (by decide +kernel) rfl
theorem dX5_forget_0 : decode cX5_forget 0 = .ok (.aload_n 0, 1) := by decide +kernel
theorem dX5_forget_1 : decode cX5_forget 1 = .ok (.iconst 0, 1) := by decide +kernel
theorem dX5_forget_2 : decode cX5_forget 2 = .ok (.putfield 35, 3) := by decide +kernel
theorem dX5_forget_5 : decode cX5_forget 5 = .ok (.return_, 1) := by decide +kernel
set_option maxRecDepth 20000 in
theorem g_X5_forget_0 {G : GX} {d : Nat} {Ret : Option AV → St → Prop} {R : Nat → List AV → List AV → St → Prop} (hM : AM G wdX d mX5_forget Ret R) (σ : St)
    (h : (∀ τ1, τ1 = sI σ 5 9 0 → Ret none τ1)) : R 0 [vR 5] [] σ := by
  refine r_aload_n hM (pc' := 1) dX5_forget_0 rfl (x := 5) rfl ?_
  refine r_iconst hM (pc' := 2) dX5_forget_1 rfl (by decide) ?_
  refine r_putZ hM (pc' := 5) dX5_forget_2 rfl fp_X5_35 wx_5 rfl (by decide) (fun τ1 e1 => ?_)
  have h := h τ1 e1
  exact r_return hM dX5_forget_5 rfl h
theorem dX5_tell_0 : decode cX5_tell 0 = .ok (.aload_n 0, 1) := by decide +kernel
theorem dX5_tell_1 : decode cX5_tell 1 = .ok (.getfield 35, 3) := by decide +kernel
theorem dX5_tell_4 : decode cX5_tell 4 = .ok (.ifCond .ne 49, 3) := by decide +kernel
theorem dX5_tell_7 : decode cX5_tell 7 = .ok (.aload_n 0, 1) := by decide +kernel
theorem dX5_tell_8 : decode cX5_tell 8 = .ok (.iconst 1, 1) := by decide +kernel
theorem dX5_tell_9 : decode cX5_tell 9 = .ok (.putfield 35, 3) := by decide +kernel
theorem dX5_tell_12 : decode cX5_tell 12 = .ok (.aload_n 0, 1) := by decide +kernel
theorem dX5_tell_13 : decode cX5_tell 13 = .ok (.iconst (-1), 1) := by decide +kernel
theorem dX5_tell_14 : decode cX5_tell 14 = .ok (.putfield 32, 3) := by decide +kernel
theorem dX5_tell_17 : decode cX5_tell 17 = .ok (.aload_n 0, 1) := by decide +kernel
theorem dX5_tell_18 : decode cX5_tell 18 = .ok (.getfield 39, 3) := by decide +kernel
theorem dX5_tell_21 : decode cX5_tell 21 = .ok (.getfield 47, 3) := by decide +kernel
theorem dX5_tell_24 : decode cX5_tell 24 = .ok (.bipush 12, 2) := by decide +kernel
theorem dX5_tell_26 : decode cX5_tell 26 = .ok (.if_icmp .le 12, 3) := by decide +kernel
theorem dX5_tell_29 : decode cX5_tell 29 = .ok (.aload_n 0, 1) := by decide +kernel
theorem dX5_tell_30 : decode cX5_tell 30 = .ok (.bipush (-2), 2) := by decide +kernel
theorem dX5_tell_32 : decode cX5_tell 32 = .ok (.putfield 32, 3) := by decide +kernel
theorem dX5_tell_35 : decode cX5_tell 35 = .ok (.goto 18, 3) := by decide +kernel
theorem dX5_tell_38 : decode cX5_tell 38 = .ok (.aload_n 0, 1) := by decide +kernel
theorem dX5_tell_39 : decode cX5_tell 39 = .ok (.invokevirtual 52, 3) := by decide +kernel
theorem dX5_tell_42 : decode cX5_tell 42 = .ok (.ifCond .eq 11, 3) := by decide +kernel
theorem dX5_tell_45 : decode cX5_tell 45 = .ok (.aload_n 0, 1) := by decide +kernel
theorem dX5_tell_46 : decode cX5_tell 46 = .ok (.aload_n 0, 1) := by decide +kernel
theorem dX5_tell_47 : decode cX5_tell 47 = .ok (.invokevirtual 56, 3) := by decide +kernel
theorem dX5_tell_50 : decode cX5_tell 50 = .ok (.putfield 32, 3) := by decide +kernel
theorem dX5_tell_53 : decode cX5_tell 53 = .ok (.aload_n 0, 1) := by decide +kernel
theorem dX5_tell_54 : decode cX5_tell 54 = .ok (.getfield 32, 3) := by decide +kernel
theorem dX5_tell_57 : decode cX5_tell 57 = .ok (.ireturn, 1) := by decide +kernel
set_option maxRecDepth 20000 in
theorem g_X5_tell_0 {G : GX} {d : Nat} {Ret : Option AV → St → Prop} {R : Nat → List AV → List AV → St → Prop} (hM : AM G wdX (d + 1) mX5_tell Ret R) (σ : St)
    (h : ((¬ (σ.1 5 9) = 0 → Ret (some (vI (σ.1 5 8))) σ) ∧ ((σ.1 5 9) = 0 → (∀ τ1, τ1 = sI σ 5 9 1 → (∀ τ2, τ2 = sI τ1 5 8 (-1) → (((τ2.1 6 5) ≤ 12 → conI G wdX d mX5_listLawful [vR 5] τ2 (fun x1 σ1 => ((x1 = 0 → Ret (some (vI (σ1.1 5 8))) σ1) ∧ (¬ x1 = 0 → conI G wdX d mX5_fewest [vR 5] σ1 (fun x2 σ2 => (∀ τ3, τ3 = sI σ2 5 8 x2 → Ret (some (vI (τ3.1 5 8))) τ3)))))) ∧ (¬ (τ2.1 6 5) ≤ 12 → (∀ τ4, τ4 = sI τ2 5 8 (-2) → Ret (some (vI (τ4.1 5 8))) τ4)))))))) : R 0 [vR 5] [] σ := by
  refine r_aload_n hM (pc' := 1) dX5_tell_0 rfl (x := 5) rfl ?_
  refine r_getI hM (pc' := 4) dX5_tell_1 rfl fl_X5_35 wx_5 rfl ?_
  refine r_if_ne hM (pc' := 7) (tgt := 53) dX5_tell_4 rfl (by decide) (fun c => ?_) (fun c => ?_)
  · have h := h.1 c
    refine r_aload_n hM (pc' := 54) dX5_tell_53 rfl (x := 5) rfl ?_
    refine r_getI hM (pc' := 57) dX5_tell_54 rfl fl_X5_32 wx_5 rfl ?_
    exact r_ireturn hM dX5_tell_57 rfl h
  · have h := h.2 c
    refine r_aload_n hM (pc' := 8) dX5_tell_7 rfl (x := 5) rfl ?_
    refine r_iconst hM (pc' := 9) dX5_tell_8 rfl (by decide) ?_
    refine r_putZ hM (pc' := 12) dX5_tell_9 rfl fp_X5_35 wx_5 rfl (by decide) (fun τ1 e1 => ?_)
    have h := h τ1 e1
    refine r_aload_n hM (pc' := 13) dX5_tell_12 rfl (x := 5) rfl ?_
    refine r_iconst hM (pc' := 14) dX5_tell_13 rfl (by decide) ?_
    refine r_putI hM (pc' := 17) dX5_tell_14 rfl fp_X5_32 wx_5 rfl (fun τ2 e2 => ?_)
    have h := h τ2 e2
    refine r_aload_n hM (pc' := 18) dX5_tell_17 rfl (x := 5) rfl ?_
    refine r_getR hM (pc' := 21) dX5_tell_18 rfl fl_X5_39 wx_5 rfl ?_
    refine r_getI hM (pc' := 24) dX5_tell_21 rfl fl_X5_47 wx_6 rfl ?_
    refine r_bipush hM (pc' := 26) dX5_tell_24 rfl (by decide) (by decide) ?_
    refine r_icmp_le hM (pc' := 29) (tgt := 38) dX5_tell_26 rfl (by decide) (fun c => ?_) (fun c => ?_)
    · have h := h.1 c
      refine r_aload_n hM (pc' := 39) dX5_tell_38 rfl (x := 5) rfl ?_
      refine r_callVI hM (pc' := 42) [] dX5_tell_39 rfl ml_X5_52 wx_5 rfl rfl (Nat.le_of_ble_eq_true rfl) (conI.mono h (fun x1 σ1 h => ?_))
      refine r_if_eq hM (pc' := 45) (tgt := 53) dX5_tell_42 rfl (by decide) (fun c => ?_) (fun c => ?_)
      · have h := h.1 c
        refine r_aload_n hM (pc' := 54) dX5_tell_53 rfl (x := 5) rfl ?_
        refine r_getI hM (pc' := 57) dX5_tell_54 rfl fl_X5_32 wx_5 rfl ?_
        exact r_ireturn hM dX5_tell_57 rfl h
      · have h := h.2 c
        refine r_aload_n hM (pc' := 46) dX5_tell_45 rfl (x := 5) rfl ?_
        refine r_aload_n hM (pc' := 47) dX5_tell_46 rfl (x := 5) rfl ?_
        refine r_callVI hM (pc' := 50) [] dX5_tell_47 rfl ml_X5_56 wx_5 rfl rfl (Nat.le_of_ble_eq_true rfl) (conI.mono h (fun x2 σ2 h => ?_))
        refine r_putI hM (pc' := 53) dX5_tell_50 rfl fp_X5_32 wx_5 rfl (fun τ3 e3 => ?_)
        have h := h τ3 e3
        refine r_aload_n hM (pc' := 54) dX5_tell_53 rfl (x := 5) rfl ?_
        refine r_getI hM (pc' := 57) dX5_tell_54 rfl fl_X5_32 wx_5 rfl ?_
        exact r_ireturn hM dX5_tell_57 rfl h
    · have h := h.2 c
      refine r_aload_n hM (pc' := 30) dX5_tell_29 rfl (x := 5) rfl ?_
      refine r_bipush hM (pc' := 32) dX5_tell_30 rfl (by decide) (by decide) ?_
      refine r_putI hM (pc' := 35) dX5_tell_32 rfl fp_X5_32 wx_5 rfl (fun τ4 e4 => ?_)
      have h := h τ4 e4
      refine r_goto hM (tgt := 53) dX5_tell_35 (by decide) ?_
      refine r_aload_n hM (pc' := 54) dX5_tell_53 rfl (x := 5) rfl ?_
      refine r_getI hM (pc' := 57) dX5_tell_54 rfl fl_X5_32 wx_5 rfl ?_
      exact r_ireturn hM dX5_tell_57 rfl h
theorem dX5_of_0 : decode cX5_of 0 = .ok (.aload_n 0, 1) := by decide +kernel
theorem dX5_of_1 : decode cX5_of 1 = .ok (.getfield 35, 3) := by decide +kernel
theorem dX5_of_4 : decode cX5_of 4 = .ok (.ifCond .eq 21, 3) := by decide +kernel
theorem dX5_of_7 : decode cX5_of 7 = .ok (.iload_n 1, 1) := by decide +kernel
theorem dX5_of_8 : decode cX5_of 8 = .ok (.ifCond .lt 17, 3) := by decide +kernel
theorem dX5_of_11 : decode cX5_of 11 = .ok (.iload_n 1, 1) := by decide +kernel
theorem dX5_of_12 : decode cX5_of 12 = .ok (.aload_n 0, 1) := by decide +kernel
theorem dX5_of_13 : decode cX5_of 13 = .ok (.getfield 32, 3) := by decide +kernel
theorem dX5_of_16 : decode cX5_of 16 = .ok (.if_icmp .ge 9, 3) := by decide +kernel
theorem dX5_of_19 : decode cX5_of 19 = .ok (.iload_n 1, 1) := by decide +kernel
theorem dX5_of_20 : decode cX5_of 20 = .ok (.bipush 12, 2) := by decide +kernel
theorem dX5_of_22 : decode cX5_of 22 = .ok (.if_icmp .lt 5, 3) := by decide +kernel
theorem dX5_of_25 : decode cX5_of 25 = .ok (.iconst (-1), 1) := by decide +kernel
theorem dX5_of_26 : decode cX5_of 26 = .ok (.ireturn, 1) := by decide +kernel
theorem dX5_of_27 : decode cX5_of 27 = .ok (.aload_n 0, 1) := by decide +kernel
theorem dX5_of_28 : decode cX5_of 28 = .ok (.getfield 22, 3) := by decide +kernel
theorem dX5_of_31 : decode cX5_of 31 = .ok (.iload_n 1, 1) := by decide +kernel
theorem dX5_of_32 : decode cX5_of 32 = .ok (.iaload, 1) := by decide +kernel
theorem dX5_of_33 : decode cX5_of 33 = .ok (.istore_n 3, 1) := by decide +kernel
theorem dX5_of_34 : decode cX5_of 34 = .ok (.iload_n 2, 1) := by decide +kernel
theorem dX5_of_35 : decode cX5_of 35 = .ok (.tableswitch 59 0 3 #[29, 38, 45, 52], 29) := by decide +kernel
theorem dX5_of_64 : decode cX5_of 64 = .ok (.iload_n 3, 1) := by decide +kernel
theorem dX5_of_65 : decode cX5_of 65 = .ok (.sipush 4095, 3) := by decide +kernel
theorem dX5_of_68 : decode cX5_of 68 = .ok (.iand, 1) := by decide +kernel
theorem dX5_of_69 : decode cX5_of 69 = .ok (.invokestatic 60, 3) := by decide +kernel
theorem dX5_of_72 : decode cX5_of 72 = .ok (.ireturn, 1) := by decide +kernel
theorem dX5_of_73 : decode cX5_of 73 = .ok (.iload_n 3, 1) := by decide +kernel
theorem dX5_of_74 : decode cX5_of 74 = .ok (.bipush 12, 2) := by decide +kernel
theorem dX5_of_76 : decode cX5_of 76 = .ok (.invokestatic 64, 3) := by decide +kernel
theorem dX5_of_79 : decode cX5_of 79 = .ok (.ireturn, 1) := by decide +kernel
theorem dX5_of_80 : decode cX5_of 80 = .ok (.iload_n 3, 1) := by decide +kernel
theorem dX5_of_81 : decode cX5_of 81 = .ok (.bipush 16, 2) := by decide +kernel
theorem dX5_of_83 : decode cX5_of 83 = .ok (.invokestatic 64, 3) := by decide +kernel
theorem dX5_of_86 : decode cX5_of 86 = .ok (.ireturn, 1) := by decide +kernel
theorem dX5_of_87 : decode cX5_of 87 = .ok (.iload_n 3, 1) := by decide +kernel
theorem dX5_of_88 : decode cX5_of 88 = .ok (.bipush 20, 2) := by decide +kernel
theorem dX5_of_90 : decode cX5_of 90 = .ok (.invokestatic 64, 3) := by decide +kernel
theorem dX5_of_93 : decode cX5_of 93 = .ok (.ireturn, 1) := by decide +kernel
theorem dX5_of_94 : decode cX5_of 94 = .ok (.iconst (-1), 1) := by decide +kernel
theorem dX5_of_95 : decode cX5_of 95 = .ok (.ireturn, 1) := by decide +kernel
set_option maxRecDepth 20000 in
theorem g_X5_of_0 {G : GX} {d : Nat} {Ret : Option AV → St → Prop} {R : Nat → List AV → List AV → St → Prop} (hM : AM G wdX (d + 1) mX5_of Ret R) (v1 : Int) (v2 : Int) (σ : St)
    (h : (((σ.1 5 9) = 0 → Ret (some (vI (-1))) σ) ∧ (¬ (σ.1 5 9) = 0 → ((v1 < 0 → Ret (some (vI (-1))) σ) ∧ (¬ v1 < 0 → (((σ.1 5 8) ≤ v1 → Ret (some (vI (-1))) σ) ∧ (¬ (σ.1 5 8) ≤ v1 → ((v1 < 12 → ((0 ≤ v1 ∧ v1 < 12) ∧ ((v2 = 0 → conI G wdX d mX9_lowest [vI (bAnd (σ.1 28 (v1).toNat) 4095)] σ (fun x1 σ1 => Ret (some (vI x1)) σ1)) ∧ (v2 = 1 → conI G wdX d mX5_endAt [vI (σ.1 28 (v1).toNat), vI 12] σ (fun x2 σ2 => Ret (some (vI x2)) σ2)) ∧ (v2 = 2 → conI G wdX d mX5_endAt [vI (σ.1 28 (v1).toNat), vI 16] σ (fun x3 σ3 => Ret (some (vI x3)) σ3)) ∧ (v2 = 3 → conI G wdX d mX5_endAt [vI (σ.1 28 (v1).toNat), vI 20] σ (fun x4 σ4 => Ret (some (vI x4)) σ4)) ∧ (¬ (0 ≤ v2 ∧ v2 ≤ 3) → Ret (some (vI (-1))) σ)))) ∧ (¬ v1 < 12 → Ret (some (vI (-1))) σ))))))))) : R 0 [vR 5, vI v1, vI v2, vN] [] σ := by
  refine r_aload_n hM (pc' := 1) dX5_of_0 rfl (x := 5) rfl ?_
  refine r_getI hM (pc' := 4) dX5_of_1 rfl fl_X5_35 wx_5 rfl ?_
  refine r_if_eq hM (pc' := 7) (tgt := 25) dX5_of_4 rfl (by decide) (fun c => ?_) (fun c => ?_)
  · have h := h.1 c
    refine r_iconst hM (pc' := 26) dX5_of_25 rfl (by decide) ?_
    exact r_ireturn hM dX5_of_26 rfl h
  · have h := h.2 c
    refine r_iload_n hM (pc' := 8) dX5_of_7 rfl (x := v1) rfl ?_
    refine r_if_lt hM (pc' := 11) (tgt := 25) dX5_of_8 rfl (by decide) (fun c => ?_) (fun c => ?_)
    · have h := h.1 c
      refine r_iconst hM (pc' := 26) dX5_of_25 rfl (by decide) ?_
      exact r_ireturn hM dX5_of_26 rfl h
    · have h := h.2 c
      refine r_iload_n hM (pc' := 12) dX5_of_11 rfl (x := v1) rfl ?_
      refine r_aload_n hM (pc' := 13) dX5_of_12 rfl (x := 5) rfl ?_
      refine r_getI hM (pc' := 16) dX5_of_13 rfl fl_X5_32 wx_5 rfl ?_
      refine r_icmp_ge hM (pc' := 19) (tgt := 25) dX5_of_16 rfl (by decide) (fun c => ?_) (fun c => ?_)
      · have h := h.1 c
        refine r_iconst hM (pc' := 26) dX5_of_25 rfl (by decide) ?_
        exact r_ireturn hM dX5_of_26 rfl h
      · have h := h.2 c
        refine r_iload_n hM (pc' := 20) dX5_of_19 rfl (x := v1) rfl ?_
        refine r_bipush hM (pc' := 22) dX5_of_20 rfl (by decide) (by decide) ?_
        refine r_icmp_lt hM (pc' := 25) (tgt := 27) dX5_of_22 rfl (by decide) (fun c => ?_) (fun c => ?_)
        · have h := h.1 c
          refine r_aload_n hM (pc' := 28) dX5_of_27 rfl (x := 5) rfl ?_
          refine r_getR hM (pc' := 31) dX5_of_28 rfl fl_X5_22 wx_5 rfl ?_
          refine r_iload_n hM (pc' := 32) dX5_of_31 rfl (x := v1) rfl ?_
          have o1 := h.1
          have h := h.2
          refine r_iaload hM (pc' := 33) dX5_of_32 rfl wx_28 o1 ?_
          refine r_istore_n hM (pc' := 34) dX5_of_33 rfl (Nat.le_of_ble_eq_true rfl) rfl ?_
          show R 34 [vR 5, vI v1, vI v2, vI (σ.1 28 (v1).toNat)] _ _
          refine r_iload_n hM (pc' := 35) dX5_of_34 rfl (x := v2) rfl ?_
          refine r_table hM (tgt := 94) [64, 73, 80, 87] dX5_of_35 rfl (by decide) (by decide) ⟨fun c => ?_, fun c => ?_, fun c => ?_, fun c => ?_, trivial⟩ (fun c => ?_)
          · have h := h.1 (by omega)
            refine r_iload_n hM (pc' := 65) dX5_of_64 rfl (x := (σ.1 28 (v1).toNat)) rfl ?_
            refine r_sipush hM (pc' := 68) dX5_of_65 rfl (by decide) (by decide) ?_
            refine r_iand hM (pc' := 69) dX5_of_68 rfl ?_
            refine r_callNI hM (pc' := 72) [vI (bAnd (σ.1 28 (v1).toNat) 4095)] dX5_of_69 rfl ml_X5_60 rfl rfl (Nat.le_of_ble_eq_true rfl) (conI.mono h (fun x1 σ1 h => ?_))
            exact r_ireturn hM dX5_of_72 rfl h
          · have h := h.2.1 (by omega)
            refine r_iload_n hM (pc' := 74) dX5_of_73 rfl (x := (σ.1 28 (v1).toNat)) rfl ?_
            refine r_bipush hM (pc' := 76) dX5_of_74 rfl (by decide) (by decide) ?_
            refine r_callSI hM (pc' := 79) [vI (σ.1 28 (v1).toNat), vI 12] dX5_of_76 rfl ml_X5_64 rfl rfl (Nat.le_of_ble_eq_true rfl) (conI.mono h (fun x2 σ2 h => ?_))
            exact r_ireturn hM dX5_of_79 rfl h
          · have h := h.2.2.1 (by omega)
            refine r_iload_n hM (pc' := 81) dX5_of_80 rfl (x := (σ.1 28 (v1).toNat)) rfl ?_
            refine r_bipush hM (pc' := 83) dX5_of_81 rfl (by decide) (by decide) ?_
            refine r_callSI hM (pc' := 86) [vI (σ.1 28 (v1).toNat), vI 16] dX5_of_83 rfl ml_X5_64 rfl rfl (Nat.le_of_ble_eq_true rfl) (conI.mono h (fun x3 σ3 h => ?_))
            exact r_ireturn hM dX5_of_86 rfl h
          · have h := h.2.2.2.1 (by omega)
            refine r_iload_n hM (pc' := 88) dX5_of_87 rfl (x := (σ.1 28 (v1).toNat)) rfl ?_
            refine r_bipush hM (pc' := 90) dX5_of_88 rfl (by decide) (by decide) ?_
            refine r_callSI hM (pc' := 93) [vI (σ.1 28 (v1).toNat), vI 20] dX5_of_90 rfl ml_X5_64 rfl rfl (Nat.le_of_ble_eq_true rfl) (conI.mono h (fun x4 σ4 h => ?_))
            exact r_ireturn hM dX5_of_93 rfl h
          · have h := h.2.2.2.2 c
            refine r_iconst hM (pc' := 95) dX5_of_94 rfl (by decide) ?_
            exact r_ireturn hM dX5_of_95 rfl h
        · have h := h.2 c
          refine r_iconst hM (pc' := 26) dX5_of_25 rfl (by decide) ?_
          exact r_ireturn hM dX5_of_26 rfl h
theorem dX5_endAt_0 : decode cX5_endAt 0 = .ok (.iload_n 0, 1) := by decide +kernel
theorem dX5_endAt_1 : decode cX5_endAt 1 = .ok (.iload_n 1, 1) := by decide +kernel
theorem dX5_endAt_2 : decode cX5_endAt 2 = .ok (.ishr, 1) := by decide +kernel
theorem dX5_endAt_3 : decode cX5_endAt 3 = .ok (.bipush 15, 2) := by decide +kernel
theorem dX5_endAt_5 : decode cX5_endAt 5 = .ok (.iand, 1) := by decide +kernel
theorem dX5_endAt_6 : decode cX5_endAt 6 = .ok (.istore_n 2, 1) := by decide +kernel
theorem dX5_endAt_7 : decode cX5_endAt 7 = .ok (.iload_n 2, 1) := by decide +kernel
theorem dX5_endAt_8 : decode cX5_endAt 8 = .ok (.bipush 15, 2) := by decide +kernel
theorem dX5_endAt_10 : decode cX5_endAt 10 = .ok (.if_icmp .ne 7, 3) := by decide +kernel
theorem dX5_endAt_13 : decode cX5_endAt 13 = .ok (.iconst (-1), 1) := by decide +kernel
theorem dX5_endAt_14 : decode cX5_endAt 14 = .ok (.goto 4, 3) := by decide +kernel
theorem dX5_endAt_17 : decode cX5_endAt 17 = .ok (.iload_n 2, 1) := by decide +kernel
theorem dX5_endAt_18 : decode cX5_endAt 18 = .ok (.ireturn, 1) := by decide +kernel
set_option maxRecDepth 20000 in
theorem g_X5_endAt_0 {G : GX} {d : Nat} {Ret : Option AV → St → Prop} {R : Nat → List AV → List AV → St → Prop} (hM : AM G wdX d mX5_endAt Ret R) (v0 : Int) (v1 : Int) (σ : St)
    (h : ((¬ (bAnd (bShr v0 v1) 15) = 15 → Ret (some (vI (bAnd (bShr v0 v1) 15))) σ) ∧ ((bAnd (bShr v0 v1) 15) = 15 → Ret (some (vI (-1))) σ))) : R 0 [vI v0, vI v1, vN] [] σ := by
  refine r_iload_n hM (pc' := 1) dX5_endAt_0 rfl (x := v0) rfl ?_
  refine r_iload_n hM (pc' := 2) dX5_endAt_1 rfl (x := v1) rfl ?_
  refine r_ishr hM (pc' := 3) dX5_endAt_2 rfl ?_
  refine r_bipush hM (pc' := 5) dX5_endAt_3 rfl (by decide) (by decide) ?_
  refine r_iand hM (pc' := 6) dX5_endAt_5 rfl ?_
  refine r_istore_n hM (pc' := 7) dX5_endAt_6 rfl (Nat.le_of_ble_eq_true rfl) rfl ?_
  show R 7 [vI v0, vI v1, vI (bAnd (bShr v0 v1) 15)] _ _
  refine r_iload_n hM (pc' := 8) dX5_endAt_7 rfl (x := (bAnd (bShr v0 v1) 15)) rfl ?_
  refine r_bipush hM (pc' := 10) dX5_endAt_8 rfl (by decide) (by decide) ?_
  refine r_icmp_ne hM (pc' := 13) (tgt := 17) dX5_endAt_10 rfl (by decide) (fun c => ?_) (fun c => ?_)
  · have h := h.1 c
    refine r_iload_n hM (pc' := 18) dX5_endAt_17 rfl (x := (bAnd (bShr v0 v1) 15)) rfl ?_
    exact r_ireturn hM dX5_endAt_18 rfl h
  · have h := h.2 c
    refine r_iconst hM (pc' := 14) dX5_endAt_13 rfl (by decide) ?_
    refine r_goto hM (tgt := 18) dX5_endAt_14 (by decide) ?_
    exact r_ireturn hM dX5_endAt_18 rfl h
theorem dX5_listLawful_0 : decode cX5_listLawful 0 = .ok (.aload_n 0, 1) := by decide +kernel
theorem dX5_listLawful_1 : decode cX5_listLawful 1 = .ok (.iconst 0, 1) := by decide +kernel
theorem dX5_listLawful_2 : decode cX5_listLawful 2 = .ok (.putfield 25, 3) := by decide +kernel
theorem dX5_listLawful_5 : decode cX5_listLawful 5 = .ok (.aload_n 0, 1) := by decide +kernel
theorem dX5_listLawful_6 : decode cX5_listLawful 6 = .ok (.iconst 0, 1) := by decide +kernel
theorem dX5_listLawful_7 : decode cX5_listLawful 7 = .ok (.putfield 29, 3) := by decide +kernel
theorem dX5_listLawful_10 : decode cX5_listLawful 10 = .ok (.iconst 0, 1) := by decide +kernel
theorem dX5_listLawful_11 : decode cX5_listLawful 11 = .ok (.istore_n 1, 1) := by decide +kernel
theorem dX5_listLawful_12 : decode cX5_listLawful 12 = .ok (.iload_n 1, 1) := by decide +kernel
theorem dX5_listLawful_13 : decode cX5_listLawful 13 = .ok (.aload_n 0, 1) := by decide +kernel
theorem dX5_listLawful_14 : decode cX5_listLawful 14 = .ok (.getfield 39, 3) := by decide +kernel
theorem dX5_listLawful_17 : decode cX5_listLawful 17 = .ok (.getfield 47, 3) := by decide +kernel
theorem dX5_listLawful_20 : decode cX5_listLawful 20 = .ok (.if_icmp .ge 129, 3) := by decide +kernel
theorem dX5_listLawful_23 : decode cX5_listLawful 23 = .ok (.aload_n 0, 1) := by decide +kernel
theorem dX5_listLawful_24 : decode cX5_listLawful 24 = .ok (.getfield 15, 3) := by decide +kernel
theorem dX5_listLawful_27 : decode cX5_listLawful 27 = .ok (.iload_n 1, 1) := by decide +kernel
theorem dX5_listLawful_28 : decode cX5_listLawful 28 = .ok (.aload_n 0, 1) := by decide +kernel
theorem dX5_listLawful_29 : decode cX5_listLawful 29 = .ok (.getfield 25, 3) := by decide +kernel
theorem dX5_listLawful_32 : decode cX5_listLawful 32 = .ok (.iastore, 1) := by decide +kernel
theorem dX5_listLawful_33 : decode cX5_listLawful 33 = .ok (.aload_n 0, 1) := by decide +kernel
theorem dX5_listLawful_34 : decode cX5_listLawful 34 = .ok (.getfield 39, 3) := by decide +kernel
theorem dX5_listLawful_37 : decode cX5_listLawful 37 = .ok (.iload_n 1, 1) := by decide +kernel
theorem dX5_listLawful_38 : decode cX5_listLawful 38 = .ok (.iconst 1, 1) := by decide +kernel
theorem dX5_listLawful_39 : decode cX5_listLawful 39 = .ok (.isub, 1) := by decide +kernel
theorem dX5_listLawful_40 : decode cX5_listLawful 40 = .ok (.iload_n 1, 1) := by decide +kernel
theorem dX5_listLawful_41 : decode cX5_listLawful 41 = .ok (.invokevirtual 68, 3) := by decide +kernel
theorem dX5_listLawful_44 : decode cX5_listLawful 44 = .ok (.ifCond .ne 15, 3) := by decide +kernel
theorem dX5_listLawful_47 : decode cX5_listLawful 47 = .ok (.aload_n 0, 1) := by decide +kernel
theorem dX5_listLawful_48 : decode cX5_listLawful 48 = .ok (.dup, 1) := by decide +kernel
theorem dX5_listLawful_49 : decode cX5_listLawful 49 = .ok (.getfield 29, 3) := by decide +kernel
theorem dX5_listLawful_52 : decode cX5_listLawful 52 = .ok (.iconst 1, 1) := by decide +kernel
theorem dX5_listLawful_53 : decode cX5_listLawful 53 = .ok (.iload_n 1, 1) := by decide +kernel
theorem dX5_listLawful_54 : decode cX5_listLawful 54 = .ok (.ishl, 1) := by decide +kernel
theorem dX5_listLawful_55 : decode cX5_listLawful 55 = .ok (.ior, 1) := by decide +kernel
theorem dX5_listLawful_56 : decode cX5_listLawful 56 = .ok (.putfield 29, 3) := by decide +kernel
theorem dX5_listLawful_59 : decode cX5_listLawful 59 = .ok (.iload_n 1, 1) := by decide +kernel
theorem dX5_listLawful_60 : decode cX5_listLawful 60 = .ok (.istore_n 2, 1) := by decide +kernel
theorem dX5_listLawful_61 : decode cX5_listLawful 61 = .ok (.iload_n 2, 1) := by decide +kernel
theorem dX5_listLawful_62 : decode cX5_listLawful 62 = .ok (.aload_n 0, 1) := by decide +kernel
theorem dX5_listLawful_63 : decode cX5_listLawful 63 = .ok (.getfield 39, 3) := by decide +kernel
theorem dX5_listLawful_66 : decode cX5_listLawful 66 = .ok (.getfield 47, 3) := by decide +kernel
theorem dX5_listLawful_69 : decode cX5_listLawful 69 = .ok (.if_icmp .ge 59, 3) := by decide +kernel
theorem dX5_listLawful_72 : decode cX5_listLawful 72 = .ok (.aload_n 0, 1) := by decide +kernel
theorem dX5_listLawful_73 : decode cX5_listLawful 73 = .ok (.getfield 39, 3) := by decide +kernel
theorem dX5_listLawful_76 : decode cX5_listLawful 76 = .ok (.iload_n 1, 1) := by decide +kernel
theorem dX5_listLawful_77 : decode cX5_listLawful 77 = .ok (.iload_n 2, 1) := by decide +kernel
theorem dX5_listLawful_78 : decode cX5_listLawful 78 = .ok (.invokevirtual 68, 3) := by decide +kernel
theorem dX5_listLawful_81 : decode cX5_listLawful 81 = .ok (.ifCond .eq 47, 3) := by decide +kernel
theorem dX5_listLawful_84 : decode cX5_listLawful 84 = .ok (.aload_n 0, 1) := by decide +kernel
theorem dX5_listLawful_85 : decode cX5_listLawful 85 = .ok (.getfield 43, 3) := by decide +kernel
theorem dX5_listLawful_88 : decode cX5_listLawful 88 = .ok (.iload_n 1, 1) := by decide +kernel
theorem dX5_listLawful_89 : decode cX5_listLawful 89 = .ok (.iload_n 2, 1) := by decide +kernel
theorem dX5_listLawful_90 : decode cX5_listLawful 90 = .ok (.invokevirtual 72, 3) := by decide +kernel
theorem dX5_listLawful_93 : decode cX5_listLawful 93 = .ok (.ifCond .eq 6, 3) := by decide +kernel
theorem dX5_listLawful_96 : decode cX5_listLawful 96 = .ok (.goto 32, 3) := by decide +kernel
theorem dX5_listLawful_99 : decode cX5_listLawful 99 = .ok (.aload_n 0, 1) := by decide +kernel
theorem dX5_listLawful_100 : decode cX5_listLawful 100 = .ok (.iload_n 1, 1) := by decide +kernel
theorem dX5_listLawful_101 : decode cX5_listLawful 101 = .ok (.iload_n 2, 1) := by decide +kernel
theorem dX5_listLawful_102 : decode cX5_listLawful 102 = .ok (.invokestatic 77, 3) := by decide +kernel
theorem dX5_listLawful_105 : decode cX5_listLawful 105 = .ok (.iload_n 2, 1) := by decide +kernel
theorem dX5_listLawful_106 : decode cX5_listLawful 106 = .ok (.bipush 15, 2) := by decide +kernel
theorem dX5_listLawful_108 : decode cX5_listLawful 108 = .ok (.bipush 15, 2) := by decide +kernel
theorem dX5_listLawful_110 : decode cX5_listLawful 110 = .ok (.invokestatic 80, 3) := by decide +kernel
theorem dX5_listLawful_113 : decode cX5_listLawful 113 = .ok (.invokevirtual 84, 3) := by decide +kernel
theorem dX5_listLawful_116 : decode cX5_listLawful 116 = .ok (.aload_n 0, 1) := by decide +kernel
theorem dX5_listLawful_117 : decode cX5_listLawful 117 = .ok (.iload_n 1, 1) := by decide +kernel
theorem dX5_listLawful_118 : decode cX5_listLawful 118 = .ok (.iload_n 2, 1) := by decide +kernel
theorem dX5_listLawful_119 : decode cX5_listLawful 119 = .ok (.invokevirtual 88, 3) := by decide +kernel
theorem dX5_listLawful_122 : decode cX5_listLawful 122 = .ok (.iinc 2 1, 3) := by decide +kernel
theorem dX5_listLawful_125 : decode cX5_listLawful 125 = .ok (.goto (-64), 3) := by decide +kernel
theorem dX5_listLawful_128 : decode cX5_listLawful 128 = .ok (.aload_n 0, 1) := by decide +kernel
theorem dX5_listLawful_129 : decode cX5_listLawful 129 = .ok (.getfield 25, 3) := by decide +kernel
theorem dX5_listLawful_132 : decode cX5_listLawful 132 = .ok (.aload_n 0, 1) := by decide +kernel
theorem dX5_listLawful_133 : decode cX5_listLawful 133 = .ok (.getfield 15, 3) := by decide +kernel
theorem dX5_listLawful_136 : decode cX5_listLawful 136 = .ok (.iload_n 1, 1) := by decide +kernel
theorem dX5_listLawful_137 : decode cX5_listLawful 137 = .ok (.iaload, 1) := by decide +kernel
theorem dX5_listLawful_138 : decode cX5_listLawful 138 = .ok (.if_icmp .ne 5, 3) := by decide +kernel
theorem dX5_listLawful_141 : decode cX5_listLawful 141 = .ok (.iconst 0, 1) := by decide +kernel
theorem dX5_listLawful_142 : decode cX5_listLawful 142 = .ok (.ireturn, 1) := by decide +kernel
theorem dX5_listLawful_143 : decode cX5_listLawful 143 = .ok (.iinc 1 1, 3) := by decide +kernel
theorem dX5_listLawful_146 : decode cX5_listLawful 146 = .ok (.goto (-134), 3) := by decide +kernel
theorem dX5_listLawful_149 : decode cX5_listLawful 149 = .ok (.aload_n 0, 1) := by decide +kernel
theorem dX5_listLawful_150 : decode cX5_listLawful 150 = .ok (.getfield 15, 3) := by decide +kernel
theorem dX5_listLawful_153 : decode cX5_listLawful 153 = .ok (.aload_n 0, 1) := by decide +kernel
theorem dX5_listLawful_154 : decode cX5_listLawful 154 = .ok (.getfield 39, 3) := by decide +kernel
theorem dX5_listLawful_157 : decode cX5_listLawful 157 = .ok (.getfield 47, 3) := by decide +kernel
theorem dX5_listLawful_160 : decode cX5_listLawful 160 = .ok (.aload_n 0, 1) := by decide +kernel
theorem dX5_listLawful_161 : decode cX5_listLawful 161 = .ok (.getfield 25, 3) := by decide +kernel
theorem dX5_listLawful_164 : decode cX5_listLawful 164 = .ok (.iastore, 1) := by decide +kernel
theorem dX5_listLawful_165 : decode cX5_listLawful 165 = .ok (.iconst 1, 1) := by decide +kernel
theorem dX5_listLawful_166 : decode cX5_listLawful 166 = .ok (.ireturn, 1) := by decide +kernel
set_option maxRecDepth 20000 in
theorem g_X5_listLawful_0 {G : GX} {d : Nat} {Ret : Option AV → St → Prop} {R : Nat → List AV → List AV → St → Prop} (hM : AM G wdX (d + 1) mX5_listLawful Ret R) (σ : St)
    (h : (∀ τ1, τ1 = sI σ 5 6 0 → (∀ τ2, τ2 = sI τ1 5 7 0 → R 12 [vR 5, vI 0, vN] [] τ2))) : R 0 [vR 5, vN, vN] [] σ := by
  refine r_aload_n hM (pc' := 1) dX5_listLawful_0 rfl (x := 5) rfl ?_
  refine r_iconst hM (pc' := 2) dX5_listLawful_1 rfl (by decide) ?_
  refine r_putI hM (pc' := 5) dX5_listLawful_2 rfl fp_X5_25 wx_5 rfl (fun τ1 e1 => ?_)
  have h := h τ1 e1
  refine r_aload_n hM (pc' := 6) dX5_listLawful_5 rfl (x := 5) rfl ?_
  refine r_iconst hM (pc' := 7) dX5_listLawful_6 rfl (by decide) ?_
  refine r_putI hM (pc' := 10) dX5_listLawful_7 rfl fp_X5_29 wx_5 rfl (fun τ2 e2 => ?_)
  have h := h τ2 e2
  refine r_iconst hM (pc' := 11) dX5_listLawful_10 rfl (by decide) ?_
  refine r_istore_n hM (pc' := 12) dX5_listLawful_11 rfl (Nat.le_of_ble_eq_true rfl) rfl ?_
  show R 12 [vR 5, vI 0, vN] _ _
  exact h
set_option maxRecDepth 20000 in
theorem g_X5_listLawful_12 {G : GX} {d : Nat} {Ret : Option AV → St → Prop} {R : Nat → List AV → List AV → St → Prop} (hM : AM G wdX (d + 1) mX5_listLawful Ret R) (v1 : Int) (σ : St)
    (h : (((σ.1 6 5) ≤ v1 → ((0 ≤ (σ.1 6 5) ∧ (σ.1 6 5) < 13) ∧ (∀ τ1, τ1 = sI σ 26 ((σ.1 6 5)).toNat (σ.1 5 6) → Ret (some (vI 1)) τ1))) ∧ (¬ (σ.1 6 5) ≤ v1 → ((0 ≤ v1 ∧ v1 < 13) ∧ (∀ τ2, τ2 = sI σ 26 (v1).toNat (σ.1 5 6) → (r32 (v1 - 1) ∧ conI G wdX d mX6_isPiece [vR 6, vI (v1 - 1), vI v1] τ2 (fun x1 σ1 => ((¬ x1 = 0 → R 61 [vR 5, vI v1, vI v1] [] σ1) ∧ (x1 = 0 → (∀ τ3, τ3 = sI σ1 5 7 (bOr (σ1.1 5 7) (bShl 1 v1)) → R 61 [vR 5, vI v1, vI v1] [] τ3)))))))))) : R 12 [vR 5, vI v1, vN] [] σ := by
  refine r_iload_n hM (pc' := 13) dX5_listLawful_12 rfl (x := v1) rfl ?_
  refine r_aload_n hM (pc' := 14) dX5_listLawful_13 rfl (x := 5) rfl ?_
  refine r_getR hM (pc' := 17) dX5_listLawful_14 rfl fl_X5_39 wx_5 rfl ?_
  refine r_getI hM (pc' := 20) dX5_listLawful_17 rfl fl_X5_47 wx_6 rfl ?_
  refine r_icmp_ge hM (pc' := 23) (tgt := 149) dX5_listLawful_20 rfl (by decide) (fun c => ?_) (fun c => ?_)
  · have h := h.1 c
    refine r_aload_n hM (pc' := 150) dX5_listLawful_149 rfl (x := 5) rfl ?_
    refine r_getR hM (pc' := 153) dX5_listLawful_150 rfl fl_X5_15 wx_5 rfl ?_
    refine r_aload_n hM (pc' := 154) dX5_listLawful_153 rfl (x := 5) rfl ?_
    refine r_getR hM (pc' := 157) dX5_listLawful_154 rfl fl_X5_39 wx_5 rfl ?_
    refine r_getI hM (pc' := 160) dX5_listLawful_157 rfl fl_X5_47 wx_6 rfl ?_
    refine r_aload_n hM (pc' := 161) dX5_listLawful_160 rfl (x := 5) rfl ?_
    refine r_getI hM (pc' := 164) dX5_listLawful_161 rfl fl_X5_25 wx_5 rfl ?_
    have o1 := h.1
    have h := h.2
    refine r_iastore hM (pc' := 165) dX5_listLawful_164 rfl wx_26 o1 (fun τ1 e1 => ?_)
    have h := h τ1 e1
    refine r_iconst hM (pc' := 166) dX5_listLawful_165 rfl (by decide) ?_
    exact r_zreturn hM dX5_listLawful_166 rfl (by decide) h
  · have h := h.2 c
    refine r_aload_n hM (pc' := 24) dX5_listLawful_23 rfl (x := 5) rfl ?_
    refine r_getR hM (pc' := 27) dX5_listLawful_24 rfl fl_X5_15 wx_5 rfl ?_
    refine r_iload_n hM (pc' := 28) dX5_listLawful_27 rfl (x := v1) rfl ?_
    refine r_aload_n hM (pc' := 29) dX5_listLawful_28 rfl (x := 5) rfl ?_
    refine r_getI hM (pc' := 32) dX5_listLawful_29 rfl fl_X5_25 wx_5 rfl ?_
    have o2 := h.1
    have h := h.2
    refine r_iastore hM (pc' := 33) dX5_listLawful_32 rfl wx_26 o2 (fun τ2 e2 => ?_)
    have h := h τ2 e2
    refine r_aload_n hM (pc' := 34) dX5_listLawful_33 rfl (x := 5) rfl ?_
    refine r_getR hM (pc' := 37) dX5_listLawful_34 rfl fl_X5_39 wx_5 rfl ?_
    refine r_iload_n hM (pc' := 38) dX5_listLawful_37 rfl (x := v1) rfl ?_
    refine r_iconst hM (pc' := 39) dX5_listLawful_38 rfl (by decide) ?_
    have o3 := h.1
    have h := h.2
    refine r_isub hM (pc' := 40) dX5_listLawful_39 rfl o3 ?_
    refine r_iload_n hM (pc' := 41) dX5_listLawful_40 rfl (x := v1) rfl ?_
    refine r_callVI hM (pc' := 44) [vI (v1 - 1), vI v1] dX5_listLawful_41 rfl ml_X5_68 wx_6 rfl rfl (Nat.le_of_ble_eq_true rfl) (conI.mono h (fun x1 σ1 h => ?_))
    refine r_if_ne hM (pc' := 47) (tgt := 59) dX5_listLawful_44 rfl (by decide) (fun c => ?_) (fun c => ?_)
    · have h := h.1 c
      refine r_iload_n hM (pc' := 60) dX5_listLawful_59 rfl (x := v1) rfl ?_
      refine r_istore_n hM (pc' := 61) dX5_listLawful_60 rfl (Nat.le_of_ble_eq_true rfl) rfl ?_
      show R 61 [vR 5, vI v1, vI v1] _ _
      exact h
    · have h := h.2 c
      refine r_aload_n hM (pc' := 48) dX5_listLawful_47 rfl (x := 5) rfl ?_
      refine r_dup hM (pc' := 49) dX5_listLawful_48 rfl (fun _ => rfl) ?_
      refine r_getI hM (pc' := 52) dX5_listLawful_49 rfl fl_X5_29 wx_5 rfl ?_
      refine r_iconst hM (pc' := 53) dX5_listLawful_52 rfl (by decide) ?_
      refine r_iload_n hM (pc' := 54) dX5_listLawful_53 rfl (x := v1) rfl ?_
      refine r_ishl hM (pc' := 55) dX5_listLawful_54 rfl ?_
      refine r_ior hM (pc' := 56) dX5_listLawful_55 rfl ?_
      refine r_putI hM (pc' := 59) dX5_listLawful_56 rfl fp_X5_29 wx_5 rfl (fun τ3 e3 => ?_)
      have h := h τ3 e3
      refine r_iload_n hM (pc' := 60) dX5_listLawful_59 rfl (x := v1) rfl ?_
      refine r_istore_n hM (pc' := 61) dX5_listLawful_60 rfl (Nat.le_of_ble_eq_true rfl) rfl ?_
      show R 61 [vR 5, vI v1, vI v1] _ _
      exact h
set_option maxRecDepth 20000 in
theorem g_X5_listLawful_61 {G : GX} {d : Nat} {Ret : Option AV → St → Prop} {R : Nat → List AV → List AV → St → Prop} (hM : AM G wdX (d + 1) mX5_listLawful Ret R) (v1 : Int) (v2 : Int) (σ : St)
    (h : (((σ.1 6 5) ≤ v2 → ((0 ≤ v1 ∧ v1 < 13) ∧ ((¬ (σ.1 5 6) = (σ.1 26 (v1).toNat) → (r32 (v1 + 1) ∧ R 12 [vR 5, vI (v1 + 1), vN] [] σ)) ∧ ((σ.1 5 6) = (σ.1 26 (v1).toNat) → Ret (some (vI 0)) σ)))) ∧ (¬ (σ.1 6 5) ≤ v2 → conI G wdX d mX6_isPiece [vR 6, vI v1, vI v2] σ (fun x1 σ1 => ((x1 = 0 → ((0 ≤ v1 ∧ v1 < 13) ∧ ((¬ (σ1.1 5 6) = (σ1.1 26 (v1).toNat) → (r32 (v1 + 1) ∧ R 12 [vR 5, vI (v1 + 1), vN] [] σ1)) ∧ ((σ1.1 5 6) = (σ1.1 26 (v1).toNat) → Ret (some (vI 0)) σ1)))) ∧ (¬ x1 = 0 → conI G wdX d mX0_brokenByOne [vR 0, vI v1, vI v2] σ1 (fun x2 σ2 => ((x2 = 0 → conI G wdX d mX5_bits [vI v1, vI v2] σ2 (fun x3 σ3 => conI G wdX d mX5_packed [vI x3, vI v2, vI 15, vI 15] σ3 (fun x4 σ4 => conV G wdX d mX5_list [vR 5, vI x4] σ4 (fun σ5 => conV G wdX d mX5_listSeconds [vR 5, vI v1, vI v2] σ5 (fun σ6 => (r32 (v2 + 1) ∧ R 61 [vR 5, vI v1, vI (v2 + 1)] [] σ6)))))) ∧ (¬ x2 = 0 → ((0 ≤ v1 ∧ v1 < 13) ∧ ((¬ (σ2.1 5 6) = (σ2.1 26 (v1).toNat) → (r32 (v1 + 1) ∧ R 12 [vR 5, vI (v1 + 1), vN] [] σ2)) ∧ ((σ2.1 5 6) = (σ2.1 26 (v1).toNat) → Ret (some (vI 0)) σ2)))))))))))) : R 61 [vR 5, vI v1, vI v2] [] σ := by
  refine r_iload_n hM (pc' := 62) dX5_listLawful_61 rfl (x := v2) rfl ?_
  refine r_aload_n hM (pc' := 63) dX5_listLawful_62 rfl (x := 5) rfl ?_
  refine r_getR hM (pc' := 66) dX5_listLawful_63 rfl fl_X5_39 wx_5 rfl ?_
  refine r_getI hM (pc' := 69) dX5_listLawful_66 rfl fl_X5_47 wx_6 rfl ?_
  refine r_icmp_ge hM (pc' := 72) (tgt := 128) dX5_listLawful_69 rfl (by decide) (fun c => ?_) (fun c => ?_)
  · have h := h.1 c
    refine r_aload_n hM (pc' := 129) dX5_listLawful_128 rfl (x := 5) rfl ?_
    refine r_getI hM (pc' := 132) dX5_listLawful_129 rfl fl_X5_25 wx_5 rfl ?_
    refine r_aload_n hM (pc' := 133) dX5_listLawful_132 rfl (x := 5) rfl ?_
    refine r_getR hM (pc' := 136) dX5_listLawful_133 rfl fl_X5_15 wx_5 rfl ?_
    refine r_iload_n hM (pc' := 137) dX5_listLawful_136 rfl (x := v1) rfl ?_
    have o1 := h.1
    have h := h.2
    refine r_iaload hM (pc' := 138) dX5_listLawful_137 rfl wx_26 o1 ?_
    refine r_icmp_ne hM (pc' := 141) (tgt := 143) dX5_listLawful_138 rfl (by decide) (fun c => ?_) (fun c => ?_)
    · have h := h.1 c
      have o2 := h.1
      have h := h.2
      refine r_iinc hM (pc' := 146) dX5_listLawful_143 rfl (x := v1) rfl rfl o2 ?_
      show R 146 [vR 5, vI (v1 + 1), vI v2] _ _
      refine r_goto hM (tgt := 12) dX5_listLawful_146 (by decide) ?_
      refine r_weak hM (ls' := [vR 5, vI (v1 + 1), vN]) ⟨Or.inl rfl, Or.inl rfl, Or.inr rfl, trivial⟩ ?_
      exact h
    · have h := h.2 c
      refine r_iconst hM (pc' := 142) dX5_listLawful_141 rfl (by decide) ?_
      exact r_zreturn hM dX5_listLawful_142 rfl (by decide) h
  · have h := h.2 c
    refine r_aload_n hM (pc' := 73) dX5_listLawful_72 rfl (x := 5) rfl ?_
    refine r_getR hM (pc' := 76) dX5_listLawful_73 rfl fl_X5_39 wx_5 rfl ?_
    refine r_iload_n hM (pc' := 77) dX5_listLawful_76 rfl (x := v1) rfl ?_
    refine r_iload_n hM (pc' := 78) dX5_listLawful_77 rfl (x := v2) rfl ?_
    refine r_callVI hM (pc' := 81) [vI v1, vI v2] dX5_listLawful_78 rfl ml_X5_68 wx_6 rfl rfl (Nat.le_of_ble_eq_true rfl) (conI.mono h (fun x1 σ1 h => ?_))
    refine r_if_eq hM (pc' := 84) (tgt := 128) dX5_listLawful_81 rfl (by decide) (fun c => ?_) (fun c => ?_)
    · have h := h.1 c
      refine r_aload_n hM (pc' := 129) dX5_listLawful_128 rfl (x := 5) rfl ?_
      refine r_getI hM (pc' := 132) dX5_listLawful_129 rfl fl_X5_25 wx_5 rfl ?_
      refine r_aload_n hM (pc' := 133) dX5_listLawful_132 rfl (x := 5) rfl ?_
      refine r_getR hM (pc' := 136) dX5_listLawful_133 rfl fl_X5_15 wx_5 rfl ?_
      refine r_iload_n hM (pc' := 137) dX5_listLawful_136 rfl (x := v1) rfl ?_
      have o3 := h.1
      have h := h.2
      refine r_iaload hM (pc' := 138) dX5_listLawful_137 rfl wx_26 o3 ?_
      refine r_icmp_ne hM (pc' := 141) (tgt := 143) dX5_listLawful_138 rfl (by decide) (fun c => ?_) (fun c => ?_)
      · have h := h.1 c
        have o4 := h.1
        have h := h.2
        refine r_iinc hM (pc' := 146) dX5_listLawful_143 rfl (x := v1) rfl rfl o4 ?_
        show R 146 [vR 5, vI (v1 + 1), vI v2] _ _
        refine r_goto hM (tgt := 12) dX5_listLawful_146 (by decide) ?_
        refine r_weak hM (ls' := [vR 5, vI (v1 + 1), vN]) ⟨Or.inl rfl, Or.inl rfl, Or.inr rfl, trivial⟩ ?_
        exact h
      · have h := h.2 c
        refine r_iconst hM (pc' := 142) dX5_listLawful_141 rfl (by decide) ?_
        exact r_zreturn hM dX5_listLawful_142 rfl (by decide) h
    · have h := h.2 c
      refine r_aload_n hM (pc' := 85) dX5_listLawful_84 rfl (x := 5) rfl ?_
      refine r_getR hM (pc' := 88) dX5_listLawful_85 rfl fl_X5_43 wx_5 rfl ?_
      refine r_iload_n hM (pc' := 89) dX5_listLawful_88 rfl (x := v1) rfl ?_
      refine r_iload_n hM (pc' := 90) dX5_listLawful_89 rfl (x := v2) rfl ?_
      refine r_callVI hM (pc' := 93) [vI v1, vI v2] dX5_listLawful_90 rfl ml_X5_72 wx_0 rfl rfl (Nat.le_of_ble_eq_true rfl) (conI.mono h (fun x2 σ2 h => ?_))
      refine r_if_eq hM (pc' := 96) (tgt := 99) dX5_listLawful_93 rfl (by decide) (fun c => ?_) (fun c => ?_)
      · have h := h.1 c
        refine r_aload_n hM (pc' := 100) dX5_listLawful_99 rfl (x := 5) rfl ?_
        refine r_iload_n hM (pc' := 101) dX5_listLawful_100 rfl (x := v1) rfl ?_
        refine r_iload_n hM (pc' := 102) dX5_listLawful_101 rfl (x := v2) rfl ?_
        refine r_callSI hM (pc' := 105) [vI v1, vI v2] dX5_listLawful_102 rfl ml_X5_77 rfl rfl (Nat.le_of_ble_eq_true rfl) (conI.mono h (fun x3 σ3 h => ?_))
        refine r_iload_n hM (pc' := 106) dX5_listLawful_105 rfl (x := v2) rfl ?_
        refine r_bipush hM (pc' := 108) dX5_listLawful_106 rfl (by decide) (by decide) ?_
        refine r_bipush hM (pc' := 110) dX5_listLawful_108 rfl (by decide) (by decide) ?_
        refine r_callSI hM (pc' := 113) [vI x3, vI v2, vI 15, vI 15] dX5_listLawful_110 rfl ml_X5_80 rfl rfl (Nat.le_of_ble_eq_true rfl) (conI.mono h (fun x4 σ4 h => ?_))
        refine r_callVV hM (pc' := 116) [vI x4] dX5_listLawful_113 rfl ml_X5_84 wx_5 rfl rfl (Nat.le_of_ble_eq_true rfl) (conV.mono h (fun σ5 h => ?_))
        refine r_aload_n hM (pc' := 117) dX5_listLawful_116 rfl (x := 5) rfl ?_
        refine r_iload_n hM (pc' := 118) dX5_listLawful_117 rfl (x := v1) rfl ?_
        refine r_iload_n hM (pc' := 119) dX5_listLawful_118 rfl (x := v2) rfl ?_
        refine r_callVV hM (pc' := 122) [vI v1, vI v2] dX5_listLawful_119 rfl ml_X5_88 wx_5 rfl rfl (Nat.le_of_ble_eq_true rfl) (conV.mono h (fun σ6 h => ?_))
        have o5 := h.1
        have h := h.2
        refine r_iinc hM (pc' := 125) dX5_listLawful_122 rfl (x := v2) rfl rfl o5 ?_
        show R 125 [vR 5, vI v1, vI (v2 + 1)] _ _
        refine r_goto hM (tgt := 61) dX5_listLawful_125 (by decide) ?_
        exact h
      · have h := h.2 c
        refine r_goto hM (tgt := 128) dX5_listLawful_96 (by decide) ?_
        refine r_aload_n hM (pc' := 129) dX5_listLawful_128 rfl (x := 5) rfl ?_
        refine r_getI hM (pc' := 132) dX5_listLawful_129 rfl fl_X5_25 wx_5 rfl ?_
        refine r_aload_n hM (pc' := 133) dX5_listLawful_132 rfl (x := 5) rfl ?_
        refine r_getR hM (pc' := 136) dX5_listLawful_133 rfl fl_X5_15 wx_5 rfl ?_
        refine r_iload_n hM (pc' := 137) dX5_listLawful_136 rfl (x := v1) rfl ?_
        have o6 := h.1
        have h := h.2
        refine r_iaload hM (pc' := 138) dX5_listLawful_137 rfl wx_26 o6 ?_
        refine r_icmp_ne hM (pc' := 141) (tgt := 143) dX5_listLawful_138 rfl (by decide) (fun c => ?_) (fun c => ?_)
        · have h := h.1 c
          have o7 := h.1
          have h := h.2
          refine r_iinc hM (pc' := 146) dX5_listLawful_143 rfl (x := v1) rfl rfl o7 ?_
          show R 146 [vR 5, vI (v1 + 1), vI v2] _ _
          refine r_goto hM (tgt := 12) dX5_listLawful_146 (by decide) ?_
          refine r_weak hM (ls' := [vR 5, vI (v1 + 1), vN]) ⟨Or.inl rfl, Or.inl rfl, Or.inr rfl, trivial⟩ ?_
          exact h
        · have h := h.2 c
          refine r_iconst hM (pc' := 142) dX5_listLawful_141 rfl (by decide) ?_
          exact r_zreturn hM dX5_listLawful_142 rfl (by decide) h
theorem dX5_listSeconds_0 : decode cX5_listSeconds 0 = .ok (.iload_n 2, 1) := by decide +kernel
theorem dX5_listSeconds_1 : decode cX5_listSeconds 1 = .ok (.iconst 1, 1) := by decide +kernel
theorem dX5_listSeconds_2 : decode cX5_listSeconds 2 = .ok (.iadd, 1) := by decide +kernel
theorem dX5_listSeconds_3 : decode cX5_listSeconds 3 = .ok (.istore_n 3, 1) := by decide +kernel
theorem dX5_listSeconds_4 : decode cX5_listSeconds 4 = .ok (.iload_n 3, 1) := by decide +kernel
theorem dX5_listSeconds_5 : decode cX5_listSeconds 5 = .ok (.aload_n 0, 1) := by decide +kernel
theorem dX5_listSeconds_6 : decode cX5_listSeconds 6 = .ok (.getfield 39, 3) := by decide +kernel
theorem dX5_listSeconds_9 : decode cX5_listSeconds 9 = .ok (.getfield 47, 3) := by decide +kernel
theorem dX5_listSeconds_12 : decode cX5_listSeconds 12 = .ok (.if_icmp .ge 81, 3) := by decide +kernel
theorem dX5_listSeconds_15 : decode cX5_listSeconds 15 = .ok (.iload_n 3, 1) := by decide +kernel
theorem dX5_listSeconds_16 : decode cX5_listSeconds 16 = .ok (.istore 4, 2) := by decide +kernel
theorem dX5_listSeconds_18 : decode cX5_listSeconds 18 = .ok (.iload 4, 2) := by decide +kernel
theorem dX5_listSeconds_20 : decode cX5_listSeconds 20 = .ok (.aload_n 0, 1) := by decide +kernel
theorem dX5_listSeconds_21 : decode cX5_listSeconds 21 = .ok (.getfield 39, 3) := by decide +kernel
theorem dX5_listSeconds_24 : decode cX5_listSeconds 24 = .ok (.getfield 47, 3) := by decide +kernel
theorem dX5_listSeconds_27 : decode cX5_listSeconds 27 = .ok (.if_icmp .ge 60, 3) := by decide +kernel
theorem dX5_listSeconds_30 : decode cX5_listSeconds 30 = .ok (.aload_n 0, 1) := by decide +kernel
theorem dX5_listSeconds_31 : decode cX5_listSeconds 31 = .ok (.getfield 39, 3) := by decide +kernel
theorem dX5_listSeconds_34 : decode cX5_listSeconds 34 = .ok (.iload_n 3, 1) := by decide +kernel
theorem dX5_listSeconds_35 : decode cX5_listSeconds 35 = .ok (.iload 4, 2) := by decide +kernel
theorem dX5_listSeconds_37 : decode cX5_listSeconds 37 = .ok (.invokevirtual 68, 3) := by decide +kernel
theorem dX5_listSeconds_40 : decode cX5_listSeconds 40 = .ok (.ifCond .eq 41, 3) := by decide +kernel
theorem dX5_listSeconds_43 : decode cX5_listSeconds 43 = .ok (.aload_n 0, 1) := by decide +kernel
theorem dX5_listSeconds_44 : decode cX5_listSeconds 44 = .ok (.getfield 43, 3) := by decide +kernel
theorem dX5_listSeconds_47 : decode cX5_listSeconds 47 = .ok (.iload_n 1, 1) := by decide +kernel
theorem dX5_listSeconds_48 : decode cX5_listSeconds 48 = .ok (.iload_n 2, 1) := by decide +kernel
theorem dX5_listSeconds_49 : decode cX5_listSeconds 49 = .ok (.iload_n 3, 1) := by decide +kernel
theorem dX5_listSeconds_50 : decode cX5_listSeconds 50 = .ok (.iload 4, 2) := by decide +kernel
theorem dX5_listSeconds_52 : decode cX5_listSeconds 52 = .ok (.invokevirtual 92, 3) := by decide +kernel
theorem dX5_listSeconds_55 : decode cX5_listSeconds 55 = .ok (.ifCond .ne 26, 3) := by decide +kernel
theorem dX5_listSeconds_58 : decode cX5_listSeconds 58 = .ok (.aload_n 0, 1) := by decide +kernel
theorem dX5_listSeconds_59 : decode cX5_listSeconds 59 = .ok (.iload_n 1, 1) := by decide +kernel
theorem dX5_listSeconds_60 : decode cX5_listSeconds 60 = .ok (.iload_n 2, 1) := by decide +kernel
theorem dX5_listSeconds_61 : decode cX5_listSeconds 61 = .ok (.invokestatic 77, 3) := by decide +kernel
theorem dX5_listSeconds_64 : decode cX5_listSeconds 64 = .ok (.iload_n 3, 1) := by decide +kernel
theorem dX5_listSeconds_65 : decode cX5_listSeconds 65 = .ok (.iload 4, 2) := by decide +kernel
theorem dX5_listSeconds_67 : decode cX5_listSeconds 67 = .ok (.invokestatic 77, 3) := by decide +kernel
theorem dX5_listSeconds_70 : decode cX5_listSeconds 70 = .ok (.ior, 1) := by decide +kernel
theorem dX5_listSeconds_71 : decode cX5_listSeconds 71 = .ok (.iload_n 2, 1) := by decide +kernel
theorem dX5_listSeconds_72 : decode cX5_listSeconds 72 = .ok (.iload_n 3, 1) := by decide +kernel
theorem dX5_listSeconds_73 : decode cX5_listSeconds 73 = .ok (.iload 4, 2) := by decide +kernel
theorem dX5_listSeconds_75 : decode cX5_listSeconds 75 = .ok (.invokestatic 80, 3) := by decide +kernel
theorem dX5_listSeconds_78 : decode cX5_listSeconds 78 = .ok (.invokevirtual 84, 3) := by decide +kernel
theorem dX5_listSeconds_81 : decode cX5_listSeconds 81 = .ok (.iinc 4 1, 3) := by decide +kernel
theorem dX5_listSeconds_84 : decode cX5_listSeconds 84 = .ok (.goto (-66), 3) := by decide +kernel
theorem dX5_listSeconds_87 : decode cX5_listSeconds 87 = .ok (.iinc 3 1, 3) := by decide +kernel
theorem dX5_listSeconds_90 : decode cX5_listSeconds 90 = .ok (.goto (-86), 3) := by decide +kernel
theorem dX5_listSeconds_93 : decode cX5_listSeconds 93 = .ok (.return_, 1) := by decide +kernel
set_option maxRecDepth 20000 in
theorem g_X5_listSeconds_0 {G : GX} {d : Nat} {Ret : Option AV → St → Prop} {R : Nat → List AV → List AV → St → Prop} (hM : AM G wdX (d + 1) mX5_listSeconds Ret R) (v1 : Int) (v2 : Int) (σ : St)
    (h : (r32 (v2 + 1) ∧ R 4 [vR 5, vI v1, vI v2, vI (v2 + 1), vN] [] σ)) : R 0 [vR 5, vI v1, vI v2, vN, vN] [] σ := by
  refine r_iload_n hM (pc' := 1) dX5_listSeconds_0 rfl (x := v2) rfl ?_
  refine r_iconst hM (pc' := 2) dX5_listSeconds_1 rfl (by decide) ?_
  have o1 := h.1
  have h := h.2
  refine r_iadd hM (pc' := 3) dX5_listSeconds_2 rfl o1 ?_
  refine r_istore_n hM (pc' := 4) dX5_listSeconds_3 rfl (Nat.le_of_ble_eq_true rfl) rfl ?_
  show R 4 [vR 5, vI v1, vI v2, vI (v2 + 1), vN] _ _
  exact h
set_option maxRecDepth 20000 in
theorem g_X5_listSeconds_4 {G : GX} {d : Nat} {Ret : Option AV → St → Prop} {R : Nat → List AV → List AV → St → Prop} (hM : AM G wdX (d + 1) mX5_listSeconds Ret R) (v1 : Int) (v2 : Int) (v3 : Int) (σ : St)
    (h : (((σ.1 6 5) ≤ v3 → Ret none σ) ∧ (¬ (σ.1 6 5) ≤ v3 → R 18 [vR 5, vI v1, vI v2, vI v3, vI v3] [] σ))) : R 4 [vR 5, vI v1, vI v2, vI v3, vN] [] σ := by
  refine r_iload_n hM (pc' := 5) dX5_listSeconds_4 rfl (x := v3) rfl ?_
  refine r_aload_n hM (pc' := 6) dX5_listSeconds_5 rfl (x := 5) rfl ?_
  refine r_getR hM (pc' := 9) dX5_listSeconds_6 rfl fl_X5_39 wx_5 rfl ?_
  refine r_getI hM (pc' := 12) dX5_listSeconds_9 rfl fl_X5_47 wx_6 rfl ?_
  refine r_icmp_ge hM (pc' := 15) (tgt := 93) dX5_listSeconds_12 rfl (by decide) (fun c => ?_) (fun c => ?_)
  · have h := h.1 c
    exact r_return hM dX5_listSeconds_93 rfl h
  · have h := h.2 c
    refine r_iload_n hM (pc' := 16) dX5_listSeconds_15 rfl (x := v3) rfl ?_
    refine r_istore hM (pc' := 18) dX5_listSeconds_16 rfl (Nat.le_of_ble_eq_true rfl) rfl ?_
    show R 18 [vR 5, vI v1, vI v2, vI v3, vI v3] _ _
    exact h
set_option maxRecDepth 20000 in
theorem g_X5_listSeconds_18 {G : GX} {d : Nat} {Ret : Option AV → St → Prop} {R : Nat → List AV → List AV → St → Prop} (hM : AM G wdX (d + 1) mX5_listSeconds Ret R) (v1 : Int) (v2 : Int) (v3 : Int) (v4 : Int) (σ : St)
    (h : (((σ.1 6 5) ≤ v4 → (r32 (v3 + 1) ∧ R 4 [vR 5, vI v1, vI v2, vI (v3 + 1), vN] [] σ)) ∧ (¬ (σ.1 6 5) ≤ v4 → conI G wdX d mX6_isPiece [vR 6, vI v3, vI v4] σ (fun x1 σ1 => ((x1 = 0 → (r32 (v4 + 1) ∧ R 18 [vR 5, vI v1, vI v2, vI v3, vI (v4 + 1)] [] σ1)) ∧ (¬ x1 = 0 → conI G wdX d mX0_brokenByTwo [vR 0, vI v1, vI v2, vI v3, vI v4] σ1 (fun x2 σ2 => ((¬ x2 = 0 → (r32 (v4 + 1) ∧ R 18 [vR 5, vI v1, vI v2, vI v3, vI (v4 + 1)] [] σ2)) ∧ (x2 = 0 → conI G wdX d mX5_bits [vI v1, vI v2] σ2 (fun x3 σ3 => conI G wdX d mX5_bits [vI v3, vI v4] σ3 (fun x4 σ4 => conI G wdX d mX5_packed [vI (bOr x3 x4), vI v2, vI v3, vI v4] σ4 (fun x5 σ5 => conV G wdX d mX5_list [vR 5, vI x5] σ5 (fun σ6 => (r32 (v4 + 1) ∧ R 18 [vR 5, vI v1, vI v2, vI v3, vI (v4 + 1)] [] σ6)))))))))))))) : R 18 [vR 5, vI v1, vI v2, vI v3, vI v4] [] σ := by
  refine r_iload hM (pc' := 20) dX5_listSeconds_18 rfl (x := v4) rfl ?_
  refine r_aload_n hM (pc' := 21) dX5_listSeconds_20 rfl (x := 5) rfl ?_
  refine r_getR hM (pc' := 24) dX5_listSeconds_21 rfl fl_X5_39 wx_5 rfl ?_
  refine r_getI hM (pc' := 27) dX5_listSeconds_24 rfl fl_X5_47 wx_6 rfl ?_
  refine r_icmp_ge hM (pc' := 30) (tgt := 87) dX5_listSeconds_27 rfl (by decide) (fun c => ?_) (fun c => ?_)
  · have h := h.1 c
    have o1 := h.1
    have h := h.2
    refine r_iinc hM (pc' := 90) dX5_listSeconds_87 rfl (x := v3) rfl rfl o1 ?_
    show R 90 [vR 5, vI v1, vI v2, vI (v3 + 1), vI v4] _ _
    refine r_goto hM (tgt := 4) dX5_listSeconds_90 (by decide) ?_
    refine r_weak hM (ls' := [vR 5, vI v1, vI v2, vI (v3 + 1), vN]) ⟨Or.inl rfl, Or.inl rfl, Or.inl rfl, Or.inl rfl, Or.inr rfl, trivial⟩ ?_
    exact h
  · have h := h.2 c
    refine r_aload_n hM (pc' := 31) dX5_listSeconds_30 rfl (x := 5) rfl ?_
    refine r_getR hM (pc' := 34) dX5_listSeconds_31 rfl fl_X5_39 wx_5 rfl ?_
    refine r_iload_n hM (pc' := 35) dX5_listSeconds_34 rfl (x := v3) rfl ?_
    refine r_iload hM (pc' := 37) dX5_listSeconds_35 rfl (x := v4) rfl ?_
    refine r_callVI hM (pc' := 40) [vI v3, vI v4] dX5_listSeconds_37 rfl ml_X5_68 wx_6 rfl rfl (Nat.le_of_ble_eq_true rfl) (conI.mono h (fun x1 σ1 h => ?_))
    refine r_if_eq hM (pc' := 43) (tgt := 81) dX5_listSeconds_40 rfl (by decide) (fun c => ?_) (fun c => ?_)
    · have h := h.1 c
      have o2 := h.1
      have h := h.2
      refine r_iinc hM (pc' := 84) dX5_listSeconds_81 rfl (x := v4) rfl rfl o2 ?_
      show R 84 [vR 5, vI v1, vI v2, vI v3, vI (v4 + 1)] _ _
      refine r_goto hM (tgt := 18) dX5_listSeconds_84 (by decide) ?_
      exact h
    · have h := h.2 c
      refine r_aload_n hM (pc' := 44) dX5_listSeconds_43 rfl (x := 5) rfl ?_
      refine r_getR hM (pc' := 47) dX5_listSeconds_44 rfl fl_X5_43 wx_5 rfl ?_
      refine r_iload_n hM (pc' := 48) dX5_listSeconds_47 rfl (x := v1) rfl ?_
      refine r_iload_n hM (pc' := 49) dX5_listSeconds_48 rfl (x := v2) rfl ?_
      refine r_iload_n hM (pc' := 50) dX5_listSeconds_49 rfl (x := v3) rfl ?_
      refine r_iload hM (pc' := 52) dX5_listSeconds_50 rfl (x := v4) rfl ?_
      refine r_callVI hM (pc' := 55) [vI v1, vI v2, vI v3, vI v4] dX5_listSeconds_52 rfl ml_X5_92 wx_0 rfl rfl (Nat.le_of_ble_eq_true rfl) (conI.mono h (fun x2 σ2 h => ?_))
      refine r_if_ne hM (pc' := 58) (tgt := 81) dX5_listSeconds_55 rfl (by decide) (fun c => ?_) (fun c => ?_)
      · have h := h.1 c
        have o3 := h.1
        have h := h.2
        refine r_iinc hM (pc' := 84) dX5_listSeconds_81 rfl (x := v4) rfl rfl o3 ?_
        show R 84 [vR 5, vI v1, vI v2, vI v3, vI (v4 + 1)] _ _
        refine r_goto hM (tgt := 18) dX5_listSeconds_84 (by decide) ?_
        exact h
      · have h := h.2 c
        refine r_aload_n hM (pc' := 59) dX5_listSeconds_58 rfl (x := 5) rfl ?_
        refine r_iload_n hM (pc' := 60) dX5_listSeconds_59 rfl (x := v1) rfl ?_
        refine r_iload_n hM (pc' := 61) dX5_listSeconds_60 rfl (x := v2) rfl ?_
        refine r_callSI hM (pc' := 64) [vI v1, vI v2] dX5_listSeconds_61 rfl ml_X5_77 rfl rfl (Nat.le_of_ble_eq_true rfl) (conI.mono h (fun x3 σ3 h => ?_))
        refine r_iload_n hM (pc' := 65) dX5_listSeconds_64 rfl (x := v3) rfl ?_
        refine r_iload hM (pc' := 67) dX5_listSeconds_65 rfl (x := v4) rfl ?_
        refine r_callSI hM (pc' := 70) [vI v3, vI v4] dX5_listSeconds_67 rfl ml_X5_77 rfl rfl (Nat.le_of_ble_eq_true rfl) (conI.mono h (fun x4 σ4 h => ?_))
        refine r_ior hM (pc' := 71) dX5_listSeconds_70 rfl ?_
        refine r_iload_n hM (pc' := 72) dX5_listSeconds_71 rfl (x := v2) rfl ?_
        refine r_iload_n hM (pc' := 73) dX5_listSeconds_72 rfl (x := v3) rfl ?_
        refine r_iload hM (pc' := 75) dX5_listSeconds_73 rfl (x := v4) rfl ?_
        refine r_callSI hM (pc' := 78) [vI (bOr x3 x4), vI v2, vI v3, vI v4] dX5_listSeconds_75 rfl ml_X5_80 rfl rfl (Nat.le_of_ble_eq_true rfl) (conI.mono h (fun x5 σ5 h => ?_))
        refine r_callVV hM (pc' := 81) [vI x5] dX5_listSeconds_78 rfl ml_X5_84 wx_5 rfl rfl (Nat.le_of_ble_eq_true rfl) (conV.mono h (fun σ6 h => ?_))
        have o4 := h.1
        have h := h.2
        refine r_iinc hM (pc' := 84) dX5_listSeconds_81 rfl (x := v4) rfl rfl o4 ?_
        show R 84 [vR 5, vI v1, vI v2, vI v3, vI (v4 + 1)] _ _
        refine r_goto hM (tgt := 18) dX5_listSeconds_84 (by decide) ?_
        exact h
theorem dX5_packed_0 : decode cX5_packed 0 = .ok (.iload_n 0, 1) := by decide +kernel
theorem dX5_packed_1 : decode cX5_packed 1 = .ok (.iload_n 1, 1) := by decide +kernel
theorem dX5_packed_2 : decode cX5_packed 2 = .ok (.bipush 12, 2) := by decide +kernel
theorem dX5_packed_4 : decode cX5_packed 4 = .ok (.ishl, 1) := by decide +kernel
theorem dX5_packed_5 : decode cX5_packed 5 = .ok (.ior, 1) := by decide +kernel
theorem dX5_packed_6 : decode cX5_packed 6 = .ok (.iload_n 2, 1) := by decide +kernel
theorem dX5_packed_7 : decode cX5_packed 7 = .ok (.bipush 16, 2) := by decide +kernel
theorem dX5_packed_9 : decode cX5_packed 9 = .ok (.ishl, 1) := by decide +kernel
theorem dX5_packed_10 : decode cX5_packed 10 = .ok (.ior, 1) := by decide +kernel
theorem dX5_packed_11 : decode cX5_packed 11 = .ok (.iload_n 3, 1) := by decide +kernel
theorem dX5_packed_12 : decode cX5_packed 12 = .ok (.bipush 20, 2) := by decide +kernel
theorem dX5_packed_14 : decode cX5_packed 14 = .ok (.ishl, 1) := by decide +kernel
theorem dX5_packed_15 : decode cX5_packed 15 = .ok (.ior, 1) := by decide +kernel
theorem dX5_packed_16 : decode cX5_packed 16 = .ok (.ireturn, 1) := by decide +kernel
set_option maxRecDepth 20000 in
theorem g_X5_packed_0 {G : GX} {d : Nat} {Ret : Option AV → St → Prop} {R : Nat → List AV → List AV → St → Prop} (hM : AM G wdX d mX5_packed Ret R) (v0 : Int) (v1 : Int) (v2 : Int) (v3 : Int) (σ : St)
    (h : Ret (some (vI (bOr (bOr (bOr v0 (bShl v1 12)) (bShl v2 16)) (bShl v3 20)))) σ) : R 0 [vI v0, vI v1, vI v2, vI v3] [] σ := by
  refine r_iload_n hM (pc' := 1) dX5_packed_0 rfl (x := v0) rfl ?_
  refine r_iload_n hM (pc' := 2) dX5_packed_1 rfl (x := v1) rfl ?_
  refine r_bipush hM (pc' := 4) dX5_packed_2 rfl (by decide) (by decide) ?_
  refine r_ishl hM (pc' := 5) dX5_packed_4 rfl ?_
  refine r_ior hM (pc' := 6) dX5_packed_5 rfl ?_
  refine r_iload_n hM (pc' := 7) dX5_packed_6 rfl (x := v2) rfl ?_
  refine r_bipush hM (pc' := 9) dX5_packed_7 rfl (by decide) (by decide) ?_
  refine r_ishl hM (pc' := 10) dX5_packed_9 rfl ?_
  refine r_ior hM (pc' := 11) dX5_packed_10 rfl ?_
  refine r_iload_n hM (pc' := 12) dX5_packed_11 rfl (x := v3) rfl ?_
  refine r_bipush hM (pc' := 14) dX5_packed_12 rfl (by decide) (by decide) ?_
  refine r_ishl hM (pc' := 15) dX5_packed_14 rfl ?_
  refine r_ior hM (pc' := 16) dX5_packed_15 rfl ?_
  exact r_ireturn hM dX5_packed_16 rfl h
theorem dX5_list_0 : decode cX5_list 0 = .ok (.aload_n 0, 1) := by decide +kernel
theorem dX5_list_1 : decode cX5_list 1 = .ok (.getfield 25, 3) := by decide +kernel
theorem dX5_list_4 : decode cX5_list 4 = .ok (.sipush 1079, 3) := by decide +kernel
theorem dX5_list_7 : decode cX5_list 7 = .ok (.if_icmp .ge 23, 3) := by decide +kernel
theorem dX5_list_10 : decode cX5_list 10 = .ok (.aload_n 0, 1) := by decide +kernel
theorem dX5_list_11 : decode cX5_list 11 = .ok (.getfield 11, 3) := by decide +kernel
theorem dX5_list_14 : decode cX5_list 14 = .ok (.aload_n 0, 1) := by decide +kernel
theorem dX5_list_15 : decode cX5_list 15 = .ok (.getfield 25, 3) := by decide +kernel
theorem dX5_list_18 : decode cX5_list 18 = .ok (.iload_n 1, 1) := by decide +kernel
theorem dX5_list_19 : decode cX5_list 19 = .ok (.iastore, 1) := by decide +kernel
theorem dX5_list_20 : decode cX5_list 20 = .ok (.aload_n 0, 1) := by decide +kernel
theorem dX5_list_21 : decode cX5_list 21 = .ok (.dup, 1) := by decide +kernel
theorem dX5_list_22 : decode cX5_list 22 = .ok (.getfield 25, 3) := by decide +kernel
theorem dX5_list_25 : decode cX5_list 25 = .ok (.iconst 1, 1) := by decide +kernel
theorem dX5_list_26 : decode cX5_list 26 = .ok (.iadd, 1) := by decide +kernel
theorem dX5_list_27 : decode cX5_list 27 = .ok (.putfield 25, 3) := by decide +kernel
theorem dX5_list_30 : decode cX5_list 30 = .ok (.return_, 1) := by decide +kernel
set_option maxRecDepth 20000 in
theorem g_X5_list_0 {G : GX} {d : Nat} {Ret : Option AV → St → Prop} {R : Nat → List AV → List AV → St → Prop} (hM : AM G wdX d mX5_list Ret R) (v1 : Int) (σ : St)
    (h : ((1079 ≤ (σ.1 5 6) → Ret none σ) ∧ (¬ 1079 ≤ (σ.1 5 6) → ((0 ≤ (σ.1 5 6) ∧ (σ.1 5 6) < 1079) ∧ (∀ τ1, τ1 = sI σ 25 ((σ.1 5 6)).toNat v1 → (r32 ((τ1.1 5 6) + 1) ∧ (∀ τ2, τ2 = sI τ1 5 6 ((τ1.1 5 6) + 1) → Ret none τ2))))))) : R 0 [vR 5, vI v1] [] σ := by
  refine r_aload_n hM (pc' := 1) dX5_list_0 rfl (x := 5) rfl ?_
  refine r_getI hM (pc' := 4) dX5_list_1 rfl fl_X5_25 wx_5 rfl ?_
  refine r_sipush hM (pc' := 7) dX5_list_4 rfl (by decide) (by decide) ?_
  refine r_icmp_ge hM (pc' := 10) (tgt := 30) dX5_list_7 rfl (by decide) (fun c => ?_) (fun c => ?_)
  · have h := h.1 c
    exact r_return hM dX5_list_30 rfl h
  · have h := h.2 c
    refine r_aload_n hM (pc' := 11) dX5_list_10 rfl (x := 5) rfl ?_
    refine r_getR hM (pc' := 14) dX5_list_11 rfl fl_X5_11 wx_5 rfl ?_
    refine r_aload_n hM (pc' := 15) dX5_list_14 rfl (x := 5) rfl ?_
    refine r_getI hM (pc' := 18) dX5_list_15 rfl fl_X5_25 wx_5 rfl ?_
    refine r_iload_n hM (pc' := 19) dX5_list_18 rfl (x := v1) rfl ?_
    have o1 := h.1
    have h := h.2
    refine r_iastore hM (pc' := 20) dX5_list_19 rfl wx_25 o1 (fun τ1 e1 => ?_)
    have h := h τ1 e1
    refine r_aload_n hM (pc' := 21) dX5_list_20 rfl (x := 5) rfl ?_
    refine r_dup hM (pc' := 22) dX5_list_21 rfl (fun _ => rfl) ?_
    refine r_getI hM (pc' := 25) dX5_list_22 rfl fl_X5_25 wx_5 rfl ?_
    refine r_iconst hM (pc' := 26) dX5_list_25 rfl (by decide) ?_
    have o2 := h.1
    have h := h.2
    refine r_iadd hM (pc' := 27) dX5_list_26 rfl o2 ?_
    refine r_putI hM (pc' := 30) dX5_list_27 rfl fp_X5_25 wx_5 rfl (fun τ2 e2 => ?_)
    have h := h τ2 e2
    exact r_return hM dX5_list_30 rfl h
theorem dX5_bits_0 : decode cX5_bits 0 = .ok (.iconst 2, 1) := by decide +kernel
theorem dX5_bits_1 : decode cX5_bits 1 = .ok (.iload_n 1, 1) := by decide +kernel
theorem dX5_bits_2 : decode cX5_bits 2 = .ok (.ishl, 1) := by decide +kernel
theorem dX5_bits_3 : decode cX5_bits 3 = .ok (.iconst 1, 1) := by decide +kernel
theorem dX5_bits_4 : decode cX5_bits 4 = .ok (.iload_n 0, 1) := by decide +kernel
theorem dX5_bits_5 : decode cX5_bits 5 = .ok (.ishl, 1) := by decide +kernel
theorem dX5_bits_6 : decode cX5_bits 6 = .ok (.isub, 1) := by decide +kernel
theorem dX5_bits_7 : decode cX5_bits 7 = .ok (.ireturn, 1) := by decide +kernel
set_option maxRecDepth 20000 in
theorem g_X5_bits_0 {G : GX} {d : Nat} {Ret : Option AV → St → Prop} {R : Nat → List AV → List AV → St → Prop} (hM : AM G wdX d mX5_bits Ret R) (v0 : Int) (v1 : Int) (σ : St)
    (h : (r32 ((bShl 2 v1) - (bShl 1 v0)) ∧ Ret (some (vI ((bShl 2 v1) - (bShl 1 v0)))) σ)) : R 0 [vI v0, vI v1] [] σ := by
  refine r_iconst hM (pc' := 1) dX5_bits_0 rfl (by decide) ?_
  refine r_iload_n hM (pc' := 2) dX5_bits_1 rfl (x := v1) rfl ?_
  refine r_ishl hM (pc' := 3) dX5_bits_2 rfl ?_
  refine r_iconst hM (pc' := 4) dX5_bits_3 rfl (by decide) ?_
  refine r_iload_n hM (pc' := 5) dX5_bits_4 rfl (x := v0) rfl ?_
  refine r_ishl hM (pc' := 6) dX5_bits_5 rfl ?_
  have o1 := h.1
  have h := h.2
  refine r_isub hM (pc' := 7) dX5_bits_6 rfl o1 ?_
  exact r_ireturn hM dX5_bits_7 rfl h
theorem dX5_fewest_0 : decode cX5_fewest 0 = .ok (.aload_n 0, 1) := by decide +kernel
theorem dX5_fewest_1 : decode cX5_fewest 1 = .ok (.getfield 18, 3) := by decide +kernel
theorem dX5_fewest_4 : decode cX5_fewest 4 = .ok (.lconst 0, 1) := by decide +kernel
theorem dX5_fewest_5 : decode cX5_fewest 5 = .ok (.invokestatic 95, 3) := by decide +kernel
theorem dX5_fewest_8 : decode cX5_fewest 8 = .ok (.iconst 0, 1) := by decide +kernel
theorem dX5_fewest_9 : decode cX5_fewest 9 = .ok (.istore_n 1, 1) := by decide +kernel
theorem dX5_fewest_10 : decode cX5_fewest 10 = .ok (.iload_n 1, 1) := by decide +kernel
theorem dX5_fewest_11 : decode cX5_fewest 11 = .ok (.aload_n 0, 1) := by decide +kernel
theorem dX5_fewest_12 : decode cX5_fewest 12 = .ok (.getfield 39, 3) := by decide +kernel
theorem dX5_fewest_15 : decode cX5_fewest 15 = .ok (.getfield 47, 3) := by decide +kernel
theorem dX5_fewest_18 : decode cX5_fewest 18 = .ok (.if_icmp .gt 21, 3) := by decide +kernel
theorem dX5_fewest_21 : decode cX5_fewest 21 = .ok (.aload_n 0, 1) := by decide +kernel
theorem dX5_fewest_22 : decode cX5_fewest 22 = .ok (.iconst 0, 1) := by decide +kernel
theorem dX5_fewest_23 : decode cX5_fewest 23 = .ok (.iload_n 1, 1) := by decide +kernel
theorem dX5_fewest_24 : decode cX5_fewest 24 = .ok (.iload_n 1, 1) := by decide +kernel
theorem dX5_fewest_25 : decode cX5_fewest 25 = .ok (.invokestatic 101, 3) := by decide +kernel
theorem dX5_fewest_28 : decode cX5_fewest 28 = .ok (.ifCond .eq 5, 3) := by decide +kernel
theorem dX5_fewest_31 : decode cX5_fewest 31 = .ok (.iload_n 1, 1) := by decide +kernel
theorem dX5_fewest_32 : decode cX5_fewest 32 = .ok (.ireturn, 1) := by decide +kernel
theorem dX5_fewest_33 : decode cX5_fewest 33 = .ok (.iinc 1 1, 3) := by decide +kernel
theorem dX5_fewest_36 : decode cX5_fewest 36 = .ok (.goto (-26), 3) := by decide +kernel
theorem dX5_fewest_39 : decode cX5_fewest 39 = .ok (.iconst (-1), 1) := by decide +kernel
theorem dX5_fewest_40 : decode cX5_fewest 40 = .ok (.ireturn, 1) := by decide +kernel
set_option maxRecDepth 20000 in
theorem g_X5_fewest_0 {G : GX} {d : Nat} {Ret : Option AV → St → Prop} {R : Nat → List AV → List AV → St → Prop} (hM : AM G wdX (d + 1) mX5_fewest Ret R) (σ : St)
    (h : conV G wdX d mJ7_fill_d0a16 [vR 27, vL 0] σ (fun σ1 => R 10 [vR 5, vI 0] [] σ1)) : R 0 [vR 5, vN] [] σ := by
  refine r_aload_n hM (pc' := 1) dX5_fewest_0 rfl (x := 5) rfl ?_
  refine r_getR hM (pc' := 4) dX5_fewest_1 rfl fl_X5_18 wx_5 rfl ?_
  refine r_lconst hM (pc' := 5) dX5_fewest_4 rfl (x := 0) rfl ?_
  refine r_callSV hM (pc' := 8) [vR 27, vL 0] dX5_fewest_5 rfl ml_X5_95 rfl rfl (Nat.le_of_ble_eq_true rfl) (conV.mono h (fun σ1 h => ?_))
  refine r_iconst hM (pc' := 9) dX5_fewest_8 rfl (by decide) ?_
  refine r_istore_n hM (pc' := 10) dX5_fewest_9 rfl (Nat.le_of_ble_eq_true rfl) rfl ?_
  show R 10 [vR 5, vI 0] _ _
  exact h
set_option maxRecDepth 20000 in
theorem g_X5_fewest_10 {G : GX} {d : Nat} {Ret : Option AV → St → Prop} {R : Nat → List AV → List AV → St → Prop} (hM : AM G wdX (d + 1) mX5_fewest Ret R) (v1 : Int) (σ : St)
    (h : (((σ.1 6 5) < v1 → Ret (some (vI (-1))) σ) ∧ (¬ (σ.1 6 5) < v1 → conI G wdX d mX5_doesAll [vR 5, vI 0, vI v1, vI v1] σ (fun x1 σ1 => ((x1 = 0 → (r32 (v1 + 1) ∧ R 10 [vR 5, vI (v1 + 1)] [] σ1)) ∧ (¬ x1 = 0 → Ret (some (vI v1)) σ1)))))) : R 10 [vR 5, vI v1] [] σ := by
  refine r_iload_n hM (pc' := 11) dX5_fewest_10 rfl (x := v1) rfl ?_
  refine r_aload_n hM (pc' := 12) dX5_fewest_11 rfl (x := 5) rfl ?_
  refine r_getR hM (pc' := 15) dX5_fewest_12 rfl fl_X5_39 wx_5 rfl ?_
  refine r_getI hM (pc' := 18) dX5_fewest_15 rfl fl_X5_47 wx_6 rfl ?_
  refine r_icmp_gt hM (pc' := 21) (tgt := 39) dX5_fewest_18 rfl (by decide) (fun c => ?_) (fun c => ?_)
  · have h := h.1 c
    refine r_iconst hM (pc' := 40) dX5_fewest_39 rfl (by decide) ?_
    exact r_ireturn hM dX5_fewest_40 rfl h
  · have h := h.2 c
    refine r_aload_n hM (pc' := 22) dX5_fewest_21 rfl (x := 5) rfl ?_
    refine r_iconst hM (pc' := 23) dX5_fewest_22 rfl (by decide) ?_
    refine r_iload_n hM (pc' := 24) dX5_fewest_23 rfl (x := v1) rfl ?_
    refine r_iload_n hM (pc' := 25) dX5_fewest_24 rfl (x := v1) rfl ?_
    refine r_callSI hM (pc' := 28) [vR 5, vI 0, vI v1, vI v1] dX5_fewest_25 rfl ml_X5_101 rfl rfl (Nat.le_of_ble_eq_true rfl) (conI.mono h (fun x1 σ1 h => ?_))
    refine r_if_eq hM (pc' := 31) (tgt := 33) dX5_fewest_28 rfl (by decide) (fun c => ?_) (fun c => ?_)
    · have h := h.1 c
      have o1 := h.1
      have h := h.2
      refine r_iinc hM (pc' := 36) dX5_fewest_33 rfl (x := v1) rfl rfl o1 ?_
      show R 36 [vR 5, vI (v1 + 1)] _ _
      refine r_goto hM (tgt := 10) dX5_fewest_36 (by decide) ?_
      exact h
    · have h := h.2 c
      refine r_iload_n hM (pc' := 32) dX5_fewest_31 rfl (x := v1) rfl ?_
      exact r_ireturn hM dX5_fewest_32 rfl h
theorem dX5_doesAll_0 : decode cX5_doesAll 0 = .ok (.iload_n 1, 1) := by decide +kernel
theorem dX5_doesAll_1 : decode cX5_doesAll 1 = .ok (.iconst 1, 1) := by decide +kernel
theorem dX5_doesAll_2 : decode cX5_doesAll 2 = .ok (.aload_n 0, 1) := by decide +kernel
theorem dX5_doesAll_3 : decode cX5_doesAll 3 = .ok (.getfield 39, 3) := by decide +kernel
theorem dX5_doesAll_6 : decode cX5_doesAll 6 = .ok (.getfield 47, 3) := by decide +kernel
theorem dX5_doesAll_9 : decode cX5_doesAll 9 = .ok (.ishl, 1) := by decide +kernel
theorem dX5_doesAll_10 : decode cX5_doesAll 10 = .ok (.iconst 1, 1) := by decide +kernel
theorem dX5_doesAll_11 : decode cX5_doesAll 11 = .ok (.isub, 1) := by decide +kernel
theorem dX5_doesAll_12 : decode cX5_doesAll 12 = .ok (.if_icmp .ne 5, 3) := by decide +kernel
theorem dX5_doesAll_15 : decode cX5_doesAll 15 = .ok (.iconst 1, 1) := by decide +kernel
theorem dX5_doesAll_16 : decode cX5_doesAll 16 = .ok (.ireturn, 1) := by decide +kernel
theorem dX5_doesAll_17 : decode cX5_doesAll 17 = .ok (.iload_n 2, 1) := by decide +kernel
theorem dX5_doesAll_18 : decode cX5_doesAll 18 = .ok (.ifCond .le 12, 3) := by decide +kernel
theorem dX5_doesAll_21 : decode cX5_doesAll 21 = .ok (.aload_n 0, 1) := by decide +kernel
theorem dX5_doesAll_22 : decode cX5_doesAll 22 = .ok (.iload_n 1, 1) := by decide +kernel
theorem dX5_doesAll_23 : decode cX5_doesAll 23 = .ok (.iload_n 2, 1) := by decide +kernel
theorem dX5_doesAll_24 : decode cX5_doesAll 24 = .ok (.invokevirtual 105, 3) := by decide +kernel
theorem dX5_doesAll_27 : decode cX5_doesAll 27 = .ok (.ifCond .eq 5, 3) := by decide +kernel
theorem dX5_doesAll_30 : decode cX5_doesAll 30 = .ok (.iconst 0, 1) := by decide +kernel
theorem dX5_doesAll_31 : decode cX5_doesAll 31 = .ok (.ireturn, 1) := by decide +kernel
theorem dX5_doesAll_32 : decode cX5_doesAll 32 = .ok (.iload_n 1, 1) := by decide +kernel
theorem dX5_doesAll_33 : decode cX5_doesAll 33 = .ok (.iconst (-1), 1) := by decide +kernel
theorem dX5_doesAll_34 : decode cX5_doesAll 34 = .ok (.ixor, 1) := by decide +kernel
theorem dX5_doesAll_35 : decode cX5_doesAll 35 = .ok (.invokestatic 60, 3) := by decide +kernel
theorem dX5_doesAll_38 : decode cX5_doesAll 38 = .ok (.istore 4, 2) := by decide +kernel
theorem dX5_doesAll_40 : decode cX5_doesAll 40 = .ok (.aload_n 0, 1) := by decide +kernel
theorem dX5_doesAll_41 : decode cX5_doesAll 41 = .ok (.getfield 15, 3) := by decide +kernel
theorem dX5_doesAll_44 : decode cX5_doesAll 44 = .ok (.iload 4, 2) := by decide +kernel
theorem dX5_doesAll_46 : decode cX5_doesAll 46 = .ok (.iaload, 1) := by decide +kernel
theorem dX5_doesAll_47 : decode cX5_doesAll 47 = .ok (.istore 5, 2) := by decide +kernel
theorem dX5_doesAll_49 : decode cX5_doesAll 49 = .ok (.iload 5, 2) := by decide +kernel
theorem dX5_doesAll_51 : decode cX5_doesAll 51 = .ok (.aload_n 0, 1) := by decide +kernel
theorem dX5_doesAll_52 : decode cX5_doesAll 52 = .ok (.getfield 15, 3) := by decide +kernel
theorem dX5_doesAll_55 : decode cX5_doesAll 55 = .ok (.iload 4, 2) := by decide +kernel
theorem dX5_doesAll_57 : decode cX5_doesAll 57 = .ok (.iconst 1, 1) := by decide +kernel
theorem dX5_doesAll_58 : decode cX5_doesAll 58 = .ok (.iadd, 1) := by decide +kernel
theorem dX5_doesAll_59 : decode cX5_doesAll 59 = .ok (.iaload, 1) := by decide +kernel
theorem dX5_doesAll_60 : decode cX5_doesAll 60 = .ok (.if_icmp .ge 56, 3) := by decide +kernel
theorem dX5_doesAll_63 : decode cX5_doesAll 63 = .ok (.aload_n 0, 1) := by decide +kernel
theorem dX5_doesAll_64 : decode cX5_doesAll 64 = .ok (.getfield 11, 3) := by decide +kernel
theorem dX5_doesAll_67 : decode cX5_doesAll 67 = .ok (.iload 5, 2) := by decide +kernel
theorem dX5_doesAll_69 : decode cX5_doesAll 69 = .ok (.iaload, 1) := by decide +kernel
theorem dX5_doesAll_70 : decode cX5_doesAll 70 = .ok (.istore 6, 2) := by decide +kernel
theorem dX5_doesAll_72 : decode cX5_doesAll 72 = .ok (.iload 6, 2) := by decide +kernel
theorem dX5_doesAll_74 : decode cX5_doesAll 74 = .ok (.iload_n 1, 1) := by decide +kernel
theorem dX5_doesAll_75 : decode cX5_doesAll 75 = .ok (.iand, 1) := by decide +kernel
theorem dX5_doesAll_76 : decode cX5_doesAll 76 = .ok (.ifCond .ne 34, 3) := by decide +kernel
theorem dX5_doesAll_79 : decode cX5_doesAll 79 = .ok (.aload_n 0, 1) := by decide +kernel
theorem dX5_doesAll_80 : decode cX5_doesAll 80 = .ok (.iload_n 1, 1) := by decide +kernel
theorem dX5_doesAll_81 : decode cX5_doesAll 81 = .ok (.iload 6, 2) := by decide +kernel
theorem dX5_doesAll_83 : decode cX5_doesAll 83 = .ok (.sipush 4095, 3) := by decide +kernel
theorem dX5_doesAll_86 : decode cX5_doesAll 86 = .ok (.iand, 1) := by decide +kernel
theorem dX5_doesAll_87 : decode cX5_doesAll 87 = .ok (.ior, 1) := by decide +kernel
theorem dX5_doesAll_88 : decode cX5_doesAll 88 = .ok (.iload_n 2, 1) := by decide +kernel
theorem dX5_doesAll_89 : decode cX5_doesAll 89 = .ok (.iconst 1, 1) := by decide +kernel
theorem dX5_doesAll_90 : decode cX5_doesAll 90 = .ok (.isub, 1) := by decide +kernel
theorem dX5_doesAll_91 : decode cX5_doesAll 91 = .ok (.iload_n 3, 1) := by decide +kernel
theorem dX5_doesAll_92 : decode cX5_doesAll 92 = .ok (.invokestatic 101, 3) := by decide +kernel
theorem dX5_doesAll_95 : decode cX5_doesAll 95 = .ok (.ifCond .eq 15, 3) := by decide +kernel
theorem dX5_doesAll_98 : decode cX5_doesAll 98 = .ok (.aload_n 0, 1) := by decide +kernel
theorem dX5_doesAll_99 : decode cX5_doesAll 99 = .ok (.getfield 22, 3) := by decide +kernel
theorem dX5_doesAll_102 : decode cX5_doesAll 102 = .ok (.iload_n 3, 1) := by decide +kernel
theorem dX5_doesAll_103 : decode cX5_doesAll 103 = .ok (.iload_n 2, 1) := by decide +kernel
theorem dX5_doesAll_104 : decode cX5_doesAll 104 = .ok (.isub, 1) := by decide +kernel
theorem dX5_doesAll_105 : decode cX5_doesAll 105 = .ok (.iload 6, 2) := by decide +kernel
theorem dX5_doesAll_107 : decode cX5_doesAll 107 = .ok (.iastore, 1) := by decide +kernel
theorem dX5_doesAll_108 : decode cX5_doesAll 108 = .ok (.iconst 1, 1) := by decide +kernel
theorem dX5_doesAll_109 : decode cX5_doesAll 109 = .ok (.ireturn, 1) := by decide +kernel
theorem dX5_doesAll_110 : decode cX5_doesAll 110 = .ok (.iinc 5 1, 3) := by decide +kernel
theorem dX5_doesAll_113 : decode cX5_doesAll 113 = .ok (.goto (-64), 3) := by decide +kernel
theorem dX5_doesAll_116 : decode cX5_doesAll 116 = .ok (.aload_n 0, 1) := by decide +kernel
theorem dX5_doesAll_117 : decode cX5_doesAll 117 = .ok (.iload_n 1, 1) := by decide +kernel
theorem dX5_doesAll_118 : decode cX5_doesAll 118 = .ok (.iload_n 2, 1) := by decide +kernel
theorem dX5_doesAll_119 : decode cX5_doesAll 119 = .ok (.invokevirtual 108, 3) := by decide +kernel
theorem dX5_doesAll_122 : decode cX5_doesAll 122 = .ok (.iconst 0, 1) := by decide +kernel
theorem dX5_doesAll_123 : decode cX5_doesAll 123 = .ok (.ireturn, 1) := by decide +kernel
set_option maxRecDepth 20000 in
theorem g_X5_doesAll_0 {G : GX} {d : Nat} {Ret : Option AV → St → Prop} {R : Nat → List AV → List AV → St → Prop} (hM : AM G wdX (d + 1) mX5_doesAll Ret R) (v1 : Int) (v2 : Int) (v3 : Int) (σ : St)
    (h : (r32 ((bShl 1 (σ.1 6 5)) - 1) ∧ ((¬ v1 = ((bShl 1 (σ.1 6 5)) - 1) → ((v2 ≤ 0 → Ret (some (vI 0)) σ) ∧ (¬ v2 ≤ 0 → conI G wdX d mX5_isHopeless [vR 5, vI v1, vI v2] σ (fun x1 σ1 => ((x1 = 0 → conI G wdX d mX9_lowest [vI (bXor v1 (-1))] σ1 (fun x2 σ2 => ((0 ≤ x2 ∧ x2 < 13) ∧ R 49 [vR 5, vI v1, vI v2, vI v3, vI x2, vI (σ2.1 26 (x2).toNat), vN] [] σ2))) ∧ (¬ x1 = 0 → Ret (some (vI 0)) σ1)))))) ∧ (v1 = ((bShl 1 (σ.1 6 5)) - 1) → Ret (some (vI 1)) σ)))) : R 0 [vR 5, vI v1, vI v2, vI v3, vN, vN, vN] [] σ := by
  refine r_iload_n hM (pc' := 1) dX5_doesAll_0 rfl (x := v1) rfl ?_
  refine r_iconst hM (pc' := 2) dX5_doesAll_1 rfl (by decide) ?_
  refine r_aload_n hM (pc' := 3) dX5_doesAll_2 rfl (x := 5) rfl ?_
  refine r_getR hM (pc' := 6) dX5_doesAll_3 rfl fl_X5_39 wx_5 rfl ?_
  refine r_getI hM (pc' := 9) dX5_doesAll_6 rfl fl_X5_47 wx_6 rfl ?_
  refine r_ishl hM (pc' := 10) dX5_doesAll_9 rfl ?_
  refine r_iconst hM (pc' := 11) dX5_doesAll_10 rfl (by decide) ?_
  have o1 := h.1
  have h := h.2
  refine r_isub hM (pc' := 12) dX5_doesAll_11 rfl o1 ?_
  refine r_icmp_ne hM (pc' := 15) (tgt := 17) dX5_doesAll_12 rfl (by decide) (fun c => ?_) (fun c => ?_)
  · have h := h.1 c
    refine r_iload_n hM (pc' := 18) dX5_doesAll_17 rfl (x := v2) rfl ?_
    refine r_if_le hM (pc' := 21) (tgt := 30) dX5_doesAll_18 rfl (by decide) (fun c => ?_) (fun c => ?_)
    · have h := h.1 c
      refine r_iconst hM (pc' := 31) dX5_doesAll_30 rfl (by decide) ?_
      exact r_zreturn hM dX5_doesAll_31 rfl (by decide) h
    · have h := h.2 c
      refine r_aload_n hM (pc' := 22) dX5_doesAll_21 rfl (x := 5) rfl ?_
      refine r_iload_n hM (pc' := 23) dX5_doesAll_22 rfl (x := v1) rfl ?_
      refine r_iload_n hM (pc' := 24) dX5_doesAll_23 rfl (x := v2) rfl ?_
      refine r_callVI hM (pc' := 27) [vI v1, vI v2] dX5_doesAll_24 rfl ml_X5_105 wx_5 rfl rfl (Nat.le_of_ble_eq_true rfl) (conI.mono h (fun x1 σ1 h => ?_))
      refine r_if_eq hM (pc' := 30) (tgt := 32) dX5_doesAll_27 rfl (by decide) (fun c => ?_) (fun c => ?_)
      · have h := h.1 c
        refine r_iload_n hM (pc' := 33) dX5_doesAll_32 rfl (x := v1) rfl ?_
        refine r_iconst hM (pc' := 34) dX5_doesAll_33 rfl (by decide) ?_
        refine r_ixor hM (pc' := 35) dX5_doesAll_34 rfl ?_
        refine r_callNI hM (pc' := 38) [vI (bXor v1 (-1))] dX5_doesAll_35 rfl ml_X5_60 rfl rfl (Nat.le_of_ble_eq_true rfl) (conI.mono h (fun x2 σ2 h => ?_))
        refine r_istore hM (pc' := 40) dX5_doesAll_38 rfl (Nat.le_of_ble_eq_true rfl) rfl ?_
        show R 40 [vR 5, vI v1, vI v2, vI v3, vI x2, vN, vN] _ _
        refine r_aload_n hM (pc' := 41) dX5_doesAll_40 rfl (x := 5) rfl ?_
        refine r_getR hM (pc' := 44) dX5_doesAll_41 rfl fl_X5_15 wx_5 rfl ?_
        refine r_iload hM (pc' := 46) dX5_doesAll_44 rfl (x := x2) rfl ?_
        have o2 := h.1
        have h := h.2
        refine r_iaload hM (pc' := 47) dX5_doesAll_46 rfl wx_26 o2 ?_
        refine r_istore hM (pc' := 49) dX5_doesAll_47 rfl (Nat.le_of_ble_eq_true rfl) rfl ?_
        show R 49 [vR 5, vI v1, vI v2, vI v3, vI x2, vI (σ2.1 26 (x2).toNat), vN] _ _
        exact h
      · have h := h.2 c
        refine r_iconst hM (pc' := 31) dX5_doesAll_30 rfl (by decide) ?_
        exact r_zreturn hM dX5_doesAll_31 rfl (by decide) h
  · have h := h.2 c
    refine r_iconst hM (pc' := 16) dX5_doesAll_15 rfl (by decide) ?_
    exact r_zreturn hM dX5_doesAll_16 rfl (by decide) h
set_option maxRecDepth 20000 in
theorem g_X5_doesAll_49 {G : GX} {d : Nat} {Ret : Option AV → St → Prop} {R : Nat → List AV → List AV → St → Prop} (hM : AM G wdX (d + 1) mX5_doesAll Ret R) (v1 : Int) (v2 : Int) (v3 : Int) (v4 : Int) (v5 : Int) (σ : St)
    (h : (r32 (v4 + 1) ∧ ((0 ≤ (v4 + 1) ∧ (v4 + 1) < 13) ∧ (((σ.1 26 ((v4 + 1)).toNat) ≤ v5 → conV G wdX d mX5_noteTooFew [vR 5, vI v1, vI v2] σ (fun σ1 => Ret (some (vI 0)) σ1)) ∧ (¬ (σ.1 26 ((v4 + 1)).toNat) ≤ v5 → ((0 ≤ v5 ∧ v5 < 1079) ∧ ((¬ (bAnd (σ.1 25 (v5).toNat) v1) = 0 → (r32 (v5 + 1) ∧ R 49 [vR 5, vI v1, vI v2, vI v3, vI v4, vI (v5 + 1), vN] [] σ)) ∧ ((bAnd (σ.1 25 (v5).toNat) v1) = 0 → (r32 (v2 - 1) ∧ conI G wdX d mX5_doesAll [vR 5, vI (bOr v1 (bAnd (σ.1 25 (v5).toNat) 4095)), vI (v2 - 1), vI v3] σ (fun x2 σ2 => ((x2 = 0 → (r32 (v5 + 1) ∧ R 49 [vR 5, vI v1, vI v2, vI v3, vI v4, vI (v5 + 1), vN] [] σ2)) ∧ (¬ x2 = 0 → (r32 (v3 - v2) ∧ ((0 ≤ (v3 - v2) ∧ (v3 - v2) < 12) ∧ (∀ τ1, τ1 = sI σ2 28 ((v3 - v2)).toNat (σ.1 25 (v5).toNat) → Ret (some (vI 1)) τ1))))))))))))))) : R 49 [vR 5, vI v1, vI v2, vI v3, vI v4, vI v5, vN] [] σ := by
  refine r_iload hM (pc' := 51) dX5_doesAll_49 rfl (x := v5) rfl ?_
  refine r_aload_n hM (pc' := 52) dX5_doesAll_51 rfl (x := 5) rfl ?_
  refine r_getR hM (pc' := 55) dX5_doesAll_52 rfl fl_X5_15 wx_5 rfl ?_
  refine r_iload hM (pc' := 57) dX5_doesAll_55 rfl (x := v4) rfl ?_
  refine r_iconst hM (pc' := 58) dX5_doesAll_57 rfl (by decide) ?_
  have o1 := h.1
  have h := h.2
  refine r_iadd hM (pc' := 59) dX5_doesAll_58 rfl o1 ?_
  have o2 := h.1
  have h := h.2
  refine r_iaload hM (pc' := 60) dX5_doesAll_59 rfl wx_26 o2 ?_
  refine r_icmp_ge hM (pc' := 63) (tgt := 116) dX5_doesAll_60 rfl (by decide) (fun c => ?_) (fun c => ?_)
  · have h := h.1 c
    refine r_aload_n hM (pc' := 117) dX5_doesAll_116 rfl (x := 5) rfl ?_
    refine r_iload_n hM (pc' := 118) dX5_doesAll_117 rfl (x := v1) rfl ?_
    refine r_iload_n hM (pc' := 119) dX5_doesAll_118 rfl (x := v2) rfl ?_
    refine r_callVV hM (pc' := 122) [vI v1, vI v2] dX5_doesAll_119 rfl ml_X5_108 wx_5 rfl rfl (Nat.le_of_ble_eq_true rfl) (conV.mono h (fun σ1 h => ?_))
    refine r_iconst hM (pc' := 123) dX5_doesAll_122 rfl (by decide) ?_
    exact r_zreturn hM dX5_doesAll_123 rfl (by decide) h
  · have h := h.2 c
    refine r_aload_n hM (pc' := 64) dX5_doesAll_63 rfl (x := 5) rfl ?_
    refine r_getR hM (pc' := 67) dX5_doesAll_64 rfl fl_X5_11 wx_5 rfl ?_
    refine r_iload hM (pc' := 69) dX5_doesAll_67 rfl (x := v5) rfl ?_
    have o3 := h.1
    have h := h.2
    refine r_iaload hM (pc' := 70) dX5_doesAll_69 rfl wx_25 o3 ?_
    refine r_istore hM (pc' := 72) dX5_doesAll_70 rfl (Nat.le_of_ble_eq_true rfl) rfl ?_
    show R 72 [vR 5, vI v1, vI v2, vI v3, vI v4, vI v5, vI (σ.1 25 (v5).toNat)] _ _
    refine r_iload hM (pc' := 74) dX5_doesAll_72 rfl (x := (σ.1 25 (v5).toNat)) rfl ?_
    refine r_iload_n hM (pc' := 75) dX5_doesAll_74 rfl (x := v1) rfl ?_
    refine r_iand hM (pc' := 76) dX5_doesAll_75 rfl ?_
    refine r_if_ne hM (pc' := 79) (tgt := 110) dX5_doesAll_76 rfl (by decide) (fun c => ?_) (fun c => ?_)
    · have h := h.1 c
      have o4 := h.1
      have h := h.2
      refine r_iinc hM (pc' := 113) dX5_doesAll_110 rfl (x := v5) rfl rfl o4 ?_
      show R 113 [vR 5, vI v1, vI v2, vI v3, vI v4, vI (v5 + 1), vI (σ.1 25 (v5).toNat)] _ _
      refine r_goto hM (tgt := 49) dX5_doesAll_113 (by decide) ?_
      refine r_weak hM (ls' := [vR 5, vI v1, vI v2, vI v3, vI v4, vI (v5 + 1), vN]) ⟨Or.inl rfl, Or.inl rfl, Or.inl rfl, Or.inl rfl, Or.inl rfl, Or.inl rfl, Or.inr rfl, trivial⟩ ?_
      exact h
    · have h := h.2 c
      refine r_aload_n hM (pc' := 80) dX5_doesAll_79 rfl (x := 5) rfl ?_
      refine r_iload_n hM (pc' := 81) dX5_doesAll_80 rfl (x := v1) rfl ?_
      refine r_iload hM (pc' := 83) dX5_doesAll_81 rfl (x := (σ.1 25 (v5).toNat)) rfl ?_
      refine r_sipush hM (pc' := 86) dX5_doesAll_83 rfl (by decide) (by decide) ?_
      refine r_iand hM (pc' := 87) dX5_doesAll_86 rfl ?_
      refine r_ior hM (pc' := 88) dX5_doesAll_87 rfl ?_
      refine r_iload_n hM (pc' := 89) dX5_doesAll_88 rfl (x := v2) rfl ?_
      refine r_iconst hM (pc' := 90) dX5_doesAll_89 rfl (by decide) ?_
      have o5 := h.1
      have h := h.2
      refine r_isub hM (pc' := 91) dX5_doesAll_90 rfl o5 ?_
      refine r_iload_n hM (pc' := 92) dX5_doesAll_91 rfl (x := v3) rfl ?_
      refine r_callSI hM (pc' := 95) [vR 5, vI (bOr v1 (bAnd (σ.1 25 (v5).toNat) 4095)), vI (v2 - 1), vI v3] dX5_doesAll_92 rfl ml_X5_101 rfl rfl (Nat.le_of_ble_eq_true rfl) (conI.mono h (fun x2 σ2 h => ?_))
      refine r_if_eq hM (pc' := 98) (tgt := 110) dX5_doesAll_95 rfl (by decide) (fun c => ?_) (fun c => ?_)
      · have h := h.1 c
        have o6 := h.1
        have h := h.2
        refine r_iinc hM (pc' := 113) dX5_doesAll_110 rfl (x := v5) rfl rfl o6 ?_
        show R 113 [vR 5, vI v1, vI v2, vI v3, vI v4, vI (v5 + 1), vI (σ.1 25 (v5).toNat)] _ _
        refine r_goto hM (tgt := 49) dX5_doesAll_113 (by decide) ?_
        refine r_weak hM (ls' := [vR 5, vI v1, vI v2, vI v3, vI v4, vI (v5 + 1), vN]) ⟨Or.inl rfl, Or.inl rfl, Or.inl rfl, Or.inl rfl, Or.inl rfl, Or.inl rfl, Or.inr rfl, trivial⟩ ?_
        exact h
      · have h := h.2 c
        refine r_aload_n hM (pc' := 99) dX5_doesAll_98 rfl (x := 5) rfl ?_
        refine r_getR hM (pc' := 102) dX5_doesAll_99 rfl fl_X5_22 wx_5 rfl ?_
        refine r_iload_n hM (pc' := 103) dX5_doesAll_102 rfl (x := v3) rfl ?_
        refine r_iload_n hM (pc' := 104) dX5_doesAll_103 rfl (x := v2) rfl ?_
        have o7 := h.1
        have h := h.2
        refine r_isub hM (pc' := 105) dX5_doesAll_104 rfl o7 ?_
        refine r_iload hM (pc' := 107) dX5_doesAll_105 rfl (x := (σ.1 25 (v5).toNat)) rfl ?_
        have o8 := h.1
        have h := h.2
        refine r_iastore hM (pc' := 108) dX5_doesAll_107 rfl wx_28 o8 (fun τ1 e1 => ?_)
        have h := h τ1 e1
        refine r_iconst hM (pc' := 109) dX5_doesAll_108 rfl (by decide) ?_
        exact r_zreturn hM dX5_doesAll_109 rfl (by decide) h
theorem dX5_isHopeless_0 : decode cX5_isHopeless 0 = .ok (.aload_n 0, 1) := by decide +kernel
theorem dX5_isHopeless_1 : decode cX5_isHopeless 1 = .ok (.getfield 18, 3) := by decide +kernel
theorem dX5_isHopeless_4 : decode cX5_isHopeless 4 = .ok (.iload_n 1, 1) := by decide +kernel
theorem dX5_isHopeless_5 : decode cX5_isHopeless 5 = .ok (.iconst 4, 1) := by decide +kernel
theorem dX5_isHopeless_6 : decode cX5_isHopeless 6 = .ok (.ishr, 1) := by decide +kernel
theorem dX5_isHopeless_7 : decode cX5_isHopeless 7 = .ok (.laload, 1) := by decide +kernel
theorem dX5_isHopeless_8 : decode cX5_isHopeless 8 = .ok (.iload_n 1, 1) := by decide +kernel
theorem dX5_isHopeless_9 : decode cX5_isHopeless 9 = .ok (.bipush 15, 2) := by decide +kernel
theorem dX5_isHopeless_11 : decode cX5_isHopeless 11 = .ok (.iand, 1) := by decide +kernel
theorem dX5_isHopeless_12 : decode cX5_isHopeless 12 = .ok (.iconst 4, 1) := by decide +kernel
theorem dX5_isHopeless_13 : decode cX5_isHopeless 13 = .ok (.imul, 1) := by decide +kernel
theorem dX5_isHopeless_14 : decode cX5_isHopeless 14 = .ok (.lshr, 1) := by decide +kernel
theorem dX5_isHopeless_15 : decode cX5_isHopeless 15 = .ok (.l2i, 1) := by decide +kernel
theorem dX5_isHopeless_16 : decode cX5_isHopeless 16 = .ok (.bipush 15, 2) := by decide +kernel
theorem dX5_isHopeless_18 : decode cX5_isHopeless 18 = .ok (.iand, 1) := by decide +kernel
theorem dX5_isHopeless_19 : decode cX5_isHopeless 19 = .ok (.istore_n 3, 1) := by decide +kernel
theorem dX5_isHopeless_20 : decode cX5_isHopeless 20 = .ok (.iload_n 2, 1) := by decide +kernel
theorem dX5_isHopeless_21 : decode cX5_isHopeless 21 = .ok (.iload_n 3, 1) := by decide +kernel
theorem dX5_isHopeless_22 : decode cX5_isHopeless 22 = .ok (.if_icmp .gt 5, 3) := by decide +kernel
theorem dX5_isHopeless_25 : decode cX5_isHopeless 25 = .ok (.iconst 1, 1) := by decide +kernel
theorem dX5_isHopeless_26 : decode cX5_isHopeless 26 = .ok (.ireturn, 1) := by decide +kernel
theorem dX5_isHopeless_27 : decode cX5_isHopeless 27 = .ok (.iconst 1, 1) := by decide +kernel
theorem dX5_isHopeless_28 : decode cX5_isHopeless 28 = .ok (.aload_n 0, 1) := by decide +kernel
theorem dX5_isHopeless_29 : decode cX5_isHopeless 29 = .ok (.getfield 39, 3) := by decide +kernel
theorem dX5_isHopeless_32 : decode cX5_isHopeless 32 = .ok (.getfield 47, 3) := by decide +kernel
theorem dX5_isHopeless_35 : decode cX5_isHopeless 35 = .ok (.ishl, 1) := by decide +kernel
theorem dX5_isHopeless_36 : decode cX5_isHopeless 36 = .ok (.iconst 1, 1) := by decide +kernel
theorem dX5_isHopeless_37 : decode cX5_isHopeless 37 = .ok (.isub, 1) := by decide +kernel
theorem dX5_isHopeless_38 : decode cX5_isHopeless 38 = .ok (.iload_n 1, 1) := by decide +kernel
theorem dX5_isHopeless_39 : decode cX5_isHopeless 39 = .ok (.iconst (-1), 1) := by decide +kernel
theorem dX5_isHopeless_40 : decode cX5_isHopeless 40 = .ok (.ixor, 1) := by decide +kernel
theorem dX5_isHopeless_41 : decode cX5_isHopeless 41 = .ok (.iand, 1) := by decide +kernel
theorem dX5_isHopeless_42 : decode cX5_isHopeless 42 = .ok (.istore 4, 2) := by decide +kernel
theorem dX5_isHopeless_44 : decode cX5_isHopeless 44 = .ok (.iload 4, 2) := by decide +kernel
theorem dX5_isHopeless_46 : decode cX5_isHopeless 46 = .ok (.iconst 1, 1) := by decide +kernel
theorem dX5_isHopeless_47 : decode cX5_isHopeless 47 = .ok (.ishl, 1) := by decide +kernel
theorem dX5_isHopeless_48 : decode cX5_isHopeless 48 = .ok (.aload_n 0, 1) := by decide +kernel
theorem dX5_isHopeless_49 : decode cX5_isHopeless 49 = .ok (.getfield 29, 3) := by decide +kernel
theorem dX5_isHopeless_52 : decode cX5_isHopeless 52 = .ok (.iconst (-1), 1) := by decide +kernel
theorem dX5_isHopeless_53 : decode cX5_isHopeless 53 = .ok (.ixor, 1) := by decide +kernel
theorem dX5_isHopeless_54 : decode cX5_isHopeless 54 = .ok (.iand, 1) := by decide +kernel
theorem dX5_isHopeless_55 : decode cX5_isHopeless 55 = .ok (.istore 5, 2) := by decide +kernel
theorem dX5_isHopeless_57 : decode cX5_isHopeless 57 = .ok (.iload 4, 2) := by decide +kernel
theorem dX5_isHopeless_59 : decode cX5_isHopeless 59 = .ok (.iload 5, 2) := by decide +kernel
theorem dX5_isHopeless_61 : decode cX5_isHopeless 61 = .ok (.iconst (-1), 1) := by decide +kernel
theorem dX5_isHopeless_62 : decode cX5_isHopeless 62 = .ok (.ixor, 1) := by decide +kernel
theorem dX5_isHopeless_63 : decode cX5_isHopeless 63 = .ok (.iand, 1) := by decide +kernel
theorem dX5_isHopeless_64 : decode cX5_isHopeless 64 = .ok (.invokestatic 111, 3) := by decide +kernel
theorem dX5_isHopeless_67 : decode cX5_isHopeless 67 = .ok (.istore 6, 2) := by decide +kernel
theorem dX5_isHopeless_69 : decode cX5_isHopeless 69 = .ok (.iload 6, 2) := by decide +kernel
theorem dX5_isHopeless_71 : decode cX5_isHopeless 71 = .ok (.aload_n 0, 1) := by decide +kernel
theorem dX5_isHopeless_72 : decode cX5_isHopeless 72 = .ok (.getfield 43, 3) := by decide +kernel
theorem dX5_isHopeless_75 : decode cX5_isHopeless 75 = .ok (.getfield 116, 3) := by decide +kernel
theorem dX5_isHopeless_78 : decode cX5_isHopeless 78 = .ok (.ifCond .eq 9, 3) := by decide +kernel
theorem dX5_isHopeless_81 : decode cX5_isHopeless 81 = .ok (.iconst 2, 1) := by decide +kernel
theorem dX5_isHopeless_82 : decode cX5_isHopeless 82 = .ok (.iload_n 2, 1) := by decide +kernel
theorem dX5_isHopeless_83 : decode cX5_isHopeless 83 = .ok (.imul, 1) := by decide +kernel
theorem dX5_isHopeless_84 : decode cX5_isHopeless 84 = .ok (.goto 4, 3) := by decide +kernel
theorem dX5_isHopeless_87 : decode cX5_isHopeless 87 = .ok (.iload_n 2, 1) := by decide +kernel
theorem dX5_isHopeless_88 : decode cX5_isHopeless 88 = .ok (.if_icmp .le 7, 3) := by decide +kernel
theorem dX5_isHopeless_91 : decode cX5_isHopeless 91 = .ok (.iconst 1, 1) := by decide +kernel
theorem dX5_isHopeless_92 : decode cX5_isHopeless 92 = .ok (.goto 4, 3) := by decide +kernel
theorem dX5_isHopeless_95 : decode cX5_isHopeless 95 = .ok (.iconst 0, 1) := by decide +kernel
theorem dX5_isHopeless_96 : decode cX5_isHopeless 96 = .ok (.ireturn, 1) := by decide +kernel
set_option maxRecDepth 20000 in
theorem g_X5_isHopeless_0 {G : GX} {d : Nat} {Ret : Option AV → St → Prop} {R : Nat → List AV → List AV → St → Prop} (hM : AM G wdX (d + 1) mX5_isHopeless Ret R) (v1 : Int) (v2 : Int) (σ : St)
    (h : ((0 ≤ (bShr v1 4) ∧ (bShr v1 4) < 256) ∧ (r32 ((bAnd v1 15) * 4) ∧ (∀ u1, u1 = (bAnd (bL2i (bLshr (σ.2 27 ((bShr v1 4)).toNat) ((bAnd v1 15) * 4))) 15) → ((u1 < v2 → (r32 ((bShl 1 (σ.1 6 5)) - 1) ∧ (∀ u2, u2 = (bAnd ((bShl 1 (σ.1 6 5)) - 1) (bXor v1 (-1))) → (∀ u3, u3 = (bAnd (bShl u2 1) (bXor (σ.1 5 7) (-1))) → conI G wdX d mJ6_bitCount_0f7a4 [vI (bAnd u2 (bXor u3 (-1)))] σ (fun x1 σ1 => (((σ1.1 0 3) = 0 → ((x1 ≤ v2 → Ret (some (vI 0)) σ1) ∧ (¬ x1 ≤ v2 → Ret (some (vI 1)) σ1))) ∧ (¬ (σ1.1 0 3) = 0 → (r32 (2 * v2) ∧ ((x1 ≤ (2 * v2) → Ret (some (vI 0)) σ1) ∧ (¬ x1 ≤ (2 * v2) → Ret (some (vI 1)) σ1)))))))))) ∧ (¬ u1 < v2 → Ret (some (vI 1)) σ)))))) : R 0 [vR 5, vI v1, vI v2, vN, vN, vN, vN] [] σ := by
  refine r_aload_n hM (pc' := 1) dX5_isHopeless_0 rfl (x := 5) rfl ?_
  refine r_getR hM (pc' := 4) dX5_isHopeless_1 rfl fl_X5_18 wx_5 rfl ?_
  refine r_iload_n hM (pc' := 5) dX5_isHopeless_4 rfl (x := v1) rfl ?_
  refine r_iconst hM (pc' := 6) dX5_isHopeless_5 rfl (by decide) ?_
  refine r_ishr hM (pc' := 7) dX5_isHopeless_6 rfl ?_
  have o1 := h.1
  have h := h.2
  refine r_laload hM (pc' := 8) dX5_isHopeless_7 rfl wx_27 o1 ?_
  refine r_iload_n hM (pc' := 9) dX5_isHopeless_8 rfl (x := v1) rfl ?_
  refine r_bipush hM (pc' := 11) dX5_isHopeless_9 rfl (by decide) (by decide) ?_
  refine r_iand hM (pc' := 12) dX5_isHopeless_11 rfl ?_
  refine r_iconst hM (pc' := 13) dX5_isHopeless_12 rfl (by decide) ?_
  have o2 := h.1
  have h := h.2
  refine r_imul hM (pc' := 14) dX5_isHopeless_13 rfl o2 ?_
  refine r_lshr hM (pc' := 15) dX5_isHopeless_14 rfl ?_
  refine r_l2i hM (pc' := 16) dX5_isHopeless_15 rfl ?_
  refine r_bipush hM (pc' := 18) dX5_isHopeless_16 rfl (by decide) (by decide) ?_
  refine r_iand hM (pc' := 19) dX5_isHopeless_18 rfl ?_
  refine r_istore_nN hM (pc' := 20) dX5_isHopeless_19 rfl (Nat.le_of_ble_eq_true rfl) rfl (fun u1 eu1 => ?_)
  have h := h u1 eu1
  show R 20 [vR 5, vI v1, vI v2, vI u1, vN, vN, vN] _ _
  refine r_iload_n hM (pc' := 21) dX5_isHopeless_20 rfl (x := v2) rfl ?_
  refine r_iload_n hM (pc' := 22) dX5_isHopeless_21 rfl (x := u1) rfl ?_
  refine r_icmp_gt hM (pc' := 25) (tgt := 27) dX5_isHopeless_22 rfl (by decide) (fun c => ?_) (fun c => ?_)
  · have h := h.1 c
    refine r_iconst hM (pc' := 28) dX5_isHopeless_27 rfl (by decide) ?_
    refine r_aload_n hM (pc' := 29) dX5_isHopeless_28 rfl (x := 5) rfl ?_
    refine r_getR hM (pc' := 32) dX5_isHopeless_29 rfl fl_X5_39 wx_5 rfl ?_
    refine r_getI hM (pc' := 35) dX5_isHopeless_32 rfl fl_X5_47 wx_6 rfl ?_
    refine r_ishl hM (pc' := 36) dX5_isHopeless_35 rfl ?_
    refine r_iconst hM (pc' := 37) dX5_isHopeless_36 rfl (by decide) ?_
    have o3 := h.1
    have h := h.2
    refine r_isub hM (pc' := 38) dX5_isHopeless_37 rfl o3 ?_
    refine r_iload_n hM (pc' := 39) dX5_isHopeless_38 rfl (x := v1) rfl ?_
    refine r_iconst hM (pc' := 40) dX5_isHopeless_39 rfl (by decide) ?_
    refine r_ixor hM (pc' := 41) dX5_isHopeless_40 rfl ?_
    refine r_iand hM (pc' := 42) dX5_isHopeless_41 rfl ?_
    refine r_istoreN hM (pc' := 44) dX5_isHopeless_42 rfl (Nat.le_of_ble_eq_true rfl) rfl (fun u2 eu2 => ?_)
    have h := h u2 eu2
    show R 44 [vR 5, vI v1, vI v2, vI u1, vI u2, vN, vN] _ _
    refine r_iload hM (pc' := 46) dX5_isHopeless_44 rfl (x := u2) rfl ?_
    refine r_iconst hM (pc' := 47) dX5_isHopeless_46 rfl (by decide) ?_
    refine r_ishl hM (pc' := 48) dX5_isHopeless_47 rfl ?_
    refine r_aload_n hM (pc' := 49) dX5_isHopeless_48 rfl (x := 5) rfl ?_
    refine r_getI hM (pc' := 52) dX5_isHopeless_49 rfl fl_X5_29 wx_5 rfl ?_
    refine r_iconst hM (pc' := 53) dX5_isHopeless_52 rfl (by decide) ?_
    refine r_ixor hM (pc' := 54) dX5_isHopeless_53 rfl ?_
    refine r_iand hM (pc' := 55) dX5_isHopeless_54 rfl ?_
    refine r_istoreN hM (pc' := 57) dX5_isHopeless_55 rfl (Nat.le_of_ble_eq_true rfl) rfl (fun u3 eu3 => ?_)
    have h := h u3 eu3
    show R 57 [vR 5, vI v1, vI v2, vI u1, vI u2, vI u3, vN] _ _
    refine r_iload hM (pc' := 59) dX5_isHopeless_57 rfl (x := u2) rfl ?_
    refine r_iload hM (pc' := 61) dX5_isHopeless_59 rfl (x := u3) rfl ?_
    refine r_iconst hM (pc' := 62) dX5_isHopeless_61 rfl (by decide) ?_
    refine r_ixor hM (pc' := 63) dX5_isHopeless_62 rfl ?_
    refine r_iand hM (pc' := 64) dX5_isHopeless_63 rfl ?_
    refine r_callSI hM (pc' := 67) [vI (bAnd u2 (bXor u3 (-1)))] dX5_isHopeless_64 rfl ml_X5_111 rfl rfl (Nat.le_of_ble_eq_true rfl) (conI.mono h (fun x1 σ1 h => ?_))
    refine r_istore hM (pc' := 69) dX5_isHopeless_67 rfl (Nat.le_of_ble_eq_true rfl) rfl ?_
    show R 69 [vR 5, vI v1, vI v2, vI u1, vI u2, vI u3, vI x1] _ _
    refine r_iload hM (pc' := 71) dX5_isHopeless_69 rfl (x := x1) rfl ?_
    refine r_aload_n hM (pc' := 72) dX5_isHopeless_71 rfl (x := 5) rfl ?_
    refine r_getR hM (pc' := 75) dX5_isHopeless_72 rfl fl_X5_43 wx_5 rfl ?_
    refine r_getI hM (pc' := 78) dX5_isHopeless_75 rfl fl_X5_116 wx_0 rfl ?_
    refine r_if_eq hM (pc' := 81) (tgt := 87) dX5_isHopeless_78 rfl (by decide) (fun c => ?_) (fun c => ?_)
    · have h := h.1 c
      refine r_iload_n hM (pc' := 88) dX5_isHopeless_87 rfl (x := v2) rfl ?_
      refine r_icmp_le hM (pc' := 91) (tgt := 95) dX5_isHopeless_88 rfl (by decide) (fun c => ?_) (fun c => ?_)
      · have h := h.1 c
        refine r_iconst hM (pc' := 96) dX5_isHopeless_95 rfl (by decide) ?_
        exact r_zreturn hM dX5_isHopeless_96 rfl (by decide) h
      · have h := h.2 c
        refine r_iconst hM (pc' := 92) dX5_isHopeless_91 rfl (by decide) ?_
        refine r_goto hM (tgt := 96) dX5_isHopeless_92 (by decide) ?_
        exact r_zreturn hM dX5_isHopeless_96 rfl (by decide) h
    · have h := h.2 c
      refine r_iconst hM (pc' := 82) dX5_isHopeless_81 rfl (by decide) ?_
      refine r_iload_n hM (pc' := 83) dX5_isHopeless_82 rfl (x := v2) rfl ?_
      have o4 := h.1
      have h := h.2
      refine r_imul hM (pc' := 84) dX5_isHopeless_83 rfl o4 ?_
      refine r_goto hM (tgt := 88) dX5_isHopeless_84 (by decide) ?_
      refine r_icmp_le hM (pc' := 91) (tgt := 95) dX5_isHopeless_88 rfl (by decide) (fun c => ?_) (fun c => ?_)
      · have h := h.1 c
        refine r_iconst hM (pc' := 96) dX5_isHopeless_95 rfl (by decide) ?_
        exact r_zreturn hM dX5_isHopeless_96 rfl (by decide) h
      · have h := h.2 c
        refine r_iconst hM (pc' := 92) dX5_isHopeless_91 rfl (by decide) ?_
        refine r_goto hM (tgt := 96) dX5_isHopeless_92 (by decide) ?_
        exact r_zreturn hM dX5_isHopeless_96 rfl (by decide) h
  · have h := h.2 c
    refine r_iconst hM (pc' := 26) dX5_isHopeless_25 rfl (by decide) ?_
    exact r_zreturn hM dX5_isHopeless_26 rfl (by decide) h
theorem dX5_noteTooFew_0 : decode cX5_noteTooFew 0 = .ok (.iload_n 1, 1) := by decide +kernel
theorem dX5_noteTooFew_1 : decode cX5_noteTooFew 1 = .ok (.bipush 15, 2) := by decide +kernel
theorem dX5_noteTooFew_3 : decode cX5_noteTooFew 3 = .ok (.iand, 1) := by decide +kernel
theorem dX5_noteTooFew_4 : decode cX5_noteTooFew 4 = .ok (.iconst 4, 1) := by decide +kernel
theorem dX5_noteTooFew_5 : decode cX5_noteTooFew 5 = .ok (.imul, 1) := by decide +kernel
theorem dX5_noteTooFew_6 : decode cX5_noteTooFew 6 = .ok (.istore_n 3, 1) := by decide +kernel
theorem dX5_noteTooFew_7 : decode cX5_noteTooFew 7 = .ok (.aload_n 0, 1) := by decide +kernel
theorem dX5_noteTooFew_8 : decode cX5_noteTooFew 8 = .ok (.getfield 18, 3) := by decide +kernel
theorem dX5_noteTooFew_11 : decode cX5_noteTooFew 11 = .ok (.iload_n 1, 1) := by decide +kernel
theorem dX5_noteTooFew_12 : decode cX5_noteTooFew 12 = .ok (.iconst 4, 1) := by decide +kernel
theorem dX5_noteTooFew_13 : decode cX5_noteTooFew 13 = .ok (.ishr, 1) := by decide +kernel
theorem dX5_noteTooFew_14 : decode cX5_noteTooFew 14 = .ok (.laload, 1) := by decide +kernel
theorem dX5_noteTooFew_15 : decode cX5_noteTooFew 15 = .ok (.ldc2_w 119, 3) := by decide +kernel
theorem dX5_noteTooFew_18 : decode cX5_noteTooFew 18 = .ok (.iload_n 3, 1) := by decide +kernel
theorem dX5_noteTooFew_19 : decode cX5_noteTooFew 19 = .ok (.lshl, 1) := by decide +kernel
theorem dX5_noteTooFew_20 : decode cX5_noteTooFew 20 = .ok (.ldc2_w 121, 3) := by decide +kernel
theorem dX5_noteTooFew_23 : decode cX5_noteTooFew 23 = .ok (.lxor, 1) := by decide +kernel
theorem dX5_noteTooFew_24 : decode cX5_noteTooFew 24 = .ok (.land, 1) := by decide +kernel
theorem dX5_noteTooFew_25 : decode cX5_noteTooFew 25 = .ok (.lstore 4, 2) := by decide +kernel
theorem dX5_noteTooFew_27 : decode cX5_noteTooFew 27 = .ok (.aload_n 0, 1) := by decide +kernel
theorem dX5_noteTooFew_28 : decode cX5_noteTooFew 28 = .ok (.getfield 18, 3) := by decide +kernel
theorem dX5_noteTooFew_31 : decode cX5_noteTooFew 31 = .ok (.iload_n 1, 1) := by decide +kernel
theorem dX5_noteTooFew_32 : decode cX5_noteTooFew 32 = .ok (.iconst 4, 1) := by decide +kernel
theorem dX5_noteTooFew_33 : decode cX5_noteTooFew 33 = .ok (.ishr, 1) := by decide +kernel
theorem dX5_noteTooFew_34 : decode cX5_noteTooFew 34 = .ok (.lload 4, 2) := by decide +kernel
theorem dX5_noteTooFew_36 : decode cX5_noteTooFew 36 = .ok (.iload_n 2, 1) := by decide +kernel
theorem dX5_noteTooFew_37 : decode cX5_noteTooFew 37 = .ok (.i2l, 1) := by decide +kernel
theorem dX5_noteTooFew_38 : decode cX5_noteTooFew 38 = .ok (.iload_n 3, 1) := by decide +kernel
theorem dX5_noteTooFew_39 : decode cX5_noteTooFew 39 = .ok (.lshl, 1) := by decide +kernel
theorem dX5_noteTooFew_40 : decode cX5_noteTooFew 40 = .ok (.lor, 1) := by decide +kernel
theorem dX5_noteTooFew_41 : decode cX5_noteTooFew 41 = .ok (.lastore, 1) := by decide +kernel
theorem dX5_noteTooFew_42 : decode cX5_noteTooFew 42 = .ok (.return_, 1) := by decide +kernel
set_option maxRecDepth 20000 in
theorem g_X5_noteTooFew_0 {G : GX} {d : Nat} {Ret : Option AV → St → Prop} {R : Nat → List AV → List AV → St → Prop} (hM : AM G wdX d mX5_noteTooFew Ret R) (v1 : Int) (v2 : Int) (σ : St)
    (h : (r32 ((bAnd v1 15) * 4) ∧ ((0 ≤ (bShr v1 4) ∧ (bShr v1 4) < 256) ∧ (∀ τ1, τ1 = sL σ 27 ((bShr v1 4)).toNat (((σ.2 27 ((bShr v1 4)).toNat) &&& ((bLshl 15 ((bAnd v1 15) * 4)) ^^^ (-1))) ||| (bLshl (bI2l v2) ((bAnd v1 15) * 4))) → Ret none τ1)))) : R 0 [vR 5, vI v1, vI v2, vN, vN, vN] [] σ := by
  refine r_iload_n hM (pc' := 1) dX5_noteTooFew_0 rfl (x := v1) rfl ?_
  refine r_bipush hM (pc' := 3) dX5_noteTooFew_1 rfl (by decide) (by decide) ?_
  refine r_iand hM (pc' := 4) dX5_noteTooFew_3 rfl ?_
  refine r_iconst hM (pc' := 5) dX5_noteTooFew_4 rfl (by decide) ?_
  have o1 := h.1
  have h := h.2
  refine r_imul hM (pc' := 6) dX5_noteTooFew_5 rfl o1 ?_
  refine r_istore_n hM (pc' := 7) dX5_noteTooFew_6 rfl (Nat.le_of_ble_eq_true rfl) rfl ?_
  show R 7 [vR 5, vI v1, vI v2, vI ((bAnd v1 15) * 4), vN, vN] _ _
  refine r_aload_n hM (pc' := 8) dX5_noteTooFew_7 rfl (x := 5) rfl ?_
  refine r_getR hM (pc' := 11) dX5_noteTooFew_8 rfl fl_X5_18 wx_5 rfl ?_
  refine r_iload_n hM (pc' := 12) dX5_noteTooFew_11 rfl (x := v1) rfl ?_
  refine r_iconst hM (pc' := 13) dX5_noteTooFew_12 rfl (by decide) ?_
  refine r_ishr hM (pc' := 14) dX5_noteTooFew_13 rfl ?_
  have o2 := h.1
  have h := h.2
  refine r_laload hM (pc' := 15) dX5_noteTooFew_14 rfl wx_27 o2 ?_
  refine r_ldc2_w hM (pc' := 18) dX5_noteTooFew_15 rfl (x := 15) k_X5_119 ?_
  refine r_iload_n hM (pc' := 19) dX5_noteTooFew_18 rfl (x := ((bAnd v1 15) * 4)) rfl ?_
  refine r_lshl hM (pc' := 20) dX5_noteTooFew_19 rfl ?_
  refine r_ldc2_w hM (pc' := 23) dX5_noteTooFew_20 rfl (x := (-1)) k_X5_121 ?_
  refine r_lxor hM (pc' := 24) dX5_noteTooFew_23 rfl ?_
  refine r_land hM (pc' := 25) dX5_noteTooFew_24 rfl ?_
  refine r_lstore hM (pc' := 27) dX5_noteTooFew_25 rfl (Nat.le_of_ble_eq_true rfl) rfl ?_
  show R 27 [vR 5, vI v1, vI v2, vI ((bAnd v1 15) * 4), vL ((σ.2 27 ((bShr v1 4)).toNat) &&& ((bLshl 15 ((bAnd v1 15) * 4)) ^^^ (-1))), vN] _ _
  refine r_aload_n hM (pc' := 28) dX5_noteTooFew_27 rfl (x := 5) rfl ?_
  refine r_getR hM (pc' := 31) dX5_noteTooFew_28 rfl fl_X5_18 wx_5 rfl ?_
  refine r_iload_n hM (pc' := 32) dX5_noteTooFew_31 rfl (x := v1) rfl ?_
  refine r_iconst hM (pc' := 33) dX5_noteTooFew_32 rfl (by decide) ?_
  refine r_ishr hM (pc' := 34) dX5_noteTooFew_33 rfl ?_
  refine r_lload hM (pc' := 36) dX5_noteTooFew_34 rfl (x := ((σ.2 27 ((bShr v1 4)).toNat) &&& ((bLshl 15 ((bAnd v1 15) * 4)) ^^^ (-1)))) rfl ?_
  refine r_iload_n hM (pc' := 37) dX5_noteTooFew_36 rfl (x := v2) rfl ?_
  refine r_i2l hM (pc' := 38) dX5_noteTooFew_37 rfl ?_
  refine r_iload_n hM (pc' := 39) dX5_noteTooFew_38 rfl (x := ((bAnd v1 15) * 4)) rfl ?_
  refine r_lshl hM (pc' := 40) dX5_noteTooFew_39 rfl ?_
  refine r_lor hM (pc' := 41) dX5_noteTooFew_40 rfl ?_
  refine r_lastore hM (pc' := 42) dX5_noteTooFew_41 rfl wx_27 o2 (fun τ1 e1 => ?_)
  have h := h τ1 e1
  exact r_return hM dX5_noteTooFew_42 rfl h
