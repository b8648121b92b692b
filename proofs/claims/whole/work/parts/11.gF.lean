theorem ml_X10_80 : MLs RX10 80 mX10_in 3 := ⟨gw_mem 860 (by decide +kernel) rfl, gw_mem 861 (by decide +kernel) rfl, gw_mem 49 (by decide +kernel) rfl, mwX10_in, ⟨by decide, by decide, by decide +kernel⟩, by decide⟩
theorem fl_X10_84 : FL RX10 84 10 3 := ⟨(RX10, TX10, 27), rfl, by decide, gw_mem 774 (by decide +kernel) rfl, inwX10⟩
theorem ml_X10_87 : MLs RX10 87 mX10_isPlace 1 := ⟨gw_mem 857 (by decide +kernel) rfl, gw_mem 858 (by decide +kernel) rfl, gw_mem 49 (by decide +kernel) rfl, mwX10_isPlace, ⟨by decide, by decide, by decide +kernel⟩, by decide⟩
theorem fl_X10_7 : FL RX10 7 10 0 := ⟨(RX10, TX10, 27), rfl, by decide, gw_mem 771 (by decide +kernel) rfl, inwX10⟩
theorem fl_X10_13 : FL RX10 13 10 1 := ⟨(RX10, TX10, 27), rfl, by decide, gw_mem 772 (by decide +kernel) rfl, inwX10⟩
theorem fp_X10_91 : FP RX10 91 10 13 .boolean := ⟨(RX10, TX10, 27), rfl, by decide, gw_mem 784 (by decide +kernel) rfl, inwX10, ⟨tyX10, tyX10_ok⟩, nmX10, rfl, by decide +kernel⟩
theorem fp_X10_94 : FP RX10 94 10 25 .int := ⟨(RX10, TX10, 27), rfl, by decide, gw_mem 796 (by decide +kernel) rfl, inwX10, ⟨tyX10, tyX10_ok⟩, nmX10, rfl, by decide +kernel⟩
theorem fl_X10_16 : FL RX10 16 10 2 := ⟨(RX10, TX10, 27), rfl, by decide, gw_mem 773 (by decide +kernel) rfl, inwX10⟩
theorem fl_X10_20 : FL RX10 20 10 4 := ⟨(RX10, TX10, 27), rfl, by decide, gw_mem 775 (by decide +kernel) rfl, inwX10⟩
theorem fl_X10_23 : FL RX10 23 10 5 := ⟨(RX10, TX10, 27), rfl, by decide, gw_mem 776 (by decide +kernel) rfl, inwX10⟩
theorem fl_X10_26 : FL RX10 26 10 6 := ⟨(RX10, TX10, 27), rfl, by decide, gw_mem 777 (by decide +kernel) rfl, inwX10⟩
theorem fl_X10_29 : FL RX10 29 10 7 := ⟨(RX10, TX10, 27), rfl, by decide, gw_mem 778 (by decide +kernel) rfl, inwX10⟩
theorem fp_X10_84 : FP RX10 84 10 3 .int := ⟨(RX10, TX10, 27), rfl, by decide, gw_mem 774 (by decide +kernel) rfl, inwX10, ⟨tyX10, tyX10_ok⟩, nmX10, rfl, by decide +kernel⟩
theorem ml_X10_97 : MLv RX10 97 mX10_isTrip 10 1 := ⟨(RX10, TX10, 27), rfl, rfl, gw_mem 875 (by decide +kernel) rfl, gw_mem 877 (by decide +kernel) rfl, gw_mem 21 (by decide +kernel) rfl, gw_mem 49 (by decide +kernel) rfl, mwX10_isTrip, ⟨by decide, by decide, by decide +kernel⟩, by decide⟩
theorem ml_X10_100 : MLv RX10 100 mX10_canMove 10 2 := ⟨(RX10, TX10, 27), rfl, rfl, gw_mem 883 (by decide +kernel) rfl, gw_mem 885 (by decide +kernel) rfl, gw_mem 22 (by decide +kernel) rfl, gw_mem 49 (by decide +kernel) rfl, mwX10_canMove, ⟨by decide, by decide, by decide +kernel⟩, by decide⟩
theorem fp_X10_32 : FP RX10 32 10 8 .int := ⟨(RX10, TX10, 27), rfl, by decide, gw_mem 779 (by decide +kernel) rfl, inwX10, ⟨tyX10, tyX10_ok⟩, nmX10, rfl, by decide +kernel⟩
theorem fp_X10_36 : FP RX10 36 10 9 .int := ⟨(RX10, TX10, 27), rfl, by decide, gw_mem 780 (by decide +kernel) rfl, inwX10, ⟨tyX10, tyX10_ok⟩, nmX10, rfl, by decide +kernel⟩
theorem fp_X10_39 : FP RX10 39 10 10 .int := ⟨(RX10, TX10, 27), rfl, by decide, gw_mem 781 (by decide +kernel) rfl, inwX10, ⟨tyX10, tyX10_ok⟩, nmX10, rfl, by decide +kernel⟩
theorem fp_X10_42 : FP RX10 42 10 11 .boolean := ⟨(RX10, TX10, 27), rfl, by decide, gw_mem 782 (by decide +kernel) rfl, inwX10, ⟨tyX10, tyX10_ok⟩, nmX10, rfl, by decide +kernel⟩
theorem ml_X10_104 : MLv RX10 104 mX10_follows 10 2 := ⟨(RX10, TX10, 27), rfl, rfl, gw_mem 899 (by decide +kernel) rfl, gw_mem 901 (by decide +kernel) rfl, gw_mem 23 (by decide +kernel) rfl, gw_mem 49 (by decide +kernel) rfl, mwX10_follows, ⟨by decide, by decide, by decide +kernel⟩, by decide⟩
theorem fl_X10_47 : FL RX10 47 10 12 := ⟨(RX10, TX10, 27), rfl, by decide, gw_mem 783 (by decide +kernel) rfl, inwX10⟩
theorem k_X10_107 : Cond.constant RX10 107 (Int32.ofInt 65536) ∈ gw := gw_mem 919 (by decide +kernel) rfl
theorem ml_X10_108 : MLv RX10 108 mX10_with 10 3 := ⟨(RX10, TX10, 27), rfl, rfl, gw_mem 920 (by decide +kernel) rfl, gw_mem 922 (by decide +kernel) rfl, gw_mem 26 (by decide +kernel) rfl, gw_mem 49 (by decide +kernel) rfl, mwX10_with, ⟨by decide, by decide, by decide +kernel⟩, by decide⟩
theorem k_X10_112 : Cond.constant RX10 112 (Int32.ofInt 100000) ∈ gw := gw_mem 924 (by decide +kernel) rfl
theorem fl_X10_91 : FL RX10 91 10 13 := ⟨(RX10, TX10, 27), rfl, by decide, gw_mem 784 (by decide +kernel) rfl, inwX10⟩
theorem ml_X10_113 : MLv RX10 113 mX10_sums 10 0 := ⟨(RX10, TX10, 27), rfl, rfl, gw_mem 915 (by decide +kernel) rfl, gw_mem 917 (by decide +kernel) rfl, gw_mem 25 (by decide +kernel) rfl, gw_mem 49 (by decide +kernel) rfl, mwX10_sums, ⟨by decide, by decide, by decide +kernel⟩, by decide⟩
theorem fl_X10_50 : FL RX10 50 10 14 := ⟨(RX10, TX10, 27), rfl, by decide, gw_mem 785 (by decide +kernel) rfl, inwX10⟩
theorem fp_X10_116 : FP RX10 116 10 15 .int := ⟨(RX10, TX10, 27), rfl, by decide, gw_mem 786 (by decide +kernel) rfl, inwX10, ⟨tyX10, tyX10_ok⟩, nmX10, rfl, by decide +kernel⟩
theorem fp_X10_119 : FP RX10 119 10 18 .int := ⟨(RX10, TX10, 27), rfl, by decide, gw_mem 789 (by decide +kernel) rfl, inwX10, ⟨tyX10, tyX10_ok⟩, nmX10, rfl, by decide +kernel⟩
theorem ml_X10_122 : MLv RX10 122 mX10_goes 10 1 := ⟨(RX10, TX10, 27), rfl, rfl, gw_mem 925 (by decide +kernel) rfl, gw_mem 927 (by decide +kernel) rfl, gw_mem 27 (by decide +kernel) rfl, gw_mem 49 (by decide +kernel) rfl, mwX10_goes, ⟨by decide, by decide, by decide +kernel⟩, by decide⟩
theorem fl_X10_53 : FL RX10 53 10 16 := ⟨(RX10, TX10, 27), rfl, by decide, gw_mem 787 (by decide +kernel) rfl, inwX10⟩
theorem fl_X10_116 : FL RX10 116 10 15 := ⟨(RX10, TX10, 27), rfl, by decide, gw_mem 786 (by decide +kernel) rfl, inwX10⟩
theorem fl_X10_56 : FL RX10 56 10 17 := ⟨(RX10, TX10, 27), rfl, by decide, gw_mem 788 (by decide +kernel) rfl, inwX10⟩
theorem fl_X10_71 : FL RX10 71 10 23 := ⟨(RX10, TX10, 27), rfl, by decide, gw_mem 794 (by decide +kernel) rfl, inwX10⟩
theorem fl_X10_119 : FL RX10 119 10 18 := ⟨(RX10, TX10, 27), rfl, by decide, gw_mem 789 (by decide +kernel) rfl, inwX10⟩
theorem fl_X10_59 : FL RX10 59 10 19 := ⟨(RX10, TX10, 27), rfl, by decide, gw_mem 790 (by decide +kernel) rfl, inwX10⟩
theorem fl_X10_62 : FL RX10 62 10 20 := ⟨(RX10, TX10, 27), rfl, by decide, gw_mem 791 (by decide +kernel) rfl, inwX10⟩
theorem fl_X10_65 : FL RX10 65 10 21 := ⟨(RX10, TX10, 27), rfl, by decide, gw_mem 792 (by decide +kernel) rfl, inwX10⟩
theorem fl_X10_68 : FL RX10 68 10 22 := ⟨(RX10, TX10, 27), rfl, by decide, gw_mem 793 (by decide +kernel) rfl, inwX10⟩
theorem ml_X10_126 : MLv RX10 126 mX10_plans 10 0 := ⟨(RX10, TX10, 27), rfl, rfl, gw_mem 911 (by decide +kernel) rfl, gw_mem 913 (by decide +kernel) rfl, gw_mem 24 (by decide +kernel) rfl, gw_mem 49 (by decide +kernel) rfl, mwX10_plans, ⟨by decide, by decide, by decide +kernel⟩, by decide⟩
theorem ml_X10_129 : MLv RX10 129 mX10_slack 10 1 := ⟨(RX10, TX10, 27), rfl, rfl, gw_mem 929 (by decide +kernel) rfl, gw_mem 931 (by decide +kernel) rfl, gw_mem 28 (by decide +kernel) rfl, gw_mem 49 (by decide +kernel) rfl, mwX10_slack, ⟨by decide, by decide, by decide +kernel⟩, by decide⟩
theorem ml_X10_133 : MLv RX10 133 mX10_beginOf 10 1 := ⟨(RX10, TX10, 27), rfl, rfl, gw_mem 957 (by decide +kernel) rfl, gw_mem 959 (by decide +kernel) rfl, gw_mem 31 (by decide +kernel) rfl, gw_mem 49 (by decide +kernel) rfl, mwX10_beginOf, ⟨by decide, by decide, by decide +kernel⟩, by decide⟩
theorem ml_X10_136 : MLv RX10 136 mX10_endOf 10 1 := ⟨(RX10, TX10, 27), rfl, rfl, gw_mem 961 (by decide +kernel) rfl, gw_mem 963 (by decide +kernel) rfl, gw_mem 32 (by decide +kernel) rfl, gw_mem 49 (by decide +kernel) rfl, mwX10_endOf, ⟨by decide, by decide, by decide +kernel⟩, by decide⟩
theorem fl_X10_42 : FL RX10 42 10 11 := ⟨(RX10, TX10, 27), rfl, by decide, gw_mem 782 (by decide +kernel) rfl, inwX10⟩
theorem fl_X10_39 : FL RX10 39 10 10 := ⟨(RX10, TX10, 27), rfl, by decide, gw_mem 781 (by decide +kernel) rfl, inwX10⟩
theorem fl_X10_32 : FL RX10 32 10 8 := ⟨(RX10, TX10, 27), rfl, by decide, gw_mem 779 (by decide +kernel) rfl, inwX10⟩
theorem fl_X10_36 : FL RX10 36 10 9 := ⟨(RX10, TX10, 27), rfl, by decide, gw_mem 780 (by decide +kernel) rfl, inwX10⟩
theorem ml_X10_139 : MLv RX10 139 mX10_isPiece 10 2 := ⟨(RX10, TX10, 27), rfl, rfl, gw_mem 949 (by decide +kernel) rfl, gw_mem 951 (by decide +kernel) rfl, gw_mem 29 (by decide +kernel) rfl, gw_mem 49 (by decide +kernel) rfl, mwX10_isPiece, ⟨by decide, by decide, by decide +kernel⟩, by decide⟩
theorem ml_X10_142 : MLv RX10 142 mX10_broken 10 4 := ⟨(RX10, TX10, 27), rfl, rfl, gw_mem 953 (by decide +kernel) rfl, gw_mem 955 (by decide +kernel) rfl, gw_mem 30 (by decide +kernel) rfl, gw_mem 49 (by decide +kernel) rfl, mwX10_broken, ⟨by decide, by decide, by decide +kernel⟩, by decide⟩
theorem fl_X10_74 : FL RX10 74 10 24 := ⟨(RX10, TX10, 27), rfl, by decide, gw_mem 795 (by decide +kernel) rfl, inwX10⟩
theorem ml_X10_146 : MLv RX10 146 mX10_takes 10 3 := ⟨(RX10, TX10, 27), rfl, rfl, gw_mem 973 (by decide +kernel) rfl, gw_mem 975 (by decide +kernel) rfl, gw_mem 34 (by decide +kernel) rfl, gw_mem 49 (by decide +kernel) rfl, mwX10_takes, ⟨by decide, by decide, by decide +kernel⟩, by decide⟩
theorem ml_X10_150 : MLs RX10 150 mX10_lowest 1 := ⟨gw_mem 977 (by decide +kernel) rfl, gw_mem 978 (by decide +kernel) rfl, gw_mem 49 (by decide +kernel) rfl, mwX10_lowest, ⟨by decide, by decide, by decide +kernel⟩, by decide⟩
theorem ml_X10_153 : MLs RX10 153 mX10_bits 2 := ⟨gw_mem 980 (by decide +kernel) rfl, gw_mem 981 (by decide +kernel) rfl, gw_mem 49 (by decide +kernel) rfl, mwX10_bits, ⟨by decide, by decide, by decide +kernel⟩, by decide⟩
theorem ml_X10_157 : MLv RX10 157 mX10_takesOne 10 8 := ⟨(RX10, TX10, 27), rfl, rfl, gw_mem 983 (by decide +kernel) rfl, gw_mem 985 (by decide +kernel) rfl, gw_mem 35 (by decide +kernel) rfl, gw_mem 49 (by decide +kernel) rfl, mwX10_takesOne, ⟨by decide, by decide, by decide +kernel⟩, by decide⟩
theorem fl_X10_77 : FL RX10 77 10 26 := ⟨(RX10, TX10, 27), rfl, by decide, gw_mem 797 (by decide +kernel) rfl, inwX10⟩
theorem ml_X10_161 : MLv RX10 161 mX10_rosters 10 0 := ⟨(RX10, TX10, 27), rfl, rfl, gw_mem 969 (by decide +kernel) rfl, gw_mem 971 (by decide +kernel) rfl, gw_mem 33 (by decide +kernel) rfl, gw_mem 49 (by decide +kernel) rfl, mwX10_rosters, ⟨by decide, by decide, by decide +kernel⟩, by decide⟩
theorem fl_X10_94 : FL RX10 94 10 25 := ⟨(RX10, TX10, 27), rfl, by decide, gw_mem 796 (by decide +kernel) rfl, inwX10⟩
theorem ml_X10_164 : MLv RX10 164 mX10_blocksNow 10 0 := ⟨(RX10, TX10, 27), rfl, rfl, gw_mem 999 (by decide +kernel) rfl, gw_mem 1001 (by decide +kernel) rfl, gw_mem 36 (by decide +kernel) rfl, gw_mem 49 (by decide +kernel) rfl, mwX10_blocksNow, ⟨by decide, by decide, by decide +kernel⟩, by decide⟩
theorem dX10_in_0 : decode cX10_in 0 = .ok (.iload_n 0, 1) := by decide +kernel
theorem dX10_in_1 : decode cX10_in 1 = .ok (.iload_n 1, 1) := by decide +kernel
theorem dX10_in_2 : decode cX10_in 2 = .ok (.if_icmp .lt 12, 3) := by decide +kernel
theorem dX10_in_5 : decode cX10_in 5 = .ok (.iload_n 0, 1) := by decide +kernel
theorem dX10_in_6 : decode cX10_in 6 = .ok (.iload_n 2, 1) := by decide +kernel
theorem dX10_in_7 : decode cX10_in 7 = .ok (.if_icmp .gt 7, 3) := by decide +kernel
theorem dX10_in_10 : decode cX10_in 10 = .ok (.iconst 1, 1) := by decide +kernel
theorem dX10_in_11 : decode cX10_in 11 = .ok (.goto 4, 3) := by decide +kernel
theorem dX10_in_14 : decode cX10_in 14 = .ok (.iconst 0, 1) := by decide +kernel
theorem dX10_in_15 : decode cX10_in 15 = .ok (.ireturn, 1) := by decide +kernel
set_option maxRecDepth 20000 in
theorem g_X10_in_0 {G : GX} {d : Nat} {Ret : Option AV → St → Prop} {R : Nat → List AV → List AV → St → Prop} (hM : AM G wdM d mX10_in Ret R) (v0 : Int) (v1 : Int) (v2 : Int) (σ : St)
    (h : ((v0 < v1 → Ret (some (vI 0)) σ) ∧ (¬ v0 < v1 → ((v2 < v0 → Ret (some (vI 0)) σ) ∧ (¬ v2 < v0 → Ret (some (vI 1)) σ))))) : R 0 [vI v0, vI v1, vI v2] [] σ := by
  refine r_iload_n hM (pc' := 1) dX10_in_0 rfl (x := v0) rfl ?_
  refine r_iload_n hM (pc' := 2) dX10_in_1 rfl (x := v1) rfl ?_
  refine r_icmp_lt hM (pc' := 5) (tgt := 14) dX10_in_2 rfl (by decide) (fun c => ?_) (fun c => ?_)
  · have h := h.1 c
    refine r_iconst hM (pc' := 15) dX10_in_14 rfl (by decide) ?_
    exact r_zreturn hM dX10_in_15 rfl (by decide) h
  · have h := h.2 c
    refine r_iload_n hM (pc' := 6) dX10_in_5 rfl (x := v0) rfl ?_
    refine r_iload_n hM (pc' := 7) dX10_in_6 rfl (x := v2) rfl ?_
    refine r_icmp_gt hM (pc' := 10) (tgt := 14) dX10_in_7 rfl (by decide) (fun c => ?_) (fun c => ?_)
    · have h := h.1 c
      refine r_iconst hM (pc' := 15) dX10_in_14 rfl (by decide) ?_
      exact r_zreturn hM dX10_in_15 rfl (by decide) h
    · have h := h.2 c
      refine r_iconst hM (pc' := 11) dX10_in_10 rfl (by decide) ?_
      refine r_goto hM (tgt := 15) dX10_in_11 (by decide) ?_
      exact r_zreturn hM dX10_in_15 rfl (by decide) h
theorem dX10_isPlace_0 : decode cX10_isPlace 0 = .ok (.iload_n 0, 1) := by decide +kernel
theorem dX10_isPlace_1 : decode cX10_isPlace 1 = .ok (.iconst 0, 1) := by decide +kernel
theorem dX10_isPlace_2 : decode cX10_isPlace 2 = .ok (.bipush 11, 2) := by decide +kernel
theorem dX10_isPlace_4 : decode cX10_isPlace 4 = .ok (.invokestatic 80, 3) := by decide +kernel
theorem dX10_isPlace_7 : decode cX10_isPlace 7 = .ok (.ireturn, 1) := by decide +kernel
set_option maxRecDepth 20000 in
theorem g_X10_isPlace_0 {G : GX} {d : Nat} {Ret : Option AV → St → Prop} {R : Nat → List AV → List AV → St → Prop} (hM : AM G wdM (d + 1) mX10_isPlace Ret R) (v0 : Int) (σ : St)
    (h : conI G wdM d mX10_in [vI v0, vI 0, vI 11] σ (fun x1 σ1 => ((x1 = 0 ∨ x1 = 1) ∧ Ret (some (vI x1)) σ1))) : R 0 [vI v0] [] σ := by
  refine r_iload_n hM (pc' := 1) dX10_isPlace_0 rfl (x := v0) rfl ?_
  refine r_iconst hM (pc' := 2) dX10_isPlace_1 rfl (by decide) ?_
  refine r_bipush hM (pc' := 4) dX10_isPlace_2 rfl (by decide) (by decide) ?_
  refine r_callSI hM (pc' := 7) [vI v0, vI 0, vI 11] dX10_isPlace_4 rfl ml_X10_80 rfl rfl (Nat.le_of_ble_eq_true rfl) (conI.mono h (fun x1 σ1 h => ?_))
  have o1 := h.1
  have h := h.2
  exact r_zreturn hM dX10_isPlace_7 rfl o1 h
theorem dX10_isTrip_0 : decode cX10_isTrip 0 = .ok (.iload_n 1, 1) := by decide +kernel
theorem dX10_isTrip_1 : decode cX10_isTrip 1 = .ok (.iconst 0, 1) := by decide +kernel
theorem dX10_isTrip_2 : decode cX10_isTrip 2 = .ok (.aload_n 0, 1) := by decide +kernel
theorem dX10_isTrip_3 : decode cX10_isTrip 3 = .ok (.getfield 84, 3) := by decide +kernel
theorem dX10_isTrip_6 : decode cX10_isTrip 6 = .ok (.iconst 1, 1) := by decide +kernel
theorem dX10_isTrip_7 : decode cX10_isTrip 7 = .ok (.isub, 1) := by decide +kernel
theorem dX10_isTrip_8 : decode cX10_isTrip 8 = .ok (.invokestatic 80, 3) := by decide +kernel
theorem dX10_isTrip_11 : decode cX10_isTrip 11 = .ok (.ireturn, 1) := by decide +kernel
set_option maxRecDepth 20000 in
theorem g_X10_isTrip_0 {G : GX} {d : Nat} {Ret : Option AV → St → Prop} {R : Nat → List AV → List AV → St → Prop} (hM : AM G wdM (d + 1) mX10_isTrip Ret R) (v1 : Int) (σ : St)
    (h : (r32 ((σ.1 0 3) - 1) ∧ conI G wdM d mX10_in [vI v1, vI 0, vI ((σ.1 0 3) - 1)] σ (fun x1 σ1 => ((x1 = 0 ∨ x1 = 1) ∧ Ret (some (vI x1)) σ1)))) : R 0 [vR 0, vI v1] [] σ := by
  refine r_iload_n hM (pc' := 1) dX10_isTrip_0 rfl (x := v1) rfl ?_
  refine r_iconst hM (pc' := 2) dX10_isTrip_1 rfl (by decide) ?_
  refine r_aload_n hM (pc' := 3) dX10_isTrip_2 rfl (x := 0) rfl ?_
  refine r_getI hM (pc' := 6) dX10_isTrip_3 rfl fl_X10_84 wm_0 rfl ?_
  refine r_iconst hM (pc' := 7) dX10_isTrip_6 rfl (by decide) ?_
  have o1 := h.1
  have h := h.2
  refine r_isub hM (pc' := 8) dX10_isTrip_7 rfl o1 ?_
  refine r_callSI hM (pc' := 11) [vI v1, vI 0, vI ((σ.1 0 3) - 1)] dX10_isTrip_8 rfl ml_X10_80 rfl rfl (Nat.le_of_ble_eq_true rfl) (conI.mono h (fun x1 σ1 h => ?_))
  have o2 := h.1
  have h := h.2
  exact r_zreturn hM dX10_isTrip_11 rfl o2 h
theorem dX10_way_0 : decode cX10_way 0 = .ok (.iload_n 1, 1) := by decide +kernel
theorem dX10_way_1 : decode cX10_way 1 = .ok (.invokestatic 87, 3) := by decide +kernel
theorem dX10_way_4 : decode cX10_way 4 = .ok (.ifCond .eq 38, 3) := by decide +kernel
theorem dX10_way_7 : decode cX10_way 7 = .ok (.iload_n 2, 1) := by decide +kernel
theorem dX10_way_8 : decode cX10_way 8 = .ok (.invokestatic 87, 3) := by decide +kernel
theorem dX10_way_11 : decode cX10_way 11 = .ok (.ifCond .eq 31, 3) := by decide +kernel
theorem dX10_way_14 : decode cX10_way 14 = .ok (.iload_n 1, 1) := by decide +kernel
theorem dX10_way_15 : decode cX10_way 15 = .ok (.iload_n 2, 1) := by decide +kernel
theorem dX10_way_16 : decode cX10_way 16 = .ok (.if_icmp .eq 26, 3) := by decide +kernel
theorem dX10_way_19 : decode cX10_way 19 = .ok (.iload_n 3, 1) := by decide +kernel
theorem dX10_way_20 : decode cX10_way 20 = .ok (.iconst (-1), 1) := by decide +kernel
theorem dX10_way_21 : decode cX10_way 21 = .ok (.sipush 600, 3) := by decide +kernel
theorem dX10_way_24 : decode cX10_way 24 = .ok (.invokestatic 80, 3) := by decide +kernel
theorem dX10_way_27 : decode cX10_way 27 = .ok (.ifCond .eq 15, 3) := by decide +kernel
theorem dX10_way_30 : decode cX10_way 30 = .ok (.iload 4, 2) := by decide +kernel
theorem dX10_way_32 : decode cX10_way 32 = .ok (.iconst 0, 1) := by decide +kernel
theorem dX10_way_33 : decode cX10_way 33 = .ok (.sipush 1000, 3) := by decide +kernel
theorem dX10_way_36 : decode cX10_way 36 = .ok (.invokestatic 80, 3) := by decide +kernel
theorem dX10_way_39 : decode cX10_way 39 = .ok (.ifCond .ne 5, 3) := by decide +kernel
theorem dX10_way_42 : decode cX10_way 42 = .ok (.iconst 0, 1) := by decide +kernel
theorem dX10_way_43 : decode cX10_way 43 = .ok (.ireturn, 1) := by decide +kernel
theorem dX10_way_44 : decode cX10_way 44 = .ok (.aload_n 0, 1) := by decide +kernel
theorem dX10_way_45 : decode cX10_way 45 = .ok (.getfield 7, 3) := by decide +kernel
theorem dX10_way_48 : decode cX10_way 48 = .ok (.bipush 12, 2) := by decide +kernel
theorem dX10_way_50 : decode cX10_way 50 = .ok (.iload_n 1, 1) := by decide +kernel
theorem dX10_way_51 : decode cX10_way 51 = .ok (.imul, 1) := by decide +kernel
theorem dX10_way_52 : decode cX10_way 52 = .ok (.iload_n 2, 1) := by decide +kernel
theorem dX10_way_53 : decode cX10_way 53 = .ok (.iadd, 1) := by decide +kernel
theorem dX10_way_54 : decode cX10_way 54 = .ok (.iload_n 3, 1) := by decide +kernel
theorem dX10_way_55 : decode cX10_way 55 = .ok (.iastore, 1) := by decide +kernel
theorem dX10_way_56 : decode cX10_way 56 = .ok (.aload_n 0, 1) := by decide +kernel
theorem dX10_way_57 : decode cX10_way 57 = .ok (.getfield 13, 3) := by decide +kernel
theorem dX10_way_60 : decode cX10_way 60 = .ok (.bipush 12, 2) := by decide +kernel
theorem dX10_way_62 : decode cX10_way 62 = .ok (.iload_n 1, 1) := by decide +kernel
theorem dX10_way_63 : decode cX10_way 63 = .ok (.imul, 1) := by decide +kernel
theorem dX10_way_64 : decode cX10_way 64 = .ok (.iload_n 2, 1) := by decide +kernel
theorem dX10_way_65 : decode cX10_way 65 = .ok (.iadd, 1) := by decide +kernel
theorem dX10_way_66 : decode cX10_way 66 = .ok (.iload_n 3, 1) := by decide +kernel
theorem dX10_way_67 : decode cX10_way 67 = .ok (.iconst (-1), 1) := by decide +kernel
theorem dX10_way_68 : decode cX10_way 68 = .ok (.if_icmp .ne 7, 3) := by decide +kernel
theorem dX10_way_71 : decode cX10_way 71 = .ok (.iconst 0, 1) := by decide +kernel
theorem dX10_way_72 : decode cX10_way 72 = .ok (.goto 5, 3) := by decide +kernel
theorem dX10_way_75 : decode cX10_way 75 = .ok (.iload 4, 2) := by decide +kernel
theorem dX10_way_77 : decode cX10_way 77 = .ok (.iastore, 1) := by decide +kernel
theorem dX10_way_78 : decode cX10_way 78 = .ok (.aload_n 0, 1) := by decide +kernel
theorem dX10_way_79 : decode cX10_way 79 = .ok (.iconst 0, 1) := by decide +kernel
theorem dX10_way_80 : decode cX10_way 80 = .ok (.putfield 91, 3) := by decide +kernel
theorem dX10_way_83 : decode cX10_way 83 = .ok (.aload_n 0, 1) := by decide +kernel
theorem dX10_way_84 : decode cX10_way 84 = .ok (.iconst 0, 1) := by decide +kernel
theorem dX10_way_85 : decode cX10_way 85 = .ok (.putfield 94, 3) := by decide +kernel
theorem dX10_way_88 : decode cX10_way 88 = .ok (.iconst 1, 1) := by decide +kernel
theorem dX10_way_89 : decode cX10_way 89 = .ok (.ireturn, 1) := by decide +kernel
set_option maxRecDepth 20000 in
theorem g_X10_way_0 {G : GX} {d : Nat} {Ret : Option AV → St → Prop} {R : Nat → List AV → List AV → St → Prop} (hM : AM G wdM (d + 1) mX10_way Ret R) (v1 : Int) (v2 : Int) (v3 : Int) (v4 : Int) (σ : St)
    (h : conI G wdM d mX10_isPlace [vI v1] σ (fun x1 σ1 => ((x1 = 0 → Ret (some (vI 0)) σ1) ∧ (¬ x1 = 0 → conI G wdM d mX10_isPlace [vI v2] σ1 (fun x2 σ2 => ((x2 = 0 → Ret (some (vI 0)) σ2) ∧ (¬ x2 = 0 → ((v1 = v2 → Ret (some (vI 0)) σ2) ∧ (¬ v1 = v2 → conI G wdM d mX10_in [vI v3, vI (-1), vI 600] σ2 (fun x3 σ3 => ((x3 = 0 → Ret (some (vI 0)) σ3) ∧ (¬ x3 = 0 → conI G wdM d mX10_in [vI v4, vI 0, vI 1000] σ3 (fun x4 σ4 => ((¬ x4 = 0 → (r32 (12 * v1) ∧ (r32 ((12 * v1) + v2) ∧ ((0 ≤ ((12 * v1) + v2) ∧ ((12 * v1) + v2) < 144) ∧ (∀ τ1, τ1 = sI σ4 1 (((12 * v1) + v2)).toNat v3 → ((¬ v3 = (-1) → (∀ τ2, τ2 = sI τ1 2 (((12 * v1) + v2)).toNat v4 → (∀ τ3, τ3 = sI τ2 0 13 0 → (∀ τ4, τ4 = sI τ3 0 25 0 → Ret (some (vI 1)) τ4)))) ∧ (v3 = (-1) → (∀ τ5, τ5 = sI τ1 2 (((12 * v1) + v2)).toNat 0 → (∀ τ6, τ6 = sI τ5 0 13 0 → (∀ τ7, τ7 = sI τ6 0 25 0 → Ret (some (vI 1)) τ7)))))))))) ∧ (x4 = 0 → Ret (some (vI 0)) σ4))))))))))))))) : R 0 [vR 0, vI v1, vI v2, vI v3, vI v4] [] σ := by
  refine r_iload_n hM (pc' := 1) dX10_way_0 rfl (x := v1) rfl ?_
  refine r_callSI hM (pc' := 4) [vI v1] dX10_way_1 rfl ml_X10_87 rfl rfl (Nat.le_of_ble_eq_true rfl) (conI.mono h (fun x1 σ1 h => ?_))
  refine r_if_eq hM (pc' := 7) (tgt := 42) dX10_way_4 rfl (by decide) (fun c => ?_) (fun c => ?_)
  · have h := h.1 c
    refine r_iconst hM (pc' := 43) dX10_way_42 rfl (by decide) ?_
    exact r_zreturn hM dX10_way_43 rfl (by decide) h
  · have h := h.2 c
    refine r_iload_n hM (pc' := 8) dX10_way_7 rfl (x := v2) rfl ?_
    refine r_callSI hM (pc' := 11) [vI v2] dX10_way_8 rfl ml_X10_87 rfl rfl (Nat.le_of_ble_eq_true rfl) (conI.mono h (fun x2 σ2 h => ?_))
    refine r_if_eq hM (pc' := 14) (tgt := 42) dX10_way_11 rfl (by decide) (fun c => ?_) (fun c => ?_)
    · have h := h.1 c
      refine r_iconst hM (pc' := 43) dX10_way_42 rfl (by decide) ?_
      exact r_zreturn hM dX10_way_43 rfl (by decide) h
    · have h := h.2 c
      refine r_iload_n hM (pc' := 15) dX10_way_14 rfl (x := v1) rfl ?_
      refine r_iload_n hM (pc' := 16) dX10_way_15 rfl (x := v2) rfl ?_
      refine r_icmp_eq hM (pc' := 19) (tgt := 42) dX10_way_16 rfl (by decide) (fun c => ?_) (fun c => ?_)
      · have h := h.1 c
        refine r_iconst hM (pc' := 43) dX10_way_42 rfl (by decide) ?_
        exact r_zreturn hM dX10_way_43 rfl (by decide) h
      · have h := h.2 c
        refine r_iload_n hM (pc' := 20) dX10_way_19 rfl (x := v3) rfl ?_
        refine r_iconst hM (pc' := 21) dX10_way_20 rfl (by decide) ?_
        refine r_sipush hM (pc' := 24) dX10_way_21 rfl (by decide) (by decide) ?_
        refine r_callSI hM (pc' := 27) [vI v3, vI (-1), vI 600] dX10_way_24 rfl ml_X10_80 rfl rfl (Nat.le_of_ble_eq_true rfl) (conI.mono h (fun x3 σ3 h => ?_))
        refine r_if_eq hM (pc' := 30) (tgt := 42) dX10_way_27 rfl (by decide) (fun c => ?_) (fun c => ?_)
        · have h := h.1 c
          refine r_iconst hM (pc' := 43) dX10_way_42 rfl (by decide) ?_
          exact r_zreturn hM dX10_way_43 rfl (by decide) h
        · have h := h.2 c
          refine r_iload hM (pc' := 32) dX10_way_30 rfl (x := v4) rfl ?_
          refine r_iconst hM (pc' := 33) dX10_way_32 rfl (by decide) ?_
          refine r_sipush hM (pc' := 36) dX10_way_33 rfl (by decide) (by decide) ?_
          refine r_callSI hM (pc' := 39) [vI v4, vI 0, vI 1000] dX10_way_36 rfl ml_X10_80 rfl rfl (Nat.le_of_ble_eq_true rfl) (conI.mono h (fun x4 σ4 h => ?_))
          refine r_if_ne hM (pc' := 42) (tgt := 44) dX10_way_39 rfl (by decide) (fun c => ?_) (fun c => ?_)
          · have h := h.1 c
            refine r_aload_n hM (pc' := 45) dX10_way_44 rfl (x := 0) rfl ?_
            refine r_getR hM (pc' := 48) dX10_way_45 rfl fl_X10_7 wm_0 rfl ?_
            refine r_bipush hM (pc' := 50) dX10_way_48 rfl (by decide) (by decide) ?_
            refine r_iload_n hM (pc' := 51) dX10_way_50 rfl (x := v1) rfl ?_
            have o1 := h.1
            have h := h.2
            refine r_imul hM (pc' := 52) dX10_way_51 rfl o1 ?_
            refine r_iload_n hM (pc' := 53) dX10_way_52 rfl (x := v2) rfl ?_
            have o2 := h.1
            have h := h.2
            refine r_iadd hM (pc' := 54) dX10_way_53 rfl o2 ?_
            refine r_iload_n hM (pc' := 55) dX10_way_54 rfl (x := v3) rfl ?_
            have o3 := h.1
            have h := h.2
            refine r_iastore hM (pc' := 56) dX10_way_55 rfl wm_1 o3 (fun τ1 e1 => ?_)
            have h := h τ1 e1
            refine r_aload_n hM (pc' := 57) dX10_way_56 rfl (x := 0) rfl ?_
            refine r_getR hM (pc' := 60) dX10_way_57 rfl fl_X10_13 wm_0 rfl ?_
            refine r_bipush hM (pc' := 62) dX10_way_60 rfl (by decide) (by decide) ?_
            refine r_iload_n hM (pc' := 63) dX10_way_62 rfl (x := v1) rfl ?_
            refine r_imul hM (pc' := 64) dX10_way_63 rfl o1 ?_
            refine r_iload_n hM (pc' := 65) dX10_way_64 rfl (x := v2) rfl ?_
            refine r_iadd hM (pc' := 66) dX10_way_65 rfl o2 ?_
            refine r_iload_n hM (pc' := 67) dX10_way_66 rfl (x := v3) rfl ?_
            refine r_iconst hM (pc' := 68) dX10_way_67 rfl (by decide) ?_
            refine r_icmp_ne hM (pc' := 71) (tgt := 75) dX10_way_68 rfl (by decide) (fun c => ?_) (fun c => ?_)
            · have h := h.1 c
              refine r_iload hM (pc' := 77) dX10_way_75 rfl (x := v4) rfl ?_
              refine r_iastore hM (pc' := 78) dX10_way_77 rfl wm_2 o3 (fun τ2 e2 => ?_)
              have h := h τ2 e2
              refine r_aload_n hM (pc' := 79) dX10_way_78 rfl (x := 0) rfl ?_
              refine r_iconst hM (pc' := 80) dX10_way_79 rfl (by decide) ?_
              refine r_putZ hM (pc' := 83) dX10_way_80 rfl fp_X10_91 wm_0 rfl (by decide) (fun τ3 e3 => ?_)
              have h := h τ3 e3
              refine r_aload_n hM (pc' := 84) dX10_way_83 rfl (x := 0) rfl ?_
              refine r_iconst hM (pc' := 85) dX10_way_84 rfl (by decide) ?_
              refine r_putI hM (pc' := 88) dX10_way_85 rfl fp_X10_94 wm_0 rfl (fun τ4 e4 => ?_)
              have h := h τ4 e4
              refine r_iconst hM (pc' := 89) dX10_way_88 rfl (by decide) ?_
              exact r_zreturn hM dX10_way_89 rfl (by decide) h
            · have h := h.2 c
              refine r_iconst hM (pc' := 72) dX10_way_71 rfl (by decide) ?_
              refine r_goto hM (tgt := 77) dX10_way_72 (by decide) ?_
              refine r_iastore hM (pc' := 78) dX10_way_77 rfl wm_2 o3 (fun τ5 e5 => ?_)
              have h := h τ5 e5
              refine r_aload_n hM (pc' := 79) dX10_way_78 rfl (x := 0) rfl ?_
              refine r_iconst hM (pc' := 80) dX10_way_79 rfl (by decide) ?_
              refine r_putZ hM (pc' := 83) dX10_way_80 rfl fp_X10_91 wm_0 rfl (by decide) (fun τ6 e6 => ?_)
              have h := h τ6 e6
              refine r_aload_n hM (pc' := 84) dX10_way_83 rfl (x := 0) rfl ?_
              refine r_iconst hM (pc' := 85) dX10_way_84 rfl (by decide) ?_
              refine r_putI hM (pc' := 88) dX10_way_85 rfl fp_X10_94 wm_0 rfl (fun τ7 e7 => ?_)
              have h := h τ7 e7
              refine r_iconst hM (pc' := 89) dX10_way_88 rfl (by decide) ?_
              exact r_zreturn hM dX10_way_89 rfl (by decide) h
          · have h := h.2 c
            refine r_iconst hM (pc' := 43) dX10_way_42 rfl (by decide) ?_
            exact r_zreturn hM dX10_way_43 rfl (by decide) h
theorem dX10_relief_0 : decode cX10_relief 0 = .ok (.iload_n 1, 1) := by decide +kernel
theorem dX10_relief_1 : decode cX10_relief 1 = .ok (.invokestatic 87, 3) := by decide +kernel
theorem dX10_relief_4 : decode cX10_relief 4 = .ok (.ifCond .ne 5, 3) := by decide +kernel
theorem dX10_relief_7 : decode cX10_relief 7 = .ok (.iconst 0, 1) := by decide +kernel
theorem dX10_relief_8 : decode cX10_relief 8 = .ok (.ireturn, 1) := by decide +kernel
theorem dX10_relief_9 : decode cX10_relief 9 = .ok (.aload_n 0, 1) := by decide +kernel
theorem dX10_relief_10 : decode cX10_relief 10 = .ok (.getfield 16, 3) := by decide +kernel
theorem dX10_relief_13 : decode cX10_relief 13 = .ok (.iload_n 1, 1) := by decide +kernel
theorem dX10_relief_14 : decode cX10_relief 14 = .ok (.iload_n 2, 1) := by decide +kernel
theorem dX10_relief_15 : decode cX10_relief 15 = .ok (.bastore, 1) := by decide +kernel
theorem dX10_relief_16 : decode cX10_relief 16 = .ok (.aload_n 0, 1) := by decide +kernel
theorem dX10_relief_17 : decode cX10_relief 17 = .ok (.iconst 0, 1) := by decide +kernel
theorem dX10_relief_18 : decode cX10_relief 18 = .ok (.putfield 91, 3) := by decide +kernel
theorem dX10_relief_21 : decode cX10_relief 21 = .ok (.aload_n 0, 1) := by decide +kernel
theorem dX10_relief_22 : decode cX10_relief 22 = .ok (.iconst 0, 1) := by decide +kernel
theorem dX10_relief_23 : decode cX10_relief 23 = .ok (.putfield 94, 3) := by decide +kernel
theorem dX10_relief_26 : decode cX10_relief 26 = .ok (.iconst 1, 1) := by decide +kernel
theorem dX10_relief_27 : decode cX10_relief 27 = .ok (.ireturn, 1) := by decide +kernel
set_option maxRecDepth 20000 in
theorem g_X10_relief_0 {G : GX} {d : Nat} {Ret : Option AV → St → Prop} {R : Nat → List AV → List AV → St → Prop} (hM : AM G wdM (d + 1) mX10_relief Ret R) (v1 : Int) (v2 : Int) (σ : St)
    (h : conI G wdM d mX10_isPlace [vI v1] σ (fun x1 σ1 => ((¬ x1 = 0 → ((0 ≤ v1 ∧ v1 < 12) ∧ ((v2 = 0 ∨ v2 = 1) ∧ (∀ τ1, τ1 = sI σ1 3 (v1).toNat v2 → (∀ τ2, τ2 = sI τ1 0 13 0 → (∀ τ3, τ3 = sI τ2 0 25 0 → Ret (some (vI 1)) τ3)))))) ∧ (x1 = 0 → Ret (some (vI 0)) σ1)))) : R 0 [vR 0, vI v1, vI v2] [] σ := by
  refine r_iload_n hM (pc' := 1) dX10_relief_0 rfl (x := v1) rfl ?_
  refine r_callSI hM (pc' := 4) [vI v1] dX10_relief_1 rfl ml_X10_87 rfl rfl (Nat.le_of_ble_eq_true rfl) (conI.mono h (fun x1 σ1 h => ?_))
  refine r_if_ne hM (pc' := 7) (tgt := 9) dX10_relief_4 rfl (by decide) (fun c => ?_) (fun c => ?_)
  · have h := h.1 c
    refine r_aload_n hM (pc' := 10) dX10_relief_9 rfl (x := 0) rfl ?_
    refine r_getR hM (pc' := 13) dX10_relief_10 rfl fl_X10_16 wm_0 rfl ?_
    refine r_iload_n hM (pc' := 14) dX10_relief_13 rfl (x := v1) rfl ?_
    refine r_iload_n hM (pc' := 15) dX10_relief_14 rfl (x := v2) rfl ?_
    have o1 := h.1
    have h := h.2
    have o2 := h.1
    have h := h.2
    refine r_zastore hM (pc' := 16) dX10_relief_15 rfl wm_3 o1 o2 (fun τ1 e1 => ?_)
    have h := h τ1 e1
    refine r_aload_n hM (pc' := 17) dX10_relief_16 rfl (x := 0) rfl ?_
    refine r_iconst hM (pc' := 18) dX10_relief_17 rfl (by decide) ?_
    refine r_putZ hM (pc' := 21) dX10_relief_18 rfl fp_X10_91 wm_0 rfl (by decide) (fun τ2 e2 => ?_)
    have h := h τ2 e2
    refine r_aload_n hM (pc' := 22) dX10_relief_21 rfl (x := 0) rfl ?_
    refine r_iconst hM (pc' := 23) dX10_relief_22 rfl (by decide) ?_
    refine r_putI hM (pc' := 26) dX10_relief_23 rfl fp_X10_94 wm_0 rfl (fun τ3 e3 => ?_)
    have h := h τ3 e3
    refine r_iconst hM (pc' := 27) dX10_relief_26 rfl (by decide) ?_
    exact r_zreturn hM dX10_relief_27 rfl (by decide) h
  · have h := h.2 c
    refine r_iconst hM (pc' := 8) dX10_relief_7 rfl (by decide) ?_
    exact r_zreturn hM dX10_relief_8 rfl (by decide) h
theorem dX10_trip_0 : decode cX10_trip 0 = .ok (.iload_n 1, 1) := by decide +kernel
theorem dX10_trip_1 : decode cX10_trip 1 = .ok (.invokestatic 87, 3) := by decide +kernel
theorem dX10_trip_4 : decode cX10_trip 4 = .ok (.ifCond .eq 44, 3) := by decide +kernel
theorem dX10_trip_7 : decode cX10_trip 7 = .ok (.iload_n 2, 1) := by decide +kernel
theorem dX10_trip_8 : decode cX10_trip 8 = .ok (.invokestatic 87, 3) := by decide +kernel
theorem dX10_trip_11 : decode cX10_trip 11 = .ok (.ifCond .eq 37, 3) := by decide +kernel
theorem dX10_trip_14 : decode cX10_trip 14 = .ok (.iload_n 3, 1) := by decide +kernel
theorem dX10_trip_15 : decode cX10_trip 15 = .ok (.iconst 0, 1) := by decide +kernel
theorem dX10_trip_16 : decode cX10_trip 16 = .ok (.sipush 2879, 3) := by decide +kernel
theorem dX10_trip_19 : decode cX10_trip 19 = .ok (.invokestatic 80, 3) := by decide +kernel
theorem dX10_trip_22 : decode cX10_trip 22 = .ok (.ifCond .eq 26, 3) := by decide +kernel
theorem dX10_trip_25 : decode cX10_trip 25 = .ok (.iload 4, 2) := by decide +kernel
theorem dX10_trip_27 : decode cX10_trip 27 = .ok (.iload_n 3, 1) := by decide +kernel
theorem dX10_trip_28 : decode cX10_trip 28 = .ok (.iconst 1, 1) := by decide +kernel
theorem dX10_trip_29 : decode cX10_trip 29 = .ok (.iadd, 1) := by decide +kernel
theorem dX10_trip_30 : decode cX10_trip 30 = .ok (.sipush 2879, 3) := by decide +kernel
theorem dX10_trip_33 : decode cX10_trip 33 = .ok (.invokestatic 80, 3) := by decide +kernel
theorem dX10_trip_36 : decode cX10_trip 36 = .ok (.ifCond .eq 12, 3) := by decide +kernel
theorem dX10_trip_39 : decode cX10_trip 39 = .ok (.aload_n 0, 1) := by decide +kernel
theorem dX10_trip_40 : decode cX10_trip 40 = .ok (.getfield 84, 3) := by decide +kernel
theorem dX10_trip_43 : decode cX10_trip 43 = .ok (.bipush 16, 2) := by decide +kernel
theorem dX10_trip_45 : decode cX10_trip 45 = .ok (.if_icmp .ne 5, 3) := by decide +kernel
theorem dX10_trip_48 : decode cX10_trip 48 = .ok (.iconst (-1), 1) := by decide +kernel
theorem dX10_trip_49 : decode cX10_trip 49 = .ok (.ireturn, 1) := by decide +kernel
theorem dX10_trip_50 : decode cX10_trip 50 = .ok (.aload_n 0, 1) := by decide +kernel
theorem dX10_trip_51 : decode cX10_trip 51 = .ok (.getfield 20, 3) := by decide +kernel
theorem dX10_trip_54 : decode cX10_trip 54 = .ok (.aload_n 0, 1) := by decide +kernel
theorem dX10_trip_55 : decode cX10_trip 55 = .ok (.getfield 84, 3) := by decide +kernel
theorem dX10_trip_58 : decode cX10_trip 58 = .ok (.iload_n 1, 1) := by decide +kernel
theorem dX10_trip_59 : decode cX10_trip 59 = .ok (.iastore, 1) := by decide +kernel
theorem dX10_trip_60 : decode cX10_trip 60 = .ok (.aload_n 0, 1) := by decide +kernel
theorem dX10_trip_61 : decode cX10_trip 61 = .ok (.getfield 23, 3) := by decide +kernel
theorem dX10_trip_64 : decode cX10_trip 64 = .ok (.aload_n 0, 1) := by decide +kernel
theorem dX10_trip_65 : decode cX10_trip 65 = .ok (.getfield 84, 3) := by decide +kernel
theorem dX10_trip_68 : decode cX10_trip 68 = .ok (.iload_n 2, 1) := by decide +kernel
theorem dX10_trip_69 : decode cX10_trip 69 = .ok (.iastore, 1) := by decide +kernel
theorem dX10_trip_70 : decode cX10_trip 70 = .ok (.aload_n 0, 1) := by decide +kernel
theorem dX10_trip_71 : decode cX10_trip 71 = .ok (.getfield 26, 3) := by decide +kernel
theorem dX10_trip_74 : decode cX10_trip 74 = .ok (.aload_n 0, 1) := by decide +kernel
theorem dX10_trip_75 : decode cX10_trip 75 = .ok (.getfield 84, 3) := by decide +kernel
theorem dX10_trip_78 : decode cX10_trip 78 = .ok (.iload_n 3, 1) := by decide +kernel
theorem dX10_trip_79 : decode cX10_trip 79 = .ok (.iastore, 1) := by decide +kernel
theorem dX10_trip_80 : decode cX10_trip 80 = .ok (.aload_n 0, 1) := by decide +kernel
theorem dX10_trip_81 : decode cX10_trip 81 = .ok (.getfield 29, 3) := by decide +kernel
theorem dX10_trip_84 : decode cX10_trip 84 = .ok (.aload_n 0, 1) := by decide +kernel
theorem dX10_trip_85 : decode cX10_trip 85 = .ok (.getfield 84, 3) := by decide +kernel
theorem dX10_trip_88 : decode cX10_trip 88 = .ok (.iload 4, 2) := by decide +kernel
theorem dX10_trip_90 : decode cX10_trip 90 = .ok (.iastore, 1) := by decide +kernel
theorem dX10_trip_91 : decode cX10_trip 91 = .ok (.aload_n 0, 1) := by decide +kernel
theorem dX10_trip_92 : decode cX10_trip 92 = .ok (.dup, 1) := by decide +kernel
theorem dX10_trip_93 : decode cX10_trip 93 = .ok (.getfield 84, 3) := by decide +kernel
theorem dX10_trip_96 : decode cX10_trip 96 = .ok (.iconst 1, 1) := by decide +kernel
theorem dX10_trip_97 : decode cX10_trip 97 = .ok (.iadd, 1) := by decide +kernel
theorem dX10_trip_98 : decode cX10_trip 98 = .ok (.putfield 84, 3) := by decide +kernel
theorem dX10_trip_101 : decode cX10_trip 101 = .ok (.aload_n 0, 1) := by decide +kernel
theorem dX10_trip_102 : decode cX10_trip 102 = .ok (.iconst 0, 1) := by decide +kernel
theorem dX10_trip_103 : decode cX10_trip 103 = .ok (.putfield 91, 3) := by decide +kernel
theorem dX10_trip_106 : decode cX10_trip 106 = .ok (.aload_n 0, 1) := by decide +kernel
theorem dX10_trip_107 : decode cX10_trip 107 = .ok (.iconst 0, 1) := by decide +kernel
theorem dX10_trip_108 : decode cX10_trip 108 = .ok (.putfield 94, 3) := by decide +kernel
theorem dX10_trip_111 : decode cX10_trip 111 = .ok (.aload_n 0, 1) := by decide +kernel
theorem dX10_trip_112 : decode cX10_trip 112 = .ok (.getfield 84, 3) := by decide +kernel
theorem dX10_trip_115 : decode cX10_trip 115 = .ok (.iconst 1, 1) := by decide +kernel
theorem dX10_trip_116 : decode cX10_trip 116 = .ok (.isub, 1) := by decide +kernel
theorem dX10_trip_117 : decode cX10_trip 117 = .ok (.ireturn, 1) := by decide +kernel
set_option maxRecDepth 20000 in
theorem g_X10_trip_0 {G : GX} {d : Nat} {Ret : Option AV → St → Prop} {R : Nat → List AV → List AV → St → Prop} (hM : AM G wdM (d + 1) mX10_trip Ret R) (v1 : Int) (v2 : Int) (v3 : Int) (v4 : Int) (σ : St)
    (h : conI G wdM d mX10_isPlace [vI v1] σ (fun x1 σ1 => ((x1 = 0 → Ret (some (vI (-1))) σ1) ∧ (¬ x1 = 0 → conI G wdM d mX10_isPlace [vI v2] σ1 (fun x2 σ2 => ((x2 = 0 → Ret (some (vI (-1))) σ2) ∧ (¬ x2 = 0 → conI G wdM d mX10_in [vI v3, vI 0, vI 2879] σ2 (fun x3 σ3 => ((x3 = 0 → Ret (some (vI (-1))) σ3) ∧ (¬ x3 = 0 → (r32 (v3 + 1) ∧ conI G wdM d mX10_in [vI v4, vI (v3 + 1), vI 2879] σ3 (fun x4 σ4 => ((x4 = 0 → Ret (some (vI (-1))) σ4) ∧ (¬ x4 = 0 → ((¬ (σ4.1 0 3) = 16 → ((0 ≤ (σ4.1 0 3) ∧ (σ4.1 0 3) < 16) ∧ (∀ τ1, τ1 = sI σ4 4 ((σ4.1 0 3)).toNat v1 → ((0 ≤ (τ1.1 0 3) ∧ (τ1.1 0 3) < 16) ∧ (∀ τ2, τ2 = sI τ1 5 ((τ1.1 0 3)).toNat v2 → ((0 ≤ (τ2.1 0 3) ∧ (τ2.1 0 3) < 16) ∧ (∀ τ3, τ3 = sI τ2 6 ((τ2.1 0 3)).toNat v3 → ((0 ≤ (τ3.1 0 3) ∧ (τ3.1 0 3) < 16) ∧ (∀ τ4, τ4 = sI τ3 7 ((τ3.1 0 3)).toNat v4 → (r32 ((τ4.1 0 3) + 1) ∧ (∀ τ5, τ5 = sI τ4 0 3 ((τ4.1 0 3) + 1) → (∀ τ6, τ6 = sI τ5 0 13 0 → (∀ τ7, τ7 = sI τ6 0 25 0 → (r32 ((τ7.1 0 3) - 1) ∧ Ret (some (vI ((τ7.1 0 3) - 1))) τ7)))))))))))))) ∧ ((σ4.1 0 3) = 16 → Ret (some (vI (-1))) σ4)))))))))))))))) : R 0 [vR 0, vI v1, vI v2, vI v3, vI v4] [] σ := by
  refine r_iload_n hM (pc' := 1) dX10_trip_0 rfl (x := v1) rfl ?_
  refine r_callSI hM (pc' := 4) [vI v1] dX10_trip_1 rfl ml_X10_87 rfl rfl (Nat.le_of_ble_eq_true rfl) (conI.mono h (fun x1 σ1 h => ?_))
  refine r_if_eq hM (pc' := 7) (tgt := 48) dX10_trip_4 rfl (by decide) (fun c => ?_) (fun c => ?_)
  · have h := h.1 c
    refine r_iconst hM (pc' := 49) dX10_trip_48 rfl (by decide) ?_
    exact r_ireturn hM dX10_trip_49 rfl h
  · have h := h.2 c
    refine r_iload_n hM (pc' := 8) dX10_trip_7 rfl (x := v2) rfl ?_
    refine r_callSI hM (pc' := 11) [vI v2] dX10_trip_8 rfl ml_X10_87 rfl rfl (Nat.le_of_ble_eq_true rfl) (conI.mono h (fun x2 σ2 h => ?_))
    refine r_if_eq hM (pc' := 14) (tgt := 48) dX10_trip_11 rfl (by decide) (fun c => ?_) (fun c => ?_)
    · have h := h.1 c
      refine r_iconst hM (pc' := 49) dX10_trip_48 rfl (by decide) ?_
      exact r_ireturn hM dX10_trip_49 rfl h
    · have h := h.2 c
      refine r_iload_n hM (pc' := 15) dX10_trip_14 rfl (x := v3) rfl ?_
      refine r_iconst hM (pc' := 16) dX10_trip_15 rfl (by decide) ?_
      refine r_sipush hM (pc' := 19) dX10_trip_16 rfl (by decide) (by decide) ?_
      refine r_callSI hM (pc' := 22) [vI v3, vI 0, vI 2879] dX10_trip_19 rfl ml_X10_80 rfl rfl (Nat.le_of_ble_eq_true rfl) (conI.mono h (fun x3 σ3 h => ?_))
      refine r_if_eq hM (pc' := 25) (tgt := 48) dX10_trip_22 rfl (by decide) (fun c => ?_) (fun c => ?_)
      · have h := h.1 c
        refine r_iconst hM (pc' := 49) dX10_trip_48 rfl (by decide) ?_
        exact r_ireturn hM dX10_trip_49 rfl h
      · have h := h.2 c
        refine r_iload hM (pc' := 27) dX10_trip_25 rfl (x := v4) rfl ?_
        refine r_iload_n hM (pc' := 28) dX10_trip_27 rfl (x := v3) rfl ?_
        refine r_iconst hM (pc' := 29) dX10_trip_28 rfl (by decide) ?_
        have o1 := h.1
        have h := h.2
        refine r_iadd hM (pc' := 30) dX10_trip_29 rfl o1 ?_
        refine r_sipush hM (pc' := 33) dX10_trip_30 rfl (by decide) (by decide) ?_
        refine r_callSI hM (pc' := 36) [vI v4, vI (v3 + 1), vI 2879] dX10_trip_33 rfl ml_X10_80 rfl rfl (Nat.le_of_ble_eq_true rfl) (conI.mono h (fun x4 σ4 h => ?_))
        refine r_if_eq hM (pc' := 39) (tgt := 48) dX10_trip_36 rfl (by decide) (fun c => ?_) (fun c => ?_)
        · have h := h.1 c
          refine r_iconst hM (pc' := 49) dX10_trip_48 rfl (by decide) ?_
          exact r_ireturn hM dX10_trip_49 rfl h
        · have h := h.2 c
          refine r_aload_n hM (pc' := 40) dX10_trip_39 rfl (x := 0) rfl ?_
          refine r_getI hM (pc' := 43) dX10_trip_40 rfl fl_X10_84 wm_0 rfl ?_
          refine r_bipush hM (pc' := 45) dX10_trip_43 rfl (by decide) (by decide) ?_
          refine r_icmp_ne hM (pc' := 48) (tgt := 50) dX10_trip_45 rfl (by decide) (fun c => ?_) (fun c => ?_)
          · have h := h.1 c
            refine r_aload_n hM (pc' := 51) dX10_trip_50 rfl (x := 0) rfl ?_
            refine r_getR hM (pc' := 54) dX10_trip_51 rfl fl_X10_20 wm_0 rfl ?_
            refine r_aload_n hM (pc' := 55) dX10_trip_54 rfl (x := 0) rfl ?_
            refine r_getI hM (pc' := 58) dX10_trip_55 rfl fl_X10_84 wm_0 rfl ?_
            refine r_iload_n hM (pc' := 59) dX10_trip_58 rfl (x := v1) rfl ?_
            have o2 := h.1
            have h := h.2
            refine r_iastore hM (pc' := 60) dX10_trip_59 rfl wm_4 o2 (fun τ1 e1 => ?_)
            have h := h τ1 e1
            refine r_aload_n hM (pc' := 61) dX10_trip_60 rfl (x := 0) rfl ?_
            refine r_getR hM (pc' := 64) dX10_trip_61 rfl fl_X10_23 wm_0 rfl ?_
            refine r_aload_n hM (pc' := 65) dX10_trip_64 rfl (x := 0) rfl ?_
            refine r_getI hM (pc' := 68) dX10_trip_65 rfl fl_X10_84 wm_0 rfl ?_
            refine r_iload_n hM (pc' := 69) dX10_trip_68 rfl (x := v2) rfl ?_
            have o3 := h.1
            have h := h.2
            refine r_iastore hM (pc' := 70) dX10_trip_69 rfl wm_5 o3 (fun τ2 e2 => ?_)
            have h := h τ2 e2
            refine r_aload_n hM (pc' := 71) dX10_trip_70 rfl (x := 0) rfl ?_
            refine r_getR hM (pc' := 74) dX10_trip_71 rfl fl_X10_26 wm_0 rfl ?_
            refine r_aload_n hM (pc' := 75) dX10_trip_74 rfl (x := 0) rfl ?_
            refine r_getI hM (pc' := 78) dX10_trip_75 rfl fl_X10_84 wm_0 rfl ?_
            refine r_iload_n hM (pc' := 79) dX10_trip_78 rfl (x := v3) rfl ?_
            have o4 := h.1
            have h := h.2
            refine r_iastore hM (pc' := 80) dX10_trip_79 rfl wm_6 o4 (fun τ3 e3 => ?_)
            have h := h τ3 e3
            refine r_aload_n hM (pc' := 81) dX10_trip_80 rfl (x := 0) rfl ?_
            refine r_getR hM (pc' := 84) dX10_trip_81 rfl fl_X10_29 wm_0 rfl ?_
            refine r_aload_n hM (pc' := 85) dX10_trip_84 rfl (x := 0) rfl ?_
            refine r_getI hM (pc' := 88) dX10_trip_85 rfl fl_X10_84 wm_0 rfl ?_
            refine r_iload hM (pc' := 90) dX10_trip_88 rfl (x := v4) rfl ?_
            have o5 := h.1
            have h := h.2
            refine r_iastore hM (pc' := 91) dX10_trip_90 rfl wm_7 o5 (fun τ4 e4 => ?_)
            have h := h τ4 e4
            refine r_aload_n hM (pc' := 92) dX10_trip_91 rfl (x := 0) rfl ?_
            refine r_dup hM (pc' := 93) dX10_trip_92 rfl (fun _ => rfl) ?_
            refine r_getI hM (pc' := 96) dX10_trip_93 rfl fl_X10_84 wm_0 rfl ?_
            refine r_iconst hM (pc' := 97) dX10_trip_96 rfl (by decide) ?_
            have o6 := h.1
            have h := h.2
            refine r_iadd hM (pc' := 98) dX10_trip_97 rfl o6 ?_
            refine r_putI hM (pc' := 101) dX10_trip_98 rfl fp_X10_84 wm_0 rfl (fun τ5 e5 => ?_)
            have h := h τ5 e5
            refine r_aload_n hM (pc' := 102) dX10_trip_101 rfl (x := 0) rfl ?_
            refine r_iconst hM (pc' := 103) dX10_trip_102 rfl (by decide) ?_
            refine r_putZ hM (pc' := 106) dX10_trip_103 rfl fp_X10_91 wm_0 rfl (by decide) (fun τ6 e6 => ?_)
            have h := h τ6 e6
            refine r_aload_n hM (pc' := 107) dX10_trip_106 rfl (x := 0) rfl ?_
            refine r_iconst hM (pc' := 108) dX10_trip_107 rfl (by decide) ?_
            refine r_putI hM (pc' := 111) dX10_trip_108 rfl fp_X10_94 wm_0 rfl (fun τ7 e7 => ?_)
            have h := h τ7 e7
            refine r_aload_n hM (pc' := 112) dX10_trip_111 rfl (x := 0) rfl ?_
            refine r_getI hM (pc' := 115) dX10_trip_112 rfl fl_X10_84 wm_0 rfl ?_
            refine r_iconst hM (pc' := 116) dX10_trip_115 rfl (by decide) ?_
            have o7 := h.1
            have h := h.2
            refine r_isub hM (pc' := 117) dX10_trip_116 rfl o7 ?_
            exact r_ireturn hM dX10_trip_117 rfl h
          · have h := h.2 c
            refine r_iconst hM (pc' := 49) dX10_trip_48 rfl (by decide) ?_
            exact r_ireturn hM dX10_trip_49 rfl h
theorem dX10_drop_0 : decode cX10_drop 0 = .ok (.aload_n 0, 1) := by decide +kernel
theorem dX10_drop_1 : decode cX10_drop 1 = .ok (.iload_n 1, 1) := by decide +kernel
theorem dX10_drop_2 : decode cX10_drop 2 = .ok (.invokevirtual 97, 3) := by decide +kernel
theorem dX10_drop_5 : decode cX10_drop 5 = .ok (.ifCond .ne 5, 3) := by decide +kernel
theorem dX10_drop_8 : decode cX10_drop 8 = .ok (.iconst 0, 1) := by decide +kernel
theorem dX10_drop_9 : decode cX10_drop 9 = .ok (.ireturn, 1) := by decide +kernel
theorem dX10_drop_10 : decode cX10_drop 10 = .ok (.aload_n 0, 1) := by decide +kernel
theorem dX10_drop_11 : decode cX10_drop 11 = .ok (.dup, 1) := by decide +kernel
theorem dX10_drop_12 : decode cX10_drop 12 = .ok (.getfield 84, 3) := by decide +kernel
theorem dX10_drop_15 : decode cX10_drop 15 = .ok (.iconst 1, 1) := by decide +kernel
theorem dX10_drop_16 : decode cX10_drop 16 = .ok (.isub, 1) := by decide +kernel
theorem dX10_drop_17 : decode cX10_drop 17 = .ok (.putfield 84, 3) := by decide +kernel
theorem dX10_drop_20 : decode cX10_drop 20 = .ok (.iload_n 1, 1) := by decide +kernel
theorem dX10_drop_21 : decode cX10_drop 21 = .ok (.istore_n 2, 1) := by decide +kernel
theorem dX10_drop_22 : decode cX10_drop 22 = .ok (.iload_n 2, 1) := by decide +kernel
theorem dX10_drop_23 : decode cX10_drop 23 = .ok (.aload_n 0, 1) := by decide +kernel
theorem dX10_drop_24 : decode cX10_drop 24 = .ok (.getfield 84, 3) := by decide +kernel
theorem dX10_drop_27 : decode cX10_drop 27 = .ok (.if_icmp .ge 65, 3) := by decide +kernel
theorem dX10_drop_30 : decode cX10_drop 30 = .ok (.aload_n 0, 1) := by decide +kernel
theorem dX10_drop_31 : decode cX10_drop 31 = .ok (.getfield 20, 3) := by decide +kernel
theorem dX10_drop_34 : decode cX10_drop 34 = .ok (.iload_n 2, 1) := by decide +kernel
theorem dX10_drop_35 : decode cX10_drop 35 = .ok (.aload_n 0, 1) := by decide +kernel
theorem dX10_drop_36 : decode cX10_drop 36 = .ok (.getfield 20, 3) := by decide +kernel
theorem dX10_drop_39 : decode cX10_drop 39 = .ok (.iload_n 2, 1) := by decide +kernel
theorem dX10_drop_40 : decode cX10_drop 40 = .ok (.iconst 1, 1) := by decide +kernel
theorem dX10_drop_41 : decode cX10_drop 41 = .ok (.iadd, 1) := by decide +kernel
theorem dX10_drop_42 : decode cX10_drop 42 = .ok (.iaload, 1) := by decide +kernel
theorem dX10_drop_43 : decode cX10_drop 43 = .ok (.iastore, 1) := by decide +kernel
theorem dX10_drop_44 : decode cX10_drop 44 = .ok (.aload_n 0, 1) := by decide +kernel
theorem dX10_drop_45 : decode cX10_drop 45 = .ok (.getfield 23, 3) := by decide +kernel
theorem dX10_drop_48 : decode cX10_drop 48 = .ok (.iload_n 2, 1) := by decide +kernel
theorem dX10_drop_49 : decode cX10_drop 49 = .ok (.aload_n 0, 1) := by decide +kernel
theorem dX10_drop_50 : decode cX10_drop 50 = .ok (.getfield 23, 3) := by decide +kernel
theorem dX10_drop_53 : decode cX10_drop 53 = .ok (.iload_n 2, 1) := by decide +kernel
theorem dX10_drop_54 : decode cX10_drop 54 = .ok (.iconst 1, 1) := by decide +kernel
theorem dX10_drop_55 : decode cX10_drop 55 = .ok (.iadd, 1) := by decide +kernel
theorem dX10_drop_56 : decode cX10_drop 56 = .ok (.iaload, 1) := by decide +kernel
theorem dX10_drop_57 : decode cX10_drop 57 = .ok (.iastore, 1) := by decide +kernel
theorem dX10_drop_58 : decode cX10_drop 58 = .ok (.aload_n 0, 1) := by decide +kernel
theorem dX10_drop_59 : decode cX10_drop 59 = .ok (.getfield 26, 3) := by decide +kernel
theorem dX10_drop_62 : decode cX10_drop 62 = .ok (.iload_n 2, 1) := by decide +kernel
theorem dX10_drop_63 : decode cX10_drop 63 = .ok (.aload_n 0, 1) := by decide +kernel
theorem dX10_drop_64 : decode cX10_drop 64 = .ok (.getfield 26, 3) := by decide +kernel
theorem dX10_drop_67 : decode cX10_drop 67 = .ok (.iload_n 2, 1) := by decide +kernel
theorem dX10_drop_68 : decode cX10_drop 68 = .ok (.iconst 1, 1) := by decide +kernel
theorem dX10_drop_69 : decode cX10_drop 69 = .ok (.iadd, 1) := by decide +kernel
theorem dX10_drop_70 : decode cX10_drop 70 = .ok (.iaload, 1) := by decide +kernel
theorem dX10_drop_71 : decode cX10_drop 71 = .ok (.iastore, 1) := by decide +kernel
theorem dX10_drop_72 : decode cX10_drop 72 = .ok (.aload_n 0, 1) := by decide +kernel
theorem dX10_drop_73 : decode cX10_drop 73 = .ok (.getfield 29, 3) := by decide +kernel
theorem dX10_drop_76 : decode cX10_drop 76 = .ok (.iload_n 2, 1) := by decide +kernel
theorem dX10_drop_77 : decode cX10_drop 77 = .ok (.aload_n 0, 1) := by decide +kernel
theorem dX10_drop_78 : decode cX10_drop 78 = .ok (.getfield 29, 3) := by decide +kernel
theorem dX10_drop_81 : decode cX10_drop 81 = .ok (.iload_n 2, 1) := by decide +kernel
theorem dX10_drop_82 : decode cX10_drop 82 = .ok (.iconst 1, 1) := by decide +kernel
theorem dX10_drop_83 : decode cX10_drop 83 = .ok (.iadd, 1) := by decide +kernel
theorem dX10_drop_84 : decode cX10_drop 84 = .ok (.iaload, 1) := by decide +kernel
theorem dX10_drop_85 : decode cX10_drop 85 = .ok (.iastore, 1) := by decide +kernel
theorem dX10_drop_86 : decode cX10_drop 86 = .ok (.iinc 2 1, 3) := by decide +kernel
theorem dX10_drop_89 : decode cX10_drop 89 = .ok (.goto (-67), 3) := by decide +kernel
theorem dX10_drop_92 : decode cX10_drop 92 = .ok (.aload_n 0, 1) := by decide +kernel
theorem dX10_drop_93 : decode cX10_drop 93 = .ok (.iconst 0, 1) := by decide +kernel
theorem dX10_drop_94 : decode cX10_drop 94 = .ok (.putfield 91, 3) := by decide +kernel
theorem dX10_drop_97 : decode cX10_drop 97 = .ok (.aload_n 0, 1) := by decide +kernel
theorem dX10_drop_98 : decode cX10_drop 98 = .ok (.iconst 0, 1) := by decide +kernel
theorem dX10_drop_99 : decode cX10_drop 99 = .ok (.putfield 94, 3) := by decide +kernel
theorem dX10_drop_102 : decode cX10_drop 102 = .ok (.iconst 1, 1) := by decide +kernel
theorem dX10_drop_103 : decode cX10_drop 103 = .ok (.ireturn, 1) := by decide +kernel
set_option maxRecDepth 20000 in
theorem g_X10_drop_0 {G : GX} {d : Nat} {Ret : Option AV → St → Prop} {R : Nat → List AV → List AV → St → Prop} (hM : AM G wdM (d + 1) mX10_drop Ret R) (v1 : Int) (σ : St)
    (h : conI G wdM d mX10_isTrip [vR 0, vI v1] σ (fun x1 σ1 => ((¬ x1 = 0 → (r32 ((σ1.1 0 3) - 1) ∧ (∀ τ1, τ1 = sI σ1 0 3 ((σ1.1 0 3) - 1) → R 22 [vR 0, vN, vI v1] [] τ1))) ∧ (x1 = 0 → Ret (some (vI 0)) σ1)))) : R 0 [vR 0, vI v1, vN] [] σ := by
  refine r_aload_n hM (pc' := 1) dX10_drop_0 rfl (x := 0) rfl ?_
  refine r_iload_n hM (pc' := 2) dX10_drop_1 rfl (x := v1) rfl ?_
  refine r_callVI hM (pc' := 5) [vI v1] dX10_drop_2 rfl ml_X10_97 wm_0 rfl rfl (Nat.le_of_ble_eq_true rfl) (conI.mono h (fun x1 σ1 h => ?_))
  refine r_if_ne hM (pc' := 8) (tgt := 10) dX10_drop_5 rfl (by decide) (fun c => ?_) (fun c => ?_)
  · have h := h.1 c
    refine r_aload_n hM (pc' := 11) dX10_drop_10 rfl (x := 0) rfl ?_
    refine r_dup hM (pc' := 12) dX10_drop_11 rfl (fun _ => rfl) ?_
    refine r_getI hM (pc' := 15) dX10_drop_12 rfl fl_X10_84 wm_0 rfl ?_
    refine r_iconst hM (pc' := 16) dX10_drop_15 rfl (by decide) ?_
    have o1 := h.1
    have h := h.2
    refine r_isub hM (pc' := 17) dX10_drop_16 rfl o1 ?_
    refine r_putI hM (pc' := 20) dX10_drop_17 rfl fp_X10_84 wm_0 rfl (fun τ1 e1 => ?_)
    have h := h τ1 e1
    refine r_iload_n hM (pc' := 21) dX10_drop_20 rfl (x := v1) rfl ?_
    refine r_istore_n hM (pc' := 22) dX10_drop_21 rfl (Nat.le_of_ble_eq_true rfl) rfl ?_
    show R 22 [vR 0, vI v1, vI v1] _ _
    refine r_weak hM (ls' := [vR 0, vN, vI v1]) ⟨Or.inl rfl, Or.inr rfl, Or.inl rfl, trivial⟩ ?_
    exact h
  · have h := h.2 c
    refine r_iconst hM (pc' := 9) dX10_drop_8 rfl (by decide) ?_
    exact r_zreturn hM dX10_drop_9 rfl (by decide) h
set_option maxRecDepth 20000 in
theorem g_X10_drop_22 {G : GX} {d : Nat} {Ret : Option AV → St → Prop} {R : Nat → List AV → List AV → St → Prop} (hM : AM G wdM (d + 1) mX10_drop Ret R) (v2 : Int) (σ : St)
    (h : (((σ.1 0 3) ≤ v2 → (∀ τ1, τ1 = sI σ 0 13 0 → (∀ τ2, τ2 = sI τ1 0 25 0 → Ret (some (vI 1)) τ2))) ∧ (¬ (σ.1 0 3) ≤ v2 → (r32 (v2 + 1) ∧ ((0 ≤ (v2 + 1) ∧ (v2 + 1) < 16) ∧ ((0 ≤ v2 ∧ v2 < 16) ∧ (∀ τ3, τ3 = sI σ 4 (v2).toNat (σ.1 4 ((v2 + 1)).toNat) → (∀ τ4, τ4 = sI τ3 5 (v2).toNat (τ3.1 5 ((v2 + 1)).toNat) → (∀ τ5, τ5 = sI τ4 6 (v2).toNat (τ4.1 6 ((v2 + 1)).toNat) → (∀ τ6, τ6 = sI τ5 7 (v2).toNat (τ5.1 7 ((v2 + 1)).toNat) → R 22 [vR 0, vN, vI (v2 + 1)] [] τ6)))))))))) : R 22 [vR 0, vN, vI v2] [] σ := by
  refine r_iload_n hM (pc' := 23) dX10_drop_22 rfl (x := v2) rfl ?_
  refine r_aload_n hM (pc' := 24) dX10_drop_23 rfl (x := 0) rfl ?_
  refine r_getI hM (pc' := 27) dX10_drop_24 rfl fl_X10_84 wm_0 rfl ?_
  refine r_icmp_ge hM (pc' := 30) (tgt := 92) dX10_drop_27 rfl (by decide) (fun c => ?_) (fun c => ?_)
  · have h := h.1 c
    refine r_aload_n hM (pc' := 93) dX10_drop_92 rfl (x := 0) rfl ?_
    refine r_iconst hM (pc' := 94) dX10_drop_93 rfl (by decide) ?_
    refine r_putZ hM (pc' := 97) dX10_drop_94 rfl fp_X10_91 wm_0 rfl (by decide) (fun τ1 e1 => ?_)
    have h := h τ1 e1
    refine r_aload_n hM (pc' := 98) dX10_drop_97 rfl (x := 0) rfl ?_
    refine r_iconst hM (pc' := 99) dX10_drop_98 rfl (by decide) ?_
    refine r_putI hM (pc' := 102) dX10_drop_99 rfl fp_X10_94 wm_0 rfl (fun τ2 e2 => ?_)
    have h := h τ2 e2
    refine r_iconst hM (pc' := 103) dX10_drop_102 rfl (by decide) ?_
    exact r_zreturn hM dX10_drop_103 rfl (by decide) h
  · have h := h.2 c
    refine r_aload_n hM (pc' := 31) dX10_drop_30 rfl (x := 0) rfl ?_
    refine r_getR hM (pc' := 34) dX10_drop_31 rfl fl_X10_20 wm_0 rfl ?_
    refine r_iload_n hM (pc' := 35) dX10_drop_34 rfl (x := v2) rfl ?_
    refine r_aload_n hM (pc' := 36) dX10_drop_35 rfl (x := 0) rfl ?_
    refine r_getR hM (pc' := 39) dX10_drop_36 rfl fl_X10_20 wm_0 rfl ?_
    refine r_iload_n hM (pc' := 40) dX10_drop_39 rfl (x := v2) rfl ?_
    refine r_iconst hM (pc' := 41) dX10_drop_40 rfl (by decide) ?_
    have o1 := h.1
    have h := h.2
    refine r_iadd hM (pc' := 42) dX10_drop_41 rfl o1 ?_
    have o2 := h.1
    have h := h.2
    refine r_iaload hM (pc' := 43) dX10_drop_42 rfl wm_4 o2 ?_
    have o3 := h.1
    have h := h.2
    refine r_iastore hM (pc' := 44) dX10_drop_43 rfl wm_4 o3 (fun τ3 e3 => ?_)
    have h := h τ3 e3
    refine r_aload_n hM (pc' := 45) dX10_drop_44 rfl (x := 0) rfl ?_
    refine r_getR hM (pc' := 48) dX10_drop_45 rfl fl_X10_23 wm_0 rfl ?_
    refine r_iload_n hM (pc' := 49) dX10_drop_48 rfl (x := v2) rfl ?_
    refine r_aload_n hM (pc' := 50) dX10_drop_49 rfl (x := 0) rfl ?_
    refine r_getR hM (pc' := 53) dX10_drop_50 rfl fl_X10_23 wm_0 rfl ?_
    refine r_iload_n hM (pc' := 54) dX10_drop_53 rfl (x := v2) rfl ?_
    refine r_iconst hM (pc' := 55) dX10_drop_54 rfl (by decide) ?_
    refine r_iadd hM (pc' := 56) dX10_drop_55 rfl o1 ?_
    refine r_iaload hM (pc' := 57) dX10_drop_56 rfl wm_5 o2 ?_
    refine r_iastore hM (pc' := 58) dX10_drop_57 rfl wm_5 o3 (fun τ4 e4 => ?_)
    have h := h τ4 e4
    refine r_aload_n hM (pc' := 59) dX10_drop_58 rfl (x := 0) rfl ?_
    refine r_getR hM (pc' := 62) dX10_drop_59 rfl fl_X10_26 wm_0 rfl ?_
    refine r_iload_n hM (pc' := 63) dX10_drop_62 rfl (x := v2) rfl ?_
    refine r_aload_n hM (pc' := 64) dX10_drop_63 rfl (x := 0) rfl ?_
    refine r_getR hM (pc' := 67) dX10_drop_64 rfl fl_X10_26 wm_0 rfl ?_
    refine r_iload_n hM (pc' := 68) dX10_drop_67 rfl (x := v2) rfl ?_
    refine r_iconst hM (pc' := 69) dX10_drop_68 rfl (by decide) ?_
    refine r_iadd hM (pc' := 70) dX10_drop_69 rfl o1 ?_
    refine r_iaload hM (pc' := 71) dX10_drop_70 rfl wm_6 o2 ?_
    refine r_iastore hM (pc' := 72) dX10_drop_71 rfl wm_6 o3 (fun τ5 e5 => ?_)
    have h := h τ5 e5
    refine r_aload_n hM (pc' := 73) dX10_drop_72 rfl (x := 0) rfl ?_
    refine r_getR hM (pc' := 76) dX10_drop_73 rfl fl_X10_29 wm_0 rfl ?_
    refine r_iload_n hM (pc' := 77) dX10_drop_76 rfl (x := v2) rfl ?_
    refine r_aload_n hM (pc' := 78) dX10_drop_77 rfl (x := 0) rfl ?_
    refine r_getR hM (pc' := 81) dX10_drop_78 rfl fl_X10_29 wm_0 rfl ?_
    refine r_iload_n hM (pc' := 82) dX10_drop_81 rfl (x := v2) rfl ?_
    refine r_iconst hM (pc' := 83) dX10_drop_82 rfl (by decide) ?_
    refine r_iadd hM (pc' := 84) dX10_drop_83 rfl o1 ?_
    refine r_iaload hM (pc' := 85) dX10_drop_84 rfl wm_7 o2 ?_
    refine r_iastore hM (pc' := 86) dX10_drop_85 rfl wm_7 o3 (fun τ6 e6 => ?_)
    have h := h τ6 e6
    refine r_iinc hM (pc' := 89) dX10_drop_86 rfl (x := v2) rfl rfl o1 ?_
    show R 89 [vR 0, vN, vI (v2 + 1)] _ _
    refine r_goto hM (tgt := 22) dX10_drop_89 (by decide) ?_
    exact h
theorem dX10_canMove_0 : decode cX10_canMove 0 = .ok (.aload_n 0, 1) := by decide +kernel
theorem dX10_canMove_1 : decode cX10_canMove 1 = .ok (.iload_n 1, 1) := by decide +kernel
theorem dX10_canMove_2 : decode cX10_canMove 2 = .ok (.invokevirtual 97, 3) := by decide +kernel
theorem dX10_canMove_5 : decode cX10_canMove 5 = .ok (.ifCond .eq 45, 3) := by decide +kernel
theorem dX10_canMove_8 : decode cX10_canMove 8 = .ok (.iload_n 2, 1) := by decide +kernel
theorem dX10_canMove_9 : decode cX10_canMove 9 = .ok (.sipush (-2879), 3) := by decide +kernel
theorem dX10_canMove_12 : decode cX10_canMove 12 = .ok (.sipush 2879, 3) := by decide +kernel
theorem dX10_canMove_15 : decode cX10_canMove 15 = .ok (.invokestatic 80, 3) := by decide +kernel
theorem dX10_canMove_18 : decode cX10_canMove 18 = .ok (.ifCond .eq 32, 3) := by decide +kernel
theorem dX10_canMove_21 : decode cX10_canMove 21 = .ok (.aload_n 0, 1) := by decide +kernel
theorem dX10_canMove_22 : decode cX10_canMove 22 = .ok (.getfield 26, 3) := by decide +kernel
theorem dX10_canMove_25 : decode cX10_canMove 25 = .ok (.iload_n 1, 1) := by decide +kernel
theorem dX10_canMove_26 : decode cX10_canMove 26 = .ok (.iaload, 1) := by decide +kernel
theorem dX10_canMove_27 : decode cX10_canMove 27 = .ok (.iload_n 2, 1) := by decide +kernel
theorem dX10_canMove_28 : decode cX10_canMove 28 = .ok (.iadd, 1) := by decide +kernel
theorem dX10_canMove_29 : decode cX10_canMove 29 = .ok (.ifCond .lt 21, 3) := by decide +kernel
theorem dX10_canMove_32 : decode cX10_canMove 32 = .ok (.aload_n 0, 1) := by decide +kernel
theorem dX10_canMove_33 : decode cX10_canMove 33 = .ok (.getfield 29, 3) := by decide +kernel
theorem dX10_canMove_36 : decode cX10_canMove 36 = .ok (.iload_n 1, 1) := by decide +kernel
theorem dX10_canMove_37 : decode cX10_canMove 37 = .ok (.iaload, 1) := by decide +kernel
theorem dX10_canMove_38 : decode cX10_canMove 38 = .ok (.iload_n 2, 1) := by decide +kernel
theorem dX10_canMove_39 : decode cX10_canMove 39 = .ok (.iadd, 1) := by decide +kernel
theorem dX10_canMove_40 : decode cX10_canMove 40 = .ok (.sipush 2879, 3) := by decide +kernel
theorem dX10_canMove_43 : decode cX10_canMove 43 = .ok (.if_icmp .gt 7, 3) := by decide +kernel
theorem dX10_canMove_46 : decode cX10_canMove 46 = .ok (.iconst 1, 1) := by decide +kernel
theorem dX10_canMove_47 : decode cX10_canMove 47 = .ok (.goto 4, 3) := by decide +kernel
theorem dX10_canMove_50 : decode cX10_canMove 50 = .ok (.iconst 0, 1) := by decide +kernel
theorem dX10_canMove_51 : decode cX10_canMove 51 = .ok (.ireturn, 1) := by decide +kernel
set_option maxRecDepth 20000 in
theorem g_X10_canMove_0 {G : GX} {d : Nat} {Ret : Option AV → St → Prop} {R : Nat → List AV → List AV → St → Prop} (hM : AM G wdM (d + 1) mX10_canMove Ret R) (v1 : Int) (v2 : Int) (σ : St)
    (h : conI G wdM d mX10_isTrip [vR 0, vI v1] σ (fun x1 σ1 => ((x1 = 0 → Ret (some (vI 0)) σ1) ∧ (¬ x1 = 0 → conI G wdM d mX10_in [vI v2, vI (-2879), vI 2879] σ1 (fun x2 σ2 => ((x2 = 0 → Ret (some (vI 0)) σ2) ∧ (¬ x2 = 0 → ((0 ≤ v1 ∧ v1 < 16) ∧ (r32 ((σ2.1 6 (v1).toNat) + v2) ∧ ((((σ2.1 6 (v1).toNat) + v2) < 0 → Ret (some (vI 0)) σ2) ∧ (¬ ((σ2.1 6 (v1).toNat) + v2) < 0 → (r32 ((σ2.1 7 (v1).toNat) + v2) ∧ ((2879 < ((σ2.1 7 (v1).toNat) + v2) → Ret (some (vI 0)) σ2) ∧ (¬ 2879 < ((σ2.1 7 (v1).toNat) + v2) → Ret (some (vI 1)) σ2)))))))))))))) : R 0 [vR 0, vI v1, vI v2] [] σ := by
  refine r_aload_n hM (pc' := 1) dX10_canMove_0 rfl (x := 0) rfl ?_
  refine r_iload_n hM (pc' := 2) dX10_canMove_1 rfl (x := v1) rfl ?_
  refine r_callVI hM (pc' := 5) [vI v1] dX10_canMove_2 rfl ml_X10_97 wm_0 rfl rfl (Nat.le_of_ble_eq_true rfl) (conI.mono h (fun x1 σ1 h => ?_))
  refine r_if_eq hM (pc' := 8) (tgt := 50) dX10_canMove_5 rfl (by decide) (fun c => ?_) (fun c => ?_)
  · have h := h.1 c
    refine r_iconst hM (pc' := 51) dX10_canMove_50 rfl (by decide) ?_
    exact r_zreturn hM dX10_canMove_51 rfl (by decide) h
  · have h := h.2 c
    refine r_iload_n hM (pc' := 9) dX10_canMove_8 rfl (x := v2) rfl ?_
    refine r_sipush hM (pc' := 12) dX10_canMove_9 rfl (by decide) (by decide) ?_
    refine r_sipush hM (pc' := 15) dX10_canMove_12 rfl (by decide) (by decide) ?_
    refine r_callSI hM (pc' := 18) [vI v2, vI (-2879), vI 2879] dX10_canMove_15 rfl ml_X10_80 rfl rfl (Nat.le_of_ble_eq_true rfl) (conI.mono h (fun x2 σ2 h => ?_))
    refine r_if_eq hM (pc' := 21) (tgt := 50) dX10_canMove_18 rfl (by decide) (fun c => ?_) (fun c => ?_)
    · have h := h.1 c
      refine r_iconst hM (pc' := 51) dX10_canMove_50 rfl (by decide) ?_
      exact r_zreturn hM dX10_canMove_51 rfl (by decide) h
    · have h := h.2 c
      refine r_aload_n hM (pc' := 22) dX10_canMove_21 rfl (x := 0) rfl ?_
      refine r_getR hM (pc' := 25) dX10_canMove_22 rfl fl_X10_26 wm_0 rfl ?_
      refine r_iload_n hM (pc' := 26) dX10_canMove_25 rfl (x := v1) rfl ?_
      have o1 := h.1
      have h := h.2
      refine r_iaload hM (pc' := 27) dX10_canMove_26 rfl wm_6 o1 ?_
      refine r_iload_n hM (pc' := 28) dX10_canMove_27 rfl (x := v2) rfl ?_
      have o2 := h.1
      have h := h.2
      refine r_iadd hM (pc' := 29) dX10_canMove_28 rfl o2 ?_
      refine r_if_lt hM (pc' := 32) (tgt := 50) dX10_canMove_29 rfl (by decide) (fun c => ?_) (fun c => ?_)
      · have h := h.1 c
        refine r_iconst hM (pc' := 51) dX10_canMove_50 rfl (by decide) ?_
        exact r_zreturn hM dX10_canMove_51 rfl (by decide) h
      · have h := h.2 c
        refine r_aload_n hM (pc' := 33) dX10_canMove_32 rfl (x := 0) rfl ?_
        refine r_getR hM (pc' := 36) dX10_canMove_33 rfl fl_X10_29 wm_0 rfl ?_
        refine r_iload_n hM (pc' := 37) dX10_canMove_36 rfl (x := v1) rfl ?_
        refine r_iaload hM (pc' := 38) dX10_canMove_37 rfl wm_7 o1 ?_
        refine r_iload_n hM (pc' := 39) dX10_canMove_38 rfl (x := v2) rfl ?_
        have o3 := h.1
        have h := h.2
        refine r_iadd hM (pc' := 40) dX10_canMove_39 rfl o3 ?_
        refine r_sipush hM (pc' := 43) dX10_canMove_40 rfl (by decide) (by decide) ?_
        refine r_icmp_gt hM (pc' := 46) (tgt := 50) dX10_canMove_43 rfl (by decide) (fun c => ?_) (fun c => ?_)
        · have h := h.1 c
          refine r_iconst hM (pc' := 51) dX10_canMove_50 rfl (by decide) ?_
          exact r_zreturn hM dX10_canMove_51 rfl (by decide) h
        · have h := h.2 c
          refine r_iconst hM (pc' := 47) dX10_canMove_46 rfl (by decide) ?_
          refine r_goto hM (tgt := 51) dX10_canMove_47 (by decide) ?_
          exact r_zreturn hM dX10_canMove_51 rfl (by decide) h
theorem dX10_move_0 : decode cX10_move 0 = .ok (.aload_n 0, 1) := by decide +kernel
theorem dX10_move_1 : decode cX10_move 1 = .ok (.iload_n 1, 1) := by decide +kernel
theorem dX10_move_2 : decode cX10_move 2 = .ok (.iload_n 2, 1) := by decide +kernel
theorem dX10_move_3 : decode cX10_move 3 = .ok (.invokevirtual 100, 3) := by decide +kernel
theorem dX10_move_6 : decode cX10_move 6 = .ok (.ifCond .ne 5, 3) := by decide +kernel
theorem dX10_move_9 : decode cX10_move 9 = .ok (.iconst 0, 1) := by decide +kernel
theorem dX10_move_10 : decode cX10_move 10 = .ok (.ireturn, 1) := by decide +kernel
theorem dX10_move_11 : decode cX10_move 11 = .ok (.aload_n 0, 1) := by decide +kernel
theorem dX10_move_12 : decode cX10_move 12 = .ok (.getfield 26, 3) := by decide +kernel
theorem dX10_move_15 : decode cX10_move 15 = .ok (.iload_n 1, 1) := by decide +kernel
theorem dX10_move_16 : decode cX10_move 16 = .ok (.dup2, 1) := by decide +kernel
theorem dX10_move_17 : decode cX10_move 17 = .ok (.iaload, 1) := by decide +kernel
theorem dX10_move_18 : decode cX10_move 18 = .ok (.iload_n 2, 1) := by decide +kernel
theorem dX10_move_19 : decode cX10_move 19 = .ok (.iadd, 1) := by decide +kernel
theorem dX10_move_20 : decode cX10_move 20 = .ok (.iastore, 1) := by decide +kernel
theorem dX10_move_21 : decode cX10_move 21 = .ok (.aload_n 0, 1) := by decide +kernel
theorem dX10_move_22 : decode cX10_move 22 = .ok (.getfield 29, 3) := by decide +kernel
theorem dX10_move_25 : decode cX10_move 25 = .ok (.iload_n 1, 1) := by decide +kernel
theorem dX10_move_26 : decode cX10_move 26 = .ok (.dup2, 1) := by decide +kernel
theorem dX10_move_27 : decode cX10_move 27 = .ok (.iaload, 1) := by decide +kernel
theorem dX10_move_28 : decode cX10_move 28 = .ok (.iload_n 2, 1) := by decide +kernel
theorem dX10_move_29 : decode cX10_move 29 = .ok (.iadd, 1) := by decide +kernel
theorem dX10_move_30 : decode cX10_move 30 = .ok (.iastore, 1) := by decide +kernel
theorem dX10_move_31 : decode cX10_move 31 = .ok (.aload_n 0, 1) := by decide +kernel
theorem dX10_move_32 : decode cX10_move 32 = .ok (.iconst 0, 1) := by decide +kernel
theorem dX10_move_33 : decode cX10_move 33 = .ok (.putfield 91, 3) := by decide +kernel
theorem dX10_move_36 : decode cX10_move 36 = .ok (.aload_n 0, 1) := by decide +kernel
theorem dX10_move_37 : decode cX10_move 37 = .ok (.iconst 0, 1) := by decide +kernel
theorem dX10_move_38 : decode cX10_move 38 = .ok (.putfield 94, 3) := by decide +kernel
theorem dX10_move_41 : decode cX10_move 41 = .ok (.iconst 1, 1) := by decide +kernel
theorem dX10_move_42 : decode cX10_move 42 = .ok (.ireturn, 1) := by decide +kernel
set_option maxRecDepth 20000 in
theorem g_X10_move_0 {G : GX} {d : Nat} {Ret : Option AV → St → Prop} {R : Nat → List AV → List AV → St → Prop} (hM : AM G wdM (d + 1) mX10_move Ret R) (v1 : Int) (v2 : Int) (σ : St)
    (h : conI G wdM d mX10_canMove [vR 0, vI v1, vI v2] σ (fun x1 σ1 => ((¬ x1 = 0 → ((0 ≤ v1 ∧ v1 < 16) ∧ (r32 ((σ1.1 6 (v1).toNat) + v2) ∧ (∀ τ1, τ1 = sI σ1 6 (v1).toNat ((σ1.1 6 (v1).toNat) + v2) → (r32 ((τ1.1 7 (v1).toNat) + v2) ∧ (∀ τ2, τ2 = sI τ1 7 (v1).toNat ((τ1.1 7 (v1).toNat) + v2) → (∀ τ3, τ3 = sI τ2 0 13 0 → (∀ τ4, τ4 = sI τ3 0 25 0 → Ret (some (vI 1)) τ4)))))))) ∧ (x1 = 0 → Ret (some (vI 0)) σ1)))) : R 0 [vR 0, vI v1, vI v2] [] σ := by
  refine r_aload_n hM (pc' := 1) dX10_move_0 rfl (x := 0) rfl ?_
  refine r_iload_n hM (pc' := 2) dX10_move_1 rfl (x := v1) rfl ?_
  refine r_iload_n hM (pc' := 3) dX10_move_2 rfl (x := v2) rfl ?_
  refine r_callVI hM (pc' := 6) [vI v1, vI v2] dX10_move_3 rfl ml_X10_100 wm_0 rfl rfl (Nat.le_of_ble_eq_true rfl) (conI.mono h (fun x1 σ1 h => ?_))
  refine r_if_ne hM (pc' := 9) (tgt := 11) dX10_move_6 rfl (by decide) (fun c => ?_) (fun c => ?_)
  · have h := h.1 c
    refine r_aload_n hM (pc' := 12) dX10_move_11 rfl (x := 0) rfl ?_
    refine r_getR hM (pc' := 15) dX10_move_12 rfl fl_X10_26 wm_0 rfl ?_
    refine r_iload_n hM (pc' := 16) dX10_move_15 rfl (x := v1) rfl ?_
    refine r_dup2 hM (pc' := 17) dX10_move_16 rfl (fun _ => rfl) (fun _ => rfl) ?_
    have o1 := h.1
    have h := h.2
    refine r_iaload hM (pc' := 18) dX10_move_17 rfl wm_6 o1 ?_
    refine r_iload_n hM (pc' := 19) dX10_move_18 rfl (x := v2) rfl ?_
    have o2 := h.1
    have h := h.2
    refine r_iadd hM (pc' := 20) dX10_move_19 rfl o2 ?_
    refine r_iastore hM (pc' := 21) dX10_move_20 rfl wm_6 o1 (fun τ1 e1 => ?_)
    have h := h τ1 e1
    refine r_aload_n hM (pc' := 22) dX10_move_21 rfl (x := 0) rfl ?_
    refine r_getR hM (pc' := 25) dX10_move_22 rfl fl_X10_29 wm_0 rfl ?_
    refine r_iload_n hM (pc' := 26) dX10_move_25 rfl (x := v1) rfl ?_
    refine r_dup2 hM (pc' := 27) dX10_move_26 rfl (fun _ => rfl) (fun _ => rfl) ?_
    refine r_iaload hM (pc' := 28) dX10_move_27 rfl wm_7 o1 ?_
    refine r_iload_n hM (pc' := 29) dX10_move_28 rfl (x := v2) rfl ?_
    have o3 := h.1
    have h := h.2
    refine r_iadd hM (pc' := 30) dX10_move_29 rfl o3 ?_
    refine r_iastore hM (pc' := 31) dX10_move_30 rfl wm_7 o1 (fun τ2 e2 => ?_)
    have h := h τ2 e2
    refine r_aload_n hM (pc' := 32) dX10_move_31 rfl (x := 0) rfl ?_
    refine r_iconst hM (pc' := 33) dX10_move_32 rfl (by decide) ?_
    refine r_putZ hM (pc' := 36) dX10_move_33 rfl fp_X10_91 wm_0 rfl (by decide) (fun τ3 e3 => ?_)
    have h := h τ3 e3
    refine r_aload_n hM (pc' := 37) dX10_move_36 rfl (x := 0) rfl ?_
    refine r_iconst hM (pc' := 38) dX10_move_37 rfl (by decide) ?_
    refine r_putI hM (pc' := 41) dX10_move_38 rfl fp_X10_94 wm_0 rfl (fun τ4 e4 => ?_)
    have h := h τ4 e4
    refine r_iconst hM (pc' := 42) dX10_move_41 rfl (by decide) ?_
    exact r_zreturn hM dX10_move_42 rfl (by decide) h
  · have h := h.2 c
    refine r_iconst hM (pc' := 10) dX10_move_9 rfl (by decide) ?_
    exact r_zreturn hM dX10_move_10 rfl (by decide) h
theorem dX10_laws_0 : decode cX10_laws 0 = .ok (.iload_n 1, 1) := by decide +kernel
theorem dX10_laws_1 : decode cX10_laws 1 = .ok (.iconst 1, 1) := by decide +kernel
theorem dX10_laws_2 : decode cX10_laws 2 = .ok (.sipush 2880, 3) := by decide +kernel
theorem dX10_laws_5 : decode cX10_laws 5 = .ok (.invokestatic 80, 3) := by decide +kernel
theorem dX10_laws_8 : decode cX10_laws 8 = .ok (.ifCond .eq 25, 3) := by decide +kernel
theorem dX10_laws_11 : decode cX10_laws 11 = .ok (.iload_n 2, 1) := by decide +kernel
theorem dX10_laws_12 : decode cX10_laws 12 = .ok (.iconst 1, 1) := by decide +kernel
theorem dX10_laws_13 : decode cX10_laws 13 = .ok (.sipush 2880, 3) := by decide +kernel
theorem dX10_laws_16 : decode cX10_laws 16 = .ok (.invokestatic 80, 3) := by decide +kernel
theorem dX10_laws_19 : decode cX10_laws 19 = .ok (.ifCond .eq 14, 3) := by decide +kernel
theorem dX10_laws_22 : decode cX10_laws 22 = .ok (.iload_n 3, 1) := by decide +kernel
theorem dX10_laws_23 : decode cX10_laws 23 = .ok (.iconst 0, 1) := by decide +kernel
theorem dX10_laws_24 : decode cX10_laws 24 = .ok (.sipush 600, 3) := by decide +kernel
theorem dX10_laws_27 : decode cX10_laws 27 = .ok (.invokestatic 80, 3) := by decide +kernel
theorem dX10_laws_30 : decode cX10_laws 30 = .ok (.ifCond .ne 5, 3) := by decide +kernel
theorem dX10_laws_33 : decode cX10_laws 33 = .ok (.iconst 0, 1) := by decide +kernel
theorem dX10_laws_34 : decode cX10_laws 34 = .ok (.ireturn, 1) := by decide +kernel
theorem dX10_laws_35 : decode cX10_laws 35 = .ok (.aload_n 0, 1) := by decide +kernel
theorem dX10_laws_36 : decode cX10_laws 36 = .ok (.iload_n 1, 1) := by decide +kernel
theorem dX10_laws_37 : decode cX10_laws 37 = .ok (.putfield 32, 3) := by decide +kernel
theorem dX10_laws_40 : decode cX10_laws 40 = .ok (.aload_n 0, 1) := by decide +kernel
theorem dX10_laws_41 : decode cX10_laws 41 = .ok (.iload_n 2, 1) := by decide +kernel
theorem dX10_laws_42 : decode cX10_laws 42 = .ok (.putfield 36, 3) := by decide +kernel
theorem dX10_laws_45 : decode cX10_laws 45 = .ok (.aload_n 0, 1) := by decide +kernel
theorem dX10_laws_46 : decode cX10_laws 46 = .ok (.iload_n 3, 1) := by decide +kernel
theorem dX10_laws_47 : decode cX10_laws 47 = .ok (.putfield 39, 3) := by decide +kernel
theorem dX10_laws_50 : decode cX10_laws 50 = .ok (.aload_n 0, 1) := by decide +kernel
theorem dX10_laws_51 : decode cX10_laws 51 = .ok (.iload 4, 2) := by decide +kernel
theorem dX10_laws_53 : decode cX10_laws 53 = .ok (.putfield 42, 3) := by decide +kernel
theorem dX10_laws_56 : decode cX10_laws 56 = .ok (.aload_n 0, 1) := by decide +kernel
theorem dX10_laws_57 : decode cX10_laws 57 = .ok (.iconst 0, 1) := by decide +kernel
theorem dX10_laws_58 : decode cX10_laws 58 = .ok (.putfield 94, 3) := by decide +kernel
theorem dX10_laws_61 : decode cX10_laws 61 = .ok (.iconst 1, 1) := by decide +kernel
theorem dX10_laws_62 : decode cX10_laws 62 = .ok (.ireturn, 1) := by decide +kernel
set_option maxRecDepth 20000 in
theorem g_X10_laws_0 {G : GX} {d : Nat} {Ret : Option AV → St → Prop} {R : Nat → List AV → List AV → St → Prop} (hM : AM G wdM (d + 1) mX10_laws Ret R) (v1 : Int) (v2 : Int) (v3 : Int) (v4 : Int) (σ : St)
    (h : conI G wdM d mX10_in [vI v1, vI 1, vI 2880] σ (fun x1 σ1 => ((x1 = 0 → Ret (some (vI 0)) σ1) ∧ (¬ x1 = 0 → conI G wdM d mX10_in [vI v2, vI 1, vI 2880] σ1 (fun x2 σ2 => ((x2 = 0 → Ret (some (vI 0)) σ2) ∧ (¬ x2 = 0 → conI G wdM d mX10_in [vI v3, vI 0, vI 600] σ2 (fun x3 σ3 => ((¬ x3 = 0 → (∀ τ1, τ1 = sI σ3 0 8 v1 → (∀ τ2, τ2 = sI τ1 0 9 v2 → (∀ τ3, τ3 = sI τ2 0 10 v3 → ((v4 = 0 ∨ v4 = 1) ∧ (∀ τ4, τ4 = sI τ3 0 11 v4 → (∀ τ5, τ5 = sI τ4 0 25 0 → Ret (some (vI 1)) τ5))))))) ∧ (x3 = 0 → Ret (some (vI 0)) σ3)))))))))) : R 0 [vR 0, vI v1, vI v2, vI v3, vI v4] [] σ := by
  refine r_iload_n hM (pc' := 1) dX10_laws_0 rfl (x := v1) rfl ?_
  refine r_iconst hM (pc' := 2) dX10_laws_1 rfl (by decide) ?_
  refine r_sipush hM (pc' := 5) dX10_laws_2 rfl (by decide) (by decide) ?_
  refine r_callSI hM (pc' := 8) [vI v1, vI 1, vI 2880] dX10_laws_5 rfl ml_X10_80 rfl rfl (Nat.le_of_ble_eq_true rfl) (conI.mono h (fun x1 σ1 h => ?_))
  refine r_if_eq hM (pc' := 11) (tgt := 33) dX10_laws_8 rfl (by decide) (fun c => ?_) (fun c => ?_)
  · have h := h.1 c
    refine r_iconst hM (pc' := 34) dX10_laws_33 rfl (by decide) ?_
    exact r_zreturn hM dX10_laws_34 rfl (by decide) h
  · have h := h.2 c
    refine r_iload_n hM (pc' := 12) dX10_laws_11 rfl (x := v2) rfl ?_
    refine r_iconst hM (pc' := 13) dX10_laws_12 rfl (by decide) ?_
    refine r_sipush hM (pc' := 16) dX10_laws_13 rfl (by decide) (by decide) ?_
    refine r_callSI hM (pc' := 19) [vI v2, vI 1, vI 2880] dX10_laws_16 rfl ml_X10_80 rfl rfl (Nat.le_of_ble_eq_true rfl) (conI.mono h (fun x2 σ2 h => ?_))
    refine r_if_eq hM (pc' := 22) (tgt := 33) dX10_laws_19 rfl (by decide) (fun c => ?_) (fun c => ?_)
    · have h := h.1 c
      refine r_iconst hM (pc' := 34) dX10_laws_33 rfl (by decide) ?_
      exact r_zreturn hM dX10_laws_34 rfl (by decide) h
    · have h := h.2 c
      refine r_iload_n hM (pc' := 23) dX10_laws_22 rfl (x := v3) rfl ?_
      refine r_iconst hM (pc' := 24) dX10_laws_23 rfl (by decide) ?_
      refine r_sipush hM (pc' := 27) dX10_laws_24 rfl (by decide) (by decide) ?_
      refine r_callSI hM (pc' := 30) [vI v3, vI 0, vI 600] dX10_laws_27 rfl ml_X10_80 rfl rfl (Nat.le_of_ble_eq_true rfl) (conI.mono h (fun x3 σ3 h => ?_))
      refine r_if_ne hM (pc' := 33) (tgt := 35) dX10_laws_30 rfl (by decide) (fun c => ?_) (fun c => ?_)
      · have h := h.1 c
        refine r_aload_n hM (pc' := 36) dX10_laws_35 rfl (x := 0) rfl ?_
        refine r_iload_n hM (pc' := 37) dX10_laws_36 rfl (x := v1) rfl ?_
        refine r_putI hM (pc' := 40) dX10_laws_37 rfl fp_X10_32 wm_0 rfl (fun τ1 e1 => ?_)
        have h := h τ1 e1
        refine r_aload_n hM (pc' := 41) dX10_laws_40 rfl (x := 0) rfl ?_
        refine r_iload_n hM (pc' := 42) dX10_laws_41 rfl (x := v2) rfl ?_
        refine r_putI hM (pc' := 45) dX10_laws_42 rfl fp_X10_36 wm_0 rfl (fun τ2 e2 => ?_)
        have h := h τ2 e2
        refine r_aload_n hM (pc' := 46) dX10_laws_45 rfl (x := 0) rfl ?_
        refine r_iload_n hM (pc' := 47) dX10_laws_46 rfl (x := v3) rfl ?_
        refine r_putI hM (pc' := 50) dX10_laws_47 rfl fp_X10_39 wm_0 rfl (fun τ3 e3 => ?_)
        have h := h τ3 e3
        refine r_aload_n hM (pc' := 51) dX10_laws_50 rfl (x := 0) rfl ?_
        refine r_iload hM (pc' := 53) dX10_laws_51 rfl (x := v4) rfl ?_
        have o1 := h.1
        have h := h.2
        refine r_putZ hM (pc' := 56) dX10_laws_53 rfl fp_X10_42 wm_0 rfl o1 (fun τ4 e4 => ?_)
        have h := h τ4 e4
        refine r_aload_n hM (pc' := 57) dX10_laws_56 rfl (x := 0) rfl ?_
        refine r_iconst hM (pc' := 58) dX10_laws_57 rfl (by decide) ?_
        refine r_putI hM (pc' := 61) dX10_laws_58 rfl fp_X10_94 wm_0 rfl (fun τ5 e5 => ?_)
        have h := h τ5 e5
        refine r_iconst hM (pc' := 62) dX10_laws_61 rfl (by decide) ?_
        exact r_zreturn hM dX10_laws_62 rfl (by decide) h
      · have h := h.2 c
        refine r_iconst hM (pc' := 34) dX10_laws_33 rfl (by decide) ?_
        exact r_zreturn hM dX10_laws_34 rfl (by decide) h
theorem dX10_tripOf_0 : decode cX10_tripOf 0 = .ok (.aload_n 0, 1) := by decide +kernel
theorem dX10_tripOf_1 : decode cX10_tripOf 1 = .ok (.iload_n 1, 1) := by decide +kernel
theorem dX10_tripOf_2 : decode cX10_tripOf 2 = .ok (.invokevirtual 97, 3) := by decide +kernel
theorem dX10_tripOf_5 : decode cX10_tripOf 5 = .ok (.ifCond .ne 5, 3) := by decide +kernel
theorem dX10_tripOf_8 : decode cX10_tripOf 8 = .ok (.iconst (-1), 1) := by decide +kernel
theorem dX10_tripOf_9 : decode cX10_tripOf 9 = .ok (.ireturn, 1) := by decide +kernel
theorem dX10_tripOf_10 : decode cX10_tripOf 10 = .ok (.iload_n 2, 1) := by decide +kernel
theorem dX10_tripOf_11 : decode cX10_tripOf 11 = .ok (.ifCond .ne 12, 3) := by decide +kernel
theorem dX10_tripOf_14 : decode cX10_tripOf 14 = .ok (.aload_n 0, 1) := by decide +kernel
theorem dX10_tripOf_15 : decode cX10_tripOf 15 = .ok (.getfield 20, 3) := by decide +kernel
theorem dX10_tripOf_18 : decode cX10_tripOf 18 = .ok (.iload_n 1, 1) := by decide +kernel
theorem dX10_tripOf_19 : decode cX10_tripOf 19 = .ok (.iaload, 1) := by decide +kernel
theorem dX10_tripOf_20 : decode cX10_tripOf 20 = .ok (.goto 46, 3) := by decide +kernel
theorem dX10_tripOf_23 : decode cX10_tripOf 23 = .ok (.iload_n 2, 1) := by decide +kernel
theorem dX10_tripOf_24 : decode cX10_tripOf 24 = .ok (.iconst 1, 1) := by decide +kernel
theorem dX10_tripOf_25 : decode cX10_tripOf 25 = .ok (.if_icmp .ne 12, 3) := by decide +kernel
theorem dX10_tripOf_28 : decode cX10_tripOf 28 = .ok (.aload_n 0, 1) := by decide +kernel
theorem dX10_tripOf_29 : decode cX10_tripOf 29 = .ok (.getfield 23, 3) := by decide +kernel
theorem dX10_tripOf_32 : decode cX10_tripOf 32 = .ok (.iload_n 1, 1) := by decide +kernel
theorem dX10_tripOf_33 : decode cX10_tripOf 33 = .ok (.iaload, 1) := by decide +kernel
theorem dX10_tripOf_34 : decode cX10_tripOf 34 = .ok (.goto 32, 3) := by decide +kernel
theorem dX10_tripOf_37 : decode cX10_tripOf 37 = .ok (.iload_n 2, 1) := by decide +kernel
theorem dX10_tripOf_38 : decode cX10_tripOf 38 = .ok (.iconst 2, 1) := by decide +kernel
theorem dX10_tripOf_39 : decode cX10_tripOf 39 = .ok (.if_icmp .ne 12, 3) := by decide +kernel
theorem dX10_tripOf_42 : decode cX10_tripOf 42 = .ok (.aload_n 0, 1) := by decide +kernel
theorem dX10_tripOf_43 : decode cX10_tripOf 43 = .ok (.getfield 26, 3) := by decide +kernel
theorem dX10_tripOf_46 : decode cX10_tripOf 46 = .ok (.iload_n 1, 1) := by decide +kernel
theorem dX10_tripOf_47 : decode cX10_tripOf 47 = .ok (.iaload, 1) := by decide +kernel
theorem dX10_tripOf_48 : decode cX10_tripOf 48 = .ok (.goto 18, 3) := by decide +kernel
theorem dX10_tripOf_51 : decode cX10_tripOf 51 = .ok (.iload_n 2, 1) := by decide +kernel
theorem dX10_tripOf_52 : decode cX10_tripOf 52 = .ok (.iconst 3, 1) := by decide +kernel
theorem dX10_tripOf_53 : decode cX10_tripOf 53 = .ok (.if_icmp .ne 12, 3) := by decide +kernel
theorem dX10_tripOf_56 : decode cX10_tripOf 56 = .ok (.aload_n 0, 1) := by decide +kernel
theorem dX10_tripOf_57 : decode cX10_tripOf 57 = .ok (.getfield 29, 3) := by decide +kernel
theorem dX10_tripOf_60 : decode cX10_tripOf 60 = .ok (.iload_n 1, 1) := by decide +kernel
theorem dX10_tripOf_61 : decode cX10_tripOf 61 = .ok (.iaload, 1) := by decide +kernel
theorem dX10_tripOf_62 : decode cX10_tripOf 62 = .ok (.goto 4, 3) := by decide +kernel
theorem dX10_tripOf_65 : decode cX10_tripOf 65 = .ok (.iconst (-1), 1) := by decide +kernel
theorem dX10_tripOf_66 : decode cX10_tripOf 66 = .ok (.ireturn, 1) := by decide +kernel
set_option maxRecDepth 20000 in
theorem g_X10_tripOf_0 {G : GX} {d : Nat} {Ret : Option AV → St → Prop} {R : Nat → List AV → List AV → St → Prop} (hM : AM G wdM (d + 1) mX10_tripOf Ret R) (v1 : Int) (v2 : Int) (σ : St)
    (h : conI G wdM d mX10_isTrip [vR 0, vI v1] σ (fun x1 σ1 => ((¬ x1 = 0 → ((¬ v2 = 0 → ((¬ v2 = 1 → ((¬ v2 = 2 → ((¬ v2 = 3 → Ret (some (vI (-1))) σ1) ∧ (v2 = 3 → ((0 ≤ v1 ∧ v1 < 16) ∧ Ret (some (vI (σ1.1 7 (v1).toNat))) σ1)))) ∧ (v2 = 2 → ((0 ≤ v1 ∧ v1 < 16) ∧ Ret (some (vI (σ1.1 6 (v1).toNat))) σ1)))) ∧ (v2 = 1 → ((0 ≤ v1 ∧ v1 < 16) ∧ Ret (some (vI (σ1.1 5 (v1).toNat))) σ1)))) ∧ (v2 = 0 → ((0 ≤ v1 ∧ v1 < 16) ∧ Ret (some (vI (σ1.1 4 (v1).toNat))) σ1)))) ∧ (x1 = 0 → Ret (some (vI (-1))) σ1)))) : R 0 [vR 0, vI v1, vI v2] [] σ := by
  refine r_aload_n hM (pc' := 1) dX10_tripOf_0 rfl (x := 0) rfl ?_
  refine r_iload_n hM (pc' := 2) dX10_tripOf_1 rfl (x := v1) rfl ?_
  refine r_callVI hM (pc' := 5) [vI v1] dX10_tripOf_2 rfl ml_X10_97 wm_0 rfl rfl (Nat.le_of_ble_eq_true rfl) (conI.mono h (fun x1 σ1 h => ?_))
  refine r_if_ne hM (pc' := 8) (tgt := 10) dX10_tripOf_5 rfl (by decide) (fun c => ?_) (fun c => ?_)
  · have h := h.1 c
    refine r_iload_n hM (pc' := 11) dX10_tripOf_10 rfl (x := v2) rfl ?_
    refine r_if_ne hM (pc' := 14) (tgt := 23) dX10_tripOf_11 rfl (by decide) (fun c => ?_) (fun c => ?_)
    · have h := h.1 c
      refine r_iload_n hM (pc' := 24) dX10_tripOf_23 rfl (x := v2) rfl ?_
      refine r_iconst hM (pc' := 25) dX10_tripOf_24 rfl (by decide) ?_
      refine r_icmp_ne hM (pc' := 28) (tgt := 37) dX10_tripOf_25 rfl (by decide) (fun c => ?_) (fun c => ?_)
      · have h := h.1 c
        refine r_iload_n hM (pc' := 38) dX10_tripOf_37 rfl (x := v2) rfl ?_
        refine r_iconst hM (pc' := 39) dX10_tripOf_38 rfl (by decide) ?_
        refine r_icmp_ne hM (pc' := 42) (tgt := 51) dX10_tripOf_39 rfl (by decide) (fun c => ?_) (fun c => ?_)
        · have h := h.1 c
          refine r_iload_n hM (pc' := 52) dX10_tripOf_51 rfl (x := v2) rfl ?_
          refine r_iconst hM (pc' := 53) dX10_tripOf_52 rfl (by decide) ?_
          refine r_icmp_ne hM (pc' := 56) (tgt := 65) dX10_tripOf_53 rfl (by decide) (fun c => ?_) (fun c => ?_)
          · have h := h.1 c
            refine r_iconst hM (pc' := 66) dX10_tripOf_65 rfl (by decide) ?_
            exact r_ireturn hM dX10_tripOf_66 rfl h
          · have h := h.2 c
            refine r_aload_n hM (pc' := 57) dX10_tripOf_56 rfl (x := 0) rfl ?_
            refine r_getR hM (pc' := 60) dX10_tripOf_57 rfl fl_X10_29 wm_0 rfl ?_
            refine r_iload_n hM (pc' := 61) dX10_tripOf_60 rfl (x := v1) rfl ?_
            have o1 := h.1
            have h := h.2
            refine r_iaload hM (pc' := 62) dX10_tripOf_61 rfl wm_7 o1 ?_
            refine r_goto hM (tgt := 66) dX10_tripOf_62 (by decide) ?_
            exact r_ireturn hM dX10_tripOf_66 rfl h
        · have h := h.2 c
          refine r_aload_n hM (pc' := 43) dX10_tripOf_42 rfl (x := 0) rfl ?_
          refine r_getR hM (pc' := 46) dX10_tripOf_43 rfl fl_X10_26 wm_0 rfl ?_
          refine r_iload_n hM (pc' := 47) dX10_tripOf_46 rfl (x := v1) rfl ?_
          have o2 := h.1
          have h := h.2
          refine r_iaload hM (pc' := 48) dX10_tripOf_47 rfl wm_6 o2 ?_
          refine r_goto hM (tgt := 66) dX10_tripOf_48 (by decide) ?_
          exact r_ireturn hM dX10_tripOf_66 rfl h
      · have h := h.2 c
        refine r_aload_n hM (pc' := 29) dX10_tripOf_28 rfl (x := 0) rfl ?_
        refine r_getR hM (pc' := 32) dX10_tripOf_29 rfl fl_X10_23 wm_0 rfl ?_
        refine r_iload_n hM (pc' := 33) dX10_tripOf_32 rfl (x := v1) rfl ?_
        have o3 := h.1
        have h := h.2
        refine r_iaload hM (pc' := 34) dX10_tripOf_33 rfl wm_5 o3 ?_
        refine r_goto hM (tgt := 66) dX10_tripOf_34 (by decide) ?_
        exact r_ireturn hM dX10_tripOf_66 rfl h
    · have h := h.2 c
      refine r_aload_n hM (pc' := 15) dX10_tripOf_14 rfl (x := 0) rfl ?_
      refine r_getR hM (pc' := 18) dX10_tripOf_15 rfl fl_X10_20 wm_0 rfl ?_
      refine r_iload_n hM (pc' := 19) dX10_tripOf_18 rfl (x := v1) rfl ?_
      have o4 := h.1
      have h := h.2
      refine r_iaload hM (pc' := 20) dX10_tripOf_19 rfl wm_4 o4 ?_
      refine r_goto hM (tgt := 66) dX10_tripOf_20 (by decide) ?_
      exact r_ireturn hM dX10_tripOf_66 rfl h
  · have h := h.2 c
    refine r_iconst hM (pc' := 9) dX10_tripOf_8 rfl (by decide) ?_
    exact r_ireturn hM dX10_tripOf_9 rfl h
theorem dX10_follows_0 : decode cX10_follows 0 = .ok (.bipush 12, 2) := by decide +kernel
theorem dX10_follows_2 : decode cX10_follows 2 = .ok (.aload_n 0, 1) := by decide +kernel
theorem dX10_follows_3 : decode cX10_follows 3 = .ok (.getfield 23, 3) := by decide +kernel
theorem dX10_follows_6 : decode cX10_follows 6 = .ok (.iload_n 1, 1) := by decide +kernel
theorem dX10_follows_7 : decode cX10_follows 7 = .ok (.iaload, 1) := by decide +kernel
theorem dX10_follows_8 : decode cX10_follows 8 = .ok (.imul, 1) := by decide +kernel
theorem dX10_follows_9 : decode cX10_follows 9 = .ok (.aload_n 0, 1) := by decide +kernel
theorem dX10_follows_10 : decode cX10_follows 10 = .ok (.getfield 20, 3) := by decide +kernel
theorem dX10_follows_13 : decode cX10_follows 13 = .ok (.iload_n 2, 1) := by decide +kernel
theorem dX10_follows_14 : decode cX10_follows 14 = .ok (.iaload, 1) := by decide +kernel
theorem dX10_follows_15 : decode cX10_follows 15 = .ok (.iadd, 1) := by decide +kernel
theorem dX10_follows_16 : decode cX10_follows 16 = .ok (.istore_n 3, 1) := by decide +kernel
theorem dX10_follows_17 : decode cX10_follows 17 = .ok (.aload_n 0, 1) := by decide +kernel
theorem dX10_follows_18 : decode cX10_follows 18 = .ok (.getfield 7, 3) := by decide +kernel
theorem dX10_follows_21 : decode cX10_follows 21 = .ok (.iload_n 3, 1) := by decide +kernel
theorem dX10_follows_22 : decode cX10_follows 22 = .ok (.iaload, 1) := by decide +kernel
theorem dX10_follows_23 : decode cX10_follows 23 = .ok (.ifCond .lt 29, 3) := by decide +kernel
theorem dX10_follows_26 : decode cX10_follows 26 = .ok (.aload_n 0, 1) := by decide +kernel
theorem dX10_follows_27 : decode cX10_follows 27 = .ok (.getfield 29, 3) := by decide +kernel
theorem dX10_follows_30 : decode cX10_follows 30 = .ok (.iload_n 1, 1) := by decide +kernel
theorem dX10_follows_31 : decode cX10_follows 31 = .ok (.iaload, 1) := by decide +kernel
theorem dX10_follows_32 : decode cX10_follows 32 = .ok (.aload_n 0, 1) := by decide +kernel
theorem dX10_follows_33 : decode cX10_follows 33 = .ok (.getfield 7, 3) := by decide +kernel
theorem dX10_follows_36 : decode cX10_follows 36 = .ok (.iload_n 3, 1) := by decide +kernel
theorem dX10_follows_37 : decode cX10_follows 37 = .ok (.iaload, 1) := by decide +kernel
theorem dX10_follows_38 : decode cX10_follows 38 = .ok (.iadd, 1) := by decide +kernel
theorem dX10_follows_39 : decode cX10_follows 39 = .ok (.aload_n 0, 1) := by decide +kernel
theorem dX10_follows_40 : decode cX10_follows 40 = .ok (.getfield 26, 3) := by decide +kernel
theorem dX10_follows_43 : decode cX10_follows 43 = .ok (.iload_n 2, 1) := by decide +kernel
theorem dX10_follows_44 : decode cX10_follows 44 = .ok (.iaload, 1) := by decide +kernel
theorem dX10_follows_45 : decode cX10_follows 45 = .ok (.if_icmp .gt 7, 3) := by decide +kernel
theorem dX10_follows_48 : decode cX10_follows 48 = .ok (.iconst 1, 1) := by decide +kernel
theorem dX10_follows_49 : decode cX10_follows 49 = .ok (.goto 4, 3) := by decide +kernel
theorem dX10_follows_52 : decode cX10_follows 52 = .ok (.iconst 0, 1) := by decide +kernel
theorem dX10_follows_53 : decode cX10_follows 53 = .ok (.ireturn, 1) := by decide +kernel
set_option maxRecDepth 20000 in
theorem g_X10_follows_0 {G : GX} {d : Nat} {Ret : Option AV → St → Prop} {R : Nat → List AV → List AV → St → Prop} (hM : AM G wdM d mX10_follows Ret R) (v1 : Int) (v2 : Int) (σ : St)
    (h : ((0 ≤ v1 ∧ v1 < 16) ∧ (r32 (12 * (σ.1 5 (v1).toNat)) ∧ ((0 ≤ v2 ∧ v2 < 16) ∧ (r32 ((12 * (σ.1 5 (v1).toNat)) + (σ.1 4 (v2).toNat)) ∧ (∀ u1, u1 = ((12 * (σ.1 5 (v1).toNat)) + (σ.1 4 (v2).toNat)) → ((0 ≤ u1 ∧ u1 < 144) ∧ (((σ.1 1 (u1).toNat) < 0 → Ret (some (vI 0)) σ) ∧ (¬ (σ.1 1 (u1).toNat) < 0 → (r32 ((σ.1 7 (v1).toNat) + (σ.1 1 (u1).toNat)) ∧ (((σ.1 6 (v2).toNat) < ((σ.1 7 (v1).toNat) + (σ.1 1 (u1).toNat)) → Ret (some (vI 0)) σ) ∧ (¬ (σ.1 6 (v2).toNat) < ((σ.1 7 (v1).toNat) + (σ.1 1 (u1).toNat)) → Ret (some (vI 1)) σ)))))))))))) : R 0 [vR 0, vI v1, vI v2, vN] [] σ := by
  refine r_bipush hM (pc' := 2) dX10_follows_0 rfl (by decide) (by decide) ?_
  refine r_aload_n hM (pc' := 3) dX10_follows_2 rfl (x := 0) rfl ?_
  refine r_getR hM (pc' := 6) dX10_follows_3 rfl fl_X10_23 wm_0 rfl ?_
  refine r_iload_n hM (pc' := 7) dX10_follows_6 rfl (x := v1) rfl ?_
  have o1 := h.1
  have h := h.2
  refine r_iaload hM (pc' := 8) dX10_follows_7 rfl wm_5 o1 ?_
  have o2 := h.1
  have h := h.2
  refine r_imul hM (pc' := 9) dX10_follows_8 rfl o2 ?_
  refine r_aload_n hM (pc' := 10) dX10_follows_9 rfl (x := 0) rfl ?_
  refine r_getR hM (pc' := 13) dX10_follows_10 rfl fl_X10_20 wm_0 rfl ?_
  refine r_iload_n hM (pc' := 14) dX10_follows_13 rfl (x := v2) rfl ?_
  have o3 := h.1
  have h := h.2
  refine r_iaload hM (pc' := 15) dX10_follows_14 rfl wm_4 o3 ?_
  have o4 := h.1
  have h := h.2
  refine r_iadd hM (pc' := 16) dX10_follows_15 rfl o4 ?_
  refine r_istore_nN hM (pc' := 17) dX10_follows_16 rfl (Nat.le_of_ble_eq_true rfl) rfl (fun u1 eu1 => ?_)
  have h := h u1 eu1
  show R 17 [vR 0, vI v1, vI v2, vI u1] _ _
  refine r_aload_n hM (pc' := 18) dX10_follows_17 rfl (x := 0) rfl ?_
  refine r_getR hM (pc' := 21) dX10_follows_18 rfl fl_X10_7 wm_0 rfl ?_
  refine r_iload_n hM (pc' := 22) dX10_follows_21 rfl (x := u1) rfl ?_
  have o5 := h.1
  have h := h.2
  refine r_iaload hM (pc' := 23) dX10_follows_22 rfl wm_1 o5 ?_
  refine r_if_lt hM (pc' := 26) (tgt := 52) dX10_follows_23 rfl (by decide) (fun c => ?_) (fun c => ?_)
  · have h := h.1 c
    refine r_iconst hM (pc' := 53) dX10_follows_52 rfl (by decide) ?_
    exact r_zreturn hM dX10_follows_53 rfl (by decide) h
  · have h := h.2 c
    refine r_aload_n hM (pc' := 27) dX10_follows_26 rfl (x := 0) rfl ?_
    refine r_getR hM (pc' := 30) dX10_follows_27 rfl fl_X10_29 wm_0 rfl ?_
    refine r_iload_n hM (pc' := 31) dX10_follows_30 rfl (x := v1) rfl ?_
    refine r_iaload hM (pc' := 32) dX10_follows_31 rfl wm_7 o1 ?_
    refine r_aload_n hM (pc' := 33) dX10_follows_32 rfl (x := 0) rfl ?_
    refine r_getR hM (pc' := 36) dX10_follows_33 rfl fl_X10_7 wm_0 rfl ?_
    refine r_iload_n hM (pc' := 37) dX10_follows_36 rfl (x := u1) rfl ?_
    refine r_iaload hM (pc' := 38) dX10_follows_37 rfl wm_1 o5 ?_
    have o6 := h.1
    have h := h.2
    refine r_iadd hM (pc' := 39) dX10_follows_38 rfl o6 ?_
    refine r_aload_n hM (pc' := 40) dX10_follows_39 rfl (x := 0) rfl ?_
    refine r_getR hM (pc' := 43) dX10_follows_40 rfl fl_X10_26 wm_0 rfl ?_
    refine r_iload_n hM (pc' := 44) dX10_follows_43 rfl (x := v2) rfl ?_
    refine r_iaload hM (pc' := 45) dX10_follows_44 rfl wm_6 o3 ?_
    refine r_icmp_gt hM (pc' := 48) (tgt := 52) dX10_follows_45 rfl (by decide) (fun c => ?_) (fun c => ?_)
    · have h := h.1 c
      refine r_iconst hM (pc' := 53) dX10_follows_52 rfl (by decide) ?_
      exact r_zreturn hM dX10_follows_53 rfl (by decide) h
    · have h := h.2 c
      refine r_iconst hM (pc' := 49) dX10_follows_48 rfl (by decide) ?_
      refine r_goto hM (tgt := 53) dX10_follows_49 (by decide) ?_
      exact r_zreturn hM dX10_follows_53 rfl (by decide) h
theorem dX10_may_0 : decode cX10_may 0 = .ok (.aload_n 0, 1) := by decide +kernel
theorem dX10_may_1 : decode cX10_may 1 = .ok (.iload_n 1, 1) := by decide +kernel
theorem dX10_may_2 : decode cX10_may 2 = .ok (.invokevirtual 97, 3) := by decide +kernel
theorem dX10_may_5 : decode cX10_may 5 = .ok (.ifCond .eq 11, 3) := by decide +kernel
theorem dX10_may_8 : decode cX10_may 8 = .ok (.aload_n 0, 1) := by decide +kernel
theorem dX10_may_9 : decode cX10_may 9 = .ok (.iload_n 2, 1) := by decide +kernel
theorem dX10_may_10 : decode cX10_may 10 = .ok (.invokevirtual 97, 3) := by decide +kernel
theorem dX10_may_13 : decode cX10_may 13 = .ok (.ifCond .ne 7, 3) := by decide +kernel
theorem dX10_may_16 : decode cX10_may 16 = .ok (.iconst (-1), 1) := by decide +kernel
theorem dX10_may_17 : decode cX10_may 17 = .ok (.goto 17, 3) := by decide +kernel
theorem dX10_may_20 : decode cX10_may 20 = .ok (.aload_n 0, 1) := by decide +kernel
theorem dX10_may_21 : decode cX10_may 21 = .ok (.iload_n 1, 1) := by decide +kernel
theorem dX10_may_22 : decode cX10_may 22 = .ok (.iload_n 2, 1) := by decide +kernel
theorem dX10_may_23 : decode cX10_may 23 = .ok (.invokevirtual 104, 3) := by decide +kernel
theorem dX10_may_26 : decode cX10_may 26 = .ok (.ifCond .eq 7, 3) := by decide +kernel
theorem dX10_may_29 : decode cX10_may 29 = .ok (.iconst 1, 1) := by decide +kernel
theorem dX10_may_30 : decode cX10_may 30 = .ok (.goto 4, 3) := by decide +kernel
theorem dX10_may_33 : decode cX10_may 33 = .ok (.iconst 0, 1) := by decide +kernel
theorem dX10_may_34 : decode cX10_may 34 = .ok (.ireturn, 1) := by decide +kernel
set_option maxRecDepth 20000 in
theorem g_X10_may_0 {G : GX} {d : Nat} {Ret : Option AV → St → Prop} {R : Nat → List AV → List AV → St → Prop} (hM : AM G wdM (d + 1) mX10_may Ret R) (v1 : Int) (v2 : Int) (σ : St)
    (h : conI G wdM d mX10_isTrip [vR 0, vI v1] σ (fun x1 σ1 => ((x1 = 0 → Ret (some (vI (-1))) σ1) ∧ (¬ x1 = 0 → conI G wdM d mX10_isTrip [vR 0, vI v2] σ1 (fun x2 σ2 => ((¬ x2 = 0 → conI G wdM d mX10_follows [vR 0, vI v1, vI v2] σ2 (fun x3 σ3 => ((x3 = 0 → Ret (some (vI 0)) σ3) ∧ (¬ x3 = 0 → Ret (some (vI 1)) σ3)))) ∧ (x2 = 0 → Ret (some (vI (-1))) σ2))))))) : R 0 [vR 0, vI v1, vI v2] [] σ := by
  refine r_aload_n hM (pc' := 1) dX10_may_0 rfl (x := 0) rfl ?_
  refine r_iload_n hM (pc' := 2) dX10_may_1 rfl (x := v1) rfl ?_
  refine r_callVI hM (pc' := 5) [vI v1] dX10_may_2 rfl ml_X10_97 wm_0 rfl rfl (Nat.le_of_ble_eq_true rfl) (conI.mono h (fun x1 σ1 h => ?_))
  refine r_if_eq hM (pc' := 8) (tgt := 16) dX10_may_5 rfl (by decide) (fun c => ?_) (fun c => ?_)
  · have h := h.1 c
    refine r_iconst hM (pc' := 17) dX10_may_16 rfl (by decide) ?_
    refine r_goto hM (tgt := 34) dX10_may_17 (by decide) ?_
    exact r_ireturn hM dX10_may_34 rfl h
  · have h := h.2 c
    refine r_aload_n hM (pc' := 9) dX10_may_8 rfl (x := 0) rfl ?_
    refine r_iload_n hM (pc' := 10) dX10_may_9 rfl (x := v2) rfl ?_
    refine r_callVI hM (pc' := 13) [vI v2] dX10_may_10 rfl ml_X10_97 wm_0 rfl rfl (Nat.le_of_ble_eq_true rfl) (conI.mono h (fun x2 σ2 h => ?_))
    refine r_if_ne hM (pc' := 16) (tgt := 20) dX10_may_13 rfl (by decide) (fun c => ?_) (fun c => ?_)
    · have h := h.1 c
      refine r_aload_n hM (pc' := 21) dX10_may_20 rfl (x := 0) rfl ?_
      refine r_iload_n hM (pc' := 22) dX10_may_21 rfl (x := v1) rfl ?_
      refine r_iload_n hM (pc' := 23) dX10_may_22 rfl (x := v2) rfl ?_
      refine r_callVI hM (pc' := 26) [vI v1, vI v2] dX10_may_23 rfl ml_X10_104 wm_0 rfl rfl (Nat.le_of_ble_eq_true rfl) (conI.mono h (fun x3 σ3 h => ?_))
      refine r_if_eq hM (pc' := 29) (tgt := 33) dX10_may_26 rfl (by decide) (fun c => ?_) (fun c => ?_)
      · have h := h.1 c
        refine r_iconst hM (pc' := 34) dX10_may_33 rfl (by decide) ?_
        exact r_ireturn hM dX10_may_34 rfl h
      · have h := h.2 c
        refine r_iconst hM (pc' := 30) dX10_may_29 rfl (by decide) ?_
        refine r_goto hM (tgt := 34) dX10_may_30 (by decide) ?_
        exact r_ireturn hM dX10_may_34 rfl h
    · have h := h.2 c
      refine r_iconst hM (pc' := 17) dX10_may_16 rfl (by decide) ?_
      refine r_goto hM (tgt := 34) dX10_may_17 (by decide) ?_
      exact r_ireturn hM dX10_may_34 rfl h
theorem dX10_goesOn_0 : decode cX10_goesOn 0 = .ok (.iconst 0, 1) := by decide +kernel
theorem dX10_goesOn_1 : decode cX10_goesOn 1 = .ok (.istore_n 1, 1) := by decide +kernel
theorem dX10_goesOn_2 : decode cX10_goesOn 2 = .ok (.iload_n 1, 1) := by decide +kernel
theorem dX10_goesOn_3 : decode cX10_goesOn 3 = .ok (.aload_n 0, 1) := by decide +kernel
theorem dX10_goesOn_4 : decode cX10_goesOn 4 = .ok (.getfield 84, 3) := by decide +kernel
theorem dX10_goesOn_7 : decode cX10_goesOn 7 = .ok (.if_icmp .ge 70, 3) := by decide +kernel
theorem dX10_goesOn_10 : decode cX10_goesOn 10 = .ok (.iconst 0, 1) := by decide +kernel
theorem dX10_goesOn_11 : decode cX10_goesOn 11 = .ok (.istore_n 2, 1) := by decide +kernel
theorem dX10_goesOn_12 : decode cX10_goesOn 12 = .ok (.iload_n 2, 1) := by decide +kernel
theorem dX10_goesOn_13 : decode cX10_goesOn 13 = .ok (.aload_n 0, 1) := by decide +kernel
theorem dX10_goesOn_14 : decode cX10_goesOn 14 = .ok (.getfield 84, 3) := by decide +kernel
theorem dX10_goesOn_17 : decode cX10_goesOn 17 = .ok (.if_icmp .ge 54, 3) := by decide +kernel
theorem dX10_goesOn_20 : decode cX10_goesOn 20 = .ok (.iconst 0, 1) := by decide +kernel
theorem dX10_goesOn_21 : decode cX10_goesOn 21 = .ok (.istore_n 3, 1) := by decide +kernel
theorem dX10_goesOn_22 : decode cX10_goesOn 22 = .ok (.iload_n 3, 1) := by decide +kernel
theorem dX10_goesOn_23 : decode cX10_goesOn 23 = .ok (.aload_n 0, 1) := by decide +kernel
theorem dX10_goesOn_24 : decode cX10_goesOn 24 = .ok (.getfield 84, 3) := by decide +kernel
theorem dX10_goesOn_27 : decode cX10_goesOn 27 = .ok (.if_icmp .ge 38, 3) := by decide +kernel
theorem dX10_goesOn_30 : decode cX10_goesOn 30 = .ok (.aload_n 0, 1) := by decide +kernel
theorem dX10_goesOn_31 : decode cX10_goesOn 31 = .ok (.iload_n 1, 1) := by decide +kernel
theorem dX10_goesOn_32 : decode cX10_goesOn 32 = .ok (.iload_n 2, 1) := by decide +kernel
theorem dX10_goesOn_33 : decode cX10_goesOn 33 = .ok (.invokevirtual 104, 3) := by decide +kernel
theorem dX10_goesOn_36 : decode cX10_goesOn 36 = .ok (.ifCond .eq 23, 3) := by decide +kernel
theorem dX10_goesOn_39 : decode cX10_goesOn 39 = .ok (.aload_n 0, 1) := by decide +kernel
theorem dX10_goesOn_40 : decode cX10_goesOn 40 = .ok (.iload_n 2, 1) := by decide +kernel
theorem dX10_goesOn_41 : decode cX10_goesOn 41 = .ok (.iload_n 3, 1) := by decide +kernel
theorem dX10_goesOn_42 : decode cX10_goesOn 42 = .ok (.invokevirtual 104, 3) := by decide +kernel
theorem dX10_goesOn_45 : decode cX10_goesOn 45 = .ok (.ifCond .eq 14, 3) := by decide +kernel
theorem dX10_goesOn_48 : decode cX10_goesOn 48 = .ok (.aload_n 0, 1) := by decide +kernel
theorem dX10_goesOn_49 : decode cX10_goesOn 49 = .ok (.iload_n 1, 1) := by decide +kernel
theorem dX10_goesOn_50 : decode cX10_goesOn 50 = .ok (.iload_n 3, 1) := by decide +kernel
theorem dX10_goesOn_51 : decode cX10_goesOn 51 = .ok (.invokevirtual 104, 3) := by decide +kernel
theorem dX10_goesOn_54 : decode cX10_goesOn 54 = .ok (.ifCond .ne 5, 3) := by decide +kernel
theorem dX10_goesOn_57 : decode cX10_goesOn 57 = .ok (.iconst 0, 1) := by decide +kernel
theorem dX10_goesOn_58 : decode cX10_goesOn 58 = .ok (.ireturn, 1) := by decide +kernel
theorem dX10_goesOn_59 : decode cX10_goesOn 59 = .ok (.iinc 3 1, 3) := by decide +kernel
theorem dX10_goesOn_62 : decode cX10_goesOn 62 = .ok (.goto (-40), 3) := by decide +kernel
theorem dX10_goesOn_65 : decode cX10_goesOn 65 = .ok (.iinc 2 1, 3) := by decide +kernel
theorem dX10_goesOn_68 : decode cX10_goesOn 68 = .ok (.goto (-56), 3) := by decide +kernel
theorem dX10_goesOn_71 : decode cX10_goesOn 71 = .ok (.iinc 1 1, 3) := by decide +kernel
theorem dX10_goesOn_74 : decode cX10_goesOn 74 = .ok (.goto (-72), 3) := by decide +kernel
theorem dX10_goesOn_77 : decode cX10_goesOn 77 = .ok (.iconst 1, 1) := by decide +kernel
theorem dX10_goesOn_78 : decode cX10_goesOn 78 = .ok (.ireturn, 1) := by decide +kernel
set_option maxRecDepth 20000 in
theorem g_X10_goesOn_0 {G : GX} {d : Nat} {Ret : Option AV → St → Prop} {R : Nat → List AV → List AV → St → Prop} (hM : AM G wdM (d + 1) mX10_goesOn Ret R) (σ : St)
    (h : R 2 [vR 0, vI 0, vN, vN] [] σ) : R 0 [vR 0, vN, vN, vN] [] σ := by
  refine r_iconst hM (pc' := 1) dX10_goesOn_0 rfl (by decide) ?_
  refine r_istore_n hM (pc' := 2) dX10_goesOn_1 rfl (Nat.le_of_ble_eq_true rfl) rfl ?_
  show R 2 [vR 0, vI 0, vN, vN] _ _
  exact h
set_option maxRecDepth 20000 in
theorem g_X10_goesOn_2 {G : GX} {d : Nat} {Ret : Option AV → St → Prop} {R : Nat → List AV → List AV → St → Prop} (hM : AM G wdM (d + 1) mX10_goesOn Ret R) (v1 : Int) (σ : St)
    (h : (((σ.1 0 3) ≤ v1 → Ret (some (vI 1)) σ) ∧ (¬ (σ.1 0 3) ≤ v1 → R 12 [vR 0, vI v1, vI 0, vN] [] σ))) : R 2 [vR 0, vI v1, vN, vN] [] σ := by
  refine r_iload_n hM (pc' := 3) dX10_goesOn_2 rfl (x := v1) rfl ?_
  refine r_aload_n hM (pc' := 4) dX10_goesOn_3 rfl (x := 0) rfl ?_
  refine r_getI hM (pc' := 7) dX10_goesOn_4 rfl fl_X10_84 wm_0 rfl ?_
  refine r_icmp_ge hM (pc' := 10) (tgt := 77) dX10_goesOn_7 rfl (by decide) (fun c => ?_) (fun c => ?_)
  · have h := h.1 c
    refine r_iconst hM (pc' := 78) dX10_goesOn_77 rfl (by decide) ?_
    exact r_ireturn hM dX10_goesOn_78 rfl h
  · have h := h.2 c
    refine r_iconst hM (pc' := 11) dX10_goesOn_10 rfl (by decide) ?_
    refine r_istore_n hM (pc' := 12) dX10_goesOn_11 rfl (Nat.le_of_ble_eq_true rfl) rfl ?_
    show R 12 [vR 0, vI v1, vI 0, vN] _ _
    exact h
set_option maxRecDepth 20000 in
theorem g_X10_goesOn_12 {G : GX} {d : Nat} {Ret : Option AV → St → Prop} {R : Nat → List AV → List AV → St → Prop} (hM : AM G wdM (d + 1) mX10_goesOn Ret R) (v1 : Int) (v2 : Int) (σ : St)
    (h : (((σ.1 0 3) ≤ v2 → (r32 (v1 + 1) ∧ R 2 [vR 0, vI (v1 + 1), vN, vN] [] σ)) ∧ (¬ (σ.1 0 3) ≤ v2 → R 22 [vR 0, vI v1, vI v2, vI 0] [] σ))) : R 12 [vR 0, vI v1, vI v2, vN] [] σ := by
  refine r_iload_n hM (pc' := 13) dX10_goesOn_12 rfl (x := v2) rfl ?_
  refine r_aload_n hM (pc' := 14) dX10_goesOn_13 rfl (x := 0) rfl ?_
  refine r_getI hM (pc' := 17) dX10_goesOn_14 rfl fl_X10_84 wm_0 rfl ?_
  refine r_icmp_ge hM (pc' := 20) (tgt := 71) dX10_goesOn_17 rfl (by decide) (fun c => ?_) (fun c => ?_)
  · have h := h.1 c
    have o1 := h.1
    have h := h.2
    refine r_iinc hM (pc' := 74) dX10_goesOn_71 rfl (x := v1) rfl rfl o1 ?_
    show R 74 [vR 0, vI (v1 + 1), vI v2, vN] _ _
    refine r_goto hM (tgt := 2) dX10_goesOn_74 (by decide) ?_
    refine r_weak hM (ls' := [vR 0, vI (v1 + 1), vN, vN]) ⟨Or.inl rfl, Or.inl rfl, Or.inr rfl, Or.inl rfl, trivial⟩ ?_
    exact h
  · have h := h.2 c
    refine r_iconst hM (pc' := 21) dX10_goesOn_20 rfl (by decide) ?_
    refine r_istore_n hM (pc' := 22) dX10_goesOn_21 rfl (Nat.le_of_ble_eq_true rfl) rfl ?_
    show R 22 [vR 0, vI v1, vI v2, vI 0] _ _
    exact h
set_option maxRecDepth 20000 in
theorem g_X10_goesOn_22 {G : GX} {d : Nat} {Ret : Option AV → St → Prop} {R : Nat → List AV → List AV → St → Prop} (hM : AM G wdM (d + 1) mX10_goesOn Ret R) (v1 : Int) (v2 : Int) (v3 : Int) (σ : St)
    (h : (((σ.1 0 3) ≤ v3 → (r32 (v2 + 1) ∧ R 12 [vR 0, vI v1, vI (v2 + 1), vN] [] σ)) ∧ (¬ (σ.1 0 3) ≤ v3 → conI G wdM d mX10_follows [vR 0, vI v1, vI v2] σ (fun x1 σ1 => ((x1 = 0 → (r32 (v3 + 1) ∧ R 22 [vR 0, vI v1, vI v2, vI (v3 + 1)] [] σ1)) ∧ (¬ x1 = 0 → conI G wdM d mX10_follows [vR 0, vI v2, vI v3] σ1 (fun x2 σ2 => ((x2 = 0 → (r32 (v3 + 1) ∧ R 22 [vR 0, vI v1, vI v2, vI (v3 + 1)] [] σ2)) ∧ (¬ x2 = 0 → conI G wdM d mX10_follows [vR 0, vI v1, vI v3] σ2 (fun x3 σ3 => ((¬ x3 = 0 → (r32 (v3 + 1) ∧ R 22 [vR 0, vI v1, vI v2, vI (v3 + 1)] [] σ3)) ∧ (x3 = 0 → Ret (some (vI 0)) σ3)))))))))))) : R 22 [vR 0, vI v1, vI v2, vI v3] [] σ := by
  refine r_iload_n hM (pc' := 23) dX10_goesOn_22 rfl (x := v3) rfl ?_
  refine r_aload_n hM (pc' := 24) dX10_goesOn_23 rfl (x := 0) rfl ?_
  refine r_getI hM (pc' := 27) dX10_goesOn_24 rfl fl_X10_84 wm_0 rfl ?_
  refine r_icmp_ge hM (pc' := 30) (tgt := 65) dX10_goesOn_27 rfl (by decide) (fun c => ?_) (fun c => ?_)
  · have h := h.1 c
    have o1 := h.1
    have h := h.2
    refine r_iinc hM (pc' := 68) dX10_goesOn_65 rfl (x := v2) rfl rfl o1 ?_
    show R 68 [vR 0, vI v1, vI (v2 + 1), vI v3] _ _
    refine r_goto hM (tgt := 12) dX10_goesOn_68 (by decide) ?_
    refine r_weak hM (ls' := [vR 0, vI v1, vI (v2 + 1), vN]) ⟨Or.inl rfl, Or.inl rfl, Or.inl rfl, Or.inr rfl, trivial⟩ ?_
    exact h
  · have h := h.2 c
    refine r_aload_n hM (pc' := 31) dX10_goesOn_30 rfl (x := 0) rfl ?_
    refine r_iload_n hM (pc' := 32) dX10_goesOn_31 rfl (x := v1) rfl ?_
    refine r_iload_n hM (pc' := 33) dX10_goesOn_32 rfl (x := v2) rfl ?_
    refine r_callVI hM (pc' := 36) [vI v1, vI v2] dX10_goesOn_33 rfl ml_X10_104 wm_0 rfl rfl (Nat.le_of_ble_eq_true rfl) (conI.mono h (fun x1 σ1 h => ?_))
    refine r_if_eq hM (pc' := 39) (tgt := 59) dX10_goesOn_36 rfl (by decide) (fun c => ?_) (fun c => ?_)
    · have h := h.1 c
      have o2 := h.1
      have h := h.2
      refine r_iinc hM (pc' := 62) dX10_goesOn_59 rfl (x := v3) rfl rfl o2 ?_
      show R 62 [vR 0, vI v1, vI v2, vI (v3 + 1)] _ _
      refine r_goto hM (tgt := 22) dX10_goesOn_62 (by decide) ?_
      exact h
    · have h := h.2 c
      refine r_aload_n hM (pc' := 40) dX10_goesOn_39 rfl (x := 0) rfl ?_
      refine r_iload_n hM (pc' := 41) dX10_goesOn_40 rfl (x := v2) rfl ?_
      refine r_iload_n hM (pc' := 42) dX10_goesOn_41 rfl (x := v3) rfl ?_
      refine r_callVI hM (pc' := 45) [vI v2, vI v3] dX10_goesOn_42 rfl ml_X10_104 wm_0 rfl rfl (Nat.le_of_ble_eq_true rfl) (conI.mono h (fun x2 σ2 h => ?_))
      refine r_if_eq hM (pc' := 48) (tgt := 59) dX10_goesOn_45 rfl (by decide) (fun c => ?_) (fun c => ?_)
      · have h := h.1 c
        have o3 := h.1
        have h := h.2
        refine r_iinc hM (pc' := 62) dX10_goesOn_59 rfl (x := v3) rfl rfl o3 ?_
        show R 62 [vR 0, vI v1, vI v2, vI (v3 + 1)] _ _
        refine r_goto hM (tgt := 22) dX10_goesOn_62 (by decide) ?_
        exact h
      · have h := h.2 c
        refine r_aload_n hM (pc' := 49) dX10_goesOn_48 rfl (x := 0) rfl ?_
        refine r_iload_n hM (pc' := 50) dX10_goesOn_49 rfl (x := v1) rfl ?_
        refine r_iload_n hM (pc' := 51) dX10_goesOn_50 rfl (x := v3) rfl ?_
        refine r_callVI hM (pc' := 54) [vI v1, vI v3] dX10_goesOn_51 rfl ml_X10_104 wm_0 rfl rfl (Nat.le_of_ble_eq_true rfl) (conI.mono h (fun x3 σ3 h => ?_))
        refine r_if_ne hM (pc' := 57) (tgt := 59) dX10_goesOn_54 rfl (by decide) (fun c => ?_) (fun c => ?_)
        · have h := h.1 c
          have o4 := h.1
          have h := h.2
          refine r_iinc hM (pc' := 62) dX10_goesOn_59 rfl (x := v3) rfl rfl o4 ?_
          show R 62 [vR 0, vI v1, vI v2, vI (v3 + 1)] _ _
          refine r_goto hM (tgt := 22) dX10_goesOn_62 (by decide) ?_
          exact h
        · have h := h.2 c
          refine r_iconst hM (pc' := 58) dX10_goesOn_57 rfl (by decide) ?_
          exact r_ireturn hM dX10_goesOn_58 rfl h
theorem dX10_sums_0 : decode cX10_sums 0 = .ok (.iconst 1, 1) := by decide +kernel
theorem dX10_sums_1 : decode cX10_sums 1 = .ok (.aload_n 0, 1) := by decide +kernel
theorem dX10_sums_2 : decode cX10_sums 2 = .ok (.getfield 84, 3) := by decide +kernel
theorem dX10_sums_5 : decode cX10_sums 5 = .ok (.ishl, 1) := by decide +kernel
theorem dX10_sums_6 : decode cX10_sums 6 = .ok (.istore_n 1, 1) := by decide +kernel
theorem dX10_sums_7 : decode cX10_sums 7 = .ok (.iconst 0, 1) := by decide +kernel
theorem dX10_sums_8 : decode cX10_sums 8 = .ok (.istore_n 2, 1) := by decide +kernel
theorem dX10_sums_9 : decode cX10_sums 9 = .ok (.iload_n 2, 1) := by decide +kernel
theorem dX10_sums_10 : decode cX10_sums 10 = .ok (.iload_n 1, 1) := by decide +kernel
theorem dX10_sums_11 : decode cX10_sums 11 = .ok (.if_icmp .ge 24, 3) := by decide +kernel
theorem dX10_sums_14 : decode cX10_sums 14 = .ok (.aload_n 0, 1) := by decide +kernel
theorem dX10_sums_15 : decode cX10_sums 15 = .ok (.getfield 47, 3) := by decide +kernel
theorem dX10_sums_18 : decode cX10_sums 18 = .ok (.ldc 107, 2) := by decide +kernel
theorem dX10_sums_20 : decode cX10_sums 20 = .ok (.aload_n 0, 1) := by decide +kernel
theorem dX10_sums_21 : decode cX10_sums 21 = .ok (.getfield 84, 3) := by decide +kernel
theorem dX10_sums_24 : decode cX10_sums 24 = .ok (.imul, 1) := by decide +kernel
theorem dX10_sums_25 : decode cX10_sums 25 = .ok (.iload_n 2, 1) := by decide +kernel
theorem dX10_sums_26 : decode cX10_sums 26 = .ok (.iadd, 1) := by decide +kernel
theorem dX10_sums_27 : decode cX10_sums 27 = .ok (.iconst 0, 1) := by decide +kernel
theorem dX10_sums_28 : decode cX10_sums 28 = .ok (.iastore, 1) := by decide +kernel
theorem dX10_sums_29 : decode cX10_sums 29 = .ok (.iinc 2 1, 3) := by decide +kernel
theorem dX10_sums_32 : decode cX10_sums 32 = .ok (.goto (-23), 3) := by decide +kernel
theorem dX10_sums_35 : decode cX10_sums 35 = .ok (.aload_n 0, 1) := by decide +kernel
theorem dX10_sums_36 : decode cX10_sums 36 = .ok (.getfield 84, 3) := by decide +kernel
theorem dX10_sums_39 : decode cX10_sums 39 = .ok (.iconst 1, 1) := by decide +kernel
theorem dX10_sums_40 : decode cX10_sums 40 = .ok (.isub, 1) := by decide +kernel
theorem dX10_sums_41 : decode cX10_sums 41 = .ok (.istore_n 2, 1) := by decide +kernel
theorem dX10_sums_42 : decode cX10_sums 42 = .ok (.iload_n 2, 1) := by decide +kernel
theorem dX10_sums_43 : decode cX10_sums 43 = .ok (.ifCond .lt 113, 3) := by decide +kernel
theorem dX10_sums_46 : decode cX10_sums 46 = .ok (.iconst 0, 1) := by decide +kernel
theorem dX10_sums_47 : decode cX10_sums 47 = .ok (.istore_n 3, 1) := by decide +kernel
theorem dX10_sums_48 : decode cX10_sums 48 = .ok (.iload_n 3, 1) := by decide +kernel
theorem dX10_sums_49 : decode cX10_sums 49 = .ok (.iload_n 1, 1) := by decide +kernel
theorem dX10_sums_50 : decode cX10_sums 50 = .ok (.if_icmp .ge 100, 3) := by decide +kernel
theorem dX10_sums_53 : decode cX10_sums 53 = .ok (.aload_n 0, 1) := by decide +kernel
theorem dX10_sums_54 : decode cX10_sums 54 = .ok (.getfield 47, 3) := by decide +kernel
theorem dX10_sums_57 : decode cX10_sums 57 = .ok (.ldc 107, 2) := by decide +kernel
theorem dX10_sums_59 : decode cX10_sums 59 = .ok (.iload_n 2, 1) := by decide +kernel
theorem dX10_sums_60 : decode cX10_sums 60 = .ok (.iconst 1, 1) := by decide +kernel
theorem dX10_sums_61 : decode cX10_sums 61 = .ok (.iadd, 1) := by decide +kernel
theorem dX10_sums_62 : decode cX10_sums 62 = .ok (.imul, 1) := by decide +kernel
theorem dX10_sums_63 : decode cX10_sums 63 = .ok (.iload_n 3, 1) := by decide +kernel
theorem dX10_sums_64 : decode cX10_sums 64 = .ok (.iadd, 1) := by decide +kernel
theorem dX10_sums_65 : decode cX10_sums 65 = .ok (.iaload, 1) := by decide +kernel
theorem dX10_sums_66 : decode cX10_sums 66 = .ok (.istore 4, 2) := by decide +kernel
theorem dX10_sums_68 : decode cX10_sums 68 = .ok (.iconst 0, 1) := by decide +kernel
theorem dX10_sums_69 : decode cX10_sums 69 = .ok (.istore 5, 2) := by decide +kernel
theorem dX10_sums_71 : decode cX10_sums 71 = .ok (.iload 5, 2) := by decide +kernel
theorem dX10_sums_73 : decode cX10_sums 73 = .ok (.aload_n 0, 1) := by decide +kernel
theorem dX10_sums_74 : decode cX10_sums 74 = .ok (.getfield 84, 3) := by decide +kernel
theorem dX10_sums_77 : decode cX10_sums 77 = .ok (.if_icmp .ge 54, 3) := by decide +kernel
theorem dX10_sums_80 : decode cX10_sums 80 = .ok (.iload_n 3, 1) := by decide +kernel
theorem dX10_sums_81 : decode cX10_sums 81 = .ok (.iload 5, 2) := by decide +kernel
theorem dX10_sums_83 : decode cX10_sums 83 = .ok (.ishr, 1) := by decide +kernel
theorem dX10_sums_84 : decode cX10_sums 84 = .ok (.iconst 1, 1) := by decide +kernel
theorem dX10_sums_85 : decode cX10_sums 85 = .ok (.iand, 1) := by decide +kernel
theorem dX10_sums_86 : decode cX10_sums 86 = .ok (.ifCond .ne 39, 3) := by decide +kernel
theorem dX10_sums_89 : decode cX10_sums 89 = .ok (.aload_n 0, 1) := by decide +kernel
theorem dX10_sums_90 : decode cX10_sums 90 = .ok (.iload_n 2, 1) := by decide +kernel
theorem dX10_sums_91 : decode cX10_sums 91 = .ok (.iload 5, 2) := by decide +kernel
theorem dX10_sums_93 : decode cX10_sums 93 = .ok (.invokevirtual 104, 3) := by decide +kernel
theorem dX10_sums_96 : decode cX10_sums 96 = .ok (.ifCond .eq 29, 3) := by decide +kernel
theorem dX10_sums_99 : decode cX10_sums 99 = .ok (.aload_n 0, 1) := by decide +kernel
theorem dX10_sums_100 : decode cX10_sums 100 = .ok (.iload_n 2, 1) := by decide +kernel
theorem dX10_sums_101 : decode cX10_sums 101 = .ok (.iload 5, 2) := by decide +kernel
theorem dX10_sums_103 : decode cX10_sums 103 = .ok (.iload_n 3, 1) := by decide +kernel
theorem dX10_sums_104 : decode cX10_sums 104 = .ok (.invokevirtual 108, 3) := by decide +kernel
theorem dX10_sums_107 : decode cX10_sums 107 = .ok (.istore 6, 2) := by decide +kernel
theorem dX10_sums_109 : decode cX10_sums 109 = .ok (.iload 6, 2) := by decide +kernel
theorem dX10_sums_111 : decode cX10_sums 111 = .ok (.iload 4, 2) := by decide +kernel
theorem dX10_sums_113 : decode cX10_sums 113 = .ok (.if_icmp .ge 8, 3) := by decide +kernel
theorem dX10_sums_116 : decode cX10_sums 116 = .ok (.iload 6, 2) := by decide +kernel
theorem dX10_sums_118 : decode cX10_sums 118 = .ok (.goto 5, 3) := by decide +kernel
theorem dX10_sums_121 : decode cX10_sums 121 = .ok (.iload 4, 2) := by decide +kernel
theorem dX10_sums_123 : decode cX10_sums 123 = .ok (.istore 4, 2) := by decide +kernel
theorem dX10_sums_125 : decode cX10_sums 125 = .ok (.iinc 5 1, 3) := by decide +kernel
theorem dX10_sums_128 : decode cX10_sums 128 = .ok (.goto (-57), 3) := by decide +kernel
theorem dX10_sums_131 : decode cX10_sums 131 = .ok (.aload_n 0, 1) := by decide +kernel
theorem dX10_sums_132 : decode cX10_sums 132 = .ok (.getfield 47, 3) := by decide +kernel
theorem dX10_sums_135 : decode cX10_sums 135 = .ok (.ldc 107, 2) := by decide +kernel
theorem dX10_sums_137 : decode cX10_sums 137 = .ok (.iload_n 2, 1) := by decide +kernel
theorem dX10_sums_138 : decode cX10_sums 138 = .ok (.imul, 1) := by decide +kernel
theorem dX10_sums_139 : decode cX10_sums 139 = .ok (.iload_n 3, 1) := by decide +kernel
theorem dX10_sums_140 : decode cX10_sums 140 = .ok (.iadd, 1) := by decide +kernel
theorem dX10_sums_141 : decode cX10_sums 141 = .ok (.iload 4, 2) := by decide +kernel
theorem dX10_sums_143 : decode cX10_sums 143 = .ok (.iastore, 1) := by decide +kernel
theorem dX10_sums_144 : decode cX10_sums 144 = .ok (.iinc 3 1, 3) := by decide +kernel
theorem dX10_sums_147 : decode cX10_sums 147 = .ok (.goto (-99), 3) := by decide +kernel
theorem dX10_sums_150 : decode cX10_sums 150 = .ok (.iinc 2 (-1), 3) := by decide +kernel
theorem dX10_sums_153 : decode cX10_sums 153 = .ok (.goto (-111), 3) := by decide +kernel
theorem dX10_sums_156 : decode cX10_sums 156 = .ok (.return_, 1) := by decide +kernel
set_option maxRecDepth 20000 in
theorem g_X10_sums_0 {G : GX} {d : Nat} {Ret : Option AV → St → Prop} {R : Nat → List AV → List AV → St → Prop} (hM : AM G wdM (d + 1) mX10_sums Ret R) (σ : St)
    (h : R 9 [vR 0, vI (bShl 1 (σ.1 0 3)), vI 0, vN, vN, vN, vN] [] σ) : R 0 [vR 0, vN, vN, vN, vN, vN, vN] [] σ := by
  refine r_iconst hM (pc' := 1) dX10_sums_0 rfl (by decide) ?_
  refine r_aload_n hM (pc' := 2) dX10_sums_1 rfl (x := 0) rfl ?_
  refine r_getI hM (pc' := 5) dX10_sums_2 rfl fl_X10_84 wm_0 rfl ?_
  refine r_ishl hM (pc' := 6) dX10_sums_5 rfl ?_
  refine r_istore_n hM (pc' := 7) dX10_sums_6 rfl (Nat.le_of_ble_eq_true rfl) rfl ?_
  show R 7 [vR 0, vI (bShl 1 (σ.1 0 3)), vN, vN, vN, vN, vN] _ _
  refine r_iconst hM (pc' := 8) dX10_sums_7 rfl (by decide) ?_
  refine r_istore_n hM (pc' := 9) dX10_sums_8 rfl (Nat.le_of_ble_eq_true rfl) rfl ?_
  show R 9 [vR 0, vI (bShl 1 (σ.1 0 3)), vI 0, vN, vN, vN, vN] _ _
  exact h
set_option maxRecDepth 20000 in
theorem g_X10_sums_9 {G : GX} {d : Nat} {Ret : Option AV → St → Prop} {R : Nat → List AV → List AV → St → Prop} (hM : AM G wdM (d + 1) mX10_sums Ret R) (v1 : Int) (v2 : Int) (σ : St)
    (h : ((v1 ≤ v2 → (r32 ((σ.1 0 3) - 1) ∧ R 42 [vR 0, vI v1, vI ((σ.1 0 3) - 1), vN, vN, vN, vN] [] σ)) ∧ (¬ v1 ≤ v2 → (r32 (65536 * (σ.1 0 3)) ∧ (r32 ((65536 * (σ.1 0 3)) + v2) ∧ ((0 ≤ ((65536 * (σ.1 0 3)) + v2) ∧ ((65536 * (σ.1 0 3)) + v2) < 1114112) ∧ (∀ τ1, τ1 = sI σ 8 (((65536 * (σ.1 0 3)) + v2)).toNat 0 → (r32 (v2 + 1) ∧ R 9 [vR 0, vI v1, vI (v2 + 1), vN, vN, vN, vN] [] τ1)))))))) : R 9 [vR 0, vI v1, vI v2, vN, vN, vN, vN] [] σ := by
  refine r_iload_n hM (pc' := 10) dX10_sums_9 rfl (x := v2) rfl ?_
  refine r_iload_n hM (pc' := 11) dX10_sums_10 rfl (x := v1) rfl ?_
  refine r_icmp_ge hM (pc' := 14) (tgt := 35) dX10_sums_11 rfl (by decide) (fun c => ?_) (fun c => ?_)
  · have h := h.1 c
    refine r_aload_n hM (pc' := 36) dX10_sums_35 rfl (x := 0) rfl ?_
    refine r_getI hM (pc' := 39) dX10_sums_36 rfl fl_X10_84 wm_0 rfl ?_
    refine r_iconst hM (pc' := 40) dX10_sums_39 rfl (by decide) ?_
    have o1 := h.1
    have h := h.2
    refine r_isub hM (pc' := 41) dX10_sums_40 rfl o1 ?_
    refine r_istore_n hM (pc' := 42) dX10_sums_41 rfl (Nat.le_of_ble_eq_true rfl) rfl ?_
    show R 42 [vR 0, vI v1, vI ((σ.1 0 3) - 1), vN, vN, vN, vN] _ _
    exact h
  · have h := h.2 c
    refine r_aload_n hM (pc' := 15) dX10_sums_14 rfl (x := 0) rfl ?_
    refine r_getR hM (pc' := 18) dX10_sums_15 rfl fl_X10_47 wm_0 rfl ?_
    refine r_ldc hM (pc' := 20) dX10_sums_18 rfl (x := 65536) k_X10_107 (by decide) ?_
    refine r_aload_n hM (pc' := 21) dX10_sums_20 rfl (x := 0) rfl ?_
    refine r_getI hM (pc' := 24) dX10_sums_21 rfl fl_X10_84 wm_0 rfl ?_
    have o2 := h.1
    have h := h.2
    refine r_imul hM (pc' := 25) dX10_sums_24 rfl o2 ?_
    refine r_iload_n hM (pc' := 26) dX10_sums_25 rfl (x := v2) rfl ?_
    have o3 := h.1
    have h := h.2
    refine r_iadd hM (pc' := 27) dX10_sums_26 rfl o3 ?_
    refine r_iconst hM (pc' := 28) dX10_sums_27 rfl (by decide) ?_
    have o4 := h.1
    have h := h.2
    refine r_iastore hM (pc' := 29) dX10_sums_28 rfl wm_8 o4 (fun τ1 e1 => ?_)
    have h := h τ1 e1
    have o5 := h.1
    have h := h.2
    refine r_iinc hM (pc' := 32) dX10_sums_29 rfl (x := v2) rfl rfl o5 ?_
    show R 32 [vR 0, vI v1, vI (v2 + 1), vN, vN, vN, vN] _ _
    refine r_goto hM (tgt := 9) dX10_sums_32 (by decide) ?_
    exact h
set_option maxRecDepth 20000 in
theorem g_X10_sums_42 {G : GX} {d : Nat} {Ret : Option AV → St → Prop} {R : Nat → List AV → List AV → St → Prop} (hM : AM G wdM (d + 1) mX10_sums Ret R) (v1 : Int) (v2 : Int) (σ : St)
    (h : ((v2 < 0 → Ret none σ) ∧ (¬ v2 < 0 → R 48 [vR 0, vI v1, vI v2, vI 0, vN, vN, vN] [] σ))) : R 42 [vR 0, vI v1, vI v2, vN, vN, vN, vN] [] σ := by
  refine r_iload_n hM (pc' := 43) dX10_sums_42 rfl (x := v2) rfl ?_
  refine r_if_lt hM (pc' := 46) (tgt := 156) dX10_sums_43 rfl (by decide) (fun c => ?_) (fun c => ?_)
  · have h := h.1 c
    exact r_return hM dX10_sums_156 rfl h
  · have h := h.2 c
    refine r_iconst hM (pc' := 47) dX10_sums_46 rfl (by decide) ?_
    refine r_istore_n hM (pc' := 48) dX10_sums_47 rfl (Nat.le_of_ble_eq_true rfl) rfl ?_
    show R 48 [vR 0, vI v1, vI v2, vI 0, vN, vN, vN] _ _
    exact h
set_option maxRecDepth 20000 in
theorem g_X10_sums_48 {G : GX} {d : Nat} {Ret : Option AV → St → Prop} {R : Nat → List AV → List AV → St → Prop} (hM : AM G wdM (d + 1) mX10_sums Ret R) (v1 : Int) (v2 : Int) (v3 : Int) (σ : St)
    (h : ((v1 ≤ v3 → (r32 (v2 + (-1)) ∧ R 42 [vR 0, vI v1, vI (v2 + (-1)), vN, vN, vN, vN] [] σ)) ∧ (¬ v1 ≤ v3 → (r32 (v2 + 1) ∧ (r32 (65536 * (v2 + 1)) ∧ (r32 ((65536 * (v2 + 1)) + v3) ∧ ((0 ≤ ((65536 * (v2 + 1)) + v3) ∧ ((65536 * (v2 + 1)) + v3) < 1114112) ∧ (∀ u1, u1 = (σ.1 8 (((65536 * (v2 + 1)) + v3)).toNat) → R 71 [vR 0, vI v1, vI v2, vI v3, vI u1, vI 0, vN] [] σ)))))))) : R 48 [vR 0, vI v1, vI v2, vI v3, vN, vN, vN] [] σ := by
  refine r_iload_n hM (pc' := 49) dX10_sums_48 rfl (x := v3) rfl ?_
  refine r_iload_n hM (pc' := 50) dX10_sums_49 rfl (x := v1) rfl ?_
  refine r_icmp_ge hM (pc' := 53) (tgt := 150) dX10_sums_50 rfl (by decide) (fun c => ?_) (fun c => ?_)
  · have h := h.1 c
    have o1 := h.1
    have h := h.2
    refine r_iinc hM (pc' := 153) dX10_sums_150 rfl (x := v2) rfl rfl o1 ?_
    show R 153 [vR 0, vI v1, vI (v2 + (-1)), vI v3, vN, vN, vN] _ _
    refine r_goto hM (tgt := 42) dX10_sums_153 (by decide) ?_
    refine r_weak hM (ls' := [vR 0, vI v1, vI (v2 + (-1)), vN, vN, vN, vN]) ⟨Or.inl rfl, Or.inl rfl, Or.inl rfl, Or.inr rfl, Or.inl rfl, Or.inl rfl, Or.inl rfl, trivial⟩ ?_
    exact h
  · have h := h.2 c
    refine r_aload_n hM (pc' := 54) dX10_sums_53 rfl (x := 0) rfl ?_
    refine r_getR hM (pc' := 57) dX10_sums_54 rfl fl_X10_47 wm_0 rfl ?_
    refine r_ldc hM (pc' := 59) dX10_sums_57 rfl (x := 65536) k_X10_107 (by decide) ?_
    refine r_iload_n hM (pc' := 60) dX10_sums_59 rfl (x := v2) rfl ?_
    refine r_iconst hM (pc' := 61) dX10_sums_60 rfl (by decide) ?_
    have o2 := h.1
    have h := h.2
    refine r_iadd hM (pc' := 62) dX10_sums_61 rfl o2 ?_
    have o3 := h.1
    have h := h.2
    refine r_imul hM (pc' := 63) dX10_sums_62 rfl o3 ?_
    refine r_iload_n hM (pc' := 64) dX10_sums_63 rfl (x := v3) rfl ?_
    have o4 := h.1
    have h := h.2
    refine r_iadd hM (pc' := 65) dX10_sums_64 rfl o4 ?_
    have o5 := h.1
    have h := h.2
    refine r_iaload hM (pc' := 66) dX10_sums_65 rfl wm_8 o5 ?_
    refine r_istoreN hM (pc' := 68) dX10_sums_66 rfl (Nat.le_of_ble_eq_true rfl) rfl (fun u1 eu1 => ?_)
    have h := h u1 eu1
    show R 68 [vR 0, vI v1, vI v2, vI v3, vI u1, vN, vN] _ _
    refine r_iconst hM (pc' := 69) dX10_sums_68 rfl (by decide) ?_
    refine r_istore hM (pc' := 71) dX10_sums_69 rfl (Nat.le_of_ble_eq_true rfl) rfl ?_
    show R 71 [vR 0, vI v1, vI v2, vI v3, vI u1, vI 0, vN] _ _
    exact h
set_option maxRecDepth 20000 in
theorem g_X10_sums_71 {G : GX} {d : Nat} {Ret : Option AV → St → Prop} {R : Nat → List AV → List AV → St → Prop} (hM : AM G wdM (d + 1) mX10_sums Ret R) (v1 : Int) (v2 : Int) (v3 : Int) (v4 : Int) (v5 : Int) (σ : St)
    (h : (((σ.1 0 3) ≤ v5 → (r32 (65536 * v2) ∧ (r32 ((65536 * v2) + v3) ∧ ((0 ≤ ((65536 * v2) + v3) ∧ ((65536 * v2) + v3) < 1114112) ∧ (∀ τ1, τ1 = sI σ 8 (((65536 * v2) + v3)).toNat v4 → (r32 (v3 + 1) ∧ R 48 [vR 0, vI v1, vI v2, vI (v3 + 1), vN, vN, vN] [] τ1)))))) ∧ (¬ (σ.1 0 3) ≤ v5 → ((¬ (bAnd (bShr v3 v5) 1) = 0 → (r32 (v5 + 1) ∧ R 71 [vR 0, vI v1, vI v2, vI v3, vI v4, vI (v5 + 1), vN] [] σ)) ∧ ((bAnd (bShr v3 v5) 1) = 0 → conI G wdM d mX10_follows [vR 0, vI v2, vI v5] σ (fun x1 σ1 => ((x1 = 0 → (r32 (v5 + 1) ∧ R 71 [vR 0, vI v1, vI v2, vI v3, vI v4, vI (v5 + 1), vN] [] σ1)) ∧ (¬ x1 = 0 → conI G wdM d mX10_with [vR 0, vI v2, vI v5, vI v3] σ1 (fun x2 σ2 => ((v4 ≤ x2 → (r32 (v5 + 1) ∧ R 71 [vR 0, vI v1, vI v2, vI v3, vI v4, vI (v5 + 1), vN] [] σ2)) ∧ (¬ v4 ≤ x2 → (r32 (v5 + 1) ∧ R 71 [vR 0, vI v1, vI v2, vI v3, vI x2, vI (v5 + 1), vN] [] σ2)))))))))))) : R 71 [vR 0, vI v1, vI v2, vI v3, vI v4, vI v5, vN] [] σ := by
  refine r_iload hM (pc' := 73) dX10_sums_71 rfl (x := v5) rfl ?_
  refine r_aload_n hM (pc' := 74) dX10_sums_73 rfl (x := 0) rfl ?_
  refine r_getI hM (pc' := 77) dX10_sums_74 rfl fl_X10_84 wm_0 rfl ?_
  refine r_icmp_ge hM (pc' := 80) (tgt := 131) dX10_sums_77 rfl (by decide) (fun c => ?_) (fun c => ?_)
  · have h := h.1 c
    refine r_aload_n hM (pc' := 132) dX10_sums_131 rfl (x := 0) rfl ?_
    refine r_getR hM (pc' := 135) dX10_sums_132 rfl fl_X10_47 wm_0 rfl ?_
    refine r_ldc hM (pc' := 137) dX10_sums_135 rfl (x := 65536) k_X10_107 (by decide) ?_
    refine r_iload_n hM (pc' := 138) dX10_sums_137 rfl (x := v2) rfl ?_
    have o1 := h.1
    have h := h.2
    refine r_imul hM (pc' := 139) dX10_sums_138 rfl o1 ?_
    refine r_iload_n hM (pc' := 140) dX10_sums_139 rfl (x := v3) rfl ?_
    have o2 := h.1
    have h := h.2
    refine r_iadd hM (pc' := 141) dX10_sums_140 rfl o2 ?_
    refine r_iload hM (pc' := 143) dX10_sums_141 rfl (x := v4) rfl ?_
    have o3 := h.1
    have h := h.2
    refine r_iastore hM (pc' := 144) dX10_sums_143 rfl wm_8 o3 (fun τ1 e1 => ?_)
    have h := h τ1 e1
    have o4 := h.1
    have h := h.2
    refine r_iinc hM (pc' := 147) dX10_sums_144 rfl (x := v3) rfl rfl o4 ?_
    show R 147 [vR 0, vI v1, vI v2, vI (v3 + 1), vI v4, vI v5, vN] _ _
    refine r_goto hM (tgt := 48) dX10_sums_147 (by decide) ?_
    refine r_weak hM (ls' := [vR 0, vI v1, vI v2, vI (v3 + 1), vN, vN, vN]) ⟨Or.inl rfl, Or.inl rfl, Or.inl rfl, Or.inl rfl, Or.inr rfl, Or.inr rfl, Or.inl rfl, trivial⟩ ?_
    exact h
  · have h := h.2 c
    refine r_iload_n hM (pc' := 81) dX10_sums_80 rfl (x := v3) rfl ?_
    refine r_iload hM (pc' := 83) dX10_sums_81 rfl (x := v5) rfl ?_
    refine r_ishr hM (pc' := 84) dX10_sums_83 rfl ?_
    refine r_iconst hM (pc' := 85) dX10_sums_84 rfl (by decide) ?_
    refine r_iand hM (pc' := 86) dX10_sums_85 rfl ?_
    refine r_if_ne hM (pc' := 89) (tgt := 125) dX10_sums_86 rfl (by decide) (fun c => ?_) (fun c => ?_)
    · have h := h.1 c
      have o5 := h.1
      have h := h.2
      refine r_iinc hM (pc' := 128) dX10_sums_125 rfl (x := v5) rfl rfl o5 ?_
      show R 128 [vR 0, vI v1, vI v2, vI v3, vI v4, vI (v5 + 1), vN] _ _
      refine r_goto hM (tgt := 71) dX10_sums_128 (by decide) ?_
      exact h
    · have h := h.2 c
      refine r_aload_n hM (pc' := 90) dX10_sums_89 rfl (x := 0) rfl ?_
      refine r_iload_n hM (pc' := 91) dX10_sums_90 rfl (x := v2) rfl ?_
      refine r_iload hM (pc' := 93) dX10_sums_91 rfl (x := v5) rfl ?_
      refine r_callVI hM (pc' := 96) [vI v2, vI v5] dX10_sums_93 rfl ml_X10_104 wm_0 rfl rfl (Nat.le_of_ble_eq_true rfl) (conI.mono h (fun x1 σ1 h => ?_))
      refine r_if_eq hM (pc' := 99) (tgt := 125) dX10_sums_96 rfl (by decide) (fun c => ?_) (fun c => ?_)
      · have h := h.1 c
        have o6 := h.1
        have h := h.2
        refine r_iinc hM (pc' := 128) dX10_sums_125 rfl (x := v5) rfl rfl o6 ?_
        show R 128 [vR 0, vI v1, vI v2, vI v3, vI v4, vI (v5 + 1), vN] _ _
        refine r_goto hM (tgt := 71) dX10_sums_128 (by decide) ?_
        exact h
      · have h := h.2 c
        refine r_aload_n hM (pc' := 100) dX10_sums_99 rfl (x := 0) rfl ?_
        refine r_iload_n hM (pc' := 101) dX10_sums_100 rfl (x := v2) rfl ?_
        refine r_iload hM (pc' := 103) dX10_sums_101 rfl (x := v5) rfl ?_
        refine r_iload_n hM (pc' := 104) dX10_sums_103 rfl (x := v3) rfl ?_
        refine r_callVI hM (pc' := 107) [vI v2, vI v5, vI v3] dX10_sums_104 rfl ml_X10_108 wm_0 rfl rfl (Nat.le_of_ble_eq_true rfl) (conI.mono h (fun x2 σ2 h => ?_))
        refine r_istore hM (pc' := 109) dX10_sums_107 rfl (Nat.le_of_ble_eq_true rfl) rfl ?_
        show R 109 [vR 0, vI v1, vI v2, vI v3, vI v4, vI v5, vI x2] _ _
        refine r_iload hM (pc' := 111) dX10_sums_109 rfl (x := x2) rfl ?_
        refine r_iload hM (pc' := 113) dX10_sums_111 rfl (x := v4) rfl ?_
        refine r_icmp_ge hM (pc' := 116) (tgt := 121) dX10_sums_113 rfl (by decide) (fun c => ?_) (fun c => ?_)
        · have h := h.1 c
          refine r_iload hM (pc' := 123) dX10_sums_121 rfl (x := v4) rfl ?_
          refine r_istore hM (pc' := 125) dX10_sums_123 rfl (Nat.le_of_ble_eq_true rfl) rfl ?_
          show R 125 [vR 0, vI v1, vI v2, vI v3, vI v4, vI v5, vI x2] _ _
          have o7 := h.1
          have h := h.2
          refine r_iinc hM (pc' := 128) dX10_sums_125 rfl (x := v5) rfl rfl o7 ?_
          show R 128 [vR 0, vI v1, vI v2, vI v3, vI v4, vI (v5 + 1), vI x2] _ _
          refine r_goto hM (tgt := 71) dX10_sums_128 (by decide) ?_
          refine r_weak hM (ls' := [vR 0, vI v1, vI v2, vI v3, vI v4, vI (v5 + 1), vN]) ⟨Or.inl rfl, Or.inl rfl, Or.inl rfl, Or.inl rfl, Or.inl rfl, Or.inl rfl, Or.inr rfl, trivial⟩ ?_
          exact h
        · have h := h.2 c
          refine r_iload hM (pc' := 118) dX10_sums_116 rfl (x := x2) rfl ?_
          refine r_goto hM (tgt := 123) dX10_sums_118 (by decide) ?_
          refine r_istore hM (pc' := 125) dX10_sums_123 rfl (Nat.le_of_ble_eq_true rfl) rfl ?_
          show R 125 [vR 0, vI v1, vI v2, vI v3, vI x2, vI v5, vI x2] _ _
          have o8 := h.1
          have h := h.2
          refine r_iinc hM (pc' := 128) dX10_sums_125 rfl (x := v5) rfl rfl o8 ?_
          show R 128 [vR 0, vI v1, vI v2, vI v3, vI x2, vI (v5 + 1), vI x2] _ _
          refine r_goto hM (tgt := 71) dX10_sums_128 (by decide) ?_
          refine r_weak hM (ls' := [vR 0, vI v1, vI v2, vI v3, vI x2, vI (v5 + 1), vN]) ⟨Or.inl rfl, Or.inl rfl, Or.inl rfl, Or.inl rfl, Or.inl rfl, Or.inl rfl, Or.inr rfl, trivial⟩ ?_
          exact h
theorem dX10_with_0 : decode cX10_with 0 = .ok (.aload_n 0, 1) := by decide +kernel
theorem dX10_with_1 : decode cX10_with 1 = .ok (.getfield 47, 3) := by decide +kernel
theorem dX10_with_4 : decode cX10_with 4 = .ok (.ldc 107, 2) := by decide +kernel
theorem dX10_with_6 : decode cX10_with 6 = .ok (.iload_n 1, 1) := by decide +kernel
theorem dX10_with_7 : decode cX10_with 7 = .ok (.iconst 1, 1) := by decide +kernel
theorem dX10_with_8 : decode cX10_with 8 = .ok (.iadd, 1) := by decide +kernel
theorem dX10_with_9 : decode cX10_with 9 = .ok (.imul, 1) := by decide +kernel
theorem dX10_with_10 : decode cX10_with 10 = .ok (.iload_n 3, 1) := by decide +kernel
theorem dX10_with_11 : decode cX10_with 11 = .ok (.iconst 1, 1) := by decide +kernel
theorem dX10_with_12 : decode cX10_with 12 = .ok (.iload_n 2, 1) := by decide +kernel
theorem dX10_with_13 : decode cX10_with 13 = .ok (.ishl, 1) := by decide +kernel
theorem dX10_with_14 : decode cX10_with 14 = .ok (.ior, 1) := by decide +kernel
theorem dX10_with_15 : decode cX10_with 15 = .ok (.iadd, 1) := by decide +kernel
theorem dX10_with_16 : decode cX10_with 16 = .ok (.iaload, 1) := by decide +kernel
theorem dX10_with_17 : decode cX10_with 17 = .ok (.aload_n 0, 1) := by decide +kernel
theorem dX10_with_18 : decode cX10_with 18 = .ok (.getfield 13, 3) := by decide +kernel
theorem dX10_with_21 : decode cX10_with 21 = .ok (.bipush 12, 2) := by decide +kernel
theorem dX10_with_23 : decode cX10_with 23 = .ok (.aload_n 0, 1) := by decide +kernel
theorem dX10_with_24 : decode cX10_with 24 = .ok (.getfield 23, 3) := by decide +kernel
theorem dX10_with_27 : decode cX10_with 27 = .ok (.iload_n 1, 1) := by decide +kernel
theorem dX10_with_28 : decode cX10_with 28 = .ok (.iaload, 1) := by decide +kernel
theorem dX10_with_29 : decode cX10_with 29 = .ok (.imul, 1) := by decide +kernel
theorem dX10_with_30 : decode cX10_with 30 = .ok (.aload_n 0, 1) := by decide +kernel
theorem dX10_with_31 : decode cX10_with 31 = .ok (.getfield 20, 3) := by decide +kernel
theorem dX10_with_34 : decode cX10_with 34 = .ok (.iload_n 2, 1) := by decide +kernel
theorem dX10_with_35 : decode cX10_with 35 = .ok (.iaload, 1) := by decide +kernel
theorem dX10_with_36 : decode cX10_with 36 = .ok (.iadd, 1) := by decide +kernel
theorem dX10_with_37 : decode cX10_with 37 = .ok (.iaload, 1) := by decide +kernel
theorem dX10_with_38 : decode cX10_with 38 = .ok (.iadd, 1) := by decide +kernel
theorem dX10_with_39 : decode cX10_with 39 = .ok (.ldc 112, 2) := by decide +kernel
theorem dX10_with_41 : decode cX10_with 41 = .ok (.isub, 1) := by decide +kernel
theorem dX10_with_42 : decode cX10_with 42 = .ok (.ireturn, 1) := by decide +kernel
set_option maxRecDepth 20000 in
theorem g_X10_with_0 {G : GX} {d : Nat} {Ret : Option AV → St → Prop} {R : Nat → List AV → List AV → St → Prop} (hM : AM G wdM d mX10_with Ret R) (v1 : Int) (v2 : Int) (v3 : Int) (σ : St)
    (h : (r32 (v1 + 1) ∧ (r32 (65536 * (v1 + 1)) ∧ (r32 ((65536 * (v1 + 1)) + (bOr v3 (bShl 1 v2))) ∧ ((0 ≤ ((65536 * (v1 + 1)) + (bOr v3 (bShl 1 v2))) ∧ ((65536 * (v1 + 1)) + (bOr v3 (bShl 1 v2))) < 1114112) ∧ ((0 ≤ v1 ∧ v1 < 16) ∧ (r32 (12 * (σ.1 5 (v1).toNat)) ∧ ((0 ≤ v2 ∧ v2 < 16) ∧ (r32 ((12 * (σ.1 5 (v1).toNat)) + (σ.1 4 (v2).toNat)) ∧ ((0 ≤ ((12 * (σ.1 5 (v1).toNat)) + (σ.1 4 (v2).toNat)) ∧ ((12 * (σ.1 5 (v1).toNat)) + (σ.1 4 (v2).toNat)) < 144) ∧ (r32 ((σ.1 8 (((65536 * (v1 + 1)) + (bOr v3 (bShl 1 v2)))).toNat) + (σ.1 2 (((12 * (σ.1 5 (v1).toNat)) + (σ.1 4 (v2).toNat))).toNat)) ∧ (r32 (((σ.1 8 (((65536 * (v1 + 1)) + (bOr v3 (bShl 1 v2)))).toNat) + (σ.1 2 (((12 * (σ.1 5 (v1).toNat)) + (σ.1 4 (v2).toNat))).toNat)) - 100000) ∧ Ret (some (vI (((σ.1 8 (((65536 * (v1 + 1)) + (bOr v3 (bShl 1 v2)))).toNat) + (σ.1 2 (((12 * (σ.1 5 (v1).toNat)) + (σ.1 4 (v2).toNat))).toNat)) - 100000))) σ)))))))))))) : R 0 [vR 0, vI v1, vI v2, vI v3] [] σ := by
  refine r_aload_n hM (pc' := 1) dX10_with_0 rfl (x := 0) rfl ?_
  refine r_getR hM (pc' := 4) dX10_with_1 rfl fl_X10_47 wm_0 rfl ?_
  refine r_ldc hM (pc' := 6) dX10_with_4 rfl (x := 65536) k_X10_107 (by decide) ?_
  refine r_iload_n hM (pc' := 7) dX10_with_6 rfl (x := v1) rfl ?_
  refine r_iconst hM (pc' := 8) dX10_with_7 rfl (by decide) ?_
  have o1 := h.1
  have h := h.2
  refine r_iadd hM (pc' := 9) dX10_with_8 rfl o1 ?_
  have o2 := h.1
  have h := h.2
  refine r_imul hM (pc' := 10) dX10_with_9 rfl o2 ?_
  refine r_iload_n hM (pc' := 11) dX10_with_10 rfl (x := v3) rfl ?_
  refine r_iconst hM (pc' := 12) dX10_with_11 rfl (by decide) ?_
  refine r_iload_n hM (pc' := 13) dX10_with_12 rfl (x := v2) rfl ?_
  refine r_ishl hM (pc' := 14) dX10_with_13 rfl ?_
  refine r_ior hM (pc' := 15) dX10_with_14 rfl ?_
  have o3 := h.1
  have h := h.2
  refine r_iadd hM (pc' := 16) dX10_with_15 rfl o3 ?_
  have o4 := h.1
  have h := h.2
  refine r_iaload hM (pc' := 17) dX10_with_16 rfl wm_8 o4 ?_
  refine r_aload_n hM (pc' := 18) dX10_with_17 rfl (x := 0) rfl ?_
  refine r_getR hM (pc' := 21) dX10_with_18 rfl fl_X10_13 wm_0 rfl ?_
  refine r_bipush hM (pc' := 23) dX10_with_21 rfl (by decide) (by decide) ?_
  refine r_aload_n hM (pc' := 24) dX10_with_23 rfl (x := 0) rfl ?_
  refine r_getR hM (pc' := 27) dX10_with_24 rfl fl_X10_23 wm_0 rfl ?_
  refine r_iload_n hM (pc' := 28) dX10_with_27 rfl (x := v1) rfl ?_
  have o5 := h.1
  have h := h.2
  refine r_iaload hM (pc' := 29) dX10_with_28 rfl wm_5 o5 ?_
  have o6 := h.1
  have h := h.2
  refine r_imul hM (pc' := 30) dX10_with_29 rfl o6 ?_
  refine r_aload_n hM (pc' := 31) dX10_with_30 rfl (x := 0) rfl ?_
  refine r_getR hM (pc' := 34) dX10_with_31 rfl fl_X10_20 wm_0 rfl ?_
  refine r_iload_n hM (pc' := 35) dX10_with_34 rfl (x := v2) rfl ?_
  have o7 := h.1
  have h := h.2
  refine r_iaload hM (pc' := 36) dX10_with_35 rfl wm_4 o7 ?_
  have o8 := h.1
  have h := h.2
  refine r_iadd hM (pc' := 37) dX10_with_36 rfl o8 ?_
  have o9 := h.1
  have h := h.2
  refine r_iaload hM (pc' := 38) dX10_with_37 rfl wm_2 o9 ?_
  have o10 := h.1
  have h := h.2
  refine r_iadd hM (pc' := 39) dX10_with_38 rfl o10 ?_
  refine r_ldc hM (pc' := 41) dX10_with_39 rfl (x := 100000) k_X10_112 (by decide) ?_
  have o11 := h.1
  have h := h.2
  refine r_isub hM (pc' := 42) dX10_with_41 rfl o11 ?_
  exact r_ireturn hM dX10_with_42 rfl h
theorem dX10_plans_0 : decode cX10_plans 0 = .ok (.aload_n 0, 1) := by decide +kernel
theorem dX10_plans_1 : decode cX10_plans 1 = .ok (.getfield 91, 3) := by decide +kernel
theorem dX10_plans_4 : decode cX10_plans 4 = .ok (.ifCond .eq 4, 3) := by decide +kernel
theorem dX10_plans_7 : decode cX10_plans 7 = .ok (.return_, 1) := by decide +kernel
theorem dX10_plans_8 : decode cX10_plans 8 = .ok (.aload_n 0, 1) := by decide +kernel
theorem dX10_plans_9 : decode cX10_plans 9 = .ok (.iconst 1, 1) := by decide +kernel
theorem dX10_plans_10 : decode cX10_plans 10 = .ok (.putfield 91, 3) := by decide +kernel
theorem dX10_plans_13 : decode cX10_plans 13 = .ok (.aload_n 0, 1) := by decide +kernel
theorem dX10_plans_14 : decode cX10_plans 14 = .ok (.invokevirtual 113, 3) := by decide +kernel
theorem dX10_plans_17 : decode cX10_plans 17 = .ok (.iconst 0, 1) := by decide +kernel
theorem dX10_plans_18 : decode cX10_plans 18 = .ok (.istore_n 1, 1) := by decide +kernel
theorem dX10_plans_19 : decode cX10_plans 19 = .ok (.iconst 0, 1) := by decide +kernel
theorem dX10_plans_20 : decode cX10_plans 20 = .ok (.istore_n 2, 1) := by decide +kernel
theorem dX10_plans_21 : decode cX10_plans 21 = .ok (.iload_n 2, 1) := by decide +kernel
theorem dX10_plans_22 : decode cX10_plans 22 = .ok (.aload_n 0, 1) := by decide +kernel
theorem dX10_plans_23 : decode cX10_plans 23 = .ok (.getfield 84, 3) := by decide +kernel
theorem dX10_plans_26 : decode cX10_plans 26 = .ok (.if_icmp .ge 110, 3) := by decide +kernel
theorem dX10_plans_29 : decode cX10_plans 29 = .ok (.aload_n 0, 1) := by decide +kernel
theorem dX10_plans_30 : decode cX10_plans 30 = .ok (.getfield 50, 3) := by decide +kernel
theorem dX10_plans_33 : decode cX10_plans 33 = .ok (.iload_n 2, 1) := by decide +kernel
theorem dX10_plans_34 : decode cX10_plans 34 = .ok (.iconst (-1), 1) := by decide +kernel
theorem dX10_plans_35 : decode cX10_plans 35 = .ok (.iastore, 1) := by decide +kernel
theorem dX10_plans_36 : decode cX10_plans 36 = .ok (.iconst 0, 1) := by decide +kernel
theorem dX10_plans_37 : decode cX10_plans 37 = .ok (.istore_n 3, 1) := by decide +kernel
theorem dX10_plans_38 : decode cX10_plans 38 = .ok (.iload_n 3, 1) := by decide +kernel
theorem dX10_plans_39 : decode cX10_plans 39 = .ok (.aload_n 0, 1) := by decide +kernel
theorem dX10_plans_40 : decode cX10_plans 40 = .ok (.getfield 84, 3) := by decide +kernel
theorem dX10_plans_43 : decode cX10_plans 43 = .ok (.if_icmp .ge 63, 3) := by decide +kernel
theorem dX10_plans_46 : decode cX10_plans 46 = .ok (.aload_n 0, 1) := by decide +kernel
theorem dX10_plans_47 : decode cX10_plans 47 = .ok (.getfield 50, 3) := by decide +kernel
theorem dX10_plans_50 : decode cX10_plans 50 = .ok (.iload_n 2, 1) := by decide +kernel
theorem dX10_plans_51 : decode cX10_plans 51 = .ok (.iaload, 1) := by decide +kernel
theorem dX10_plans_52 : decode cX10_plans 52 = .ok (.ifCond .ge 54, 3) := by decide +kernel
theorem dX10_plans_55 : decode cX10_plans 55 = .ok (.iload_n 1, 1) := by decide +kernel
theorem dX10_plans_56 : decode cX10_plans 56 = .ok (.iload_n 3, 1) := by decide +kernel
theorem dX10_plans_57 : decode cX10_plans 57 = .ok (.ishr, 1) := by decide +kernel
theorem dX10_plans_58 : decode cX10_plans 58 = .ok (.iconst 1, 1) := by decide +kernel
theorem dX10_plans_59 : decode cX10_plans 59 = .ok (.iand, 1) := by decide +kernel
theorem dX10_plans_60 : decode cX10_plans 60 = .ok (.ifCond .ne 40, 3) := by decide +kernel
theorem dX10_plans_63 : decode cX10_plans 63 = .ok (.aload_n 0, 1) := by decide +kernel
theorem dX10_plans_64 : decode cX10_plans 64 = .ok (.iload_n 2, 1) := by decide +kernel
theorem dX10_plans_65 : decode cX10_plans 65 = .ok (.iload_n 3, 1) := by decide +kernel
theorem dX10_plans_66 : decode cX10_plans 66 = .ok (.invokevirtual 104, 3) := by decide +kernel
theorem dX10_plans_69 : decode cX10_plans 69 = .ok (.ifCond .eq 31, 3) := by decide +kernel
theorem dX10_plans_72 : decode cX10_plans 72 = .ok (.aload_n 0, 1) := by decide +kernel
theorem dX10_plans_73 : decode cX10_plans 73 = .ok (.iload_n 2, 1) := by decide +kernel
theorem dX10_plans_74 : decode cX10_plans 74 = .ok (.iload_n 3, 1) := by decide +kernel
theorem dX10_plans_75 : decode cX10_plans 75 = .ok (.iload_n 1, 1) := by decide +kernel
theorem dX10_plans_76 : decode cX10_plans 76 = .ok (.invokevirtual 108, 3) := by decide +kernel
theorem dX10_plans_79 : decode cX10_plans 79 = .ok (.aload_n 0, 1) := by decide +kernel
theorem dX10_plans_80 : decode cX10_plans 80 = .ok (.getfield 47, 3) := by decide +kernel
theorem dX10_plans_83 : decode cX10_plans 83 = .ok (.ldc 107, 2) := by decide +kernel
theorem dX10_plans_85 : decode cX10_plans 85 = .ok (.iload_n 2, 1) := by decide +kernel
theorem dX10_plans_86 : decode cX10_plans 86 = .ok (.imul, 1) := by decide +kernel
theorem dX10_plans_87 : decode cX10_plans 87 = .ok (.iload_n 1, 1) := by decide +kernel
theorem dX10_plans_88 : decode cX10_plans 88 = .ok (.iadd, 1) := by decide +kernel
theorem dX10_plans_89 : decode cX10_plans 89 = .ok (.iaload, 1) := by decide +kernel
theorem dX10_plans_90 : decode cX10_plans 90 = .ok (.if_icmp .ne 10, 3) := by decide +kernel
theorem dX10_plans_93 : decode cX10_plans 93 = .ok (.aload_n 0, 1) := by decide +kernel
theorem dX10_plans_94 : decode cX10_plans 94 = .ok (.getfield 50, 3) := by decide +kernel
theorem dX10_plans_97 : decode cX10_plans 97 = .ok (.iload_n 2, 1) := by decide +kernel
theorem dX10_plans_98 : decode cX10_plans 98 = .ok (.iload_n 3, 1) := by decide +kernel
theorem dX10_plans_99 : decode cX10_plans 99 = .ok (.iastore, 1) := by decide +kernel
theorem dX10_plans_100 : decode cX10_plans 100 = .ok (.iinc 3 1, 3) := by decide +kernel
theorem dX10_plans_103 : decode cX10_plans 103 = .ok (.goto (-65), 3) := by decide +kernel
theorem dX10_plans_106 : decode cX10_plans 106 = .ok (.aload_n 0, 1) := by decide +kernel
theorem dX10_plans_107 : decode cX10_plans 107 = .ok (.getfield 50, 3) := by decide +kernel
theorem dX10_plans_110 : decode cX10_plans 110 = .ok (.iload_n 2, 1) := by decide +kernel
theorem dX10_plans_111 : decode cX10_plans 111 = .ok (.iaload, 1) := by decide +kernel
theorem dX10_plans_112 : decode cX10_plans 112 = .ok (.ifCond .ge 7, 3) := by decide +kernel
theorem dX10_plans_115 : decode cX10_plans 115 = .ok (.iload_n 1, 1) := by decide +kernel
theorem dX10_plans_116 : decode cX10_plans 116 = .ok (.goto 13, 3) := by decide +kernel
theorem dX10_plans_119 : decode cX10_plans 119 = .ok (.iload_n 1, 1) := by decide +kernel
theorem dX10_plans_120 : decode cX10_plans 120 = .ok (.iconst 1, 1) := by decide +kernel
theorem dX10_plans_121 : decode cX10_plans 121 = .ok (.aload_n 0, 1) := by decide +kernel
theorem dX10_plans_122 : decode cX10_plans 122 = .ok (.getfield 50, 3) := by decide +kernel
theorem dX10_plans_125 : decode cX10_plans 125 = .ok (.iload_n 2, 1) := by decide +kernel
theorem dX10_plans_126 : decode cX10_plans 126 = .ok (.iaload, 1) := by decide +kernel
theorem dX10_plans_127 : decode cX10_plans 127 = .ok (.ishl, 1) := by decide +kernel
theorem dX10_plans_128 : decode cX10_plans 128 = .ok (.ior, 1) := by decide +kernel
theorem dX10_plans_129 : decode cX10_plans 129 = .ok (.istore_n 1, 1) := by decide +kernel
theorem dX10_plans_130 : decode cX10_plans 130 = .ok (.iinc 2 1, 3) := by decide +kernel
theorem dX10_plans_133 : decode cX10_plans 133 = .ok (.goto (-112), 3) := by decide +kernel
theorem dX10_plans_136 : decode cX10_plans 136 = .ok (.aload_n 0, 1) := by decide +kernel
theorem dX10_plans_137 : decode cX10_plans 137 = .ok (.iconst 0, 1) := by decide +kernel
theorem dX10_plans_138 : decode cX10_plans 138 = .ok (.putfield 116, 3) := by decide +kernel
theorem dX10_plans_141 : decode cX10_plans 141 = .ok (.aload_n 0, 1) := by decide +kernel
theorem dX10_plans_142 : decode cX10_plans 142 = .ok (.iconst 0, 1) := by decide +kernel
theorem dX10_plans_143 : decode cX10_plans 143 = .ok (.putfield 119, 3) := by decide +kernel
theorem dX10_plans_146 : decode cX10_plans 146 = .ok (.iconst 0, 1) := by decide +kernel
theorem dX10_plans_147 : decode cX10_plans 147 = .ok (.istore_n 2, 1) := by decide +kernel
theorem dX10_plans_148 : decode cX10_plans 148 = .ok (.iload_n 2, 1) := by decide +kernel
theorem dX10_plans_149 : decode cX10_plans 149 = .ok (.aload_n 0, 1) := by decide +kernel
theorem dX10_plans_150 : decode cX10_plans 150 = .ok (.getfield 84, 3) := by decide +kernel
theorem dX10_plans_153 : decode cX10_plans 153 = .ok (.if_icmp .ge 22, 3) := by decide +kernel
theorem dX10_plans_156 : decode cX10_plans 156 = .ok (.iload_n 1, 1) := by decide +kernel
theorem dX10_plans_157 : decode cX10_plans 157 = .ok (.iload_n 2, 1) := by decide +kernel
theorem dX10_plans_158 : decode cX10_plans 158 = .ok (.ishr, 1) := by decide +kernel
theorem dX10_plans_159 : decode cX10_plans 159 = .ok (.iconst 1, 1) := by decide +kernel
theorem dX10_plans_160 : decode cX10_plans 160 = .ok (.iand, 1) := by decide +kernel
theorem dX10_plans_161 : decode cX10_plans 161 = .ok (.ifCond .ne 8, 3) := by decide +kernel
theorem dX10_plans_164 : decode cX10_plans 164 = .ok (.aload_n 0, 1) := by decide +kernel
theorem dX10_plans_165 : decode cX10_plans 165 = .ok (.iload_n 2, 1) := by decide +kernel
theorem dX10_plans_166 : decode cX10_plans 166 = .ok (.invokevirtual 122, 3) := by decide +kernel
theorem dX10_plans_169 : decode cX10_plans 169 = .ok (.iinc 2 1, 3) := by decide +kernel
theorem dX10_plans_172 : decode cX10_plans 172 = .ok (.goto (-24), 3) := by decide +kernel
theorem dX10_plans_175 : decode cX10_plans 175 = .ok (.return_, 1) := by decide +kernel
set_option maxRecDepth 20000 in
theorem g_X10_plans_0 {G : GX} {d : Nat} {Ret : Option AV → St → Prop} {R : Nat → List AV → List AV → St → Prop} (hM : AM G wdM (d + 1) mX10_plans Ret R) (σ : St)
    (h : (((σ.1 0 13) = 0 → (∀ τ1, τ1 = sI σ 0 13 1 → conV G wdM d mX10_sums [vR 0] τ1 (fun σ1 => R 21 [vR 0, vI 0, vI 0, vN] [] σ1))) ∧ (¬ (σ.1 0 13) = 0 → Ret none σ))) : R 0 [vR 0, vN, vN, vN] [] σ := by
  refine r_aload_n hM (pc' := 1) dX10_plans_0 rfl (x := 0) rfl ?_
  refine r_getI hM (pc' := 4) dX10_plans_1 rfl fl_X10_91 wm_0 rfl ?_
  refine r_if_eq hM (pc' := 7) (tgt := 8) dX10_plans_4 rfl (by decide) (fun c => ?_) (fun c => ?_)
  · have h := h.1 c
    refine r_aload_n hM (pc' := 9) dX10_plans_8 rfl (x := 0) rfl ?_
    refine r_iconst hM (pc' := 10) dX10_plans_9 rfl (by decide) ?_
    refine r_putZ hM (pc' := 13) dX10_plans_10 rfl fp_X10_91 wm_0 rfl (by decide) (fun τ1 e1 => ?_)
    have h := h τ1 e1
    refine r_aload_n hM (pc' := 14) dX10_plans_13 rfl (x := 0) rfl ?_
    refine r_callVV hM (pc' := 17) [] dX10_plans_14 rfl ml_X10_113 wm_0 rfl rfl (Nat.le_of_ble_eq_true rfl) (conV.mono h (fun σ1 h => ?_))
    refine r_iconst hM (pc' := 18) dX10_plans_17 rfl (by decide) ?_
    refine r_istore_n hM (pc' := 19) dX10_plans_18 rfl (Nat.le_of_ble_eq_true rfl) rfl ?_
    show R 19 [vR 0, vI 0, vN, vN] _ _
    refine r_iconst hM (pc' := 20) dX10_plans_19 rfl (by decide) ?_
    refine r_istore_n hM (pc' := 21) dX10_plans_20 rfl (Nat.le_of_ble_eq_true rfl) rfl ?_
    show R 21 [vR 0, vI 0, vI 0, vN] _ _
    exact h
  · have h := h.2 c
    exact r_return hM dX10_plans_7 rfl h
set_option maxRecDepth 20000 in
theorem g_X10_plans_21 {G : GX} {d : Nat} {Ret : Option AV → St → Prop} {R : Nat → List AV → List AV → St → Prop} (hM : AM G wdM (d + 1) mX10_plans Ret R) (v1 : Int) (v2 : Int) (σ : St)
    (h : (((σ.1 0 3) ≤ v2 → (∀ τ1, τ1 = sI σ 0 15 0 → (∀ τ2, τ2 = sI τ1 0 18 0 → R 148 [vR 0, vI v1, vI 0, vN] [] τ2))) ∧ (¬ (σ.1 0 3) ≤ v2 → ((0 ≤ v2 ∧ v2 < 16) ∧ (∀ τ3, τ3 = sI σ 9 (v2).toNat (-1) → R 38 [vR 0, vI v1, vI v2, vI 0] [] τ3))))) : R 21 [vR 0, vI v1, vI v2, vN] [] σ := by
  refine r_iload_n hM (pc' := 22) dX10_plans_21 rfl (x := v2) rfl ?_
  refine r_aload_n hM (pc' := 23) dX10_plans_22 rfl (x := 0) rfl ?_
  refine r_getI hM (pc' := 26) dX10_plans_23 rfl fl_X10_84 wm_0 rfl ?_
  refine r_icmp_ge hM (pc' := 29) (tgt := 136) dX10_plans_26 rfl (by decide) (fun c => ?_) (fun c => ?_)
  · have h := h.1 c
    refine r_aload_n hM (pc' := 137) dX10_plans_136 rfl (x := 0) rfl ?_
    refine r_iconst hM (pc' := 138) dX10_plans_137 rfl (by decide) ?_
    refine r_putI hM (pc' := 141) dX10_plans_138 rfl fp_X10_116 wm_0 rfl (fun τ1 e1 => ?_)
    have h := h τ1 e1
    refine r_aload_n hM (pc' := 142) dX10_plans_141 rfl (x := 0) rfl ?_
    refine r_iconst hM (pc' := 143) dX10_plans_142 rfl (by decide) ?_
    refine r_putI hM (pc' := 146) dX10_plans_143 rfl fp_X10_119 wm_0 rfl (fun τ2 e2 => ?_)
    have h := h τ2 e2
    refine r_iconst hM (pc' := 147) dX10_plans_146 rfl (by decide) ?_
    refine r_istore_n hM (pc' := 148) dX10_plans_147 rfl (Nat.le_of_ble_eq_true rfl) rfl ?_
    show R 148 [vR 0, vI v1, vI 0, vN] _ _
    exact h
  · have h := h.2 c
    refine r_aload_n hM (pc' := 30) dX10_plans_29 rfl (x := 0) rfl ?_
    refine r_getR hM (pc' := 33) dX10_plans_30 rfl fl_X10_50 wm_0 rfl ?_
    refine r_iload_n hM (pc' := 34) dX10_plans_33 rfl (x := v2) rfl ?_
    refine r_iconst hM (pc' := 35) dX10_plans_34 rfl (by decide) ?_
    have o1 := h.1
    have h := h.2
    refine r_iastore hM (pc' := 36) dX10_plans_35 rfl wm_9 o1 (fun τ3 e3 => ?_)
    have h := h τ3 e3
    refine r_iconst hM (pc' := 37) dX10_plans_36 rfl (by decide) ?_
    refine r_istore_n hM (pc' := 38) dX10_plans_37 rfl (Nat.le_of_ble_eq_true rfl) rfl ?_
    show R 38 [vR 0, vI v1, vI v2, vI 0] _ _
    exact h
set_option maxRecDepth 20000 in
theorem g_X10_plans_38 {G : GX} {d : Nat} {Ret : Option AV → St → Prop} {R : Nat → List AV → List AV → St → Prop} (hM : AM G wdM (d + 1) mX10_plans Ret R) (v1 : Int) (v2 : Int) (v3 : Int) (σ : St)
    (h : (((σ.1 0 3) ≤ v3 → R 106 [vR 0, vI v1, vI v2, vN] [] σ) ∧ (¬ (σ.1 0 3) ≤ v3 → ((0 ≤ v2 ∧ v2 < 16) ∧ ((0 ≤ (σ.1 9 (v2).toNat) → R 106 [vR 0, vI v1, vI v2, vN] [] σ) ∧ (¬ 0 ≤ (σ.1 9 (v2).toNat) → ((¬ (bAnd (bShr v1 v3) 1) = 0 → (r32 (v3 + 1) ∧ R 38 [vR 0, vI v1, vI v2, vI (v3 + 1)] [] σ)) ∧ ((bAnd (bShr v1 v3) 1) = 0 → conI G wdM d mX10_follows [vR 0, vI v2, vI v3] σ (fun x1 σ1 => ((x1 = 0 → (r32 (v3 + 1) ∧ R 38 [vR 0, vI v1, vI v2, vI (v3 + 1)] [] σ1)) ∧ (¬ x1 = 0 → conI G wdM d mX10_with [vR 0, vI v2, vI v3, vI v1] σ1 (fun x2 σ2 => (r32 (65536 * v2) ∧ (r32 ((65536 * v2) + v1) ∧ ((0 ≤ ((65536 * v2) + v1) ∧ ((65536 * v2) + v1) < 1114112) ∧ ((¬ x2 = (σ2.1 8 (((65536 * v2) + v1)).toNat) → (r32 (v3 + 1) ∧ R 38 [vR 0, vI v1, vI v2, vI (v3 + 1)] [] σ2)) ∧ (x2 = (σ2.1 8 (((65536 * v2) + v1)).toNat) → (∀ τ1, τ1 = sI σ2 9 (v2).toNat v3 → (r32 (v3 + 1) ∧ R 38 [vR 0, vI v1, vI v2, vI (v3 + 1)] [] τ1))))))))))))))))))) : R 38 [vR 0, vI v1, vI v2, vI v3] [] σ := by
  refine r_iload_n hM (pc' := 39) dX10_plans_38 rfl (x := v3) rfl ?_
  refine r_aload_n hM (pc' := 40) dX10_plans_39 rfl (x := 0) rfl ?_
  refine r_getI hM (pc' := 43) dX10_plans_40 rfl fl_X10_84 wm_0 rfl ?_
  refine r_icmp_ge hM (pc' := 46) (tgt := 106) dX10_plans_43 rfl (by decide) (fun c => ?_) (fun c => ?_)
  · have h := h.1 c
    refine r_weak hM (ls' := [vR 0, vI v1, vI v2, vN]) ⟨Or.inl rfl, Or.inl rfl, Or.inl rfl, Or.inr rfl, trivial⟩ ?_
    exact h
  · have h := h.2 c
    refine r_aload_n hM (pc' := 47) dX10_plans_46 rfl (x := 0) rfl ?_
    refine r_getR hM (pc' := 50) dX10_plans_47 rfl fl_X10_50 wm_0 rfl ?_
    refine r_iload_n hM (pc' := 51) dX10_plans_50 rfl (x := v2) rfl ?_
    have o1 := h.1
    have h := h.2
    refine r_iaload hM (pc' := 52) dX10_plans_51 rfl wm_9 o1 ?_
    refine r_if_ge hM (pc' := 55) (tgt := 106) dX10_plans_52 rfl (by decide) (fun c => ?_) (fun c => ?_)
    · have h := h.1 c
      refine r_weak hM (ls' := [vR 0, vI v1, vI v2, vN]) ⟨Or.inl rfl, Or.inl rfl, Or.inl rfl, Or.inr rfl, trivial⟩ ?_
      exact h
    · have h := h.2 c
      refine r_iload_n hM (pc' := 56) dX10_plans_55 rfl (x := v1) rfl ?_
      refine r_iload_n hM (pc' := 57) dX10_plans_56 rfl (x := v3) rfl ?_
      refine r_ishr hM (pc' := 58) dX10_plans_57 rfl ?_
      refine r_iconst hM (pc' := 59) dX10_plans_58 rfl (by decide) ?_
      refine r_iand hM (pc' := 60) dX10_plans_59 rfl ?_
      refine r_if_ne hM (pc' := 63) (tgt := 100) dX10_plans_60 rfl (by decide) (fun c => ?_) (fun c => ?_)
      · have h := h.1 c
        have o2 := h.1
        have h := h.2
        refine r_iinc hM (pc' := 103) dX10_plans_100 rfl (x := v3) rfl rfl o2 ?_
        show R 103 [vR 0, vI v1, vI v2, vI (v3 + 1)] _ _
        refine r_goto hM (tgt := 38) dX10_plans_103 (by decide) ?_
        exact h
      · have h := h.2 c
        refine r_aload_n hM (pc' := 64) dX10_plans_63 rfl (x := 0) rfl ?_
        refine r_iload_n hM (pc' := 65) dX10_plans_64 rfl (x := v2) rfl ?_
        refine r_iload_n hM (pc' := 66) dX10_plans_65 rfl (x := v3) rfl ?_
        refine r_callVI hM (pc' := 69) [vI v2, vI v3] dX10_plans_66 rfl ml_X10_104 wm_0 rfl rfl (Nat.le_of_ble_eq_true rfl) (conI.mono h (fun x1 σ1 h => ?_))
        refine r_if_eq hM (pc' := 72) (tgt := 100) dX10_plans_69 rfl (by decide) (fun c => ?_) (fun c => ?_)
        · have h := h.1 c
          have o3 := h.1
          have h := h.2
          refine r_iinc hM (pc' := 103) dX10_plans_100 rfl (x := v3) rfl rfl o3 ?_
          show R 103 [vR 0, vI v1, vI v2, vI (v3 + 1)] _ _
          refine r_goto hM (tgt := 38) dX10_plans_103 (by decide) ?_
          exact h
        · have h := h.2 c
          refine r_aload_n hM (pc' := 73) dX10_plans_72 rfl (x := 0) rfl ?_
          refine r_iload_n hM (pc' := 74) dX10_plans_73 rfl (x := v2) rfl ?_
          refine r_iload_n hM (pc' := 75) dX10_plans_74 rfl (x := v3) rfl ?_
          refine r_iload_n hM (pc' := 76) dX10_plans_75 rfl (x := v1) rfl ?_
          refine r_callVI hM (pc' := 79) [vI v2, vI v3, vI v1] dX10_plans_76 rfl ml_X10_108 wm_0 rfl rfl (Nat.le_of_ble_eq_true rfl) (conI.mono h (fun x2 σ2 h => ?_))
          refine r_aload_n hM (pc' := 80) dX10_plans_79 rfl (x := 0) rfl ?_
          refine r_getR hM (pc' := 83) dX10_plans_80 rfl fl_X10_47 wm_0 rfl ?_
          refine r_ldc hM (pc' := 85) dX10_plans_83 rfl (x := 65536) k_X10_107 (by decide) ?_
          refine r_iload_n hM (pc' := 86) dX10_plans_85 rfl (x := v2) rfl ?_
          have o4 := h.1
          have h := h.2
          refine r_imul hM (pc' := 87) dX10_plans_86 rfl o4 ?_
          refine r_iload_n hM (pc' := 88) dX10_plans_87 rfl (x := v1) rfl ?_
          have o5 := h.1
          have h := h.2
          refine r_iadd hM (pc' := 89) dX10_plans_88 rfl o5 ?_
          have o6 := h.1
          have h := h.2
          refine r_iaload hM (pc' := 90) dX10_plans_89 rfl wm_8 o6 ?_
          refine r_icmp_ne hM (pc' := 93) (tgt := 100) dX10_plans_90 rfl (by decide) (fun c => ?_) (fun c => ?_)
          · have h := h.1 c
            have o7 := h.1
            have h := h.2
            refine r_iinc hM (pc' := 103) dX10_plans_100 rfl (x := v3) rfl rfl o7 ?_
            show R 103 [vR 0, vI v1, vI v2, vI (v3 + 1)] _ _
            refine r_goto hM (tgt := 38) dX10_plans_103 (by decide) ?_
            exact h
          · have h := h.2 c
            refine r_aload_n hM (pc' := 94) dX10_plans_93 rfl (x := 0) rfl ?_
            refine r_getR hM (pc' := 97) dX10_plans_94 rfl fl_X10_50 wm_0 rfl ?_
            refine r_iload_n hM (pc' := 98) dX10_plans_97 rfl (x := v2) rfl ?_
            refine r_iload_n hM (pc' := 99) dX10_plans_98 rfl (x := v3) rfl ?_
            refine r_iastore hM (pc' := 100) dX10_plans_99 rfl wm_9 o1 (fun τ1 e1 => ?_)
            have h := h τ1 e1
            have o8 := h.1
            have h := h.2
            refine r_iinc hM (pc' := 103) dX10_plans_100 rfl (x := v3) rfl rfl o8 ?_
            show R 103 [vR 0, vI v1, vI v2, vI (v3 + 1)] _ _
            refine r_goto hM (tgt := 38) dX10_plans_103 (by decide) ?_
            exact h
set_option maxRecDepth 20000 in
theorem g_X10_plans_106 {G : GX} {d : Nat} {Ret : Option AV → St → Prop} {R : Nat → List AV → List AV → St → Prop} (hM : AM G wdM (d + 1) mX10_plans Ret R) (v1 : Int) (v2 : Int) (σ : St)
    (h : ((0 ≤ v2 ∧ v2 < 16) ∧ ((0 ≤ (σ.1 9 (v2).toNat) → (∀ u1, u1 = (bOr v1 (bShl 1 (σ.1 9 (v2).toNat))) → (r32 (v2 + 1) ∧ R 21 [vR 0, vI u1, vI (v2 + 1), vN] [] σ))) ∧ (¬ 0 ≤ (σ.1 9 (v2).toNat) → (r32 (v2 + 1) ∧ R 21 [vR 0, vI v1, vI (v2 + 1), vN] [] σ))))) : R 106 [vR 0, vI v1, vI v2, vN] [] σ := by
  refine r_aload_n hM (pc' := 107) dX10_plans_106 rfl (x := 0) rfl ?_
  refine r_getR hM (pc' := 110) dX10_plans_107 rfl fl_X10_50 wm_0 rfl ?_
  refine r_iload_n hM (pc' := 111) dX10_plans_110 rfl (x := v2) rfl ?_
  have o1 := h.1
  have h := h.2
  refine r_iaload hM (pc' := 112) dX10_plans_111 rfl wm_9 o1 ?_
  refine r_if_ge hM (pc' := 115) (tgt := 119) dX10_plans_112 rfl (by decide) (fun c => ?_) (fun c => ?_)
  · have h := h.1 c
    refine r_iload_n hM (pc' := 120) dX10_plans_119 rfl (x := v1) rfl ?_
    refine r_iconst hM (pc' := 121) dX10_plans_120 rfl (by decide) ?_
    refine r_aload_n hM (pc' := 122) dX10_plans_121 rfl (x := 0) rfl ?_
    refine r_getR hM (pc' := 125) dX10_plans_122 rfl fl_X10_50 wm_0 rfl ?_
    refine r_iload_n hM (pc' := 126) dX10_plans_125 rfl (x := v2) rfl ?_
    refine r_iaload hM (pc' := 127) dX10_plans_126 rfl wm_9 o1 ?_
    refine r_ishl hM (pc' := 128) dX10_plans_127 rfl ?_
    refine r_ior hM (pc' := 129) dX10_plans_128 rfl ?_
    refine r_istore_nN hM (pc' := 130) dX10_plans_129 rfl (Nat.le_of_ble_eq_true rfl) rfl (fun u1 eu1 => ?_)
    have h := h u1 eu1
    show R 130 [vR 0, vI u1, vI v2, vN] _ _
    have o2 := h.1
    have h := h.2
    refine r_iinc hM (pc' := 133) dX10_plans_130 rfl (x := v2) rfl rfl o2 ?_
    show R 133 [vR 0, vI u1, vI (v2 + 1), vN] _ _
    refine r_goto hM (tgt := 21) dX10_plans_133 (by decide) ?_
    exact h
  · have h := h.2 c
    refine r_iload_n hM (pc' := 116) dX10_plans_115 rfl (x := v1) rfl ?_
    refine r_goto hM (tgt := 129) dX10_plans_116 (by decide) ?_
    refine r_istore_n hM (pc' := 130) dX10_plans_129 rfl (Nat.le_of_ble_eq_true rfl) rfl ?_
    show R 130 [vR 0, vI v1, vI v2, vN] _ _
    have o3 := h.1
    have h := h.2
    refine r_iinc hM (pc' := 133) dX10_plans_130 rfl (x := v2) rfl rfl o3 ?_
    show R 133 [vR 0, vI v1, vI (v2 + 1), vN] _ _
    refine r_goto hM (tgt := 21) dX10_plans_133 (by decide) ?_
    exact h
set_option maxRecDepth 20000 in
theorem g_X10_plans_148 {G : GX} {d : Nat} {Ret : Option AV → St → Prop} {R : Nat → List AV → List AV → St → Prop} (hM : AM G wdM (d + 1) mX10_plans Ret R) (v1 : Int) (v2 : Int) (σ : St)
    (h : (((σ.1 0 3) ≤ v2 → Ret none σ) ∧ (¬ (σ.1 0 3) ≤ v2 → ((¬ (bAnd (bShr v1 v2) 1) = 0 → (r32 (v2 + 1) ∧ R 148 [vR 0, vI v1, vI (v2 + 1), vN] [] σ)) ∧ ((bAnd (bShr v1 v2) 1) = 0 → conV G wdM d mX10_goes [vR 0, vI v2] σ (fun σ1 => (r32 (v2 + 1) ∧ R 148 [vR 0, vI v1, vI (v2 + 1), vN] [] σ1))))))) : R 148 [vR 0, vI v1, vI v2, vN] [] σ := by
  refine r_iload_n hM (pc' := 149) dX10_plans_148 rfl (x := v2) rfl ?_
  refine r_aload_n hM (pc' := 150) dX10_plans_149 rfl (x := 0) rfl ?_
  refine r_getI hM (pc' := 153) dX10_plans_150 rfl fl_X10_84 wm_0 rfl ?_
  refine r_icmp_ge hM (pc' := 156) (tgt := 175) dX10_plans_153 rfl (by decide) (fun c => ?_) (fun c => ?_)
  · have h := h.1 c
    exact r_return hM dX10_plans_175 rfl h
  · have h := h.2 c
    refine r_iload_n hM (pc' := 157) dX10_plans_156 rfl (x := v1) rfl ?_
    refine r_iload_n hM (pc' := 158) dX10_plans_157 rfl (x := v2) rfl ?_
    refine r_ishr hM (pc' := 159) dX10_plans_158 rfl ?_
    refine r_iconst hM (pc' := 160) dX10_plans_159 rfl (by decide) ?_
    refine r_iand hM (pc' := 161) dX10_plans_160 rfl ?_
    refine r_if_ne hM (pc' := 164) (tgt := 169) dX10_plans_161 rfl (by decide) (fun c => ?_) (fun c => ?_)
    · have h := h.1 c
      have o1 := h.1
      have h := h.2
      refine r_iinc hM (pc' := 172) dX10_plans_169 rfl (x := v2) rfl rfl o1 ?_
      show R 172 [vR 0, vI v1, vI (v2 + 1), vN] _ _
      refine r_goto hM (tgt := 148) dX10_plans_172 (by decide) ?_
      exact h
    · have h := h.2 c
      refine r_aload_n hM (pc' := 165) dX10_plans_164 rfl (x := 0) rfl ?_
      refine r_iload_n hM (pc' := 166) dX10_plans_165 rfl (x := v2) rfl ?_
      refine r_callVV hM (pc' := 169) [vI v2] dX10_plans_166 rfl ml_X10_122 wm_0 rfl rfl (Nat.le_of_ble_eq_true rfl) (conV.mono h (fun σ1 h => ?_))
      have o2 := h.1
      have h := h.2
      refine r_iinc hM (pc' := 172) dX10_plans_169 rfl (x := v2) rfl rfl o2 ?_
      show R 172 [vR 0, vI v1, vI (v2 + 1), vN] _ _
      refine r_goto hM (tgt := 148) dX10_plans_172 (by decide) ?_
      exact h
theorem dX10_goes_0 : decode cX10_goes 0 = .ok (.aload_n 0, 1) := by decide +kernel
theorem dX10_goes_1 : decode cX10_goes 1 = .ok (.getfield 53, 3) := by decide +kernel
theorem dX10_goes_4 : decode cX10_goes 4 = .ok (.aload_n 0, 1) := by decide +kernel
theorem dX10_goes_5 : decode cX10_goes 5 = .ok (.getfield 116, 3) := by decide +kernel
theorem dX10_goes_8 : decode cX10_goes 8 = .ok (.iload_n 1, 1) := by decide +kernel
theorem dX10_goes_9 : decode cX10_goes 9 = .ok (.iastore, 1) := by decide +kernel
theorem dX10_goes_10 : decode cX10_goes 10 = .ok (.iload_n 1, 1) := by decide +kernel
theorem dX10_goes_11 : decode cX10_goes 11 = .ok (.istore_n 2, 1) := by decide +kernel
theorem dX10_goes_12 : decode cX10_goes 12 = .ok (.iconst 0, 1) := by decide +kernel
theorem dX10_goes_13 : decode cX10_goes 13 = .ok (.istore_n 3, 1) := by decide +kernel
theorem dX10_goes_14 : decode cX10_goes 14 = .ok (.iload_n 1, 1) := by decide +kernel
theorem dX10_goes_15 : decode cX10_goes 15 = .ok (.istore 4, 2) := by decide +kernel
theorem dX10_goes_17 : decode cX10_goes 17 = .ok (.iload 4, 2) := by decide +kernel
theorem dX10_goes_19 : decode cX10_goes 19 = .ok (.ifCond .lt 129, 3) := by decide +kernel
theorem dX10_goes_22 : decode cX10_goes 22 = .ok (.aload_n 0, 1) := by decide +kernel
theorem dX10_goes_23 : decode cX10_goes 23 = .ok (.getfield 56, 3) := by decide +kernel
theorem dX10_goes_26 : decode cX10_goes 26 = .ok (.iload 4, 2) := by decide +kernel
theorem dX10_goes_28 : decode cX10_goes 28 = .ok (.aload_n 0, 1) := by decide +kernel
theorem dX10_goes_29 : decode cX10_goes 29 = .ok (.getfield 116, 3) := by decide +kernel
theorem dX10_goes_32 : decode cX10_goes 32 = .ok (.iastore, 1) := by decide +kernel
theorem dX10_goes_33 : decode cX10_goes 33 = .ok (.aload_n 0, 1) := by decide +kernel
theorem dX10_goes_34 : decode cX10_goes 34 = .ok (.getfield 71, 3) := by decide +kernel
theorem dX10_goes_37 : decode cX10_goes 37 = .ok (.iload 4, 2) := by decide +kernel
theorem dX10_goes_39 : decode cX10_goes 39 = .ok (.aload_n 0, 1) := by decide +kernel
theorem dX10_goes_40 : decode cX10_goes 40 = .ok (.getfield 119, 3) := by decide +kernel
theorem dX10_goes_43 : decode cX10_goes 43 = .ok (.iastore, 1) := by decide +kernel
theorem dX10_goes_44 : decode cX10_goes 44 = .ok (.iinc 3 1, 3) := by decide +kernel
theorem dX10_goes_47 : decode cX10_goes 47 = .ok (.aload_n 0, 1) := by decide +kernel
theorem dX10_goes_48 : decode cX10_goes 48 = .ok (.getfield 16, 3) := by decide +kernel
theorem dX10_goes_51 : decode cX10_goes 51 = .ok (.aload_n 0, 1) := by decide +kernel
theorem dX10_goes_52 : decode cX10_goes 52 = .ok (.getfield 23, 3) := by decide +kernel
theorem dX10_goes_55 : decode cX10_goes 55 = .ok (.iload 4, 2) := by decide +kernel
theorem dX10_goes_57 : decode cX10_goes 57 = .ok (.iaload, 1) := by decide +kernel
theorem dX10_goes_58 : decode cX10_goes 58 = .ok (.baload, 1) := by decide +kernel
theorem dX10_goes_59 : decode cX10_goes 59 = .ok (.ifCond .ne 13, 3) := by decide +kernel
theorem dX10_goes_62 : decode cX10_goes 62 = .ok (.aload_n 0, 1) := by decide +kernel
theorem dX10_goes_63 : decode cX10_goes 63 = .ok (.getfield 50, 3) := by decide +kernel
theorem dX10_goes_66 : decode cX10_goes 66 = .ok (.iload 4, 2) := by decide +kernel
theorem dX10_goes_68 : decode cX10_goes 68 = .ok (.iaload, 1) := by decide +kernel
theorem dX10_goes_69 : decode cX10_goes 69 = .ok (.ifCond .ge 67, 3) := by decide +kernel
theorem dX10_goes_72 : decode cX10_goes 72 = .ok (.aload_n 0, 1) := by decide +kernel
theorem dX10_goes_73 : decode cX10_goes 73 = .ok (.getfield 59, 3) := by decide +kernel
theorem dX10_goes_76 : decode cX10_goes 76 = .ok (.aload_n 0, 1) := by decide +kernel
theorem dX10_goes_77 : decode cX10_goes 77 = .ok (.getfield 119, 3) := by decide +kernel
theorem dX10_goes_80 : decode cX10_goes 80 = .ok (.aload_n 0, 1) := by decide +kernel
theorem dX10_goes_81 : decode cX10_goes 81 = .ok (.getfield 116, 3) := by decide +kernel
theorem dX10_goes_84 : decode cX10_goes 84 = .ok (.iastore, 1) := by decide +kernel
theorem dX10_goes_85 : decode cX10_goes 85 = .ok (.aload_n 0, 1) := by decide +kernel
theorem dX10_goes_86 : decode cX10_goes 86 = .ok (.getfield 62, 3) := by decide +kernel
theorem dX10_goes_89 : decode cX10_goes 89 = .ok (.aload_n 0, 1) := by decide +kernel
theorem dX10_goes_90 : decode cX10_goes 90 = .ok (.getfield 119, 3) := by decide +kernel
theorem dX10_goes_93 : decode cX10_goes 93 = .ok (.iload_n 2, 1) := by decide +kernel
theorem dX10_goes_94 : decode cX10_goes 94 = .ok (.iastore, 1) := by decide +kernel
theorem dX10_goes_95 : decode cX10_goes 95 = .ok (.aload_n 0, 1) := by decide +kernel
theorem dX10_goes_96 : decode cX10_goes 96 = .ok (.getfield 65, 3) := by decide +kernel
theorem dX10_goes_99 : decode cX10_goes 99 = .ok (.aload_n 0, 1) := by decide +kernel
theorem dX10_goes_100 : decode cX10_goes 100 = .ok (.getfield 119, 3) := by decide +kernel
theorem dX10_goes_103 : decode cX10_goes 103 = .ok (.iload 4, 2) := by decide +kernel
theorem dX10_goes_105 : decode cX10_goes 105 = .ok (.iastore, 1) := by decide +kernel
theorem dX10_goes_106 : decode cX10_goes 106 = .ok (.aload_n 0, 1) := by decide +kernel
theorem dX10_goes_107 : decode cX10_goes 107 = .ok (.getfield 68, 3) := by decide +kernel
theorem dX10_goes_110 : decode cX10_goes 110 = .ok (.aload_n 0, 1) := by decide +kernel
theorem dX10_goes_111 : decode cX10_goes 111 = .ok (.getfield 119, 3) := by decide +kernel
theorem dX10_goes_114 : decode cX10_goes 114 = .ok (.iload_n 3, 1) := by decide +kernel
theorem dX10_goes_115 : decode cX10_goes 115 = .ok (.iastore, 1) := by decide +kernel
theorem dX10_goes_116 : decode cX10_goes 116 = .ok (.aload_n 0, 1) := by decide +kernel
theorem dX10_goes_117 : decode cX10_goes 117 = .ok (.dup, 1) := by decide +kernel
theorem dX10_goes_118 : decode cX10_goes 118 = .ok (.getfield 119, 3) := by decide +kernel
theorem dX10_goes_121 : decode cX10_goes 121 = .ok (.iconst 1, 1) := by decide +kernel
theorem dX10_goes_122 : decode cX10_goes 122 = .ok (.iadd, 1) := by decide +kernel
theorem dX10_goes_123 : decode cX10_goes 123 = .ok (.putfield 119, 3) := by decide +kernel
theorem dX10_goes_126 : decode cX10_goes 126 = .ok (.aload_n 0, 1) := by decide +kernel
theorem dX10_goes_127 : decode cX10_goes 127 = .ok (.getfield 50, 3) := by decide +kernel
theorem dX10_goes_130 : decode cX10_goes 130 = .ok (.iload 4, 2) := by decide +kernel
theorem dX10_goes_132 : decode cX10_goes 132 = .ok (.iaload, 1) := by decide +kernel
theorem dX10_goes_133 : decode cX10_goes 133 = .ok (.istore_n 2, 1) := by decide +kernel
theorem dX10_goes_134 : decode cX10_goes 134 = .ok (.iconst 0, 1) := by decide +kernel
theorem dX10_goes_135 : decode cX10_goes 135 = .ok (.istore_n 3, 1) := by decide +kernel
theorem dX10_goes_136 : decode cX10_goes 136 = .ok (.aload_n 0, 1) := by decide +kernel
theorem dX10_goes_137 : decode cX10_goes 137 = .ok (.getfield 50, 3) := by decide +kernel
theorem dX10_goes_140 : decode cX10_goes 140 = .ok (.iload 4, 2) := by decide +kernel
theorem dX10_goes_142 : decode cX10_goes 142 = .ok (.iaload, 1) := by decide +kernel
theorem dX10_goes_143 : decode cX10_goes 143 = .ok (.istore 4, 2) := by decide +kernel
theorem dX10_goes_145 : decode cX10_goes 145 = .ok (.goto (-128), 3) := by decide +kernel
theorem dX10_goes_148 : decode cX10_goes 148 = .ok (.aload_n 0, 1) := by decide +kernel
theorem dX10_goes_149 : decode cX10_goes 149 = .ok (.dup, 1) := by decide +kernel
theorem dX10_goes_150 : decode cX10_goes 150 = .ok (.getfield 116, 3) := by decide +kernel
theorem dX10_goes_153 : decode cX10_goes 153 = .ok (.iconst 1, 1) := by decide +kernel
theorem dX10_goes_154 : decode cX10_goes 154 = .ok (.iadd, 1) := by decide +kernel
theorem dX10_goes_155 : decode cX10_goes 155 = .ok (.putfield 116, 3) := by decide +kernel
theorem dX10_goes_158 : decode cX10_goes 158 = .ok (.return_, 1) := by decide +kernel
set_option maxRecDepth 20000 in
theorem g_X10_goes_0 {G : GX} {d : Nat} {Ret : Option AV → St → Prop} {R : Nat → List AV → List AV → St → Prop} (hM : AM G wdM d mX10_goes Ret R) (v1 : Int) (σ : St)
    (h : ((0 ≤ (σ.1 0 15) ∧ (σ.1 0 15) < 16) ∧ (∀ τ1, τ1 = sI σ 10 ((σ.1 0 15)).toNat v1 → R 17 [vR 0, vN, vI v1, vI 0, vI v1] [] τ1))) : R 0 [vR 0, vI v1, vN, vN, vN] [] σ := by
  refine r_aload_n hM (pc' := 1) dX10_goes_0 rfl (x := 0) rfl ?_
  refine r_getR hM (pc' := 4) dX10_goes_1 rfl fl_X10_53 wm_0 rfl ?_
  refine r_aload_n hM (pc' := 5) dX10_goes_4 rfl (x := 0) rfl ?_
  refine r_getI hM (pc' := 8) dX10_goes_5 rfl fl_X10_116 wm_0 rfl ?_
  refine r_iload_n hM (pc' := 9) dX10_goes_8 rfl (x := v1) rfl ?_
  have o1 := h.1
  have h := h.2
  refine r_iastore hM (pc' := 10) dX10_goes_9 rfl wm_10 o1 (fun τ1 e1 => ?_)
  have h := h τ1 e1
  refine r_iload_n hM (pc' := 11) dX10_goes_10 rfl (x := v1) rfl ?_
  refine r_istore_n hM (pc' := 12) dX10_goes_11 rfl (Nat.le_of_ble_eq_true rfl) rfl ?_
  show R 12 [vR 0, vI v1, vI v1, vN, vN] _ _
  refine r_iconst hM (pc' := 13) dX10_goes_12 rfl (by decide) ?_
  refine r_istore_n hM (pc' := 14) dX10_goes_13 rfl (Nat.le_of_ble_eq_true rfl) rfl ?_
  show R 14 [vR 0, vI v1, vI v1, vI 0, vN] _ _
  refine r_iload_n hM (pc' := 15) dX10_goes_14 rfl (x := v1) rfl ?_
  refine r_istore hM (pc' := 17) dX10_goes_15 rfl (Nat.le_of_ble_eq_true rfl) rfl ?_
  show R 17 [vR 0, vI v1, vI v1, vI 0, vI v1] _ _
  refine r_weak hM (ls' := [vR 0, vN, vI v1, vI 0, vI v1]) ⟨Or.inl rfl, Or.inr rfl, Or.inl rfl, Or.inl rfl, Or.inl rfl, trivial⟩ ?_
  exact h
set_option maxRecDepth 20000 in
theorem g_X10_goes_17 {G : GX} {d : Nat} {Ret : Option AV → St → Prop} {R : Nat → List AV → List AV → St → Prop} (hM : AM G wdM d mX10_goes Ret R) (v2 : Int) (v3 : Int) (v4 : Int) (σ : St)
    (h : ((v4 < 0 → (r32 ((σ.1 0 15) + 1) ∧ (∀ τ1, τ1 = sI σ 0 15 ((σ.1 0 15) + 1) → Ret none τ1))) ∧ (¬ v4 < 0 → ((0 ≤ v4 ∧ v4 < 16) ∧ (∀ τ2, τ2 = sI σ 11 (v4).toNat (σ.1 0 15) → (∀ τ3, τ3 = sI τ2 16 (v4).toNat (τ2.1 0 18) → (r32 (v3 + 1) ∧ ((0 ≤ (τ3.1 5 (v4).toNat) ∧ (τ3.1 5 (v4).toNat) < 12) ∧ ((¬ (τ3.1 3 ((τ3.1 5 (v4).toNat)).toNat) = 0 → R 72 [vR 0, vN, vI v2, vI (v3 + 1), vI v4] [] τ3) ∧ ((τ3.1 3 ((τ3.1 5 (v4).toNat)).toNat) = 0 → ((0 ≤ (τ3.1 9 (v4).toNat) → R 17 [vR 0, vN, vI v2, vI (v3 + 1), vI (τ3.1 9 (v4).toNat)] [] τ3) ∧ (¬ 0 ≤ (τ3.1 9 (v4).toNat) → R 72 [vR 0, vN, vI v2, vI (v3 + 1), vI v4] [] τ3)))))))))))) : R 17 [vR 0, vN, vI v2, vI v3, vI v4] [] σ := by
  refine r_iload hM (pc' := 19) dX10_goes_17 rfl (x := v4) rfl ?_
  refine r_if_lt hM (pc' := 22) (tgt := 148) dX10_goes_19 rfl (by decide) (fun c => ?_) (fun c => ?_)
  · have h := h.1 c
    refine r_aload_n hM (pc' := 149) dX10_goes_148 rfl (x := 0) rfl ?_
    refine r_dup hM (pc' := 150) dX10_goes_149 rfl (fun _ => rfl) ?_
    refine r_getI hM (pc' := 153) dX10_goes_150 rfl fl_X10_116 wm_0 rfl ?_
    refine r_iconst hM (pc' := 154) dX10_goes_153 rfl (by decide) ?_
    have o1 := h.1
    have h := h.2
    refine r_iadd hM (pc' := 155) dX10_goes_154 rfl o1 ?_
    refine r_putI hM (pc' := 158) dX10_goes_155 rfl fp_X10_116 wm_0 rfl (fun τ1 e1 => ?_)
    have h := h τ1 e1
    exact r_return hM dX10_goes_158 rfl h
  · have h := h.2 c
    refine r_aload_n hM (pc' := 23) dX10_goes_22 rfl (x := 0) rfl ?_
    refine r_getR hM (pc' := 26) dX10_goes_23 rfl fl_X10_56 wm_0 rfl ?_
    refine r_iload hM (pc' := 28) dX10_goes_26 rfl (x := v4) rfl ?_
    refine r_aload_n hM (pc' := 29) dX10_goes_28 rfl (x := 0) rfl ?_
    refine r_getI hM (pc' := 32) dX10_goes_29 rfl fl_X10_116 wm_0 rfl ?_
    have o2 := h.1
    have h := h.2
    refine r_iastore hM (pc' := 33) dX10_goes_32 rfl wm_11 o2 (fun τ2 e2 => ?_)
    have h := h τ2 e2
    refine r_aload_n hM (pc' := 34) dX10_goes_33 rfl (x := 0) rfl ?_
    refine r_getR hM (pc' := 37) dX10_goes_34 rfl fl_X10_71 wm_0 rfl ?_
    refine r_iload hM (pc' := 39) dX10_goes_37 rfl (x := v4) rfl ?_
    refine r_aload_n hM (pc' := 40) dX10_goes_39 rfl (x := 0) rfl ?_
    refine r_getI hM (pc' := 43) dX10_goes_40 rfl fl_X10_119 wm_0 rfl ?_
    refine r_iastore hM (pc' := 44) dX10_goes_43 rfl wm_16 o2 (fun τ3 e3 => ?_)
    have h := h τ3 e3
    have o3 := h.1
    have h := h.2
    refine r_iinc hM (pc' := 47) dX10_goes_44 rfl (x := v3) rfl rfl o3 ?_
    show R 47 [vR 0, vN, vI v2, vI (v3 + 1), vI v4] _ _
    refine r_aload_n hM (pc' := 48) dX10_goes_47 rfl (x := 0) rfl ?_
    refine r_getR hM (pc' := 51) dX10_goes_48 rfl fl_X10_16 wm_0 rfl ?_
    refine r_aload_n hM (pc' := 52) dX10_goes_51 rfl (x := 0) rfl ?_
    refine r_getR hM (pc' := 55) dX10_goes_52 rfl fl_X10_23 wm_0 rfl ?_
    refine r_iload hM (pc' := 57) dX10_goes_55 rfl (x := v4) rfl ?_
    refine r_iaload hM (pc' := 58) dX10_goes_57 rfl wm_5 o2 ?_
    have o4 := h.1
    have h := h.2
    refine r_zaload hM (pc' := 59) dX10_goes_58 rfl wm_3 o4 ?_
    refine r_if_ne hM (pc' := 62) (tgt := 72) dX10_goes_59 rfl (by decide) (fun c => ?_) (fun c => ?_)
    · have h := h.1 c
      exact h
    · have h := h.2 c
      refine r_aload_n hM (pc' := 63) dX10_goes_62 rfl (x := 0) rfl ?_
      refine r_getR hM (pc' := 66) dX10_goes_63 rfl fl_X10_50 wm_0 rfl ?_
      refine r_iload hM (pc' := 68) dX10_goes_66 rfl (x := v4) rfl ?_
      refine r_iaload hM (pc' := 69) dX10_goes_68 rfl wm_9 o2 ?_
      refine r_if_ge hM (pc' := 72) (tgt := 136) dX10_goes_69 rfl (by decide) (fun c => ?_) (fun c => ?_)
      · have h := h.1 c
        refine r_aload_n hM (pc' := 137) dX10_goes_136 rfl (x := 0) rfl ?_
        refine r_getR hM (pc' := 140) dX10_goes_137 rfl fl_X10_50 wm_0 rfl ?_
        refine r_iload hM (pc' := 142) dX10_goes_140 rfl (x := v4) rfl ?_
        refine r_iaload hM (pc' := 143) dX10_goes_142 rfl wm_9 o2 ?_
        refine r_istore hM (pc' := 145) dX10_goes_143 rfl (Nat.le_of_ble_eq_true rfl) rfl ?_
        show R 145 [vR 0, vN, vI v2, vI (v3 + 1), vI (τ3.1 9 (v4).toNat)] _ _
        refine r_goto hM (tgt := 17) dX10_goes_145 (by decide) ?_
        exact h
      · have h := h.2 c
        exact h
set_option maxRecDepth 20000 in
theorem g_X10_goes_72 {G : GX} {d : Nat} {Ret : Option AV → St → Prop} {R : Nat → List AV → List AV → St → Prop} (hM : AM G wdM d mX10_goes Ret R) (v2 : Int) (v3 : Int) (v4 : Int) (σ : St)
    (h : ((0 ≤ (σ.1 0 18) ∧ (σ.1 0 18) < 16) ∧ (∀ τ1, τ1 = sI σ 12 ((σ.1 0 18)).toNat (σ.1 0 15) → ((0 ≤ (τ1.1 0 18) ∧ (τ1.1 0 18) < 16) ∧ (∀ τ2, τ2 = sI τ1 13 ((τ1.1 0 18)).toNat v2 → ((0 ≤ (τ2.1 0 18) ∧ (τ2.1 0 18) < 16) ∧ (∀ τ3, τ3 = sI τ2 14 ((τ2.1 0 18)).toNat v4 → ((0 ≤ (τ3.1 0 18) ∧ (τ3.1 0 18) < 16) ∧ (∀ τ4, τ4 = sI τ3 15 ((τ3.1 0 18)).toNat v3 → (r32 ((τ4.1 0 18) + 1) ∧ (∀ τ5, τ5 = sI τ4 0 18 ((τ4.1 0 18) + 1) → ((0 ≤ v4 ∧ v4 < 16) ∧ R 17 [vR 0, vN, vI (τ5.1 9 (v4).toNat), vI 0, vI (τ5.1 9 (v4).toNat)] [] τ5)))))))))))) : R 72 [vR 0, vN, vI v2, vI v3, vI v4] [] σ := by
  refine r_aload_n hM (pc' := 73) dX10_goes_72 rfl (x := 0) rfl ?_
  refine r_getR hM (pc' := 76) dX10_goes_73 rfl fl_X10_59 wm_0 rfl ?_
  refine r_aload_n hM (pc' := 77) dX10_goes_76 rfl (x := 0) rfl ?_
  refine r_getI hM (pc' := 80) dX10_goes_77 rfl fl_X10_119 wm_0 rfl ?_
  refine r_aload_n hM (pc' := 81) dX10_goes_80 rfl (x := 0) rfl ?_
  refine r_getI hM (pc' := 84) dX10_goes_81 rfl fl_X10_116 wm_0 rfl ?_
  have o1 := h.1
  have h := h.2
  refine r_iastore hM (pc' := 85) dX10_goes_84 rfl wm_12 o1 (fun τ1 e1 => ?_)
  have h := h τ1 e1
  refine r_aload_n hM (pc' := 86) dX10_goes_85 rfl (x := 0) rfl ?_
  refine r_getR hM (pc' := 89) dX10_goes_86 rfl fl_X10_62 wm_0 rfl ?_
  refine r_aload_n hM (pc' := 90) dX10_goes_89 rfl (x := 0) rfl ?_
  refine r_getI hM (pc' := 93) dX10_goes_90 rfl fl_X10_119 wm_0 rfl ?_
  refine r_iload_n hM (pc' := 94) dX10_goes_93 rfl (x := v2) rfl ?_
  have o2 := h.1
  have h := h.2
  refine r_iastore hM (pc' := 95) dX10_goes_94 rfl wm_13 o2 (fun τ2 e2 => ?_)
  have h := h τ2 e2
  refine r_aload_n hM (pc' := 96) dX10_goes_95 rfl (x := 0) rfl ?_
  refine r_getR hM (pc' := 99) dX10_goes_96 rfl fl_X10_65 wm_0 rfl ?_
  refine r_aload_n hM (pc' := 100) dX10_goes_99 rfl (x := 0) rfl ?_
  refine r_getI hM (pc' := 103) dX10_goes_100 rfl fl_X10_119 wm_0 rfl ?_
  refine r_iload hM (pc' := 105) dX10_goes_103 rfl (x := v4) rfl ?_
  have o3 := h.1
  have h := h.2
  refine r_iastore hM (pc' := 106) dX10_goes_105 rfl wm_14 o3 (fun τ3 e3 => ?_)
  have h := h τ3 e3
  refine r_aload_n hM (pc' := 107) dX10_goes_106 rfl (x := 0) rfl ?_
  refine r_getR hM (pc' := 110) dX10_goes_107 rfl fl_X10_68 wm_0 rfl ?_
  refine r_aload_n hM (pc' := 111) dX10_goes_110 rfl (x := 0) rfl ?_
  refine r_getI hM (pc' := 114) dX10_goes_111 rfl fl_X10_119 wm_0 rfl ?_
  refine r_iload_n hM (pc' := 115) dX10_goes_114 rfl (x := v3) rfl ?_
  have o4 := h.1
  have h := h.2
  refine r_iastore hM (pc' := 116) dX10_goes_115 rfl wm_15 o4 (fun τ4 e4 => ?_)
  have h := h τ4 e4
  refine r_aload_n hM (pc' := 117) dX10_goes_116 rfl (x := 0) rfl ?_
  refine r_dup hM (pc' := 118) dX10_goes_117 rfl (fun _ => rfl) ?_
  refine r_getI hM (pc' := 121) dX10_goes_118 rfl fl_X10_119 wm_0 rfl ?_
  refine r_iconst hM (pc' := 122) dX10_goes_121 rfl (by decide) ?_
  have o5 := h.1
  have h := h.2
  refine r_iadd hM (pc' := 123) dX10_goes_122 rfl o5 ?_
  refine r_putI hM (pc' := 126) dX10_goes_123 rfl fp_X10_119 wm_0 rfl (fun τ5 e5 => ?_)
  have h := h τ5 e5
  refine r_aload_n hM (pc' := 127) dX10_goes_126 rfl (x := 0) rfl ?_
  refine r_getR hM (pc' := 130) dX10_goes_127 rfl fl_X10_50 wm_0 rfl ?_
  refine r_iload hM (pc' := 132) dX10_goes_130 rfl (x := v4) rfl ?_
  have o6 := h.1
  have h := h.2
  refine r_iaload hM (pc' := 133) dX10_goes_132 rfl wm_9 o6 ?_
  refine r_istore_n hM (pc' := 134) dX10_goes_133 rfl (Nat.le_of_ble_eq_true rfl) rfl ?_
  show R 134 [vR 0, vN, vI (τ5.1 9 (v4).toNat), vI v3, vI v4] _ _
  refine r_iconst hM (pc' := 135) dX10_goes_134 rfl (by decide) ?_
  refine r_istore_n hM (pc' := 136) dX10_goes_135 rfl (Nat.le_of_ble_eq_true rfl) rfl ?_
  show R 136 [vR 0, vN, vI (τ5.1 9 (v4).toNat), vI 0, vI v4] _ _
  refine r_aload_n hM (pc' := 137) dX10_goes_136 rfl (x := 0) rfl ?_
  refine r_getR hM (pc' := 140) dX10_goes_137 rfl fl_X10_50 wm_0 rfl ?_
  refine r_iload hM (pc' := 142) dX10_goes_140 rfl (x := v4) rfl ?_
  refine r_iaload hM (pc' := 143) dX10_goes_142 rfl wm_9 o6 ?_
  refine r_istore hM (pc' := 145) dX10_goes_143 rfl (Nat.le_of_ble_eq_true rfl) rfl ?_
  show R 145 [vR 0, vN, vI (τ5.1 9 (v4).toNat), vI 0, vI (τ5.1 9 (v4).toNat)] _ _
  refine r_goto hM (tgt := 17) dX10_goes_145 (by decide) ?_
  exact h
theorem dX10_slack_0 : decode cX10_slack 0 = .ok (.aload_n 0, 1) := by decide +kernel
theorem dX10_slack_1 : decode cX10_slack 1 = .ok (.getfield 50, 3) := by decide +kernel
theorem dX10_slack_4 : decode cX10_slack 4 = .ok (.iload_n 1, 1) := by decide +kernel
theorem dX10_slack_5 : decode cX10_slack 5 = .ok (.iaload, 1) := by decide +kernel
theorem dX10_slack_6 : decode cX10_slack 6 = .ok (.ifCond .ge 7, 3) := by decide +kernel
theorem dX10_slack_9 : decode cX10_slack 9 = .ok (.iconst (-1), 1) := by decide +kernel
theorem dX10_slack_10 : decode cX10_slack 10 = .ok (.goto 48, 3) := by decide +kernel
theorem dX10_slack_13 : decode cX10_slack 13 = .ok (.aload_n 0, 1) := by decide +kernel
theorem dX10_slack_14 : decode cX10_slack 14 = .ok (.getfield 26, 3) := by decide +kernel
theorem dX10_slack_17 : decode cX10_slack 17 = .ok (.aload_n 0, 1) := by decide +kernel
theorem dX10_slack_18 : decode cX10_slack 18 = .ok (.getfield 50, 3) := by decide +kernel
theorem dX10_slack_21 : decode cX10_slack 21 = .ok (.iload_n 1, 1) := by decide +kernel
theorem dX10_slack_22 : decode cX10_slack 22 = .ok (.iaload, 1) := by decide +kernel
theorem dX10_slack_23 : decode cX10_slack 23 = .ok (.iaload, 1) := by decide +kernel
theorem dX10_slack_24 : decode cX10_slack 24 = .ok (.aload_n 0, 1) := by decide +kernel
theorem dX10_slack_25 : decode cX10_slack 25 = .ok (.getfield 29, 3) := by decide +kernel
theorem dX10_slack_28 : decode cX10_slack 28 = .ok (.iload_n 1, 1) := by decide +kernel
theorem dX10_slack_29 : decode cX10_slack 29 = .ok (.iaload, 1) := by decide +kernel
theorem dX10_slack_30 : decode cX10_slack 30 = .ok (.isub, 1) := by decide +kernel
theorem dX10_slack_31 : decode cX10_slack 31 = .ok (.aload_n 0, 1) := by decide +kernel
theorem dX10_slack_32 : decode cX10_slack 32 = .ok (.getfield 7, 3) := by decide +kernel
theorem dX10_slack_35 : decode cX10_slack 35 = .ok (.bipush 12, 2) := by decide +kernel
theorem dX10_slack_37 : decode cX10_slack 37 = .ok (.aload_n 0, 1) := by decide +kernel
theorem dX10_slack_38 : decode cX10_slack 38 = .ok (.getfield 23, 3) := by decide +kernel
theorem dX10_slack_41 : decode cX10_slack 41 = .ok (.iload_n 1, 1) := by decide +kernel
theorem dX10_slack_42 : decode cX10_slack 42 = .ok (.iaload, 1) := by decide +kernel
theorem dX10_slack_43 : decode cX10_slack 43 = .ok (.imul, 1) := by decide +kernel
theorem dX10_slack_44 : decode cX10_slack 44 = .ok (.aload_n 0, 1) := by decide +kernel
theorem dX10_slack_45 : decode cX10_slack 45 = .ok (.getfield 20, 3) := by decide +kernel
theorem dX10_slack_48 : decode cX10_slack 48 = .ok (.aload_n 0, 1) := by decide +kernel
theorem dX10_slack_49 : decode cX10_slack 49 = .ok (.getfield 50, 3) := by decide +kernel
theorem dX10_slack_52 : decode cX10_slack 52 = .ok (.iload_n 1, 1) := by decide +kernel
theorem dX10_slack_53 : decode cX10_slack 53 = .ok (.iaload, 1) := by decide +kernel
theorem dX10_slack_54 : decode cX10_slack 54 = .ok (.iaload, 1) := by decide +kernel
theorem dX10_slack_55 : decode cX10_slack 55 = .ok (.iadd, 1) := by decide +kernel
theorem dX10_slack_56 : decode cX10_slack 56 = .ok (.iaload, 1) := by decide +kernel
theorem dX10_slack_57 : decode cX10_slack 57 = .ok (.isub, 1) := by decide +kernel
theorem dX10_slack_58 : decode cX10_slack 58 = .ok (.ireturn, 1) := by decide +kernel
set_option maxRecDepth 20000 in
theorem g_X10_slack_0 {G : GX} {d : Nat} {Ret : Option AV → St → Prop} {R : Nat → List AV → List AV → St → Prop} (hM : AM G wdM d mX10_slack Ret R) (v1 : Int) (σ : St)
    (h : ((0 ≤ v1 ∧ v1 < 16) ∧ ((0 ≤ (σ.1 9 (v1).toNat) → ((0 ≤ (σ.1 9 (v1).toNat) ∧ (σ.1 9 (v1).toNat) < 16) ∧ (r32 ((σ.1 6 ((σ.1 9 (v1).toNat)).toNat) - (σ.1 7 (v1).toNat)) ∧ (r32 (12 * (σ.1 5 (v1).toNat)) ∧ (r32 ((12 * (σ.1 5 (v1).toNat)) + (σ.1 4 ((σ.1 9 (v1).toNat)).toNat)) ∧ ((0 ≤ ((12 * (σ.1 5 (v1).toNat)) + (σ.1 4 ((σ.1 9 (v1).toNat)).toNat)) ∧ ((12 * (σ.1 5 (v1).toNat)) + (σ.1 4 ((σ.1 9 (v1).toNat)).toNat)) < 144) ∧ (r32 (((σ.1 6 ((σ.1 9 (v1).toNat)).toNat) - (σ.1 7 (v1).toNat)) - (σ.1 1 (((12 * (σ.1 5 (v1).toNat)) + (σ.1 4 ((σ.1 9 (v1).toNat)).toNat))).toNat)) ∧ Ret (some (vI (((σ.1 6 ((σ.1 9 (v1).toNat)).toNat) - (σ.1 7 (v1).toNat)) - (σ.1 1 (((12 * (σ.1 5 (v1).toNat)) + (σ.1 4 ((σ.1 9 (v1).toNat)).toNat))).toNat)))) σ))))))) ∧ (¬ 0 ≤ (σ.1 9 (v1).toNat) → Ret (some (vI (-1))) σ)))) : R 0 [vR 0, vI v1] [] σ := by
  refine r_aload_n hM (pc' := 1) dX10_slack_0 rfl (x := 0) rfl ?_
  refine r_getR hM (pc' := 4) dX10_slack_1 rfl fl_X10_50 wm_0 rfl ?_
  refine r_iload_n hM (pc' := 5) dX10_slack_4 rfl (x := v1) rfl ?_
  have o1 := h.1
  have h := h.2
  refine r_iaload hM (pc' := 6) dX10_slack_5 rfl wm_9 o1 ?_
  refine r_if_ge hM (pc' := 9) (tgt := 13) dX10_slack_6 rfl (by decide) (fun c => ?_) (fun c => ?_)
  · have h := h.1 c
    refine r_aload_n hM (pc' := 14) dX10_slack_13 rfl (x := 0) rfl ?_
    refine r_getR hM (pc' := 17) dX10_slack_14 rfl fl_X10_26 wm_0 rfl ?_
    refine r_aload_n hM (pc' := 18) dX10_slack_17 rfl (x := 0) rfl ?_
    refine r_getR hM (pc' := 21) dX10_slack_18 rfl fl_X10_50 wm_0 rfl ?_
    refine r_iload_n hM (pc' := 22) dX10_slack_21 rfl (x := v1) rfl ?_
    refine r_iaload hM (pc' := 23) dX10_slack_22 rfl wm_9 o1 ?_
    have o2 := h.1
    have h := h.2
    refine r_iaload hM (pc' := 24) dX10_slack_23 rfl wm_6 o2 ?_
    refine r_aload_n hM (pc' := 25) dX10_slack_24 rfl (x := 0) rfl ?_
    refine r_getR hM (pc' := 28) dX10_slack_25 rfl fl_X10_29 wm_0 rfl ?_
    refine r_iload_n hM (pc' := 29) dX10_slack_28 rfl (x := v1) rfl ?_
    refine r_iaload hM (pc' := 30) dX10_slack_29 rfl wm_7 o1 ?_
    have o3 := h.1
    have h := h.2
    refine r_isub hM (pc' := 31) dX10_slack_30 rfl o3 ?_
    refine r_aload_n hM (pc' := 32) dX10_slack_31 rfl (x := 0) rfl ?_
    refine r_getR hM (pc' := 35) dX10_slack_32 rfl fl_X10_7 wm_0 rfl ?_
    refine r_bipush hM (pc' := 37) dX10_slack_35 rfl (by decide) (by decide) ?_
    refine r_aload_n hM (pc' := 38) dX10_slack_37 rfl (x := 0) rfl ?_
    refine r_getR hM (pc' := 41) dX10_slack_38 rfl fl_X10_23 wm_0 rfl ?_
    refine r_iload_n hM (pc' := 42) dX10_slack_41 rfl (x := v1) rfl ?_
    refine r_iaload hM (pc' := 43) dX10_slack_42 rfl wm_5 o1 ?_
    have o4 := h.1
    have h := h.2
    refine r_imul hM (pc' := 44) dX10_slack_43 rfl o4 ?_
    refine r_aload_n hM (pc' := 45) dX10_slack_44 rfl (x := 0) rfl ?_
    refine r_getR hM (pc' := 48) dX10_slack_45 rfl fl_X10_20 wm_0 rfl ?_
    refine r_aload_n hM (pc' := 49) dX10_slack_48 rfl (x := 0) rfl ?_
    refine r_getR hM (pc' := 52) dX10_slack_49 rfl fl_X10_50 wm_0 rfl ?_
    refine r_iload_n hM (pc' := 53) dX10_slack_52 rfl (x := v1) rfl ?_
    refine r_iaload hM (pc' := 54) dX10_slack_53 rfl wm_9 o1 ?_
    refine r_iaload hM (pc' := 55) dX10_slack_54 rfl wm_4 o2 ?_
    have o5 := h.1
    have h := h.2
    refine r_iadd hM (pc' := 56) dX10_slack_55 rfl o5 ?_
    have o6 := h.1
    have h := h.2
    refine r_iaload hM (pc' := 57) dX10_slack_56 rfl wm_1 o6 ?_
    have o7 := h.1
    have h := h.2
    refine r_isub hM (pc' := 58) dX10_slack_57 rfl o7 ?_
    exact r_ireturn hM dX10_slack_58 rfl h
  · have h := h.2 c
    refine r_iconst hM (pc' := 10) dX10_slack_9 rfl (by decide) ?_
    refine r_goto hM (tgt := 58) dX10_slack_10 (by decide) ?_
    exact r_ireturn hM dX10_slack_58 rfl h
