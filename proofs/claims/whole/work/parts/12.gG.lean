theorem dX10_plan_0 : decode cX10_plan 0 = .ok (.aload_n 0, 1) := by decide +kernel
theorem dX10_plan_1 : decode cX10_plan 1 = .ok (.invokevirtual 126, 3) := by decide +kernel
theorem dX10_plan_4 : decode cX10_plan 4 = .ok (.iconst 0, 1) := by decide +kernel
theorem dX10_plan_5 : decode cX10_plan 5 = .ok (.istore_n 2, 1) := by decide +kernel
theorem dX10_plan_6 : decode cX10_plan 6 = .ok (.iconst (-1), 1) := by decide +kernel
theorem dX10_plan_7 : decode cX10_plan 7 = .ok (.istore_n 3, 1) := by decide +kernel
theorem dX10_plan_8 : decode cX10_plan 8 = .ok (.iconst (-1), 1) := by decide +kernel
theorem dX10_plan_9 : decode cX10_plan 9 = .ok (.istore 4, 2) := by decide +kernel
theorem dX10_plan_11 : decode cX10_plan 11 = .ok (.iconst 0, 1) := by decide +kernel
theorem dX10_plan_12 : decode cX10_plan 12 = .ok (.istore 5, 2) := by decide +kernel
theorem dX10_plan_14 : decode cX10_plan 14 = .ok (.iload 5, 2) := by decide +kernel
theorem dX10_plan_16 : decode cX10_plan 16 = .ok (.aload_n 0, 1) := by decide +kernel
theorem dX10_plan_17 : decode cX10_plan 17 = .ok (.getfield 84, 3) := by decide +kernel
theorem dX10_plan_20 : decode cX10_plan 20 = .ok (.if_icmp .ge 100, 3) := by decide +kernel
theorem dX10_plan_23 : decode cX10_plan 23 = .ok (.aload_n 0, 1) := by decide +kernel
theorem dX10_plan_24 : decode cX10_plan 24 = .ok (.getfield 50, 3) := by decide +kernel
theorem dX10_plan_27 : decode cX10_plan 27 = .ok (.iload 5, 2) := by decide +kernel
theorem dX10_plan_29 : decode cX10_plan 29 = .ok (.iaload, 1) := by decide +kernel
theorem dX10_plan_30 : decode cX10_plan 30 = .ok (.ifCond .lt 84, 3) := by decide +kernel
theorem dX10_plan_33 : decode cX10_plan 33 = .ok (.iload_n 2, 1) := by decide +kernel
theorem dX10_plan_34 : decode cX10_plan 34 = .ok (.aload_n 0, 1) := by decide +kernel
theorem dX10_plan_35 : decode cX10_plan 35 = .ok (.getfield 13, 3) := by decide +kernel
theorem dX10_plan_38 : decode cX10_plan 38 = .ok (.bipush 12, 2) := by decide +kernel
theorem dX10_plan_40 : decode cX10_plan 40 = .ok (.aload_n 0, 1) := by decide +kernel
theorem dX10_plan_41 : decode cX10_plan 41 = .ok (.getfield 23, 3) := by decide +kernel
theorem dX10_plan_44 : decode cX10_plan 44 = .ok (.iload 5, 2) := by decide +kernel
theorem dX10_plan_46 : decode cX10_plan 46 = .ok (.iaload, 1) := by decide +kernel
theorem dX10_plan_47 : decode cX10_plan 47 = .ok (.imul, 1) := by decide +kernel
theorem dX10_plan_48 : decode cX10_plan 48 = .ok (.aload_n 0, 1) := by decide +kernel
theorem dX10_plan_49 : decode cX10_plan 49 = .ok (.getfield 20, 3) := by decide +kernel
theorem dX10_plan_52 : decode cX10_plan 52 = .ok (.aload_n 0, 1) := by decide +kernel
theorem dX10_plan_53 : decode cX10_plan 53 = .ok (.getfield 50, 3) := by decide +kernel
theorem dX10_plan_56 : decode cX10_plan 56 = .ok (.iload 5, 2) := by decide +kernel
theorem dX10_plan_58 : decode cX10_plan 58 = .ok (.iaload, 1) := by decide +kernel
theorem dX10_plan_59 : decode cX10_plan 59 = .ok (.iaload, 1) := by decide +kernel
theorem dX10_plan_60 : decode cX10_plan 60 = .ok (.iadd, 1) := by decide +kernel
theorem dX10_plan_61 : decode cX10_plan 61 = .ok (.iaload, 1) := by decide +kernel
theorem dX10_plan_62 : decode cX10_plan 62 = .ok (.iadd, 1) := by decide +kernel
theorem dX10_plan_63 : decode cX10_plan 63 = .ok (.istore_n 2, 1) := by decide +kernel
theorem dX10_plan_64 : decode cX10_plan 64 = .ok (.aload_n 0, 1) := by decide +kernel
theorem dX10_plan_65 : decode cX10_plan 65 = .ok (.iload 5, 2) := by decide +kernel
theorem dX10_plan_67 : decode cX10_plan 67 = .ok (.invokevirtual 129, 3) := by decide +kernel
theorem dX10_plan_70 : decode cX10_plan 70 = .ok (.iload_n 3, 1) := by decide +kernel
theorem dX10_plan_71 : decode cX10_plan 71 = .ok (.if_icmp .le 12, 3) := by decide +kernel
theorem dX10_plan_74 : decode cX10_plan 74 = .ok (.aload_n 0, 1) := by decide +kernel
theorem dX10_plan_75 : decode cX10_plan 75 = .ok (.iload 5, 2) := by decide +kernel
theorem dX10_plan_77 : decode cX10_plan 77 = .ok (.invokevirtual 129, 3) := by decide +kernel
theorem dX10_plan_80 : decode cX10_plan 80 = .ok (.goto 4, 3) := by decide +kernel
theorem dX10_plan_83 : decode cX10_plan 83 = .ok (.iload_n 3, 1) := by decide +kernel
theorem dX10_plan_84 : decode cX10_plan 84 = .ok (.istore_n 3, 1) := by decide +kernel
theorem dX10_plan_85 : decode cX10_plan 85 = .ok (.iload 4, 2) := by decide +kernel
theorem dX10_plan_87 : decode cX10_plan 87 = .ok (.ifCond .lt 14, 3) := by decide +kernel
theorem dX10_plan_90 : decode cX10_plan 90 = .ok (.aload_n 0, 1) := by decide +kernel
theorem dX10_plan_91 : decode cX10_plan 91 = .ok (.iload 5, 2) := by decide +kernel
theorem dX10_plan_93 : decode cX10_plan 93 = .ok (.invokevirtual 129, 3) := by decide +kernel
theorem dX10_plan_96 : decode cX10_plan 96 = .ok (.iload 4, 2) := by decide +kernel
theorem dX10_plan_98 : decode cX10_plan 98 = .ok (.if_icmp .ge 12, 3) := by decide +kernel
theorem dX10_plan_101 : decode cX10_plan 101 = .ok (.aload_n 0, 1) := by decide +kernel
theorem dX10_plan_102 : decode cX10_plan 102 = .ok (.iload 5, 2) := by decide +kernel
theorem dX10_plan_104 : decode cX10_plan 104 = .ok (.invokevirtual 129, 3) := by decide +kernel
theorem dX10_plan_107 : decode cX10_plan 107 = .ok (.goto 5, 3) := by decide +kernel
theorem dX10_plan_110 : decode cX10_plan 110 = .ok (.iload 4, 2) := by decide +kernel
theorem dX10_plan_112 : decode cX10_plan 112 = .ok (.istore 4, 2) := by decide +kernel
theorem dX10_plan_114 : decode cX10_plan 114 = .ok (.iinc 5 1, 3) := by decide +kernel
theorem dX10_plan_117 : decode cX10_plan 117 = .ok (.goto (-103), 3) := by decide +kernel
theorem dX10_plan_120 : decode cX10_plan 120 = .ok (.iload_n 1, 1) := by decide +kernel
theorem dX10_plan_121 : decode cX10_plan 121 = .ok (.tableswitch 52 0 4 #[35, 40, 42, 47, 49], 35) := by decide +kernel
theorem dX10_plan_156 : decode cX10_plan 156 = .ok (.aload_n 0, 1) := by decide +kernel
theorem dX10_plan_157 : decode cX10_plan 157 = .ok (.getfield 116, 3) := by decide +kernel
theorem dX10_plan_160 : decode cX10_plan 160 = .ok (.ireturn, 1) := by decide +kernel
theorem dX10_plan_161 : decode cX10_plan 161 = .ok (.iload_n 2, 1) := by decide +kernel
theorem dX10_plan_162 : decode cX10_plan 162 = .ok (.ireturn, 1) := by decide +kernel
theorem dX10_plan_163 : decode cX10_plan 163 = .ok (.aload_n 0, 1) := by decide +kernel
theorem dX10_plan_164 : decode cX10_plan 164 = .ok (.getfield 119, 3) := by decide +kernel
theorem dX10_plan_167 : decode cX10_plan 167 = .ok (.ireturn, 1) := by decide +kernel
theorem dX10_plan_168 : decode cX10_plan 168 = .ok (.iload_n 3, 1) := by decide +kernel
theorem dX10_plan_169 : decode cX10_plan 169 = .ok (.ireturn, 1) := by decide +kernel
theorem dX10_plan_170 : decode cX10_plan 170 = .ok (.iload 4, 2) := by decide +kernel
theorem dX10_plan_172 : decode cX10_plan 172 = .ok (.ireturn, 1) := by decide +kernel
theorem dX10_plan_173 : decode cX10_plan 173 = .ok (.iconst (-1), 1) := by decide +kernel
theorem dX10_plan_174 : decode cX10_plan 174 = .ok (.ireturn, 1) := by decide +kernel
set_option maxRecDepth 20000 in
theorem g_X10_plan_0 {G : GX} {d : Nat} {Ret : Option AV → St → Prop} {R : Nat → List AV → List AV → St → Prop} (hM : AM G wdM (d + 1) mX10_plan Ret R) (v1 : Int) (σ : St)
    (h : conV G wdM d mX10_plans [vR 0] σ (fun σ1 => R 14 [vR 0, vI v1, vI 0, vI (-1), vI (-1), vI 0] [] σ1)) : R 0 [vR 0, vI v1, vN, vN, vN, vN] [] σ := by
  refine r_aload_n hM (pc' := 1) dX10_plan_0 rfl (x := 0) rfl ?_
  refine r_callVV hM (pc' := 4) [] dX10_plan_1 rfl ml_X10_126 wm_0 rfl rfl (Nat.le_of_ble_eq_true rfl) (conV.mono h (fun σ1 h => ?_))
  refine r_iconst hM (pc' := 5) dX10_plan_4 rfl (by decide) ?_
  refine r_istore_n hM (pc' := 6) dX10_plan_5 rfl (Nat.le_of_ble_eq_true rfl) rfl ?_
  show R 6 [vR 0, vI v1, vI 0, vN, vN, vN] _ _
  refine r_iconst hM (pc' := 7) dX10_plan_6 rfl (by decide) ?_
  refine r_istore_n hM (pc' := 8) dX10_plan_7 rfl (Nat.le_of_ble_eq_true rfl) rfl ?_
  show R 8 [vR 0, vI v1, vI 0, vI (-1), vN, vN] _ _
  refine r_iconst hM (pc' := 9) dX10_plan_8 rfl (by decide) ?_
  refine r_istore hM (pc' := 11) dX10_plan_9 rfl (Nat.le_of_ble_eq_true rfl) rfl ?_
  show R 11 [vR 0, vI v1, vI 0, vI (-1), vI (-1), vN] _ _
  refine r_iconst hM (pc' := 12) dX10_plan_11 rfl (by decide) ?_
  refine r_istore hM (pc' := 14) dX10_plan_12 rfl (Nat.le_of_ble_eq_true rfl) rfl ?_
  show R 14 [vR 0, vI v1, vI 0, vI (-1), vI (-1), vI 0] _ _
  exact h
set_option maxRecDepth 20000 in
theorem g_X10_plan_14 {G : GX} {d : Nat} {Ret : Option AV → St → Prop} {R : Nat → List AV → List AV → St → Prop} (hM : AM G wdM (d + 1) mX10_plan Ret R) (v1 : Int) (v2 : Int) (v3 : Int) (v4 : Int) (v5 : Int) (σ : St)
    (h : (((σ.1 0 3) ≤ v5 → ((v1 = 0 → Ret (some (vI (σ.1 0 15))) σ) ∧ (v1 = 1 → Ret (some (vI v2)) σ) ∧ (v1 = 2 → Ret (some (vI (σ.1 0 18))) σ) ∧ (v1 = 3 → Ret (some (vI v3)) σ) ∧ (v1 = 4 → Ret (some (vI v4)) σ) ∧ (¬ (0 ≤ v1 ∧ v1 ≤ 4) → Ret (some (vI (-1))) σ))) ∧ (¬ (σ.1 0 3) ≤ v5 → ((0 ≤ v5 ∧ v5 < 16) ∧ (((σ.1 9 (v5).toNat) < 0 → (r32 (v5 + 1) ∧ R 14 [vR 0, vI v1, vI v2, vI v3, vI v4, vI (v5 + 1)] [] σ)) ∧ (¬ (σ.1 9 (v5).toNat) < 0 → (r32 (12 * (σ.1 5 (v5).toNat)) ∧ ((0 ≤ (σ.1 9 (v5).toNat) ∧ (σ.1 9 (v5).toNat) < 16) ∧ (r32 ((12 * (σ.1 5 (v5).toNat)) + (σ.1 4 ((σ.1 9 (v5).toNat)).toNat)) ∧ ((0 ≤ ((12 * (σ.1 5 (v5).toNat)) + (σ.1 4 ((σ.1 9 (v5).toNat)).toNat)) ∧ ((12 * (σ.1 5 (v5).toNat)) + (σ.1 4 ((σ.1 9 (v5).toNat)).toNat)) < 144) ∧ (r32 (v2 + (σ.1 2 (((12 * (σ.1 5 (v5).toNat)) + (σ.1 4 ((σ.1 9 (v5).toNat)).toNat))).toNat)) ∧ (∀ u1, u1 = (v2 + (σ.1 2 (((12 * (σ.1 5 (v5).toNat)) + (σ.1 4 ((σ.1 9 (v5).toNat)).toNat))).toNat)) → conI G wdM d mX10_slack [vR 0, vI v5] σ (fun x1 σ1 => ((x1 ≤ v3 → R 84 [vR 0, vI v1, vI u1, vN, vI v4, vI v5] [vI v3] σ1) ∧ (¬ x1 ≤ v3 → conI G wdM d mX10_slack [vR 0, vI v5] σ1 (fun x2 σ2 => R 84 [vR 0, vI v1, vI u1, vN, vI v4, vI v5] [vI x2] σ2)))))))))))))))) : R 14 [vR 0, vI v1, vI v2, vI v3, vI v4, vI v5] [] σ := by
  refine r_iload hM (pc' := 16) dX10_plan_14 rfl (x := v5) rfl ?_
  refine r_aload_n hM (pc' := 17) dX10_plan_16 rfl (x := 0) rfl ?_
  refine r_getI hM (pc' := 20) dX10_plan_17 rfl fl_X10_84 wm_0 rfl ?_
  refine r_icmp_ge hM (pc' := 23) (tgt := 120) dX10_plan_20 rfl (by decide) (fun c => ?_) (fun c => ?_)
  · have h := h.1 c
    refine r_iload_n hM (pc' := 121) dX10_plan_120 rfl (x := v1) rfl ?_
    refine r_table hM (tgt := 173) [156, 161, 163, 168, 170] dX10_plan_121 rfl (by decide) (by decide) ⟨fun c => ?_, fun c => ?_, fun c => ?_, fun c => ?_, fun c => ?_, trivial⟩ (fun c => ?_)
    · have h := h.1 (by omega)
      refine r_aload_n hM (pc' := 157) dX10_plan_156 rfl (x := 0) rfl ?_
      refine r_getI hM (pc' := 160) dX10_plan_157 rfl fl_X10_116 wm_0 rfl ?_
      exact r_ireturn hM dX10_plan_160 rfl h
    · have h := h.2.1 (by omega)
      refine r_iload_n hM (pc' := 162) dX10_plan_161 rfl (x := v2) rfl ?_
      exact r_ireturn hM dX10_plan_162 rfl h
    · have h := h.2.2.1 (by omega)
      refine r_aload_n hM (pc' := 164) dX10_plan_163 rfl (x := 0) rfl ?_
      refine r_getI hM (pc' := 167) dX10_plan_164 rfl fl_X10_119 wm_0 rfl ?_
      exact r_ireturn hM dX10_plan_167 rfl h
    · have h := h.2.2.2.1 (by omega)
      refine r_iload_n hM (pc' := 169) dX10_plan_168 rfl (x := v3) rfl ?_
      exact r_ireturn hM dX10_plan_169 rfl h
    · have h := h.2.2.2.2.1 (by omega)
      refine r_iload hM (pc' := 172) dX10_plan_170 rfl (x := v4) rfl ?_
      exact r_ireturn hM dX10_plan_172 rfl h
    · have h := h.2.2.2.2.2 c
      refine r_iconst hM (pc' := 174) dX10_plan_173 rfl (by decide) ?_
      exact r_ireturn hM dX10_plan_174 rfl h
  · have h := h.2 c
    refine r_aload_n hM (pc' := 24) dX10_plan_23 rfl (x := 0) rfl ?_
    refine r_getR hM (pc' := 27) dX10_plan_24 rfl fl_X10_50 wm_0 rfl ?_
    refine r_iload hM (pc' := 29) dX10_plan_27 rfl (x := v5) rfl ?_
    have o1 := h.1
    have h := h.2
    refine r_iaload hM (pc' := 30) dX10_plan_29 rfl wm_9 o1 ?_
    refine r_if_lt hM (pc' := 33) (tgt := 114) dX10_plan_30 rfl (by decide) (fun c => ?_) (fun c => ?_)
    · have h := h.1 c
      have o2 := h.1
      have h := h.2
      refine r_iinc hM (pc' := 117) dX10_plan_114 rfl (x := v5) rfl rfl o2 ?_
      show R 117 [vR 0, vI v1, vI v2, vI v3, vI v4, vI (v5 + 1)] _ _
      refine r_goto hM (tgt := 14) dX10_plan_117 (by decide) ?_
      exact h
    · have h := h.2 c
      refine r_iload_n hM (pc' := 34) dX10_plan_33 rfl (x := v2) rfl ?_
      refine r_aload_n hM (pc' := 35) dX10_plan_34 rfl (x := 0) rfl ?_
      refine r_getR hM (pc' := 38) dX10_plan_35 rfl fl_X10_13 wm_0 rfl ?_
      refine r_bipush hM (pc' := 40) dX10_plan_38 rfl (by decide) (by decide) ?_
      refine r_aload_n hM (pc' := 41) dX10_plan_40 rfl (x := 0) rfl ?_
      refine r_getR hM (pc' := 44) dX10_plan_41 rfl fl_X10_23 wm_0 rfl ?_
      refine r_iload hM (pc' := 46) dX10_plan_44 rfl (x := v5) rfl ?_
      refine r_iaload hM (pc' := 47) dX10_plan_46 rfl wm_5 o1 ?_
      have o3 := h.1
      have h := h.2
      refine r_imul hM (pc' := 48) dX10_plan_47 rfl o3 ?_
      refine r_aload_n hM (pc' := 49) dX10_plan_48 rfl (x := 0) rfl ?_
      refine r_getR hM (pc' := 52) dX10_plan_49 rfl fl_X10_20 wm_0 rfl ?_
      refine r_aload_n hM (pc' := 53) dX10_plan_52 rfl (x := 0) rfl ?_
      refine r_getR hM (pc' := 56) dX10_plan_53 rfl fl_X10_50 wm_0 rfl ?_
      refine r_iload hM (pc' := 58) dX10_plan_56 rfl (x := v5) rfl ?_
      refine r_iaload hM (pc' := 59) dX10_plan_58 rfl wm_9 o1 ?_
      have o4 := h.1
      have h := h.2
      refine r_iaload hM (pc' := 60) dX10_plan_59 rfl wm_4 o4 ?_
      have o5 := h.1
      have h := h.2
      refine r_iadd hM (pc' := 61) dX10_plan_60 rfl o5 ?_
      have o6 := h.1
      have h := h.2
      refine r_iaload hM (pc' := 62) dX10_plan_61 rfl wm_2 o6 ?_
      have o7 := h.1
      have h := h.2
      refine r_iadd hM (pc' := 63) dX10_plan_62 rfl o7 ?_
      refine r_istore_nN hM (pc' := 64) dX10_plan_63 rfl (Nat.le_of_ble_eq_true rfl) rfl (fun u1 eu1 => ?_)
      have h := h u1 eu1
      show R 64 [vR 0, vI v1, vI u1, vI v3, vI v4, vI v5] _ _
      refine r_aload_n hM (pc' := 65) dX10_plan_64 rfl (x := 0) rfl ?_
      refine r_iload hM (pc' := 67) dX10_plan_65 rfl (x := v5) rfl ?_
      refine r_callVI hM (pc' := 70) [vI v5] dX10_plan_67 rfl ml_X10_129 wm_0 rfl rfl (Nat.le_of_ble_eq_true rfl) (conI.mono h (fun x1 σ1 h => ?_))
      refine r_iload_n hM (pc' := 71) dX10_plan_70 rfl (x := v3) rfl ?_
      refine r_icmp_le hM (pc' := 74) (tgt := 83) dX10_plan_71 rfl (by decide) (fun c => ?_) (fun c => ?_)
      · have h := h.1 c
        refine r_iload_n hM (pc' := 84) dX10_plan_83 rfl (x := v3) rfl ?_
        refine r_weak hM (ls' := [vR 0, vI v1, vI u1, vN, vI v4, vI v5]) ⟨Or.inl rfl, Or.inl rfl, Or.inl rfl, Or.inr rfl, Or.inl rfl, Or.inl rfl, trivial⟩ ?_
        exact h
      · have h := h.2 c
        refine r_aload_n hM (pc' := 75) dX10_plan_74 rfl (x := 0) rfl ?_
        refine r_iload hM (pc' := 77) dX10_plan_75 rfl (x := v5) rfl ?_
        refine r_callVI hM (pc' := 80) [vI v5] dX10_plan_77 rfl ml_X10_129 wm_0 rfl rfl (Nat.le_of_ble_eq_true rfl) (conI.mono h (fun x2 σ2 h => ?_))
        refine r_goto hM (tgt := 84) dX10_plan_80 (by decide) ?_
        refine r_weak hM (ls' := [vR 0, vI v1, vI u1, vN, vI v4, vI v5]) ⟨Or.inl rfl, Or.inl rfl, Or.inl rfl, Or.inr rfl, Or.inl rfl, Or.inl rfl, trivial⟩ ?_
        exact h
set_option maxRecDepth 20000 in
theorem g_X10_plan_84 {G : GX} {d : Nat} {Ret : Option AV → St → Prop} {R : Nat → List AV → List AV → St → Prop} (hM : AM G wdM (d + 1) mX10_plan Ret R) (v1 : Int) (v2 : Int) (v4 : Int) (v5 : Int) (w0 : Int) (σ : St)
    (h : ((v4 < 0 → conI G wdM d mX10_slack [vR 0, vI v5] σ (fun x1 σ1 => (r32 (v5 + 1) ∧ R 14 [vR 0, vI v1, vI v2, vI w0, vI x1, vI (v5 + 1)] [] σ1))) ∧ (¬ v4 < 0 → conI G wdM d mX10_slack [vR 0, vI v5] σ (fun x2 σ2 => ((v4 ≤ x2 → (r32 (v5 + 1) ∧ R 14 [vR 0, vI v1, vI v2, vI w0, vI v4, vI (v5 + 1)] [] σ2)) ∧ (¬ v4 ≤ x2 → conI G wdM d mX10_slack [vR 0, vI v5] σ2 (fun x3 σ3 => (r32 (v5 + 1) ∧ R 14 [vR 0, vI v1, vI v2, vI w0, vI x3, vI (v5 + 1)] [] σ3)))))))) : R 84 [vR 0, vI v1, vI v2, vN, vI v4, vI v5] [vI w0] σ := by
  refine r_istore_n hM (pc' := 85) dX10_plan_84 rfl (Nat.le_of_ble_eq_true rfl) rfl ?_
  show R 85 [vR 0, vI v1, vI v2, vI w0, vI v4, vI v5] _ _
  refine r_iload hM (pc' := 87) dX10_plan_85 rfl (x := v4) rfl ?_
  refine r_if_lt hM (pc' := 90) (tgt := 101) dX10_plan_87 rfl (by decide) (fun c => ?_) (fun c => ?_)
  · have h := h.1 c
    refine r_aload_n hM (pc' := 102) dX10_plan_101 rfl (x := 0) rfl ?_
    refine r_iload hM (pc' := 104) dX10_plan_102 rfl (x := v5) rfl ?_
    refine r_callVI hM (pc' := 107) [vI v5] dX10_plan_104 rfl ml_X10_129 wm_0 rfl rfl (Nat.le_of_ble_eq_true rfl) (conI.mono h (fun x1 σ1 h => ?_))
    refine r_goto hM (tgt := 112) dX10_plan_107 (by decide) ?_
    refine r_istore hM (pc' := 114) dX10_plan_112 rfl (Nat.le_of_ble_eq_true rfl) rfl ?_
    show R 114 [vR 0, vI v1, vI v2, vI w0, vI x1, vI v5] _ _
    have o1 := h.1
    have h := h.2
    refine r_iinc hM (pc' := 117) dX10_plan_114 rfl (x := v5) rfl rfl o1 ?_
    show R 117 [vR 0, vI v1, vI v2, vI w0, vI x1, vI (v5 + 1)] _ _
    refine r_goto hM (tgt := 14) dX10_plan_117 (by decide) ?_
    exact h
  · have h := h.2 c
    refine r_aload_n hM (pc' := 91) dX10_plan_90 rfl (x := 0) rfl ?_
    refine r_iload hM (pc' := 93) dX10_plan_91 rfl (x := v5) rfl ?_
    refine r_callVI hM (pc' := 96) [vI v5] dX10_plan_93 rfl ml_X10_129 wm_0 rfl rfl (Nat.le_of_ble_eq_true rfl) (conI.mono h (fun x2 σ2 h => ?_))
    refine r_iload hM (pc' := 98) dX10_plan_96 rfl (x := v4) rfl ?_
    refine r_icmp_ge hM (pc' := 101) (tgt := 110) dX10_plan_98 rfl (by decide) (fun c => ?_) (fun c => ?_)
    · have h := h.1 c
      refine r_iload hM (pc' := 112) dX10_plan_110 rfl (x := v4) rfl ?_
      refine r_istore hM (pc' := 114) dX10_plan_112 rfl (Nat.le_of_ble_eq_true rfl) rfl ?_
      show R 114 [vR 0, vI v1, vI v2, vI w0, vI v4, vI v5] _ _
      have o2 := h.1
      have h := h.2
      refine r_iinc hM (pc' := 117) dX10_plan_114 rfl (x := v5) rfl rfl o2 ?_
      show R 117 [vR 0, vI v1, vI v2, vI w0, vI v4, vI (v5 + 1)] _ _
      refine r_goto hM (tgt := 14) dX10_plan_117 (by decide) ?_
      exact h
    · have h := h.2 c
      refine r_aload_n hM (pc' := 102) dX10_plan_101 rfl (x := 0) rfl ?_
      refine r_iload hM (pc' := 104) dX10_plan_102 rfl (x := v5) rfl ?_
      refine r_callVI hM (pc' := 107) [vI v5] dX10_plan_104 rfl ml_X10_129 wm_0 rfl rfl (Nat.le_of_ble_eq_true rfl) (conI.mono h (fun x3 σ3 h => ?_))
      refine r_goto hM (tgt := 112) dX10_plan_107 (by decide) ?_
      refine r_istore hM (pc' := 114) dX10_plan_112 rfl (Nat.le_of_ble_eq_true rfl) rfl ?_
      show R 114 [vR 0, vI v1, vI v2, vI w0, vI x3, vI v5] _ _
      have o3 := h.1
      have h := h.2
      refine r_iinc hM (pc' := 117) dX10_plan_114 rfl (x := v5) rfl rfl o3 ?_
      show R 117 [vR 0, vI v1, vI v2, vI w0, vI x3, vI (v5 + 1)] _ _
      refine r_goto hM (tgt := 14) dX10_plan_117 (by decide) ?_
      exact h
theorem dX10_block_0 : decode cX10_block 0 = .ok (.aload_n 0, 1) := by decide +kernel
theorem dX10_block_1 : decode cX10_block 1 = .ok (.invokevirtual 126, 3) := by decide +kernel
theorem dX10_block_4 : decode cX10_block 4 = .ok (.iload_n 1, 1) := by decide +kernel
theorem dX10_block_5 : decode cX10_block 5 = .ok (.iconst 0, 1) := by decide +kernel
theorem dX10_block_6 : decode cX10_block 6 = .ok (.aload_n 0, 1) := by decide +kernel
theorem dX10_block_7 : decode cX10_block 7 = .ok (.getfield 116, 3) := by decide +kernel
theorem dX10_block_10 : decode cX10_block 10 = .ok (.iconst 1, 1) := by decide +kernel
theorem dX10_block_11 : decode cX10_block 11 = .ok (.isub, 1) := by decide +kernel
theorem dX10_block_12 : decode cX10_block 12 = .ok (.invokestatic 80, 3) := by decide +kernel
theorem dX10_block_15 : decode cX10_block 15 = .ok (.ifCond .eq 7, 3) := by decide +kernel
theorem dX10_block_18 : decode cX10_block 18 = .ok (.iload_n 2, 1) := by decide +kernel
theorem dX10_block_19 : decode cX10_block 19 = .ok (.ifCond .ge 5, 3) := by decide +kernel
theorem dX10_block_22 : decode cX10_block 22 = .ok (.iconst (-1), 1) := by decide +kernel
theorem dX10_block_23 : decode cX10_block 23 = .ok (.ireturn, 1) := by decide +kernel
theorem dX10_block_24 : decode cX10_block 24 = .ok (.aload_n 0, 1) := by decide +kernel
theorem dX10_block_25 : decode cX10_block 25 = .ok (.getfield 53, 3) := by decide +kernel
theorem dX10_block_28 : decode cX10_block 28 = .ok (.iload_n 1, 1) := by decide +kernel
theorem dX10_block_29 : decode cX10_block 29 = .ok (.iaload, 1) := by decide +kernel
theorem dX10_block_30 : decode cX10_block 30 = .ok (.istore_n 3, 1) := by decide +kernel
theorem dX10_block_31 : decode cX10_block 31 = .ok (.iconst 0, 1) := by decide +kernel
theorem dX10_block_32 : decode cX10_block 32 = .ok (.istore 4, 2) := by decide +kernel
theorem dX10_block_34 : decode cX10_block 34 = .ok (.iload 4, 2) := by decide +kernel
theorem dX10_block_36 : decode cX10_block 36 = .ok (.iload_n 2, 1) := by decide +kernel
theorem dX10_block_37 : decode cX10_block 37 = .ok (.if_icmp .ge 20, 3) := by decide +kernel
theorem dX10_block_40 : decode cX10_block 40 = .ok (.iload_n 3, 1) := by decide +kernel
theorem dX10_block_41 : decode cX10_block 41 = .ok (.ifCond .lt 16, 3) := by decide +kernel
theorem dX10_block_44 : decode cX10_block 44 = .ok (.aload_n 0, 1) := by decide +kernel
theorem dX10_block_45 : decode cX10_block 45 = .ok (.getfield 50, 3) := by decide +kernel
theorem dX10_block_48 : decode cX10_block 48 = .ok (.iload_n 3, 1) := by decide +kernel
theorem dX10_block_49 : decode cX10_block 49 = .ok (.iaload, 1) := by decide +kernel
theorem dX10_block_50 : decode cX10_block 50 = .ok (.istore_n 3, 1) := by decide +kernel
theorem dX10_block_51 : decode cX10_block 51 = .ok (.iinc 4 1, 3) := by decide +kernel
theorem dX10_block_54 : decode cX10_block 54 = .ok (.goto (-20), 3) := by decide +kernel
theorem dX10_block_57 : decode cX10_block 57 = .ok (.iload_n 3, 1) := by decide +kernel
theorem dX10_block_58 : decode cX10_block 58 = .ok (.ireturn, 1) := by decide +kernel
set_option maxRecDepth 20000 in
theorem g_X10_block_0 {G : GX} {d : Nat} {Ret : Option AV → St → Prop} {R : Nat → List AV → List AV → St → Prop} (hM : AM G wdM (d + 1) mX10_block Ret R) (v1 : Int) (v2 : Int) (σ : St)
    (h : conV G wdM d mX10_plans [vR 0] σ (fun σ1 => (r32 ((σ1.1 0 15) - 1) ∧ conI G wdM d mX10_in [vI v1, vI 0, vI ((σ1.1 0 15) - 1)] σ1 (fun x2 σ2 => ((x2 = 0 → Ret (some (vI (-1))) σ2) ∧ (¬ x2 = 0 → ((0 ≤ v2 → ((0 ≤ v1 ∧ v1 < 16) ∧ R 34 [vR 0, vN, vI v2, vI (σ2.1 10 (v1).toNat), vI 0] [] σ2)) ∧ (¬ 0 ≤ v2 → Ret (some (vI (-1))) σ2)))))))) : R 0 [vR 0, vI v1, vI v2, vN, vN] [] σ := by
  refine r_aload_n hM (pc' := 1) dX10_block_0 rfl (x := 0) rfl ?_
  refine r_callVV hM (pc' := 4) [] dX10_block_1 rfl ml_X10_126 wm_0 rfl rfl (Nat.le_of_ble_eq_true rfl) (conV.mono h (fun σ1 h => ?_))
  refine r_iload_n hM (pc' := 5) dX10_block_4 rfl (x := v1) rfl ?_
  refine r_iconst hM (pc' := 6) dX10_block_5 rfl (by decide) ?_
  refine r_aload_n hM (pc' := 7) dX10_block_6 rfl (x := 0) rfl ?_
  refine r_getI hM (pc' := 10) dX10_block_7 rfl fl_X10_116 wm_0 rfl ?_
  refine r_iconst hM (pc' := 11) dX10_block_10 rfl (by decide) ?_
  have o1 := h.1
  have h := h.2
  refine r_isub hM (pc' := 12) dX10_block_11 rfl o1 ?_
  refine r_callSI hM (pc' := 15) [vI v1, vI 0, vI ((σ1.1 0 15) - 1)] dX10_block_12 rfl ml_X10_80 rfl rfl (Nat.le_of_ble_eq_true rfl) (conI.mono h (fun x2 σ2 h => ?_))
  refine r_if_eq hM (pc' := 18) (tgt := 22) dX10_block_15 rfl (by decide) (fun c => ?_) (fun c => ?_)
  · have h := h.1 c
    refine r_iconst hM (pc' := 23) dX10_block_22 rfl (by decide) ?_
    exact r_ireturn hM dX10_block_23 rfl h
  · have h := h.2 c
    refine r_iload_n hM (pc' := 19) dX10_block_18 rfl (x := v2) rfl ?_
    refine r_if_ge hM (pc' := 22) (tgt := 24) dX10_block_19 rfl (by decide) (fun c => ?_) (fun c => ?_)
    · have h := h.1 c
      refine r_aload_n hM (pc' := 25) dX10_block_24 rfl (x := 0) rfl ?_
      refine r_getR hM (pc' := 28) dX10_block_25 rfl fl_X10_53 wm_0 rfl ?_
      refine r_iload_n hM (pc' := 29) dX10_block_28 rfl (x := v1) rfl ?_
      have o2 := h.1
      have h := h.2
      refine r_iaload hM (pc' := 30) dX10_block_29 rfl wm_10 o2 ?_
      refine r_istore_n hM (pc' := 31) dX10_block_30 rfl (Nat.le_of_ble_eq_true rfl) rfl ?_
      show R 31 [vR 0, vI v1, vI v2, vI (σ2.1 10 (v1).toNat), vN] _ _
      refine r_iconst hM (pc' := 32) dX10_block_31 rfl (by decide) ?_
      refine r_istore hM (pc' := 34) dX10_block_32 rfl (Nat.le_of_ble_eq_true rfl) rfl ?_
      show R 34 [vR 0, vI v1, vI v2, vI (σ2.1 10 (v1).toNat), vI 0] _ _
      refine r_weak hM (ls' := [vR 0, vN, vI v2, vI (σ2.1 10 (v1).toNat), vI 0]) ⟨Or.inl rfl, Or.inr rfl, Or.inl rfl, Or.inl rfl, Or.inl rfl, trivial⟩ ?_
      exact h
    · have h := h.2 c
      refine r_iconst hM (pc' := 23) dX10_block_22 rfl (by decide) ?_
      exact r_ireturn hM dX10_block_23 rfl h
set_option maxRecDepth 20000 in
theorem g_X10_block_34 {G : GX} {d : Nat} {Ret : Option AV → St → Prop} {R : Nat → List AV → List AV → St → Prop} (hM : AM G wdM (d + 1) mX10_block Ret R) (v2 : Int) (v3 : Int) (v4 : Int) (σ : St)
    (h : ((v2 ≤ v4 → Ret (some (vI v3)) σ) ∧ (¬ v2 ≤ v4 → ((v3 < 0 → Ret (some (vI v3)) σ) ∧ (¬ v3 < 0 → ((0 ≤ v3 ∧ v3 < 16) ∧ (r32 (v4 + 1) ∧ R 34 [vR 0, vN, vI v2, vI (σ.1 9 (v3).toNat), vI (v4 + 1)] [] σ))))))) : R 34 [vR 0, vN, vI v2, vI v3, vI v4] [] σ := by
  refine r_iload hM (pc' := 36) dX10_block_34 rfl (x := v4) rfl ?_
  refine r_iload_n hM (pc' := 37) dX10_block_36 rfl (x := v2) rfl ?_
  refine r_icmp_ge hM (pc' := 40) (tgt := 57) dX10_block_37 rfl (by decide) (fun c => ?_) (fun c => ?_)
  · have h := h.1 c
    refine r_iload_n hM (pc' := 58) dX10_block_57 rfl (x := v3) rfl ?_
    exact r_ireturn hM dX10_block_58 rfl h
  · have h := h.2 c
    refine r_iload_n hM (pc' := 41) dX10_block_40 rfl (x := v3) rfl ?_
    refine r_if_lt hM (pc' := 44) (tgt := 57) dX10_block_41 rfl (by decide) (fun c => ?_) (fun c => ?_)
    · have h := h.1 c
      refine r_iload_n hM (pc' := 58) dX10_block_57 rfl (x := v3) rfl ?_
      exact r_ireturn hM dX10_block_58 rfl h
    · have h := h.2 c
      refine r_aload_n hM (pc' := 45) dX10_block_44 rfl (x := 0) rfl ?_
      refine r_getR hM (pc' := 48) dX10_block_45 rfl fl_X10_50 wm_0 rfl ?_
      refine r_iload_n hM (pc' := 49) dX10_block_48 rfl (x := v3) rfl ?_
      have o1 := h.1
      have h := h.2
      refine r_iaload hM (pc' := 50) dX10_block_49 rfl wm_9 o1 ?_
      refine r_istore_n hM (pc' := 51) dX10_block_50 rfl (Nat.le_of_ble_eq_true rfl) rfl ?_
      show R 51 [vR 0, vN, vI v2, vI (σ.1 9 (v3).toNat), vI v4] _ _
      have o2 := h.1
      have h := h.2
      refine r_iinc hM (pc' := 54) dX10_block_51 rfl (x := v4) rfl rfl o2 ?_
      show R 54 [vR 0, vN, vI v2, vI (σ.1 9 (v3).toNat), vI (v4 + 1)] _ _
      refine r_goto hM (tgt := 34) dX10_block_54 (by decide) ?_
      exact h
theorem dX10_planned_0 : decode cX10_planned 0 = .ok (.aload_n 0, 1) := by decide +kernel
theorem dX10_planned_1 : decode cX10_planned 1 = .ok (.invokevirtual 126, 3) := by decide +kernel
theorem dX10_planned_4 : decode cX10_planned 4 = .ok (.aload_n 0, 1) := by decide +kernel
theorem dX10_planned_5 : decode cX10_planned 5 = .ok (.iload_n 1, 1) := by decide +kernel
theorem dX10_planned_6 : decode cX10_planned 6 = .ok (.invokevirtual 97, 3) := by decide +kernel
theorem dX10_planned_9 : decode cX10_planned 9 = .ok (.ifCond .ne 5, 3) := by decide +kernel
theorem dX10_planned_12 : decode cX10_planned 12 = .ok (.iconst (-1), 1) := by decide +kernel
theorem dX10_planned_13 : decode cX10_planned 13 = .ok (.ireturn, 1) := by decide +kernel
theorem dX10_planned_14 : decode cX10_planned 14 = .ok (.iload_n 2, 1) := by decide +kernel
theorem dX10_planned_15 : decode cX10_planned 15 = .ok (.ifCond .ne 12, 3) := by decide +kernel
theorem dX10_planned_18 : decode cX10_planned 18 = .ok (.aload_n 0, 1) := by decide +kernel
theorem dX10_planned_19 : decode cX10_planned 19 = .ok (.getfield 56, 3) := by decide +kernel
theorem dX10_planned_22 : decode cX10_planned 22 = .ok (.iload_n 1, 1) := by decide +kernel
theorem dX10_planned_23 : decode cX10_planned 23 = .ok (.iaload, 1) := by decide +kernel
theorem dX10_planned_24 : decode cX10_planned 24 = .ok (.goto 45, 3) := by decide +kernel
theorem dX10_planned_27 : decode cX10_planned 27 = .ok (.iload_n 2, 1) := by decide +kernel
theorem dX10_planned_28 : decode cX10_planned 28 = .ok (.iconst 1, 1) := by decide +kernel
theorem dX10_planned_29 : decode cX10_planned 29 = .ok (.if_icmp .ne 12, 3) := by decide +kernel
theorem dX10_planned_32 : decode cX10_planned 32 = .ok (.aload_n 0, 1) := by decide +kernel
theorem dX10_planned_33 : decode cX10_planned 33 = .ok (.getfield 50, 3) := by decide +kernel
theorem dX10_planned_36 : decode cX10_planned 36 = .ok (.iload_n 1, 1) := by decide +kernel
theorem dX10_planned_37 : decode cX10_planned 37 = .ok (.iaload, 1) := by decide +kernel
theorem dX10_planned_38 : decode cX10_planned 38 = .ok (.goto 31, 3) := by decide +kernel
theorem dX10_planned_41 : decode cX10_planned 41 = .ok (.iload_n 2, 1) := by decide +kernel
theorem dX10_planned_42 : decode cX10_planned 42 = .ok (.iconst 2, 1) := by decide +kernel
theorem dX10_planned_43 : decode cX10_planned 43 = .ok (.if_icmp .ne 11, 3) := by decide +kernel
theorem dX10_planned_46 : decode cX10_planned 46 = .ok (.aload_n 0, 1) := by decide +kernel
theorem dX10_planned_47 : decode cX10_planned 47 = .ok (.iload_n 1, 1) := by decide +kernel
theorem dX10_planned_48 : decode cX10_planned 48 = .ok (.invokevirtual 129, 3) := by decide +kernel
theorem dX10_planned_51 : decode cX10_planned 51 = .ok (.goto 18, 3) := by decide +kernel
theorem dX10_planned_54 : decode cX10_planned 54 = .ok (.iload_n 2, 1) := by decide +kernel
theorem dX10_planned_55 : decode cX10_planned 55 = .ok (.iconst 3, 1) := by decide +kernel
theorem dX10_planned_56 : decode cX10_planned 56 = .ok (.if_icmp .ne 12, 3) := by decide +kernel
theorem dX10_planned_59 : decode cX10_planned 59 = .ok (.aload_n 0, 1) := by decide +kernel
theorem dX10_planned_60 : decode cX10_planned 60 = .ok (.getfield 71, 3) := by decide +kernel
theorem dX10_planned_63 : decode cX10_planned 63 = .ok (.iload_n 1, 1) := by decide +kernel
theorem dX10_planned_64 : decode cX10_planned 64 = .ok (.iaload, 1) := by decide +kernel
theorem dX10_planned_65 : decode cX10_planned 65 = .ok (.goto 4, 3) := by decide +kernel
theorem dX10_planned_68 : decode cX10_planned 68 = .ok (.iconst (-1), 1) := by decide +kernel
theorem dX10_planned_69 : decode cX10_planned 69 = .ok (.ireturn, 1) := by decide +kernel
set_option maxRecDepth 20000 in
theorem g_X10_planned_0 {G : GX} {d : Nat} {Ret : Option AV → St → Prop} {R : Nat → List AV → List AV → St → Prop} (hM : AM G wdM (d + 1) mX10_planned Ret R) (v1 : Int) (v2 : Int) (σ : St)
    (h : conV G wdM d mX10_plans [vR 0] σ (fun σ1 => conI G wdM d mX10_isTrip [vR 0, vI v1] σ1 (fun x2 σ2 => ((¬ x2 = 0 → ((¬ v2 = 0 → ((¬ v2 = 1 → ((¬ v2 = 2 → ((¬ v2 = 3 → Ret (some (vI (-1))) σ2) ∧ (v2 = 3 → ((0 ≤ v1 ∧ v1 < 16) ∧ Ret (some (vI (σ2.1 16 (v1).toNat))) σ2)))) ∧ (v2 = 2 → conI G wdM d mX10_slack [vR 0, vI v1] σ2 (fun x3 σ3 => Ret (some (vI x3)) σ3)))) ∧ (v2 = 1 → ((0 ≤ v1 ∧ v1 < 16) ∧ Ret (some (vI (σ2.1 9 (v1).toNat))) σ2)))) ∧ (v2 = 0 → ((0 ≤ v1 ∧ v1 < 16) ∧ Ret (some (vI (σ2.1 11 (v1).toNat))) σ2)))) ∧ (x2 = 0 → Ret (some (vI (-1))) σ2))))) : R 0 [vR 0, vI v1, vI v2] [] σ := by
  refine r_aload_n hM (pc' := 1) dX10_planned_0 rfl (x := 0) rfl ?_
  refine r_callVV hM (pc' := 4) [] dX10_planned_1 rfl ml_X10_126 wm_0 rfl rfl (Nat.le_of_ble_eq_true rfl) (conV.mono h (fun σ1 h => ?_))
  refine r_aload_n hM (pc' := 5) dX10_planned_4 rfl (x := 0) rfl ?_
  refine r_iload_n hM (pc' := 6) dX10_planned_5 rfl (x := v1) rfl ?_
  refine r_callVI hM (pc' := 9) [vI v1] dX10_planned_6 rfl ml_X10_97 wm_0 rfl rfl (Nat.le_of_ble_eq_true rfl) (conI.mono h (fun x2 σ2 h => ?_))
  refine r_if_ne hM (pc' := 12) (tgt := 14) dX10_planned_9 rfl (by decide) (fun c => ?_) (fun c => ?_)
  · have h := h.1 c
    refine r_iload_n hM (pc' := 15) dX10_planned_14 rfl (x := v2) rfl ?_
    refine r_if_ne hM (pc' := 18) (tgt := 27) dX10_planned_15 rfl (by decide) (fun c => ?_) (fun c => ?_)
    · have h := h.1 c
      refine r_iload_n hM (pc' := 28) dX10_planned_27 rfl (x := v2) rfl ?_
      refine r_iconst hM (pc' := 29) dX10_planned_28 rfl (by decide) ?_
      refine r_icmp_ne hM (pc' := 32) (tgt := 41) dX10_planned_29 rfl (by decide) (fun c => ?_) (fun c => ?_)
      · have h := h.1 c
        refine r_iload_n hM (pc' := 42) dX10_planned_41 rfl (x := v2) rfl ?_
        refine r_iconst hM (pc' := 43) dX10_planned_42 rfl (by decide) ?_
        refine r_icmp_ne hM (pc' := 46) (tgt := 54) dX10_planned_43 rfl (by decide) (fun c => ?_) (fun c => ?_)
        · have h := h.1 c
          refine r_iload_n hM (pc' := 55) dX10_planned_54 rfl (x := v2) rfl ?_
          refine r_iconst hM (pc' := 56) dX10_planned_55 rfl (by decide) ?_
          refine r_icmp_ne hM (pc' := 59) (tgt := 68) dX10_planned_56 rfl (by decide) (fun c => ?_) (fun c => ?_)
          · have h := h.1 c
            refine r_iconst hM (pc' := 69) dX10_planned_68 rfl (by decide) ?_
            exact r_ireturn hM dX10_planned_69 rfl h
          · have h := h.2 c
            refine r_aload_n hM (pc' := 60) dX10_planned_59 rfl (x := 0) rfl ?_
            refine r_getR hM (pc' := 63) dX10_planned_60 rfl fl_X10_71 wm_0 rfl ?_
            refine r_iload_n hM (pc' := 64) dX10_planned_63 rfl (x := v1) rfl ?_
            have o1 := h.1
            have h := h.2
            refine r_iaload hM (pc' := 65) dX10_planned_64 rfl wm_16 o1 ?_
            refine r_goto hM (tgt := 69) dX10_planned_65 (by decide) ?_
            exact r_ireturn hM dX10_planned_69 rfl h
        · have h := h.2 c
          refine r_aload_n hM (pc' := 47) dX10_planned_46 rfl (x := 0) rfl ?_
          refine r_iload_n hM (pc' := 48) dX10_planned_47 rfl (x := v1) rfl ?_
          refine r_callVI hM (pc' := 51) [vI v1] dX10_planned_48 rfl ml_X10_129 wm_0 rfl rfl (Nat.le_of_ble_eq_true rfl) (conI.mono h (fun x3 σ3 h => ?_))
          refine r_goto hM (tgt := 69) dX10_planned_51 (by decide) ?_
          exact r_ireturn hM dX10_planned_69 rfl h
      · have h := h.2 c
        refine r_aload_n hM (pc' := 33) dX10_planned_32 rfl (x := 0) rfl ?_
        refine r_getR hM (pc' := 36) dX10_planned_33 rfl fl_X10_50 wm_0 rfl ?_
        refine r_iload_n hM (pc' := 37) dX10_planned_36 rfl (x := v1) rfl ?_
        have o2 := h.1
        have h := h.2
        refine r_iaload hM (pc' := 38) dX10_planned_37 rfl wm_9 o2 ?_
        refine r_goto hM (tgt := 69) dX10_planned_38 (by decide) ?_
        exact r_ireturn hM dX10_planned_69 rfl h
    · have h := h.2 c
      refine r_aload_n hM (pc' := 19) dX10_planned_18 rfl (x := 0) rfl ?_
      refine r_getR hM (pc' := 22) dX10_planned_19 rfl fl_X10_56 wm_0 rfl ?_
      refine r_iload_n hM (pc' := 23) dX10_planned_22 rfl (x := v1) rfl ?_
      have o3 := h.1
      have h := h.2
      refine r_iaload hM (pc' := 24) dX10_planned_23 rfl wm_11 o3 ?_
      refine r_goto hM (tgt := 69) dX10_planned_24 (by decide) ?_
      exact r_ireturn hM dX10_planned_69 rfl h
  · have h := h.2 c
    refine r_iconst hM (pc' := 13) dX10_planned_12 rfl (by decide) ?_
    exact r_ireturn hM dX10_planned_13 rfl h
theorem dX10_segment_0 : decode cX10_segment 0 = .ok (.aload_n 0, 1) := by decide +kernel
theorem dX10_segment_1 : decode cX10_segment 1 = .ok (.invokevirtual 126, 3) := by decide +kernel
theorem dX10_segment_4 : decode cX10_segment 4 = .ok (.iload_n 1, 1) := by decide +kernel
theorem dX10_segment_5 : decode cX10_segment 5 = .ok (.iconst 0, 1) := by decide +kernel
theorem dX10_segment_6 : decode cX10_segment 6 = .ok (.aload_n 0, 1) := by decide +kernel
theorem dX10_segment_7 : decode cX10_segment 7 = .ok (.getfield 119, 3) := by decide +kernel
theorem dX10_segment_10 : decode cX10_segment 10 = .ok (.iconst 1, 1) := by decide +kernel
theorem dX10_segment_11 : decode cX10_segment 11 = .ok (.isub, 1) := by decide +kernel
theorem dX10_segment_12 : decode cX10_segment 12 = .ok (.invokestatic 80, 3) := by decide +kernel
theorem dX10_segment_15 : decode cX10_segment 15 = .ok (.ifCond .ne 5, 3) := by decide +kernel
theorem dX10_segment_18 : decode cX10_segment 18 = .ok (.iconst (-1), 1) := by decide +kernel
theorem dX10_segment_19 : decode cX10_segment 19 = .ok (.ireturn, 1) := by decide +kernel
theorem dX10_segment_20 : decode cX10_segment 20 = .ok (.iload_n 2, 1) := by decide +kernel
theorem dX10_segment_21 : decode cX10_segment 21 = .ok (.tableswitch 59 0 3 #[31, 38, 45, 52], 31) := by decide +kernel
theorem dX10_segment_52 : decode cX10_segment 52 = .ok (.aload_n 0, 1) := by decide +kernel
theorem dX10_segment_53 : decode cX10_segment 53 = .ok (.getfield 59, 3) := by decide +kernel
theorem dX10_segment_56 : decode cX10_segment 56 = .ok (.iload_n 1, 1) := by decide +kernel
theorem dX10_segment_57 : decode cX10_segment 57 = .ok (.iaload, 1) := by decide +kernel
theorem dX10_segment_58 : decode cX10_segment 58 = .ok (.ireturn, 1) := by decide +kernel
theorem dX10_segment_59 : decode cX10_segment 59 = .ok (.aload_n 0, 1) := by decide +kernel
theorem dX10_segment_60 : decode cX10_segment 60 = .ok (.getfield 62, 3) := by decide +kernel
theorem dX10_segment_63 : decode cX10_segment 63 = .ok (.iload_n 1, 1) := by decide +kernel
theorem dX10_segment_64 : decode cX10_segment 64 = .ok (.iaload, 1) := by decide +kernel
theorem dX10_segment_65 : decode cX10_segment 65 = .ok (.ireturn, 1) := by decide +kernel
theorem dX10_segment_66 : decode cX10_segment 66 = .ok (.aload_n 0, 1) := by decide +kernel
theorem dX10_segment_67 : decode cX10_segment 67 = .ok (.getfield 65, 3) := by decide +kernel
theorem dX10_segment_70 : decode cX10_segment 70 = .ok (.iload_n 1, 1) := by decide +kernel
theorem dX10_segment_71 : decode cX10_segment 71 = .ok (.iaload, 1) := by decide +kernel
theorem dX10_segment_72 : decode cX10_segment 72 = .ok (.ireturn, 1) := by decide +kernel
theorem dX10_segment_73 : decode cX10_segment 73 = .ok (.aload_n 0, 1) := by decide +kernel
theorem dX10_segment_74 : decode cX10_segment 74 = .ok (.getfield 68, 3) := by decide +kernel
theorem dX10_segment_77 : decode cX10_segment 77 = .ok (.iload_n 1, 1) := by decide +kernel
theorem dX10_segment_78 : decode cX10_segment 78 = .ok (.iaload, 1) := by decide +kernel
theorem dX10_segment_79 : decode cX10_segment 79 = .ok (.ireturn, 1) := by decide +kernel
theorem dX10_segment_80 : decode cX10_segment 80 = .ok (.iconst (-1), 1) := by decide +kernel
theorem dX10_segment_81 : decode cX10_segment 81 = .ok (.ireturn, 1) := by decide +kernel
set_option maxRecDepth 20000 in
theorem g_X10_segment_0 {G : GX} {d : Nat} {Ret : Option AV → St → Prop} {R : Nat → List AV → List AV → St → Prop} (hM : AM G wdM (d + 1) mX10_segment Ret R) (v1 : Int) (v2 : Int) (σ : St)
    (h : conV G wdM d mX10_plans [vR 0] σ (fun σ1 => (r32 ((σ1.1 0 18) - 1) ∧ conI G wdM d mX10_in [vI v1, vI 0, vI ((σ1.1 0 18) - 1)] σ1 (fun x2 σ2 => ((¬ x2 = 0 → ((v2 = 0 → ((0 ≤ v1 ∧ v1 < 16) ∧ Ret (some (vI (σ2.1 12 (v1).toNat))) σ2)) ∧ (v2 = 1 → ((0 ≤ v1 ∧ v1 < 16) ∧ Ret (some (vI (σ2.1 13 (v1).toNat))) σ2)) ∧ (v2 = 2 → ((0 ≤ v1 ∧ v1 < 16) ∧ Ret (some (vI (σ2.1 14 (v1).toNat))) σ2)) ∧ (v2 = 3 → ((0 ≤ v1 ∧ v1 < 16) ∧ Ret (some (vI (σ2.1 15 (v1).toNat))) σ2)) ∧ (¬ (0 ≤ v2 ∧ v2 ≤ 3) → Ret (some (vI (-1))) σ2))) ∧ (x2 = 0 → Ret (some (vI (-1))) σ2)))))) : R 0 [vR 0, vI v1, vI v2] [] σ := by
  refine r_aload_n hM (pc' := 1) dX10_segment_0 rfl (x := 0) rfl ?_
  refine r_callVV hM (pc' := 4) [] dX10_segment_1 rfl ml_X10_126 wm_0 rfl rfl (Nat.le_of_ble_eq_true rfl) (conV.mono h (fun σ1 h => ?_))
  refine r_iload_n hM (pc' := 5) dX10_segment_4 rfl (x := v1) rfl ?_
  refine r_iconst hM (pc' := 6) dX10_segment_5 rfl (by decide) ?_
  refine r_aload_n hM (pc' := 7) dX10_segment_6 rfl (x := 0) rfl ?_
  refine r_getI hM (pc' := 10) dX10_segment_7 rfl fl_X10_119 wm_0 rfl ?_
  refine r_iconst hM (pc' := 11) dX10_segment_10 rfl (by decide) ?_
  have o1 := h.1
  have h := h.2
  refine r_isub hM (pc' := 12) dX10_segment_11 rfl o1 ?_
  refine r_callSI hM (pc' := 15) [vI v1, vI 0, vI ((σ1.1 0 18) - 1)] dX10_segment_12 rfl ml_X10_80 rfl rfl (Nat.le_of_ble_eq_true rfl) (conI.mono h (fun x2 σ2 h => ?_))
  refine r_if_ne hM (pc' := 18) (tgt := 20) dX10_segment_15 rfl (by decide) (fun c => ?_) (fun c => ?_)
  · have h := h.1 c
    refine r_iload_n hM (pc' := 21) dX10_segment_20 rfl (x := v2) rfl ?_
    refine r_table hM (tgt := 80) [52, 59, 66, 73] dX10_segment_21 rfl (by decide) (by decide) ⟨fun c => ?_, fun c => ?_, fun c => ?_, fun c => ?_, trivial⟩ (fun c => ?_)
    · have h := h.1 (by omega)
      refine r_aload_n hM (pc' := 53) dX10_segment_52 rfl (x := 0) rfl ?_
      refine r_getR hM (pc' := 56) dX10_segment_53 rfl fl_X10_59 wm_0 rfl ?_
      refine r_iload_n hM (pc' := 57) dX10_segment_56 rfl (x := v1) rfl ?_
      have o2 := h.1
      have h := h.2
      refine r_iaload hM (pc' := 58) dX10_segment_57 rfl wm_12 o2 ?_
      exact r_ireturn hM dX10_segment_58 rfl h
    · have h := h.2.1 (by omega)
      refine r_aload_n hM (pc' := 60) dX10_segment_59 rfl (x := 0) rfl ?_
      refine r_getR hM (pc' := 63) dX10_segment_60 rfl fl_X10_62 wm_0 rfl ?_
      refine r_iload_n hM (pc' := 64) dX10_segment_63 rfl (x := v1) rfl ?_
      have o3 := h.1
      have h := h.2
      refine r_iaload hM (pc' := 65) dX10_segment_64 rfl wm_13 o3 ?_
      exact r_ireturn hM dX10_segment_65 rfl h
    · have h := h.2.2.1 (by omega)
      refine r_aload_n hM (pc' := 67) dX10_segment_66 rfl (x := 0) rfl ?_
      refine r_getR hM (pc' := 70) dX10_segment_67 rfl fl_X10_65 wm_0 rfl ?_
      refine r_iload_n hM (pc' := 71) dX10_segment_70 rfl (x := v1) rfl ?_
      have o4 := h.1
      have h := h.2
      refine r_iaload hM (pc' := 72) dX10_segment_71 rfl wm_14 o4 ?_
      exact r_ireturn hM dX10_segment_72 rfl h
    · have h := h.2.2.2.1 (by omega)
      refine r_aload_n hM (pc' := 74) dX10_segment_73 rfl (x := 0) rfl ?_
      refine r_getR hM (pc' := 77) dX10_segment_74 rfl fl_X10_68 wm_0 rfl ?_
      refine r_iload_n hM (pc' := 78) dX10_segment_77 rfl (x := v1) rfl ?_
      have o5 := h.1
      have h := h.2
      refine r_iaload hM (pc' := 79) dX10_segment_78 rfl wm_15 o5 ?_
      exact r_ireturn hM dX10_segment_79 rfl h
    · have h := h.2.2.2.2 c
      refine r_iconst hM (pc' := 81) dX10_segment_80 rfl (by decide) ?_
      exact r_ireturn hM dX10_segment_81 rfl h
  · have h := h.2 c
    refine r_iconst hM (pc' := 19) dX10_segment_18 rfl (by decide) ?_
    exact r_ireturn hM dX10_segment_19 rfl h
theorem dX10_isPiece_0 : decode cX10_isPiece 0 = .ok (.iload_n 1, 1) := by decide +kernel
theorem dX10_isPiece_1 : decode cX10_isPiece 1 = .ok (.iconst 0, 1) := by decide +kernel
theorem dX10_isPiece_2 : decode cX10_isPiece 2 = .ok (.aload_n 0, 1) := by decide +kernel
theorem dX10_isPiece_3 : decode cX10_isPiece 3 = .ok (.getfield 119, 3) := by decide +kernel
theorem dX10_isPiece_6 : decode cX10_isPiece 6 = .ok (.iconst 1, 1) := by decide +kernel
theorem dX10_isPiece_7 : decode cX10_isPiece 7 = .ok (.isub, 1) := by decide +kernel
theorem dX10_isPiece_8 : decode cX10_isPiece 8 = .ok (.invokestatic 80, 3) := by decide +kernel
theorem dX10_isPiece_11 : decode cX10_isPiece 11 = .ok (.ifCond .eq 36, 3) := by decide +kernel
theorem dX10_isPiece_14 : decode cX10_isPiece 14 = .ok (.iload_n 2, 1) := by decide +kernel
theorem dX10_isPiece_15 : decode cX10_isPiece 15 = .ok (.iload_n 1, 1) := by decide +kernel
theorem dX10_isPiece_16 : decode cX10_isPiece 16 = .ok (.aload_n 0, 1) := by decide +kernel
theorem dX10_isPiece_17 : decode cX10_isPiece 17 = .ok (.getfield 119, 3) := by decide +kernel
theorem dX10_isPiece_20 : decode cX10_isPiece 20 = .ok (.iconst 1, 1) := by decide +kernel
theorem dX10_isPiece_21 : decode cX10_isPiece 21 = .ok (.isub, 1) := by decide +kernel
theorem dX10_isPiece_22 : decode cX10_isPiece 22 = .ok (.invokestatic 80, 3) := by decide +kernel
theorem dX10_isPiece_25 : decode cX10_isPiece 25 = .ok (.ifCond .eq 22, 3) := by decide +kernel
theorem dX10_isPiece_28 : decode cX10_isPiece 28 = .ok (.aload_n 0, 1) := by decide +kernel
theorem dX10_isPiece_29 : decode cX10_isPiece 29 = .ok (.getfield 59, 3) := by decide +kernel
theorem dX10_isPiece_32 : decode cX10_isPiece 32 = .ok (.iload_n 1, 1) := by decide +kernel
theorem dX10_isPiece_33 : decode cX10_isPiece 33 = .ok (.iaload, 1) := by decide +kernel
theorem dX10_isPiece_34 : decode cX10_isPiece 34 = .ok (.aload_n 0, 1) := by decide +kernel
theorem dX10_isPiece_35 : decode cX10_isPiece 35 = .ok (.getfield 59, 3) := by decide +kernel
theorem dX10_isPiece_38 : decode cX10_isPiece 38 = .ok (.iload_n 2, 1) := by decide +kernel
theorem dX10_isPiece_39 : decode cX10_isPiece 39 = .ok (.iaload, 1) := by decide +kernel
theorem dX10_isPiece_40 : decode cX10_isPiece 40 = .ok (.if_icmp .ne 7, 3) := by decide +kernel
theorem dX10_isPiece_43 : decode cX10_isPiece 43 = .ok (.iconst 1, 1) := by decide +kernel
theorem dX10_isPiece_44 : decode cX10_isPiece 44 = .ok (.goto 4, 3) := by decide +kernel
theorem dX10_isPiece_47 : decode cX10_isPiece 47 = .ok (.iconst 0, 1) := by decide +kernel
theorem dX10_isPiece_48 : decode cX10_isPiece 48 = .ok (.ireturn, 1) := by decide +kernel
set_option maxRecDepth 20000 in
theorem g_X10_isPiece_0 {G : GX} {d : Nat} {Ret : Option AV → St → Prop} {R : Nat → List AV → List AV → St → Prop} (hM : AM G wdM (d + 1) mX10_isPiece Ret R) (v1 : Int) (v2 : Int) (σ : St)
    (h : (r32 ((σ.1 0 18) - 1) ∧ conI G wdM d mX10_in [vI v1, vI 0, vI ((σ.1 0 18) - 1)] σ (fun x1 σ1 => ((x1 = 0 → Ret (some (vI 0)) σ1) ∧ (¬ x1 = 0 → (r32 ((σ1.1 0 18) - 1) ∧ conI G wdM d mX10_in [vI v2, vI v1, vI ((σ1.1 0 18) - 1)] σ1 (fun x2 σ2 => ((x2 = 0 → Ret (some (vI 0)) σ2) ∧ (¬ x2 = 0 → ((0 ≤ v1 ∧ v1 < 16) ∧ ((0 ≤ v2 ∧ v2 < 16) ∧ ((¬ (σ2.1 12 (v1).toNat) = (σ2.1 12 (v2).toNat) → Ret (some (vI 0)) σ2) ∧ ((σ2.1 12 (v1).toNat) = (σ2.1 12 (v2).toNat) → Ret (some (vI 1)) σ2))))))))))))) : R 0 [vR 0, vI v1, vI v2] [] σ := by
  refine r_iload_n hM (pc' := 1) dX10_isPiece_0 rfl (x := v1) rfl ?_
  refine r_iconst hM (pc' := 2) dX10_isPiece_1 rfl (by decide) ?_
  refine r_aload_n hM (pc' := 3) dX10_isPiece_2 rfl (x := 0) rfl ?_
  refine r_getI hM (pc' := 6) dX10_isPiece_3 rfl fl_X10_119 wm_0 rfl ?_
  refine r_iconst hM (pc' := 7) dX10_isPiece_6 rfl (by decide) ?_
  have o1 := h.1
  have h := h.2
  refine r_isub hM (pc' := 8) dX10_isPiece_7 rfl o1 ?_
  refine r_callSI hM (pc' := 11) [vI v1, vI 0, vI ((σ.1 0 18) - 1)] dX10_isPiece_8 rfl ml_X10_80 rfl rfl (Nat.le_of_ble_eq_true rfl) (conI.mono h (fun x1 σ1 h => ?_))
  refine r_if_eq hM (pc' := 14) (tgt := 47) dX10_isPiece_11 rfl (by decide) (fun c => ?_) (fun c => ?_)
  · have h := h.1 c
    refine r_iconst hM (pc' := 48) dX10_isPiece_47 rfl (by decide) ?_
    exact r_zreturn hM dX10_isPiece_48 rfl (by decide) h
  · have h := h.2 c
    refine r_iload_n hM (pc' := 15) dX10_isPiece_14 rfl (x := v2) rfl ?_
    refine r_iload_n hM (pc' := 16) dX10_isPiece_15 rfl (x := v1) rfl ?_
    refine r_aload_n hM (pc' := 17) dX10_isPiece_16 rfl (x := 0) rfl ?_
    refine r_getI hM (pc' := 20) dX10_isPiece_17 rfl fl_X10_119 wm_0 rfl ?_
    refine r_iconst hM (pc' := 21) dX10_isPiece_20 rfl (by decide) ?_
    have o2 := h.1
    have h := h.2
    refine r_isub hM (pc' := 22) dX10_isPiece_21 rfl o2 ?_
    refine r_callSI hM (pc' := 25) [vI v2, vI v1, vI ((σ1.1 0 18) - 1)] dX10_isPiece_22 rfl ml_X10_80 rfl rfl (Nat.le_of_ble_eq_true rfl) (conI.mono h (fun x2 σ2 h => ?_))
    refine r_if_eq hM (pc' := 28) (tgt := 47) dX10_isPiece_25 rfl (by decide) (fun c => ?_) (fun c => ?_)
    · have h := h.1 c
      refine r_iconst hM (pc' := 48) dX10_isPiece_47 rfl (by decide) ?_
      exact r_zreturn hM dX10_isPiece_48 rfl (by decide) h
    · have h := h.2 c
      refine r_aload_n hM (pc' := 29) dX10_isPiece_28 rfl (x := 0) rfl ?_
      refine r_getR hM (pc' := 32) dX10_isPiece_29 rfl fl_X10_59 wm_0 rfl ?_
      refine r_iload_n hM (pc' := 33) dX10_isPiece_32 rfl (x := v1) rfl ?_
      have o3 := h.1
      have h := h.2
      refine r_iaload hM (pc' := 34) dX10_isPiece_33 rfl wm_12 o3 ?_
      refine r_aload_n hM (pc' := 35) dX10_isPiece_34 rfl (x := 0) rfl ?_
      refine r_getR hM (pc' := 38) dX10_isPiece_35 rfl fl_X10_59 wm_0 rfl ?_
      refine r_iload_n hM (pc' := 39) dX10_isPiece_38 rfl (x := v2) rfl ?_
      have o4 := h.1
      have h := h.2
      refine r_iaload hM (pc' := 40) dX10_isPiece_39 rfl wm_12 o4 ?_
      refine r_icmp_ne hM (pc' := 43) (tgt := 47) dX10_isPiece_40 rfl (by decide) (fun c => ?_) (fun c => ?_)
      · have h := h.1 c
        refine r_iconst hM (pc' := 48) dX10_isPiece_47 rfl (by decide) ?_
        exact r_zreturn hM dX10_isPiece_48 rfl (by decide) h
      · have h := h.2 c
        refine r_iconst hM (pc' := 44) dX10_isPiece_43 rfl (by decide) ?_
        refine r_goto hM (tgt := 48) dX10_isPiece_44 (by decide) ?_
        exact r_zreturn hM dX10_isPiece_48 rfl (by decide) h
theorem dX10_beginOf_0 : decode cX10_beginOf 0 = .ok (.aload_n 0, 1) := by decide +kernel
theorem dX10_beginOf_1 : decode cX10_beginOf 1 = .ok (.getfield 26, 3) := by decide +kernel
theorem dX10_beginOf_4 : decode cX10_beginOf 4 = .ok (.aload_n 0, 1) := by decide +kernel
theorem dX10_beginOf_5 : decode cX10_beginOf 5 = .ok (.getfield 62, 3) := by decide +kernel
theorem dX10_beginOf_8 : decode cX10_beginOf 8 = .ok (.iload_n 1, 1) := by decide +kernel
theorem dX10_beginOf_9 : decode cX10_beginOf 9 = .ok (.iaload, 1) := by decide +kernel
theorem dX10_beginOf_10 : decode cX10_beginOf 10 = .ok (.iaload, 1) := by decide +kernel
theorem dX10_beginOf_11 : decode cX10_beginOf 11 = .ok (.ireturn, 1) := by decide +kernel
set_option maxRecDepth 20000 in
theorem g_X10_beginOf_0 {G : GX} {d : Nat} {Ret : Option AV → St → Prop} {R : Nat → List AV → List AV → St → Prop} (hM : AM G wdM d mX10_beginOf Ret R) (v1 : Int) (σ : St)
    (h : ((0 ≤ v1 ∧ v1 < 16) ∧ ((0 ≤ (σ.1 13 (v1).toNat) ∧ (σ.1 13 (v1).toNat) < 16) ∧ Ret (some (vI (σ.1 6 ((σ.1 13 (v1).toNat)).toNat))) σ))) : R 0 [vR 0, vI v1] [] σ := by
  refine r_aload_n hM (pc' := 1) dX10_beginOf_0 rfl (x := 0) rfl ?_
  refine r_getR hM (pc' := 4) dX10_beginOf_1 rfl fl_X10_26 wm_0 rfl ?_
  refine r_aload_n hM (pc' := 5) dX10_beginOf_4 rfl (x := 0) rfl ?_
  refine r_getR hM (pc' := 8) dX10_beginOf_5 rfl fl_X10_62 wm_0 rfl ?_
  refine r_iload_n hM (pc' := 9) dX10_beginOf_8 rfl (x := v1) rfl ?_
  have o1 := h.1
  have h := h.2
  refine r_iaload hM (pc' := 10) dX10_beginOf_9 rfl wm_13 o1 ?_
  have o2 := h.1
  have h := h.2
  refine r_iaload hM (pc' := 11) dX10_beginOf_10 rfl wm_6 o2 ?_
  exact r_ireturn hM dX10_beginOf_11 rfl h
theorem dX10_endOf_0 : decode cX10_endOf 0 = .ok (.aload_n 0, 1) := by decide +kernel
theorem dX10_endOf_1 : decode cX10_endOf 1 = .ok (.getfield 29, 3) := by decide +kernel
theorem dX10_endOf_4 : decode cX10_endOf 4 = .ok (.aload_n 0, 1) := by decide +kernel
theorem dX10_endOf_5 : decode cX10_endOf 5 = .ok (.getfield 65, 3) := by decide +kernel
theorem dX10_endOf_8 : decode cX10_endOf 8 = .ok (.iload_n 1, 1) := by decide +kernel
theorem dX10_endOf_9 : decode cX10_endOf 9 = .ok (.iaload, 1) := by decide +kernel
theorem dX10_endOf_10 : decode cX10_endOf 10 = .ok (.iaload, 1) := by decide +kernel
theorem dX10_endOf_11 : decode cX10_endOf 11 = .ok (.ireturn, 1) := by decide +kernel
set_option maxRecDepth 20000 in
theorem g_X10_endOf_0 {G : GX} {d : Nat} {Ret : Option AV → St → Prop} {R : Nat → List AV → List AV → St → Prop} (hM : AM G wdM d mX10_endOf Ret R) (v1 : Int) (σ : St)
    (h : ((0 ≤ v1 ∧ v1 < 16) ∧ ((0 ≤ (σ.1 14 (v1).toNat) ∧ (σ.1 14 (v1).toNat) < 16) ∧ Ret (some (vI (σ.1 7 ((σ.1 14 (v1).toNat)).toNat))) σ))) : R 0 [vR 0, vI v1] [] σ := by
  refine r_aload_n hM (pc' := 1) dX10_endOf_0 rfl (x := 0) rfl ?_
  refine r_getR hM (pc' := 4) dX10_endOf_1 rfl fl_X10_29 wm_0 rfl ?_
  refine r_aload_n hM (pc' := 5) dX10_endOf_4 rfl (x := 0) rfl ?_
  refine r_getR hM (pc' := 8) dX10_endOf_5 rfl fl_X10_65 wm_0 rfl ?_
  refine r_iload_n hM (pc' := 9) dX10_endOf_8 rfl (x := v1) rfl ?_
  have o1 := h.1
  have h := h.2
  refine r_iaload hM (pc' := 10) dX10_endOf_9 rfl wm_14 o1 ?_
  have o2 := h.1
  have h := h.2
  refine r_iaload hM (pc' := 11) dX10_endOf_10 rfl wm_7 o2 ?_
  exact r_ireturn hM dX10_endOf_11 rfl h
theorem dX10_broken_0 : decode cX10_broken 0 = .ok (.aload_n 0, 1) := by decide +kernel
theorem dX10_broken_1 : decode cX10_broken 1 = .ok (.iload_n 1, 1) := by decide +kernel
theorem dX10_broken_2 : decode cX10_broken 2 = .ok (.invokevirtual 133, 3) := by decide +kernel
theorem dX10_broken_5 : decode cX10_broken 5 = .ok (.istore 5, 2) := by decide +kernel
theorem dX10_broken_7 : decode cX10_broken 7 = .ok (.aload_n 0, 1) := by decide +kernel
theorem dX10_broken_8 : decode cX10_broken 8 = .ok (.iload_n 2, 1) := by decide +kernel
theorem dX10_broken_9 : decode cX10_broken 9 = .ok (.invokevirtual 136, 3) := by decide +kernel
theorem dX10_broken_12 : decode cX10_broken 12 = .ok (.istore 6, 2) := by decide +kernel
theorem dX10_broken_14 : decode cX10_broken 14 = .ok (.iload 6, 2) := by decide +kernel
theorem dX10_broken_16 : decode cX10_broken 16 = .ok (.iload 5, 2) := by decide +kernel
theorem dX10_broken_18 : decode cX10_broken 18 = .ok (.isub, 1) := by decide +kernel
theorem dX10_broken_19 : decode cX10_broken 19 = .ok (.istore 7, 2) := by decide +kernel
theorem dX10_broken_21 : decode cX10_broken 21 = .ok (.iload_n 3, 1) := by decide +kernel
theorem dX10_broken_22 : decode cX10_broken 22 = .ok (.ifCond .lt 203, 3) := by decide +kernel
theorem dX10_broken_25 : decode cX10_broken 25 = .ok (.aload_n 0, 1) := by decide +kernel
theorem dX10_broken_26 : decode cX10_broken 26 = .ok (.getfield 42, 3) := by decide +kernel
theorem dX10_broken_29 : decode cX10_broken 29 = .ok (.ifCond .ne 5, 3) := by decide +kernel
theorem dX10_broken_32 : decode cX10_broken 32 = .ok (.iconst 1, 1) := by decide +kernel
theorem dX10_broken_33 : decode cX10_broken 33 = .ok (.ireturn, 1) := by decide +kernel
theorem dX10_broken_34 : decode cX10_broken 34 = .ok (.aload_n 0, 1) := by decide +kernel
theorem dX10_broken_35 : decode cX10_broken 35 = .ok (.iload_n 3, 1) := by decide +kernel
theorem dX10_broken_36 : decode cX10_broken 36 = .ok (.invokevirtual 133, 3) := by decide +kernel
theorem dX10_broken_39 : decode cX10_broken 39 = .ok (.iload 5, 2) := by decide +kernel
theorem dX10_broken_41 : decode cX10_broken 41 = .ok (.if_icmp .ge 7, 3) := by decide +kernel
theorem dX10_broken_44 : decode cX10_broken 44 = .ok (.iconst 1, 1) := by decide +kernel
theorem dX10_broken_45 : decode cX10_broken 45 = .ok (.goto 4, 3) := by decide +kernel
theorem dX10_broken_48 : decode cX10_broken 48 = .ok (.iconst 0, 1) := by decide +kernel
theorem dX10_broken_49 : decode cX10_broken 49 = .ok (.istore 8, 2) := by decide +kernel
theorem dX10_broken_51 : decode cX10_broken 51 = .ok (.iload 8, 2) := by decide +kernel
theorem dX10_broken_53 : decode cX10_broken 53 = .ok (.ifCond .eq 12, 3) := by decide +kernel
theorem dX10_broken_56 : decode cX10_broken 56 = .ok (.aload_n 0, 1) := by decide +kernel
theorem dX10_broken_57 : decode cX10_broken 57 = .ok (.iload 4, 2) := by decide +kernel
theorem dX10_broken_59 : decode cX10_broken 59 = .ok (.invokevirtual 136, 3) := by decide +kernel
theorem dX10_broken_62 : decode cX10_broken 62 = .ok (.goto 5, 3) := by decide +kernel
theorem dX10_broken_65 : decode cX10_broken 65 = .ok (.iload 6, 2) := by decide +kernel
theorem dX10_broken_67 : decode cX10_broken 67 = .ok (.istore 9, 2) := by decide +kernel
theorem dX10_broken_69 : decode cX10_broken 69 = .ok (.iload 8, 2) := by decide +kernel
theorem dX10_broken_71 : decode cX10_broken 71 = .ok (.ifCond .eq 8, 3) := by decide +kernel
theorem dX10_broken_74 : decode cX10_broken 74 = .ok (.iload 5, 2) := by decide +kernel
theorem dX10_broken_76 : decode cX10_broken 76 = .ok (.goto 8, 3) := by decide +kernel
theorem dX10_broken_79 : decode cX10_broken 79 = .ok (.aload_n 0, 1) := by decide +kernel
theorem dX10_broken_80 : decode cX10_broken 80 = .ok (.iload_n 3, 1) := by decide +kernel
theorem dX10_broken_81 : decode cX10_broken 81 = .ok (.invokevirtual 133, 3) := by decide +kernel
theorem dX10_broken_84 : decode cX10_broken 84 = .ok (.istore 10, 2) := by decide +kernel
theorem dX10_broken_86 : decode cX10_broken 86 = .ok (.aload_n 0, 1) := by decide +kernel
theorem dX10_broken_87 : decode cX10_broken 87 = .ok (.getfield 7, 3) := by decide +kernel
theorem dX10_broken_90 : decode cX10_broken 90 = .ok (.bipush 12, 2) := by decide +kernel
theorem dX10_broken_92 : decode cX10_broken 92 = .ok (.aload_n 0, 1) := by decide +kernel
theorem dX10_broken_93 : decode cX10_broken 93 = .ok (.getfield 23, 3) := by decide +kernel
theorem dX10_broken_96 : decode cX10_broken 96 = .ok (.aload_n 0, 1) := by decide +kernel
theorem dX10_broken_97 : decode cX10_broken 97 = .ok (.getfield 65, 3) := by decide +kernel
theorem dX10_broken_100 : decode cX10_broken 100 = .ok (.iload 8, 2) := by decide +kernel
theorem dX10_broken_102 : decode cX10_broken 102 = .ok (.ifCond .eq 8, 3) := by decide +kernel
theorem dX10_broken_105 : decode cX10_broken 105 = .ok (.iload 4, 2) := by decide +kernel
theorem dX10_broken_107 : decode cX10_broken 107 = .ok (.goto 4, 3) := by decide +kernel
theorem dX10_broken_110 : decode cX10_broken 110 = .ok (.iload_n 2, 1) := by decide +kernel
theorem dX10_broken_111 : decode cX10_broken 111 = .ok (.iaload, 1) := by decide +kernel
theorem dX10_broken_112 : decode cX10_broken 112 = .ok (.iaload, 1) := by decide +kernel
theorem dX10_broken_113 : decode cX10_broken 113 = .ok (.imul, 1) := by decide +kernel
theorem dX10_broken_114 : decode cX10_broken 114 = .ok (.aload_n 0, 1) := by decide +kernel
theorem dX10_broken_115 : decode cX10_broken 115 = .ok (.getfield 20, 3) := by decide +kernel
theorem dX10_broken_118 : decode cX10_broken 118 = .ok (.aload_n 0, 1) := by decide +kernel
theorem dX10_broken_119 : decode cX10_broken 119 = .ok (.getfield 62, 3) := by decide +kernel
theorem dX10_broken_122 : decode cX10_broken 122 = .ok (.iload 8, 2) := by decide +kernel
theorem dX10_broken_124 : decode cX10_broken 124 = .ok (.ifCond .eq 7, 3) := by decide +kernel
theorem dX10_broken_127 : decode cX10_broken 127 = .ok (.iload_n 1, 1) := by decide +kernel
theorem dX10_broken_128 : decode cX10_broken 128 = .ok (.goto 4, 3) := by decide +kernel
theorem dX10_broken_131 : decode cX10_broken 131 = .ok (.iload_n 3, 1) := by decide +kernel
theorem dX10_broken_132 : decode cX10_broken 132 = .ok (.iaload, 1) := by decide +kernel
theorem dX10_broken_133 : decode cX10_broken 133 = .ok (.iaload, 1) := by decide +kernel
theorem dX10_broken_134 : decode cX10_broken 134 = .ok (.iadd, 1) := by decide +kernel
theorem dX10_broken_135 : decode cX10_broken 135 = .ok (.iaload, 1) := by decide +kernel
theorem dX10_broken_136 : decode cX10_broken 136 = .ok (.istore 11, 2) := by decide +kernel
theorem dX10_broken_138 : decode cX10_broken 138 = .ok (.iload 10, 2) := by decide +kernel
theorem dX10_broken_140 : decode cX10_broken 140 = .ok (.iload 9, 2) := by decide +kernel
theorem dX10_broken_142 : decode cX10_broken 142 = .ok (.aload_n 0, 1) := by decide +kernel
theorem dX10_broken_143 : decode cX10_broken 143 = .ok (.getfield 39, 3) := by decide +kernel
theorem dX10_broken_146 : decode cX10_broken 146 = .ok (.iadd, 1) := by decide +kernel
theorem dX10_broken_147 : decode cX10_broken 147 = .ok (.if_icmp .lt 18, 3) := by decide +kernel
theorem dX10_broken_150 : decode cX10_broken 150 = .ok (.iload 11, 2) := by decide +kernel
theorem dX10_broken_152 : decode cX10_broken 152 = .ok (.ifCond .lt 13, 3) := by decide +kernel
theorem dX10_broken_155 : decode cX10_broken 155 = .ok (.iload 10, 2) := by decide +kernel
theorem dX10_broken_157 : decode cX10_broken 157 = .ok (.iload 9, 2) := by decide +kernel
theorem dX10_broken_159 : decode cX10_broken 159 = .ok (.iload 11, 2) := by decide +kernel
theorem dX10_broken_161 : decode cX10_broken 161 = .ok (.iadd, 1) := by decide +kernel
theorem dX10_broken_162 : decode cX10_broken 162 = .ok (.if_icmp .ge 5, 3) := by decide +kernel
theorem dX10_broken_165 : decode cX10_broken 165 = .ok (.iconst 2, 1) := by decide +kernel
theorem dX10_broken_166 : decode cX10_broken 166 = .ok (.ireturn, 1) := by decide +kernel
theorem dX10_broken_167 : decode cX10_broken 167 = .ok (.iload 7, 2) := by decide +kernel
theorem dX10_broken_169 : decode cX10_broken 169 = .ok (.aload_n 0, 1) := by decide +kernel
theorem dX10_broken_170 : decode cX10_broken 170 = .ok (.iload 4, 2) := by decide +kernel
theorem dX10_broken_172 : decode cX10_broken 172 = .ok (.invokevirtual 136, 3) := by decide +kernel
theorem dX10_broken_175 : decode cX10_broken 175 = .ok (.aload_n 0, 1) := by decide +kernel
theorem dX10_broken_176 : decode cX10_broken 176 = .ok (.iload_n 3, 1) := by decide +kernel
theorem dX10_broken_177 : decode cX10_broken 177 = .ok (.invokevirtual 133, 3) := by decide +kernel
theorem dX10_broken_180 : decode cX10_broken 180 = .ok (.isub, 1) := by decide +kernel
theorem dX10_broken_181 : decode cX10_broken 181 = .ok (.iadd, 1) := by decide +kernel
theorem dX10_broken_182 : decode cX10_broken 182 = .ok (.istore 7, 2) := by decide +kernel
theorem dX10_broken_184 : decode cX10_broken 184 = .ok (.iload 8, 2) := by decide +kernel
theorem dX10_broken_186 : decode cX10_broken 186 = .ok (.ifCond .eq 11, 3) := by decide +kernel
theorem dX10_broken_189 : decode cX10_broken 189 = .ok (.aload_n 0, 1) := by decide +kernel
theorem dX10_broken_190 : decode cX10_broken 190 = .ok (.iload_n 3, 1) := by decide +kernel
theorem dX10_broken_191 : decode cX10_broken 191 = .ok (.invokevirtual 133, 3) := by decide +kernel
theorem dX10_broken_194 : decode cX10_broken 194 = .ok (.goto 5, 3) := by decide +kernel
theorem dX10_broken_197 : decode cX10_broken 197 = .ok (.iload 5, 2) := by decide +kernel
theorem dX10_broken_199 : decode cX10_broken 199 = .ok (.istore 5, 2) := by decide +kernel
theorem dX10_broken_201 : decode cX10_broken 201 = .ok (.aload_n 0, 1) := by decide +kernel
theorem dX10_broken_202 : decode cX10_broken 202 = .ok (.iload 4, 2) := by decide +kernel
theorem dX10_broken_204 : decode cX10_broken 204 = .ok (.invokevirtual 136, 3) := by decide +kernel
theorem dX10_broken_207 : decode cX10_broken 207 = .ok (.iload 6, 2) := by decide +kernel
theorem dX10_broken_209 : decode cX10_broken 209 = .ok (.if_icmp .le 12, 3) := by decide +kernel
theorem dX10_broken_212 : decode cX10_broken 212 = .ok (.aload_n 0, 1) := by decide +kernel
theorem dX10_broken_213 : decode cX10_broken 213 = .ok (.iload 4, 2) := by decide +kernel
theorem dX10_broken_215 : decode cX10_broken 215 = .ok (.invokevirtual 136, 3) := by decide +kernel
theorem dX10_broken_218 : decode cX10_broken 218 = .ok (.goto 5, 3) := by decide +kernel
theorem dX10_broken_221 : decode cX10_broken 221 = .ok (.iload 6, 2) := by decide +kernel
theorem dX10_broken_223 : decode cX10_broken 223 = .ok (.istore 6, 2) := by decide +kernel
theorem dX10_broken_225 : decode cX10_broken 225 = .ok (.iload 6, 2) := by decide +kernel
theorem dX10_broken_227 : decode cX10_broken 227 = .ok (.iload 5, 2) := by decide +kernel
theorem dX10_broken_229 : decode cX10_broken 229 = .ok (.isub, 1) := by decide +kernel
theorem dX10_broken_230 : decode cX10_broken 230 = .ok (.aload_n 0, 1) := by decide +kernel
theorem dX10_broken_231 : decode cX10_broken 231 = .ok (.getfield 32, 3) := by decide +kernel
theorem dX10_broken_234 : decode cX10_broken 234 = .ok (.if_icmp .le 7, 3) := by decide +kernel
theorem dX10_broken_237 : decode cX10_broken 237 = .ok (.iconst 3, 1) := by decide +kernel
theorem dX10_broken_238 : decode cX10_broken 238 = .ok (.goto 17, 3) := by decide +kernel
theorem dX10_broken_241 : decode cX10_broken 241 = .ok (.iload 7, 2) := by decide +kernel
theorem dX10_broken_243 : decode cX10_broken 243 = .ok (.aload_n 0, 1) := by decide +kernel
theorem dX10_broken_244 : decode cX10_broken 244 = .ok (.getfield 36, 3) := by decide +kernel
theorem dX10_broken_247 : decode cX10_broken 247 = .ok (.if_icmp .le 7, 3) := by decide +kernel
theorem dX10_broken_250 : decode cX10_broken 250 = .ok (.iconst 4, 1) := by decide +kernel
theorem dX10_broken_251 : decode cX10_broken 251 = .ok (.goto 4, 3) := by decide +kernel
theorem dX10_broken_254 : decode cX10_broken 254 = .ok (.iconst 0, 1) := by decide +kernel
theorem dX10_broken_255 : decode cX10_broken 255 = .ok (.ireturn, 1) := by decide +kernel
set_option maxRecDepth 20000 in
theorem g_X10_broken_0 {G : GX} {d : Nat} {Ret : Option AV → St → Prop} {R : Nat → List AV → List AV → St → Prop} (hM : AM G wdM (d + 1) mX10_broken Ret R) (v1 : Int) (v2 : Int) (v3 : Int) (v4 : Int) (σ : St)
    (h : conI G wdM d mX10_beginOf [vR 0, vI v1] σ (fun x1 σ1 => conI G wdM d mX10_endOf [vR 0, vI v2] σ1 (fun x2 σ2 => (r32 (x2 - x1) ∧ ((v3 < 0 → R 225 [vR 0, vN, vN, vN, vN, vI x1, vI x2, vI (x2 - x1), vN, vN, vN, vN] [] σ2) ∧ (¬ v3 < 0 → ((¬ (σ2.1 0 11) = 0 → conI G wdM d mX10_beginOf [vR 0, vI v3] σ2 (fun x3 σ3 => ((x1 ≤ x3 → R 49 [vR 0, vI v1, vI v2, vI v3, vI v4, vI x1, vI x2, vI (x2 - x1), vN, vN, vN, vN] [vI 0] σ3) ∧ (¬ x1 ≤ x3 → R 49 [vR 0, vI v1, vI v2, vI v3, vI v4, vI x1, vI x2, vI (x2 - x1), vN, vN, vN, vN] [vI 1] σ3)))) ∧ ((σ2.1 0 11) = 0 → Ret (some (vI 1)) σ2)))))))) : R 0 [vR 0, vI v1, vI v2, vI v3, vI v4, vN, vN, vN, vN, vN, vN, vN] [] σ := by
  refine r_aload_n hM (pc' := 1) dX10_broken_0 rfl (x := 0) rfl ?_
  refine r_iload_n hM (pc' := 2) dX10_broken_1 rfl (x := v1) rfl ?_
  refine r_callVI hM (pc' := 5) [vI v1] dX10_broken_2 rfl ml_X10_133 wm_0 rfl rfl (Nat.le_of_ble_eq_true rfl) (conI.mono h (fun x1 σ1 h => ?_))
  refine r_istore hM (pc' := 7) dX10_broken_5 rfl (Nat.le_of_ble_eq_true rfl) rfl ?_
  show R 7 [vR 0, vI v1, vI v2, vI v3, vI v4, vI x1, vN, vN, vN, vN, vN, vN] _ _
  refine r_aload_n hM (pc' := 8) dX10_broken_7 rfl (x := 0) rfl ?_
  refine r_iload_n hM (pc' := 9) dX10_broken_8 rfl (x := v2) rfl ?_
  refine r_callVI hM (pc' := 12) [vI v2] dX10_broken_9 rfl ml_X10_136 wm_0 rfl rfl (Nat.le_of_ble_eq_true rfl) (conI.mono h (fun x2 σ2 h => ?_))
  refine r_istore hM (pc' := 14) dX10_broken_12 rfl (Nat.le_of_ble_eq_true rfl) rfl ?_
  show R 14 [vR 0, vI v1, vI v2, vI v3, vI v4, vI x1, vI x2, vN, vN, vN, vN, vN] _ _
  refine r_iload hM (pc' := 16) dX10_broken_14 rfl (x := x2) rfl ?_
  refine r_iload hM (pc' := 18) dX10_broken_16 rfl (x := x1) rfl ?_
  have o1 := h.1
  have h := h.2
  refine r_isub hM (pc' := 19) dX10_broken_18 rfl o1 ?_
  refine r_istore hM (pc' := 21) dX10_broken_19 rfl (Nat.le_of_ble_eq_true rfl) rfl ?_
  show R 21 [vR 0, vI v1, vI v2, vI v3, vI v4, vI x1, vI x2, vI (x2 - x1), vN, vN, vN, vN] _ _
  refine r_iload_n hM (pc' := 22) dX10_broken_21 rfl (x := v3) rfl ?_
  refine r_if_lt hM (pc' := 25) (tgt := 225) dX10_broken_22 rfl (by decide) (fun c => ?_) (fun c => ?_)
  · have h := h.1 c
    refine r_weak hM (ls' := [vR 0, vN, vN, vN, vN, vI x1, vI x2, vI (x2 - x1), vN, vN, vN, vN]) ⟨Or.inl rfl, Or.inr rfl, Or.inr rfl, Or.inr rfl, Or.inr rfl, Or.inl rfl, Or.inl rfl, Or.inl rfl, Or.inl rfl, Or.inl rfl, Or.inl rfl, Or.inl rfl, trivial⟩ ?_
    exact h
  · have h := h.2 c
    refine r_aload_n hM (pc' := 26) dX10_broken_25 rfl (x := 0) rfl ?_
    refine r_getI hM (pc' := 29) dX10_broken_26 rfl fl_X10_42 wm_0 rfl ?_
    refine r_if_ne hM (pc' := 32) (tgt := 34) dX10_broken_29 rfl (by decide) (fun c => ?_) (fun c => ?_)
    · have h := h.1 c
      refine r_aload_n hM (pc' := 35) dX10_broken_34 rfl (x := 0) rfl ?_
      refine r_iload_n hM (pc' := 36) dX10_broken_35 rfl (x := v3) rfl ?_
      refine r_callVI hM (pc' := 39) [vI v3] dX10_broken_36 rfl ml_X10_133 wm_0 rfl rfl (Nat.le_of_ble_eq_true rfl) (conI.mono h (fun x3 σ3 h => ?_))
      refine r_iload hM (pc' := 41) dX10_broken_39 rfl (x := x1) rfl ?_
      refine r_icmp_ge hM (pc' := 44) (tgt := 48) dX10_broken_41 rfl (by decide) (fun c => ?_) (fun c => ?_)
      · have h := h.1 c
        refine r_iconst hM (pc' := 49) dX10_broken_48 rfl (by decide) ?_
        exact h
      · have h := h.2 c
        refine r_iconst hM (pc' := 45) dX10_broken_44 rfl (by decide) ?_
        refine r_goto hM (tgt := 49) dX10_broken_45 (by decide) ?_
        exact h
    · have h := h.2 c
      refine r_iconst hM (pc' := 33) dX10_broken_32 rfl (by decide) ?_
      exact r_ireturn hM dX10_broken_33 rfl h
set_option maxRecDepth 20000 in
theorem g_X10_broken_49 {G : GX} {d : Nat} {Ret : Option AV → St → Prop} {R : Nat → List AV → List AV → St → Prop} (hM : AM G wdM (d + 1) mX10_broken Ret R) (v1 : Int) (v2 : Int) (v3 : Int) (v4 : Int) (v5 : Int) (v6 : Int) (v7 : Int) (w0 : Int) (σ : St)
    (h : ((w0 = 0 → ((w0 = 0 → conI G wdM d mX10_beginOf [vR 0, vI v3] σ (fun x1 σ1 => R 84 [vR 0, vI v1, vI v2, vI v3, vI v4, vI v5, vI v6, vI v7, vI w0, vI v6, vN, vN] [vI x1] σ1)) ∧ (¬ w0 = 0 → R 84 [vR 0, vI v1, vI v2, vI v3, vI v4, vI v5, vI v6, vI v7, vI w0, vI v6, vN, vN] [vI v5] σ))) ∧ (¬ w0 = 0 → conI G wdM d mX10_endOf [vR 0, vI v4] σ (fun x2 σ2 => ((w0 = 0 → conI G wdM d mX10_beginOf [vR 0, vI v3] σ2 (fun x3 σ3 => R 84 [vR 0, vI v1, vI v2, vI v3, vI v4, vI v5, vI v6, vI v7, vI w0, vI x2, vN, vN] [vI x3] σ3)) ∧ (¬ w0 = 0 → R 84 [vR 0, vI v1, vI v2, vI v3, vI v4, vI v5, vI v6, vI v7, vI w0, vI x2, vN, vN] [vI v5] σ2)))))) : R 49 [vR 0, vI v1, vI v2, vI v3, vI v4, vI v5, vI v6, vI v7, vN, vN, vN, vN] [vI w0] σ := by
  refine r_istore hM (pc' := 51) dX10_broken_49 rfl (Nat.le_of_ble_eq_true rfl) rfl ?_
  show R 51 [vR 0, vI v1, vI v2, vI v3, vI v4, vI v5, vI v6, vI v7, vI w0, vN, vN, vN] _ _
  refine r_iload hM (pc' := 53) dX10_broken_51 rfl (x := w0) rfl ?_
  refine r_if_eq hM (pc' := 56) (tgt := 65) dX10_broken_53 rfl (by decide) (fun c => ?_) (fun c => ?_)
  · have h := h.1 c
    refine r_iload hM (pc' := 67) dX10_broken_65 rfl (x := v6) rfl ?_
    refine r_istore hM (pc' := 69) dX10_broken_67 rfl (Nat.le_of_ble_eq_true rfl) rfl ?_
    show R 69 [vR 0, vI v1, vI v2, vI v3, vI v4, vI v5, vI v6, vI v7, vI w0, vI v6, vN, vN] _ _
    refine r_iload hM (pc' := 71) dX10_broken_69 rfl (x := w0) rfl ?_
    refine r_if_eq hM (pc' := 74) (tgt := 79) dX10_broken_71 rfl (by decide) (fun c => ?_) (fun c => ?_)
    · have h := h.1 c
      refine r_aload_n hM (pc' := 80) dX10_broken_79 rfl (x := 0) rfl ?_
      refine r_iload_n hM (pc' := 81) dX10_broken_80 rfl (x := v3) rfl ?_
      refine r_callVI hM (pc' := 84) [vI v3] dX10_broken_81 rfl ml_X10_133 wm_0 rfl rfl (Nat.le_of_ble_eq_true rfl) (conI.mono h (fun x1 σ1 h => ?_))
      exact h
    · have h := h.2 c
      refine r_iload hM (pc' := 76) dX10_broken_74 rfl (x := v5) rfl ?_
      refine r_goto hM (tgt := 84) dX10_broken_76 (by decide) ?_
      exact h
  · have h := h.2 c
    refine r_aload_n hM (pc' := 57) dX10_broken_56 rfl (x := 0) rfl ?_
    refine r_iload hM (pc' := 59) dX10_broken_57 rfl (x := v4) rfl ?_
    refine r_callVI hM (pc' := 62) [vI v4] dX10_broken_59 rfl ml_X10_136 wm_0 rfl rfl (Nat.le_of_ble_eq_true rfl) (conI.mono h (fun x2 σ2 h => ?_))
    refine r_goto hM (tgt := 67) dX10_broken_62 (by decide) ?_
    refine r_istore hM (pc' := 69) dX10_broken_67 rfl (Nat.le_of_ble_eq_true rfl) rfl ?_
    show R 69 [vR 0, vI v1, vI v2, vI v3, vI v4, vI v5, vI v6, vI v7, vI w0, vI x2, vN, vN] _ _
    refine r_iload hM (pc' := 71) dX10_broken_69 rfl (x := w0) rfl ?_
    refine r_if_eq hM (pc' := 74) (tgt := 79) dX10_broken_71 rfl (by decide) (fun c => ?_) (fun c => ?_)
    · have h := h.1 c
      refine r_aload_n hM (pc' := 80) dX10_broken_79 rfl (x := 0) rfl ?_
      refine r_iload_n hM (pc' := 81) dX10_broken_80 rfl (x := v3) rfl ?_
      refine r_callVI hM (pc' := 84) [vI v3] dX10_broken_81 rfl ml_X10_133 wm_0 rfl rfl (Nat.le_of_ble_eq_true rfl) (conI.mono h (fun x3 σ3 h => ?_))
      exact h
    · have h := h.2 c
      refine r_iload hM (pc' := 76) dX10_broken_74 rfl (x := v5) rfl ?_
      refine r_goto hM (tgt := 84) dX10_broken_76 (by decide) ?_
      exact h
set_option maxRecDepth 20000 in
theorem g_X10_broken_84 {G : GX} {d : Nat} {Ret : Option AV → St → Prop} {R : Nat → List AV → List AV → St → Prop} (hM : AM G wdM (d + 1) mX10_broken Ret R) (v1 : Int) (v2 : Int) (v3 : Int) (v4 : Int) (v5 : Int) (v6 : Int) (v7 : Int) (v8 : Int) (v9 : Int) (w0 : Int) (σ : St)
    (h : ((v8 = 0 → ((0 ≤ v2 ∧ v2 < 16) ∧ ((0 ≤ (σ.1 14 (v2).toNat) ∧ (σ.1 14 (v2).toNat) < 16) ∧ (r32 (12 * (σ.1 5 ((σ.1 14 (v2).toNat)).toNat)) ∧ ((v8 = 0 → R 132 [vR 0, vN, vN, vI v3, vI v4, vI v5, vI v6, vI v7, vI v8, vI v9, vI w0, vN] [vI v3, vR 13, vR 4, vI (12 * (σ.1 5 ((σ.1 14 (v2).toNat)).toNat)), vR 1] σ) ∧ (¬ v8 = 0 → R 132 [vR 0, vN, vN, vI v3, vI v4, vI v5, vI v6, vI v7, vI v8, vI v9, vI w0, vN] [vI v1, vR 13, vR 4, vI (12 * (σ.1 5 ((σ.1 14 (v2).toNat)).toNat)), vR 1] σ)))))) ∧ (¬ v8 = 0 → ((0 ≤ v4 ∧ v4 < 16) ∧ ((0 ≤ (σ.1 14 (v4).toNat) ∧ (σ.1 14 (v4).toNat) < 16) ∧ (r32 (12 * (σ.1 5 ((σ.1 14 (v4).toNat)).toNat)) ∧ ((v8 = 0 → R 132 [vR 0, vN, vN, vI v3, vI v4, vI v5, vI v6, vI v7, vI v8, vI v9, vI w0, vN] [vI v3, vR 13, vR 4, vI (12 * (σ.1 5 ((σ.1 14 (v4).toNat)).toNat)), vR 1] σ) ∧ (¬ v8 = 0 → R 132 [vR 0, vN, vN, vI v3, vI v4, vI v5, vI v6, vI v7, vI v8, vI v9, vI w0, vN] [vI v1, vR 13, vR 4, vI (12 * (σ.1 5 ((σ.1 14 (v4).toNat)).toNat)), vR 1] σ)))))))) : R 84 [vR 0, vI v1, vI v2, vI v3, vI v4, vI v5, vI v6, vI v7, vI v8, vI v9, vN, vN] [vI w0] σ := by
  refine r_istore hM (pc' := 86) dX10_broken_84 rfl (Nat.le_of_ble_eq_true rfl) rfl ?_
  show R 86 [vR 0, vI v1, vI v2, vI v3, vI v4, vI v5, vI v6, vI v7, vI v8, vI v9, vI w0, vN] _ _
  refine r_aload_n hM (pc' := 87) dX10_broken_86 rfl (x := 0) rfl ?_
  refine r_getR hM (pc' := 90) dX10_broken_87 rfl fl_X10_7 wm_0 rfl ?_
  refine r_bipush hM (pc' := 92) dX10_broken_90 rfl (by decide) (by decide) ?_
  refine r_aload_n hM (pc' := 93) dX10_broken_92 rfl (x := 0) rfl ?_
  refine r_getR hM (pc' := 96) dX10_broken_93 rfl fl_X10_23 wm_0 rfl ?_
  refine r_aload_n hM (pc' := 97) dX10_broken_96 rfl (x := 0) rfl ?_
  refine r_getR hM (pc' := 100) dX10_broken_97 rfl fl_X10_65 wm_0 rfl ?_
  refine r_iload hM (pc' := 102) dX10_broken_100 rfl (x := v8) rfl ?_
  refine r_if_eq hM (pc' := 105) (tgt := 110) dX10_broken_102 rfl (by decide) (fun c => ?_) (fun c => ?_)
  · have h := h.1 c
    refine r_iload_n hM (pc' := 111) dX10_broken_110 rfl (x := v2) rfl ?_
    have o1 := h.1
    have h := h.2
    refine r_iaload hM (pc' := 112) dX10_broken_111 rfl wm_14 o1 ?_
    have o2 := h.1
    have h := h.2
    refine r_iaload hM (pc' := 113) dX10_broken_112 rfl wm_5 o2 ?_
    have o3 := h.1
    have h := h.2
    refine r_imul hM (pc' := 114) dX10_broken_113 rfl o3 ?_
    refine r_aload_n hM (pc' := 115) dX10_broken_114 rfl (x := 0) rfl ?_
    refine r_getR hM (pc' := 118) dX10_broken_115 rfl fl_X10_20 wm_0 rfl ?_
    refine r_aload_n hM (pc' := 119) dX10_broken_118 rfl (x := 0) rfl ?_
    refine r_getR hM (pc' := 122) dX10_broken_119 rfl fl_X10_62 wm_0 rfl ?_
    refine r_iload hM (pc' := 124) dX10_broken_122 rfl (x := v8) rfl ?_
    refine r_if_eq hM (pc' := 127) (tgt := 131) dX10_broken_124 rfl (by decide) (fun c => ?_) (fun c => ?_)
    · have h := h.1 c
      refine r_iload_n hM (pc' := 132) dX10_broken_131 rfl (x := v3) rfl ?_
      refine r_weak hM (ls' := [vR 0, vN, vN, vI v3, vI v4, vI v5, vI v6, vI v7, vI v8, vI v9, vI w0, vN]) ⟨Or.inl rfl, Or.inr rfl, Or.inr rfl, Or.inl rfl, Or.inl rfl, Or.inl rfl, Or.inl rfl, Or.inl rfl, Or.inl rfl, Or.inl rfl, Or.inl rfl, Or.inl rfl, trivial⟩ ?_
      exact h
    · have h := h.2 c
      refine r_iload_n hM (pc' := 128) dX10_broken_127 rfl (x := v1) rfl ?_
      refine r_goto hM (tgt := 132) dX10_broken_128 (by decide) ?_
      refine r_weak hM (ls' := [vR 0, vN, vN, vI v3, vI v4, vI v5, vI v6, vI v7, vI v8, vI v9, vI w0, vN]) ⟨Or.inl rfl, Or.inr rfl, Or.inr rfl, Or.inl rfl, Or.inl rfl, Or.inl rfl, Or.inl rfl, Or.inl rfl, Or.inl rfl, Or.inl rfl, Or.inl rfl, Or.inl rfl, trivial⟩ ?_
      exact h
  · have h := h.2 c
    refine r_iload hM (pc' := 107) dX10_broken_105 rfl (x := v4) rfl ?_
    refine r_goto hM (tgt := 111) dX10_broken_107 (by decide) ?_
    have o4 := h.1
    have h := h.2
    refine r_iaload hM (pc' := 112) dX10_broken_111 rfl wm_14 o4 ?_
    have o5 := h.1
    have h := h.2
    refine r_iaload hM (pc' := 113) dX10_broken_112 rfl wm_5 o5 ?_
    have o6 := h.1
    have h := h.2
    refine r_imul hM (pc' := 114) dX10_broken_113 rfl o6 ?_
    refine r_aload_n hM (pc' := 115) dX10_broken_114 rfl (x := 0) rfl ?_
    refine r_getR hM (pc' := 118) dX10_broken_115 rfl fl_X10_20 wm_0 rfl ?_
    refine r_aload_n hM (pc' := 119) dX10_broken_118 rfl (x := 0) rfl ?_
    refine r_getR hM (pc' := 122) dX10_broken_119 rfl fl_X10_62 wm_0 rfl ?_
    refine r_iload hM (pc' := 124) dX10_broken_122 rfl (x := v8) rfl ?_
    refine r_if_eq hM (pc' := 127) (tgt := 131) dX10_broken_124 rfl (by decide) (fun c => ?_) (fun c => ?_)
    · have h := h.1 c
      refine r_iload_n hM (pc' := 132) dX10_broken_131 rfl (x := v3) rfl ?_
      refine r_weak hM (ls' := [vR 0, vN, vN, vI v3, vI v4, vI v5, vI v6, vI v7, vI v8, vI v9, vI w0, vN]) ⟨Or.inl rfl, Or.inr rfl, Or.inr rfl, Or.inl rfl, Or.inl rfl, Or.inl rfl, Or.inl rfl, Or.inl rfl, Or.inl rfl, Or.inl rfl, Or.inl rfl, Or.inl rfl, trivial⟩ ?_
      exact h
    · have h := h.2 c
      refine r_iload_n hM (pc' := 128) dX10_broken_127 rfl (x := v1) rfl ?_
      refine r_goto hM (tgt := 132) dX10_broken_128 (by decide) ?_
      refine r_weak hM (ls' := [vR 0, vN, vN, vI v3, vI v4, vI v5, vI v6, vI v7, vI v8, vI v9, vI w0, vN]) ⟨Or.inl rfl, Or.inr rfl, Or.inr rfl, Or.inl rfl, Or.inl rfl, Or.inl rfl, Or.inl rfl, Or.inl rfl, Or.inl rfl, Or.inl rfl, Or.inl rfl, Or.inl rfl, trivial⟩ ?_
      exact h
set_option maxRecDepth 20000 in
theorem g_X10_broken_132 {G : GX} {d : Nat} {Ret : Option AV → St → Prop} {R : Nat → List AV → List AV → St → Prop} (hM : AM G wdM (d + 1) mX10_broken Ret R) (v3 : Int) (v4 : Int) (v5 : Int) (v6 : Int) (v7 : Int) (v8 : Int) (v9 : Int) (v10 : Int) (w1 : Int) (w4 : Int) (σ : St)
    (h : ((0 ≤ w4 ∧ w4 < 16) ∧ ((0 ≤ (σ.1 13 (w4).toNat) ∧ (σ.1 13 (w4).toNat) < 16) ∧ (r32 (w1 + (σ.1 4 ((σ.1 13 (w4).toNat)).toNat)) ∧ ((0 ≤ (w1 + (σ.1 4 ((σ.1 13 (w4).toNat)).toNat)) ∧ (w1 + (σ.1 4 ((σ.1 13 (w4).toNat)).toNat)) < 144) ∧ (∀ u1, u1 = (σ.1 1 ((w1 + (σ.1 4 ((σ.1 13 (w4).toNat)).toNat))).toNat) → (r32 (v9 + (σ.1 0 10)) ∧ ((v10 < (v9 + (σ.1 0 10)) → Ret (some (vI 2)) σ) ∧ (¬ v10 < (v9 + (σ.1 0 10)) → ((u1 < 0 → Ret (some (vI 2)) σ) ∧ (¬ u1 < 0 → (r32 (v9 + u1) ∧ (((v9 + u1) ≤ v10 → conI G wdM d mX10_endOf [vR 0, vI v4] σ (fun x1 σ1 => conI G wdM d mX10_beginOf [vR 0, vI v3] σ1 (fun x2 σ2 => (r32 (x1 - x2) ∧ (r32 (v7 + (x1 - x2)) ∧ ((v8 = 0 → R 199 [vR 0, vN, vN, vN, vI v4, vN, vI v6, vI (v7 + (x1 - x2)), vN, vN, vN, vN] [vI v5] σ2) ∧ (¬ v8 = 0 → conI G wdM d mX10_beginOf [vR 0, vI v3] σ2 (fun x3 σ3 => R 199 [vR 0, vN, vN, vN, vI v4, vN, vI v6, vI (v7 + (x1 - x2)), vN, vN, vN, vN] [vI x3] σ3)))))))) ∧ (¬ (v9 + u1) ≤ v10 → Ret (some (vI 2)) σ)))))))))))))) : R 132 [vR 0, vN, vN, vI v3, vI v4, vI v5, vI v6, vI v7, vI v8, vI v9, vI v10, vN] [vI w4, vR 13, vR 4, vI w1, vR 1] σ := by
  have o1 := h.1
  have h := h.2
  refine r_iaload hM (pc' := 133) dX10_broken_132 rfl wm_13 o1 ?_
  have o2 := h.1
  have h := h.2
  refine r_iaload hM (pc' := 134) dX10_broken_133 rfl wm_4 o2 ?_
  have o3 := h.1
  have h := h.2
  refine r_iadd hM (pc' := 135) dX10_broken_134 rfl o3 ?_
  have o4 := h.1
  have h := h.2
  refine r_iaload hM (pc' := 136) dX10_broken_135 rfl wm_1 o4 ?_
  refine r_istoreN hM (pc' := 138) dX10_broken_136 rfl (Nat.le_of_ble_eq_true rfl) rfl (fun u1 eu1 => ?_)
  have h := h u1 eu1
  show R 138 [vR 0, vN, vN, vI v3, vI v4, vI v5, vI v6, vI v7, vI v8, vI v9, vI v10, vI u1] _ _
  refine r_iload hM (pc' := 140) dX10_broken_138 rfl (x := v10) rfl ?_
  refine r_iload hM (pc' := 142) dX10_broken_140 rfl (x := v9) rfl ?_
  refine r_aload_n hM (pc' := 143) dX10_broken_142 rfl (x := 0) rfl ?_
  refine r_getI hM (pc' := 146) dX10_broken_143 rfl fl_X10_39 wm_0 rfl ?_
  have o5 := h.1
  have h := h.2
  refine r_iadd hM (pc' := 147) dX10_broken_146 rfl o5 ?_
  refine r_icmp_lt hM (pc' := 150) (tgt := 165) dX10_broken_147 rfl (by decide) (fun c => ?_) (fun c => ?_)
  · have h := h.1 c
    refine r_iconst hM (pc' := 166) dX10_broken_165 rfl (by decide) ?_
    exact r_ireturn hM dX10_broken_166 rfl h
  · have h := h.2 c
    refine r_iload hM (pc' := 152) dX10_broken_150 rfl (x := u1) rfl ?_
    refine r_if_lt hM (pc' := 155) (tgt := 165) dX10_broken_152 rfl (by decide) (fun c => ?_) (fun c => ?_)
    · have h := h.1 c
      refine r_iconst hM (pc' := 166) dX10_broken_165 rfl (by decide) ?_
      exact r_ireturn hM dX10_broken_166 rfl h
    · have h := h.2 c
      refine r_iload hM (pc' := 157) dX10_broken_155 rfl (x := v10) rfl ?_
      refine r_iload hM (pc' := 159) dX10_broken_157 rfl (x := v9) rfl ?_
      refine r_iload hM (pc' := 161) dX10_broken_159 rfl (x := u1) rfl ?_
      have o6 := h.1
      have h := h.2
      refine r_iadd hM (pc' := 162) dX10_broken_161 rfl o6 ?_
      refine r_icmp_ge hM (pc' := 165) (tgt := 167) dX10_broken_162 rfl (by decide) (fun c => ?_) (fun c => ?_)
      · have h := h.1 c
        refine r_iload hM (pc' := 169) dX10_broken_167 rfl (x := v7) rfl ?_
        refine r_aload_n hM (pc' := 170) dX10_broken_169 rfl (x := 0) rfl ?_
        refine r_iload hM (pc' := 172) dX10_broken_170 rfl (x := v4) rfl ?_
        refine r_callVI hM (pc' := 175) [vI v4] dX10_broken_172 rfl ml_X10_136 wm_0 rfl rfl (Nat.le_of_ble_eq_true rfl) (conI.mono h (fun x1 σ1 h => ?_))
        refine r_aload_n hM (pc' := 176) dX10_broken_175 rfl (x := 0) rfl ?_
        refine r_iload_n hM (pc' := 177) dX10_broken_176 rfl (x := v3) rfl ?_
        refine r_callVI hM (pc' := 180) [vI v3] dX10_broken_177 rfl ml_X10_133 wm_0 rfl rfl (Nat.le_of_ble_eq_true rfl) (conI.mono h (fun x2 σ2 h => ?_))
        have o7 := h.1
        have h := h.2
        refine r_isub hM (pc' := 181) dX10_broken_180 rfl o7 ?_
        have o8 := h.1
        have h := h.2
        refine r_iadd hM (pc' := 182) dX10_broken_181 rfl o8 ?_
        refine r_istore hM (pc' := 184) dX10_broken_182 rfl (Nat.le_of_ble_eq_true rfl) rfl ?_
        show R 184 [vR 0, vN, vN, vI v3, vI v4, vI v5, vI v6, vI (v7 + (x1 - x2)), vI v8, vI v9, vI v10, vI u1] _ _
        refine r_iload hM (pc' := 186) dX10_broken_184 rfl (x := v8) rfl ?_
        refine r_if_eq hM (pc' := 189) (tgt := 197) dX10_broken_186 rfl (by decide) (fun c => ?_) (fun c => ?_)
        · have h := h.1 c
          refine r_iload hM (pc' := 199) dX10_broken_197 rfl (x := v5) rfl ?_
          refine r_weak hM (ls' := [vR 0, vN, vN, vN, vI v4, vN, vI v6, vI (v7 + (x1 - x2)), vN, vN, vN, vN]) ⟨Or.inl rfl, Or.inl rfl, Or.inl rfl, Or.inr rfl, Or.inl rfl, Or.inr rfl, Or.inl rfl, Or.inl rfl, Or.inr rfl, Or.inr rfl, Or.inr rfl, Or.inr rfl, trivial⟩ ?_
          exact h
        · have h := h.2 c
          refine r_aload_n hM (pc' := 190) dX10_broken_189 rfl (x := 0) rfl ?_
          refine r_iload_n hM (pc' := 191) dX10_broken_190 rfl (x := v3) rfl ?_
          refine r_callVI hM (pc' := 194) [vI v3] dX10_broken_191 rfl ml_X10_133 wm_0 rfl rfl (Nat.le_of_ble_eq_true rfl) (conI.mono h (fun x3 σ3 h => ?_))
          refine r_goto hM (tgt := 199) dX10_broken_194 (by decide) ?_
          refine r_weak hM (ls' := [vR 0, vN, vN, vN, vI v4, vN, vI v6, vI (v7 + (x1 - x2)), vN, vN, vN, vN]) ⟨Or.inl rfl, Or.inl rfl, Or.inl rfl, Or.inr rfl, Or.inl rfl, Or.inr rfl, Or.inl rfl, Or.inl rfl, Or.inr rfl, Or.inr rfl, Or.inr rfl, Or.inr rfl, trivial⟩ ?_
          exact h
      · have h := h.2 c
        refine r_iconst hM (pc' := 166) dX10_broken_165 rfl (by decide) ?_
        exact r_ireturn hM dX10_broken_166 rfl h
set_option maxRecDepth 20000 in
theorem g_X10_broken_199 {G : GX} {d : Nat} {Ret : Option AV → St → Prop} {R : Nat → List AV → List AV → St → Prop} (hM : AM G wdM (d + 1) mX10_broken Ret R) (v4 : Int) (v6 : Int) (v7 : Int) (w0 : Int) (σ : St)
    (h : conI G wdM d mX10_endOf [vR 0, vI v4] σ (fun x1 σ1 => ((x1 ≤ v6 → R 225 [vR 0, vN, vN, vN, vN, vI w0, vI v6, vI v7, vN, vN, vN, vN] [] σ1) ∧ (¬ x1 ≤ v6 → conI G wdM d mX10_endOf [vR 0, vI v4] σ1 (fun x2 σ2 => R 225 [vR 0, vN, vN, vN, vN, vI w0, vI x2, vI v7, vN, vN, vN, vN] [] σ2))))) : R 199 [vR 0, vN, vN, vN, vI v4, vN, vI v6, vI v7, vN, vN, vN, vN] [vI w0] σ := by
  refine r_istore hM (pc' := 201) dX10_broken_199 rfl (Nat.le_of_ble_eq_true rfl) rfl ?_
  show R 201 [vR 0, vN, vN, vN, vI v4, vI w0, vI v6, vI v7, vN, vN, vN, vN] _ _
  refine r_aload_n hM (pc' := 202) dX10_broken_201 rfl (x := 0) rfl ?_
  refine r_iload hM (pc' := 204) dX10_broken_202 rfl (x := v4) rfl ?_
  refine r_callVI hM (pc' := 207) [vI v4] dX10_broken_204 rfl ml_X10_136 wm_0 rfl rfl (Nat.le_of_ble_eq_true rfl) (conI.mono h (fun x1 σ1 h => ?_))
  refine r_iload hM (pc' := 209) dX10_broken_207 rfl (x := v6) rfl ?_
  refine r_icmp_le hM (pc' := 212) (tgt := 221) dX10_broken_209 rfl (by decide) (fun c => ?_) (fun c => ?_)
  · have h := h.1 c
    refine r_iload hM (pc' := 223) dX10_broken_221 rfl (x := v6) rfl ?_
    refine r_istore hM (pc' := 225) dX10_broken_223 rfl (Nat.le_of_ble_eq_true rfl) rfl ?_
    show R 225 [vR 0, vN, vN, vN, vI v4, vI w0, vI v6, vI v7, vN, vN, vN, vN] _ _
    refine r_weak hM (ls' := [vR 0, vN, vN, vN, vN, vI w0, vI v6, vI v7, vN, vN, vN, vN]) ⟨Or.inl rfl, Or.inl rfl, Or.inl rfl, Or.inl rfl, Or.inr rfl, Or.inl rfl, Or.inl rfl, Or.inl rfl, Or.inl rfl, Or.inl rfl, Or.inl rfl, Or.inl rfl, trivial⟩ ?_
    exact h
  · have h := h.2 c
    refine r_aload_n hM (pc' := 213) dX10_broken_212 rfl (x := 0) rfl ?_
    refine r_iload hM (pc' := 215) dX10_broken_213 rfl (x := v4) rfl ?_
    refine r_callVI hM (pc' := 218) [vI v4] dX10_broken_215 rfl ml_X10_136 wm_0 rfl rfl (Nat.le_of_ble_eq_true rfl) (conI.mono h (fun x2 σ2 h => ?_))
    refine r_goto hM (tgt := 223) dX10_broken_218 (by decide) ?_
    refine r_istore hM (pc' := 225) dX10_broken_223 rfl (Nat.le_of_ble_eq_true rfl) rfl ?_
    show R 225 [vR 0, vN, vN, vN, vI v4, vI w0, vI x2, vI v7, vN, vN, vN, vN] _ _
    refine r_weak hM (ls' := [vR 0, vN, vN, vN, vN, vI w0, vI x2, vI v7, vN, vN, vN, vN]) ⟨Or.inl rfl, Or.inl rfl, Or.inl rfl, Or.inl rfl, Or.inr rfl, Or.inl rfl, Or.inl rfl, Or.inl rfl, Or.inl rfl, Or.inl rfl, Or.inl rfl, Or.inl rfl, trivial⟩ ?_
    exact h
set_option maxRecDepth 20000 in
theorem g_X10_broken_225 {G : GX} {d : Nat} {Ret : Option AV → St → Prop} {R : Nat → List AV → List AV → St → Prop} (hM : AM G wdM (d + 1) mX10_broken Ret R) (v5 : Int) (v6 : Int) (v7 : Int) (σ : St)
    (h : (r32 (v6 - v5) ∧ (((v6 - v5) ≤ (σ.1 0 8) → ((v7 ≤ (σ.1 0 9) → Ret (some (vI 0)) σ) ∧ (¬ v7 ≤ (σ.1 0 9) → Ret (some (vI 4)) σ))) ∧ (¬ (v6 - v5) ≤ (σ.1 0 8) → Ret (some (vI 3)) σ)))) : R 225 [vR 0, vN, vN, vN, vN, vI v5, vI v6, vI v7, vN, vN, vN, vN] [] σ := by
  refine r_iload hM (pc' := 227) dX10_broken_225 rfl (x := v6) rfl ?_
  refine r_iload hM (pc' := 229) dX10_broken_227 rfl (x := v5) rfl ?_
  have o1 := h.1
  have h := h.2
  refine r_isub hM (pc' := 230) dX10_broken_229 rfl o1 ?_
  refine r_aload_n hM (pc' := 231) dX10_broken_230 rfl (x := 0) rfl ?_
  refine r_getI hM (pc' := 234) dX10_broken_231 rfl fl_X10_32 wm_0 rfl ?_
  refine r_icmp_le hM (pc' := 237) (tgt := 241) dX10_broken_234 rfl (by decide) (fun c => ?_) (fun c => ?_)
  · have h := h.1 c
    refine r_iload hM (pc' := 243) dX10_broken_241 rfl (x := v7) rfl ?_
    refine r_aload_n hM (pc' := 244) dX10_broken_243 rfl (x := 0) rfl ?_
    refine r_getI hM (pc' := 247) dX10_broken_244 rfl fl_X10_36 wm_0 rfl ?_
    refine r_icmp_le hM (pc' := 250) (tgt := 254) dX10_broken_247 rfl (by decide) (fun c => ?_) (fun c => ?_)
    · have h := h.1 c
      refine r_iconst hM (pc' := 255) dX10_broken_254 rfl (by decide) ?_
      exact r_ireturn hM dX10_broken_255 rfl h
    · have h := h.2 c
      refine r_iconst hM (pc' := 251) dX10_broken_250 rfl (by decide) ?_
      refine r_goto hM (tgt := 255) dX10_broken_251 (by decide) ?_
      exact r_ireturn hM dX10_broken_255 rfl h
  · have h := h.2 c
    refine r_iconst hM (pc' := 238) dX10_broken_237 rfl (by decide) ?_
    refine r_goto hM (tgt := 255) dX10_broken_238 (by decide) ?_
    exact r_ireturn hM dX10_broken_255 rfl h
theorem dX10_clash_0 : decode cX10_clash 0 = .ok (.aload_n 0, 1) := by decide +kernel
theorem dX10_clash_1 : decode cX10_clash 1 = .ok (.invokevirtual 126, 3) := by decide +kernel
theorem dX10_clash_4 : decode cX10_clash 4 = .ok (.aload_n 0, 1) := by decide +kernel
theorem dX10_clash_5 : decode cX10_clash 5 = .ok (.iload_n 1, 1) := by decide +kernel
theorem dX10_clash_6 : decode cX10_clash 6 = .ok (.iload_n 2, 1) := by decide +kernel
theorem dX10_clash_7 : decode cX10_clash 7 = .ok (.invokevirtual 139, 3) := by decide +kernel
theorem dX10_clash_10 : decode cX10_clash 10 = .ok (.ifCond .eq 29, 3) := by decide +kernel
theorem dX10_clash_13 : decode cX10_clash 13 = .ok (.iload_n 3, 1) := by decide +kernel
theorem dX10_clash_14 : decode cX10_clash 14 = .ok (.iconst (-1), 1) := by decide +kernel
theorem dX10_clash_15 : decode cX10_clash 15 = .ok (.if_icmp .eq 26, 3) := by decide +kernel
theorem dX10_clash_18 : decode cX10_clash 18 = .ok (.aload_n 0, 1) := by decide +kernel
theorem dX10_clash_19 : decode cX10_clash 19 = .ok (.iload_n 3, 1) := by decide +kernel
theorem dX10_clash_20 : decode cX10_clash 20 = .ok (.iload 4, 2) := by decide +kernel
theorem dX10_clash_22 : decode cX10_clash 22 = .ok (.invokevirtual 139, 3) := by decide +kernel
theorem dX10_clash_25 : decode cX10_clash 25 = .ok (.ifCond .eq 14, 3) := by decide +kernel
theorem dX10_clash_28 : decode cX10_clash 28 = .ok (.iload_n 3, 1) := by decide +kernel
theorem dX10_clash_29 : decode cX10_clash 29 = .ok (.iload_n 2, 1) := by decide +kernel
theorem dX10_clash_30 : decode cX10_clash 30 = .ok (.if_icmp .gt 11, 3) := by decide +kernel
theorem dX10_clash_33 : decode cX10_clash 33 = .ok (.iload_n 1, 1) := by decide +kernel
theorem dX10_clash_34 : decode cX10_clash 34 = .ok (.iload 4, 2) := by decide +kernel
theorem dX10_clash_36 : decode cX10_clash 36 = .ok (.if_icmp .gt 5, 3) := by decide +kernel
theorem dX10_clash_39 : decode cX10_clash 39 = .ok (.iconst (-1), 1) := by decide +kernel
theorem dX10_clash_40 : decode cX10_clash 40 = .ok (.ireturn, 1) := by decide +kernel
theorem dX10_clash_41 : decode cX10_clash 41 = .ok (.aload_n 0, 1) := by decide +kernel
theorem dX10_clash_42 : decode cX10_clash 42 = .ok (.iload_n 1, 1) := by decide +kernel
theorem dX10_clash_43 : decode cX10_clash 43 = .ok (.iload_n 2, 1) := by decide +kernel
theorem dX10_clash_44 : decode cX10_clash 44 = .ok (.iload_n 3, 1) := by decide +kernel
theorem dX10_clash_45 : decode cX10_clash 45 = .ok (.iload 4, 2) := by decide +kernel
theorem dX10_clash_47 : decode cX10_clash 47 = .ok (.invokevirtual 142, 3) := by decide +kernel
theorem dX10_clash_50 : decode cX10_clash 50 = .ok (.ireturn, 1) := by decide +kernel
set_option maxRecDepth 20000 in
theorem g_X10_clash_0 {G : GX} {d : Nat} {Ret : Option AV → St → Prop} {R : Nat → List AV → List AV → St → Prop} (hM : AM G wdM (d + 1) mX10_clash Ret R) (v1 : Int) (v2 : Int) (v3 : Int) (v4 : Int) (σ : St)
    (h : conV G wdM d mX10_plans [vR 0] σ (fun σ1 => conI G wdM d mX10_isPiece [vR 0, vI v1, vI v2] σ1 (fun x2 σ2 => ((x2 = 0 → Ret (some (vI (-1))) σ2) ∧ (¬ x2 = 0 → ((v3 = (-1) → conI G wdM d mX10_broken [vR 0, vI v1, vI v2, vI v3, vI v4] σ2 (fun x3 σ3 => Ret (some (vI x3)) σ3)) ∧ (¬ v3 = (-1) → conI G wdM d mX10_isPiece [vR 0, vI v3, vI v4] σ2 (fun x4 σ4 => ((x4 = 0 → Ret (some (vI (-1))) σ4) ∧ (¬ x4 = 0 → ((v2 < v3 → conI G wdM d mX10_broken [vR 0, vI v1, vI v2, vI v3, vI v4] σ4 (fun x5 σ5 => Ret (some (vI x5)) σ5)) ∧ (¬ v2 < v3 → ((v4 < v1 → conI G wdM d mX10_broken [vR 0, vI v1, vI v2, vI v3, vI v4] σ4 (fun x6 σ6 => Ret (some (vI x6)) σ6)) ∧ (¬ v4 < v1 → Ret (some (vI (-1))) σ4)))))))))))))) : R 0 [vR 0, vI v1, vI v2, vI v3, vI v4] [] σ := by
  refine r_aload_n hM (pc' := 1) dX10_clash_0 rfl (x := 0) rfl ?_
  refine r_callVV hM (pc' := 4) [] dX10_clash_1 rfl ml_X10_126 wm_0 rfl rfl (Nat.le_of_ble_eq_true rfl) (conV.mono h (fun σ1 h => ?_))
  refine r_aload_n hM (pc' := 5) dX10_clash_4 rfl (x := 0) rfl ?_
  refine r_iload_n hM (pc' := 6) dX10_clash_5 rfl (x := v1) rfl ?_
  refine r_iload_n hM (pc' := 7) dX10_clash_6 rfl (x := v2) rfl ?_
  refine r_callVI hM (pc' := 10) [vI v1, vI v2] dX10_clash_7 rfl ml_X10_139 wm_0 rfl rfl (Nat.le_of_ble_eq_true rfl) (conI.mono h (fun x2 σ2 h => ?_))
  refine r_if_eq hM (pc' := 13) (tgt := 39) dX10_clash_10 rfl (by decide) (fun c => ?_) (fun c => ?_)
  · have h := h.1 c
    refine r_iconst hM (pc' := 40) dX10_clash_39 rfl (by decide) ?_
    exact r_ireturn hM dX10_clash_40 rfl h
  · have h := h.2 c
    refine r_iload_n hM (pc' := 14) dX10_clash_13 rfl (x := v3) rfl ?_
    refine r_iconst hM (pc' := 15) dX10_clash_14 rfl (by decide) ?_
    refine r_icmp_eq hM (pc' := 18) (tgt := 41) dX10_clash_15 rfl (by decide) (fun c => ?_) (fun c => ?_)
    · have h := h.1 c
      refine r_aload_n hM (pc' := 42) dX10_clash_41 rfl (x := 0) rfl ?_
      refine r_iload_n hM (pc' := 43) dX10_clash_42 rfl (x := v1) rfl ?_
      refine r_iload_n hM (pc' := 44) dX10_clash_43 rfl (x := v2) rfl ?_
      refine r_iload_n hM (pc' := 45) dX10_clash_44 rfl (x := v3) rfl ?_
      refine r_iload hM (pc' := 47) dX10_clash_45 rfl (x := v4) rfl ?_
      refine r_callVI hM (pc' := 50) [vI v1, vI v2, vI v3, vI v4] dX10_clash_47 rfl ml_X10_142 wm_0 rfl rfl (Nat.le_of_ble_eq_true rfl) (conI.mono h (fun x3 σ3 h => ?_))
      exact r_ireturn hM dX10_clash_50 rfl h
    · have h := h.2 c
      refine r_aload_n hM (pc' := 19) dX10_clash_18 rfl (x := 0) rfl ?_
      refine r_iload_n hM (pc' := 20) dX10_clash_19 rfl (x := v3) rfl ?_
      refine r_iload hM (pc' := 22) dX10_clash_20 rfl (x := v4) rfl ?_
      refine r_callVI hM (pc' := 25) [vI v3, vI v4] dX10_clash_22 rfl ml_X10_139 wm_0 rfl rfl (Nat.le_of_ble_eq_true rfl) (conI.mono h (fun x4 σ4 h => ?_))
      refine r_if_eq hM (pc' := 28) (tgt := 39) dX10_clash_25 rfl (by decide) (fun c => ?_) (fun c => ?_)
      · have h := h.1 c
        refine r_iconst hM (pc' := 40) dX10_clash_39 rfl (by decide) ?_
        exact r_ireturn hM dX10_clash_40 rfl h
      · have h := h.2 c
        refine r_iload_n hM (pc' := 29) dX10_clash_28 rfl (x := v3) rfl ?_
        refine r_iload_n hM (pc' := 30) dX10_clash_29 rfl (x := v2) rfl ?_
        refine r_icmp_gt hM (pc' := 33) (tgt := 41) dX10_clash_30 rfl (by decide) (fun c => ?_) (fun c => ?_)
        · have h := h.1 c
          refine r_aload_n hM (pc' := 42) dX10_clash_41 rfl (x := 0) rfl ?_
          refine r_iload_n hM (pc' := 43) dX10_clash_42 rfl (x := v1) rfl ?_
          refine r_iload_n hM (pc' := 44) dX10_clash_43 rfl (x := v2) rfl ?_
          refine r_iload_n hM (pc' := 45) dX10_clash_44 rfl (x := v3) rfl ?_
          refine r_iload hM (pc' := 47) dX10_clash_45 rfl (x := v4) rfl ?_
          refine r_callVI hM (pc' := 50) [vI v1, vI v2, vI v3, vI v4] dX10_clash_47 rfl ml_X10_142 wm_0 rfl rfl (Nat.le_of_ble_eq_true rfl) (conI.mono h (fun x5 σ5 h => ?_))
          exact r_ireturn hM dX10_clash_50 rfl h
        · have h := h.2 c
          refine r_iload_n hM (pc' := 34) dX10_clash_33 rfl (x := v1) rfl ?_
          refine r_iload hM (pc' := 36) dX10_clash_34 rfl (x := v4) rfl ?_
          refine r_icmp_gt hM (pc' := 39) (tgt := 41) dX10_clash_36 rfl (by decide) (fun c => ?_) (fun c => ?_)
          · have h := h.1 c
            refine r_aload_n hM (pc' := 42) dX10_clash_41 rfl (x := 0) rfl ?_
            refine r_iload_n hM (pc' := 43) dX10_clash_42 rfl (x := v1) rfl ?_
            refine r_iload_n hM (pc' := 44) dX10_clash_43 rfl (x := v2) rfl ?_
            refine r_iload_n hM (pc' := 45) dX10_clash_44 rfl (x := v3) rfl ?_
            refine r_iload hM (pc' := 47) dX10_clash_45 rfl (x := v4) rfl ?_
            refine r_callVI hM (pc' := 50) [vI v1, vI v2, vI v3, vI v4] dX10_clash_47 rfl ml_X10_142 wm_0 rfl rfl (Nat.le_of_ble_eq_true rfl) (conI.mono h (fun x6 σ6 h => ?_))
            exact r_ireturn hM dX10_clash_50 rfl h
          · have h := h.2 c
            refine r_iconst hM (pc' := 40) dX10_clash_39 rfl (by decide) ?_
            exact r_ireturn hM dX10_clash_40 rfl h
theorem dX10_bits_0 : decode cX10_bits 0 = .ok (.iconst 1, 1) := by decide +kernel
theorem dX10_bits_1 : decode cX10_bits 1 = .ok (.iload_n 1, 1) := by decide +kernel
theorem dX10_bits_2 : decode cX10_bits 2 = .ok (.iconst 1, 1) := by decide +kernel
theorem dX10_bits_3 : decode cX10_bits 3 = .ok (.iadd, 1) := by decide +kernel
theorem dX10_bits_4 : decode cX10_bits 4 = .ok (.ishl, 1) := by decide +kernel
theorem dX10_bits_5 : decode cX10_bits 5 = .ok (.iconst 1, 1) := by decide +kernel
theorem dX10_bits_6 : decode cX10_bits 6 = .ok (.iload_n 0, 1) := by decide +kernel
theorem dX10_bits_7 : decode cX10_bits 7 = .ok (.ishl, 1) := by decide +kernel
theorem dX10_bits_8 : decode cX10_bits 8 = .ok (.isub, 1) := by decide +kernel
theorem dX10_bits_9 : decode cX10_bits 9 = .ok (.ireturn, 1) := by decide +kernel
set_option maxRecDepth 20000 in
theorem g_X10_bits_0 {G : GX} {d : Nat} {Ret : Option AV → St → Prop} {R : Nat → List AV → List AV → St → Prop} (hM : AM G wdM d mX10_bits Ret R) (v0 : Int) (v1 : Int) (σ : St)
    (h : (r32 (v1 + 1) ∧ (r32 ((bShl 1 (v1 + 1)) - (bShl 1 v0)) ∧ Ret (some (vI ((bShl 1 (v1 + 1)) - (bShl 1 v0)))) σ))) : R 0 [vI v0, vI v1] [] σ := by
  refine r_iconst hM (pc' := 1) dX10_bits_0 rfl (by decide) ?_
  refine r_iload_n hM (pc' := 2) dX10_bits_1 rfl (x := v1) rfl ?_
  refine r_iconst hM (pc' := 3) dX10_bits_2 rfl (by decide) ?_
  have o1 := h.1
  have h := h.2
  refine r_iadd hM (pc' := 4) dX10_bits_3 rfl o1 ?_
  refine r_ishl hM (pc' := 5) dX10_bits_4 rfl ?_
  refine r_iconst hM (pc' := 6) dX10_bits_5 rfl (by decide) ?_
  refine r_iload_n hM (pc' := 7) dX10_bits_6 rfl (x := v0) rfl ?_
  refine r_ishl hM (pc' := 8) dX10_bits_7 rfl ?_
  have o2 := h.1
  have h := h.2
  refine r_isub hM (pc' := 9) dX10_bits_8 rfl o2 ?_
  exact r_ireturn hM dX10_bits_9 rfl h
theorem dX10_lowest_0 : decode cX10_lowest 0 = .ok (.iconst 0, 1) := by decide +kernel
theorem dX10_lowest_1 : decode cX10_lowest 1 = .ok (.istore_n 1, 1) := by decide +kernel
theorem dX10_lowest_2 : decode cX10_lowest 2 = .ok (.iload_n 0, 1) := by decide +kernel
theorem dX10_lowest_3 : decode cX10_lowest 3 = .ok (.iload_n 1, 1) := by decide +kernel
theorem dX10_lowest_4 : decode cX10_lowest 4 = .ok (.ishr, 1) := by decide +kernel
theorem dX10_lowest_5 : decode cX10_lowest 5 = .ok (.iconst 1, 1) := by decide +kernel
theorem dX10_lowest_6 : decode cX10_lowest 6 = .ok (.iand, 1) := by decide +kernel
theorem dX10_lowest_7 : decode cX10_lowest 7 = .ok (.ifCond .ne 9, 3) := by decide +kernel
theorem dX10_lowest_10 : decode cX10_lowest 10 = .ok (.iinc 1 1, 3) := by decide +kernel
theorem dX10_lowest_13 : decode cX10_lowest 13 = .ok (.goto (-11), 3) := by decide +kernel
theorem dX10_lowest_16 : decode cX10_lowest 16 = .ok (.iload_n 1, 1) := by decide +kernel
theorem dX10_lowest_17 : decode cX10_lowest 17 = .ok (.ireturn, 1) := by decide +kernel
set_option maxRecDepth 20000 in
theorem g_X10_lowest_0 {G : GX} {d : Nat} {Ret : Option AV → St → Prop} {R : Nat → List AV → List AV → St → Prop} (hM : AM G wdM d mX10_lowest Ret R) (v0 : Int) (σ : St)
    (h : R 2 [vI v0, vI 0] [] σ) : R 0 [vI v0, vN] [] σ := by
  refine r_iconst hM (pc' := 1) dX10_lowest_0 rfl (by decide) ?_
  refine r_istore_n hM (pc' := 2) dX10_lowest_1 rfl (Nat.le_of_ble_eq_true rfl) rfl ?_
  show R 2 [vI v0, vI 0] _ _
  exact h
set_option maxRecDepth 20000 in
theorem g_X10_lowest_2 {G : GX} {d : Nat} {Ret : Option AV → St → Prop} {R : Nat → List AV → List AV → St → Prop} (hM : AM G wdM d mX10_lowest Ret R) (v0 : Int) (v1 : Int) (σ : St)
    (h : ((¬ (bAnd (bShr v0 v1) 1) = 0 → Ret (some (vI v1)) σ) ∧ ((bAnd (bShr v0 v1) 1) = 0 → (r32 (v1 + 1) ∧ R 2 [vI v0, vI (v1 + 1)] [] σ)))) : R 2 [vI v0, vI v1] [] σ := by
  refine r_iload_n hM (pc' := 3) dX10_lowest_2 rfl (x := v0) rfl ?_
  refine r_iload_n hM (pc' := 4) dX10_lowest_3 rfl (x := v1) rfl ?_
  refine r_ishr hM (pc' := 5) dX10_lowest_4 rfl ?_
  refine r_iconst hM (pc' := 6) dX10_lowest_5 rfl (by decide) ?_
  refine r_iand hM (pc' := 7) dX10_lowest_6 rfl ?_
  refine r_if_ne hM (pc' := 10) (tgt := 16) dX10_lowest_7 rfl (by decide) (fun c => ?_) (fun c => ?_)
  · have h := h.1 c
    refine r_iload_n hM (pc' := 17) dX10_lowest_16 rfl (x := v1) rfl ?_
    exact r_ireturn hM dX10_lowest_17 rfl h
  · have h := h.2 c
    have o1 := h.1
    have h := h.2
    refine r_iinc hM (pc' := 13) dX10_lowest_10 rfl (x := v1) rfl rfl o1 ?_
    show R 13 [vI v0, vI (v1 + 1)] _ _
    refine r_goto hM (tgt := 2) dX10_lowest_13 (by decide) ?_
    exact h
theorem dX10_rosters_0 : decode cX10_rosters 0 = .ok (.iconst 1, 1) := by decide +kernel
theorem dX10_rosters_1 : decode cX10_rosters 1 = .ok (.aload_n 0, 1) := by decide +kernel
theorem dX10_rosters_2 : decode cX10_rosters 2 = .ok (.getfield 119, 3) := by decide +kernel
theorem dX10_rosters_5 : decode cX10_rosters 5 = .ok (.ishl, 1) := by decide +kernel
theorem dX10_rosters_6 : decode cX10_rosters 6 = .ok (.istore_n 1, 1) := by decide +kernel
theorem dX10_rosters_7 : decode cX10_rosters 7 = .ok (.aload_n 0, 1) := by decide +kernel
theorem dX10_rosters_8 : decode cX10_rosters 8 = .ok (.getfield 74, 3) := by decide +kernel
theorem dX10_rosters_11 : decode cX10_rosters 11 = .ok (.iconst 0, 1) := by decide +kernel
theorem dX10_rosters_12 : decode cX10_rosters 12 = .ok (.iconst 0, 1) := by decide +kernel
theorem dX10_rosters_13 : decode cX10_rosters 13 = .ok (.iastore, 1) := by decide +kernel
theorem dX10_rosters_14 : decode cX10_rosters 14 = .ok (.iconst 1, 1) := by decide +kernel
theorem dX10_rosters_15 : decode cX10_rosters 15 = .ok (.istore_n 2, 1) := by decide +kernel
theorem dX10_rosters_16 : decode cX10_rosters 16 = .ok (.iload_n 2, 1) := by decide +kernel
theorem dX10_rosters_17 : decode cX10_rosters 17 = .ok (.iload_n 1, 1) := by decide +kernel
theorem dX10_rosters_18 : decode cX10_rosters 18 = .ok (.if_icmp .ge 24, 3) := by decide +kernel
theorem dX10_rosters_21 : decode cX10_rosters 21 = .ok (.aload_n 0, 1) := by decide +kernel
theorem dX10_rosters_22 : decode cX10_rosters 22 = .ok (.getfield 74, 3) := by decide +kernel
theorem dX10_rosters_25 : decode cX10_rosters 25 = .ok (.iload_n 2, 1) := by decide +kernel
theorem dX10_rosters_26 : decode cX10_rosters 26 = .ok (.iconst (-1), 1) := by decide +kernel
theorem dX10_rosters_27 : decode cX10_rosters 27 = .ok (.iastore, 1) := by decide +kernel
theorem dX10_rosters_28 : decode cX10_rosters 28 = .ok (.aload_n 0, 1) := by decide +kernel
theorem dX10_rosters_29 : decode cX10_rosters 29 = .ok (.iload_n 2, 1) := by decide +kernel
theorem dX10_rosters_30 : decode cX10_rosters 30 = .ok (.iconst 0, 1) := by decide +kernel
theorem dX10_rosters_31 : decode cX10_rosters 31 = .ok (.iconst 0, 1) := by decide +kernel
theorem dX10_rosters_32 : decode cX10_rosters 32 = .ok (.invokevirtual 146, 3) := by decide +kernel
theorem dX10_rosters_35 : decode cX10_rosters 35 = .ok (.pop, 1) := by decide +kernel
theorem dX10_rosters_36 : decode cX10_rosters 36 = .ok (.iinc 2 1, 3) := by decide +kernel
theorem dX10_rosters_39 : decode cX10_rosters 39 = .ok (.goto (-23), 3) := by decide +kernel
theorem dX10_rosters_42 : decode cX10_rosters 42 = .ok (.return_, 1) := by decide +kernel
set_option maxRecDepth 20000 in
theorem g_X10_rosters_0 {G : GX} {d : Nat} {Ret : Option AV → St → Prop} {R : Nat → List AV → List AV → St → Prop} (hM : AM G wdM (d + 1) mX10_rosters Ret R) (σ : St)
    (h : ((0 ≤ (0 : Int) ∧ (0 : Int) < 4096) ∧ (∀ τ1, τ1 = sI σ 17 ((0 : Int)).toNat 0 → R 16 [vR 0, vI (bShl 1 (σ.1 0 18)), vI 1] [] τ1))) : R 0 [vR 0, vN, vN] [] σ := by
  refine r_iconst hM (pc' := 1) dX10_rosters_0 rfl (by decide) ?_
  refine r_aload_n hM (pc' := 2) dX10_rosters_1 rfl (x := 0) rfl ?_
  refine r_getI hM (pc' := 5) dX10_rosters_2 rfl fl_X10_119 wm_0 rfl ?_
  refine r_ishl hM (pc' := 6) dX10_rosters_5 rfl ?_
  refine r_istore_n hM (pc' := 7) dX10_rosters_6 rfl (Nat.le_of_ble_eq_true rfl) rfl ?_
  show R 7 [vR 0, vI (bShl 1 (σ.1 0 18)), vN] _ _
  refine r_aload_n hM (pc' := 8) dX10_rosters_7 rfl (x := 0) rfl ?_
  refine r_getR hM (pc' := 11) dX10_rosters_8 rfl fl_X10_74 wm_0 rfl ?_
  refine r_iconst hM (pc' := 12) dX10_rosters_11 rfl (by decide) ?_
  refine r_iconst hM (pc' := 13) dX10_rosters_12 rfl (by decide) ?_
  have o1 := h.1
  have h := h.2
  refine r_iastore hM (pc' := 14) dX10_rosters_13 rfl wm_17 o1 (fun τ1 e1 => ?_)
  have h := h τ1 e1
  refine r_iconst hM (pc' := 15) dX10_rosters_14 rfl (by decide) ?_
  refine r_istore_n hM (pc' := 16) dX10_rosters_15 rfl (Nat.le_of_ble_eq_true rfl) rfl ?_
  show R 16 [vR 0, vI (bShl 1 (σ.1 0 18)), vI 1] _ _
  exact h
set_option maxRecDepth 20000 in
theorem g_X10_rosters_16 {G : GX} {d : Nat} {Ret : Option AV → St → Prop} {R : Nat → List AV → List AV → St → Prop} (hM : AM G wdM (d + 1) mX10_rosters Ret R) (v1 : Int) (v2 : Int) (σ : St)
    (h : ((v1 ≤ v2 → Ret none σ) ∧ (¬ v1 ≤ v2 → ((0 ≤ v2 ∧ v2 < 4096) ∧ (∀ τ1, τ1 = sI σ 17 (v2).toNat (-1) → conI G wdM d mX10_takes [vR 0, vI v2, vI 0, vI 0] τ1 (fun x1 σ1 => (r32 (v2 + 1) ∧ R 16 [vR 0, vI v1, vI (v2 + 1)] [] σ1))))))) : R 16 [vR 0, vI v1, vI v2] [] σ := by
  refine r_iload_n hM (pc' := 17) dX10_rosters_16 rfl (x := v2) rfl ?_
  refine r_iload_n hM (pc' := 18) dX10_rosters_17 rfl (x := v1) rfl ?_
  refine r_icmp_ge hM (pc' := 21) (tgt := 42) dX10_rosters_18 rfl (by decide) (fun c => ?_) (fun c => ?_)
  · have h := h.1 c
    exact r_return hM dX10_rosters_42 rfl h
  · have h := h.2 c
    refine r_aload_n hM (pc' := 22) dX10_rosters_21 rfl (x := 0) rfl ?_
    refine r_getR hM (pc' := 25) dX10_rosters_22 rfl fl_X10_74 wm_0 rfl ?_
    refine r_iload_n hM (pc' := 26) dX10_rosters_25 rfl (x := v2) rfl ?_
    refine r_iconst hM (pc' := 27) dX10_rosters_26 rfl (by decide) ?_
    have o1 := h.1
    have h := h.2
    refine r_iastore hM (pc' := 28) dX10_rosters_27 rfl wm_17 o1 (fun τ1 e1 => ?_)
    have h := h τ1 e1
    refine r_aload_n hM (pc' := 29) dX10_rosters_28 rfl (x := 0) rfl ?_
    refine r_iload_n hM (pc' := 30) dX10_rosters_29 rfl (x := v2) rfl ?_
    refine r_iconst hM (pc' := 31) dX10_rosters_30 rfl (by decide) ?_
    refine r_iconst hM (pc' := 32) dX10_rosters_31 rfl (by decide) ?_
    refine r_callVI hM (pc' := 35) [vI v2, vI 0, vI 0] dX10_rosters_32 rfl ml_X10_146 wm_0 rfl rfl (Nat.le_of_ble_eq_true rfl) (conI.mono h (fun x1 σ1 h => ?_))
    refine r_pop hM (pc' := 36) dX10_rosters_35 rfl (fun _ => rfl) ?_
    have o2 := h.1
    have h := h.2
    refine r_iinc hM (pc' := 39) dX10_rosters_36 rfl (x := v2) rfl rfl o2 ?_
    show R 39 [vR 0, vI v1, vI (v2 + 1)] _ _
    refine r_goto hM (tgt := 16) dX10_rosters_39 (by decide) ?_
    exact h
theorem dX10_takes_0 : decode cX10_takes 0 = .ok (.iload_n 1, 1) := by decide +kernel
theorem dX10_takes_1 : decode cX10_takes 1 = .ok (.invokestatic 150, 3) := by decide +kernel
theorem dX10_takes_4 : decode cX10_takes 4 = .ok (.istore 4, 2) := by decide +kernel
theorem dX10_takes_6 : decode cX10_takes 6 = .ok (.iload 4, 2) := by decide +kernel
theorem dX10_takes_8 : decode cX10_takes 8 = .ok (.istore 5, 2) := by decide +kernel
theorem dX10_takes_10 : decode cX10_takes 10 = .ok (.aload_n 0, 1) := by decide +kernel
theorem dX10_takes_11 : decode cX10_takes 11 = .ok (.iload 4, 2) := by decide +kernel
theorem dX10_takes_13 : decode cX10_takes 13 = .ok (.iload 5, 2) := by decide +kernel
theorem dX10_takes_15 : decode cX10_takes 15 = .ok (.invokevirtual 139, 3) := by decide +kernel
theorem dX10_takes_18 : decode cX10_takes 18 = .ok (.ifCond .eq 151, 3) := by decide +kernel
theorem dX10_takes_21 : decode cX10_takes 21 = .ok (.iload 4, 2) := by decide +kernel
theorem dX10_takes_23 : decode cX10_takes 23 = .ok (.iload 5, 2) := by decide +kernel
theorem dX10_takes_25 : decode cX10_takes 25 = .ok (.invokestatic 153, 3) := by decide +kernel
theorem dX10_takes_28 : decode cX10_takes 28 = .ok (.iload_n 1, 1) := by decide +kernel
theorem dX10_takes_29 : decode cX10_takes 29 = .ok (.iand, 1) := by decide +kernel
theorem dX10_takes_30 : decode cX10_takes 30 = .ok (.iload 4, 2) := by decide +kernel
theorem dX10_takes_32 : decode cX10_takes 32 = .ok (.iload 5, 2) := by decide +kernel
theorem dX10_takes_34 : decode cX10_takes 34 = .ok (.invokestatic 153, 3) := by decide +kernel
theorem dX10_takes_37 : decode cX10_takes 37 = .ok (.if_icmp .ne 132, 3) := by decide +kernel
theorem dX10_takes_40 : decode cX10_takes 40 = .ok (.iload_n 1, 1) := by decide +kernel
theorem dX10_takes_41 : decode cX10_takes 41 = .ok (.iload 4, 2) := by decide +kernel
theorem dX10_takes_43 : decode cX10_takes 43 = .ok (.iload 5, 2) := by decide +kernel
theorem dX10_takes_45 : decode cX10_takes 45 = .ok (.invokestatic 153, 3) := by decide +kernel
theorem dX10_takes_48 : decode cX10_takes 48 = .ok (.isub, 1) := by decide +kernel
theorem dX10_takes_49 : decode cX10_takes 49 = .ok (.istore 6, 2) := by decide +kernel
theorem dX10_takes_51 : decode cX10_takes 51 = .ok (.aload_n 0, 1) := by decide +kernel
theorem dX10_takes_52 : decode cX10_takes 52 = .ok (.iload_n 1, 1) := by decide +kernel
theorem dX10_takes_53 : decode cX10_takes 53 = .ok (.iload 6, 2) := by decide +kernel
theorem dX10_takes_55 : decode cX10_takes 55 = .ok (.iload 4, 2) := by decide +kernel
theorem dX10_takes_57 : decode cX10_takes 57 = .ok (.iload 5, 2) := by decide +kernel
theorem dX10_takes_59 : decode cX10_takes 59 = .ok (.iconst (-1), 1) := by decide +kernel
theorem dX10_takes_60 : decode cX10_takes 60 = .ok (.iconst (-1), 1) := by decide +kernel
theorem dX10_takes_61 : decode cX10_takes 61 = .ok (.iload_n 2, 1) := by decide +kernel
theorem dX10_takes_62 : decode cX10_takes 62 = .ok (.iload_n 3, 1) := by decide +kernel
theorem dX10_takes_63 : decode cX10_takes 63 = .ok (.invokevirtual 157, 3) := by decide +kernel
theorem dX10_takes_66 : decode cX10_takes 66 = .ok (.ifCond .eq 5, 3) := by decide +kernel
theorem dX10_takes_69 : decode cX10_takes 69 = .ok (.iconst 1, 1) := by decide +kernel
theorem dX10_takes_70 : decode cX10_takes 70 = .ok (.ireturn, 1) := by decide +kernel
theorem dX10_takes_71 : decode cX10_takes 71 = .ok (.iload 5, 2) := by decide +kernel
theorem dX10_takes_73 : decode cX10_takes 73 = .ok (.iconst 1, 1) := by decide +kernel
theorem dX10_takes_74 : decode cX10_takes 74 = .ok (.iadd, 1) := by decide +kernel
theorem dX10_takes_75 : decode cX10_takes 75 = .ok (.istore 7, 2) := by decide +kernel
theorem dX10_takes_77 : decode cX10_takes 77 = .ok (.iload 7, 2) := by decide +kernel
theorem dX10_takes_79 : decode cX10_takes 79 = .ok (.aload_n 0, 1) := by decide +kernel
theorem dX10_takes_80 : decode cX10_takes 80 = .ok (.getfield 119, 3) := by decide +kernel
theorem dX10_takes_83 : decode cX10_takes 83 = .ok (.if_icmp .ge 80, 3) := by decide +kernel
theorem dX10_takes_86 : decode cX10_takes 86 = .ok (.iload 7, 2) := by decide +kernel
theorem dX10_takes_88 : decode cX10_takes 88 = .ok (.istore 8, 2) := by decide +kernel
theorem dX10_takes_90 : decode cX10_takes 90 = .ok (.aload_n 0, 1) := by decide +kernel
theorem dX10_takes_91 : decode cX10_takes 91 = .ok (.iload 7, 2) := by decide +kernel
theorem dX10_takes_93 : decode cX10_takes 93 = .ok (.iload 8, 2) := by decide +kernel
theorem dX10_takes_95 : decode cX10_takes 95 = .ok (.invokevirtual 139, 3) := by decide +kernel
theorem dX10_takes_98 : decode cX10_takes 98 = .ok (.ifCond .eq 59, 3) := by decide +kernel
theorem dX10_takes_101 : decode cX10_takes 101 = .ok (.iload 7, 2) := by decide +kernel
theorem dX10_takes_103 : decode cX10_takes 103 = .ok (.iload 8, 2) := by decide +kernel
theorem dX10_takes_105 : decode cX10_takes 105 = .ok (.invokestatic 153, 3) := by decide +kernel
theorem dX10_takes_108 : decode cX10_takes 108 = .ok (.iload 6, 2) := by decide +kernel
theorem dX10_takes_110 : decode cX10_takes 110 = .ok (.iand, 1) := by decide +kernel
theorem dX10_takes_111 : decode cX10_takes 111 = .ok (.iload 7, 2) := by decide +kernel
theorem dX10_takes_113 : decode cX10_takes 113 = .ok (.iload 8, 2) := by decide +kernel
theorem dX10_takes_115 : decode cX10_takes 115 = .ok (.invokestatic 153, 3) := by decide +kernel
theorem dX10_takes_118 : decode cX10_takes 118 = .ok (.if_icmp .ne 39, 3) := by decide +kernel
theorem dX10_takes_121 : decode cX10_takes 121 = .ok (.aload_n 0, 1) := by decide +kernel
theorem dX10_takes_122 : decode cX10_takes 122 = .ok (.iload_n 1, 1) := by decide +kernel
theorem dX10_takes_123 : decode cX10_takes 123 = .ok (.iload 6, 2) := by decide +kernel
theorem dX10_takes_125 : decode cX10_takes 125 = .ok (.iload 7, 2) := by decide +kernel
theorem dX10_takes_127 : decode cX10_takes 127 = .ok (.iload 8, 2) := by decide +kernel
theorem dX10_takes_129 : decode cX10_takes 129 = .ok (.invokestatic 153, 3) := by decide +kernel
theorem dX10_takes_132 : decode cX10_takes 132 = .ok (.isub, 1) := by decide +kernel
theorem dX10_takes_133 : decode cX10_takes 133 = .ok (.iload 4, 2) := by decide +kernel
theorem dX10_takes_135 : decode cX10_takes 135 = .ok (.iload 5, 2) := by decide +kernel
theorem dX10_takes_137 : decode cX10_takes 137 = .ok (.iload 7, 2) := by decide +kernel
theorem dX10_takes_139 : decode cX10_takes 139 = .ok (.iload 8, 2) := by decide +kernel
theorem dX10_takes_141 : decode cX10_takes 141 = .ok (.iload_n 2, 1) := by decide +kernel
theorem dX10_takes_142 : decode cX10_takes 142 = .ok (.iload_n 3, 1) := by decide +kernel
theorem dX10_takes_143 : decode cX10_takes 143 = .ok (.invokevirtual 157, 3) := by decide +kernel
theorem dX10_takes_146 : decode cX10_takes 146 = .ok (.ifCond .eq 5, 3) := by decide +kernel
theorem dX10_takes_149 : decode cX10_takes 149 = .ok (.iconst 1, 1) := by decide +kernel
theorem dX10_takes_150 : decode cX10_takes 150 = .ok (.ireturn, 1) := by decide +kernel
theorem dX10_takes_151 : decode cX10_takes 151 = .ok (.iinc 8 1, 3) := by decide +kernel
theorem dX10_takes_154 : decode cX10_takes 154 = .ok (.goto (-64), 3) := by decide +kernel
theorem dX10_takes_157 : decode cX10_takes 157 = .ok (.iinc 7 1, 3) := by decide +kernel
theorem dX10_takes_160 : decode cX10_takes 160 = .ok (.goto (-83), 3) := by decide +kernel
theorem dX10_takes_163 : decode cX10_takes 163 = .ok (.iinc 5 1, 3) := by decide +kernel
theorem dX10_takes_166 : decode cX10_takes 166 = .ok (.goto (-156), 3) := by decide +kernel
theorem dX10_takes_169 : decode cX10_takes 169 = .ok (.iconst 0, 1) := by decide +kernel
theorem dX10_takes_170 : decode cX10_takes 170 = .ok (.ireturn, 1) := by decide +kernel
set_option maxRecDepth 20000 in
theorem g_X10_takes_0 {G : GX} {d : Nat} {Ret : Option AV → St → Prop} {R : Nat → List AV → List AV → St → Prop} (hM : AM G wdM (d + 1) mX10_takes Ret R) (v1 : Int) (v2 : Int) (v3 : Int) (σ : St)
    (h : conI G wdM d mX10_lowest [vI v1] σ (fun x1 σ1 => R 10 [vR 0, vI v1, vI v2, vI v3, vI x1, vI x1, vN, vN, vN] [] σ1)) : R 0 [vR 0, vI v1, vI v2, vI v3, vN, vN, vN, vN, vN] [] σ := by
  refine r_iload_n hM (pc' := 1) dX10_takes_0 rfl (x := v1) rfl ?_
  refine r_callSI hM (pc' := 4) [vI v1] dX10_takes_1 rfl ml_X10_150 rfl rfl (Nat.le_of_ble_eq_true rfl) (conI.mono h (fun x1 σ1 h => ?_))
  refine r_istore hM (pc' := 6) dX10_takes_4 rfl (Nat.le_of_ble_eq_true rfl) rfl ?_
  show R 6 [vR 0, vI v1, vI v2, vI v3, vI x1, vN, vN, vN, vN] _ _
  refine r_iload hM (pc' := 8) dX10_takes_6 rfl (x := x1) rfl ?_
  refine r_istore hM (pc' := 10) dX10_takes_8 rfl (Nat.le_of_ble_eq_true rfl) rfl ?_
  show R 10 [vR 0, vI v1, vI v2, vI v3, vI x1, vI x1, vN, vN, vN] _ _
  exact h
set_option maxRecDepth 20000 in
theorem g_X10_takes_10 {G : GX} {d : Nat} {Ret : Option AV → St → Prop} {R : Nat → List AV → List AV → St → Prop} (hM : AM G wdM (d + 1) mX10_takes Ret R) (v1 : Int) (v2 : Int) (v3 : Int) (v4 : Int) (v5 : Int) (σ : St)
    (h : conI G wdM d mX10_isPiece [vR 0, vI v4, vI v5] σ (fun x1 σ1 => ((x1 = 0 → Ret (some (vI 0)) σ1) ∧ (¬ x1 = 0 → conI G wdM d mX10_bits [vI v4, vI v5] σ1 (fun x2 σ2 => conI G wdM d mX10_bits [vI v4, vI v5] σ2 (fun x3 σ3 => ((¬ (bAnd x2 v1) = x3 → Ret (some (vI 0)) σ3) ∧ ((bAnd x2 v1) = x3 → conI G wdM d mX10_bits [vI v4, vI v5] σ3 (fun x4 σ4 => (r32 (v1 - x4) ∧ conI G wdM d mX10_takesOne [vR 0, vI v1, vI (v1 - x4), vI v4, vI v5, vI (-1), vI (-1), vI v2, vI v3] σ4 (fun x5 σ5 => ((x5 = 0 → (r32 (v5 + 1) ∧ R 77 [vR 0, vI v1, vI v2, vI v3, vI v4, vI v5, vI (v1 - x4), vI (v5 + 1), vN] [] σ5)) ∧ (¬ x5 = 0 → Ret (some (vI 1)) σ5))))))))))))) : R 10 [vR 0, vI v1, vI v2, vI v3, vI v4, vI v5, vN, vN, vN] [] σ := by
  refine r_aload_n hM (pc' := 11) dX10_takes_10 rfl (x := 0) rfl ?_
  refine r_iload hM (pc' := 13) dX10_takes_11 rfl (x := v4) rfl ?_
  refine r_iload hM (pc' := 15) dX10_takes_13 rfl (x := v5) rfl ?_
  refine r_callVI hM (pc' := 18) [vI v4, vI v5] dX10_takes_15 rfl ml_X10_139 wm_0 rfl rfl (Nat.le_of_ble_eq_true rfl) (conI.mono h (fun x1 σ1 h => ?_))
  refine r_if_eq hM (pc' := 21) (tgt := 169) dX10_takes_18 rfl (by decide) (fun c => ?_) (fun c => ?_)
  · have h := h.1 c
    refine r_iconst hM (pc' := 170) dX10_takes_169 rfl (by decide) ?_
    exact r_zreturn hM dX10_takes_170 rfl (by decide) h
  · have h := h.2 c
    refine r_iload hM (pc' := 23) dX10_takes_21 rfl (x := v4) rfl ?_
    refine r_iload hM (pc' := 25) dX10_takes_23 rfl (x := v5) rfl ?_
    refine r_callSI hM (pc' := 28) [vI v4, vI v5] dX10_takes_25 rfl ml_X10_153 rfl rfl (Nat.le_of_ble_eq_true rfl) (conI.mono h (fun x2 σ2 h => ?_))
    refine r_iload_n hM (pc' := 29) dX10_takes_28 rfl (x := v1) rfl ?_
    refine r_iand hM (pc' := 30) dX10_takes_29 rfl ?_
    refine r_iload hM (pc' := 32) dX10_takes_30 rfl (x := v4) rfl ?_
    refine r_iload hM (pc' := 34) dX10_takes_32 rfl (x := v5) rfl ?_
    refine r_callSI hM (pc' := 37) [vI v4, vI v5] dX10_takes_34 rfl ml_X10_153 rfl rfl (Nat.le_of_ble_eq_true rfl) (conI.mono h (fun x3 σ3 h => ?_))
    refine r_icmp_ne hM (pc' := 40) (tgt := 169) dX10_takes_37 rfl (by decide) (fun c => ?_) (fun c => ?_)
    · have h := h.1 c
      refine r_iconst hM (pc' := 170) dX10_takes_169 rfl (by decide) ?_
      exact r_zreturn hM dX10_takes_170 rfl (by decide) h
    · have h := h.2 c
      refine r_iload_n hM (pc' := 41) dX10_takes_40 rfl (x := v1) rfl ?_
      refine r_iload hM (pc' := 43) dX10_takes_41 rfl (x := v4) rfl ?_
      refine r_iload hM (pc' := 45) dX10_takes_43 rfl (x := v5) rfl ?_
      refine r_callSI hM (pc' := 48) [vI v4, vI v5] dX10_takes_45 rfl ml_X10_153 rfl rfl (Nat.le_of_ble_eq_true rfl) (conI.mono h (fun x4 σ4 h => ?_))
      have o1 := h.1
      have h := h.2
      refine r_isub hM (pc' := 49) dX10_takes_48 rfl o1 ?_
      refine r_istore hM (pc' := 51) dX10_takes_49 rfl (Nat.le_of_ble_eq_true rfl) rfl ?_
      show R 51 [vR 0, vI v1, vI v2, vI v3, vI v4, vI v5, vI (v1 - x4), vN, vN] _ _
      refine r_aload_n hM (pc' := 52) dX10_takes_51 rfl (x := 0) rfl ?_
      refine r_iload_n hM (pc' := 53) dX10_takes_52 rfl (x := v1) rfl ?_
      refine r_iload hM (pc' := 55) dX10_takes_53 rfl (x := (v1 - x4)) rfl ?_
      refine r_iload hM (pc' := 57) dX10_takes_55 rfl (x := v4) rfl ?_
      refine r_iload hM (pc' := 59) dX10_takes_57 rfl (x := v5) rfl ?_
      refine r_iconst hM (pc' := 60) dX10_takes_59 rfl (by decide) ?_
      refine r_iconst hM (pc' := 61) dX10_takes_60 rfl (by decide) ?_
      refine r_iload_n hM (pc' := 62) dX10_takes_61 rfl (x := v2) rfl ?_
      refine r_iload_n hM (pc' := 63) dX10_takes_62 rfl (x := v3) rfl ?_
      refine r_callVI hM (pc' := 66) [vI v1, vI (v1 - x4), vI v4, vI v5, vI (-1), vI (-1), vI v2, vI v3] dX10_takes_63 rfl ml_X10_157 wm_0 rfl rfl (Nat.le_of_ble_eq_true rfl) (conI.mono h (fun x5 σ5 h => ?_))
      refine r_if_eq hM (pc' := 69) (tgt := 71) dX10_takes_66 rfl (by decide) (fun c => ?_) (fun c => ?_)
      · have h := h.1 c
        refine r_iload hM (pc' := 73) dX10_takes_71 rfl (x := v5) rfl ?_
        refine r_iconst hM (pc' := 74) dX10_takes_73 rfl (by decide) ?_
        have o2 := h.1
        have h := h.2
        refine r_iadd hM (pc' := 75) dX10_takes_74 rfl o2 ?_
        refine r_istore hM (pc' := 77) dX10_takes_75 rfl (Nat.le_of_ble_eq_true rfl) rfl ?_
        show R 77 [vR 0, vI v1, vI v2, vI v3, vI v4, vI v5, vI (v1 - x4), vI (v5 + 1), vN] _ _
        exact h
      · have h := h.2 c
        refine r_iconst hM (pc' := 70) dX10_takes_69 rfl (by decide) ?_
        exact r_zreturn hM dX10_takes_70 rfl (by decide) h
set_option maxRecDepth 20000 in
theorem g_X10_takes_77 {G : GX} {d : Nat} {Ret : Option AV → St → Prop} {R : Nat → List AV → List AV → St → Prop} (hM : AM G wdM (d + 1) mX10_takes Ret R) (v1 : Int) (v2 : Int) (v3 : Int) (v4 : Int) (v5 : Int) (v6 : Int) (v7 : Int) (σ : St)
    (h : (((σ.1 0 18) ≤ v7 → (r32 (v5 + 1) ∧ R 10 [vR 0, vI v1, vI v2, vI v3, vI v4, vI (v5 + 1), vN, vN, vN] [] σ)) ∧ (¬ (σ.1 0 18) ≤ v7 → R 90 [vR 0, vI v1, vI v2, vI v3, vI v4, vI v5, vI v6, vI v7, vI v7] [] σ))) : R 77 [vR 0, vI v1, vI v2, vI v3, vI v4, vI v5, vI v6, vI v7, vN] [] σ := by
  refine r_iload hM (pc' := 79) dX10_takes_77 rfl (x := v7) rfl ?_
  refine r_aload_n hM (pc' := 80) dX10_takes_79 rfl (x := 0) rfl ?_
  refine r_getI hM (pc' := 83) dX10_takes_80 rfl fl_X10_119 wm_0 rfl ?_
  refine r_icmp_ge hM (pc' := 86) (tgt := 163) dX10_takes_83 rfl (by decide) (fun c => ?_) (fun c => ?_)
  · have h := h.1 c
    have o1 := h.1
    have h := h.2
    refine r_iinc hM (pc' := 166) dX10_takes_163 rfl (x := v5) rfl rfl o1 ?_
    show R 166 [vR 0, vI v1, vI v2, vI v3, vI v4, vI (v5 + 1), vI v6, vI v7, vN] _ _
    refine r_goto hM (tgt := 10) dX10_takes_166 (by decide) ?_
    refine r_weak hM (ls' := [vR 0, vI v1, vI v2, vI v3, vI v4, vI (v5 + 1), vN, vN, vN]) ⟨Or.inl rfl, Or.inl rfl, Or.inl rfl, Or.inl rfl, Or.inl rfl, Or.inl rfl, Or.inr rfl, Or.inr rfl, Or.inl rfl, trivial⟩ ?_
    exact h
  · have h := h.2 c
    refine r_iload hM (pc' := 88) dX10_takes_86 rfl (x := v7) rfl ?_
    refine r_istore hM (pc' := 90) dX10_takes_88 rfl (Nat.le_of_ble_eq_true rfl) rfl ?_
    show R 90 [vR 0, vI v1, vI v2, vI v3, vI v4, vI v5, vI v6, vI v7, vI v7] _ _
    exact h
set_option maxRecDepth 20000 in
theorem g_X10_takes_90 {G : GX} {d : Nat} {Ret : Option AV → St → Prop} {R : Nat → List AV → List AV → St → Prop} (hM : AM G wdM (d + 1) mX10_takes Ret R) (v1 : Int) (v2 : Int) (v3 : Int) (v4 : Int) (v5 : Int) (v6 : Int) (v7 : Int) (v8 : Int) (σ : St)
    (h : conI G wdM d mX10_isPiece [vR 0, vI v7, vI v8] σ (fun x1 σ1 => ((x1 = 0 → (r32 (v7 + 1) ∧ R 77 [vR 0, vI v1, vI v2, vI v3, vI v4, vI v5, vI v6, vI (v7 + 1), vN] [] σ1)) ∧ (¬ x1 = 0 → conI G wdM d mX10_bits [vI v7, vI v8] σ1 (fun x2 σ2 => conI G wdM d mX10_bits [vI v7, vI v8] σ2 (fun x3 σ3 => ((¬ (bAnd x2 v6) = x3 → (r32 (v7 + 1) ∧ R 77 [vR 0, vI v1, vI v2, vI v3, vI v4, vI v5, vI v6, vI (v7 + 1), vN] [] σ3)) ∧ ((bAnd x2 v6) = x3 → conI G wdM d mX10_bits [vI v7, vI v8] σ3 (fun x4 σ4 => (r32 (v6 - x4) ∧ conI G wdM d mX10_takesOne [vR 0, vI v1, vI (v6 - x4), vI v4, vI v5, vI v7, vI v8, vI v2, vI v3] σ4 (fun x5 σ5 => ((x5 = 0 → (r32 (v8 + 1) ∧ R 90 [vR 0, vI v1, vI v2, vI v3, vI v4, vI v5, vI v6, vI v7, vI (v8 + 1)] [] σ5)) ∧ (¬ x5 = 0 → Ret (some (vI 1)) σ5))))))))))))) : R 90 [vR 0, vI v1, vI v2, vI v3, vI v4, vI v5, vI v6, vI v7, vI v8] [] σ := by
  refine r_aload_n hM (pc' := 91) dX10_takes_90 rfl (x := 0) rfl ?_
  refine r_iload hM (pc' := 93) dX10_takes_91 rfl (x := v7) rfl ?_
  refine r_iload hM (pc' := 95) dX10_takes_93 rfl (x := v8) rfl ?_
  refine r_callVI hM (pc' := 98) [vI v7, vI v8] dX10_takes_95 rfl ml_X10_139 wm_0 rfl rfl (Nat.le_of_ble_eq_true rfl) (conI.mono h (fun x1 σ1 h => ?_))
  refine r_if_eq hM (pc' := 101) (tgt := 157) dX10_takes_98 rfl (by decide) (fun c => ?_) (fun c => ?_)
  · have h := h.1 c
    have o1 := h.1
    have h := h.2
    refine r_iinc hM (pc' := 160) dX10_takes_157 rfl (x := v7) rfl rfl o1 ?_
    show R 160 [vR 0, vI v1, vI v2, vI v3, vI v4, vI v5, vI v6, vI (v7 + 1), vI v8] _ _
    refine r_goto hM (tgt := 77) dX10_takes_160 (by decide) ?_
    refine r_weak hM (ls' := [vR 0, vI v1, vI v2, vI v3, vI v4, vI v5, vI v6, vI (v7 + 1), vN]) ⟨Or.inl rfl, Or.inl rfl, Or.inl rfl, Or.inl rfl, Or.inl rfl, Or.inl rfl, Or.inl rfl, Or.inl rfl, Or.inr rfl, trivial⟩ ?_
    exact h
  · have h := h.2 c
    refine r_iload hM (pc' := 103) dX10_takes_101 rfl (x := v7) rfl ?_
    refine r_iload hM (pc' := 105) dX10_takes_103 rfl (x := v8) rfl ?_
    refine r_callSI hM (pc' := 108) [vI v7, vI v8] dX10_takes_105 rfl ml_X10_153 rfl rfl (Nat.le_of_ble_eq_true rfl) (conI.mono h (fun x2 σ2 h => ?_))
    refine r_iload hM (pc' := 110) dX10_takes_108 rfl (x := v6) rfl ?_
    refine r_iand hM (pc' := 111) dX10_takes_110 rfl ?_
    refine r_iload hM (pc' := 113) dX10_takes_111 rfl (x := v7) rfl ?_
    refine r_iload hM (pc' := 115) dX10_takes_113 rfl (x := v8) rfl ?_
    refine r_callSI hM (pc' := 118) [vI v7, vI v8] dX10_takes_115 rfl ml_X10_153 rfl rfl (Nat.le_of_ble_eq_true rfl) (conI.mono h (fun x3 σ3 h => ?_))
    refine r_icmp_ne hM (pc' := 121) (tgt := 157) dX10_takes_118 rfl (by decide) (fun c => ?_) (fun c => ?_)
    · have h := h.1 c
      have o2 := h.1
      have h := h.2
      refine r_iinc hM (pc' := 160) dX10_takes_157 rfl (x := v7) rfl rfl o2 ?_
      show R 160 [vR 0, vI v1, vI v2, vI v3, vI v4, vI v5, vI v6, vI (v7 + 1), vI v8] _ _
      refine r_goto hM (tgt := 77) dX10_takes_160 (by decide) ?_
      refine r_weak hM (ls' := [vR 0, vI v1, vI v2, vI v3, vI v4, vI v5, vI v6, vI (v7 + 1), vN]) ⟨Or.inl rfl, Or.inl rfl, Or.inl rfl, Or.inl rfl, Or.inl rfl, Or.inl rfl, Or.inl rfl, Or.inl rfl, Or.inr rfl, trivial⟩ ?_
      exact h
    · have h := h.2 c
      refine r_aload_n hM (pc' := 122) dX10_takes_121 rfl (x := 0) rfl ?_
      refine r_iload_n hM (pc' := 123) dX10_takes_122 rfl (x := v1) rfl ?_
      refine r_iload hM (pc' := 125) dX10_takes_123 rfl (x := v6) rfl ?_
      refine r_iload hM (pc' := 127) dX10_takes_125 rfl (x := v7) rfl ?_
      refine r_iload hM (pc' := 129) dX10_takes_127 rfl (x := v8) rfl ?_
      refine r_callSI hM (pc' := 132) [vI v7, vI v8] dX10_takes_129 rfl ml_X10_153 rfl rfl (Nat.le_of_ble_eq_true rfl) (conI.mono h (fun x4 σ4 h => ?_))
      have o3 := h.1
      have h := h.2
      refine r_isub hM (pc' := 133) dX10_takes_132 rfl o3 ?_
      refine r_iload hM (pc' := 135) dX10_takes_133 rfl (x := v4) rfl ?_
      refine r_iload hM (pc' := 137) dX10_takes_135 rfl (x := v5) rfl ?_
      refine r_iload hM (pc' := 139) dX10_takes_137 rfl (x := v7) rfl ?_
      refine r_iload hM (pc' := 141) dX10_takes_139 rfl (x := v8) rfl ?_
      refine r_iload_n hM (pc' := 142) dX10_takes_141 rfl (x := v2) rfl ?_
      refine r_iload_n hM (pc' := 143) dX10_takes_142 rfl (x := v3) rfl ?_
      refine r_callVI hM (pc' := 146) [vI v1, vI (v6 - x4), vI v4, vI v5, vI v7, vI v8, vI v2, vI v3] dX10_takes_143 rfl ml_X10_157 wm_0 rfl rfl (Nat.le_of_ble_eq_true rfl) (conI.mono h (fun x5 σ5 h => ?_))
      refine r_if_eq hM (pc' := 149) (tgt := 151) dX10_takes_146 rfl (by decide) (fun c => ?_) (fun c => ?_)
      · have h := h.1 c
        have o4 := h.1
        have h := h.2
        refine r_iinc hM (pc' := 154) dX10_takes_151 rfl (x := v8) rfl rfl o4 ?_
        show R 154 [vR 0, vI v1, vI v2, vI v3, vI v4, vI v5, vI v6, vI v7, vI (v8 + 1)] _ _
        refine r_goto hM (tgt := 90) dX10_takes_154 (by decide) ?_
        exact h
      · have h := h.2 c
        refine r_iconst hM (pc' := 150) dX10_takes_149 rfl (by decide) ?_
        exact r_zreturn hM dX10_takes_150 rfl (by decide) h
theorem dX10_takesOne_0 : decode cX10_takesOne 0 = .ok (.aload_n 0, 1) := by decide +kernel
theorem dX10_takesOne_1 : decode cX10_takesOne 1 = .ok (.getfield 74, 3) := by decide +kernel
theorem dX10_takesOne_4 : decode cX10_takesOne 4 = .ok (.iload_n 2, 1) := by decide +kernel
theorem dX10_takesOne_5 : decode cX10_takesOne 5 = .ok (.iaload, 1) := by decide +kernel
theorem dX10_takesOne_6 : decode cX10_takesOne 6 = .ok (.ifCond .lt 17, 3) := by decide +kernel
theorem dX10_takesOne_9 : decode cX10_takesOne 9 = .ok (.aload_n 0, 1) := by decide +kernel
theorem dX10_takesOne_10 : decode cX10_takesOne 10 = .ok (.iload_n 3, 1) := by decide +kernel
theorem dX10_takesOne_11 : decode cX10_takesOne 11 = .ok (.iload 4, 2) := by decide +kernel
theorem dX10_takesOne_13 : decode cX10_takesOne 13 = .ok (.iload 5, 2) := by decide +kernel
theorem dX10_takesOne_15 : decode cX10_takesOne 15 = .ok (.iload 6, 2) := by decide +kernel
theorem dX10_takesOne_17 : decode cX10_takesOne 17 = .ok (.invokevirtual 142, 3) := by decide +kernel
theorem dX10_takesOne_20 : decode cX10_takesOne 20 = .ok (.ifCond .eq 5, 3) := by decide +kernel
theorem dX10_takesOne_23 : decode cX10_takesOne 23 = .ok (.iconst 0, 1) := by decide +kernel
theorem dX10_takesOne_24 : decode cX10_takesOne 24 = .ok (.ireturn, 1) := by decide +kernel
theorem dX10_takesOne_25 : decode cX10_takesOne 25 = .ok (.aload_n 0, 1) := by decide +kernel
theorem dX10_takesOne_26 : decode cX10_takesOne 26 = .ok (.getfield 74, 3) := by decide +kernel
theorem dX10_takesOne_29 : decode cX10_takesOne 29 = .ok (.iload_n 2, 1) := by decide +kernel
theorem dX10_takesOne_30 : decode cX10_takesOne 30 = .ok (.iaload, 1) := by decide +kernel
theorem dX10_takesOne_31 : decode cX10_takesOne 31 = .ok (.iconst 1, 1) := by decide +kernel
theorem dX10_takesOne_32 : decode cX10_takesOne 32 = .ok (.iadd, 1) := by decide +kernel
theorem dX10_takesOne_33 : decode cX10_takesOne 33 = .ok (.istore 9, 2) := by decide +kernel
theorem dX10_takesOne_35 : decode cX10_takesOne 35 = .ok (.iload 7, 2) := by decide +kernel
theorem dX10_takesOne_37 : decode cX10_takesOne 37 = .ok (.ifCond .ne 42, 3) := by decide +kernel
theorem dX10_takesOne_40 : decode cX10_takesOne 40 = .ok (.aload_n 0, 1) := by decide +kernel
theorem dX10_takesOne_41 : decode cX10_takesOne 41 = .ok (.getfield 74, 3) := by decide +kernel
theorem dX10_takesOne_44 : decode cX10_takesOne 44 = .ok (.iload_n 1, 1) := by decide +kernel
theorem dX10_takesOne_45 : decode cX10_takesOne 45 = .ok (.aload_n 0, 1) := by decide +kernel
theorem dX10_takesOne_46 : decode cX10_takesOne 46 = .ok (.getfield 74, 3) := by decide +kernel
theorem dX10_takesOne_49 : decode cX10_takesOne 49 = .ok (.iload_n 1, 1) := by decide +kernel
theorem dX10_takesOne_50 : decode cX10_takesOne 50 = .ok (.iaload, 1) := by decide +kernel
theorem dX10_takesOne_51 : decode cX10_takesOne 51 = .ok (.ifCond .lt 14, 3) := by decide +kernel
theorem dX10_takesOne_54 : decode cX10_takesOne 54 = .ok (.iload 9, 2) := by decide +kernel
theorem dX10_takesOne_56 : decode cX10_takesOne 56 = .ok (.aload_n 0, 1) := by decide +kernel
theorem dX10_takesOne_57 : decode cX10_takesOne 57 = .ok (.getfield 74, 3) := by decide +kernel
theorem dX10_takesOne_60 : decode cX10_takesOne 60 = .ok (.iload_n 1, 1) := by decide +kernel
theorem dX10_takesOne_61 : decode cX10_takesOne 61 = .ok (.iaload, 1) := by decide +kernel
theorem dX10_takesOne_62 : decode cX10_takesOne 62 = .ok (.if_icmp .ge 8, 3) := by decide +kernel
theorem dX10_takesOne_65 : decode cX10_takesOne 65 = .ok (.iload 9, 2) := by decide +kernel
theorem dX10_takesOne_67 : decode cX10_takesOne 67 = .ok (.goto 9, 3) := by decide +kernel
theorem dX10_takesOne_70 : decode cX10_takesOne 70 = .ok (.aload_n 0, 1) := by decide +kernel
theorem dX10_takesOne_71 : decode cX10_takesOne 71 = .ok (.getfield 74, 3) := by decide +kernel
theorem dX10_takesOne_74 : decode cX10_takesOne 74 = .ok (.iload_n 1, 1) := by decide +kernel
theorem dX10_takesOne_75 : decode cX10_takesOne 75 = .ok (.iaload, 1) := by decide +kernel
theorem dX10_takesOne_76 : decode cX10_takesOne 76 = .ok (.iastore, 1) := by decide +kernel
theorem dX10_takesOne_77 : decode cX10_takesOne 77 = .ok (.iconst 0, 1) := by decide +kernel
theorem dX10_takesOne_78 : decode cX10_takesOne 78 = .ok (.ireturn, 1) := by decide +kernel
theorem dX10_takesOne_79 : decode cX10_takesOne 79 = .ok (.iload 9, 2) := by decide +kernel
theorem dX10_takesOne_81 : decode cX10_takesOne 81 = .ok (.aload_n 0, 1) := by decide +kernel
theorem dX10_takesOne_82 : decode cX10_takesOne 82 = .ok (.getfield 74, 3) := by decide +kernel
theorem dX10_takesOne_85 : decode cX10_takesOne 85 = .ok (.iload_n 1, 1) := by decide +kernel
theorem dX10_takesOne_86 : decode cX10_takesOne 86 = .ok (.iaload, 1) := by decide +kernel
theorem dX10_takesOne_87 : decode cX10_takesOne 87 = .ok (.if_icmp .eq 5, 3) := by decide +kernel
theorem dX10_takesOne_90 : decode cX10_takesOne 90 = .ok (.iconst 0, 1) := by decide +kernel
theorem dX10_takesOne_91 : decode cX10_takesOne 91 = .ok (.ireturn, 1) := by decide +kernel
theorem dX10_takesOne_92 : decode cX10_takesOne 92 = .ok (.aload_n 0, 1) := by decide +kernel
theorem dX10_takesOne_93 : decode cX10_takesOne 93 = .ok (.getfield 77, 3) := by decide +kernel
theorem dX10_takesOne_96 : decode cX10_takesOne 96 = .ok (.iconst 4, 1) := by decide +kernel
theorem dX10_takesOne_97 : decode cX10_takesOne 97 = .ok (.iload 8, 2) := by decide +kernel
theorem dX10_takesOne_99 : decode cX10_takesOne 99 = .ok (.imul, 1) := by decide +kernel
theorem dX10_takesOne_100 : decode cX10_takesOne 100 = .ok (.iload_n 3, 1) := by decide +kernel
theorem dX10_takesOne_101 : decode cX10_takesOne 101 = .ok (.iastore, 1) := by decide +kernel
theorem dX10_takesOne_102 : decode cX10_takesOne 102 = .ok (.aload_n 0, 1) := by decide +kernel
theorem dX10_takesOne_103 : decode cX10_takesOne 103 = .ok (.getfield 77, 3) := by decide +kernel
theorem dX10_takesOne_106 : decode cX10_takesOne 106 = .ok (.iconst 4, 1) := by decide +kernel
theorem dX10_takesOne_107 : decode cX10_takesOne 107 = .ok (.iload 8, 2) := by decide +kernel
theorem dX10_takesOne_109 : decode cX10_takesOne 109 = .ok (.imul, 1) := by decide +kernel
theorem dX10_takesOne_110 : decode cX10_takesOne 110 = .ok (.iconst 1, 1) := by decide +kernel
theorem dX10_takesOne_111 : decode cX10_takesOne 111 = .ok (.iadd, 1) := by decide +kernel
theorem dX10_takesOne_112 : decode cX10_takesOne 112 = .ok (.iload 4, 2) := by decide +kernel
theorem dX10_takesOne_114 : decode cX10_takesOne 114 = .ok (.iastore, 1) := by decide +kernel
theorem dX10_takesOne_115 : decode cX10_takesOne 115 = .ok (.aload_n 0, 1) := by decide +kernel
theorem dX10_takesOne_116 : decode cX10_takesOne 116 = .ok (.getfield 77, 3) := by decide +kernel
theorem dX10_takesOne_119 : decode cX10_takesOne 119 = .ok (.iconst 4, 1) := by decide +kernel
theorem dX10_takesOne_120 : decode cX10_takesOne 120 = .ok (.iload 8, 2) := by decide +kernel
theorem dX10_takesOne_122 : decode cX10_takesOne 122 = .ok (.imul, 1) := by decide +kernel
theorem dX10_takesOne_123 : decode cX10_takesOne 123 = .ok (.iconst 2, 1) := by decide +kernel
theorem dX10_takesOne_124 : decode cX10_takesOne 124 = .ok (.iadd, 1) := by decide +kernel
theorem dX10_takesOne_125 : decode cX10_takesOne 125 = .ok (.iload 5, 2) := by decide +kernel
theorem dX10_takesOne_127 : decode cX10_takesOne 127 = .ok (.iastore, 1) := by decide +kernel
theorem dX10_takesOne_128 : decode cX10_takesOne 128 = .ok (.aload_n 0, 1) := by decide +kernel
theorem dX10_takesOne_129 : decode cX10_takesOne 129 = .ok (.getfield 77, 3) := by decide +kernel
theorem dX10_takesOne_132 : decode cX10_takesOne 132 = .ok (.iconst 4, 1) := by decide +kernel
theorem dX10_takesOne_133 : decode cX10_takesOne 133 = .ok (.iload 8, 2) := by decide +kernel
theorem dX10_takesOne_135 : decode cX10_takesOne 135 = .ok (.imul, 1) := by decide +kernel
theorem dX10_takesOne_136 : decode cX10_takesOne 136 = .ok (.iconst 3, 1) := by decide +kernel
theorem dX10_takesOne_137 : decode cX10_takesOne 137 = .ok (.iadd, 1) := by decide +kernel
theorem dX10_takesOne_138 : decode cX10_takesOne 138 = .ok (.iload 6, 2) := by decide +kernel
theorem dX10_takesOne_140 : decode cX10_takesOne 140 = .ok (.iastore, 1) := by decide +kernel
theorem dX10_takesOne_141 : decode cX10_takesOne 141 = .ok (.iconst 1, 1) := by decide +kernel
theorem dX10_takesOne_142 : decode cX10_takesOne 142 = .ok (.ireturn, 1) := by decide +kernel
set_option maxRecDepth 20000 in
theorem g_X10_takesOne_0 {G : GX} {d : Nat} {Ret : Option AV → St → Prop} {R : Nat → List AV → List AV → St → Prop} (hM : AM G wdM (d + 1) mX10_takesOne Ret R) (v1 : Int) (v2 : Int) (v3 : Int) (v4 : Int) (v5 : Int) (v6 : Int) (v7 : Int) (v8 : Int) (σ : St)
    (h : ((0 ≤ v2 ∧ v2 < 4096) ∧ (((σ.1 17 (v2).toNat) < 0 → Ret (some (vI 0)) σ) ∧ (¬ (σ.1 17 (v2).toNat) < 0 → conI G wdM d mX10_broken [vR 0, vI v3, vI v4, vI v5, vI v6] σ (fun x1 σ1 => ((x1 = 0 → (r32 ((σ1.1 17 (v2).toNat) + 1) ∧ (∀ u1, u1 = ((σ1.1 17 (v2).toNat) + 1) → ((¬ v7 = 0 → ((0 ≤ v1 ∧ v1 < 4096) ∧ ((u1 = (σ1.1 17 (v1).toNat) → (r32 (4 * v8) ∧ ((0 ≤ (4 * v8) ∧ (4 * v8) < 48) ∧ (∀ τ1, τ1 = sI σ1 18 ((4 * v8)).toNat v3 → (r32 ((4 * v8) + 1) ∧ ((0 ≤ ((4 * v8) + 1) ∧ ((4 * v8) + 1) < 48) ∧ (∀ τ2, τ2 = sI τ1 18 (((4 * v8) + 1)).toNat v4 → (r32 ((4 * v8) + 2) ∧ ((0 ≤ ((4 * v8) + 2) ∧ ((4 * v8) + 2) < 48) ∧ (∀ τ3, τ3 = sI τ2 18 (((4 * v8) + 2)).toNat v5 → (r32 ((4 * v8) + 3) ∧ ((0 ≤ ((4 * v8) + 3) ∧ ((4 * v8) + 3) < 48) ∧ (∀ τ4, τ4 = sI τ3 18 (((4 * v8) + 3)).toNat v6 → Ret (some (vI 1)) τ4))))))))))))) ∧ (¬ u1 = (σ1.1 17 (v1).toNat) → Ret (some (vI 0)) σ1)))) ∧ (v7 = 0 → ((0 ≤ v1 ∧ v1 < 4096) ∧ (((σ1.1 17 (v1).toNat) < 0 → (∀ τ5, τ5 = sI σ1 17 (v1).toNat u1 → Ret (some (vI 0)) τ5)) ∧ (¬ (σ1.1 17 (v1).toNat) < 0 → (((σ1.1 17 (v1).toNat) ≤ u1 → (∀ τ6, τ6 = sI σ1 17 (v1).toNat (σ1.1 17 (v1).toNat) → Ret (some (vI 0)) τ6)) ∧ (¬ (σ1.1 17 (v1).toNat) ≤ u1 → (∀ τ7, τ7 = sI σ1 17 (v1).toNat u1 → Ret (some (vI 0)) τ7))))))))))) ∧ (¬ x1 = 0 → Ret (some (vI 0)) σ1))))))) : R 0 [vR 0, vI v1, vI v2, vI v3, vI v4, vI v5, vI v6, vI v7, vI v8, vN] [] σ := by
  refine r_aload_n hM (pc' := 1) dX10_takesOne_0 rfl (x := 0) rfl ?_
  refine r_getR hM (pc' := 4) dX10_takesOne_1 rfl fl_X10_74 wm_0 rfl ?_
  refine r_iload_n hM (pc' := 5) dX10_takesOne_4 rfl (x := v2) rfl ?_
  have o1 := h.1
  have h := h.2
  refine r_iaload hM (pc' := 6) dX10_takesOne_5 rfl wm_17 o1 ?_
  refine r_if_lt hM (pc' := 9) (tgt := 23) dX10_takesOne_6 rfl (by decide) (fun c => ?_) (fun c => ?_)
  · have h := h.1 c
    refine r_iconst hM (pc' := 24) dX10_takesOne_23 rfl (by decide) ?_
    exact r_zreturn hM dX10_takesOne_24 rfl (by decide) h
  · have h := h.2 c
    refine r_aload_n hM (pc' := 10) dX10_takesOne_9 rfl (x := 0) rfl ?_
    refine r_iload_n hM (pc' := 11) dX10_takesOne_10 rfl (x := v3) rfl ?_
    refine r_iload hM (pc' := 13) dX10_takesOne_11 rfl (x := v4) rfl ?_
    refine r_iload hM (pc' := 15) dX10_takesOne_13 rfl (x := v5) rfl ?_
    refine r_iload hM (pc' := 17) dX10_takesOne_15 rfl (x := v6) rfl ?_
    refine r_callVI hM (pc' := 20) [vI v3, vI v4, vI v5, vI v6] dX10_takesOne_17 rfl ml_X10_142 wm_0 rfl rfl (Nat.le_of_ble_eq_true rfl) (conI.mono h (fun x1 σ1 h => ?_))
    refine r_if_eq hM (pc' := 23) (tgt := 25) dX10_takesOne_20 rfl (by decide) (fun c => ?_) (fun c => ?_)
    · have h := h.1 c
      refine r_aload_n hM (pc' := 26) dX10_takesOne_25 rfl (x := 0) rfl ?_
      refine r_getR hM (pc' := 29) dX10_takesOne_26 rfl fl_X10_74 wm_0 rfl ?_
      refine r_iload_n hM (pc' := 30) dX10_takesOne_29 rfl (x := v2) rfl ?_
      refine r_iaload hM (pc' := 31) dX10_takesOne_30 rfl wm_17 o1 ?_
      refine r_iconst hM (pc' := 32) dX10_takesOne_31 rfl (by decide) ?_
      have o2 := h.1
      have h := h.2
      refine r_iadd hM (pc' := 33) dX10_takesOne_32 rfl o2 ?_
      refine r_istoreN hM (pc' := 35) dX10_takesOne_33 rfl (Nat.le_of_ble_eq_true rfl) rfl (fun u1 eu1 => ?_)
      have h := h u1 eu1
      show R 35 [vR 0, vI v1, vI v2, vI v3, vI v4, vI v5, vI v6, vI v7, vI v8, vI u1] _ _
      refine r_iload hM (pc' := 37) dX10_takesOne_35 rfl (x := v7) rfl ?_
      refine r_if_ne hM (pc' := 40) (tgt := 79) dX10_takesOne_37 rfl (by decide) (fun c => ?_) (fun c => ?_)
      · have h := h.1 c
        refine r_iload hM (pc' := 81) dX10_takesOne_79 rfl (x := u1) rfl ?_
        refine r_aload_n hM (pc' := 82) dX10_takesOne_81 rfl (x := 0) rfl ?_
        refine r_getR hM (pc' := 85) dX10_takesOne_82 rfl fl_X10_74 wm_0 rfl ?_
        refine r_iload_n hM (pc' := 86) dX10_takesOne_85 rfl (x := v1) rfl ?_
        have o3 := h.1
        have h := h.2
        refine r_iaload hM (pc' := 87) dX10_takesOne_86 rfl wm_17 o3 ?_
        refine r_icmp_eq hM (pc' := 90) (tgt := 92) dX10_takesOne_87 rfl (by decide) (fun c => ?_) (fun c => ?_)
        · have h := h.1 c
          refine r_aload_n hM (pc' := 93) dX10_takesOne_92 rfl (x := 0) rfl ?_
          refine r_getR hM (pc' := 96) dX10_takesOne_93 rfl fl_X10_77 wm_0 rfl ?_
          refine r_iconst hM (pc' := 97) dX10_takesOne_96 rfl (by decide) ?_
          refine r_iload hM (pc' := 99) dX10_takesOne_97 rfl (x := v8) rfl ?_
          have o4 := h.1
          have h := h.2
          refine r_imul hM (pc' := 100) dX10_takesOne_99 rfl o4 ?_
          refine r_iload_n hM (pc' := 101) dX10_takesOne_100 rfl (x := v3) rfl ?_
          have o5 := h.1
          have h := h.2
          refine r_iastore hM (pc' := 102) dX10_takesOne_101 rfl wm_18 o5 (fun τ1 e1 => ?_)
          have h := h τ1 e1
          refine r_aload_n hM (pc' := 103) dX10_takesOne_102 rfl (x := 0) rfl ?_
          refine r_getR hM (pc' := 106) dX10_takesOne_103 rfl fl_X10_77 wm_0 rfl ?_
          refine r_iconst hM (pc' := 107) dX10_takesOne_106 rfl (by decide) ?_
          refine r_iload hM (pc' := 109) dX10_takesOne_107 rfl (x := v8) rfl ?_
          refine r_imul hM (pc' := 110) dX10_takesOne_109 rfl o4 ?_
          refine r_iconst hM (pc' := 111) dX10_takesOne_110 rfl (by decide) ?_
          have o6 := h.1
          have h := h.2
          refine r_iadd hM (pc' := 112) dX10_takesOne_111 rfl o6 ?_
          refine r_iload hM (pc' := 114) dX10_takesOne_112 rfl (x := v4) rfl ?_
          have o7 := h.1
          have h := h.2
          refine r_iastore hM (pc' := 115) dX10_takesOne_114 rfl wm_18 o7 (fun τ2 e2 => ?_)
          have h := h τ2 e2
          refine r_aload_n hM (pc' := 116) dX10_takesOne_115 rfl (x := 0) rfl ?_
          refine r_getR hM (pc' := 119) dX10_takesOne_116 rfl fl_X10_77 wm_0 rfl ?_
          refine r_iconst hM (pc' := 120) dX10_takesOne_119 rfl (by decide) ?_
          refine r_iload hM (pc' := 122) dX10_takesOne_120 rfl (x := v8) rfl ?_
          refine r_imul hM (pc' := 123) dX10_takesOne_122 rfl o4 ?_
          refine r_iconst hM (pc' := 124) dX10_takesOne_123 rfl (by decide) ?_
          have o8 := h.1
          have h := h.2
          refine r_iadd hM (pc' := 125) dX10_takesOne_124 rfl o8 ?_
          refine r_iload hM (pc' := 127) dX10_takesOne_125 rfl (x := v5) rfl ?_
          have o9 := h.1
          have h := h.2
          refine r_iastore hM (pc' := 128) dX10_takesOne_127 rfl wm_18 o9 (fun τ3 e3 => ?_)
          have h := h τ3 e3
          refine r_aload_n hM (pc' := 129) dX10_takesOne_128 rfl (x := 0) rfl ?_
          refine r_getR hM (pc' := 132) dX10_takesOne_129 rfl fl_X10_77 wm_0 rfl ?_
          refine r_iconst hM (pc' := 133) dX10_takesOne_132 rfl (by decide) ?_
          refine r_iload hM (pc' := 135) dX10_takesOne_133 rfl (x := v8) rfl ?_
          refine r_imul hM (pc' := 136) dX10_takesOne_135 rfl o4 ?_
          refine r_iconst hM (pc' := 137) dX10_takesOne_136 rfl (by decide) ?_
          have o10 := h.1
          have h := h.2
          refine r_iadd hM (pc' := 138) dX10_takesOne_137 rfl o10 ?_
          refine r_iload hM (pc' := 140) dX10_takesOne_138 rfl (x := v6) rfl ?_
          have o11 := h.1
          have h := h.2
          refine r_iastore hM (pc' := 141) dX10_takesOne_140 rfl wm_18 o11 (fun τ4 e4 => ?_)
          have h := h τ4 e4
          refine r_iconst hM (pc' := 142) dX10_takesOne_141 rfl (by decide) ?_
          exact r_zreturn hM dX10_takesOne_142 rfl (by decide) h
        · have h := h.2 c
          refine r_iconst hM (pc' := 91) dX10_takesOne_90 rfl (by decide) ?_
          exact r_zreturn hM dX10_takesOne_91 rfl (by decide) h
      · have h := h.2 c
        refine r_aload_n hM (pc' := 41) dX10_takesOne_40 rfl (x := 0) rfl ?_
        refine r_getR hM (pc' := 44) dX10_takesOne_41 rfl fl_X10_74 wm_0 rfl ?_
        refine r_iload_n hM (pc' := 45) dX10_takesOne_44 rfl (x := v1) rfl ?_
        refine r_aload_n hM (pc' := 46) dX10_takesOne_45 rfl (x := 0) rfl ?_
        refine r_getR hM (pc' := 49) dX10_takesOne_46 rfl fl_X10_74 wm_0 rfl ?_
        refine r_iload_n hM (pc' := 50) dX10_takesOne_49 rfl (x := v1) rfl ?_
        have o12 := h.1
        have h := h.2
        refine r_iaload hM (pc' := 51) dX10_takesOne_50 rfl wm_17 o12 ?_
        refine r_if_lt hM (pc' := 54) (tgt := 65) dX10_takesOne_51 rfl (by decide) (fun c => ?_) (fun c => ?_)
        · have h := h.1 c
          refine r_iload hM (pc' := 67) dX10_takesOne_65 rfl (x := u1) rfl ?_
          refine r_goto hM (tgt := 76) dX10_takesOne_67 (by decide) ?_
          refine r_iastore hM (pc' := 77) dX10_takesOne_76 rfl wm_17 o12 (fun τ5 e5 => ?_)
          have h := h τ5 e5
          refine r_iconst hM (pc' := 78) dX10_takesOne_77 rfl (by decide) ?_
          exact r_zreturn hM dX10_takesOne_78 rfl (by decide) h
        · have h := h.2 c
          refine r_iload hM (pc' := 56) dX10_takesOne_54 rfl (x := u1) rfl ?_
          refine r_aload_n hM (pc' := 57) dX10_takesOne_56 rfl (x := 0) rfl ?_
          refine r_getR hM (pc' := 60) dX10_takesOne_57 rfl fl_X10_74 wm_0 rfl ?_
          refine r_iload_n hM (pc' := 61) dX10_takesOne_60 rfl (x := v1) rfl ?_
          refine r_iaload hM (pc' := 62) dX10_takesOne_61 rfl wm_17 o12 ?_
          refine r_icmp_ge hM (pc' := 65) (tgt := 70) dX10_takesOne_62 rfl (by decide) (fun c => ?_) (fun c => ?_)
          · have h := h.1 c
            refine r_aload_n hM (pc' := 71) dX10_takesOne_70 rfl (x := 0) rfl ?_
            refine r_getR hM (pc' := 74) dX10_takesOne_71 rfl fl_X10_74 wm_0 rfl ?_
            refine r_iload_n hM (pc' := 75) dX10_takesOne_74 rfl (x := v1) rfl ?_
            refine r_iaload hM (pc' := 76) dX10_takesOne_75 rfl wm_17 o12 ?_
            refine r_iastore hM (pc' := 77) dX10_takesOne_76 rfl wm_17 o12 (fun τ6 e6 => ?_)
            have h := h τ6 e6
            refine r_iconst hM (pc' := 78) dX10_takesOne_77 rfl (by decide) ?_
            exact r_zreturn hM dX10_takesOne_78 rfl (by decide) h
          · have h := h.2 c
            refine r_iload hM (pc' := 67) dX10_takesOne_65 rfl (x := u1) rfl ?_
            refine r_goto hM (tgt := 76) dX10_takesOne_67 (by decide) ?_
            refine r_iastore hM (pc' := 77) dX10_takesOne_76 rfl wm_17 o12 (fun τ7 e7 => ?_)
            have h := h τ7 e7
            refine r_iconst hM (pc' := 78) dX10_takesOne_77 rfl (by decide) ?_
            exact r_zreturn hM dX10_takesOne_78 rfl (by decide) h
    · have h := h.2 c
      refine r_iconst hM (pc' := 24) dX10_takesOne_23 rfl (by decide) ?_
      exact r_zreturn hM dX10_takesOne_24 rfl (by decide) h
theorem dX10_roster_0 : decode cX10_roster 0 = .ok (.aload_n 0, 1) := by decide +kernel
theorem dX10_roster_1 : decode cX10_roster 1 = .ok (.invokevirtual 126, 3) := by decide +kernel
theorem dX10_roster_4 : decode cX10_roster 4 = .ok (.aload_n 0, 1) := by decide +kernel
theorem dX10_roster_5 : decode cX10_roster 5 = .ok (.iconst 0, 1) := by decide +kernel
theorem dX10_roster_6 : decode cX10_roster 6 = .ok (.putfield 94, 3) := by decide +kernel
theorem dX10_roster_9 : decode cX10_roster 9 = .ok (.aload_n 0, 1) := by decide +kernel
theorem dX10_roster_10 : decode cX10_roster 10 = .ok (.getfield 119, 3) := by decide +kernel
theorem dX10_roster_13 : decode cX10_roster 13 = .ok (.bipush 12, 2) := by decide +kernel
theorem dX10_roster_15 : decode cX10_roster 15 = .ok (.if_icmp .le 6, 3) := by decide +kernel
theorem dX10_roster_18 : decode cX10_roster 18 = .ok (.bipush (-2), 2) := by decide +kernel
theorem dX10_roster_20 : decode cX10_roster 20 = .ok (.ireturn, 1) := by decide +kernel
theorem dX10_roster_21 : decode cX10_roster 21 = .ok (.aload_n 0, 1) := by decide +kernel
theorem dX10_roster_22 : decode cX10_roster 22 = .ok (.invokevirtual 161, 3) := by decide +kernel
theorem dX10_roster_25 : decode cX10_roster 25 = .ok (.iconst 1, 1) := by decide +kernel
theorem dX10_roster_26 : decode cX10_roster 26 = .ok (.aload_n 0, 1) := by decide +kernel
theorem dX10_roster_27 : decode cX10_roster 27 = .ok (.getfield 119, 3) := by decide +kernel
theorem dX10_roster_30 : decode cX10_roster 30 = .ok (.ishl, 1) := by decide +kernel
theorem dX10_roster_31 : decode cX10_roster 31 = .ok (.iconst 1, 1) := by decide +kernel
theorem dX10_roster_32 : decode cX10_roster 32 = .ok (.isub, 1) := by decide +kernel
theorem dX10_roster_33 : decode cX10_roster 33 = .ok (.istore_n 1, 1) := by decide +kernel
theorem dX10_roster_34 : decode cX10_roster 34 = .ok (.aload_n 0, 1) := by decide +kernel
theorem dX10_roster_35 : decode cX10_roster 35 = .ok (.getfield 74, 3) := by decide +kernel
theorem dX10_roster_38 : decode cX10_roster 38 = .ok (.iload_n 1, 1) := by decide +kernel
theorem dX10_roster_39 : decode cX10_roster 39 = .ok (.iaload, 1) := by decide +kernel
theorem dX10_roster_40 : decode cX10_roster 40 = .ok (.ifCond .ge 5, 3) := by decide +kernel
theorem dX10_roster_43 : decode cX10_roster 43 = .ok (.iconst (-1), 1) := by decide +kernel
theorem dX10_roster_44 : decode cX10_roster 44 = .ok (.ireturn, 1) := by decide +kernel
theorem dX10_roster_45 : decode cX10_roster 45 = .ok (.iload_n 1, 1) := by decide +kernel
theorem dX10_roster_46 : decode cX10_roster 46 = .ok (.ifCond .le 91, 3) := by decide +kernel
theorem dX10_roster_49 : decode cX10_roster 49 = .ok (.aload_n 0, 1) := by decide +kernel
theorem dX10_roster_50 : decode cX10_roster 50 = .ok (.iload_n 1, 1) := by decide +kernel
theorem dX10_roster_51 : decode cX10_roster 51 = .ok (.iconst 1, 1) := by decide +kernel
theorem dX10_roster_52 : decode cX10_roster 52 = .ok (.aload_n 0, 1) := by decide +kernel
theorem dX10_roster_53 : decode cX10_roster 53 = .ok (.getfield 94, 3) := by decide +kernel
theorem dX10_roster_56 : decode cX10_roster 56 = .ok (.invokevirtual 146, 3) := by decide +kernel
theorem dX10_roster_59 : decode cX10_roster 59 = .ok (.istore_n 2, 1) := by decide +kernel
theorem dX10_roster_60 : decode cX10_roster 60 = .ok (.iconst 4, 1) := by decide +kernel
theorem dX10_roster_61 : decode cX10_roster 61 = .ok (.aload_n 0, 1) := by decide +kernel
theorem dX10_roster_62 : decode cX10_roster 62 = .ok (.getfield 94, 3) := by decide +kernel
theorem dX10_roster_65 : decode cX10_roster 65 = .ok (.imul, 1) := by decide +kernel
theorem dX10_roster_66 : decode cX10_roster 66 = .ok (.istore_n 3, 1) := by decide +kernel
theorem dX10_roster_67 : decode cX10_roster 67 = .ok (.iload_n 1, 1) := by decide +kernel
theorem dX10_roster_68 : decode cX10_roster 68 = .ok (.aload_n 0, 1) := by decide +kernel
theorem dX10_roster_69 : decode cX10_roster 69 = .ok (.getfield 77, 3) := by decide +kernel
theorem dX10_roster_72 : decode cX10_roster 72 = .ok (.iload_n 3, 1) := by decide +kernel
theorem dX10_roster_73 : decode cX10_roster 73 = .ok (.iaload, 1) := by decide +kernel
theorem dX10_roster_74 : decode cX10_roster 74 = .ok (.aload_n 0, 1) := by decide +kernel
theorem dX10_roster_75 : decode cX10_roster 75 = .ok (.getfield 77, 3) := by decide +kernel
theorem dX10_roster_78 : decode cX10_roster 78 = .ok (.iload_n 3, 1) := by decide +kernel
theorem dX10_roster_79 : decode cX10_roster 79 = .ok (.iconst 1, 1) := by decide +kernel
theorem dX10_roster_80 : decode cX10_roster 80 = .ok (.iadd, 1) := by decide +kernel
theorem dX10_roster_81 : decode cX10_roster 81 = .ok (.iaload, 1) := by decide +kernel
theorem dX10_roster_82 : decode cX10_roster 82 = .ok (.invokestatic 153, 3) := by decide +kernel
theorem dX10_roster_85 : decode cX10_roster 85 = .ok (.isub, 1) := by decide +kernel
theorem dX10_roster_86 : decode cX10_roster 86 = .ok (.istore_n 1, 1) := by decide +kernel
theorem dX10_roster_87 : decode cX10_roster 87 = .ok (.iload_n 1, 1) := by decide +kernel
theorem dX10_roster_88 : decode cX10_roster 88 = .ok (.aload_n 0, 1) := by decide +kernel
theorem dX10_roster_89 : decode cX10_roster 89 = .ok (.getfield 77, 3) := by decide +kernel
theorem dX10_roster_92 : decode cX10_roster 92 = .ok (.iload_n 3, 1) := by decide +kernel
theorem dX10_roster_93 : decode cX10_roster 93 = .ok (.iconst 2, 1) := by decide +kernel
theorem dX10_roster_94 : decode cX10_roster 94 = .ok (.iadd, 1) := by decide +kernel
theorem dX10_roster_95 : decode cX10_roster 95 = .ok (.iaload, 1) := by decide +kernel
theorem dX10_roster_96 : decode cX10_roster 96 = .ok (.ifCond .ge 7, 3) := by decide +kernel
theorem dX10_roster_99 : decode cX10_roster 99 = .ok (.iconst 0, 1) := by decide +kernel
theorem dX10_roster_100 : decode cX10_roster 100 = .ok (.goto 22, 3) := by decide +kernel
theorem dX10_roster_103 : decode cX10_roster 103 = .ok (.aload_n 0, 1) := by decide +kernel
theorem dX10_roster_104 : decode cX10_roster 104 = .ok (.getfield 77, 3) := by decide +kernel
theorem dX10_roster_107 : decode cX10_roster 107 = .ok (.iload_n 3, 1) := by decide +kernel
theorem dX10_roster_108 : decode cX10_roster 108 = .ok (.iconst 2, 1) := by decide +kernel
theorem dX10_roster_109 : decode cX10_roster 109 = .ok (.iadd, 1) := by decide +kernel
theorem dX10_roster_110 : decode cX10_roster 110 = .ok (.iaload, 1) := by decide +kernel
theorem dX10_roster_111 : decode cX10_roster 111 = .ok (.aload_n 0, 1) := by decide +kernel
theorem dX10_roster_112 : decode cX10_roster 112 = .ok (.getfield 77, 3) := by decide +kernel
theorem dX10_roster_115 : decode cX10_roster 115 = .ok (.iload_n 3, 1) := by decide +kernel
theorem dX10_roster_116 : decode cX10_roster 116 = .ok (.iconst 3, 1) := by decide +kernel
theorem dX10_roster_117 : decode cX10_roster 117 = .ok (.iadd, 1) := by decide +kernel
theorem dX10_roster_118 : decode cX10_roster 118 = .ok (.iaload, 1) := by decide +kernel
theorem dX10_roster_119 : decode cX10_roster 119 = .ok (.invokestatic 153, 3) := by decide +kernel
theorem dX10_roster_122 : decode cX10_roster 122 = .ok (.isub, 1) := by decide +kernel
theorem dX10_roster_123 : decode cX10_roster 123 = .ok (.istore_n 1, 1) := by decide +kernel
theorem dX10_roster_124 : decode cX10_roster 124 = .ok (.aload_n 0, 1) := by decide +kernel
theorem dX10_roster_125 : decode cX10_roster 125 = .ok (.dup, 1) := by decide +kernel
theorem dX10_roster_126 : decode cX10_roster 126 = .ok (.getfield 94, 3) := by decide +kernel
theorem dX10_roster_129 : decode cX10_roster 129 = .ok (.iconst 1, 1) := by decide +kernel
theorem dX10_roster_130 : decode cX10_roster 130 = .ok (.iadd, 1) := by decide +kernel
theorem dX10_roster_131 : decode cX10_roster 131 = .ok (.putfield 94, 3) := by decide +kernel
theorem dX10_roster_134 : decode cX10_roster 134 = .ok (.goto (-89), 3) := by decide +kernel
theorem dX10_roster_137 : decode cX10_roster 137 = .ok (.aload_n 0, 1) := by decide +kernel
theorem dX10_roster_138 : decode cX10_roster 138 = .ok (.getfield 94, 3) := by decide +kernel
theorem dX10_roster_141 : decode cX10_roster 141 = .ok (.ireturn, 1) := by decide +kernel
set_option maxRecDepth 20000 in
theorem g_X10_roster_0 {G : GX} {d : Nat} {Ret : Option AV → St → Prop} {R : Nat → List AV → List AV → St → Prop} (hM : AM G wdM (d + 1) mX10_roster Ret R) (σ : St)
    (h : conV G wdM d mX10_plans [vR 0] σ (fun σ1 => (∀ τ1, τ1 = sI σ1 0 25 0 → (((τ1.1 0 18) ≤ 12 → conV G wdM d mX10_rosters [vR 0] τ1 (fun σ2 => (r32 ((bShl 1 (σ2.1 0 18)) - 1) ∧ (∀ u1, u1 = ((bShl 1 (σ2.1 0 18)) - 1) → ((0 ≤ u1 ∧ u1 < 4096) ∧ ((0 ≤ (σ2.1 17 (u1).toNat) → R 45 [vR 0, vI u1, vN, vN] [] σ2) ∧ (¬ 0 ≤ (σ2.1 17 (u1).toNat) → Ret (some (vI (-1))) σ2))))))) ∧ (¬ (τ1.1 0 18) ≤ 12 → Ret (some (vI (-2))) τ1))))) : R 0 [vR 0, vN, vN, vN] [] σ := by
  refine r_aload_n hM (pc' := 1) dX10_roster_0 rfl (x := 0) rfl ?_
  refine r_callVV hM (pc' := 4) [] dX10_roster_1 rfl ml_X10_126 wm_0 rfl rfl (Nat.le_of_ble_eq_true rfl) (conV.mono h (fun σ1 h => ?_))
  refine r_aload_n hM (pc' := 5) dX10_roster_4 rfl (x := 0) rfl ?_
  refine r_iconst hM (pc' := 6) dX10_roster_5 rfl (by decide) ?_
  refine r_putI hM (pc' := 9) dX10_roster_6 rfl fp_X10_94 wm_0 rfl (fun τ1 e1 => ?_)
  have h := h τ1 e1
  refine r_aload_n hM (pc' := 10) dX10_roster_9 rfl (x := 0) rfl ?_
  refine r_getI hM (pc' := 13) dX10_roster_10 rfl fl_X10_119 wm_0 rfl ?_
  refine r_bipush hM (pc' := 15) dX10_roster_13 rfl (by decide) (by decide) ?_
  refine r_icmp_le hM (pc' := 18) (tgt := 21) dX10_roster_15 rfl (by decide) (fun c => ?_) (fun c => ?_)
  · have h := h.1 c
    refine r_aload_n hM (pc' := 22) dX10_roster_21 rfl (x := 0) rfl ?_
    refine r_callVV hM (pc' := 25) [] dX10_roster_22 rfl ml_X10_161 wm_0 rfl rfl (Nat.le_of_ble_eq_true rfl) (conV.mono h (fun σ2 h => ?_))
    refine r_iconst hM (pc' := 26) dX10_roster_25 rfl (by decide) ?_
    refine r_aload_n hM (pc' := 27) dX10_roster_26 rfl (x := 0) rfl ?_
    refine r_getI hM (pc' := 30) dX10_roster_27 rfl fl_X10_119 wm_0 rfl ?_
    refine r_ishl hM (pc' := 31) dX10_roster_30 rfl ?_
    refine r_iconst hM (pc' := 32) dX10_roster_31 rfl (by decide) ?_
    have o1 := h.1
    have h := h.2
    refine r_isub hM (pc' := 33) dX10_roster_32 rfl o1 ?_
    refine r_istore_nN hM (pc' := 34) dX10_roster_33 rfl (Nat.le_of_ble_eq_true rfl) rfl (fun u1 eu1 => ?_)
    have h := h u1 eu1
    show R 34 [vR 0, vI u1, vN, vN] _ _
    refine r_aload_n hM (pc' := 35) dX10_roster_34 rfl (x := 0) rfl ?_
    refine r_getR hM (pc' := 38) dX10_roster_35 rfl fl_X10_74 wm_0 rfl ?_
    refine r_iload_n hM (pc' := 39) dX10_roster_38 rfl (x := u1) rfl ?_
    have o2 := h.1
    have h := h.2
    refine r_iaload hM (pc' := 40) dX10_roster_39 rfl wm_17 o2 ?_
    refine r_if_ge hM (pc' := 43) (tgt := 45) dX10_roster_40 rfl (by decide) (fun c => ?_) (fun c => ?_)
    · have h := h.1 c
      exact h
    · have h := h.2 c
      refine r_iconst hM (pc' := 44) dX10_roster_43 rfl (by decide) ?_
      exact r_ireturn hM dX10_roster_44 rfl h
  · have h := h.2 c
    refine r_bipush hM (pc' := 20) dX10_roster_18 rfl (by decide) (by decide) ?_
    exact r_ireturn hM dX10_roster_20 rfl h
set_option maxRecDepth 20000 in
theorem g_X10_roster_45 {G : GX} {d : Nat} {Ret : Option AV → St → Prop} {R : Nat → List AV → List AV → St → Prop} (hM : AM G wdM (d + 1) mX10_roster Ret R) (v1 : Int) (σ : St)
    (h : ((v1 ≤ 0 → Ret (some (vI (σ.1 0 25))) σ) ∧ (¬ v1 ≤ 0 → conI G wdM d mX10_takes [vR 0, vI v1, vI 1, vI (σ.1 0 25)] σ (fun x1 σ1 => (r32 (4 * (σ1.1 0 25)) ∧ ((0 ≤ (4 * (σ1.1 0 25)) ∧ (4 * (σ1.1 0 25)) < 48) ∧ (r32 ((4 * (σ1.1 0 25)) + 1) ∧ ((0 ≤ ((4 * (σ1.1 0 25)) + 1) ∧ ((4 * (σ1.1 0 25)) + 1) < 48) ∧ conI G wdM d mX10_bits [vI (σ1.1 18 ((4 * (σ1.1 0 25))).toNat), vI (σ1.1 18 (((4 * (σ1.1 0 25)) + 1)).toNat)] σ1 (fun x2 σ2 => (r32 (v1 - x2) ∧ (r32 ((4 * (σ1.1 0 25)) + 2) ∧ ((0 ≤ ((4 * (σ1.1 0 25)) + 2) ∧ ((4 * (σ1.1 0 25)) + 2) < 48) ∧ ((0 ≤ (σ2.1 18 (((4 * (σ1.1 0 25)) + 2)).toNat) → (r32 ((4 * (σ1.1 0 25)) + 3) ∧ ((0 ≤ ((4 * (σ1.1 0 25)) + 3) ∧ ((4 * (σ1.1 0 25)) + 3) < 48) ∧ conI G wdM d mX10_bits [vI (σ2.1 18 (((4 * (σ1.1 0 25)) + 2)).toNat), vI (σ2.1 18 (((4 * (σ1.1 0 25)) + 3)).toNat)] σ2 (fun x3 σ3 => (r32 ((v1 - x2) - x3) ∧ (r32 ((σ3.1 0 25) + 1) ∧ (∀ τ1, τ1 = sI σ3 0 25 ((σ3.1 0 25) + 1) → R 45 [vR 0, vI ((v1 - x2) - x3), vN, vN] [] τ1))))))) ∧ (¬ 0 ≤ (σ2.1 18 (((4 * (σ1.1 0 25)) + 2)).toNat) → (r32 ((v1 - x2) - 0) ∧ (r32 ((σ2.1 0 25) + 1) ∧ (∀ τ2, τ2 = sI σ2 0 25 ((σ2.1 0 25) + 1) → R 45 [vR 0, vI ((v1 - x2) - 0), vN, vN] [] τ2))))))))))))))))) : R 45 [vR 0, vI v1, vN, vN] [] σ := by
  refine r_iload_n hM (pc' := 46) dX10_roster_45 rfl (x := v1) rfl ?_
  refine r_if_le hM (pc' := 49) (tgt := 137) dX10_roster_46 rfl (by decide) (fun c => ?_) (fun c => ?_)
  · have h := h.1 c
    refine r_aload_n hM (pc' := 138) dX10_roster_137 rfl (x := 0) rfl ?_
    refine r_getI hM (pc' := 141) dX10_roster_138 rfl fl_X10_94 wm_0 rfl ?_
    exact r_ireturn hM dX10_roster_141 rfl h
  · have h := h.2 c
    refine r_aload_n hM (pc' := 50) dX10_roster_49 rfl (x := 0) rfl ?_
    refine r_iload_n hM (pc' := 51) dX10_roster_50 rfl (x := v1) rfl ?_
    refine r_iconst hM (pc' := 52) dX10_roster_51 rfl (by decide) ?_
    refine r_aload_n hM (pc' := 53) dX10_roster_52 rfl (x := 0) rfl ?_
    refine r_getI hM (pc' := 56) dX10_roster_53 rfl fl_X10_94 wm_0 rfl ?_
    refine r_callVI hM (pc' := 59) [vI v1, vI 1, vI (σ.1 0 25)] dX10_roster_56 rfl ml_X10_146 wm_0 rfl rfl (Nat.le_of_ble_eq_true rfl) (conI.mono h (fun x1 σ1 h => ?_))
    refine r_istore_n hM (pc' := 60) dX10_roster_59 rfl (Nat.le_of_ble_eq_true rfl) rfl ?_
    show R 60 [vR 0, vI v1, vI x1, vN] _ _
    refine r_iconst hM (pc' := 61) dX10_roster_60 rfl (by decide) ?_
    refine r_aload_n hM (pc' := 62) dX10_roster_61 rfl (x := 0) rfl ?_
    refine r_getI hM (pc' := 65) dX10_roster_62 rfl fl_X10_94 wm_0 rfl ?_
    have o1 := h.1
    have h := h.2
    refine r_imul hM (pc' := 66) dX10_roster_65 rfl o1 ?_
    refine r_istore_n hM (pc' := 67) dX10_roster_66 rfl (Nat.le_of_ble_eq_true rfl) rfl ?_
    show R 67 [vR 0, vI v1, vI x1, vI (4 * (σ1.1 0 25))] _ _
    refine r_iload_n hM (pc' := 68) dX10_roster_67 rfl (x := v1) rfl ?_
    refine r_aload_n hM (pc' := 69) dX10_roster_68 rfl (x := 0) rfl ?_
    refine r_getR hM (pc' := 72) dX10_roster_69 rfl fl_X10_77 wm_0 rfl ?_
    refine r_iload_n hM (pc' := 73) dX10_roster_72 rfl (x := (4 * (σ1.1 0 25))) rfl ?_
    have o2 := h.1
    have h := h.2
    refine r_iaload hM (pc' := 74) dX10_roster_73 rfl wm_18 o2 ?_
    refine r_aload_n hM (pc' := 75) dX10_roster_74 rfl (x := 0) rfl ?_
    refine r_getR hM (pc' := 78) dX10_roster_75 rfl fl_X10_77 wm_0 rfl ?_
    refine r_iload_n hM (pc' := 79) dX10_roster_78 rfl (x := (4 * (σ1.1 0 25))) rfl ?_
    refine r_iconst hM (pc' := 80) dX10_roster_79 rfl (by decide) ?_
    have o3 := h.1
    have h := h.2
    refine r_iadd hM (pc' := 81) dX10_roster_80 rfl o3 ?_
    have o4 := h.1
    have h := h.2
    refine r_iaload hM (pc' := 82) dX10_roster_81 rfl wm_18 o4 ?_
    refine r_callSI hM (pc' := 85) [vI (σ1.1 18 ((4 * (σ1.1 0 25))).toNat), vI (σ1.1 18 (((4 * (σ1.1 0 25)) + 1)).toNat)] dX10_roster_82 rfl ml_X10_153 rfl rfl (Nat.le_of_ble_eq_true rfl) (conI.mono h (fun x2 σ2 h => ?_))
    have o5 := h.1
    have h := h.2
    refine r_isub hM (pc' := 86) dX10_roster_85 rfl o5 ?_
    refine r_istore_n hM (pc' := 87) dX10_roster_86 rfl (Nat.le_of_ble_eq_true rfl) rfl ?_
    show R 87 [vR 0, vI (v1 - x2), vI x1, vI (4 * (σ1.1 0 25))] _ _
    refine r_iload_n hM (pc' := 88) dX10_roster_87 rfl (x := (v1 - x2)) rfl ?_
    refine r_aload_n hM (pc' := 89) dX10_roster_88 rfl (x := 0) rfl ?_
    refine r_getR hM (pc' := 92) dX10_roster_89 rfl fl_X10_77 wm_0 rfl ?_
    refine r_iload_n hM (pc' := 93) dX10_roster_92 rfl (x := (4 * (σ1.1 0 25))) rfl ?_
    refine r_iconst hM (pc' := 94) dX10_roster_93 rfl (by decide) ?_
    have o6 := h.1
    have h := h.2
    refine r_iadd hM (pc' := 95) dX10_roster_94 rfl o6 ?_
    have o7 := h.1
    have h := h.2
    refine r_iaload hM (pc' := 96) dX10_roster_95 rfl wm_18 o7 ?_
    refine r_if_ge hM (pc' := 99) (tgt := 103) dX10_roster_96 rfl (by decide) (fun c => ?_) (fun c => ?_)
    · have h := h.1 c
      refine r_aload_n hM (pc' := 104) dX10_roster_103 rfl (x := 0) rfl ?_
      refine r_getR hM (pc' := 107) dX10_roster_104 rfl fl_X10_77 wm_0 rfl ?_
      refine r_iload_n hM (pc' := 108) dX10_roster_107 rfl (x := (4 * (σ1.1 0 25))) rfl ?_
      refine r_iconst hM (pc' := 109) dX10_roster_108 rfl (by decide) ?_
      refine r_iadd hM (pc' := 110) dX10_roster_109 rfl o6 ?_
      refine r_iaload hM (pc' := 111) dX10_roster_110 rfl wm_18 o7 ?_
      refine r_aload_n hM (pc' := 112) dX10_roster_111 rfl (x := 0) rfl ?_
      refine r_getR hM (pc' := 115) dX10_roster_112 rfl fl_X10_77 wm_0 rfl ?_
      refine r_iload_n hM (pc' := 116) dX10_roster_115 rfl (x := (4 * (σ1.1 0 25))) rfl ?_
      refine r_iconst hM (pc' := 117) dX10_roster_116 rfl (by decide) ?_
      have o8 := h.1
      have h := h.2
      refine r_iadd hM (pc' := 118) dX10_roster_117 rfl o8 ?_
      have o9 := h.1
      have h := h.2
      refine r_iaload hM (pc' := 119) dX10_roster_118 rfl wm_18 o9 ?_
      refine r_callSI hM (pc' := 122) [vI (σ2.1 18 (((4 * (σ1.1 0 25)) + 2)).toNat), vI (σ2.1 18 (((4 * (σ1.1 0 25)) + 3)).toNat)] dX10_roster_119 rfl ml_X10_153 rfl rfl (Nat.le_of_ble_eq_true rfl) (conI.mono h (fun x3 σ3 h => ?_))
      have o10 := h.1
      have h := h.2
      refine r_isub hM (pc' := 123) dX10_roster_122 rfl o10 ?_
      refine r_istore_n hM (pc' := 124) dX10_roster_123 rfl (Nat.le_of_ble_eq_true rfl) rfl ?_
      show R 124 [vR 0, vI ((v1 - x2) - x3), vI x1, vI (4 * (σ1.1 0 25))] _ _
      refine r_aload_n hM (pc' := 125) dX10_roster_124 rfl (x := 0) rfl ?_
      refine r_dup hM (pc' := 126) dX10_roster_125 rfl (fun _ => rfl) ?_
      refine r_getI hM (pc' := 129) dX10_roster_126 rfl fl_X10_94 wm_0 rfl ?_
      refine r_iconst hM (pc' := 130) dX10_roster_129 rfl (by decide) ?_
      have o11 := h.1
      have h := h.2
      refine r_iadd hM (pc' := 131) dX10_roster_130 rfl o11 ?_
      refine r_putI hM (pc' := 134) dX10_roster_131 rfl fp_X10_94 wm_0 rfl (fun τ1 e1 => ?_)
      have h := h τ1 e1
      refine r_goto hM (tgt := 45) dX10_roster_134 (by decide) ?_
      refine r_weak hM (ls' := [vR 0, vI ((v1 - x2) - x3), vN, vN]) ⟨Or.inl rfl, Or.inl rfl, Or.inr rfl, Or.inr rfl, trivial⟩ ?_
      exact h
    · have h := h.2 c
      refine r_iconst hM (pc' := 100) dX10_roster_99 rfl (by decide) ?_
      refine r_goto hM (tgt := 122) dX10_roster_100 (by decide) ?_
      have o12 := h.1
      have h := h.2
      refine r_isub hM (pc' := 123) dX10_roster_122 rfl o12 ?_
      refine r_istore_n hM (pc' := 124) dX10_roster_123 rfl (Nat.le_of_ble_eq_true rfl) rfl ?_
      show R 124 [vR 0, vI ((v1 - x2) - 0), vI x1, vI (4 * (σ1.1 0 25))] _ _
      refine r_aload_n hM (pc' := 125) dX10_roster_124 rfl (x := 0) rfl ?_
      refine r_dup hM (pc' := 126) dX10_roster_125 rfl (fun _ => rfl) ?_
      refine r_getI hM (pc' := 129) dX10_roster_126 rfl fl_X10_94 wm_0 rfl ?_
      refine r_iconst hM (pc' := 130) dX10_roster_129 rfl (by decide) ?_
      have o13 := h.1
      have h := h.2
      refine r_iadd hM (pc' := 131) dX10_roster_130 rfl o13 ?_
      refine r_putI hM (pc' := 134) dX10_roster_131 rfl fp_X10_94 wm_0 rfl (fun τ2 e2 => ?_)
      have h := h τ2 e2
      refine r_goto hM (tgt := 45) dX10_roster_134 (by decide) ?_
      refine r_weak hM (ls' := [vR 0, vI ((v1 - x2) - 0), vN, vN]) ⟨Or.inl rfl, Or.inl rfl, Or.inr rfl, Or.inr rfl, trivial⟩ ?_
      exact h
theorem dX10_duty_0 : decode cX10_duty 0 = .ok (.iload_n 1, 1) := by decide +kernel
theorem dX10_duty_1 : decode cX10_duty 1 = .ok (.iconst 0, 1) := by decide +kernel
theorem dX10_duty_2 : decode cX10_duty 2 = .ok (.aload_n 0, 1) := by decide +kernel
theorem dX10_duty_3 : decode cX10_duty 3 = .ok (.getfield 94, 3) := by decide +kernel
theorem dX10_duty_6 : decode cX10_duty 6 = .ok (.iconst 1, 1) := by decide +kernel
theorem dX10_duty_7 : decode cX10_duty 7 = .ok (.isub, 1) := by decide +kernel
theorem dX10_duty_8 : decode cX10_duty 8 = .ok (.invokestatic 80, 3) := by decide +kernel
theorem dX10_duty_11 : decode cX10_duty 11 = .ok (.ifCond .eq 25, 3) := by decide +kernel
theorem dX10_duty_14 : decode cX10_duty 14 = .ok (.iload_n 2, 1) := by decide +kernel
theorem dX10_duty_15 : decode cX10_duty 15 = .ok (.iconst 0, 1) := by decide +kernel
theorem dX10_duty_16 : decode cX10_duty 16 = .ok (.iconst 3, 1) := by decide +kernel
theorem dX10_duty_17 : decode cX10_duty 17 = .ok (.invokestatic 80, 3) := by decide +kernel
theorem dX10_duty_20 : decode cX10_duty 20 = .ok (.ifCond .eq 16, 3) := by decide +kernel
theorem dX10_duty_23 : decode cX10_duty 23 = .ok (.aload_n 0, 1) := by decide +kernel
theorem dX10_duty_24 : decode cX10_duty 24 = .ok (.getfield 77, 3) := by decide +kernel
theorem dX10_duty_27 : decode cX10_duty 27 = .ok (.iconst 4, 1) := by decide +kernel
theorem dX10_duty_28 : decode cX10_duty 28 = .ok (.iload_n 1, 1) := by decide +kernel
theorem dX10_duty_29 : decode cX10_duty 29 = .ok (.imul, 1) := by decide +kernel
theorem dX10_duty_30 : decode cX10_duty 30 = .ok (.iload_n 2, 1) := by decide +kernel
theorem dX10_duty_31 : decode cX10_duty 31 = .ok (.iadd, 1) := by decide +kernel
theorem dX10_duty_32 : decode cX10_duty 32 = .ok (.iaload, 1) := by decide +kernel
theorem dX10_duty_33 : decode cX10_duty 33 = .ok (.goto 4, 3) := by decide +kernel
theorem dX10_duty_36 : decode cX10_duty 36 = .ok (.iconst (-1), 1) := by decide +kernel
theorem dX10_duty_37 : decode cX10_duty 37 = .ok (.ireturn, 1) := by decide +kernel
set_option maxRecDepth 20000 in
theorem g_X10_duty_0 {G : GX} {d : Nat} {Ret : Option AV → St → Prop} {R : Nat → List AV → List AV → St → Prop} (hM : AM G wdM (d + 1) mX10_duty Ret R) (v1 : Int) (v2 : Int) (σ : St)
    (h : (r32 ((σ.1 0 25) - 1) ∧ conI G wdM d mX10_in [vI v1, vI 0, vI ((σ.1 0 25) - 1)] σ (fun x1 σ1 => ((x1 = 0 → Ret (some (vI (-1))) σ1) ∧ (¬ x1 = 0 → conI G wdM d mX10_in [vI v2, vI 0, vI 3] σ1 (fun x2 σ2 => ((x2 = 0 → Ret (some (vI (-1))) σ2) ∧ (¬ x2 = 0 → (r32 (4 * v1) ∧ (r32 ((4 * v1) + v2) ∧ ((0 ≤ ((4 * v1) + v2) ∧ ((4 * v1) + v2) < 48) ∧ Ret (some (vI (σ2.1 18 (((4 * v1) + v2)).toNat))) σ2))))))))))) : R 0 [vR 0, vI v1, vI v2] [] σ := by
  refine r_iload_n hM (pc' := 1) dX10_duty_0 rfl (x := v1) rfl ?_
  refine r_iconst hM (pc' := 2) dX10_duty_1 rfl (by decide) ?_
  refine r_aload_n hM (pc' := 3) dX10_duty_2 rfl (x := 0) rfl ?_
  refine r_getI hM (pc' := 6) dX10_duty_3 rfl fl_X10_94 wm_0 rfl ?_
  refine r_iconst hM (pc' := 7) dX10_duty_6 rfl (by decide) ?_
  have o1 := h.1
  have h := h.2
  refine r_isub hM (pc' := 8) dX10_duty_7 rfl o1 ?_
  refine r_callSI hM (pc' := 11) [vI v1, vI 0, vI ((σ.1 0 25) - 1)] dX10_duty_8 rfl ml_X10_80 rfl rfl (Nat.le_of_ble_eq_true rfl) (conI.mono h (fun x1 σ1 h => ?_))
  refine r_if_eq hM (pc' := 14) (tgt := 36) dX10_duty_11 rfl (by decide) (fun c => ?_) (fun c => ?_)
  · have h := h.1 c
    refine r_iconst hM (pc' := 37) dX10_duty_36 rfl (by decide) ?_
    exact r_ireturn hM dX10_duty_37 rfl h
  · have h := h.2 c
    refine r_iload_n hM (pc' := 15) dX10_duty_14 rfl (x := v2) rfl ?_
    refine r_iconst hM (pc' := 16) dX10_duty_15 rfl (by decide) ?_
    refine r_iconst hM (pc' := 17) dX10_duty_16 rfl (by decide) ?_
    refine r_callSI hM (pc' := 20) [vI v2, vI 0, vI 3] dX10_duty_17 rfl ml_X10_80 rfl rfl (Nat.le_of_ble_eq_true rfl) (conI.mono h (fun x2 σ2 h => ?_))
    refine r_if_eq hM (pc' := 23) (tgt := 36) dX10_duty_20 rfl (by decide) (fun c => ?_) (fun c => ?_)
    · have h := h.1 c
      refine r_iconst hM (pc' := 37) dX10_duty_36 rfl (by decide) ?_
      exact r_ireturn hM dX10_duty_37 rfl h
    · have h := h.2 c
      refine r_aload_n hM (pc' := 24) dX10_duty_23 rfl (x := 0) rfl ?_
      refine r_getR hM (pc' := 27) dX10_duty_24 rfl fl_X10_77 wm_0 rfl ?_
      refine r_iconst hM (pc' := 28) dX10_duty_27 rfl (by decide) ?_
      refine r_iload_n hM (pc' := 29) dX10_duty_28 rfl (x := v1) rfl ?_
      have o2 := h.1
      have h := h.2
      refine r_imul hM (pc' := 30) dX10_duty_29 rfl o2 ?_
      refine r_iload_n hM (pc' := 31) dX10_duty_30 rfl (x := v2) rfl ?_
      have o3 := h.1
      have h := h.2
      refine r_iadd hM (pc' := 32) dX10_duty_31 rfl o3 ?_
      have o4 := h.1
      have h := h.2
      refine r_iaload hM (pc' := 33) dX10_duty_32 rfl wm_18 o4 ?_
      refine r_goto hM (tgt := 37) dX10_duty_33 (by decide) ?_
      exact r_ireturn hM dX10_duty_37 rfl h
theorem dX10_apart_0 : decode cX10_apart 0 = .ok (.iconst 0, 1) := by decide +kernel
theorem dX10_apart_1 : decode cX10_apart 1 = .ok (.istore_n 1, 1) := by decide +kernel
theorem dX10_apart_2 : decode cX10_apart 2 = .ok (.iconst 0, 1) := by decide +kernel
theorem dX10_apart_3 : decode cX10_apart 3 = .ok (.istore_n 2, 1) := by decide +kernel
theorem dX10_apart_4 : decode cX10_apart 4 = .ok (.iload_n 2, 1) := by decide +kernel
theorem dX10_apart_5 : decode cX10_apart 5 = .ok (.iconst 1, 1) := by decide +kernel
theorem dX10_apart_6 : decode cX10_apart 6 = .ok (.aload_n 0, 1) := by decide +kernel
theorem dX10_apart_7 : decode cX10_apart 7 = .ok (.getfield 84, 3) := by decide +kernel
theorem dX10_apart_10 : decode cX10_apart 10 = .ok (.ishl, 1) := by decide +kernel
theorem dX10_apart_11 : decode cX10_apart 11 = .ok (.if_icmp .ge 127, 3) := by decide +kernel
theorem dX10_apart_14 : decode cX10_apart 14 = .ok (.iconst 0, 1) := by decide +kernel
theorem dX10_apart_15 : decode cX10_apart 15 = .ok (.istore_n 3, 1) := by decide +kernel
theorem dX10_apart_16 : decode cX10_apart 16 = .ok (.iconst 1, 1) := by decide +kernel
theorem dX10_apart_17 : decode cX10_apart 17 = .ok (.istore 4, 2) := by decide +kernel
theorem dX10_apart_19 : decode cX10_apart 19 = .ok (.iconst 0, 1) := by decide +kernel
theorem dX10_apart_20 : decode cX10_apart 20 = .ok (.istore 5, 2) := by decide +kernel
theorem dX10_apart_22 : decode cX10_apart 22 = .ok (.iload 5, 2) := by decide +kernel
theorem dX10_apart_24 : decode cX10_apart 24 = .ok (.aload_n 0, 1) := by decide +kernel
theorem dX10_apart_25 : decode cX10_apart 25 = .ok (.getfield 84, 3) := by decide +kernel
theorem dX10_apart_28 : decode cX10_apart 28 = .ok (.if_icmp .ge 88, 3) := by decide +kernel
theorem dX10_apart_31 : decode cX10_apart 31 = .ok (.iload 4, 2) := by decide +kernel
theorem dX10_apart_33 : decode cX10_apart 33 = .ok (.ifCond .eq 83, 3) := by decide +kernel
theorem dX10_apart_36 : decode cX10_apart 36 = .ok (.iload_n 2, 1) := by decide +kernel
theorem dX10_apart_37 : decode cX10_apart 37 = .ok (.iload 5, 2) := by decide +kernel
theorem dX10_apart_39 : decode cX10_apart 39 = .ok (.ishr, 1) := by decide +kernel
theorem dX10_apart_40 : decode cX10_apart 40 = .ok (.iconst 1, 1) := by decide +kernel
theorem dX10_apart_41 : decode cX10_apart 41 = .ok (.iand, 1) := by decide +kernel
theorem dX10_apart_42 : decode cX10_apart 42 = .ok (.ifCond .ne 6, 3) := by decide +kernel
theorem dX10_apart_45 : decode cX10_apart 45 = .ok (.goto 65, 3) := by decide +kernel
theorem dX10_apart_48 : decode cX10_apart 48 = .ok (.iinc 3 1, 3) := by decide +kernel
theorem dX10_apart_51 : decode cX10_apart 51 = .ok (.iconst 0, 1) := by decide +kernel
theorem dX10_apart_52 : decode cX10_apart 52 = .ok (.istore 6, 2) := by decide +kernel
theorem dX10_apart_54 : decode cX10_apart 54 = .ok (.iload 6, 2) := by decide +kernel
theorem dX10_apart_56 : decode cX10_apart 56 = .ok (.iload 5, 2) := by decide +kernel
theorem dX10_apart_58 : decode cX10_apart 58 = .ok (.if_icmp .ge 52, 3) := by decide +kernel
theorem dX10_apart_61 : decode cX10_apart 61 = .ok (.iload 4, 2) := by decide +kernel
theorem dX10_apart_63 : decode cX10_apart 63 = .ok (.ifCond .eq 38, 3) := by decide +kernel
theorem dX10_apart_66 : decode cX10_apart 66 = .ok (.iload_n 2, 1) := by decide +kernel
theorem dX10_apart_67 : decode cX10_apart 67 = .ok (.iload 6, 2) := by decide +kernel
theorem dX10_apart_69 : decode cX10_apart 69 = .ok (.ishr, 1) := by decide +kernel
theorem dX10_apart_70 : decode cX10_apart 70 = .ok (.iconst 1, 1) := by decide +kernel
theorem dX10_apart_71 : decode cX10_apart 71 = .ok (.iand, 1) := by decide +kernel
theorem dX10_apart_72 : decode cX10_apart 72 = .ok (.ifCond .eq 25, 3) := by decide +kernel
theorem dX10_apart_75 : decode cX10_apart 75 = .ok (.aload_n 0, 1) := by decide +kernel
theorem dX10_apart_76 : decode cX10_apart 76 = .ok (.iload 5, 2) := by decide +kernel
theorem dX10_apart_78 : decode cX10_apart 78 = .ok (.iload 6, 2) := by decide +kernel
theorem dX10_apart_80 : decode cX10_apart 80 = .ok (.invokevirtual 104, 3) := by decide +kernel
theorem dX10_apart_83 : decode cX10_apart 83 = .ok (.ifCond .ne 18, 3) := by decide +kernel
theorem dX10_apart_86 : decode cX10_apart 86 = .ok (.aload_n 0, 1) := by decide +kernel
theorem dX10_apart_87 : decode cX10_apart 87 = .ok (.iload 6, 2) := by decide +kernel
theorem dX10_apart_89 : decode cX10_apart 89 = .ok (.iload 5, 2) := by decide +kernel
theorem dX10_apart_91 : decode cX10_apart 91 = .ok (.invokevirtual 104, 3) := by decide +kernel
theorem dX10_apart_94 : decode cX10_apart 94 = .ok (.ifCond .ne 7, 3) := by decide +kernel
theorem dX10_apart_97 : decode cX10_apart 97 = .ok (.iconst 1, 1) := by decide +kernel
theorem dX10_apart_98 : decode cX10_apart 98 = .ok (.goto 4, 3) := by decide +kernel
theorem dX10_apart_101 : decode cX10_apart 101 = .ok (.iconst 0, 1) := by decide +kernel
theorem dX10_apart_102 : decode cX10_apart 102 = .ok (.istore 4, 2) := by decide +kernel
theorem dX10_apart_104 : decode cX10_apart 104 = .ok (.iinc 6 1, 3) := by decide +kernel
theorem dX10_apart_107 : decode cX10_apart 107 = .ok (.goto (-53), 3) := by decide +kernel
theorem dX10_apart_110 : decode cX10_apart 110 = .ok (.iinc 5 1, 3) := by decide +kernel
theorem dX10_apart_113 : decode cX10_apart 113 = .ok (.goto (-91), 3) := by decide +kernel
theorem dX10_apart_116 : decode cX10_apart 116 = .ok (.iload 4, 2) := by decide +kernel
theorem dX10_apart_118 : decode cX10_apart 118 = .ok (.ifCond .eq 12, 3) := by decide +kernel
theorem dX10_apart_121 : decode cX10_apart 121 = .ok (.iload_n 3, 1) := by decide +kernel
theorem dX10_apart_122 : decode cX10_apart 122 = .ok (.iload_n 1, 1) := by decide +kernel
theorem dX10_apart_123 : decode cX10_apart 123 = .ok (.if_icmp .le 7, 3) := by decide +kernel
theorem dX10_apart_126 : decode cX10_apart 126 = .ok (.iload_n 3, 1) := by decide +kernel
theorem dX10_apart_127 : decode cX10_apart 127 = .ok (.goto 4, 3) := by decide +kernel
theorem dX10_apart_130 : decode cX10_apart 130 = .ok (.iload_n 1, 1) := by decide +kernel
theorem dX10_apart_131 : decode cX10_apart 131 = .ok (.istore_n 1, 1) := by decide +kernel
theorem dX10_apart_132 : decode cX10_apart 132 = .ok (.iinc 2 1, 3) := by decide +kernel
theorem dX10_apart_135 : decode cX10_apart 135 = .ok (.goto (-131), 3) := by decide +kernel
theorem dX10_apart_138 : decode cX10_apart 138 = .ok (.iload_n 1, 1) := by decide +kernel
theorem dX10_apart_139 : decode cX10_apart 139 = .ok (.ireturn, 1) := by decide +kernel
set_option maxRecDepth 20000 in
theorem g_X10_apart_0 {G : GX} {d : Nat} {Ret : Option AV → St → Prop} {R : Nat → List AV → List AV → St → Prop} (hM : AM G wdM (d + 1) mX10_apart Ret R) (σ : St)
    (h : R 4 [vR 0, vI 0, vI 0, vN, vN, vN, vN] [] σ) : R 0 [vR 0, vN, vN, vN, vN, vN, vN] [] σ := by
  refine r_iconst hM (pc' := 1) dX10_apart_0 rfl (by decide) ?_
  refine r_istore_n hM (pc' := 2) dX10_apart_1 rfl (Nat.le_of_ble_eq_true rfl) rfl ?_
  show R 2 [vR 0, vI 0, vN, vN, vN, vN, vN] _ _
  refine r_iconst hM (pc' := 3) dX10_apart_2 rfl (by decide) ?_
  refine r_istore_n hM (pc' := 4) dX10_apart_3 rfl (Nat.le_of_ble_eq_true rfl) rfl ?_
  show R 4 [vR 0, vI 0, vI 0, vN, vN, vN, vN] _ _
  exact h
set_option maxRecDepth 20000 in
theorem g_X10_apart_4 {G : GX} {d : Nat} {Ret : Option AV → St → Prop} {R : Nat → List AV → List AV → St → Prop} (hM : AM G wdM (d + 1) mX10_apart Ret R) (v1 : Int) (v2 : Int) (σ : St)
    (h : (((bShl 1 (σ.1 0 3)) ≤ v2 → Ret (some (vI v1)) σ) ∧ (¬ (bShl 1 (σ.1 0 3)) ≤ v2 → R 22 [vR 0, vI v1, vI v2, vI 0, vI 1, vI 0, vN] [] σ))) : R 4 [vR 0, vI v1, vI v2, vN, vN, vN, vN] [] σ := by
  refine r_iload_n hM (pc' := 5) dX10_apart_4 rfl (x := v2) rfl ?_
  refine r_iconst hM (pc' := 6) dX10_apart_5 rfl (by decide) ?_
  refine r_aload_n hM (pc' := 7) dX10_apart_6 rfl (x := 0) rfl ?_
  refine r_getI hM (pc' := 10) dX10_apart_7 rfl fl_X10_84 wm_0 rfl ?_
  refine r_ishl hM (pc' := 11) dX10_apart_10 rfl ?_
  refine r_icmp_ge hM (pc' := 14) (tgt := 138) dX10_apart_11 rfl (by decide) (fun c => ?_) (fun c => ?_)
  · have h := h.1 c
    refine r_iload_n hM (pc' := 139) dX10_apart_138 rfl (x := v1) rfl ?_
    exact r_ireturn hM dX10_apart_139 rfl h
  · have h := h.2 c
    refine r_iconst hM (pc' := 15) dX10_apart_14 rfl (by decide) ?_
    refine r_istore_n hM (pc' := 16) dX10_apart_15 rfl (Nat.le_of_ble_eq_true rfl) rfl ?_
    show R 16 [vR 0, vI v1, vI v2, vI 0, vN, vN, vN] _ _
    refine r_iconst hM (pc' := 17) dX10_apart_16 rfl (by decide) ?_
    refine r_istore hM (pc' := 19) dX10_apart_17 rfl (Nat.le_of_ble_eq_true rfl) rfl ?_
    show R 19 [vR 0, vI v1, vI v2, vI 0, vI 1, vN, vN] _ _
    refine r_iconst hM (pc' := 20) dX10_apart_19 rfl (by decide) ?_
    refine r_istore hM (pc' := 22) dX10_apart_20 rfl (Nat.le_of_ble_eq_true rfl) rfl ?_
    show R 22 [vR 0, vI v1, vI v2, vI 0, vI 1, vI 0, vN] _ _
    exact h
set_option maxRecDepth 20000 in
theorem g_X10_apart_22 {G : GX} {d : Nat} {Ret : Option AV → St → Prop} {R : Nat → List AV → List AV → St → Prop} (hM : AM G wdM (d + 1) mX10_apart Ret R) (v1 : Int) (v2 : Int) (v3 : Int) (v4 : Int) (v5 : Int) (σ : St)
    (h : (((σ.1 0 3) ≤ v5 → R 116 [vR 0, vI v1, vI v2, vI v3, vI v4, vN, vN] [] σ) ∧ (¬ (σ.1 0 3) ≤ v5 → ((v4 = 0 → R 116 [vR 0, vI v1, vI v2, vI v3, vI v4, vN, vN] [] σ) ∧ (¬ v4 = 0 → ((¬ (bAnd (bShr v2 v5) 1) = 0 → (r32 (v3 + 1) ∧ R 54 [vR 0, vI v1, vI v2, vI (v3 + 1), vI v4, vI v5, vI 0] [] σ)) ∧ ((bAnd (bShr v2 v5) 1) = 0 → (r32 (v5 + 1) ∧ R 22 [vR 0, vI v1, vI v2, vI v3, vI v4, vI (v5 + 1), vN] [] σ)))))))) : R 22 [vR 0, vI v1, vI v2, vI v3, vI v4, vI v5, vN] [] σ := by
  refine r_iload hM (pc' := 24) dX10_apart_22 rfl (x := v5) rfl ?_
  refine r_aload_n hM (pc' := 25) dX10_apart_24 rfl (x := 0) rfl ?_
  refine r_getI hM (pc' := 28) dX10_apart_25 rfl fl_X10_84 wm_0 rfl ?_
  refine r_icmp_ge hM (pc' := 31) (tgt := 116) dX10_apart_28 rfl (by decide) (fun c => ?_) (fun c => ?_)
  · have h := h.1 c
    refine r_weak hM (ls' := [vR 0, vI v1, vI v2, vI v3, vI v4, vN, vN]) ⟨Or.inl rfl, Or.inl rfl, Or.inl rfl, Or.inl rfl, Or.inl rfl, Or.inr rfl, Or.inl rfl, trivial⟩ ?_
    exact h
  · have h := h.2 c
    refine r_iload hM (pc' := 33) dX10_apart_31 rfl (x := v4) rfl ?_
    refine r_if_eq hM (pc' := 36) (tgt := 116) dX10_apart_33 rfl (by decide) (fun c => ?_) (fun c => ?_)
    · have h := h.1 c
      refine r_weak hM (ls' := [vR 0, vI v1, vI v2, vI v3, vI v4, vN, vN]) ⟨Or.inl rfl, Or.inl rfl, Or.inl rfl, Or.inl rfl, Or.inl rfl, Or.inr rfl, Or.inl rfl, trivial⟩ ?_
      exact h
    · have h := h.2 c
      refine r_iload_n hM (pc' := 37) dX10_apart_36 rfl (x := v2) rfl ?_
      refine r_iload hM (pc' := 39) dX10_apart_37 rfl (x := v5) rfl ?_
      refine r_ishr hM (pc' := 40) dX10_apart_39 rfl ?_
      refine r_iconst hM (pc' := 41) dX10_apart_40 rfl (by decide) ?_
      refine r_iand hM (pc' := 42) dX10_apart_41 rfl ?_
      refine r_if_ne hM (pc' := 45) (tgt := 48) dX10_apart_42 rfl (by decide) (fun c => ?_) (fun c => ?_)
      · have h := h.1 c
        have o1 := h.1
        have h := h.2
        refine r_iinc hM (pc' := 51) dX10_apart_48 rfl (x := v3) rfl rfl o1 ?_
        show R 51 [vR 0, vI v1, vI v2, vI (v3 + 1), vI v4, vI v5, vN] _ _
        refine r_iconst hM (pc' := 52) dX10_apart_51 rfl (by decide) ?_
        refine r_istore hM (pc' := 54) dX10_apart_52 rfl (Nat.le_of_ble_eq_true rfl) rfl ?_
        show R 54 [vR 0, vI v1, vI v2, vI (v3 + 1), vI v4, vI v5, vI 0] _ _
        exact h
      · have h := h.2 c
        refine r_goto hM (tgt := 110) dX10_apart_45 (by decide) ?_
        have o2 := h.1
        have h := h.2
        refine r_iinc hM (pc' := 113) dX10_apart_110 rfl (x := v5) rfl rfl o2 ?_
        show R 113 [vR 0, vI v1, vI v2, vI v3, vI v4, vI (v5 + 1), vN] _ _
        refine r_goto hM (tgt := 22) dX10_apart_113 (by decide) ?_
        exact h
set_option maxRecDepth 20000 in
theorem g_X10_apart_54 {G : GX} {d : Nat} {Ret : Option AV → St → Prop} {R : Nat → List AV → List AV → St → Prop} (hM : AM G wdM (d + 1) mX10_apart Ret R) (v1 : Int) (v2 : Int) (v3 : Int) (v4 : Int) (v5 : Int) (v6 : Int) (σ : St)
    (h : ((v5 ≤ v6 → (r32 (v5 + 1) ∧ R 22 [vR 0, vI v1, vI v2, vI v3, vI v4, vI (v5 + 1), vN] [] σ)) ∧ (¬ v5 ≤ v6 → ((v4 = 0 → (r32 (v6 + 1) ∧ R 54 [vR 0, vI v1, vI v2, vI v3, vI 0, vI v5, vI (v6 + 1)] [] σ)) ∧ (¬ v4 = 0 → (((bAnd (bShr v2 v6) 1) = 0 → (r32 (v6 + 1) ∧ R 54 [vR 0, vI v1, vI v2, vI v3, vI 1, vI v5, vI (v6 + 1)] [] σ)) ∧ (¬ (bAnd (bShr v2 v6) 1) = 0 → conI G wdM d mX10_follows [vR 0, vI v5, vI v6] σ (fun x1 σ1 => ((¬ x1 = 0 → (r32 (v6 + 1) ∧ R 54 [vR 0, vI v1, vI v2, vI v3, vI 0, vI v5, vI (v6 + 1)] [] σ1)) ∧ (x1 = 0 → conI G wdM d mX10_follows [vR 0, vI v6, vI v5] σ1 (fun x2 σ2 => ((¬ x2 = 0 → (r32 (v6 + 1) ∧ R 54 [vR 0, vI v1, vI v2, vI v3, vI 0, vI v5, vI (v6 + 1)] [] σ2)) ∧ (x2 = 0 → (r32 (v6 + 1) ∧ R 54 [vR 0, vI v1, vI v2, vI v3, vI 1, vI v5, vI (v6 + 1)] [] σ2)))))))))))))) : R 54 [vR 0, vI v1, vI v2, vI v3, vI v4, vI v5, vI v6] [] σ := by
  refine r_iload hM (pc' := 56) dX10_apart_54 rfl (x := v6) rfl ?_
  refine r_iload hM (pc' := 58) dX10_apart_56 rfl (x := v5) rfl ?_
  refine r_icmp_ge hM (pc' := 61) (tgt := 110) dX10_apart_58 rfl (by decide) (fun c => ?_) (fun c => ?_)
  · have h := h.1 c
    have o1 := h.1
    have h := h.2
    refine r_iinc hM (pc' := 113) dX10_apart_110 rfl (x := v5) rfl rfl o1 ?_
    show R 113 [vR 0, vI v1, vI v2, vI v3, vI v4, vI (v5 + 1), vI v6] _ _
    refine r_goto hM (tgt := 22) dX10_apart_113 (by decide) ?_
    refine r_weak hM (ls' := [vR 0, vI v1, vI v2, vI v3, vI v4, vI (v5 + 1), vN]) ⟨Or.inl rfl, Or.inl rfl, Or.inl rfl, Or.inl rfl, Or.inl rfl, Or.inl rfl, Or.inr rfl, trivial⟩ ?_
    exact h
  · have h := h.2 c
    refine r_iload hM (pc' := 63) dX10_apart_61 rfl (x := v4) rfl ?_
    refine r_if_eq hM (pc' := 66) (tgt := 101) dX10_apart_63 rfl (by decide) (fun c => ?_) (fun c => ?_)
    · have h := h.1 c
      refine r_iconst hM (pc' := 102) dX10_apart_101 rfl (by decide) ?_
      refine r_istore hM (pc' := 104) dX10_apart_102 rfl (Nat.le_of_ble_eq_true rfl) rfl ?_
      show R 104 [vR 0, vI v1, vI v2, vI v3, vI 0, vI v5, vI v6] _ _
      have o2 := h.1
      have h := h.2
      refine r_iinc hM (pc' := 107) dX10_apart_104 rfl (x := v6) rfl rfl o2 ?_
      show R 107 [vR 0, vI v1, vI v2, vI v3, vI 0, vI v5, vI (v6 + 1)] _ _
      refine r_goto hM (tgt := 54) dX10_apart_107 (by decide) ?_
      exact h
    · have h := h.2 c
      refine r_iload_n hM (pc' := 67) dX10_apart_66 rfl (x := v2) rfl ?_
      refine r_iload hM (pc' := 69) dX10_apart_67 rfl (x := v6) rfl ?_
      refine r_ishr hM (pc' := 70) dX10_apart_69 rfl ?_
      refine r_iconst hM (pc' := 71) dX10_apart_70 rfl (by decide) ?_
      refine r_iand hM (pc' := 72) dX10_apart_71 rfl ?_
      refine r_if_eq hM (pc' := 75) (tgt := 97) dX10_apart_72 rfl (by decide) (fun c => ?_) (fun c => ?_)
      · have h := h.1 c
        refine r_iconst hM (pc' := 98) dX10_apart_97 rfl (by decide) ?_
        refine r_goto hM (tgt := 102) dX10_apart_98 (by decide) ?_
        refine r_istore hM (pc' := 104) dX10_apart_102 rfl (Nat.le_of_ble_eq_true rfl) rfl ?_
        show R 104 [vR 0, vI v1, vI v2, vI v3, vI 1, vI v5, vI v6] _ _
        have o3 := h.1
        have h := h.2
        refine r_iinc hM (pc' := 107) dX10_apart_104 rfl (x := v6) rfl rfl o3 ?_
        show R 107 [vR 0, vI v1, vI v2, vI v3, vI 1, vI v5, vI (v6 + 1)] _ _
        refine r_goto hM (tgt := 54) dX10_apart_107 (by decide) ?_
        exact h
      · have h := h.2 c
        refine r_aload_n hM (pc' := 76) dX10_apart_75 rfl (x := 0) rfl ?_
        refine r_iload hM (pc' := 78) dX10_apart_76 rfl (x := v5) rfl ?_
        refine r_iload hM (pc' := 80) dX10_apart_78 rfl (x := v6) rfl ?_
        refine r_callVI hM (pc' := 83) [vI v5, vI v6] dX10_apart_80 rfl ml_X10_104 wm_0 rfl rfl (Nat.le_of_ble_eq_true rfl) (conI.mono h (fun x1 σ1 h => ?_))
        refine r_if_ne hM (pc' := 86) (tgt := 101) dX10_apart_83 rfl (by decide) (fun c => ?_) (fun c => ?_)
        · have h := h.1 c
          refine r_iconst hM (pc' := 102) dX10_apart_101 rfl (by decide) ?_
          refine r_istore hM (pc' := 104) dX10_apart_102 rfl (Nat.le_of_ble_eq_true rfl) rfl ?_
          show R 104 [vR 0, vI v1, vI v2, vI v3, vI 0, vI v5, vI v6] _ _
          have o4 := h.1
          have h := h.2
          refine r_iinc hM (pc' := 107) dX10_apart_104 rfl (x := v6) rfl rfl o4 ?_
          show R 107 [vR 0, vI v1, vI v2, vI v3, vI 0, vI v5, vI (v6 + 1)] _ _
          refine r_goto hM (tgt := 54) dX10_apart_107 (by decide) ?_
          exact h
        · have h := h.2 c
          refine r_aload_n hM (pc' := 87) dX10_apart_86 rfl (x := 0) rfl ?_
          refine r_iload hM (pc' := 89) dX10_apart_87 rfl (x := v6) rfl ?_
          refine r_iload hM (pc' := 91) dX10_apart_89 rfl (x := v5) rfl ?_
          refine r_callVI hM (pc' := 94) [vI v6, vI v5] dX10_apart_91 rfl ml_X10_104 wm_0 rfl rfl (Nat.le_of_ble_eq_true rfl) (conI.mono h (fun x2 σ2 h => ?_))
          refine r_if_ne hM (pc' := 97) (tgt := 101) dX10_apart_94 rfl (by decide) (fun c => ?_) (fun c => ?_)
          · have h := h.1 c
            refine r_iconst hM (pc' := 102) dX10_apart_101 rfl (by decide) ?_
            refine r_istore hM (pc' := 104) dX10_apart_102 rfl (Nat.le_of_ble_eq_true rfl) rfl ?_
            show R 104 [vR 0, vI v1, vI v2, vI v3, vI 0, vI v5, vI v6] _ _
            have o5 := h.1
            have h := h.2
            refine r_iinc hM (pc' := 107) dX10_apart_104 rfl (x := v6) rfl rfl o5 ?_
            show R 107 [vR 0, vI v1, vI v2, vI v3, vI 0, vI v5, vI (v6 + 1)] _ _
            refine r_goto hM (tgt := 54) dX10_apart_107 (by decide) ?_
            exact h
          · have h := h.2 c
            refine r_iconst hM (pc' := 98) dX10_apart_97 rfl (by decide) ?_
            refine r_goto hM (tgt := 102) dX10_apart_98 (by decide) ?_
            refine r_istore hM (pc' := 104) dX10_apart_102 rfl (Nat.le_of_ble_eq_true rfl) rfl ?_
            show R 104 [vR 0, vI v1, vI v2, vI v3, vI 1, vI v5, vI v6] _ _
            have o6 := h.1
            have h := h.2
            refine r_iinc hM (pc' := 107) dX10_apart_104 rfl (x := v6) rfl rfl o6 ?_
            show R 107 [vR 0, vI v1, vI v2, vI v3, vI 1, vI v5, vI (v6 + 1)] _ _
            refine r_goto hM (tgt := 54) dX10_apart_107 (by decide) ?_
            exact h
set_option maxRecDepth 20000 in
theorem g_X10_apart_116 {G : GX} {d : Nat} {Ret : Option AV → St → Prop} {R : Nat → List AV → List AV → St → Prop} (hM : AM G wdM (d + 1) mX10_apart Ret R) (v1 : Int) (v2 : Int) (v3 : Int) (v4 : Int) (σ : St)
    (h : ((v4 = 0 → (r32 (v2 + 1) ∧ R 4 [vR 0, vI v1, vI (v2 + 1), vN, vN, vN, vN] [] σ)) ∧ (¬ v4 = 0 → ((v3 ≤ v1 → (r32 (v2 + 1) ∧ R 4 [vR 0, vI v1, vI (v2 + 1), vN, vN, vN, vN] [] σ)) ∧ (¬ v3 ≤ v1 → (r32 (v2 + 1) ∧ R 4 [vR 0, vI v3, vI (v2 + 1), vN, vN, vN, vN] [] σ)))))) : R 116 [vR 0, vI v1, vI v2, vI v3, vI v4, vN, vN] [] σ := by
  refine r_iload hM (pc' := 118) dX10_apart_116 rfl (x := v4) rfl ?_
  refine r_if_eq hM (pc' := 121) (tgt := 130) dX10_apart_118 rfl (by decide) (fun c => ?_) (fun c => ?_)
  · have h := h.1 c
    refine r_iload_n hM (pc' := 131) dX10_apart_130 rfl (x := v1) rfl ?_
    refine r_istore_n hM (pc' := 132) dX10_apart_131 rfl (Nat.le_of_ble_eq_true rfl) rfl ?_
    show R 132 [vR 0, vI v1, vI v2, vI v3, vI v4, vN, vN] _ _
    have o1 := h.1
    have h := h.2
    refine r_iinc hM (pc' := 135) dX10_apart_132 rfl (x := v2) rfl rfl o1 ?_
    show R 135 [vR 0, vI v1, vI (v2 + 1), vI v3, vI v4, vN, vN] _ _
    refine r_goto hM (tgt := 4) dX10_apart_135 (by decide) ?_
    refine r_weak hM (ls' := [vR 0, vI v1, vI (v2 + 1), vN, vN, vN, vN]) ⟨Or.inl rfl, Or.inl rfl, Or.inl rfl, Or.inr rfl, Or.inr rfl, Or.inl rfl, Or.inl rfl, trivial⟩ ?_
    exact h
  · have h := h.2 c
    refine r_iload_n hM (pc' := 122) dX10_apart_121 rfl (x := v3) rfl ?_
    refine r_iload_n hM (pc' := 123) dX10_apart_122 rfl (x := v1) rfl ?_
    refine r_icmp_le hM (pc' := 126) (tgt := 130) dX10_apart_123 rfl (by decide) (fun c => ?_) (fun c => ?_)
    · have h := h.1 c
      refine r_iload_n hM (pc' := 131) dX10_apart_130 rfl (x := v1) rfl ?_
      refine r_istore_n hM (pc' := 132) dX10_apart_131 rfl (Nat.le_of_ble_eq_true rfl) rfl ?_
      show R 132 [vR 0, vI v1, vI v2, vI v3, vI v4, vN, vN] _ _
      have o2 := h.1
      have h := h.2
      refine r_iinc hM (pc' := 135) dX10_apart_132 rfl (x := v2) rfl rfl o2 ?_
      show R 135 [vR 0, vI v1, vI (v2 + 1), vI v3, vI v4, vN, vN] _ _
      refine r_goto hM (tgt := 4) dX10_apart_135 (by decide) ?_
      refine r_weak hM (ls' := [vR 0, vI v1, vI (v2 + 1), vN, vN, vN, vN]) ⟨Or.inl rfl, Or.inl rfl, Or.inl rfl, Or.inr rfl, Or.inr rfl, Or.inl rfl, Or.inl rfl, trivial⟩ ?_
      exact h
    · have h := h.2 c
      refine r_iload_n hM (pc' := 127) dX10_apart_126 rfl (x := v3) rfl ?_
      refine r_goto hM (tgt := 131) dX10_apart_127 (by decide) ?_
      refine r_istore_n hM (pc' := 132) dX10_apart_131 rfl (Nat.le_of_ble_eq_true rfl) rfl ?_
      show R 132 [vR 0, vI v3, vI v2, vI v3, vI v4, vN, vN] _ _
      have o3 := h.1
      have h := h.2
      refine r_iinc hM (pc' := 135) dX10_apart_132 rfl (x := v2) rfl rfl o3 ?_
      show R 135 [vR 0, vI v3, vI (v2 + 1), vI v3, vI v4, vN, vN] _ _
      refine r_goto hM (tgt := 4) dX10_apart_135 (by decide) ?_
      refine r_weak hM (ls' := [vR 0, vI v3, vI (v2 + 1), vN, vN, vN, vN]) ⟨Or.inl rfl, Or.inl rfl, Or.inl rfl, Or.inr rfl, Or.inr rfl, Or.inl rfl, Or.inl rfl, trivial⟩ ?_
      exact h
theorem dX10_blocksNow_0 : decode cX10_blocksNow 0 = .ok (.aload_n 0, 1) := by decide +kernel
theorem dX10_blocksNow_1 : decode cX10_blocksNow 1 = .ok (.iconst 0, 1) := by decide +kernel
theorem dX10_blocksNow_2 : decode cX10_blocksNow 2 = .ok (.putfield 91, 3) := by decide +kernel
theorem dX10_blocksNow_5 : decode cX10_blocksNow 5 = .ok (.aload_n 0, 1) := by decide +kernel
theorem dX10_blocksNow_6 : decode cX10_blocksNow 6 = .ok (.invokevirtual 126, 3) := by decide +kernel
theorem dX10_blocksNow_9 : decode cX10_blocksNow 9 = .ok (.aload_n 0, 1) := by decide +kernel
theorem dX10_blocksNow_10 : decode cX10_blocksNow 10 = .ok (.getfield 116, 3) := by decide +kernel
theorem dX10_blocksNow_13 : decode cX10_blocksNow 13 = .ok (.ireturn, 1) := by decide +kernel
set_option maxRecDepth 20000 in
theorem g_X10_blocksNow_0 {G : GX} {d : Nat} {Ret : Option AV → St → Prop} {R : Nat → List AV → List AV → St → Prop} (hM : AM G wdM (d + 1) mX10_blocksNow Ret R) (σ : St)
    (h : (∀ τ1, τ1 = sI σ 0 13 0 → conV G wdM d mX10_plans [vR 0] τ1 (fun σ1 => Ret (some (vI (σ1.1 0 15))) σ1))) : R 0 [vR 0] [] σ := by
  refine r_aload_n hM (pc' := 1) dX10_blocksNow_0 rfl (x := 0) rfl ?_
  refine r_iconst hM (pc' := 2) dX10_blocksNow_1 rfl (by decide) ?_
  refine r_putZ hM (pc' := 5) dX10_blocksNow_2 rfl fp_X10_91 wm_0 rfl (by decide) (fun τ1 e1 => ?_)
  have h := h τ1 e1
  refine r_aload_n hM (pc' := 6) dX10_blocksNow_5 rfl (x := 0) rfl ?_
  refine r_callVV hM (pc' := 9) [] dX10_blocksNow_6 rfl ml_X10_126 wm_0 rfl rfl (Nat.le_of_ble_eq_true rfl) (conV.mono h (fun σ1 h => ?_))
  refine r_aload_n hM (pc' := 10) dX10_blocksNow_9 rfl (x := 0) rfl ?_
  refine r_getI hM (pc' := 13) dX10_blocksNow_10 rfl fl_X10_116 wm_0 rfl ?_
  exact r_ireturn hM dX10_blocksNow_13 rfl h
theorem dX10_saves_0 : decode cX10_saves 0 = .ok (.aload_n 0, 1) := by decide +kernel
theorem dX10_saves_1 : decode cX10_saves 1 = .ok (.iload_n 1, 1) := by decide +kernel
theorem dX10_saves_2 : decode cX10_saves 2 = .ok (.iload_n 2, 1) := by decide +kernel
theorem dX10_saves_3 : decode cX10_saves 3 = .ok (.invokevirtual 100, 3) := by decide +kernel
theorem dX10_saves_6 : decode cX10_saves 6 = .ok (.ifCond .ne 6, 3) := by decide +kernel
theorem dX10_saves_9 : decode cX10_saves 9 = .ok (.bipush (-100), 2) := by decide +kernel
theorem dX10_saves_11 : decode cX10_saves 11 = .ok (.ireturn, 1) := by decide +kernel
theorem dX10_saves_12 : decode cX10_saves 12 = .ok (.aload_n 0, 1) := by decide +kernel
theorem dX10_saves_13 : decode cX10_saves 13 = .ok (.invokevirtual 164, 3) := by decide +kernel
theorem dX10_saves_16 : decode cX10_saves 16 = .ok (.istore_n 3, 1) := by decide +kernel
theorem dX10_saves_17 : decode cX10_saves 17 = .ok (.aload_n 0, 1) := by decide +kernel
theorem dX10_saves_18 : decode cX10_saves 18 = .ok (.getfield 26, 3) := by decide +kernel
theorem dX10_saves_21 : decode cX10_saves 21 = .ok (.iload_n 1, 1) := by decide +kernel
theorem dX10_saves_22 : decode cX10_saves 22 = .ok (.dup2, 1) := by decide +kernel
theorem dX10_saves_23 : decode cX10_saves 23 = .ok (.iaload, 1) := by decide +kernel
theorem dX10_saves_24 : decode cX10_saves 24 = .ok (.iload_n 2, 1) := by decide +kernel
theorem dX10_saves_25 : decode cX10_saves 25 = .ok (.iadd, 1) := by decide +kernel
theorem dX10_saves_26 : decode cX10_saves 26 = .ok (.iastore, 1) := by decide +kernel
theorem dX10_saves_27 : decode cX10_saves 27 = .ok (.aload_n 0, 1) := by decide +kernel
theorem dX10_saves_28 : decode cX10_saves 28 = .ok (.getfield 29, 3) := by decide +kernel
theorem dX10_saves_31 : decode cX10_saves 31 = .ok (.iload_n 1, 1) := by decide +kernel
theorem dX10_saves_32 : decode cX10_saves 32 = .ok (.dup2, 1) := by decide +kernel
theorem dX10_saves_33 : decode cX10_saves 33 = .ok (.iaload, 1) := by decide +kernel
theorem dX10_saves_34 : decode cX10_saves 34 = .ok (.iload_n 2, 1) := by decide +kernel
theorem dX10_saves_35 : decode cX10_saves 35 = .ok (.iadd, 1) := by decide +kernel
theorem dX10_saves_36 : decode cX10_saves 36 = .ok (.iastore, 1) := by decide +kernel
theorem dX10_saves_37 : decode cX10_saves 37 = .ok (.iload_n 3, 1) := by decide +kernel
theorem dX10_saves_38 : decode cX10_saves 38 = .ok (.aload_n 0, 1) := by decide +kernel
theorem dX10_saves_39 : decode cX10_saves 39 = .ok (.invokevirtual 164, 3) := by decide +kernel
theorem dX10_saves_42 : decode cX10_saves 42 = .ok (.isub, 1) := by decide +kernel
theorem dX10_saves_43 : decode cX10_saves 43 = .ok (.istore_n 3, 1) := by decide +kernel
theorem dX10_saves_44 : decode cX10_saves 44 = .ok (.aload_n 0, 1) := by decide +kernel
theorem dX10_saves_45 : decode cX10_saves 45 = .ok (.getfield 26, 3) := by decide +kernel
theorem dX10_saves_48 : decode cX10_saves 48 = .ok (.iload_n 1, 1) := by decide +kernel
theorem dX10_saves_49 : decode cX10_saves 49 = .ok (.dup2, 1) := by decide +kernel
theorem dX10_saves_50 : decode cX10_saves 50 = .ok (.iaload, 1) := by decide +kernel
theorem dX10_saves_51 : decode cX10_saves 51 = .ok (.iload_n 2, 1) := by decide +kernel
theorem dX10_saves_52 : decode cX10_saves 52 = .ok (.isub, 1) := by decide +kernel
theorem dX10_saves_53 : decode cX10_saves 53 = .ok (.iastore, 1) := by decide +kernel
theorem dX10_saves_54 : decode cX10_saves 54 = .ok (.aload_n 0, 1) := by decide +kernel
theorem dX10_saves_55 : decode cX10_saves 55 = .ok (.getfield 29, 3) := by decide +kernel
theorem dX10_saves_58 : decode cX10_saves 58 = .ok (.iload_n 1, 1) := by decide +kernel
theorem dX10_saves_59 : decode cX10_saves 59 = .ok (.dup2, 1) := by decide +kernel
theorem dX10_saves_60 : decode cX10_saves 60 = .ok (.iaload, 1) := by decide +kernel
theorem dX10_saves_61 : decode cX10_saves 61 = .ok (.iload_n 2, 1) := by decide +kernel
theorem dX10_saves_62 : decode cX10_saves 62 = .ok (.isub, 1) := by decide +kernel
theorem dX10_saves_63 : decode cX10_saves 63 = .ok (.iastore, 1) := by decide +kernel
theorem dX10_saves_64 : decode cX10_saves 64 = .ok (.aload_n 0, 1) := by decide +kernel
theorem dX10_saves_65 : decode cX10_saves 65 = .ok (.iconst 0, 1) := by decide +kernel
theorem dX10_saves_66 : decode cX10_saves 66 = .ok (.putfield 91, 3) := by decide +kernel
theorem dX10_saves_69 : decode cX10_saves 69 = .ok (.iload_n 3, 1) := by decide +kernel
theorem dX10_saves_70 : decode cX10_saves 70 = .ok (.ireturn, 1) := by decide +kernel
set_option maxRecDepth 20000 in
theorem g_X10_saves_0 {G : GX} {d : Nat} {Ret : Option AV → St → Prop} {R : Nat → List AV → List AV → St → Prop} (hM : AM G wdM (d + 1) mX10_saves Ret R) (v1 : Int) (v2 : Int) (σ : St)
    (h : conI G wdM d mX10_canMove [vR 0, vI v1, vI v2] σ (fun x1 σ1 => ((¬ x1 = 0 → conI G wdM d mX10_blocksNow [vR 0] σ1 (fun x2 σ2 => ((0 ≤ v1 ∧ v1 < 16) ∧ (r32 ((σ2.1 6 (v1).toNat) + v2) ∧ (∀ τ1, τ1 = sI σ2 6 (v1).toNat ((σ2.1 6 (v1).toNat) + v2) → (r32 ((τ1.1 7 (v1).toNat) + v2) ∧ (∀ τ2, τ2 = sI τ1 7 (v1).toNat ((τ1.1 7 (v1).toNat) + v2) → conI G wdM d mX10_blocksNow [vR 0] τ2 (fun x3 σ3 => (r32 (x2 - x3) ∧ (r32 ((σ3.1 6 (v1).toNat) - v2) ∧ (∀ τ3, τ3 = sI σ3 6 (v1).toNat ((σ3.1 6 (v1).toNat) - v2) → (r32 ((τ3.1 7 (v1).toNat) - v2) ∧ (∀ τ4, τ4 = sI τ3 7 (v1).toNat ((τ3.1 7 (v1).toNat) - v2) → (∀ τ5, τ5 = sI τ4 0 13 0 → Ret (some (vI (x2 - x3))) τ5)))))))))))))) ∧ (x1 = 0 → Ret (some (vI (-100))) σ1)))) : R 0 [vR 0, vI v1, vI v2, vN] [] σ := by
  refine r_aload_n hM (pc' := 1) dX10_saves_0 rfl (x := 0) rfl ?_
  refine r_iload_n hM (pc' := 2) dX10_saves_1 rfl (x := v1) rfl ?_
  refine r_iload_n hM (pc' := 3) dX10_saves_2 rfl (x := v2) rfl ?_
  refine r_callVI hM (pc' := 6) [vI v1, vI v2] dX10_saves_3 rfl ml_X10_100 wm_0 rfl rfl (Nat.le_of_ble_eq_true rfl) (conI.mono h (fun x1 σ1 h => ?_))
  refine r_if_ne hM (pc' := 9) (tgt := 12) dX10_saves_6 rfl (by decide) (fun c => ?_) (fun c => ?_)
  · have h := h.1 c
    refine r_aload_n hM (pc' := 13) dX10_saves_12 rfl (x := 0) rfl ?_
    refine r_callVI hM (pc' := 16) [] dX10_saves_13 rfl ml_X10_164 wm_0 rfl rfl (Nat.le_of_ble_eq_true rfl) (conI.mono h (fun x2 σ2 h => ?_))
    refine r_istore_n hM (pc' := 17) dX10_saves_16 rfl (Nat.le_of_ble_eq_true rfl) rfl ?_
    show R 17 [vR 0, vI v1, vI v2, vI x2] _ _
    refine r_aload_n hM (pc' := 18) dX10_saves_17 rfl (x := 0) rfl ?_
    refine r_getR hM (pc' := 21) dX10_saves_18 rfl fl_X10_26 wm_0 rfl ?_
    refine r_iload_n hM (pc' := 22) dX10_saves_21 rfl (x := v1) rfl ?_
    refine r_dup2 hM (pc' := 23) dX10_saves_22 rfl (fun _ => rfl) (fun _ => rfl) ?_
    have o1 := h.1
    have h := h.2
    refine r_iaload hM (pc' := 24) dX10_saves_23 rfl wm_6 o1 ?_
    refine r_iload_n hM (pc' := 25) dX10_saves_24 rfl (x := v2) rfl ?_
    have o2 := h.1
    have h := h.2
    refine r_iadd hM (pc' := 26) dX10_saves_25 rfl o2 ?_
    refine r_iastore hM (pc' := 27) dX10_saves_26 rfl wm_6 o1 (fun τ1 e1 => ?_)
    have h := h τ1 e1
    refine r_aload_n hM (pc' := 28) dX10_saves_27 rfl (x := 0) rfl ?_
    refine r_getR hM (pc' := 31) dX10_saves_28 rfl fl_X10_29 wm_0 rfl ?_
    refine r_iload_n hM (pc' := 32) dX10_saves_31 rfl (x := v1) rfl ?_
    refine r_dup2 hM (pc' := 33) dX10_saves_32 rfl (fun _ => rfl) (fun _ => rfl) ?_
    refine r_iaload hM (pc' := 34) dX10_saves_33 rfl wm_7 o1 ?_
    refine r_iload_n hM (pc' := 35) dX10_saves_34 rfl (x := v2) rfl ?_
    have o3 := h.1
    have h := h.2
    refine r_iadd hM (pc' := 36) dX10_saves_35 rfl o3 ?_
    refine r_iastore hM (pc' := 37) dX10_saves_36 rfl wm_7 o1 (fun τ2 e2 => ?_)
    have h := h τ2 e2
    refine r_iload_n hM (pc' := 38) dX10_saves_37 rfl (x := x2) rfl ?_
    refine r_aload_n hM (pc' := 39) dX10_saves_38 rfl (x := 0) rfl ?_
    refine r_callVI hM (pc' := 42) [] dX10_saves_39 rfl ml_X10_164 wm_0 rfl rfl (Nat.le_of_ble_eq_true rfl) (conI.mono h (fun x3 σ3 h => ?_))
    have o4 := h.1
    have h := h.2
    refine r_isub hM (pc' := 43) dX10_saves_42 rfl o4 ?_
    refine r_istore_n hM (pc' := 44) dX10_saves_43 rfl (Nat.le_of_ble_eq_true rfl) rfl ?_
    show R 44 [vR 0, vI v1, vI v2, vI (x2 - x3)] _ _
    refine r_aload_n hM (pc' := 45) dX10_saves_44 rfl (x := 0) rfl ?_
    refine r_getR hM (pc' := 48) dX10_saves_45 rfl fl_X10_26 wm_0 rfl ?_
    refine r_iload_n hM (pc' := 49) dX10_saves_48 rfl (x := v1) rfl ?_
    refine r_dup2 hM (pc' := 50) dX10_saves_49 rfl (fun _ => rfl) (fun _ => rfl) ?_
    refine r_iaload hM (pc' := 51) dX10_saves_50 rfl wm_6 o1 ?_
    refine r_iload_n hM (pc' := 52) dX10_saves_51 rfl (x := v2) rfl ?_
    have o5 := h.1
    have h := h.2
    refine r_isub hM (pc' := 53) dX10_saves_52 rfl o5 ?_
    refine r_iastore hM (pc' := 54) dX10_saves_53 rfl wm_6 o1 (fun τ3 e3 => ?_)
    have h := h τ3 e3
    refine r_aload_n hM (pc' := 55) dX10_saves_54 rfl (x := 0) rfl ?_
    refine r_getR hM (pc' := 58) dX10_saves_55 rfl fl_X10_29 wm_0 rfl ?_
    refine r_iload_n hM (pc' := 59) dX10_saves_58 rfl (x := v1) rfl ?_
    refine r_dup2 hM (pc' := 60) dX10_saves_59 rfl (fun _ => rfl) (fun _ => rfl) ?_
    refine r_iaload hM (pc' := 61) dX10_saves_60 rfl wm_7 o1 ?_
    refine r_iload_n hM (pc' := 62) dX10_saves_61 rfl (x := v2) rfl ?_
    have o6 := h.1
    have h := h.2
    refine r_isub hM (pc' := 63) dX10_saves_62 rfl o6 ?_
    refine r_iastore hM (pc' := 64) dX10_saves_63 rfl wm_7 o1 (fun τ4 e4 => ?_)
    have h := h τ4 e4
    refine r_aload_n hM (pc' := 65) dX10_saves_64 rfl (x := 0) rfl ?_
    refine r_iconst hM (pc' := 66) dX10_saves_65 rfl (by decide) ?_
    refine r_putZ hM (pc' := 69) dX10_saves_66 rfl fp_X10_91 wm_0 rfl (by decide) (fun τ5 e5 => ?_)
    have h := h τ5 e5
    refine r_iload_n hM (pc' := 70) dX10_saves_69 rfl (x := (x2 - x3)) rfl ?_
    exact r_ireturn hM dX10_saves_70 rfl h
  · have h := h.2 c
    refine r_bipush hM (pc' := 11) dX10_saves_9 rfl (by decide) (by decide) ?_
    exact r_ireturn hM dX10_saves_11 rfl h
theorem dX10_about_0 : decode cX10_about 0 = .ok (.iload_n 1, 1) := by decide +kernel
theorem dX10_about_1 : decode cX10_about 1 = .ok (.tableswitch 68 0 4 #[35, 40, 45, 50, 55], 35) := by decide +kernel
theorem dX10_about_36 : decode cX10_about 36 = .ok (.aload_n 0, 1) := by decide +kernel
theorem dX10_about_37 : decode cX10_about 37 = .ok (.getfield 84, 3) := by decide +kernel
theorem dX10_about_40 : decode cX10_about 40 = .ok (.ireturn, 1) := by decide +kernel
theorem dX10_about_41 : decode cX10_about 41 = .ok (.aload_n 0, 1) := by decide +kernel
theorem dX10_about_42 : decode cX10_about 42 = .ok (.getfield 32, 3) := by decide +kernel
theorem dX10_about_45 : decode cX10_about 45 = .ok (.ireturn, 1) := by decide +kernel
theorem dX10_about_46 : decode cX10_about 46 = .ok (.aload_n 0, 1) := by decide +kernel
theorem dX10_about_47 : decode cX10_about 47 = .ok (.getfield 36, 3) := by decide +kernel
theorem dX10_about_50 : decode cX10_about 50 = .ok (.ireturn, 1) := by decide +kernel
theorem dX10_about_51 : decode cX10_about 51 = .ok (.aload_n 0, 1) := by decide +kernel
theorem dX10_about_52 : decode cX10_about 52 = .ok (.getfield 39, 3) := by decide +kernel
theorem dX10_about_55 : decode cX10_about 55 = .ok (.ireturn, 1) := by decide +kernel
theorem dX10_about_56 : decode cX10_about 56 = .ok (.aload_n 0, 1) := by decide +kernel
theorem dX10_about_57 : decode cX10_about 57 = .ok (.getfield 42, 3) := by decide +kernel
theorem dX10_about_60 : decode cX10_about 60 = .ok (.ifCond .eq 7, 3) := by decide +kernel
theorem dX10_about_63 : decode cX10_about 63 = .ok (.iconst 1, 1) := by decide +kernel
theorem dX10_about_64 : decode cX10_about 64 = .ok (.goto 4, 3) := by decide +kernel
theorem dX10_about_67 : decode cX10_about 67 = .ok (.iconst 0, 1) := by decide +kernel
theorem dX10_about_68 : decode cX10_about 68 = .ok (.ireturn, 1) := by decide +kernel
theorem dX10_about_69 : decode cX10_about 69 = .ok (.iconst (-1), 1) := by decide +kernel
theorem dX10_about_70 : decode cX10_about 70 = .ok (.ireturn, 1) := by decide +kernel
set_option maxRecDepth 20000 in
theorem g_X10_about_0 {G : GX} {d : Nat} {Ret : Option AV → St → Prop} {R : Nat → List AV → List AV → St → Prop} (hM : AM G wdM d mX10_about Ret R) (v1 : Int) (σ : St)
    (h : ((v1 = 0 → Ret (some (vI (σ.1 0 3))) σ) ∧ (v1 = 1 → Ret (some (vI (σ.1 0 8))) σ) ∧ (v1 = 2 → Ret (some (vI (σ.1 0 9))) σ) ∧ (v1 = 3 → Ret (some (vI (σ.1 0 10))) σ) ∧ (v1 = 4 → (((σ.1 0 11) = 0 → Ret (some (vI 0)) σ) ∧ (¬ (σ.1 0 11) = 0 → Ret (some (vI 1)) σ))) ∧ (¬ (0 ≤ v1 ∧ v1 ≤ 4) → Ret (some (vI (-1))) σ))) : R 0 [vR 0, vI v1] [] σ := by
  refine r_iload_n hM (pc' := 1) dX10_about_0 rfl (x := v1) rfl ?_
  refine r_table hM (tgt := 69) [36, 41, 46, 51, 56] dX10_about_1 rfl (by decide) (by decide) ⟨fun c => ?_, fun c => ?_, fun c => ?_, fun c => ?_, fun c => ?_, trivial⟩ (fun c => ?_)
  · have h := h.1 (by omega)
    refine r_aload_n hM (pc' := 37) dX10_about_36 rfl (x := 0) rfl ?_
    refine r_getI hM (pc' := 40) dX10_about_37 rfl fl_X10_84 wm_0 rfl ?_
    exact r_ireturn hM dX10_about_40 rfl h
  · have h := h.2.1 (by omega)
    refine r_aload_n hM (pc' := 42) dX10_about_41 rfl (x := 0) rfl ?_
    refine r_getI hM (pc' := 45) dX10_about_42 rfl fl_X10_32 wm_0 rfl ?_
    exact r_ireturn hM dX10_about_45 rfl h
  · have h := h.2.2.1 (by omega)
    refine r_aload_n hM (pc' := 47) dX10_about_46 rfl (x := 0) rfl ?_
    refine r_getI hM (pc' := 50) dX10_about_47 rfl fl_X10_36 wm_0 rfl ?_
    exact r_ireturn hM dX10_about_50 rfl h
  · have h := h.2.2.2.1 (by omega)
    refine r_aload_n hM (pc' := 52) dX10_about_51 rfl (x := 0) rfl ?_
    refine r_getI hM (pc' := 55) dX10_about_52 rfl fl_X10_39 wm_0 rfl ?_
    exact r_ireturn hM dX10_about_55 rfl h
  · have h := h.2.2.2.2.1 (by omega)
    refine r_aload_n hM (pc' := 57) dX10_about_56 rfl (x := 0) rfl ?_
    refine r_getI hM (pc' := 60) dX10_about_57 rfl fl_X10_42 wm_0 rfl ?_
    refine r_if_eq hM (pc' := 63) (tgt := 67) dX10_about_60 rfl (by decide) (fun c => ?_) (fun c => ?_)
    · have h := h.1 c
      refine r_iconst hM (pc' := 68) dX10_about_67 rfl (by decide) ?_
      exact r_ireturn hM dX10_about_68 rfl h
    · have h := h.2 c
      refine r_iconst hM (pc' := 64) dX10_about_63 rfl (by decide) ?_
      refine r_goto hM (tgt := 68) dX10_about_64 (by decide) ?_
      exact r_ireturn hM dX10_about_68 rfl h
  · have h := h.2.2.2.2.2 c
    refine r_iconst hM (pc' := 70) dX10_about_69 rfl (by decide) ?_
    exact r_ireturn hM dX10_about_70 rfl h
