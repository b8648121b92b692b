theorem ml_L_13 : MLv RL 13 mX9_way 9 4 := ⟨(RX9, TX9, 8), rfl, rfl, gw_mem 383 (by decide +kernel) rfl, gw_mem 384 (by decide +kernel) rfl, gw_mem 385 (by decide +kernel) rfl, gw_mem 38 (by decide +kernel) rfl, mwX9_way, ⟨by decide, by decide, by decide +kernel⟩, by decide⟩
theorem ml_L_17 : MLv RL 17 mX10_way 10 4 := ⟨(RX10, TX10, 27), rfl, rfl, gw_mem 853 (by decide +kernel) rfl, gw_mem 854 (by decide +kernel) rfl, gw_mem 855 (by decide +kernel) rfl, gw_mem 49 (by decide +kernel) rfl, mwX10_way, ⟨by decide, by decide, by decide +kernel⟩, by decide⟩
theorem ml_L_18 : MLv RL 18 mX9_relief 9 2 := ⟨(RX9, TX9, 8), rfl, rfl, gw_mem 405 (by decide +kernel) rfl, gw_mem 406 (by decide +kernel) rfl, gw_mem 407 (by decide +kernel) rfl, gw_mem 38 (by decide +kernel) rfl, mwX9_relief, ⟨by decide, by decide, by decide +kernel⟩, by decide⟩
theorem ml_L_22 : MLv RL 22 mX10_relief 10 2 := ⟨(RX10, TX10, 27), rfl, rfl, gw_mem 863 (by decide +kernel) rfl, gw_mem 864 (by decide +kernel) rfl, gw_mem 865 (by decide +kernel) rfl, gw_mem 49 (by decide +kernel) rfl, mwX10_relief, ⟨by decide, by decide, by decide +kernel⟩, by decide⟩
theorem ml_L_23 : MLv RL 23 mX9_trip 9 4 := ⟨(RX9, TX9, 8), rfl, rfl, gw_mem 413 (by decide +kernel) rfl, gw_mem 414 (by decide +kernel) rfl, gw_mem 415 (by decide +kernel) rfl, gw_mem 38 (by decide +kernel) rfl, mwX9_trip, ⟨by decide, by decide, by decide +kernel⟩, by decide⟩
theorem ml_L_27 : MLv RL 27 mX10_trip 10 4 := ⟨(RX10, TX10, 27), rfl, rfl, gw_mem 867 (by decide +kernel) rfl, gw_mem 868 (by decide +kernel) rfl, gw_mem 869 (by decide +kernel) rfl, gw_mem 49 (by decide +kernel) rfl, mwX10_trip, ⟨by decide, by decide, by decide +kernel⟩, by decide⟩
theorem ml_L_28 : MLv RL 28 mX9_drop 9 1 := ⟨(RX9, TX9, 8), rfl, rfl, gw_mem 422 (by decide +kernel) rfl, gw_mem 423 (by decide +kernel) rfl, gw_mem 424 (by decide +kernel) rfl, gw_mem 38 (by decide +kernel) rfl, mwX9_drop, ⟨by decide, by decide, by decide +kernel⟩, by decide⟩
theorem ml_L_32 : MLv RL 32 mX10_drop 10 1 := ⟨(RX10, TX10, 27), rfl, rfl, gw_mem 871 (by decide +kernel) rfl, gw_mem 872 (by decide +kernel) rfl, gw_mem 873 (by decide +kernel) rfl, gw_mem 49 (by decide +kernel) rfl, mwX10_drop, ⟨by decide, by decide, by decide +kernel⟩, by decide⟩
theorem ml_L_33 : MLv RL 33 mX9_move 9 2 := ⟨(RX9, TX9, 8), rfl, rfl, gw_mem 434 (by decide +kernel) rfl, gw_mem 435 (by decide +kernel) rfl, gw_mem 436 (by decide +kernel) rfl, gw_mem 38 (by decide +kernel) rfl, mwX9_move, ⟨by decide, by decide, by decide +kernel⟩, by decide⟩
theorem ml_L_37 : MLv RL 37 mX10_move 10 2 := ⟨(RX10, TX10, 27), rfl, rfl, gw_mem 879 (by decide +kernel) rfl, gw_mem 880 (by decide +kernel) rfl, gw_mem 881 (by decide +kernel) rfl, gw_mem 49 (by decide +kernel) rfl, mwX10_move, ⟨by decide, by decide, by decide +kernel⟩, by decide⟩
theorem ml_L_38 : MLv RL 38 mX9_laws 9 4 := ⟨(RX9, TX9, 8), rfl, rfl, gw_mem 446 (by decide +kernel) rfl, gw_mem 447 (by decide +kernel) rfl, gw_mem 448 (by decide +kernel) rfl, gw_mem 38 (by decide +kernel) rfl, mwX9_laws, ⟨by decide, by decide, by decide +kernel⟩, by decide⟩
theorem ml_L_42 : MLv RL 42 mX10_laws 10 4 := ⟨(RX10, TX10, 27), rfl, rfl, gw_mem 887 (by decide +kernel) rfl, gw_mem 888 (by decide +kernel) rfl, gw_mem 889 (by decide +kernel) rfl, gw_mem 49 (by decide +kernel) rfl, mwX10_laws, ⟨by decide, by decide, by decide +kernel⟩, by decide⟩
theorem ml_L_43 : MLv RL 43 mX9_tripOf 9 2 := ⟨(RX9, TX9, 8), rfl, rfl, gw_mem 455 (by decide +kernel) rfl, gw_mem 456 (by decide +kernel) rfl, gw_mem 457 (by decide +kernel) rfl, gw_mem 38 (by decide +kernel) rfl, mwX9_tripOf, ⟨by decide, by decide, by decide +kernel⟩, by decide⟩
theorem ml_L_47 : MLv RL 47 mX10_tripOf 10 2 := ⟨(RX10, TX10, 27), rfl, rfl, gw_mem 891 (by decide +kernel) rfl, gw_mem 892 (by decide +kernel) rfl, gw_mem 893 (by decide +kernel) rfl, gw_mem 49 (by decide +kernel) rfl, mwX10_tripOf, ⟨by decide, by decide, by decide +kernel⟩, by decide⟩
theorem ml_L_48 : MLv RL 48 mX9_may 9 2 := ⟨(RX9, TX9, 8), rfl, rfl, gw_mem 460 (by decide +kernel) rfl, gw_mem 461 (by decide +kernel) rfl, gw_mem 462 (by decide +kernel) rfl, gw_mem 38 (by decide +kernel) rfl, mwX9_may, ⟨by decide, by decide, by decide +kernel⟩, by decide⟩
theorem ml_L_51 : MLv RL 51 mX10_may 10 2 := ⟨(RX10, TX10, 27), rfl, rfl, gw_mem 895 (by decide +kernel) rfl, gw_mem 896 (by decide +kernel) rfl, gw_mem 897 (by decide +kernel) rfl, gw_mem 49 (by decide +kernel) rfl, mwX10_may, ⟨by decide, by decide, by decide +kernel⟩, by decide⟩
theorem ml_L_52 : MLv RL 52 mX9_goesOn 9 0 := ⟨(RX9, TX9, 8), rfl, rfl, gw_mem 473 (by decide +kernel) rfl, gw_mem 474 (by decide +kernel) rfl, gw_mem 475 (by decide +kernel) rfl, gw_mem 38 (by decide +kernel) rfl, mwX9_goesOn, ⟨by decide, by decide, by decide +kernel⟩, by decide⟩
theorem ml_L_56 : MLv RL 56 mX10_goesOn 10 0 := ⟨(RX10, TX10, 27), rfl, rfl, gw_mem 903 (by decide +kernel) rfl, gw_mem 904 (by decide +kernel) rfl, gw_mem 905 (by decide +kernel) rfl, gw_mem 49 (by decide +kernel) rfl, mwX10_goesOn, ⟨by decide, by decide, by decide +kernel⟩, by decide⟩
theorem ml_L_57 : MLv RL 57 mX9_plan 9 1 := ⟨(RX9, TX9, 8), rfl, rfl, gw_mem 598 (by decide +kernel) rfl, gw_mem 599 (by decide +kernel) rfl, gw_mem 600 (by decide +kernel) rfl, gw_mem 38 (by decide +kernel) rfl, mwX9_plan, ⟨by decide, by decide, by decide +kernel⟩, by decide⟩
theorem ml_L_61 : MLv RL 61 mX10_plan 10 1 := ⟨(RX10, TX10, 27), rfl, rfl, gw_mem 907 (by decide +kernel) rfl, gw_mem 908 (by decide +kernel) rfl, gw_mem 909 (by decide +kernel) rfl, gw_mem 49 (by decide +kernel) rfl, mwX10_plan, ⟨by decide, by decide, by decide +kernel⟩, by decide⟩
theorem ml_L_62 : MLv RL 62 mX9_block 9 2 := ⟨(RX9, TX9, 8), rfl, rfl, gw_mem 611 (by decide +kernel) rfl, gw_mem 612 (by decide +kernel) rfl, gw_mem 613 (by decide +kernel) rfl, gw_mem 38 (by decide +kernel) rfl, mwX9_block, ⟨by decide, by decide, by decide +kernel⟩, by decide⟩
theorem ml_L_65 : MLv RL 65 mX10_block 10 2 := ⟨(RX10, TX10, 27), rfl, rfl, gw_mem 933 (by decide +kernel) rfl, gw_mem 934 (by decide +kernel) rfl, gw_mem 935 (by decide +kernel) rfl, gw_mem 49 (by decide +kernel) rfl, mwX10_block, ⟨by decide, by decide, by decide +kernel⟩, by decide⟩
theorem ml_L_66 : MLv RL 66 mX9_planned 9 2 := ⟨(RX9, TX9, 8), rfl, rfl, gw_mem 616 (by decide +kernel) rfl, gw_mem 617 (by decide +kernel) rfl, gw_mem 618 (by decide +kernel) rfl, gw_mem 38 (by decide +kernel) rfl, mwX9_planned, ⟨by decide, by decide, by decide +kernel⟩, by decide⟩
theorem ml_L_69 : MLv RL 69 mX10_planned 10 2 := ⟨(RX10, TX10, 27), rfl, rfl, gw_mem 937 (by decide +kernel) rfl, gw_mem 938 (by decide +kernel) rfl, gw_mem 939 (by decide +kernel) rfl, gw_mem 49 (by decide +kernel) rfl, mwX10_planned, ⟨by decide, by decide, by decide +kernel⟩, by decide⟩
theorem ml_L_70 : MLv RL 70 mX9_segment 9 2 := ⟨(RX9, TX9, 8), rfl, rfl, gw_mem 620 (by decide +kernel) rfl, gw_mem 621 (by decide +kernel) rfl, gw_mem 622 (by decide +kernel) rfl, gw_mem 38 (by decide +kernel) rfl, mwX9_segment, ⟨by decide, by decide, by decide +kernel⟩, by decide⟩
theorem ml_L_73 : MLv RL 73 mX10_segment 10 2 := ⟨(RX10, TX10, 27), rfl, rfl, gw_mem 941 (by decide +kernel) rfl, gw_mem 942 (by decide +kernel) rfl, gw_mem 943 (by decide +kernel) rfl, gw_mem 49 (by decide +kernel) rfl, mwX10_segment, ⟨by decide, by decide, by decide +kernel⟩, by decide⟩
theorem ml_L_74 : MLv RL 74 mX9_clash 9 4 := ⟨(RX9, TX9, 8), rfl, rfl, gw_mem 628 (by decide +kernel) rfl, gw_mem 629 (by decide +kernel) rfl, gw_mem 630 (by decide +kernel) rfl, gw_mem 38 (by decide +kernel) rfl, mwX9_clash, ⟨by decide, by decide, by decide +kernel⟩, by decide⟩
theorem ml_L_77 : MLv RL 77 mX10_clash 10 4 := ⟨(RX10, TX10, 27), rfl, rfl, gw_mem 945 (by decide +kernel) rfl, gw_mem 946 (by decide +kernel) rfl, gw_mem 947 (by decide +kernel) rfl, gw_mem 49 (by decide +kernel) rfl, mwX10_clash, ⟨by decide, by decide, by decide +kernel⟩, by decide⟩
theorem ml_L_78 : MLv RL 78 mX9_roster 9 0 := ⟨(RX9, TX9, 8), rfl, rfl, gw_mem 670 (by decide +kernel) rfl, gw_mem 671 (by decide +kernel) rfl, gw_mem 672 (by decide +kernel) rfl, gw_mem 38 (by decide +kernel) rfl, mwX9_roster, ⟨by decide, by decide, by decide +kernel⟩, by decide⟩
theorem ml_L_81 : MLv RL 81 mX10_roster 10 0 := ⟨(RX10, TX10, 27), rfl, rfl, gw_mem 965 (by decide +kernel) rfl, gw_mem 966 (by decide +kernel) rfl, gw_mem 967 (by decide +kernel) rfl, gw_mem 49 (by decide +kernel) rfl, mwX10_roster, ⟨by decide, by decide, by decide +kernel⟩, by decide⟩
theorem ml_L_82 : MLv RL 82 mX9_duty 9 2 := ⟨(RX9, TX9, 8), rfl, rfl, gw_mem 721 (by decide +kernel) rfl, gw_mem 722 (by decide +kernel) rfl, gw_mem 723 (by decide +kernel) rfl, gw_mem 38 (by decide +kernel) rfl, mwX9_duty, ⟨by decide, by decide, by decide +kernel⟩, by decide⟩
theorem ml_L_85 : MLv RL 85 mX10_duty 10 2 := ⟨(RX10, TX10, 27), rfl, rfl, gw_mem 987 (by decide +kernel) rfl, gw_mem 988 (by decide +kernel) rfl, gw_mem 989 (by decide +kernel) rfl, gw_mem 49 (by decide +kernel) rfl, mwX10_duty, ⟨by decide, by decide, by decide +kernel⟩, by decide⟩
theorem ml_L_86 : MLv RL 86 mX9_apart 9 0 := ⟨(RX9, TX9, 8), rfl, rfl, gw_mem 732 (by decide +kernel) rfl, gw_mem 733 (by decide +kernel) rfl, gw_mem 734 (by decide +kernel) rfl, gw_mem 38 (by decide +kernel) rfl, mwX9_apart, ⟨by decide, by decide, by decide +kernel⟩, by decide⟩
theorem ml_L_89 : MLv RL 89 mX10_apart 10 0 := ⟨(RX10, TX10, 27), rfl, rfl, gw_mem 991 (by decide +kernel) rfl, gw_mem 992 (by decide +kernel) rfl, gw_mem 993 (by decide +kernel) rfl, gw_mem 49 (by decide +kernel) rfl, mwX10_apart, ⟨by decide, by decide, by decide +kernel⟩, by decide⟩
theorem ml_L_90 : MLv RL 90 mX9_saves 9 2 := ⟨(RX9, TX9, 8), rfl, rfl, gw_mem 745 (by decide +kernel) rfl, gw_mem 746 (by decide +kernel) rfl, gw_mem 747 (by decide +kernel) rfl, gw_mem 38 (by decide +kernel) rfl, mwX9_saves, ⟨by decide, by decide, by decide +kernel⟩, by decide⟩
theorem ml_L_93 : MLv RL 93 mX10_saves 10 2 := ⟨(RX10, TX10, 27), rfl, rfl, gw_mem 995 (by decide +kernel) rfl, gw_mem 996 (by decide +kernel) rfl, gw_mem 997 (by decide +kernel) rfl, gw_mem 49 (by decide +kernel) rfl, mwX10_saves, ⟨by decide, by decide, by decide +kernel⟩, by decide⟩
theorem ml_L_94 : MLv RL 94 mX9_about 9 1 := ⟨(RX9, TX9, 8), rfl, rfl, gw_mem 760 (by decide +kernel) rfl, gw_mem 761 (by decide +kernel) rfl, gw_mem 762 (by decide +kernel) rfl, gw_mem 38 (by decide +kernel) rfl, mwX9_about, ⟨by decide, by decide, by decide +kernel⟩, by decide⟩
theorem ml_L_97 : MLv RL 97 mX10_about 10 1 := ⟨(RX10, TX10, 27), rfl, rfl, gw_mem 1003 (by decide +kernel) rfl, gw_mem 1004 (by decide +kernel) rfl, gw_mem 1005 (by decide +kernel) rfl, gw_mem 49 (by decide +kernel) rfl, mwX10_about, ⟨by decide, by decide, by decide +kernel⟩, by decide⟩
section LCase
variable {p : Program} {e : Env} {s : State} {m : MethodId} {args : Array Value} {below : List Frame} {meth : Method} {c : Code} {Q : State → Prop} {A : Nat → Prop} {G : GX} {b L cells slots : Nat} {xs : Nat → Int32} {adX adM : Nat → Nat}
theorem lc_way (C : bC p s m args c A G RL code 4) {x y : St} {i : Nat} (hX : va_X b L xs s s.heap) (hbl : b < s.heap.size) (hbA : ¬ A b) (hL : L ≤ 2560) (hi : i + 5 ≤ L) (hR2 : cells ≤ room_1.cells ∧ slots ≤ room_1.slots) (hB : Bas x y) (hR : RR x y) (sx : s_ok x) (sy : s_ok y) (next : ∀ x' y' : St, Bas x' y' → RR x' y' → s_ok x' → s_ok y' → bR p e room_1 s m args below meth c Q A G 4 773 (lsL b (adX 9) (adM 0) i) [] (cs G wdM adM y' ++ cs G wdX adX x') cells slots) :
    bR p e room_1 s m args below meth c Q A G 4 124 (lsL b (adX 9) (adM 0) i) [] (cs G wdM adM y ++ cs G wdX adX x) cells slots := by
  refine b_aload (pc' := 125) (x := adX 9) C 2 dL_124 rfl rfl ?_
  refine l_arg (pc' := 130) (k := 1) C hX hbl hbA hL (by omega) rfl rfl dL_125 dL_126 dL_127 dL_128 dL_129 ?_
  refine l_arg (pc' := 135) (k := 2) C hX hbl hbA hL (by omega) rfl rfl dL_130 dL_131 dL_132 dL_133 dL_134 ?_
  refine l_arg (pc' := 140) (k := 3) C hX hbl hbA hL (by omega) rfl rfl dL_135 dL_136 dL_137 dL_138 dL_139 ?_
  refine l_arg (pc' := 145) (k := 4) C hX hbl hbA hL (by omega) rfl rfl dL_140 dL_141 dL_142 dL_143 dL_144 ?_
  refine l_call (pc' := 148) (st := []) (d := 2) C [(xs (i + 1)).toInt, (xs (i + 2)).toInt, (xs (i + 3)).toInt, (xs (i + 4)).toInt] (cs G wdM adM y) dL_145 rfl ml_L_13 (o := 9) rfl rfl rfl (by decide) (fun a ha => by
    simp only [List.mem_cons, List.not_mem_nil, or_false] at ha
    rcases ha with rfl | rfl | rfl | rfl
    all_goals first | exact i32_rng _ | exact bz_r _) sx ⟨Nat.le_of_ble_eq_true rfl, Nat.le_of_ble_eq_true rfl⟩ hR2 (p_way (d := 0) (e := 0) hB ((xs (i + 1)).toInt) ((xs (i + 2)).toInt) ((xs (i + 3)).toInt) ((xs (i + 4)).toInt)) (fun r x' hc sx' hr => ?_)
  refine b_com ?_
  refine b_aload (pc' := 149) (x := adM 0) C 1 dL_148 rfl rfl ?_
  refine l_arg (pc' := 154) (k := 1) C hX hbl hbA hL (by omega) rfl rfl dL_149 dL_150 dL_151 dL_152 dL_153 ?_
  refine l_arg (pc' := 159) (k := 2) C hX hbl hbA hL (by omega) rfl rfl dL_154 dL_155 dL_156 dL_157 dL_158 ?_
  refine l_arg (pc' := 164) (k := 3) C hX hbl hbA hL (by omega) rfl rfl dL_159 dL_160 dL_161 dL_162 dL_163 ?_
  refine l_arg (pc' := 169) (k := 4) C hX hbl hbA hL (by omega) rfl rfl dL_164 dL_165 dL_166 dL_167 dL_168 ?_
  refine l_call (pc' := 172) (st := [.int (Int32.ofInt r)]) (d := 2) C [(xs (i + 1)).toInt, (xs (i + 2)).toInt, (xs (i + 3)).toInt, (xs (i + 4)).toInt] (cs G wdX adX x') dL_169 rfl ml_L_17 (o := 0) rfl rfl rfl (Nat.le_of_ble_eq_true rfl) (fun a ha => by
    simp only [List.mem_cons, List.not_mem_nil, or_false] at ha
    rcases ha with rfl | rfl | rfl | rfl
    all_goals first | exact i32_rng _ | exact bz_r _) sy ⟨Nat.le_of_ble_eq_true rfl, Nat.le_of_ble_eq_true rfl⟩ hR2 hc (fun r' y' hq sy' hr' => ?_)
  refine b_icmp_eq (tgt := 773) C dL_172 (by decide) (by rw [hq.1]) ?_
  refine b_com ?_
  exact next x' y' hq.2.1 (hR.step hq.2.2) sx' sy'
theorem lc_relief (C : bC p s m args c A G RL code 4) {x y : St} {i : Nat} (hX : va_X b L xs s s.heap) (hbl : b < s.heap.size) (hbA : ¬ A b) (hL : L ≤ 2560) (hi : i + 5 ≤ L) (hR2 : cells ≤ room_1.cells ∧ slots ≤ room_1.slots) (hB : Bas x y) (hR : RR x y) (sx : s_ok x) (sy : s_ok y) (next : ∀ x' y' : St, Bas x' y' → RR x' y' → s_ok x' → s_ok y' → bR p e room_1 s m args below meth c Q A G 4 773 (lsL b (adX 9) (adM 0) i) [] (cs G wdM adM y' ++ cs G wdX adX x') cells slots) :
    bR p e room_1 s m args below meth c Q A G 4 177 (lsL b (adX 9) (adM 0) i) [] (cs G wdM adM y ++ cs G wdX adX x) cells slots := by
  refine b_aload (pc' := 178) (x := adX 9) C 2 dL_177 rfl rfl ?_
  refine l_arg (pc' := 183) (k := 1) C hX hbl hbA hL (by omega) rfl rfl dL_178 dL_179 dL_180 dL_181 dL_182 ?_
  refine l_arg (pc' := 188) (k := 2) C hX hbl hbA hL (by omega) rfl rfl dL_183 dL_184 dL_185 dL_186 dL_187 ?_
  refine l_bool (pc' := 196) C (i32_rng _) rfl dL_188 dL_191 dL_192 dL_195 ?_
  refine l_call (pc' := 199) (st := []) (d := 2) C [(xs (i + 1)).toInt, bz (xs (i + 2)).toInt] (cs G wdM adM y) dL_196 rfl ml_L_18 (o := 9) rfl rfl rfl (by decide) (fun a ha => by
    simp only [List.mem_cons, List.not_mem_nil, or_false] at ha
    rcases ha with rfl | rfl
    all_goals first | exact i32_rng _ | exact bz_r _) sx ⟨Nat.le_of_ble_eq_true rfl, Nat.le_of_ble_eq_true rfl⟩ hR2 (p_relief (d := 0) (e := 0) hB ((xs (i + 1)).toInt) (bz (xs (i + 2)).toInt) (bz_01 _)) (fun r x' hc sx' hr => ?_)
  refine b_com ?_
  refine b_aload (pc' := 200) (x := adM 0) C 1 dL_199 rfl rfl ?_
  refine l_arg (pc' := 205) (k := 1) C hX hbl hbA hL (by omega) rfl rfl dL_200 dL_201 dL_202 dL_203 dL_204 ?_
  refine l_arg (pc' := 210) (k := 2) C hX hbl hbA hL (by omega) rfl rfl dL_205 dL_206 dL_207 dL_208 dL_209 ?_
  refine l_bool (pc' := 218) C (i32_rng _) rfl dL_210 dL_213 dL_214 dL_217 ?_
  refine l_call (pc' := 221) (st := [.int (Int32.ofInt r)]) (d := 2) C [(xs (i + 1)).toInt, bz (xs (i + 2)).toInt] (cs G wdX adX x') dL_218 rfl ml_L_22 (o := 0) rfl rfl rfl (Nat.le_of_ble_eq_true rfl) (fun a ha => by
    simp only [List.mem_cons, List.not_mem_nil, or_false] at ha
    rcases ha with rfl | rfl
    all_goals first | exact i32_rng _ | exact bz_r _) sy ⟨Nat.le_of_ble_eq_true rfl, Nat.le_of_ble_eq_true rfl⟩ hR2 hc (fun r' y' hq sy' hr' => ?_)
  refine b_icmp_eq (tgt := 773) C dL_221 (by decide) (by rw [hq.1]) ?_
  refine b_com ?_
  exact next x' y' hq.2.1 (hR.step hq.2.2) sx' sy'
theorem lc_trip (C : bC p s m args c A G RL code 4) {x y : St} {i : Nat} (hX : va_X b L xs s s.heap) (hbl : b < s.heap.size) (hbA : ¬ A b) (hL : L ≤ 2560) (hi : i + 5 ≤ L) (hR2 : cells ≤ room_1.cells ∧ slots ≤ room_1.slots) (hB : Bas x y) (hR : RR x y) (sx : s_ok x) (sy : s_ok y) (next : ∀ x' y' : St, Bas x' y' → RR x' y' → s_ok x' → s_ok y' → bR p e room_1 s m args below meth c Q A G 4 773 (lsL b (adX 9) (adM 0) i) [] (cs G wdM adM y' ++ cs G wdX adX x') cells slots) :
    bR p e room_1 s m args below meth c Q A G 4 226 (lsL b (adX 9) (adM 0) i) [] (cs G wdM adM y ++ cs G wdX adX x) cells slots := by
  refine b_aload (pc' := 227) (x := adX 9) C 2 dL_226 rfl rfl ?_
  refine l_arg (pc' := 232) (k := 1) C hX hbl hbA hL (by omega) rfl rfl dL_227 dL_228 dL_229 dL_230 dL_231 ?_
  refine l_arg (pc' := 237) (k := 2) C hX hbl hbA hL (by omega) rfl rfl dL_232 dL_233 dL_234 dL_235 dL_236 ?_
  refine l_arg (pc' := 242) (k := 3) C hX hbl hbA hL (by omega) rfl rfl dL_237 dL_238 dL_239 dL_240 dL_241 ?_
  refine l_arg (pc' := 247) (k := 4) C hX hbl hbA hL (by omega) rfl rfl dL_242 dL_243 dL_244 dL_245 dL_246 ?_
  refine l_call (pc' := 250) (st := []) (d := 2) C [(xs (i + 1)).toInt, (xs (i + 2)).toInt, (xs (i + 3)).toInt, (xs (i + 4)).toInt] (cs G wdM adM y) dL_247 rfl ml_L_23 (o := 9) rfl rfl rfl (by decide) (fun a ha => by
    simp only [List.mem_cons, List.not_mem_nil, or_false] at ha
    rcases ha with rfl | rfl | rfl | rfl
    all_goals first | exact i32_rng _ | exact bz_r _) sx ⟨Nat.le_of_ble_eq_true rfl, Nat.le_of_ble_eq_true rfl⟩ hR2 (p_trip (d := 0) (e := 0) hB ((xs (i + 1)).toInt) ((xs (i + 2)).toInt) ((xs (i + 3)).toInt) ((xs (i + 4)).toInt)) (fun r x' hc sx' hr => ?_)
  refine b_com ?_
  refine b_aload (pc' := 251) (x := adM 0) C 1 dL_250 rfl rfl ?_
  refine l_arg (pc' := 256) (k := 1) C hX hbl hbA hL (by omega) rfl rfl dL_251 dL_252 dL_253 dL_254 dL_255 ?_
  refine l_arg (pc' := 261) (k := 2) C hX hbl hbA hL (by omega) rfl rfl dL_256 dL_257 dL_258 dL_259 dL_260 ?_
  refine l_arg (pc' := 266) (k := 3) C hX hbl hbA hL (by omega) rfl rfl dL_261 dL_262 dL_263 dL_264 dL_265 ?_
  refine l_arg (pc' := 271) (k := 4) C hX hbl hbA hL (by omega) rfl rfl dL_266 dL_267 dL_268 dL_269 dL_270 ?_
  refine l_call (pc' := 274) (st := [.int (Int32.ofInt r)]) (d := 2) C [(xs (i + 1)).toInt, (xs (i + 2)).toInt, (xs (i + 3)).toInt, (xs (i + 4)).toInt] (cs G wdX adX x') dL_271 rfl ml_L_27 (o := 0) rfl rfl rfl (Nat.le_of_ble_eq_true rfl) (fun a ha => by
    simp only [List.mem_cons, List.not_mem_nil, or_false] at ha
    rcases ha with rfl | rfl | rfl | rfl
    all_goals first | exact i32_rng _ | exact bz_r _) sy ⟨Nat.le_of_ble_eq_true rfl, Nat.le_of_ble_eq_true rfl⟩ hR2 hc (fun r' y' hq sy' hr' => ?_)
  refine b_icmp_eq (tgt := 773) C dL_274 (by decide) (by rw [hq.1]) ?_
  refine b_com ?_
  exact next x' y' hq.2.1 (hR.step hq.2.2) sx' sy'
theorem lc_drop (C : bC p s m args c A G RL code 4) {x y : St} {i : Nat} (hX : va_X b L xs s s.heap) (hbl : b < s.heap.size) (hbA : ¬ A b) (hL : L ≤ 2560) (hi : i + 5 ≤ L) (hR2 : cells ≤ room_1.cells ∧ slots ≤ room_1.slots) (hB : Bas x y) (hR : RR x y) (sx : s_ok x) (sy : s_ok y) (next : ∀ x' y' : St, Bas x' y' → RR x' y' → s_ok x' → s_ok y' → bR p e room_1 s m args below meth c Q A G 4 773 (lsL b (adX 9) (adM 0) i) [] (cs G wdM adM y' ++ cs G wdX adX x') cells slots) :
    bR p e room_1 s m args below meth c Q A G 4 279 (lsL b (adX 9) (adM 0) i) [] (cs G wdM adM y ++ cs G wdX adX x) cells slots := by
  refine b_aload (pc' := 280) (x := adX 9) C 2 dL_279 rfl rfl ?_
  refine l_arg (pc' := 285) (k := 1) C hX hbl hbA hL (by omega) rfl rfl dL_280 dL_281 dL_282 dL_283 dL_284 ?_
  refine l_call (pc' := 288) (st := []) (d := 2) C [(xs (i + 1)).toInt] (cs G wdM adM y) dL_285 rfl ml_L_28 (o := 9) rfl rfl rfl (by decide) (fun a ha => by
    simp only [List.mem_cons, List.not_mem_nil, or_false] at ha
    rw [ha]
    first | exact i32_rng _ | exact bz_r _) sx ⟨Nat.le_of_ble_eq_true rfl, Nat.le_of_ble_eq_true rfl⟩ hR2 (p_drop (d := 0) (e := 0) hB ((xs (i + 1)).toInt)) (fun r x' hc sx' hr => ?_)
  refine b_com ?_
  refine b_aload (pc' := 289) (x := adM 0) C 1 dL_288 rfl rfl ?_
  refine l_arg (pc' := 294) (k := 1) C hX hbl hbA hL (by omega) rfl rfl dL_289 dL_290 dL_291 dL_292 dL_293 ?_
  refine l_call (pc' := 297) (st := [.int (Int32.ofInt r)]) (d := 2) C [(xs (i + 1)).toInt] (cs G wdX adX x') dL_294 rfl ml_L_32 (o := 0) rfl rfl rfl (Nat.le_of_ble_eq_true rfl) (fun a ha => by
    simp only [List.mem_cons, List.not_mem_nil, or_false] at ha
    rw [ha]
    first | exact i32_rng _ | exact bz_r _) sy ⟨Nat.le_of_ble_eq_true rfl, Nat.le_of_ble_eq_true rfl⟩ hR2 hc (fun r' y' hq sy' hr' => ?_)
  refine b_icmp_eq (tgt := 773) C dL_297 (by decide) (by rw [hq.1]) ?_
  refine b_com ?_
  exact next x' y' hq.2.1 (hR.step hq.2.2) sx' sy'
theorem lc_move (C : bC p s m args c A G RL code 4) {x y : St} {i : Nat} (hX : va_X b L xs s s.heap) (hbl : b < s.heap.size) (hbA : ¬ A b) (hL : L ≤ 2560) (hi : i + 5 ≤ L) (hR2 : cells ≤ room_1.cells ∧ slots ≤ room_1.slots) (hB : Bas x y) (hR : RR x y) (sx : s_ok x) (sy : s_ok y) (next : ∀ x' y' : St, Bas x' y' → RR x' y' → s_ok x' → s_ok y' → bR p e room_1 s m args below meth c Q A G 4 773 (lsL b (adX 9) (adM 0) i) [] (cs G wdM adM y' ++ cs G wdX adX x') cells slots) :
    bR p e room_1 s m args below meth c Q A G 4 302 (lsL b (adX 9) (adM 0) i) [] (cs G wdM adM y ++ cs G wdX adX x) cells slots := by
  refine b_aload (pc' := 303) (x := adX 9) C 2 dL_302 rfl rfl ?_
  refine l_arg (pc' := 308) (k := 1) C hX hbl hbA hL (by omega) rfl rfl dL_303 dL_304 dL_305 dL_306 dL_307 ?_
  refine l_arg (pc' := 313) (k := 2) C hX hbl hbA hL (by omega) rfl rfl dL_308 dL_309 dL_310 dL_311 dL_312 ?_
  refine l_call (pc' := 316) (st := []) (d := 3) C [(xs (i + 1)).toInt, (xs (i + 2)).toInt] (cs G wdM adM y) dL_313 rfl ml_L_33 (o := 9) rfl rfl rfl (by decide) (fun a ha => by
    simp only [List.mem_cons, List.not_mem_nil, or_false] at ha
    rcases ha with rfl | rfl
    all_goals first | exact i32_rng _ | exact bz_r _) sx ⟨Nat.le_of_ble_eq_true rfl, Nat.le_of_ble_eq_true rfl⟩ hR2 (p_move (d := 0) (e := 0) hB ((xs (i + 1)).toInt) ((xs (i + 2)).toInt)) (fun r x' hc sx' hr => ?_)
  refine b_com ?_
  refine b_aload (pc' := 317) (x := adM 0) C 1 dL_316 rfl rfl ?_
  refine l_arg (pc' := 322) (k := 1) C hX hbl hbA hL (by omega) rfl rfl dL_317 dL_318 dL_319 dL_320 dL_321 ?_
  refine l_arg (pc' := 327) (k := 2) C hX hbl hbA hL (by omega) rfl rfl dL_322 dL_323 dL_324 dL_325 dL_326 ?_
  refine l_call (pc' := 330) (st := [.int (Int32.ofInt r)]) (d := 3) C [(xs (i + 1)).toInt, (xs (i + 2)).toInt] (cs G wdX adX x') dL_327 rfl ml_L_37 (o := 0) rfl rfl rfl (Nat.le_of_ble_eq_true rfl) (fun a ha => by
    simp only [List.mem_cons, List.not_mem_nil, or_false] at ha
    rcases ha with rfl | rfl
    all_goals first | exact i32_rng _ | exact bz_r _) sy ⟨Nat.le_of_ble_eq_true rfl, Nat.le_of_ble_eq_true rfl⟩ hR2 hc (fun r' y' hq sy' hr' => ?_)
  refine b_icmp_eq (tgt := 773) C dL_330 (by decide) (by rw [hq.1]) ?_
  refine b_com ?_
  exact next x' y' hq.2.1 (hR.step hq.2.2) sx' sy'
theorem lc_laws (C : bC p s m args c A G RL code 4) {x y : St} {i : Nat} (hX : va_X b L xs s s.heap) (hbl : b < s.heap.size) (hbA : ¬ A b) (hL : L ≤ 2560) (hi : i + 5 ≤ L) (hR2 : cells ≤ room_1.cells ∧ slots ≤ room_1.slots) (hB : Bas x y) (hR : RR x y) (sx : s_ok x) (sy : s_ok y) (next : ∀ x' y' : St, Bas x' y' → RR x' y' → s_ok x' → s_ok y' → bR p e room_1 s m args below meth c Q A G 4 773 (lsL b (adX 9) (adM 0) i) [] (cs G wdM adM y' ++ cs G wdX adX x') cells slots) :
    bR p e room_1 s m args below meth c Q A G 4 335 (lsL b (adX 9) (adM 0) i) [] (cs G wdM adM y ++ cs G wdX adX x) cells slots := by
  refine b_aload (pc' := 336) (x := adX 9) C 2 dL_335 rfl rfl ?_
  refine l_arg (pc' := 341) (k := 1) C hX hbl hbA hL (by omega) rfl rfl dL_336 dL_337 dL_338 dL_339 dL_340 ?_
  refine l_arg (pc' := 346) (k := 2) C hX hbl hbA hL (by omega) rfl rfl dL_341 dL_342 dL_343 dL_344 dL_345 ?_
  refine l_arg (pc' := 351) (k := 3) C hX hbl hbA hL (by omega) rfl rfl dL_346 dL_347 dL_348 dL_349 dL_350 ?_
  refine l_arg (pc' := 356) (k := 4) C hX hbl hbA hL (by omega) rfl rfl dL_351 dL_352 dL_353 dL_354 dL_355 ?_
  refine l_bool (pc' := 364) C (i32_rng _) rfl dL_356 dL_359 dL_360 dL_363 ?_
  refine l_call (pc' := 367) (st := []) (d := 2) C [(xs (i + 1)).toInt, (xs (i + 2)).toInt, (xs (i + 3)).toInt, bz (xs (i + 4)).toInt] (cs G wdM adM y) dL_364 rfl ml_L_38 (o := 9) rfl rfl rfl (by decide) (fun a ha => by
    simp only [List.mem_cons, List.not_mem_nil, or_false] at ha
    rcases ha with rfl | rfl | rfl | rfl
    all_goals first | exact i32_rng _ | exact bz_r _) sx ⟨Nat.le_of_ble_eq_true rfl, Nat.le_of_ble_eq_true rfl⟩ hR2 (p_laws (d := 0) (e := 0) hB ((xs (i + 1)).toInt) ((xs (i + 2)).toInt) ((xs (i + 3)).toInt) (bz (xs (i + 4)).toInt) (bz_01 _)) (fun r x' hc sx' hr => ?_)
  refine b_com ?_
  refine b_aload (pc' := 368) (x := adM 0) C 1 dL_367 rfl rfl ?_
  refine l_arg (pc' := 373) (k := 1) C hX hbl hbA hL (by omega) rfl rfl dL_368 dL_369 dL_370 dL_371 dL_372 ?_
  refine l_arg (pc' := 378) (k := 2) C hX hbl hbA hL (by omega) rfl rfl dL_373 dL_374 dL_375 dL_376 dL_377 ?_
  refine l_arg (pc' := 383) (k := 3) C hX hbl hbA hL (by omega) rfl rfl dL_378 dL_379 dL_380 dL_381 dL_382 ?_
  refine l_arg (pc' := 388) (k := 4) C hX hbl hbA hL (by omega) rfl rfl dL_383 dL_384 dL_385 dL_386 dL_387 ?_
  refine l_bool (pc' := 396) C (i32_rng _) rfl dL_388 dL_391 dL_392 dL_395 ?_
  refine l_call (pc' := 399) (st := [.int (Int32.ofInt r)]) (d := 1) C [(xs (i + 1)).toInt, (xs (i + 2)).toInt, (xs (i + 3)).toInt, bz (xs (i + 4)).toInt] (cs G wdX adX x') dL_396 rfl ml_L_42 (o := 0) rfl rfl rfl (Nat.le_of_ble_eq_true rfl) (fun a ha => by
    simp only [List.mem_cons, List.not_mem_nil, or_false] at ha
    rcases ha with rfl | rfl | rfl | rfl
    all_goals first | exact i32_rng _ | exact bz_r _) sy ⟨Nat.le_of_ble_eq_true rfl, Nat.le_of_ble_eq_true rfl⟩ hR2 hc (fun r' y' hq sy' hr' => ?_)
  refine b_icmp_eq (tgt := 773) C dL_399 (by decide) (by rw [hq.1]) ?_
  refine b_com ?_
  exact next x' y' hq.2.1 (hR.step hq.2.2) sx' sy'
theorem lc_tripOf (C : bC p s m args c A G RL code 4) {x y : St} {i : Nat} (hX : va_X b L xs s s.heap) (hbl : b < s.heap.size) (hbA : ¬ A b) (hL : L ≤ 2560) (hi : i + 5 ≤ L) (hR2 : cells ≤ room_1.cells ∧ slots ≤ room_1.slots) (hB : Bas x y) (hR : RR x y) (sx : s_ok x) (sy : s_ok y) (next : ∀ x' y' : St, Bas x' y' → RR x' y' → s_ok x' → s_ok y' → bR p e room_1 s m args below meth c Q A G 4 773 (lsL b (adX 9) (adM 0) i) [] (cs G wdM adM y' ++ cs G wdX adX x') cells slots) :
    bR p e room_1 s m args below meth c Q A G 4 404 (lsL b (adX 9) (adM 0) i) [] (cs G wdM adM y ++ cs G wdX adX x) cells slots := by
  refine b_aload (pc' := 405) (x := adX 9) C 2 dL_404 rfl rfl ?_
  refine l_arg (pc' := 410) (k := 1) C hX hbl hbA hL (by omega) rfl rfl dL_405 dL_406 dL_407 dL_408 dL_409 ?_
  refine l_arg (pc' := 415) (k := 2) C hX hbl hbA hL (by omega) rfl rfl dL_410 dL_411 dL_412 dL_413 dL_414 ?_
  refine l_call (pc' := 418) (st := []) (d := 1) C [(xs (i + 1)).toInt, (xs (i + 2)).toInt] (cs G wdM adM y) dL_415 rfl ml_L_43 (o := 9) rfl rfl rfl (by decide) (fun a ha => by
    simp only [List.mem_cons, List.not_mem_nil, or_false] at ha
    rcases ha with rfl | rfl
    all_goals first | exact i32_rng _ | exact bz_r _) sx ⟨Nat.le_of_ble_eq_true rfl, Nat.le_of_ble_eq_true rfl⟩ hR2 (p_tripOf (d := 0) (e := 0) hB ((xs (i + 1)).toInt) ((xs (i + 2)).toInt)) (fun r x' hc sx' hr => ?_)
  refine b_com ?_
  refine b_aload (pc' := 419) (x := adM 0) C 1 dL_418 rfl rfl ?_
  refine l_arg (pc' := 424) (k := 1) C hX hbl hbA hL (by omega) rfl rfl dL_419 dL_420 dL_421 dL_422 dL_423 ?_
  refine l_arg (pc' := 429) (k := 2) C hX hbl hbA hL (by omega) rfl rfl dL_424 dL_425 dL_426 dL_427 dL_428 ?_
  refine l_call (pc' := 432) (st := [.int (Int32.ofInt r)]) (d := 2) C [(xs (i + 1)).toInt, (xs (i + 2)).toInt] (cs G wdX adX x') dL_429 rfl ml_L_47 (o := 0) rfl rfl rfl (Nat.le_of_ble_eq_true rfl) (fun a ha => by
    simp only [List.mem_cons, List.not_mem_nil, or_false] at ha
    rcases ha with rfl | rfl
    all_goals first | exact i32_rng _ | exact bz_r _) sy ⟨Nat.le_of_ble_eq_true rfl, Nat.le_of_ble_eq_true rfl⟩ hR2 hc (fun r' y' hq sy' hr' => ?_)
  refine b_icmp_eq (tgt := 773) C dL_432 (by decide) (by rw [hq.1]) ?_
  refine b_com ?_
  exact next x' y' hq.2.1 (hR.step hq.2.2) sx' sy'
theorem lc_may (C : bC p s m args c A G RL code 4) {x y : St} {i : Nat} (hX : va_X b L xs s s.heap) (hbl : b < s.heap.size) (hbA : ¬ A b) (hL : L ≤ 2560) (hi : i + 5 ≤ L) (hR2 : cells ≤ room_1.cells ∧ slots ≤ room_1.slots) (hB : Bas x y) (hR : RR x y) (sx : s_ok x) (sy : s_ok y) (next : ∀ x' y' : St, Bas x' y' → RR x' y' → s_ok x' → s_ok y' → bR p e room_1 s m args below meth c Q A G 4 773 (lsL b (adX 9) (adM 0) i) [] (cs G wdM adM y' ++ cs G wdX adX x') cells slots) :
    bR p e room_1 s m args below meth c Q A G 4 437 (lsL b (adX 9) (adM 0) i) [] (cs G wdM adM y ++ cs G wdX adX x) cells slots := by
  refine b_aload (pc' := 438) (x := adX 9) C 2 dL_437 rfl rfl ?_
  refine l_arg (pc' := 443) (k := 1) C hX hbl hbA hL (by omega) rfl rfl dL_438 dL_439 dL_440 dL_441 dL_442 ?_
  refine l_arg (pc' := 448) (k := 2) C hX hbl hbA hL (by omega) rfl rfl dL_443 dL_444 dL_445 dL_446 dL_447 ?_
  refine l_call (pc' := 451) (st := []) (d := 3) C [(xs (i + 1)).toInt, (xs (i + 2)).toInt] (cs G wdM adM y) dL_448 rfl ml_L_48 (o := 9) rfl rfl rfl (by decide) (fun a ha => by
    simp only [List.mem_cons, List.not_mem_nil, or_false] at ha
    rcases ha with rfl | rfl
    all_goals first | exact i32_rng _ | exact bz_r _) sx ⟨Nat.le_of_ble_eq_true rfl, Nat.le_of_ble_eq_true rfl⟩ hR2 (p_may (d := 0) (e := 0) hB ((xs (i + 1)).toInt) ((xs (i + 2)).toInt)) (fun r x' hc sx' hr => ?_)
  refine b_com ?_
  refine b_aload (pc' := 452) (x := adM 0) C 1 dL_451 rfl rfl ?_
  refine l_arg (pc' := 457) (k := 1) C hX hbl hbA hL (by omega) rfl rfl dL_452 dL_453 dL_454 dL_455 dL_456 ?_
  refine l_arg (pc' := 462) (k := 2) C hX hbl hbA hL (by omega) rfl rfl dL_457 dL_458 dL_459 dL_460 dL_461 ?_
  refine l_call (pc' := 465) (st := [.int (Int32.ofInt r)]) (d := 2) C [(xs (i + 1)).toInt, (xs (i + 2)).toInt] (cs G wdX adX x') dL_462 rfl ml_L_51 (o := 0) rfl rfl rfl (Nat.le_of_ble_eq_true rfl) (fun a ha => by
    simp only [List.mem_cons, List.not_mem_nil, or_false] at ha
    rcases ha with rfl | rfl
    all_goals first | exact i32_rng _ | exact bz_r _) sy ⟨Nat.le_of_ble_eq_true rfl, Nat.le_of_ble_eq_true rfl⟩ hR2 hc (fun r' y' hq sy' hr' => ?_)
  refine b_icmp_eq (tgt := 773) C dL_465 (by decide) (by rw [hq.1]) ?_
  refine b_com ?_
  exact next x' y' hq.2.1 (hR.step hq.2.2) sx' sy'
theorem lc_goesOn (C : bC p s m args c A G RL code 4) {x y : St} {i : Nat} (hX : va_X b L xs s s.heap) (hbl : b < s.heap.size) (hbA : ¬ A b) (hL : L ≤ 2560) (hi : i + 5 ≤ L) (hR2 : cells ≤ room_1.cells ∧ slots ≤ room_1.slots) (hB : Bas x y) (hR : RR x y) (sx : s_ok x) (sy : s_ok y) (next : ∀ x' y' : St, Bas x' y' → RR x' y' → s_ok x' → s_ok y' → bR p e room_1 s m args below meth c Q A G 4 773 (lsL b (adX 9) (adM 0) i) [] (cs G wdM adM y' ++ cs G wdX adX x') cells slots) :
    bR p e room_1 s m args below meth c Q A G 4 470 (lsL b (adX 9) (adM 0) i) [] (cs G wdM adM y ++ cs G wdX adX x) cells slots := by
  refine b_aload (pc' := 471) (x := adX 9) C 2 dL_470 rfl rfl ?_
  refine l_call (pc' := 474) (st := []) (d := 23) C [] (cs G wdM adM y) dL_471 rfl ml_L_52 (o := 9) rfl rfl rfl (by decide) (fun a ha => by cases ha) sx ⟨Nat.le_of_ble_eq_true rfl, Nat.le_of_ble_eq_true rfl⟩ hR2 (p_goesOn (d := 0) (e := 0) hB ) (fun r x' hc sx' hr => ?_)
  refine b_com ?_
  refine b_aload (pc' := 475) (x := adM 0) C 1 dL_474 rfl rfl ?_
  refine l_call (pc' := 478) (st := [.int (Int32.ofInt r)]) (d := 1) C [] (cs G wdX adX x') dL_475 rfl ml_L_56 (o := 0) rfl rfl rfl (Nat.le_of_ble_eq_true rfl) (fun a ha => by cases ha) sy ⟨Nat.le_of_ble_eq_true rfl, Nat.le_of_ble_eq_true rfl⟩ hR2 hc (fun r' y' hq sy' hr' => ?_)
  refine b_icmp_eq (tgt := 773) C dL_478 (by decide) (by rw [hq.1]) ?_
  refine b_com ?_
  exact next x' y' hq.2.1 (hR.step hq.2.2) sx' sy'
theorem lc_plan (C : bC p s m args c A G RL code 4) {x y : St} {i : Nat} (hX : va_X b L xs s s.heap) (hbl : b < s.heap.size) (hbA : ¬ A b) (hL : L ≤ 2560) (hi : i + 5 ≤ L) (hR2 : cells ≤ room_1.cells ∧ slots ≤ room_1.slots) (hB : Bas x y) (hR : RR x y) (sx : s_ok x) (sy : s_ok y) (next : ∀ x' y' : St, Bas x' y' → RR x' y' → s_ok x' → s_ok y' → bR p e room_1 s m args below meth c Q A G 4 773 (lsL b (adX 9) (adM 0) i) [] (cs G wdM adM y' ++ cs G wdX adX x') cells slots) :
    bR p e room_1 s m args below meth c Q A G 4 483 (lsL b (adX 9) (adM 0) i) [] (cs G wdM adM y ++ cs G wdX adX x) cells slots := by
  refine b_aload (pc' := 484) (x := adX 9) C 2 dL_483 rfl rfl ?_
  refine l_arg (pc' := 489) (k := 1) C hX hbl hbA hL (by omega) rfl rfl dL_484 dL_485 dL_486 dL_487 dL_488 ?_
  refine l_call (pc' := 492) (st := []) (d := 23) C [(xs (i + 1)).toInt] (cs G wdM adM y) dL_489 rfl ml_L_57 (o := 9) rfl rfl rfl (by decide) (fun a ha => by
    simp only [List.mem_cons, List.not_mem_nil, or_false] at ha
    rw [ha]
    first | exact i32_rng _ | exact bz_r _) sx ⟨Nat.le_of_ble_eq_true rfl, Nat.le_of_ble_eq_true rfl⟩ hR2 (p_plan (d := 0) (e := 0) hB ((xs (i + 1)).toInt)) (fun r x' hc sx' hr => ?_)
  refine b_com ?_
  refine b_aload (pc' := 493) (x := adM 0) C 1 dL_492 rfl rfl ?_
  refine l_arg (pc' := 498) (k := 1) C hX hbl hbA hL (by omega) rfl rfl dL_493 dL_494 dL_495 dL_496 dL_497 ?_
  refine l_call (pc' := 501) (st := [.int (Int32.ofInt r)]) (d := 3) C [(xs (i + 1)).toInt] (cs G wdX adX x') dL_498 rfl ml_L_61 (o := 0) rfl rfl rfl (Nat.le_of_ble_eq_true rfl) (fun a ha => by
    simp only [List.mem_cons, List.not_mem_nil, or_false] at ha
    rw [ha]
    first | exact i32_rng _ | exact bz_r _) sy ⟨Nat.le_of_ble_eq_true rfl, Nat.le_of_ble_eq_true rfl⟩ hR2 hc (fun r' y' hq sy' hr' => ?_)
  refine b_icmp_eq (tgt := 773) C dL_501 (by decide) (by rw [hq.1]) ?_
  refine b_com ?_
  exact next x' y' hq.2.1 (hR.step hq.2.2) sx' sy'
theorem lc_block (C : bC p s m args c A G RL code 4) {x y : St} {i : Nat} (hX : va_X b L xs s s.heap) (hbl : b < s.heap.size) (hbA : ¬ A b) (hL : L ≤ 2560) (hi : i + 5 ≤ L) (hR2 : cells ≤ room_1.cells ∧ slots ≤ room_1.slots) (hB : Bas x y) (hR : RR x y) (sx : s_ok x) (sy : s_ok y) (next : ∀ x' y' : St, Bas x' y' → RR x' y' → s_ok x' → s_ok y' → bR p e room_1 s m args below meth c Q A G 4 773 (lsL b (adX 9) (adM 0) i) [] (cs G wdM adM y' ++ cs G wdX adX x') cells slots) :
    bR p e room_1 s m args below meth c Q A G 4 506 (lsL b (adX 9) (adM 0) i) [] (cs G wdM adM y ++ cs G wdX adX x) cells slots := by
  refine b_aload (pc' := 507) (x := adX 9) C 2 dL_506 rfl rfl ?_
  refine l_arg (pc' := 512) (k := 1) C hX hbl hbA hL (by omega) rfl rfl dL_507 dL_508 dL_509 dL_510 dL_511 ?_
  refine l_arg (pc' := 517) (k := 2) C hX hbl hbA hL (by omega) rfl rfl dL_512 dL_513 dL_514 dL_515 dL_516 ?_
  refine l_call (pc' := 520) (st := []) (d := 23) C [(xs (i + 1)).toInt, (xs (i + 2)).toInt] (cs G wdM adM y) dL_517 rfl ml_L_62 (o := 9) rfl rfl rfl (by decide) (fun a ha => by
    simp only [List.mem_cons, List.not_mem_nil, or_false] at ha
    rcases ha with rfl | rfl
    all_goals first | exact i32_rng _ | exact bz_r _) sx ⟨Nat.le_of_ble_eq_true rfl, Nat.le_of_ble_eq_true rfl⟩ hR2 (p_block (d := 0) (e := 0) hB ((xs (i + 1)).toInt) ((xs (i + 2)).toInt) (i32_rng _)) (fun r x' hc sx' hr => ?_)
  refine b_com ?_
  refine b_aload (pc' := 521) (x := adM 0) C 1 dL_520 rfl rfl ?_
  refine l_arg (pc' := 526) (k := 1) C hX hbl hbA hL (by omega) rfl rfl dL_521 dL_522 dL_523 dL_524 dL_525 ?_
  refine l_arg (pc' := 531) (k := 2) C hX hbl hbA hL (by omega) rfl rfl dL_526 dL_527 dL_528 dL_529 dL_530 ?_
  refine l_call (pc' := 534) (st := [.int (Int32.ofInt r)]) (d := 3) C [(xs (i + 1)).toInt, (xs (i + 2)).toInt] (cs G wdX adX x') dL_531 rfl ml_L_65 (o := 0) rfl rfl rfl (Nat.le_of_ble_eq_true rfl) (fun a ha => by
    simp only [List.mem_cons, List.not_mem_nil, or_false] at ha
    rcases ha with rfl | rfl
    all_goals first | exact i32_rng _ | exact bz_r _) sy ⟨Nat.le_of_ble_eq_true rfl, Nat.le_of_ble_eq_true rfl⟩ hR2 hc (fun r' y' hq sy' hr' => ?_)
  refine b_icmp_eq (tgt := 773) C dL_534 (by decide) (by rw [hq.1]) ?_
  refine b_com ?_
  exact next x' y' hq.2.1 (hR.step hq.2.2) sx' sy'
theorem lc_planned (C : bC p s m args c A G RL code 4) {x y : St} {i : Nat} (hX : va_X b L xs s s.heap) (hbl : b < s.heap.size) (hbA : ¬ A b) (hL : L ≤ 2560) (hi : i + 5 ≤ L) (hR2 : cells ≤ room_1.cells ∧ slots ≤ room_1.slots) (hB : Bas x y) (hR : RR x y) (sx : s_ok x) (sy : s_ok y) (next : ∀ x' y' : St, Bas x' y' → RR x' y' → s_ok x' → s_ok y' → bR p e room_1 s m args below meth c Q A G 4 773 (lsL b (adX 9) (adM 0) i) [] (cs G wdM adM y' ++ cs G wdX adX x') cells slots) :
    bR p e room_1 s m args below meth c Q A G 4 539 (lsL b (adX 9) (adM 0) i) [] (cs G wdM adM y ++ cs G wdX adX x) cells slots := by
  refine b_aload (pc' := 540) (x := adX 9) C 2 dL_539 rfl rfl ?_
  refine l_arg (pc' := 545) (k := 1) C hX hbl hbA hL (by omega) rfl rfl dL_540 dL_541 dL_542 dL_543 dL_544 ?_
  refine l_arg (pc' := 550) (k := 2) C hX hbl hbA hL (by omega) rfl rfl dL_545 dL_546 dL_547 dL_548 dL_549 ?_
  refine l_call (pc' := 553) (st := []) (d := 23) C [(xs (i + 1)).toInt, (xs (i + 2)).toInt] (cs G wdM adM y) dL_550 rfl ml_L_66 (o := 9) rfl rfl rfl (by decide) (fun a ha => by
    simp only [List.mem_cons, List.not_mem_nil, or_false] at ha
    rcases ha with rfl | rfl
    all_goals first | exact i32_rng _ | exact bz_r _) sx ⟨Nat.le_of_ble_eq_true rfl, Nat.le_of_ble_eq_true rfl⟩ hR2 (p_planned (d := 0) (e := 0) hB ((xs (i + 1)).toInt) ((xs (i + 2)).toInt)) (fun r x' hc sx' hr => ?_)
  refine b_com ?_
  refine b_aload (pc' := 554) (x := adM 0) C 1 dL_553 rfl rfl ?_
  refine l_arg (pc' := 559) (k := 1) C hX hbl hbA hL (by omega) rfl rfl dL_554 dL_555 dL_556 dL_557 dL_558 ?_
  refine l_arg (pc' := 564) (k := 2) C hX hbl hbA hL (by omega) rfl rfl dL_559 dL_560 dL_561 dL_562 dL_563 ?_
  refine l_call (pc' := 567) (st := [.int (Int32.ofInt r)]) (d := 3) C [(xs (i + 1)).toInt, (xs (i + 2)).toInt] (cs G wdX adX x') dL_564 rfl ml_L_69 (o := 0) rfl rfl rfl (Nat.le_of_ble_eq_true rfl) (fun a ha => by
    simp only [List.mem_cons, List.not_mem_nil, or_false] at ha
    rcases ha with rfl | rfl
    all_goals first | exact i32_rng _ | exact bz_r _) sy ⟨Nat.le_of_ble_eq_true rfl, Nat.le_of_ble_eq_true rfl⟩ hR2 hc (fun r' y' hq sy' hr' => ?_)
  refine b_icmp_eq (tgt := 773) C dL_567 (by decide) (by rw [hq.1]) ?_
  refine b_com ?_
  exact next x' y' hq.2.1 (hR.step hq.2.2) sx' sy'
theorem lc_segment (C : bC p s m args c A G RL code 4) {x y : St} {i : Nat} (hX : va_X b L xs s s.heap) (hbl : b < s.heap.size) (hbA : ¬ A b) (hL : L ≤ 2560) (hi : i + 5 ≤ L) (hR2 : cells ≤ room_1.cells ∧ slots ≤ room_1.slots) (hB : Bas x y) (hR : RR x y) (sx : s_ok x) (sy : s_ok y) (next : ∀ x' y' : St, Bas x' y' → RR x' y' → s_ok x' → s_ok y' → bR p e room_1 s m args below meth c Q A G 4 773 (lsL b (adX 9) (adM 0) i) [] (cs G wdM adM y' ++ cs G wdX adX x') cells slots) :
    bR p e room_1 s m args below meth c Q A G 4 572 (lsL b (adX 9) (adM 0) i) [] (cs G wdM adM y ++ cs G wdX adX x) cells slots := by
  refine b_aload (pc' := 573) (x := adX 9) C 2 dL_572 rfl rfl ?_
  refine l_arg (pc' := 578) (k := 1) C hX hbl hbA hL (by omega) rfl rfl dL_573 dL_574 dL_575 dL_576 dL_577 ?_
  refine l_arg (pc' := 583) (k := 2) C hX hbl hbA hL (by omega) rfl rfl dL_578 dL_579 dL_580 dL_581 dL_582 ?_
  refine l_call (pc' := 586) (st := []) (d := 23) C [(xs (i + 1)).toInt, (xs (i + 2)).toInt] (cs G wdM adM y) dL_583 rfl ml_L_70 (o := 9) rfl rfl rfl (by decide) (fun a ha => by
    simp only [List.mem_cons, List.not_mem_nil, or_false] at ha
    rcases ha with rfl | rfl
    all_goals first | exact i32_rng _ | exact bz_r _) sx ⟨Nat.le_of_ble_eq_true rfl, Nat.le_of_ble_eq_true rfl⟩ hR2 (p_segment (d := 0) (e := 0) hB ((xs (i + 1)).toInt) ((xs (i + 2)).toInt)) (fun r x' hc sx' hr => ?_)
  refine b_com ?_
  refine b_aload (pc' := 587) (x := adM 0) C 1 dL_586 rfl rfl ?_
  refine l_arg (pc' := 592) (k := 1) C hX hbl hbA hL (by omega) rfl rfl dL_587 dL_588 dL_589 dL_590 dL_591 ?_
  refine l_arg (pc' := 597) (k := 2) C hX hbl hbA hL (by omega) rfl rfl dL_592 dL_593 dL_594 dL_595 dL_596 ?_
  refine l_call (pc' := 600) (st := [.int (Int32.ofInt r)]) (d := 3) C [(xs (i + 1)).toInt, (xs (i + 2)).toInt] (cs G wdX adX x') dL_597 rfl ml_L_73 (o := 0) rfl rfl rfl (Nat.le_of_ble_eq_true rfl) (fun a ha => by
    simp only [List.mem_cons, List.not_mem_nil, or_false] at ha
    rcases ha with rfl | rfl
    all_goals first | exact i32_rng _ | exact bz_r _) sy ⟨Nat.le_of_ble_eq_true rfl, Nat.le_of_ble_eq_true rfl⟩ hR2 hc (fun r' y' hq sy' hr' => ?_)
  refine b_icmp_eq (tgt := 773) C dL_600 (by decide) (by rw [hq.1]) ?_
  refine b_com ?_
  exact next x' y' hq.2.1 (hR.step hq.2.2) sx' sy'
theorem lc_clash (C : bC p s m args c A G RL code 4) {x y : St} {i : Nat} (hX : va_X b L xs s s.heap) (hbl : b < s.heap.size) (hbA : ¬ A b) (hL : L ≤ 2560) (hi : i + 5 ≤ L) (hR2 : cells ≤ room_1.cells ∧ slots ≤ room_1.slots) (hB : Bas x y) (hR : RR x y) (sx : s_ok x) (sy : s_ok y) (next : ∀ x' y' : St, Bas x' y' → RR x' y' → s_ok x' → s_ok y' → bR p e room_1 s m args below meth c Q A G 4 773 (lsL b (adX 9) (adM 0) i) [] (cs G wdM adM y' ++ cs G wdX adX x') cells slots) :
    bR p e room_1 s m args below meth c Q A G 4 605 (lsL b (adX 9) (adM 0) i) [] (cs G wdM adM y ++ cs G wdX adX x) cells slots := by
  refine b_aload (pc' := 606) (x := adX 9) C 2 dL_605 rfl rfl ?_
  refine l_arg (pc' := 611) (k := 1) C hX hbl hbA hL (by omega) rfl rfl dL_606 dL_607 dL_608 dL_609 dL_610 ?_
  refine l_arg (pc' := 616) (k := 2) C hX hbl hbA hL (by omega) rfl rfl dL_611 dL_612 dL_613 dL_614 dL_615 ?_
  refine l_arg (pc' := 621) (k := 3) C hX hbl hbA hL (by omega) rfl rfl dL_616 dL_617 dL_618 dL_619 dL_620 ?_
  refine l_arg (pc' := 626) (k := 4) C hX hbl hbA hL (by omega) rfl rfl dL_621 dL_622 dL_623 dL_624 dL_625 ?_
  refine l_call (pc' := 629) (st := []) (d := 23) C [(xs (i + 1)).toInt, (xs (i + 2)).toInt, (xs (i + 3)).toInt, (xs (i + 4)).toInt] (cs G wdM adM y) dL_626 rfl ml_L_74 (o := 9) rfl rfl rfl (by decide) (fun a ha => by
    simp only [List.mem_cons, List.not_mem_nil, or_false] at ha
    rcases ha with rfl | rfl | rfl | rfl
    all_goals first | exact i32_rng _ | exact bz_r _) sx ⟨Nat.le_of_ble_eq_true rfl, Nat.le_of_ble_eq_true rfl⟩ hR2 (p_clash (d := 0) (e := 0) hB ((xs (i + 1)).toInt) ((xs (i + 2)).toInt) ((xs (i + 3)).toInt) ((xs (i + 4)).toInt)) (fun r x' hc sx' hr => ?_)
  refine b_com ?_
  refine b_aload (pc' := 630) (x := adM 0) C 1 dL_629 rfl rfl ?_
  refine l_arg (pc' := 635) (k := 1) C hX hbl hbA hL (by omega) rfl rfl dL_630 dL_631 dL_632 dL_633 dL_634 ?_
  refine l_arg (pc' := 640) (k := 2) C hX hbl hbA hL (by omega) rfl rfl dL_635 dL_636 dL_637 dL_638 dL_639 ?_
  refine l_arg (pc' := 645) (k := 3) C hX hbl hbA hL (by omega) rfl rfl dL_640 dL_641 dL_642 dL_643 dL_644 ?_
  refine l_arg (pc' := 650) (k := 4) C hX hbl hbA hL (by omega) rfl rfl dL_645 dL_646 dL_647 dL_648 dL_649 ?_
  refine l_call (pc' := 653) (st := [.int (Int32.ofInt r)]) (d := 3) C [(xs (i + 1)).toInt, (xs (i + 2)).toInt, (xs (i + 3)).toInt, (xs (i + 4)).toInt] (cs G wdX adX x') dL_650 rfl ml_L_77 (o := 0) rfl rfl rfl (Nat.le_of_ble_eq_true rfl) (fun a ha => by
    simp only [List.mem_cons, List.not_mem_nil, or_false] at ha
    rcases ha with rfl | rfl | rfl | rfl
    all_goals first | exact i32_rng _ | exact bz_r _) sy ⟨Nat.le_of_ble_eq_true rfl, Nat.le_of_ble_eq_true rfl⟩ hR2 hc (fun r' y' hq sy' hr' => ?_)
  refine b_icmp_eq (tgt := 773) C dL_653 (by decide) (by rw [hq.1]) ?_
  refine b_com ?_
  exact next x' y' hq.2.1 (hR.step hq.2.2) sx' sy'
theorem lc_roster (C : bC p s m args c A G RL code 4) {x y : St} {i : Nat} (hX : va_X b L xs s s.heap) (hbl : b < s.heap.size) (hbA : ¬ A b) (hL : L ≤ 2560) (hi : i + 5 ≤ L) (hR2 : cells ≤ room_1.cells ∧ slots ≤ room_1.slots) (hB : Bas x y) (hR : RR x y) (sx : s_ok x) (sy : s_ok y) (next : ∀ x' y' : St, Bas x' y' → RR x' y' → s_ok x' → s_ok y' → bR p e room_1 s m args below meth c Q A G 4 773 (lsL b (adX 9) (adM 0) i) [] (cs G wdM adM y' ++ cs G wdX adX x') cells slots) :
    bR p e room_1 s m args below meth c Q A G 4 658 (lsL b (adX 9) (adM 0) i) [] (cs G wdM adM y ++ cs G wdX adX x) cells slots := by
  refine b_aload (pc' := 659) (x := adX 9) C 2 dL_658 rfl rfl ?_
  refine l_call (pc' := 662) (st := []) (d := 23) C [] (cs G wdM adM y) dL_659 rfl ml_L_78 (o := 9) rfl rfl rfl (by decide) (fun a ha => by cases ha) sx ⟨Nat.le_of_ble_eq_true rfl, Nat.le_of_ble_eq_true rfl⟩ hR2 (p_roster (d := 0) (e := 0) hB hR ) (fun r x' hc sx' hr => ?_)
  refine b_com ?_
  refine b_aload (pc' := 663) (x := adM 0) C 1 dL_662 rfl rfl ?_
  refine l_call (pc' := 666) (st := [.int (Int32.ofInt r)]) (d := 5) C [] (cs G wdX adX x') dL_663 rfl ml_L_81 (o := 0) rfl rfl rfl (Nat.le_of_ble_eq_true rfl) (fun a ha => by cases ha) sy ⟨Nat.le_of_ble_eq_true rfl, Nat.le_of_ble_eq_true rfl⟩ hR2 hc (fun r' y' hq sy' hr' => ?_)
  refine b_icmp_eq (tgt := 773) C dL_666 (by decide) (by rw [hq.1]) ?_
  refine b_com ?_
  exact next x' y' hq.2.1 hq.2.2 sx' sy'
theorem lc_duty (C : bC p s m args c A G RL code 4) {x y : St} {i : Nat} (hX : va_X b L xs s s.heap) (hbl : b < s.heap.size) (hbA : ¬ A b) (hL : L ≤ 2560) (hi : i + 5 ≤ L) (hR2 : cells ≤ room_1.cells ∧ slots ≤ room_1.slots) (hB : Bas x y) (hR : RR x y) (sx : s_ok x) (sy : s_ok y) (next : ∀ x' y' : St, Bas x' y' → RR x' y' → s_ok x' → s_ok y' → bR p e room_1 s m args below meth c Q A G 4 773 (lsL b (adX 9) (adM 0) i) [] (cs G wdM adM y' ++ cs G wdX adX x') cells slots) :
    bR p e room_1 s m args below meth c Q A G 4 671 (lsL b (adX 9) (adM 0) i) [] (cs G wdM adM y ++ cs G wdX adX x) cells slots := by
  refine b_aload (pc' := 672) (x := adX 9) C 2 dL_671 rfl rfl ?_
  refine l_arg (pc' := 677) (k := 1) C hX hbl hbA hL (by omega) rfl rfl dL_672 dL_673 dL_674 dL_675 dL_676 ?_
  refine l_arg (pc' := 682) (k := 2) C hX hbl hbA hL (by omega) rfl rfl dL_677 dL_678 dL_679 dL_680 dL_681 ?_
  refine l_call (pc' := 685) (st := []) (d := 3) C [(xs (i + 1)).toInt, (xs (i + 2)).toInt] (cs G wdM adM y) dL_682 rfl ml_L_82 (o := 9) rfl rfl rfl (by decide) (fun a ha => by
    simp only [List.mem_cons, List.not_mem_nil, or_false] at ha
    rcases ha with rfl | rfl
    all_goals first | exact i32_rng _ | exact bz_r _) sx ⟨Nat.le_of_ble_eq_true rfl, Nat.le_of_ble_eq_true rfl⟩ hR2 (p_duty (d := 0) (e := 0) hB hR ((xs (i + 1)).toInt) ((xs (i + 2)).toInt)) (fun r x' hc sx' hr => ?_)
  refine b_com ?_
  refine b_aload (pc' := 686) (x := adM 0) C 1 dL_685 rfl rfl ?_
  refine l_arg (pc' := 691) (k := 1) C hX hbl hbA hL (by omega) rfl rfl dL_686 dL_687 dL_688 dL_689 dL_690 ?_
  refine l_arg (pc' := 696) (k := 2) C hX hbl hbA hL (by omega) rfl rfl dL_691 dL_692 dL_693 dL_694 dL_695 ?_
  refine l_call (pc' := 699) (st := [.int (Int32.ofInt r)]) (d := 1) C [(xs (i + 1)).toInt, (xs (i + 2)).toInt] (cs G wdX adX x') dL_696 rfl ml_L_85 (o := 0) rfl rfl rfl (Nat.le_of_ble_eq_true rfl) (fun a ha => by
    simp only [List.mem_cons, List.not_mem_nil, or_false] at ha
    rcases ha with rfl | rfl
    all_goals first | exact i32_rng _ | exact bz_r _) sy ⟨Nat.le_of_ble_eq_true rfl, Nat.le_of_ble_eq_true rfl⟩ hR2 hc (fun r' y' hq sy' hr' => ?_)
  refine b_icmp_eq (tgt := 773) C dL_699 (by decide) (by rw [hq.1]) ?_
  refine b_com ?_
  exact next x' y' hq.2.1 hq.2.2 sx' sy'
theorem lc_apart (C : bC p s m args c A G RL code 4) {x y : St} {i : Nat} (hX : va_X b L xs s s.heap) (hbl : b < s.heap.size) (hbA : ¬ A b) (hL : L ≤ 2560) (hi : i + 5 ≤ L) (hR2 : cells ≤ room_1.cells ∧ slots ≤ room_1.slots) (hB : Bas x y) (hR : RR x y) (sx : s_ok x) (sy : s_ok y) (next : ∀ x' y' : St, Bas x' y' → RR x' y' → s_ok x' → s_ok y' → bR p e room_1 s m args below meth c Q A G 4 773 (lsL b (adX 9) (adM 0) i) [] (cs G wdM adM y' ++ cs G wdX adX x') cells slots) :
    bR p e room_1 s m args below meth c Q A G 4 704 (lsL b (adX 9) (adM 0) i) [] (cs G wdM adM y ++ cs G wdX adX x) cells slots := by
  refine b_aload (pc' := 705) (x := adX 9) C 2 dL_704 rfl rfl ?_
  refine l_call (pc' := 708) (st := []) (d := 23) C [] (cs G wdM adM y) dL_705 rfl ml_L_86 (o := 9) rfl rfl rfl (by decide) (fun a ha => by cases ha) sx ⟨Nat.le_of_ble_eq_true rfl, Nat.le_of_ble_eq_true rfl⟩ hR2 (p_apart (d := 0) (e := 0) hB ) (fun r x' hc sx' hr => ?_)
  refine b_com ?_
  refine b_aload (pc' := 709) (x := adM 0) C 1 dL_708 rfl rfl ?_
  refine l_call (pc' := 712) (st := [.int (Int32.ofInt r)]) (d := 1) C [] (cs G wdX adX x') dL_709 rfl ml_L_89 (o := 0) rfl rfl rfl (Nat.le_of_ble_eq_true rfl) (fun a ha => by cases ha) sy ⟨Nat.le_of_ble_eq_true rfl, Nat.le_of_ble_eq_true rfl⟩ hR2 hc (fun r' y' hq sy' hr' => ?_)
  refine b_icmp_eq (tgt := 773) C dL_712 (by decide) (by rw [hq.1]) ?_
  refine b_com ?_
  exact next x' y' hq.2.1 (hR.step hq.2.2) sx' sy'
theorem lc_saves (C : bC p s m args c A G RL code 4) {x y : St} {i : Nat} (hX : va_X b L xs s s.heap) (hbl : b < s.heap.size) (hbA : ¬ A b) (hL : L ≤ 2560) (hi : i + 5 ≤ L) (hR2 : cells ≤ room_1.cells ∧ slots ≤ room_1.slots) (hB : Bas x y) (hR : RR x y) (sx : s_ok x) (sy : s_ok y) (next : ∀ x' y' : St, Bas x' y' → RR x' y' → s_ok x' → s_ok y' → bR p e room_1 s m args below meth c Q A G 4 773 (lsL b (adX 9) (adM 0) i) [] (cs G wdM adM y' ++ cs G wdX adX x') cells slots) :
    bR p e room_1 s m args below meth c Q A G 4 717 (lsL b (adX 9) (adM 0) i) [] (cs G wdM adM y ++ cs G wdX adX x) cells slots := by
  refine b_aload (pc' := 718) (x := adX 9) C 2 dL_717 rfl rfl ?_
  refine l_arg (pc' := 723) (k := 1) C hX hbl hbA hL (by omega) rfl rfl dL_718 dL_719 dL_720 dL_721 dL_722 ?_
  refine l_arg (pc' := 728) (k := 2) C hX hbl hbA hL (by omega) rfl rfl dL_723 dL_724 dL_725 dL_726 dL_727 ?_
  refine l_call (pc' := 731) (st := []) (d := 23) C [(xs (i + 1)).toInt, (xs (i + 2)).toInt] (cs G wdM adM y) dL_728 rfl ml_L_90 (o := 9) rfl rfl rfl (by decide) (fun a ha => by
    simp only [List.mem_cons, List.not_mem_nil, or_false] at ha
    rcases ha with rfl | rfl
    all_goals first | exact i32_rng _ | exact bz_r _) sx ⟨Nat.le_of_ble_eq_true rfl, Nat.le_of_ble_eq_true rfl⟩ hR2 (p_saves (d := 0) (e := 0) hB ((xs (i + 1)).toInt) ((xs (i + 2)).toInt)) (fun r x' hc sx' hr => ?_)
  refine b_com ?_
  refine b_aload (pc' := 732) (x := adM 0) C 1 dL_731 rfl rfl ?_
  refine l_arg (pc' := 737) (k := 1) C hX hbl hbA hL (by omega) rfl rfl dL_732 dL_733 dL_734 dL_735 dL_736 ?_
  refine l_arg (pc' := 742) (k := 2) C hX hbl hbA hL (by omega) rfl rfl dL_737 dL_738 dL_739 dL_740 dL_741 ?_
  refine l_call (pc' := 745) (st := [.int (Int32.ofInt r)]) (d := 4) C [(xs (i + 1)).toInt, (xs (i + 2)).toInt] (cs G wdX adX x') dL_742 rfl ml_L_93 (o := 0) rfl rfl rfl (Nat.le_of_ble_eq_true rfl) (fun a ha => by
    simp only [List.mem_cons, List.not_mem_nil, or_false] at ha
    rcases ha with rfl | rfl
    all_goals first | exact i32_rng _ | exact bz_r _) sy ⟨Nat.le_of_ble_eq_true rfl, Nat.le_of_ble_eq_true rfl⟩ hR2 hc (fun r' y' hq sy' hr' => ?_)
  refine b_icmp_eq (tgt := 773) C dL_745 (by decide) (by rw [hq.1]) ?_
  refine b_com ?_
  exact next x' y' hq.2.1 (hR.step hq.2.2) sx' sy'
theorem lc_about (C : bC p s m args c A G RL code 4) {x y : St} {i : Nat} (hX : va_X b L xs s s.heap) (hbl : b < s.heap.size) (hbA : ¬ A b) (hL : L ≤ 2560) (hi : i + 5 ≤ L) (hR2 : cells ≤ room_1.cells ∧ slots ≤ room_1.slots) (hB : Bas x y) (hR : RR x y) (sx : s_ok x) (sy : s_ok y) (next : ∀ x' y' : St, Bas x' y' → RR x' y' → s_ok x' → s_ok y' → bR p e room_1 s m args below meth c Q A G 4 773 (lsL b (adX 9) (adM 0) i) [] (cs G wdM adM y' ++ cs G wdX adX x') cells slots) :
    bR p e room_1 s m args below meth c Q A G 4 750 (lsL b (adX 9) (adM 0) i) [] (cs G wdM adM y ++ cs G wdX adX x) cells slots := by
  refine b_aload (pc' := 751) (x := adX 9) C 2 dL_750 rfl rfl ?_
  refine l_arg (pc' := 756) (k := 1) C hX hbl hbA hL (by omega) rfl rfl dL_751 dL_752 dL_753 dL_754 dL_755 ?_
  refine l_call (pc' := 759) (st := []) (d := 0) C [(xs (i + 1)).toInt] (cs G wdM adM y) dL_756 rfl ml_L_94 (o := 9) rfl rfl rfl (by decide) (fun a ha => by
    simp only [List.mem_cons, List.not_mem_nil, or_false] at ha
    rw [ha]
    first | exact i32_rng _ | exact bz_r _) sx ⟨Nat.le_of_ble_eq_true rfl, Nat.le_of_ble_eq_true rfl⟩ hR2 (p_about (d := 0) (e := 0) hB ((xs (i + 1)).toInt)) (fun r x' hc sx' hr => ?_)
  refine b_com ?_
  refine b_aload (pc' := 760) (x := adM 0) C 1 dL_759 rfl rfl ?_
  refine l_arg (pc' := 765) (k := 1) C hX hbl hbA hL (by omega) rfl rfl dL_760 dL_761 dL_762 dL_763 dL_764 ?_
  refine l_call (pc' := 768) (st := [.int (Int32.ofInt r)]) (d := 0) C [(xs (i + 1)).toInt] (cs G wdX adX x') dL_765 rfl ml_L_97 (o := 0) rfl rfl rfl (Nat.le_of_ble_eq_true rfl) (fun a ha => by
    simp only [List.mem_cons, List.not_mem_nil, or_false] at ha
    rw [ha]
    first | exact i32_rng _ | exact bz_r _) sy ⟨Nat.le_of_ble_eq_true rfl, Nat.le_of_ble_eq_true rfl⟩ hR2 hc (fun r' y' hq sy' hr' => ?_)
  refine b_icmp_eq (tgt := 773) C dL_768 (by decide) (by rw [hq.1]) ?_
  refine b_com ?_
  exact next x' y' hq.2.1 (hR.step hq.2.2) sx' sy'
end LCase
