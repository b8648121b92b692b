/-- the model's cells, as they are at first -/
def stM (g : Nat → Int) : St := (fun k j => match k with
  | 0 => (match j with | 8 => 900 | 9 => 540 | 10 => 30 | 11 => 1 | _ => 0)
  | 1 => g j
  | _ => 0, fun _ _ => 0)
theorem csM_eq (G : GX) (ad : Nat → Nat) (σ : St) : cs G wdM ad σ = [(ad 0, .inr (10, [.ref (ad 1), .ref (ad 2), .ref (ad 3), .int (Int32.ofInt (σ.1 0 3)), .ref (ad 4), .ref (ad 5), .ref (ad 6), .ref (ad 7), .int (Int32.ofInt (σ.1 0 8)), .int (Int32.ofInt (σ.1 0 9)), .int (Int32.ofInt (σ.1 0 10)), .int (Int32.ofInt (σ.1 0 11)), .ref (ad 8), .int (Int32.ofInt (σ.1 0 13)), .ref (ad 9), .int (Int32.ofInt (σ.1 0 15)), .ref (ad 10), .ref (ad 11), .int (Int32.ofInt (σ.1 0 18)), .ref (ad 12), .ref (ad 13), .ref (ad 14), .ref (ad 15), .ref (ad 16), .ref (ad 17), .int (Int32.ofInt (σ.1 0 25)), .ref (ad 18)])), (ad 1, .inl (G.2.2 0, 144, .inl (fun j => Int32.ofInt (σ.1 1 j)))), (ad 2, .inl (G.2.2 0, 144, .inl (fun j => Int32.ofInt (σ.1 2 j)))), (ad 3, .inl (G.2.2 2, 12, .inl (fun j => Int32.ofInt (σ.1 3 j)))), (ad 4, .inl (G.2.2 0, 16, .inl (fun j => Int32.ofInt (σ.1 4 j)))), (ad 5, .inl (G.2.2 0, 16, .inl (fun j => Int32.ofInt (σ.1 5 j)))), (ad 6, .inl (G.2.2 0, 16, .inl (fun j => Int32.ofInt (σ.1 6 j)))), (ad 7, .inl (G.2.2 0, 16, .inl (fun j => Int32.ofInt (σ.1 7 j)))), (ad 8, .inl (G.2.2 0, 1114112, .inl (fun j => Int32.ofInt (σ.1 8 j)))), (ad 9, .inl (G.2.2 0, 16, .inl (fun j => Int32.ofInt (σ.1 9 j)))), (ad 10, .inl (G.2.2 0, 16, .inl (fun j => Int32.ofInt (σ.1 10 j)))), (ad 11, .inl (G.2.2 0, 16, .inl (fun j => Int32.ofInt (σ.1 11 j)))), (ad 12, .inl (G.2.2 0, 16, .inl (fun j => Int32.ofInt (σ.1 12 j)))), (ad 13, .inl (G.2.2 0, 16, .inl (fun j => Int32.ofInt (σ.1 13 j)))), (ad 14, .inl (G.2.2 0, 16, .inl (fun j => Int32.ofInt (σ.1 14 j)))), (ad 15, .inl (G.2.2 0, 16, .inl (fun j => Int32.ofInt (σ.1 15 j)))), (ad 16, .inl (G.2.2 0, 16, .inl (fun j => Int32.ofInt (σ.1 16 j)))), (ad 17, .inl (G.2.2 0, 4096, .inl (fun j => Int32.ofInt (σ.1 17 j)))), (ad 18, .inl (G.2.2 0, 48, .inl (fun j => Int32.ofInt (σ.1 18 j))))] := by
  unfold cs
  simp only [List.mapIdx_cons, List.mapIdx_nil, Nat.zero_add, Nat.reduceAdd, cd_e, cd_f]
  first | done | rfl | simp
def cadM (c0 c1 c2 c3 c4 c5 c6 c7 c8 c9 c10 c11 c12 c13 c14 c15 c16 c17 c18 : Nat) : Nat → Nat := fun k => match k with
  | 0 => c0
  | 1 => c1
  | 2 => c2
  | 3 => c3
  | 4 => c4
  | 5 => c5
  | 6 => c6
  | 7 => c7
  | 8 => c8
  | 9 => c9
  | 10 => c10
  | 11 => c11
  | 12 => c12
  | 13 => c13
  | 14 => c14
  | 15 => c15
  | 16 => c16
  | 17 => c17
  | _ => c18
set_option maxHeartbeats 20000000 in
theorem k_X10_init {G : GX} (h0 : Nat) : Ctor G 1 18 1118748 mX10_init [] h0 (.inr (10, [.null, .null, .null, .int (Int32.ofInt 0), .null, .null, .null, .null, .int (Int32.ofInt 0), .int (Int32.ofInt 0), .int (Int32.ofInt 0), .int (Int32.ofInt 0), .null, .int (Int32.ofInt 0), .null, .int (Int32.ofInt 0), .null, .null, .int (Int32.ofInt 0), .null, .null, .null, .null, .null, .null, .int (Int32.ofInt 0), .null])) (fun w => ∃ (ad : Nat → Nat) (g : Nat → Int) (is : List Nat), ad 0 = h0 ∧ (∀ i, i < 144 → g i = dgW i) ∧ (∀ j, r32 (g j)) ∧ va_nd is = true ∧ is.map (fun i => w[i]?) = (cs G wdM ad (stM g)).map some) := by
  refine Ctor.of rfl rfl rfl (Nat.le_of_ble_eq_true rfl) (fun p e s m args below meth c A Q C hin hret => ?_)
  refine b_aload (pc' := 1) (x := h0) C 0 dX10_init_0 rfl rfl ?_
  refine b_objInit (pc' := 4) C dX10_init_1 rfl wo_X10 wo_i wo_c ⟨Nat.le_of_ble_eq_true rfl, Nat.le_of_ble_eq_true rfl⟩ ?_
  refine b_aload (pc' := 5) (x := h0) C 0 dX10_init_4 rfl rfl ?_
  refine b_sipush (pc' := 8) (n := 144) C dX10_init_5 rfl (by decide) ?_
  refine b_newI (pc' := 10) (n := 144) C dX10_init_8 rfl wa_int (by decide) ⟨Nat.le_of_ble_eq_true rfl, Nat.le_of_ble_eq_true rfl⟩ (fun q1 => ?_)
  refine b_putF (pc' := 13) (ws' := [(h0, .inr (10, [.ref q1, .null, .null, .int (Int32.ofInt 0), .null, .null, .null, .null, .int (Int32.ofInt 0), .int (Int32.ofInt 0), .int (Int32.ofInt 0), .int (Int32.ofInt 0), .null, .int (Int32.ofInt 0), .null, .int (Int32.ofInt 0), .null, .null, .int (Int32.ofInt 0), .null, .null, .null, .null, .null, .null, .int (Int32.ofInt 0), .null])), aI G q1 144]) C hin 0 dX10_init_10 rfl ff_X10_7 rfl (Nat.le_of_ble_eq_true rfl) rfl ?_
  refine b_aload (pc' := 14) (x := h0) C 0 dX10_init_13 rfl rfl ?_
  refine b_sipush (pc' := 17) (n := 144) C dX10_init_14 rfl (by decide) ?_
  refine b_newI (pc' := 19) (n := 144) C dX10_init_17 rfl wa_int (by decide) ⟨Nat.le_of_ble_eq_true rfl, Nat.le_of_ble_eq_true rfl⟩ (fun q2 => ?_)
  refine b_putF (pc' := 22) (ws' := [(h0, .inr (10, [.ref q1, .ref q2, .null, .int (Int32.ofInt 0), .null, .null, .null, .null, .int (Int32.ofInt 0), .int (Int32.ofInt 0), .int (Int32.ofInt 0), .int (Int32.ofInt 0), .null, .int (Int32.ofInt 0), .null, .int (Int32.ofInt 0), .null, .null, .int (Int32.ofInt 0), .null, .null, .null, .null, .null, .null, .int (Int32.ofInt 0), .null])), aI G q1 144, aI G q2 144]) C hin 0 dX10_init_19 rfl ff_X10_13 rfl (Nat.le_of_ble_eq_true rfl) rfl ?_
  refine b_aload (pc' := 23) (x := h0) C 0 dX10_init_22 rfl rfl ?_
  refine b_bipush (pc' := 25) (n := 12) C dX10_init_23 rfl (by decide) ?_
  refine b_newZ (pc' := 27) (n := 12) C dX10_init_25 rfl wa_boolean (by decide) ⟨Nat.le_of_ble_eq_true rfl, Nat.le_of_ble_eq_true rfl⟩ (fun q3 => ?_)
  refine b_putF (pc' := 30) (ws' := [(h0, .inr (10, [.ref q1, .ref q2, .ref q3, .int (Int32.ofInt 0), .null, .null, .null, .null, .int (Int32.ofInt 0), .int (Int32.ofInt 0), .int (Int32.ofInt 0), .int (Int32.ofInt 0), .null, .int (Int32.ofInt 0), .null, .int (Int32.ofInt 0), .null, .null, .int (Int32.ofInt 0), .null, .null, .null, .null, .null, .null, .int (Int32.ofInt 0), .null])), aI G q1 144, aI G q2 144, aZ G q3 12]) C hin 0 dX10_init_27 rfl ff_X10_16 rfl (Nat.le_of_ble_eq_true rfl) rfl ?_
  refine b_aload (pc' := 31) (x := h0) C 0 dX10_init_30 rfl rfl ?_
  refine b_bipush (pc' := 33) (n := 16) C dX10_init_31 rfl (by decide) ?_
  refine b_newI (pc' := 35) (n := 16) C dX10_init_33 rfl wa_int (by decide) ⟨Nat.le_of_ble_eq_true rfl, Nat.le_of_ble_eq_true rfl⟩ (fun q4 => ?_)
  refine b_putF (pc' := 38) (ws' := [(h0, .inr (10, [.ref q1, .ref q2, .ref q3, .int (Int32.ofInt 0), .ref q4, .null, .null, .null, .int (Int32.ofInt 0), .int (Int32.ofInt 0), .int (Int32.ofInt 0), .int (Int32.ofInt 0), .null, .int (Int32.ofInt 0), .null, .int (Int32.ofInt 0), .null, .null, .int (Int32.ofInt 0), .null, .null, .null, .null, .null, .null, .int (Int32.ofInt 0), .null])), aI G q1 144, aI G q2 144, aZ G q3 12, aI G q4 16]) C hin 0 dX10_init_35 rfl ff_X10_20 rfl (Nat.le_of_ble_eq_true rfl) rfl ?_
  refine b_aload (pc' := 39) (x := h0) C 0 dX10_init_38 rfl rfl ?_
  refine b_bipush (pc' := 41) (n := 16) C dX10_init_39 rfl (by decide) ?_
  refine b_newI (pc' := 43) (n := 16) C dX10_init_41 rfl wa_int (by decide) ⟨Nat.le_of_ble_eq_true rfl, Nat.le_of_ble_eq_true rfl⟩ (fun q5 => ?_)
  refine b_putF (pc' := 46) (ws' := [(h0, .inr (10, [.ref q1, .ref q2, .ref q3, .int (Int32.ofInt 0), .ref q4, .ref q5, .null, .null, .int (Int32.ofInt 0), .int (Int32.ofInt 0), .int (Int32.ofInt 0), .int (Int32.ofInt 0), .null, .int (Int32.ofInt 0), .null, .int (Int32.ofInt 0), .null, .null, .int (Int32.ofInt 0), .null, .null, .null, .null, .null, .null, .int (Int32.ofInt 0), .null])), aI G q1 144, aI G q2 144, aZ G q3 12, aI G q4 16, aI G q5 16]) C hin 0 dX10_init_43 rfl ff_X10_23 rfl (Nat.le_of_ble_eq_true rfl) rfl ?_
  refine b_aload (pc' := 47) (x := h0) C 0 dX10_init_46 rfl rfl ?_
  refine b_bipush (pc' := 49) (n := 16) C dX10_init_47 rfl (by decide) ?_
  refine b_newI (pc' := 51) (n := 16) C dX10_init_49 rfl wa_int (by decide) ⟨Nat.le_of_ble_eq_true rfl, Nat.le_of_ble_eq_true rfl⟩ (fun q6 => ?_)
  refine b_putF (pc' := 54) (ws' := [(h0, .inr (10, [.ref q1, .ref q2, .ref q3, .int (Int32.ofInt 0), .ref q4, .ref q5, .ref q6, .null, .int (Int32.ofInt 0), .int (Int32.ofInt 0), .int (Int32.ofInt 0), .int (Int32.ofInt 0), .null, .int (Int32.ofInt 0), .null, .int (Int32.ofInt 0), .null, .null, .int (Int32.ofInt 0), .null, .null, .null, .null, .null, .null, .int (Int32.ofInt 0), .null])), aI G q1 144, aI G q2 144, aZ G q3 12, aI G q4 16, aI G q5 16, aI G q6 16]) C hin 0 dX10_init_51 rfl ff_X10_26 rfl (Nat.le_of_ble_eq_true rfl) rfl ?_
  refine b_aload (pc' := 55) (x := h0) C 0 dX10_init_54 rfl rfl ?_
  refine b_bipush (pc' := 57) (n := 16) C dX10_init_55 rfl (by decide) ?_
  refine b_newI (pc' := 59) (n := 16) C dX10_init_57 rfl wa_int (by decide) ⟨Nat.le_of_ble_eq_true rfl, Nat.le_of_ble_eq_true rfl⟩ (fun q7 => ?_)
  refine b_putF (pc' := 62) (ws' := [(h0, .inr (10, [.ref q1, .ref q2, .ref q3, .int (Int32.ofInt 0), .ref q4, .ref q5, .ref q6, .ref q7, .int (Int32.ofInt 0), .int (Int32.ofInt 0), .int (Int32.ofInt 0), .int (Int32.ofInt 0), .null, .int (Int32.ofInt 0), .null, .int (Int32.ofInt 0), .null, .null, .int (Int32.ofInt 0), .null, .null, .null, .null, .null, .null, .int (Int32.ofInt 0), .null])), aI G q1 144, aI G q2 144, aZ G q3 12, aI G q4 16, aI G q5 16, aI G q6 16, aI G q7 16]) C hin 0 dX10_init_59 rfl ff_X10_29 rfl (Nat.le_of_ble_eq_true rfl) rfl ?_
  refine b_aload (pc' := 63) (x := h0) C 0 dX10_init_62 rfl rfl ?_
  refine b_sipush (pc' := 66) (n := 900) C dX10_init_63 rfl (by decide) ?_
  refine b_putI (pc' := 69) (ws' := [(h0, .inr (10, [.ref q1, .ref q2, .ref q3, .int (Int32.ofInt 0), .ref q4, .ref q5, .ref q6, .ref q7, .int (Int32.ofInt 900), .int (Int32.ofInt 0), .int (Int32.ofInt 0), .int (Int32.ofInt 0), .null, .int (Int32.ofInt 0), .null, .int (Int32.ofInt 0), .null, .null, .int (Int32.ofInt 0), .null, .null, .null, .null, .null, .null, .int (Int32.ofInt 0), .null])), aI G q1 144, aI G q2 144, aZ G q3 12, aI G q4 16, aI G q5 16, aI G q6 16, aI G q7 16]) C 0 dX10_init_66 rfl cp_X10_32 rfl (Nat.le_of_ble_eq_true rfl) rfl ?_
  refine b_aload (pc' := 70) (x := h0) C 0 dX10_init_69 rfl rfl ?_
  refine b_sipush (pc' := 73) (n := 540) C dX10_init_70 rfl (by decide) ?_
  refine b_putI (pc' := 76) (ws' := [(h0, .inr (10, [.ref q1, .ref q2, .ref q3, .int (Int32.ofInt 0), .ref q4, .ref q5, .ref q6, .ref q7, .int (Int32.ofInt 900), .int (Int32.ofInt 540), .int (Int32.ofInt 0), .int (Int32.ofInt 0), .null, .int (Int32.ofInt 0), .null, .int (Int32.ofInt 0), .null, .null, .int (Int32.ofInt 0), .null, .null, .null, .null, .null, .null, .int (Int32.ofInt 0), .null])), aI G q1 144, aI G q2 144, aZ G q3 12, aI G q4 16, aI G q5 16, aI G q6 16, aI G q7 16]) C 0 dX10_init_73 rfl cp_X10_36 rfl (Nat.le_of_ble_eq_true rfl) rfl ?_
  refine b_aload (pc' := 77) (x := h0) C 0 dX10_init_76 rfl rfl ?_
  refine b_bipush (pc' := 79) (n := 30) C dX10_init_77 rfl (by decide) ?_
  refine b_putI (pc' := 82) (ws' := [(h0, .inr (10, [.ref q1, .ref q2, .ref q3, .int (Int32.ofInt 0), .ref q4, .ref q5, .ref q6, .ref q7, .int (Int32.ofInt 900), .int (Int32.ofInt 540), .int (Int32.ofInt 30), .int (Int32.ofInt 0), .null, .int (Int32.ofInt 0), .null, .int (Int32.ofInt 0), .null, .null, .int (Int32.ofInt 0), .null, .null, .null, .null, .null, .null, .int (Int32.ofInt 0), .null])), aI G q1 144, aI G q2 144, aZ G q3 12, aI G q4 16, aI G q5 16, aI G q6 16, aI G q7 16]) C 0 dX10_init_79 rfl cp_X10_39 rfl (Nat.le_of_ble_eq_true rfl) rfl ?_
  refine b_aload (pc' := 83) (x := h0) C 0 dX10_init_82 rfl rfl ?_
  refine b_iconst (pc' := 84) (n := 1) C dX10_init_83 rfl ?_
  refine b_putZ (pc' := 87) (x := 1) (ws' := [(h0, .inr (10, [.ref q1, .ref q2, .ref q3, .int (Int32.ofInt 0), .ref q4, .ref q5, .ref q6, .ref q7, .int (Int32.ofInt 900), .int (Int32.ofInt 540), .int (Int32.ofInt 30), .int (Int32.ofInt 1), .null, .int (Int32.ofInt 0), .null, .int (Int32.ofInt 0), .null, .null, .int (Int32.ofInt 0), .null, .null, .null, .null, .null, .null, .int (Int32.ofInt 0), .null])), aI G q1 144, aI G q2 144, aZ G q3 12, aI G q4 16, aI G q5 16, aI G q6 16, aI G q7 16]) C 0 dX10_init_84 rfl cp_X10_42 (by decide) rfl (Nat.le_of_ble_eq_true rfl) rfl ?_
  refine b_aload (pc' := 88) (x := h0) C 0 dX10_init_87 rfl rfl ?_
  refine b_ldc (pc' := 90) (n := 1114112) C dX10_init_88 rfl wk_X10_46 ?_
  refine b_newI (pc' := 92) (n := 1114112) C dX10_init_90 rfl wa_int (by decide) ⟨Nat.le_of_ble_eq_true rfl, Nat.le_of_ble_eq_true rfl⟩ (fun q8 => ?_)
  refine b_putF (pc' := 95) (ws' := [(h0, .inr (10, [.ref q1, .ref q2, .ref q3, .int (Int32.ofInt 0), .ref q4, .ref q5, .ref q6, .ref q7, .int (Int32.ofInt 900), .int (Int32.ofInt 540), .int (Int32.ofInt 30), .int (Int32.ofInt 1), .ref q8, .int (Int32.ofInt 0), .null, .int (Int32.ofInt 0), .null, .null, .int (Int32.ofInt 0), .null, .null, .null, .null, .null, .null, .int (Int32.ofInt 0), .null])), aI G q1 144, aI G q2 144, aZ G q3 12, aI G q4 16, aI G q5 16, aI G q6 16, aI G q7 16, aI G q8 1114112]) C hin 0 dX10_init_92 rfl ff_X10_47 rfl (Nat.le_of_ble_eq_true rfl) rfl ?_
  refine b_aload (pc' := 96) (x := h0) C 0 dX10_init_95 rfl rfl ?_
  refine b_bipush (pc' := 98) (n := 16) C dX10_init_96 rfl (by decide) ?_
  refine b_newI (pc' := 100) (n := 16) C dX10_init_98 rfl wa_int (by decide) ⟨Nat.le_of_ble_eq_true rfl, Nat.le_of_ble_eq_true rfl⟩ (fun q9 => ?_)
  refine b_putF (pc' := 103) (ws' := [(h0, .inr (10, [.ref q1, .ref q2, .ref q3, .int (Int32.ofInt 0), .ref q4, .ref q5, .ref q6, .ref q7, .int (Int32.ofInt 900), .int (Int32.ofInt 540), .int (Int32.ofInt 30), .int (Int32.ofInt 1), .ref q8, .int (Int32.ofInt 0), .ref q9, .int (Int32.ofInt 0), .null, .null, .int (Int32.ofInt 0), .null, .null, .null, .null, .null, .null, .int (Int32.ofInt 0), .null])), aI G q1 144, aI G q2 144, aZ G q3 12, aI G q4 16, aI G q5 16, aI G q6 16, aI G q7 16, aI G q8 1114112, aI G q9 16]) C hin 0 dX10_init_100 rfl ff_X10_50 rfl (Nat.le_of_ble_eq_true rfl) rfl ?_
  refine b_aload (pc' := 104) (x := h0) C 0 dX10_init_103 rfl rfl ?_
  refine b_bipush (pc' := 106) (n := 16) C dX10_init_104 rfl (by decide) ?_
  refine b_newI (pc' := 108) (n := 16) C dX10_init_106 rfl wa_int (by decide) ⟨Nat.le_of_ble_eq_true rfl, Nat.le_of_ble_eq_true rfl⟩ (fun q10 => ?_)
  refine b_putF (pc' := 111) (ws' := [(h0, .inr (10, [.ref q1, .ref q2, .ref q3, .int (Int32.ofInt 0), .ref q4, .ref q5, .ref q6, .ref q7, .int (Int32.ofInt 900), .int (Int32.ofInt 540), .int (Int32.ofInt 30), .int (Int32.ofInt 1), .ref q8, .int (Int32.ofInt 0), .ref q9, .int (Int32.ofInt 0), .ref q10, .null, .int (Int32.ofInt 0), .null, .null, .null, .null, .null, .null, .int (Int32.ofInt 0), .null])), aI G q1 144, aI G q2 144, aZ G q3 12, aI G q4 16, aI G q5 16, aI G q6 16, aI G q7 16, aI G q8 1114112, aI G q9 16, aI G q10 16]) C hin 0 dX10_init_108 rfl ff_X10_53 rfl (Nat.le_of_ble_eq_true rfl) rfl ?_
  refine b_aload (pc' := 112) (x := h0) C 0 dX10_init_111 rfl rfl ?_
  refine b_bipush (pc' := 114) (n := 16) C dX10_init_112 rfl (by decide) ?_
  refine b_newI (pc' := 116) (n := 16) C dX10_init_114 rfl wa_int (by decide) ⟨Nat.le_of_ble_eq_true rfl, Nat.le_of_ble_eq_true rfl⟩ (fun q11 => ?_)
  refine b_putF (pc' := 119) (ws' := [(h0, .inr (10, [.ref q1, .ref q2, .ref q3, .int (Int32.ofInt 0), .ref q4, .ref q5, .ref q6, .ref q7, .int (Int32.ofInt 900), .int (Int32.ofInt 540), .int (Int32.ofInt 30), .int (Int32.ofInt 1), .ref q8, .int (Int32.ofInt 0), .ref q9, .int (Int32.ofInt 0), .ref q10, .ref q11, .int (Int32.ofInt 0), .null, .null, .null, .null, .null, .null, .int (Int32.ofInt 0), .null])), aI G q1 144, aI G q2 144, aZ G q3 12, aI G q4 16, aI G q5 16, aI G q6 16, aI G q7 16, aI G q8 1114112, aI G q9 16, aI G q10 16, aI G q11 16]) C hin 0 dX10_init_116 rfl ff_X10_56 rfl (Nat.le_of_ble_eq_true rfl) rfl ?_
  refine b_aload (pc' := 120) (x := h0) C 0 dX10_init_119 rfl rfl ?_
  refine b_bipush (pc' := 122) (n := 16) C dX10_init_120 rfl (by decide) ?_
  refine b_newI (pc' := 124) (n := 16) C dX10_init_122 rfl wa_int (by decide) ⟨Nat.le_of_ble_eq_true rfl, Nat.le_of_ble_eq_true rfl⟩ (fun q12 => ?_)
  refine b_putF (pc' := 127) (ws' := [(h0, .inr (10, [.ref q1, .ref q2, .ref q3, .int (Int32.ofInt 0), .ref q4, .ref q5, .ref q6, .ref q7, .int (Int32.ofInt 900), .int (Int32.ofInt 540), .int (Int32.ofInt 30), .int (Int32.ofInt 1), .ref q8, .int (Int32.ofInt 0), .ref q9, .int (Int32.ofInt 0), .ref q10, .ref q11, .int (Int32.ofInt 0), .ref q12, .null, .null, .null, .null, .null, .int (Int32.ofInt 0), .null])), aI G q1 144, aI G q2 144, aZ G q3 12, aI G q4 16, aI G q5 16, aI G q6 16, aI G q7 16, aI G q8 1114112, aI G q9 16, aI G q10 16, aI G q11 16, aI G q12 16]) C hin 0 dX10_init_124 rfl ff_X10_59 rfl (Nat.le_of_ble_eq_true rfl) rfl ?_
  refine b_aload (pc' := 128) (x := h0) C 0 dX10_init_127 rfl rfl ?_
  refine b_bipush (pc' := 130) (n := 16) C dX10_init_128 rfl (by decide) ?_
  refine b_newI (pc' := 132) (n := 16) C dX10_init_130 rfl wa_int (by decide) ⟨Nat.le_of_ble_eq_true rfl, Nat.le_of_ble_eq_true rfl⟩ (fun q13 => ?_)
  refine b_putF (pc' := 135) (ws' := [(h0, .inr (10, [.ref q1, .ref q2, .ref q3, .int (Int32.ofInt 0), .ref q4, .ref q5, .ref q6, .ref q7, .int (Int32.ofInt 900), .int (Int32.ofInt 540), .int (Int32.ofInt 30), .int (Int32.ofInt 1), .ref q8, .int (Int32.ofInt 0), .ref q9, .int (Int32.ofInt 0), .ref q10, .ref q11, .int (Int32.ofInt 0), .ref q12, .ref q13, .null, .null, .null, .null, .int (Int32.ofInt 0), .null])), aI G q1 144, aI G q2 144, aZ G q3 12, aI G q4 16, aI G q5 16, aI G q6 16, aI G q7 16, aI G q8 1114112, aI G q9 16, aI G q10 16, aI G q11 16, aI G q12 16, aI G q13 16]) C hin 0 dX10_init_132 rfl ff_X10_62 rfl (Nat.le_of_ble_eq_true rfl) rfl ?_
  refine b_aload (pc' := 136) (x := h0) C 0 dX10_init_135 rfl rfl ?_
  refine b_bipush (pc' := 138) (n := 16) C dX10_init_136 rfl (by decide) ?_
  refine b_newI (pc' := 140) (n := 16) C dX10_init_138 rfl wa_int (by decide) ⟨Nat.le_of_ble_eq_true rfl, Nat.le_of_ble_eq_true rfl⟩ (fun q14 => ?_)
  refine b_putF (pc' := 143) (ws' := [(h0, .inr (10, [.ref q1, .ref q2, .ref q3, .int (Int32.ofInt 0), .ref q4, .ref q5, .ref q6, .ref q7, .int (Int32.ofInt 900), .int (Int32.ofInt 540), .int (Int32.ofInt 30), .int (Int32.ofInt 1), .ref q8, .int (Int32.ofInt 0), .ref q9, .int (Int32.ofInt 0), .ref q10, .ref q11, .int (Int32.ofInt 0), .ref q12, .ref q13, .ref q14, .null, .null, .null, .int (Int32.ofInt 0), .null])), aI G q1 144, aI G q2 144, aZ G q3 12, aI G q4 16, aI G q5 16, aI G q6 16, aI G q7 16, aI G q8 1114112, aI G q9 16, aI G q10 16, aI G q11 16, aI G q12 16, aI G q13 16, aI G q14 16]) C hin 0 dX10_init_140 rfl ff_X10_65 rfl (Nat.le_of_ble_eq_true rfl) rfl ?_
  refine b_aload (pc' := 144) (x := h0) C 0 dX10_init_143 rfl rfl ?_
  refine b_bipush (pc' := 146) (n := 16) C dX10_init_144 rfl (by decide) ?_
  refine b_newI (pc' := 148) (n := 16) C dX10_init_146 rfl wa_int (by decide) ⟨Nat.le_of_ble_eq_true rfl, Nat.le_of_ble_eq_true rfl⟩ (fun q15 => ?_)
  refine b_putF (pc' := 151) (ws' := [(h0, .inr (10, [.ref q1, .ref q2, .ref q3, .int (Int32.ofInt 0), .ref q4, .ref q5, .ref q6, .ref q7, .int (Int32.ofInt 900), .int (Int32.ofInt 540), .int (Int32.ofInt 30), .int (Int32.ofInt 1), .ref q8, .int (Int32.ofInt 0), .ref q9, .int (Int32.ofInt 0), .ref q10, .ref q11, .int (Int32.ofInt 0), .ref q12, .ref q13, .ref q14, .ref q15, .null, .null, .int (Int32.ofInt 0), .null])), aI G q1 144, aI G q2 144, aZ G q3 12, aI G q4 16, aI G q5 16, aI G q6 16, aI G q7 16, aI G q8 1114112, aI G q9 16, aI G q10 16, aI G q11 16, aI G q12 16, aI G q13 16, aI G q14 16, aI G q15 16]) C hin 0 dX10_init_148 rfl ff_X10_68 rfl (Nat.le_of_ble_eq_true rfl) rfl ?_
  refine b_aload (pc' := 152) (x := h0) C 0 dX10_init_151 rfl rfl ?_
  refine b_bipush (pc' := 154) (n := 16) C dX10_init_152 rfl (by decide) ?_
  refine b_newI (pc' := 156) (n := 16) C dX10_init_154 rfl wa_int (by decide) ⟨Nat.le_of_ble_eq_true rfl, Nat.le_of_ble_eq_true rfl⟩ (fun q16 => ?_)
  refine b_putF (pc' := 159) (ws' := [(h0, .inr (10, [.ref q1, .ref q2, .ref q3, .int (Int32.ofInt 0), .ref q4, .ref q5, .ref q6, .ref q7, .int (Int32.ofInt 900), .int (Int32.ofInt 540), .int (Int32.ofInt 30), .int (Int32.ofInt 1), .ref q8, .int (Int32.ofInt 0), .ref q9, .int (Int32.ofInt 0), .ref q10, .ref q11, .int (Int32.ofInt 0), .ref q12, .ref q13, .ref q14, .ref q15, .ref q16, .null, .int (Int32.ofInt 0), .null])), aI G q1 144, aI G q2 144, aZ G q3 12, aI G q4 16, aI G q5 16, aI G q6 16, aI G q7 16, aI G q8 1114112, aI G q9 16, aI G q10 16, aI G q11 16, aI G q12 16, aI G q13 16, aI G q14 16, aI G q15 16, aI G q16 16]) C hin 0 dX10_init_156 rfl ff_X10_71 rfl (Nat.le_of_ble_eq_true rfl) rfl ?_
  refine b_aload (pc' := 160) (x := h0) C 0 dX10_init_159 rfl rfl ?_
  refine b_sipush (pc' := 163) (n := 4096) C dX10_init_160 rfl (by decide) ?_
  refine b_newI (pc' := 165) (n := 4096) C dX10_init_163 rfl wa_int (by decide) ⟨Nat.le_of_ble_eq_true rfl, Nat.le_of_ble_eq_true rfl⟩ (fun q17 => ?_)
  refine b_putF (pc' := 168) (ws' := [(h0, .inr (10, [.ref q1, .ref q2, .ref q3, .int (Int32.ofInt 0), .ref q4, .ref q5, .ref q6, .ref q7, .int (Int32.ofInt 900), .int (Int32.ofInt 540), .int (Int32.ofInt 30), .int (Int32.ofInt 1), .ref q8, .int (Int32.ofInt 0), .ref q9, .int (Int32.ofInt 0), .ref q10, .ref q11, .int (Int32.ofInt 0), .ref q12, .ref q13, .ref q14, .ref q15, .ref q16, .ref q17, .int (Int32.ofInt 0), .null])), aI G q1 144, aI G q2 144, aZ G q3 12, aI G q4 16, aI G q5 16, aI G q6 16, aI G q7 16, aI G q8 1114112, aI G q9 16, aI G q10 16, aI G q11 16, aI G q12 16, aI G q13 16, aI G q14 16, aI G q15 16, aI G q16 16, aI G q17 4096]) C hin 0 dX10_init_165 rfl ff_X10_74 rfl (Nat.le_of_ble_eq_true rfl) rfl ?_
  refine b_aload (pc' := 169) (x := h0) C 0 dX10_init_168 rfl rfl ?_
  refine b_bipush (pc' := 171) (n := 48) C dX10_init_169 rfl (by decide) ?_
  refine b_newI (pc' := 173) (n := 48) C dX10_init_171 rfl wa_int (by decide) ⟨Nat.le_of_ble_eq_true rfl, Nat.le_of_ble_eq_true rfl⟩ (fun q18 => ?_)
  refine b_putF (pc' := 176) (ws' := [(h0, .inr (10, [.ref q1, .ref q2, .ref q3, .int (Int32.ofInt 0), .ref q4, .ref q5, .ref q6, .ref q7, .int (Int32.ofInt 900), .int (Int32.ofInt 540), .int (Int32.ofInt 30), .int (Int32.ofInt 1), .ref q8, .int (Int32.ofInt 0), .ref q9, .int (Int32.ofInt 0), .ref q10, .ref q11, .int (Int32.ofInt 0), .ref q12, .ref q13, .ref q14, .ref q15, .ref q16, .ref q17, .int (Int32.ofInt 0), .ref q18])), aI G q1 144, aI G q2 144, aZ G q3 12, aI G q4 16, aI G q5 16, aI G q6 16, aI G q7 16, aI G q8 1114112, aI G q9 16, aI G q10 16, aI G q11 16, aI G q12 16, aI G q13 16, aI G q14 16, aI G q15 16, aI G q16 16, aI G q17 4096, aI G q18 48]) C hin 0 dX10_init_173 rfl ff_X10_77 rfl (Nat.le_of_ble_eq_true rfl) rfl ?_
  exact tail_X10 rfl C (fun f ls h1 h2 => hret 225 _ _ dX10_init_225 ⟨cadM h0 q1 q2 q3 q4 q5 q6 q7 q8 q9 q10 q11 q12 q13 q14 q15 q16 q17 q18, f, [0, 1, 2, 3, 4, 5, 6, 7, 8, 9, 10, 11, 12, 13, 14, 15, 16, 17, 18], rfl, h1, h2, by decide, by rw [csM_eq]; rfl⟩)
