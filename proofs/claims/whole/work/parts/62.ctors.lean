theorem wo_i : Cond.instanceMethod objectInit ∈ gw := gw_mem 58 (by decide +kernel) rfl
theorem wo_c : Cond.code objectInit ⟨#[0xb1]⟩ 1 none ∈ gw := gw_mem 59 rfl rfl
theorem wa_int : Cond.arrayClass .int ∈ gw := gw_mem 79 (by decide +kernel) rfl
theorem wa_boolean : Cond.arrayClass .boolean ∈ gw := gw_mem 80 (by decide +kernel) rfl
theorem wa_long : Cond.arrayClass .long ∈ gw := gw_mem 357 (by decide +kernel) rfl
theorem wo_X7 : Cond.methodLink RX7 3 objectInit ∈ gw := gw_mem 86 (by decide +kernel) rfl
theorem ff_X7_9 : FF RX7 9 7 0 := ⟨(RX7, TX7, 5), rfl, by decide, gw_mem 87 (by decide +kernel) rfl, inwX7, ⟨tyX7, tyX7_ok, fun _ => ⟨rfl, rfl⟩⟩, nmX7, rfl, rfl⟩
theorem ff_X7_15 : FF RX7 15 7 1 := ⟨(RX7, TX7, 5), rfl, by decide, gw_mem 92 (by decide +kernel) rfl, inwX7, ⟨tyX7, tyX7_ok, fun _ => ⟨rfl, rfl⟩⟩, nmX7, rfl, rfl⟩
theorem ff_X7_18 : FF RX7 18 7 2 := ⟨(RX7, TX7, 5), rfl, by decide, gw_mem 97 (by decide +kernel) rfl, inwX7, ⟨tyX7, tyX7_ok, fun _ => ⟨rfl, rfl⟩⟩, nmX7, rfl, rfl⟩
theorem ff_X7_21 : FF RX7 21 7 3 := ⟨(RX7, TX7, 5), rfl, by decide, gw_mem 102 (by decide +kernel) rfl, inwX7, ⟨tyX7, tyX7_ok, fun _ => ⟨rfl, rfl⟩⟩, nmX7, rfl, rfl⟩
theorem cp_X7_24 : FP RX7 24 7 4 .int := ⟨(RX7, TX7, 5), rfl, by decide, gw_mem 107 (by decide +kernel) rfl, inwX7, ⟨tyX7, tyX7_ok⟩, nmX7, rfl, by decide +kernel⟩
theorem k_X7_init {G : GX} (h0 : Nat) : Ctor G 1 4 64 mX7_init [] h0 (.inr (7, [.null, .null, .null, .null, .int (Int32.ofInt 0)])) (fun w => ∃ (q1 : Nat) (q2 : Nat) (q3 : Nat) (q4 : Nat), w = [(h0, .inr (7, [.ref q1, .ref q2, .ref q3, .ref q4, .int (Int32.ofInt 0)])), aI G q1 16, aI G q2 16, aI G q3 16, aI G q4 16]) := by
  refine Ctor.of rfl rfl rfl (Nat.le_of_ble_eq_true rfl) (fun p e s m args below meth c A Q C hin hret => ?_)
  refine b_aload (pc' := 1) (x := h0) C 0 dX7_init_0 rfl rfl ?_
  refine b_objInit (pc' := 4) C dX7_init_1 rfl wo_X7 wo_i wo_c ⟨Nat.le_of_ble_eq_true rfl, Nat.le_of_ble_eq_true rfl⟩ ?_
  refine b_aload (pc' := 5) (x := h0) C 0 dX7_init_4 rfl rfl ?_
  refine b_bipush (pc' := 7) (n := 16) C dX7_init_5 rfl (by decide) ?_
  refine b_newI (pc' := 9) (n := 16) C dX7_init_7 rfl wa_int (by decide) ⟨Nat.le_of_ble_eq_true rfl, Nat.le_of_ble_eq_true rfl⟩ (fun q1 => ?_)
  refine b_putF (pc' := 12) (ws' := [(h0, .inr (7, [.ref q1, .null, .null, .null, .int (Int32.ofInt 0)])), aI G q1 16]) C hin 0 dX7_init_9 rfl ff_X7_9 rfl (Nat.le_of_ble_eq_true rfl) rfl ?_
  refine b_aload (pc' := 13) (x := h0) C 0 dX7_init_12 rfl rfl ?_
  refine b_bipush (pc' := 15) (n := 16) C dX7_init_13 rfl (by decide) ?_
  refine b_newI (pc' := 17) (n := 16) C dX7_init_15 rfl wa_int (by decide) ⟨Nat.le_of_ble_eq_true rfl, Nat.le_of_ble_eq_true rfl⟩ (fun q2 => ?_)
  refine b_putF (pc' := 20) (ws' := [(h0, .inr (7, [.ref q1, .ref q2, .null, .null, .int (Int32.ofInt 0)])), aI G q1 16, aI G q2 16]) C hin 0 dX7_init_17 rfl ff_X7_15 rfl (Nat.le_of_ble_eq_true rfl) rfl ?_
  refine b_aload (pc' := 21) (x := h0) C 0 dX7_init_20 rfl rfl ?_
  refine b_bipush (pc' := 23) (n := 16) C dX7_init_21 rfl (by decide) ?_
  refine b_newI (pc' := 25) (n := 16) C dX7_init_23 rfl wa_int (by decide) ⟨Nat.le_of_ble_eq_true rfl, Nat.le_of_ble_eq_true rfl⟩ (fun q3 => ?_)
  refine b_putF (pc' := 28) (ws' := [(h0, .inr (7, [.ref q1, .ref q2, .ref q3, .null, .int (Int32.ofInt 0)])), aI G q1 16, aI G q2 16, aI G q3 16]) C hin 0 dX7_init_25 rfl ff_X7_18 rfl (Nat.le_of_ble_eq_true rfl) rfl ?_
  refine b_aload (pc' := 29) (x := h0) C 0 dX7_init_28 rfl rfl ?_
  refine b_bipush (pc' := 31) (n := 16) C dX7_init_29 rfl (by decide) ?_
  refine b_newI (pc' := 33) (n := 16) C dX7_init_31 rfl wa_int (by decide) ⟨Nat.le_of_ble_eq_true rfl, Nat.le_of_ble_eq_true rfl⟩ (fun q4 => ?_)
  refine b_putF (pc' := 36) (ws' := [(h0, .inr (7, [.ref q1, .ref q2, .ref q3, .ref q4, .int (Int32.ofInt 0)])), aI G q1 16, aI G q2 16, aI G q3 16, aI G q4 16]) C hin 0 dX7_init_33 rfl ff_X7_21 rfl (Nat.le_of_ble_eq_true rfl) rfl ?_
  refine b_aload (pc' := 37) (x := h0) C 0 dX7_init_36 rfl rfl ?_
  refine b_iconst (pc' := 38) (n := 0) C dX7_init_37 rfl ?_
  refine b_putI (pc' := 41) (ws' := [(h0, .inr (7, [.ref q1, .ref q2, .ref q3, .ref q4, .int (Int32.ofInt 0)])), aI G q1 16, aI G q2 16, aI G q3 16, aI G q4 16]) C 0 dX7_init_38 rfl cp_X7_24 rfl (Nat.le_of_ble_eq_true rfl) rfl ?_
  exact hret 41 _ _ dX7_init_41 ⟨q1, q2, q3, q4, rfl⟩
theorem wo_X3 : Cond.methodLink RX3 3 objectInit ∈ gw := gw_mem 153 (by decide +kernel) rfl
theorem ff_X3_9 : FF RX3 9 3 0 := ⟨(RX3, TX3, 5), rfl, by decide, gw_mem 154 (by decide +kernel) rfl, inwX3, ⟨tyX3, tyX3_ok, fun _ => ⟨rfl, rfl⟩⟩, nmX3, rfl, rfl⟩
theorem ff_X3_15 : FF RX3 15 3 1 := ⟨(RX3, TX3, 5), rfl, by decide, gw_mem 157 (by decide +kernel) rfl, inwX3, ⟨tyX3, tyX3_ok, fun _ => ⟨rfl, rfl⟩⟩, nmX3, rfl, rfl⟩
theorem ff_X3_18 : FF RX3 18 3 2 := ⟨(RX3, TX3, 5), rfl, by decide, gw_mem 159 (by decide +kernel) rfl, inwX3, ⟨tyX3, tyX3_ok, fun _ => ⟨rfl, rfl⟩⟩, nmX3, rfl, rfl⟩
theorem cp_X3_21 : FP RX3 21 3 3 .int := ⟨(RX3, TX3, 5), rfl, by decide, gw_mem 161 (by decide +kernel) rfl, inwX3, ⟨tyX3, tyX3_ok⟩, nmX3, rfl, by decide +kernel⟩
theorem cp_X3_25 : FP RX3 25 3 4 .int := ⟨(RX3, TX3, 5), rfl, by decide, gw_mem 162 (by decide +kernel) rfl, inwX3, ⟨tyX3, tyX3_ok⟩, nmX3, rfl, by decide +kernel⟩
theorem k_X3_init {G : GX} (h0 : Nat) : Ctor G 1 3 48 mX3_init [] h0 (.inr (3, [.null, .null, .null, .int (Int32.ofInt 0), .int (Int32.ofInt 0)])) (fun w => ∃ (q1 : Nat) (q2 : Nat) (q3 : Nat), w = [(h0, .inr (3, [.ref q1, .ref q2, .ref q3, .int (Int32.ofInt 0), .int (Int32.ofInt 0)])), aI G q1 16, aI G q2 16, aI G q3 16]) := by
  refine Ctor.of rfl rfl rfl (Nat.le_of_ble_eq_true rfl) (fun p e s m args below meth c A Q C hin hret => ?_)
  refine b_aload (pc' := 1) (x := h0) C 0 dX3_init_0 rfl rfl ?_
  refine b_objInit (pc' := 4) C dX3_init_1 rfl wo_X3 wo_i wo_c ⟨Nat.le_of_ble_eq_true rfl, Nat.le_of_ble_eq_true rfl⟩ ?_
  refine b_aload (pc' := 5) (x := h0) C 0 dX3_init_4 rfl rfl ?_
  refine b_bipush (pc' := 7) (n := 16) C dX3_init_5 rfl (by decide) ?_
  refine b_newI (pc' := 9) (n := 16) C dX3_init_7 rfl wa_int (by decide) ⟨Nat.le_of_ble_eq_true rfl, Nat.le_of_ble_eq_true rfl⟩ (fun q1 => ?_)
  refine b_putF (pc' := 12) (ws' := [(h0, .inr (3, [.ref q1, .null, .null, .int (Int32.ofInt 0), .int (Int32.ofInt 0)])), aI G q1 16]) C hin 0 dX3_init_9 rfl ff_X3_9 rfl (Nat.le_of_ble_eq_true rfl) rfl ?_
  refine b_aload (pc' := 13) (x := h0) C 0 dX3_init_12 rfl rfl ?_
  refine b_bipush (pc' := 15) (n := 16) C dX3_init_13 rfl (by decide) ?_
  refine b_newI (pc' := 17) (n := 16) C dX3_init_15 rfl wa_int (by decide) ⟨Nat.le_of_ble_eq_true rfl, Nat.le_of_ble_eq_true rfl⟩ (fun q2 => ?_)
  refine b_putF (pc' := 20) (ws' := [(h0, .inr (3, [.ref q1, .ref q2, .null, .int (Int32.ofInt 0), .int (Int32.ofInt 0)])), aI G q1 16, aI G q2 16]) C hin 0 dX3_init_17 rfl ff_X3_15 rfl (Nat.le_of_ble_eq_true rfl) rfl ?_
  refine b_aload (pc' := 21) (x := h0) C 0 dX3_init_20 rfl rfl ?_
  refine b_bipush (pc' := 23) (n := 16) C dX3_init_21 rfl (by decide) ?_
  refine b_newI (pc' := 25) (n := 16) C dX3_init_23 rfl wa_int (by decide) ⟨Nat.le_of_ble_eq_true rfl, Nat.le_of_ble_eq_true rfl⟩ (fun q3 => ?_)
  refine b_putF (pc' := 28) (ws' := [(h0, .inr (3, [.ref q1, .ref q2, .ref q3, .int (Int32.ofInt 0), .int (Int32.ofInt 0)])), aI G q1 16, aI G q2 16, aI G q3 16]) C hin 0 dX3_init_25 rfl ff_X3_18 rfl (Nat.le_of_ble_eq_true rfl) rfl ?_
  refine b_aload (pc' := 29) (x := h0) C 0 dX3_init_28 rfl rfl ?_
  refine b_iconst (pc' := 30) (n := 0) C dX3_init_29 rfl ?_
  refine b_putI (pc' := 33) (ws' := [(h0, .inr (3, [.ref q1, .ref q2, .ref q3, .int (Int32.ofInt 0), .int (Int32.ofInt 0)])), aI G q1 16, aI G q2 16, aI G q3 16]) C 0 dX3_init_30 rfl cp_X3_21 rfl (Nat.le_of_ble_eq_true rfl) rfl ?_
  refine b_aload (pc' := 34) (x := h0) C 0 dX3_init_33 rfl rfl ?_
  refine b_iconst (pc' := 35) (n := 0) C dX3_init_34 rfl ?_
  refine b_putI (pc' := 38) (ws' := [(h0, .inr (3, [.ref q1, .ref q2, .ref q3, .int (Int32.ofInt 0), .int (Int32.ofInt 0)])), aI G q1 16, aI G q2 16, aI G q3 16]) C 0 dX3_init_35 rfl cp_X3_25 rfl (Nat.le_of_ble_eq_true rfl) rfl ?_
  exact hret 38 _ _ dX3_init_38 ⟨q1, q2, q3, rfl⟩
theorem wo_X2 : Cond.methodLink RX2 3 objectInit ∈ gw := gw_mem 127 (by decide +kernel) rfl
theorem ff_X2_9 : FF RX2 9 2 0 := ⟨(RX2, TX2, 4), rfl, by decide, gw_mem 128 (by decide +kernel) rfl, inwX2, ⟨tyX2, tyX2_ok, fun _ => ⟨rfl, rfl⟩⟩, nmX2, rfl, rfl⟩
theorem ff_X2_15 : FF RX2 15 2 1 := ⟨(RX2, TX2, 4), rfl, by decide, gw_mem 130 (by decide +kernel) rfl, inwX2, ⟨tyX2, tyX2_ok, fun _ => ⟨rfl, rfl⟩⟩, nmX2, rfl, rfl⟩
theorem ff_X2_18 : FF RX2 18 2 2 := ⟨(RX2, TX2, 4), rfl, by decide, gw_mem 131 (by decide +kernel) rfl, inwX2, ⟨tyX2, tyX2_ok, fun _ => ⟨rfl, rfl⟩⟩, nmX2, rfl, rfl⟩
theorem ff_X2_22 : FF RX2 22 2 3 := ⟨(RX2, TX2, 4), rfl, by decide, gw_mem 132 (by decide +kernel) rfl, inwX2, ⟨tyX2, tyX2_ok, fun _ => ⟨rfl, rfl⟩⟩, nmX2, rfl, rfl⟩
theorem k_X2_init {G : GX} (h0 a1 a2 : Nat) : Ctor G 1 2 32 mX2_init [.ref a1, .ref a2] h0 (.inr (2, [.null, .null, .null, .null])) (fun w => ∃ (q1 : Nat) (q2 : Nat), w = [(h0, .inr (2, [.ref q1, .ref q2, .ref a1, .ref a2])), aI G q1 16, aI G q2 16]) := by
  refine Ctor.of rfl rfl rfl (Nat.le_of_ble_eq_true rfl) (fun p e s m args below meth c A Q C hin hret => ?_)
  refine b_aload (pc' := 1) (x := h0) C 0 dX2_init_0 rfl rfl ?_
  refine b_objInit (pc' := 4) C dX2_init_1 rfl wo_X2 wo_i wo_c ⟨Nat.le_of_ble_eq_true rfl, Nat.le_of_ble_eq_true rfl⟩ ?_
  refine b_aload (pc' := 5) (x := h0) C 0 dX2_init_4 rfl rfl ?_
  refine b_bipush (pc' := 7) (n := 16) C dX2_init_5 rfl (by decide) ?_
  refine b_newI (pc' := 9) (n := 16) C dX2_init_7 rfl wa_int (by decide) ⟨Nat.le_of_ble_eq_true rfl, Nat.le_of_ble_eq_true rfl⟩ (fun q1 => ?_)
  refine b_putF (pc' := 12) (ws' := [(h0, .inr (2, [.ref q1, .null, .null, .null])), aI G q1 16]) C hin 0 dX2_init_9 rfl ff_X2_9 rfl (Nat.le_of_ble_eq_true rfl) rfl ?_
  refine b_aload (pc' := 13) (x := h0) C 0 dX2_init_12 rfl rfl ?_
  refine b_bipush (pc' := 15) (n := 16) C dX2_init_13 rfl (by decide) ?_
  refine b_newI (pc' := 17) (n := 16) C dX2_init_15 rfl wa_int (by decide) ⟨Nat.le_of_ble_eq_true rfl, Nat.le_of_ble_eq_true rfl⟩ (fun q2 => ?_)
  refine b_putF (pc' := 20) (ws' := [(h0, .inr (2, [.ref q1, .ref q2, .null, .null])), aI G q1 16, aI G q2 16]) C hin 0 dX2_init_17 rfl ff_X2_15 rfl (Nat.le_of_ble_eq_true rfl) rfl ?_
  refine b_aload (pc' := 21) (x := h0) C 0 dX2_init_20 rfl rfl ?_
  refine b_aload (pc' := 22) (x := a1) C 1 dX2_init_21 rfl rfl ?_
  refine b_putF (pc' := 25) (ws' := [(h0, .inr (2, [.ref q1, .ref q2, .ref a1, .null])), aI G q1 16, aI G q2 16]) C hin 0 dX2_init_22 rfl ff_X2_18 rfl (Nat.le_of_ble_eq_true rfl) rfl ?_
  refine b_aload (pc' := 26) (x := h0) C 0 dX2_init_25 rfl rfl ?_
  refine b_aload (pc' := 27) (x := a2) C 2 dX2_init_26 rfl rfl ?_
  refine b_putF (pc' := 30) (ws' := [(h0, .inr (2, [.ref q1, .ref q2, .ref a1, .ref a2])), aI G q1 16, aI G q2 16]) C hin 0 dX2_init_27 rfl ff_X2_22 rfl (Nat.le_of_ble_eq_true rfl) rfl ?_
  exact hret 30 _ _ dX2_init_30 ⟨q1, q2, rfl⟩
theorem wo_X1 : Cond.methodLink RX1 3 objectInit ∈ gw := gw_mem 179 (by decide +kernel) rfl
theorem ff_X1_9 : FF RX1 9 1 0 := ⟨(RX1, TX1, 8), rfl, by decide, gw_mem 180 (by decide +kernel) rfl, inwX1, ⟨tyX1, tyX1_ok, fun _ => ⟨rfl, rfl⟩⟩, nmX1, rfl, rfl⟩
theorem ff_X1_15 : FF RX1 15 1 1 := ⟨(RX1, TX1, 8), rfl, by decide, gw_mem 182 (by decide +kernel) rfl, inwX1, ⟨tyX1, tyX1_ok, fun _ => ⟨rfl, rfl⟩⟩, nmX1, rfl, rfl⟩
theorem ff_X1_18 : FF RX1 18 1 2 := ⟨(RX1, TX1, 8), rfl, by decide, gw_mem 183 (by decide +kernel) rfl, inwX1, ⟨tyX1, tyX1_ok, fun _ => ⟨rfl, rfl⟩⟩, nmX1, rfl, rfl⟩
theorem ff_X1_21 : FF RX1 21 1 3 := ⟨(RX1, TX1, 8), rfl, by decide, gw_mem 184 (by decide +kernel) rfl, inwX1, ⟨tyX1, tyX1_ok, fun _ => ⟨rfl, rfl⟩⟩, nmX1, rfl, rfl⟩
theorem ff_X1_24 : FF RX1 24 1 4 := ⟨(RX1, TX1, 8), rfl, by decide, gw_mem 185 (by decide +kernel) rfl, inwX1, ⟨tyX1, tyX1_ok, fun _ => ⟨rfl, rfl⟩⟩, nmX1, rfl, rfl⟩
theorem cp_X1_27 : FP RX1 27 1 6 .int := ⟨(RX1, TX1, 8), rfl, by decide, gw_mem 187 (by decide +kernel) rfl, inwX1, ⟨tyX1, tyX1_ok⟩, nmX1, rfl, by decide +kernel⟩
theorem cp_X1_31 : FP RX1 31 1 7 .int := ⟨(RX1, TX1, 8), rfl, by decide, gw_mem 188 (by decide +kernel) rfl, inwX1, ⟨tyX1, tyX1_ok⟩, nmX1, rfl, by decide +kernel⟩
theorem ff_X1_34 : FF RX1 34 1 5 := ⟨(RX1, TX1, 8), rfl, by decide, gw_mem 186 (by decide +kernel) rfl, inwX1, ⟨tyX1, tyX1_ok, fun _ => ⟨rfl, rfl⟩⟩, nmX1, rfl, rfl⟩
theorem k_X1_init {G : GX} (h0 a1 : Nat) : Ctor G 1 5 320 mX1_init [.ref a1] h0 (.inr (1, [.null, .null, .null, .null, .null, .null, .int (Int32.ofInt 0), .int (Int32.ofInt 0)])) (fun w => ∃ (q1 : Nat) (q2 : Nat) (q3 : Nat) (q4 : Nat) (q5 : Nat), w = [(h0, .inr (1, [.ref q1, .ref q2, .ref q3, .ref q4, .ref q5, .ref a1, .int (Int32.ofInt 0), .int (Int32.ofInt 0)])), aI G q1 256, aI G q2 16, aI G q3 16, aI G q4 16, aI G q5 16]) := by
  refine Ctor.of rfl rfl rfl (Nat.le_of_ble_eq_true rfl) (fun p e s m args below meth c A Q C hin hret => ?_)
  refine b_aload (pc' := 1) (x := h0) C 0 dX1_init_0 rfl rfl ?_
  refine b_objInit (pc' := 4) C dX1_init_1 rfl wo_X1 wo_i wo_c ⟨Nat.le_of_ble_eq_true rfl, Nat.le_of_ble_eq_true rfl⟩ ?_
  refine b_aload (pc' := 5) (x := h0) C 0 dX1_init_4 rfl rfl ?_
  refine b_sipush (pc' := 8) (n := 256) C dX1_init_5 rfl (by decide) ?_
  refine b_newI (pc' := 10) (n := 256) C dX1_init_8 rfl wa_int (by decide) ⟨Nat.le_of_ble_eq_true rfl, Nat.le_of_ble_eq_true rfl⟩ (fun q1 => ?_)
  refine b_putF (pc' := 13) (ws' := [(h0, .inr (1, [.ref q1, .null, .null, .null, .null, .null, .int (Int32.ofInt 0), .int (Int32.ofInt 0)])), aI G q1 256]) C hin 0 dX1_init_10 rfl ff_X1_9 rfl (Nat.le_of_ble_eq_true rfl) rfl ?_
  refine b_aload (pc' := 14) (x := h0) C 0 dX1_init_13 rfl rfl ?_
  refine b_bipush (pc' := 16) (n := 16) C dX1_init_14 rfl (by decide) ?_
  refine b_newI (pc' := 18) (n := 16) C dX1_init_16 rfl wa_int (by decide) ⟨Nat.le_of_ble_eq_true rfl, Nat.le_of_ble_eq_true rfl⟩ (fun q2 => ?_)
  refine b_putF (pc' := 21) (ws' := [(h0, .inr (1, [.ref q1, .ref q2, .null, .null, .null, .null, .int (Int32.ofInt 0), .int (Int32.ofInt 0)])), aI G q1 256, aI G q2 16]) C hin 0 dX1_init_18 rfl ff_X1_15 rfl (Nat.le_of_ble_eq_true rfl) rfl ?_
  refine b_aload (pc' := 22) (x := h0) C 0 dX1_init_21 rfl rfl ?_
  refine b_bipush (pc' := 24) (n := 16) C dX1_init_22 rfl (by decide) ?_
  refine b_newI (pc' := 26) (n := 16) C dX1_init_24 rfl wa_int (by decide) ⟨Nat.le_of_ble_eq_true rfl, Nat.le_of_ble_eq_true rfl⟩ (fun q3 => ?_)
  refine b_putF (pc' := 29) (ws' := [(h0, .inr (1, [.ref q1, .ref q2, .ref q3, .null, .null, .null, .int (Int32.ofInt 0), .int (Int32.ofInt 0)])), aI G q1 256, aI G q2 16, aI G q3 16]) C hin 0 dX1_init_26 rfl ff_X1_18 rfl (Nat.le_of_ble_eq_true rfl) rfl ?_
  refine b_aload (pc' := 30) (x := h0) C 0 dX1_init_29 rfl rfl ?_
  refine b_bipush (pc' := 32) (n := 16) C dX1_init_30 rfl (by decide) ?_
  refine b_newI (pc' := 34) (n := 16) C dX1_init_32 rfl wa_int (by decide) ⟨Nat.le_of_ble_eq_true rfl, Nat.le_of_ble_eq_true rfl⟩ (fun q4 => ?_)
  refine b_putF (pc' := 37) (ws' := [(h0, .inr (1, [.ref q1, .ref q2, .ref q3, .ref q4, .null, .null, .int (Int32.ofInt 0), .int (Int32.ofInt 0)])), aI G q1 256, aI G q2 16, aI G q3 16, aI G q4 16]) C hin 0 dX1_init_34 rfl ff_X1_21 rfl (Nat.le_of_ble_eq_true rfl) rfl ?_
  refine b_aload (pc' := 38) (x := h0) C 0 dX1_init_37 rfl rfl ?_
  refine b_bipush (pc' := 40) (n := 16) C dX1_init_38 rfl (by decide) ?_
  refine b_newI (pc' := 42) (n := 16) C dX1_init_40 rfl wa_int (by decide) ⟨Nat.le_of_ble_eq_true rfl, Nat.le_of_ble_eq_true rfl⟩ (fun q5 => ?_)
  refine b_putF (pc' := 45) (ws' := [(h0, .inr (1, [.ref q1, .ref q2, .ref q3, .ref q4, .ref q5, .null, .int (Int32.ofInt 0), .int (Int32.ofInt 0)])), aI G q1 256, aI G q2 16, aI G q3 16, aI G q4 16, aI G q5 16]) C hin 0 dX1_init_42 rfl ff_X1_24 rfl (Nat.le_of_ble_eq_true rfl) rfl ?_
  refine b_aload (pc' := 46) (x := h0) C 0 dX1_init_45 rfl rfl ?_
  refine b_iconst (pc' := 47) (n := 0) C dX1_init_46 rfl ?_
  refine b_putI (pc' := 50) (ws' := [(h0, .inr (1, [.ref q1, .ref q2, .ref q3, .ref q4, .ref q5, .null, .int (Int32.ofInt 0), .int (Int32.ofInt 0)])), aI G q1 256, aI G q2 16, aI G q3 16, aI G q4 16, aI G q5 16]) C 0 dX1_init_47 rfl cp_X1_27 rfl (Nat.le_of_ble_eq_true rfl) rfl ?_
  refine b_aload (pc' := 51) (x := h0) C 0 dX1_init_50 rfl rfl ?_
  refine b_iconst (pc' := 52) (n := 0) C dX1_init_51 rfl ?_
  refine b_putI (pc' := 55) (ws' := [(h0, .inr (1, [.ref q1, .ref q2, .ref q3, .ref q4, .ref q5, .null, .int (Int32.ofInt 0), .int (Int32.ofInt 0)])), aI G q1 256, aI G q2 16, aI G q3 16, aI G q4 16, aI G q5 16]) C 0 dX1_init_52 rfl cp_X1_31 rfl (Nat.le_of_ble_eq_true rfl) rfl ?_
  refine b_aload (pc' := 56) (x := h0) C 0 dX1_init_55 rfl rfl ?_
  refine b_aload (pc' := 57) (x := a1) C 1 dX1_init_56 rfl rfl ?_
  refine b_putF (pc' := 60) (ws' := [(h0, .inr (1, [.ref q1, .ref q2, .ref q3, .ref q4, .ref q5, .ref a1, .int (Int32.ofInt 0), .int (Int32.ofInt 0)])), aI G q1 256, aI G q2 16, aI G q3 16, aI G q4 16, aI G q5 16]) C hin 0 dX1_init_57 rfl ff_X1_34 rfl (Nat.le_of_ble_eq_true rfl) rfl ?_
  exact hret 60 _ _ dX1_init_60 ⟨q1, q2, q3, q4, q5, rfl⟩
theorem wo_X0 : Cond.methodLink RX0 3 objectInit ∈ gw := gw_mem 295 (by decide +kernel) rfl
theorem cp_X0_9 : FP RX0 9 0 0 .int := ⟨(RX0, TX0, 6), rfl, by decide, gw_mem 296 (by decide +kernel) rfl, inwX0, ⟨tyX0, tyX0_ok⟩, nmX0, rfl, by decide +kernel⟩
theorem cp_X0_15 : FP RX0 15 0 1 .int := ⟨(RX0, TX0, 6), rfl, by decide, gw_mem 298 (by decide +kernel) rfl, inwX0, ⟨tyX0, tyX0_ok⟩, nmX0, rfl, by decide +kernel⟩
theorem cp_X0_18 : FP RX0 18 0 2 .int := ⟨(RX0, TX0, 6), rfl, by decide, gw_mem 300 (by decide +kernel) rfl, inwX0, ⟨tyX0, tyX0_ok⟩, nmX0, rfl, by decide +kernel⟩
theorem cp_X0_21 : FP RX0 21 0 3 .boolean := ⟨(RX0, TX0, 6), rfl, by decide, gw_mem 302 (by decide +kernel) rfl, inwX0, ⟨tyX0, tyX0_ok⟩, nmX0, rfl, by decide +kernel⟩
theorem ff_X0_25 : FF RX0 25 0 4 := ⟨(RX0, TX0, 6), rfl, by decide, gw_mem 305 (by decide +kernel) rfl, inwX0, ⟨tyX0, tyX0_ok, fun _ => ⟨rfl, rfl⟩⟩, nmX0, rfl, rfl⟩
theorem ff_X0_29 : FF RX0 29 0 5 := ⟨(RX0, TX0, 6), rfl, by decide, gw_mem 306 (by decide +kernel) rfl, inwX0, ⟨tyX0, tyX0_ok, fun _ => ⟨rfl, rfl⟩⟩, nmX0, rfl, rfl⟩
theorem k_X0_init {G : GX} (h0 a1 a2 : Nat) : Ctor G 1 0 0 mX0_init [.ref a1, .ref a2] h0 (.inr (0, [.int (Int32.ofInt 0), .int (Int32.ofInt 0), .int (Int32.ofInt 0), .int (Int32.ofInt 0), .null, .null])) (fun w => w = [(h0, .inr (0, [.int (Int32.ofInt 900), .int (Int32.ofInt 540), .int (Int32.ofInt 30), .int (Int32.ofInt 1), .ref a1, .ref a2]))]) := by
  refine Ctor.of rfl rfl rfl (Nat.le_of_ble_eq_true rfl) (fun p e s m args below meth c A Q C hin hret => ?_)
  refine b_aload (pc' := 1) (x := h0) C 0 dX0_init_0 rfl rfl ?_
  refine b_objInit (pc' := 4) C dX0_init_1 rfl wo_X0 wo_i wo_c ⟨Nat.le_of_ble_eq_true rfl, Nat.le_of_ble_eq_true rfl⟩ ?_
  refine b_aload (pc' := 5) (x := h0) C 0 dX0_init_4 rfl rfl ?_
  refine b_sipush (pc' := 8) (n := 900) C dX0_init_5 rfl (by decide) ?_
  refine b_putI (pc' := 11) (ws' := [(h0, .inr (0, [.int (Int32.ofInt 900), .int (Int32.ofInt 0), .int (Int32.ofInt 0), .int (Int32.ofInt 0), .null, .null]))]) C 0 dX0_init_8 rfl cp_X0_9 rfl (Nat.le_of_ble_eq_true rfl) rfl ?_
  refine b_aload (pc' := 12) (x := h0) C 0 dX0_init_11 rfl rfl ?_
  refine b_sipush (pc' := 15) (n := 540) C dX0_init_12 rfl (by decide) ?_
  refine b_putI (pc' := 18) (ws' := [(h0, .inr (0, [.int (Int32.ofInt 900), .int (Int32.ofInt 540), .int (Int32.ofInt 0), .int (Int32.ofInt 0), .null, .null]))]) C 0 dX0_init_15 rfl cp_X0_15 rfl (Nat.le_of_ble_eq_true rfl) rfl ?_
  refine b_aload (pc' := 19) (x := h0) C 0 dX0_init_18 rfl rfl ?_
  refine b_bipush (pc' := 21) (n := 30) C dX0_init_19 rfl (by decide) ?_
  refine b_putI (pc' := 24) (ws' := [(h0, .inr (0, [.int (Int32.ofInt 900), .int (Int32.ofInt 540), .int (Int32.ofInt 30), .int (Int32.ofInt 0), .null, .null]))]) C 0 dX0_init_21 rfl cp_X0_18 rfl (Nat.le_of_ble_eq_true rfl) rfl ?_
  refine b_aload (pc' := 25) (x := h0) C 0 dX0_init_24 rfl rfl ?_
  refine b_iconst (pc' := 26) (n := 1) C dX0_init_25 rfl ?_
  refine b_putZ (pc' := 29) (x := 1) (ws' := [(h0, .inr (0, [.int (Int32.ofInt 900), .int (Int32.ofInt 540), .int (Int32.ofInt 30), .int (Int32.ofInt 1), .null, .null]))]) C 0 dX0_init_26 rfl cp_X0_21 (by decide) rfl (Nat.le_of_ble_eq_true rfl) rfl ?_
  refine b_aload (pc' := 30) (x := h0) C 0 dX0_init_29 rfl rfl ?_
  refine b_aload (pc' := 31) (x := a1) C 1 dX0_init_30 rfl rfl ?_
  refine b_putF (pc' := 34) (ws' := [(h0, .inr (0, [.int (Int32.ofInt 900), .int (Int32.ofInt 540), .int (Int32.ofInt 30), .int (Int32.ofInt 1), .ref a1, .null]))]) C hin 0 dX0_init_31 rfl ff_X0_25 rfl (Nat.le_of_ble_eq_true rfl) rfl ?_
  refine b_aload (pc' := 35) (x := h0) C 0 dX0_init_34 rfl rfl ?_
  refine b_aload (pc' := 36) (x := a2) C 2 dX0_init_35 rfl rfl ?_
  refine b_putF (pc' := 39) (ws' := [(h0, .inr (0, [.int (Int32.ofInt 900), .int (Int32.ofInt 540), .int (Int32.ofInt 30), .int (Int32.ofInt 1), .ref a1, .ref a2]))]) C hin 0 dX0_init_36 rfl ff_X0_29 rfl (Nat.le_of_ble_eq_true rfl) rfl ?_
  exact hret 39 _ _ dX0_init_39 rfl
theorem wo_X5 : Cond.methodLink RX5 5 objectInit ∈ gw := gw_mem 325 (by decide +kernel) rfl
theorem ff_X5_11 : FF RX5 11 5 2 := ⟨(RX5, TX5, 10), rfl, by decide, gw_mem 328 (by decide +kernel) rfl, inwX5, ⟨tyX5, tyX5_ok, fun _ => ⟨rfl, rfl⟩⟩, nmX5, rfl, rfl⟩
theorem ff_X5_15 : FF RX5 15 5 3 := ⟨(RX5, TX5, 10), rfl, by decide, gw_mem 329 (by decide +kernel) rfl, inwX5, ⟨tyX5, tyX5_ok, fun _ => ⟨rfl, rfl⟩⟩, nmX5, rfl, rfl⟩
theorem ff_X5_18 : FF RX5 18 5 4 := ⟨(RX5, TX5, 10), rfl, by decide, gw_mem 330 (by decide +kernel) rfl, inwX5, ⟨tyX5, tyX5_ok, fun _ => ⟨rfl, rfl⟩⟩, nmX5, rfl, rfl⟩
theorem ff_X5_22 : FF RX5 22 5 5 := ⟨(RX5, TX5, 10), rfl, by decide, gw_mem 331 (by decide +kernel) rfl, inwX5, ⟨tyX5, tyX5_ok, fun _ => ⟨rfl, rfl⟩⟩, nmX5, rfl, rfl⟩
theorem cp_X5_25 : FP RX5 25 5 6 .int := ⟨(RX5, TX5, 10), rfl, by decide, gw_mem 332 (by decide +kernel) rfl, inwX5, ⟨tyX5, tyX5_ok⟩, nmX5, rfl, by decide +kernel⟩
theorem cp_X5_29 : FP RX5 29 5 7 .int := ⟨(RX5, TX5, 10), rfl, by decide, gw_mem 333 (by decide +kernel) rfl, inwX5, ⟨tyX5, tyX5_ok⟩, nmX5, rfl, by decide +kernel⟩
theorem cp_X5_32 : FP RX5 32 5 8 .int := ⟨(RX5, TX5, 10), rfl, by decide, gw_mem 334 (by decide +kernel) rfl, inwX5, ⟨tyX5, tyX5_ok⟩, nmX5, rfl, by decide +kernel⟩
theorem cp_X5_35 : FP RX5 35 5 9 .boolean := ⟨(RX5, TX5, 10), rfl, by decide, gw_mem 335 (by decide +kernel) rfl, inwX5, ⟨tyX5, tyX5_ok⟩, nmX5, rfl, by decide +kernel⟩
theorem ff_X5_39 : FF RX5 39 5 0 := ⟨(RX5, TX5, 10), rfl, by decide, gw_mem 326 (by decide +kernel) rfl, inwX5, ⟨tyX5, tyX5_ok, fun _ => ⟨rfl, rfl⟩⟩, nmX5, rfl, rfl⟩
theorem ff_X5_43 : FF RX5 43 5 1 := ⟨(RX5, TX5, 10), rfl, by decide, gw_mem 327 (by decide +kernel) rfl, inwX5, ⟨tyX5, tyX5_ok, fun _ => ⟨rfl, rfl⟩⟩, nmX5, rfl, rfl⟩
theorem k_X5_init {G : GX} (h0 a1 a2 : Nat) : Ctor G 1 4 1360 mX5_init [.ref a1, .ref a2] h0 (.inr (5, [.null, .null, .null, .null, .null, .null, .int (Int32.ofInt 0), .int (Int32.ofInt 0), .int (Int32.ofInt 0), .int (Int32.ofInt 0)])) (fun w => ∃ (q1 : Nat) (q2 : Nat) (q3 : Nat) (q4 : Nat), w = [(h0, .inr (5, [.ref a1, .ref a2, .ref q1, .ref q2, .ref q3, .ref q4, .int (Int32.ofInt 0), .int (Int32.ofInt 0), .int (Int32.ofInt (-1)), .int (Int32.ofInt 0)])), aI G q1 1079, aI G q2 13, aL G q3 256, aI G q4 12]) := by
  refine Ctor.of rfl rfl rfl (Nat.le_of_ble_eq_true rfl) (fun p e s m args below meth c A Q C hin hret => ?_)
  refine b_aload (pc' := 1) (x := h0) C 0 dX5_init_0 rfl rfl ?_
  refine b_objInit (pc' := 4) C dX5_init_1 rfl wo_X5 wo_i wo_c ⟨Nat.le_of_ble_eq_true rfl, Nat.le_of_ble_eq_true rfl⟩ ?_
  refine b_aload (pc' := 5) (x := h0) C 0 dX5_init_4 rfl rfl ?_
  refine b_sipush (pc' := 8) (n := 1079) C dX5_init_5 rfl (by decide) ?_
  refine b_newI (pc' := 10) (n := 1079) C dX5_init_8 rfl wa_int (by decide) ⟨Nat.le_of_ble_eq_true rfl, Nat.le_of_ble_eq_true rfl⟩ (fun q1 => ?_)
  refine b_putF (pc' := 13) (ws' := [(h0, .inr (5, [.null, .null, .ref q1, .null, .null, .null, .int (Int32.ofInt 0), .int (Int32.ofInt 0), .int (Int32.ofInt 0), .int (Int32.ofInt 0)])), aI G q1 1079]) C hin 0 dX5_init_10 rfl ff_X5_11 rfl (Nat.le_of_ble_eq_true rfl) rfl ?_
  refine b_aload (pc' := 14) (x := h0) C 0 dX5_init_13 rfl rfl ?_
  refine b_bipush (pc' := 16) (n := 13) C dX5_init_14 rfl (by decide) ?_
  refine b_newI (pc' := 18) (n := 13) C dX5_init_16 rfl wa_int (by decide) ⟨Nat.le_of_ble_eq_true rfl, Nat.le_of_ble_eq_true rfl⟩ (fun q2 => ?_)
  refine b_putF (pc' := 21) (ws' := [(h0, .inr (5, [.null, .null, .ref q1, .ref q2, .null, .null, .int (Int32.ofInt 0), .int (Int32.ofInt 0), .int (Int32.ofInt 0), .int (Int32.ofInt 0)])), aI G q1 1079, aI G q2 13]) C hin 0 dX5_init_18 rfl ff_X5_15 rfl (Nat.le_of_ble_eq_true rfl) rfl ?_
  refine b_aload (pc' := 22) (x := h0) C 0 dX5_init_21 rfl rfl ?_
  refine b_sipush (pc' := 25) (n := 256) C dX5_init_22 rfl (by decide) ?_
  refine b_newL (pc' := 27) (n := 256) C dX5_init_25 rfl wa_long (by decide) ⟨Nat.le_of_ble_eq_true rfl, Nat.le_of_ble_eq_true rfl⟩ (fun q3 => ?_)
  refine b_putF (pc' := 30) (ws' := [(h0, .inr (5, [.null, .null, .ref q1, .ref q2, .ref q3, .null, .int (Int32.ofInt 0), .int (Int32.ofInt 0), .int (Int32.ofInt 0), .int (Int32.ofInt 0)])), aI G q1 1079, aI G q2 13, aL G q3 256]) C hin 0 dX5_init_27 rfl ff_X5_18 rfl (Nat.le_of_ble_eq_true rfl) rfl ?_
  refine b_aload (pc' := 31) (x := h0) C 0 dX5_init_30 rfl rfl ?_
  refine b_bipush (pc' := 33) (n := 12) C dX5_init_31 rfl (by decide) ?_
  refine b_newI (pc' := 35) (n := 12) C dX5_init_33 rfl wa_int (by decide) ⟨Nat.le_of_ble_eq_true rfl, Nat.le_of_ble_eq_true rfl⟩ (fun q4 => ?_)
  refine b_putF (pc' := 38) (ws' := [(h0, .inr (5, [.null, .null, .ref q1, .ref q2, .ref q3, .ref q4, .int (Int32.ofInt 0), .int (Int32.ofInt 0), .int (Int32.ofInt 0), .int (Int32.ofInt 0)])), aI G q1 1079, aI G q2 13, aL G q3 256, aI G q4 12]) C hin 0 dX5_init_35 rfl ff_X5_22 rfl (Nat.le_of_ble_eq_true rfl) rfl ?_
  refine b_aload (pc' := 39) (x := h0) C 0 dX5_init_38 rfl rfl ?_
  refine b_iconst (pc' := 40) (n := 0) C dX5_init_39 rfl ?_
  refine b_putI (pc' := 43) (ws' := [(h0, .inr (5, [.null, .null, .ref q1, .ref q2, .ref q3, .ref q4, .int (Int32.ofInt 0), .int (Int32.ofInt 0), .int (Int32.ofInt 0), .int (Int32.ofInt 0)])), aI G q1 1079, aI G q2 13, aL G q3 256, aI G q4 12]) C 0 dX5_init_40 rfl cp_X5_25 rfl (Nat.le_of_ble_eq_true rfl) rfl ?_
  refine b_aload (pc' := 44) (x := h0) C 0 dX5_init_43 rfl rfl ?_
  refine b_iconst (pc' := 45) (n := 0) C dX5_init_44 rfl ?_
  refine b_putI (pc' := 48) (ws' := [(h0, .inr (5, [.null, .null, .ref q1, .ref q2, .ref q3, .ref q4, .int (Int32.ofInt 0), .int (Int32.ofInt 0), .int (Int32.ofInt 0), .int (Int32.ofInt 0)])), aI G q1 1079, aI G q2 13, aL G q3 256, aI G q4 12]) C 0 dX5_init_45 rfl cp_X5_29 rfl (Nat.le_of_ble_eq_true rfl) rfl ?_
  refine b_aload (pc' := 49) (x := h0) C 0 dX5_init_48 rfl rfl ?_
  refine b_iconst (pc' := 50) (n := (-1)) C dX5_init_49 rfl ?_
  refine b_putI (pc' := 53) (ws' := [(h0, .inr (5, [.null, .null, .ref q1, .ref q2, .ref q3, .ref q4, .int (Int32.ofInt 0), .int (Int32.ofInt 0), .int (Int32.ofInt (-1)), .int (Int32.ofInt 0)])), aI G q1 1079, aI G q2 13, aL G q3 256, aI G q4 12]) C 0 dX5_init_50 rfl cp_X5_32 rfl (Nat.le_of_ble_eq_true rfl) rfl ?_
  refine b_aload (pc' := 54) (x := h0) C 0 dX5_init_53 rfl rfl ?_
  refine b_iconst (pc' := 55) (n := 0) C dX5_init_54 rfl ?_
  refine b_putZ (pc' := 58) (x := 0) (ws' := [(h0, .inr (5, [.null, .null, .ref q1, .ref q2, .ref q3, .ref q4, .int (Int32.ofInt 0), .int (Int32.ofInt 0), .int (Int32.ofInt (-1)), .int (Int32.ofInt 0)])), aI G q1 1079, aI G q2 13, aL G q3 256, aI G q4 12]) C 0 dX5_init_55 rfl cp_X5_35 (by decide) rfl (Nat.le_of_ble_eq_true rfl) rfl ?_
  refine b_aload (pc' := 59) (x := h0) C 0 dX5_init_58 rfl rfl ?_
  refine b_aload (pc' := 60) (x := a1) C 1 dX5_init_59 rfl rfl ?_
  refine b_putF (pc' := 63) (ws' := [(h0, .inr (5, [.ref a1, .null, .ref q1, .ref q2, .ref q3, .ref q4, .int (Int32.ofInt 0), .int (Int32.ofInt 0), .int (Int32.ofInt (-1)), .int (Int32.ofInt 0)])), aI G q1 1079, aI G q2 13, aL G q3 256, aI G q4 12]) C hin 0 dX5_init_60 rfl ff_X5_39 rfl (Nat.le_of_ble_eq_true rfl) rfl ?_
  refine b_aload (pc' := 64) (x := h0) C 0 dX5_init_63 rfl rfl ?_
  refine b_aload (pc' := 65) (x := a2) C 2 dX5_init_64 rfl rfl ?_
  refine b_putF (pc' := 68) (ws' := [(h0, .inr (5, [.ref a1, .ref a2, .ref q1, .ref q2, .ref q3, .ref q4, .int (Int32.ofInt 0), .int (Int32.ofInt 0), .int (Int32.ofInt (-1)), .int (Int32.ofInt 0)])), aI G q1 1079, aI G q2 13, aL G q3 256, aI G q4 12]) C hin 0 dX5_init_65 rfl ff_X5_43 rfl (Nat.le_of_ble_eq_true rfl) rfl ?_
  exact hret 68 _ _ dX5_init_68 ⟨q1, q2, q3, q4, rfl⟩
theorem wo_X6 : Cond.methodLink RX6 3 objectInit ∈ gw := gw_mem 254 (by decide +kernel) rfl
theorem ff_X6_9 : FF RX6 9 6 0 := ⟨(RX6, TX6, 9), rfl, by decide, gw_mem 255 (by decide +kernel) rfl, inwX6, ⟨tyX6, tyX6_ok, fun _ => ⟨rfl, rfl⟩⟩, nmX6, rfl, rfl⟩
theorem ff_X6_15 : FF RX6 15 6 1 := ⟨(RX6, TX6, 9), rfl, by decide, gw_mem 257 (by decide +kernel) rfl, inwX6, ⟨tyX6, tyX6_ok, fun _ => ⟨rfl, rfl⟩⟩, nmX6, rfl, rfl⟩
theorem ff_X6_18 : FF RX6 18 6 2 := ⟨(RX6, TX6, 9), rfl, by decide, gw_mem 259 (by decide +kernel) rfl, inwX6, ⟨tyX6, tyX6_ok, fun _ => ⟨rfl, rfl⟩⟩, nmX6, rfl, rfl⟩
theorem ff_X6_21 : FF RX6 21 6 3 := ⟨(RX6, TX6, 9), rfl, by decide, gw_mem 261 (by decide +kernel) rfl, inwX6, ⟨tyX6, tyX6_ok, fun _ => ⟨rfl, rfl⟩⟩, nmX6, rfl, rfl⟩
theorem ff_X6_24 : FF RX6 24 6 4 := ⟨(RX6, TX6, 9), rfl, by decide, gw_mem 263 (by decide +kernel) rfl, inwX6, ⟨tyX6, tyX6_ok, fun _ => ⟨rfl, rfl⟩⟩, nmX6, rfl, rfl⟩
theorem cp_X6_27 : FP RX6 27 6 5 .int := ⟨(RX6, TX6, 9), rfl, by decide, gw_mem 265 (by decide +kernel) rfl, inwX6, ⟨tyX6, tyX6_ok⟩, nmX6, rfl, by decide +kernel⟩
theorem ff_X6_31 : FF RX6 31 6 6 := ⟨(RX6, TX6, 9), rfl, by decide, gw_mem 268 (by decide +kernel) rfl, inwX6, ⟨tyX6, tyX6_ok, fun _ => ⟨rfl, rfl⟩⟩, nmX6, rfl, rfl⟩
theorem ff_X6_35 : FF RX6 35 6 7 := ⟨(RX6, TX6, 9), rfl, by decide, gw_mem 269 (by decide +kernel) rfl, inwX6, ⟨tyX6, tyX6_ok, fun _ => ⟨rfl, rfl⟩⟩, nmX6, rfl, rfl⟩
theorem ff_X6_39 : FF RX6 39 6 8 := ⟨(RX6, TX6, 9), rfl, by decide, gw_mem 270 (by decide +kernel) rfl, inwX6, ⟨tyX6, tyX6_ok, fun _ => ⟨rfl, rfl⟩⟩, nmX6, rfl, rfl⟩
theorem k_X6_init {G : GX} (h0 a1 a2 a3 : Nat) : Ctor G 1 5 80 mX6_init [.ref a1, .ref a2, .ref a3] h0 (.inr (6, [.null, .null, .null, .null, .null, .int (Int32.ofInt 0), .null, .null, .null])) (fun w => ∃ (q1 : Nat) (q2 : Nat) (q3 : Nat) (q4 : Nat) (q5 : Nat), w = [(h0, .inr (6, [.ref q1, .ref q2, .ref q3, .ref q4, .ref q5, .int (Int32.ofInt 0), .ref a1, .ref a2, .ref a3])), aI G q1 16, aI G q2 16, aI G q3 16, aI G q4 16, aI G q5 16]) := by
  refine Ctor.of rfl rfl rfl (Nat.le_of_ble_eq_true rfl) (fun p e s m args below meth c A Q C hin hret => ?_)
  refine b_aload (pc' := 1) (x := h0) C 0 dX6_init_0 rfl rfl ?_
  refine b_objInit (pc' := 4) C dX6_init_1 rfl wo_X6 wo_i wo_c ⟨Nat.le_of_ble_eq_true rfl, Nat.le_of_ble_eq_true rfl⟩ ?_
  refine b_aload (pc' := 5) (x := h0) C 0 dX6_init_4 rfl rfl ?_
  refine b_bipush (pc' := 7) (n := 16) C dX6_init_5 rfl (by decide) ?_
  refine b_newI (pc' := 9) (n := 16) C dX6_init_7 rfl wa_int (by decide) ⟨Nat.le_of_ble_eq_true rfl, Nat.le_of_ble_eq_true rfl⟩ (fun q1 => ?_)
  refine b_putF (pc' := 12) (ws' := [(h0, .inr (6, [.ref q1, .null, .null, .null, .null, .int (Int32.ofInt 0), .null, .null, .null])), aI G q1 16]) C hin 0 dX6_init_9 rfl ff_X6_9 rfl (Nat.le_of_ble_eq_true rfl) rfl ?_
  refine b_aload (pc' := 13) (x := h0) C 0 dX6_init_12 rfl rfl ?_
  refine b_bipush (pc' := 15) (n := 16) C dX6_init_13 rfl (by decide) ?_
  refine b_newI (pc' := 17) (n := 16) C dX6_init_15 rfl wa_int (by decide) ⟨Nat.le_of_ble_eq_true rfl, Nat.le_of_ble_eq_true rfl⟩ (fun q2 => ?_)
  refine b_putF (pc' := 20) (ws' := [(h0, .inr (6, [.ref q1, .ref q2, .null, .null, .null, .int (Int32.ofInt 0), .null, .null, .null])), aI G q1 16, aI G q2 16]) C hin 0 dX6_init_17 rfl ff_X6_15 rfl (Nat.le_of_ble_eq_true rfl) rfl ?_
  refine b_aload (pc' := 21) (x := h0) C 0 dX6_init_20 rfl rfl ?_
  refine b_bipush (pc' := 23) (n := 16) C dX6_init_21 rfl (by decide) ?_
  refine b_newI (pc' := 25) (n := 16) C dX6_init_23 rfl wa_int (by decide) ⟨Nat.le_of_ble_eq_true rfl, Nat.le_of_ble_eq_true rfl⟩ (fun q3 => ?_)
  refine b_putF (pc' := 28) (ws' := [(h0, .inr (6, [.ref q1, .ref q2, .ref q3, .null, .null, .int (Int32.ofInt 0), .null, .null, .null])), aI G q1 16, aI G q2 16, aI G q3 16]) C hin 0 dX6_init_25 rfl ff_X6_18 rfl (Nat.le_of_ble_eq_true rfl) rfl ?_
  refine b_aload (pc' := 29) (x := h0) C 0 dX6_init_28 rfl rfl ?_
  refine b_bipush (pc' := 31) (n := 16) C dX6_init_29 rfl (by decide) ?_
  refine b_newI (pc' := 33) (n := 16) C dX6_init_31 rfl wa_int (by decide) ⟨Nat.le_of_ble_eq_true rfl, Nat.le_of_ble_eq_true rfl⟩ (fun q4 => ?_)
  refine b_putF (pc' := 36) (ws' := [(h0, .inr (6, [.ref q1, .ref q2, .ref q3, .ref q4, .null, .int (Int32.ofInt 0), .null, .null, .null])), aI G q1 16, aI G q2 16, aI G q3 16, aI G q4 16]) C hin 0 dX6_init_33 rfl ff_X6_21 rfl (Nat.le_of_ble_eq_true rfl) rfl ?_
  refine b_aload (pc' := 37) (x := h0) C 0 dX6_init_36 rfl rfl ?_
  refine b_bipush (pc' := 39) (n := 16) C dX6_init_37 rfl (by decide) ?_
  refine b_newI (pc' := 41) (n := 16) C dX6_init_39 rfl wa_int (by decide) ⟨Nat.le_of_ble_eq_true rfl, Nat.le_of_ble_eq_true rfl⟩ (fun q5 => ?_)
  refine b_putF (pc' := 44) (ws' := [(h0, .inr (6, [.ref q1, .ref q2, .ref q3, .ref q4, .ref q5, .int (Int32.ofInt 0), .null, .null, .null])), aI G q1 16, aI G q2 16, aI G q3 16, aI G q4 16, aI G q5 16]) C hin 0 dX6_init_41 rfl ff_X6_24 rfl (Nat.le_of_ble_eq_true rfl) rfl ?_
  refine b_aload (pc' := 45) (x := h0) C 0 dX6_init_44 rfl rfl ?_
  refine b_iconst (pc' := 46) (n := 0) C dX6_init_45 rfl ?_
  refine b_putI (pc' := 49) (ws' := [(h0, .inr (6, [.ref q1, .ref q2, .ref q3, .ref q4, .ref q5, .int (Int32.ofInt 0), .null, .null, .null])), aI G q1 16, aI G q2 16, aI G q3 16, aI G q4 16, aI G q5 16]) C 0 dX6_init_46 rfl cp_X6_27 rfl (Nat.le_of_ble_eq_true rfl) rfl ?_
  refine b_aload (pc' := 50) (x := h0) C 0 dX6_init_49 rfl rfl ?_
  refine b_aload (pc' := 51) (x := a1) C 1 dX6_init_50 rfl rfl ?_
  refine b_putF (pc' := 54) (ws' := [(h0, .inr (6, [.ref q1, .ref q2, .ref q3, .ref q4, .ref q5, .int (Int32.ofInt 0), .ref a1, .null, .null])), aI G q1 16, aI G q2 16, aI G q3 16, aI G q4 16, aI G q5 16]) C hin 0 dX6_init_51 rfl ff_X6_31 rfl (Nat.le_of_ble_eq_true rfl) rfl ?_
  refine b_aload (pc' := 55) (x := h0) C 0 dX6_init_54 rfl rfl ?_
  refine b_aload (pc' := 56) (x := a2) C 2 dX6_init_55 rfl rfl ?_
  refine b_putF (pc' := 59) (ws' := [(h0, .inr (6, [.ref q1, .ref q2, .ref q3, .ref q4, .ref q5, .int (Int32.ofInt 0), .ref a1, .ref a2, .null])), aI G q1 16, aI G q2 16, aI G q3 16, aI G q4 16, aI G q5 16]) C hin 0 dX6_init_56 rfl ff_X6_35 rfl (Nat.le_of_ble_eq_true rfl) rfl ?_
  refine b_aload (pc' := 60) (x := h0) C 0 dX6_init_59 rfl rfl ?_
  refine b_aload (pc' := 61) (x := a3) C 3 dX6_init_60 rfl rfl ?_
  refine b_putF (pc' := 64) (ws' := [(h0, .inr (6, [.ref q1, .ref q2, .ref q3, .ref q4, .ref q5, .int (Int32.ofInt 0), .ref a1, .ref a2, .ref a3])), aI G q1 16, aI G q2 16, aI G q3 16, aI G q4 16, aI G q5 16]) C hin 0 dX6_init_61 rfl ff_X6_39 rfl (Nat.le_of_ble_eq_true rfl) rfl ?_
  exact hret 64 _ _ dX6_init_64 ⟨q1, q2, q3, q4, q5, rfl⟩
theorem wo_X4 : Cond.methodLink RX4 3 objectInit ∈ gw := gw_mem 147 (by decide +kernel) rfl
theorem ff_X4_9 : FF RX4 9 4 0 := ⟨(RX4, TX4, 12), rfl, by decide, gw_mem 206 (by decide +kernel) rfl, inwX4, ⟨tyX4, tyX4_ok, fun _ => ⟨rfl, rfl⟩⟩, nmX4, rfl, rfl⟩
theorem ff_X4_15 : FF RX4 15 4 1 := ⟨(RX4, TX4, 12), rfl, by decide, gw_mem 208 (by decide +kernel) rfl, inwX4, ⟨tyX4, tyX4_ok, fun _ => ⟨rfl, rfl⟩⟩, nmX4, rfl, rfl⟩
theorem ff_X4_18 : FF RX4 18 4 2 := ⟨(RX4, TX4, 12), rfl, by decide, gw_mem 210 (by decide +kernel) rfl, inwX4, ⟨tyX4, tyX4_ok, fun _ => ⟨rfl, rfl⟩⟩, nmX4, rfl, rfl⟩
theorem cp_X4_21 : FP RX4 21 4 3 .int := ⟨(RX4, TX4, 12), rfl, by decide, gw_mem 212 (by decide +kernel) rfl, inwX4, ⟨tyX4, tyX4_ok⟩, nmX4, rfl, by decide +kernel⟩
theorem cp_X4_25 : FP RX4 25 4 4 .int := ⟨(RX4, TX4, 12), rfl, by decide, gw_mem 215 (by decide +kernel) rfl, inwX4, ⟨tyX4, tyX4_ok⟩, nmX4, rfl, by decide +kernel⟩
theorem ff_X4_28 : FF RX4 28 4 5 := ⟨(RX4, TX4, 12), rfl, by decide, gw_mem 217 (by decide +kernel) rfl, inwX4, ⟨tyX4, tyX4_ok, fun _ => ⟨rfl, rfl⟩⟩, nmX4, rfl, rfl⟩
theorem ff_X4_31 : FF RX4 31 4 6 := ⟨(RX4, TX4, 12), rfl, by decide, gw_mem 218 (by decide +kernel) rfl, inwX4, ⟨tyX4, tyX4_ok, fun _ => ⟨rfl, rfl⟩⟩, nmX4, rfl, rfl⟩
theorem nw_X4_34 : NW RX4 34 3 [.null, .null, .null, .int (Int32.ofInt 0), .int (Int32.ofInt 0)] := ⟨(RX3, TX3, 5), rfl, inwX3, ⟨tyX3, tyX3_ok, fun j hj => match j, hj with | 0, _ => rfl | 1, _ => rfl | 2, _ => rfl | 3, _ => rfl | 4, _ => rfl | n + 5, h => absurd h (by show ¬ n + 5 < 5; omega)⟩, gw_mem 148 (by decide +kernel) rfl, gw_mem 149 (by decide +kernel) rfl, gw_mem 44 (by decide +kernel) rfl, rfl⟩
theorem cl_X4_36 : CL RX4 36 mX3_init 0 := ⟨Or.inr ⟨RX9, by decide +kernel⟩, gw_mem 151 (by decide +kernel) rfl, gw_mem 44 (by decide +kernel) rfl, mwX3_init, rfl, rfl, ⟨by decide, by decide, by decide +kernel⟩, by decide⟩
theorem ff_X4_37 : FF RX4 37 4 10 := ⟨(RX4, TX4, 12), rfl, by decide, gw_mem 222 (by decide +kernel) rfl, inwX4, ⟨tyX4, tyX4_ok, fun _ => ⟨rfl, rfl⟩⟩, nmX4, rfl, rfl⟩
theorem nw_X4_41 : NW RX4 41 1 [.null, .null, .null, .null, .null, .null, .int (Int32.ofInt 0), .int (Int32.ofInt 0)] := ⟨(RX1, TX1, 8), rfl, inwX1, ⟨tyX1, tyX1_ok, fun j hj => match j, hj with | 0, _ => rfl | 1, _ => rfl | 2, _ => rfl | 3, _ => rfl | 4, _ => rfl | 5, _ => rfl | 6, _ => rfl | 7, _ => rfl | n + 8, h => absurd h (by show ¬ n + 8 < 8; omega)⟩, gw_mem 174 (by decide +kernel) rfl, gw_mem 175 (by decide +kernel) rfl, gw_mem 45 (by decide +kernel) rfl, rfl⟩
theorem cg_X4_37 : FL RX4 37 4 10 := ⟨(RX4, TX4, 12), rfl, by decide, gw_mem 222 (by decide +kernel) rfl, inwX4⟩
theorem cl_X4_43 : CL RX4 43 mX1_init 1 := ⟨Or.inl (gw_mem 176 (by decide +kernel) rfl), gw_mem 177 (by decide +kernel) rfl, gw_mem 45 (by decide +kernel) rfl, mwX1_init, rfl, rfl, ⟨by decide, by decide, by decide +kernel⟩, by decide⟩
theorem ff_X4_46 : FF RX4 46 4 11 := ⟨(RX4, TX4, 12), rfl, by decide, gw_mem 223 (by decide +kernel) rfl, inwX4, ⟨tyX4, tyX4_ok, fun _ => ⟨rfl, rfl⟩⟩, nmX4, rfl, rfl⟩
theorem ff_X4_50 : FF RX4 50 4 7 := ⟨(RX4, TX4, 12), rfl, by decide, gw_mem 219 (by decide +kernel) rfl, inwX4, ⟨tyX4, tyX4_ok, fun _ => ⟨rfl, rfl⟩⟩, nmX4, rfl, rfl⟩
theorem ff_X4_54 : FF RX4 54 4 8 := ⟨(RX4, TX4, 12), rfl, by decide, gw_mem 220 (by decide +kernel) rfl, inwX4, ⟨tyX4, tyX4_ok, fun _ => ⟨rfl, rfl⟩⟩, nmX4, rfl, rfl⟩
theorem ff_X4_58 : FF RX4 58 4 9 := ⟨(RX4, TX4, 12), rfl, by decide, gw_mem 221 (by decide +kernel) rfl, inwX4, ⟨tyX4, tyX4_ok, fun _ => ⟨rfl, rfl⟩⟩, nmX4, rfl, rfl⟩
theorem k_X4_init {G : GX} (h0 a1 a2 a3 : Nat) : Ctor G 2 15 462 mX4_init [.ref a1, .ref a2, .ref a3] h0 (.inr (4, [.null, .null, .null, .int (Int32.ofInt 0), .int (Int32.ofInt 0), .null, .null, .null, .null, .null, .null, .null])) (fun w => ∃ (q1 : Nat) (q2 : Nat) (q3 : Nat) (q4 : Nat) (q5 : Nat) (q6 : Nat) (o6_1 : Nat) (o6_2 : Nat) (o6_3 : Nat) (q7 : Nat) (o7_1 : Nat) (o7_2 : Nat) (o7_3 : Nat) (o7_4 : Nat) (o7_5 : Nat), w = [(h0, .inr (4, [.ref q1, .ref q2, .ref q3, .int (Int32.ofInt 0), .int (Int32.ofInt 0), .ref q4, .ref q5, .ref a1, .ref a2, .ref a3, .ref q6, .ref q7])), aI G q1 16, aI G q2 16, aI G q3 16, aI G q4 16, aI G q5 17, (q6, .inr (3, [.ref o6_1, .ref o6_2, .ref o6_3, .int (Int32.ofInt 0), .int (Int32.ofInt 0)])), aI G o6_1 16, aI G o6_2 16, aI G o6_3 16, (q7, .inr (1, [.ref o7_1, .ref o7_2, .ref o7_3, .ref o7_4, .ref o7_5, .ref q6, .int (Int32.ofInt 0), .int (Int32.ofInt 0)])), aI G o7_1 256, aI G o7_2 16, aI G o7_3 16, aI G o7_4 16, aI G o7_5 16]) := by
  refine Ctor.of rfl rfl rfl (Nat.le_of_ble_eq_true rfl) (fun p e s m args below meth c A Q C hin hret => ?_)
  refine b_aload (pc' := 1) (x := h0) C 0 dX4_init_0 rfl rfl ?_
  refine b_objInit (pc' := 4) C dX4_init_1 rfl wo_X4 wo_i wo_c ⟨Nat.le_of_ble_eq_true rfl, Nat.le_of_ble_eq_true rfl⟩ ?_
  refine b_aload (pc' := 5) (x := h0) C 0 dX4_init_4 rfl rfl ?_
  refine b_bipush (pc' := 7) (n := 16) C dX4_init_5 rfl (by decide) ?_
  refine b_newI (pc' := 9) (n := 16) C dX4_init_7 rfl wa_int (by decide) ⟨Nat.le_of_ble_eq_true rfl, Nat.le_of_ble_eq_true rfl⟩ (fun q1 => ?_)
  refine b_putF (pc' := 12) (ws' := [(h0, .inr (4, [.ref q1, .null, .null, .int (Int32.ofInt 0), .int (Int32.ofInt 0), .null, .null, .null, .null, .null, .null, .null])), aI G q1 16]) C hin 0 dX4_init_9 rfl ff_X4_9 rfl (Nat.le_of_ble_eq_true rfl) rfl ?_
  refine b_aload (pc' := 13) (x := h0) C 0 dX4_init_12 rfl rfl ?_
  refine b_bipush (pc' := 15) (n := 16) C dX4_init_13 rfl (by decide) ?_
  refine b_newI (pc' := 17) (n := 16) C dX4_init_15 rfl wa_int (by decide) ⟨Nat.le_of_ble_eq_true rfl, Nat.le_of_ble_eq_true rfl⟩ (fun q2 => ?_)
  refine b_putF (pc' := 20) (ws' := [(h0, .inr (4, [.ref q1, .ref q2, .null, .int (Int32.ofInt 0), .int (Int32.ofInt 0), .null, .null, .null, .null, .null, .null, .null])), aI G q1 16, aI G q2 16]) C hin 0 dX4_init_17 rfl ff_X4_15 rfl (Nat.le_of_ble_eq_true rfl) rfl ?_
  refine b_aload (pc' := 21) (x := h0) C 0 dX4_init_20 rfl rfl ?_
  refine b_bipush (pc' := 23) (n := 16) C dX4_init_21 rfl (by decide) ?_
  refine b_newI (pc' := 25) (n := 16) C dX4_init_23 rfl wa_int (by decide) ⟨Nat.le_of_ble_eq_true rfl, Nat.le_of_ble_eq_true rfl⟩ (fun q3 => ?_)
  refine b_putF (pc' := 28) (ws' := [(h0, .inr (4, [.ref q1, .ref q2, .ref q3, .int (Int32.ofInt 0), .int (Int32.ofInt 0), .null, .null, .null, .null, .null, .null, .null])), aI G q1 16, aI G q2 16, aI G q3 16]) C hin 0 dX4_init_25 rfl ff_X4_18 rfl (Nat.le_of_ble_eq_true rfl) rfl ?_
  refine b_aload (pc' := 29) (x := h0) C 0 dX4_init_28 rfl rfl ?_
  refine b_iconst (pc' := 30) (n := 0) C dX4_init_29 rfl ?_
  refine b_putI (pc' := 33) (ws' := [(h0, .inr (4, [.ref q1, .ref q2, .ref q3, .int (Int32.ofInt 0), .int (Int32.ofInt 0), .null, .null, .null, .null, .null, .null, .null])), aI G q1 16, aI G q2 16, aI G q3 16]) C 0 dX4_init_30 rfl cp_X4_21 rfl (Nat.le_of_ble_eq_true rfl) rfl ?_
  refine b_aload (pc' := 34) (x := h0) C 0 dX4_init_33 rfl rfl ?_
  refine b_iconst (pc' := 35) (n := 0) C dX4_init_34 rfl ?_
  refine b_putI (pc' := 38) (ws' := [(h0, .inr (4, [.ref q1, .ref q2, .ref q3, .int (Int32.ofInt 0), .int (Int32.ofInt 0), .null, .null, .null, .null, .null, .null, .null])), aI G q1 16, aI G q2 16, aI G q3 16]) C 0 dX4_init_35 rfl cp_X4_25 rfl (Nat.le_of_ble_eq_true rfl) rfl ?_
  refine b_aload (pc' := 39) (x := h0) C 0 dX4_init_38 rfl rfl ?_
  refine b_bipush (pc' := 41) (n := 16) C dX4_init_39 rfl (by decide) ?_
  refine b_newI (pc' := 43) (n := 16) C dX4_init_41 rfl wa_int (by decide) ⟨Nat.le_of_ble_eq_true rfl, Nat.le_of_ble_eq_true rfl⟩ (fun q4 => ?_)
  refine b_putF (pc' := 46) (ws' := [(h0, .inr (4, [.ref q1, .ref q2, .ref q3, .int (Int32.ofInt 0), .int (Int32.ofInt 0), .ref q4, .null, .null, .null, .null, .null, .null])), aI G q1 16, aI G q2 16, aI G q3 16, aI G q4 16]) C hin 0 dX4_init_43 rfl ff_X4_28 rfl (Nat.le_of_ble_eq_true rfl) rfl ?_
  refine b_aload (pc' := 47) (x := h0) C 0 dX4_init_46 rfl rfl ?_
  refine b_bipush (pc' := 49) (n := 17) C dX4_init_47 rfl (by decide) ?_
  refine b_newI (pc' := 51) (n := 17) C dX4_init_49 rfl wa_int (by decide) ⟨Nat.le_of_ble_eq_true rfl, Nat.le_of_ble_eq_true rfl⟩ (fun q5 => ?_)
  refine b_putF (pc' := 54) (ws' := [(h0, .inr (4, [.ref q1, .ref q2, .ref q3, .int (Int32.ofInt 0), .int (Int32.ofInt 0), .ref q4, .ref q5, .null, .null, .null, .null, .null])), aI G q1 16, aI G q2 16, aI G q3 16, aI G q4 16, aI G q5 17]) C hin 0 dX4_init_51 rfl ff_X4_31 rfl (Nat.le_of_ble_eq_true rfl) rfl ?_
  refine b_aload (pc' := 55) (x := h0) C 0 dX4_init_54 rfl rfl ?_
  refine b_new (pc' := 58) C dX4_init_55 rfl nw_X4_34 ⟨Nat.le_of_ble_eq_true rfl, Nat.le_of_ble_eq_true rfl⟩ (fun q6 => ?_)
  refine b_dup (pc' := 59) C dX4_init_58 rfl ?_
  refine b_ctor (pc' := 62) (b := q6) (st := [.ref q6, .ref h0]) C [] [(h0, .inr (4, [.ref q1, .ref q2, .ref q3, .int (Int32.ofInt 0), .int (Int32.ofInt 0), .ref q4, .ref q5, .null, .null, .null, .null, .null])), aI G q1 16, aI G q2 16, aI G q3 16, aI G q4 16, aI G q5 17] dX4_init_59 rfl cl_X4_36 (k_X3_init q6) rfl rfl rfl (Nat.le_of_ble_eq_true rfl) ⟨Nat.le_of_ble_eq_true rfl, Nat.le_of_ble_eq_true rfl⟩ ⟨Nat.le_of_ble_eq_true rfl, Nat.le_of_ble_eq_true rfl⟩ (fun w1 hw1 => ?_)
  obtain ⟨o6_1, o6_2, o6_3, rfl⟩ := hw1
  refine b_putF (pc' := 65) (ws' := [(h0, .inr (4, [.ref q1, .ref q2, .ref q3, .int (Int32.ofInt 0), .int (Int32.ofInt 0), .ref q4, .ref q5, .null, .null, .null, .ref q6, .null])), aI G q1 16, aI G q2 16, aI G q3 16, aI G q4 16, aI G q5 17, (q6, .inr (3, [.ref o6_1, .ref o6_2, .ref o6_3, .int (Int32.ofInt 0), .int (Int32.ofInt 0)])), aI G o6_1 16, aI G o6_2 16, aI G o6_3 16]) C hin 0 dX4_init_62 rfl ff_X4_37 rfl (Nat.le_of_ble_eq_true rfl) rfl ?_
  refine b_aload (pc' := 66) (x := h0) C 0 dX4_init_65 rfl rfl ?_
  refine b_new (pc' := 69) C dX4_init_66 rfl nw_X4_41 ⟨Nat.le_of_ble_eq_true rfl, Nat.le_of_ble_eq_true rfl⟩ (fun q7 => ?_)
  refine b_dup (pc' := 70) C dX4_init_69 rfl ?_
  refine b_aload (pc' := 71) (x := h0) C 0 dX4_init_70 rfl rfl ?_
  refine b_get (pc' := 74) (v := .ref q6) C 0 dX4_init_71 rfl cg_X4_37 rfl rfl ?_
  refine b_ctor (pc' := 77) (b := q7) (st := [.ref q7, .ref h0]) C [.ref q6] [(h0, .inr (4, [.ref q1, .ref q2, .ref q3, .int (Int32.ofInt 0), .int (Int32.ofInt 0), .ref q4, .ref q5, .null, .null, .null, .ref q6, .null])), aI G q1 16, aI G q2 16, aI G q3 16, aI G q4 16, aI G q5 17, (q6, .inr (3, [.ref o6_1, .ref o6_2, .ref o6_3, .int (Int32.ofInt 0), .int (Int32.ofInt 0)])), aI G o6_1 16, aI G o6_2 16, aI G o6_3 16] dX4_init_74 rfl cl_X4_43 (k_X1_init q7 q6) rfl rfl rfl (Nat.le_of_ble_eq_true rfl) ⟨Nat.le_of_ble_eq_true rfl, Nat.le_of_ble_eq_true rfl⟩ ⟨Nat.le_of_ble_eq_true rfl, Nat.le_of_ble_eq_true rfl⟩ (fun w1 hw1 => ?_)
  obtain ⟨o7_1, o7_2, o7_3, o7_4, o7_5, rfl⟩ := hw1
  refine b_putF (pc' := 80) (ws' := [(h0, .inr (4, [.ref q1, .ref q2, .ref q3, .int (Int32.ofInt 0), .int (Int32.ofInt 0), .ref q4, .ref q5, .null, .null, .null, .ref q6, .ref q7])), aI G q1 16, aI G q2 16, aI G q3 16, aI G q4 16, aI G q5 17, (q6, .inr (3, [.ref o6_1, .ref o6_2, .ref o6_3, .int (Int32.ofInt 0), .int (Int32.ofInt 0)])), aI G o6_1 16, aI G o6_2 16, aI G o6_3 16, (q7, .inr (1, [.ref o7_1, .ref o7_2, .ref o7_3, .ref o7_4, .ref o7_5, .ref q6, .int (Int32.ofInt 0), .int (Int32.ofInt 0)])), aI G o7_1 256, aI G o7_2 16, aI G o7_3 16, aI G o7_4 16, aI G o7_5 16]) C hin 0 dX4_init_77 rfl ff_X4_46 rfl (Nat.le_of_ble_eq_true rfl) rfl ?_
  refine b_aload (pc' := 81) (x := h0) C 0 dX4_init_80 rfl rfl ?_
  refine b_aload (pc' := 82) (x := a1) C 1 dX4_init_81 rfl rfl ?_
  refine b_putF (pc' := 85) (ws' := [(h0, .inr (4, [.ref q1, .ref q2, .ref q3, .int (Int32.ofInt 0), .int (Int32.ofInt 0), .ref q4, .ref q5, .ref a1, .null, .null, .ref q6, .ref q7])), aI G q1 16, aI G q2 16, aI G q3 16, aI G q4 16, aI G q5 17, (q6, .inr (3, [.ref o6_1, .ref o6_2, .ref o6_3, .int (Int32.ofInt 0), .int (Int32.ofInt 0)])), aI G o6_1 16, aI G o6_2 16, aI G o6_3 16, (q7, .inr (1, [.ref o7_1, .ref o7_2, .ref o7_3, .ref o7_4, .ref o7_5, .ref q6, .int (Int32.ofInt 0), .int (Int32.ofInt 0)])), aI G o7_1 256, aI G o7_2 16, aI G o7_3 16, aI G o7_4 16, aI G o7_5 16]) C hin 0 dX4_init_82 rfl ff_X4_50 rfl (Nat.le_of_ble_eq_true rfl) rfl ?_
  refine b_aload (pc' := 86) (x := h0) C 0 dX4_init_85 rfl rfl ?_
  refine b_aload (pc' := 87) (x := a2) C 2 dX4_init_86 rfl rfl ?_
  refine b_putF (pc' := 90) (ws' := [(h0, .inr (4, [.ref q1, .ref q2, .ref q3, .int (Int32.ofInt 0), .int (Int32.ofInt 0), .ref q4, .ref q5, .ref a1, .ref a2, .null, .ref q6, .ref q7])), aI G q1 16, aI G q2 16, aI G q3 16, aI G q4 16, aI G q5 17, (q6, .inr (3, [.ref o6_1, .ref o6_2, .ref o6_3, .int (Int32.ofInt 0), .int (Int32.ofInt 0)])), aI G o6_1 16, aI G o6_2 16, aI G o6_3 16, (q7, .inr (1, [.ref o7_1, .ref o7_2, .ref o7_3, .ref o7_4, .ref o7_5, .ref q6, .int (Int32.ofInt 0), .int (Int32.ofInt 0)])), aI G o7_1 256, aI G o7_2 16, aI G o7_3 16, aI G o7_4 16, aI G o7_5 16]) C hin 0 dX4_init_87 rfl ff_X4_54 rfl (Nat.le_of_ble_eq_true rfl) rfl ?_
  refine b_aload (pc' := 91) (x := h0) C 0 dX4_init_90 rfl rfl ?_
  refine b_aload (pc' := 92) (x := a3) C 3 dX4_init_91 rfl rfl ?_
  refine b_putF (pc' := 95) (ws' := [(h0, .inr (4, [.ref q1, .ref q2, .ref q3, .int (Int32.ofInt 0), .int (Int32.ofInt 0), .ref q4, .ref q5, .ref a1, .ref a2, .ref a3, .ref q6, .ref q7])), aI G q1 16, aI G q2 16, aI G q3 16, aI G q4 16, aI G q5 17, (q6, .inr (3, [.ref o6_1, .ref o6_2, .ref o6_3, .int (Int32.ofInt 0), .int (Int32.ofInt 0)])), aI G o6_1 16, aI G o6_2 16, aI G o6_3 16, (q7, .inr (1, [.ref o7_1, .ref o7_2, .ref o7_3, .ref o7_4, .ref o7_5, .ref q6, .int (Int32.ofInt 0), .int (Int32.ofInt 0)])), aI G o7_1 256, aI G o7_2 16, aI G o7_3 16, aI G o7_4 16, aI G o7_5 16]) C hin 0 dX4_init_92 rfl ff_X4_58 rfl (Nat.le_of_ble_eq_true rfl) rfl ?_
  exact hret 95 _ _ dX4_init_95 ⟨q1, q2, q3, q4, q5, q6, o6_1, o6_2, o6_3, q7, o7_1, o7_2, o7_3, o7_4, o7_5, rfl⟩
theorem wo_X8 : Cond.methodLink RX8 3 objectInit ∈ gw := gw_mem 65 (by decide +kernel) rfl
theorem ff_X8_9 : FF RX8 9 8 0 := ⟨(RX8, TX8, 3), rfl, by decide, gw_mem 69 (by decide +kernel) rfl, inwX8, ⟨tyX8, tyX8_ok, fun _ => ⟨rfl, rfl⟩⟩, nmX8, rfl, rfl⟩
theorem ff_X8_15 : FF RX8 15 8 1 := ⟨(RX8, TX8, 3), rfl, by decide, gw_mem 70 (by decide +kernel) rfl, inwX8, ⟨tyX8, tyX8_ok, fun _ => ⟨rfl, rfl⟩⟩, nmX8, rfl, rfl⟩
theorem ff_X8_18 : FF RX8 18 8 2 := ⟨(RX8, TX8, 3), rfl, by decide, gw_mem 71 (by decide +kernel) rfl, inwX8, ⟨tyX8, tyX8_ok, fun _ => ⟨rfl, rfl⟩⟩, nmX8, rfl, rfl⟩
theorem ml_X8_22 : MLs RX8 22 mJ7_fill_53178 2 := ⟨gw_mem 66 (by decide +kernel) rfl, gw_mem 67 (by decide +kernel) rfl, gw_mem 40 (by decide +kernel) rfl, mwJ7_fill_53178, ⟨by decide, by decide, by decide +kernel⟩, by decide⟩
theorem k_X8_init {G : GX} (h0 : Nat) : Ctor G 1 3 300 mX8_init [] h0 (.inr (8, [.null, .null, .null])) (fun w => ∃ (q1 q2 q3 : Nat) (g0 : Nat → Int), (∀ i, i < 144 → g0 i = dgW i) ∧ (∀ j, r32 (g0 j)) ∧ w = [(h0, .inr (8, [.ref q1, .ref q2, .ref q3])), aF G q1 144 g0, aI G q2 144, aZ G q3 12]) := by
  refine Ctor.of rfl rfl rfl (Nat.le_of_ble_eq_true rfl) (fun p e s m args below meth c A Q C hin hret => ?_)
  refine b_aload (pc' := 1) (x := h0) C 0 dX8_init_0 rfl rfl ?_
  refine b_objInit (pc' := 4) C dX8_init_1 rfl wo_X8 wo_i wo_c ⟨Nat.le_of_ble_eq_true rfl, Nat.le_of_ble_eq_true rfl⟩ ?_
  refine b_aload (pc' := 5) (x := h0) C 0 dX8_init_4 rfl rfl ?_
  refine b_sipush (pc' := 8) (n := 144) C dX8_init_5 rfl (by decide) ?_
  refine b_newI (pc' := 10) (n := 144) C dX8_init_8 rfl wa_int (by decide) ⟨Nat.le_of_ble_eq_true rfl, Nat.le_of_ble_eq_true rfl⟩ (fun q1 => ?_)
  refine b_putF (pc' := 13) (ws' := [(h0, .inr (8, [.ref q1, .null, .null])), aI G q1 144]) C hin 0 dX8_init_10 rfl ff_X8_9 rfl (Nat.le_of_ble_eq_true rfl) rfl ?_
  refine b_aload (pc' := 14) (x := h0) C 0 dX8_init_13 rfl rfl ?_
  refine b_sipush (pc' := 17) (n := 144) C dX8_init_14 rfl (by decide) ?_
  refine b_newI (pc' := 19) (n := 144) C dX8_init_17 rfl wa_int (by decide) ⟨Nat.le_of_ble_eq_true rfl, Nat.le_of_ble_eq_true rfl⟩ (fun q2 => ?_)
  refine b_putF (pc' := 22) (ws' := [(h0, .inr (8, [.ref q1, .ref q2, .null])), aI G q1 144, aI G q2 144]) C hin 0 dX8_init_19 rfl ff_X8_15 rfl (Nat.le_of_ble_eq_true rfl) rfl ?_
  refine b_aload (pc' := 23) (x := h0) C 0 dX8_init_22 rfl rfl ?_
  refine b_bipush (pc' := 25) (n := 12) C dX8_init_23 rfl (by decide) ?_
  refine b_newZ (pc' := 27) (n := 12) C dX8_init_25 rfl wa_boolean (by decide) ⟨Nat.le_of_ble_eq_true rfl, Nat.le_of_ble_eq_true rfl⟩ (fun q3 => ?_)
  refine b_putF (pc' := 30) (ws' := [(h0, .inr (8, [.ref q1, .ref q2, .ref q3])), aI G q1 144, aI G q2 144, aZ G q3 12]) C hin 0 dX8_init_27 rfl ff_X8_18 rfl (Nat.le_of_ble_eq_true rfl) rfl ?_
  exact tail_X8 C ml_X8_22 ⟨Nat.le_of_ble_eq_true rfl, Nat.le_of_ble_eq_true rfl⟩ ⟨Nat.le_of_ble_eq_true rfl, Nat.le_of_ble_eq_true rfl⟩ (fun f ls h1 h2 => hret 64 _ _ dX8_init_64 ⟨q1, q2, q3, f, h1, h2, rfl⟩)
theorem wo_X9 : Cond.methodLink RX9 1 objectInit ∈ gw := gw_mem 57 (by decide +kernel) rfl
theorem nw_X9_7 : NW RX9 7 8 [.null, .null, .null] := ⟨(RX8, TX8, 3), rfl, inwX8, ⟨tyX8, tyX8_ok, fun j hj => match j, hj with | 0, _ => rfl | 1, _ => rfl | 2, _ => rfl | n + 3, h => absurd h (by show ¬ n + 3 < 3; omega)⟩, gw_mem 60 (by decide +kernel) rfl, gw_mem 61 (by decide +kernel) rfl, gw_mem 39 (by decide +kernel) rfl, rfl⟩
theorem cl_X9_9 : CL RX9 9 mX8_init 0 := ⟨Or.inl (gw_mem 62 (by decide +kernel) rfl), gw_mem 63 (by decide +kernel) rfl, gw_mem 39 (by decide +kernel) rfl, mwX8_init, rfl, rfl, ⟨by decide, by decide, by decide +kernel⟩, by decide⟩
theorem ff_X9_10 : FF RX9 10 9 0 := ⟨(RX9, TX9, 8), rfl, by decide, gw_mem 358 (by decide +kernel) rfl, inwX9, ⟨tyX9, tyX9_ok, fun _ => ⟨rfl, rfl⟩⟩, nmX9, rfl, rfl⟩
theorem nw_X9_16 : NW RX9 16 7 [.null, .null, .null, .null, .int (Int32.ofInt 0)] := ⟨(RX7, TX7, 5), rfl, inwX7, ⟨tyX7, tyX7_ok, fun j hj => match j, hj with | 0, _ => rfl | 1, _ => rfl | 2, _ => rfl | 3, _ => rfl | 4, _ => rfl | n + 5, h => absurd h (by show ¬ n + 5 < 5; omega)⟩, gw_mem 81 (by decide +kernel) rfl, gw_mem 82 (by decide +kernel) rfl, gw_mem 41 (by decide +kernel) rfl, rfl⟩
theorem cl_X9_18 : CL RX9 18 mX7_init 0 := ⟨Or.inr ⟨RX9, by decide +kernel⟩, gw_mem 84 (by decide +kernel) rfl, gw_mem 41 (by decide +kernel) rfl, mwX7_init, rfl, rfl, ⟨by decide, by decide, by decide +kernel⟩, by decide⟩
theorem ff_X9_19 : FF RX9 19 9 1 := ⟨(RX9, TX9, 8), rfl, by decide, gw_mem 359 (by decide +kernel) rfl, inwX9, ⟨tyX9, tyX9_ok, fun _ => ⟨rfl, rfl⟩⟩, nmX9, rfl, rfl⟩
theorem nw_X9_23 : NW RX9 23 2 [.null, .null, .null, .null] := ⟨(RX2, TX2, 4), rfl, inwX2, ⟨tyX2, tyX2_ok, fun j hj => match j, hj with | 0, _ => rfl | 1, _ => rfl | 2, _ => rfl | 3, _ => rfl | n + 4, h => absurd h (by show ¬ n + 4 < 4; omega)⟩, gw_mem 122 (by decide +kernel) rfl, gw_mem 123 (by decide +kernel) rfl, gw_mem 42 (by decide +kernel) rfl, rfl⟩
theorem cg_X9_10 : FL RX9 10 9 0 := ⟨(RX9, TX9, 8), rfl, by decide, gw_mem 358 (by decide +kernel) rfl, inwX9⟩
theorem cg_X9_19 : FL RX9 19 9 1 := ⟨(RX9, TX9, 8), rfl, by decide, gw_mem 359 (by decide +kernel) rfl, inwX9⟩
theorem cl_X9_25 : CL RX9 25 mX2_init 2 := ⟨Or.inl (gw_mem 124 (by decide +kernel) rfl), gw_mem 125 (by decide +kernel) rfl, gw_mem 42 (by decide +kernel) rfl, mwX2_init, rfl, rfl, ⟨by decide, by decide, by decide +kernel⟩, by decide⟩
theorem ff_X9_28 : FF RX9 28 9 2 := ⟨(RX9, TX9, 8), rfl, by decide, gw_mem 360 (by decide +kernel) rfl, inwX9, ⟨tyX9, tyX9_ok, fun _ => ⟨rfl, rfl⟩⟩, nmX9, rfl, rfl⟩
theorem nw_X9_32 : NW RX9 32 4 [.null, .null, .null, .int (Int32.ofInt 0), .int (Int32.ofInt 0), .null, .null, .null, .null, .null, .null, .null] := ⟨(RX4, TX4, 12), rfl, inwX4, ⟨tyX4, tyX4_ok, fun j hj => match j, hj with | 0, _ => rfl | 1, _ => rfl | 2, _ => rfl | 3, _ => rfl | 4, _ => rfl | 5, _ => rfl | 6, _ => rfl | 7, _ => rfl | 8, _ => rfl | 9, _ => rfl | 10, _ => rfl | 11, _ => rfl | n + 12, h => absurd h (by show ¬ n + 12 < 12; omega)⟩, gw_mem 142 (by decide +kernel) rfl, gw_mem 143 (by decide +kernel) rfl, gw_mem 43 (by decide +kernel) rfl, rfl⟩
theorem cg_X9_28 : FL RX9 28 9 2 := ⟨(RX9, TX9, 8), rfl, by decide, gw_mem 360 (by decide +kernel) rfl, inwX9⟩
theorem cl_X9_34 : CL RX9 34 mX4_init 3 := ⟨Or.inl (gw_mem 144 (by decide +kernel) rfl), gw_mem 145 (by decide +kernel) rfl, gw_mem 43 (by decide +kernel) rfl, mwX4_init, rfl, rfl, ⟨by decide, by decide, by decide +kernel⟩, by decide⟩
theorem ff_X9_37 : FF RX9 37 9 3 := ⟨(RX9, TX9, 8), rfl, by decide, gw_mem 361 (by decide +kernel) rfl, inwX9, ⟨tyX9, tyX9_ok, fun _ => ⟨rfl, rfl⟩⟩, nmX9, rfl, rfl⟩
theorem nw_X9_41 : NW RX9 41 6 [.null, .null, .null, .null, .null, .int (Int32.ofInt 0), .null, .null, .null] := ⟨(RX6, TX6, 9), rfl, inwX6, ⟨tyX6, tyX6_ok, fun j hj => match j, hj with | 0, _ => rfl | 1, _ => rfl | 2, _ => rfl | 3, _ => rfl | 4, _ => rfl | 5, _ => rfl | 6, _ => rfl | 7, _ => rfl | 8, _ => rfl | n + 9, h => absurd h (by show ¬ n + 9 < 9; omega)⟩, gw_mem 249 (by decide +kernel) rfl, gw_mem 250 (by decide +kernel) rfl, gw_mem 46 (by decide +kernel) rfl, rfl⟩
theorem cg_X9_37 : FL RX9 37 9 3 := ⟨(RX9, TX9, 8), rfl, by decide, gw_mem 361 (by decide +kernel) rfl, inwX9⟩
theorem cl_X9_43 : CL RX9 43 mX6_init 3 := ⟨Or.inl (gw_mem 251 (by decide +kernel) rfl), gw_mem 252 (by decide +kernel) rfl, gw_mem 46 (by decide +kernel) rfl, mwX6_init, rfl, rfl, ⟨by decide, by decide, by decide +kernel⟩, by decide⟩
theorem ff_X9_46 : FF RX9 46 9 4 := ⟨(RX9, TX9, 8), rfl, by decide, gw_mem 362 (by decide +kernel) rfl, inwX9, ⟨tyX9, tyX9_ok, fun _ => ⟨rfl, rfl⟩⟩, nmX9, rfl, rfl⟩
theorem nw_X9_50 : NW RX9 50 0 [.int (Int32.ofInt 0), .int (Int32.ofInt 0), .int (Int32.ofInt 0), .int (Int32.ofInt 0), .null, .null] := ⟨(RX0, TX0, 6), rfl, inwX0, ⟨tyX0, tyX0_ok, fun j hj => match j, hj with | 0, _ => rfl | 1, _ => rfl | 2, _ => rfl | 3, _ => rfl | 4, _ => rfl | 5, _ => rfl | n + 6, h => absurd h (by show ¬ n + 6 < 6; omega)⟩, gw_mem 290 (by decide +kernel) rfl, gw_mem 291 (by decide +kernel) rfl, gw_mem 47 (by decide +kernel) rfl, rfl⟩
theorem cg_X9_46 : FL RX9 46 9 4 := ⟨(RX9, TX9, 8), rfl, by decide, gw_mem 362 (by decide +kernel) rfl, inwX9⟩
theorem cl_X9_52 : CL RX9 52 mX0_init 2 := ⟨Or.inl (gw_mem 292 (by decide +kernel) rfl), gw_mem 293 (by decide +kernel) rfl, gw_mem 47 (by decide +kernel) rfl, mwX0_init, rfl, rfl, ⟨by decide, by decide, by decide +kernel⟩, by decide⟩
theorem ff_X9_55 : FF RX9 55 9 5 := ⟨(RX9, TX9, 8), rfl, by decide, gw_mem 363 (by decide +kernel) rfl, inwX9, ⟨tyX9, tyX9_ok, fun _ => ⟨rfl, rfl⟩⟩, nmX9, rfl, rfl⟩
theorem nw_X9_59 : NW RX9 59 5 [.null, .null, .null, .null, .null, .null, .int (Int32.ofInt 0), .int (Int32.ofInt 0), .int (Int32.ofInt 0), .int (Int32.ofInt 0)] := ⟨(RX5, TX5, 10), rfl, inwX5, ⟨tyX5, tyX5_ok, fun j hj => match j, hj with | 0, _ => rfl | 1, _ => rfl | 2, _ => rfl | 3, _ => rfl | 4, _ => rfl | 5, _ => rfl | 6, _ => rfl | 7, _ => rfl | 8, _ => rfl | 9, _ => rfl | n + 10, h => absurd h (by show ¬ n + 10 < 10; omega)⟩, gw_mem 320 (by decide +kernel) rfl, gw_mem 321 (by decide +kernel) rfl, gw_mem 48 (by decide +kernel) rfl, rfl⟩
theorem cg_X9_55 : FL RX9 55 9 5 := ⟨(RX9, TX9, 8), rfl, by decide, gw_mem 363 (by decide +kernel) rfl, inwX9⟩
theorem cl_X9_61 : CL RX9 61 mX5_init 2 := ⟨Or.inl (gw_mem 322 (by decide +kernel) rfl), gw_mem 323 (by decide +kernel) rfl, gw_mem 48 (by decide +kernel) rfl, mwX5_init, rfl, rfl, ⟨by decide, by decide, by decide +kernel⟩, by decide⟩
theorem ff_X9_64 : FF RX9 64 9 6 := ⟨(RX9, TX9, 8), rfl, by decide, gw_mem 364 (by decide +kernel) rfl, inwX9, ⟨tyX9, tyX9_ok, fun _ => ⟨rfl, rfl⟩⟩, nmX9, rfl, rfl⟩
theorem cp_X9_68 : FP RX9 68 9 7 .boolean := ⟨(RX9, TX9, 8), rfl, by decide, gw_mem 365 (by decide +kernel) rfl, inwX9, ⟨tyX9, tyX9_ok⟩, nmX9, rfl, by decide +kernel⟩
theorem csX_eq (G : GX) (ad : Nat → Nat) (σ : St) : cs G wdX ad σ = [(ad 0, .inr (0, [.int (Int32.ofInt (σ.1 0 0)), .int (Int32.ofInt (σ.1 0 1)), .int (Int32.ofInt (σ.1 0 2)), .int (Int32.ofInt (σ.1 0 3)), .ref (ad 8), .ref (ad 6)])), (ad 1, .inr (1, [.ref (ad 10), .ref (ad 11), .ref (ad 12), .ref (ad 13), .ref (ad 14), .ref (ad 3), .int (Int32.ofInt (σ.1 1 6)), .int (Int32.ofInt (σ.1 1 7))])), (ad 2, .inr (2, [.ref (ad 15), .ref (ad 16), .ref (ad 8), .ref (ad 7)])), (ad 3, .inr (3, [.ref (ad 17), .ref (ad 18), .ref (ad 19), .int (Int32.ofInt (σ.1 3 3)), .int (Int32.ofInt (σ.1 3 4))])), (ad 4, .inr (4, [.ref (ad 20), .ref (ad 21), .ref (ad 22), .int (Int32.ofInt (σ.1 4 3)), .int (Int32.ofInt (σ.1 4 4)), .ref (ad 23), .ref (ad 24), .ref (ad 8), .ref (ad 7), .ref (ad 2), .ref (ad 3), .ref (ad 1)])), (ad 5, .inr (5, [.ref (ad 6), .ref (ad 0), .ref (ad 25), .ref (ad 26), .ref (ad 27), .ref (ad 28), .int (Int32.ofInt (σ.1 5 6)), .int (Int32.ofInt (σ.1 5 7)), .int (Int32.ofInt (σ.1 5 8)), .int (Int32.ofInt (σ.1 5 9))])), (ad 6, .inr (6, [.ref (ad 29), .ref (ad 30), .ref (ad 31), .ref (ad 32), .ref (ad 33), .int (Int32.ofInt (σ.1 6 5)), .ref (ad 8), .ref (ad 7), .ref (ad 4)])), (ad 7, .inr (7, [.ref (ad 34), .ref (ad 35), .ref (ad 36), .ref (ad 37), .int (Int32.ofInt (σ.1 7 4))])), (ad 8, .inr (8, [.ref (ad 38), .ref (ad 39), .ref (ad 40)])), (ad 9, .inr (9, [.ref (ad 8), .ref (ad 7), .ref (ad 2), .ref (ad 4), .ref (ad 6), .ref (ad 0), .ref (ad 5), .int (Int32.ofInt (σ.1 9 7))])), (ad 10, .inl (G.2.2 0, 256, .inl (fun j => Int32.ofInt (σ.1 10 j)))), (ad 11, .inl (G.2.2 0, 16, .inl (fun j => Int32.ofInt (σ.1 11 j)))), (ad 12, .inl (G.2.2 0, 16, .inl (fun j => Int32.ofInt (σ.1 12 j)))), (ad 13, .inl (G.2.2 0, 16, .inl (fun j => Int32.ofInt (σ.1 13 j)))), (ad 14, .inl (G.2.2 0, 16, .inl (fun j => Int32.ofInt (σ.1 14 j)))), (ad 15, .inl (G.2.2 0, 16, .inl (fun j => Int32.ofInt (σ.1 15 j)))), (ad 16, .inl (G.2.2 0, 16, .inl (fun j => Int32.ofInt (σ.1 16 j)))), (ad 17, .inl (G.2.2 0, 16, .inl (fun j => Int32.ofInt (σ.1 17 j)))), (ad 18, .inl (G.2.2 0, 16, .inl (fun j => Int32.ofInt (σ.1 18 j)))), (ad 19, .inl (G.2.2 0, 16, .inl (fun j => Int32.ofInt (σ.1 19 j)))), (ad 20, .inl (G.2.2 0, 16, .inl (fun j => Int32.ofInt (σ.1 20 j)))), (ad 21, .inl (G.2.2 0, 16, .inl (fun j => Int32.ofInt (σ.1 21 j)))), (ad 22, .inl (G.2.2 0, 16, .inl (fun j => Int32.ofInt (σ.1 22 j)))), (ad 23, .inl (G.2.2 0, 16, .inl (fun j => Int32.ofInt (σ.1 23 j)))), (ad 24, .inl (G.2.2 0, 17, .inl (fun j => Int32.ofInt (σ.1 24 j)))), (ad 25, .inl (G.2.2 0, 1079, .inl (fun j => Int32.ofInt (σ.1 25 j)))), (ad 26, .inl (G.2.2 0, 13, .inl (fun j => Int32.ofInt (σ.1 26 j)))), (ad 27, .inl (G.2.2 1, 256, .inr (.inl (σ.2 27)))), (ad 28, .inl (G.2.2 0, 12, .inl (fun j => Int32.ofInt (σ.1 28 j)))), (ad 29, .inl (G.2.2 0, 16, .inl (fun j => Int32.ofInt (σ.1 29 j)))), (ad 30, .inl (G.2.2 0, 16, .inl (fun j => Int32.ofInt (σ.1 30 j)))), (ad 31, .inl (G.2.2 0, 16, .inl (fun j => Int32.ofInt (σ.1 31 j)))), (ad 32, .inl (G.2.2 0, 16, .inl (fun j => Int32.ofInt (σ.1 32 j)))), (ad 33, .inl (G.2.2 0, 16, .inl (fun j => Int32.ofInt (σ.1 33 j)))), (ad 34, .inl (G.2.2 0, 16, .inl (fun j => Int32.ofInt (σ.1 34 j)))), (ad 35, .inl (G.2.2 0, 16, .inl (fun j => Int32.ofInt (σ.1 35 j)))), (ad 36, .inl (G.2.2 0, 16, .inl (fun j => Int32.ofInt (σ.1 36 j)))), (ad 37, .inl (G.2.2 0, 16, .inl (fun j => Int32.ofInt (σ.1 37 j)))), (ad 38, .inl (G.2.2 0, 144, .inl (fun j => Int32.ofInt (σ.1 38 j)))), (ad 39, .inl (G.2.2 0, 144, .inl (fun j => Int32.ofInt (σ.1 39 j)))), (ad 40, .inl (G.2.2 2, 12, .inl (fun j => Int32.ofInt (σ.1 40 j))))] := by
  unfold cs
  simp only [List.mapIdx_cons, List.mapIdx_nil, Nat.zero_add, Nat.reduceAdd, cd_e, cd_f]
  first | done | rfl | simp
/-- the class's cells, as they are at first -/
def stX (g : Nat → Int) : St := (fun k j => match k with
  | 0 => (match j with | 0 => 900 | 1 => 540 | 2 => 30 | 3 => 1 | _ => 0)
  | 5 => (match j with | 8 => -1 | _ => 0)
  | 38 => g j
  | _ => 0, fun _ _ => 0)
def cadX (c0 c1 c2 c3 c4 c5 c6 c7 c8 c9 c10 c11 c12 c13 c14 c15 c16 c17 c18 c19 c20 c21 c22 c23 c24 c25 c26 c27 c28 c29 c30 c31 c32 c33 c34 c35 c36 c37 c38 c39 c40 : Nat) : Nat → Nat := fun k => match k with
  | 0 => c0
  | 1 => c1
  | 2 => c2
  | 3 => c3
  | 4 => c4
  | 5 => c5
  | 6 => c6
  | 7 => c7
  | 8 => c8
  | 9 => c9
  | 10 => c10
  | 11 => c11
  | 12 => c12
  | 13 => c13
  | 14 => c14
  | 15 => c15
  | 16 => c16
  | 17 => c17
  | 18 => c18
  | 19 => c19
  | 20 => c20
  | 21 => c21
  | 22 => c22
  | 23 => c23
  | 24 => c24
  | 25 => c25
  | 26 => c26
  | 27 => c27
  | 28 => c28
  | 29 => c29
  | 30 => c30
  | 31 => c31
  | 32 => c32
  | 33 => c33
  | 34 => c34
  | 35 => c35
  | 36 => c36
  | 37 => c37
  | 38 => c38
  | 39 => c39
  | _ => c40
theorem wo_X10 : Cond.methodLink RX10 1 objectInit ∈ gw := gw_mem 769 (by decide +kernel) rfl
theorem ff_X10_7 : FF RX10 7 10 0 := ⟨(RX10, TX10, 27), rfl, by decide, gw_mem 771 (by decide +kernel) rfl, inwX10, ⟨tyX10, tyX10_ok, fun _ => ⟨rfl, rfl⟩⟩, nmX10, rfl, rfl⟩
theorem ff_X10_13 : FF RX10 13 10 1 := ⟨(RX10, TX10, 27), rfl, by decide, gw_mem 772 (by decide +kernel) rfl, inwX10, ⟨tyX10, tyX10_ok, fun _ => ⟨rfl, rfl⟩⟩, nmX10, rfl, rfl⟩
theorem ff_X10_16 : FF RX10 16 10 2 := ⟨(RX10, TX10, 27), rfl, by decide, gw_mem 773 (by decide +kernel) rfl, inwX10, ⟨tyX10, tyX10_ok, fun _ => ⟨rfl, rfl⟩⟩, nmX10, rfl, rfl⟩
theorem ff_X10_20 : FF RX10 20 10 4 := ⟨(RX10, TX10, 27), rfl, by decide, gw_mem 775 (by decide +kernel) rfl, inwX10, ⟨tyX10, tyX10_ok, fun _ => ⟨rfl, rfl⟩⟩, nmX10, rfl, rfl⟩
theorem ff_X10_23 : FF RX10 23 10 5 := ⟨(RX10, TX10, 27), rfl, by decide, gw_mem 776 (by decide +kernel) rfl, inwX10, ⟨tyX10, tyX10_ok, fun _ => ⟨rfl, rfl⟩⟩, nmX10, rfl, rfl⟩
theorem ff_X10_26 : FF RX10 26 10 6 := ⟨(RX10, TX10, 27), rfl, by decide, gw_mem 777 (by decide +kernel) rfl, inwX10, ⟨tyX10, tyX10_ok, fun _ => ⟨rfl, rfl⟩⟩, nmX10, rfl, rfl⟩
theorem ff_X10_29 : FF RX10 29 10 7 := ⟨(RX10, TX10, 27), rfl, by decide, gw_mem 778 (by decide +kernel) rfl, inwX10, ⟨tyX10, tyX10_ok, fun _ => ⟨rfl, rfl⟩⟩, nmX10, rfl, rfl⟩
theorem cp_X10_32 : FP RX10 32 10 8 .int := ⟨(RX10, TX10, 27), rfl, by decide, gw_mem 779 (by decide +kernel) rfl, inwX10, ⟨tyX10, tyX10_ok⟩, nmX10, rfl, by decide +kernel⟩
theorem cp_X10_36 : FP RX10 36 10 9 .int := ⟨(RX10, TX10, 27), rfl, by decide, gw_mem 780 (by decide +kernel) rfl, inwX10, ⟨tyX10, tyX10_ok⟩, nmX10, rfl, by decide +kernel⟩
theorem cp_X10_39 : FP RX10 39 10 10 .int := ⟨(RX10, TX10, 27), rfl, by decide, gw_mem 781 (by decide +kernel) rfl, inwX10, ⟨tyX10, tyX10_ok⟩, nmX10, rfl, by decide +kernel⟩
theorem cp_X10_42 : FP RX10 42 10 11 .boolean := ⟨(RX10, TX10, 27), rfl, by decide, gw_mem 782 (by decide +kernel) rfl, inwX10, ⟨tyX10, tyX10_ok⟩, nmX10, rfl, by decide +kernel⟩
theorem wk_X10_46 : Cond.constant RX10 46 (Int32.ofInt 1114112) ∈ gw := gw_mem 770 (by decide +kernel) rfl
theorem ff_X10_47 : FF RX10 47 10 12 := ⟨(RX10, TX10, 27), rfl, by decide, gw_mem 783 (by decide +kernel) rfl, inwX10, ⟨tyX10, tyX10_ok, fun _ => ⟨rfl, rfl⟩⟩, nmX10, rfl, rfl⟩
theorem ff_X10_50 : FF RX10 50 10 14 := ⟨(RX10, TX10, 27), rfl, by decide, gw_mem 785 (by decide +kernel) rfl, inwX10, ⟨tyX10, tyX10_ok, fun _ => ⟨rfl, rfl⟩⟩, nmX10, rfl, rfl⟩
theorem ff_X10_53 : FF RX10 53 10 16 := ⟨(RX10, TX10, 27), rfl, by decide, gw_mem 787 (by decide +kernel) rfl, inwX10, ⟨tyX10, tyX10_ok, fun _ => ⟨rfl, rfl⟩⟩, nmX10, rfl, rfl⟩
theorem ff_X10_56 : FF RX10 56 10 17 := ⟨(RX10, TX10, 27), rfl, by decide, gw_mem 788 (by decide +kernel) rfl, inwX10, ⟨tyX10, tyX10_ok, fun _ => ⟨rfl, rfl⟩⟩, nmX10, rfl, rfl⟩
theorem ff_X10_59 : FF RX10 59 10 19 := ⟨(RX10, TX10, 27), rfl, by decide, gw_mem 790 (by decide +kernel) rfl, inwX10, ⟨tyX10, tyX10_ok, fun _ => ⟨rfl, rfl⟩⟩, nmX10, rfl, rfl⟩
theorem ff_X10_62 : FF RX10 62 10 20 := ⟨(RX10, TX10, 27), rfl, by decide, gw_mem 791 (by decide +kernel) rfl, inwX10, ⟨tyX10, tyX10_ok, fun _ => ⟨rfl, rfl⟩⟩, nmX10, rfl, rfl⟩
theorem ff_X10_65 : FF RX10 65 10 21 := ⟨(RX10, TX10, 27), rfl, by decide, gw_mem 792 (by decide +kernel) rfl, inwX10, ⟨tyX10, tyX10_ok, fun _ => ⟨rfl, rfl⟩⟩, nmX10, rfl, rfl⟩
theorem ff_X10_68 : FF RX10 68 10 22 := ⟨(RX10, TX10, 27), rfl, by decide, gw_mem 793 (by decide +kernel) rfl, inwX10, ⟨tyX10, tyX10_ok, fun _ => ⟨rfl, rfl⟩⟩, nmX10, rfl, rfl⟩
theorem ff_X10_71 : FF RX10 71 10 23 := ⟨(RX10, TX10, 27), rfl, by decide, gw_mem 794 (by decide +kernel) rfl, inwX10, ⟨tyX10, tyX10_ok, fun _ => ⟨rfl, rfl⟩⟩, nmX10, rfl, rfl⟩
theorem ff_X10_74 : FF RX10 74 10 24 := ⟨(RX10, TX10, 27), rfl, by decide, gw_mem 795 (by decide +kernel) rfl, inwX10, ⟨tyX10, tyX10_ok, fun _ => ⟨rfl, rfl⟩⟩, nmX10, rfl, rfl⟩
theorem ff_X10_77 : FF RX10 77 10 26 := ⟨(RX10, TX10, 27), rfl, by decide, gw_mem 797 (by decide +kernel) rfl, inwX10, ⟨tyX10, tyX10_ok, fun _ => ⟨rfl, rfl⟩⟩, nmX10, rfl, rfl⟩
