section
-- ===== PART A: goes FIRST, ahead of the names: the tables' words, and 'selects' of the private methods out of them =====
/-- a private method of a class that the tables say can be made, by its rows of tables_1 -/
def lw_okq (q : MethodName × Nat) : Prop := (q.1.cls ≠ "java/lang/invoke/MethodHandle" ∧ q.1.cls ≠ "java/lang/invoke/VarHandle") ∧ Cond.instantiable q.1.cls q.2 ∈ tables_1 ∧ Cond.privateMethod q.1 ∈ tables_1 ∧ Cond.instanceMethod q.1 ∈ tables_1
theorem lw_p0 : lw_okq (⟨"BusBlocks", "noted", "(Z)Z"⟩, 8) := ⟨⟨by decide +kernel, by decide +kernel⟩, List.mem_of_getElem? (i := 16) (by decide +kernel), List.mem_of_getElem? (i := 361) (by decide +kernel), List.mem_of_getElem? (i := 362) (by decide +kernel)⟩
theorem lw_p1 : lw_okq (⟨"BusBlocks", "bringUpToDate", "()V"⟩, 8) := ⟨⟨by decide +kernel, by decide +kernel⟩, List.mem_of_getElem? (i := 16) (by decide +kernel), List.mem_of_getElem? (i := 441) (by decide +kernel), List.mem_of_getElem? (i := 442) (by decide +kernel)⟩
theorem lw_p2 : lw_okq (⟨"BusBlocks$Plan", "setCosts", "()V"⟩, 12) := ⟨⟨by decide +kernel, by decide +kernel⟩, List.mem_of_getElem? (i := 106) (by decide +kernel), List.mem_of_getElem? (i := 454) (by decide +kernel), List.mem_of_getElem? (i := 455) (by decide +kernel)⟩
theorem lw_p3 : lw_okq (⟨"BusBlocks$LeastCost", "place", "(I)V"⟩, 8) := ⟨⟨by decide +kernel, by decide +kernel⟩, List.mem_of_getElem? (i := 138) (by decide +kernel), List.mem_of_getElem? (i := 478) (by decide +kernel), List.mem_of_getElem? (i := 479) (by decide +kernel)⟩
theorem lw_p4 : lw_okq (⟨"BusBlocks$LeastCost", "look", "(II)V"⟩, 8) := ⟨⟨by decide +kernel, by decide +kernel⟩, List.mem_of_getElem? (i := 138) (by decide +kernel), List.mem_of_getElem? (i := 483) (by decide +kernel), List.mem_of_getElem? (i := 484) (by decide +kernel)⟩
theorem lw_p5 : lw_okq (⟨"BusBlocks$LeastCost", "over", "(II)I"⟩, 8) := ⟨⟨by decide +kernel, by decide +kernel⟩, List.mem_of_getElem? (i := 138) (by decide +kernel), List.mem_of_getElem? (i := 487) (by decide +kernel), List.mem_of_getElem? (i := 488) (by decide +kernel)⟩
theorem lw_p6 : lw_okq (⟨"BusBlocks$LeastCost", "nearest", "()I"⟩, 8) := ⟨⟨by decide +kernel, by decide +kernel⟩, List.mem_of_getElem? (i := 138) (by decide +kernel), List.mem_of_getElem? (i := 491) (by decide +kernel), List.mem_of_getElem? (i := 492) (by decide +kernel)⟩
theorem lw_p7 : lw_okq (⟨"BusBlocks$LeastCost", "changeTolls", "(II)V"⟩, 8) := ⟨⟨by decide +kernel, by decide +kernel⟩, List.mem_of_getElem? (i := 138) (by decide +kernel), List.mem_of_getElem? (i := 495) (by decide +kernel), List.mem_of_getElem? (i := 496) (by decide +kernel)⟩
theorem lw_p8 : lw_okq (⟨"BusBlocks$LeastCost", "turnOver", "(II)V"⟩, 8) := ⟨⟨by decide +kernel, by decide +kernel⟩, List.mem_of_getElem? (i := 138) (by decide +kernel), List.mem_of_getElem? (i := 499) (by decide +kernel), List.mem_of_getElem? (i := 500) (by decide +kernel)⟩
theorem lw_p9 : lw_okq (⟨"BusBlocks$Plan", "leastNext", "(I)I"⟩, 12) := ⟨⟨by decide +kernel, by decide +kernel⟩, List.mem_of_getElem? (i := 106) (by decide +kernel), List.mem_of_getElem? (i := 507) (by decide +kernel), List.mem_of_getElem? (i := 508) (by decide +kernel)⟩
theorem lw_p10 : lw_okq (⟨"BusBlocks$Plan", "numberBlocks", "()V"⟩, 12) := ⟨⟨by decide +kernel, by decide +kernel⟩, List.mem_of_getElem? (i := 106) (by decide +kernel), List.mem_of_getElem? (i := 529) (by decide +kernel), List.mem_of_getElem? (i := 530) (by decide +kernel)⟩
theorem lw_p11 : lw_okq (⟨"BusBlocks$Plan", "fillBlock", "(II)I"⟩, 12) := ⟨⟨by decide +kernel, by decide +kernel⟩, List.mem_of_getElem? (i := 106) (by decide +kernel), List.mem_of_getElem? (i := 533) (by decide +kernel), List.mem_of_getElem? (i := 534) (by decide +kernel)⟩
theorem lw_p12 : lw_okq (⟨"BusBlocks$Segments", "open", "(II)V"⟩, 9) := ⟨⟨by decide +kernel, by decide +kernel⟩, List.mem_of_getElem? (i := 213) (by decide +kernel), List.mem_of_getElem? (i := 550) (by decide +kernel), List.mem_of_getElem? (i := 551) (by decide +kernel)⟩
theorem lw_p13 : lw_okq (⟨"BusBlocks$Laws", "minutesOf", "(II)I"⟩, 6) := ⟨⟨by decide +kernel, by decide +kernel⟩, List.mem_of_getElem? (i := 254) (by decide +kernel), List.mem_of_getElem? (i := 605) (by decide +kernel), List.mem_of_getElem? (i := 606) (by decide +kernel)⟩
theorem lw_p14 : lw_okq (⟨"BusBlocks$Laws", "canChange", "(II)Z"⟩, 6) := ⟨⟨by decide +kernel, by decide +kernel⟩, List.mem_of_getElem? (i := 254) (by decide +kernel), List.mem_of_getElem? (i := 621) (by decide +kernel), List.mem_of_getElem? (i := 622) (by decide +kernel)⟩
theorem lw_p15 : lw_okq (⟨"BusBlocks$Roster", "listLawful", "()Z"⟩, 10) := ⟨⟨by decide +kernel, by decide +kernel⟩, List.mem_of_getElem? (i := 284) (by decide +kernel), List.mem_of_getElem? (i := 642) (by decide +kernel), List.mem_of_getElem? (i := 643) (by decide +kernel)⟩
def lw_privs_1 : List (MethodName × Nat) := [(⟨"BusBlocks", "noted", "(Z)Z"⟩, 8), (⟨"BusBlocks", "bringUpToDate", "()V"⟩, 8), (⟨"BusBlocks$Plan", "setCosts", "()V"⟩, 12), (⟨"BusBlocks$LeastCost", "place", "(I)V"⟩, 8), (⟨"BusBlocks$LeastCost", "look", "(II)V"⟩, 8), (⟨"BusBlocks$LeastCost", "over", "(II)I"⟩, 8), (⟨"BusBlocks$LeastCost", "nearest", "()I"⟩, 8), (⟨"BusBlocks$LeastCost", "changeTolls", "(II)V"⟩, 8), (⟨"BusBlocks$LeastCost", "turnOver", "(II)V"⟩, 8), (⟨"BusBlocks$Plan", "leastNext", "(I)I"⟩, 12), (⟨"BusBlocks$Plan", "numberBlocks", "()V"⟩, 12), (⟨"BusBlocks$Plan", "fillBlock", "(II)I"⟩, 12), (⟨"BusBlocks$Segments", "open", "(II)V"⟩, 9), (⟨"BusBlocks$Laws", "minutesOf", "(II)I"⟩, 6), (⟨"BusBlocks$Laws", "canChange", "(II)Z"⟩, 6), (⟨"BusBlocks$Roster", "listLawful", "()Z"⟩, 10)]
theorem lw_r1 : ∀ q ∈ lw_privs_1, lw_okq q := List.forall_mem_cons.mpr ⟨lw_p0, List.forall_mem_cons.mpr ⟨lw_p1, List.forall_mem_cons.mpr ⟨lw_p2, List.forall_mem_cons.mpr ⟨lw_p3, List.forall_mem_cons.mpr ⟨lw_p4, List.forall_mem_cons.mpr ⟨lw_p5, List.forall_mem_cons.mpr ⟨lw_p6, List.forall_mem_cons.mpr ⟨lw_p7, List.forall_mem_cons.mpr ⟨lw_p8, List.forall_mem_cons.mpr ⟨lw_p9, List.forall_mem_cons.mpr ⟨lw_p10, List.forall_mem_cons.mpr ⟨lw_p11, List.forall_mem_cons.mpr ⟨lw_p12, List.forall_mem_cons.mpr ⟨lw_p13, List.forall_mem_cons.mpr ⟨lw_p14, List.forall_mem_cons.mpr ⟨lw_p15, fun _ h => absurd h List.not_mem_nil⟩⟩⟩⟩⟩⟩⟩⟩⟩⟩⟩⟩⟩⟩⟩⟩
theorem lw_p16 : lw_okq (⟨"BusBlocks$Roster", "list", "(I)V"⟩, 10) := ⟨⟨by decide +kernel, by decide +kernel⟩, List.mem_of_getElem? (i := 284) (by decide +kernel), List.mem_of_getElem? (i := 654) (by decide +kernel), List.mem_of_getElem? (i := 655) (by decide +kernel)⟩
theorem lw_p17 : lw_okq (⟨"BusBlocks$Roster", "listSeconds", "(II)V"⟩, 10) := ⟨⟨by decide +kernel, by decide +kernel⟩, List.mem_of_getElem? (i := 284) (by decide +kernel), List.mem_of_getElem? (i := 658) (by decide +kernel), List.mem_of_getElem? (i := 659) (by decide +kernel)⟩
theorem lw_p18 : lw_okq (⟨"BusBlocks$Roster", "fewest", "()I"⟩, 10) := ⟨⟨by decide +kernel, by decide +kernel⟩, List.mem_of_getElem? (i := 284) (by decide +kernel), List.mem_of_getElem? (i := 663) (by decide +kernel), List.mem_of_getElem? (i := 664) (by decide +kernel)⟩
theorem lw_p19 : lw_okq (⟨"BusBlocks$Roster", "isHopeless", "(II)Z"⟩, 10) := ⟨⟨by decide +kernel, by decide +kernel⟩, List.mem_of_getElem? (i := 284) (by decide +kernel), List.mem_of_getElem? (i := 673) (by decide +kernel), List.mem_of_getElem? (i := 674) (by decide +kernel)⟩
theorem lw_p20 : lw_okq (⟨"BusBlocks$Roster", "noteTooFew", "(II)V"⟩, 10) := ⟨⟨by decide +kernel, by decide +kernel⟩, List.mem_of_getElem? (i := 284) (by decide +kernel), List.mem_of_getElem? (i := 679) (by decide +kernel), List.mem_of_getElem? (i := 680) (by decide +kernel)⟩
theorem lw_p21 : lw_okq (⟨"BusBlocksModel", "isTrip", "(I)Z"⟩, 27) := ⟨⟨by decide +kernel, by decide +kernel⟩, List.mem_of_getElem? (i := 728) (by decide +kernel), List.mem_of_getElem? (i := 839) (by decide +kernel), List.mem_of_getElem? (i := 840) (by decide +kernel)⟩
theorem lw_p22 : lw_okq (⟨"BusBlocksModel", "canMove", "(II)Z"⟩, 27) := ⟨⟨by decide +kernel, by decide +kernel⟩, List.mem_of_getElem? (i := 728) (by decide +kernel), List.mem_of_getElem? (i := 847) (by decide +kernel), List.mem_of_getElem? (i := 848) (by decide +kernel)⟩
theorem lw_p23 : lw_okq (⟨"BusBlocksModel", "follows", "(II)Z"⟩, 27) := ⟨⟨by decide +kernel, by decide +kernel⟩, List.mem_of_getElem? (i := 728) (by decide +kernel), List.mem_of_getElem? (i := 863) (by decide +kernel), List.mem_of_getElem? (i := 864) (by decide +kernel)⟩
theorem lw_p24 : lw_okq (⟨"BusBlocksModel", "plans", "()V"⟩, 27) := ⟨⟨by decide +kernel, by decide +kernel⟩, List.mem_of_getElem? (i := 728) (by decide +kernel), List.mem_of_getElem? (i := 875) (by decide +kernel), List.mem_of_getElem? (i := 876) (by decide +kernel)⟩
theorem lw_p25 : lw_okq (⟨"BusBlocksModel", "sums", "()V"⟩, 27) := ⟨⟨by decide +kernel, by decide +kernel⟩, List.mem_of_getElem? (i := 728) (by decide +kernel), List.mem_of_getElem? (i := 879) (by decide +kernel), List.mem_of_getElem? (i := 880) (by decide +kernel)⟩
theorem lw_p26 : lw_okq (⟨"BusBlocksModel", "with", "(III)I"⟩, 27) := ⟨⟨by decide +kernel, by decide +kernel⟩, List.mem_of_getElem? (i := 728) (by decide +kernel), List.mem_of_getElem? (i := 884) (by decide +kernel), List.mem_of_getElem? (i := 885) (by decide +kernel)⟩
theorem lw_p27 : lw_okq (⟨"BusBlocksModel", "goes", "(I)V"⟩, 27) := ⟨⟨by decide +kernel, by decide +kernel⟩, List.mem_of_getElem? (i := 728) (by decide +kernel), List.mem_of_getElem? (i := 889) (by decide +kernel), List.mem_of_getElem? (i := 890) (by decide +kernel)⟩
theorem lw_p28 : lw_okq (⟨"BusBlocksModel", "slack", "(I)I"⟩, 27) := ⟨⟨by decide +kernel, by decide +kernel⟩, List.mem_of_getElem? (i := 728) (by decide +kernel), List.mem_of_getElem? (i := 893) (by decide +kernel), List.mem_of_getElem? (i := 894) (by decide +kernel)⟩
theorem lw_p29 : lw_okq (⟨"BusBlocksModel", "isPiece", "(II)Z"⟩, 27) := ⟨⟨by decide +kernel, by decide +kernel⟩, List.mem_of_getElem? (i := 728) (by decide +kernel), List.mem_of_getElem? (i := 913) (by decide +kernel), List.mem_of_getElem? (i := 914) (by decide +kernel)⟩
theorem lw_p30 : lw_okq (⟨"BusBlocksModel", "broken", "(IIII)I"⟩, 27) := ⟨⟨by decide +kernel, by decide +kernel⟩, List.mem_of_getElem? (i := 728) (by decide +kernel), List.mem_of_getElem? (i := 917) (by decide +kernel), List.mem_of_getElem? (i := 918) (by decide +kernel)⟩
theorem lw_p31 : lw_okq (⟨"BusBlocksModel", "beginOf", "(I)I"⟩, 27) := ⟨⟨by decide +kernel, by decide +kernel⟩, List.mem_of_getElem? (i := 728) (by decide +kernel), List.mem_of_getElem? (i := 921) (by decide +kernel), List.mem_of_getElem? (i := 922) (by decide +kernel)⟩
def lw_privs_2 : List (MethodName × Nat) := [(⟨"BusBlocks$Roster", "list", "(I)V"⟩, 10), (⟨"BusBlocks$Roster", "listSeconds", "(II)V"⟩, 10), (⟨"BusBlocks$Roster", "fewest", "()I"⟩, 10), (⟨"BusBlocks$Roster", "isHopeless", "(II)Z"⟩, 10), (⟨"BusBlocks$Roster", "noteTooFew", "(II)V"⟩, 10), (⟨"BusBlocksModel", "isTrip", "(I)Z"⟩, 27), (⟨"BusBlocksModel", "canMove", "(II)Z"⟩, 27), (⟨"BusBlocksModel", "follows", "(II)Z"⟩, 27), (⟨"BusBlocksModel", "plans", "()V"⟩, 27), (⟨"BusBlocksModel", "sums", "()V"⟩, 27), (⟨"BusBlocksModel", "with", "(III)I"⟩, 27), (⟨"BusBlocksModel", "goes", "(I)V"⟩, 27), (⟨"BusBlocksModel", "slack", "(I)I"⟩, 27), (⟨"BusBlocksModel", "isPiece", "(II)Z"⟩, 27), (⟨"BusBlocksModel", "broken", "(IIII)I"⟩, 27), (⟨"BusBlocksModel", "beginOf", "(I)I"⟩, 27)]
theorem lw_r2 : ∀ q ∈ lw_privs_2, lw_okq q := List.forall_mem_cons.mpr ⟨lw_p16, List.forall_mem_cons.mpr ⟨lw_p17, List.forall_mem_cons.mpr ⟨lw_p18, List.forall_mem_cons.mpr ⟨lw_p19, List.forall_mem_cons.mpr ⟨lw_p20, List.forall_mem_cons.mpr ⟨lw_p21, List.forall_mem_cons.mpr ⟨lw_p22, List.forall_mem_cons.mpr ⟨lw_p23, List.forall_mem_cons.mpr ⟨lw_p24, List.forall_mem_cons.mpr ⟨lw_p25, List.forall_mem_cons.mpr ⟨lw_p26, List.forall_mem_cons.mpr ⟨lw_p27, List.forall_mem_cons.mpr ⟨lw_p28, List.forall_mem_cons.mpr ⟨lw_p29, List.forall_mem_cons.mpr ⟨lw_p30, List.forall_mem_cons.mpr ⟨lw_p31, fun _ h => absurd h List.not_mem_nil⟩⟩⟩⟩⟩⟩⟩⟩⟩⟩⟩⟩⟩⟩⟩⟩
theorem lw_p32 : lw_okq (⟨"BusBlocksModel", "endOf", "(I)I"⟩, 27) := ⟨⟨by decide +kernel, by decide +kernel⟩, List.mem_of_getElem? (i := 728) (by decide +kernel), List.mem_of_getElem? (i := 925) (by decide +kernel), List.mem_of_getElem? (i := 926) (by decide +kernel)⟩
theorem lw_p33 : lw_okq (⟨"BusBlocksModel", "rosters", "()V"⟩, 27) := ⟨⟨by decide +kernel, by decide +kernel⟩, List.mem_of_getElem? (i := 728) (by decide +kernel), List.mem_of_getElem? (i := 933) (by decide +kernel), List.mem_of_getElem? (i := 934) (by decide +kernel)⟩
theorem lw_p34 : lw_okq (⟨"BusBlocksModel", "takes", "(IZI)Z"⟩, 27) := ⟨⟨by decide +kernel, by decide +kernel⟩, List.mem_of_getElem? (i := 728) (by decide +kernel), List.mem_of_getElem? (i := 937) (by decide +kernel), List.mem_of_getElem? (i := 938) (by decide +kernel)⟩
theorem lw_p35 : lw_okq (⟨"BusBlocksModel", "takesOne", "(IIIIIIZI)Z"⟩, 27) := ⟨⟨by decide +kernel, by decide +kernel⟩, List.mem_of_getElem? (i := 728) (by decide +kernel), List.mem_of_getElem? (i := 947) (by decide +kernel), List.mem_of_getElem? (i := 948) (by decide +kernel)⟩
theorem lw_p36 : lw_okq (⟨"BusBlocksModel", "blocksNow", "()I"⟩, 27) := ⟨⟨by decide +kernel, by decide +kernel⟩, List.mem_of_getElem? (i := 728) (by decide +kernel), List.mem_of_getElem? (i := 963) (by decide +kernel), List.mem_of_getElem? (i := 964) (by decide +kernel)⟩
def lw_privs_3 : List (MethodName × Nat) := [(⟨"BusBlocksModel", "endOf", "(I)I"⟩, 27), (⟨"BusBlocksModel", "rosters", "()V"⟩, 27), (⟨"BusBlocksModel", "takes", "(IZI)Z"⟩, 27), (⟨"BusBlocksModel", "takesOne", "(IIIIIIZI)Z"⟩, 27), (⟨"BusBlocksModel", "blocksNow", "()I"⟩, 27)]
theorem lw_r3 : ∀ q ∈ lw_privs_3, lw_okq q := List.forall_mem_cons.mpr ⟨lw_p32, List.forall_mem_cons.mpr ⟨lw_p33, List.forall_mem_cons.mpr ⟨lw_p34, List.forall_mem_cons.mpr ⟨lw_p35, List.forall_mem_cons.mpr ⟨lw_p36, fun _ h => absurd h List.not_mem_nil⟩⟩⟩⟩⟩
def lw_privs : List (MethodName × Nat) := lw_privs_1 ++ (lw_privs_2 ++ (lw_privs_3))
def lw_tbl : List Cond := k2_sels lw_privs ++ tables_1
theorem lw_privs_ok : ∀ q ∈ lw_privs, lw_okq q := by
  show ∀ q ∈ lw_privs_1 ++ (lw_privs_2 ++ (lw_privs_3)), lw_okq q
  exact List.forall_mem_append.mpr ⟨lw_r1, List.forall_mem_append.mpr ⟨lw_r2, lw_r3⟩⟩
def RX0 : String := "BusBlocks$Laws"
def TX0 : u_T := fun k => match k with
  | 0 => ("BusBlocks$Laws", "spread", "I", false)
  | 1 => ("BusBlocks$Laws", "work", "I", false)
  | 2 => ("BusBlocks$Laws", "pause", "I", false)
  | 3 => ("BusBlocks$Laws", "two", "Z", false)
  | 4 => ("BusBlocks$Laws", "ways", "LBusBlocks$Ways;", true)
  | _ => ("BusBlocks$Laws", "segments", "LBusBlocks$Segments;", true)
def tyX0 : Nat → FieldType := fun k => match k with
  | 0 => .int
  | 1 => .int
  | 2 => .int
  | 3 => .boolean
  | 4 => .object "BusBlocks$Ways"
  | _ => .object "BusBlocks$Segments"
abbrev wsX00 : List Cond := u_ws RX0 TX0 6
theorem nmX0 : ∀ a, a < 6 → ∀ b, b < 6 → a ≠ b → (TX0 a).2.1 ≠ (TX0 b).2.1 := by decide +kernel
theorem tyX0_ok : ∀ k, k < 6 → parseFieldDescriptor (TX0 k).2.2.1 = some (tyX0 k) := by decide +kernel
abbrev cX0_init : ByteArray := prog_2_method_1_code
def yX0_init : MethodName := ⟨RX0, "<init>", "(LBusBlocks$Ways;LBusBlocks$Segments;)V"⟩
abbrev cX0_put : ByteArray := prog_2_method_2_code
def yX0_put : MethodName := ⟨RX0, "put", "(IIIZ)Z"⟩
abbrev cX0_brokenByOne : ByteArray := prog_2_method_3_code
def yX0_brokenByOne : MethodName := ⟨RX0, "brokenByOne", "(II)I"⟩
abbrev cX0_brokenByTwo : ByteArray := prog_2_method_4_code
def yX0_brokenByTwo : MethodName := ⟨RX0, "brokenByTwo", "(IIII)I"⟩
abbrev cX0_canChange : ByteArray := prog_2_method_5_code
def yX0_canChange : MethodName := ⟨RX0, "canChange", "(II)Z"⟩
abbrev cX0_minutesOf : ByteArray := prog_2_method_6_code
def yX0_minutesOf : MethodName := ⟨RX0, "minutesOf", "(II)I"⟩
def RX1 : String := "BusBlocks$LeastCost"
def TX1 : u_T := fun k => match k with
  | 0 => ("BusBlocks$LeastCost", "cost", "[I", true)
  | 1 => ("BusBlocks$LeastCost", "rowToll", "[I", true)
  | 2 => ("BusBlocks$LeastCost", "columnToll", "[I", true)
  | 3 => ("BusBlocks$LeastCost", "distance", "[I", true)
  | 4 => ("BusBlocks$LeastCost", "cameFrom", "[I", true)
  | 5 => ("BusBlocks$LeastCost", "pairs", "LBusBlocks$Pairing;", true)
  | 6 => ("BusBlocks$LeastCost", "size", "I", false)
  | _ => ("BusBlocks$LeastCost", "reached", "I", false)
def tyX1 : Nat → FieldType := fun k => match k with
  | 0 => .array .int
  | 1 => .array .int
  | 2 => .array .int
  | 3 => .array .int
  | 4 => .array .int
  | 5 => .object "BusBlocks$Pairing"
  | 6 => .int
  | _ => .int
abbrev wsX10 : List Cond := u_ws RX1 TX1 8
theorem nmX1 : ∀ a, a < 8 → ∀ b, b < 8 → a ≠ b → (TX1 a).2.1 ≠ (TX1 b).2.1 := by decide +kernel
theorem tyX1_ok : ∀ k, k < 8 → parseFieldDescriptor (TX1 k).2.2.1 = some (tyX1 k) := by decide +kernel
abbrev cX1_init : ByteArray := prog_3_method_1_code
def yX1_init : MethodName := ⟨RX1, "<init>", "(LBusBlocks$Pairing;)V"⟩
abbrev cX1_solve : ByteArray := prog_3_method_2_code
def yX1_solve : MethodName := ⟨RX1, "solve", "(I)V"⟩
abbrev cX1_over : ByteArray := prog_3_method_3_code
def yX1_over : MethodName := ⟨RX1, "over", "(II)I"⟩
abbrev cX1_place : ByteArray := prog_3_method_4_code
def yX1_place : MethodName := ⟨RX1, "place", "(I)V"⟩
abbrev cX1_look : ByteArray := prog_3_method_5_code
def yX1_look : MethodName := ⟨RX1, "look", "(II)V"⟩
abbrev cX1_nearest : ByteArray := prog_3_method_6_code
def yX1_nearest : MethodName := ⟨RX1, "nearest", "()I"⟩
abbrev cX1_changeTolls : ByteArray := prog_3_method_7_code
def yX1_changeTolls : MethodName := ⟨RX1, "changeTolls", "(II)V"⟩
abbrev cX1_turnOver : ByteArray := prog_3_method_8_code
def yX1_turnOver : MethodName := ⟨RX1, "turnOver", "(II)V"⟩
def RX2 : String := "BusBlocks$Links"
def TX2 : u_T := fun k => match k with
  | 0 => ("BusBlocks$Links", "after", "[I", true)
  | 1 => ("BusBlocks$Links", "near", "[I", true)
  | 2 => ("BusBlocks$Links", "ways", "LBusBlocks$Ways;", true)
  | _ => ("BusBlocks$Links", "trips", "LBusBlocks$Trips;", true)
def tyX2 : Nat → FieldType := fun k => match k with
  | 0 => .array .int
  | 1 => .array .int
  | 2 => .object "BusBlocks$Ways"
  | _ => .object "BusBlocks$Trips"
abbrev wsX20 : List Cond := u_ws RX2 TX2 4
theorem nmX2 : ∀ a, a < 4 → ∀ b, b < 4 → a ≠ b → (TX2 a).2.1 ≠ (TX2 b).2.1 := by decide +kernel
theorem tyX2_ok : ∀ k, k < 4 → parseFieldDescriptor (TX2 k).2.2.1 = some (tyX2 k) := by decide +kernel
abbrev cX2_init : ByteArray := prog_4_method_1_code
def yX2_init : MethodName := ⟨RX2, "<init>", "(LBusBlocks$Ways;LBusBlocks$Trips;)V"⟩
abbrev cX2_tell : ByteArray := prog_4_method_2_code
def yX2_tell : MethodName := ⟨RX2, "tell", "()V"⟩
abbrev cX2_follows : ByteArray := prog_4_method_3_code
def yX2_follows : MethodName := ⟨RX2, "follows", "(III)Z"⟩
abbrev cX2_goOn : ByteArray := prog_4_method_4_code
def yX2_goOn : MethodName := ⟨RX2, "goOn", "()Z"⟩
abbrev cX2_mostApart : ByteArray := prog_4_method_5_code
def yX2_mostApart : MethodName := ⟨RX2, "mostApart", "()I"⟩
abbrev cX2_mostOf : ByteArray := prog_4_method_6_code
def yX2_mostOf : MethodName := ⟨RX2, "mostOf", "([III)I"⟩
def RX3 : String := "BusBlocks$Pairing"
def TX3 : u_T := fun k => match k with
  | 0 => ("BusBlocks$Pairing", "open", "[I", true)
  | 1 => ("BusBlocks$Pairing", "columnOf", "[I", true)
  | 2 => ("BusBlocks$Pairing", "rowOf", "[I", true)
  | 3 => ("BusBlocks$Pairing", "taken", "I", false)
  | _ => ("BusBlocks$Pairing", "seen", "I", false)
def tyX3 : Nat → FieldType := fun k => match k with
  | 0 => .array .int
  | 1 => .array .int
  | 2 => .array .int
  | 3 => .int
  | _ => .int
abbrev wsX30 : List Cond := u_ws RX3 TX3 5
theorem nmX3 : ∀ a, a < 5 → ∀ b, b < 5 → a ≠ b → (TX3 a).2.1 ≠ (TX3 b).2.1 := by decide +kernel
theorem tyX3_ok : ∀ k, k < 5 → parseFieldDescriptor (TX3 k).2.2.1 = some (tyX3 k) := by decide +kernel
abbrev cX3_init : ByteArray := prog_5_method_1_code
def yX3_init : MethodName := ⟨RX3, "<init>", "()V"⟩
abbrev cX3_clear : ByteArray := prog_5_method_2_code
def yX3_clear : MethodName := ⟨RX3, "clear", "()V"⟩
abbrev cX3_join : ByteArray := prog_5_method_3_code
def yX3_join : MethodName := ⟨RX3, "join", "(II)V"⟩
abbrev cX3_most : ByteArray := prog_5_method_4_code
def yX3_most : MethodName := ⟨RX3, "most", "(I)I"⟩
abbrev cX3_bind : ByteArray := prog_5_method_5_code
def yX3_bind : MethodName := ⟨RX3, "bind", "(II)Z"⟩
abbrev cX3_seat : ByteArray := prog_5_method_6_code
def yX3_seat : MethodName := ⟨RX3, "seat", "(LBusBlocks$Pairing;II)Z"⟩
def RX4 : String := "BusBlocks$Plan"
def TX4 : u_T := fun k => match k with
  | 0 => ("BusBlocks$Plan", "next", "[I", true)
  | 1 => ("BusBlocks$Plan", "slack", "[I", true)
  | 2 => ("BusBlocks$Plan", "blockOf", "[I", true)
  | 3 => ("BusBlocks$Plan", "count", "I", false)
  | 4 => ("BusBlocks$Plan", "price", "I", false)
  | 5 => ("BusBlocks$Plan", "row", "[I", true)
  | 6 => ("BusBlocks$Plan", "start", "[I", true)
  | 7 => ("BusBlocks$Plan", "ways", "LBusBlocks$Ways;", true)
  | 8 => ("BusBlocks$Plan", "trips", "LBusBlocks$Trips;", true)
  | 9 => ("BusBlocks$Plan", "links", "LBusBlocks$Links;", true)
  | 10 => ("BusBlocks$Plan", "pairs", "LBusBlocks$Pairing;", true)
  | _ => ("BusBlocks$Plan", "leastCost", "LBusBlocks$LeastCost;", true)
def tyX4 : Nat → FieldType := fun k => match k with
  | 0 => .array .int
  | 1 => .array .int
  | 2 => .array .int
  | 3 => .int
  | 4 => .int
  | 5 => .array .int
  | 6 => .array .int
  | 7 => .object "BusBlocks$Ways"
  | 8 => .object "BusBlocks$Trips"
  | 9 => .object "BusBlocks$Links"
  | 10 => .object "BusBlocks$Pairing"
  | _ => .object "BusBlocks$LeastCost"
abbrev wsX40 : List Cond := u_ws RX4 TX4 12
theorem nmX4 : ∀ a, a < 12 → ∀ b, b < 12 → a ≠ b → (TX4 a).2.1 ≠ (TX4 b).2.1 := by decide +kernel
theorem tyX4_ok : ∀ k, k < 12 → parseFieldDescriptor (TX4 k).2.2.1 = some (tyX4 k) := by decide +kernel
abbrev cX4_init : ByteArray := prog_6_method_1_code
def yX4_init : MethodName := ⟨RX4, "<init>", "(LBusBlocks$Ways;LBusBlocks$Trips;LBusBlocks$Links;)V"⟩
abbrev cX4_make : ByteArray := prog_6_method_2_code
def yX4_make : MethodName := ⟨RX4, "make", "()V"⟩
abbrev cX4_setCosts : ByteArray := prog_6_method_3_code
def yX4_setCosts : MethodName := ⟨RX4, "setCosts", "()V"⟩
abbrev cX4_leastNext : ByteArray := prog_6_method_4_code
def yX4_leastNext : MethodName := ⟨RX4, "leastNext", "(I)I"⟩
abbrev cX4_numberBlocks : ByteArray := prog_6_method_5_code
def yX4_numberBlocks : MethodName := ⟨RX4, "numberBlocks", "()V"⟩
abbrev cX4_fillBlock : ByteArray := prog_6_method_6_code
def yX4_fillBlock : MethodName := ⟨RX4, "fillBlock", "(II)I"⟩
abbrev cX4_sizeOf : ByteArray := prog_6_method_7_code
def yX4_sizeOf : MethodName := ⟨RX4, "sizeOf", "(I)I"⟩
abbrev cX4_tripAt : ByteArray := prog_6_method_8_code
def yX4_tripAt : MethodName := ⟨RX4, "tripAt", "(II)I"⟩
abbrev cX4_greatestSlack : ByteArray := prog_6_method_9_code
def yX4_greatestSlack : MethodName := ⟨RX4, "greatestSlack", "()I"⟩
abbrev cX4_leastSlack : ByteArray := prog_6_method_10_code
def yX4_leastSlack : MethodName := ⟨RX4, "leastSlack", "()I"⟩
abbrev cX4_fewestWith : ByteArray := prog_6_method_11_code
def yX4_fewestWith : MethodName := ⟨RX4, "fewestWith", "(II)I"⟩
def RX5 : String := "BusBlocks$Roster"
def TX5 : u_T := fun k => match k with
  | 0 => ("BusBlocks$Roster", "segments", "LBusBlocks$Segments;", true)
  | 1 => ("BusBlocks$Roster", "laws", "LBusBlocks$Laws;", true)
  | 2 => ("BusBlocks$Roster", "lawful", "[I", true)
  | 3 => ("BusBlocks$Roster", "start", "[I", true)
  | 4 => ("BusBlocks$Roster", "tooFew", "[J", true)
  | 5 => ("BusBlocks$Roster", "chosen", "[I", true)
  | 6 => ("BusBlocks$Roster", "listed", "I", false)
  | 7 => ("BusBlocks$Roster", "blockHeads", "I", false)
  | 8 => ("BusBlocks$Roster", "answer", "I", false)
  | _ => ("BusBlocks$Roster", "kept", "Z", false)
def tyX5 : Nat → FieldType := fun k => match k with
  | 0 => .object "BusBlocks$Segments"
  | 1 => .object "BusBlocks$Laws"
  | 2 => .array .int
  | 3 => .array .int
  | 4 => .array .long
  | 5 => .array .int
  | 6 => .int
  | 7 => .int
  | 8 => .int
  | _ => .boolean
abbrev wsX50 : List Cond := u_ws RX5 TX5 10
theorem nmX5 : ∀ a, a < 10 → ∀ b, b < 10 → a ≠ b → (TX5 a).2.1 ≠ (TX5 b).2.1 := by decide +kernel
theorem tyX5_ok : ∀ k, k < 10 → parseFieldDescriptor (TX5 k).2.2.1 = some (tyX5 k) := by decide +kernel
abbrev cX5_init : ByteArray := prog_7_method_1_code
def yX5_init : MethodName := ⟨RX5, "<init>", "(LBusBlocks$Segments;LBusBlocks$Laws;)V"⟩
abbrev cX5_forget : ByteArray := prog_7_method_2_code
def yX5_forget : MethodName := ⟨RX5, "forget", "()V"⟩
abbrev cX5_tell : ByteArray := prog_7_method_3_code
def yX5_tell : MethodName := ⟨RX5, "tell", "()I"⟩
abbrev cX5_of : ByteArray := prog_7_method_4_code
def yX5_of : MethodName := ⟨RX5, "of", "(II)I"⟩
abbrev cX5_endAt : ByteArray := prog_7_method_5_code
def yX5_endAt : MethodName := ⟨RX5, "endAt", "(II)I"⟩
abbrev cX5_listLawful : ByteArray := prog_7_method_6_code
def yX5_listLawful : MethodName := ⟨RX5, "listLawful", "()Z"⟩
abbrev cX5_listSeconds : ByteArray := prog_7_method_7_code
def yX5_listSeconds : MethodName := ⟨RX5, "listSeconds", "(II)V"⟩
abbrev cX5_packed : ByteArray := prog_7_method_8_code
def yX5_packed : MethodName := ⟨RX5, "packed", "(IIII)I"⟩
abbrev cX5_list : ByteArray := prog_7_method_9_code
def yX5_list : MethodName := ⟨RX5, "list", "(I)V"⟩
abbrev cX5_bits : ByteArray := prog_7_method_10_code
def yX5_bits : MethodName := ⟨RX5, "bits", "(II)I"⟩
abbrev cX5_fewest : ByteArray := prog_7_method_11_code
def yX5_fewest : MethodName := ⟨RX5, "fewest", "()I"⟩
abbrev cX5_doesAll : ByteArray := prog_7_method_12_code
def yX5_doesAll : MethodName := ⟨RX5, "doesAll", "(LBusBlocks$Roster;III)Z"⟩
abbrev cX5_isHopeless : ByteArray := prog_7_method_13_code
def yX5_isHopeless : MethodName := ⟨RX5, "isHopeless", "(II)Z"⟩
abbrev cX5_noteTooFew : ByteArray := prog_7_method_14_code
def yX5_noteTooFew : MethodName := ⟨RX5, "noteTooFew", "(II)V"⟩
def RX6 : String := "BusBlocks$Segments"
def TX6 : u_T := fun k => match k with
  | 0 => ("BusBlocks$Segments", "block", "[I", true)
  | 1 => ("BusBlocks$Segments", "first", "[I", true)
  | 2 => ("BusBlocks$Segments", "last", "[I", true)
  | 3 => ("BusBlocks$Segments", "size", "[I", true)
  | 4 => ("BusBlocks$Segments", "ofTrip", "[I", true)
  | 5 => ("BusBlocks$Segments", "count", "I", false)
  | 6 => ("BusBlocks$Segments", "ways", "LBusBlocks$Ways;", true)
  | 7 => ("BusBlocks$Segments", "trips", "LBusBlocks$Trips;", true)
  | _ => ("BusBlocks$Segments", "plan", "LBusBlocks$Plan;", true)
def tyX6 : Nat → FieldType := fun k => match k with
  | 0 => .array .int
  | 1 => .array .int
  | 2 => .array .int
  | 3 => .array .int
  | 4 => .array .int
  | 5 => .int
  | 6 => .object "BusBlocks$Ways"
  | 7 => .object "BusBlocks$Trips"
  | _ => .object "BusBlocks$Plan"
abbrev wsX60 : List Cond := u_ws RX6 TX6 9
theorem nmX6 : ∀ a, a < 9 → ∀ b, b < 9 → a ≠ b → (TX6 a).2.1 ≠ (TX6 b).2.1 := by decide +kernel
theorem tyX6_ok : ∀ k, k < 9 → parseFieldDescriptor (TX6 k).2.2.1 = some (tyX6 k) := by decide +kernel
abbrev cX6_init : ByteArray := prog_8_method_1_code
def yX6_init : MethodName := ⟨RX6, "<init>", "(LBusBlocks$Ways;LBusBlocks$Trips;LBusBlocks$Plan;)V"⟩
abbrev cX6_cut : ByteArray := prog_8_method_2_code
def yX6_cut : MethodName := ⟨RX6, "cut", "()V"⟩
abbrev cX6_open : ByteArray := prog_8_method_3_code
def yX6_open : MethodName := ⟨RX6, "open", "(II)V"⟩
abbrev cX6_holds : ByteArray := prog_8_method_4_code
def yX6_holds : MethodName := ⟨RX6, "holds", "(I)Z"⟩
abbrev cX6_isPiece : ByteArray := prog_8_method_5_code
def yX6_isPiece : MethodName := ⟨RX6, "isPiece", "(II)Z"⟩
abbrev cX6_beginning : ByteArray := prog_8_method_6_code
def yX6_beginning : MethodName := ⟨RX6, "beginning", "(I)I"⟩
abbrev cX6_ending : ByteArray := prog_8_method_7_code
def yX6_ending : MethodName := ⟨RX6, "ending", "(I)I"⟩
abbrev cX6_placeAtBeginning : ByteArray := prog_8_method_8_code
def yX6_placeAtBeginning : MethodName := ⟨RX6, "placeAtBeginning", "(I)I"⟩
abbrev cX6_placeAtEnd : ByteArray := prog_8_method_9_code
def yX6_placeAtEnd : MethodName := ⟨RX6, "placeAtEnd", "(I)I"⟩
def RX7 : String := "BusBlocks$Trips"
def TX7 : u_T := fun k => match k with
  | 0 => ("BusBlocks$Trips", "from", "[I", true)
  | 1 => ("BusBlocks$Trips", "to", "[I", true)
  | 2 => ("BusBlocks$Trips", "begin", "[I", true)
  | 3 => ("BusBlocks$Trips", "end", "[I", true)
  | _ => ("BusBlocks$Trips", "count", "I", false)
def tyX7 : Nat → FieldType := fun k => match k with
  | 0 => .array .int
  | 1 => .array .int
  | 2 => .array .int
  | 3 => .array .int
  | _ => .int
abbrev wsX70 : List Cond := u_ws RX7 TX7 5
theorem nmX7 : ∀ a, a < 5 → ∀ b, b < 5 → a ≠ b → (TX7 a).2.1 ≠ (TX7 b).2.1 := by decide +kernel
theorem tyX7_ok : ∀ k, k < 5 → parseFieldDescriptor (TX7 k).2.2.1 = some (tyX7 k) := by decide +kernel
abbrev cX7_init : ByteArray := prog_9_method_1_code
def yX7_init : MethodName := ⟨RX7, "<init>", "()V"⟩
abbrev cX7_holds : ByteArray := prog_9_method_2_code
def yX7_holds : MethodName := ⟨RX7, "holds", "(I)Z"⟩
abbrev cX7_add : ByteArray := prog_9_method_3_code
def yX7_add : MethodName := ⟨RX7, "add", "(IIII)Z"⟩
abbrev cX7_takeAway : ByteArray := prog_9_method_4_code
def yX7_takeAway : MethodName := ⟨RX7, "takeAway", "(I)Z"⟩
abbrev cX7_canShift : ByteArray := prog_9_method_5_code
def yX7_canShift : MethodName := ⟨RX7, "canShift", "(II)Z"⟩
abbrev cX7_shift : ByteArray := prog_9_method_6_code
def yX7_shift : MethodName := ⟨RX7, "shift", "(II)Z"⟩
def RX8 : String := "BusBlocks$Ways"
def TX8 : u_T := fun k => match k with
  | 0 => ("BusBlocks$Ways", "minutes", "[I", true)
  | 1 => ("BusBlocks$Ways", "price", "[I", true)
  | _ => ("BusBlocks$Ways", "relief", "[Z", true)
def tyX8 : Nat → FieldType := fun k => match k with
  | 0 => .array .int
  | 1 => .array .int
  | _ => .array .boolean
abbrev wsX80 : List Cond := u_ws RX8 TX8 3
theorem nmX8 : ∀ a, a < 3 → ∀ b, b < 3 → a ≠ b → (TX8 a).2.1 ≠ (TX8 b).2.1 := by decide +kernel
theorem tyX8_ok : ∀ k, k < 3 → parseFieldDescriptor (TX8 k).2.2.1 = some (tyX8 k) := by decide +kernel
abbrev cX8_init : ByteArray := prog_10_method_1_code
def yX8_init : MethodName := ⟨RX8, "<init>", "()V"⟩
abbrev cX8_put : ByteArray := prog_10_method_2_code
def yX8_put : MethodName := ⟨RX8, "put", "(IIII)Z"⟩
abbrev cX8_putRelief : ByteArray := prog_10_method_3_code
def yX8_putRelief : MethodName := ⟨RX8, "putRelief", "(IZ)Z"⟩
abbrev cX8_minutesOf : ByteArray := prog_10_method_4_code
def yX8_minutesOf : MethodName := ⟨RX8, "minutesOf", "(II)I"⟩
abbrev cX8_priceOf : ByteArray := prog_10_method_5_code
def yX8_priceOf : MethodName := ⟨RX8, "priceOf", "(II)I"⟩
abbrev cX8_isRelief : ByteArray := prog_10_method_6_code
def yX8_isRelief : MethodName := ⟨RX8, "isRelief", "(I)Z"⟩
def RX9 : String := "BusBlocks"
def TX9 : u_T := fun k => match k with
  | 0 => ("BusBlocks", "ways", "LBusBlocks$Ways;", true)
  | 1 => ("BusBlocks", "trips", "LBusBlocks$Trips;", true)
  | 2 => ("BusBlocks", "links", "LBusBlocks$Links;", true)
  | 3 => ("BusBlocks", "thePlan", "LBusBlocks$Plan;", true)
  | 4 => ("BusBlocks", "segments", "LBusBlocks$Segments;", true)
  | 5 => ("BusBlocks", "theLaws", "LBusBlocks$Laws;", true)
  | 6 => ("BusBlocks", "theRoster", "LBusBlocks$Roster;", true)
  | _ => ("BusBlocks", "upToDate", "Z", false)
def tyX9 : Nat → FieldType := fun k => match k with
  | 0 => .object "BusBlocks$Ways"
  | 1 => .object "BusBlocks$Trips"
  | 2 => .object "BusBlocks$Links"
  | 3 => .object "BusBlocks$Plan"
  | 4 => .object "BusBlocks$Segments"
  | 5 => .object "BusBlocks$Laws"
  | 6 => .object "BusBlocks$Roster"
  | _ => .boolean
abbrev wsX90 : List Cond := u_ws RX9 TX9 8
theorem nmX9 : ∀ a, a < 8 → ∀ b, b < 8 → a ≠ b → (TX9 a).2.1 ≠ (TX9 b).2.1 := by decide +kernel
theorem tyX9_ok : ∀ k, k < 8 → parseFieldDescriptor (TX9 k).2.2.1 = some (tyX9 k) := by decide +kernel
abbrev cX9_init : ByteArray := prog_1_method_1_code
def yX9_init : MethodName := ⟨RX9, "<init>", "()V"⟩
abbrev cX9_way : ByteArray := prog_1_method_2_code
def yX9_way : MethodName := ⟨RX9, "way", "(IIII)Z"⟩
abbrev cX9_relief : ByteArray := prog_1_method_3_code
def yX9_relief : MethodName := ⟨RX9, "relief", "(IZ)Z"⟩
abbrev cX9_trip : ByteArray := prog_1_method_4_code
def yX9_trip : MethodName := ⟨RX9, "trip", "(IIII)I"⟩
abbrev cX9_drop : ByteArray := prog_1_method_5_code
def yX9_drop : MethodName := ⟨RX9, "drop", "(I)Z"⟩
abbrev cX9_move : ByteArray := prog_1_method_6_code
def yX9_move : MethodName := ⟨RX9, "move", "(II)Z"⟩
abbrev cX9_laws : ByteArray := prog_1_method_7_code
def yX9_laws : MethodName := ⟨RX9, "laws", "(IIIZ)Z"⟩
abbrev cX9_tripOf : ByteArray := prog_1_method_8_code
def yX9_tripOf : MethodName := ⟨RX9, "tripOf", "(II)I"⟩
abbrev cX9_may : ByteArray := prog_1_method_9_code
def yX9_may : MethodName := ⟨RX9, "may", "(II)I"⟩
abbrev cX9_goesOn : ByteArray := prog_1_method_10_code
def yX9_goesOn : MethodName := ⟨RX9, "goesOn", "()I"⟩
abbrev cX9_plan : ByteArray := prog_1_method_11_code
def yX9_plan : MethodName := ⟨RX9, "plan", "(I)I"⟩
abbrev cX9_block : ByteArray := prog_1_method_12_code
def yX9_block : MethodName := ⟨RX9, "block", "(II)I"⟩
abbrev cX9_planned : ByteArray := prog_1_method_13_code
def yX9_planned : MethodName := ⟨RX9, "planned", "(II)I"⟩
abbrev cX9_segment : ByteArray := prog_1_method_14_code
def yX9_segment : MethodName := ⟨RX9, "segment", "(II)I"⟩
abbrev cX9_clash : ByteArray := prog_1_method_15_code
def yX9_clash : MethodName := ⟨RX9, "clash", "(IIII)I"⟩
abbrev cX9_roster : ByteArray := prog_1_method_16_code
def yX9_roster : MethodName := ⟨RX9, "roster", "()I"⟩
abbrev cX9_duty : ByteArray := prog_1_method_17_code
def yX9_duty : MethodName := ⟨RX9, "duty", "(II)I"⟩
abbrev cX9_apart : ByteArray := prog_1_method_18_code
def yX9_apart : MethodName := ⟨RX9, "apart", "()I"⟩
abbrev cX9_saves : ByteArray := prog_1_method_19_code
def yX9_saves : MethodName := ⟨RX9, "saves", "(II)I"⟩
abbrev cX9_about : ByteArray := prog_1_method_20_code
def yX9_about : MethodName := ⟨RX9, "about", "(I)I"⟩
abbrev cX9_noted : ByteArray := prog_1_method_21_code
def yX9_noted : MethodName := ⟨RX9, "noted", "(Z)Z"⟩
abbrev cX9_bringUpToDate : ByteArray := prog_1_method_22_code
def yX9_bringUpToDate : MethodName := ⟨RX9, "bringUpToDate", "()V"⟩
abbrev cX9_lowest : ByteArray := prog_1_method_23_code
def yX9_lowest : MethodName := ⟨RX9, "lowest", "(I)I"⟩
abbrev cX9_isPlace : ByteArray := prog_1_method_24_code
def yX9_isPlace : MethodName := ⟨RX9, "isPlace", "(I)Z"⟩
abbrev cX9_within : ByteArray := prog_1_method_25_code
def yX9_within : MethodName := ⟨RX9, "within", "(III)Z"⟩
def RX10 : String := "BusBlocksModel"
def TX10 : u_T := fun k => match k with
  | 0 => ("BusBlocksModel", "minutes", "[I", true)
  | 1 => ("BusBlocksModel", "price", "[I", true)
  | 2 => ("BusBlocksModel", "isRelief", "[Z", true)
  | 3 => ("BusBlocksModel", "trips", "I", false)
  | 4 => ("BusBlocksModel", "from", "[I", true)
  | 5 => ("BusBlocksModel", "to", "[I", true)
  | 6 => ("BusBlocksModel", "begin", "[I", true)
  | 7 => ("BusBlocksModel", "end", "[I", true)
  | 8 => ("BusBlocksModel", "spread", "I", false)
  | 9 => ("BusBlocksModel", "work", "I", false)
  | 10 => ("BusBlocksModel", "pause", "I", false)
  | 11 => ("BusBlocksModel", "two", "Z", false)
  | 12 => ("BusBlocksModel", "best", "[I", true)
  | 13 => ("BusBlocksModel", "isPlanned", "Z", false)
  | 14 => ("BusBlocksModel", "next", "[I", true)
  | 15 => ("BusBlocksModel", "blocks", "I", false)
  | 16 => ("BusBlocksModel", "blockFirst", "[I", true)
  | 17 => ("BusBlocksModel", "blockOf", "[I", true)
  | 18 => ("BusBlocksModel", "segments", "I", false)
  | 19 => ("BusBlocksModel", "segmentBlock", "[I", true)
  | 20 => ("BusBlocksModel", "segmentFirst", "[I", true)
  | 21 => ("BusBlocksModel", "segmentLast", "[I", true)
  | 22 => ("BusBlocksModel", "segmentMany", "[I", true)
  | 23 => ("BusBlocksModel", "segmentOf", "[I", true)
  | 24 => ("BusBlocksModel", "least", "[I", true)
  | 25 => ("BusBlocksModel", "duties", "I", false)
  | _ => ("BusBlocksModel", "duty", "[I", true)
def tyX10 : Nat → FieldType := fun k => match k with
  | 0 => .array .int
  | 1 => .array .int
  | 2 => .array .boolean
  | 3 => .int
  | 4 => .array .int
  | 5 => .array .int
  | 6 => .array .int
  | 7 => .array .int
  | 8 => .int
  | 9 => .int
  | 10 => .int
  | 11 => .boolean
  | 12 => .array .int
  | 13 => .boolean
  | 14 => .array .int
  | 15 => .int
  | 16 => .array .int
  | 17 => .array .int
  | 18 => .int
  | 19 => .array .int
  | 20 => .array .int
  | 21 => .array .int
  | 22 => .array .int
  | 23 => .array .int
  | 24 => .array .int
  | 25 => .int
  | _ => .array .int
abbrev wsX100 : List Cond := u_ws RX10 TX10 27
theorem nmX10 : ∀ a, a < 27 → ∀ b, b < 27 → a ≠ b → (TX10 a).2.1 ≠ (TX10 b).2.1 := by decide +kernel
theorem tyX10_ok : ∀ k, k < 27 → parseFieldDescriptor (TX10 k).2.2.1 = some (tyX10 k) := by decide +kernel
abbrev cX10_init : ByteArray := prog_12_method_1_code
def yX10_init : MethodName := ⟨RX10, "<init>", "()V"⟩
abbrev cX10_in : ByteArray := prog_12_method_2_code
def yX10_in : MethodName := ⟨RX10, "in", "(III)Z"⟩
abbrev cX10_isPlace : ByteArray := prog_12_method_3_code
def yX10_isPlace : MethodName := ⟨RX10, "isPlace", "(I)Z"⟩
abbrev cX10_isTrip : ByteArray := prog_12_method_4_code
def yX10_isTrip : MethodName := ⟨RX10, "isTrip", "(I)Z"⟩
abbrev cX10_way : ByteArray := prog_12_method_5_code
def yX10_way : MethodName := ⟨RX10, "way", "(IIII)Z"⟩
abbrev cX10_relief : ByteArray := prog_12_method_6_code
def yX10_relief : MethodName := ⟨RX10, "relief", "(IZ)Z"⟩
abbrev cX10_trip : ByteArray := prog_12_method_7_code
def yX10_trip : MethodName := ⟨RX10, "trip", "(IIII)I"⟩
abbrev cX10_drop : ByteArray := prog_12_method_8_code
def yX10_drop : MethodName := ⟨RX10, "drop", "(I)Z"⟩
abbrev cX10_canMove : ByteArray := prog_12_method_9_code
def yX10_canMove : MethodName := ⟨RX10, "canMove", "(II)Z"⟩
abbrev cX10_move : ByteArray := prog_12_method_10_code
def yX10_move : MethodName := ⟨RX10, "move", "(II)Z"⟩
abbrev cX10_laws : ByteArray := prog_12_method_11_code
def yX10_laws : MethodName := ⟨RX10, "laws", "(IIIZ)Z"⟩
abbrev cX10_tripOf : ByteArray := prog_12_method_12_code
def yX10_tripOf : MethodName := ⟨RX10, "tripOf", "(II)I"⟩
abbrev cX10_follows : ByteArray := prog_12_method_13_code
def yX10_follows : MethodName := ⟨RX10, "follows", "(II)Z"⟩
abbrev cX10_may : ByteArray := prog_12_method_14_code
def yX10_may : MethodName := ⟨RX10, "may", "(II)I"⟩
abbrev cX10_goesOn : ByteArray := prog_12_method_15_code
def yX10_goesOn : MethodName := ⟨RX10, "goesOn", "()I"⟩
abbrev cX10_sums : ByteArray := prog_12_method_16_code
def yX10_sums : MethodName := ⟨RX10, "sums", "()V"⟩
abbrev cX10_with : ByteArray := prog_12_method_17_code
def yX10_with : MethodName := ⟨RX10, "with", "(III)I"⟩
abbrev cX10_plans : ByteArray := prog_12_method_18_code
def yX10_plans : MethodName := ⟨RX10, "plans", "()V"⟩
abbrev cX10_goes : ByteArray := prog_12_method_19_code
def yX10_goes : MethodName := ⟨RX10, "goes", "(I)V"⟩
abbrev cX10_slack : ByteArray := prog_12_method_20_code
def yX10_slack : MethodName := ⟨RX10, "slack", "(I)I"⟩
abbrev cX10_plan : ByteArray := prog_12_method_21_code
def yX10_plan : MethodName := ⟨RX10, "plan", "(I)I"⟩
abbrev cX10_block : ByteArray := prog_12_method_22_code
def yX10_block : MethodName := ⟨RX10, "block", "(II)I"⟩
abbrev cX10_planned : ByteArray := prog_12_method_23_code
def yX10_planned : MethodName := ⟨RX10, "planned", "(II)I"⟩
abbrev cX10_segment : ByteArray := prog_12_method_24_code
def yX10_segment : MethodName := ⟨RX10, "segment", "(II)I"⟩
abbrev cX10_isPiece : ByteArray := prog_12_method_25_code
def yX10_isPiece : MethodName := ⟨RX10, "isPiece", "(II)Z"⟩
abbrev cX10_beginOf : ByteArray := prog_12_method_26_code
def yX10_beginOf : MethodName := ⟨RX10, "beginOf", "(I)I"⟩
abbrev cX10_endOf : ByteArray := prog_12_method_27_code
def yX10_endOf : MethodName := ⟨RX10, "endOf", "(I)I"⟩
abbrev cX10_broken : ByteArray := prog_12_method_28_code
def yX10_broken : MethodName := ⟨RX10, "broken", "(IIII)I"⟩
abbrev cX10_clash : ByteArray := prog_12_method_29_code
def yX10_clash : MethodName := ⟨RX10, "clash", "(IIII)I"⟩
abbrev cX10_bits : ByteArray := prog_12_method_30_code
def yX10_bits : MethodName := ⟨RX10, "bits", "(II)I"⟩
abbrev cX10_lowest : ByteArray := prog_12_method_31_code
def yX10_lowest : MethodName := ⟨RX10, "lowest", "(I)I"⟩
abbrev cX10_rosters : ByteArray := prog_12_method_32_code
def yX10_rosters : MethodName := ⟨RX10, "rosters", "()V"⟩
abbrev cX10_takes : ByteArray := prog_12_method_33_code
def yX10_takes : MethodName := ⟨RX10, "takes", "(IZI)Z"⟩
abbrev cX10_takesOne : ByteArray := prog_12_method_34_code
def yX10_takesOne : MethodName := ⟨RX10, "takesOne", "(IIIIIIZI)Z"⟩
abbrev cX10_roster : ByteArray := prog_12_method_35_code
def yX10_roster : MethodName := ⟨RX10, "roster", "()I"⟩
abbrev cX10_duty : ByteArray := prog_12_method_36_code
def yX10_duty : MethodName := ⟨RX10, "duty", "(II)I"⟩
abbrev cX10_apart : ByteArray := prog_12_method_37_code
def yX10_apart : MethodName := ⟨RX10, "apart", "()I"⟩
abbrev cX10_blocksNow : ByteArray := prog_12_method_38_code
def yX10_blocksNow : MethodName := ⟨RX10, "blocksNow", "()I"⟩
abbrev cX10_saves : ByteArray := prog_12_method_39_code
def yX10_saves : MethodName := ⟨RX10, "saves", "(II)I"⟩
abbrev cX10_about : ByteArray := prog_12_method_40_code
def yX10_about : MethodName := ⟨RX10, "about", "(I)I"⟩
def RJ6 : String := "java/lang/Integer"
def TJ6 : u_T := fun k => match k with
  | _ => ("", "", "", false)
def tyJ6 : Nat → FieldType := fun k => match k with
  | _ => .int
abbrev wsJ60 : List Cond := u_ws RJ6 TJ6 0
theorem nmJ6 : ∀ a, a < 0 → ∀ b, b < 0 → a ≠ b → (TJ6 a).2.1 ≠ (TJ6 b).2.1 := by decide +kernel
theorem tyJ6_ok : ∀ k, k < 0 → parseFieldDescriptor (TJ6 k).2.2.1 = some (tyJ6 k) := by decide +kernel
abbrev cJ6_bitCount_0f7a4 : ByteArray := prog_13_method_49_code
def yJ6_bitCount_0f7a4 : MethodName := ⟨RJ6, "bitCount", "(I)I"⟩
def RJ9 : String := "java/lang/Math"
def TJ9 : u_T := fun k => match k with
  | _ => ("", "", "", false)
def tyJ9 : Nat → FieldType := fun k => match k with
  | _ => .int
abbrev wsJ90 : List Cond := u_ws RJ9 TJ9 0
theorem nmJ9 : ∀ a, a < 0 → ∀ b, b < 0 → a ≠ b → (TJ9 a).2.1 ≠ (TJ9 b).2.1 := by decide +kernel
theorem tyJ9_ok : ∀ k, k < 0 → parseFieldDescriptor (TJ9 k).2.2.1 = some (tyJ9 k) := by decide +kernel
abbrev cJ9_max_7cf53 : ByteArray := prog_14_method_65_code
def yJ9_max_7cf53 : MethodName := ⟨RJ9, "max", "(II)I"⟩
abbrev cJ9_min_7cf53 : ByteArray := prog_14_method_69_code
def yJ9_min_7cf53 : MethodName := ⟨RJ9, "min", "(II)I"⟩
def RJ7 : String := "java/util/Arrays"
def TJ7 : u_T := fun k => match k with
  | _ => ("", "", "", false)
def tyJ7 : Nat → FieldType := fun k => match k with
  | _ => .int
abbrev wsJ70 : List Cond := u_ws RJ7 TJ7 0
theorem nmJ7 : ∀ a, a < 0 → ∀ b, b < 0 → a ≠ b → (TJ7 a).2.1 ≠ (TJ7 b).2.1 := by decide +kernel
theorem tyJ7_ok : ∀ k, k < 0 → parseFieldDescriptor (TJ7 k).2.2.1 = some (tyJ7 k) := by decide +kernel
abbrev cJ7_fill_d0a16 : ByteArray := prog_15_method_101_code
def yJ7_fill_d0a16 : MethodName := ⟨RJ7, "fill", "([JJ)V"⟩
abbrev cJ7_fill_53178 : ByteArray := prog_15_method_103_code
def yJ7_fill_53178 : MethodName := ⟨RJ7, "fill", "([II)V"⟩
def RL : String := "BusBlocksLaw"
abbrev cL_law : ByteArray := code
def yL_law : MethodName := ⟨RL, "law", "([I)Z"⟩
abbrev vwCl : List vw_C := [(RX0, TX0, 6), (RX1, TX1, 8), (RX2, TX2, 4), (RX3, TX3, 5), (RX4, TX4, 12), (RX5, TX5, 10), (RX6, TX6, 9), (RX7, TX7, 5), (RX8, TX8, 3), (RX9, TX9, 8), (RX10, TX10, 27)]
/-- the words that calls hand on -/
def gw : List Cond := lw_tbl.filter goodWord
theorem gw_mem {w : Cond} (i : Nat) (h : lw_tbl[i]? = some w) (hg : goodWord w = true) : w ∈ gw := List.mem_filter.mpr ⟨List.mem_of_getElem? h, hg⟩
theorem inwX0 : ∀ w ∈ u_ws RX0 TX0 6, w ∈ gw := fun w h => List.mem_filter.mpr ⟨(by decide +kernel : ∀ w ∈ u_ws RX0 TX0 6, w ∈ lw_tbl) w h, (by decide +kernel : ∀ w ∈ u_ws RX0 TX0 6, goodWord w = true) w h⟩
theorem inwX1 : ∀ w ∈ u_ws RX1 TX1 8, w ∈ gw := fun w h => List.mem_filter.mpr ⟨(by decide +kernel : ∀ w ∈ u_ws RX1 TX1 8, w ∈ lw_tbl) w h, (by decide +kernel : ∀ w ∈ u_ws RX1 TX1 8, goodWord w = true) w h⟩
theorem inwX2 : ∀ w ∈ u_ws RX2 TX2 4, w ∈ gw := fun w h => List.mem_filter.mpr ⟨(by decide +kernel : ∀ w ∈ u_ws RX2 TX2 4, w ∈ lw_tbl) w h, (by decide +kernel : ∀ w ∈ u_ws RX2 TX2 4, goodWord w = true) w h⟩
theorem inwX3 : ∀ w ∈ u_ws RX3 TX3 5, w ∈ gw := fun w h => List.mem_filter.mpr ⟨(by decide +kernel : ∀ w ∈ u_ws RX3 TX3 5, w ∈ lw_tbl) w h, (by decide +kernel : ∀ w ∈ u_ws RX3 TX3 5, goodWord w = true) w h⟩
theorem inwX4 : ∀ w ∈ u_ws RX4 TX4 12, w ∈ gw := fun w h => List.mem_filter.mpr ⟨(by decide +kernel : ∀ w ∈ u_ws RX4 TX4 12, w ∈ lw_tbl) w h, (by decide +kernel : ∀ w ∈ u_ws RX4 TX4 12, goodWord w = true) w h⟩
theorem inwX5 : ∀ w ∈ u_ws RX5 TX5 10, w ∈ gw := fun w h => List.mem_filter.mpr ⟨(by decide +kernel : ∀ w ∈ u_ws RX5 TX5 10, w ∈ lw_tbl) w h, (by decide +kernel : ∀ w ∈ u_ws RX5 TX5 10, goodWord w = true) w h⟩
theorem inwX6 : ∀ w ∈ u_ws RX6 TX6 9, w ∈ gw := fun w h => List.mem_filter.mpr ⟨(by decide +kernel : ∀ w ∈ u_ws RX6 TX6 9, w ∈ lw_tbl) w h, (by decide +kernel : ∀ w ∈ u_ws RX6 TX6 9, goodWord w = true) w h⟩
theorem inwX7 : ∀ w ∈ u_ws RX7 TX7 5, w ∈ gw := fun w h => List.mem_filter.mpr ⟨(by decide +kernel : ∀ w ∈ u_ws RX7 TX7 5, w ∈ lw_tbl) w h, (by decide +kernel : ∀ w ∈ u_ws RX7 TX7 5, goodWord w = true) w h⟩
theorem inwX8 : ∀ w ∈ u_ws RX8 TX8 3, w ∈ gw := fun w h => List.mem_filter.mpr ⟨(by decide +kernel : ∀ w ∈ u_ws RX8 TX8 3, w ∈ lw_tbl) w h, (by decide +kernel : ∀ w ∈ u_ws RX8 TX8 3, goodWord w = true) w h⟩
theorem inwX9 : ∀ w ∈ u_ws RX9 TX9 8, w ∈ gw := fun w h => List.mem_filter.mpr ⟨(by decide +kernel : ∀ w ∈ u_ws RX9 TX9 8, w ∈ lw_tbl) w h, (by decide +kernel : ∀ w ∈ u_ws RX9 TX9 8, goodWord w = true) w h⟩
theorem inwX10 : ∀ w ∈ u_ws RX10 TX10 27, w ∈ gw := fun w h => List.mem_filter.mpr ⟨(by decide +kernel : ∀ w ∈ u_ws RX10 TX10 27, w ∈ lw_tbl) w h, (by decide +kernel : ∀ w ∈ u_ws RX10 TX10 27, goodWord w = true) w h⟩
/-- a method: its name, its bytes, its locals, what it answers -/
abbrev MI : Type := MethodName × ByteArray × Nat × Option FieldType
abbrev mi_code (m : MI) : Cond := .code m.1 m.2.1 m.2.2.1 m.2.2.2
abbrev mX0_init : MI := (yX0_init, cX0_init, 3, none)
set_option maxRecDepth 20000 in
theorem mwX0_init : mi_code mX0_init ∈ gw := gw_mem 294 rfl rfl
abbrev mX0_put : MI := (yX0_put, cX0_put, 5, some .boolean)
set_option maxRecDepth 20000 in
theorem mwX0_put : mi_code mX0_put ∈ gw := gw_mem 453 rfl rfl
abbrev mX0_brokenByOne : MI := (yX0_brokenByOne, cX0_brokenByOne, 4, some .int)
set_option maxRecDepth 20000 in
theorem mwX0_brokenByOne : mi_code mX0_brokenByOne ∈ gw := gw_mem 640 rfl rfl
abbrev mX0_brokenByTwo : MI := (yX0_brokenByTwo, cX0_brokenByTwo, 10, some .int)
set_option maxRecDepth 20000 in
theorem mwX0_brokenByTwo : mi_code mX0_brokenByTwo ∈ gw := gw_mem 656 rfl rfl
abbrev mX0_canChange : MI := (yX0_canChange, cX0_canChange, 5, some .boolean)
set_option maxRecDepth 20000 in
theorem mwX0_canChange : mi_code mX0_canChange ∈ gw := gw_mem 660 rfl rfl
abbrev mX0_minutesOf : MI := (yX0_minutesOf, cX0_minutesOf, 3, some .int)
set_option maxRecDepth 20000 in
theorem mwX0_minutesOf : mi_code mX0_minutesOf ∈ gw := gw_mem 644 rfl rfl
abbrev mX1_init : MI := (yX1_init, cX1_init, 2, none)
set_option maxRecDepth 20000 in
theorem mwX1_init : mi_code mX1_init ∈ gw := gw_mem 178 rfl rfl
abbrev mX1_solve : MI := (yX1_solve, cX1_solve, 4, none)
set_option maxRecDepth 20000 in
theorem mwX1_solve : mi_code mX1_solve ∈ gw := gw_mem 501 rfl rfl
abbrev mX1_over : MI := (yX1_over, cX1_over, 3, some .int)
set_option maxRecDepth 20000 in
theorem mwX1_over : mi_code mX1_over ∈ gw := gw_mem 526 rfl rfl
abbrev mX1_place : MI := (yX1_place, cX1_place, 6, none)
set_option maxRecDepth 20000 in
theorem mwX1_place : mi_code mX1_place ∈ gw := gw_mem 517 rfl rfl
abbrev mX1_look : MI := (yX1_look, cX1_look, 5, none)
set_option maxRecDepth 20000 in
theorem mwX1_look : mi_code mX1_look ∈ gw := gw_mem 522 rfl rfl
abbrev mX1_nearest : MI := (yX1_nearest, cX1_nearest, 5, some .int)
set_option maxRecDepth 20000 in
theorem mwX1_nearest : mi_code mX1_nearest ∈ gw := gw_mem 530 rfl rfl
abbrev mX1_changeTolls : MI := (yX1_changeTolls, cX1_changeTolls, 5, none)
set_option maxRecDepth 20000 in
theorem mwX1_changeTolls : mi_code mX1_changeTolls ∈ gw := gw_mem 534 rfl rfl
abbrev mX1_turnOver : MI := (yX1_turnOver, cX1_turnOver, 7, none)
set_option maxRecDepth 20000 in
theorem mwX1_turnOver : mi_code mX1_turnOver ∈ gw := gw_mem 538 rfl rfl
abbrev mX2_init : MI := (yX2_init, cX2_init, 3, none)
set_option maxRecDepth 20000 in
theorem mwX2_init : mi_code mX2_init ∈ gw := gw_mem 126 rfl rfl
abbrev mX2_tell : MI := (yX2_tell, cX2_tell, 3, none)
set_option maxRecDepth 20000 in
theorem mwX2_tell : mi_code mX2_tell ∈ gw := gw_mem 484 rfl rfl
abbrev mX2_follows : MI := (yX2_follows, cX2_follows, 5, some .boolean)
set_option maxRecDepth 20000 in
theorem mwX2_follows : mi_code mX2_follows ∈ gw := gw_mem 467 rfl rfl
abbrev mX2_goOn : MI := (yX2_goOn, cX2_goOn, 4, some .boolean)
set_option maxRecDepth 20000 in
theorem mwX2_goOn : mi_code mX2_goOn ∈ gw := gw_mem 597 rfl rfl
abbrev mX2_mostApart : MI := (yX2_mostApart, cX2_mostApart, 3, some .int)
set_option maxRecDepth 20000 in
theorem mwX2_mostApart : mi_code mX2_mostApart ∈ gw := gw_mem 739 rfl rfl
abbrev mX2_mostOf : MI := (yX2_mostOf, cX2_mostOf, 9, some .int)
set_option maxRecDepth 20000 in
theorem mwX2_mostOf : mi_code mX2_mostOf ∈ gw := gw_mem 742 rfl rfl
abbrev mX3_init : MI := (yX3_init, cX3_init, 1, none)
set_option maxRecDepth 20000 in
theorem mwX3_init : mi_code mX3_init ∈ gw := gw_mem 152 rfl rfl
abbrev mX3_clear : MI := (yX3_clear, cX3_clear, 1, none)
set_option maxRecDepth 20000 in
theorem mwX3_clear : mi_code mX3_clear ∈ gw := gw_mem 511 rfl rfl
abbrev mX3_join : MI := (yX3_join, cX3_join, 3, none)
set_option maxRecDepth 20000 in
theorem mwX3_join : mi_code mX3_join ∈ gw := gw_mem 542 rfl rfl
abbrev mX3_most : MI := (yX3_most, cX3_most, 4, some .int)
set_option maxRecDepth 20000 in
theorem mwX3_most : mi_code mX3_most ∈ gw := gw_mem 758 rfl rfl
abbrev mX3_bind : MI := (yX3_bind, cX3_bind, 6, some .boolean)
set_option maxRecDepth 20000 in
theorem mwX3_bind : mi_code mX3_bind ∈ gw := gw_mem 550 rfl rfl
abbrev mX3_seat : MI := (yX3_seat, cX3_seat, 7, some .boolean)
set_option maxRecDepth 20000 in
theorem mwX3_seat : mi_code mX3_seat ∈ gw := gw_mem 554 rfl rfl
abbrev mX4_init : MI := (yX4_init, cX4_init, 4, none)
set_option maxRecDepth 20000 in
theorem mwX4_init : mi_code mX4_init ∈ gw := gw_mem 146 rfl rfl
abbrev mX4_make : MI := (yX4_make, cX4_make, 4, none)
set_option maxRecDepth 20000 in
theorem mwX4_make : mi_code mX4_make ∈ gw := gw_mem 489 rfl rfl
abbrev mX4_setCosts : MI := (yX4_setCosts, cX4_setCosts, 4, none)
set_option maxRecDepth 20000 in
theorem mwX4_setCosts : mi_code mX4_setCosts ∈ gw := gw_mem 493 rfl rfl
abbrev mX4_leastNext : MI := (yX4_leastNext, cX4_leastNext, 4, some .int)
set_option maxRecDepth 20000 in
theorem mwX4_leastNext : mi_code mX4_leastNext ∈ gw := gw_mem 546 rfl rfl
abbrev mX4_numberBlocks : MI := (yX4_numberBlocks, cX4_numberBlocks, 4, none)
set_option maxRecDepth 20000 in
theorem mwX4_numberBlocks : mi_code mX4_numberBlocks ∈ gw := gw_mem 568 rfl rfl
abbrev mX4_fillBlock : MI := (yX4_fillBlock, cX4_fillBlock, 5, some .int)
set_option maxRecDepth 20000 in
theorem mwX4_fillBlock : mi_code mX4_fillBlock ∈ gw := gw_mem 572 rfl rfl
abbrev mX4_sizeOf : MI := (yX4_sizeOf, cX4_sizeOf, 2, some .int)
set_option maxRecDepth 20000 in
theorem mwX4_sizeOf : mi_code mX4_sizeOf ∈ gw := gw_mem 580 rfl rfl
abbrev mX4_tripAt : MI := (yX4_tripAt, cX4_tripAt, 3, some .int)
set_option maxRecDepth 20000 in
theorem mwX4_tripAt : mi_code mX4_tripAt ∈ gw := gw_mem 584 rfl rfl
abbrev mX4_greatestSlack : MI := (yX4_greatestSlack, cX4_greatestSlack, 3, some .int)
set_option maxRecDepth 20000 in
theorem mwX4_greatestSlack : mi_code mX4_greatestSlack ∈ gw := gw_mem 605 rfl rfl
abbrev mX4_leastSlack : MI := (yX4_leastSlack, cX4_leastSlack, 3, some .int)
set_option maxRecDepth 20000 in
theorem mwX4_leastSlack : mi_code mX4_leastSlack ∈ gw := gw_mem 610 rfl rfl
abbrev mX4_fewestWith : MI := (yX4_fewestWith, cX4_fewestWith, 4, some .int)
set_option maxRecDepth 20000 in
theorem mwX4_fewestWith : mi_code mX4_fewestWith ∈ gw := gw_mem 753 rfl rfl
abbrev mX5_init : MI := (yX5_init, cX5_init, 3, none)
set_option maxRecDepth 20000 in
theorem mwX5_init : mi_code mX5_init ∈ gw := gw_mem 324 rfl rfl
abbrev mX5_forget : MI := (yX5_forget, cX5_forget, 1, none)
set_option maxRecDepth 20000 in
theorem mwX5_forget : mi_code mX5_forget ∈ gw := gw_mem 404 rfl rfl
abbrev mX5_tell : MI := (yX5_tell, cX5_tell, 1, some .int)
set_option maxRecDepth 20000 in
theorem mwX5_tell : mi_code mX5_tell ∈ gw := gw_mem 677 rfl rfl
abbrev mX5_of : MI := (yX5_of, cX5_of, 4, some .int)
set_option maxRecDepth 20000 in
theorem mwX5_of : mi_code mX5_of ∈ gw := gw_mem 728 rfl rfl
abbrev mX5_endAt : MI := (yX5_endAt, cX5_endAt, 3, some .int)
set_option maxRecDepth 20000 in
theorem mwX5_endAt : mi_code mX5_endAt ∈ gw := gw_mem 731 rfl rfl
abbrev mX5_listLawful : MI := (yX5_listLawful, cX5_listLawful, 3, some .boolean)
set_option maxRecDepth 20000 in
theorem mwX5_listLawful : mi_code mX5_listLawful ∈ gw := gw_mem 681 rfl rfl
abbrev mX5_listSeconds : MI := (yX5_listSeconds, cX5_listSeconds, 5, none)
set_option maxRecDepth 20000 in
theorem mwX5_listSeconds : mi_code mX5_listSeconds ∈ gw := gw_mem 697 rfl rfl
abbrev mX5_packed : MI := (yX5_packed, cX5_packed, 4, some .int)
set_option maxRecDepth 20000 in
theorem mwX5_packed : mi_code mX5_packed ∈ gw := gw_mem 689 rfl rfl
abbrev mX5_list : MI := (yX5_list, cX5_list, 2, none)
set_option maxRecDepth 20000 in
theorem mwX5_list : mi_code mX5_list ∈ gw := gw_mem 693 rfl rfl
abbrev mX5_bits : MI := (yX5_bits, cX5_bits, 2, some .int)
set_option maxRecDepth 20000 in
theorem mwX5_bits : mi_code mX5_bits ∈ gw := gw_mem 686 rfl rfl
abbrev mX5_fewest : MI := (yX5_fewest, cX5_fewest, 2, some .int)
set_option maxRecDepth 20000 in
theorem mwX5_fewest : mi_code mX5_fewest ∈ gw := gw_mem 702 rfl rfl
abbrev mX5_doesAll : MI := (yX5_doesAll, cX5_doesAll, 7, some .boolean)
set_option maxRecDepth 20000 in
theorem mwX5_doesAll : mi_code mX5_doesAll ∈ gw := gw_mem 708 rfl rfl
abbrev mX5_isHopeless : MI := (yX5_isHopeless, cX5_isHopeless, 7, some .boolean)
set_option maxRecDepth 20000 in
theorem mwX5_isHopeless : mi_code mX5_isHopeless ∈ gw := gw_mem 712 rfl rfl
abbrev mX5_noteTooFew : MI := (yX5_noteTooFew, cX5_noteTooFew, 6, none)
set_option maxRecDepth 20000 in
theorem mwX5_noteTooFew : mi_code mX5_noteTooFew ∈ gw := gw_mem 718 rfl rfl
abbrev mX6_init : MI := (yX6_init, cX6_init, 4, none)
set_option maxRecDepth 20000 in
theorem mwX6_init : mi_code mX6_init ∈ gw := gw_mem 253 rfl rfl
abbrev mX6_cut : MI := (yX6_cut, cX6_cut, 5, none)
set_option maxRecDepth 20000 in
theorem mwX6_cut : mi_code mX6_cut ∈ gw := gw_mem 576 rfl rfl
abbrev mX6_open : MI := (yX6_open, cX6_open, 3, none)
set_option maxRecDepth 20000 in
theorem mwX6_open : mi_code mX6_open ∈ gw := gw_mem 589 rfl rfl
abbrev mX6_holds : MI := (yX6_holds, cX6_holds, 2, some .boolean)
set_option maxRecDepth 20000 in
theorem mwX6_holds : mi_code mX6_holds ∈ gw := gw_mem 627 rfl rfl
abbrev mX6_isPiece : MI := (yX6_isPiece, cX6_isPiece, 3, some .boolean)
set_option maxRecDepth 20000 in
theorem mwX6_isPiece : mi_code mX6_isPiece ∈ gw := gw_mem 635 rfl rfl
abbrev mX6_beginning : MI := (yX6_beginning, cX6_beginning, 2, some .int)
set_option maxRecDepth 20000 in
theorem mwX6_beginning : mi_code mX6_beginning ∈ gw := gw_mem 652 rfl rfl
abbrev mX6_ending : MI := (yX6_ending, cX6_ending, 2, some .int)
set_option maxRecDepth 20000 in
theorem mwX6_ending : mi_code mX6_ending ∈ gw := gw_mem 648 rfl rfl
abbrev mX6_placeAtBeginning : MI := (yX6_placeAtBeginning, cX6_placeAtBeginning, 2, some .int)
set_option maxRecDepth 20000 in
theorem mwX6_placeAtBeginning : mi_code mX6_placeAtBeginning ∈ gw := gw_mem 668 rfl rfl
abbrev mX6_placeAtEnd : MI := (yX6_placeAtEnd, cX6_placeAtEnd, 2, some .int)
set_option maxRecDepth 20000 in
theorem mwX6_placeAtEnd : mi_code mX6_placeAtEnd ∈ gw := gw_mem 664 rfl rfl
abbrev mX7_init : MI := (yX7_init, cX7_init, 1, none)
set_option maxRecDepth 20000 in
theorem mwX7_init : mi_code mX7_init ∈ gw := gw_mem 85 rfl rfl
abbrev mX7_holds : MI := (yX7_holds, cX7_holds, 2, some .boolean)
set_option maxRecDepth 20000 in
theorem mwX7_holds : mi_code mX7_holds ∈ gw := gw_mem 433 rfl rfl
abbrev mX7_add : MI := (yX7_add, cX7_add, 5, some .boolean)
set_option maxRecDepth 20000 in
theorem mwX7_add : mi_code mX7_add ∈ gw := gw_mem 420 rfl rfl
abbrev mX7_takeAway : MI := (yX7_takeAway, cX7_takeAway, 3, some .boolean)
set_option maxRecDepth 20000 in
theorem mwX7_takeAway : mi_code mX7_takeAway ∈ gw := gw_mem 429 rfl rfl
abbrev mX7_canShift : MI := (yX7_canShift, cX7_canShift, 3, some .boolean)
set_option maxRecDepth 20000 in
theorem mwX7_canShift : mi_code mX7_canShift ∈ gw := gw_mem 445 rfl rfl
abbrev mX7_shift : MI := (yX7_shift, cX7_shift, 3, some .boolean)
set_option maxRecDepth 20000 in
theorem mwX7_shift : mi_code mX7_shift ∈ gw := gw_mem 441 rfl rfl
abbrev mX8_init : MI := (yX8_init, cX8_init, 2, none)
set_option maxRecDepth 20000 in
theorem mwX8_init : mi_code mX8_init ∈ gw := gw_mem 64 rfl rfl
abbrev mX8_put : MI := (yX8_put, cX8_put, 5, some .boolean)
set_option maxRecDepth 20000 in
theorem mwX8_put : mi_code mX8_put ∈ gw := gw_mem 390 rfl rfl
abbrev mX8_putRelief : MI := (yX8_putRelief, cX8_putRelief, 3, some .boolean)
set_option maxRecDepth 20000 in
theorem mwX8_putRelief : mi_code mX8_putRelief ∈ gw := gw_mem 412 rfl rfl
abbrev mX8_minutesOf : MI := (yX8_minutesOf, cX8_minutesOf, 3, some .int)
set_option maxRecDepth 20000 in
theorem mwX8_minutesOf : mi_code mX8_minutesOf ∈ gw := gw_mem 472 rfl rfl
abbrev mX8_priceOf : MI := (yX8_priceOf, cX8_priceOf, 3, some .int)
set_option maxRecDepth 20000 in
theorem mwX8_priceOf : mi_code mX8_priceOf ∈ gw := gw_mem 497 rfl rfl
abbrev mX8_isRelief : MI := (yX8_isRelief, cX8_isRelief, 2, some .boolean)
set_option maxRecDepth 20000 in
theorem mwX8_isRelief : mi_code mX8_isRelief ∈ gw := gw_mem 593 rfl rfl
abbrev mX9_init : MI := (yX9_init, cX9_init, 1, none)
set_option maxRecDepth 20000 in
theorem mwX9_init : mi_code mX9_init ∈ gw := gw_mem 56 rfl rfl
abbrev mX9_way : MI := (yX9_way, cX9_way, 5, some .boolean)
set_option maxRecDepth 20000 in
theorem mwX9_way : mi_code mX9_way ∈ gw := gw_mem 386 rfl rfl
abbrev mX9_relief : MI := (yX9_relief, cX9_relief, 3, some .boolean)
set_option maxRecDepth 20000 in
theorem mwX9_relief : mi_code mX9_relief ∈ gw := gw_mem 408 rfl rfl
abbrev mX9_trip : MI := (yX9_trip, cX9_trip, 5, some .int)
set_option maxRecDepth 20000 in
theorem mwX9_trip : mi_code mX9_trip ∈ gw := gw_mem 416 rfl rfl
abbrev mX9_drop : MI := (yX9_drop, cX9_drop, 2, some .boolean)
set_option maxRecDepth 20000 in
theorem mwX9_drop : mi_code mX9_drop ∈ gw := gw_mem 425 rfl rfl
abbrev mX9_move : MI := (yX9_move, cX9_move, 3, some .boolean)
set_option maxRecDepth 20000 in
theorem mwX9_move : mi_code mX9_move ∈ gw := gw_mem 437 rfl rfl
abbrev mX9_laws : MI := (yX9_laws, cX9_laws, 6, some .boolean)
set_option maxRecDepth 20000 in
theorem mwX9_laws : mi_code mX9_laws ∈ gw := gw_mem 449 rfl rfl
abbrev mX9_tripOf : MI := (yX9_tripOf, cX9_tripOf, 3, some .int)
set_option maxRecDepth 20000 in
theorem mwX9_tripOf : mi_code mX9_tripOf ∈ gw := gw_mem 458 rfl rfl
abbrev mX9_may : MI := (yX9_may, cX9_may, 3, some .int)
set_option maxRecDepth 20000 in
theorem mwX9_may : mi_code mX9_may ∈ gw := gw_mem 463 rfl rfl
abbrev mX9_goesOn : MI := (yX9_goesOn, cX9_goesOn, 1, some .int)
set_option maxRecDepth 20000 in
theorem mwX9_goesOn : mi_code mX9_goesOn ∈ gw := gw_mem 476 rfl rfl
abbrev mX9_plan : MI := (yX9_plan, cX9_plan, 2, some .int)
set_option maxRecDepth 20000 in
theorem mwX9_plan : mi_code mX9_plan ∈ gw := gw_mem 601 rfl rfl
abbrev mX9_block : MI := (yX9_block, cX9_block, 3, some .int)
set_option maxRecDepth 20000 in
theorem mwX9_block : mi_code mX9_block ∈ gw := gw_mem 614 rfl rfl
abbrev mX9_planned : MI := (yX9_planned, cX9_planned, 3, some .int)
set_option maxRecDepth 20000 in
theorem mwX9_planned : mi_code mX9_planned ∈ gw := gw_mem 619 rfl rfl
abbrev mX9_segment : MI := (yX9_segment, cX9_segment, 3, some .int)
set_option maxRecDepth 20000 in
theorem mwX9_segment : mi_code mX9_segment ∈ gw := gw_mem 623 rfl rfl
abbrev mX9_clash : MI := (yX9_clash, cX9_clash, 6, some .int)
set_option maxRecDepth 20000 in
theorem mwX9_clash : mi_code mX9_clash ∈ gw := gw_mem 631 rfl rfl
abbrev mX9_roster : MI := (yX9_roster, cX9_roster, 1, some .int)
set_option maxRecDepth 20000 in
theorem mwX9_roster : mi_code mX9_roster ∈ gw := gw_mem 673 rfl rfl
abbrev mX9_duty : MI := (yX9_duty, cX9_duty, 3, some .int)
set_option maxRecDepth 20000 in
theorem mwX9_duty : mi_code mX9_duty ∈ gw := gw_mem 724 rfl rfl
abbrev mX9_apart : MI := (yX9_apart, cX9_apart, 1, some .int)
set_option maxRecDepth 20000 in
theorem mwX9_apart : mi_code mX9_apart ∈ gw := gw_mem 735 rfl rfl
abbrev mX9_saves : MI := (yX9_saves, cX9_saves, 3, some .int)
set_option maxRecDepth 20000 in
theorem mwX9_saves : mi_code mX9_saves ∈ gw := gw_mem 748 rfl rfl
abbrev mX9_about : MI := (yX9_about, cX9_about, 2, some .int)
set_option maxRecDepth 20000 in
theorem mwX9_about : mi_code mX9_about ∈ gw := gw_mem 763 rfl rfl
abbrev mX9_noted : MI := (yX9_noted, cX9_noted, 2, some .boolean)
set_option maxRecDepth 20000 in
theorem mwX9_noted : mi_code mX9_noted ∈ gw := gw_mem 400 rfl rfl
abbrev mX9_bringUpToDate : MI := (yX9_bringUpToDate, cX9_bringUpToDate, 1, none)
set_option maxRecDepth 20000 in
theorem mwX9_bringUpToDate : mi_code mX9_bringUpToDate ∈ gw := gw_mem 480 rfl rfl
abbrev mX9_lowest : MI := (yX9_lowest, cX9_lowest, 1, some .int)
set_option maxRecDepth 20000 in
theorem mwX9_lowest : mi_code mX9_lowest ∈ gw := gw_mem 557 rfl rfl
abbrev mX9_isPlace : MI := (yX9_isPlace, cX9_isPlace, 1, some .boolean)
set_option maxRecDepth 20000 in
theorem mwX9_isPlace : mi_code mX9_isPlace ∈ gw := gw_mem 393 rfl rfl
abbrev mX9_within : MI := (yX9_within, cX9_within, 3, some .boolean)
set_option maxRecDepth 20000 in
theorem mwX9_within : mi_code mX9_within ∈ gw := gw_mem 396 rfl rfl
abbrev mX10_init : MI := (yX10_init, cX10_init, 3, none)
set_option maxRecDepth 20000 in
theorem mwX10_init : mi_code mX10_init ∈ gw := gw_mem 768 rfl rfl
abbrev mX10_in : MI := (yX10_in, cX10_in, 3, some .boolean)
set_option maxRecDepth 20000 in
theorem mwX10_in : mi_code mX10_in ∈ gw := gw_mem 862 rfl rfl
abbrev mX10_isPlace : MI := (yX10_isPlace, cX10_isPlace, 1, some .boolean)
set_option maxRecDepth 20000 in
theorem mwX10_isPlace : mi_code mX10_isPlace ∈ gw := gw_mem 859 rfl rfl
abbrev mX10_isTrip : MI := (yX10_isTrip, cX10_isTrip, 2, some .boolean)
set_option maxRecDepth 20000 in
theorem mwX10_isTrip : mi_code mX10_isTrip ∈ gw := gw_mem 878 rfl rfl
abbrev mX10_way : MI := (yX10_way, cX10_way, 5, some .boolean)
set_option maxRecDepth 20000 in
theorem mwX10_way : mi_code mX10_way ∈ gw := gw_mem 856 rfl rfl
abbrev mX10_relief : MI := (yX10_relief, cX10_relief, 3, some .boolean)
set_option maxRecDepth 20000 in
theorem mwX10_relief : mi_code mX10_relief ∈ gw := gw_mem 866 rfl rfl
abbrev mX10_trip : MI := (yX10_trip, cX10_trip, 5, some .int)
set_option maxRecDepth 20000 in
theorem mwX10_trip : mi_code mX10_trip ∈ gw := gw_mem 870 rfl rfl
abbrev mX10_drop : MI := (yX10_drop, cX10_drop, 3, some .boolean)
set_option maxRecDepth 20000 in
theorem mwX10_drop : mi_code mX10_drop ∈ gw := gw_mem 874 rfl rfl
abbrev mX10_canMove : MI := (yX10_canMove, cX10_canMove, 3, some .boolean)
set_option maxRecDepth 20000 in
theorem mwX10_canMove : mi_code mX10_canMove ∈ gw := gw_mem 886 rfl rfl
abbrev mX10_move : MI := (yX10_move, cX10_move, 3, some .boolean)
set_option maxRecDepth 20000 in
theorem mwX10_move : mi_code mX10_move ∈ gw := gw_mem 882 rfl rfl
abbrev mX10_laws : MI := (yX10_laws, cX10_laws, 5, some .boolean)
set_option maxRecDepth 20000 in
theorem mwX10_laws : mi_code mX10_laws ∈ gw := gw_mem 890 rfl rfl
abbrev mX10_tripOf : MI := (yX10_tripOf, cX10_tripOf, 3, some .int)
set_option maxRecDepth 20000 in
theorem mwX10_tripOf : mi_code mX10_tripOf ∈ gw := gw_mem 894 rfl rfl
abbrev mX10_follows : MI := (yX10_follows, cX10_follows, 4, some .boolean)
set_option maxRecDepth 20000 in
theorem mwX10_follows : mi_code mX10_follows ∈ gw := gw_mem 902 rfl rfl
abbrev mX10_may : MI := (yX10_may, cX10_may, 3, some .int)
set_option maxRecDepth 20000 in
theorem mwX10_may : mi_code mX10_may ∈ gw := gw_mem 898 rfl rfl
abbrev mX10_goesOn : MI := (yX10_goesOn, cX10_goesOn, 4, some .int)
set_option maxRecDepth 20000 in
theorem mwX10_goesOn : mi_code mX10_goesOn ∈ gw := gw_mem 906 rfl rfl
abbrev mX10_sums : MI := (yX10_sums, cX10_sums, 7, none)
set_option maxRecDepth 20000 in
theorem mwX10_sums : mi_code mX10_sums ∈ gw := gw_mem 918 rfl rfl
abbrev mX10_with : MI := (yX10_with, cX10_with, 4, some .int)
set_option maxRecDepth 20000 in
theorem mwX10_with : mi_code mX10_with ∈ gw := gw_mem 923 rfl rfl
abbrev mX10_plans : MI := (yX10_plans, cX10_plans, 4, none)
set_option maxRecDepth 20000 in
theorem mwX10_plans : mi_code mX10_plans ∈ gw := gw_mem 914 rfl rfl
abbrev mX10_goes : MI := (yX10_goes, cX10_goes, 5, none)
set_option maxRecDepth 20000 in
theorem mwX10_goes : mi_code mX10_goes ∈ gw := gw_mem 928 rfl rfl
abbrev mX10_slack : MI := (yX10_slack, cX10_slack, 2, some .int)
set_option maxRecDepth 20000 in
theorem mwX10_slack : mi_code mX10_slack ∈ gw := gw_mem 932 rfl rfl
abbrev mX10_plan : MI := (yX10_plan, cX10_plan, 6, some .int)
set_option maxRecDepth 20000 in
theorem mwX10_plan : mi_code mX10_plan ∈ gw := gw_mem 910 rfl rfl
abbrev mX10_block : MI := (yX10_block, cX10_block, 5, some .int)
set_option maxRecDepth 20000 in
theorem mwX10_block : mi_code mX10_block ∈ gw := gw_mem 936 rfl rfl
abbrev mX10_planned : MI := (yX10_planned, cX10_planned, 3, some .int)
set_option maxRecDepth 20000 in
theorem mwX10_planned : mi_code mX10_planned ∈ gw := gw_mem 940 rfl rfl
abbrev mX10_segment : MI := (yX10_segment, cX10_segment, 3, some .int)
set_option maxRecDepth 20000 in
theorem mwX10_segment : mi_code mX10_segment ∈ gw := gw_mem 944 rfl rfl
abbrev mX10_isPiece : MI := (yX10_isPiece, cX10_isPiece, 3, some .boolean)
set_option maxRecDepth 20000 in
theorem mwX10_isPiece : mi_code mX10_isPiece ∈ gw := gw_mem 952 rfl rfl
abbrev mX10_beginOf : MI := (yX10_beginOf, cX10_beginOf, 2, some .int)
set_option maxRecDepth 20000 in
theorem mwX10_beginOf : mi_code mX10_beginOf ∈ gw := gw_mem 960 rfl rfl
abbrev mX10_endOf : MI := (yX10_endOf, cX10_endOf, 2, some .int)
set_option maxRecDepth 20000 in
theorem mwX10_endOf : mi_code mX10_endOf ∈ gw := gw_mem 964 rfl rfl
abbrev mX10_broken : MI := (yX10_broken, cX10_broken, 12, some .int)
set_option maxRecDepth 20000 in
theorem mwX10_broken : mi_code mX10_broken ∈ gw := gw_mem 956 rfl rfl
abbrev mX10_clash : MI := (yX10_clash, cX10_clash, 5, some .int)
set_option maxRecDepth 20000 in
theorem mwX10_clash : mi_code mX10_clash ∈ gw := gw_mem 948 rfl rfl
abbrev mX10_bits : MI := (yX10_bits, cX10_bits, 2, some .int)
set_option maxRecDepth 20000 in
theorem mwX10_bits : mi_code mX10_bits ∈ gw := gw_mem 982 rfl rfl
abbrev mX10_lowest : MI := (yX10_lowest, cX10_lowest, 2, some .int)
set_option maxRecDepth 20000 in
theorem mwX10_lowest : mi_code mX10_lowest ∈ gw := gw_mem 979 rfl rfl
abbrev mX10_rosters : MI := (yX10_rosters, cX10_rosters, 3, none)
set_option maxRecDepth 20000 in
theorem mwX10_rosters : mi_code mX10_rosters ∈ gw := gw_mem 972 rfl rfl
abbrev mX10_takes : MI := (yX10_takes, cX10_takes, 9, some .boolean)
set_option maxRecDepth 20000 in
theorem mwX10_takes : mi_code mX10_takes ∈ gw := gw_mem 976 rfl rfl
abbrev mX10_takesOne : MI := (yX10_takesOne, cX10_takesOne, 10, some .boolean)
set_option maxRecDepth 20000 in
theorem mwX10_takesOne : mi_code mX10_takesOne ∈ gw := gw_mem 986 rfl rfl
abbrev mX10_roster : MI := (yX10_roster, cX10_roster, 4, some .int)
set_option maxRecDepth 20000 in
theorem mwX10_roster : mi_code mX10_roster ∈ gw := gw_mem 968 rfl rfl
abbrev mX10_duty : MI := (yX10_duty, cX10_duty, 3, some .int)
set_option maxRecDepth 20000 in
theorem mwX10_duty : mi_code mX10_duty ∈ gw := gw_mem 990 rfl rfl
abbrev mX10_apart : MI := (yX10_apart, cX10_apart, 7, some .int)
set_option maxRecDepth 20000 in
theorem mwX10_apart : mi_code mX10_apart ∈ gw := gw_mem 994 rfl rfl
abbrev mX10_blocksNow : MI := (yX10_blocksNow, cX10_blocksNow, 1, some .int)
set_option maxRecDepth 20000 in
theorem mwX10_blocksNow : mi_code mX10_blocksNow ∈ gw := gw_mem 1002 rfl rfl
abbrev mX10_saves : MI := (yX10_saves, cX10_saves, 4, some .int)
set_option maxRecDepth 20000 in
theorem mwX10_saves : mi_code mX10_saves ∈ gw := gw_mem 998 rfl rfl
abbrev mX10_about : MI := (yX10_about, cX10_about, 2, some .int)
set_option maxRecDepth 20000 in
theorem mwX10_about : mi_code mX10_about ∈ gw := gw_mem 1006 rfl rfl
abbrev mJ6_bitCount_0f7a4 : MI := (yJ6_bitCount_0f7a4, cJ6_bitCount_0f7a4, 1, some .int)
set_option maxRecDepth 20000 in
theorem mwJ6_bitCount_0f7a4 : mi_code mJ6_bitCount_0f7a4 ∈ gw := gw_mem 560 rfl rfl
abbrev mJ9_max_7cf53 : MI := (yJ9_max_7cf53, cJ9_max_7cf53, 2, some .int)
set_option maxRecDepth 20000 in
theorem mwJ9_max_7cf53 : mi_code mJ9_max_7cf53 ∈ gw := gw_mem 507 rfl rfl
abbrev mJ9_min_7cf53 : MI := (yJ9_min_7cf53, cJ9_min_7cf53, 2, some .int)
set_option maxRecDepth 20000 in
theorem mwJ9_min_7cf53 : mi_code mJ9_min_7cf53 ∈ gw := gw_mem 504 rfl rfl
abbrev mJ7_fill_d0a16 : MI := (yJ7_fill_d0a16, cJ7_fill_d0a16, 5, none)
set_option maxRecDepth 20000 in
theorem mwJ7_fill_d0a16 : mi_code mJ7_fill_d0a16 ∈ gw := gw_mem 705 rfl rfl
abbrev mJ7_fill_53178 : MI := (yJ7_fill_53178, cJ7_fill_53178, 4, none)
set_option maxRecDepth 20000 in
theorem mwJ7_fill_53178 : mi_code mJ7_fill_53178 ∈ gw := gw_mem 68 rfl rfl
def nestW : List Cond := [.methodLinkNest RX9 18 yX7_init RX9, .methodLinkNest RX4 36 yX3_init RX9, .methodLinkNest RX8 28 yX9_isPlace RX9, .methodLinkNest RX8 32 yX9_within RX9, .methodLinkNest RX7 28 yX9_isPlace RX9, .methodLinkNest RX0 33 yX9_within RX9, .methodLinkNest RX3 45 yX9_lowest RX9, .methodLinkNest RX5 60 yX9_lowest RX9]
end
section
/-! ===== THE ABSTRACT MACHINE: ints are integers in their range, cells have numbers, a world has a fixed plan ===== -/
abbrev r32 (x : Int) : Prop := -2147483648 ≤ x ∧ x < 2147483648
theorem i32_of {x : Int} (h : r32 x) : (Int32.ofInt x).toInt = x := by
  rw [Int32.toInt_ofInt]
  show x.bmod 4294967296 = x
  rw [Int.bmod_eq_of_le (by omega) (by omega)]
theorem i32_rng (x : Int32) : r32 x.toInt := by
  have h1 := Int32.le_toInt x
  have h2 := Int32.toInt_lt x
  exact ⟨by omega, by omega⟩
theorem i32_inj {x y : Int} (hx : r32 x) (hy : r32 y) (h : Int32.ofInt x = Int32.ofInt y) : x = y := by
  rw [← i32_of hx, ← i32_of hy, h]
theorem i32_eq {x y : Int} (hx : r32 x) (hy : r32 y) : Int32.ofInt x = Int32.ofInt y ↔ x = y := ⟨i32_inj hx hy, fun h => by rw [h]⟩
theorem i32_lt {x y : Int} (hx : r32 x) (hy : r32 y) : Int32.ofInt x < Int32.ofInt y ↔ x < y := by rw [Int32.lt_iff_toInt_lt, i32_of hx, i32_of hy]
theorem i32_le {x y : Int} (hx : r32 x) (hy : r32 y) : Int32.ofInt x ≤ Int32.ofInt y ↔ x ≤ y := by rw [Int32.le_iff_toInt_le, i32_of hx, i32_of hy]
theorem i32_0 : Int32.ofInt 0 = 0 := by decide
theorem r32_0 : r32 0 := by decide
theorem i32_eq0 {x : Int} (hx : r32 x) : Int32.ofInt x = 0 ↔ x = 0 := by rw [← i32_0]; exact i32_eq hx r32_0
theorem i32_lt0 {x : Int} (hx : r32 x) : Int32.ofInt x < 0 ↔ x < 0 := by rw [← i32_0]; exact i32_lt hx r32_0
theorem i32_le0 {x : Int} (hx : r32 x) : Int32.ofInt x ≤ 0 ↔ x ≤ 0 := by rw [← i32_0]; exact i32_le hx r32_0
theorem i32_0le {x : Int} (hx : r32 x) : 0 ≤ Int32.ofInt x ↔ 0 ≤ x := by rw [← i32_0]; exact i32_le r32_0 hx
theorem i32_0lt {x : Int} (hx : r32 x) : 0 < Int32.ofInt x ↔ 0 < x := by rw [← i32_0]; exact i32_lt r32_0 hx
theorem i32_cl {x : Int} (hx : r32 x) : (Int32.ofInt x).toNatClampNeg = x.toNat := by
  show (Int32.ofInt x).toInt.toNat = x.toNat
  rw [i32_of hx]
theorem i32_in {x : Int} {n : Nat} (hx : r32 x) (h0 : 0 ≤ x) (h1 : x < n) : vp_in (Int32.ofInt x) n := by
  rintro (h | h)
  · rw [i32_lt0 hx] at h; omega
  · rw [i32_cl hx] at h; omega
def bAnd (x y : Int) : Int := (Int32.ofInt x &&& Int32.ofInt y).toInt
def bOr (x y : Int) : Int := (Int32.ofInt x ||| Int32.ofInt y).toInt
def bXor (x y : Int) : Int := (Int32.ofInt x ^^^ Int32.ofInt y).toInt
def bShl (x y : Int) : Int := (Int32.ofInt x <<< (Int32.ofInt y &&& 31)).toInt
def bShr (x y : Int) : Int := (Int32.ofInt x >>> (Int32.ofInt y &&& 31)).toInt
def bUsh (x y : Int) : Int := ((Int32.ofInt x).toUInt32 >>> ((Int32.ofInt y).toUInt32 &&& Int32.toUInt32 31)).toInt32.toInt
def bDiv (x y : Int) : Int := (Int32.ofInt x / Int32.ofInt y).toInt
def bL2i (x : Int64) : Int := x.toInt32.toInt
def bI2l (x : Int) : Int64 := (Int32.ofInt x).toInt64
def bLshl (x : Int64) (y : Int) : Int64 := x <<< ((Int32.ofInt y).toInt64 &&& 63)
def bLshr (x : Int64) (y : Int) : Int64 := x >>> ((Int32.ofInt y).toInt64 &&& 63)
/-- a value: an int, a long, a cell's number; or nothing is known of it -/
abbrev AV : Type := Int ⊕ (Int64 ⊕ Option Nat)
abbrev vI (x : Int) : AV := .inl x
abbrev vL (x : Int64) : AV := .inr (.inl x)
abbrev vR (a : Nat) : AV := .inr (.inr (some a))
abbrev vN : AV := .inr (.inr none)
def av_c (ad : Nat → Nat) (v : AV) : Value := match v with
  | .inl x => .int (Int32.ofInt x)
  | .inr (.inl y) => .long y
  | .inr (.inr (some a)) => .ref (ad a)
  | .inr (.inr none) => .null
theorem av_cI (ad : Nat → Nat) (x : Int) : av_c ad (vI x) = .int (Int32.ofInt x) := rfl
theorem av_cL (ad : Nat → Nat) (x : Int64) : av_c ad (vL x) = .long x := rfl
theorem av_cR (ad : Nat → Nat) (a : Nat) : av_c ad (vR a) = .ref (ad a) := rfl
def av_ok (v : AV) : Prop := match v with
  | .inl x => r32 x
  | _ => True
def av_oks (l : List AV) : Prop := ∀ v ∈ l, av_ok v
/-- what a world's cells hold: ints (fields and places of arrays) by cell and place, longs likewise -/
abbrev St : Type := (Nat → Nat → Int) × (Nat → Nat → Int64)
def s_ok (σ : St) : Prop := ∀ k j, r32 (σ.1 k j)
def sI (σ : St) (k j : Nat) (v : Int) : St := (fun a b => if a = k ∧ b = j then v else σ.1 a b, σ.2)
def sL (σ : St) (k j : Nat) (v : Int64) : St := (σ.1, fun a b => if a = k ∧ b = j then v else σ.2 a b)
theorem s_okI {σ : St} (h : s_ok σ) {k j : Nat} {v : Int} (hv : r32 v) : s_ok (sI σ k j v) := by
  intro a b
  show r32 (if a = k ∧ b = j then v else σ.1 a b)
  split
  · exact hv
  · exact h a b
theorem s_okL {σ : St} (h : s_ok σ) {k j : Nat} {v : Int64} : s_ok (sL σ k j v) := h
/-- a cell's plan: an object (its class by number; its fields: a cell's number, or none for an int), an array (0 int, 1 long, 2 boolean; length) -/
abbrev CD : Type := (Nat × List (Option Nat)) ⊕ (Nat × Nat)
/-- the launch, the classes' numbers and slots, the array classes -/
abbrev GX : Type := Launch × va_G × (Nat → ClassId)
def cd_f (ad : Nat → Nat) (σ : St) (k : Nat) (j : Nat) (f : Option Nat) : Value := match f with
  | some a => .ref (ad a)
  | none => .int (Int32.ofInt (σ.1 k j))
def cd_e (G : GX) (ad : Nat → Nat) (σ : St) (k : Nat) (c : CD) : va_E := match c with
  | .inl (ci, fs) => .inr (ci, fs.mapIdx (cd_f ad σ k))
  | .inr (t, n) => .inl (G.2.2 t, n, if t = 1 then .inr (.inl (σ.2 k)) else .inl (fun j => Int32.ofInt (σ.1 k j)))
def cs (G : GX) (wd : List CD) (ad : Nat → Nat) (σ : St) : va_W := wd.mapIdx (fun k c => (ad k, cd_e G ad σ k c))
theorem cs_at {G : GX} {wd : List CD} {ad : Nat → Nat} {σ : St} {k : Nat} {c : CD} (h : wd[k]? = some c) : (cs G wd ad σ)[k]? = some (ad k, cd_e G ad σ k c) := by
  simp [cs, List.getElem?_mapIdx, h]
theorem cs_set {G : GX} {wd : List CD} {ad : Nat → Nat} {σ σ' : St} {k : Nat} {c : CD} {x : va_E} (h : wd[k]? = some c) (hx : x = cd_e G ad σ' k c) (ho : ∀ a, a ≠ k → ∀ b, σ'.1 a b = σ.1 a b ∧ σ'.2 a b = σ.2 a b) :
    (cs G wd ad σ).set k (ad k, x) = cs G wd ad σ' := by
  subst hx
  apply List.ext_getElem?
  intro i
  have hk : k < wd.length := (List.getElem?_eq_some_iff.mp h).1
  by_cases hi : i = k
  · subst hi
    rw [cs_at h, List.getElem?_set_self (by simp [cs]; exact hk)]
  · rw [List.getElem?_set_ne (fun e => hi e.symm)]
    simp only [cs, List.getElem?_mapIdx]
    cases hw : wd[i]? with
    | none => rfl
    | some d =>
      simp only [Option.map_some]
      congr 2
      have h1 : ∀ b, σ'.1 i b = σ.1 i b := fun b => (ho i hi b).1
      have h2 : σ'.2 i = σ.2 i := funext fun b => (ho i hi b).2
      rcases d with ⟨ci, fs⟩ | ⟨t, n⟩
      · simp only [cd_e]
        congr 2
        apply List.ext_getElem?
        intro j
        simp only [List.getElem?_mapIdx]
        cases fs[j]? with
        | none => rfl
        | some f => cases f <;> simp [cd_f, h1]
      · simp only [cd_e, h1, h2]
/-- what the tables say, and the nest's words -/
abbrev cTy (G : GX) : List (ClassId × FieldType) := [(G.2.2 0, .int), (G.2.2 1, .long), (G.2.2 2, .boolean)]
def cK (G : GX) (U : State) : Prop := va_K G.2.1 vwCl (cTy G) U ∧ ∀ w ∈ nestW, va_Nw w U
theorem cK.moved {G : GX} {u U : State} (hW : u.WarmedH U.vm) (h : cK G u) : cK G U := by
  refine ⟨va_K.moved hW.alike h.1, fun w hw => ?_⟩
  have h1 := h.2 w hw
  have : ∃ a i x b, w = Cond.methodLinkNest a i x b := by
    simp only [nestW, List.mem_cons, List.not_mem_nil, or_false] at hw
    rcases hw with rfl | rfl | rfl | rfl | rfl | rfl | rfl | rfl <;> exact ⟨_, _, _, _, rfl⟩
  obtain ⟨a, i, x, b, rfl⟩ := this
  exact va_Nw.warmM hW h1
def ws_m (m : MI) : List Cond := mi_code m :: gw
def rm_d (d : Nat) : Room := { frames := d, cells := 0, slots := 0, locals := 41 * d }
/-- what holds when a method ends -/
def cQ (G : GX) (wd : List CD) (ad : Nat → Nat) (Q : Option AV → St → Prop) (A : Nat → Prop) : Array Value → State → Outcome → State → Prop := fun _ st oc t =>
  (∃ (r : Option AV) (σ' : St), oc = .returned (r.map (av_c ad)) ∧ Q r σ' ∧ (∀ v, r = some v → av_ok v) ∧ s_ok σ' ∧ va_P G.2.1 vwCl (cs G wd ad σ') t.heap ∧ va_D A (cs G wd ad σ')) ∧ va_F A st t
/-- THE CONTRACT: called with these arguments in this state, method m returns, and Q holds of its answer and the new state -/
def Con (G : GX) (wd : List CD) (d : Nat) (m : MI) (args : List AV) (σ : St) (Q : Option AV → St → Prop) : Prop :=
  ∀ (ad : Nat → Nat) (sz : Nat), av_oks args → s_ok σ →
    Met G.1 m.1 (ws_m m) (rm_d d) (va_Pc (args.map (av_c ad)) (fun U => U.heap.size = sz ∧ va_P G.2.1 vwCl (cs G wd ad σ) U.heap ∧ cK G U ∧ va_D (fun _ => True) (cs G wd ad σ)))
      (cQ G wd ad Q (va_A (cs G wd ad σ) sz)) 0 0 (va_A (cs G wd ad σ) sz)
def conI (G : GX) (wd : List CD) (d : Nat) (m : MI) (args : List AV) (σ : St) (Q : Int → St → Prop) : Prop := Con G wd d m args σ (fun r σ' => ∃ x, r = some (vI x) ∧ Q x σ')
def conV (G : GX) (wd : List CD) (d : Nat) (m : MI) (args : List AV) (σ : St) (Q : St → Prop) : Prop := Con G wd d m args σ (fun r σ' => r = none ∧ Q σ')
/-- the locals: by their places; of vN nothing is said -/
def ll (ad : Nat → Nat) : Nat → List AV → List (Nat × Value)
  | _, [] => []
  | i, v :: vs => if v = vN then ll ad (i + 1) vs else (i, av_c ad v) :: ll ad (i + 1) vs
theorem ll_mem {ad : Nat → Nat} : ∀ {ls : List AV} {i : Nat} {q : Nat × Value}, q ∈ ll ad i ls ↔ ∃ (j : Nat) (v : AV), ls[j]? = some v ∧ v ≠ vN ∧ q = (i + j, av_c ad v) := by
  intro ls
  induction ls with
  | nil => intro i q; simp [ll]
  | cons v vs ih =>
    intro i q
    unfold ll
    constructor
    · intro h
      split at h
      · obtain ⟨j, w, h1, h2, h3⟩ := ih.mp h
        exact ⟨j + 1, w, by simpa using h1, h2, by rw [h3]; congr 1; omega⟩
      · rename_i hv
        rcases List.mem_cons.mp h with h | h
        · exact ⟨0, v, rfl, hv, h⟩
        · obtain ⟨j, w, h1, h2, h3⟩ := ih.mp h
          exact ⟨j + 1, w, by simpa using h1, h2, by rw [h3]; congr 1; omega⟩
    · rintro ⟨j, w, h1, h2, h3⟩
      cases j with
      | zero =>
        simp only [List.getElem?_cons_zero, Option.some.injEq] at h1
        subst h1
        rw [if_neg h2, h3]
        exact List.mem_cons_self
      | succ j =>
        have h1' : vs[j]? = some w := by simpa using h1
        have hm : q ∈ ll ad (i + 1) vs := ih.mpr ⟨j, w, h1', h2, by rw [h3]; congr 1; omega⟩
        split
        · exact hm
        · exact List.mem_cons_of_mem _ hm
def lvA (ad : Nat → Nat) (L : Array Slot) (nL : Nat) (ls : List AV) : Prop := ls.length = nL ∧ lv_has L nL (ll ad 0 ls)
theorem lvA.at {ad : Nat → Nat} {L : Array Slot} {nL : Nat} {ls : List AV} (h : lvA ad L nL ls) {k : Nat} {v : AV} (hk : ls[k]? = some v) (hv : v ≠ vN) : L[k]? = some (.val (av_c ad v)) := by
  have h1 := h.2.2.2 (k, av_c ad v) (ll_mem.mpr ⟨k, v, hk, hv, by rw [Nat.zero_add]⟩)
  exact h1
/-- no long stands ahead of place k -/
def nol (ls : List AV) (k : Nat) : Bool := match k with
  | 0 => true
  | j + 1 => match ls[j]? with
    | some (.inr (.inl _)) => false
    | _ => true
theorem av_cat {ad : Nat → Nat} {v : AV} (h : (av_c ad v).category = 2) : ∃ x, v = vL x := by
  rcases v with x | x | x
  · simp [av_c, Value.category] at h
  · exact ⟨x, rfl⟩
  · cases x <;> simp [av_c, Value.category] at h
theorem lvA.put1 {ad : Nat → Nat} {L' : Array Slot} {nL : Nat} {ls : List AV} {k : Nat} {v : AV} (hl : ls.length = nL) (hn : nol ls k = true)
    (h : lv_has L' nL ((k, av_c ad v) :: (ll ad 0 ls).filter (fun q => !(q.1 == k) && !(q.1 + 1 == k && q.2.category == 2)))) : lvA ad L' nL (ls.set k v) := by
  refine ⟨by rw [List.length_set]; exact hl, h.1, h.2.1, fun q hq => ?_⟩
  obtain ⟨j, w, h1, h2, h3⟩ := ll_mem.mp hq
  rw [Nat.zero_add] at h3
  by_cases hj : j = k
  · subst hj
    rw [List.getElem?_set] at h1
    simp only [if_true] at h1
    split at h1
    · cases h1
      rw [h3]
      exact h.2.2 (j, av_c ad v) List.mem_cons_self
    · cases h1
  · rw [List.getElem?_set_ne (fun e => hj e.symm)] at h1
    refine h.2.2 q (List.mem_cons_of_mem _ (List.mem_filter.mpr ⟨ll_mem.mpr ⟨j, w, h1, h2, by rw [h3, Nat.zero_add]⟩, ?_⟩))
    rw [h3]
    simp only [Bool.and_eq_true, Bool.not_eq_true', beq_eq_false_iff_ne, ne_eq, Bool.and_eq_false_iff, beq_eq_false_iff_ne]
    refine ⟨hj, ?_⟩
    by_cases e : j + 1 = k
    · right
      intro hc
      obtain ⟨x, rfl⟩ := av_cat hc
      subst e
      simp [nol, h1] at hn
    · left; exact e
theorem lvA.put2 {ad : Nat → Nat} {L' : Array Slot} {nL : Nat} {ls : List AV} {k : Nat} {v : AV} (hl : ls.length = nL) (hn : nol ls k = true)
    (h : lv_has L' nL ((k, av_c ad v) :: (ll ad 0 ls).filter (fun q => !(q.1 == k) && (!(q.1 == k + 1) && !(q.1 + 1 == k && q.2.category == 2))))) : lvA ad L' nL ((ls.set k v).set (k + 1) vN) := by
  refine ⟨by rw [List.length_set, List.length_set]; exact hl, h.1, h.2.1, fun q hq => ?_⟩
  obtain ⟨j, w, h1, h2, h3⟩ := ll_mem.mp hq
  rw [Nat.zero_add] at h3
  by_cases hj1 : j = k + 1
  · subst hj1
    rw [List.getElem?_set] at h1
    simp only [if_true] at h1
    split at h1
    · cases h1; exact absurd rfl h2
    · cases h1
  rw [List.getElem?_set_ne (fun e => hj1 e.symm)] at h1
  by_cases hj : j = k
  · subst hj
    rw [List.getElem?_set] at h1
    simp only [if_true] at h1
    split at h1
    · cases h1
      rw [h3]
      exact h.2.2 (j, av_c ad v) List.mem_cons_self
    · cases h1
  · rw [List.getElem?_set_ne (fun e => hj e.symm)] at h1
    refine h.2.2 q (List.mem_cons_of_mem _ (List.mem_filter.mpr ⟨ll_mem.mpr ⟨j, w, h1, h2, by rw [h3, Nat.zero_add]⟩, ?_⟩))
    rw [h3]
    simp only [Bool.and_eq_true, Bool.not_eq_true', beq_eq_false_iff_ne, ne_eq, Bool.and_eq_false_iff, beq_eq_false_iff_ne]
    refine ⟨hj, hj1, ?_⟩
    by_cases e : j + 1 = k
    · right
      intro hc
      obtain ⟨x, rfl⟩ := av_cat hc
      subst e
      simp [nol, h1] at hn
    · left; exact e
/-- where the abstract machine stands: whatever concrete frame and heap this may be, it comes to Q -/
def aR (p : Program) (e : Env) (Rm : Room) (s : State) (m : MethodId) (args : Array Value) (below : List Frame) (meth : Method) (c : Code) (Q : State → Prop) (A : Nat → Prop) (G : GX) (wd : List CD) (ad : Nat → Nat) (nL : Nat) (pc : Nat) (ls st : List AV) (σ : St) : Prop :=
  av_oks ls → av_oks st → s_ok σ → ∀ (H : Heap) (locs : List Loc) (L : Array Slot), va_P G.2.1 vwCl (cs G wd ad σ) H → va_D A (cs G wd ad σ) → va_S A s.heap H locs → lvA ad L nL ls →
    W p G.1 e Rm s m args below meth c H locs 0 0 Q (F0 m pc L (st.map (av_c ad)))
/-- R is 'the abstract machine in method mi at level d, whose end is Ret' -/
def AM (G : GX) (wd : List CD) (d : Nat) (mi : MI) (Ret : Option AV → St → Prop) (R : Nat → List AV → List AV → St → Prop) : Prop :=
  ∃ (p : Program) (e : Env) (s : State) (m : MethodId) (args : Array Value) (below : List Frame) (meth : Method) (c : Code) (A : Nat → Prop) (ad : Nat → Nat),
    p.tables.exec = Jvm.exec ∧ c.code = mi.2.1 ∧ c.maxLocals = mi.2.2.1 ∧ meth.sig.returnType = mi.2.2.2 ∧ meth.locks = false ∧ s.vm.findClass mi.1.cls = some m.cls ∧
    (∀ w ∈ ws_m mi, w.before args s = true) ∧ cK G s ∧ (∀ q, s.heap.size ≤ q → A q) ∧
    R = aR p e (rm_d d) s m args below meth c (MQ below (cQ G wd ad Ret A) args s 0 0 A) A G wd ad mi.2.2.1
/-- the arguments as locals: a long takes two places -/
def a_ls : List AV → List AV
  | [] => []
  | .inr (.inl x) :: vs => vL x :: vN :: a_ls vs
  | v :: vs => v :: a_ls vs
end
section
/-! ===== RULES: one instruction of the abstract machine each, proved over the machine itself ===== -/
theorem ok_cons {v : AV} {l : List AV} (h : av_ok v) (hl : av_oks l) : av_oks (v :: l) := List.forall_mem_cons.mpr ⟨h, hl⟩
theorem ok_tl {v : AV} {l : List AV} (h : av_oks (v :: l)) : av_oks l := (List.forall_mem_cons.mp h).2
theorem ok_hd {v : AV} {l : List AV} (h : av_oks (v :: l)) : av_ok v := (List.forall_mem_cons.mp h).1
theorem ok_at {l : List AV} (h : av_oks l) {k : Nat} {v : AV} (hk : l[k]? = some v) : av_ok v := h v (List.mem_of_getElem? hk)
theorem ok_set {l : List AV} (h : av_oks l) {k : Nat} {v : AV} (hv : av_ok v) : av_oks (l.set k v) := by
  intro w hw
  rcases List.mem_or_eq_of_mem_set hw with h1 | h1
  · exact h w h1
  · rw [h1]; exact hv
theorem vI_ne (x : Int) : vI x ≠ vN := by intro h; cases h
theorem vL_ne (x : Int64) : vL x ≠ vN := by intro h; cases h
theorem vR_ne (x : Nat) : vR x ≠ vN := by intro h; cases h
theorem i32_asI (x : Int32) : Int32.ofInt x.toInt = x := Int32.ofInt_toInt x
section Rules
variable {G : GX} {wd : List CD} {d : Nat} {mi : MI} {Ret : Option AV → St → Prop} {R : Nat → List AV → List AV → St → Prop} {pc pc' : Nat} {ls st : List AV} {σ : St}
theorem r_iconst (hM : AM G wd d mi Ret R) {n : Int} (hd : decode mi.2.1 pc = .ok (.iconst n, 1)) (hp : pc' = pc + 1) (hn : r32 n) (k : R pc' ls (vI n :: st) σ) : R pc ls (st) σ := by
  obtain ⟨p, e, s, m, args, below, meth, c, A, ad, hx, hb, hml, hr, hlk, hown, hts, hK, hA, rfl⟩ := hM
  subst hp
  intro h1 h2 h3 H locs L hP hD hS hl
  exact lv_iconst hx hb hd rfl (k h1 (ok_cons hn h2) h3 H locs L hP hD hS hl)
theorem r_bipush (hM : AM G wd d mi Ret R) {n : Int} (hd : decode mi.2.1 pc = .ok (.bipush n, 2)) (hp : pc' = pc + 2) (hn : r32 n) (hv : (Int8.ofInt n).toInt32 = Int32.ofInt n) (k : R pc' ls (vI n :: st) σ) : R pc ls (st) σ := by
  obtain ⟨p, e, s, m, args, below, meth, c, A, ad, hx, hb, hml, hr, hlk, hown, hts, hK, hA, rfl⟩ := hM
  subst hp
  intro h1 h2 h3 H locs L hP hD hS hl
  exact lv_bipush hx hb hd hv (k h1 (ok_cons hn h2) h3 H locs L hP hD hS hl)
theorem r_sipush (hM : AM G wd d mi Ret R) {n : Int} (hd : decode mi.2.1 pc = .ok (.sipush n, 3)) (hp : pc' = pc + 3) (hn : r32 n) (hv : (Int16.ofInt n).toInt32 = Int32.ofInt n) (k : R pc' ls (vI n :: st) σ) : R pc ls (st) σ := by
  obtain ⟨p, e, s, m, args, below, meth, c, A, ad, hx, hb, hml, hr, hlk, hown, hts, hK, hA, rfl⟩ := hM
  subst hp
  intro h1 h2 h3 H locs L hP hD hS hl
  exact lv_sipush hx hb hd hv (k h1 (ok_cons hn h2) h3 H locs L hP hD hS hl)
theorem r_lconst (hM : AM G wd d mi Ret R) {n : Fin 2} {x : Int64} (hd : decode mi.2.1 pc = .ok (.lconst n, 1)) (hp : pc' = pc + 1) (hv : Int64.ofNat (n : Nat) = x) (k : R pc' ls (vL x :: st) σ) : R pc ls (st) σ := by
  obtain ⟨p, e, s, m, args, below, meth, c, A, ad, hx, hb, hml, hr, hlk, hown, hts, hK, hA, rfl⟩ := hM
  subst hp
  intro h1 h2 h3 H locs L hP hD hS hl
  exact lv_lconst hx hb hd hv (k h1 (ok_cons trivial h2) h3 H locs L hP hD hS hl)
theorem r_ldc (hM : AM G wd d mi Ret R) {i : Nat} {x : Int} (hd : decode mi.2.1 pc = .ok (.ldc i, 2)) (hp : pc' = pc + 2) (hw : Cond.constant mi.1.cls i (Int32.ofInt x) ∈ gw) (hn : r32 x) (k : R pc' ls (vI x :: st) σ) : R pc ls (st) σ := by
  obtain ⟨p, e, s, m, args, below, meth, c, A, ad, hx, hb, hml, hr, hlk, hown, hts, hK, hA, rfl⟩ := hM
  subst hp
  intro h1 h2 h3 H locs L hP hD hS hl
  exact lv_ldc hx hb hown (hts _ (List.mem_cons_of_mem _ hw)) hd (k h1 (ok_cons hn h2) h3 H locs L hP hD hS hl)
theorem r_ldc_w (hM : AM G wd d mi Ret R) {i : Nat} {x : Int} (hd : decode mi.2.1 pc = .ok (.ldc_w i, 3)) (hp : pc' = pc + 3) (hw : Cond.constant mi.1.cls i (Int32.ofInt x) ∈ gw) (hn : r32 x) (k : R pc' ls (vI x :: st) σ) : R pc ls (st) σ := by
  obtain ⟨p, e, s, m, args, below, meth, c, A, ad, hx, hb, hml, hr, hlk, hown, hts, hK, hA, rfl⟩ := hM
  subst hp
  intro h1 h2 h3 H locs L hP hD hS hl
  exact lv_ldcw hx hb hown (hts _ (List.mem_cons_of_mem _ hw)) hd (k h1 (ok_cons hn h2) h3 H locs L hP hD hS hl)
theorem r_ldc2_w (hM : AM G wd d mi Ret R) {i : Nat} {x : Int64} (hd : decode mi.2.1 pc = .ok (.ldc2_w i, 3)) (hp : pc' = pc + 3) (hw : Cond.constantLong mi.1.cls i x ∈ gw) (k : R pc' ls (vL x :: st) σ) : R pc ls (st) σ := by
  obtain ⟨p, e, s, m, args, below, meth, c, A, ad, hx, hb, hml, hr, hlk, hown, hts, hK, hA, rfl⟩ := hM
  subst hp
  intro h1 h2 h3 H locs L hP hD hS hl
  exact lv_ldc2 hx hb hown (hts _ (List.mem_cons_of_mem _ hw)) hd (k h1 (ok_cons trivial h2) h3 H locs L hP hD hS hl)
theorem r_iload (hM : AM G wd d mi Ret R) {i : Nat} {x : Int} (hd : decode mi.2.1 pc = .ok (.iload i, 2)) (hp : pc' = pc + 2) (hl' : ls[i]? = some (vI x)) (k : R pc' ls (vI x :: st) σ) : R pc ls (st) σ := by
  obtain ⟨p, e, s, m, args, below, meth, c, A, ad, hx, hb, hml, hr, hlk, hown, hts, hK, hA, rfl⟩ := hM
  subst hp
  intro h1 h2 h3 H locs L hP hD hS hl
  exact lv_iload hx hb hd (hl.at hl' (vI_ne x)) (k h1 (ok_cons (ok_at h1 hl') h2) h3 H locs L hP hD hS hl)
theorem r_iload_n (hM : AM G wd d mi Ret R) {i : Fin 4} {x : Int} (hd : decode mi.2.1 pc = .ok (.iload_n i, 1)) (hp : pc' = pc + 1) (hl' : ls[(i : Nat)]? = some (vI x)) (k : R pc' ls (vI x :: st) σ) : R pc ls (st) σ := by
  obtain ⟨p, e, s, m, args, below, meth, c, A, ad, hx, hb, hml, hr, hlk, hown, hts, hK, hA, rfl⟩ := hM
  subst hp
  intro h1 h2 h3 H locs L hP hD hS hl
  exact lv_iload_n hx hb hd rfl (hl.at hl' (vI_ne x)) (k h1 (ok_cons (ok_at h1 hl') h2) h3 H locs L hP hD hS hl)
theorem r_lload (hM : AM G wd d mi Ret R) {i : Nat} {x : Int64} (hd : decode mi.2.1 pc = .ok (.lload i, 2)) (hp : pc' = pc + 2) (hl' : ls[i]? = some (vL x)) (k : R pc' ls (vL x :: st) σ) : R pc ls (st) σ := by
  obtain ⟨p, e, s, m, args, below, meth, c, A, ad, hx, hb, hml, hr, hlk, hown, hts, hK, hA, rfl⟩ := hM
  subst hp
  intro h1 h2 h3 H locs L hP hD hS hl
  exact lv_lload hx hb hd (hl.at hl' (vL_ne x)) (k h1 (ok_cons (ok_at h1 hl') h2) h3 H locs L hP hD hS hl)
theorem r_lload_n (hM : AM G wd d mi Ret R) {i : Fin 4} {x : Int64} (hd : decode mi.2.1 pc = .ok (.lload_n i, 1)) (hp : pc' = pc + 1) (hl' : ls[(i : Nat)]? = some (vL x)) (k : R pc' ls (vL x :: st) σ) : R pc ls (st) σ := by
  obtain ⟨p, e, s, m, args, below, meth, c, A, ad, hx, hb, hml, hr, hlk, hown, hts, hK, hA, rfl⟩ := hM
  subst hp
  intro h1 h2 h3 H locs L hP hD hS hl
  exact lv_lload_n hx hb hd rfl (hl.at hl' (vL_ne x)) (k h1 (ok_cons (ok_at h1 hl') h2) h3 H locs L hP hD hS hl)
theorem r_aload (hM : AM G wd d mi Ret R) {i : Nat} {x : Nat} (hd : decode mi.2.1 pc = .ok (.aload i, 2)) (hp : pc' = pc + 2) (hl' : ls[i]? = some (vR x)) (k : R pc' ls (vR x :: st) σ) : R pc ls (st) σ := by
  obtain ⟨p, e, s, m, args, below, meth, c, A, ad, hx, hb, hml, hr, hlk, hown, hts, hK, hA, rfl⟩ := hM
  subst hp
  intro h1 h2 h3 H locs L hP hD hS hl
  exact lv_aload hx hb hd (hl.at hl' (vR_ne x)) (k h1 (ok_cons (ok_at h1 hl') h2) h3 H locs L hP hD hS hl)
theorem r_aload_n (hM : AM G wd d mi Ret R) {i : Fin 4} {x : Nat} (hd : decode mi.2.1 pc = .ok (.aload_n i, 1)) (hp : pc' = pc + 1) (hl' : ls[(i : Nat)]? = some (vR x)) (k : R pc' ls (vR x :: st) σ) : R pc ls (st) σ := by
  obtain ⟨p, e, s, m, args, below, meth, c, A, ad, hx, hb, hml, hr, hlk, hown, hts, hK, hA, rfl⟩ := hM
  subst hp
  intro h1 h2 h3 H locs L hP hD hS hl
  exact lv_aload_n hx hb hd rfl (hl.at hl' (vR_ne x)) (k h1 (ok_cons (ok_at h1 hl') h2) h3 H locs L hP hD hS hl)
theorem r_istore (hM : AM G wd d mi Ret R) {i : Nat} {x : Int} (hd : decode mi.2.1 pc = .ok (.istore i, 2)) (hp : pc' = pc + 2) (hi : i < ls.length) (hn : nol ls i = true) (k : R pc' (ls.set i (vI x)) st σ) : R pc ls (vI x :: st) σ := by
  obtain ⟨p, e, s, m, args, below, meth, c, A, ad, hx, hb, hml, hr, hlk, hown, hts, hK, hA, rfl⟩ := hM
  subst hp
  intro h1 h2 h3 H locs L hP hD hS hl
  exact lv_istore hx hb hd hl.2 (by rw [← hl.1]; exact hi) rfl (fun L' hL => k (ok_set h1 (ok_hd h2)) (ok_tl h2) h3 H locs L' hP hD hS (lvA.put1 hl.1 hn hL))
theorem r_istore_n (hM : AM G wd d mi Ret R) {i : Fin 4} {x : Int} (hd : decode mi.2.1 pc = .ok (.istore_n i, 1)) (hp : pc' = pc + 1) (hi : (i : Nat) < ls.length) (hn : nol ls (i : Nat) = true) (k : R pc' (ls.set (i : Nat) (vI x)) st σ) : R pc ls (vI x :: st) σ := by
  obtain ⟨p, e, s, m, args, below, meth, c, A, ad, hx, hb, hml, hr, hlk, hown, hts, hK, hA, rfl⟩ := hM
  subst hp
  intro h1 h2 h3 H locs L hP hD hS hl
  exact lv_istore_n hx hb hd rfl hl.2 (by rw [← hl.1]; exact hi) rfl (fun L' hL => k (ok_set h1 (ok_hd h2)) (ok_tl h2) h3 H locs L' hP hD hS (lvA.put1 hl.1 hn hL))
theorem r_astore (hM : AM G wd d mi Ret R) {i : Nat} {x : Nat} (hd : decode mi.2.1 pc = .ok (.astore i, 2)) (hp : pc' = pc + 2) (hi : i < ls.length) (hn : nol ls i = true) (k : R pc' (ls.set i (vR x)) st σ) : R pc ls (vR x :: st) σ := by
  obtain ⟨p, e, s, m, args, below, meth, c, A, ad, hx, hb, hml, hr, hlk, hown, hts, hK, hA, rfl⟩ := hM
  subst hp
  intro h1 h2 h3 H locs L hP hD hS hl
  exact lv_astore hx hb hd hl.2 (by rw [← hl.1]; exact hi) rfl (fun L' hL => k (ok_set h1 (ok_hd h2)) (ok_tl h2) h3 H locs L' hP hD hS (lvA.put1 hl.1 hn hL))
theorem r_astore_n (hM : AM G wd d mi Ret R) {i : Fin 4} {x : Nat} (hd : decode mi.2.1 pc = .ok (.astore_n i, 1)) (hp : pc' = pc + 1) (hi : (i : Nat) < ls.length) (hn : nol ls (i : Nat) = true) (k : R pc' (ls.set (i : Nat) (vR x)) st σ) : R pc ls (vR x :: st) σ := by
  obtain ⟨p, e, s, m, args, below, meth, c, A, ad, hx, hb, hml, hr, hlk, hown, hts, hK, hA, rfl⟩ := hM
  subst hp
  intro h1 h2 h3 H locs L hP hD hS hl
  exact lv_astore_n hx hb hd rfl hl.2 (by rw [← hl.1]; exact hi) rfl (fun L' hL => k (ok_set h1 (ok_hd h2)) (ok_tl h2) h3 H locs L' hP hD hS (lvA.put1 hl.1 hn hL))
theorem r_lstore (hM : AM G wd d mi Ret R) {i : Nat} {x : Int64} (hd : decode mi.2.1 pc = .ok (.lstore i, 2)) (hp : pc' = pc + 2) (hi : i + 1 < ls.length) (hn : nol ls i = true) (k : R pc' ((ls.set i (vL x)).set (i + 1) vN) st σ) : R pc ls (vL x :: st) σ := by
  obtain ⟨p, e, s, m, args, below, meth, c, A, ad, hx, hb, hml, hr, hlk, hown, hts, hK, hA, rfl⟩ := hM
  subst hp
  intro h1 h2 h3 H locs L hP hD hS hl
  exact lv_lstore hx hb hd hl.2 (by rw [← hl.1]; exact hi) rfl (fun L' hL => k (ok_set (v := vN) (ok_set (v := vL x) h1 trivial) trivial) (ok_tl h2) h3 H locs L' hP hD hS (lvA.put2 hl.1 hn hL))
theorem r_iinc (hM : AM G wd d mi Ret R) {i : Nat} {n x : Int} (hd : decode mi.2.1 pc = .ok (.iinc i n, 3)) (hp : pc' = pc + 3) (hl' : ls[i]? = some (vI x)) (hn : nol ls i = true) (hr32 : r32 (x + n)) (k : R pc' (ls.set i (vI (x + n))) st σ) : R pc ls st σ := by
  obtain ⟨p, e, s, m, args, below, meth, c, A, ad, hx, hb, hml, hr, hlk, hown, hts, hK, hA, rfl⟩ := hM
  subst hp
  intro h1 h2 h3 H locs L hP hD hS hl
  have hm : (i, Value.int (Int32.ofInt x)) ∈ ll ad 0 ls := ll_mem.mpr ⟨i, vI x, hl', vI_ne x, by rw [Nat.zero_add]; rfl⟩
  obtain ⟨q, hq⟩ := List.getElem?_of_mem hm
  have hi : i < ls.length := (List.getElem?_eq_some_iff.mp hl').1
  exact lv_iinc hx hb hd hl.2 hq (Int32.ofInt_add x n).symm (by rw [← hl.1]; exact hi) rfl (fun L' hL => k (ok_set h1 hr32) h2 h3 H locs L' hP hD hS (lvA.put1 hl.1 hn hL))
theorem r_iadd (hM : AM G wd d mi Ret R) {x y : Int} (hd : decode mi.2.1 pc = .ok (.iadd, 1)) (hp : pc' = pc + 1) (hr32 : r32 (x + y)) (k : R pc' ls (vI (x + y) :: st) σ) : R pc ls (vI y :: vI x :: st) σ := by
  obtain ⟨p, e, s, m, args, below, meth, c, A, ad, hx, hb, hml, hr, hlk, hown, hts, hK, hA, rfl⟩ := hM
  subst hp
  intro h1 h2 h3 H locs L hP hD hS hl
  have k' := k h1 (ok_cons hr32 (ok_tl (ok_tl h2))) h3 H locs L hP hD hS hl
  rw [List.map_cons, av_cI, Int32.ofInt_add x y] at k'
  exact lv_iadd hx hb hd k'
theorem r_isub (hM : AM G wd d mi Ret R) {x y : Int} (hd : decode mi.2.1 pc = .ok (.isub, 1)) (hp : pc' = pc + 1) (hr32 : r32 (x - y)) (k : R pc' ls (vI (x - y) :: st) σ) : R pc ls (vI y :: vI x :: st) σ := by
  obtain ⟨p, e, s, m, args, below, meth, c, A, ad, hx, hb, hml, hr, hlk, hown, hts, hK, hA, rfl⟩ := hM
  subst hp
  intro h1 h2 h3 H locs L hP hD hS hl
  have k' := k h1 (ok_cons hr32 (ok_tl (ok_tl h2))) h3 H locs L hP hD hS hl
  rw [List.map_cons, av_cI, Int32.ofInt_sub x y] at k'
  exact lv_isub hx hb hd k'
theorem r_imul (hM : AM G wd d mi Ret R) {x y : Int} (hd : decode mi.2.1 pc = .ok (.imul, 1)) (hp : pc' = pc + 1) (hr32 : r32 (x * y)) (k : R pc' ls (vI (x * y) :: st) σ) : R pc ls (vI y :: vI x :: st) σ := by
  obtain ⟨p, e, s, m, args, below, meth, c, A, ad, hx, hb, hml, hr, hlk, hown, hts, hK, hA, rfl⟩ := hM
  subst hp
  intro h1 h2 h3 H locs L hP hD hS hl
  have k' := k h1 (ok_cons hr32 (ok_tl (ok_tl h2))) h3 H locs L hP hD hS hl
  rw [List.map_cons, av_cI, Int32.ofInt_mul x y] at k'
  exact lv_imul hx hb hd k'
theorem r_ineg (hM : AM G wd d mi Ret R) {x : Int} (hd : decode mi.2.1 pc = .ok (.ineg, 1)) (hp : pc' = pc + 1) (hr32 : r32 (-x)) (k : R pc' ls (vI (-x) :: st) σ) : R pc ls (vI x :: st) σ := by
  obtain ⟨p, e, s, m, args, below, meth, c, A, ad, hx, hb, hml, hr, hlk, hown, hts, hK, hA, rfl⟩ := hM
  subst hp
  intro h1 h2 h3 H locs L hP hD hS hl
  have k' := k h1 (ok_cons hr32 (ok_tl h2)) h3 H locs L hP hD hS hl
  rw [List.map_cons, av_cI, Int32.ofInt_neg x] at k'
  exact lv_ineg hx hb hd k'
theorem r_iand (hM : AM G wd d mi Ret R) {x y : Int} (hd : decode mi.2.1 pc = .ok (.iand, 1)) (hp : pc' = pc + 1) (k : R pc' ls (vI (bAnd x y) :: st) σ) : R pc ls (vI y :: vI x :: st) σ := by
  obtain ⟨p, e, s, m, args, below, meth, c, A, ad, hx, hb, hml, hr, hlk, hown, hts, hK, hA, rfl⟩ := hM
  subst hp
  intro h1 h2 h3 H locs L hP hD hS hl
  have k' := k h1 (ok_cons (i32_rng _) (ok_tl (ok_tl h2))) h3 H locs L hP hD hS hl
  rw [List.map_cons, av_cI, bAnd, i32_asI] at k'
  exact lv_iand hx hb hd k'
theorem r_ior (hM : AM G wd d mi Ret R) {x y : Int} (hd : decode mi.2.1 pc = .ok (.ior, 1)) (hp : pc' = pc + 1) (k : R pc' ls (vI (bOr x y) :: st) σ) : R pc ls (vI y :: vI x :: st) σ := by
  obtain ⟨p, e, s, m, args, below, meth, c, A, ad, hx, hb, hml, hr, hlk, hown, hts, hK, hA, rfl⟩ := hM
  subst hp
  intro h1 h2 h3 H locs L hP hD hS hl
  have k' := k h1 (ok_cons (i32_rng _) (ok_tl (ok_tl h2))) h3 H locs L hP hD hS hl
  rw [List.map_cons, av_cI, bOr, i32_asI] at k'
  exact lv_ior hx hb hd k'
theorem r_ixor (hM : AM G wd d mi Ret R) {x y : Int} (hd : decode mi.2.1 pc = .ok (.ixor, 1)) (hp : pc' = pc + 1) (k : R pc' ls (vI (bXor x y) :: st) σ) : R pc ls (vI y :: vI x :: st) σ := by
  obtain ⟨p, e, s, m, args, below, meth, c, A, ad, hx, hb, hml, hr, hlk, hown, hts, hK, hA, rfl⟩ := hM
  subst hp
  intro h1 h2 h3 H locs L hP hD hS hl
  have k' := k h1 (ok_cons (i32_rng _) (ok_tl (ok_tl h2))) h3 H locs L hP hD hS hl
  rw [List.map_cons, av_cI, bXor, i32_asI] at k'
  exact lv_ixor hx hb hd k'
theorem r_ishl (hM : AM G wd d mi Ret R) {x y : Int} (hd : decode mi.2.1 pc = .ok (.ishl, 1)) (hp : pc' = pc + 1) (k : R pc' ls (vI (bShl x y) :: st) σ) : R pc ls (vI y :: vI x :: st) σ := by
  obtain ⟨p, e, s, m, args, below, meth, c, A, ad, hx, hb, hml, hr, hlk, hown, hts, hK, hA, rfl⟩ := hM
  subst hp
  intro h1 h2 h3 H locs L hP hD hS hl
  have k' := k h1 (ok_cons (i32_rng _) (ok_tl (ok_tl h2))) h3 H locs L hP hD hS hl
  rw [List.map_cons, av_cI, bShl, i32_asI] at k'
  exact lv_ishl hx hb hd k'
theorem r_ishr (hM : AM G wd d mi Ret R) {x y : Int} (hd : decode mi.2.1 pc = .ok (.ishr, 1)) (hp : pc' = pc + 1) (k : R pc' ls (vI (bShr x y) :: st) σ) : R pc ls (vI y :: vI x :: st) σ := by
  obtain ⟨p, e, s, m, args, below, meth, c, A, ad, hx, hb, hml, hr, hlk, hown, hts, hK, hA, rfl⟩ := hM
  subst hp
  intro h1 h2 h3 H locs L hP hD hS hl
  have k' := k h1 (ok_cons (i32_rng _) (ok_tl (ok_tl h2))) h3 H locs L hP hD hS hl
  rw [List.map_cons, av_cI, bShr, i32_asI] at k'
  exact lv_ishr hx hb hd k'
theorem r_iushr (hM : AM G wd d mi Ret R) {x y : Int} (hd : decode mi.2.1 pc = .ok (.iushr, 1)) (hp : pc' = pc + 1) (k : R pc' ls (vI (bUsh x y) :: st) σ) : R pc ls (vI y :: vI x :: st) σ := by
  obtain ⟨p, e, s, m, args, below, meth, c, A, ad, hx, hb, hml, hr, hlk, hown, hts, hK, hA, rfl⟩ := hM
  subst hp
  intro h1 h2 h3 H locs L hP hD hS hl
  have k' := k h1 (ok_cons (i32_rng _) (ok_tl (ok_tl h2))) h3 H locs L hP hD hS hl
  rw [List.map_cons, av_cI, bUsh, i32_asI] at k'
  exact lv_iushr hx hb hd rfl k'
theorem r_idiv (hM : AM G wd d mi Ret R) {x y : Int} (hd : decode mi.2.1 pc = .ok (.idiv, 1)) (hp : pc' = pc + 1) (hy : y ≠ 0) (k : R pc' ls (vI (bDiv x y) :: st) σ) : R pc ls (vI y :: vI x :: st) σ := by
  obtain ⟨p, e, s, m, args, below, meth, c, A, ad, hx, hb, hml, hr, hlk, hown, hts, hK, hA, rfl⟩ := hM
  subst hp
  intro h1 h2 h3 H locs L hP hD hS hl
  have k' := k h1 (ok_cons (i32_rng _) (ok_tl (ok_tl h2))) h3 H locs L hP hD hS hl
  rw [List.map_cons, av_cI, bDiv, i32_asI] at k'
  exact lv_idiv hx hb hd (fun q => hy ((i32_eq0 (ok_hd h2)).mp q)) k'
theorem r_land (hM : AM G wd d mi Ret R) {x y : Int64} (hd : decode mi.2.1 pc = .ok (.land, 1)) (hp : pc' = pc + 1) (k : R pc' ls (vL (x &&& y) :: st) σ) : R pc ls (vL y :: vL x :: st) σ := by
  obtain ⟨p, e, s, m, args, below, meth, c, A, ad, hx, hb, hml, hr, hlk, hown, hts, hK, hA, rfl⟩ := hM
  subst hp
  intro h1 h2 h3 H locs L hP hD hS hl
  exact lv_land hx hb hd (k h1 (ok_cons trivial (ok_tl (ok_tl h2))) h3 H locs L hP hD hS hl)
theorem r_lor (hM : AM G wd d mi Ret R) {x y : Int64} (hd : decode mi.2.1 pc = .ok (.lor, 1)) (hp : pc' = pc + 1) (k : R pc' ls (vL (x ||| y) :: st) σ) : R pc ls (vL y :: vL x :: st) σ := by
  obtain ⟨p, e, s, m, args, below, meth, c, A, ad, hx, hb, hml, hr, hlk, hown, hts, hK, hA, rfl⟩ := hM
  subst hp
  intro h1 h2 h3 H locs L hP hD hS hl
  exact lv_lor hx hb hd (k h1 (ok_cons trivial (ok_tl (ok_tl h2))) h3 H locs L hP hD hS hl)
theorem r_lxor (hM : AM G wd d mi Ret R) {x y : Int64} (hd : decode mi.2.1 pc = .ok (.lxor, 1)) (hp : pc' = pc + 1) (k : R pc' ls (vL (x ^^^ y) :: st) σ) : R pc ls (vL y :: vL x :: st) σ := by
  obtain ⟨p, e, s, m, args, below, meth, c, A, ad, hx, hb, hml, hr, hlk, hown, hts, hK, hA, rfl⟩ := hM
  subst hp
  intro h1 h2 h3 H locs L hP hD hS hl
  exact lv_lxor hx hb hd (k h1 (ok_cons trivial (ok_tl (ok_tl h2))) h3 H locs L hP hD hS hl)
theorem r_lshl (hM : AM G wd d mi Ret R) {x : Int64} {y : Int} (hd : decode mi.2.1 pc = .ok (.lshl, 1)) (hp : pc' = pc + 1) (k : R pc' ls (vL (bLshl x y) :: st) σ) : R pc ls (vI y :: vL x :: st) σ := by
  obtain ⟨p, e, s, m, args, below, meth, c, A, ad, hx, hb, hml, hr, hlk, hown, hts, hK, hA, rfl⟩ := hM
  subst hp
  intro h1 h2 h3 H locs L hP hD hS hl
  exact lv_lshl hx hb hd rfl (k h1 (ok_cons trivial (ok_tl (ok_tl h2))) h3 H locs L hP hD hS hl)
theorem r_lshr (hM : AM G wd d mi Ret R) {x : Int64} {y : Int} (hd : decode mi.2.1 pc = .ok (.lshr, 1)) (hp : pc' = pc + 1) (k : R pc' ls (vL (bLshr x y) :: st) σ) : R pc ls (vI y :: vL x :: st) σ := by
  obtain ⟨p, e, s, m, args, below, meth, c, A, ad, hx, hb, hml, hr, hlk, hown, hts, hK, hA, rfl⟩ := hM
  subst hp
  intro h1 h2 h3 H locs L hP hD hS hl
  exact lv_lshr hx hb hd rfl (k h1 (ok_cons trivial (ok_tl (ok_tl h2))) h3 H locs L hP hD hS hl)
theorem r_i2l (hM : AM G wd d mi Ret R) {x : Int} (hd : decode mi.2.1 pc = .ok (.i2l, 1)) (hp : pc' = pc + 1) (k : R pc' ls (vL (bI2l x) :: st) σ) : R pc ls (vI x :: st) σ := by
  obtain ⟨p, e, s, m, args, below, meth, c, A, ad, hx, hb, hml, hr, hlk, hown, hts, hK, hA, rfl⟩ := hM
  subst hp
  intro h1 h2 h3 H locs L hP hD hS hl
  exact lv_i2l hx hb hd rfl (k h1 (ok_cons trivial (ok_tl h2)) h3 H locs L hP hD hS hl)
theorem r_l2i (hM : AM G wd d mi Ret R) {x : Int64} (hd : decode mi.2.1 pc = .ok (.l2i, 1)) (hp : pc' = pc + 1) (k : R pc' ls (vI (bL2i x) :: st) σ) : R pc ls (vL x :: st) σ := by
  obtain ⟨p, e, s, m, args, below, meth, c, A, ad, hx, hb, hml, hr, hlk, hown, hts, hK, hA, rfl⟩ := hM
  subst hp
  intro h1 h2 h3 H locs L hP hD hS hl
  have k' := k h1 (ok_cons (i32_rng _) (ok_tl h2)) h3 H locs L hP hD hS hl
  rw [List.map_cons, av_cI, bL2i, i32_asI] at k'
  exact lv_l2i hx hb hd rfl k'
theorem r_dup (hM : AM G wd d mi Ret R) {v : AV} (hd : decode mi.2.1 pc = .ok (.dup, 1)) (hp : pc' = pc + 1) (av1 : ∀ ad, (av_c ad v).category = 1) (k : R pc' ls (v :: v :: st) σ) : R pc ls (v :: st) σ := by
  obtain ⟨p, e, s, m, args, below, meth, c, A, ad, hx, hb, hml, hr, hlk, hown, hts, hK, hA, rfl⟩ := hM
  subst hp
  intro h1 h2 h3 H locs L hP hD hS hl
  exact lv_dup hx hb hd (av1 ad) (k h1 (ok_cons (ok_hd h2) h2) h3 H locs L hP hD hS hl)
theorem r_pop (hM : AM G wd d mi Ret R) {v : AV} (hd : decode mi.2.1 pc = .ok (.pop, 1)) (hp : pc' = pc + 1) (av1 : ∀ ad, (av_c ad v).category = 1) (k : R pc' ls (st) σ) : R pc ls (v :: st) σ := by
  obtain ⟨p, e, s, m, args, below, meth, c, A, ad, hx, hb, hml, hr, hlk, hown, hts, hK, hA, rfl⟩ := hM
  subst hp
  intro h1 h2 h3 H locs L hP hD hS hl
  exact lv_pop hx hb hd (av1 ad) (k h1 (ok_tl h2) h3 H locs L hP hD hS hl)
theorem r_dup2 (hM : AM G wd d mi Ret R) {v u : AV} (hd : decode mi.2.1 pc = .ok (.dup2, 1)) (hp : pc' = pc + 1) (av1 : ∀ ad, (av_c ad v).category = 1) (av2 : ∀ ad, (av_c ad u).category = 1) (k : R pc' ls (v :: u :: v :: u :: st) σ) : R pc ls (v :: u :: st) σ := by
  obtain ⟨p, e, s, m, args, below, meth, c, A, ad, hx, hb, hml, hr, hlk, hown, hts, hK, hA, rfl⟩ := hM
  subst hp
  intro h1 h2 h3 H locs L hP hD hS hl
  exact lv_dup2_11 hx hb hd (av1 ad) (av2 ad) (k h1 (ok_cons (ok_hd h2) (ok_cons (ok_hd (ok_tl h2)) h2)) h3 H locs L hP hD hS hl)
theorem r_icmp_eq (hM : AM G wd d mi Ret R) {x y : Int} {off : Int} {tgt : Nat} (hd : decode mi.2.1 pc = .ok (.if_icmp .eq off, 3)) (hp : pc' = pc + 3) (ht : (pc : Int) + off = (tgt : Int)) (kt : x = y → R tgt ls st σ) (kf : ¬ x = y → R pc' ls st σ) : R pc ls (vI y :: vI x :: st) σ := by
  obtain ⟨p, e, s, m, args, below, meth, c, A, ad, hx, hb, hml, hr, hlk, hown, hts, hK, hA, rfl⟩ := hM
  subst hp
  intro h1 h2 h3 H locs L hP hD hS hl
  exact lv_icmp_eq hx hb hd ht (fun q => kt ((i32_eq (ok_hd (ok_tl h2)) (ok_hd h2)).mp q) h1 (ok_tl (ok_tl h2)) h3 H locs L hP hD hS hl) (fun q => kf (fun z => q ((i32_eq (ok_hd (ok_tl h2)) (ok_hd h2)).mpr z)) h1 (ok_tl (ok_tl h2)) h3 H locs L hP hD hS hl)
theorem r_if_eq (hM : AM G wd d mi Ret R) {x : Int} {off : Int} {tgt : Nat} (hd : decode mi.2.1 pc = .ok (.ifCond .eq off, 3)) (hp : pc' = pc + 3) (ht : (pc : Int) + off = (tgt : Int)) (kt : x = 0 → R tgt ls st σ) (kf : ¬ x = 0 → R pc' ls st σ) : R pc ls (vI x :: st) σ := by
  obtain ⟨p, e, s, m, args, below, meth, c, A, ad, hx, hb, hml, hr, hlk, hown, hts, hK, hA, rfl⟩ := hM
  subst hp
  intro h1 h2 h3 H locs L hP hD hS hl
  exact lv_if_eq hx hb hd ht (fun q => kt ((i32_eq0 (ok_hd h2)).mp q) h1 (ok_tl h2) h3 H locs L hP hD hS hl) (fun q => kf (fun z => q ((i32_eq0 (ok_hd h2)).mpr z)) h1 (ok_tl h2) h3 H locs L hP hD hS hl)
theorem r_icmp_ne (hM : AM G wd d mi Ret R) {x y : Int} {off : Int} {tgt : Nat} (hd : decode mi.2.1 pc = .ok (.if_icmp .ne off, 3)) (hp : pc' = pc + 3) (ht : (pc : Int) + off = (tgt : Int)) (kt : ¬ x = y → R tgt ls st σ) (kf : x = y → R pc' ls st σ) : R pc ls (vI y :: vI x :: st) σ := by
  obtain ⟨p, e, s, m, args, below, meth, c, A, ad, hx, hb, hml, hr, hlk, hown, hts, hK, hA, rfl⟩ := hM
  subst hp
  intro h1 h2 h3 H locs L hP hD hS hl
  refine lv_icmp_ne hx hb hd ht (fun q => kt (fun z => q ((i32_eq (ok_hd (ok_tl h2)) (ok_hd h2)).mpr z)) h1 (ok_tl (ok_tl h2)) h3 H locs L hP hD hS hl) (fun q => kf ?_ h1 (ok_tl (ok_tl h2)) h3 H locs L hP hD hS hl)
  exact (i32_eq (ok_hd (ok_tl h2)) (ok_hd h2)).mp q
theorem r_if_ne (hM : AM G wd d mi Ret R) {x : Int} {off : Int} {tgt : Nat} (hd : decode mi.2.1 pc = .ok (.ifCond .ne off, 3)) (hp : pc' = pc + 3) (ht : (pc : Int) + off = (tgt : Int)) (kt : ¬ x = 0 → R tgt ls st σ) (kf : x = 0 → R pc' ls st σ) : R pc ls (vI x :: st) σ := by
  obtain ⟨p, e, s, m, args, below, meth, c, A, ad, hx, hb, hml, hr, hlk, hown, hts, hK, hA, rfl⟩ := hM
  subst hp
  intro h1 h2 h3 H locs L hP hD hS hl
  refine lv_if_ne hx hb hd ht (fun q => kt (fun z => q ((i32_eq0 (ok_hd h2)).mpr z)) h1 (ok_tl h2) h3 H locs L hP hD hS hl) (fun q => kf ?_ h1 (ok_tl h2) h3 H locs L hP hD hS hl)
  exact (i32_eq0 (ok_hd h2)).mp q
theorem r_icmp_lt (hM : AM G wd d mi Ret R) {x y : Int} {off : Int} {tgt : Nat} (hd : decode mi.2.1 pc = .ok (.if_icmp .lt off, 3)) (hp : pc' = pc + 3) (ht : (pc : Int) + off = (tgt : Int)) (kt : x < y → R tgt ls st σ) (kf : ¬ x < y → R pc' ls st σ) : R pc ls (vI y :: vI x :: st) σ := by
  obtain ⟨p, e, s, m, args, below, meth, c, A, ad, hx, hb, hml, hr, hlk, hown, hts, hK, hA, rfl⟩ := hM
  subst hp
  intro h1 h2 h3 H locs L hP hD hS hl
  exact lv_icmp_lt hx hb hd ht (fun q => kt ((i32_lt (ok_hd (ok_tl h2)) (ok_hd h2)).mp q) h1 (ok_tl (ok_tl h2)) h3 H locs L hP hD hS hl) (fun q => kf (fun z => q ((i32_lt (ok_hd (ok_tl h2)) (ok_hd h2)).mpr z)) h1 (ok_tl (ok_tl h2)) h3 H locs L hP hD hS hl)
theorem r_if_lt (hM : AM G wd d mi Ret R) {x : Int} {off : Int} {tgt : Nat} (hd : decode mi.2.1 pc = .ok (.ifCond .lt off, 3)) (hp : pc' = pc + 3) (ht : (pc : Int) + off = (tgt : Int)) (kt : x < 0 → R tgt ls st σ) (kf : ¬ x < 0 → R pc' ls st σ) : R pc ls (vI x :: st) σ := by
  obtain ⟨p, e, s, m, args, below, meth, c, A, ad, hx, hb, hml, hr, hlk, hown, hts, hK, hA, rfl⟩ := hM
  subst hp
  intro h1 h2 h3 H locs L hP hD hS hl
  exact lv_if_lt hx hb hd ht (fun q => kt ((i32_lt0 (ok_hd h2)).mp q) h1 (ok_tl h2) h3 H locs L hP hD hS hl) (fun q => kf (fun z => q ((i32_lt0 (ok_hd h2)).mpr z)) h1 (ok_tl h2) h3 H locs L hP hD hS hl)
theorem r_icmp_ge (hM : AM G wd d mi Ret R) {x y : Int} {off : Int} {tgt : Nat} (hd : decode mi.2.1 pc = .ok (.if_icmp .ge off, 3)) (hp : pc' = pc + 3) (ht : (pc : Int) + off = (tgt : Int)) (kt : y ≤ x → R tgt ls st σ) (kf : ¬ y ≤ x → R pc' ls st σ) : R pc ls (vI y :: vI x :: st) σ := by
  obtain ⟨p, e, s, m, args, below, meth, c, A, ad, hx, hb, hml, hr, hlk, hown, hts, hK, hA, rfl⟩ := hM
  subst hp
  intro h1 h2 h3 H locs L hP hD hS hl
  exact lv_icmp_ge hx hb hd ht (fun q => kt ((i32_le (ok_hd h2) (ok_hd (ok_tl h2))).mp q) h1 (ok_tl (ok_tl h2)) h3 H locs L hP hD hS hl) (fun q => kf (fun z => q ((i32_le (ok_hd h2) (ok_hd (ok_tl h2))).mpr z)) h1 (ok_tl (ok_tl h2)) h3 H locs L hP hD hS hl)
theorem r_if_ge (hM : AM G wd d mi Ret R) {x : Int} {off : Int} {tgt : Nat} (hd : decode mi.2.1 pc = .ok (.ifCond .ge off, 3)) (hp : pc' = pc + 3) (ht : (pc : Int) + off = (tgt : Int)) (kt : 0 ≤ x → R tgt ls st σ) (kf : ¬ 0 ≤ x → R pc' ls st σ) : R pc ls (vI x :: st) σ := by
  obtain ⟨p, e, s, m, args, below, meth, c, A, ad, hx, hb, hml, hr, hlk, hown, hts, hK, hA, rfl⟩ := hM
  subst hp
  intro h1 h2 h3 H locs L hP hD hS hl
  exact lv_if_ge hx hb hd ht (fun q => kt ((i32_0le (ok_hd h2)).mp q) h1 (ok_tl h2) h3 H locs L hP hD hS hl) (fun q => kf (fun z => q ((i32_0le (ok_hd h2)).mpr z)) h1 (ok_tl h2) h3 H locs L hP hD hS hl)
theorem r_icmp_gt (hM : AM G wd d mi Ret R) {x y : Int} {off : Int} {tgt : Nat} (hd : decode mi.2.1 pc = .ok (.if_icmp .gt off, 3)) (hp : pc' = pc + 3) (ht : (pc : Int) + off = (tgt : Int)) (kt : y < x → R tgt ls st σ) (kf : ¬ y < x → R pc' ls st σ) : R pc ls (vI y :: vI x :: st) σ := by
  obtain ⟨p, e, s, m, args, below, meth, c, A, ad, hx, hb, hml, hr, hlk, hown, hts, hK, hA, rfl⟩ := hM
  subst hp
  intro h1 h2 h3 H locs L hP hD hS hl
  exact lv_icmp_gt hx hb hd ht (fun q => kt ((i32_lt (ok_hd h2) (ok_hd (ok_tl h2))).mp q) h1 (ok_tl (ok_tl h2)) h3 H locs L hP hD hS hl) (fun q => kf (fun z => q ((i32_lt (ok_hd h2) (ok_hd (ok_tl h2))).mpr z)) h1 (ok_tl (ok_tl h2)) h3 H locs L hP hD hS hl)
theorem r_if_gt (hM : AM G wd d mi Ret R) {x : Int} {off : Int} {tgt : Nat} (hd : decode mi.2.1 pc = .ok (.ifCond .gt off, 3)) (hp : pc' = pc + 3) (ht : (pc : Int) + off = (tgt : Int)) (kt : 0 < x → R tgt ls st σ) (kf : ¬ 0 < x → R pc' ls st σ) : R pc ls (vI x :: st) σ := by
  obtain ⟨p, e, s, m, args, below, meth, c, A, ad, hx, hb, hml, hr, hlk, hown, hts, hK, hA, rfl⟩ := hM
  subst hp
  intro h1 h2 h3 H locs L hP hD hS hl
  exact lv_if_gt hx hb hd ht (fun q => kt ((i32_0lt (ok_hd h2)).mp q) h1 (ok_tl h2) h3 H locs L hP hD hS hl) (fun q => kf (fun z => q ((i32_0lt (ok_hd h2)).mpr z)) h1 (ok_tl h2) h3 H locs L hP hD hS hl)
theorem r_icmp_le (hM : AM G wd d mi Ret R) {x y : Int} {off : Int} {tgt : Nat} (hd : decode mi.2.1 pc = .ok (.if_icmp .le off, 3)) (hp : pc' = pc + 3) (ht : (pc : Int) + off = (tgt : Int)) (kt : x ≤ y → R tgt ls st σ) (kf : ¬ x ≤ y → R pc' ls st σ) : R pc ls (vI y :: vI x :: st) σ := by
  obtain ⟨p, e, s, m, args, below, meth, c, A, ad, hx, hb, hml, hr, hlk, hown, hts, hK, hA, rfl⟩ := hM
  subst hp
  intro h1 h2 h3 H locs L hP hD hS hl
  exact lv_icmp_le hx hb hd ht (fun q => kt ((i32_le (ok_hd (ok_tl h2)) (ok_hd h2)).mp q) h1 (ok_tl (ok_tl h2)) h3 H locs L hP hD hS hl) (fun q => kf (fun z => q ((i32_le (ok_hd (ok_tl h2)) (ok_hd h2)).mpr z)) h1 (ok_tl (ok_tl h2)) h3 H locs L hP hD hS hl)
theorem r_if_le (hM : AM G wd d mi Ret R) {x : Int} {off : Int} {tgt : Nat} (hd : decode mi.2.1 pc = .ok (.ifCond .le off, 3)) (hp : pc' = pc + 3) (ht : (pc : Int) + off = (tgt : Int)) (kt : x ≤ 0 → R tgt ls st σ) (kf : ¬ x ≤ 0 → R pc' ls st σ) : R pc ls (vI x :: st) σ := by
  obtain ⟨p, e, s, m, args, below, meth, c, A, ad, hx, hb, hml, hr, hlk, hown, hts, hK, hA, rfl⟩ := hM
  subst hp
  intro h1 h2 h3 H locs L hP hD hS hl
  exact lv_if_le hx hb hd ht (fun q => kt ((i32_le0 (ok_hd h2)).mp q) h1 (ok_tl h2) h3 H locs L hP hD hS hl) (fun q => kf (fun z => q ((i32_le0 (ok_hd h2)).mpr z)) h1 (ok_tl h2) h3 H locs L hP hD hS hl)
theorem r_goto (hM : AM G wd d mi Ret R) {off : Int} {tgt : Nat} (hd : decode mi.2.1 pc = .ok (.goto off, 3)) (ht : (pc : Int) + off = (tgt : Int)) (k : R tgt ls st σ) : R pc ls st σ := by
  obtain ⟨p, e, s, m, args, below, meth, c, A, ad, hx, hb, hml, hr, hlk, hown, hts, hK, hA, rfl⟩ := hM
  intro h1 h2 h3 H locs L hP hD hS hl
  exact lv_goto hx hb hd ht (k h1 h2 h3 H locs L hP hD hS hl)
/-- a switch over lo .. hi: a number within goes by its place, another one to the default -/
theorem r_switch (hM : AM G wd d mi Ret R) {x dflt lo hi : Int} {offs : Array Int} {len tgt : Nat} (hd : decode mi.2.1 pc = .ok (.tableswitch dflt lo hi offs, len)) (hlen : (offs.size : Int) = hi - lo + 1) (ht : (pc : Int) + dflt = (tgt : Int))
    (kd : ¬ (lo ≤ x ∧ x ≤ hi) → R tgt ls st σ) (kt : ∀ (j : Nat) (off : Int), offs[j]? = some off → x = lo + j → ∀ t : Nat, (pc : Int) + off = (t : Int) → R t ls st σ) (hoff : ∀ (j : Nat) (off : Int), offs[j]? = some off → ∃ t : Nat, (pc : Int) + off = (t : Int)) : R pc ls (vI x :: st) σ := by
  obtain ⟨p, e, s, m, args, below, meth, c, A, ad, hx, hb, hml, hr, hlk, hown, hts, hK, hA, rfl⟩ := hM
  intro h1 h2 h3 H locs L hP hD hS hl
  have hxr := i32_of (ok_hd h2)
  by_cases hin : lo ≤ x ∧ x ≤ hi
  · have hj : (x - lo).toNat < offs.size := by omega
    have ho := Array.getElem?_eq_getElem hj
    obtain ⟨t, ht'⟩ := hoff _ _ ho
    exact lv_tableIn hx hb hd (by rw [hxr]; omega) (by rw [hxr]; omega) (by rw [hxr]; exact ho) ht' (kt _ _ ho (by omega) t ht' h1 (ok_tl h2) h3 H locs L hP hD hS hl)
  · exact lv_tableOut hx hb hd (by rw [hxr]; omega) ht (kd hin h1 (ok_tl h2) h3 H locs L hP hD hS hl)
/-- what is in range of itself -/
theorem r_rngL (hM : AM G wd d mi Ret R) {i : Nat} {x : Int} (hl' : ls[i]? = some (vI x)) (k : r32 x → R pc ls st σ) : R pc ls st σ := by
  obtain ⟨p, e, s, m, args, below, meth, c, A, ad, hx, hb, hml, hr, hlk, hown, hts, hK, hA, rfl⟩ := hM
  intro h1 h2 h3 H locs L hP hD hS hl
  exact k (ok_at h1 hl') h1 h2 h3 H locs L hP hD hS hl
theorem r_rngS (hM : AM G wd d mi Ret R) (k : s_ok σ → R pc ls st σ) : R pc ls st σ := by
  obtain ⟨p, e, s, m, args, below, meth, c, A, ad, hx, hb, hml, hr, hlk, hown, hts, hK, hA, rfl⟩ := hM
  intro h1 h2 h3 H locs L hP hD hS hl
  exact k h3 h1 h2 h3 H locs L hP hD hS hl
theorem r_ireturn (hM : AM G wd d mi Ret R) {x : Int} (hd : decode mi.2.1 pc = .ok (.ireturn, 1)) (ht : mi.2.2.2 = some .int) (k : Ret (some (vI x)) σ) : R pc ls [vI x] σ := by
  obtain ⟨p, e, s, m, args, below, meth, c, A, ad, hx, hb, hml, hr, hlk, hown, hts, hK, hA, rfl⟩ := hM
  intro h1 h2 h3 H locs L hP hD hS hl
  exact W.iret (Qc := cQ G wd ad Ret A) (free := A) (v := Int32.ofInt x) hx hb (hr.trans ht) (fun t ht hW => ⟨⟨some (vI x), σ, rfl, k, fun v hv => by cases hv; exact ok_hd h2, h3, by rw [ht]; exact hP, hD⟩, hS.F ht⟩) hS.2.2 hd
theorem nar_z {x : Int} (h : x = 0 ∨ x = 1) : narrow .boolean (.int (Int32.ofInt x)) = .int (Int32.ofInt x) := by rcases h with rfl | rfl <;> rfl
theorem r_zreturn (hM : AM G wd d mi Ret R) {x : Int} (hd : decode mi.2.1 pc = .ok (.ireturn, 1)) (ht : mi.2.2.2 = some .boolean) (hz : x = 0 ∨ x = 1) (k : Ret (some (vI x)) σ) : R pc ls [vI x] σ := by
  obtain ⟨p, e, s, m, args, below, meth, c, A, ad, hx, hb, hml, hr, hlk, hown, hts, hK, hA, rfl⟩ := hM
  intro h1 h2 h3 H locs L hP hD hS hl
  exact W.zret (Qc := cQ G wd ad Ret A) (free := A) (v := Int32.ofInt x) (ty := .boolean) hx hb (hr.trans ht) (nar_z hz) (fun t ht hW => ⟨⟨some (vI x), σ, rfl, k, fun v hv => by cases hv; exact ok_hd h2, h3, by rw [ht]; exact hP, hD⟩, hS.F ht⟩) hS.2.2 hd
theorem r_return (hM : AM G wd d mi Ret R) (hd : decode mi.2.1 pc = .ok (.return_, 1)) (ht : mi.2.2.2 = none) (k : Ret none σ) : R pc ls [] σ := by
  obtain ⟨p, e, s, m, args, below, meth, c, A, ad, hx, hb, hml, hr, hlk, hown, hts, hK, hA, rfl⟩ := hM
  intro h1 h2 h3 H locs L hP hD hS hl
  exact W.vret (Qc := cQ G wd ad Ret A) (free := A) hx hb (hr.trans ht) (fun t ht hW => ⟨⟨none, σ, rfl, k, (fun v hv => by cases hv), h3, by rw [ht]; exact hP, hD⟩, hS.F ht⟩) hS.2.2 hd
end Rules
end
section
/-! ===== RULES: fields, arrays, calls ===== -/
theorem gw_good {w : Cond} (h : w ∈ gw) : (w.onTables && w.keeps) = true ∨ ∃ ty, w = .arrayClass ty := good_of_word (List.mem_filter.mp h).2
theorem gw_in {w : Cond} {mi : MI} (h : w ∈ gw) : w ∈ ws_m mi := List.mem_cons_of_mem _ h
theorem gw_GI {mi m' : MI} (h : mi_code m' ∈ gw) : GoodIn (ws_m mi) (ws_m m') := by
  intro w hw
  rcases List.mem_cons.mp hw with rfl | hw
  · exact ⟨gw_in h, gw_good h⟩
  · exact ⟨gw_in hw, gw_good hw⟩
/-- entry idx of class own is field k of class number ci -/
def FL (own : String) (idx ci k : Nat) : Prop := ∃ q : vw_C, vwCl[ci]? = some q ∧ k < q.2.2 ∧ Cond.fieldLink own idx (q.2.1 k).1 (q.2.1 k).2.1 (q.2.1 k).2.2.1 ∈ gw ∧ ∀ w ∈ u_ws q.1 q.2.1 q.2.2, w ∈ gw
/-- .. and may be written by any method; its type -/
def FP (own : String) (idx ci k : Nat) (ty : FieldType) : Prop := ∃ q : vw_C, vwCl[ci]? = some q ∧ k < q.2.2 ∧ Cond.fieldLink own idx (q.2.1 k).1 (q.2.1 k).2.1 (q.2.1 k).2.2.1 ∈ gw ∧ (∀ w ∈ u_ws q.1 q.2.1 q.2.2, w ∈ gw) ∧
  (∃ ty0 : Nat → FieldType, ∀ k, k < q.2.2 → parseFieldDescriptor (q.2.1 k).2.2.1 = some (ty0 k)) ∧ (∀ a, a < q.2.2 → ∀ b, b < q.2.2 → a ≠ b → (q.2.1 a).2.1 ≠ (q.2.1 b).2.1) ∧ (q.2.1 k).2.2.2 = false ∧ parseFieldDescriptor (q.2.1 k).2.2.1 = some ty
def MLv (own : String) (idx : Nat) (m : MI) (ci n : Nat) : Prop := ∃ q : vw_C, vwCl[ci]? = some q ∧ m.1.cls = q.1 ∧ Cond.methodLink own idx m.1 ∈ gw ∧ Cond.instanceMethod m.1 ∈ gw ∧ Cond.selects q.1 m.1 m.1 ∈ gw ∧ Cond.initialized q.1 ∈ gw ∧ mi_code m ∈ gw ∧
  (m.1.cls ≠ "java/lang/invoke/MethodHandle" ∧ m.1.cls ≠ "java/lang/invoke/VarHandle" ∧ (parseMethodDescriptor m.1.desc).map (fun d => d.parameters.length) = some n) ∧ m.2.2.1 ≤ 22
def MLs (own : String) (idx : Nat) (m : MI) (n : Nat) : Prop := Cond.methodLink own idx m.1 ∈ gw ∧ Cond.static m.1 ∈ gw ∧ Cond.initialized m.1.cls ∈ gw ∧ mi_code m ∈ gw ∧
  (m.1.cls ≠ "java/lang/invoke/MethodHandle" ∧ m.1.cls ≠ "java/lang/invoke/VarHandle" ∧ (parseMethodDescriptor m.1.desc).map (fun d => d.parameters.length) = some n) ∧ m.2.2.1 ≤ 22
def MLn (own : String) (idx : Nat) (m : MI) (n : Nat) : Prop := (∃ host : String, Cond.methodLinkNest own idx m.1 host ∈ nestW) ∧ Cond.static m.1 ∈ gw ∧ Cond.initialized m.1.cls ∈ gw ∧ mi_code m ∈ gw ∧
  (m.1.cls ≠ "java/lang/invoke/MethodHandle" ∧ m.1.cls ≠ "java/lang/invoke/VarHandle" ∧ (parseMethodDescriptor m.1.desc).map (fun d => d.parameters.length) = some n) ∧ m.2.2.1 ≤ 22
theorem cs_i {G : GX} {wd : List CD} {ad : Nat → Nat} {σ : St} {k n : Nat} (h : wd[k]? = some (.inr (0, n))) : (cs G wd ad σ)[k]? = some (ad k, .inl (G.2.2 0, n, .inl (fun j => Int32.ofInt (σ.1 k j)))) := by rw [cs_at h]; rfl
theorem cs_l {G : GX} {wd : List CD} {ad : Nat → Nat} {σ : St} {k n : Nat} (h : wd[k]? = some (.inr (1, n))) : (cs G wd ad σ)[k]? = some (ad k, .inl (G.2.2 1, n, .inr (.inl (σ.2 k)))) := by rw [cs_at h]; rfl
theorem cs_z {G : GX} {wd : List CD} {ad : Nat → Nat} {σ : St} {k n : Nat} (h : wd[k]? = some (.inr (2, n))) : (cs G wd ad σ)[k]? = some (ad k, .inl (G.2.2 2, n, .inl (fun j => Int32.ofInt (σ.1 k j)))) := by rw [cs_at h]; rfl
theorem cs_o {G : GX} {wd : List CD} {ad : Nat → Nat} {σ : St} {k ci : Nat} {fs : List (Option Nat)} (h : wd[k]? = some (.inl (ci, fs))) : (cs G wd ad σ)[k]? = some (ad k, .inr (ci, fs.mapIdx (cd_f ad σ k))) := by rw [cs_at h]; rfl
theorem sI_o {σ : St} {k j : Nat} {v : Int} : ∀ a, a ≠ k → ∀ b, (sI σ k j v).1 a b = σ.1 a b ∧ (sI σ k j v).2 a b = σ.2 a b := by
  intro a ha b
  exact ⟨if_neg (fun h => ha h.1), rfl⟩
theorem sL_o {σ : St} {k j : Nat} {v : Int64} : ∀ a, a ≠ k → ∀ b, (sL σ k j v).1 a b = σ.1 a b ∧ (sL σ k j v).2 a b = σ.2 a b := by
  intro a ha b
  exact ⟨rfl, if_neg (fun h => ha h.1)⟩
theorem cs_putf {G : GX} {wd : List CD} {ad : Nat → Nat} {σ : St} {o ci k : Nat} {fs : List (Option Nat)} {x : Int} (h : wd[o]? = some (.inl (ci, fs))) (hk : fs[k]? = some none) :
    (cs G wd ad σ).set o (ad o, .inr (ci, (fs.mapIdx (cd_f ad σ o)).set k (.int (Int32.ofInt x)))) = cs G wd ad (sI σ o k x) := by
  refine cs_set h ?_ sI_o
  simp only [cd_e]
  congr 2
  apply List.ext_getElem?
  intro j
  by_cases hj : j = k
  · subst hj
    have hl := (List.getElem?_eq_some_iff.mp hk).1
    rw [List.getElem?_set_self (by rw [List.length_mapIdx]; exact hl), List.getElem?_mapIdx, hk]
    simp [cd_f, sI]
  · rw [List.getElem?_set_ne (fun e => hj e.symm), List.getElem?_mapIdx, List.getElem?_mapIdx]
    cases fs[j]? with
    | none => rfl
    | some f => cases f <;> simp [cd_f, sI, hj]
theorem cs_puti {G : GX} {wd : List CD} {ad : Nat → Nat} {σ : St} {a n i : Nat} {x : Int} (h : wd[a]? = some (.inr (0, n))) :
    (cs G wd ad σ).set a (ad a, .inl (G.2.2 0, n, .inl (upd (fun j => Int32.ofInt (σ.1 a j)) i (Int32.ofInt x)))) = cs G wd ad (sI σ a i x) := by
  refine cs_set h ?_ sI_o
  show _ = Sum.inl (G.2.2 0, n, Sum.inl (fun j => Int32.ofInt ((sI σ a i x).1 a j)))
  congr 4
  funext j
  by_cases hj : j = i <;> simp [upd, sI, hj]
theorem cs_putz {G : GX} {wd : List CD} {ad : Nat → Nat} {σ : St} {a n i : Nat} {x : Int} (h : wd[a]? = some (.inr (2, n))) :
    (cs G wd ad σ).set a (ad a, .inl (G.2.2 2, n, .inl (upd (fun j => Int32.ofInt (σ.1 a j)) i (Int32.ofInt x)))) = cs G wd ad (sI σ a i x) := by
  refine cs_set h ?_ sI_o
  show _ = Sum.inl (G.2.2 2, n, Sum.inl (fun j => Int32.ofInt ((sI σ a i x).1 a j)))
  congr 4
  funext j
  by_cases hj : j = i <;> simp [upd, sI, hj]
theorem cs_putl {G : GX} {wd : List CD} {ad : Nat → Nat} {σ : St} {a n i : Nat} {x : Int64} (h : wd[a]? = some (.inr (1, n))) :
    (cs G wd ad σ).set a (ad a, .inl (G.2.2 1, n, .inr (.inl (vp_updL (σ.2 a) i x)))) = cs G wd ad (sL σ a i x) := by
  refine cs_set h ?_ sL_o
  show _ = Sum.inl (G.2.2 1, n, Sum.inr (Sum.inl ((sL σ a i x).2 a)))
  congr 5
  funext j
  by_cases hj : j = i <;> simp [vp_updL, sL, hj]
theorem nar_zx {x : Int} (h : x = 0 ∨ x = 1) : vp_nar .boolean (Int32.ofInt x) = Int32.ofInt x := by rcases h with rfl | rfl <;> decide
theorem fit_z {x : Int} (h : x = 0 ∨ x = 1) : fits .boolean (.int (Int32.ofInt x)) = true := by rcases h with rfl | rfl <;> decide
theorem cK.same {G : GX} {u U : State} (h : u.vm = U.vm) (hk : cK G u) : cK G U := by
  refine ⟨va_K.moved (by rw [h]; exact Vm.Alike.refl _) hk.1, fun w hw => ?_⟩
  have h1 := hk.2 w hw
  have : ∃ a i x b, w = Cond.methodLinkNest a i x b := by
    simp only [nestW, List.mem_cons, List.not_mem_nil, or_false] at hw
    rcases hw with rfl | rfl | rfl | rfl | rfl | rfl | rfl | rfl <;> exact ⟨_, _, _, _, rfl⟩
  obtain ⟨a, i, x, b, rfl⟩ := this
  exact va_Nw.same rfl h h1
section Heap
variable {G : GX} {wd : List CD} {d : Nat} {mi : MI} {Ret : Option AV → St → Prop} {R : Nat → List AV → List AV → St → Prop} {pc pc' : Nat} {ls st : List AV} {σ : St}
theorem r_getI (hM : AM G wd d mi Ret R) {idx o ci k : Nat} {fs : List (Option Nat)} (hd : decode mi.2.1 pc = .ok (.getfield idx, 3)) (hp : pc' = pc + 3) (hf : FL mi.1.cls idx ci k) (ho : wd[o]? = some (.inl (ci, fs))) (hk : fs[k]? = some none) (kk : R pc' ls (vI (σ.1 o k) :: st) σ) : R pc ls (vR o :: st) σ := by
  obtain ⟨p, e, s, m, args, below, meth, c, A, ad, hx, hb, hml, hr, hlk, hown, hts, hK, hA, rfl⟩ := hM
  subst hp
  intro h1 h2 h3 H locs L hP hD hS hl
  obtain ⟨⟨C, T, N⟩, hc, hkN, hlink, hin⟩ := hf
  exact va_get (D := G.2.1) (cl := vwCl) hx hb hts (fun w h => gw_in (hin w h)) hown hK.1 hP o (cs_o ho) hc k hkN (hts _ (gw_in hlink)) (fun _ h => h) (v := .int (Int32.ofInt (σ.1 o k))) (by rw [List.getElem?_mapIdx, hk]; rfl) hd (kk h1 (ok_cons (h3 o k) (ok_tl h2)) h3 H locs L hP hD hS hl)
theorem r_getR (hM : AM G wd d mi Ret R) {idx o ci k a : Nat} {fs : List (Option Nat)} (hd : decode mi.2.1 pc = .ok (.getfield idx, 3)) (hp : pc' = pc + 3) (hf : FL mi.1.cls idx ci k) (ho : wd[o]? = some (.inl (ci, fs))) (hk : fs[k]? = some (some a)) (kk : R pc' ls (vR a :: st) σ) : R pc ls (vR o :: st) σ := by
  obtain ⟨p, e, s, m, args, below, meth, c, A, ad, hx, hb, hml, hr, hlk, hown, hts, hK, hA, rfl⟩ := hM
  subst hp
  intro h1 h2 h3 H locs L hP hD hS hl
  obtain ⟨⟨C, T, N⟩, hc, hkN, hlink, hin⟩ := hf
  exact va_get (D := G.2.1) (cl := vwCl) hx hb hts (fun w h => gw_in (hin w h)) hown hK.1 hP o (cs_o ho) hc k hkN (hts _ (gw_in hlink)) (fun _ h => h) (v := .ref (ad a)) (by rw [List.getElem?_mapIdx, hk]; rfl) hd (kk h1 (ok_cons (v := vR a) trivial (ok_tl h2)) h3 H locs L hP hD hS hl)
theorem r_putI (hM : AM G wd d mi Ret R) {idx o ci k : Nat} {fs : List (Option Nat)} {x : Int} (hd : decode mi.2.1 pc = .ok (.putfield idx, 3)) (hp : pc' = pc + 3) (hf : FP mi.1.cls idx ci k .int) (ho : wd[o]? = some (.inl (ci, fs))) (hk : fs[k]? = some none) (kk : R pc' ls st (sI σ o k x)) : R pc ls (vI x :: vR o :: st) σ := by
  obtain ⟨p, e, s, m, args, below, meth, c, A, ad, hx, hb, hml, hr, hlk, hown, hts, hK, hA, rfl⟩ := hM
  subst hp
  intro h1 h2 h3 H locs L hP hD hS hl
  obtain ⟨⟨C, T, N⟩, hc, hkN, hlink, hin, ⟨ty0, hty⟩, hnm, hfin, hpt⟩ := hf
  refine va_put (D := G.2.1) (cl := vwCl) (v := .int (Int32.ofInt x)) hx hb hts (fun w h => gw_in (hin w h)) ty0 hty hnm hown hK.1 hP hD hS o (cs_o ho) hc k hkN (hts _ (gw_in hlink)) (fun _ h => h) hfin hpt rfl rfl (by rw [List.length_mapIdx]; exact (List.getElem?_eq_some_iff.mp hk).1) hd (fun H1 locs1 hP1 hD1 hS1 => ?_)
  rw [cs_putf ho hk] at hP1 hD1
  exact kk h1 (ok_tl (ok_tl h2)) (s_okI h3 (ok_hd h2)) H1 locs1 L hP1 hD1 hS1 hl
theorem r_putZ (hM : AM G wd d mi Ret R) {idx o ci k : Nat} {fs : List (Option Nat)} {x : Int} (hd : decode mi.2.1 pc = .ok (.putfield idx, 3)) (hp : pc' = pc + 3) (hf : FP mi.1.cls idx ci k .boolean) (ho : wd[o]? = some (.inl (ci, fs))) (hk : fs[k]? = some none) (hz : x = 0 ∨ x = 1) (kk : R pc' ls st (sI σ o k x)) : R pc ls (vI x :: vR o :: st) σ := by
  obtain ⟨p, e, s, m, args, below, meth, c, A, ad, hx, hb, hml, hr, hlk, hown, hts, hK, hA, rfl⟩ := hM
  subst hp
  intro h1 h2 h3 H locs L hP hD hS hl
  obtain ⟨⟨C, T, N⟩, hc, hkN, hlink, hin, ⟨ty0, hty⟩, hnm, hfin, hpt⟩ := hf
  refine va_put (D := G.2.1) (cl := vwCl) (v := .int (Int32.ofInt x)) hx hb hts (fun w h => gw_in (hin w h)) ty0 hty hnm hown hK.1 hP hD hS o (cs_o ho) hc k hkN (hts _ (gw_in hlink)) (fun _ h => h) hfin hpt (nar_z hz) (fit_z hz) (by rw [List.length_mapIdx]; exact (List.getElem?_eq_some_iff.mp hk).1) hd (fun H1 locs1 hP1 hD1 hS1 => ?_)
  rw [cs_putf ho hk] at hP1 hD1
  exact kk h1 (ok_tl (ok_tl h2)) (s_okI h3 (ok_hd h2)) H1 locs1 L hP1 hD1 hS1 hl
theorem r_iaload (hM : AM G wd d mi Ret R) {a n : Nat} {i : Int} (hd : decode mi.2.1 pc = .ok (.iaload, 1)) (hp : pc' = pc + 1) (ha : wd[a]? = some (.inr (0, n))) (hi : 0 ≤ i ∧ i < n) (kk : R pc' ls (vI (σ.1 a i.toNat) :: st) σ) : R pc ls (vI i :: vR a :: st) σ := by
  obtain ⟨p, e, s, m, args, below, meth, c, A, ad, hx, hb, hml, hr, hlk, hown, hts, hK, hA, rfl⟩ := hM
  subst hp
  intro h1 h2 h3 H locs L hP hD hS hl
  have k' := kk h1 (ok_cons (h3 a i.toNat) (ok_tl (ok_tl h2))) h3 H locs L hP hD hS hl
  rw [List.map_cons, av_cI, ← i32_cl (ok_hd h2)] at k'
  exact va_iald (D := G.2.1) (cl := vwCl) hx hb hK.1 hP a 0 (cs_i ha) rfl (i32_in (ok_hd h2) hi.1 hi.2) hd k'
theorem r_zaload (hM : AM G wd d mi Ret R) {a n : Nat} {i : Int} (hd : decode mi.2.1 pc = .ok (.baload, 1)) (hp : pc' = pc + 1) (ha : wd[a]? = some (.inr (2, n))) (hi : 0 ≤ i ∧ i < n) (kk : R pc' ls (vI (σ.1 a i.toNat) :: st) σ) : R pc ls (vI i :: vR a :: st) σ := by
  obtain ⟨p, e, s, m, args, below, meth, c, A, ad, hx, hb, hml, hr, hlk, hown, hts, hK, hA, rfl⟩ := hM
  subst hp
  intro h1 h2 h3 H locs L hP hD hS hl
  have k' := kk h1 (ok_cons (h3 a i.toNat) (ok_tl (ok_tl h2))) h3 H locs L hP hD hS hl
  rw [List.map_cons, av_cI, ← i32_cl (ok_hd h2)] at k'
  exact va_zald (D := G.2.1) (cl := vwCl) hx hb hK.1 hP a 2 (cs_z ha) rfl (i32_in (ok_hd h2) hi.1 hi.2) hd k'
theorem r_laload (hM : AM G wd d mi Ret R) {a n : Nat} {i : Int} (hd : decode mi.2.1 pc = .ok (.laload, 1)) (hp : pc' = pc + 1) (ha : wd[a]? = some (.inr (1, n))) (hi : 0 ≤ i ∧ i < n) (kk : R pc' ls (vL (σ.2 a i.toNat) :: st) σ) : R pc ls (vI i :: vR a :: st) σ := by
  obtain ⟨p, e, s, m, args, below, meth, c, A, ad, hx, hb, hml, hr, hlk, hown, hts, hK, hA, rfl⟩ := hM
  subst hp
  intro h1 h2 h3 H locs L hP hD hS hl
  have k' := kk h1 (ok_cons (v := vL _) trivial (ok_tl (ok_tl h2))) h3 H locs L hP hD hS hl
  rw [List.map_cons, av_cL, ← i32_cl (ok_hd h2)] at k'
  exact va_lald (D := G.2.1) (cl := vwCl) hx hb hK.1 hP a 1 (cs_l ha) rfl (i32_in (ok_hd h2) hi.1 hi.2) hd k'
theorem r_iastore (hM : AM G wd d mi Ret R) {a n : Nat} {i x : Int} (hd : decode mi.2.1 pc = .ok (.iastore, 1)) (hp : pc' = pc + 1) (ha : wd[a]? = some (.inr (0, n))) (hi : 0 ≤ i ∧ i < n) (kk : R pc' ls st (sI σ a i.toNat x)) : R pc ls (vI x :: vI i :: vR a :: st) σ := by
  obtain ⟨p, e, s, m, args, below, meth, c, A, ad, hx, hb, hml, hr, hlk, hown, hts, hK, hA, rfl⟩ := hM
  subst hp
  intro h1 h2 h3 H locs L hP hD hS hl
  refine va_iast (D := G.2.1) (cl := vwCl) hx hb hK.1 hP hD hS a 0 (cs_i ha) rfl (i32_in (ok_hd (ok_tl h2)) hi.1 hi.2) hd (fun H1 locs1 hP1 hD1 hS1 => ?_)
  rw [cs_puti ha, i32_cl (ok_hd (ok_tl h2))] at hP1 hD1
  exact kk h1 (ok_tl (ok_tl (ok_tl h2))) (s_okI h3 (ok_hd h2)) H1 locs1 L hP1 hD1 hS1 hl
theorem r_zastore (hM : AM G wd d mi Ret R) {a n : Nat} {i x : Int} (hd : decode mi.2.1 pc = .ok (.bastore, 1)) (hp : pc' = pc + 1) (ha : wd[a]? = some (.inr (2, n))) (hi : 0 ≤ i ∧ i < n) (hz : x = 0 ∨ x = 1) (kk : R pc' ls st (sI σ a i.toNat x)) : R pc ls (vI x :: vI i :: vR a :: st) σ := by
  obtain ⟨p, e, s, m, args, below, meth, c, A, ad, hx, hb, hml, hr, hlk, hown, hts, hK, hA, rfl⟩ := hM
  subst hp
  intro h1 h2 h3 H locs L hP hD hS hl
  refine va_zast (D := G.2.1) (cl := vwCl) hx hb hK.1 hP hD hS a 2 (cs_z ha) rfl (i32_in (ok_hd (ok_tl h2)) hi.1 hi.2) hd (fun H1 locs1 hP1 hD1 hS1 => ?_)
  rw [nar_zx hz, cs_putz ha, i32_cl (ok_hd (ok_tl h2))] at hP1 hD1
  exact kk h1 (ok_tl (ok_tl (ok_tl h2))) (s_okI h3 (ok_hd h2)) H1 locs1 L hP1 hD1 hS1 hl
theorem r_lastore (hM : AM G wd d mi Ret R) {a n : Nat} {i : Int} {x : Int64} (hd : decode mi.2.1 pc = .ok (.lastore, 1)) (hp : pc' = pc + 1) (ha : wd[a]? = some (.inr (1, n))) (hi : 0 ≤ i ∧ i < n) (kk : R pc' ls st (sL σ a i.toNat x)) : R pc ls (vL x :: vI i :: vR a :: st) σ := by
  obtain ⟨p, e, s, m, args, below, meth, c, A, ad, hx, hb, hml, hr, hlk, hown, hts, hK, hA, rfl⟩ := hM
  subst hp
  intro h1 h2 h3 H locs L hP hD hS hl
  refine va_last (D := G.2.1) (cl := vwCl) hx hb hK.1 hP hD hS a 1 (cs_l ha) rfl (i32_in (ok_hd (ok_tl h2)) hi.1 hi.2) hd (fun H1 locs1 hP1 hD1 hS1 => ?_)
  rw [cs_putl ha, i32_cl (ok_hd (ok_tl h2))] at hP1 hD1
  exact kk h1 (ok_tl (ok_tl (ok_tl h2))) h3 H1 locs1 L hP1 hD1 hS1 hl
theorem r_alenI (hM : AM G wd d mi Ret R) {a n : Nat} (hd : decode mi.2.1 pc = .ok (.arraylength, 1)) (hp : pc' = pc + 1) (ha : wd[a]? = some (.inr (0, n))) (hn : n < 2147483648) (kk : R pc' ls (vI n :: st) σ) : R pc ls (vR a :: st) σ := by
  obtain ⟨p, e, s, m, args, below, meth, c, A, ad, hx, hb, hml, hr, hlk, hown, hts, hK, hA, rfl⟩ := hM
  subst hp
  intro h1 h2 h3 H locs L hP hD hS hl
  exact va_alen (D := G.2.1) (cl := vwCl) hx hb hK.1 hP a 0 (cs_i ha) rfl rfl hd (kk h1 (ok_cons (v := vI n) ⟨by omega, by omega⟩ (ok_tl h2)) h3 H locs L hP hD hS hl)
theorem r_alenL (hM : AM G wd d mi Ret R) {a n : Nat} (hd : decode mi.2.1 pc = .ok (.arraylength, 1)) (hp : pc' = pc + 1) (ha : wd[a]? = some (.inr (1, n))) (hn : n < 2147483648) (kk : R pc' ls (vI n :: st) σ) : R pc ls (vR a :: st) σ := by
  obtain ⟨p, e, s, m, args, below, meth, c, A, ad, hx, hb, hml, hr, hlk, hown, hts, hK, hA, rfl⟩ := hM
  subst hp
  intro h1 h2 h3 H locs L hP hD hS hl
  exact va_alen (D := G.2.1) (cl := vwCl) hx hb hK.1 hP a 1 (cs_l ha) rfl rfl hd (kk h1 (ok_cons (v := vI n) ⟨by omega, by omega⟩ (ok_tl h2)) h3 H locs L hP hD hS hl)
/-- behind a call -/
theorem aCall {p : Program} {e : Env} {Rm : Room} {s : State} {m : MethodId} {args : Array Value} {below : List Frame} {meth : Method} {c : Code} {Q : State → Prop} {A A1 : Nat → Prop} {ad : Nat → Nat} {nL : Nat} {a : Array Value} {L : Array Slot} {H : Heap} {locs : List Loc} {st0 : List Value} {Qr : Option AV → St → Prop}
    (hr : va_Run p G.1 e Rm s m args below meth c H locs 0 0 0 0 (F0 m pc L st0) (st.map (av_c ad)) (cQ G wd ad Qr A1 a) A1) (hS : va_S A s.heap H locs) (hA : ∀ q, A1 q → A q)
    (h1 : av_oks ls) (h2 : av_oks st) (hl : lvA ad L nL ls)
    (k : ∀ r σ', Qr r σ' → aR p e Rm s m args below meth c Q A G wd ad nL (pc + 3) ls (r.toList ++ st) σ') : W p G.1 e Rm s m args below meth c H locs 0 0 Q (F0 m pc L st0) := by
  intro T hT X
  obtain ⟨v, st₀, t, T', L', h0, X', hL, e1, e2, ⟨⟨r, σ', hv, hQ, hok, hs', hP', hD'⟩, hz, hkk⟩, sg⟩ := hr T hT X
  cases hv
  rw [h0] at hz hkk
  have hS' : va_S A s.heap T'.heap (locs ++ L') := ⟨Nat.le_trans hS.1 (by rw [e1]; exact hz), fun q q1 q2 => by rw [e1, hkk q (Nat.lt_of_lt_of_le q1 hS.1) (fun z => q2 (hA q z))]; exact hS.2.1 q q1 q2, fun q hq => by
    rcases List.mem_append.mp hq with h | h
    · exact hS.2.2 q h
    · exact hA _ (hL q h)⟩
  have hok2 : av_oks (r.toList ++ st) := by
    cases r with
    | none => exact h2
    | some w => exact ok_cons (hok w rfl) h2
  obtain ⟨t2, a1, b1⟩ := k r σ' hQ h1 hok2 hs' T'.heap (locs ++ L') L (by rw [e1]; exact hP') (hD'.weaken (fun _ _ _ h => hA _ h)) hS' hl T' rfl X'
  refine ⟨t2, sg t2 ?_, b1⟩
  cases r with
  | none => exact a1
  | some w => exact a1
theorem cs_free {A : Nat → Prop} {ad : Nat → Nat} {H0 H : Heap} {locs : List Loc} (hD : va_D A (cs G wd ad σ)) (hS : va_S A H0 H locs) (hA : ∀ q, H0.size ≤ q → A q) : ∀ q, va_A (cs G wd ad σ) H.size q → A q := by
  intro q h
  rcases h with ⟨k, x, h⟩ | h
  · exact hD.2 k (q, x) h
  · exact hA q (Nat.le_trans hS.1 h)
theorem cP_blind {ad : Nat → Nat} {sz : Nat} {av : List Value} : FrameBlind (va_Pc av (fun U => U.heap.size = sz ∧ va_P G.2.1 vwCl (cs G wd ad σ) U.heap ∧ cK G U ∧ va_D (fun _ => True) (cs G wd ad σ))) := by
  intro a U g mk q
  obtain ⟨q0, q1, qP, qK, qD⟩ := q
  exact ⟨q0, q1, qP, cK.same (u := U) (U := U.calling g mk a) rfl qK, qD⟩
theorem rm_ok {d maxL : Nat} (h : maxL ≤ 22) : (rm_d d).frames + 1 ≤ (rm_d (d + 1)).frames ∧ 8 + (maxL + 11) + (rm_d d).locals ≤ (rm_d (d + 1)).locals := by
  refine ⟨Nat.le_refl _, ?_⟩
  show 8 + (maxL + 11) + 41 * d ≤ 41 * (d + 1)
  omega
theorem st_room {ad : Nat → Nat} : ∀ {l : List AV}, ((l.map (av_c ad)).map fun v => v.category).sum ≤ 2 * l.length := by
  intro l
  induction l with
  | nil => simp
  | cons v l ih =>
    have h : (av_c ad v).category ≤ 2 := by
      rcases lv_cat (av_c ad v) with h | h <;> omega
    simp only [List.map_cons, List.sum_cons, List.length_cons] at ih ⊢
    omega
theorem ok_app {a b : List AV} : av_oks (a ++ b) ↔ av_oks a ∧ av_oks b := List.forall_mem_append
theorem ok_rev {a : List AV} (h : av_oks a.reverse) : av_oks a := fun v hv => h v (List.mem_reverse.mpr hv)
theorem r_callV (hM : AM G wd (d + 1) mi Ret R) {idx ci n o : Nat} {m' : MI} {fs : List (Option Nat)} {stk : List AV} {Qr : Option AV → St → Prop} (As : List AV) (hd : decode mi.2.1 pc = .ok (.invokevirtual idx, 3)) (hp : pc' = pc + 3) (hf : MLv mi.1.cls idx m' ci n) (ho : wd[o]? = some (.inl (ci, fs))) (hn : As.length = n) (hst : stk = As.reverse ++ vR o :: st) (hrm : st.length ≤ 4)
    (hc : Con G wd d m' (vR o :: As) σ Qr) (k : ∀ r σ', Qr r σ' → R pc' ls (r.toList ++ st) σ') : R pc ls stk σ := by
  obtain ⟨p, e, s, m, args, below, meth, c, A, ad, hx, hb, hml, hr, hlk, hown, hts, hK, hA, rfl⟩ := hM
  subst hp
  subst hst
  intro h1 h2 h3 H locs L hP hD hS hl
  obtain ⟨q, hq, hcls, w1, w2, w3, w4, w5, hdd, hmx⟩ := hf
  have h2' := ok_app.mp h2
  have hMet := hc ad H.size (ok_cons (v := vR o) trivial (ok_rev h2'.1)) h3
  have hGI : GoodIn (ws_m mi) (wsV mi.1.cls idx q.1 m'.1 (ws_m m')) := by
    intro w hw
    simp only [wsV, List.cons_append, List.nil_append, List.mem_cons] at hw
    rcases hw with rfl | rfl | rfl | rfl | hw
    · exact ⟨gw_in w1, gw_good w1⟩
    · exact ⟨gw_in w2, gw_good w2⟩
    · exact ⟨gw_in w3, gw_good w3⟩
    · exact ⟨gw_in w4, gw_good w4⟩
    · exact gw_GI w5 w hw
  have hrun := va_runV (H := H) (locs := locs) (cells := 0) (slots := 0) (R := rm_d (d + 1)) (e := e) (below := below) (meth := meth) (g := F0 m pc L ((As.reverse ++ vR o :: st).map (av_c ad))) (As := As.map (av_c ad)) (rest := st.map (av_c ad)) (C := q.1) (b := ad o) ⟨hx, hb, hml, hown, hts⟩ hMet (cwV n hts hGI rfl rfl rfl ⟨hcls, hdd⟩ (rm_ok hmx))
    ⟨cP_blind, va_recv hK.1 hP hq (cs_o ho), fun U hU hW => ⟨rfl, by rw [hU], by rw [hU]; exact hP, hK.moved hW, hD.weaken (fun _ _ _ _ => trivial)⟩⟩ rfl (by rw [List.length_map]; exact hn) hl.2.1 (by simp [List.map_append, List.map_reverse, av_c]) (lv_room (Nat.le_trans st_room (by omega))) hd ⟨Nat.zero_le _, Nat.zero_le _⟩
  exact aCall hrun hS (cs_free hD hS hA) h1 (ok_tl h2'.2) hl k
theorem r_callVI (hM : AM G wd (d + 1) mi Ret R) {idx ci n o : Nat} {m' : MI} {fs : List (Option Nat)} {stk : List AV} (As : List AV) (hd : decode mi.2.1 pc = .ok (.invokevirtual idx, 3)) (hp : pc' = pc + 3) (hf : MLv mi.1.cls idx m' ci n) (ho : wd[o]? = some (.inl (ci, fs))) (hn : As.length = n) (hst : stk = As.reverse ++ vR o :: st) (hrm : st.length ≤ 4)
    (hc : conI G wd d m' (vR o :: As) σ (fun x σ' => R pc' ls (vI x :: st) σ')) : R pc ls stk σ :=
  r_callV hM As hd hp hf ho hn hst hrm hc (fun r σ' h => by obtain ⟨x, rfl, h⟩ := h; exact h)
theorem r_callVV (hM : AM G wd (d + 1) mi Ret R) {idx ci n o : Nat} {m' : MI} {fs : List (Option Nat)} {stk : List AV} (As : List AV) (hd : decode mi.2.1 pc = .ok (.invokevirtual idx, 3)) (hp : pc' = pc + 3) (hf : MLv mi.1.cls idx m' ci n) (ho : wd[o]? = some (.inl (ci, fs))) (hn : As.length = n) (hst : stk = As.reverse ++ vR o :: st) (hrm : st.length ≤ 4)
    (hc : conV G wd d m' (vR o :: As) σ (fun σ' => R pc' ls st σ')) : R pc ls stk σ :=
  r_callV hM As hd hp hf ho hn hst hrm hc (fun r σ' h => by obtain ⟨rfl, h⟩ := h; exact h)
theorem r_callS (hM : AM G wd (d + 1) mi Ret R) {idx n : Nat} {m' : MI} {stk : List AV} {Qr : Option AV → St → Prop} (As : List AV) (hd : decode mi.2.1 pc = .ok (.invokestatic idx, 3)) (hp : pc' = pc + 3) (hf : MLs mi.1.cls idx m' n) (hn : As.length = n) (hst : stk = As.reverse ++ st) (hrm : st.length ≤ 4)
    (hc : Con G wd d m' As σ Qr) (k : ∀ r σ', Qr r σ' → R pc' ls (r.toList ++ st) σ') : R pc ls stk σ := by
  obtain ⟨p, e, s, m, args, below, meth, c, A, ad, hx, hb, hml, hr, hlk, hown, hts, hK, hA, rfl⟩ := hM
  subst hp
  subst hst
  intro h1 h2 h3 H locs L hP hD hS hl
  obtain ⟨w1, w2, w3, w5, hdd, hmx⟩ := hf
  have h2' := ok_app.mp h2
  have hMet := hc ad H.size (ok_rev h2'.1) h3
  have hGI : GoodIn (ws_m mi) (va_wsS mi.1.cls idx m'.1 (ws_m m')) := by
    intro w hw
    simp only [va_wsS, List.cons_append, List.nil_append, List.mem_cons] at hw
    rcases hw with rfl | rfl | rfl | hw
    · exact ⟨gw_in w1, gw_good w1⟩
    · exact ⟨gw_in w2, gw_good w2⟩
    · exact ⟨gw_in w3, gw_good w3⟩
    · exact gw_GI w5 w hw
  have hrun := va_runS (H := H) (locs := locs) (cells := 0) (slots := 0) (R := rm_d (d + 1)) (e := e) (below := below) (meth := meth) (g := F0 m pc L ((As.reverse ++ st).map (av_c ad))) (As := As.map (av_c ad)) (rest := st.map (av_c ad)) ⟨hx, hb, hml, hown, hts⟩ hMet (va_cwS n hts hGI rfl rfl rfl hdd (rm_ok hmx))
    ⟨cP_blind, fun U hU hW => ⟨rfl, by rw [hU], by rw [hU]; exact hP, hK.moved hW, hD.weaken (fun _ _ _ _ => trivial)⟩⟩ rfl (by rw [List.length_map]; exact hn) hl.2.1 (by simp [List.map_append, List.map_reverse]) (lv_room (Nat.le_trans st_room (by omega))) hd ⟨Nat.zero_le _, Nat.zero_le _⟩
  exact aCall hrun hS (cs_free hD hS hA) h1 h2'.2 hl k
theorem r_callN (hM : AM G wd (d + 1) mi Ret R) {idx n : Nat} {m' : MI} {stk : List AV} {Qr : Option AV → St → Prop} (As : List AV) (hd : decode mi.2.1 pc = .ok (.invokestatic idx, 3)) (hp : pc' = pc + 3) (hf : MLn mi.1.cls idx m' n) (hn : As.length = n) (hst : stk = As.reverse ++ st) (hrm : st.length ≤ 4)
    (hc : Con G wd d m' As σ Qr) (k : ∀ r σ', Qr r σ' → R pc' ls (r.toList ++ st) σ') : R pc ls stk σ := by
  obtain ⟨p, e, s, m, args, below, meth, c, A, ad, hx, hb, hml, hr, hlk, hown, hts, hK, hA, rfl⟩ := hM
  subst hp
  subst hst
  intro h1 h2 h3 H locs L hP hD hS hl
  obtain ⟨⟨host, w1⟩, w2, w3, w5, hdd, hmx⟩ := hf
  have h2' := ok_app.mp h2
  have hMet := hc ad H.size (ok_rev h2'.1) h3
  have hrun := va_runSN (H := H) (locs := locs) (cells := 0) (slots := 0) (R := rm_d (d + 1)) (e := e) (below := below) (meth := meth) (g := F0 m pc L ((As.reverse ++ st).map (av_c ad))) (As := As.map (av_c ad)) (rest := st.map (av_c ad)) ⟨hx, hb, hml, hown, hts⟩ hMet ⟨va_cnB (host := host) n hts (gw_GI w5) rfl rfl rfl (hK.2 _ w1) (hts _ (gw_in w3)) hdd (rm_ok hmx), hts _ (gw_in w2), trivial⟩
    ⟨cP_blind, fun U hU hW => ⟨rfl, by rw [hU], by rw [hU]; exact hP, hK.moved hW, hD.weaken (fun _ _ _ _ => trivial)⟩⟩ rfl (by rw [List.length_map]; exact hn) hl.2.1 (by simp [List.map_append, List.map_reverse]) (lv_room (Nat.le_trans st_room (by omega))) hd ⟨Nat.zero_le _, Nat.zero_le _⟩
  exact aCall hrun hS (cs_free hD hS hA) h1 h2'.2 hl k
theorem r_callSI (hM : AM G wd (d + 1) mi Ret R) {idx n : Nat} {m' : MI} {stk : List AV} (As : List AV) (hd : decode mi.2.1 pc = .ok (.invokestatic idx, 3)) (hp : pc' = pc + 3) (hf : MLs mi.1.cls idx m' n) (hn : As.length = n) (hst : stk = As.reverse ++ st) (hrm : st.length ≤ 4)
    (hc : conI G wd d m' As σ (fun x σ' => R pc' ls (vI x :: st) σ')) : R pc ls stk σ :=
  r_callS hM As hd hp hf hn hst hrm hc (fun r σ' h => by obtain ⟨x, rfl, h⟩ := h; exact h)
theorem r_callSV (hM : AM G wd (d + 1) mi Ret R) {idx n : Nat} {m' : MI} {stk : List AV} (As : List AV) (hd : decode mi.2.1 pc = .ok (.invokestatic idx, 3)) (hp : pc' = pc + 3) (hf : MLs mi.1.cls idx m' n) (hn : As.length = n) (hst : stk = As.reverse ++ st) (hrm : st.length ≤ 4)
    (hc : conV G wd d m' As σ (fun σ' => R pc' ls st σ')) : R pc ls stk σ :=
  r_callS hM As hd hp hf hn hst hrm hc (fun r σ' h => by obtain ⟨rfl, h⟩ := h; exact h)
theorem r_callNI (hM : AM G wd (d + 1) mi Ret R) {idx n : Nat} {m' : MI} {stk : List AV} (As : List AV) (hd : decode mi.2.1 pc = .ok (.invokestatic idx, 3)) (hp : pc' = pc + 3) (hf : MLn mi.1.cls idx m' n) (hn : As.length = n) (hst : stk = As.reverse ++ st) (hrm : st.length ≤ 4)
    (hc : conI G wd d m' As σ (fun x σ' => R pc' ls (vI x :: st) σ')) : R pc ls stk σ :=
  r_callN hM As hd hp hf hn hst hrm hc (fun r σ' h => by obtain ⟨x, rfl, h⟩ := h; exact h)
theorem ls_args {ad : Nat → Nat} : ∀ {l : List AV} {i : Nat} {q : Nat × Value}, q ∈ ll ad i (a_ls l) → q ∈ lv_args i (l.map (av_c ad)) := by
  intro l
  induction l with
  | nil => intro i q h; simp [a_ls, ll] at h
  | cons v l ih =>
    intro i q h
    rcases v with x | x | x
    · simp only [a_ls, ll] at h
      rw [if_neg (vI_ne x)] at h
      simp only [List.map_cons, lv_args, av_c, Value.category]
      rcases List.mem_cons.mp h with h | h
      · rw [h]; exact List.mem_cons_self
      · exact List.mem_cons_of_mem _ (ih h)
    · simp only [a_ls, ll] at h
      rw [if_neg (vL_ne x), if_pos trivial] at h
      simp only [List.map_cons, lv_args, av_c, Value.category]
      rcases List.mem_cons.mp h with h | h
      · rw [h]; exact List.mem_cons_self
      · exact List.mem_cons_of_mem _ (ih h)
    · simp only [a_ls, ll] at h
      cases x with
      | none =>
        rw [if_pos rfl] at h
        simp only [List.map_cons, lv_args, av_c, Value.category]
        exact List.mem_cons_of_mem _ (ih h)
      | some a =>
        rw [if_neg (vR_ne a)] at h
        simp only [List.map_cons, lv_args, av_c, Value.category]
        rcases List.mem_cons.mp h with h | h
        · rw [h]; exact List.mem_cons_self
        · exact List.mem_cons_of_mem _ (ih h)
theorem ll_app {ad : Nat → Nat} : ∀ {l : List AV} {n i : Nat}, ll ad i (l ++ List.replicate n vN) = ll ad i l := by
  intro l
  induction l with
  | nil =>
    intro n
    induction n with
    | zero => intro i; rfl
    | succ n ih => intro i; simp only [List.nil_append, List.replicate_succ, ll, if_true] at ih ⊢; exact ih
  | cons v l ih => intro n i; simp only [List.cons_append, ll, ih]
theorem a_ls_len {ad : Nat → Nat} : ∀ {l : List AV}, (lg_sl (l.map (av_c ad))).length = (a_ls l).length := by
  intro l
  induction l with
  | nil => rfl
  | cons v l ih =>
    rcases v with x | x | x
    · simp [a_ls, av_c, lg_sl, Value.category] at ih ⊢; omega
    · simp [a_ls, av_c, lg_sl, Value.category] at ih ⊢; omega
    · cases x <;> (simp [a_ls, av_c, lg_sl, Value.category] at ih ⊢; omega)
theorem a_ls_ok : ∀ {l : List AV}, av_oks l → av_oks (a_ls l) := by
  intro l
  induction l with
  | nil => intro h; exact h
  | cons v l ih =>
    intro h
    rcases v with x | x | x
    · exact ok_cons (ok_hd h) (ih (ok_tl h))
    · exact ok_cons (v := vL x) trivial (ok_cons (v := vN) trivial (ih (ok_tl h)))
    · exact ok_cons (ok_hd h) (ih (ok_tl h))
/-- A CONTRACT OUT OF A WALK of the abstract machine -/
theorem Con.of {m : MI} {args ls0 : List AV} {Q : Option AV → St → Prop} (hpl : plainName m.1.cls = true) (hls : ls0 = a_ls args ++ List.replicate (m.2.2.1 - (a_ls args).length) vN) (hlen : (a_ls args).length ≤ m.2.2.1)
    (h : ∀ R, AM G wd d m Q R → R 0 ls0 [] σ) : Con G wd d m args σ Q := by
  intro ad sz ha hs
  refine Met.ofW (cc := m.2.1) (maxL := m.2.2.1) (ret := m.2.2.2) hpl rfl ?_
  intro p e s mm as below meth c s₁ B hml hv
  obtain ⟨rfl, hsz, hP, hK, hD0⟩ := hv
  subst hsz
  have hts := atoms_spec (ws := ws_m m) B.pre
  have hown : s.vm.findClass m.1.cls = some mm.cls := findClass_of_methodNamed B.named
  have hD := hD0.self (sz := s.heap.size)
  have hl := lv_entry (args.map (av_c ad)) (n := m.2.2.1) (by rw [a_ls_len]; exact hlen)
  have key := h _ ⟨p, e, s, mm, (args.map (av_c ad)).toArray, below, meth, c, va_A (cs G wd ad σ) s.heap.size, ad, B.exec, B.bytes, hml, B.returns, B.notSynchronized, hown, hts, hK, fun q hq => Or.inr hq, rfl⟩
  rw [lg_entry_eq]
  refine key ?_ (fun v hv => by cases hv) hs s.heap [] _ hP hD va_S.rf ⟨?_, hl.1, hl.2.1, fun q hq => ?_⟩
  · rw [hls]
    refine ok_app.mpr ⟨a_ls_ok ha, fun v hv => ?_⟩
    rw [(List.mem_replicate.mp hv).2]
    trivial
  · rw [hls, List.length_append, List.length_replicate]
    omega
  · rw [hls, ll_app] at hq
    exact hl.2.2 q (ls_args hq)
theorem Con.mono {m : MI} {args : List AV} {Q Q' : Option AV → St → Prop} (h : Con G wd d m args σ Q) (hq : ∀ r σ', Q r σ' → Q' r σ') : Con G wd d m args σ Q' := by
  intro ad sz ha hs
  intro p e a1 a2 a3 s mm as below b1 b2 b3 b4
  obtain ⟨t, o, c1, c2, c3, ⟨⟨r, σ', e1, e2, e3⟩, e4⟩, e5⟩ := h ad sz ha hs p e a1 a2 a3 s mm as below b1 b2 b3 b4
  exact ⟨t, o, c1, c2, c3, ⟨⟨r, σ', e1, hq _ _ e2, e3⟩, e4⟩, e5⟩
end Heap
end
