-- ===== PART A: goes FIRST, ahead of the names: the tables' words, and 'selects' of the private methods out of them =====
/-- a private method of a class that the tables say can be made, by its rows of tables_1 -/
def lw_okq (q : MethodName × Nat) : Prop := (q.1.cls ≠ "java/lang/invoke/MethodHandle" ∧ q.1.cls ≠ "java/lang/invoke/VarHandle") ∧ Cond.instantiable q.1.cls q.2 ∈ tables_1 ∧ Cond.privateMethod q.1 ∈ tables_1 ∧ Cond.instanceMethod q.1 ∈ tables_1
theorem lw_p0 : lw_okq (⟨"Holeworks$Borders", "numberSlots", "()V"⟩, 3) := ⟨⟨by decide +kernel, by decide +kernel⟩, List.mem_of_getElem? (i := 47) (by decide +kernel), List.mem_of_getElem? (i := 53) (by decide +kernel), List.mem_of_getElem? (i := 54) (by decide +kernel)⟩
theorem lw_p1 : lw_okq (⟨"Holeworks$Borders", "bitsOfBorder", "(I)J"⟩, 3) := ⟨⟨by decide +kernel, by decide +kernel⟩, List.mem_of_getElem? (i := 47) (by decide +kernel), List.mem_of_getElem? (i := 66) (by decide +kernel), List.mem_of_getElem? (i := 67) (by decide +kernel)⟩
theorem lw_p2 : lw_okq (⟨"Holeworks", "giveMade", "(LHoleworks$FaceSet;)I"⟩, 5) := ⟨⟨by decide +kernel, by decide +kernel⟩, List.mem_of_getElem? (i := 19) (by decide +kernel), List.mem_of_getElem? (i := 165) (by decide +kernel), List.mem_of_getElem? (i := 166) (by decide +kernel)⟩
theorem lw_p3 : lw_okq (⟨"Holeworks", "shapeAt", "(I)LHoleworks$FaceSet;"⟩, 5) := ⟨⟨by decide +kernel, by decide +kernel⟩, List.mem_of_getElem? (i := 19) (by decide +kernel), List.mem_of_getElem? (i := 218) (by decide +kernel), List.mem_of_getElem? (i := 219) (by decide +kernel)⟩
theorem lw_p4 : lw_okq (⟨"java/lang/Throwable", "fillInStackTrace", "(I)Ljava/lang/Throwable;"⟩, 6) := ⟨⟨by decide +kernel, by decide +kernel⟩, List.mem_of_getElem? (i := 261) (by decide +kernel), List.mem_of_getElem? (i := 259) (by decide +kernel), List.mem_of_getElem? (i := 260) (by decide +kernel)⟩
theorem lw_p5 : lw_okq (⟨"Holeworks$Borders", "keepsIfFree", "(J)Z"⟩, 3) := ⟨⟨by decide +kernel, by decide +kernel⟩, List.mem_of_getElem? (i := 47) (by decide +kernel), List.mem_of_getElem? (i := 645) (by decide +kernel), List.mem_of_getElem? (i := 646) (by decide +kernel)⟩
theorem lw_p6 : lw_okq (⟨"Holeworks$Borders", "isSumOfKept", "(J)Z"⟩, 3) := ⟨⟨by decide +kernel, by decide +kernel⟩, List.mem_of_getElem? (i := 47) (by decide +kernel), List.mem_of_getElem? (i := 704) (by decide +kernel), List.mem_of_getElem? (i := 705) (by decide +kernel)⟩
theorem lw_p7 : lw_okq (⟨"Holeworks$Theorem", "tellsFilling", "(LHoleworks$FaceSet;ZLHoleworks$FaceSet;)Z"⟩, 6) := ⟨⟨by decide +kernel, by decide +kernel⟩, List.mem_of_getElem? (i := 41) (by decide +kernel), List.mem_of_getElem? (i := 765) (by decide +kernel), List.mem_of_getElem? (i := 766) (by decide +kernel)⟩
theorem lw_p8 : lw_okq (⟨"Holeworks$Theorem", "isOneWithoutHoles", "(LHoleworks$FaceSet;)Z"⟩, 6) := ⟨⟨by decide +kernel, by decide +kernel⟩, List.mem_of_getElem? (i := 41) (by decide +kernel), List.mem_of_getElem? (i := 790) (by decide +kernel), List.mem_of_getElem? (i := 791) (by decide +kernel)⟩
theorem lw_p9 : lw_okq (⟨"Holeworks$Theorem", "areOpposed", "(LHoleworks$FaceSet;I)Z"⟩, 6) := ⟨⟨by decide +kernel, by decide +kernel⟩, List.mem_of_getElem? (i := 41) (by decide +kernel), List.mem_of_getElem? (i := 819) (by decide +kernel), List.mem_of_getElem? (i := 820) (by decide +kernel)⟩
theorem lw_p10 : lw_okq (⟨"HoleworksModel", "isWrong", "(I)Z"⟩, 8) := ⟨⟨by decide +kernel, by decide +kernel⟩, List.mem_of_getElem? (i := 879) (by decide +kernel), List.mem_of_getElem? (i := 928) (by decide +kernel), List.mem_of_getElem? (i := 929) (by decide +kernel)⟩
theorem lw_p11 : lw_okq (⟨"HoleworksModel", "isThere", "(II)Z"⟩, 8) := ⟨⟨by decide +kernel, by decide +kernel⟩, List.mem_of_getElem? (i := 879) (by decide +kernel), List.mem_of_getElem? (i := 935) (by decide +kernel), List.mem_of_getElem? (i := 936) (by decide +kernel)⟩
theorem lw_p12 : lw_okq (⟨"HoleworksModel", "missing", "(II)I"⟩, 8) := ⟨⟨by decide +kernel, by decide +kernel⟩, List.mem_of_getElem? (i := 879) (by decide +kernel), List.mem_of_getElem? (i := 943) (by decide +kernel), List.mem_of_getElem? (i := 944) (by decide +kernel)⟩
theorem lw_p13 : lw_okq (⟨"HoleworksModel", "takeOut", "(II)I"⟩, 8) := ⟨⟨by decide +kernel, by decide +kernel⟩, List.mem_of_getElem? (i := 879) (by decide +kernel), List.mem_of_getElem? (i := 947) (by decide +kernel), List.mem_of_getElem? (i := 948) (by decide +kernel)⟩
theorem lw_p14 : lw_okq (⟨"HoleworksModel", "sizeOf", "(I)I"⟩, 8) := ⟨⟨by decide +kernel, by decide +kernel⟩, List.mem_of_getElem? (i := 879) (by decide +kernel), List.mem_of_getElem? (i := 955) (by decide +kernel), List.mem_of_getElem? (i := 956) (by decide +kernel)⟩
theorem lw_p15 : lw_okq (⟨"HoleworksModel", "keep", "(I)I"⟩, 8) := ⟨⟨by decide +kernel, by decide +kernel⟩, List.mem_of_getElem? (i := 879) (by decide +kernel), List.mem_of_getElem? (i := 963) (by decide +kernel), List.mem_of_getElem? (i := 964) (by decide +kernel)⟩
def lw_privs_1 : List (MethodName × Nat) := [(⟨"Holeworks$Borders", "numberSlots", "()V"⟩, 3), (⟨"Holeworks$Borders", "bitsOfBorder", "(I)J"⟩, 3), (⟨"Holeworks", "giveMade", "(LHoleworks$FaceSet;)I"⟩, 5), (⟨"Holeworks", "shapeAt", "(I)LHoleworks$FaceSet;"⟩, 5), (⟨"java/lang/Throwable", "fillInStackTrace", "(I)Ljava/lang/Throwable;"⟩, 6), (⟨"Holeworks$Borders", "keepsIfFree", "(J)Z"⟩, 3), (⟨"Holeworks$Borders", "isSumOfKept", "(J)Z"⟩, 3), (⟨"Holeworks$Theorem", "tellsFilling", "(LHoleworks$FaceSet;ZLHoleworks$FaceSet;)Z"⟩, 6), (⟨"Holeworks$Theorem", "isOneWithoutHoles", "(LHoleworks$FaceSet;)Z"⟩, 6), (⟨"Holeworks$Theorem", "areOpposed", "(LHoleworks$FaceSet;I)Z"⟩, 6), (⟨"HoleworksModel", "isWrong", "(I)Z"⟩, 8), (⟨"HoleworksModel", "isThere", "(II)Z"⟩, 8), (⟨"HoleworksModel", "missing", "(II)I"⟩, 8), (⟨"HoleworksModel", "takeOut", "(II)I"⟩, 8), (⟨"HoleworksModel", "sizeOf", "(I)I"⟩, 8), (⟨"HoleworksModel", "keep", "(I)I"⟩, 8)]
theorem lw_r1 : ∀ q ∈ lw_privs_1, lw_okq q := List.forall_mem_cons.mpr ⟨lw_p0, List.forall_mem_cons.mpr ⟨lw_p1, List.forall_mem_cons.mpr ⟨lw_p2, List.forall_mem_cons.mpr ⟨lw_p3, List.forall_mem_cons.mpr ⟨lw_p4, List.forall_mem_cons.mpr ⟨lw_p5, List.forall_mem_cons.mpr ⟨lw_p6, List.forall_mem_cons.mpr ⟨lw_p7, List.forall_mem_cons.mpr ⟨lw_p8, List.forall_mem_cons.mpr ⟨lw_p9, List.forall_mem_cons.mpr ⟨lw_p10, List.forall_mem_cons.mpr ⟨lw_p11, List.forall_mem_cons.mpr ⟨lw_p12, List.forall_mem_cons.mpr ⟨lw_p13, List.forall_mem_cons.mpr ⟨lw_p14, List.forall_mem_cons.mpr ⟨lw_p15, fun _ h => absurd h List.not_mem_nil⟩⟩⟩⟩⟩⟩⟩⟩⟩⟩⟩⟩⟩⟩⟩⟩
theorem lw_p16 : lw_okq (⟨"HoleworksModel", "cornersAt", "(I)I"⟩, 8) := ⟨⟨by decide +kernel, by decide +kernel⟩, List.mem_of_getElem? (i := 879) (by decide +kernel), List.mem_of_getElem? (i := 1003) (by decide +kernel), List.mem_of_getElem? (i := 1004) (by decide +kernel)⟩
theorem lw_p17 : lw_okq (⟨"HoleworksModel", "isLifted", "(III)Z"⟩, 8) := ⟨⟨by decide +kernel, by decide +kernel⟩, List.mem_of_getElem? (i := 879) (by decide +kernel), List.mem_of_getElem? (i := 1007) (by decide +kernel), List.mem_of_getElem? (i := 1008) (by decide +kernel)⟩
theorem lw_p18 : lw_okq (⟨"HoleworksModel", "overAt", "(II)I"⟩, 8) := ⟨⟨by decide +kernel, by decide +kernel⟩, List.mem_of_getElem? (i := 879) (by decide +kernel), List.mem_of_getElem? (i := 1030) (by decide +kernel), List.mem_of_getElem? (i := 1031) (by decide +kernel)⟩
theorem lw_p19 : lw_okq (⟨"HoleworksModel", "facesOf", "(II)I"⟩, 8) := ⟨⟨by decide +kernel, by decide +kernel⟩, List.mem_of_getElem? (i := 879) (by decide +kernel), List.mem_of_getElem? (i := 1046) (by decide +kernel), List.mem_of_getElem? (i := 1047) (by decide +kernel)⟩
theorem lw_p20 : lw_okq (⟨"HoleworksModel", "greatestOf", "(I)I"⟩, 8) := ⟨⟨by decide +kernel, by decide +kernel⟩, List.mem_of_getElem? (i := 879) (by decide +kernel), List.mem_of_getElem? (i := 1062) (by decide +kernel), List.mem_of_getElem? (i := 1063) (by decide +kernel)⟩
theorem lw_p21 : lw_okq (⟨"HoleworksModel", "isGreatest", "(II)Z"⟩, 8) := ⟨⟨by decide +kernel, by decide +kernel⟩, List.mem_of_getElem? (i := 879) (by decide +kernel), List.mem_of_getElem? (i := 1066) (by decide +kernel), List.mem_of_getElem? (i := 1067) (by decide +kernel)⟩
theorem lw_p22 : lw_okq (⟨"HoleworksModel", "isOf", "(II)Z"⟩, 8) := ⟨⟨by decide +kernel, by decide +kernel⟩, List.mem_of_getElem? (i := 879) (by decide +kernel), List.mem_of_getElem? (i := 1078) (by decide +kernel), List.mem_of_getElem? (i := 1079) (by decide +kernel)⟩
theorem lw_p23 : lw_okq (⟨"HoleworksModel", "walk", "(I)V"⟩, 8) := ⟨⟨by decide +kernel, by decide +kernel⟩, List.mem_of_getElem? (i := 879) (by decide +kernel), List.mem_of_getElem? (i := 1090) (by decide +kernel), List.mem_of_getElem? (i := 1091) (by decide +kernel)⟩
theorem lw_p24 : lw_okq (⟨"HoleworksModel", "join", "(I)V"⟩, 8) := ⟨⟨by decide +kernel, by decide +kernel⟩, List.mem_of_getElem? (i := 879) (by decide +kernel), List.mem_of_getElem? (i := 1094) (by decide +kernel), List.mem_of_getElem? (i := 1095) (by decide +kernel)⟩
theorem lw_p25 : lw_okq (⟨"HoleworksModel", "rank", "(II)I"⟩, 8) := ⟨⟨by decide +kernel, by decide +kernel⟩, List.mem_of_getElem? (i := 879) (by decide +kernel), List.mem_of_getElem? (i := 1106) (by decide +kernel), List.mem_of_getElem? (i := 1107) (by decide +kernel)⟩
theorem lw_p26 : lw_okq (⟨"HoleworksModel", "left", "(J)J"⟩, 8) := ⟨⟨by decide +kernel, by decide +kernel⟩, List.mem_of_getElem? (i := 879) (by decide +kernel), List.mem_of_getElem? (i := 1116) (by decide +kernel), List.mem_of_getElem? (i := 1117) (by decide +kernel)⟩
theorem lw_p27 : lw_okq (⟨"HoleworksModel", "rowMany", "()I"⟩, 8) := ⟨⟨by decide +kernel, by decide +kernel⟩, List.mem_of_getElem? (i := 879) (by decide +kernel), List.mem_of_getElem? (i := 1132) (by decide +kernel), List.mem_of_getElem? (i := 1133) (by decide +kernel)⟩
theorem lw_p28 : lw_okq (⟨"HoleworksModel", "rowHeight", "()I"⟩, 8) := ⟨⟨by decide +kernel, by decide +kernel⟩, List.mem_of_getElem? (i := 879) (by decide +kernel), List.mem_of_getElem? (i := 1136) (by decide +kernel), List.mem_of_getElem? (i := 1137) (by decide +kernel)⟩
theorem lw_p29 : lw_okq (⟨"HoleworksModel", "findBorder", "()V"⟩, 8) := ⟨⟨by decide +kernel, by decide +kernel⟩, List.mem_of_getElem? (i := 879) (by decide +kernel), List.mem_of_getElem? (i := 1144) (by decide +kernel), List.mem_of_getElem? (i := 1145) (by decide +kernel)⟩
def lw_privs_2 : List (MethodName × Nat) := [(⟨"HoleworksModel", "cornersAt", "(I)I"⟩, 8), (⟨"HoleworksModel", "isLifted", "(III)Z"⟩, 8), (⟨"HoleworksModel", "overAt", "(II)I"⟩, 8), (⟨"HoleworksModel", "facesOf", "(II)I"⟩, 8), (⟨"HoleworksModel", "greatestOf", "(I)I"⟩, 8), (⟨"HoleworksModel", "isGreatest", "(II)Z"⟩, 8), (⟨"HoleworksModel", "isOf", "(II)Z"⟩, 8), (⟨"HoleworksModel", "walk", "(I)V"⟩, 8), (⟨"HoleworksModel", "join", "(I)V"⟩, 8), (⟨"HoleworksModel", "rank", "(II)I"⟩, 8), (⟨"HoleworksModel", "left", "(J)J"⟩, 8), (⟨"HoleworksModel", "rowMany", "()I"⟩, 8), (⟨"HoleworksModel", "rowHeight", "()I"⟩, 8), (⟨"HoleworksModel", "findBorder", "()V"⟩, 8)]
theorem lw_r2 : ∀ q ∈ lw_privs_2, lw_okq q := List.forall_mem_cons.mpr ⟨lw_p16, List.forall_mem_cons.mpr ⟨lw_p17, List.forall_mem_cons.mpr ⟨lw_p18, List.forall_mem_cons.mpr ⟨lw_p19, List.forall_mem_cons.mpr ⟨lw_p20, List.forall_mem_cons.mpr ⟨lw_p21, List.forall_mem_cons.mpr ⟨lw_p22, List.forall_mem_cons.mpr ⟨lw_p23, List.forall_mem_cons.mpr ⟨lw_p24, List.forall_mem_cons.mpr ⟨lw_p25, List.forall_mem_cons.mpr ⟨lw_p26, List.forall_mem_cons.mpr ⟨lw_p27, List.forall_mem_cons.mpr ⟨lw_p28, List.forall_mem_cons.mpr ⟨lw_p29, fun _ h => absurd h List.not_mem_nil⟩⟩⟩⟩⟩⟩⟩⟩⟩⟩⟩⟩⟩⟩
def lw_privs : List (MethodName × Nat) := lw_privs_1 ++ (lw_privs_2)
def lw_tbl : List Cond := k2_sels lw_privs ++ tables_1
theorem lw_privs_ok : ∀ q ∈ lw_privs, lw_okq q := by
  show ∀ q ∈ lw_privs_1 ++ (lw_privs_2), lw_okq q
  exact List.forall_mem_append.mpr ⟨lw_r1, lw_r2⟩
/-- the streams that the claim lets the run draw from -/
abbrev lw_cs : List Choice := [Jvm.Choice.named "NaN.bits"]
theorem lw_bits : nanBits ∈ lw_cs := by first | decide | exact List.mem_cons_self | simp [lw_cs, nanBits]

-- ===== names (printed texts of the task folder) =====
def RX0 : String := "Holeworks$Borders"
def TX0 : u_T := fun k => match k with
  | 0 => ("Holeworks$Borders", "slotOf", "[I", true)
  | 1 => ("Holeworks$Borders", "borderOf", "[J", true)
  | _ => ("Holeworks$Borders", "keptAt", "[J", true)
def tyX0 : Nat → FieldType := fun k => match k with
  | 0 => .array .int
  | 1 => .array .long
  | _ => .array .long
abbrev wsX00 : List Cond := u_ws RX0 TX0 3
theorem nmX0 : ∀ a, a < 3 → ∀ b, b < 3 → a ≠ b → (TX0 a).2.1 ≠ (TX0 b).2.1 := by decide +kernel
theorem tyX0_ok : ∀ k, k < 3 → parseFieldDescriptor (TX0 k).2.2.1 = some (tyX0 k) := by decide +kernel
abbrev cX0_init : ByteArray := prog_2_method_1_code
def yX0_init : MethodName := ⟨RX0, "<init>", "()V"⟩
abbrev cX0_numberSlots : ByteArray := prog_2_method_2_code
def yX0_numberSlots : MethodName := ⟨RX0, "numberSlots", "()V"⟩
abbrev cX0_bitsOfBorder : ByteArray := prog_2_method_3_code
def yX0_bitsOfBorder : MethodName := ⟨RX0, "bitsOfBorder", "(I)J"⟩
abbrev cX0_makeBorder : ByteArray := prog_2_method_4_code
def yX0_makeBorder : MethodName := ⟨RX0, "makeBorder", "(LHoleworks$FaceSet;LHoleworks$FaceSet;)V"⟩
abbrev cX0_toggleBorder : ByteArray := prog_2_method_5_code
def yX0_toggleBorder : MethodName := ⟨RX0, "toggleBorder", "(ILHoleworks$FaceSet;)V"⟩
abbrev cX0_countFree : ByteArray := prog_2_method_6_code
def yX0_countFree : MethodName := ⟨RX0, "countFree", "(LHoleworks$FaceSet;I)I"⟩
abbrev cX0_keepsIfFree : ByteArray := prog_2_method_7_code
def yX0_keepsIfFree : MethodName := ⟨RX0, "keepsIfFree", "(J)Z"⟩
abbrev cX0_isSumOfKept : ByteArray := prog_2_method_8_code
def yX0_isSumOfKept : MethodName := ⟨RX0, "isSumOfKept", "(J)Z"⟩
abbrev cX0_countHoles : ByteArray := prog_2_method_9_code
def yX0_countHoles : MethodName := ⟨RX0, "countHoles", "(LHoleworks$FaceSet;I)I"⟩
abbrev cX0_isFilling : ByteArray := prog_2_method_10_code
def yX0_isFilling : MethodName := ⟨RX0, "isFilling", "(LHoleworks$FaceSet;LHoleworks$FaceSet;)Z"⟩
def RX1 : String := "Holeworks$FaceSet"
def TX1 : u_T := fun k => match k with
  | 0 => ("Holeworks$FaceSet", "lower", "J", false)
  | _ => ("Holeworks$FaceSet", "upper", "J", false)
def tyX1 : Nat → FieldType := fun k => match k with
  | 0 => .long
  | _ => .long
abbrev wsX10 : List Cond := u_ws RX1 TX1 2
theorem nmX1 : ∀ a, a < 2 → ∀ b, b < 2 → a ≠ b → (TX1 a).2.1 ≠ (TX1 b).2.1 := by decide +kernel
theorem tyX1_ok : ∀ k, k < 2 → parseFieldDescriptor (TX1 k).2.2.1 = some (tyX1 k) := by decide +kernel
abbrev cX1_init : ByteArray := prog_3_method_1_code
def yX1_init : MethodName := ⟨RX1, "<init>", "()V"⟩
abbrev cX1_holds : ByteArray := prog_3_method_2_code
def yX1_holds : MethodName := ⟨RX1, "holds", "(I)Z"⟩
abbrev cX1_add : ByteArray := prog_3_method_3_code
def yX1_add : MethodName := ⟨RX1, "add", "(I)V"⟩
abbrev cX1_remove : ByteArray := prog_3_method_4_code
def yX1_remove : MethodName := ⟨RX1, "remove", "(I)V"⟩
abbrev cX1_toggle : ByteArray := prog_3_method_5_code
def yX1_toggle : MethodName := ⟨RX1, "toggle", "(I)V"⟩
abbrev cX1_addParts : ByteArray := prog_3_method_6_code
def yX1_addParts : MethodName := ⟨RX1, "addParts", "(I)V"⟩
abbrev cX1_removeWithAllOver : ByteArray := prog_3_method_7_code
def yX1_removeWithAllOver : MethodName := ⟨RX1, "removeWithAllOver", "(I)V"⟩
abbrev cX1_empty : ByteArray := prog_3_method_8_code
def yX1_empty : MethodName := ⟨RX1, "empty", "()V"⟩
abbrev cX1_become : ByteArray := prog_3_method_9_code
def yX1_become : MethodName := ⟨RX1, "become", "(LHoleworks$FaceSet;)V"⟩
abbrev cX1_becomeUnion : ByteArray := prog_3_method_10_code
def yX1_becomeUnion : MethodName := ⟨RX1, "becomeUnion", "(LHoleworks$FaceSet;LHoleworks$FaceSet;)V"⟩
abbrev cX1_becomeMeeting : ByteArray := prog_3_method_11_code
def yX1_becomeMeeting : MethodName := ⟨RX1, "becomeMeeting", "(LHoleworks$FaceSet;LHoleworks$FaceSet;)V"⟩
abbrev cX1_isEmpty : ByteArray := prog_3_method_12_code
def yX1_isEmpty : MethodName := ⟨RX1, "isEmpty", "()Z"⟩
abbrev cX1_isLike : ByteArray := prog_3_method_13_code
def yX1_isLike : MethodName := ⟨RX1, "isLike", "(LHoleworks$FaceSet;)Z"⟩
abbrev cX1_holdsAll : ByteArray := prog_3_method_14_code
def yX1_holdsAll : MethodName := ⟨RX1, "holdsAll", "(LHoleworks$FaceSet;)Z"⟩
abbrev cX1_count : ByteArray := prog_3_method_15_code
def yX1_count : MethodName := ⟨RX1, "count", "()I"⟩
abbrev cX1_countBeyond : ByteArray := prog_3_method_16_code
def yX1_countBeyond : MethodName := ⟨RX1, "countBeyond", "(LHoleworks$FaceSet;)I"⟩
abbrev cX1_countAt : ByteArray := prog_3_method_17_code
def yX1_countAt : MethodName := ⟨RX1, "countAt", "(I)I"⟩
abbrev cX1_signedCount : ByteArray := prog_3_method_18_code
def yX1_signedCount : MethodName := ⟨RX1, "signedCount", "()I"⟩
abbrev cX1_heightSum : ByteArray := prog_3_method_19_code
def yX1_heightSum : MethodName := ⟨RX1, "heightSum", "()I"⟩
abbrev cX1_cornerSet : ByteArray := prog_3_method_20_code
def yX1_cornerSet : MethodName := ⟨RX1, "cornerSet", "()I"⟩
abbrev cX1_faceAt : ByteArray := prog_3_method_21_code
def yX1_faceAt : MethodName := ⟨RX1, "faceAt", "(I)I"⟩
abbrev cX1_countOver : ByteArray := prog_3_method_22_code
def yX1_countOver : MethodName := ⟨RX1, "countOver", "(I)I"⟩
abbrev cX1_firstOver : ByteArray := prog_3_method_23_code
def yX1_firstOver : MethodName := ⟨RX1, "firstOver", "(I)I"⟩
def RX2 : String := "Holeworks$HoleRow"
def TX2 : u_T := fun k => match k with
  | _ => ("Holeworks$HoleRow", "many", "[I", true)
def tyX2 : Nat → FieldType := fun k => match k with
  | _ => .array .int
abbrev wsX20 : List Cond := u_ws RX2 TX2 1
theorem nmX2 : ∀ a, a < 1 → ∀ b, b < 1 → a ≠ b → (TX2 a).2.1 ≠ (TX2 b).2.1 := by decide +kernel
theorem tyX2_ok : ∀ k, k < 1 → parseFieldDescriptor (TX2 k).2.2.1 = some (tyX2 k) := by decide +kernel
abbrev cX2_init : ByteArray := prog_4_method_1_code
def yX2_init : MethodName := ⟨RX2, "<init>", "()V"⟩
abbrev cX2_tell : ByteArray := prog_4_method_2_code
def yX2_tell : MethodName := ⟨RX2, "tell", "(LHoleworks$FaceSet;LHoleworks$Borders;)V"⟩
abbrev cX2_at : ByteArray := prog_4_method_3_code
def yX2_at : MethodName := ⟨RX2, "at", "(I)I"⟩
abbrev cX2_areNone : ByteArray := prog_4_method_4_code
def yX2_areNone : MethodName := ⟨RX2, "areNone", "()Z"⟩
abbrev cX2_signedSum : ByteArray := prog_4_method_5_code
def yX2_signedSum : MethodName := ⟨RX2, "signedSum", "()I"⟩
abbrev cX2_differAt : ByteArray := prog_4_method_6_code
def yX2_differAt : MethodName := ⟨RX2, "differAt", "(IILHoleworks$HoleRow;)Z"⟩
abbrev cX2_areLike : ByteArray := prog_4_method_7_code
def yX2_areLike : MethodName := ⟨RX2, "areLike", "(LHoleworks$HoleRow;)Z"⟩
def RX3 : String := "Holeworks$Making"
def TX3 : u_T := fun k => match k with
  | _ => ("", "", "", false)
def tyX3 : Nat → FieldType := fun k => match k with
  | _ => .int
abbrev wsX30 : List Cond := u_ws RX3 TX3 0
theorem nmX3 : ∀ a, a < 0 → ∀ b, b < 0 → a ≠ b → (TX3 a).2.1 ≠ (TX3 b).2.1 := by decide +kernel
theorem tyX3_ok : ∀ k, k < 0 → parseFieldDescriptor (TX3 k).2.2.1 = some (tyX3 k) := by decide +kernel
abbrev cX3_makeLow : ByteArray := prog_5_method_2_code
def yX3_makeLow : MethodName := ⟨RX3, "makeLow", "(LHoleworks$FaceSet;ILHoleworks$FaceSet;)V"⟩
abbrev cX3_makeAbout : ByteArray := prog_5_method_3_code
def yX3_makeAbout : MethodName := ⟨RX3, "makeAbout", "(LHoleworks$FaceSet;IZLHoleworks$FaceSet;)V"⟩
abbrev cX3_makeCone : ByteArray := prog_5_method_4_code
def yX3_makeCone : MethodName := ⟨RX3, "makeCone", "(LHoleworks$FaceSet;ILHoleworks$FaceSet;)V"⟩
abbrev cX3_makeLift : ByteArray := prog_5_method_5_code
def yX3_makeLift : MethodName := ⟨RX3, "makeLift", "(LHoleworks$FaceSet;IILHoleworks$FaceSet;)V"⟩
abbrev cX3_addJoined : ByteArray := prog_5_method_6_code
def yX3_addJoined : MethodName := ⟨RX3, "addJoined", "(LHoleworks$FaceSet;ILHoleworks$FaceSet;)V"⟩
abbrev cX3_makeOther : ByteArray := prog_5_method_7_code
def yX3_makeOther : MethodName := ⟨RX3, "makeOther", "(LHoleworks$FaceSet;ILHoleworks$FaceSet;)V"⟩
abbrev cX3_makeExchanged : ByteArray := prog_5_method_8_code
def yX3_makeExchanged : MethodName := ⟨RX3, "makeExchanged", "(LHoleworks$FaceSet;IILHoleworks$FaceSet;)V"⟩
abbrev cX3_exchanged : ByteArray := prog_5_method_9_code
def yX3_exchanged : MethodName := ⟨RX3, "exchanged", "(III)I"⟩
abbrev cX3_makeGreatest : ByteArray := prog_5_method_10_code
def yX3_makeGreatest : MethodName := ⟨RX3, "makeGreatest", "(LHoleworks$FaceSet;LHoleworks$FaceSet;)V"⟩
abbrev cX3_liesInAnother : ByteArray := prog_5_method_11_code
def yX3_liesInAnother : MethodName := ⟨RX3, "liesInAnother", "(LHoleworks$FaceSet;I)Z"⟩
def RX4 : String := "Holeworks$Theorem"
def TX4 : u_T := fun k => match k with
  | 0 => ("Holeworks$Theorem", "borders", "LHoleworks$Borders;", true)
  | 1 => ("Holeworks$Theorem", "made", "LHoleworks$FaceSet;", true)
  | 2 => ("Holeworks$Theorem", "second", "LHoleworks$FaceSet;", true)
  | 3 => ("Holeworks$Theorem", "holesBefore", "LHoleworks$HoleRow;", true)
  | 4 => ("Holeworks$Theorem", "holesAfter", "LHoleworks$HoleRow;", true)
  | _ => ("Holeworks$Theorem", "holesSecond", "LHoleworks$HoleRow;", true)
def tyX4 : Nat → FieldType := fun k => match k with
  | 0 => .object "Holeworks$Borders"
  | 1 => .object "Holeworks$FaceSet"
  | 2 => .object "Holeworks$FaceSet"
  | 3 => .object "Holeworks$HoleRow"
  | 4 => .object "Holeworks$HoleRow"
  | _ => .object "Holeworks$HoleRow"
abbrev wsX40 : List Cond := u_ws RX4 TX4 6
theorem nmX4 : ∀ a, a < 6 → ∀ b, b < 6 → a ≠ b → (TX4 a).2.1 ≠ (TX4 b).2.1 := by decide +kernel
theorem tyX4_ok : ∀ k, k < 6 → parseFieldDescriptor (TX4 k).2.2.1 = some (tyX4 k) := by decide +kernel
abbrev cX4_init : ByteArray := prog_6_method_1_code
def yX4_init : MethodName := ⟨RX4, "<init>", "()V"⟩
abbrev cX4_borders : ByteArray := prog_6_method_2_code
def yX4_borders : MethodName := ⟨RX4, "borders", "()LHoleworks$Borders;"⟩
abbrev cX4_tellsRow : ByteArray := prog_6_method_3_code
def yX4_tellsRow : MethodName := ⟨RX4, "tellsRow", "(LHoleworks$FaceSet;LHoleworks$FaceSet;)Z"⟩
abbrev cX4_tellsFilling : ByteArray := prog_6_method_4_code
def yX4_tellsFilling : MethodName := ⟨RX4, "tellsFilling", "(LHoleworks$FaceSet;ZLHoleworks$FaceSet;)Z"⟩
abbrev cX4_tellsPieces : ByteArray := prog_6_method_5_code
def yX4_tellsPieces : MethodName := ⟨RX4, "tellsPieces", "(LHoleworks$FaceSet;)Z"⟩
abbrev cX4_tellsSignedCount : ByteArray := prog_6_method_6_code
def yX4_tellsSignedCount : MethodName := ⟨RX4, "tellsSignedCount", "(LHoleworks$FaceSet;)Z"⟩
abbrev cX4_tellsCone : ByteArray := prog_6_method_7_code
def yX4_tellsCone : MethodName := ⟨RX4, "tellsCone", "(LHoleworks$FaceSet;)Z"⟩
abbrev cX4_tellsAbout : ByteArray := prog_6_method_8_code
def yX4_tellsAbout : MethodName := ⟨RX4, "tellsAbout", "(LHoleworks$FaceSet;I)Z"⟩
abbrev cX4_isOneWithoutHoles : ByteArray := prog_6_method_9_code
def yX4_isOneWithoutHoles : MethodName := ⟨RX4, "isOneWithoutHoles", "(LHoleworks$FaceSet;)Z"⟩
abbrev cX4_tellsLift : ByteArray := prog_6_method_10_code
def yX4_tellsLift : MethodName := ⟨RX4, "tellsLift", "(LHoleworks$FaceSet;)Z"⟩
abbrev cX4_tellsTouching : ByteArray := prog_6_method_11_code
def yX4_tellsTouching : MethodName := ⟨RX4, "tellsTouching", "(LHoleworks$FaceSet;LHoleworks$FaceSet;)Z"⟩
abbrev cX4_tellsFold : ByteArray := prog_6_method_12_code
def yX4_tellsFold : MethodName := ⟨RX4, "tellsFold", "(LHoleworks$FaceSet;I)Z"⟩
abbrev cX4_tellsTaking : ByteArray := prog_6_method_13_code
def yX4_tellsTaking : MethodName := ⟨RX4, "tellsTaking", "(LHoleworks$FaceSet;I)Z"⟩
abbrev cX4_tellsSums : ByteArray := prog_6_method_14_code
def yX4_tellsSums : MethodName := ⟨RX4, "tellsSums", "(LHoleworks$FaceSet;LHoleworks$FaceSet;)Z"⟩
abbrev cX4_tellsOther : ByteArray := prog_6_method_15_code
def yX4_tellsOther : MethodName := ⟨RX4, "tellsOther", "(LHoleworks$FaceSet;I)Z"⟩
abbrev cX4_isRim : ByteArray := prog_6_method_16_code
def yX4_isRim : MethodName := ⟨RX4, "isRim", "(LHoleworks$FaceSet;I)Z"⟩
abbrev cX4_areOpposed : ByteArray := prog_6_method_17_code
def yX4_areOpposed : MethodName := ⟨RX4, "areOpposed", "(LHoleworks$FaceSet;I)Z"⟩
abbrev cX4_tellsExchange : ByteArray := prog_6_method_18_code
def yX4_tellsExchange : MethodName := ⟨RX4, "tellsExchange", "(LHoleworks$FaceSet;II)Z"⟩
def RX5 : String := "Holeworks$Walk"
def TX5 : u_T := fun k => match k with
  | _ => ("", "", "", false)
def tyX5 : Nat → FieldType := fun k => match k with
  | _ => .int
abbrev wsX50 : List Cond := u_ws RX5 TX5 0
theorem nmX5 : ∀ a, a < 0 → ∀ b, b < 0 → a ≠ b → (TX5 a).2.1 ≠ (TX5 b).2.1 := by decide +kernel
theorem tyX5_ok : ∀ k, k < 0 → parseFieldDescriptor (TX5 k).2.2.1 = some (tyX5 k) := by decide +kernel
abbrev cX5_countPieces : ByteArray := prog_7_method_2_code
def yX5_countPieces : MethodName := ⟨RX5, "countPieces", "(LHoleworks$FaceSet;)I"⟩
abbrev cX5_pieceFrom : ByteArray := prog_7_method_3_code
def yX5_pieceFrom : MethodName := ⟨RX5, "pieceFrom", "(LHoleworks$FaceSet;I)I"⟩
abbrev cX5_neighbours : ByteArray := prog_7_method_4_code
def yX5_neighbours : MethodName := ⟨RX5, "neighbours", "(LHoleworks$FaceSet;I)I"⟩
abbrev cX5_areEven : ByteArray := prog_7_method_5_code
def yX5_areEven : MethodName := ⟨RX5, "areEven", "(LHoleworks$FaceSet;LHoleworks$FaceSet;)Z"⟩
def RX6 : String := "Holeworks"
def TX6 : u_T := fun k => match k with
  | 0 => ("Holeworks", "shapes", "[LHoleworks$FaceSet;", true)
  | 1 => ("Holeworks", "row", "LHoleworks$FaceSet;", true)
  | 2 => ("Holeworks", "made", "LHoleworks$FaceSet;", true)
  | 3 => ("Holeworks", "borders", "LHoleworks$Borders;", true)
  | _ => ("Holeworks", "theorem", "LHoleworks$Theorem;", true)
def tyX6 : Nat → FieldType := fun k => match k with
  | 0 => .array (.object "Holeworks$FaceSet")
  | 1 => .object "Holeworks$FaceSet"
  | 2 => .object "Holeworks$FaceSet"
  | 3 => .object "Holeworks$Borders"
  | _ => .object "Holeworks$Theorem"
abbrev wsX60 : List Cond := u_ws RX6 TX6 5
theorem nmX6 : ∀ a, a < 5 → ∀ b, b < 5 → a ≠ b → (TX6 a).2.1 ≠ (TX6 b).2.1 := by decide +kernel
theorem tyX6_ok : ∀ k, k < 5 → parseFieldDescriptor (TX6 k).2.2.1 = some (tyX6 k) := by decide +kernel
abbrev cX6_init : ByteArray := prog_1_method_1_code
def yX6_init : MethodName := ⟨RX6, "<init>", "()V"⟩
abbrev cX6_put : ByteArray := prog_1_method_2_code
def yX6_put : MethodName := ⟨RX6, "put", "(II)I"⟩
abbrev cX6_take : ByteArray := prog_1_method_3_code
def yX6_take : MethodName := ⟨RX6, "take", "(II)I"⟩
abbrev cX6_clear : ByteArray := prog_1_method_4_code
def yX6_clear : MethodName := ⟨RX6, "clear", "(I)I"⟩
abbrev cX6_copy : ByteArray := prog_1_method_5_code
def yX6_copy : MethodName := ⟨RX6, "copy", "(II)I"⟩
abbrev cX6_unite : ByteArray := prog_1_method_6_code
def yX6_unite : MethodName := ⟨RX6, "unite", "(III)I"⟩
abbrev cX6_meet : ByteArray := prog_1_method_7_code
def yX6_meet : MethodName := ⟨RX6, "meet", "(III)I"⟩
abbrev cX6_full : ByteArray := prog_1_method_8_code
def yX6_full : MethodName := ⟨RX6, "full", "(IZI)I"⟩
abbrev cX6_low : ByteArray := prog_1_method_9_code
def yX6_low : MethodName := ⟨RX6, "low", "(III)I"⟩
abbrev cX6_about : ByteArray := prog_1_method_10_code
def yX6_about : MethodName := ⟨RX6, "about", "(IIZI)I"⟩
abbrev cX6_cone : ByteArray := prog_1_method_11_code
def yX6_cone : MethodName := ⟨RX6, "cone", "(III)I"⟩
abbrev cX6_lift : ByteArray := prog_1_method_12_code
def yX6_lift : MethodName := ⟨RX6, "lift", "(IIII)I"⟩
abbrev cX6_other : ByteArray := prog_1_method_13_code
def yX6_other : MethodName := ⟨RX6, "other", "(III)I"⟩
abbrev cX6_exchange : ByteArray := prog_1_method_14_code
def yX6_exchange : MethodName := ⟨RX6, "exchange", "(IIII)I"⟩
abbrev cX6_fold : ByteArray := prog_1_method_15_code
def yX6_fold : MethodName := ⟨RX6, "fold", "(II)I"⟩
abbrev cX6_has : ByteArray := prog_1_method_16_code
def yX6_has : MethodName := ⟨RX6, "has", "(II)Z"⟩
abbrev cX6_size : ByteArray := prog_1_method_17_code
def yX6_size : MethodName := ⟨RX6, "size", "(I)I"⟩
abbrev cX6_faces : ByteArray := prog_1_method_18_code
def yX6_faces : MethodName := ⟨RX6, "faces", "(II)I"⟩
abbrev cX6_corners : ByteArray := prog_1_method_19_code
def yX6_corners : MethodName := ⟨RX6, "corners", "(I)I"⟩
abbrev cX6_over : ByteArray := prog_1_method_20_code
def yX6_over : MethodName := ⟨RX6, "over", "(II)I"⟩
abbrev cX6_greatest : ByteArray := prog_1_method_21_code
def yX6_greatest : MethodName := ⟨RX6, "greatest", "(I)I"⟩
abbrev cX6_greatestAt : ByteArray := prog_1_method_22_code
def yX6_greatestAt : MethodName := ⟨RX6, "greatestAt", "(II)I"⟩
abbrev cX6_isSame : ByteArray := prog_1_method_23_code
def yX6_isSame : MethodName := ⟨RX6, "isSame", "(II)Z"⟩
abbrev cX6_contains : ByteArray := prog_1_method_24_code
def yX6_contains : MethodName := ⟨RX6, "contains", "(II)Z"⟩
abbrev cX6_pieces : ByteArray := prog_1_method_25_code
def yX6_pieces : MethodName := ⟨RX6, "pieces", "(I)I"⟩
abbrev cX6_areJoined : ByteArray := prog_1_method_26_code
def yX6_areJoined : MethodName := ⟨RX6, "areJoined", "(III)Z"⟩
abbrev cX6_free : ByteArray := prog_1_method_27_code
def yX6_free : MethodName := ⟨RX6, "free", "(II)I"⟩
abbrev cX6_holes : ByteArray := prog_1_method_28_code
def yX6_holes : MethodName := ⟨RX6, "holes", "(II)I"⟩
abbrev cX6_signed : ByteArray := prog_1_method_29_code
def yX6_signed : MethodName := ⟨RX6, "signed", "(I)I"⟩
abbrev cX6_flip : ByteArray := prog_1_method_30_code
def yX6_flip : MethodName := ⟨RX6, "flip", "(I)I"⟩
abbrev cX6_border : ByteArray := prog_1_method_31_code
def yX6_border : MethodName := ⟨RX6, "border", "()I"⟩
abbrev cX6_drop : ByteArray := prog_1_method_32_code
def yX6_drop : MethodName := ⟨RX6, "drop", "()I"⟩
abbrev cX6_rowAt : ByteArray := prog_1_method_33_code
def yX6_rowAt : MethodName := ⟨RX6, "rowAt", "(I)I"⟩
abbrev cX6_isRound : ByteArray := prog_1_method_34_code
def yX6_isRound : MethodName := ⟨RX6, "isRound", "()Z"⟩
abbrev cX6_fills : ByteArray := prog_1_method_35_code
def yX6_fills : MethodName := ⟨RX6, "fills", "(I)Z"⟩
abbrev cX6_mean : ByteArray := prog_1_method_36_code
def yX6_mean : MethodName := ⟨RX6, "mean", "(I)D"⟩
abbrev cX6_share : ByteArray := prog_1_method_37_code
def yX6_share : MethodName := ⟨RX6, "share", "(I)F"⟩
abbrev cX6_checksum : ByteArray := prog_1_method_38_code
def yX6_checksum : MethodName := ⟨RX6, "checksum", "()J"⟩
abbrev cX6_isSound : ByteArray := prog_1_method_39_code
def yX6_isSound : MethodName := ⟨RX6, "isSound", "(I)Z"⟩
abbrev cX6_isTrue : ByteArray := prog_1_method_40_code
def yX6_isTrue : MethodName := ⟨RX6, "isTrue", "(III)Z"⟩
abbrev cX6_faceIsTrue : ByteArray := prog_1_method_41_code
def yX6_faceIsTrue : MethodName := ⟨RX6, "faceIsTrue", "(II)Z"⟩
abbrev cX6_pairIsTrue : ByteArray := prog_1_method_42_code
def yX6_pairIsTrue : MethodName := ⟨RX6, "pairIsTrue", "(II)Z"⟩
abbrev cX6_shapeAt : ByteArray := prog_1_method_43_code
def yX6_shapeAt : MethodName := ⟨RX6, "shapeAt", "(I)LHoleworks$FaceSet;"⟩
abbrev cX6_giveMade : ByteArray := prog_1_method_44_code
def yX6_giveMade : MethodName := ⟨RX6, "giveMade", "(LHoleworks$FaceSet;)I"⟩
abbrev cX6_emptied : ByteArray := prog_1_method_45_code
def yX6_emptied : MethodName := ⟨RX6, "emptied", "(LHoleworks$FaceSet;)I"⟩
abbrev cX6_checkFace : ByteArray := prog_1_method_46_code
def yX6_checkFace : MethodName := ⟨RX6, "checkFace", "(I)V"⟩
abbrev cX6_checkCorner : ByteArray := prog_1_method_47_code
def yX6_checkCorner : MethodName := ⟨RX6, "checkCorner", "(I)V"⟩
abbrev cX6_checkHeight : ByteArray := prog_1_method_48_code
def yX6_checkHeight : MethodName := ⟨RX6, "checkHeight", "(II)V"⟩
abbrev cX6_checkHeld : ByteArray := prog_1_method_49_code
def yX6_checkHeld : MethodName := ⟨RX6, "checkHeld", "(LHoleworks$FaceSet;I)V"⟩
abbrev cX6_checkNew : ByteArray := prog_1_method_50_code
def yX6_checkNew : MethodName := ⟨RX6, "checkNew", "(LHoleworks$FaceSet;I)V"⟩
abbrev cX6_checkedFaceAt : ByteArray := prog_1_method_51_code
def yX6_checkedFaceAt : MethodName := ⟨RX6, "checkedFaceAt", "(LHoleworks$FaceSet;I)I"⟩
abbrev cX6_checksumOn : ByteArray := prog_1_method_52_code
def yX6_checksumOn : MethodName := ⟨RX6, "checksumOn", "(JLHoleworks$FaceSet;)J"⟩
abbrev cX6_heightOf : ByteArray := prog_1_method_53_code
def yX6_heightOf : MethodName := ⟨RX6, "heightOf", "(I)I"⟩
abbrev cX6_leastCorner : ByteArray := prog_1_method_54_code
def yX6_leastCorner : MethodName := ⟨RX6, "leastCorner", "(I)I"⟩
def RX7 : String := "HoleworksModel"
def TX7 : u_T := fun k => match k with
  | 0 => ("HoleworksModel", "shape", "[Z", true)
  | 1 => ("HoleworksModel", "made", "[Z", true)
  | 2 => ("HoleworksModel", "row", "[Z", true)
  | 3 => ("HoleworksModel", "next", "[Z", true)
  | 4 => ("HoleworksModel", "piece", "[I", true)
  | 5 => ("HoleworksModel", "kept", "[J", true)
  | 6 => ("HoleworksModel", "keptMany", "I", false)
  | _ => ("HoleworksModel", "thrown", "I", false)
def tyX7 : Nat → FieldType := fun k => match k with
  | 0 => .array .boolean
  | 1 => .array .boolean
  | 2 => .array .boolean
  | 3 => .array .boolean
  | 4 => .array .int
  | 5 => .array .long
  | 6 => .int
  | _ => .int
abbrev wsX70 : List Cond := u_ws RX7 TX7 8
theorem nmX7 : ∀ a, a < 8 → ∀ b, b < 8 → a ≠ b → (TX7 a).2.1 ≠ (TX7 b).2.1 := by decide +kernel
theorem tyX7_ok : ∀ k, k < 8 → parseFieldDescriptor (TX7 k).2.2.1 = some (tyX7 k) := by decide +kernel
abbrev cX7_init : ByteArray := prog_9_method_1_code
def yX7_init : MethodName := ⟨RX7, "<init>", "()V"⟩
abbrev cX7_thrown : ByteArray := prog_9_method_2_code
def yX7_thrown : MethodName := ⟨RX7, "thrown", "()I"⟩
abbrev cX7_isWrong : ByteArray := prog_9_method_3_code
def yX7_isWrong : MethodName := ⟨RX7, "isWrong", "(I)Z"⟩
abbrev cX7_isIn : ByteArray := prog_9_method_4_code
def yX7_isIn : MethodName := ⟨RX7, "isIn", "(III)Z"⟩
abbrev cX7_isPlace : ByteArray := prog_9_method_5_code
def yX7_isPlace : MethodName := ⟨RX7, "isPlace", "(I)Z"⟩
abbrev cX7_isFace : ByteArray := prog_9_method_6_code
def yX7_isFace : MethodName := ⟨RX7, "isFace", "(I)Z"⟩
abbrev cX7_isCorner : ByteArray := prog_9_method_7_code
def yX7_isCorner : MethodName := ⟨RX7, "isCorner", "(I)Z"⟩
abbrev cX7_isHeight : ByteArray := prog_9_method_8_code
def yX7_isHeight : MethodName := ⟨RX7, "isHeight", "(I)Z"⟩
abbrev cX7_isThere : ByteArray := prog_9_method_9_code
def yX7_isThere : MethodName := ⟨RX7, "isThere", "(II)Z"⟩
abbrev cX7_cornersOf : ByteArray := prog_9_method_10_code
def yX7_cornersOf : MethodName := ⟨RX7, "cornersOf", "(I)I"⟩
abbrev cX7_height : ByteArray := prog_9_method_11_code
def yX7_height : MethodName := ⟨RX7, "height", "(I)I"⟩
abbrev cX7_isPart : ByteArray := prog_9_method_12_code
def yX7_isPart : MethodName := ⟨RX7, "isPart", "(II)Z"⟩
abbrev cX7_sizeOf : ByteArray := prog_9_method_13_code
def yX7_sizeOf : MethodName := ⟨RX7, "sizeOf", "(I)I"⟩
abbrev cX7_cornersAt : ByteArray := prog_9_method_14_code
def yX7_cornersAt : MethodName := ⟨RX7, "cornersAt", "(I)I"⟩
abbrev cX7_overAt : ByteArray := prog_9_method_15_code
def yX7_overAt : MethodName := ⟨RX7, "overAt", "(II)I"⟩
abbrev cX7_isGreatest : ByteArray := prog_9_method_16_code
def yX7_isGreatest : MethodName := ⟨RX7, "isGreatest", "(II)Z"⟩
abbrev cX7_keep : ByteArray := prog_9_method_17_code
def yX7_keep : MethodName := ⟨RX7, "keep", "(I)I"⟩
abbrev cX7_missing : ByteArray := prog_9_method_18_code
def yX7_missing : MethodName := ⟨RX7, "missing", "(II)I"⟩
abbrev cX7_put : ByteArray := prog_9_method_19_code
def yX7_put : MethodName := ⟨RX7, "put", "(II)I"⟩
abbrev cX7_takeOut : ByteArray := prog_9_method_20_code
def yX7_takeOut : MethodName := ⟨RX7, "takeOut", "(II)I"⟩
abbrev cX7_take : ByteArray := prog_9_method_21_code
def yX7_take : MethodName := ⟨RX7, "take", "(II)I"⟩
abbrev cX7_clear : ByteArray := prog_9_method_22_code
def yX7_clear : MethodName := ⟨RX7, "clear", "(I)I"⟩
abbrev cX7_copy : ByteArray := prog_9_method_23_code
def yX7_copy : MethodName := ⟨RX7, "copy", "(II)I"⟩
abbrev cX7_unite : ByteArray := prog_9_method_24_code
def yX7_unite : MethodName := ⟨RX7, "unite", "(III)I"⟩
abbrev cX7_meet : ByteArray := prog_9_method_25_code
def yX7_meet : MethodName := ⟨RX7, "meet", "(III)I"⟩
abbrev cX7_full : ByteArray := prog_9_method_26_code
def yX7_full : MethodName := ⟨RX7, "full", "(IZI)I"⟩
abbrev cX7_low : ByteArray := prog_9_method_27_code
def yX7_low : MethodName := ⟨RX7, "low", "(III)I"⟩
abbrev cX7_about : ByteArray := prog_9_method_28_code
def yX7_about : MethodName := ⟨RX7, "about", "(IIZI)I"⟩
abbrev cX7_cone : ByteArray := prog_9_method_29_code
def yX7_cone : MethodName := ⟨RX7, "cone", "(III)I"⟩
abbrev cX7_isLifted : ByteArray := prog_9_method_30_code
def yX7_isLifted : MethodName := ⟨RX7, "isLifted", "(III)Z"⟩
abbrev cX7_lift : ByteArray := prog_9_method_31_code
def yX7_lift : MethodName := ⟨RX7, "lift", "(IIII)I"⟩
abbrev cX7_other : ByteArray := prog_9_method_32_code
def yX7_other : MethodName := ⟨RX7, "other", "(III)I"⟩
abbrev cX7_exchanged : ByteArray := prog_9_method_33_code
def yX7_exchanged : MethodName := ⟨RX7, "exchanged", "(III)I"⟩
abbrev cX7_exchange : ByteArray := prog_9_method_34_code
def yX7_exchange : MethodName := ⟨RX7, "exchange", "(IIII)I"⟩
abbrev cX7_fold : ByteArray := prog_9_method_35_code
def yX7_fold : MethodName := ⟨RX7, "fold", "(II)I"⟩
abbrev cX7_has : ByteArray := prog_9_method_36_code
def yX7_has : MethodName := ⟨RX7, "has", "(II)Z"⟩
abbrev cX7_size : ByteArray := prog_9_method_37_code
def yX7_size : MethodName := ⟨RX7, "size", "(I)I"⟩
abbrev cX7_facesOf : ByteArray := prog_9_method_38_code
def yX7_facesOf : MethodName := ⟨RX7, "facesOf", "(II)I"⟩
abbrev cX7_faces : ByteArray := prog_9_method_39_code
def yX7_faces : MethodName := ⟨RX7, "faces", "(II)I"⟩
abbrev cX7_corners : ByteArray := prog_9_method_40_code
def yX7_corners : MethodName := ⟨RX7, "corners", "(I)I"⟩
abbrev cX7_over : ByteArray := prog_9_method_41_code
def yX7_over : MethodName := ⟨RX7, "over", "(II)I"⟩
abbrev cX7_greatestOf : ByteArray := prog_9_method_42_code
def yX7_greatestOf : MethodName := ⟨RX7, "greatestOf", "(I)I"⟩
abbrev cX7_greatest : ByteArray := prog_9_method_43_code
def yX7_greatest : MethodName := ⟨RX7, "greatest", "(I)I"⟩
abbrev cX7_greatestAt : ByteArray := prog_9_method_44_code
def yX7_greatestAt : MethodName := ⟨RX7, "greatestAt", "(II)I"⟩
abbrev cX7_isOf : ByteArray := prog_9_method_45_code
def yX7_isOf : MethodName := ⟨RX7, "isOf", "(II)Z"⟩
abbrev cX7_isSame : ByteArray := prog_9_method_46_code
def yX7_isSame : MethodName := ⟨RX7, "isSame", "(II)Z"⟩
abbrev cX7_contains : ByteArray := prog_9_method_47_code
def yX7_contains : MethodName := ⟨RX7, "contains", "(II)Z"⟩
abbrev cX7_walk : ByteArray := prog_9_method_48_code
def yX7_walk : MethodName := ⟨RX7, "walk", "(I)V"⟩
abbrev cX7_join : ByteArray := prog_9_method_49_code
def yX7_join : MethodName := ⟨RX7, "join", "(I)V"⟩
abbrev cX7_pieces : ByteArray := prog_9_method_50_code
def yX7_pieces : MethodName := ⟨RX7, "pieces", "(I)I"⟩
abbrev cX7_areJoined : ByteArray := prog_9_method_51_code
def yX7_areJoined : MethodName := ⟨RX7, "areJoined", "(III)Z"⟩
abbrev cX7_bit : ByteArray := prog_9_method_52_code
def yX7_bit : MethodName := ⟨RX7, "bit", "(I)J"⟩
abbrev cX7_borderBits : ByteArray := prog_9_method_53_code
def yX7_borderBits : MethodName := ⟨RX7, "borderBits", "(I)J"⟩
abbrev cX7_left : ByteArray := prog_9_method_54_code
def yX7_left : MethodName := ⟨RX7, "left", "(J)J"⟩
abbrev cX7_rank : ByteArray := prog_9_method_55_code
def yX7_rank : MethodName := ⟨RX7, "rank", "(II)I"⟩
abbrev cX7_free : ByteArray := prog_9_method_56_code
def yX7_free : MethodName := ⟨RX7, "free", "(II)I"⟩
abbrev cX7_holes : ByteArray := prog_9_method_57_code
def yX7_holes : MethodName := ⟨RX7, "holes", "(II)I"⟩
abbrev cX7_signed : ByteArray := prog_9_method_58_code
def yX7_signed : MethodName := ⟨RX7, "signed", "(I)I"⟩
abbrev cX7_rowMany : ByteArray := prog_9_method_59_code
def yX7_rowMany : MethodName := ⟨RX7, "rowMany", "()I"⟩
abbrev cX7_rowHeight : ByteArray := prog_9_method_60_code
def yX7_rowHeight : MethodName := ⟨RX7, "rowHeight", "()I"⟩
abbrev cX7_flip : ByteArray := prog_9_method_61_code
def yX7_flip : MethodName := ⟨RX7, "flip", "(I)I"⟩
abbrev cX7_findBorder : ByteArray := prog_9_method_62_code
def yX7_findBorder : MethodName := ⟨RX7, "findBorder", "()V"⟩
abbrev cX7_border : ByteArray := prog_9_method_63_code
def yX7_border : MethodName := ⟨RX7, "border", "()I"⟩
abbrev cX7_drop : ByteArray := prog_9_method_64_code
def yX7_drop : MethodName := ⟨RX7, "drop", "()I"⟩
abbrev cX7_rowAt : ByteArray := prog_9_method_65_code
def yX7_rowAt : MethodName := ⟨RX7, "rowAt", "(I)I"⟩
abbrev cX7_isRound : ByteArray := prog_9_method_66_code
def yX7_isRound : MethodName := ⟨RX7, "isRound", "()Z"⟩
abbrev cX7_fills : ByteArray := prog_9_method_67_code
def yX7_fills : MethodName := ⟨RX7, "fills", "(I)Z"⟩
abbrev cX7_mean : ByteArray := prog_9_method_68_code
def yX7_mean : MethodName := ⟨RX7, "mean", "(I)D"⟩
abbrev cX7_share : ByteArray := prog_9_method_69_code
def yX7_share : MethodName := ⟨RX7, "share", "(I)F"⟩
abbrev cX7_checksum : ByteArray := prog_9_method_70_code
def yX7_checksum : MethodName := ⟨RX7, "checksum", "()J"⟩
abbrev cX7_isSound : ByteArray := prog_9_method_71_code
def yX7_isSound : MethodName := ⟨RX7, "isSound", "(I)Z"⟩
abbrev cX7_isTrue : ByteArray := prog_9_method_72_code
def yX7_isTrue : MethodName := ⟨RX7, "isTrue", "(III)Z"⟩
abbrev cX7_faceIsTrue : ByteArray := prog_9_method_73_code
def yX7_faceIsTrue : MethodName := ⟨RX7, "faceIsTrue", "(II)Z"⟩
abbrev cX7_pairIsTrue : ByteArray := prog_9_method_74_code
def yX7_pairIsTrue : MethodName := ⟨RX7, "pairIsTrue", "(II)Z"⟩
def RJx145de : String := "java/io/Serializable"
def RJ6 : String := "java/lang/Integer"
abbrev cJ6_bitCount_0f7a4 : ByteArray := prog_15_method_49_code
def yJ6_bitCount_0f7a4 : MethodName := ⟨RJ6, "bitCount", "(I)I"⟩
def RJ13 : String := "java/lang/Long"
abbrev cJ13_bitCount_95d88 : ByteArray := prog_16_method_50_code
def yJ13_bitCount_95d88 : MethodName := ⟨RJ13, "bitCount", "(J)I"⟩
def RJ0 : String := "java/lang/String"
def RL : String := "HoleworksLaw"
abbrev cL_put : ByteArray := method_3_code
def yL_put : MethodName := ⟨RL, "put", "(LHoleworks;II[J)I"⟩
abbrev cL_take : ByteArray := method_4_code
def yL_take : MethodName := ⟨RL, "take", "(LHoleworks;II[J)I"⟩
abbrev cL_clear : ByteArray := method_5_code
def yL_clear : MethodName := ⟨RL, "clear", "(LHoleworks;I[J)I"⟩
abbrev cL_copy : ByteArray := method_6_code
def yL_copy : MethodName := ⟨RL, "copy", "(LHoleworks;II[J)I"⟩
abbrev cL_unite : ByteArray := method_7_code
def yL_unite : MethodName := ⟨RL, "unite", "(LHoleworks;III[J)I"⟩
abbrev cL_meet : ByteArray := method_8_code
def yL_meet : MethodName := ⟨RL, "meet", "(LHoleworks;III[J)I"⟩
abbrev cL_full : ByteArray := method_9_code
def yL_full : MethodName := ⟨RL, "full", "(LHoleworks;IZI[J)I"⟩
abbrev cL_low : ByteArray := method_10_code
def yL_low : MethodName := ⟨RL, "low", "(LHoleworks;III[J)I"⟩
abbrev cL_about : ByteArray := method_11_code
def yL_about : MethodName := ⟨RL, "about", "(LHoleworks;IIZI[J)I"⟩
abbrev cL_cone : ByteArray := method_12_code
def yL_cone : MethodName := ⟨RL, "cone", "(LHoleworks;III[J)I"⟩
abbrev cL_lift : ByteArray := method_13_code
def yL_lift : MethodName := ⟨RL, "lift", "(LHoleworks;IIII[J)I"⟩
abbrev cL_other : ByteArray := method_14_code
def yL_other : MethodName := ⟨RL, "other", "(LHoleworks;III[J)I"⟩
abbrev cL_exchange : ByteArray := method_15_code
def yL_exchange : MethodName := ⟨RL, "exchange", "(LHoleworks;IIII[J)I"⟩
abbrev cL_fold : ByteArray := method_16_code
def yL_fold : MethodName := ⟨RL, "fold", "(LHoleworks;II[J)I"⟩
abbrev cL_has : ByteArray := method_17_code
def yL_has : MethodName := ⟨RL, "has", "(LHoleworks;II[J)I"⟩
abbrev cL_size : ByteArray := method_18_code
def yL_size : MethodName := ⟨RL, "size", "(LHoleworks;I[J)I"⟩
abbrev cL_faces : ByteArray := method_19_code
def yL_faces : MethodName := ⟨RL, "faces", "(LHoleworks;II[J)I"⟩
abbrev cL_corners : ByteArray := method_20_code
def yL_corners : MethodName := ⟨RL, "corners", "(LHoleworks;I[J)I"⟩
abbrev cL_over : ByteArray := method_21_code
def yL_over : MethodName := ⟨RL, "over", "(LHoleworks;II[J)I"⟩
abbrev cL_greatest : ByteArray := method_22_code
def yL_greatest : MethodName := ⟨RL, "greatest", "(LHoleworks;I[J)I"⟩
abbrev cL_greatestAt : ByteArray := method_23_code
def yL_greatestAt : MethodName := ⟨RL, "greatestAt", "(LHoleworks;II[J)I"⟩
abbrev cL_isSame : ByteArray := method_24_code
def yL_isSame : MethodName := ⟨RL, "isSame", "(LHoleworks;II[J)I"⟩
abbrev cL_contains : ByteArray := method_25_code
def yL_contains : MethodName := ⟨RL, "contains", "(LHoleworks;II[J)I"⟩
abbrev cL_pieces : ByteArray := method_26_code
def yL_pieces : MethodName := ⟨RL, "pieces", "(LHoleworks;I[J)I"⟩
abbrev cL_areJoined : ByteArray := method_27_code
def yL_areJoined : MethodName := ⟨RL, "areJoined", "(LHoleworks;III[J)I"⟩
abbrev cL_free : ByteArray := method_28_code
def yL_free : MethodName := ⟨RL, "free", "(LHoleworks;II[J)I"⟩
abbrev cL_holes : ByteArray := method_29_code
def yL_holes : MethodName := ⟨RL, "holes", "(LHoleworks;II[J)I"⟩
abbrev cL_signed : ByteArray := method_30_code
def yL_signed : MethodName := ⟨RL, "signed", "(LHoleworks;I[J)I"⟩
abbrev cL_flip : ByteArray := method_31_code
def yL_flip : MethodName := ⟨RL, "flip", "(LHoleworks;I[J)I"⟩
abbrev cL_rowAt : ByteArray := method_32_code
def yL_rowAt : MethodName := ⟨RL, "rowAt", "(LHoleworks;I[J)I"⟩
abbrev cL_fills : ByteArray := method_33_code
def yL_fills : MethodName := ⟨RL, "fills", "(LHoleworks;I[J)I"⟩
abbrev cL_mean : ByteArray := method_34_code
def yL_mean : MethodName := ⟨RL, "mean", "(LHoleworks;I[D)I"⟩
abbrev cL_share : ByteArray := method_35_code
def yL_share : MethodName := ⟨RL, "share", "(LHoleworks;I[D)I"⟩
abbrev cL_isSound : ByteArray := method_36_code
def yL_isSound : MethodName := ⟨RL, "isSound", "(LHoleworks;I[J)I"⟩
abbrev cL_isTrue : ByteArray := method_37_code
def yL_isTrue : MethodName := ⟨RL, "isTrue", "(LHoleworks;III[J)I"⟩
abbrev cL_faceIsTrue : ByteArray := method_38_code
def yL_faceIsTrue : MethodName := ⟨RL, "faceIsTrue", "(LHoleworks;II[J)I"⟩
abbrev cL_pairIsTrue : ByteArray := method_39_code
def yL_pairIsTrue : MethodName := ⟨RL, "pairIsTrue", "(LHoleworks;II[J)I"⟩
abbrev cL_law : ByteArray := code
def yL_law : MethodName := ⟨RL, "law", "([I)Z"⟩
abbrev vwCl : List vw_C := [(RX0, TX0, 3), (RX1, TX1, 2), (RX2, TX2, 1), (RX4, TX4, 6), (RX6, TX6, 5), (RX7, TX7, 8)]
