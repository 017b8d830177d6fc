section
-- ===== PART A: goes FIRST, ahead of the names: the tables' words, and 'selects' of the private methods out of them =====
/-- a private method of a class that the tables say can be made, by its rows of tables_1 -/
def lw_okq (q : MethodName × Nat) : Prop := (q.1.cls ≠ "java/lang/invoke/MethodHandle" ∧ q.1.cls ≠ "java/lang/invoke/VarHandle") ∧ Cond.instantiable q.1.cls q.2 ∈ tables_1 ∧ Cond.privateMethod q.1 ∈ tables_1 ∧ Cond.instanceMethod q.1 ∈ tables_1
theorem lw_p0 : lw_okq (⟨"Holeworks$Borders", "numberSlots", "()V"⟩, 3) := ⟨⟨by decide +kernel, by decide +kernel⟩, List.mem_of_getElem? (i := 41) (by decide +kernel), List.mem_of_getElem? (i := 47) (by decide +kernel), List.mem_of_getElem? (i := 48) (by decide +kernel)⟩
theorem lw_p1 : lw_okq (⟨"Holeworks$Borders", "bitsOfBorder", "(I)J"⟩, 3) := ⟨⟨by decide +kernel, by decide +kernel⟩, List.mem_of_getElem? (i := 41) (by decide +kernel), List.mem_of_getElem? (i := 60) (by decide +kernel), List.mem_of_getElem? (i := 61) (by decide +kernel)⟩
theorem lw_p2 : lw_okq (⟨"Holeworks", "giveMade", "(LHoleworks$FaceSet;)I"⟩, 5) := ⟨⟨by decide +kernel, by decide +kernel⟩, List.mem_of_getElem? (i := 19) (by decide +kernel), List.mem_of_getElem? (i := 161) (by decide +kernel), List.mem_of_getElem? (i := 162) (by decide +kernel)⟩
theorem lw_p3 : lw_okq (⟨"Holeworks", "shapeAt", "(I)LHoleworks$FaceSet;"⟩, 5) := ⟨⟨by decide +kernel, by decide +kernel⟩, List.mem_of_getElem? (i := 19) (by decide +kernel), List.mem_of_getElem? (i := 214) (by decide +kernel), List.mem_of_getElem? (i := 215) (by decide +kernel)⟩
theorem lw_p4 : lw_okq (⟨"java/lang/Throwable", "fillInStackTrace", "(I)Ljava/lang/Throwable;"⟩, 6) := ⟨⟨by decide +kernel, by decide +kernel⟩, List.mem_of_getElem? (i := 257) (by decide +kernel), List.mem_of_getElem? (i := 255) (by decide +kernel), List.mem_of_getElem? (i := 256) (by decide +kernel)⟩
theorem lw_p5 : lw_okq (⟨"Holeworks$Borders", "keepsIfFree", "(J)Z"⟩, 3) := ⟨⟨by decide +kernel, by decide +kernel⟩, List.mem_of_getElem? (i := 41) (by decide +kernel), List.mem_of_getElem? (i := 641) (by decide +kernel), List.mem_of_getElem? (i := 642) (by decide +kernel)⟩
theorem lw_p6 : lw_okq (⟨"Holeworks$Borders", "isSumOfKept", "(J)Z"⟩, 3) := ⟨⟨by decide +kernel, by decide +kernel⟩, List.mem_of_getElem? (i := 41) (by decide +kernel), List.mem_of_getElem? (i := 703) (by decide +kernel), List.mem_of_getElem? (i := 704) (by decide +kernel)⟩
theorem lw_p7 : lw_okq (⟨"Holeworks$Theorem", "tellsFilling", "(LHoleworks$FaceSet;ZLHoleworks$FaceSet;)Z"⟩, 6) := ⟨⟨by decide +kernel, by decide +kernel⟩, List.mem_of_getElem? (i := 76) (by decide +kernel), List.mem_of_getElem? (i := 763) (by decide +kernel), List.mem_of_getElem? (i := 764) (by decide +kernel)⟩
theorem lw_p8 : lw_okq (⟨"Holeworks$Theorem", "isOneWithoutHoles", "(LHoleworks$FaceSet;)Z"⟩, 6) := ⟨⟨by decide +kernel, by decide +kernel⟩, List.mem_of_getElem? (i := 76) (by decide +kernel), List.mem_of_getElem? (i := 788) (by decide +kernel), List.mem_of_getElem? (i := 789) (by decide +kernel)⟩
theorem lw_p9 : lw_okq (⟨"Holeworks$Theorem", "areOpposed", "(LHoleworks$FaceSet;I)Z"⟩, 6) := ⟨⟨by decide +kernel, by decide +kernel⟩, List.mem_of_getElem? (i := 76) (by decide +kernel), List.mem_of_getElem? (i := 817) (by decide +kernel), List.mem_of_getElem? (i := 818) (by decide +kernel)⟩
theorem lw_p10 : lw_okq (⟨"HoleworksModel", "isWrong", "(I)Z"⟩, 8) := ⟨⟨by decide +kernel, by decide +kernel⟩, List.mem_of_getElem? (i := 877) (by decide +kernel), List.mem_of_getElem? (i := 926) (by decide +kernel), List.mem_of_getElem? (i := 927) (by decide +kernel)⟩
theorem lw_p11 : lw_okq (⟨"HoleworksModel", "isThere", "(II)Z"⟩, 8) := ⟨⟨by decide +kernel, by decide +kernel⟩, List.mem_of_getElem? (i := 877) (by decide +kernel), List.mem_of_getElem? (i := 933) (by decide +kernel), List.mem_of_getElem? (i := 934) (by decide +kernel)⟩
theorem lw_p12 : lw_okq (⟨"HoleworksModel", "missing", "(II)I"⟩, 8) := ⟨⟨by decide +kernel, by decide +kernel⟩, List.mem_of_getElem? (i := 877) (by decide +kernel), List.mem_of_getElem? (i := 941) (by decide +kernel), List.mem_of_getElem? (i := 942) (by decide +kernel)⟩
theorem lw_p13 : lw_okq (⟨"HoleworksModel", "takeOut", "(II)I"⟩, 8) := ⟨⟨by decide +kernel, by decide +kernel⟩, List.mem_of_getElem? (i := 877) (by decide +kernel), List.mem_of_getElem? (i := 945) (by decide +kernel), List.mem_of_getElem? (i := 946) (by decide +kernel)⟩
theorem lw_p14 : lw_okq (⟨"HoleworksModel", "sizeOf", "(I)I"⟩, 8) := ⟨⟨by decide +kernel, by decide +kernel⟩, List.mem_of_getElem? (i := 877) (by decide +kernel), List.mem_of_getElem? (i := 953) (by decide +kernel), List.mem_of_getElem? (i := 954) (by decide +kernel)⟩
theorem lw_p15 : lw_okq (⟨"HoleworksModel", "keep", "(I)I"⟩, 8) := ⟨⟨by decide +kernel, by decide +kernel⟩, List.mem_of_getElem? (i := 877) (by decide +kernel), List.mem_of_getElem? (i := 961) (by decide +kernel), List.mem_of_getElem? (i := 962) (by decide +kernel)⟩
def lw_privs_1 : List (MethodName × Nat) := [(⟨"Holeworks$Borders", "numberSlots", "()V"⟩, 3), (⟨"Holeworks$Borders", "bitsOfBorder", "(I)J"⟩, 3), (⟨"Holeworks", "giveMade", "(LHoleworks$FaceSet;)I"⟩, 5), (⟨"Holeworks", "shapeAt", "(I)LHoleworks$FaceSet;"⟩, 5), (⟨"java/lang/Throwable", "fillInStackTrace", "(I)Ljava/lang/Throwable;"⟩, 6), (⟨"Holeworks$Borders", "keepsIfFree", "(J)Z"⟩, 3), (⟨"Holeworks$Borders", "isSumOfKept", "(J)Z"⟩, 3), (⟨"Holeworks$Theorem", "tellsFilling", "(LHoleworks$FaceSet;ZLHoleworks$FaceSet;)Z"⟩, 6), (⟨"Holeworks$Theorem", "isOneWithoutHoles", "(LHoleworks$FaceSet;)Z"⟩, 6), (⟨"Holeworks$Theorem", "areOpposed", "(LHoleworks$FaceSet;I)Z"⟩, 6), (⟨"HoleworksModel", "isWrong", "(I)Z"⟩, 8), (⟨"HoleworksModel", "isThere", "(II)Z"⟩, 8), (⟨"HoleworksModel", "missing", "(II)I"⟩, 8), (⟨"HoleworksModel", "takeOut", "(II)I"⟩, 8), (⟨"HoleworksModel", "sizeOf", "(I)I"⟩, 8), (⟨"HoleworksModel", "keep", "(I)I"⟩, 8)]
theorem lw_r1 : ∀ q ∈ lw_privs_1, lw_okq q := List.forall_mem_cons.mpr ⟨lw_p0, List.forall_mem_cons.mpr ⟨lw_p1, List.forall_mem_cons.mpr ⟨lw_p2, List.forall_mem_cons.mpr ⟨lw_p3, List.forall_mem_cons.mpr ⟨lw_p4, List.forall_mem_cons.mpr ⟨lw_p5, List.forall_mem_cons.mpr ⟨lw_p6, List.forall_mem_cons.mpr ⟨lw_p7, List.forall_mem_cons.mpr ⟨lw_p8, List.forall_mem_cons.mpr ⟨lw_p9, List.forall_mem_cons.mpr ⟨lw_p10, List.forall_mem_cons.mpr ⟨lw_p11, List.forall_mem_cons.mpr ⟨lw_p12, List.forall_mem_cons.mpr ⟨lw_p13, List.forall_mem_cons.mpr ⟨lw_p14, List.forall_mem_cons.mpr ⟨lw_p15, fun _ h => absurd h List.not_mem_nil⟩⟩⟩⟩⟩⟩⟩⟩⟩⟩⟩⟩⟩⟩⟩⟩
theorem lw_p16 : lw_okq (⟨"HoleworksModel", "cornersAt", "(I)I"⟩, 8) := ⟨⟨by decide +kernel, by decide +kernel⟩, List.mem_of_getElem? (i := 877) (by decide +kernel), List.mem_of_getElem? (i := 1001) (by decide +kernel), List.mem_of_getElem? (i := 1002) (by decide +kernel)⟩
theorem lw_p17 : lw_okq (⟨"HoleworksModel", "isLifted", "(III)Z"⟩, 8) := ⟨⟨by decide +kernel, by decide +kernel⟩, List.mem_of_getElem? (i := 877) (by decide +kernel), List.mem_of_getElem? (i := 1005) (by decide +kernel), List.mem_of_getElem? (i := 1006) (by decide +kernel)⟩
theorem lw_p18 : lw_okq (⟨"HoleworksModel", "overAt", "(II)I"⟩, 8) := ⟨⟨by decide +kernel, by decide +kernel⟩, List.mem_of_getElem? (i := 877) (by decide +kernel), List.mem_of_getElem? (i := 1028) (by decide +kernel), List.mem_of_getElem? (i := 1029) (by decide +kernel)⟩
theorem lw_p19 : lw_okq (⟨"HoleworksModel", "facesOf", "(II)I"⟩, 8) := ⟨⟨by decide +kernel, by decide +kernel⟩, List.mem_of_getElem? (i := 877) (by decide +kernel), List.mem_of_getElem? (i := 1044) (by decide +kernel), List.mem_of_getElem? (i := 1045) (by decide +kernel)⟩
theorem lw_p20 : lw_okq (⟨"HoleworksModel", "greatestOf", "(I)I"⟩, 8) := ⟨⟨by decide +kernel, by decide +kernel⟩, List.mem_of_getElem? (i := 877) (by decide +kernel), List.mem_of_getElem? (i := 1060) (by decide +kernel), List.mem_of_getElem? (i := 1061) (by decide +kernel)⟩
theorem lw_p21 : lw_okq (⟨"HoleworksModel", "isGreatest", "(II)Z"⟩, 8) := ⟨⟨by decide +kernel, by decide +kernel⟩, List.mem_of_getElem? (i := 877) (by decide +kernel), List.mem_of_getElem? (i := 1064) (by decide +kernel), List.mem_of_getElem? (i := 1065) (by decide +kernel)⟩
theorem lw_p22 : lw_okq (⟨"HoleworksModel", "isOf", "(II)Z"⟩, 8) := ⟨⟨by decide +kernel, by decide +kernel⟩, List.mem_of_getElem? (i := 877) (by decide +kernel), List.mem_of_getElem? (i := 1076) (by decide +kernel), List.mem_of_getElem? (i := 1077) (by decide +kernel)⟩
theorem lw_p23 : lw_okq (⟨"HoleworksModel", "walk", "(I)V"⟩, 8) := ⟨⟨by decide +kernel, by decide +kernel⟩, List.mem_of_getElem? (i := 877) (by decide +kernel), List.mem_of_getElem? (i := 1088) (by decide +kernel), List.mem_of_getElem? (i := 1089) (by decide +kernel)⟩
theorem lw_p24 : lw_okq (⟨"HoleworksModel", "join", "(I)V"⟩, 8) := ⟨⟨by decide +kernel, by decide +kernel⟩, List.mem_of_getElem? (i := 877) (by decide +kernel), List.mem_of_getElem? (i := 1092) (by decide +kernel), List.mem_of_getElem? (i := 1093) (by decide +kernel)⟩
theorem lw_p25 : lw_okq (⟨"HoleworksModel", "rank", "(II)I"⟩, 8) := ⟨⟨by decide +kernel, by decide +kernel⟩, List.mem_of_getElem? (i := 877) (by decide +kernel), List.mem_of_getElem? (i := 1104) (by decide +kernel), List.mem_of_getElem? (i := 1105) (by decide +kernel)⟩
theorem lw_p26 : lw_okq (⟨"HoleworksModel", "left", "(J)J"⟩, 8) := ⟨⟨by decide +kernel, by decide +kernel⟩, List.mem_of_getElem? (i := 877) (by decide +kernel), List.mem_of_getElem? (i := 1114) (by decide +kernel), List.mem_of_getElem? (i := 1115) (by decide +kernel)⟩
theorem lw_p27 : lw_okq (⟨"HoleworksModel", "rowMany", "()I"⟩, 8) := ⟨⟨by decide +kernel, by decide +kernel⟩, List.mem_of_getElem? (i := 877) (by decide +kernel), List.mem_of_getElem? (i := 1130) (by decide +kernel), List.mem_of_getElem? (i := 1131) (by decide +kernel)⟩
theorem lw_p28 : lw_okq (⟨"HoleworksModel", "rowHeight", "()I"⟩, 8) := ⟨⟨by decide +kernel, by decide +kernel⟩, List.mem_of_getElem? (i := 877) (by decide +kernel), List.mem_of_getElem? (i := 1134) (by decide +kernel), List.mem_of_getElem? (i := 1135) (by decide +kernel)⟩
theorem lw_p29 : lw_okq (⟨"HoleworksModel", "findBorder", "()V"⟩, 8) := ⟨⟨by decide +kernel, by decide +kernel⟩, List.mem_of_getElem? (i := 877) (by decide +kernel), List.mem_of_getElem? (i := 1142) (by decide +kernel), List.mem_of_getElem? (i := 1143) (by decide +kernel)⟩
def lw_privs_2 : List (MethodName × Nat) := [(⟨"HoleworksModel", "cornersAt", "(I)I"⟩, 8), (⟨"HoleworksModel", "isLifted", "(III)Z"⟩, 8), (⟨"HoleworksModel", "overAt", "(II)I"⟩, 8), (⟨"HoleworksModel", "facesOf", "(II)I"⟩, 8), (⟨"HoleworksModel", "greatestOf", "(I)I"⟩, 8), (⟨"HoleworksModel", "isGreatest", "(II)Z"⟩, 8), (⟨"HoleworksModel", "isOf", "(II)Z"⟩, 8), (⟨"HoleworksModel", "walk", "(I)V"⟩, 8), (⟨"HoleworksModel", "join", "(I)V"⟩, 8), (⟨"HoleworksModel", "rank", "(II)I"⟩, 8), (⟨"HoleworksModel", "left", "(J)J"⟩, 8), (⟨"HoleworksModel", "rowMany", "()I"⟩, 8), (⟨"HoleworksModel", "rowHeight", "()I"⟩, 8), (⟨"HoleworksModel", "findBorder", "()V"⟩, 8)]
theorem lw_r2 : ∀ q ∈ lw_privs_2, lw_okq q := List.forall_mem_cons.mpr ⟨lw_p16, List.forall_mem_cons.mpr ⟨lw_p17, List.forall_mem_cons.mpr ⟨lw_p18, List.forall_mem_cons.mpr ⟨lw_p19, List.forall_mem_cons.mpr ⟨lw_p20, List.forall_mem_cons.mpr ⟨lw_p21, List.forall_mem_cons.mpr ⟨lw_p22, List.forall_mem_cons.mpr ⟨lw_p23, List.forall_mem_cons.mpr ⟨lw_p24, List.forall_mem_cons.mpr ⟨lw_p25, List.forall_mem_cons.mpr ⟨lw_p26, List.forall_mem_cons.mpr ⟨lw_p27, List.forall_mem_cons.mpr ⟨lw_p28, List.forall_mem_cons.mpr ⟨lw_p29, fun _ h => absurd h List.not_mem_nil⟩⟩⟩⟩⟩⟩⟩⟩⟩⟩⟩⟩⟩⟩
def lw_privs : List (MethodName × Nat) := lw_privs_1 ++ (lw_privs_2)
def lw_tbl : List Cond := k2_sels lw_privs ++ tables_1
theorem lw_privs_ok : ∀ q ∈ lw_privs, lw_okq q := by
  show ∀ q ∈ lw_privs_1 ++ (lw_privs_2), lw_okq q
  exact List.forall_mem_append.mpr ⟨lw_r1, lw_r2⟩
/-- the streams that the claim lets the run draw from -/
abbrev lw_cs : List Choice := [Jvm.Choice.named "NaN.bits"]
theorem lw_bits : nanBits ∈ lw_cs := by first | decide | exact List.mem_cons_self | simp [lw_cs, nanBits]

-- ===== names (printed texts of the task folder) =====
def RX0 : String := "Holeworks$Borders"
def TX0 : u_T := fun k => match k with
  | 0 => ("Holeworks$Borders", "slotOf", "[I", true)
  | 1 => ("Holeworks$Borders", "borderOf", "[J", true)
  | _ => ("Holeworks$Borders", "keptAt", "[J", true)
def tyX0 : Nat → FieldType := fun k => match k with
  | 0 => .array .int
  | 1 => .array .long
  | _ => .array .long
abbrev wsX00 : List Cond := u_ws RX0 TX0 3
theorem nmX0 : ∀ a, a < 3 → ∀ b, b < 3 → a ≠ b → (TX0 a).2.1 ≠ (TX0 b).2.1 := by decide +kernel
theorem tyX0_ok : ∀ k, k < 3 → parseFieldDescriptor (TX0 k).2.2.1 = some (tyX0 k) := by decide +kernel
abbrev cX0_init : ByteArray := prog_2_method_1_code
def yX0_init : MethodName := ⟨RX0, "<init>", "()V"⟩
abbrev cX0_numberSlots : ByteArray := prog_2_method_2_code
def yX0_numberSlots : MethodName := ⟨RX0, "numberSlots", "()V"⟩
abbrev cX0_bitsOfBorder : ByteArray := prog_2_method_3_code
def yX0_bitsOfBorder : MethodName := ⟨RX0, "bitsOfBorder", "(I)J"⟩
abbrev cX0_makeBorder : ByteArray := prog_2_method_4_code
def yX0_makeBorder : MethodName := ⟨RX0, "makeBorder", "(LHoleworks$FaceSet;LHoleworks$FaceSet;)V"⟩
abbrev cX0_toggleBorder : ByteArray := prog_2_method_5_code
def yX0_toggleBorder : MethodName := ⟨RX0, "toggleBorder", "(ILHoleworks$FaceSet;)V"⟩
abbrev cX0_countFree : ByteArray := prog_2_method_6_code
def yX0_countFree : MethodName := ⟨RX0, "countFree", "(LHoleworks$FaceSet;I)I"⟩
abbrev cX0_keepsIfFree : ByteArray := prog_2_method_7_code
def yX0_keepsIfFree : MethodName := ⟨RX0, "keepsIfFree", "(J)Z"⟩
abbrev cX0_isSumOfKept : ByteArray := prog_2_method_8_code
def yX0_isSumOfKept : MethodName := ⟨RX0, "isSumOfKept", "(J)Z"⟩
abbrev cX0_countHoles : ByteArray := prog_2_method_9_code
def yX0_countHoles : MethodName := ⟨RX0, "countHoles", "(LHoleworks$FaceSet;I)I"⟩
abbrev cX0_holesBetween : ByteArray := prog_2_method_10_code
def yX0_holesBetween : MethodName := ⟨RX0, "holesBetween", "(LHoleworks$FaceSet;III)I"⟩
abbrev cX0_isFilling : ByteArray := prog_2_method_11_code
def yX0_isFilling : MethodName := ⟨RX0, "isFilling", "(LHoleworks$FaceSet;LHoleworks$FaceSet;)Z"⟩
def RX1 : String := "Holeworks$FaceSet"
def TX1 : u_T := fun k => match k with
  | 0 => ("Holeworks$FaceSet", "lower", "J", false)
  | _ => ("Holeworks$FaceSet", "upper", "J", false)
def tyX1 : Nat → FieldType := fun k => match k with
  | 0 => .long
  | _ => .long
abbrev wsX10 : List Cond := u_ws RX1 TX1 2
theorem nmX1 : ∀ a, a < 2 → ∀ b, b < 2 → a ≠ b → (TX1 a).2.1 ≠ (TX1 b).2.1 := by decide +kernel
theorem tyX1_ok : ∀ k, k < 2 → parseFieldDescriptor (TX1 k).2.2.1 = some (tyX1 k) := by decide +kernel
abbrev cX1_init : ByteArray := prog_3_method_1_code
def yX1_init : MethodName := ⟨RX1, "<init>", "()V"⟩
abbrev cX1_holds : ByteArray := prog_3_method_2_code
def yX1_holds : MethodName := ⟨RX1, "holds", "(I)Z"⟩
abbrev cX1_add : ByteArray := prog_3_method_3_code
def yX1_add : MethodName := ⟨RX1, "add", "(I)V"⟩
abbrev cX1_remove : ByteArray := prog_3_method_4_code
def yX1_remove : MethodName := ⟨RX1, "remove", "(I)V"⟩
abbrev cX1_toggle : ByteArray := prog_3_method_5_code
def yX1_toggle : MethodName := ⟨RX1, "toggle", "(I)V"⟩
abbrev cX1_addParts : ByteArray := prog_3_method_6_code
def yX1_addParts : MethodName := ⟨RX1, "addParts", "(I)V"⟩
abbrev cX1_removeWithAllOver : ByteArray := prog_3_method_7_code
def yX1_removeWithAllOver : MethodName := ⟨RX1, "removeWithAllOver", "(I)V"⟩
abbrev cX1_empty : ByteArray := prog_3_method_8_code
def yX1_empty : MethodName := ⟨RX1, "empty", "()V"⟩
abbrev cX1_become : ByteArray := prog_3_method_9_code
def yX1_become : MethodName := ⟨RX1, "become", "(LHoleworks$FaceSet;)V"⟩
abbrev cX1_becomeUnion : ByteArray := prog_3_method_10_code
def yX1_becomeUnion : MethodName := ⟨RX1, "becomeUnion", "(LHoleworks$FaceSet;LHoleworks$FaceSet;)V"⟩
abbrev cX1_becomeMeeting : ByteArray := prog_3_method_11_code
def yX1_becomeMeeting : MethodName := ⟨RX1, "becomeMeeting", "(LHoleworks$FaceSet;LHoleworks$FaceSet;)V"⟩
abbrev cX1_isEmpty : ByteArray := prog_3_method_12_code
def yX1_isEmpty : MethodName := ⟨RX1, "isEmpty", "()Z"⟩
abbrev cX1_isLike : ByteArray := prog_3_method_13_code
def yX1_isLike : MethodName := ⟨RX1, "isLike", "(LHoleworks$FaceSet;)Z"⟩
abbrev cX1_holdsAll : ByteArray := prog_3_method_14_code
def yX1_holdsAll : MethodName := ⟨RX1, "holdsAll", "(LHoleworks$FaceSet;)Z"⟩
abbrev cX1_count : ByteArray := prog_3_method_15_code
def yX1_count : MethodName := ⟨RX1, "count", "()I"⟩
abbrev cX1_countBeyond : ByteArray := prog_3_method_16_code
def yX1_countBeyond : MethodName := ⟨RX1, "countBeyond", "(LHoleworks$FaceSet;)I"⟩
abbrev cX1_countAt : ByteArray := prog_3_method_17_code
def yX1_countAt : MethodName := ⟨RX1, "countAt", "(I)I"⟩
abbrev cX1_signedCount : ByteArray := prog_3_method_18_code
def yX1_signedCount : MethodName := ⟨RX1, "signedCount", "()I"⟩
abbrev cX1_heightSum : ByteArray := prog_3_method_19_code
def yX1_heightSum : MethodName := ⟨RX1, "heightSum", "()I"⟩
abbrev cX1_cornerSet : ByteArray := prog_3_method_20_code
def yX1_cornerSet : MethodName := ⟨RX1, "cornerSet", "()I"⟩
abbrev cX1_faceAt : ByteArray := prog_3_method_21_code
def yX1_faceAt : MethodName := ⟨RX1, "faceAt", "(I)I"⟩
abbrev cX1_countOver : ByteArray := prog_3_method_22_code
def yX1_countOver : MethodName := ⟨RX1, "countOver", "(I)I"⟩
abbrev cX1_firstOver : ByteArray := prog_3_method_23_code
def yX1_firstOver : MethodName := ⟨RX1, "firstOver", "(I)I"⟩
def RX2 : String := "Holeworks$HoleRow"
def TX2 : u_T := fun k => match k with
  | _ => ("Holeworks$HoleRow", "many", "[I", true)
def tyX2 : Nat → FieldType := fun k => match k with
  | _ => .array .int
abbrev wsX20 : List Cond := u_ws RX2 TX2 1
theorem nmX2 : ∀ a, a < 1 → ∀ b, b < 1 → a ≠ b → (TX2 a).2.1 ≠ (TX2 b).2.1 := by decide +kernel
theorem tyX2_ok : ∀ k, k < 1 → parseFieldDescriptor (TX2 k).2.2.1 = some (tyX2 k) := by decide +kernel
abbrev cX2_init : ByteArray := prog_4_method_1_code
def yX2_init : MethodName := ⟨RX2, "<init>", "()V"⟩
abbrev cX2_tell : ByteArray := prog_4_method_2_code
def yX2_tell : MethodName := ⟨RX2, "tell", "(LHoleworks$FaceSet;LHoleworks$Borders;)V"⟩
abbrev cX2_at : ByteArray := prog_4_method_3_code
def yX2_at : MethodName := ⟨RX2, "at", "(I)I"⟩
abbrev cX2_areNone : ByteArray := prog_4_method_4_code
def yX2_areNone : MethodName := ⟨RX2, "areNone", "()Z"⟩
abbrev cX2_signedSum : ByteArray := prog_4_method_5_code
def yX2_signedSum : MethodName := ⟨RX2, "signedSum", "()I"⟩
abbrev cX2_differAt : ByteArray := prog_4_method_6_code
def yX2_differAt : MethodName := ⟨RX2, "differAt", "(IILHoleworks$HoleRow;)Z"⟩
abbrev cX2_areLike : ByteArray := prog_4_method_7_code
def yX2_areLike : MethodName := ⟨RX2, "areLike", "(LHoleworks$HoleRow;)Z"⟩
def RX3 : String := "Holeworks$Making"
def TX3 : u_T := fun k => match k with
  | _ => ("", "", "", false)
def tyX3 : Nat → FieldType := fun k => match k with
  | _ => .int
abbrev wsX30 : List Cond := u_ws RX3 TX3 0
theorem nmX3 : ∀ a, a < 0 → ∀ b, b < 0 → a ≠ b → (TX3 a).2.1 ≠ (TX3 b).2.1 := by decide +kernel
theorem tyX3_ok : ∀ k, k < 0 → parseFieldDescriptor (TX3 k).2.2.1 = some (tyX3 k) := by decide +kernel
abbrev cX3_makeLow : ByteArray := prog_5_method_2_code
def yX3_makeLow : MethodName := ⟨RX3, "makeLow", "(LHoleworks$FaceSet;ILHoleworks$FaceSet;)V"⟩
abbrev cX3_makeAbout : ByteArray := prog_5_method_3_code
def yX3_makeAbout : MethodName := ⟨RX3, "makeAbout", "(LHoleworks$FaceSet;IZLHoleworks$FaceSet;)V"⟩
abbrev cX3_makeCone : ByteArray := prog_5_method_4_code
def yX3_makeCone : MethodName := ⟨RX3, "makeCone", "(LHoleworks$FaceSet;ILHoleworks$FaceSet;)V"⟩
abbrev cX3_makeLift : ByteArray := prog_5_method_5_code
def yX3_makeLift : MethodName := ⟨RX3, "makeLift", "(LHoleworks$FaceSet;IILHoleworks$FaceSet;)V"⟩
abbrev cX3_addJoined : ByteArray := prog_5_method_6_code
def yX3_addJoined : MethodName := ⟨RX3, "addJoined", "(LHoleworks$FaceSet;ILHoleworks$FaceSet;)V"⟩
abbrev cX3_makeOther : ByteArray := prog_5_method_7_code
def yX3_makeOther : MethodName := ⟨RX3, "makeOther", "(LHoleworks$FaceSet;ILHoleworks$FaceSet;)V"⟩
abbrev cX3_makeExchanged : ByteArray := prog_5_method_8_code
def yX3_makeExchanged : MethodName := ⟨RX3, "makeExchanged", "(LHoleworks$FaceSet;IILHoleworks$FaceSet;)V"⟩
abbrev cX3_exchanged : ByteArray := prog_5_method_9_code
def yX3_exchanged : MethodName := ⟨RX3, "exchanged", "(III)I"⟩
abbrev cX3_makeGreatest : ByteArray := prog_5_method_10_code
def yX3_makeGreatest : MethodName := ⟨RX3, "makeGreatest", "(LHoleworks$FaceSet;LHoleworks$FaceSet;)V"⟩
abbrev cX3_liesInAnother : ByteArray := prog_5_method_11_code
def yX3_liesInAnother : MethodName := ⟨RX3, "liesInAnother", "(LHoleworks$FaceSet;I)Z"⟩
def RX4 : String := "Holeworks$Theorem"
def TX4 : u_T := fun k => match k with
  | 0 => ("Holeworks$Theorem", "borders", "LHoleworks$Borders;", true)
  | 1 => ("Holeworks$Theorem", "made", "LHoleworks$FaceSet;", true)
  | 2 => ("Holeworks$Theorem", "second", "LHoleworks$FaceSet;", true)
  | 3 => ("Holeworks$Theorem", "holesBefore", "LHoleworks$HoleRow;", true)
  | 4 => ("Holeworks$Theorem", "holesAfter", "LHoleworks$HoleRow;", true)
  | _ => ("Holeworks$Theorem", "holesSecond", "LHoleworks$HoleRow;", true)
def tyX4 : Nat → FieldType := fun k => match k with
  | 0 => .object "Holeworks$Borders"
  | 1 => .object "Holeworks$FaceSet"
  | 2 => .object "Holeworks$FaceSet"
  | 3 => .object "Holeworks$HoleRow"
  | 4 => .object "Holeworks$HoleRow"
  | _ => .object "Holeworks$HoleRow"
abbrev wsX40 : List Cond := u_ws RX4 TX4 6
theorem nmX4 : ∀ a, a < 6 → ∀ b, b < 6 → a ≠ b → (TX4 a).2.1 ≠ (TX4 b).2.1 := by decide +kernel
theorem tyX4_ok : ∀ k, k < 6 → parseFieldDescriptor (TX4 k).2.2.1 = some (tyX4 k) := by decide +kernel
abbrev cX4_init : ByteArray := prog_6_method_1_code
def yX4_init : MethodName := ⟨RX4, "<init>", "(LHoleworks$Borders;)V"⟩
abbrev cX4_tellsRow : ByteArray := prog_6_method_2_code
def yX4_tellsRow : MethodName := ⟨RX4, "tellsRow", "(LHoleworks$FaceSet;LHoleworks$FaceSet;)Z"⟩
abbrev cX4_tellsFilling : ByteArray := prog_6_method_3_code
def yX4_tellsFilling : MethodName := ⟨RX4, "tellsFilling", "(LHoleworks$FaceSet;ZLHoleworks$FaceSet;)Z"⟩
abbrev cX4_tellsPieces : ByteArray := prog_6_method_4_code
def yX4_tellsPieces : MethodName := ⟨RX4, "tellsPieces", "(LHoleworks$FaceSet;)Z"⟩
abbrev cX4_tellsSignedCount : ByteArray := prog_6_method_5_code
def yX4_tellsSignedCount : MethodName := ⟨RX4, "tellsSignedCount", "(LHoleworks$FaceSet;)Z"⟩
abbrev cX4_tellsCone : ByteArray := prog_6_method_6_code
def yX4_tellsCone : MethodName := ⟨RX4, "tellsCone", "(LHoleworks$FaceSet;)Z"⟩
abbrev cX4_tellsAbout : ByteArray := prog_6_method_7_code
def yX4_tellsAbout : MethodName := ⟨RX4, "tellsAbout", "(LHoleworks$FaceSet;I)Z"⟩
abbrev cX4_isOneWithoutHoles : ByteArray := prog_6_method_8_code
def yX4_isOneWithoutHoles : MethodName := ⟨RX4, "isOneWithoutHoles", "(LHoleworks$FaceSet;)Z"⟩
abbrev cX4_tellsLift : ByteArray := prog_6_method_9_code
def yX4_tellsLift : MethodName := ⟨RX4, "tellsLift", "(LHoleworks$FaceSet;)Z"⟩
abbrev cX4_tellsTouching : ByteArray := prog_6_method_10_code
def yX4_tellsTouching : MethodName := ⟨RX4, "tellsTouching", "(LHoleworks$FaceSet;LHoleworks$FaceSet;)Z"⟩
abbrev cX4_tellsFold : ByteArray := prog_6_method_11_code
def yX4_tellsFold : MethodName := ⟨RX4, "tellsFold", "(LHoleworks$FaceSet;I)Z"⟩
abbrev cX4_tellsTaking : ByteArray := prog_6_method_12_code
def yX4_tellsTaking : MethodName := ⟨RX4, "tellsTaking", "(LHoleworks$FaceSet;I)Z"⟩
abbrev cX4_tellsSums : ByteArray := prog_6_method_13_code
def yX4_tellsSums : MethodName := ⟨RX4, "tellsSums", "(LHoleworks$FaceSet;LHoleworks$FaceSet;)Z"⟩
abbrev cX4_tellsOther : ByteArray := prog_6_method_14_code
def yX4_tellsOther : MethodName := ⟨RX4, "tellsOther", "(LHoleworks$FaceSet;I)Z"⟩
abbrev cX4_isRim : ByteArray := prog_6_method_15_code
def yX4_isRim : MethodName := ⟨RX4, "isRim", "(LHoleworks$FaceSet;I)Z"⟩
abbrev cX4_areOpposed : ByteArray := prog_6_method_16_code
def yX4_areOpposed : MethodName := ⟨RX4, "areOpposed", "(LHoleworks$FaceSet;I)Z"⟩
abbrev cX4_tellsExchange : ByteArray := prog_6_method_17_code
def yX4_tellsExchange : MethodName := ⟨RX4, "tellsExchange", "(LHoleworks$FaceSet;II)Z"⟩
def RX5 : String := "Holeworks$Walk"
def TX5 : u_T := fun k => match k with
  | _ => ("", "", "", false)
def tyX5 : Nat → FieldType := fun k => match k with
  | _ => .int
abbrev wsX50 : List Cond := u_ws RX5 TX5 0
theorem nmX5 : ∀ a, a < 0 → ∀ b, b < 0 → a ≠ b → (TX5 a).2.1 ≠ (TX5 b).2.1 := by decide +kernel
theorem tyX5_ok : ∀ k, k < 0 → parseFieldDescriptor (TX5 k).2.2.1 = some (tyX5 k) := by decide +kernel
abbrev cX5_countPieces : ByteArray := prog_7_method_2_code
def yX5_countPieces : MethodName := ⟨RX5, "countPieces", "(LHoleworks$FaceSet;)I"⟩
abbrev cX5_pieceFrom : ByteArray := prog_7_method_3_code
def yX5_pieceFrom : MethodName := ⟨RX5, "pieceFrom", "(LHoleworks$FaceSet;I)I"⟩
abbrev cX5_neighbours : ByteArray := prog_7_method_4_code
def yX5_neighbours : MethodName := ⟨RX5, "neighbours", "(LHoleworks$FaceSet;I)I"⟩
abbrev cX5_areEven : ByteArray := prog_7_method_5_code
def yX5_areEven : MethodName := ⟨RX5, "areEven", "(LHoleworks$FaceSet;LHoleworks$FaceSet;)Z"⟩
def RX6 : String := "Holeworks"
def TX6 : u_T := fun k => match k with
  | 0 => ("Holeworks", "shapes", "[LHoleworks$FaceSet;", true)
  | 1 => ("Holeworks", "row", "LHoleworks$FaceSet;", true)
  | 2 => ("Holeworks", "made", "LHoleworks$FaceSet;", true)
  | 3 => ("Holeworks", "borders", "LHoleworks$Borders;", true)
  | _ => ("Holeworks", "theorem", "LHoleworks$Theorem;", true)
def tyX6 : Nat → FieldType := fun k => match k with
  | 0 => .array (.object "Holeworks$FaceSet")
  | 1 => .object "Holeworks$FaceSet"
  | 2 => .object "Holeworks$FaceSet"
  | 3 => .object "Holeworks$Borders"
  | _ => .object "Holeworks$Theorem"
abbrev wsX60 : List Cond := u_ws RX6 TX6 5
theorem nmX6 : ∀ a, a < 5 → ∀ b, b < 5 → a ≠ b → (TX6 a).2.1 ≠ (TX6 b).2.1 := by decide +kernel
theorem tyX6_ok : ∀ k, k < 5 → parseFieldDescriptor (TX6 k).2.2.1 = some (tyX6 k) := by decide +kernel
abbrev cX6_init : ByteArray := prog_1_method_1_code
def yX6_init : MethodName := ⟨RX6, "<init>", "()V"⟩
abbrev cX6_put : ByteArray := prog_1_method_2_code
def yX6_put : MethodName := ⟨RX6, "put", "(II)I"⟩
abbrev cX6_take : ByteArray := prog_1_method_3_code
def yX6_take : MethodName := ⟨RX6, "take", "(II)I"⟩
abbrev cX6_clear : ByteArray := prog_1_method_4_code
def yX6_clear : MethodName := ⟨RX6, "clear", "(I)I"⟩
abbrev cX6_copy : ByteArray := prog_1_method_5_code
def yX6_copy : MethodName := ⟨RX6, "copy", "(II)I"⟩
abbrev cX6_unite : ByteArray := prog_1_method_6_code
def yX6_unite : MethodName := ⟨RX6, "unite", "(III)I"⟩
abbrev cX6_meet : ByteArray := prog_1_method_7_code
def yX6_meet : MethodName := ⟨RX6, "meet", "(III)I"⟩
abbrev cX6_full : ByteArray := prog_1_method_8_code
def yX6_full : MethodName := ⟨RX6, "full", "(IZI)I"⟩
abbrev cX6_low : ByteArray := prog_1_method_9_code
def yX6_low : MethodName := ⟨RX6, "low", "(III)I"⟩
abbrev cX6_about : ByteArray := prog_1_method_10_code
def yX6_about : MethodName := ⟨RX6, "about", "(IIZI)I"⟩
abbrev cX6_cone : ByteArray := prog_1_method_11_code
def yX6_cone : MethodName := ⟨RX6, "cone", "(III)I"⟩
abbrev cX6_lift : ByteArray := prog_1_method_12_code
def yX6_lift : MethodName := ⟨RX6, "lift", "(IIII)I"⟩
abbrev cX6_other : ByteArray := prog_1_method_13_code
def yX6_other : MethodName := ⟨RX6, "other", "(III)I"⟩
abbrev cX6_exchange : ByteArray := prog_1_method_14_code
def yX6_exchange : MethodName := ⟨RX6, "exchange", "(IIII)I"⟩
abbrev cX6_fold : ByteArray := prog_1_method_15_code
def yX6_fold : MethodName := ⟨RX6, "fold", "(II)I"⟩
abbrev cX6_has : ByteArray := prog_1_method_16_code
def yX6_has : MethodName := ⟨RX6, "has", "(II)Z"⟩
abbrev cX6_size : ByteArray := prog_1_method_17_code
def yX6_size : MethodName := ⟨RX6, "size", "(I)I"⟩
abbrev cX6_faces : ByteArray := prog_1_method_18_code
def yX6_faces : MethodName := ⟨RX6, "faces", "(II)I"⟩
abbrev cX6_corners : ByteArray := prog_1_method_19_code
def yX6_corners : MethodName := ⟨RX6, "corners", "(I)I"⟩
abbrev cX6_over : ByteArray := prog_1_method_20_code
def yX6_over : MethodName := ⟨RX6, "over", "(II)I"⟩
abbrev cX6_greatest : ByteArray := prog_1_method_21_code
def yX6_greatest : MethodName := ⟨RX6, "greatest", "(I)I"⟩
abbrev cX6_greatestAt : ByteArray := prog_1_method_22_code
def yX6_greatestAt : MethodName := ⟨RX6, "greatestAt", "(II)I"⟩
abbrev cX6_isSame : ByteArray := prog_1_method_23_code
def yX6_isSame : MethodName := ⟨RX6, "isSame", "(II)Z"⟩
abbrev cX6_contains : ByteArray := prog_1_method_24_code
def yX6_contains : MethodName := ⟨RX6, "contains", "(II)Z"⟩
abbrev cX6_pieces : ByteArray := prog_1_method_25_code
def yX6_pieces : MethodName := ⟨RX6, "pieces", "(I)I"⟩
abbrev cX6_areJoined : ByteArray := prog_1_method_26_code
def yX6_areJoined : MethodName := ⟨RX6, "areJoined", "(III)Z"⟩
abbrev cX6_free : ByteArray := prog_1_method_27_code
def yX6_free : MethodName := ⟨RX6, "free", "(II)I"⟩
abbrev cX6_holes : ByteArray := prog_1_method_28_code
def yX6_holes : MethodName := ⟨RX6, "holes", "(II)I"⟩
abbrev cX6_signed : ByteArray := prog_1_method_29_code
def yX6_signed : MethodName := ⟨RX6, "signed", "(I)I"⟩
abbrev cX6_flip : ByteArray := prog_1_method_30_code
def yX6_flip : MethodName := ⟨RX6, "flip", "(I)I"⟩
abbrev cX6_border : ByteArray := prog_1_method_31_code
def yX6_border : MethodName := ⟨RX6, "border", "()I"⟩
abbrev cX6_drop : ByteArray := prog_1_method_32_code
def yX6_drop : MethodName := ⟨RX6, "drop", "()I"⟩
abbrev cX6_rowAt : ByteArray := prog_1_method_33_code
def yX6_rowAt : MethodName := ⟨RX6, "rowAt", "(I)I"⟩
abbrev cX6_isRound : ByteArray := prog_1_method_34_code
def yX6_isRound : MethodName := ⟨RX6, "isRound", "()Z"⟩
abbrev cX6_fills : ByteArray := prog_1_method_35_code
def yX6_fills : MethodName := ⟨RX6, "fills", "(I)Z"⟩
abbrev cX6_mean : ByteArray := prog_1_method_36_code
def yX6_mean : MethodName := ⟨RX6, "mean", "(I)D"⟩
abbrev cX6_share : ByteArray := prog_1_method_37_code
def yX6_share : MethodName := ⟨RX6, "share", "(I)F"⟩
abbrev cX6_checksum : ByteArray := prog_1_method_38_code
def yX6_checksum : MethodName := ⟨RX6, "checksum", "()J"⟩
abbrev cX6_isSound : ByteArray := prog_1_method_39_code
def yX6_isSound : MethodName := ⟨RX6, "isSound", "(I)Z"⟩
abbrev cX6_isTrue : ByteArray := prog_1_method_40_code
def yX6_isTrue : MethodName := ⟨RX6, "isTrue", "(III)Z"⟩
abbrev cX6_faceIsTrue : ByteArray := prog_1_method_41_code
def yX6_faceIsTrue : MethodName := ⟨RX6, "faceIsTrue", "(II)Z"⟩
abbrev cX6_pairIsTrue : ByteArray := prog_1_method_42_code
def yX6_pairIsTrue : MethodName := ⟨RX6, "pairIsTrue", "(II)Z"⟩
abbrev cX6_shapeAt : ByteArray := prog_1_method_43_code
def yX6_shapeAt : MethodName := ⟨RX6, "shapeAt", "(I)LHoleworks$FaceSet;"⟩
abbrev cX6_giveMade : ByteArray := prog_1_method_44_code
def yX6_giveMade : MethodName := ⟨RX6, "giveMade", "(LHoleworks$FaceSet;)I"⟩
abbrev cX6_emptied : ByteArray := prog_1_method_45_code
def yX6_emptied : MethodName := ⟨RX6, "emptied", "(LHoleworks$FaceSet;)I"⟩
abbrev cX6_checkFace : ByteArray := prog_1_method_46_code
def yX6_checkFace : MethodName := ⟨RX6, "checkFace", "(I)V"⟩
abbrev cX6_checkCorner : ByteArray := prog_1_method_47_code
def yX6_checkCorner : MethodName := ⟨RX6, "checkCorner", "(I)V"⟩
abbrev cX6_checkHeight : ByteArray := prog_1_method_48_code
def yX6_checkHeight : MethodName := ⟨RX6, "checkHeight", "(II)V"⟩
abbrev cX6_checkHeld : ByteArray := prog_1_method_49_code
def yX6_checkHeld : MethodName := ⟨RX6, "checkHeld", "(LHoleworks$FaceSet;I)V"⟩
abbrev cX6_checkNew : ByteArray := prog_1_method_50_code
def yX6_checkNew : MethodName := ⟨RX6, "checkNew", "(LHoleworks$FaceSet;I)V"⟩
abbrev cX6_checkedFaceAt : ByteArray := prog_1_method_51_code
def yX6_checkedFaceAt : MethodName := ⟨RX6, "checkedFaceAt", "(LHoleworks$FaceSet;I)I"⟩
abbrev cX6_checksumOn : ByteArray := prog_1_method_52_code
def yX6_checksumOn : MethodName := ⟨RX6, "checksumOn", "(JLHoleworks$FaceSet;)J"⟩
abbrev cX6_heightOf : ByteArray := prog_1_method_53_code
def yX6_heightOf : MethodName := ⟨RX6, "heightOf", "(I)I"⟩
abbrev cX6_leastCorner : ByteArray := prog_1_method_54_code
def yX6_leastCorner : MethodName := ⟨RX6, "leastCorner", "(I)I"⟩
def RX7 : String := "HoleworksModel"
def TX7 : u_T := fun k => match k with
  | 0 => ("HoleworksModel", "shape", "[Z", true)
  | 1 => ("HoleworksModel", "made", "[Z", true)
  | 2 => ("HoleworksModel", "row", "[Z", true)
  | 3 => ("HoleworksModel", "next", "[Z", true)
  | 4 => ("HoleworksModel", "piece", "[I", true)
  | 5 => ("HoleworksModel", "kept", "[J", true)
  | 6 => ("HoleworksModel", "keptMany", "I", false)
  | _ => ("HoleworksModel", "thrown", "I", false)
def tyX7 : Nat → FieldType := fun k => match k with
  | 0 => .array .boolean
  | 1 => .array .boolean
  | 2 => .array .boolean
  | 3 => .array .boolean
  | 4 => .array .int
  | 5 => .array .long
  | 6 => .int
  | _ => .int
abbrev wsX70 : List Cond := u_ws RX7 TX7 8
theorem nmX7 : ∀ a, a < 8 → ∀ b, b < 8 → a ≠ b → (TX7 a).2.1 ≠ (TX7 b).2.1 := by decide +kernel
theorem tyX7_ok : ∀ k, k < 8 → parseFieldDescriptor (TX7 k).2.2.1 = some (tyX7 k) := by decide +kernel
abbrev cX7_init : ByteArray := prog_9_method_1_code
def yX7_init : MethodName := ⟨RX7, "<init>", "()V"⟩
abbrev cX7_thrown : ByteArray := prog_9_method_2_code
def yX7_thrown : MethodName := ⟨RX7, "thrown", "()I"⟩
abbrev cX7_isWrong : ByteArray := prog_9_method_3_code
def yX7_isWrong : MethodName := ⟨RX7, "isWrong", "(I)Z"⟩
abbrev cX7_isIn : ByteArray := prog_9_method_4_code
def yX7_isIn : MethodName := ⟨RX7, "isIn", "(III)Z"⟩
abbrev cX7_isPlace : ByteArray := prog_9_method_5_code
def yX7_isPlace : MethodName := ⟨RX7, "isPlace", "(I)Z"⟩
abbrev cX7_isFace : ByteArray := prog_9_method_6_code
def yX7_isFace : MethodName := ⟨RX7, "isFace", "(I)Z"⟩
abbrev cX7_isCorner : ByteArray := prog_9_method_7_code
def yX7_isCorner : MethodName := ⟨RX7, "isCorner", "(I)Z"⟩
abbrev cX7_isHeight : ByteArray := prog_9_method_8_code
def yX7_isHeight : MethodName := ⟨RX7, "isHeight", "(I)Z"⟩
abbrev cX7_isThere : ByteArray := prog_9_method_9_code
def yX7_isThere : MethodName := ⟨RX7, "isThere", "(II)Z"⟩
abbrev cX7_cornersOf : ByteArray := prog_9_method_10_code
def yX7_cornersOf : MethodName := ⟨RX7, "cornersOf", "(I)I"⟩
abbrev cX7_height : ByteArray := prog_9_method_11_code
def yX7_height : MethodName := ⟨RX7, "height", "(I)I"⟩
abbrev cX7_isPart : ByteArray := prog_9_method_12_code
def yX7_isPart : MethodName := ⟨RX7, "isPart", "(II)Z"⟩
abbrev cX7_sizeOf : ByteArray := prog_9_method_13_code
def yX7_sizeOf : MethodName := ⟨RX7, "sizeOf", "(I)I"⟩
abbrev cX7_cornersAt : ByteArray := prog_9_method_14_code
def yX7_cornersAt : MethodName := ⟨RX7, "cornersAt", "(I)I"⟩
abbrev cX7_overAt : ByteArray := prog_9_method_15_code
def yX7_overAt : MethodName := ⟨RX7, "overAt", "(II)I"⟩
abbrev cX7_isGreatest : ByteArray := prog_9_method_16_code
def yX7_isGreatest : MethodName := ⟨RX7, "isGreatest", "(II)Z"⟩
abbrev cX7_keep : ByteArray := prog_9_method_17_code
def yX7_keep : MethodName := ⟨RX7, "keep", "(I)I"⟩
abbrev cX7_missing : ByteArray := prog_9_method_18_code
def yX7_missing : MethodName := ⟨RX7, "missing", "(II)I"⟩
abbrev cX7_put : ByteArray := prog_9_method_19_code
def yX7_put : MethodName := ⟨RX7, "put", "(II)I"⟩
abbrev cX7_takeOut : ByteArray := prog_9_method_20_code
def yX7_takeOut : MethodName := ⟨RX7, "takeOut", "(II)I"⟩
abbrev cX7_take : ByteArray := prog_9_method_21_code
def yX7_take : MethodName := ⟨RX7, "take", "(II)I"⟩
abbrev cX7_clear : ByteArray := prog_9_method_22_code
def yX7_clear : MethodName := ⟨RX7, "clear", "(I)I"⟩
abbrev cX7_copy : ByteArray := prog_9_method_23_code
def yX7_copy : MethodName := ⟨RX7, "copy", "(II)I"⟩
abbrev cX7_unite : ByteArray := prog_9_method_24_code
def yX7_unite : MethodName := ⟨RX7, "unite", "(III)I"⟩
abbrev cX7_meet : ByteArray := prog_9_method_25_code
def yX7_meet : MethodName := ⟨RX7, "meet", "(III)I"⟩
abbrev cX7_full : ByteArray := prog_9_method_26_code
def yX7_full : MethodName := ⟨RX7, "full", "(IZI)I"⟩
abbrev cX7_low : ByteArray := prog_9_method_27_code
def yX7_low : MethodName := ⟨RX7, "low", "(III)I"⟩
abbrev cX7_about : ByteArray := prog_9_method_28_code
def yX7_about : MethodName := ⟨RX7, "about", "(IIZI)I"⟩
abbrev cX7_cone : ByteArray := prog_9_method_29_code
def yX7_cone : MethodName := ⟨RX7, "cone", "(III)I"⟩
abbrev cX7_isLifted : ByteArray := prog_9_method_30_code
def yX7_isLifted : MethodName := ⟨RX7, "isLifted", "(III)Z"⟩
abbrev cX7_lift : ByteArray := prog_9_method_31_code
def yX7_lift : MethodName := ⟨RX7, "lift", "(IIII)I"⟩
abbrev cX7_other : ByteArray := prog_9_method_32_code
def yX7_other : MethodName := ⟨RX7, "other", "(III)I"⟩
abbrev cX7_exchanged : ByteArray := prog_9_method_33_code
def yX7_exchanged : MethodName := ⟨RX7, "exchanged", "(III)I"⟩
abbrev cX7_exchange : ByteArray := prog_9_method_34_code
def yX7_exchange : MethodName := ⟨RX7, "exchange", "(IIII)I"⟩
abbrev cX7_fold : ByteArray := prog_9_method_35_code
def yX7_fold : MethodName := ⟨RX7, "fold", "(II)I"⟩
abbrev cX7_has : ByteArray := prog_9_method_36_code
def yX7_has : MethodName := ⟨RX7, "has", "(II)Z"⟩
abbrev cX7_size : ByteArray := prog_9_method_37_code
def yX7_size : MethodName := ⟨RX7, "size", "(I)I"⟩
abbrev cX7_facesOf : ByteArray := prog_9_method_38_code
def yX7_facesOf : MethodName := ⟨RX7, "facesOf", "(II)I"⟩
abbrev cX7_faces : ByteArray := prog_9_method_39_code
def yX7_faces : MethodName := ⟨RX7, "faces", "(II)I"⟩
abbrev cX7_corners : ByteArray := prog_9_method_40_code
def yX7_corners : MethodName := ⟨RX7, "corners", "(I)I"⟩
abbrev cX7_over : ByteArray := prog_9_method_41_code
def yX7_over : MethodName := ⟨RX7, "over", "(II)I"⟩
abbrev cX7_greatestOf : ByteArray := prog_9_method_42_code
def yX7_greatestOf : MethodName := ⟨RX7, "greatestOf", "(I)I"⟩
abbrev cX7_greatest : ByteArray := prog_9_method_43_code
def yX7_greatest : MethodName := ⟨RX7, "greatest", "(I)I"⟩
abbrev cX7_greatestAt : ByteArray := prog_9_method_44_code
def yX7_greatestAt : MethodName := ⟨RX7, "greatestAt", "(II)I"⟩
abbrev cX7_isOf : ByteArray := prog_9_method_45_code
def yX7_isOf : MethodName := ⟨RX7, "isOf", "(II)Z"⟩
abbrev cX7_isSame : ByteArray := prog_9_method_46_code
def yX7_isSame : MethodName := ⟨RX7, "isSame", "(II)Z"⟩
abbrev cX7_contains : ByteArray := prog_9_method_47_code
def yX7_contains : MethodName := ⟨RX7, "contains", "(II)Z"⟩
abbrev cX7_walk : ByteArray := prog_9_method_48_code
def yX7_walk : MethodName := ⟨RX7, "walk", "(I)V"⟩
abbrev cX7_join : ByteArray := prog_9_method_49_code
def yX7_join : MethodName := ⟨RX7, "join", "(I)V"⟩
abbrev cX7_pieces : ByteArray := prog_9_method_50_code
def yX7_pieces : MethodName := ⟨RX7, "pieces", "(I)I"⟩
abbrev cX7_areJoined : ByteArray := prog_9_method_51_code
def yX7_areJoined : MethodName := ⟨RX7, "areJoined", "(III)Z"⟩
abbrev cX7_bit : ByteArray := prog_9_method_52_code
def yX7_bit : MethodName := ⟨RX7, "bit", "(I)J"⟩
abbrev cX7_borderBits : ByteArray := prog_9_method_53_code
def yX7_borderBits : MethodName := ⟨RX7, "borderBits", "(I)J"⟩
abbrev cX7_left : ByteArray := prog_9_method_54_code
def yX7_left : MethodName := ⟨RX7, "left", "(J)J"⟩
abbrev cX7_rank : ByteArray := prog_9_method_55_code
def yX7_rank : MethodName := ⟨RX7, "rank", "(II)I"⟩
abbrev cX7_free : ByteArray := prog_9_method_56_code
def yX7_free : MethodName := ⟨RX7, "free", "(II)I"⟩
abbrev cX7_holes : ByteArray := prog_9_method_57_code
def yX7_holes : MethodName := ⟨RX7, "holes", "(II)I"⟩
abbrev cX7_signed : ByteArray := prog_9_method_58_code
def yX7_signed : MethodName := ⟨RX7, "signed", "(I)I"⟩
abbrev cX7_rowMany : ByteArray := prog_9_method_59_code
def yX7_rowMany : MethodName := ⟨RX7, "rowMany", "()I"⟩
abbrev cX7_rowHeight : ByteArray := prog_9_method_60_code
def yX7_rowHeight : MethodName := ⟨RX7, "rowHeight", "()I"⟩
abbrev cX7_flip : ByteArray := prog_9_method_61_code
def yX7_flip : MethodName := ⟨RX7, "flip", "(I)I"⟩
abbrev cX7_findBorder : ByteArray := prog_9_method_62_code
def yX7_findBorder : MethodName := ⟨RX7, "findBorder", "()V"⟩
abbrev cX7_border : ByteArray := prog_9_method_63_code
def yX7_border : MethodName := ⟨RX7, "border", "()I"⟩
abbrev cX7_drop : ByteArray := prog_9_method_64_code
def yX7_drop : MethodName := ⟨RX7, "drop", "()I"⟩
abbrev cX7_rowAt : ByteArray := prog_9_method_65_code
def yX7_rowAt : MethodName := ⟨RX7, "rowAt", "(I)I"⟩
abbrev cX7_isRound : ByteArray := prog_9_method_66_code
def yX7_isRound : MethodName := ⟨RX7, "isRound", "()Z"⟩
abbrev cX7_fills : ByteArray := prog_9_method_67_code
def yX7_fills : MethodName := ⟨RX7, "fills", "(I)Z"⟩
abbrev cX7_mean : ByteArray := prog_9_method_68_code
def yX7_mean : MethodName := ⟨RX7, "mean", "(I)D"⟩
abbrev cX7_share : ByteArray := prog_9_method_69_code
def yX7_share : MethodName := ⟨RX7, "share", "(I)F"⟩
abbrev cX7_checksum : ByteArray := prog_9_method_70_code
def yX7_checksum : MethodName := ⟨RX7, "checksum", "()J"⟩
abbrev cX7_isSound : ByteArray := prog_9_method_71_code
def yX7_isSound : MethodName := ⟨RX7, "isSound", "(I)Z"⟩
abbrev cX7_isTrue : ByteArray := prog_9_method_72_code
def yX7_isTrue : MethodName := ⟨RX7, "isTrue", "(III)Z"⟩
abbrev cX7_faceIsTrue : ByteArray := prog_9_method_73_code
def yX7_faceIsTrue : MethodName := ⟨RX7, "faceIsTrue", "(II)Z"⟩
abbrev cX7_pairIsTrue : ByteArray := prog_9_method_74_code
def yX7_pairIsTrue : MethodName := ⟨RX7, "pairIsTrue", "(II)Z"⟩
def RJx145de : String := "java/io/Serializable"
def RJ6 : String := "java/lang/Integer"
abbrev cJ6_bitCount_0f7a4 : ByteArray := prog_15_method_49_code
def yJ6_bitCount_0f7a4 : MethodName := ⟨RJ6, "bitCount", "(I)I"⟩
def RJ13 : String := "java/lang/Long"
abbrev cJ13_bitCount_95d88 : ByteArray := prog_16_method_50_code
def yJ13_bitCount_95d88 : MethodName := ⟨RJ13, "bitCount", "(J)I"⟩
def RJ0 : String := "java/lang/String"
def RL : String := "HoleworksLaw"
abbrev cL_put : ByteArray := method_3_code
def yL_put : MethodName := ⟨RL, "put", "(LHoleworks;II[J)I"⟩
abbrev cL_take : ByteArray := method_4_code
def yL_take : MethodName := ⟨RL, "take", "(LHoleworks;II[J)I"⟩
abbrev cL_clear : ByteArray := method_5_code
def yL_clear : MethodName := ⟨RL, "clear", "(LHoleworks;I[J)I"⟩
abbrev cL_copy : ByteArray := method_6_code
def yL_copy : MethodName := ⟨RL, "copy", "(LHoleworks;II[J)I"⟩
abbrev cL_unite : ByteArray := method_7_code
def yL_unite : MethodName := ⟨RL, "unite", "(LHoleworks;III[J)I"⟩
abbrev cL_meet : ByteArray := method_8_code
def yL_meet : MethodName := ⟨RL, "meet", "(LHoleworks;III[J)I"⟩
abbrev cL_full : ByteArray := method_9_code
def yL_full : MethodName := ⟨RL, "full", "(LHoleworks;IZI[J)I"⟩
abbrev cL_low : ByteArray := method_10_code
def yL_low : MethodName := ⟨RL, "low", "(LHoleworks;III[J)I"⟩
abbrev cL_about : ByteArray := method_11_code
def yL_about : MethodName := ⟨RL, "about", "(LHoleworks;IIZI[J)I"⟩
abbrev cL_cone : ByteArray := method_12_code
def yL_cone : MethodName := ⟨RL, "cone", "(LHoleworks;III[J)I"⟩
abbrev cL_lift : ByteArray := method_13_code
def yL_lift : MethodName := ⟨RL, "lift", "(LHoleworks;IIII[J)I"⟩
abbrev cL_other : ByteArray := method_14_code
def yL_other : MethodName := ⟨RL, "other", "(LHoleworks;III[J)I"⟩
abbrev cL_exchange : ByteArray := method_15_code
def yL_exchange : MethodName := ⟨RL, "exchange", "(LHoleworks;IIII[J)I"⟩
abbrev cL_fold : ByteArray := method_16_code
def yL_fold : MethodName := ⟨RL, "fold", "(LHoleworks;II[J)I"⟩
abbrev cL_has : ByteArray := method_17_code
def yL_has : MethodName := ⟨RL, "has", "(LHoleworks;II[J)I"⟩
abbrev cL_size : ByteArray := method_18_code
def yL_size : MethodName := ⟨RL, "size", "(LHoleworks;I[J)I"⟩
abbrev cL_faces : ByteArray := method_19_code
def yL_faces : MethodName := ⟨RL, "faces", "(LHoleworks;II[J)I"⟩
abbrev cL_corners : ByteArray := method_20_code
def yL_corners : MethodName := ⟨RL, "corners", "(LHoleworks;I[J)I"⟩
abbrev cL_over : ByteArray := method_21_code
def yL_over : MethodName := ⟨RL, "over", "(LHoleworks;II[J)I"⟩
abbrev cL_greatest : ByteArray := method_22_code
def yL_greatest : MethodName := ⟨RL, "greatest", "(LHoleworks;I[J)I"⟩
abbrev cL_greatestAt : ByteArray := method_23_code
def yL_greatestAt : MethodName := ⟨RL, "greatestAt", "(LHoleworks;II[J)I"⟩
abbrev cL_isSame : ByteArray := method_24_code
def yL_isSame : MethodName := ⟨RL, "isSame", "(LHoleworks;II[J)I"⟩
abbrev cL_contains : ByteArray := method_25_code
def yL_contains : MethodName := ⟨RL, "contains", "(LHoleworks;II[J)I"⟩
abbrev cL_pieces : ByteArray := method_26_code
def yL_pieces : MethodName := ⟨RL, "pieces", "(LHoleworks;I[J)I"⟩
abbrev cL_areJoined : ByteArray := method_27_code
def yL_areJoined : MethodName := ⟨RL, "areJoined", "(LHoleworks;III[J)I"⟩
abbrev cL_free : ByteArray := method_28_code
def yL_free : MethodName := ⟨RL, "free", "(LHoleworks;II[J)I"⟩
abbrev cL_holes : ByteArray := method_29_code
def yL_holes : MethodName := ⟨RL, "holes", "(LHoleworks;II[J)I"⟩
abbrev cL_signed : ByteArray := method_30_code
def yL_signed : MethodName := ⟨RL, "signed", "(LHoleworks;I[J)I"⟩
abbrev cL_flip : ByteArray := method_31_code
def yL_flip : MethodName := ⟨RL, "flip", "(LHoleworks;I[J)I"⟩
abbrev cL_rowAt : ByteArray := method_32_code
def yL_rowAt : MethodName := ⟨RL, "rowAt", "(LHoleworks;I[J)I"⟩
abbrev cL_fills : ByteArray := method_33_code
def yL_fills : MethodName := ⟨RL, "fills", "(LHoleworks;I[J)I"⟩
abbrev cL_mean : ByteArray := method_34_code
def yL_mean : MethodName := ⟨RL, "mean", "(LHoleworks;I[D)I"⟩
abbrev cL_share : ByteArray := method_35_code
def yL_share : MethodName := ⟨RL, "share", "(LHoleworks;I[D)I"⟩
abbrev cL_isSound : ByteArray := method_36_code
def yL_isSound : MethodName := ⟨RL, "isSound", "(LHoleworks;I[J)I"⟩
abbrev cL_isTrue : ByteArray := method_37_code
def yL_isTrue : MethodName := ⟨RL, "isTrue", "(LHoleworks;III[J)I"⟩
abbrev cL_faceIsTrue : ByteArray := method_38_code
def yL_faceIsTrue : MethodName := ⟨RL, "faceIsTrue", "(LHoleworks;II[J)I"⟩
abbrev cL_pairIsTrue : ByteArray := method_39_code
def yL_pairIsTrue : MethodName := ⟨RL, "pairIsTrue", "(LHoleworks;II[J)I"⟩
abbrev cL_law : ByteArray := code
def yL_law : MethodName := ⟨RL, "law", "([I)Z"⟩
abbrev vwCl : List vw_C := [(RX0, TX0, 3), (RX1, TX1, 2), (RX2, TX2, 1), (RX4, TX4, 6), (RX6, TX6, 5), (RX7, TX7, 8)]
end
section
/-! ===== BEGIN words of one list among another's, by their places ===== -/
theorem goodIn_r {big : List Cond} (ws : List Cond) (ps : List Nat) (hp : ws = ps.filterMap (fun i => big[i]?)) (h : ws.all goodWord = true) : GoodIn big ws := by
  intro w hw
  have h1 := List.all_eq_true.mp h w hw
  rw [hp] at hw
  obtain ⟨i, -, hi⟩ := List.mem_filterMap.mp hw
  have hm : w ∈ big := by first | exact List.mem_of_getElem? hi | exact List.getElem?_mem hi
  exact ⟨hm, good_of_word h1⟩
theorem goodIn_app {big a b : List Cond} (ha : GoodIn big a) (hb : GoodIn big b) : GoodIn big (a ++ b) := fun w h => (List.mem_append.mp h).elim (ha w) (hb w)
theorem goodIn_ca {big a b : List Cond} {c : Cond} (ha : GoodIn big (c :: a)) (hb : GoodIn big b) : GoodIn big (c :: (a ++ b)) := fun w h => (List.mem_cons.mp h).elim (fun e => ha w (List.mem_cons.mpr (Or.inl e))) (fun h => (List.mem_append.mp h).elim (fun h => ha w (List.mem_cons.mpr (Or.inr h))) (hb w))
theorem goodIn_sub {big ws : List Cond} (hm : ∀ w ∈ ws, w ∈ big) (h : ws.all goodWord = true) : GoodIn big ws := fun w hw => ⟨hm w hw, good_of_word (List.all_eq_true.mp h w hw)⟩
/-! ===== END ===== -/
/-! ===== BEGIN exceptions that leave a method, and their catching by the caller (launches without stack traces) ===== -/
section VXA
/-! The laws vx_back, vx_callV, vx_callS, vx_callSW, vx_throw0, vx_throwS follow proofs of the library, with one case more: JvmDerived/Free/Laws.lean (Back.of_free), Shelf42/LK1.lean (callV, callS), Shelf/KitTraced.lean (throwNew0V, throwNewS). -/
/-- where a method has thrown q: the class by its name, the cell, what was written, the world -/
def vx_T (XC : String → State → State → Prop) (st : State) (q : Addr) (t : State) (mc ms : Nat) (free : Addr → Prop) : Prop :=
  ∃ (E : String) (ce : Cell) (L : List Loc), XC E st t ∧ t.heap[q]? = some ce ∧ ce.vm = .none ∧ st.vm.findClass E = some ce.cls ∧ st.WarmedH t.vm ∧ st.sameButNew ({ t with vm := st.vm } : State) L mc ms ∧ ∀ z ∈ L, free z.base
def vx_Q (Qc : Array Value → State → Outcome → State → Prop) (XC : String → State → State → Prop) (mc ms : Nat) (free : Addr → Prop) : Array Value → State → Outcome → State → Prop := fun a st o t =>
  (Qc a st o t ∧ ∃ L, FrameEnd st o t L mc ms ∧ ∀ q ∈ L, free q.base) ∨ ∃ q, o = .threw q ∧ vx_T XC st q t mc ms free
/-- a callee that returns or throws -/
def vx_Met (l : Launch) (y : MethodName) (ws : List Cond) (rm : Room) (Pc : Array Value → State → Prop) (Qc : Array Value → State → Outcome → State → Prop) (XC : String → State → State → Prop) (mc ms : Nat) (free : Addr → Prop) : Prop :=
  MetFree l y (headSpec ws rm) Pc (fun _ _ _ _ _ => True) (vx_Q Qc XC mc ms free)
def vx_Post (XC : String → State → State → Prop) (mc ms : Nat) (free : Addr → Prop) : Pt → Array Value → Addr → Pt → Prop := fun A a q B =>
  ∃ (g : JFrame) (mk : MethodId) (t : State) (L : List Loc) (E : String) (ce : Cell), B.U.heap = t.heap ∧ B.U.vm = t.vm ∧ XC E (A.U.calling g mk a) t ∧ t.heap[q]? = some ce ∧ ce.vm = .none ∧ A.U.vm.findClass E = some ce.cls ∧ B.locs = A.locs ++ L ∧ (∀ z ∈ L, free z.base) ∧ B.cells = A.cells + mc ∧ B.slots = A.slots + ms
def vx_Back (l : Launch) (R : Room) (p : Program) (e : Env) (below : List Frame) (s : State) (sargs : Array Value) (y : MethodName) (len W9 : Nat)
    (Pre : Pt → Array Value → Prop) (Post : Pt → Array Value → Option Value → Pt → Prop) (PostX : Pt → Array Value → Addr → Pt → Prop) : Prop :=
  ∀ (m : MethodId) (meth : Method) (c : Code) (A : Pt) (g : JFrame) (ig : Instr) (mk : MethodId) (a : Array Value),
    Stand p l e R s m sargs below meth c A.U A.locs A.cells A.slots → g.method = m → g.locals.size = c.maxLocals → decode c.code g.pc = .ok (ig, len) →
    2 * g.monitorRoom + (g.stack.map fun v => v.category).sum ≤ W9 → A.U.methodNamed? y = some mk → Pre A a →
    (∃ (v : Option Value) (B : Pt), Stand p l e R s m sargs below meth c B.U B.locs B.cells B.slots ∧ Post A a v B ∧
      Steps p.tables e below (doInvoke e (A.U.setTop g) [] mk a).1 (B.U.setTop { g with pc := g.pc + len, stack := v.toList ++ g.stack })) ∨
    (∃ (q : Addr) (B : Pt), Stand p l e R s m sargs below meth c B.U B.locs B.cells B.slots ∧ PostX A a q B ∧
      Steps p.tables e below (doInvoke e (A.U.setTop g) [] mk a).1 ((B.U.setTop g).pushFrame (.throwing q)))
section Payer
variable {l : Launch} {R : Room} {p : Program} {e : Env} {below : List Frame} {s : State} {sargs : Array Value} {y : MethodName} {len W9 : Nat}
theorem vx_back {ws : List Cond} {rm : Room} {Pc : Array Value → State → Prop} {Qc : Array Value → State → Outcome → State → Prop} {XC : String → State → State → Prop} {mc ms : Nat} {free : Addr → Prop} {bytes : ByteArray} {maxL : Nat} {ret : Option FieldType}
    (hM : vx_Met l y ws rm Pc Qc XC mc ms free) (hblind : FrameBlind Pc) (hrc : rm.cells = mc) (hrs : rm.slots = ms)
    (hframes : rm.frames + 1 ≤ R.frames) (hlocals : W9 + (maxL + 11) + rm.locals ≤ R.locals)
    (hws : ∀ w ∈ ws, ∀ a' U, s.WarmedH U.vm → w.before a' U = true) (hcode : Cond.code y bytes maxL ret ∈ ws) (hinit : ∀ a' U, s.WarmedH U.vm → (Cond.initialized y.cls).before a' U = true) :
    vx_Back l R p e below s sargs y len W9 (PreOf R mc ms Pc) (PostOf Qc mc ms free) (vx_Post XC mc ms free) := by
  intro m meth c A g ig mk a X hg hsize hdg hW hn hp
  have h1 : (headSpec ws rm).pre.before a A.U = true := atoms_intro fun w hw => hws w hw _ _ X.warmed
  have h2 : (Cond.code y bytes maxL ret).before a A.U = true := hws _ hcode _ _ X.warmed
  have h3 : (Cond.initialized y.cls).before a A.U = true := hinit _ _ X.warmed
  have h4 : A.cells + (headSpec ws rm).room.cells ≤ R.cells := by rw [show (headSpec ws rm).room.cells = mc from hrc]; exact hp.1
  have h5 : A.slots + (headSpec ws rm).room.slots ≤ R.slots := by rw [show (headSpec ws rm).room.slots = ms from hrs]; exact hp.2.1
  have hPc : Pc a (A.U.calling g mk a) := hblind _ _ _ _ hp.2.2
  obtain ⟨U, Ls, c0, s0⟩ := A
  dsimp only [Pt.U, Pt.locs, Pt.cells, Pt.slots] at h1 h2 h3 h4 h5 X hn hPc ⊢
  obtain ⟨methY, cY, hmY, hcY, -, hlY, -, -, -, -⟩ := Cond.code_spec hn h2
  obtain ⟨kY, hkY, -⟩ := className_of_methodNamed hn
  have hinitY : kY.init = .initialized := Cond.initialized_spec (findClass_of_methodNamed hn) hkY h3
  have h : At U g.method c below := by rw [hg]; exact X.here
  have hlocals9 : W9 + (maxL + 11) + (headSpec ws rm).room.locals ≤ R.locals := hlocals
  have happ : (headSpec ws rm).appliesLoose y e.platform (U.calling g mk a) = true :=
    Spec.appliesLoose_calling (g := g) h hdg hn hkY hinitY
      (X.room_calling (g := g) (R' := (headSpec ws rm).room) hsize hmY hcY hframes (by rw [hlY]; omega) h4 h5) h1
  obtain ⟨mid, hmid⟩ := h.above
  have hfr : (U.setTop g).frames = (.java g :: mid) ++ below := by rw [State.frames_setTop' g h.top, hmid]; rfl
  obtain ⟨o, s₂, hsteps, -, hend, hq⟩ := Steps.callFree hM p X.admits X.cas X.clock (acts := []) hfr happ hPc trivial
  have hq' : vx_Q Qc XC mc ms free a (U.calling g mk a) o s₂ := hq
  rw [State.frames_setTop' g h.top] at hend
  obtain ⟨g₀, hg0⟩ := Option.isSome_iff_exists.mp h.top
  obtain ⟨r, hr⟩ := State.topJava?_eq_some.mp hg0
  have hr' : (({ U with heap := s₂.heap, slotsUsed := s₂.slotsUsed } : State).setVm s₂.vm).frames = .java g₀ :: r := hr
  rcases hq' with ⟨hqc, L, hfe, hL⟩ | ⟨q, rfl, E, ce, L, hx, hce, hcv, hcl, hW₂, hsm, hL⟩
  · obtain ⟨⟨v, rfl⟩, hW₂, e2, q2, q3, q4, q5, q6⟩ := id hfe
    have e3 : s₂ = ({ (U.calling g mk a).setFrames s₂.frames with heap := s₂.heap, slotsUsed := s₂.slotsUsed } : State).setVm s₂.vm := by
      have : s₂ = ({ s₂ with vm := (U.calling g mk a).vm } : State).setVm s₂.vm := rfl
      rw [e2] at this
      exact this
    obtain ⟨c₂, i₂, len₂, hc₂, hd₂, hf₂⟩ := hend
    have hW' : U.WarmedH s₂.vm := hW₂
    have hcc : c₂ = c := by
      have h1 : s₂.code? g.method = U.code? g.method := by
        rw [State.code?_eq, State.code?_eq, hW'.alike.method?]
      exact Option.some.inj (hc₂.symm.trans (h1.trans h.code))
    subst hcc
    have hlen : len₂ = len := by rw [hdg] at hd₂; cases hd₂; rfl
    subst hlen
    have hs₂ : s₂ = (({ U with heap := s₂.heap, slotsUsed := s₂.slotsUsed } : State).setVm s₂.vm).setTop { g with pc := g.pc + len₂, stack := v.toList ++ g.stack } := by
      refine e3.trans ?_
      rw [hf₂, State.calling_eq h.top, State.setFrames_setFrames, State.setTop_of_frames _ hr', hr]
      rfl
    have hsame : U.sameButNew ({ U with heap := s₂.heap, slotsUsed := s₂.slotsUsed } : State) L mc ms := by
      refine ⟨?_, q2, q3, q4, q5, q6⟩
      obtain ⟨t, ht, -⟩ := State.frames_cons hr
      show ({ U with heap := s₂.heap, slotsUsed := s₂.slotsUsed } : State) = { U.setFrames U.frames with heap := s₂.heap, slotsUsed := s₂.slotsUsed }
      rw [State.setFrames_self ht]
    subst hg
    refine Or.inl ⟨v, ⟨(({ U with heap := s₂.heap, slotsUsed := s₂.slotsUsed } : State).setVm s₂.vm), Ls ++ L, c0 + mc, s0 + ms⟩,
      ⟨X.admits, X.cas, X.clock, X.frames, X.room, X.hears, X.method, X.code, (X.here.setHeapUsed s₂.heap s₂.slotsUsed).setVm hW'.alike, X.tail, State.WarmedH.trans X.warmed hW', X.limits, X.bytes, X.same.trans (hsame.setVm s.vm)⟩,
      ⟨g, mk, s₂, L, rfl, rfl, hqc, rfl, hL, rfl, rfl⟩, ?_⟩
    show Steps p.tables e below _ ((({ U with heap := s₂.heap, slotsUsed := s₂.slotsUsed } : State).setVm s₂.vm).setTop { g with pc := g.pc + len₂, stack := v.toList ++ g.stack })
    rw [← hs₂]
    exact hsteps
  · obtain ⟨e2, q2, q3, q4, q5, q6⟩ := id hsm
    have e3 : s₂ = ({ (U.calling g mk a).setFrames s₂.frames with heap := s₂.heap, slotsUsed := s₂.slotsUsed } : State).setVm s₂.vm := by
      have : s₂ = ({ s₂ with vm := (U.calling g mk a).vm } : State).setVm s₂.vm := rfl
      rw [e2] at this
      exact this
    have hf₂ : s₂.frames = .throwing q :: .java g :: U.frames.tail := hend
    have hW' : U.WarmedH s₂.vm := hW₂
    have hs₂ : s₂ = ((({ U with heap := s₂.heap, slotsUsed := s₂.slotsUsed } : State).setVm s₂.vm).setTop g).pushFrame (.throwing q) := by
      refine e3.trans ?_
      rw [hf₂, State.calling_eq h.top, State.setFrames_setFrames, State.pushFrame, State.frames_setTop _ hr', State.setTop_of_frames _ hr', State.setFrames_setFrames, hr]
      rfl
    have hsame : U.sameButNew ({ U with heap := s₂.heap, slotsUsed := s₂.slotsUsed } : State) L mc ms := by
      refine ⟨?_, q2, q3, q4, q5, q6⟩
      obtain ⟨t, ht, -⟩ := State.frames_cons hr
      show ({ U with heap := s₂.heap, slotsUsed := s₂.slotsUsed } : State) = { U.setFrames U.frames with heap := s₂.heap, slotsUsed := s₂.slotsUsed }
      rw [State.setFrames_self ht]
    subst hg
    refine Or.inr ⟨q, ⟨(({ U with heap := s₂.heap, slotsUsed := s₂.slotsUsed } : State).setVm s₂.vm), Ls ++ L, c0 + mc, s0 + ms⟩,
      ⟨X.admits, X.cas, X.clock, X.frames, X.room, X.hears, X.method, X.code, (X.here.setHeapUsed s₂.heap s₂.slotsUsed).setVm hW'.alike, X.tail, State.WarmedH.trans X.warmed hW', X.limits, X.bytes, X.same.trans (hsame.setVm s.vm)⟩,
      ⟨g, mk, s₂, L, E, ce, rfl, rfl, hx, hce, hcv, hcl, rfl, hL, rfl, rfl⟩, ?_⟩
    show Steps p.tables e below _ (((({ U with heap := s₂.heap, slotsUsed := s₂.slotsUsed } : State).setVm s₂.vm).setTop g).pushFrame (.throwing q))
    rw [← hs₂]
    exact hsteps
end Payer
section Calls
variable {p : Program} {l : Launch} {e : Env} {R : Room} {s : State} {m : MethodId} {args : Array Value} {below : List Frame} {meth : Method} {c : Code} {T : State} {locs : List Loc} {cells slots : Nat}
theorem vx_callV (X : Stand p l e R s m args below meth c T locs cells slots) (hexec : p.tables.exec = Jvm.exec) {own C : String} {index : Nat} {y : MethodName} {bytes : ByteArray} {maxL : Nat} {ret : Option FieldType}
    (hown : s.vm.findClass own = some m.cls) (hlink : (Cond.methodLink own index y).before args s = true) (hinst : (Cond.instanceMethod y).before args s = true) (hsel : (Cond.selects C y y).before args s = true)
    (hcode : (Cond.code y bytes maxL ret).before args s = true) (hy : y.cls ≠ "java/lang/invoke/MethodHandle" ∧ y.cls ≠ "java/lang/invoke/VarHandle")
    {W9 : Nat} {Pre : Pt → Array Value → Prop} {Post : Pt → Array Value → Option Value → Pt → Prop} {PostX : Pt → Array Value → Addr → Pt → Prop} (hK : vx_Back l R p e below s args y 3 W9 Pre Post PostX)
    {b : Addr} {cellB : Cell} (hcell : T.heap[b]? = some cellB) (hobj : cellB.vm.isStatics = false) (hcls : s.vm.findClass C = some cellB.cls)
    {g : JFrame} (hg : g.method = m) (hsize : g.locals.size = c.maxLocals) {argsL rest : List Value} (hlen : ∀ sig, parseMethodDescriptor y.desc = some sig → argsL.length = sig.parameters.length)
    (hstack : g.stack = argsL.reverse ++ .ref b :: rest) (hW : 2 * g.monitorRoom + (rest.map fun v => v.category).sum ≤ W9) (hdg : decode c.code g.pc = .ok (.invokevirtual index, 3))
    (hpre : ∀ vm₁, s.WarmedH vm₁ → Pre ⟨T.setVm vm₁, locs, cells, slots⟩ (Value.ref b :: argsL).toArray) :
    (∃ (v : Option Value) (vm₁ : Vm) (B : Pt), s.WarmedH vm₁ ∧ Stand p l e R s m args below meth c B.U B.locs B.cells B.slots ∧ Post ⟨T.setVm vm₁, locs, cells, slots⟩ (Value.ref b :: argsL).toArray v B ∧
      ∀ target, Steps p.tables e below (B.U.setTop { g with pc := g.pc + 3, stack := v.toList ++ rest }) target → Steps p.tables e below (T.setTop g) target) ∨
    (∃ (q : Addr) (vm₁ : Vm) (B : Pt), s.WarmedH vm₁ ∧ Stand p l e R s m args below meth c B.U B.locs B.cells B.slots ∧ PostX ⟨T.setVm vm₁, locs, cells, slots⟩ (Value.ref b :: argsL).toArray q B ∧
      Steps p.tables e below (T.setTop g) ((B.U.setTop { g with stack := rest }).pushFrame (.throwing q))) := by
  obtain ⟨mk, methM, hnamed, hmethM, hstM, habM⟩ := Cond.instanceMethod_spec hinst
  obtain ⟨methM', cM, hmethM', -, -, -, -, -, -, hsigM⟩ := Cond.code_spec hnamed hcode
  cases hmethM.symm.trans hmethM'
  obtain ⟨c2, r2, m2, q1, q2, q3, q4, kP, hkP, hkPi⟩ := Cond.selects_spec hsel
  cases hcls.symm.trans q1
  cases (State.methodFound?_of_named hnamed hy).symm.trans q2
  cases hnamed.symm.trans q3
  have hselP : selectMethod e.platform s.vm cellB.cls mk = .method mk := by rw [Launch.admits_selectMethod X.admits]; exact q4
  obtain ⟨vm₁, X₁, hstep₁⟩ := X.invokevirtual hexec hown hlink hnamed hmethM hstM hkP hkPi hy (a := b) (cell := cellB) hcell
    (fun z h => by rw [h] at hobj; cases hobj) hselP hmethM habM hkP hkPi (g := g) hg (argsL := argsL) (rest := rest) (hlen _ hsigM) hstack hdg
  rcases hK m meth c ⟨T.setVm vm₁, locs, cells, slots⟩ { g with stack := rest } (.invokevirtual index) mk (Value.ref b :: argsL).toArray X₁ hg hsize hdg hW (X₁.named hnamed) (hpre vm₁ X₁.warmed) with ⟨v, B, X', hpost, hsteps⟩ | ⟨q, B, X', hpost, hsteps⟩
  · exact Or.inl ⟨v, vm₁, B, X₁.warmed, X', hpost, fun target h => hstep₁ _ fun acts => by rw [doInvoke_state]; exact hsteps.trans h⟩
  · exact Or.inr ⟨q, vm₁, B, X₁.warmed, X', hpost, hstep₁ _ fun acts => by rw [doInvoke_state]; exact hsteps⟩
theorem vx_callS (X : Stand p l e R s m args below meth c T locs cells slots) (hexec : p.tables.exec = Jvm.exec) {own : String} {index : Nat} {y : MethodName} {bytes : ByteArray} {maxL : Nat} {ret : Option FieldType}
    (hown : s.vm.findClass own = some m.cls) (hlink : (Cond.methodLink own index y).before args s = true) (hstat : (Cond.static y).before args s = true) (hinit : (Cond.initialized y.cls).before args s = true)
    (hcode : (Cond.code y bytes maxL ret).before args s = true) (hy : y.cls ≠ "java/lang/invoke/MethodHandle" ∧ y.cls ≠ "java/lang/invoke/VarHandle")
    {W9 : Nat} {Pre : Pt → Array Value → Prop} {Post : Pt → Array Value → Option Value → Pt → Prop} {PostX : Pt → Array Value → Addr → Pt → Prop} (hK : vx_Back l R p e below s args y 3 W9 Pre Post PostX)
    {g : JFrame} (hg : g.method = m) (hsize : g.locals.size = c.maxLocals) {argsL rest : List Value} (hlen : ∀ sig, parseMethodDescriptor y.desc = some sig → argsL.length = sig.parameters.length)
    (hstack : g.stack = argsL.reverse ++ rest) (hW : 2 * g.monitorRoom + (rest.map fun v => v.category).sum ≤ W9) (hdg : decode c.code g.pc = .ok (.invokestatic index, 3))
    (hpre : ∀ vm₁, s.WarmedH vm₁ → Pre ⟨T.setVm vm₁, locs, cells, slots⟩ argsL.toArray) :
    (∃ (v : Option Value) (vm₁ : Vm) (B : Pt), s.WarmedH vm₁ ∧ Stand p l e R s m args below meth c B.U B.locs B.cells B.slots ∧ Post ⟨T.setVm vm₁, locs, cells, slots⟩ argsL.toArray v B ∧
      ∀ target, Steps p.tables e below (B.U.setTop { g with pc := g.pc + 3, stack := v.toList ++ rest }) target → Steps p.tables e below (T.setTop g) target) ∨
    (∃ (q : Addr) (vm₁ : Vm) (B : Pt), s.WarmedH vm₁ ∧ Stand p l e R s m args below meth c B.U B.locs B.cells B.slots ∧ PostX ⟨T.setVm vm₁, locs, cells, slots⟩ argsL.toArray q B ∧
      Steps p.tables e below (T.setTop g) ((B.U.setTop { g with stack := rest }).pushFrame (.throwing q))) := by
  obtain ⟨mk, hnamed⟩ := Cond.code_named hcode
  obtain ⟨methM, cM, hmethM, -, -, -, -, -, -, hsigM⟩ := Cond.code_spec hnamed hcode
  have hstatic : methM.isStatic = true := Cond.static_spec hnamed hmethM hstat
  obtain ⟨kP, hkP, -⟩ := className_of_methodNamed hnamed
  have hinitP : kP.init = .initialized := Cond.initialized_spec (findClass_of_methodNamed hnamed) hkP hinit
  obtain ⟨vm₁, X₁, hstep₁⟩ := X.invokestatic hexec hown hlink hnamed hmethM hstatic hkP hinitP hy (g := g) hg (argsL := argsL) (rest := rest) (hlen _ hsigM) hstack hdg
  rcases hK m meth c ⟨T.setVm vm₁, locs, cells, slots⟩ { g with stack := rest } (.invokestatic index) mk argsL.toArray X₁ hg hsize hdg hW (X₁.named hnamed) (hpre vm₁ X₁.warmed) with ⟨v, B, X', hpost, hsteps⟩ | ⟨q, B, X', hpost, hsteps⟩
  · exact Or.inl ⟨v, vm₁, B, X₁.warmed, X', hpost, fun target h => hstep₁ _ fun acts => by rw [doInvoke_state]; exact hsteps.trans h⟩
  · exact Or.inr ⟨q, vm₁, B, X₁.warmed, X', hpost, hstep₁ _ fun acts => by rw [doInvoke_state]; exact hsteps⟩
end Calls
theorem vx_cls {s : State} {T : State} {vm₁ : Vm} {E : String} {k : ClassId} (hW : s.WarmedH vm₁) (h : (T.setVm vm₁).vm.findClass E = some k) : s.vm.findClass E = some k := by
  have h1 : vm₁.findClass E = some k := h
  rw [hW.alike.findClass] at h1
  exact h1
/-- the method's frame g, with q thrown over it -/
def vx_W (p : Program) (l : Launch) (e : Env) (R : Room) (s : State) (m : MethodId) (args : Array Value) (below : List Frame) (meth : Method) (c : Code) (H : Heap) (locs : List Loc) (cells slots : Nat) (Q : State → Prop) (g : JFrame) (q : Addr) : Prop :=
  ∀ T : State, T.heap = H → Stand p l e R s m args below meth c T locs cells slots → ∃ t, Steps p.tables e below ((T.setTop g).pushFrame (.throwing q)) t ∧ Q t
def vx_Run (p : Program) (l : Launch) (e : Env) (R : Room) (s : State) (m : MethodId) (args : Array Value) (below : List Frame) (meth : Method) (c : Code) (H : Heap) (locs : List Loc) (cells slots mc ms : Nat) (g : JFrame) (rest : List Value) (Qa : State → Outcome → State → Prop) (XC : String → State → State → Prop) (free : Addr → Prop) : Prop :=
  ∀ T : State, T.heap = H → Stand p l e R s m args below meth c T locs cells slots →
    (∃ (v : Option Value) (st₀ t T' : State) (L : List Loc), st₀.heap = H ∧ Stand p l e R s m args below meth c T' (locs ++ L) (cells + mc) (slots + ms) ∧ (∀ q ∈ L, free q.base) ∧ T'.heap = t.heap ∧ T'.vm = t.vm ∧ Qa st₀ (.returned v) t ∧
      Goes p e below T g T' { g with pc := g.pc + 3, stack := v.toList ++ rest }) ∨
    (∃ (q : Addr) (st₀ t T' : State) (L : List Loc) (E : String) (ce : Cell), st₀.heap = H ∧ Stand p l e R s m args below meth c T' (locs ++ L) (cells + mc) (slots + ms) ∧ (∀ z ∈ L, free z.base) ∧ T'.heap = t.heap ∧ T'.vm = t.vm ∧ XC E st₀ t ∧ t.heap[q]? = some ce ∧ ce.vm = .none ∧ s.vm.findClass E = some ce.cls ∧
      Steps p.tables e below (T.setTop g) ((T'.setTop { g with stack := rest }).pushFrame (.throwing q)))
def vx_X {S : Type} (px : S → Prop) (B : String → S → State → Prop) (A : Nat → Prop) : String → State → State → Prop := fun E st t => ∃ u : S, px u ∧ B E u t ∧ va_F A st t
section Runs
variable {p : Program} {l : Launch} {e : Env} {R : Room} {s : State} {m : MethodId} {args : Array Value} {below : List Frame} {meth : Method} {c : Code} {H : Heap} {locs : List Loc} {cells slots : Nat}
variable {y : MethodName} {bytes cc : ByteArray} {maxL nL mc ms n index : Nat} {ret : Option FieldType} {ws : List Cond} {rm : Room} {Pc : Array Value → State → Prop} {Qc : Array Value → State → Outcome → State → Prop} {XC : String → State → State → Prop} {free : Addr → Prop} {Ts : List Cond} {own C : String} {b : Addr} {As rest : List Value} {g : JFrame}
theorem vx_callBack (cb : CallB R s args own index y bytes maxL ret ws rm mc ms n) (hM : vx_Met l y ws rm Pc Qc XC mc ms free) (hbl : FrameBlind Pc) : vx_Back l R p e below s args y 3 8 (PreOf R mc ms Pc) (PostOf Qc mc ms free) (vx_Post XC mc ms free) := by
  obtain ⟨hrc, hrs, hfr, hlo, hws, hcw, -, hini, -⟩ := cb
  exact vx_back (bytes := bytes) (maxL := maxL) (ret := ret) hM hbl hrc hrs hfr hlo hws hcw (fun a' U hW => word_at hW (Or.inl (by first | rfl | simp [Cond.onTables, Cond.keeps, Cond.steady])) hini)
theorem vx_runV (S : CallFix p m c cc nL s args Ts own) (hM : vx_Met l y ws rm Pc Qc XC mc ms free) (cw : CallW R s args own C index y bytes maxL ret ws rm mc ms n) (hp : PreV s H C b Pc As)
    (hg : g.method = m) (hn : As.length = n) (hsize : g.locals.size = nL) (hstack : g.stack = As.reverse ++ .ref b :: rest) (hW : 2 * g.monitorRoom + (rest.map fun v => v.category).sum ≤ 8) (hdg : decode cc g.pc = .ok (.invokevirtual index, 3)) (hf : cells + mc ≤ R.cells ∧ slots + ms ≤ R.slots) :
    vx_Run p l e R s m args below meth c H locs cells slots mc ms g rest (Qc (Value.ref b :: As).toArray) XC free := by
  have hK : vx_Back l R p e below s args y 3 8 (PreOf R mc ms Pc) (PostOf Qc mc ms free) (vx_Post XC mc ms free) := vx_callBack cw.1 hM hp.1
  obtain ⟨⟨-, -, -, -, -, -, hcode, -, hy, hlen, hl⟩, hin, hse⟩ := cw
  obtain ⟨hx, hb, hml, ho, -⟩ := S
  obtain ⟨-, ⟨cellB, hcB, hoB, hclB⟩, hPc⟩ := hp
  intro T hT X
  rcases vx_callV X hx (C := C) (bytes := bytes) (maxL := maxL) (ret := ret) ho hl hin hse hcode hy hK (by rw [hT]; exact hcB) hoB hclB hg (hsize.trans hml.symm) (argsL := As) (rest := rest) (fun sig h => hn.trans (hlen sig h)) hstack hW (by rw [hb]; exact hdg)
    (fun vm₁ hW₁ => ⟨hf.1, hf.2, hPc (T.setVm vm₁) hT hW₁⟩) with ⟨v, vm₁, ⟨U', l2, c2, s2⟩, hW₁, X', ⟨g', mk, t, L, e1, e2, hq, h1, hL, h2, h3⟩, st⟩ | ⟨q, vm₁, ⟨U', l2, c2, s2⟩, hW₁, X', ⟨g', mk, t, L, E, ce, e1, e2, hq, hce, hcv, hcl, h1, hL, h2, h3⟩, st⟩
  · dsimp only [Pt.U, Pt.locs, Pt.cells, Pt.slots] at X' e1 e2 h1 h2 h3 st
    subst h1; subst h2; subst h3
    exact Or.inl ⟨v, (T.setVm vm₁).calling g' mk (Value.ref b :: As).toArray, t, U', L, hT, X', hL, e1, e2, hq, st⟩
  · dsimp only [Pt.U, Pt.locs, Pt.cells, Pt.slots] at X' e1 e2 h1 h2 h3 st hcl
    subst h1; subst h2; subst h3
    exact Or.inr ⟨q, (T.setVm vm₁).calling g' mk (Value.ref b :: As).toArray, t, U', L, E, ce, hT, X', hL, e1, e2, hq, hce, hcv, vx_cls hW₁ hcl, st⟩
theorem vx_runS (S : CallFix p m c cc nL s args Ts own) (hM : vx_Met l y ws rm Pc Qc XC mc ms free) (cw : CallB R s args own index y bytes maxL ret ws rm mc ms n ∧ (Cond.static y).before args s = true) (hp : PreS s H Pc As)
    (hg : g.method = m) (hn : As.length = n) (hsize : g.locals.size = nL) (hstack : g.stack = As.reverse ++ rest) (hW : 2 * g.monitorRoom + (rest.map fun v => v.category).sum ≤ 8) (hdg : decode cc g.pc = .ok (.invokestatic index, 3)) (hf : cells + mc ≤ R.cells ∧ slots + ms ≤ R.slots) :
    vx_Run p l e R s m args below meth c H locs cells slots mc ms g rest (Qc As.toArray) XC free := by
  have hK : vx_Back l R p e below s args y 3 8 (PreOf R mc ms Pc) (PostOf Qc mc ms free) (vx_Post XC mc ms free) := vx_callBack cw.1 hM hp.1
  obtain ⟨⟨-, -, -, -, -, -, hcode, hini, hy, hlen, hl⟩, hstt⟩ := cw
  obtain ⟨hx, hb, hml, ho, -⟩ := S
  intro T hT X
  rcases vx_callS X hx (bytes := bytes) (maxL := maxL) (ret := ret) ho hl hstt hini hcode hy hK hg (hsize.trans hml.symm) (argsL := As) (rest := rest) (fun sig h => hn.trans (hlen sig h)) hstack hW (by rw [hb]; exact hdg)
    (fun vm₁ hW₁ => ⟨hf.1, hf.2, hp.2 (T.setVm vm₁) hT hW₁⟩) with ⟨v, vm₁, ⟨U', l2, c2, s2⟩, hW₁, X', ⟨g', mk, t, L, e1, e2, hq, h1, hL, h2, h3⟩, st⟩ | ⟨q, vm₁, ⟨U', l2, c2, s2⟩, hW₁, X', ⟨g', mk, t, L, E, ce, e1, e2, hq, hce, hcv, hcl, h1, hL, h2, h3⟩, st⟩
  · dsimp only [Pt.U, Pt.locs, Pt.cells, Pt.slots] at X' e1 e2 h1 h2 h3 st
    subst h1; subst h2; subst h3
    exact Or.inl ⟨v, (T.setVm vm₁).calling g' mk As.toArray, t, U', L, hT, X', hL, e1, e2, hq, st⟩
  · dsimp only [Pt.U, Pt.locs, Pt.cells, Pt.slots] at X' e1 e2 h1 h2 h3 st hcl
    subst h1; subst h2; subst h3
    exact Or.inr ⟨q, (T.setVm vm₁).calling g' mk As.toArray, t, U', L, E, ce, hT, X', hL, e1, e2, hq, hce, hcv, vx_cls hW₁ hcl, st⟩
end Runs
section Rows
variable {p : Program} {l : Launch} {e : Env} {R : Room} {s : State} {m : MethodId} {args : Array Value} {below : List Frame} {meth : Method} {c : Code} {H : Heap} {locs : List Loc} {cells slots : Nat} {Q : State → Prop}
variable {mc ms : Nat} {free : Addr → Prop} {A0 A1 : Nat → Prop} {H0 : Heap} {a : Array Value} {pc : Nat} {ls : Array Slot} {st0 rest : List Value}
theorem vx_keep {st₀ t T' : State} {L : List Loc} (h0 : st₀.heap = H) (e1 : T'.heap = t.heap) (hS : va_S A0 H0 H locs) (hA : ∀ q, q < H.size → A1 q → A0 q) (hf : ∀ q, free q → A0 q) (hL : ∀ q ∈ L, free q.base) (hF : va_F A1 st₀ t) :
    H.size ≤ T'.heap.size ∧ (∀ q : Nat, q < H.size → ¬ A1 q → T'.heap[q]? = H[q]?) ∧ va_S A0 H0 T'.heap (locs ++ L) := by
  obtain ⟨hz, hk⟩ := hF
  rw [h0] at hz hk
  exact ⟨by rw [e1]; exact hz, fun q h1 h2 => by rw [e1]; exact hk q h1 h2,
    ⟨Nat.le_trans hS.1 (by rw [e1]; exact hz), fun q h1 h2 => by rw [e1, hk q (Nat.lt_of_lt_of_le h1 hS.1) (fun z => h2 (hA q (Nat.lt_of_lt_of_le h1 hS.1) z))]; exact hS.2.1 q h1 h2, fun q hq => by
      rcases List.mem_append.mp hq with h | h
      · exact hS.2.2 q h
      · exact hf _ (hL q h)⟩⟩
theorem vx_calli {S SX : Type} {post : Int32 → S → Prop} {px : SX → Prop} {B : S → State → Prop} {BX : String → SX → State → Prop} {AX : Nat → Prop} (hr : vx_Run p l e R s m args below meth c H locs cells slots mc ms (F0 m pc ls st0) rest (va_Qi post B A1 a) (vx_X px BX AX) free) (hS : va_S A0 H0 H locs) (hA : ∀ q, q < H.size → A1 q → A0 q) (hf : ∀ q, free q → A0 q) (hAX : ∀ q, q < H.size → AX q → A0 q)
    (kx : ∀ (E : String) (ce : Cell) (q9 : Addr) (u : SX) (t : State) (H1 : Heap) (locs1 : List Loc), t.heap = H1 → s.vm.Alike t.vm → px u → BX E u t → H.size ≤ H1.size → (∀ q : Nat, q < H.size → ¬ AX q → H1[q]? = H[q]?) → va_S A0 H0 H1 locs1 → H1[q9]? = some ce → ce.vm = .none → s.vm.findClass E = some ce.cls → vx_W p l e R s m args below meth c H1 locs1 (cells + mc) (slots + ms) Q (F0 m pc ls rest) q9)
    (kk : ∀ (r : Int32) (u : S) (t : State) (H1 : Heap) (locs1 : List Loc), t.heap = H1 → s.vm.Alike t.vm → post r u → B u t → H.size ≤ H1.size → (∀ q : Nat, q < H.size → ¬ A1 q → H1[q]? = H[q]?) → va_S A0 H0 H1 locs1 → W p l e R s m args below meth c H1 locs1 (cells + mc) (slots + ms) Q (F0 m (pc + 3) ls (.int r :: rest))) : W p l e R s m args below meth c H locs cells slots Q (F0 m pc ls st0) := by
  intro T hT X
  rcases hr T hT X with ⟨v, st₀, t, T', L, h0, X', hL, e1, e2, ⟨⟨r, u, hv, hp, hb⟩, hF⟩, st⟩ | ⟨q, st₀, t, T', L, E, ce, h0, X', hL, e1, e2, ⟨u, hp, hb, hF⟩, hce, hcv, hcl, st⟩
  · cases hv
    obtain ⟨k1, k2, k3⟩ := vx_keep h0 e1 hS hA hf hL hF
    obtain ⟨t2, a1, b1⟩ := kk r u t T'.heap (locs ++ L) e1.symm (by rw [← e2]; exact X'.warmed.alike) hp hb k1 k2 k3 T' rfl X'
    exact ⟨t2, st t2 a1, b1⟩
  · obtain ⟨k1, k2, k3⟩ := vx_keep h0 e1 hS hAX hf hL hF
    obtain ⟨t2, a1, b1⟩ := kx E ce q u t T'.heap (locs ++ L) e1.symm (by rw [← e2]; exact X'.warmed.alike) hp hb k1 k2 k3 (by rw [e1]; exact hce) hcv hcl T' rfl X'
    exact ⟨t2, st.trans a1, b1⟩
theorem vx_calll {S SX : Type} {post : Int64 → S → Prop} {px : SX → Prop} {B : S → State → Prop} {BX : String → SX → State → Prop} {AX : Nat → Prop} (hr : vx_Run p l e R s m args below meth c H locs cells slots mc ms (F0 m pc ls st0) rest (va_Ql post B A1 a) (vx_X px BX AX) free) (hS : va_S A0 H0 H locs) (hA : ∀ q, q < H.size → A1 q → A0 q) (hf : ∀ q, free q → A0 q) (hAX : ∀ q, q < H.size → AX q → A0 q)
    (kx : ∀ (E : String) (ce : Cell) (q9 : Addr) (u : SX) (t : State) (H1 : Heap) (locs1 : List Loc), t.heap = H1 → s.vm.Alike t.vm → px u → BX E u t → H.size ≤ H1.size → (∀ q : Nat, q < H.size → ¬ AX q → H1[q]? = H[q]?) → va_S A0 H0 H1 locs1 → H1[q9]? = some ce → ce.vm = .none → s.vm.findClass E = some ce.cls → vx_W p l e R s m args below meth c H1 locs1 (cells + mc) (slots + ms) Q (F0 m pc ls rest) q9)
    (kk : ∀ (r : Int64) (u : S) (t : State) (H1 : Heap) (locs1 : List Loc), t.heap = H1 → s.vm.Alike t.vm → post r u → B u t → H.size ≤ H1.size → (∀ q : Nat, q < H.size → ¬ A1 q → H1[q]? = H[q]?) → va_S A0 H0 H1 locs1 → W p l e R s m args below meth c H1 locs1 (cells + mc) (slots + ms) Q (F0 m (pc + 3) ls (.long r :: rest))) : W p l e R s m args below meth c H locs cells slots Q (F0 m pc ls st0) := by
  intro T hT X
  rcases hr T hT X with ⟨v, st₀, t, T', L, h0, X', hL, e1, e2, ⟨⟨r, u, hv, hp, hb⟩, hF⟩, st⟩ | ⟨q, st₀, t, T', L, E, ce, h0, X', hL, e1, e2, ⟨u, hp, hb, hF⟩, hce, hcv, hcl, st⟩
  · cases hv
    obtain ⟨k1, k2, k3⟩ := vx_keep h0 e1 hS hA hf hL hF
    obtain ⟨t2, a1, b1⟩ := kk r u t T'.heap (locs ++ L) e1.symm (by rw [← e2]; exact X'.warmed.alike) hp hb k1 k2 k3 T' rfl X'
    exact ⟨t2, st t2 a1, b1⟩
  · obtain ⟨k1, k2, k3⟩ := vx_keep h0 e1 hS hAX hf hL hF
    obtain ⟨t2, a1, b1⟩ := kx E ce q u t T'.heap (locs ++ L) e1.symm (by rw [← e2]; exact X'.warmed.alike) hp hb k1 k2 k3 (by rw [e1]; exact hce) hcv hcl T' rfl X'
    exact ⟨t2, st.trans a1, b1⟩
theorem vx_callf {S SX : Type} {post : UInt32 → S → Prop} {px : SX → Prop} {B : S → State → Prop} {BX : String → SX → State → Prop} {AX : Nat → Prop} (hr : vx_Run p l e R s m args below meth c H locs cells slots mc ms (F0 m pc ls st0) rest (va_Qf post B A1 a) (vx_X px BX AX) free) (hS : va_S A0 H0 H locs) (hA : ∀ q, q < H.size → A1 q → A0 q) (hf : ∀ q, free q → A0 q) (hAX : ∀ q, q < H.size → AX q → A0 q)
    (kx : ∀ (E : String) (ce : Cell) (q9 : Addr) (u : SX) (t : State) (H1 : Heap) (locs1 : List Loc), t.heap = H1 → s.vm.Alike t.vm → px u → BX E u t → H.size ≤ H1.size → (∀ q : Nat, q < H.size → ¬ AX q → H1[q]? = H[q]?) → va_S A0 H0 H1 locs1 → H1[q9]? = some ce → ce.vm = .none → s.vm.findClass E = some ce.cls → vx_W p l e R s m args below meth c H1 locs1 (cells + mc) (slots + ms) Q (F0 m pc ls rest) q9)
    (kk : ∀ (r : UInt32) (u : S) (t : State) (H1 : Heap) (locs1 : List Loc), t.heap = H1 → s.vm.Alike t.vm → post r u → B u t → H.size ≤ H1.size → (∀ q : Nat, q < H.size → ¬ A1 q → H1[q]? = H[q]?) → va_S A0 H0 H1 locs1 → W p l e R s m args below meth c H1 locs1 (cells + mc) (slots + ms) Q (F0 m (pc + 3) ls (.float r :: rest))) : W p l e R s m args below meth c H locs cells slots Q (F0 m pc ls st0) := by
  intro T hT X
  rcases hr T hT X with ⟨v, st₀, t, T', L, h0, X', hL, e1, e2, ⟨⟨r, u, hv, hp, hb⟩, hF⟩, st⟩ | ⟨q, st₀, t, T', L, E, ce, h0, X', hL, e1, e2, ⟨u, hp, hb, hF⟩, hce, hcv, hcl, st⟩
  · cases hv
    obtain ⟨k1, k2, k3⟩ := vx_keep h0 e1 hS hA hf hL hF
    obtain ⟨t2, a1, b1⟩ := kk r u t T'.heap (locs ++ L) e1.symm (by rw [← e2]; exact X'.warmed.alike) hp hb k1 k2 k3 T' rfl X'
    exact ⟨t2, st t2 a1, b1⟩
  · obtain ⟨k1, k2, k3⟩ := vx_keep h0 e1 hS hAX hf hL hF
    obtain ⟨t2, a1, b1⟩ := kx E ce q u t T'.heap (locs ++ L) e1.symm (by rw [← e2]; exact X'.warmed.alike) hp hb k1 k2 k3 (by rw [e1]; exact hce) hcv hcl T' rfl X'
    exact ⟨t2, st.trans a1, b1⟩
theorem vx_calld {S SX : Type} {post : UInt64 → S → Prop} {px : SX → Prop} {B : S → State → Prop} {BX : String → SX → State → Prop} {AX : Nat → Prop} (hr : vx_Run p l e R s m args below meth c H locs cells slots mc ms (F0 m pc ls st0) rest (va_Qd post B A1 a) (vx_X px BX AX) free) (hS : va_S A0 H0 H locs) (hA : ∀ q, q < H.size → A1 q → A0 q) (hf : ∀ q, free q → A0 q) (hAX : ∀ q, q < H.size → AX q → A0 q)
    (kx : ∀ (E : String) (ce : Cell) (q9 : Addr) (u : SX) (t : State) (H1 : Heap) (locs1 : List Loc), t.heap = H1 → s.vm.Alike t.vm → px u → BX E u t → H.size ≤ H1.size → (∀ q : Nat, q < H.size → ¬ AX q → H1[q]? = H[q]?) → va_S A0 H0 H1 locs1 → H1[q9]? = some ce → ce.vm = .none → s.vm.findClass E = some ce.cls → vx_W p l e R s m args below meth c H1 locs1 (cells + mc) (slots + ms) Q (F0 m pc ls rest) q9)
    (kk : ∀ (r : UInt64) (u : S) (t : State) (H1 : Heap) (locs1 : List Loc), t.heap = H1 → s.vm.Alike t.vm → post r u → B u t → H.size ≤ H1.size → (∀ q : Nat, q < H.size → ¬ A1 q → H1[q]? = H[q]?) → va_S A0 H0 H1 locs1 → W p l e R s m args below meth c H1 locs1 (cells + mc) (slots + ms) Q (F0 m (pc + 3) ls (.double r :: rest))) : W p l e R s m args below meth c H locs cells slots Q (F0 m pc ls st0) := by
  intro T hT X
  rcases hr T hT X with ⟨v, st₀, t, T', L, h0, X', hL, e1, e2, ⟨⟨r, u, hv, hp, hb⟩, hF⟩, st⟩ | ⟨q, st₀, t, T', L, E, ce, h0, X', hL, e1, e2, ⟨u, hp, hb, hF⟩, hce, hcv, hcl, st⟩
  · cases hv
    obtain ⟨k1, k2, k3⟩ := vx_keep h0 e1 hS hA hf hL hF
    obtain ⟨t2, a1, b1⟩ := kk r u t T'.heap (locs ++ L) e1.symm (by rw [← e2]; exact X'.warmed.alike) hp hb k1 k2 k3 T' rfl X'
    exact ⟨t2, st t2 a1, b1⟩
  · obtain ⟨k1, k2, k3⟩ := vx_keep h0 e1 hS hAX hf hL hF
    obtain ⟨t2, a1, b1⟩ := kx E ce q u t T'.heap (locs ++ L) e1.symm (by rw [← e2]; exact X'.warmed.alike) hp hb k1 k2 k3 (by rw [e1]; exact hce) hcv hcl T' rfl X'
    exact ⟨t2, st.trans a1, b1⟩
theorem vx_callv {S SX : Type} {post : S → Prop} {px : SX → Prop} {B : S → State → Prop} {BX : String → SX → State → Prop} {AX : Nat → Prop} (hr : vx_Run p l e R s m args below meth c H locs cells slots mc ms (F0 m pc ls st0) rest (va_Qv post B A1 a) (vx_X px BX AX) free) (hS : va_S A0 H0 H locs) (hA : ∀ q, q < H.size → A1 q → A0 q) (hf : ∀ q, free q → A0 q) (hAX : ∀ q, q < H.size → AX q → A0 q)
    (kx : ∀ (E : String) (ce : Cell) (q9 : Addr) (u : SX) (t : State) (H1 : Heap) (locs1 : List Loc), t.heap = H1 → s.vm.Alike t.vm → px u → BX E u t → H.size ≤ H1.size → (∀ q : Nat, q < H.size → ¬ AX q → H1[q]? = H[q]?) → va_S A0 H0 H1 locs1 → H1[q9]? = some ce → ce.vm = .none → s.vm.findClass E = some ce.cls → vx_W p l e R s m args below meth c H1 locs1 (cells + mc) (slots + ms) Q (F0 m pc ls rest) q9)
    (kk : ∀ (u : S) (t : State) (H1 : Heap) (locs1 : List Loc), t.heap = H1 → s.vm.Alike t.vm → post u → B u t → H.size ≤ H1.size → (∀ q : Nat, q < H.size → ¬ A1 q → H1[q]? = H[q]?) → va_S A0 H0 H1 locs1 → W p l e R s m args below meth c H1 locs1 (cells + mc) (slots + ms) Q (F0 m (pc + 3) ls (rest))) : W p l e R s m args below meth c H locs cells slots Q (F0 m pc ls st0) := by
  intro T hT X
  rcases hr T hT X with ⟨v, st₀, t, T', L, h0, X', hL, e1, e2, ⟨⟨u, hv, hp, hb⟩, hF⟩, st⟩ | ⟨q, st₀, t, T', L, E, ce, h0, X', hL, e1, e2, ⟨u, hp, hb, hF⟩, hce, hcv, hcl, st⟩
  · cases hv
    obtain ⟨k1, k2, k3⟩ := vx_keep h0 e1 hS hA hf hL hF
    obtain ⟨t2, a1, b1⟩ := kk u t T'.heap (locs ++ L) e1.symm (by rw [← e2]; exact X'.warmed.alike) hp hb k1 k2 k3 T' rfl X'
    exact ⟨t2, st t2 a1, b1⟩
  · obtain ⟨k1, k2, k3⟩ := vx_keep h0 e1 hS hAX hf hL hF
    obtain ⟨t2, a1, b1⟩ := kx E ce q u t T'.heap (locs ++ L) e1.symm (by rw [← e2]; exact X'.warmed.alike) hp hb k1 k2 k3 (by rw [e1]; exact hce) hcv hcl T' rfl X'
    exact ⟨t2, st.trans a1, b1⟩
/-- caught by the row x of this method's table; the rows ahead don't take it -/
theorem vx_catch {own name : String} {E : String} {ce : Cell} {q : Addr} (hown : s.vm.findClass own = some m.cls) (pre : List ExceptionTableEntry) (x : ExceptionTableEntry) (suf : List ExceptionTableEntry) (hsplit : c.exceptionTable.toList = pre ++ x :: suf)
    (hpass : ∀ z ∈ pre, covers z pc = false ∨ (z.catchType ≠ 0 ∧ ∃ nm : String, (Cond.classLink own z.catchType nm).before args s = true ∧ va_Nc E nm s)) (hx : covers x pc = true) (h0 : x.catchType ≠ 0)
    (hlink : (Cond.classLink own x.catchType name).before args s = true) (hcast : (Cond.castable E name).before args s = true) (hcell : H[q]? = some ce) (hv : ce.vm = .none) (hcl : s.vm.findClass E = some ce.cls)
    (kk : W p l e R s m args below meth c H locs cells slots Q (F0 m x.handlerPc ls [.ref q])) : vx_W p l e R s m args below meth c H locs cells slots Q (F0 m pc ls rest) q := by
  intro T hT X
  have hpl : e.platform.magicAccessors = ({} : Platform).magicAccessors := by rw [X.admits.platform]
  obtain ⟨c3, c4, hc3, hc4, hasg⟩ := Cond.castable_spec hcast
  cases Option.some.inj (hc3.symm.trans hcl)
  obtain ⟨c5, hc5, hcl5⟩ := Cond.classLink_spec hown hlink e.platform hpl
  cases Option.some.inj (hc4.symm.trans hc5)
  obtain ⟨vm', X', st⟩ := X.thenCaughtThrough q (g := F0 m pc ls rest) rfl (Steps.refl _) (by rw [hT]; exact hcell) (by rw [hv]; rfl) (by obtain ⟨k9, h9, -⟩ := Vm.findClass_spec hcl; exact ⟨k9, h9⟩) pre x suf hsplit
    (fun z hz => by
      rcases hpass z hz with h | ⟨hz0, nm, hl1, hn1⟩
      · exact Or.inl h
      · obtain ⟨c6, hc6, hcl6⟩ := Cond.classLink_spec hown hl1 e.platform hpl
        obtain ⟨a8, b8, h1, h2, h3⟩ := hn1
        cases Option.some.inj (h1.symm.trans hcl)
        cases Option.some.inj (h2.symm.trans hc6)
        exact Or.inr ⟨hz0, _, hcl6, h3⟩) hx (Or.inr ⟨h0, c4, hcl5, hasg⟩)
  obtain ⟨t, a1, b1⟩ := kk (T.setVm vm') hT X'
  exact ⟨t, st.trans a1, b1⟩
end Rows
section Ends
variable {p : Program} {l : Launch} {e : Env} {R : Room} {s : State} {m : MethodId} {args : Array Value} {below : List Frame} {meth : Method} {c : Code} {H : Heap} {locs : List Loc} {cells slots : Nat} {Q : State → Prop}
variable {mc ms : Nat} {free : Addr → Prop} {A0 A1 : Nat → Prop} {H0 : Heap} {a : Array Value} {ls : Array Slot} {st0 rest : List Value}
variable {Qc : Array Value → State → Outcome → State → Prop} {XC : String → State → State → Prop}
/-- what a body that may throw owes at its end -/
def vx_MQ (below : List Frame) (Qc : Array Value → State → Outcome → State → Prop) (XC : String → State → State → Prop) (a : Array Value) (s : State) (mc ms : Nat) (free : Addr → Prop) : State → Prop := fun t =>
  ∃ o, t.status = .running ∧ Ended t below o ∧ vx_Q Qc XC mc ms free a s o t
theorem vx_ret {g : JFrame} {mc ms : Nat} (k : W p l e R s m args below meth c H locs cells slots (MQ below Qc args s mc ms free) g) : W p l e R s m args below meth c H locs cells slots (vx_MQ below Qc XC args s mc ms free) g := by
  intro T hT X
  obtain ⟨t, a1, o, b1, b2, b3, b4⟩ := k T hT X
  exact ⟨t, a1, o, b1, b2, Or.inl ⟨b3, b4⟩⟩
/-- not caught here: it goes on to the caller -/
theorem vx_widen {g : JFrame} {q : Addr} {k n : Nat} (h1 : cells ≤ k) (h2 : slots ≤ n) (kk : vx_W p l e R s m args below meth c H locs k n Q g q) : vx_W p l e R s m args below meth c H locs cells slots Q g q := fun T hT X => kk T hT (stand_widen X h1 h2)
theorem vx_out {pc : Nat} {E : String} {ce : Cell} {q : Addr} {mc ms : Nat} (hout : ∀ x ∈ c.exceptionTable.toList, covers x pc = false) (hlocks : meth.locks = false) (hcell : H[q]? = some ce) (hv : ce.vm = .none) (hcl : s.vm.findClass E = some ce.cls)
    (hx : ∀ t : State, t.heap = H → s.vm.Alike t.vm → XC E s t) (hf : ∀ z ∈ locs, free z.base) (hc : cells ≤ mc) (hs : slots ≤ ms) :
    vx_W p l e R s m args below meth c H locs cells slots (vx_MQ below Qc XC args s mc ms free) (F0 m pc ls rest) q := by
  intro T hT X
  obtain ⟨st1, hrun, hend, hW, hsm⟩ := X.leaveThrown q (g := F0 m pc ls rest) rfl rfl rfl hout hlocks
  have hcell9 : (T.setFrames (.throwing q :: below)).heap[q]? = some ce := by
    show T.heap[q]? = some ce
    rw [hT]; exact hcell
  exact ⟨_, st1, .threw q, hrun, hend, Or.inr ⟨q, rfl, E, ce, locs, hx _ hT hW.alike, hcell9, hv, hcl, hW, hsm.mono hc hs, hf⟩⟩
theorem vx_frame {U : State} {k n : Nat} (h : s.sameButNew ({ U with vm := s.vm } : State) locs k n) : s.heap.size ≤ U.heap.size ∧ ∀ q : Nat, q < s.heap.size → (∀ z ∈ locs, z.base ≠ q) → U.heap[q]? = s.heap[q]? := by
  obtain ⟨-, h2, -, -, -, h6⟩ := h
  refine ⟨h2, fun q hq hz => ?_⟩
  obtain ⟨c9, e1, e2, e3, e4⟩ := h6 q _ (Array.getElem?_eq_getElem hq)
  have hs : c9.slots = (s.heap[q]).slots := Array.ext_getElem? fun i => e4 i fun hm => hz _ hm rfl
  have h9 : c9 = s.heap[q] := by
    rw [hs] at e2
    exact e2
  have e5 : U.heap[q]? = some c9 := e1
  rw [e5, h9, Array.getElem?_eq_getElem hq]
/-- the words of a throw but the four that speak of the heap -/
def vx_no (w : Cond) : Bool := decide (w ≠ .isRef (.static Bundle.tN "UNASSIGNED_STACK" Bundle.steD)) && decide (w ≠ .isRef (.static Bundle.tN "SUPPRESSED_SENTINEL" Bundle.listD)) && decide (w ≠ .laysStatic Bundle.tN "UNASSIGNED_STACK" Bundle.steD) && decide (w ≠ .laysStatic Bundle.tN "SUPPRESSED_SENTINEL" Bundle.listD)
def vx_at0 (own : String) (ic : Nat) (X : String) (names : List String) : List Cond := (Bundle.ownAtoms0 own ic X names).filter vx_no
def vx_atS (own : String) (ic : Nat) (X : String) (names : List String) : List Cond := (Bundle.ownAtoms own ic X names).filter vx_no
/-- a word that the tables alone decide, or a good one -/
def vx_ot (w : Cond) : Bool := w.onTables || goodWord w
theorem vx_ot_at {args a' : Array Value} {s U : State} {w : Cond} (hW : s.WarmedH U.vm) (hvm : s.vm = U.vm) (hg : vx_ot w = true) (h : w.before args s = true) : w.before a' U = true := by
  simp only [vx_ot, Bool.or_eq_true] at hg
  rcases hg with hg | hg
  · exact va_tabs hg hvm h
  · exact word_at hW (good_of_word hg) h
/-- a list's words: the good ones out of the method's own list, the others by premises of their own -/
theorem vx_hat {args : Array Value} {s : State} {L B : List Cond} (h1 : ∀ w ∈ L.filter goodWord, w.before args s = true) (h2 : ∀ w ∈ L.filter (fun w => !goodWord w), w ∈ B) (h3 : ∀ w ∈ B, w.before args s = true) : ∀ w ∈ L, w.before args s = true := by
  intro w hw
  by_cases g : goodWord w = true
  · exact h1 w (List.mem_filter.mpr ⟨hw, g⟩)
  · refine h3 w (h2 w (List.mem_filter.mpr ⟨hw, ?_⟩))
    show (!goodWord w) = true
    cases hgw : goodWord w
    · rfl
    · exact absurd hgw g
theorem vx_c {args : Array Value} {s : State} {w : Cond} {B : List Cond} (h : w.before args s = true) (t : ∀ w ∈ B, w.before args s = true) : ∀ w' ∈ w :: B, w'.before args s = true := fun w' h' => (List.mem_cons.mp h').elim (fun e => by rw [e]; exact h) (t w')
theorem vx_n {args : Array Value} {s : State} : ∀ w ∈ ([] : List Cond), w.before args s = true := fun _ h => nomatch h
theorem vx_own {args : Array Value} {s : State} {L : List Cond} (h1 : ∀ w ∈ L.filter vx_no, w.before args s = true)
    (hU : (Cond.isRef (.static Bundle.tN "UNASSIGNED_STACK" Bundle.steD)).before args s = true) (hN : (Cond.isRef (.static Bundle.tN "SUPPRESSED_SENTINEL" Bundle.listD)).before args s = true)
    (lU : (Cond.laysStatic Bundle.tN "UNASSIGNED_STACK" Bundle.steD).before args s = true) (lN : (Cond.laysStatic Bundle.tN "SUPPRESSED_SENTINEL" Bundle.listD).before args s = true) : ∀ w ∈ L, w.before args s = true := by
  intro w hw
  by_cases e1 : w = .isRef (.static Bundle.tN "UNASSIGNED_STACK" Bundle.steD)
  · rw [e1]; exact hU
  · by_cases e2 : w = .isRef (.static Bundle.tN "SUPPRESSED_SENTINEL" Bundle.listD)
    · rw [e2]; exact hN
    · by_cases e3 : w = .laysStatic Bundle.tN "UNASSIGNED_STACK" Bundle.steD
      · rw [e3]; exact lU
      · by_cases e4 : w = .laysStatic Bundle.tN "SUPPRESSED_SENTINEL" Bundle.listD
        · rw [e4]; exact lN
        · exact h1 w (List.mem_filter.mpr ⟨hw, by unfold vx_no; rw [decide_eq_true e1, decide_eq_true e2, decide_eq_true e3, decide_eq_true e4]; rfl⟩)
/-- where a static field lies, its class's statics cell in H -/
def vx_L (C n d : String) (A : Nat → Prop) (U : State) (H : Heap) : Prop := ∃ (c : ClassId) (k : Class) (i : Nat) (f : Field) (a : Nat) (cell : Cell), U.vm.findClass C = some c ∧ U.fieldFound? C n d = some (c, k, i, f) ∧ f.isStatic = true ∧ k.statics = some a ∧ H[a]? = some cell ∧ cell.vm.isStatics = true ∧ cell.cls = c ∧ f.slot < cell.slots.size ∧ k.staticTypes[f.slot]? = some f.type ∧ ¬ A a
theorem vx_L.moved {C n d : String} {A : Nat → Prop} {u U : State} {H : Heap} (hvm : u.vm.Alike U.vm) (h : vx_L C n d A u H) : vx_L C n d A U H := by
  obtain ⟨c, k, i, f, a, cell, h1, h2, h3, h4, h5, h6, h7, h8, h9, h10⟩ := h
  obtain ⟨k', hi', he⟩ := State.fieldFound?_setVm hvm h2
  exact ⟨c, k', i, f, a, cell, by rw [hvm.findClass]; exact h1, hi', h3, by rw [he]; exact h4, h5, h6, h7, h8, by rw [he]; exact h9, h10⟩
theorem vx_L.kept {C n d : String} {A : Nat → Prop} {U : State} {H H1 : Heap} (h : vx_L C n d A U H) (hq : ∀ a : Nat, a < H.size → ¬ A a → H1[a]? = H[a]?) : vx_L C n d A U H1 := by
  obtain ⟨c, k, i, f, a, cell, h1, h2, h3, h4, h5, h6, h7, h8, h9, h10⟩ := h
  exact ⟨c, k, i, f, a, cell, h1, h2, h3, h4, by rw [hq a (Array.getElem?_eq_some_iff.mp h5).1 h10]; exact h5, h6, h7, h8, h9, h10⟩
theorem vx_L.narrow {C n d : String} {A B : Nat → Prop} {U : State} {H : Heap} (h : vx_L C n d A U H) (hAB : ∀ q, B q → A q) : vx_L C n d B U H := by
  obtain ⟨c, k, i, f, a, cell, h1, h2, h3, h4, h5, h6, h7, h8, h9, h10⟩ := h
  exact ⟨c, k, i, f, a, cell, h1, h2, h3, h4, h5, h6, h7, h8, h9, fun z => h10 (hAB _ z)⟩
theorem vx_L.word {C n d : String} {A : Nat → Prop} {s : State} {args : Array Value} (h : vx_L C n d A s s.heap) : (Cond.laysStatic C n d).before args s = true := by
  obtain ⟨c, k, i, f, a, cell, h1, h2, h3, h4, h5, h6, h7, h8, h9, -⟩ := h
  show (Cond.laysStatic C n d).holds args s none s [] = true
  exact Cond.laysStatic_of h1 h2 h3 h4 h5 h6 h7 h8 h9
/-- .. and what it holds: null or some reference -/
def vx_Zq (C n d : String) (A : Nat → Prop) (U : State) (H : Heap) : Prop := va_Zq C n d A U H ∧ vx_L C n d A U H
theorem vx_Zq.moved {C n d : String} {A : Nat → Prop} {u U : State} {H : Heap} (hvm : u.vm.Alike U.vm) (h : vx_Zq C n d A u H) : vx_Zq C n d A U H := ⟨va_Zq.moved hvm h.1, vx_L.moved hvm h.2⟩
theorem vx_Zq.kept {C n d : String} {A : Nat → Prop} {U : State} {H H1 : Heap} (h : vx_Zq C n d A U H) (hq : ∀ a : Nat, a < H.size → ¬ A a → H1[a]? = H[a]?) : vx_Zq C n d A U H1 := ⟨va_Zq.kept h.1 hq, vx_L.kept h.2 hq⟩
theorem vx_Zq.narrow {C n d : String} {A B : Nat → Prop} {U : State} {H : Heap} (h : vx_Zq C n d A U H) (hAB : ∀ q, B q → A q) : vx_Zq C n d B U H := ⟨va_Zq.narrow h.1 hAB, vx_L.narrow h.2 hAB⟩
theorem vx_Zqof {args : Array Value} {s : State} {C n d : String} {A : Nat → Prop} (hl : (Cond.laysStatic C n d).before args s = true) (hini : (Cond.initialized C).before args s = true) (h : (Cond.isRef (.static C n d)).before args s = true) (hA : ∀ a : Nat, a < s.heap.size → ¬ A a) : vx_Zq C n d A s s.heap := by
  refine ⟨va_Zqof hl hini h hA, ?_⟩
  obtain ⟨c, k, i, f, a, cell, h1, h2, h3, h4, h5, h6, h7, h8, h9⟩ := Cond.laysStatic_spec hl
  exact ⟨c, k, i, f, a, cell, h1, h2, h3, h4, h5, h6, h7, h8, h9, hA a (Array.getElem?_eq_some_iff.mp h5).1⟩
theorem vx_isRef {C n d : String} {v : Value} {A : Nat → Prop} {s : State} {args : Array Value} (h : va_Z C n d v A s s.heap) (hv : v.isRef = true) : (Cond.isRef (.static C n d)).before args s = true := by
  obtain ⟨cf, kf, fi, f, a, cell, h1, h2, h3, h4, h5, h6, h7, -⟩ := h
  have he : (Term.static C n d).eval args s none [] s = some v := by
    simp [Term.eval, State.fieldNamed?, h1, h2, h4, h5, h6, h7]
  simp only [Cond.before, Cond.holds, Cond.value, he]
  cases v <;> simp_all [Value.isRef]
theorem vx_isRefq {C n d : String} {A : Nat → Prop} {s : State} {args : Array Value} (h : va_Zq C n d A s s.heap) : (Cond.isRef (.static C n d)).before args s = true := by
  rcases h with h | ⟨t, h⟩
  · exact vx_isRef h rfl
  · exact vx_isRef h rfl
/-- the same frame, seen from here: as if the method were called anew in this heap -/
theorem vx_rebase {T : State} (X : Stand p l e R s m args below meth c T locs cells slots) {R' : Room} (hf : R'.frames ≤ R.frames) (hl : R'.locals ≤ R.locals) (hc : cells + R'.cells ≤ R.cells) (hs : slots + R'.slots ≤ R.slots) :
    Stand p l e R' ((T.setVm s.vm).setFrames (.invoking m args :: below)) m args below meth c T [] 0 0 := by
  have htop : (T.setVm s.vm).topJava?.isSome := X.here.top
  have hF : ((T.setVm s.vm).setFrames (.invoking m args :: below)).frames = .invoking m args :: below := State.frames_setFrames _ (State.cur_lt_of_top htop)
  obtain ⟨g₀, hg0⟩ := Option.isSome_iff_exists.mp htop
  obtain ⟨r, hr⟩ := State.topJava?_eq_some.mp hg0
  have hl9 : e.platform.stackLimits (T.setVm s.vm).me = e.platform.stackLimits s.me := X.limits
  have hb9 : (T.setVm s.vm).me.stackBytes = s.me.stackBytes := X.bytes
  refine ⟨X.admits, X.cas, X.clock, hF, ?_, X.hears, X.method, X.code, X.here, X.tail, X.warmed, ?_, ?_, ?_⟩
  · have h := X.room
    have hU : ((T.setVm s.vm).setFrames (.invoking m args :: below)).localsInUse = s.localsInUse := by
      rw [State.localsInUse_invoking hF (meth := meth) (c := c) X.method X.code, State.localsInUse_invoking X.frames X.method X.code]
    simp only [State.hasRoom, Bool.and_eq_true, decide_eq_true_eq] at h ⊢
    obtain ⟨⟨⟨⟨h1, h2, h3, h4, h5, h6⟩, h7⟩, h8⟩, h9⟩ := h
    rw [X.frames, List.length_cons] at h2 h3
    have q1 := X.heapSize
    have q2 := X.used
    simp only [hF, hU, List.length_cons, State.stackLimits_setFrames, State.stackBytes_setFrames, hl9, hb9]
    refine ⟨⟨⟨⟨by omega, by omega, by omega, by omega, by omega, h6⟩, ?_⟩, ?_⟩, X.book⟩
    · show T.heap.size + R'.cells ≤ e.platform.maxCells
      omega
    · show T.slotsUsed + R'.slots ≤ e.platform.maxSlots
      omega
  · rw [State.stackLimits_setFrames]; rfl
  · rw [State.stackBytes_setFrames]; rfl
  · refine ⟨?_, Nat.le_refl _, Nat.le_refl _, ?_, ?_, fun a c9 h9 => ⟨c9, h9, rfl, rfl, fun _ _ => rfl⟩⟩
    · obtain ⟨t, ht, -⟩ := State.frames_cons hr
      show T.setVm s.vm = { ((T.setVm s.vm).setFrames (.invoking m args :: below)).setFrames (T.setVm s.vm).frames with heap := T.heap, slotsUsed := T.slotsUsed }
      rw [State.setFrames_setFrames, State.setFrames_self ht]
      rfl
    · show T.slotsUsed = T.slotsUsed + ((T.heap.toList.drop T.heap.size).map (·.slots.size)).sum
      rw [List.drop_eq_nil_of_le (Nat.le_of_eq Array.length_toList)]
      rfl
    · show ((T.heap.toList.drop T.heap.size).map (·.slots.size)).sum ≤ 0
      rw [List.drop_eq_nil_of_le (Nat.le_of_eq Array.length_toList)]
      exact Nat.le_refl _
/-- 'throw new E()': new; dup; invokespecial; athrow -/
theorem vx_throw0 {cc : ByteArray} {pc : Nat} (hexec : p.tables.exec = Jvm.exec) (hb : c.code = cc) (hl : l.stackTraces = false) {own cls : String} {names : List String} {ik ic mc ms : Nat} {A : Nat → Prop}
    (hown : s.vm.findClass own = some m.cls) (hcls : Bundle.fit cls = true) (hnames : ∀ n ∈ names, Bundle.fit n = true)
    (hk : (Cond.classLink own ik cls).before args s = true) (hini : (Cond.initialized cls).before args s = true) (hat : ∀ w ∈ vx_at0 own ic cls names, w.before args s = true)
    (hgood : ∀ w ∈ Cond.classLink own ik cls :: Cond.initialized cls :: vx_at0 own ic cls names, vx_ot w = true)
    (hU : vx_Zq Bundle.tN "UNASSIGNED_STACK" Bundle.steD A s s.heap) (hN : vx_Zq Bundle.tN "SUPPRESSED_SENTINEL" Bundle.listD A s s.heap) (hS : va_S A s.heap H locs) (hsize : ls.size = c.maxLocals)
    (d0 : decode cc pc = .ok (.new ik, 3)) (d3 : decode cc (pc + 3) = .ok (.dup, 1)) (d4 : decode cc (pc + 4) = .ok (.invokespecial ic, 3)) (d7 : decode cc (pc + 7) = .ok (.athrow, 1))
    (hout : ∀ x ∈ c.exceptionTable.toList, covers x (pc + 7) = false)
    (hRframes : names.length + 3 < R.frames) (hRlocals : (rest.map fun v => v.category).sum + (13 * (names.length + 1) + 42) ≤ R.locals) (hRcells : cells + 1 ≤ R.cells) (hRslots : slots + 6 ≤ R.slots) (hlocks : meth.locks = false)
    (hx : ∀ t : State, s.vm.Alike t.vm → H.size ≤ t.heap.size → (∀ q : Nat, q < H.size → t.heap[q]? = H[q]?) → XC cls s t)
    (hf : ∀ z ∈ locs, free z.base) (hc : cells + 1 ≤ mc) (hs : slots + 6 ≤ ms) :
    W p l e R s m args below meth c H locs cells slots (vx_MQ below Qc XC args s mc ms free) (F0 m pc ls rest) := by
  intro T hT X
  have htr : e.platform.stackTraces = false := (show e.platform.stackTraces = l.stackTraces by rw [X.admits.platform]).trans hl
  have Y := vx_rebase X (R' := { frames := R.frames, locals := R.locals, cells := 1, slots := 6 }) (Nat.le_refl _) (Nat.le_refl _) hRcells hRslots
  obtain ⟨s', hA⟩ : ∃ z, z = (T.setVm s.vm).setFrames (.invoking m args :: below) := ⟨_, rfl⟩
  rw [← hA] at Y
  have hvm : s'.vm = s.vm := by rw [hA]; rfl
  have hhp : s'.heap = H := by rw [hA]; exact hT
  have hW0 : s.WarmedH s'.vm := by rw [hvm]; exact State.WarmedH.refl s
  have hat' : ∀ w ∈ vx_at0 own ic cls names, w.before args s' = true := fun w hw => vx_ot_at hW0 hvm.symm (hgood w (List.mem_cons_of_mem _ (List.mem_cons_of_mem _ hw))) (hat w hw)
  have hk' : (Cond.classLink own ik cls).before args s' = true := vx_ot_at hW0 hvm.symm (hgood _ List.mem_cons_self) hk
  have hini' : (Cond.initialized cls).before args s' = true := vx_ot_at hW0 hvm.symm (hgood _ (List.mem_cons_of_mem _ List.mem_cons_self)) hini
  have hU' : vx_Zq Bundle.tN "UNASSIGNED_STACK" Bundle.steD A s' s'.heap := by rw [hhp]; exact vx_Zq.moved hW0.alike (hU.kept hS.2.1)
  have hN' : vx_Zq Bundle.tN "SUPPRESSED_SENTINEL" Bundle.listD A s' s'.heap := by rw [hhp]; exact vx_Zq.moved hW0.alike (hN.kept hS.2.1)
  have h : ∀ w ∈ Bundle.ownAtoms0 own ic cls names, w.before args s' = true := vx_own hat' (vx_isRefq hU'.1) (vx_isRefq hN'.1) hU'.2.word hN'.2.word
  have hown' : s'.vm.findClass own = some m.cls := by rw [hvm]; exact hown
  have hins : (Cond.instantiable cls 6).before args s' = true := h _ (by simp [Bundle.ownAtoms0])
  obtain ⟨vm₁, cX, kX, hfX, hkX, -, -, X₁, st1⟩ := Y.newCold hexec (own := own) (C := cls) (index := ik) (n := 6) hown' hk' hins hini'
    (g := F0 m pc ls rest) rfl (by rw [hb]; exact d0) (Nat.le_refl _) (Nat.le_refl _)
  generalize hT1 : (T.setVm vm₁).pushCell { cls := cX, slots := kX.instanceTypes.map defaultValue, vm := .none } = T1 at X₁ st1
  have hcat : (Value.ref T.heap.size).category = 1 := rfl
  have hcellA : T1.heap[T.heap.size]? = some (freshCell cX kX) := by rw [← hT1]; exact State.heap_pushCell_size _ _
  have d3' : decode c.code (pc + 3) = .ok (.dup, 1) := by rw [hb]; exact d3
  obtain ⟨U, hsteps, hrun, hend, hW, hsame, ce, hce, hO⟩ := X₁.ctorThrow0 hexec htr (own := own) (cls := cls) (names := names) (ic := ic) hown' hcls hnames h (fun x hx => nomatch hx) hfX hkX hcellA (by rw [hhp, hT]; exact Nat.le_refl _)
    (g := { method := m, pc := pc + 4, locals := ls, stack := .ref T.heap.size :: .ref T.heap.size :: rest, locked := none }) rfl hsize rfl rfl (rest := rest) rfl
    (by rw [hb]; exact d4) (by rw [hb]; exact d7) hout hRframes (by simp only [List.map_cons, List.sum_cons, hcat]; omega) hlocks
  obtain ⟨f1, f2⟩ := vx_frame hsame
  rw [hhp] at f1 f2
  have hWs : s.WarmedH U.vm := State.WarmedH.trans hW0 hW
  have hcl : s.vm.findClass cls = some ce.cls := by
    have h9 := hO.cls
    rw [hvm] at h9
    exact h9
  have hall : s.sameButNew ({ U with vm := s.vm } : State) locs mc ms := by
    subst hA
    obtain ⟨e1, e2⟩ := hsame
    rw [State.setFrames_setFrames] at e1
    have h2 : (T.setVm s.vm).sameButNew ({ U with vm := s.vm } : State) [] (0 + 1) (0 + 6) := ⟨e1, e2⟩
    have h3 := X.same.trans h2
    rw [List.append_nil] at h3
    exact h3.mono hc hs
  refine ⟨U, ?_, .threw T.heap.size, hrun, hend, Or.inr ⟨T.heap.size, rfl, cls, ce, locs, hx U hWs.alike f1 (fun q hq => f2 q hq (fun z hz => nomatch hz)), hce, hO.vm, hcl, hWs, hall, hf⟩⟩
  refine st1 _ ?_
  show Steps p.tables e below (T1.setTop { method := m, pc := pc + 3, locals := ls, stack := .ref T.heap.size :: rest, locked := none }) _
  jvm_step X₁.here [X₁.here.top, hexec, d3', Value.category]
  exact hsteps
/-- 'throw new E("text")': new; dup; ldc; invokespecial; athrow -/
theorem vx_throwS {cc : ByteArray} {pc : Nat} (hexec : p.tables.exec = Jvm.exec) (hb : c.code = cc) (hl : l.stackTraces = false) {own cls text : String} {names : List String} {ik is ic mc ms sa : Nat} {A : Nat → Prop}
    (hown : s.vm.findClass own = some m.cls) (hcls : Bundle.fit cls = true) (hnames : ∀ n ∈ names, Bundle.fit n = true)
    (hk : (Cond.classLink own ik cls).before args s = true) (hini : (Cond.initialized cls).before args s = true) (hstr : vk_R own is text sa s) (hat : ∀ w ∈ vx_atS own ic cls names, w.before args s = true)
    (hgood : ∀ w ∈ Cond.classLink own ik cls :: Cond.initialized cls :: vx_atS own ic cls names, vx_ot w = true)
    (hU : vx_Zq Bundle.tN "UNASSIGNED_STACK" Bundle.steD A s s.heap) (hN : vx_Zq Bundle.tN "SUPPRESSED_SENTINEL" Bundle.listD A s s.heap) (hS : va_S A s.heap H locs) (hsize : ls.size = c.maxLocals)
    (d0 : decode cc pc = .ok (.new ik, 3)) (d3 : decode cc (pc + 3) = .ok (.dup, 1)) (d4 : decode cc (pc + 4) = .ok (.ldc is, 2)) (d6 : decode cc (pc + 6) = .ok (.invokespecial ic, 3)) (d9 : decode cc (pc + 9) = .ok (.athrow, 1))
    (hout : ∀ x ∈ c.exceptionTable.toList, covers x (pc + 9) = false)
    (hRframes : names.length + 3 < R.frames) (hRlocals : (rest.map fun v => v.category).sum + (13 * (names.length + 1) + 43) ≤ R.locals) (hRcells : cells + 1 ≤ R.cells) (hRslots : slots + 6 ≤ R.slots) (hlocks : meth.locks = false)
    (hx : ∀ t : State, s.vm.Alike t.vm → H.size ≤ t.heap.size → (∀ q : Nat, q < H.size → t.heap[q]? = H[q]?) → XC cls s t)
    (hf : ∀ z ∈ locs, free z.base) (hc : cells + 1 ≤ mc) (hs : slots + 6 ≤ ms) :
    W p l e R s m args below meth c H locs cells slots (vx_MQ below Qc XC args s mc ms free) (F0 m pc ls rest) := by
  intro T hT X
  have htr : e.platform.stackTraces = false := (show e.platform.stackTraces = l.stackTraces by rw [X.admits.platform]).trans hl
  have Y := vx_rebase X (R' := { frames := R.frames, locals := R.locals, cells := 1, slots := 6 }) (Nat.le_refl _) (Nat.le_refl _) hRcells hRslots
  obtain ⟨s', hA⟩ : ∃ z, z = (T.setVm s.vm).setFrames (.invoking m args :: below) := ⟨_, rfl⟩
  rw [← hA] at Y
  have hvm : s'.vm = s.vm := by rw [hA]; rfl
  have hhp : s'.heap = H := by rw [hA]; exact hT
  have hW0 : s.WarmedH s'.vm := by rw [hvm]; exact State.WarmedH.refl s
  have hat' : ∀ w ∈ vx_atS own ic cls names, w.before args s' = true := fun w hw => vx_ot_at hW0 hvm.symm (hgood w (List.mem_cons_of_mem _ (List.mem_cons_of_mem _ hw))) (hat w hw)
  have hk' : (Cond.classLink own ik cls).before args s' = true := vx_ot_at hW0 hvm.symm (hgood _ List.mem_cons_self) hk
  have hini' : (Cond.initialized cls).before args s' = true := vx_ot_at hW0 hvm.symm (hgood _ (List.mem_cons_of_mem _ List.mem_cons_self)) hini
  have hU' : vx_Zq Bundle.tN "UNASSIGNED_STACK" Bundle.steD A s' s'.heap := by rw [hhp]; exact vx_Zq.moved hW0.alike (hU.kept hS.2.1)
  have hN' : vx_Zq Bundle.tN "SUPPRESSED_SENTINEL" Bundle.listD A s' s'.heap := by rw [hhp]; exact vx_Zq.moved hW0.alike (hN.kept hS.2.1)
  have h : ∀ w ∈ Bundle.ownAtoms own ic cls names, w.before args s' = true := vx_own hat' (vx_isRefq hU'.1) (vx_isRefq hN'.1) hU'.2.word hN'.2.word
  have hown' : s'.vm.findClass own = some m.cls := by rw [hvm]; exact hown
  have hins : (Cond.instantiable cls 6).before args s' = true := h _ (by simp [Bundle.ownAtoms])
  obtain ⟨vm₁, cX, kX, hfX, hkX, -, -, X₁, st1⟩ := Y.newCold hexec (own := own) (C := cls) (index := ik) (n := 6) hown' hk' hins hini'
    (g := F0 m pc ls rest) rfl (by rw [hb]; exact d0) (Nat.le_refl _) (Nat.le_refl _)
  generalize hT1 : (T.setVm vm₁).pushCell { cls := cX, slots := kX.instanceTypes.map defaultValue, vm := .none } = T1 at X₁ st1
  have hcat : (Value.ref T.heap.size).category = 1 := rfl
  have hcellA : T1.heap[T.heap.size]? = some (freshCell cX kX) := by rw [← hT1]; exact State.heap_pushCell_size _ _
  have d3' : decode c.code (pc + 3) = .ok (.dup, 1) := by rw [hb]; exact d3
  have d4' : decode c.code (pc + 4) = .ok (.ldc is, 2) := by rw [hb]; exact d4
  have hstr' : vk_R own is text sa s' := vk_R.warm hW0 hstr
  obtain ⟨U, hsteps, hrun, hend, hW, hsame, ce, hce, hO⟩ := X₁.ctorThrowS hexec htr (own := own) (cls := cls) (names := names) (ic := ic) hown' hcls hnames h (fun x hx => nomatch hx) hfX hkX hcellA (by rw [hhp, hT]; exact Nat.le_refl _) (msg := .ref sa) rfl
    (g := { method := m, pc := pc + 6, locals := ls, stack := .ref sa :: .ref T.heap.size :: .ref T.heap.size :: rest, locked := none }) rfl hsize rfl rfl (rest := rest) rfl
    (by rw [hb]; exact d6) (by rw [hb]; exact d9) hout hRframes (by simp only [List.map_cons, List.sum_cons, hcat]; omega) hlocks
  obtain ⟨f1, f2⟩ := vx_frame hsame
  rw [hhp] at f1 f2
  have hWs : s.WarmedH U.vm := State.WarmedH.trans hW0 hW
  have hcl : s.vm.findClass cls = some ce.cls := by
    have h9 := hO.cls
    rw [hvm] at h9
    exact h9
  have hall : s.sameButNew ({ U with vm := s.vm } : State) locs mc ms := by
    subst hA
    obtain ⟨e1, e2⟩ := hsame
    rw [State.setFrames_setFrames] at e1
    have h2 : (T.setVm s.vm).sameButNew ({ U with vm := s.vm } : State) [] (0 + 1) (0 + 6) := ⟨e1, e2⟩
    have h3 := X.same.trans h2
    rw [List.append_nil] at h3
    exact h3.mono hc hs
  refine ⟨U, ?_, .threw T.heap.size, hrun, hend, Or.inr ⟨T.heap.size, rfl, cls, ce, locs, hx U hWs.alike f1 (fun q hq => f2 q hq (fun z hz => nomatch hz)), hce, hO.vm, hcl, hWs, hall, hf⟩⟩
  refine st1 _ ?_
  show Steps p.tables e below (T1.setTop { method := m, pc := pc + 3, locals := ls, stack := .ref T.heap.size :: rest, locked := none }) _
  jvm_step X₁.here [X₁.here.top, hexec, d3', Value.category]
  exact X₁.ldcString hexec (own := own) (text := text) (index := is) (a := sa) hown' hstr'.1 hstr'.2
    (g := { method := m, pc := pc + 4, locals := ls, stack := .ref T.heap.size :: .ref T.heap.size :: rest, locked := none }) rfl d4' _ hsteps
/-- 'throw new E("text")', the text by a wide index -/
theorem vx_throwSW {cc : ByteArray} {pc : Nat} (hexec : p.tables.exec = Jvm.exec) (hb : c.code = cc) (hl : l.stackTraces = false) {own cls text : String} {names : List String} {ik is ic mc ms sa : Nat} {A : Nat → Prop}
    (hown : s.vm.findClass own = some m.cls) (hcls : Bundle.fit cls = true) (hnames : ∀ n ∈ names, Bundle.fit n = true)
    (hk : (Cond.classLink own ik cls).before args s = true) (hini : (Cond.initialized cls).before args s = true) (hstr : vk_R own is text sa s) (hat : ∀ w ∈ vx_atS own ic cls names, w.before args s = true)
    (hgood : ∀ w ∈ Cond.classLink own ik cls :: Cond.initialized cls :: vx_atS own ic cls names, vx_ot w = true)
    (hU : vx_Zq Bundle.tN "UNASSIGNED_STACK" Bundle.steD A s s.heap) (hN : vx_Zq Bundle.tN "SUPPRESSED_SENTINEL" Bundle.listD A s s.heap) (hS : va_S A s.heap H locs) (hsize : ls.size = c.maxLocals)
    (d0 : decode cc pc = .ok (.new ik, 3)) (d3 : decode cc (pc + 3) = .ok (.dup, 1)) (d4 : decode cc (pc + 4) = .ok (.ldc_w is, 3)) (d7 : decode cc (pc + 7) = .ok (.invokespecial ic, 3)) (d10 : decode cc (pc + 10) = .ok (.athrow, 1))
    (hout : ∀ x ∈ c.exceptionTable.toList, covers x (pc + 10) = false)
    (hRframes : names.length + 3 < R.frames) (hRlocals : (rest.map fun v => v.category).sum + (13 * (names.length + 1) + 43) ≤ R.locals) (hRcells : cells + 1 ≤ R.cells) (hRslots : slots + 6 ≤ R.slots) (hlocks : meth.locks = false)
    (hx : ∀ t : State, s.vm.Alike t.vm → H.size ≤ t.heap.size → (∀ q : Nat, q < H.size → t.heap[q]? = H[q]?) → XC cls s t)
    (hf : ∀ z ∈ locs, free z.base) (hc : cells + 1 ≤ mc) (hs : slots + 6 ≤ ms) :
    W p l e R s m args below meth c H locs cells slots (vx_MQ below Qc XC args s mc ms free) (F0 m pc ls rest) := by
  intro T hT X
  have htr : e.platform.stackTraces = false := (show e.platform.stackTraces = l.stackTraces by rw [X.admits.platform]).trans hl
  have Y := vx_rebase X (R' := { frames := R.frames, locals := R.locals, cells := 1, slots := 6 }) (Nat.le_refl _) (Nat.le_refl _) hRcells hRslots
  obtain ⟨s', hA⟩ : ∃ z, z = (T.setVm s.vm).setFrames (.invoking m args :: below) := ⟨_, rfl⟩
  rw [← hA] at Y
  have hvm : s'.vm = s.vm := by rw [hA]; rfl
  have hhp : s'.heap = H := by rw [hA]; exact hT
  have hW0 : s.WarmedH s'.vm := by rw [hvm]; exact State.WarmedH.refl s
  have hat' : ∀ w ∈ vx_atS own ic cls names, w.before args s' = true := fun w hw => vx_ot_at hW0 hvm.symm (hgood w (List.mem_cons_of_mem _ (List.mem_cons_of_mem _ hw))) (hat w hw)
  have hk' : (Cond.classLink own ik cls).before args s' = true := vx_ot_at hW0 hvm.symm (hgood _ List.mem_cons_self) hk
  have hini' : (Cond.initialized cls).before args s' = true := vx_ot_at hW0 hvm.symm (hgood _ (List.mem_cons_of_mem _ List.mem_cons_self)) hini
  have hU' : vx_Zq Bundle.tN "UNASSIGNED_STACK" Bundle.steD A s' s'.heap := by rw [hhp]; exact vx_Zq.moved hW0.alike (hU.kept hS.2.1)
  have hN' : vx_Zq Bundle.tN "SUPPRESSED_SENTINEL" Bundle.listD A s' s'.heap := by rw [hhp]; exact vx_Zq.moved hW0.alike (hN.kept hS.2.1)
  have h : ∀ w ∈ Bundle.ownAtoms own ic cls names, w.before args s' = true := vx_own hat' (vx_isRefq hU'.1) (vx_isRefq hN'.1) hU'.2.word hN'.2.word
  have hown' : s'.vm.findClass own = some m.cls := by rw [hvm]; exact hown
  have hins : (Cond.instantiable cls 6).before args s' = true := h _ (by simp [Bundle.ownAtoms])
  obtain ⟨vm₁, cX, kX, hfX, hkX, -, -, X₁, st1⟩ := Y.newCold hexec (own := own) (C := cls) (index := ik) (n := 6) hown' hk' hins hini'
    (g := F0 m pc ls rest) rfl (by rw [hb]; exact d0) (Nat.le_refl _) (Nat.le_refl _)
  generalize hT1 : (T.setVm vm₁).pushCell { cls := cX, slots := kX.instanceTypes.map defaultValue, vm := .none } = T1 at X₁ st1
  have hcat : (Value.ref T.heap.size).category = 1 := rfl
  have hcellA : T1.heap[T.heap.size]? = some (freshCell cX kX) := by rw [← hT1]; exact State.heap_pushCell_size _ _
  have d3' : decode c.code (pc + 3) = .ok (.dup, 1) := by rw [hb]; exact d3
  have d4' : decode c.code (pc + 4) = .ok (.ldc_w is, 3) := by rw [hb]; exact d4
  have hstr' : vk_R own is text sa s' := vk_R.warm hW0 hstr
  obtain ⟨U, hsteps, hrun, hend, hW, hsame, ce, hce, hO⟩ := X₁.ctorThrowS hexec htr (own := own) (cls := cls) (names := names) (ic := ic) hown' hcls hnames h (fun x hx => nomatch hx) hfX hkX hcellA (by rw [hhp, hT]; exact Nat.le_refl _) (msg := .ref sa) rfl
    (g := { method := m, pc := pc + 7, locals := ls, stack := .ref sa :: .ref T.heap.size :: .ref T.heap.size :: rest, locked := none }) rfl hsize rfl rfl (rest := rest) rfl
    (by rw [hb]; exact d7) (by rw [hb]; exact d10) hout hRframes (by simp only [List.map_cons, List.sum_cons, hcat]; omega) hlocks
  obtain ⟨f1, f2⟩ := vx_frame hsame
  rw [hhp] at f1 f2
  have hWs : s.WarmedH U.vm := State.WarmedH.trans hW0 hW
  have hcl : s.vm.findClass cls = some ce.cls := by
    have h9 := hO.cls
    rw [hvm] at h9
    exact h9
  have hall : s.sameButNew ({ U with vm := s.vm } : State) locs mc ms := by
    subst hA
    obtain ⟨e1, e2⟩ := hsame
    rw [State.setFrames_setFrames] at e1
    have h2 : (T.setVm s.vm).sameButNew ({ U with vm := s.vm } : State) [] (0 + 1) (0 + 6) := ⟨e1, e2⟩
    have h3 := X.same.trans h2
    rw [List.append_nil] at h3
    exact h3.mono hc hs
  refine ⟨U, ?_, .threw T.heap.size, hrun, hend, Or.inr ⟨T.heap.size, rfl, cls, ce, locs, hx U hWs.alike f1 (fun q hq => f2 q hq (fun z hz => nomatch hz)), hce, hO.vm, hcl, hWs, hall, hf⟩⟩
  refine st1 _ ?_
  show Steps p.tables e below (T1.setTop { method := m, pc := pc + 3, locals := ls, stack := .ref T.heap.size :: rest, locked := none }) _
  jvm_step X₁.here [X₁.here.top, hexec, d3', Value.category]
  exact X₁.ldcStringW hexec (own := own) (text := text) (index := is) (a := sa) hown' hstr'.1 hstr'.2
    (g := { method := m, pc := pc + 4, locals := ls, stack := .ref T.heap.size :: .ref T.heap.size :: rest, locked := none }) rfl d4' _ hsteps
end Ends
section Bodies
variable {l : Launch}
theorem vx_ofW {y : MethodName} {ws ws' : List Cond} {rm : Room} {Pc : Array Value → State → Prop} {Qc : Array Value → State → Outcome → State → Prop} {XC : String → State → State → Prop} {mc ms : Nat} {free : Addr → Prop} {cc : ByteArray} {maxL : Nat} {ret : Option FieldType}
    (hy : plainName y.cls = true) (hw : ws = Cond.code y cc maxL ret :: ws')
    (body : ∀ p e s m args below meth c s₁, BodyLoose p l y (headSpec ws rm) cc maxL ret e s m args below meth c s₁ → c.maxLocals = maxL → (∀ x ∈ c.exceptionTable.toList, False) → Pc args s →
      W p l e (headSpec ws rm).room s m args below meth c s.heap [] 0 0 (vx_MQ below Qc XC args s mc ms free) (entryFrame m args maxL)) : vx_Met l y ws rm Pc Qc XC mc ms free := by
  refine MetFree.of_bodyS (code := cc) (maxLocals := maxL) (ret := ret) hy ?_ ?_
  · intro args s m h hn
    obtain ⟨meth, c, h1, h2, h3, h4, h5, h6, -, -⟩ := Cond.code_spec hn (atoms_spec (ws := ws) h _ (by rw [hw]; exact List.mem_cons_self))
    exact ⟨meth, c, h1, h2, h3, h4, h5, h6⟩
  · intro p e s m args below meth c s₁ B hml hP _
    have hh0 : s₁.heap = s.heap := by rw [B.state]; rfl
    have ht : ∀ x ∈ c.exceptionTable.toList, False := by
      obtain ⟨meth9, c9, h1, h2, -, -, -, -, h7, -⟩ := Cond.code_spec B.named (atoms_spec (ws := ws) B.pre _ (by rw [hw]; exact List.mem_cons_self))
      cases Option.some.inj (h1.symm.trans B.method)
      cases Option.some.inj (h2.symm.trans (Stand.of_body B).code)
      intro x hx
      rw [Array.isEmpty_iff.mp h7] at hx
      cases hx
    obtain ⟨t, a1, o, b1, b2, b3⟩ := body p e s m args below meth c s₁ B hml ht hP s₁ hh0 (Stand.of_body B)
    exact ⟨t, o, a1, b1, b2, b3⟩
/-- the table of a body with handlers -/
theorem vx_table {p : Program} {x y : MethodName} {S : Spec} {cc bytes : ByteArray} {maxL maxL' : Nat} {ret ret' : Option FieldType} {e : Env} {s s₁ : State} {m : MethodId} {args : Array Value} {below : List Frame} {meth : Method} {c : Code} {hh : List (Nat × Nat × Nat × Nat)}
    (B : BodyLoose p l y S cc maxL ret e s m args below meth c s₁) (h : (Cond.codeWith y bytes maxL' ret' hh).before args s = true) : c.exceptionTable.toList = tableOf hh := by
  obtain ⟨m9, meth9, c9, hn9, h1, h2, -, -, h6, -⟩ := Cond.codeWith_spec h
  cases Option.some.inj (hn9.symm.trans B.named)
  cases Option.some.inj (h1.symm.trans B.method)
  cases Option.some.inj (h2.symm.trans (Stand.of_body B).code)
  rw [← h6, table_eq]
end Bodies
end VXA
/-! ===== END ===== -/
/-! ===== BEGIN a static call of a method with an exception table ===== -/
section VXS
variable {p : Program} {l : Launch} {e : Env} {R : Room} {s : State} {m : MethodId} {args : Array Value} {below : List Frame} {meth : Method} {c : Code} {T : State} {H : Heap} {locs : List Loc} {cells slots : Nat}
abbrev vx_CSW (R : Room) (s : State) (args : Array Value) (own : String) (index : Nat) (y : MethodName) (bytes : ByteArray) (maxL : Nat) (ret : Option FieldType) (hh : List (Nat × Nat × Nat × Nat)) (ws : List Cond) (rm : Room) (mc ms n : Nat) : Prop :=
  (rm.cells = mc ∧ rm.slots = ms ∧ rm.frames + 1 ≤ R.frames ∧ 8 + (maxL + 11) + rm.locals ≤ R.locals ∧ (∀ w ∈ ws, ∀ (a' : Array Value) (U : State), s.WarmedH U.vm → w.before a' U = true) ∧ Cond.codeWith y bytes maxL ret hh ∈ ws) ∧
  (Cond.codeWith y bytes maxL ret hh).before args s = true ∧ (Cond.initialized y.cls).before args s = true ∧ (y.cls ≠ "java/lang/invoke/MethodHandle" ∧ y.cls ≠ "java/lang/invoke/VarHandle") ∧
  (∀ sig, parseMethodDescriptor y.desc = some sig → n = sig.parameters.length) ∧ (Cond.methodLink own index y).before args s = true ∧ (Cond.static y).before args s = true
theorem vx_cwSW {own : String} {index maxL mc ms : Nat} {y : MethodName} {bytes : ByteArray} {ret : Option FieldType} {hh : List (Nat × Nat × Nat × Nat)} {Ts ws ws' : List Cond} {rm : Room} (n : Nat) (ht : ∀ w ∈ Ts, w.before args s = true) (hT : GoodIn Ts (va_wsS own index y ws)) (hw : ws = Cond.codeWith y bytes maxL ret hh :: ws') (hrc : rm.cells = mc) (hrs : rm.slots = ms)
    (hd : y.cls ≠ "java/lang/invoke/MethodHandle" ∧ y.cls ≠ "java/lang/invoke/VarHandle" ∧ (parseMethodDescriptor y.desc).map (fun d => d.parameters.length) = some n) (hR : rm.frames + 1 ≤ R.frames ∧ 8 + (maxL + 11) + rm.locals ≤ R.locals) :
    vx_CSW R s args own index y bytes maxL ret hh ws rm mc ms n := by
  have ok : ∀ w ∈ va_wsS own index y ws, w.before args s = true := fun w h => ht w (hT w h).1
  have hG : GoodIn Ts ws := fun w h => hT w (by unfold va_wsS; exact List.mem_append_right _ h)
  have hc : Cond.codeWith y bytes maxL ret hh ∈ ws := by rw [hw]; exact List.mem_cons_self
  refine ⟨⟨hrc, hrs, hR.1, hR.2, pay_in ht hG, hc⟩, ht _ (hG _ hc).1, ok _ (by simp [va_wsS]), ⟨hd.1, hd.2.1⟩, fun sig h => ?_, ok _ (by simp [va_wsS]), ok _ (by simp [va_wsS])⟩
  have h2 := hd.2.2
  rw [h] at h2
  exact (Option.some.inj h2).symm
theorem vx_callSW (X : Stand p l e R s m args below meth c T locs cells slots) (hexec : p.tables.exec = Jvm.exec) {own : String} {index : Nat} {y : MethodName} {bytes : ByteArray} {maxL : Nat} {ret : Option FieldType} {hh : List (Nat × Nat × Nat × Nat)}
    (hown : s.vm.findClass own = some m.cls) (hlink : (Cond.methodLink own index y).before args s = true) (hstat : (Cond.static y).before args s = true) (hinit : (Cond.initialized y.cls).before args s = true)
    (hcode : (Cond.codeWith y bytes maxL ret hh).before args s = true) (hy : y.cls ≠ "java/lang/invoke/MethodHandle" ∧ y.cls ≠ "java/lang/invoke/VarHandle")
    {W9 : Nat} {Pre : Pt → Array Value → Prop} {Post : Pt → Array Value → Option Value → Pt → Prop} (hK : Back l R p e below s args y 3 W9 Pre Post)
    {g : JFrame} (hg : g.method = m) (hsize : g.locals.size = c.maxLocals) {argsL rest : List Value} (hlen : ∀ sig, parseMethodDescriptor y.desc = some sig → argsL.length = sig.parameters.length)
    (hstack : g.stack = argsL.reverse ++ rest) (hW : 2 * g.monitorRoom + (rest.map fun v => v.category).sum ≤ W9) (hdg : decode c.code g.pc = .ok (.invokestatic index, 3))
    (hpre : ∀ vm₁, s.WarmedH vm₁ → Pre ⟨T.setVm vm₁, locs, cells, slots⟩ argsL.toArray) :
    ∃ (v : Option Value) (vm₁ : Vm) (B : Pt), s.WarmedH vm₁ ∧ Stand p l e R s m args below meth c B.U B.locs B.cells B.slots ∧ Post ⟨T.setVm vm₁, locs, cells, slots⟩ argsL.toArray v B ∧
      ∀ target, Steps p.tables e below (B.U.setTop { g with pc := g.pc + 3, stack := v.toList ++ rest }) target → Steps p.tables e below (T.setTop g) target := by
  obtain ⟨mk, methM, cM, hnamed, hmethM, -, -, -, -, -, -, hsigM⟩ := Cond.codeWith_spec hcode
  have hstatic : methM.isStatic = true := Cond.static_spec hnamed hmethM hstat
  obtain ⟨kP, hkP, -⟩ := className_of_methodNamed hnamed
  have hinitP : kP.init = .initialized := Cond.initialized_spec (findClass_of_methodNamed hnamed) hkP hinit
  obtain ⟨vm₁, X₁, hstep₁⟩ := X.invokestatic hexec hown hlink hnamed hmethM hstatic hkP hinitP hy (g := g) hg (argsL := argsL) (rest := rest) (hlen _ hsigM) hstack hdg
  obtain ⟨v, B, X', hpost, hsteps⟩ := hK m meth c ⟨T.setVm vm₁, locs, cells, slots⟩ { g with stack := rest } (.invokestatic index) mk argsL.toArray X₁ hg hsize hdg hW (X₁.named hnamed) (hpre vm₁ X₁.warmed)
  exact ⟨v, vm₁, B, X₁.warmed, X', hpost, fun target h => hstep₁ _ fun acts => by rw [doInvoke_state]; exact hsteps.trans h⟩
theorem vx_runSW {y : MethodName} {bytes cc : ByteArray} {maxL nL mc ms n index : Nat} {ret : Option FieldType} {hh : List (Nat × Nat × Nat × Nat)} {ws : List Cond} {rm : Room} {Pc : Array Value → State → Prop} {Qc : Array Value → State → Outcome → State → Prop} {free : Addr → Prop} {Ts : List Cond} {own : String} {As rest : List Value} {g : JFrame}
    (S : CallFix p m c cc nL s args Ts own) (hM : Met l y ws rm Pc Qc mc ms free) (cw : vx_CSW R s args own index y bytes maxL ret hh ws rm mc ms n) (hp : PreS s H Pc As)
    (hg : g.method = m) (hn : As.length = n) (hsize : g.locals.size = nL) (hstack : g.stack = As.reverse ++ rest) (hW : 2 * g.monitorRoom + (rest.map fun v => v.category).sum ≤ 8) (hdg : decode cc g.pc = .ok (.invokestatic index, 3)) (hf : cells + mc ≤ R.cells ∧ slots + ms ≤ R.slots) :
    va_Run p l e R s m args below meth c H locs cells slots mc ms g rest (Qc As.toArray) (free) := by
  obtain ⟨⟨hrc, hrs, hfr, hlo, hws, hcw⟩, hcode, hini, hy, hlen, hl, hstt⟩ := cw
  have hK : Back l R p e below s args y 3 8 (PreOf R mc ms Pc) (PostOf Qc mc ms free) := va_backW (hh := hh) (bytes := bytes) (maxL := maxL) (ret := ret) hM hp.1 hrc hrs hfr hlo hws hcw (fun a' U hW => word_at hW (Or.inl (by first | rfl | simp [Cond.onTables, Cond.keeps, Cond.steady])) hini)
  obtain ⟨hx, hb, hml, ho, -⟩ := S
  intro T hT X
  obtain ⟨v, vm₁, ⟨U', l2, c2, s2⟩, hW₁, X', ⟨g', mk, t, L, e1, e2, hq, h1, hL, h2, h3⟩, st⟩ := vx_callSW X hx (hh := hh) (bytes := bytes) (maxL := maxL) (ret := ret) ho hl hstt hini hcode hy hK hg (hsize.trans hml.symm) (argsL := As) (rest := rest) (fun sig h => hn.trans (hlen sig h)) hstack hW (by rw [hb]; exact hdg)
    (fun vm₁ hW₁ => ⟨hf.1, hf.2, hp.2 (T.setVm vm₁) hT hW₁⟩)
  dsimp only [Pt.U, Pt.locs, Pt.cells, Pt.slots] at X' e1 e2 h1 h2 h3 st
  subst h1; subst h2; subst h3
  exact ⟨v, (T.setVm vm₁).calling g' mk As.toArray, t, U', L, hT, X', hL, e1, e2, hq, st⟩
/-- not caught here, past rows that name other classes: it goes on to the caller -/
theorem vx_outP {p : Program} {l : Launch} {e : Env} {R : Room} {s : State} {m : MethodId} {args : Array Value} {below : List Frame} {meth : Method} {c : Code} {H : Heap} {locs : List Loc} {cells slots : Nat} {free : Addr → Prop} {ls : Array Slot} {rest : List Value} {Qc : Array Value → State → Outcome → State → Prop} {XC : String → State → State → Prop}
    {pc : Nat} {own E : String} {ce : Cell} {q : Addr} {mc ms : Nat} (hown : s.vm.findClass own = some m.cls) (hlocks : meth.locks = false)
    (hpass : ∀ z ∈ c.exceptionTable.toList, covers z pc = false ∨ (z.catchType ≠ 0 ∧ ∃ nm : String, (Cond.classLink own z.catchType nm).before args s = true ∧ va_Nc E nm s)) (hcell : H[q]? = some ce) (hv : ce.vm = .none) (hcl : s.vm.findClass E = some ce.cls)
    (hx : ∀ t : State, t.heap = H → s.vm.Alike t.vm → XC E s t) (hf : ∀ z ∈ locs, free z.base) (hc : cells ≤ mc) (hs : slots ≤ ms) :
    vx_W p l e R s m args below meth c H locs cells slots (vx_MQ below Qc XC args s mc ms free) (F0 m pc ls rest) q := by
  intro T hT X
  have hpl : e.platform.magicAccessors = ({} : Platform).magicAccessors := by rw [X.admits.platform]
  obtain ⟨vm', hW', X', st⟩ := X.outThrough hlocks q (g := F0 m pc ls rest) rfl rfl rfl (cell := ce) (by rw [hT]; exact hcell) (by rw [hv]; rfl)
    (by obtain ⟨k9, h9, -⟩ := Vm.findClass_spec hcl; exact ⟨k9, h9⟩) (fun z hz => by
      rcases hpass z hz with h | ⟨hz0, nm, hl1, hn1⟩
      · exact Or.inl h
      · obtain ⟨c6, hc6, hcl6⟩ := Cond.classLink_spec hown hl1 e.platform hpl
        obtain ⟨a8, b8, h1, h2, h3⟩ := hn1
        cases Option.some.inj (h1.symm.trans hcl)
        cases Option.some.inj (h2.symm.trans hc6)
        exact Or.inr ⟨hz0, _, hcl6, h3⟩)
  obtain ⟨g₀, hfr⟩ := X'.frames_eq
  have hcell9 : ((T.setVm vm').setFrames (.throwing q :: below)).heap[q]? = some ce := by
    show T.heap[q]? = some ce
    rw [hT]; exact hcell
  have hend : Ended ((T.setVm vm').setFrames (.throwing q :: below)) below (.threw q) := State.frames_setFrames _ (State.cur_lt_of_frames hfr)
  refine ⟨(T.setVm vm').setFrames (.throwing q :: below), ?_, .threw q, X'.here.running, hend, Or.inr ⟨q, rfl, E, ce, locs, hx _ hT (X'.ends _).1.alike, hcell9, hv, hcl, (X'.ends _).1, (X'.ends _).2.mono hc hs, hf⟩⟩
  rw [X.pushThrowing_eq]
  exact st
/-- a thing of a world lies in the heap -/
theorem vx_lt {D : va_G} {cl : List vw_C} {ws : va_W} {H1 : Heap} (h : va_P D cl ws H1) {k : Nat} {q : Nat × va_E} (hk : ws[k]? = some q) : q.1 < H1.size := (h k q hk).lt
end VXS
/-! ===== END ===== -/
/-! ===== BEGIN methods with a table of their own: called by a name, returning or throwing ===== -/
section VXH
/-! vx_backW, vx_callVX, vx_callSX, vx_callVW, vx_runVW, vx_runVX, vx_runSX, vx_ofWH follow the same proofs as their sisters above (Free/Laws.lean, Shelf42/LK1.lean); vx_outP calls Shelf42/NT130.lean (outThrough). -/
section
variable {l : Launch} {R : Room} {p : Program} {e : Env} {below : List Frame} {s : State} {sargs : Array Value} {y : MethodName} {len W9 : Nat}
theorem vx_backW {ws : List Cond} {rm : Room} {Pc : Array Value → State → Prop} {Qc : Array Value → State → Outcome → State → Prop} {XC : String → State → State → Prop} {mc ms : Nat} {free : Addr → Prop} {bytes : ByteArray} {maxL : Nat} {ret : Option FieldType} {hh : List (Nat × Nat × Nat × Nat)}
    (hM : vx_Met l y ws rm Pc Qc XC mc ms free) (hblind : FrameBlind Pc) (hrc : rm.cells = mc) (hrs : rm.slots = ms)
    (hframes : rm.frames + 1 ≤ R.frames) (hlocals : W9 + (maxL + 11) + rm.locals ≤ R.locals)
    (hws : ∀ w ∈ ws, ∀ a' U, s.WarmedH U.vm → w.before a' U = true) (hcode : Cond.codeWith y bytes maxL ret hh ∈ ws) (hinit : ∀ a' U, s.WarmedH U.vm → (Cond.initialized y.cls).before a' U = true) :
    vx_Back l R p e below s sargs y len W9 (PreOf R mc ms Pc) (PostOf Qc mc ms free) (vx_Post XC mc ms free) := by
  intro m meth c A g ig mk a X hg hsize hdg hW hn hp
  have h1 : (headSpec ws rm).pre.before a A.U = true := atoms_intro fun w hw => hws w hw _ _ X.warmed
  have h2 : (Cond.codeWith y bytes maxL ret hh).before a A.U = true := hws _ hcode _ _ X.warmed
  have h3 : (Cond.initialized y.cls).before a A.U = true := hinit _ _ X.warmed
  have h4 : A.cells + (headSpec ws rm).room.cells ≤ R.cells := by rw [show (headSpec ws rm).room.cells = mc from hrc]; exact hp.1
  have h5 : A.slots + (headSpec ws rm).room.slots ≤ R.slots := by rw [show (headSpec ws rm).room.slots = ms from hrs]; exact hp.2.1
  have hPc : Pc a (A.U.calling g mk a) := hblind _ _ _ _ hp.2.2
  obtain ⟨U, Ls, c0, s0⟩ := A
  dsimp only [Pt.U, Pt.locs, Pt.cells, Pt.slots] at h1 h2 h3 h4 h5 X hn hPc ⊢
  obtain ⟨m9, methY, cY, hn9, hmY, hcY, -, hlY, -⟩ := Cond.codeWith_spec h2
  cases Option.some.inj (hn9.symm.trans hn)
  obtain ⟨kY, hkY, -⟩ := className_of_methodNamed hn
  have hinitY : kY.init = .initialized := Cond.initialized_spec (findClass_of_methodNamed hn) hkY h3
  have h : At U g.method c below := by rw [hg]; exact X.here
  have hlocals9 : W9 + (maxL + 11) + (headSpec ws rm).room.locals ≤ R.locals := hlocals
  have happ : (headSpec ws rm).appliesLoose y e.platform (U.calling g mk a) = true :=
    Spec.appliesLoose_calling (g := g) h hdg hn hkY hinitY
      (X.room_calling (g := g) (R' := (headSpec ws rm).room) hsize hmY hcY hframes (by rw [hlY]; omega) h4 h5) h1
  obtain ⟨mid, hmid⟩ := h.above
  have hfr : (U.setTop g).frames = (.java g :: mid) ++ below := by rw [State.frames_setTop' g h.top, hmid]; rfl
  obtain ⟨o, s₂, hsteps, -, hend, hq⟩ := Steps.callFree hM p X.admits X.cas X.clock (acts := []) hfr happ hPc trivial
  have hq' : vx_Q Qc XC mc ms free a (U.calling g mk a) o s₂ := hq
  rw [State.frames_setTop' g h.top] at hend
  obtain ⟨g₀, hg0⟩ := Option.isSome_iff_exists.mp h.top
  obtain ⟨r, hr⟩ := State.topJava?_eq_some.mp hg0
  have hr' : (({ U with heap := s₂.heap, slotsUsed := s₂.slotsUsed } : State).setVm s₂.vm).frames = .java g₀ :: r := hr
  rcases hq' with ⟨hqc, L, hfe, hL⟩ | ⟨q, rfl, E, ce, L, hx, hce, hcv, hcl, hW₂, hsm, hL⟩
  · obtain ⟨⟨v, rfl⟩, hW₂, e2, q2, q3, q4, q5, q6⟩ := id hfe
    have e3 : s₂ = ({ (U.calling g mk a).setFrames s₂.frames with heap := s₂.heap, slotsUsed := s₂.slotsUsed } : State).setVm s₂.vm := by
      have : s₂ = ({ s₂ with vm := (U.calling g mk a).vm } : State).setVm s₂.vm := rfl
      rw [e2] at this
      exact this
    obtain ⟨c₂, i₂, len₂, hc₂, hd₂, hf₂⟩ := hend
    have hW' : U.WarmedH s₂.vm := hW₂
    have hcc : c₂ = c := by
      have h1 : s₂.code? g.method = U.code? g.method := by
        rw [State.code?_eq, State.code?_eq, hW'.alike.method?]
      exact Option.some.inj (hc₂.symm.trans (h1.trans h.code))
    subst hcc
    have hlen : len₂ = len := by rw [hdg] at hd₂; cases hd₂; rfl
    subst hlen
    have hs₂ : s₂ = (({ U with heap := s₂.heap, slotsUsed := s₂.slotsUsed } : State).setVm s₂.vm).setTop { g with pc := g.pc + len₂, stack := v.toList ++ g.stack } := by
      refine e3.trans ?_
      rw [hf₂, State.calling_eq h.top, State.setFrames_setFrames, State.setTop_of_frames _ hr', hr]
      rfl
    have hsame : U.sameButNew ({ U with heap := s₂.heap, slotsUsed := s₂.slotsUsed } : State) L mc ms := by
      refine ⟨?_, q2, q3, q4, q5, q6⟩
      obtain ⟨t, ht, -⟩ := State.frames_cons hr
      show ({ U with heap := s₂.heap, slotsUsed := s₂.slotsUsed } : State) = { U.setFrames U.frames with heap := s₂.heap, slotsUsed := s₂.slotsUsed }
      rw [State.setFrames_self ht]
    subst hg
    refine Or.inl ⟨v, ⟨(({ U with heap := s₂.heap, slotsUsed := s₂.slotsUsed } : State).setVm s₂.vm), Ls ++ L, c0 + mc, s0 + ms⟩,
      ⟨X.admits, X.cas, X.clock, X.frames, X.room, X.hears, X.method, X.code, (X.here.setHeapUsed s₂.heap s₂.slotsUsed).setVm hW'.alike, X.tail, State.WarmedH.trans X.warmed hW', X.limits, X.bytes, X.same.trans (hsame.setVm s.vm)⟩,
      ⟨g, mk, s₂, L, rfl, rfl, hqc, rfl, hL, rfl, rfl⟩, ?_⟩
    show Steps p.tables e below _ ((({ U with heap := s₂.heap, slotsUsed := s₂.slotsUsed } : State).setVm s₂.vm).setTop { g with pc := g.pc + len₂, stack := v.toList ++ g.stack })
    rw [← hs₂]
    exact hsteps
  · obtain ⟨e2, q2, q3, q4, q5, q6⟩ := id hsm
    have e3 : s₂ = ({ (U.calling g mk a).setFrames s₂.frames with heap := s₂.heap, slotsUsed := s₂.slotsUsed } : State).setVm s₂.vm := by
      have : s₂ = ({ s₂ with vm := (U.calling g mk a).vm } : State).setVm s₂.vm := rfl
      rw [e2] at this
      exact this
    have hf₂ : s₂.frames = .throwing q :: .java g :: U.frames.tail := hend
    have hW' : U.WarmedH s₂.vm := hW₂
    have hs₂ : s₂ = ((({ U with heap := s₂.heap, slotsUsed := s₂.slotsUsed } : State).setVm s₂.vm).setTop g).pushFrame (.throwing q) := by
      refine e3.trans ?_
      rw [hf₂, State.calling_eq h.top, State.setFrames_setFrames, State.pushFrame, State.frames_setTop _ hr', State.setTop_of_frames _ hr', State.setFrames_setFrames, hr]
      rfl
    have hsame : U.sameButNew ({ U with heap := s₂.heap, slotsUsed := s₂.slotsUsed } : State) L mc ms := by
      refine ⟨?_, q2, q3, q4, q5, q6⟩
      obtain ⟨t, ht, -⟩ := State.frames_cons hr
      show ({ U with heap := s₂.heap, slotsUsed := s₂.slotsUsed } : State) = { U.setFrames U.frames with heap := s₂.heap, slotsUsed := s₂.slotsUsed }
      rw [State.setFrames_self ht]
    subst hg
    refine Or.inr ⟨q, ⟨(({ U with heap := s₂.heap, slotsUsed := s₂.slotsUsed } : State).setVm s₂.vm), Ls ++ L, c0 + mc, s0 + ms⟩,
      ⟨X.admits, X.cas, X.clock, X.frames, X.room, X.hears, X.method, X.code, (X.here.setHeapUsed s₂.heap s₂.slotsUsed).setVm hW'.alike, X.tail, State.WarmedH.trans X.warmed hW', X.limits, X.bytes, X.same.trans (hsame.setVm s.vm)⟩,
      ⟨g, mk, s₂, L, E, ce, rfl, rfl, hx, hce, hcv, hcl, rfl, hL, rfl, rfl⟩, ?_⟩
    show Steps p.tables e below _ (((({ U with heap := s₂.heap, slotsUsed := s₂.slotsUsed } : State).setVm s₂.vm).setTop g).pushFrame (.throwing q))
    rw [← hs₂]
    exact hsteps
end
variable {p : Program} {l : Launch} {e : Env} {R : Room} {s : State} {m : MethodId} {args : Array Value} {below : List Frame} {meth : Method} {c : Code} {T : State} {H : Heap} {locs : List Loc} {cells slots : Nat}
theorem vx_callVX (X : Stand p l e R s m args below meth c T locs cells slots) (hexec : p.tables.exec = Jvm.exec) {own C : String} {index : Nat} {y : MethodName} {bytes : ByteArray} {maxL : Nat} {ret : Option FieldType} {hh : List (Nat × Nat × Nat × Nat)}
    (hown : s.vm.findClass own = some m.cls) (hlink : (Cond.methodLink own index y).before args s = true) (hinst : (Cond.instanceMethod y).before args s = true) (hsel : (Cond.selects C y y).before args s = true)
    (hcode : (Cond.codeWith y bytes maxL ret hh).before args s = true) (hy : y.cls ≠ "java/lang/invoke/MethodHandle" ∧ y.cls ≠ "java/lang/invoke/VarHandle")
    {W9 : Nat} {Pre : Pt → Array Value → Prop} {Post : Pt → Array Value → Option Value → Pt → Prop} {PostX : Pt → Array Value → Addr → Pt → Prop} (hK : vx_Back l R p e below s args y 3 W9 Pre Post PostX)
    {b : Addr} {cellB : Cell} (hcell : T.heap[b]? = some cellB) (hobj : cellB.vm.isStatics = false) (hcls : s.vm.findClass C = some cellB.cls)
    {g : JFrame} (hg : g.method = m) (hsize : g.locals.size = c.maxLocals) {argsL rest : List Value} (hlen : ∀ sig, parseMethodDescriptor y.desc = some sig → argsL.length = sig.parameters.length)
    (hstack : g.stack = argsL.reverse ++ .ref b :: rest) (hW : 2 * g.monitorRoom + (rest.map fun v => v.category).sum ≤ W9) (hdg : decode c.code g.pc = .ok (.invokevirtual index, 3))
    (hpre : ∀ vm₁, s.WarmedH vm₁ → Pre ⟨T.setVm vm₁, locs, cells, slots⟩ (Value.ref b :: argsL).toArray) :
    (∃ (v : Option Value) (vm₁ : Vm) (B : Pt), s.WarmedH vm₁ ∧ Stand p l e R s m args below meth c B.U B.locs B.cells B.slots ∧ Post ⟨T.setVm vm₁, locs, cells, slots⟩ (Value.ref b :: argsL).toArray v B ∧
      ∀ target, Steps p.tables e below (B.U.setTop { g with pc := g.pc + 3, stack := v.toList ++ rest }) target → Steps p.tables e below (T.setTop g) target) ∨
    (∃ (q : Addr) (vm₁ : Vm) (B : Pt), s.WarmedH vm₁ ∧ Stand p l e R s m args below meth c B.U B.locs B.cells B.slots ∧ PostX ⟨T.setVm vm₁, locs, cells, slots⟩ (Value.ref b :: argsL).toArray q B ∧
      Steps p.tables e below (T.setTop g) ((B.U.setTop { g with stack := rest }).pushFrame (.throwing q))) := by
  obtain ⟨mk, methM, hnamed, hmethM, hstM, habM⟩ := Cond.instanceMethod_spec hinst
  obtain ⟨m8, methM', cM, hn8, hmethM', -, -, -, -, -, -, hsigM⟩ := Cond.codeWith_spec hcode
  cases Option.some.inj (hn8.symm.trans hnamed)
  cases hmethM.symm.trans hmethM'
  obtain ⟨c2, r2, m2, q1, q2, q3, q4, kP, hkP, hkPi⟩ := Cond.selects_spec hsel
  cases hcls.symm.trans q1
  cases (State.methodFound?_of_named hnamed hy).symm.trans q2
  cases hnamed.symm.trans q3
  have hselP : selectMethod e.platform s.vm cellB.cls mk = .method mk := by rw [Launch.admits_selectMethod X.admits]; exact q4
  obtain ⟨vm₁, X₁, hstep₁⟩ := X.invokevirtual hexec hown hlink hnamed hmethM hstM hkP hkPi hy (a := b) (cell := cellB) hcell
    (fun z h => by rw [h] at hobj; cases hobj) hselP hmethM habM hkP hkPi (g := g) hg (argsL := argsL) (rest := rest) (hlen _ hsigM) hstack hdg
  rcases hK m meth c ⟨T.setVm vm₁, locs, cells, slots⟩ { g with stack := rest } (.invokevirtual index) mk (Value.ref b :: argsL).toArray X₁ hg hsize hdg hW (X₁.named hnamed) (hpre vm₁ X₁.warmed) with ⟨v, B, X', hpost, hsteps⟩ | ⟨q, B, X', hpost, hsteps⟩
  · exact Or.inl ⟨v, vm₁, B, X₁.warmed, X', hpost, fun target h => hstep₁ _ fun acts => by rw [doInvoke_state]; exact hsteps.trans h⟩
  · exact Or.inr ⟨q, vm₁, B, X₁.warmed, X', hpost, hstep₁ _ fun acts => by rw [doInvoke_state]; exact hsteps⟩
theorem vx_callSX (X : Stand p l e R s m args below meth c T locs cells slots) (hexec : p.tables.exec = Jvm.exec) {own : String} {index : Nat} {y : MethodName} {bytes : ByteArray} {maxL : Nat} {ret : Option FieldType} {hh : List (Nat × Nat × Nat × Nat)}
    (hown : s.vm.findClass own = some m.cls) (hlink : (Cond.methodLink own index y).before args s = true) (hstat : (Cond.static y).before args s = true) (hinit : (Cond.initialized y.cls).before args s = true)
    (hcode : (Cond.codeWith y bytes maxL ret hh).before args s = true) (hy : y.cls ≠ "java/lang/invoke/MethodHandle" ∧ y.cls ≠ "java/lang/invoke/VarHandle")
    {W9 : Nat} {Pre : Pt → Array Value → Prop} {Post : Pt → Array Value → Option Value → Pt → Prop} {PostX : Pt → Array Value → Addr → Pt → Prop} (hK : vx_Back l R p e below s args y 3 W9 Pre Post PostX)
    {g : JFrame} (hg : g.method = m) (hsize : g.locals.size = c.maxLocals) {argsL rest : List Value} (hlen : ∀ sig, parseMethodDescriptor y.desc = some sig → argsL.length = sig.parameters.length)
    (hstack : g.stack = argsL.reverse ++ rest) (hW : 2 * g.monitorRoom + (rest.map fun v => v.category).sum ≤ W9) (hdg : decode c.code g.pc = .ok (.invokestatic index, 3))
    (hpre : ∀ vm₁, s.WarmedH vm₁ → Pre ⟨T.setVm vm₁, locs, cells, slots⟩ argsL.toArray) :
    (∃ (v : Option Value) (vm₁ : Vm) (B : Pt), s.WarmedH vm₁ ∧ Stand p l e R s m args below meth c B.U B.locs B.cells B.slots ∧ Post ⟨T.setVm vm₁, locs, cells, slots⟩ argsL.toArray v B ∧
      ∀ target, Steps p.tables e below (B.U.setTop { g with pc := g.pc + 3, stack := v.toList ++ rest }) target → Steps p.tables e below (T.setTop g) target) ∨
    (∃ (q : Addr) (vm₁ : Vm) (B : Pt), s.WarmedH vm₁ ∧ Stand p l e R s m args below meth c B.U B.locs B.cells B.slots ∧ PostX ⟨T.setVm vm₁, locs, cells, slots⟩ argsL.toArray q B ∧
      Steps p.tables e below (T.setTop g) ((B.U.setTop { g with stack := rest }).pushFrame (.throwing q))) := by
  obtain ⟨mk, methM, cM, hnamed, hmethM, -, -, -, -, -, -, hsigM⟩ := Cond.codeWith_spec hcode
  have hstatic : methM.isStatic = true := Cond.static_spec hnamed hmethM hstat
  obtain ⟨kP, hkP, -⟩ := className_of_methodNamed hnamed
  have hinitP : kP.init = .initialized := Cond.initialized_spec (findClass_of_methodNamed hnamed) hkP hinit
  obtain ⟨vm₁, X₁, hstep₁⟩ := X.invokestatic hexec hown hlink hnamed hmethM hstatic hkP hinitP hy (g := g) hg (argsL := argsL) (rest := rest) (hlen _ hsigM) hstack hdg
  rcases hK m meth c ⟨T.setVm vm₁, locs, cells, slots⟩ { g with stack := rest } (.invokestatic index) mk argsL.toArray X₁ hg hsize hdg hW (X₁.named hnamed) (hpre vm₁ X₁.warmed) with ⟨v, B, X', hpost, hsteps⟩ | ⟨q, B, X', hpost, hsteps⟩
  · exact Or.inl ⟨v, vm₁, B, X₁.warmed, X', hpost, fun target h => hstep₁ _ fun acts => by rw [doInvoke_state]; exact hsteps.trans h⟩
  · exact Or.inr ⟨q, vm₁, B, X₁.warmed, X', hpost, hstep₁ _ fun acts => by rw [doInvoke_state]; exact hsteps⟩
theorem vx_callVW (X : Stand p l e R s m args below meth c T locs cells slots) (hexec : p.tables.exec = Jvm.exec) {own C : String} {index : Nat} {y : MethodName} {bytes : ByteArray} {maxL : Nat} {ret : Option FieldType} {hh : List (Nat × Nat × Nat × Nat)}
    (hown : s.vm.findClass own = some m.cls) (hlink : (Cond.methodLink own index y).before args s = true) (hinst : (Cond.instanceMethod y).before args s = true) (hsel : (Cond.selects C y y).before args s = true)
    (hcode : (Cond.codeWith y bytes maxL ret hh).before args s = true) (hy : y.cls ≠ "java/lang/invoke/MethodHandle" ∧ y.cls ≠ "java/lang/invoke/VarHandle")
    {W9 : Nat} {Pre : Pt → Array Value → Prop} {Post : Pt → Array Value → Option Value → Pt → Prop} (hK : Back l R p e below s args y 3 W9 Pre Post)
    {b : Addr} {cellB : Cell} (hcell : T.heap[b]? = some cellB) (hobj : cellB.vm.isStatics = false) (hcls : s.vm.findClass C = some cellB.cls)
    {g : JFrame} (hg : g.method = m) (hsize : g.locals.size = c.maxLocals) {argsL rest : List Value} (hlen : ∀ sig, parseMethodDescriptor y.desc = some sig → argsL.length = sig.parameters.length)
    (hstack : g.stack = argsL.reverse ++ .ref b :: rest) (hW : 2 * g.monitorRoom + (rest.map fun v => v.category).sum ≤ W9) (hdg : decode c.code g.pc = .ok (.invokevirtual index, 3))
    (hpre : ∀ vm₁, s.WarmedH vm₁ → Pre ⟨T.setVm vm₁, locs, cells, slots⟩ (Value.ref b :: argsL).toArray) :
    ∃ (v : Option Value) (vm₁ : Vm) (B : Pt), s.WarmedH vm₁ ∧ Stand p l e R s m args below meth c B.U B.locs B.cells B.slots ∧ Post ⟨T.setVm vm₁, locs, cells, slots⟩ (Value.ref b :: argsL).toArray v B ∧
      ∀ target, Steps p.tables e below (B.U.setTop { g with pc := g.pc + 3, stack := v.toList ++ rest }) target → Steps p.tables e below (T.setTop g) target := by
  obtain ⟨mk, methM, hnamed, hmethM, hstM, habM⟩ := Cond.instanceMethod_spec hinst
  obtain ⟨m8, methM', cM, hn8, hmethM', -, -, -, -, -, -, hsigM⟩ := Cond.codeWith_spec hcode
  cases Option.some.inj (hn8.symm.trans hnamed)
  cases hmethM.symm.trans hmethM'
  obtain ⟨c2, r2, m2, q1, q2, q3, q4, kP, hkP, hkPi⟩ := Cond.selects_spec hsel
  cases hcls.symm.trans q1
  cases (State.methodFound?_of_named hnamed hy).symm.trans q2
  cases hnamed.symm.trans q3
  have hselP : selectMethod e.platform s.vm cellB.cls mk = .method mk := by rw [Launch.admits_selectMethod X.admits]; exact q4
  obtain ⟨vm₁, X₁, hstep₁⟩ := X.invokevirtual hexec hown hlink hnamed hmethM hstM hkP hkPi hy (a := b) (cell := cellB) hcell
    (fun z h => by rw [h] at hobj; cases hobj) hselP hmethM habM hkP hkPi (g := g) hg (argsL := argsL) (rest := rest) (hlen _ hsigM) hstack hdg
  obtain ⟨v, B, X', hpost, hsteps⟩ := hK m meth c ⟨T.setVm vm₁, locs, cells, slots⟩ { g with stack := rest } (.invokevirtual index) mk (Value.ref b :: argsL).toArray X₁ hg hsize hdg hW (X₁.named hnamed) (hpre vm₁ X₁.warmed)
  exact ⟨v, vm₁, B, X₁.warmed, X', hpost, fun target h => hstep₁ _ fun acts => by rw [doInvoke_state]; exact hsteps.trans h⟩
abbrev vx_CVW (R : Room) (s : State) (args : Array Value) (own C : String) (index : Nat) (y : MethodName) (bytes : ByteArray) (maxL : Nat) (ret : Option FieldType) (hh : List (Nat × Nat × Nat × Nat)) (ws : List Cond) (rm : Room) (mc ms n : Nat) : Prop :=
  (rm.cells = mc ∧ rm.slots = ms ∧ rm.frames + 1 ≤ R.frames ∧ 8 + (maxL + 11) + rm.locals ≤ R.locals ∧ (∀ w ∈ ws, ∀ (a' : Array Value) (U : State), s.WarmedH U.vm → w.before a' U = true) ∧ Cond.codeWith y bytes maxL ret hh ∈ ws) ∧
  (Cond.codeWith y bytes maxL ret hh).before args s = true ∧ (Cond.initialized y.cls).before args s = true ∧ (y.cls ≠ "java/lang/invoke/MethodHandle" ∧ y.cls ≠ "java/lang/invoke/VarHandle") ∧
  (∀ sig, parseMethodDescriptor y.desc = some sig → n = sig.parameters.length) ∧ (Cond.methodLink own index y).before args s = true ∧ (Cond.instanceMethod y).before args s = true ∧ (Cond.selects C y y).before args s = true
theorem vx_cwVW {own C : String} {index maxL mc ms : Nat} {y : MethodName} {bytes : ByteArray} {ret : Option FieldType} {hh : List (Nat × Nat × Nat × Nat)} {Ts ws ws' : List Cond} {rm : Room} (n : Nat) (ht : ∀ w ∈ Ts, w.before args s = true) (hT : GoodIn Ts (wsV own index C y ws)) (hw : ws = Cond.codeWith y bytes maxL ret hh :: ws') (hrc : rm.cells = mc) (hrs : rm.slots = ms)
    (hd : y.cls = C ∧ y.cls ≠ "java/lang/invoke/MethodHandle" ∧ y.cls ≠ "java/lang/invoke/VarHandle" ∧ (parseMethodDescriptor y.desc).map (fun d => d.parameters.length) = some n) (hR : rm.frames + 1 ≤ R.frames ∧ 8 + (maxL + 11) + rm.locals ≤ R.locals) :
    vx_CVW R s args own C index y bytes maxL ret hh ws rm mc ms n := by
  obtain ⟨hC, hd⟩ := hd
  subst hC
  have ok : ∀ w ∈ wsV own index y.cls y ws, w.before args s = true := fun w h => ht w (hT w h).1
  have hG : GoodIn Ts ws := fun w h => hT w (by unfold wsV; exact List.mem_append_right _ h)
  have hc : Cond.codeWith y bytes maxL ret hh ∈ ws := by rw [hw]; exact List.mem_cons_self
  refine ⟨⟨hrc, hrs, hR.1, hR.2, pay_in ht hG, hc⟩, ht _ (hG _ hc).1, ok _ (by simp [wsV]), ⟨hd.1, hd.2.1⟩, fun sig h => ?_, ok _ (by simp [wsV]), ok _ (by simp [wsV]), ok _ (by simp [wsV])⟩
  have h2 := hd.2.2
  rw [h] at h2
  exact (Option.some.inj h2).symm
theorem vx_runVW {y : MethodName} {bytes cc : ByteArray} {maxL nL mc ms n index : Nat} {ret : Option FieldType} {hh : List (Nat × Nat × Nat × Nat)} {ws : List Cond} {rm : Room} {Pc : Array Value → State → Prop} {Qc : Array Value → State → Outcome → State → Prop} {free : Addr → Prop} {Ts : List Cond} {own C : String} {b : Addr} {As rest : List Value} {g : JFrame}
    (S : CallFix p m c cc nL s args Ts own) (hM : Met l y ws rm Pc Qc mc ms free) (cw : vx_CVW R s args own C index y bytes maxL ret hh ws rm mc ms n) (hp : PreV s H C b Pc As)
    (hg : g.method = m) (hn : As.length = n) (hsize : g.locals.size = nL) (hstack : g.stack = As.reverse ++ .ref b :: rest) (hW : 2 * g.monitorRoom + (rest.map fun v => v.category).sum ≤ 8) (hdg : decode cc g.pc = .ok (.invokevirtual index, 3)) (hf : cells + mc ≤ R.cells ∧ slots + ms ≤ R.slots) :
    va_Run p l e R s m args below meth c H locs cells slots mc ms g rest (Qc (Value.ref b :: As).toArray) free := by
  obtain ⟨⟨hrc, hrs, hfr, hlo, hws, hcw⟩, hcode, hini, hy, hlen, hl, hin, hse⟩ := cw
  have hK : Back l R p e below s args y 3 8 (PreOf R mc ms Pc) (PostOf Qc mc ms free) := va_backW (hh := hh) (bytes := bytes) (maxL := maxL) (ret := ret) hM hp.1 hrc hrs hfr hlo hws hcw (fun a' U hW => word_at hW (Or.inl (by first | rfl | simp [Cond.onTables, Cond.keeps, Cond.steady])) hini)
  obtain ⟨hx, hb, hml, ho, -⟩ := S
  obtain ⟨-, ⟨cellB, hcB, hoB, hclB⟩, hPc⟩ := hp
  intro T hT X
  obtain ⟨v, vm₁, ⟨U', l2, c2, s2⟩, hW₁, X', ⟨g', mk, t, L, e1, e2, hq, h1, hL, h2, h3⟩, st⟩ := vx_callVW X hx (C := C) (hh := hh) (bytes := bytes) (maxL := maxL) (ret := ret) ho hl hin hse hcode hy hK (by rw [hT]; exact hcB) hoB hclB hg (hsize.trans hml.symm) (argsL := As) (rest := rest) (fun sig h => hn.trans (hlen sig h)) hstack hW (by rw [hb]; exact hdg)
    (fun vm₁ hW₁ => ⟨hf.1, hf.2, hPc (T.setVm vm₁) hT hW₁⟩)
  dsimp only [Pt.U, Pt.locs, Pt.cells, Pt.slots] at X' e1 e2 h1 h2 h3 st
  subst h1; subst h2; subst h3
  exact ⟨v, (T.setVm vm₁).calling g' mk (Value.ref b :: As).toArray, t, U', L, hT, X', hL, e1, e2, hq, st⟩
section
variable {y : MethodName} {bytes cc : ByteArray} {maxL nL mc ms n index : Nat} {ret : Option FieldType} {ws : List Cond} {rm : Room} {Pc : Array Value → State → Prop} {Qc : Array Value → State → Outcome → State → Prop} {XC : String → State → State → Prop} {free : Addr → Prop} {Ts : List Cond} {own C : String} {b : Addr} {As rest : List Value} {g : JFrame}
theorem vx_runVX {hh : List (Nat × Nat × Nat × Nat)} (S : CallFix p m c cc nL s args Ts own) (hM : vx_Met l y ws rm Pc Qc XC mc ms free) (cw : vx_CVW R s args own C index y bytes maxL ret hh ws rm mc ms n) (hp : PreV s H C b Pc As)
    (hg : g.method = m) (hn : As.length = n) (hsize : g.locals.size = nL) (hstack : g.stack = As.reverse ++ .ref b :: rest) (hW : 2 * g.monitorRoom + (rest.map fun v => v.category).sum ≤ 8) (hdg : decode cc g.pc = .ok (.invokevirtual index, 3)) (hf : cells + mc ≤ R.cells ∧ slots + ms ≤ R.slots) :
    vx_Run p l e R s m args below meth c H locs cells slots mc ms g rest (Qc (Value.ref b :: As).toArray) XC free := by
  obtain ⟨⟨hrc, hrs, hfr, hlo, hws, hcw⟩, hcode, hini, hy, hlen, hl, hin, hse⟩ := cw
  have hK : vx_Back l R p e below s args y 3 8 (PreOf R mc ms Pc) (PostOf Qc mc ms free) (vx_Post XC mc ms free) := vx_backW (hh := hh) (bytes := bytes) (maxL := maxL) (ret := ret) hM hp.1 hrc hrs hfr hlo hws hcw (fun a' U hW => word_at hW (Or.inl (by first | rfl | simp [Cond.onTables, Cond.keeps, Cond.steady])) hini)
  obtain ⟨hx, hb, hml, ho, -⟩ := S
  obtain ⟨-, ⟨cellB, hcB, hoB, hclB⟩, hPc⟩ := hp
  intro T hT X
  rcases vx_callVX X hx (C := C) (hh := hh) (bytes := bytes) (maxL := maxL) (ret := ret) ho hl hin hse hcode hy hK (by rw [hT]; exact hcB) hoB hclB hg (hsize.trans hml.symm) (argsL := As) (rest := rest) (fun sig h => hn.trans (hlen sig h)) hstack hW (by rw [hb]; exact hdg)
    (fun vm₁ hW₁ => ⟨hf.1, hf.2, hPc (T.setVm vm₁) hT hW₁⟩) with ⟨v, vm₁, ⟨U', l2, c2, s2⟩, hW₁, X', ⟨g', mk, t, L, e1, e2, hq, h1, hL, h2, h3⟩, st⟩ | ⟨q, vm₁, ⟨U', l2, c2, s2⟩, hW₁, X', ⟨g', mk, t, L, E, ce, e1, e2, hq, hce, hcv, hcl, h1, hL, h2, h3⟩, st⟩
  · dsimp only [Pt.U, Pt.locs, Pt.cells, Pt.slots] at X' e1 e2 h1 h2 h3 st
    subst h1; subst h2; subst h3
    exact Or.inl ⟨v, (T.setVm vm₁).calling g' mk (Value.ref b :: As).toArray, t, U', L, hT, X', hL, e1, e2, hq, st⟩
  · dsimp only [Pt.U, Pt.locs, Pt.cells, Pt.slots] at X' e1 e2 h1 h2 h3 st hcl
    subst h1; subst h2; subst h3
    exact Or.inr ⟨q, (T.setVm vm₁).calling g' mk (Value.ref b :: As).toArray, t, U', L, E, ce, hT, X', hL, e1, e2, hq, hce, hcv, vx_cls hW₁ hcl, st⟩
theorem vx_runSX {hh : List (Nat × Nat × Nat × Nat)} (S : CallFix p m c cc nL s args Ts own) (hM : vx_Met l y ws rm Pc Qc XC mc ms free) (cw : vx_CSW R s args own index y bytes maxL ret hh ws rm mc ms n) (hp : PreS s H Pc As)
    (hg : g.method = m) (hn : As.length = n) (hsize : g.locals.size = nL) (hstack : g.stack = As.reverse ++ rest) (hW : 2 * g.monitorRoom + (rest.map fun v => v.category).sum ≤ 8) (hdg : decode cc g.pc = .ok (.invokestatic index, 3)) (hf : cells + mc ≤ R.cells ∧ slots + ms ≤ R.slots) :
    vx_Run p l e R s m args below meth c H locs cells slots mc ms g rest (Qc As.toArray) XC free := by
  obtain ⟨⟨hrc, hrs, hfr, hlo, hws, hcw⟩, hcode, hini, hy, hlen, hl, hstt⟩ := cw
  have hK : vx_Back l R p e below s args y 3 8 (PreOf R mc ms Pc) (PostOf Qc mc ms free) (vx_Post XC mc ms free) := vx_backW (hh := hh) (bytes := bytes) (maxL := maxL) (ret := ret) hM hp.1 hrc hrs hfr hlo hws hcw (fun a' U hW => word_at hW (Or.inl (by first | rfl | simp [Cond.onTables, Cond.keeps, Cond.steady])) hini)
  obtain ⟨hx, hb, hml, ho, -⟩ := S
  intro T hT X
  rcases vx_callSX X hx (hh := hh) (bytes := bytes) (maxL := maxL) (ret := ret) ho hl hstt hini hcode hy hK hg (hsize.trans hml.symm) (argsL := As) (rest := rest) (fun sig h => hn.trans (hlen sig h)) hstack hW (by rw [hb]; exact hdg)
    (fun vm₁ hW₁ => ⟨hf.1, hf.2, hp.2 (T.setVm vm₁) hT hW₁⟩) with ⟨v, vm₁, ⟨U', l2, c2, s2⟩, hW₁, X', ⟨g', mk, t, L, e1, e2, hq, h1, hL, h2, h3⟩, st⟩ | ⟨q, vm₁, ⟨U', l2, c2, s2⟩, hW₁, X', ⟨g', mk, t, L, E, ce, e1, e2, hq, hce, hcv, hcl, h1, hL, h2, h3⟩, st⟩
  · dsimp only [Pt.U, Pt.locs, Pt.cells, Pt.slots] at X' e1 e2 h1 h2 h3 st
    subst h1; subst h2; subst h3
    exact Or.inl ⟨v, (T.setVm vm₁).calling g' mk As.toArray, t, U', L, hT, X', hL, e1, e2, hq, st⟩
  · dsimp only [Pt.U, Pt.locs, Pt.cells, Pt.slots] at X' e1 e2 h1 h2 h3 st hcl
    subst h1; subst h2; subst h3
    exact Or.inr ⟨q, (T.setVm vm₁).calling g' mk As.toArray, t, U', L, E, ce, hT, X', hL, e1, e2, hq, hce, hcv, vx_cls hW₁ hcl, st⟩
end
end VXH
theorem vx_ofWH {l : Launch} {y : MethodName} {ws ws' : List Cond} {rm : Room} {Pc : Array Value → State → Prop} {Qc : Array Value → State → Outcome → State → Prop} {XC : String → State → State → Prop} {mc ms : Nat} {free : Addr → Prop} {cc : ByteArray} {maxL : Nat} {ret : Option FieldType} {hh : List (Nat × Nat × Nat × Nat)}
    (hy : plainName y.cls = true) (hw : ws = Cond.codeWith y cc maxL ret hh :: ws')
    (body : ∀ p e s m args below meth c s₁, BodyLoose p l y (headSpec ws rm) cc maxL ret e s m args below meth c s₁ → c.maxLocals = maxL → Pc args s →
      W p l e (headSpec ws rm).room s m args below meth c s.heap [] 0 0 (vx_MQ below Qc XC args s mc ms free) (entryFrame m args maxL)) : vx_Met l y ws rm Pc Qc XC mc ms free := by
  refine MetFree.of_bodyS (code := cc) (maxLocals := maxL) (ret := ret) hy ?_ ?_
  · intro args s m h hn
    obtain ⟨m9, meth, c, hn9, h1, h2, h3, h4, -, h5, h6, -⟩ := Cond.codeWith_spec (atoms_spec (ws := ws) h _ (by rw [hw]; exact List.mem_cons_self))
    cases hn.symm.trans hn9
    exact ⟨meth, c, h1, h2, h3, h4, h5, h6⟩
  · intro p e s m args below meth c s₁ B hml hP _
    have hh0 : s₁.heap = s.heap := by rw [B.state]; rfl
    obtain ⟨t, a1, o, b1, b2, b3⟩ := body p e s m args below meth c s₁ B hml hP s₁ hh0 (Stand.of_body B)
    exact ⟨t, o, a1, b1, b2, b3⟩
/-! ===== END ===== -/
/-! ===== BEGIN what the machine throws by itself, no traces kept ===== -/
section VXM
set_option maxHeartbeats 1000000 in
/-- the machine throws cls with the message text, no traces kept: from its note over the frame g to 'throwing' over the same frame (follows the proofs of Stand.vmThrowsMessage, Shelf/KitTracedVmS.lean, and Stand.throwsMessageColdBareV, StandMessageColdV.lean, without the step out of the frame) -/
theorem vx_vmAt {p : Program} {l : Launch} {e : Env} {R : Room} {s : State} {m₀ : MethodId} {args : Array Value} {below : List Frame} {meth : Method} {c : Code} {W : State} {locs : List Loc} {cells slots : Nat}
    (X : Stand p l e R s m₀ args below meth c W locs cells slots) (hexec : p.tables.exec = Jvm.exec) (htr : e.platform.stackTraces = false) {cls : String} {names : List String} {text : String}
    (hcls : Bundle.fit cls = true) (hnames : ∀ n ∈ names, Bundle.fit n = true) (hsoe : (cls == "java/lang/StackOverflowError") = false) (hoom : (cls == "java/lang/OutOfMemoryError") = false)
    (h : ∀ a ∈ Bundle.messageArmAtoms cls names, a.before args s = true)
    (hlocs : ∀ x ∈ locs, ∀ cell, s.heap[x.base]? = some cell → cell.vm.isStatics = false)
    (htext : (text == notModelled) = false) (hlimit : ¬ (stringBytes (stringToUtf16 text)).size > e.platform.arrayLengthLimit) (hheap : ¬ (stringBytes (stringToUtf16 text)).size * componentBytes .byte > e.platform.maxHeapBytes)
    {g : JFrame} (hg : g.method = m₀) (hsize : g.locals.size = c.maxLocals)
    (hRframes : names.length + 4 < R.frames) (hRlocals : 2 * g.monitorRoom + (g.stack.map fun v => v.category).sum + 10240 ≤ R.locals) (hshort : 13 * names.length + 55 ≤ 10240)
    (hRcells : cells + 3 ≤ R.cells) (hRslots : slots + ((stringBytes (stringToUtf16 text)).size + 4 + 6) ≤ R.slots) (hlocks : meth.locks = false) :
    ∃ (S : State) (q : Addr) (ce : Cell), (∀ target, Steps p.tables e below ((S.setTop g).pushFrame (.throwing q)) target → Steps p.tables e below ((W.setTop g).pushFrame (.throwNew cls (some text) none)) target) ∧
      Stand p l e R s m₀ args below meth c S locs (cells + 3) (slots + ((stringBytes (stringToUtf16 text)).size + 4 + 6)) ∧ S.heap[q]? = some ce ∧ s.vm.findClass cls = some ce.cls ∧ ce.vm = .none := by
  have howns : e.platform.frameOwnsMonitors = true := by rw [X.admits.platform]
  have hfin : e.platform.finalization = false := by rw [X.admits.platform]
  have hpl : e.platform.magicAccessors = ({} : Platform).magicAccessors := by rw [X.admits.platform]
  have a : ∀ x, x ∈ Bundle.messageArmAtoms cls names → x.holds args s none s [] = true := fun x hx => h x hx
  obtain ⟨T, Z0, L, -, Y⟩ := ThrowableC.of_atoms (args := args) howns hfin hpl (fun x hx => h x (by simp [Bundle.messageArmAtoms, hx]))
  obtain ⟨Z, M, LZ, LM, hnZ⟩ := Init0T.ofS_atoms (args := args) hpl L Y (fun x hx => h x (by simp [Bundle.messageArmAtoms, hx]))
  obtain ⟨P1, Ps, hlen, L1, hL, hP1m, hlink1, hlink⟩ := Bundle.chainS (args := args) hpl hnZ names cls hcls hnames (fun x hx => h x (by simp [Bundle.messageArmAtoms, hx]))
  obtain ⟨Zs, LZs, hn4, hfitv, hfitc⟩ := StringT.of_atoms (args := args) (fun x hx => h x (by simp [Bundle.messageArmAtoms, hx]))
  have hfound : s.vm.findClass cls = some P1.m.cls := findClass_of_methodNamed hP1m
  obtain ⟨c1, kX, hc1, hk, hord, -, -, hn6⟩ := Cond.instantiable_spec (a (.instantiable cls 6) (by simp [Bundle.messageArmAtoms]))
  cases Option.some.inj (hc1.symm.trans hfound)
  have hinit := Cond.initialized_spec hfound hk (a (.initialized cls) (by simp [Bundle.messageArmAtoms]))
  have hctor : kX.findMethod "<init>" "(Ljava/lang/String;)V" = some P1.m.idx := findMethod_of_methodNamed hP1m hk
  have hsel0 : selectMethod e.platform s.vm P1.m.cls T.fill0 = .method T.fill0 := by
    obtain ⟨c2, r2, m2, q1, q2, q3, q4, -⟩ := Cond.selects_spec (a (.selects cls Bundle.tFill0 Bundle.tFill0) (by simp [Bundle.messageArmAtoms]))
    cases Option.some.inj (q1.symm.trans hfound)
    cases Option.some.inj (q2.symm.trans (State.methodFound?_of_named Y.fill0 (by decide)))
    cases Option.some.inj (q3.symm.trans Y.fill0)
    rw [Launch.admits_selectMethod X.admits]; exact q4
  have hselF : selectMethod e.platform s.vm P1.m.cls T.fill = .method T.fill := by
    obtain ⟨c2, r2, m2, q1, q2, q3, q4, -⟩ := Cond.selects_spec (a (.selects cls Bundle.tFill Bundle.tFill) (by simp [Bundle.messageArmAtoms]))
    cases Option.some.inj (q1.symm.trans hfound)
    cases Option.some.inj (q2.symm.trans (State.methodFound?_of_named Y.fill (by decide)))
    cases Option.some.inj (q3.symm.trans Y.fill)
    rw [Launch.admits_selectMethod X.admits]; exact q4
  obtain ⟨cellS0, hcS0, hiss⟩ := Y.statics
  obtain ⟨u0, hu0⟩ := Cond.staticRefV Y.unassigned L.unassignedStatic L.statics hcS0 hiss (a (.isRef (.static Bundle.tN "UNASSIGNED_STACK" Bundle.steD)) (by simp [Bundle.messageArmAtoms]))
  obtain ⟨sen, hsen⟩ := Cond.staticRefV Y.sentinel L.sentinelStatic L.statics hcS0 hiss (a (.isRef (.static Bundle.tN "SUPPRESSED_SENTINEL" Bundle.listD)) (by simp [Bundle.messageArmAtoms]))
  obtain ⟨ci198, i198, fB, hk198, hg198, ha198, hsB, -, hnB, htB, hffB⟩ := Cond.ownField (t := .object "java/lang/Object") Y.found L.cls (by decide +kernel) (a (.fieldLink Bundle.tN 198 Bundle.tN "backtrace" "Ljava/lang/Object;") (by simp [Bundle.messageArmAtoms])) (a (.lays Bundle.tN Bundle.tN "backtrace" "Ljava/lang/Object;") (by simp [Bundle.messageArmAtoms])) e.platform hpl
  obtain ⟨cellS, hcS', heS, -, hkeep⟩ := X.same.2.2.2.2.2 T.aS cellS0 hcS0
  have hcellS : W.heap[T.aS]? = some cellS := hcS'
  have hout' : ∀ i, (⟨T.aS, i⟩ : Loc) ∉ locs := fun i hmem => by
    have := hlocs _ hmem cellS0 hcS0
    rw [hiss] at this; cases this
  have hknownS : cellS.vm ≠ .unknown := by
    rw [heS]; intro hu
    rw [show cellS0.vm = .unknown from hu] at hiss
    cases hiss
  have hvU : cellS.slots[T.fUnassigned.slot]? = some u0.v := by rw [hkeep _ (hout' _)]; exact hu0
  have hvSen : cellS.slots[T.fSentinel.slot]? = some sen.v := by rw [hkeep _ (hout' _)]; exact hsen
  obtain ⟨iM, hffM⟩ := Y.msg
  obtain ⟨tyC, dC, hdC, hdnC⟩ := Cond.laysAt hfound hk Y.cause (a (.lays cls Bundle.tN "cause" "Ljava/lang/Throwable;") (by simp [Bundle.messageArmAtoms]))
  obtain ⟨tyS, dS, hdS, hdnS⟩ := Cond.laysAt hfound hk Y.stack (a (.lays cls Bundle.tN "stackTrace" Bundle.steD) (by simp [Bundle.messageArmAtoms]))
  obtain ⟨tyP, dP, hdP, hdnP⟩ := Cond.laysAt hfound hk Y.supp (a (.lays cls Bundle.tN "suppressedExceptions" Bundle.listD) (by simp [Bundle.messageArmAtoms]))
  obtain ⟨tyM, dM, hdM, hdnM⟩ := Cond.laysAt hfound hk hffM (a (.lays cls Bundle.tN "detailMessage" "Ljava/lang/String;") (by simp [Bundle.messageArmAtoms]))
  obtain ⟨tyB, dB, hdB, hdnB⟩ := Cond.laysAt hfound hk hffB (a (.lays cls Bundle.tN "backtrace" "Ljava/lang/Object;") (by simp [Bundle.messageArmAtoms]))
  have bC := Cond.laysApart hdB hdC hdnB hdnC (by rw [hnB, Y.causeName]; decide)
  have bS := Cond.laysApart hdB hdS hdnB hdnS (by rw [hnB, Y.stackName]; decide)
  have bP := Cond.laysApart hdB hdP hdnB hdnP (by rw [hnB, Y.suppName]; decide)
  have hbk : ((preparedCellV T.toThrowableT (freshCell P1.m.cls kX) (W.heap.size + 2) u0 sen).withEntry W.cur).slots[fB.slot]? = some .null := by
    have := fresh_default (c := P1.m.cls) tyB
    rw [htB] at this
    simpa [preparedCellV, Cell.setSlot, Cell.withEntry, Array.getElem?_setIfInBounds, bC, bS, bP, bC.symm, bS.symm, bP.symm, defaultValue] using this
  have tkC := Takes.of_laid (v := .ref (W.heap.size + 2)) hk hord tyC (by rw [Y.causeType]; rfl)
  have tkS := Takes.of_laid (v := u0.v) hk hord tyS (by rw [Y.stackType]; exact fits_refV_array _ u0)
  have tkP := Takes.of_laid (v := sen.v) hk hord tyP (by rw [Y.suppType]; exact fits_refV_object _ sen)
  have tkM := Takes.of_laid (v := .ref (W.heap.size + 1)) hk hord tyM (by rw [Y.msgType]; rfl)
  have hskip : SkipFacts T e.platform s (fun u => u) u0 ((preparedCellV T.toThrowableT (freshCell P1.m.cls kX) (W.heap.size + 2) u0 sen).withEntry W.cur) := ⟨{ ci198 := ci198, i198 := i198, fBack := fB }, ⟨hk198, hg198, ha198, hsB⟩, hbk, fun _ _ => rfl⟩
  have h0 : At W g.method c below := by rw [hg]; exact X.here
  obtain ⟨hbeyond, hfreeW⟩ := X.vmMayThrow hsize (.throwNew cls (some text) none) (fun f hf => by cases hf) rfl hRlocals
  have hfr' : W.frames.length + Ps.length + 4 < (e.platform.stackLimits W.me).1 := by have := X.framesAbove hRframes; omega
  have hwd' : (stackUse (.java g :: W.frames.tail)).2 + 13 * Ps.length + 55 ≤ (e.platform.stackLimits W.me).2 := by have := X.stackAbove hsize (K := 13 * Ps.length + 55) (by omega); omega
  have hslots : W.slotsUsed + (stringBytes (stringToUtf16 text)).size + Zs.kS.instanceTypes.size + kX.instanceTypes.size ≤ e.platform.maxSlots := by
    have := X.slotsAbove hRslots
    rw [hn4, hn6]
    omega
  obtain ⟨vm', hW', st⟩ := Steps.vmThrowsMessageColdByV p (s₀ := s) (S := W) (g := g) h0 hexec T L Z LZ M LM X.warmed (t := W.cur) rfl Zs LZs P1 L1 Ps hL hlink1 hlink hsoe hoom hfound hk hinit hord hctor
    (Launch.admits_hotImplicitExceptions X.admits) hbeyond hfreeW htext hlimit hheap (X.cellsAbove hRcells) hslots (hfitv _) (hfitc _)
    (Nn := fun u => u) heapOnly_id (fun _ _ => rfl) (fun _ => rfl) (fun u x y => setCell_twice _ _ _ _) (fun _ => Nat.le_refl _) (cN := ((preparedCellV T.toThrowableT (freshCell P1.m.cls kX) (W.heap.size + 2) u0 sen).withEntry W.cur))
    hsel0 hcellS hknownS hvU tkS (fun _ hu => hu) (fun _ hu => hu) rfl rfl rfl (by simp [preparedCellV, Cell.setSlot, Cell.withEntry]) hskip (fun _ _ hA hW _ hroom _ hrest => L.nativeOff p htr hA hW hroom hrest) hselF hvSen tkC tkP tkM Y.objLocals rfl hfr' hwd'
  rw [plainBareV_eq T.toThrowableT (W.heap.size + 2) u0 sen (.ref (W.heap.size + 1)) W.cur rfl rfl] at st
  obtain ⟨-, -, w3, w4, -, -, -⟩ := withThrown_facts e.platform W Zs text P1.m.cls kX
  have X3 := ((X.pushed (bytesOf Zs.cB (stringToUtf16 text))).pushed (stringAt Zs.cS Zs.kS Zs.fv Zs.fc (stringToUtf16 text) W.heap.size)).pushed (freshCell P1.m.cls kX)
  rw [← withString_eq] at X3
  have X4 := X3.noted hW'
  have ha : (W.heap.size + 2) < ((withThrown W Zs text P1.m.cls kX).setVm vm').heap.size := by show _ < (withThrown W Zs text P1.m.cls kX).heap.size; rw [w3]; omega
  have hcell : ((withThrown W Zs text P1.m.cls kX).setVm vm').heap[(W.heap.size + 2)]? = some (freshCell P1.m.cls kX) := w4
  have X5 := ((((X4.stored hcell T.fCause.slot (.ref (W.heap.size + 2))).storedAgain ha T.fStack.slot u0.v).storedAgain ha T.fSupp.slot sen.v).storedAgain ha T.fStack.slot u0.v).storedAgain ha T.fMsg.slot (.ref (W.heap.size + 1))
  obtain ⟨g₁, hfrM⟩ := X5.frames_eq
  have hU : ((((withThrown W Zs text P1.m.cls kX).setVm vm').setCell (W.heap.size + 2) (plainBareV T.toThrowableT (freshCell P1.m.cls kX) (W.heap.size + 2) u0 sen (.ref (W.heap.size + 1)))).setTop g).pushFrame (.throwing (W.heap.size + 2)) = (((withThrown W Zs text P1.m.cls kX).setVm vm').setCell (W.heap.size + 2) (plainBareV T.toThrowableT (freshCell P1.m.cls kX) (W.heap.size + 2) u0 sen (.ref (W.heap.size + 1)))).setFrames (.throwing (W.heap.size + 2) :: .java g :: below) := by
    rw [State.pushFrame, State.frames_setTop _ hfrM, State.setTop_of_frames _ hfrM, State.setFrames_setFrames]
  have b1 : (bytesOf Zs.cB (stringToUtf16 text)).slots.size = (stringBytes (stringToUtf16 text)).size := by
    rw [(Cell.writeAll_facts _ _).2.2]; simp [bytes0]
  have b2 : (stringAt Zs.cS Zs.kS Zs.fv Zs.fc (stringToUtf16 text) W.heap.size).slots.size = 4 := by simp [string0, Cell.setSlot, hn4]
  have b3 : (freshCell P1.m.cls kX).slots.size = 6 := by simp [hn6]
  rw [b1, b2, b3] at X5
  have e9 : slots + (stringBytes (stringToUtf16 text)).size + 4 + 6 = slots + ((stringBytes (stringToUtf16 text)).size + 4 + 6) := by omega
  rw [e9] at X5
  simp only [List.append_assoc, List.cons_append, List.nil_append] at X5
  refine ⟨((withThrown W Zs text P1.m.cls kX).setVm vm').setCell (W.heap.size + 2) (plainBareV T.toThrowableT (freshCell P1.m.cls kX) (W.heap.size + 2) u0 sen (.ref (W.heap.size + 1))), W.heap.size + 2, _, fun target ht => st _ (by rw [X.tail, ← hU]; exact ht),
    X5.forget (fun y hy => ?_), heapAt_setCell_self _ ha, hfound, rfl⟩
  simp only [List.mem_cons, List.not_mem_nil, or_false] at hy
  have hge : s.heap.size ≤ W.heap.size := X.same.2.1
  rcases hy with rfl | rfl | rfl | rfl | rfl <;> exact Nat.le_trans hge (Nat.le_add_right _ 2)
set_option maxHeartbeats 1000000 in
/-- the machine throws NullPointerException, no traces kept: from its note over the frame g to 'throwing' over the same frame (follows the proof of Stand.vmThrowsNpe, Shelf42/KT2.lean; throwsNpeColdBareVAt, Shelf42/NT91.lean, called) -/
theorem vx_npeAt {p : Program} {l : Launch} {e : Env} {R : Room} {s : State} {m₀ : MethodId} {args : Array Value} {below : List Frame} {meth : Method} {c : Code} {W : State} {locs : List Loc} {cells slots : Nat}
    (X : Stand p l e R s m₀ args below meth c W locs cells slots) (hexec : p.tables.exec = Jvm.exec) (htr : e.platform.stackTraces = false) {n : Nat}
    (h : ∀ a ∈ Bundle.npeArmAtoms n, a.before args s = true)
    (hlocs : ∀ x ∈ locs, ∀ cell, s.heap[x.base]? = some cell → cell.vm.isStatics = false)
    {g : JFrame} (hg : g.method = m₀) (hsize : g.locals.size = c.maxLocals)
    (hRframes : 7 < R.frames) (hRlocals : 2 * g.monitorRoom + (g.stack.map fun v => v.category).sum + 10240 ≤ R.locals)
    (hRcells : cells + 1 ≤ R.cells) (hRslots : slots + n ≤ R.slots) (hlocks : meth.locks = false) :
    ∃ (S : State) (q : Addr) (ce : Cell), (∀ target, Steps p.tables e below ((S.setTop g).pushFrame (.throwing q)) target → Steps p.tables e below ((W.setTop g).pushFrame (.throwNew "java/lang/NullPointerException" none none)) target) ∧
      Stand p l e R s m₀ args below meth c S locs (cells + 1) (slots + n) ∧ S.heap[q]? = some ce ∧ s.vm.findClass "java/lang/NullPointerException" = some ce.cls ∧ ce.vm = .none := by
  have howns : e.platform.frameOwnsMonitors = true := by rw [X.admits.platform]
  have hfin : e.platform.finalization = false := by rw [X.admits.platform]
  have hpl : e.platform.magicAccessors = ({} : Platform).magicAccessors := by rw [X.admits.platform]
  have hpl2 : e.platform.arrayCloneIsPublic = true := by rw [X.admits.platform]
  have a' : ∀ x, x ∈ Bundle.npeArmAtoms n → x.holds args s none s [] = true := fun x hx => h x hx
  obtain ⟨T, Z, L, LZ, Y⟩ := ThrowableC.of_atoms (args := args) howns hfin hpl (fun x hx => h x (by simp [Bundle.npeArmAtoms, hx]))
  obtain ⟨N, LN, hcN, hnNF, hordN, hffS⟩ := NpeC.of_atoms (args := args) hpl hpl2 L Y (fun x hx => h x (by simp [Bundle.npeArmAtoms, hx]))
  obtain ⟨P1, L1, hP1m, hP1s⟩ := PassC.of_atoms (args := args) (s := s) hpl (X := Bundle.nN) (Y := Bundle.rN) (by decide) (by decide) LibCode.NullPointerException.Init0.at_0 LibCode.NullPointerException.Init0.at_1 LibCode.NullPointerException.Init0.at_4 (fun x hx => h x (by simp [Bundle.npeArmAtoms, hx]))
  obtain ⟨PR, LR, hPRm, hPRs⟩ := PassC.of_atoms (args := args) (s := s) hpl (X := Bundle.rN) (Y := Bundle.eN) (by decide) (by decide) LibCode.RuntimeException.Init0.at_0 LibCode.RuntimeException.Init0.at_1 LibCode.RuntimeException.Init0.at_4 (fun x hx => h x (by simp [Bundle.npeArmAtoms, hx]))
  obtain ⟨PE, LEx, hPEm, hPEs⟩ := PassC.of_atoms (args := args) (s := s) hpl (X := Bundle.eN) (Y := Bundle.tN) (by decide) (by decide) LibCode.Exception.Init0.at_0 LibCode.Exception.Init0.at_1 LibCode.Exception.Init0.at_4 (fun x hx => h x (by simp [Bundle.npeArmAtoms, hx]))
  have hfound : s.vm.findClass Bundle.nN = some P1.m.cls := findClass_of_methodNamed hP1m
  have ecls : N.cN = P1.m.cls := Option.some.inj (hcN.symm.trans hfound)
  have hk : s.vm.classes[P1.m.cls]? = some N.kN := by rw [← ecls]; exact LN.cls
  have hinit := Cond.initialized_spec hfound hk (a' (.initialized Bundle.nN) (by simp [Bundle.npeArmAtoms]))
  have hctor : N.kN.findMethod "<init>" "()V" = some P1.m.idx := findMethod_of_methodNamed hP1m hk
  obtain ⟨c1, k1, hc1, hk1, -, -, -, hn⟩ := Cond.instantiable_spec (a' (.instantiable Bundle.nN n) (by simp [Bundle.npeArmAtoms]))
  cases Option.some.inj (hc1.symm.trans hfound)
  cases Option.some.inj (hk1.symm.trans hk)
  have hfsz : (freshCell P1.m.cls N.kN).slots.size = n := by simp [hn]
  have hlink1 : P1.sup = PR.m := Option.some.inj (hP1s.symm.trans hPRm)
  have hlinkR : PR.sup = PE.m := Option.some.inj (hPRs.symm.trans hPEm)
  have hlinkE : PE.sup = Z.m T.toThrowableT := Option.some.inj (hPEs.symm.trans Y.init0)
  have hLs : ∀ P, P ∈ [PR, PE] → P.Links0 e.platform s := fun P hP => by
    simp only [List.mem_cons, List.not_mem_nil, or_false] at hP
    rcases hP with rfl | rfl
    · exact LR
    · exact LEx
  have hsel0 : selectMethod e.platform s.vm P1.m.cls T.fill0 = .method T.fill0 := by
    obtain ⟨c2, r2, m2, q1, q2, q3, q4, -⟩ := Cond.selects_spec (a' (.selects Bundle.nN Bundle.tFill0 Bundle.tFill0) (by simp [Bundle.npeArmAtoms]))
    cases Option.some.inj (q1.symm.trans hfound)
    cases Option.some.inj (q2.symm.trans (State.methodFound?_of_named Y.fill0 (by decide)))
    cases Option.some.inj (q3.symm.trans Y.fill0)
    rw [Launch.admits_selectMethod X.admits]; exact q4
  have hselF : selectMethod e.platform s.vm P1.m.cls T.fill = .method N.fill := by
    obtain ⟨c2, r2, m2, q1, q2, q3, q4, -⟩ := Cond.selects_spec (a' (.selects Bundle.nN Bundle.tFill Bundle.nFill) (by simp [Bundle.npeArmAtoms]))
    cases Option.some.inj (q1.symm.trans hfound)
    cases Option.some.inj (q2.symm.trans (State.methodFound?_of_named Y.fill (by decide)))
    cases Option.some.inj (q3.symm.trans hnNF)
    rw [Launch.admits_selectMethod X.admits]; exact q4
  obtain ⟨cellS0, hcS0, hiss⟩ := Y.statics
  obtain ⟨u0, hu0⟩ := Cond.staticRefV Y.unassigned L.unassignedStatic L.statics hcS0 hiss (a' (.isRef (.static Bundle.tN "UNASSIGNED_STACK" Bundle.steD)) (by simp [Bundle.npeArmAtoms]))
  obtain ⟨sen, hsen⟩ := Cond.staticRefV Y.sentinel L.sentinelStatic L.statics hcS0 hiss (a' (.isRef (.static Bundle.tN "SUPPRESSED_SENTINEL" Bundle.listD)) (by simp [Bundle.npeArmAtoms]))
  obtain ⟨ci198, i198, fB, hk198, hg198, ha198, hsB, -, hnB, htB, hffB⟩ := Cond.ownField (t := .object "java/lang/Object") Y.found L.cls (by decide +kernel) (a' (.fieldLink Bundle.tN 198 Bundle.tN "backtrace" Bundle.objD) (by simp [Bundle.npeArmAtoms])) (a' (.lays Bundle.tN Bundle.tN "backtrace" Bundle.objD) (by simp [Bundle.npeArmAtoms])) e.platform hpl
  obtain ⟨cellS, hcS', heS, -, hkeep⟩ := X.same.2.2.2.2.2 T.aS cellS0 hcS0
  have hcellS : W.heap[T.aS]? = some cellS := hcS'
  have hout' : ∀ i, (⟨T.aS, i⟩ : Loc) ∉ locs := fun i hmem => by
    have := hlocs _ hmem cellS0 hcS0
    rw [hiss] at this; cases this
  have hknownS : cellS.vm ≠ .unknown := by
    rw [heS]; intro hu
    rw [show cellS0.vm = .unknown from hu] at hiss
    cases hiss
  have hvU : cellS.slots[T.fUnassigned.slot]? = some u0.v := by rw [hkeep _ (hout' _)]; exact hu0
  have hvSen : cellS.slots[T.fSentinel.slot]? = some sen.v := by rw [hkeep _ (hout' _)]; exact hsen
  obtain ⟨tyC, dC, hdC, hdnC⟩ := Cond.laysAt hfound hk Y.cause (a' (.lays Bundle.nN Bundle.tN "cause" "Ljava/lang/Throwable;") (by simp [Bundle.npeArmAtoms]))
  obtain ⟨tyS, dS, hdS, hdnS⟩ := Cond.laysAt hfound hk Y.stack (a' (.lays Bundle.nN Bundle.tN "stackTrace" Bundle.steD) (by simp [Bundle.npeArmAtoms]))
  obtain ⟨tyP, dP, hdP, hdnP⟩ := Cond.laysAt hfound hk Y.supp (a' (.lays Bundle.nN Bundle.tN "suppressedExceptions" Bundle.listD) (by simp [Bundle.npeArmAtoms]))
  obtain ⟨tyX, dX, hdX, hdnX⟩ := Cond.laysAt hfound hk hffS (a' (.lays Bundle.nN Bundle.nN "extendedMessageState" "I") (by simp [Bundle.npeArmAtoms, Bundle.npeAtoms]))
  obtain ⟨hnX, htX⟩ := State.fieldFound?_type hffS (t := .int) (by decide +kernel)
  have xC := Cond.laysApart hdC hdX hdnC hdnX (by rw [hnX, Y.causeName]; decide)
  have xS := Cond.laysApart hdS hdX hdnS hdnX (by rw [hnX, Y.stackName]; decide)
  have xP := Cond.laysApart hdP hdX hdnP hdnX (by rw [hnX, Y.suppName]; decide)
  have hv0 : (freshCell P1.m.cls N.kN).slots[N.fState.slot]? = some (.int 0) := by
    have := fresh_default (c := P1.m.cls) tyX
    rw [htX] at this; exact this
  obtain ⟨tyB, dB, hdB, hdnB⟩ := Cond.laysAt hfound hk hffB (a' (.lays Bundle.nN Bundle.tN "backtrace" Bundle.objD) (by simp [Bundle.npeArmAtoms]))
  have bC := Cond.laysApart hdB hdC hdnB hdnC (by rw [hnB, Y.causeName]; decide)
  have bS := Cond.laysApart hdB hdS hdnB hdnS (by rw [hnB, Y.stackName]; decide)
  have bP := Cond.laysApart hdB hdP hdnB hdnP (by rw [hnB, Y.suppName]; decide)
  have bX := Cond.laysApart hdB hdX hdnB hdnX (by rw [hnB, hnX]; decide)
  have hbk : ((npeCell N.toNpeT (preparedCellV T.toThrowableT (freshCell P1.m.cls N.kN) W.heap.size u0 sen) W.cur).withEntry W.cur).slots[fB.slot]? = some .null := by
    have := fresh_default (c := P1.m.cls) tyB
    rw [htB] at this
    simpa [npeCell, preparedCellV, Cell.setSlot, Cell.withEntry, Array.getElem?_setIfInBounds, bC, bS, bP, bX, bC.symm, bS.symm, bP.symm, bX.symm, defaultValue] using this
  have tkC := Takes.of_laid (v := .ref W.heap.size) hk hordN tyC (by rw [Y.causeType]; rfl)
  have tkS := Takes.of_laid (v := u0.v) hk hordN tyS (by rw [Y.stackType]; exact fits_refV_array _ u0)
  have tkP := Takes.of_laid (v := sen.v) hk hordN tyP (by rw [Y.suppType]; exact fits_refV_object _ sen)
  have tkX := Takes.of_laid (v := .int 1) hk hordN tyX (by rw [htX]; rfl)
  have hskip : SkipFacts T e.platform s (fun u => u) u0 ((npeCell N.toNpeT (preparedCellV T.toThrowableT (freshCell P1.m.cls N.kN) W.heap.size u0 sen) W.cur).withEntry W.cur) := ⟨{ ci198 := ci198, i198 := i198, fBack := fB }, ⟨hk198, hg198, ha198, hsB⟩, hbk, fun _ _ => rfl⟩
  obtain ⟨vm', X3, st, -⟩ := X.throwsNpeColdBareVAt hexec hg hsize T L Z LZ N LN P1 L1 [PR, PE] hLs hlink1 ⟨hlinkR, hlinkE, trivial⟩ hfound hk hinit hordN hctor hsel0 hselF hcellS hknownS hvU hvSen
    hv0 xC xS xP tkC tkS tkP tkX Y.objLocals hskip (fun _ _ hA hW _ hroom _ hrest => L.nativeOff p htr hA hW hroom hrest) (by simpa using hRframes) hRlocals (by simp) hRcells (by rw [hn]; exact hRslots)
  have hlt : W.heap.size < ((W.pushCell (freshCell P1.m.cls N.kN)).setVm vm').heap.size := by
    show W.heap.size < (W.pushCell (freshCell P1.m.cls N.kN)).heap.size
    rw [State.heap_size_pushCell]; omega
  rw [hfsz] at X3
  obtain ⟨g₁, hfrM⟩ := X3.frames_eq
  have hU : ((((W.pushCell (freshCell P1.m.cls N.kN)).setVm vm').setCell W.heap.size (npeBareV T.toThrowableT N.toNpeT (freshCell P1.m.cls N.kN) W.heap.size u0 sen)).setTop g).pushFrame (.throwing W.heap.size) = (((W.pushCell (freshCell P1.m.cls N.kN)).setVm vm').setCell W.heap.size (npeBareV T.toThrowableT N.toNpeT (freshCell P1.m.cls N.kN) W.heap.size u0 sen)).setFrames (.throwing W.heap.size :: .java g :: below) := by
    rw [State.pushFrame, State.frames_setTop _ hfrM, State.setTop_of_frames _ hfrM, State.setFrames_setFrames]
  refine ⟨_, W.heap.size, _, fun target ht => st.trans (by rw [← hU]; exact ht), X3.forget (fun y hy => ?_), heapAt_setCell_self _ hlt, hfound, rfl⟩
  simp only [List.mem_cons, List.not_mem_nil, or_false] at hy
  have hge : s.heap.size ≤ W.heap.size := X.same.2.1
  rcases hy with rfl | rfl | rfl | rfl | rfl <;> exact hge
/-- the words of a machine's NullPointerException, but the four that speak of the heap -/
def vx_atN (n : Nat) : List Cond := (Bundle.npeArmAtoms n).filter vx_no
/-- the words of a machine's throw with a message, but the four that speak of the heap -/
def vx_atM (X : String) (names : List String) : List Cond := (Bundle.messageArmAtoms X names).filter vx_no
section
variable {p : Program} {l : Launch} {e : Env} {R : Room} {s : State} {m : MethodId} {args : Array Value} {below : List Frame} {meth : Method} {c : Code} {H : Heap} {locs : List Loc} {cells slots : Nat}
/-- a frame seen from a rebased start, seen from the first start again -/
theorem vx_back9 {T S : State} {R' : Room} {k n : Nat} (X : Stand p l e R s m args below meth c T locs cells slots) (Y : Stand p l e R' ((T.setVm s.vm).setFrames (.invoking m args :: below)) m args below meth c T [] 0 0) (Z : Stand p l e R' ((T.setVm s.vm).setFrames (.invoking m args :: below)) m args below meth c S [] k n) :
    Stand p l e R s m args below meth c S locs (cells + k) (slots + n) := by
  have hW0 : s.WarmedH ((T.setVm s.vm).setFrames (.invoking m args :: below)).vm := State.WarmedH.refl s
  refine { admits := X.admits, cas := X.cas, clock := X.clock, frames := X.frames, room := X.room, hears := X.hears, method := X.method, code := X.code, here := Z.here, tail := Z.tail, warmed := State.WarmedH.trans hW0 Z.warmed, limits := Z.limits.trans (Y.limits.symm.trans X.limits), bytes := Z.bytes.trans (Y.bytes.symm.trans X.bytes), same := ?_ }
  obtain ⟨e1, e2⟩ := Z.same
  rw [State.setFrames_setFrames] at e1
  have h2 : (T.setVm s.vm).sameButNew (S.setVm s.vm) [] k n := ⟨e1, e2⟩
  have h3 := X.same.trans h2
  rw [List.append_nil] at h3
  exact h3
/-- from the machine's note that E is thrown here with this text -/
def vx_Note (p : Program) (l : Launch) (e : Env) (R : Room) (s : State) (m : MethodId) (args : Array Value) (below : List Frame) (meth : Method) (c : Code) (H : Heap) (locs : List Loc) (cells slots : Nat) (Q : State → Prop) (g : JFrame) (E text : String) : Prop :=
  ∀ T : State, T.heap = H → Stand p l e R s m args below meth c T locs cells slots → ∃ t, Steps p.tables e below ((T.setTop g).pushFrame (.throwNew E (some text) none)) t ∧ Q t
theorem vx_vm {pc : Nat} {ls : Array Slot} {rest : List Value} {Q : State → Prop} (hexec : p.tables.exec = Jvm.exec) (hl : l.stackTraces = false) {cls text : String} {names : List String} {nb : Nat} {A : Nat → Prop}
    (hcls : Bundle.fit cls = true) (hnames : ∀ n ∈ names, Bundle.fit n = true) (hsoe : (cls == "java/lang/StackOverflowError") = false) (hoom : (cls == "java/lang/OutOfMemoryError") = false)
    (hat : ∀ w ∈ vx_atM cls names, w.before args s = true) (hgood : ∀ w ∈ vx_atM cls names, vx_ot w = true)
    (hU : vx_Zq Bundle.tN "UNASSIGNED_STACK" Bundle.steD A s s.heap) (hN : vx_Zq Bundle.tN "SUPPRESSED_SENTINEL" Bundle.listD A s s.heap) (hS : va_S A s.heap H locs) (hsize : ls.size = c.maxLocals)
    (htext : (text == notModelled) = false) (hnb : (stringBytes (stringToUtf16 text)).size ≤ nb) (hnb1 : nb ≤ 1000)
    (hRframes : names.length + 4 < R.frames) (hRlocals : (rest.map fun v => v.category).sum + 10240 ≤ R.locals) (hshort : 13 * names.length + 55 ≤ 10240) (hRcells : cells + 3 ≤ R.cells) (hRslots : slots + (nb + 10) ≤ R.slots) (hlocks : meth.locks = false)
    (k : ∀ (H1 : Heap) (q9 : Addr) (ce : Cell), H.size ≤ H1.size → (∀ q : Nat, q < H.size → H1[q]? = H[q]?) → va_S A s.heap H1 locs → H1[q9]? = some ce → ce.vm = .none → s.vm.findClass cls = some ce.cls → vx_W p l e R s m args below meth c H1 locs (cells + 3) (slots + (nb + 10)) Q (F0 m pc ls rest) q9) :
    vx_Note p l e R s m args below meth c H locs cells slots Q (F0 m pc ls rest) cls text := by
  intro T hT X
  have htr : e.platform.stackTraces = false := (show e.platform.stackTraces = l.stackTraces by rw [X.admits.platform]).trans hl
  have Y := vx_rebase X (R' := { frames := R.frames, locals := R.locals, cells := 3, slots := nb + 10 }) (Nat.le_refl _) (Nat.le_refl _) hRcells hRslots
  have hhp : ((T.setVm s.vm).setFrames (.invoking m args :: below)).heap = H := hT
  have hW0 : s.WarmedH ((T.setVm s.vm).setFrames (.invoking m args :: below)).vm := State.WarmedH.refl s
  have hat' : ∀ w ∈ vx_atM cls names, w.before args ((T.setVm s.vm).setFrames (.invoking m args :: below)) = true := fun w hw => vx_ot_at hW0 rfl (hgood w hw) (hat w hw)
  have hU' : vx_Zq Bundle.tN "UNASSIGNED_STACK" Bundle.steD A ((T.setVm s.vm).setFrames (.invoking m args :: below)) ((T.setVm s.vm).setFrames (.invoking m args :: below)).heap := by rw [hhp]; exact vx_Zq.moved hW0.alike (hU.kept hS.2.1)
  have hN' : vx_Zq Bundle.tN "SUPPRESSED_SENTINEL" Bundle.listD A ((T.setVm s.vm).setFrames (.invoking m args :: below)) ((T.setVm s.vm).setFrames (.invoking m args :: below)).heap := by rw [hhp]; exact vx_Zq.moved hW0.alike (hN.kept hS.2.1)
  obtain ⟨S, q, ce, st, Z, hce, hcl', hv⟩ := vx_vmAt Y hexec htr (cls := cls) (names := names) (text := text) hcls hnames hsoe hoom (vx_own hat' (vx_isRefq hU'.1) (vx_isRefq hN'.1) hU'.2.word hN'.2.word) (fun x hx => nomatch hx) htext
    (by rw [Launch.admits_arrayLengthLimit X.admits]; omega) (by rw [Launch.admits_maxHeapBytes X.admits]; simp only [componentBytes]; omega)
    (g := F0 m pc ls rest) rfl hsize hRframes (by show 2 * 0 + (rest.map fun v => v.category).sum + 10240 ≤ R.locals; omega) hshort (by show 0 + 3 ≤ 3; omega) (by show 0 + (_ + 4 + 6) ≤ nb + 10; omega) hlocks
  obtain ⟨f1, f2⟩ := vx_frame Z.same
  have f1' : H.size ≤ S.heap.size := by rw [← hT]; exact f1
  have f2' : ∀ q : Nat, q < H.size → S.heap[q]? = H[q]? := fun q hq => by
    rw [← hT]
    exact f2 q (by rw [← hT] at hq; exact hq) (fun z hz => nomatch hz)
  have X5 := vx_back9 X Y Z
  have X6 : Stand p l e R s m args below meth c S locs (cells + 3) (slots + (nb + 10)) := { X5 with same := X5.same.mono (by omega) (by omega) }
  obtain ⟨t, a1, b1⟩ := k S.heap q ce f1' f2' ⟨Nat.le_trans hS.1 f1', fun q h1 h2 => (f2' q (Nat.lt_of_lt_of_le h1 hS.1)).trans (hS.2.1 q h1 h2), hS.2.2⟩ hce hv hcl' S rfl X6
  exact ⟨t, st t a1, b1⟩
/-- from the machine's note that NullPointerException is thrown here -/
def vx_NoteN (p : Program) (l : Launch) (e : Env) (R : Room) (s : State) (m : MethodId) (args : Array Value) (below : List Frame) (meth : Method) (c : Code) (H : Heap) (locs : List Loc) (cells slots : Nat) (Q : State → Prop) (g : JFrame) : Prop :=
  ∀ T : State, T.heap = H → Stand p l e R s m args below meth c T locs cells slots → ∃ t, Steps p.tables e below ((T.setTop g).pushFrame (.throwNew "java/lang/NullPointerException" none none)) t ∧ Q t
theorem vx_npe {pc : Nat} {ls : Array Slot} {rest : List Value} {Q : State → Prop} (hexec : p.tables.exec = Jvm.exec) (hl : l.stackTraces = false) {nb : Nat} {A : Nat → Prop}
    (hat : ∀ w ∈ vx_atN nb, w.before args s = true) (hgood : ∀ w ∈ vx_atN nb, vx_ot w = true)
    (hU : vx_Zq Bundle.tN "UNASSIGNED_STACK" Bundle.steD A s s.heap) (hN : vx_Zq Bundle.tN "SUPPRESSED_SENTINEL" Bundle.listD A s s.heap) (hS : va_S A s.heap H locs) (hsize : ls.size = c.maxLocals)
    (hRframes : 7 < R.frames) (hRlocals : (rest.map fun v => v.category).sum + 10240 ≤ R.locals) (hRcells : cells + 1 ≤ R.cells) (hRslots : slots + nb ≤ R.slots) (hlocks : meth.locks = false)
    (k : ∀ (H1 : Heap) (q9 : Addr) (ce : Cell), H.size ≤ H1.size → (∀ q : Nat, q < H.size → H1[q]? = H[q]?) → va_S A s.heap H1 locs → H1[q9]? = some ce → ce.vm = .none → s.vm.findClass "java/lang/NullPointerException" = some ce.cls → vx_W p l e R s m args below meth c H1 locs (cells + 1) (slots + nb) Q (F0 m pc ls rest) q9) :
    vx_NoteN p l e R s m args below meth c H locs cells slots Q (F0 m pc ls rest) := by
  intro T hT X
  have htr : e.platform.stackTraces = false := (show e.platform.stackTraces = l.stackTraces by rw [X.admits.platform]).trans hl
  have Y := vx_rebase X (R' := { frames := R.frames, locals := R.locals, cells := 1, slots := nb }) (Nat.le_refl _) (Nat.le_refl _) hRcells hRslots
  have hhp : ((T.setVm s.vm).setFrames (.invoking m args :: below)).heap = H := hT
  have hW0 : s.WarmedH ((T.setVm s.vm).setFrames (.invoking m args :: below)).vm := State.WarmedH.refl s
  have hat' : ∀ w ∈ vx_atN nb, w.before args ((T.setVm s.vm).setFrames (.invoking m args :: below)) = true := fun w hw => vx_ot_at hW0 rfl (hgood w hw) (hat w hw)
  have hU' : vx_Zq Bundle.tN "UNASSIGNED_STACK" Bundle.steD A ((T.setVm s.vm).setFrames (.invoking m args :: below)) ((T.setVm s.vm).setFrames (.invoking m args :: below)).heap := by rw [hhp]; exact vx_Zq.moved hW0.alike (hU.kept hS.2.1)
  have hN' : vx_Zq Bundle.tN "SUPPRESSED_SENTINEL" Bundle.listD A ((T.setVm s.vm).setFrames (.invoking m args :: below)) ((T.setVm s.vm).setFrames (.invoking m args :: below)).heap := by rw [hhp]; exact vx_Zq.moved hW0.alike (hN.kept hS.2.1)
  obtain ⟨S, q, ce, st, Z, hce, hcl', hv⟩ := vx_npeAt Y hexec htr (n := nb) (vx_own hat' (vx_isRefq hU'.1) (vx_isRefq hN'.1) hU'.2.word hN'.2.word) (fun x hx => nomatch hx)
    (g := F0 m pc ls rest) rfl hsize hRframes (by show 2 * 0 + (rest.map fun v => v.category).sum + 10240 ≤ R.locals; omega) (by show 0 + 1 ≤ 1; omega) (by show 0 + nb ≤ nb; omega) hlocks
  obtain ⟨f1, f2⟩ := vx_frame Z.same
  have f1' : H.size ≤ S.heap.size := by rw [← hT]; exact f1
  have f2' : ∀ q : Nat, q < H.size → S.heap[q]? = H[q]? := fun q hq => by
    rw [← hT]
    exact f2 q (by rw [← hT] at hq; exact hq) (fun z hz => nomatch hz)
  have X5 := vx_back9 X Y Z
  have X6 : Stand p l e R s m args below meth c S locs (cells + 1) (slots + nb) := { X5 with same := X5.same.mono (by omega) (by omega) }
  obtain ⟨t, a1, b1⟩ := k S.heap q ce f1' f2' ⟨Nat.le_trans hS.1 f1', fun q h1 h2 => (f2' q (Nat.lt_of_lt_of_le h1 hS.1)).trans (hS.2.1 q h1 h2), hS.2.2⟩ hce hv hcl' S rfl X6
  exact ⟨t, st t a1, b1⟩
variable {Q : State → Prop} {cc : ByteArray} {pc : Nat} {ls : Array Slot} {rest : List Value}
theorem vx_idivZ (hexec : p.tables.exec = Jvm.exec) (hb : c.code = cc) {a b : Int32} (h0 : b = 0) (d : decode cc pc = .ok (.idiv, 1)) (k : vx_Note p l e R s m args below meth c H locs cells slots Q (F0 m pc ls rest) "java/lang/ArithmeticException" "/ by zero") :
    W p l e R s m args below meth c H locs cells slots Q (F0 m pc ls (.int b :: .int a :: rest)) := by
  intro T hT X
  obtain ⟨t, st, q⟩ := k T hT X
  exact ⟨t, X.idivZero hexec (g := F0 m pc ls (.int b :: .int a :: rest)) rfl (a := a) (rest := rest) (by rw [h0]) (by rw [hb]; exact d) t st, q⟩
theorem vx_iremZ (hexec : p.tables.exec = Jvm.exec) (hb : c.code = cc) {a b : Int32} (h0 : b = 0) (d : decode cc pc = .ok (.irem, 1)) (k : vx_Note p l e R s m args below meth c H locs cells slots Q (F0 m pc ls rest) "java/lang/ArithmeticException" "/ by zero") :
    W p l e R s m args below meth c H locs cells slots Q (F0 m pc ls (.int b :: .int a :: rest)) := by
  intro T hT X
  obtain ⟨t, st, q⟩ := k T hT X
  exact ⟨t, X.iremZero hexec (g := F0 m pc ls (.int b :: .int a :: rest)) rfl (a := a) (rest := rest) (by rw [h0]) (by rw [hb]; exact d) t st, q⟩
theorem vx_ldivZ (hexec : p.tables.exec = Jvm.exec) (hb : c.code = cc) {a b : Int64} (h0 : b = 0) (d : decode cc pc = .ok (.ldiv, 1)) (k : vx_Note p l e R s m args below meth c H locs cells slots Q (F0 m pc ls rest) "java/lang/ArithmeticException" "/ by zero") :
    W p l e R s m args below meth c H locs cells slots Q (F0 m pc ls (.long b :: .long a :: rest)) := by
  intro T hT X
  obtain ⟨t, st, q⟩ := k T hT X
  exact ⟨t, X.ldivZero hexec (g := F0 m pc ls (.long b :: .long a :: rest)) rfl (a := a) (rest := rest) (by rw [h0]) (by rw [hb]; exact d) t st, q⟩
theorem vx_lremZ (hexec : p.tables.exec = Jvm.exec) (hb : c.code = cc) {a b : Int64} (h0 : b = 0) (d : decode cc pc = .ok (.lrem, 1)) (k : vx_Note p l e R s m args below meth c H locs cells slots Q (F0 m pc ls rest) "java/lang/ArithmeticException" "/ by zero") :
    W p l e R s m args below meth c H locs cells slots Q (F0 m pc ls (.long b :: .long a :: rest)) := by
  intro T hT X
  obtain ⟨t, st, q⟩ := k T hT X
  exact ⟨t, X.lremZero hexec (g := F0 m pc ls (.long b :: .long a :: rest)) rfl (a := a) (rest := rest) (by rw [h0]) (by rw [hb]; exact d) t st, q⟩
theorem vx_ialdZ {D : va_G} {cl : List vw_C} {ws : va_W} {tys : List (ClassId × FieldType)} {a : Nat} (hexec : p.tables.exec = Jvm.exec) (hb : c.code = cc) (hK : va_K D cl tys s) (hP : va_P D cl ws H) (q0 t0 : Nat) {cA : ClassId} {n : Nat} {f : Nat → Int32} (ha : ws[q0]? = some (a, .inl (cA, n, .inl f))) (ht : tys[t0]? = some (cA, .int)) {i : Int32} (hout : ¬ vp_in i n) (hdg : decode cc pc = .ok (.iaload, 1))
    (k : ∀ tx : String, tx = (toString "Index " ++ toString i ++ toString " out of bounds for length " ++ toString n : String) → vx_Note p l e R s m args below meth c H locs cells slots Q (F0 m pc ls rest) "java/lang/ArrayIndexOutOfBoundsException" tx) : W p l e R s m args below meth c H locs cells slots Q (F0 m pc ls (.int i :: .ref a :: rest)) := by
  intro T hT X
  obtain ⟨t, st, q⟩ := k _ rfl T hT X
  refine ⟨t, ?_, q⟩
  have h1 := X.ialoadOut hexec (by rw [hT]; exact hP q0 _ ha) ((hK.2 t0 _ ht).1 n (fun j => .int (f j))) (j := i) (by show (i < 0 ∨ (arrV _ _ _).slots.size ≤ _); rw [arrV_size]; exact Classical.byContradiction hout) (g := F0 m pc ls (.int i :: .ref a :: rest)) rfl (rest := rest) rfl (by rw [hb]; exact hdg) t
  simp only [arrV_size] at h1
  exact h1 st
theorem vx_iastZ {D : va_G} {cl : List vw_C} {ws : va_W} {tys : List (ClassId × FieldType)} {a : Nat} (hexec : p.tables.exec = Jvm.exec) (hb : c.code = cc) (hK : va_K D cl tys s) (hP : va_P D cl ws H) (q0 t0 : Nat) {cA : ClassId} {n : Nat} {f : Nat → Int32} (ha : ws[q0]? = some (a, .inl (cA, n, .inl f))) (ht : tys[t0]? = some (cA, .int)) {i : Int32} {x : Int32} (hout : ¬ vp_in i n) (hdg : decode cc pc = .ok (.iastore, 1))
    (k : ∀ tx : String, tx = (toString "Index " ++ toString i ++ toString " out of bounds for length " ++ toString n : String) → vx_Note p l e R s m args below meth c H locs cells slots Q (F0 m pc ls rest) "java/lang/ArrayIndexOutOfBoundsException" tx) : W p l e R s m args below meth c H locs cells slots Q (F0 m pc ls (.int x :: .int i :: .ref a :: rest)) := by
  intro T hT X
  obtain ⟨t, st, q⟩ := k _ rfl T hT X
  refine ⟨t, ?_, q⟩
  have h1 := X.iastoreOut hexec (by rw [hT]; exact hP q0 _ ha) ((hK.2 t0 _ ht).1 n (fun j => .int (f j))) (j := i) (by show (i < 0 ∨ (arrV _ _ _).slots.size ≤ _); rw [arrV_size]; exact Classical.byContradiction hout) (g := F0 m pc ls (.int x :: .int i :: .ref a :: rest)) rfl (rest := rest) rfl (by rw [hb]; exact hdg) t
  simp only [arrV_size] at h1
  exact h1 st
theorem vx_baldZ {D : va_G} {cl : List vw_C} {ws : va_W} {tys : List (ClassId × FieldType)} {a : Nat} (hexec : p.tables.exec = Jvm.exec) (hb : c.code = cc) (hK : va_K D cl tys s) (hP : va_P D cl ws H) (q0 t0 : Nat) {cA : ClassId} {n : Nat} {f : Nat → Int32} (ha : ws[q0]? = some (a, .inl (cA, n, .inl f))) (ht : tys[t0]? = some (cA, .byte)) {i : Int32} (hout : ¬ vp_in i n) (hdg : decode cc pc = .ok (.baload, 1))
    (k : ∀ tx : String, tx = (toString "Index " ++ toString i ++ toString " out of bounds for length " ++ toString n : String) → vx_Note p l e R s m args below meth c H locs cells slots Q (F0 m pc ls rest) "java/lang/ArrayIndexOutOfBoundsException" tx) : W p l e R s m args below meth c H locs cells slots Q (F0 m pc ls (.int i :: .ref a :: rest)) := by
  intro T hT X
  obtain ⟨t, st, q⟩ := k _ rfl T hT X
  refine ⟨t, ?_, q⟩
  have h1 := X.baloadOut hexec (by rw [hT]; exact hP q0 _ ha) ((hK.2 t0 _ ht).1 n (fun j => .int (f j))) (j := i) (by show (i < 0 ∨ (arrV _ _ _).slots.size ≤ _); rw [arrV_size]; exact Classical.byContradiction hout) (g := F0 m pc ls (.int i :: .ref a :: rest)) rfl (rest := rest) rfl (by rw [hb]; exact hdg) t
  simp only [arrV_size] at h1
  exact h1 st
theorem vx_bastZ {D : va_G} {cl : List vw_C} {ws : va_W} {tys : List (ClassId × FieldType)} {a : Nat} (hexec : p.tables.exec = Jvm.exec) (hb : c.code = cc) (hK : va_K D cl tys s) (hP : va_P D cl ws H) (q0 t0 : Nat) {cA : ClassId} {n : Nat} {f : Nat → Int32} (ha : ws[q0]? = some (a, .inl (cA, n, .inl f))) (ht : tys[t0]? = some (cA, .byte)) {i : Int32} {x : Int32} (hout : ¬ vp_in i n) (hdg : decode cc pc = .ok (.bastore, 1))
    (k : ∀ tx : String, tx = (toString "Index " ++ toString i ++ toString " out of bounds for length " ++ toString n : String) → vx_Note p l e R s m args below meth c H locs cells slots Q (F0 m pc ls rest) "java/lang/ArrayIndexOutOfBoundsException" tx) : W p l e R s m args below meth c H locs cells slots Q (F0 m pc ls (.int x :: .int i :: .ref a :: rest)) := by
  intro T hT X
  obtain ⟨t, st, q⟩ := k _ rfl T hT X
  refine ⟨t, ?_, q⟩
  have h1 := X.bastoreOut hexec (by rw [hT]; exact hP q0 _ ha) ((hK.2 t0 _ ht).1 n (fun j => .int (f j))) (j := i) (by show (i < 0 ∨ (arrV _ _ _).slots.size ≤ _); rw [arrV_size]; exact Classical.byContradiction hout) (g := F0 m pc ls (.int x :: .int i :: .ref a :: rest)) rfl (rest := rest) rfl (by rw [hb]; exact hdg) t
  simp only [arrV_size] at h1
  exact h1 st
theorem vx_zaldZ {D : va_G} {cl : List vw_C} {ws : va_W} {tys : List (ClassId × FieldType)} {a : Nat} (hexec : p.tables.exec = Jvm.exec) (hb : c.code = cc) (hK : va_K D cl tys s) (hP : va_P D cl ws H) (q0 t0 : Nat) {cA : ClassId} {n : Nat} {f : Nat → Int32} (ha : ws[q0]? = some (a, .inl (cA, n, .inl f))) (ht : tys[t0]? = some (cA, .boolean)) {i : Int32} (hout : ¬ vp_in i n) (hdg : decode cc pc = .ok (.baload, 1))
    (k : ∀ tx : String, tx = (toString "Index " ++ toString i ++ toString " out of bounds for length " ++ toString n : String) → vx_Note p l e R s m args below meth c H locs cells slots Q (F0 m pc ls rest) "java/lang/ArrayIndexOutOfBoundsException" tx) : W p l e R s m args below meth c H locs cells slots Q (F0 m pc ls (.int i :: .ref a :: rest)) := by
  intro T hT X
  obtain ⟨t, st, q⟩ := k _ rfl T hT X
  refine ⟨t, ?_, q⟩
  have h1 := X.baloadOut hexec (by rw [hT]; exact hP q0 _ ha) ((hK.2 t0 _ ht).1 n (fun j => .int (f j))) (j := i) (by show (i < 0 ∨ (arrV _ _ _).slots.size ≤ _); rw [arrV_size]; exact Classical.byContradiction hout) (g := F0 m pc ls (.int i :: .ref a :: rest)) rfl (rest := rest) rfl (by rw [hb]; exact hdg) t
  simp only [arrV_size] at h1
  exact h1 st
theorem vx_zastZ {D : va_G} {cl : List vw_C} {ws : va_W} {tys : List (ClassId × FieldType)} {a : Nat} (hexec : p.tables.exec = Jvm.exec) (hb : c.code = cc) (hK : va_K D cl tys s) (hP : va_P D cl ws H) (q0 t0 : Nat) {cA : ClassId} {n : Nat} {f : Nat → Int32} (ha : ws[q0]? = some (a, .inl (cA, n, .inl f))) (ht : tys[t0]? = some (cA, .boolean)) {i : Int32} {x : Int32} (hout : ¬ vp_in i n) (hdg : decode cc pc = .ok (.bastore, 1))
    (k : ∀ tx : String, tx = (toString "Index " ++ toString i ++ toString " out of bounds for length " ++ toString n : String) → vx_Note p l e R s m args below meth c H locs cells slots Q (F0 m pc ls rest) "java/lang/ArrayIndexOutOfBoundsException" tx) : W p l e R s m args below meth c H locs cells slots Q (F0 m pc ls (.int x :: .int i :: .ref a :: rest)) := by
  intro T hT X
  obtain ⟨t, st, q⟩ := k _ rfl T hT X
  refine ⟨t, ?_, q⟩
  have h1 := X.bastoreOut hexec (by rw [hT]; exact hP q0 _ ha) ((hK.2 t0 _ ht).1 n (fun j => .int (f j))) (j := i) (by show (i < 0 ∨ (arrV _ _ _).slots.size ≤ _); rw [arrV_size]; exact Classical.byContradiction hout) (g := F0 m pc ls (.int x :: .int i :: .ref a :: rest)) rfl (rest := rest) rfl (by rw [hb]; exact hdg) t
  simp only [arrV_size] at h1
  exact h1 st
theorem vx_caldZ {D : va_G} {cl : List vw_C} {ws : va_W} {tys : List (ClassId × FieldType)} {a : Nat} (hexec : p.tables.exec = Jvm.exec) (hb : c.code = cc) (hK : va_K D cl tys s) (hP : va_P D cl ws H) (q0 t0 : Nat) {cA : ClassId} {n : Nat} {f : Nat → Int32} (ha : ws[q0]? = some (a, .inl (cA, n, .inl f))) (ht : tys[t0]? = some (cA, .char)) {i : Int32} (hout : ¬ vp_in i n) (hdg : decode cc pc = .ok (.caload, 1))
    (k : ∀ tx : String, tx = (toString "Index " ++ toString i ++ toString " out of bounds for length " ++ toString n : String) → vx_Note p l e R s m args below meth c H locs cells slots Q (F0 m pc ls rest) "java/lang/ArrayIndexOutOfBoundsException" tx) : W p l e R s m args below meth c H locs cells slots Q (F0 m pc ls (.int i :: .ref a :: rest)) := by
  intro T hT X
  obtain ⟨t, st, q⟩ := k _ rfl T hT X
  refine ⟨t, ?_, q⟩
  have h1 := X.caloadOut hexec (by rw [hT]; exact hP q0 _ ha) ((hK.2 t0 _ ht).1 n (fun j => .int (f j))) (j := i) (by show (i < 0 ∨ (arrV _ _ _).slots.size ≤ _); rw [arrV_size]; exact Classical.byContradiction hout) (g := F0 m pc ls (.int i :: .ref a :: rest)) rfl (rest := rest) rfl (by rw [hb]; exact hdg) t
  simp only [arrV_size] at h1
  exact h1 st
theorem vx_castZ {D : va_G} {cl : List vw_C} {ws : va_W} {tys : List (ClassId × FieldType)} {a : Nat} (hexec : p.tables.exec = Jvm.exec) (hb : c.code = cc) (hK : va_K D cl tys s) (hP : va_P D cl ws H) (q0 t0 : Nat) {cA : ClassId} {n : Nat} {f : Nat → Int32} (ha : ws[q0]? = some (a, .inl (cA, n, .inl f))) (ht : tys[t0]? = some (cA, .char)) {i : Int32} {x : Int32} (hout : ¬ vp_in i n) (hdg : decode cc pc = .ok (.castore, 1))
    (k : ∀ tx : String, tx = (toString "Index " ++ toString i ++ toString " out of bounds for length " ++ toString n : String) → vx_Note p l e R s m args below meth c H locs cells slots Q (F0 m pc ls rest) "java/lang/ArrayIndexOutOfBoundsException" tx) : W p l e R s m args below meth c H locs cells slots Q (F0 m pc ls (.int x :: .int i :: .ref a :: rest)) := by
  intro T hT X
  obtain ⟨t, st, q⟩ := k _ rfl T hT X
  refine ⟨t, ?_, q⟩
  have h1 := X.castoreOut hexec (by rw [hT]; exact hP q0 _ ha) ((hK.2 t0 _ ht).1 n (fun j => .int (f j))) (j := i) (by show (i < 0 ∨ (arrV _ _ _).slots.size ≤ _); rw [arrV_size]; exact Classical.byContradiction hout) (g := F0 m pc ls (.int x :: .int i :: .ref a :: rest)) rfl (rest := rest) rfl (by rw [hb]; exact hdg) t
  simp only [arrV_size] at h1
  exact h1 st
theorem vx_saldZ {D : va_G} {cl : List vw_C} {ws : va_W} {tys : List (ClassId × FieldType)} {a : Nat} (hexec : p.tables.exec = Jvm.exec) (hb : c.code = cc) (hK : va_K D cl tys s) (hP : va_P D cl ws H) (q0 t0 : Nat) {cA : ClassId} {n : Nat} {f : Nat → Int32} (ha : ws[q0]? = some (a, .inl (cA, n, .inl f))) (ht : tys[t0]? = some (cA, .short)) {i : Int32} (hout : ¬ vp_in i n) (hdg : decode cc pc = .ok (.saload, 1))
    (k : ∀ tx : String, tx = (toString "Index " ++ toString i ++ toString " out of bounds for length " ++ toString n : String) → vx_Note p l e R s m args below meth c H locs cells slots Q (F0 m pc ls rest) "java/lang/ArrayIndexOutOfBoundsException" tx) : W p l e R s m args below meth c H locs cells slots Q (F0 m pc ls (.int i :: .ref a :: rest)) := by
  intro T hT X
  obtain ⟨t, st, q⟩ := k _ rfl T hT X
  refine ⟨t, ?_, q⟩
  have h1 := X.saloadOut hexec (by rw [hT]; exact hP q0 _ ha) ((hK.2 t0 _ ht).1 n (fun j => .int (f j))) (j := i) (by show (i < 0 ∨ (arrV _ _ _).slots.size ≤ _); rw [arrV_size]; exact Classical.byContradiction hout) (g := F0 m pc ls (.int i :: .ref a :: rest)) rfl (rest := rest) rfl (by rw [hb]; exact hdg) t
  simp only [arrV_size] at h1
  exact h1 st
theorem vx_sastZ {D : va_G} {cl : List vw_C} {ws : va_W} {tys : List (ClassId × FieldType)} {a : Nat} (hexec : p.tables.exec = Jvm.exec) (hb : c.code = cc) (hK : va_K D cl tys s) (hP : va_P D cl ws H) (q0 t0 : Nat) {cA : ClassId} {n : Nat} {f : Nat → Int32} (ha : ws[q0]? = some (a, .inl (cA, n, .inl f))) (ht : tys[t0]? = some (cA, .short)) {i : Int32} {x : Int32} (hout : ¬ vp_in i n) (hdg : decode cc pc = .ok (.sastore, 1))
    (k : ∀ tx : String, tx = (toString "Index " ++ toString i ++ toString " out of bounds for length " ++ toString n : String) → vx_Note p l e R s m args below meth c H locs cells slots Q (F0 m pc ls rest) "java/lang/ArrayIndexOutOfBoundsException" tx) : W p l e R s m args below meth c H locs cells slots Q (F0 m pc ls (.int x :: .int i :: .ref a :: rest)) := by
  intro T hT X
  obtain ⟨t, st, q⟩ := k _ rfl T hT X
  refine ⟨t, ?_, q⟩
  have h1 := X.sastoreOut hexec (by rw [hT]; exact hP q0 _ ha) ((hK.2 t0 _ ht).1 n (fun j => .int (f j))) (j := i) (by show (i < 0 ∨ (arrV _ _ _).slots.size ≤ _); rw [arrV_size]; exact Classical.byContradiction hout) (g := F0 m pc ls (.int x :: .int i :: .ref a :: rest)) rfl (rest := rest) rfl (by rw [hb]; exact hdg) t
  simp only [arrV_size] at h1
  exact h1 st
theorem vx_laldZ {D : va_G} {cl : List vw_C} {ws : va_W} {tys : List (ClassId × FieldType)} {a : Nat} (hexec : p.tables.exec = Jvm.exec) (hb : c.code = cc) (hK : va_K D cl tys s) (hP : va_P D cl ws H) (q0 t0 : Nat) {cA : ClassId} {n : Nat} {f : Nat → Int64} (ha : ws[q0]? = some (a, .inl (cA, n, .inr (.inl f)))) (ht : tys[t0]? = some (cA, .long)) {i : Int32} (hout : ¬ vp_in i n) (hdg : decode cc pc = .ok (.laload, 1))
    (k : ∀ tx : String, tx = (toString "Index " ++ toString i ++ toString " out of bounds for length " ++ toString n : String) → vx_Note p l e R s m args below meth c H locs cells slots Q (F0 m pc ls rest) "java/lang/ArrayIndexOutOfBoundsException" tx) : W p l e R s m args below meth c H locs cells slots Q (F0 m pc ls (.int i :: .ref a :: rest)) := by
  intro T hT X
  obtain ⟨t, st, q⟩ := k _ rfl T hT X
  refine ⟨t, ?_, q⟩
  have h1 := X.laloadOut hexec (by rw [hT]; exact hP q0 _ ha) ((hK.2 t0 _ ht).1 n (fun j => .long (f j))) (j := i) (by show (i < 0 ∨ (arrV _ _ _).slots.size ≤ _); rw [arrV_size]; exact Classical.byContradiction hout) (g := F0 m pc ls (.int i :: .ref a :: rest)) rfl (rest := rest) rfl (by rw [hb]; exact hdg) t
  simp only [arrV_size] at h1
  exact h1 st
theorem vx_lastZ {D : va_G} {cl : List vw_C} {ws : va_W} {tys : List (ClassId × FieldType)} {a : Nat} (hexec : p.tables.exec = Jvm.exec) (hb : c.code = cc) (hK : va_K D cl tys s) (hP : va_P D cl ws H) (q0 t0 : Nat) {cA : ClassId} {n : Nat} {f : Nat → Int64} (ha : ws[q0]? = some (a, .inl (cA, n, .inr (.inl f)))) (ht : tys[t0]? = some (cA, .long)) {i : Int32} {x : Int64} (hout : ¬ vp_in i n) (hdg : decode cc pc = .ok (.lastore, 1))
    (k : ∀ tx : String, tx = (toString "Index " ++ toString i ++ toString " out of bounds for length " ++ toString n : String) → vx_Note p l e R s m args below meth c H locs cells slots Q (F0 m pc ls rest) "java/lang/ArrayIndexOutOfBoundsException" tx) : W p l e R s m args below meth c H locs cells slots Q (F0 m pc ls (.long x :: .int i :: .ref a :: rest)) := by
  intro T hT X
  obtain ⟨t, st, q⟩ := k _ rfl T hT X
  refine ⟨t, ?_, q⟩
  have h1 := X.lastoreOut hexec (by rw [hT]; exact hP q0 _ ha) ((hK.2 t0 _ ht).1 n (fun j => .long (f j))) (j := i) (by show (i < 0 ∨ (arrV _ _ _).slots.size ≤ _); rw [arrV_size]; exact Classical.byContradiction hout) (g := F0 m pc ls (.long x :: .int i :: .ref a :: rest)) rfl (rest := rest) rfl (by rw [hb]; exact hdg) t
  simp only [arrV_size] at h1
  exact h1 st
theorem vx_faldZ {D : va_G} {cl : List vw_C} {ws : va_W} {tys : List (ClassId × FieldType)} {a : Nat} (hexec : p.tables.exec = Jvm.exec) (hb : c.code = cc) (hK : va_K D cl tys s) (hP : va_P D cl ws H) (q0 t0 : Nat) {cA : ClassId} {n : Nat} {f : Nat → UInt32} (ha : ws[q0]? = some (a, .inl (cA, n, .inr (.inr (.inl f))))) (ht : tys[t0]? = some (cA, .float)) {i : Int32} (hout : ¬ vp_in i n) (hdg : decode cc pc = .ok (.faload, 1))
    (k : ∀ tx : String, tx = (toString "Index " ++ toString i ++ toString " out of bounds for length " ++ toString n : String) → vx_Note p l e R s m args below meth c H locs cells slots Q (F0 m pc ls rest) "java/lang/ArrayIndexOutOfBoundsException" tx) : W p l e R s m args below meth c H locs cells slots Q (F0 m pc ls (.int i :: .ref a :: rest)) := by
  intro T hT X
  obtain ⟨t, st, q⟩ := k _ rfl T hT X
  refine ⟨t, ?_, q⟩
  have h1 := X.faloadOut hexec (by rw [hT]; exact hP q0 _ ha) ((hK.2 t0 _ ht).1 n (fun j => .float (f j))) (j := i) (by show (i < 0 ∨ (arrV _ _ _).slots.size ≤ _); rw [arrV_size]; exact Classical.byContradiction hout) (g := F0 m pc ls (.int i :: .ref a :: rest)) rfl (rest := rest) rfl (by rw [hb]; exact hdg) t
  simp only [arrV_size] at h1
  exact h1 st
theorem vx_fastZ {D : va_G} {cl : List vw_C} {ws : va_W} {tys : List (ClassId × FieldType)} {a : Nat} (hexec : p.tables.exec = Jvm.exec) (hb : c.code = cc) (hK : va_K D cl tys s) (hP : va_P D cl ws H) (q0 t0 : Nat) {cA : ClassId} {n : Nat} {f : Nat → UInt32} (ha : ws[q0]? = some (a, .inl (cA, n, .inr (.inr (.inl f))))) (ht : tys[t0]? = some (cA, .float)) {i : Int32} {x : UInt32} (hout : ¬ vp_in i n) (hdg : decode cc pc = .ok (.fastore, 1))
    (k : ∀ tx : String, tx = (toString "Index " ++ toString i ++ toString " out of bounds for length " ++ toString n : String) → vx_Note p l e R s m args below meth c H locs cells slots Q (F0 m pc ls rest) "java/lang/ArrayIndexOutOfBoundsException" tx) : W p l e R s m args below meth c H locs cells slots Q (F0 m pc ls (.float x :: .int i :: .ref a :: rest)) := by
  intro T hT X
  obtain ⟨t, st, q⟩ := k _ rfl T hT X
  refine ⟨t, ?_, q⟩
  have h1 := X.fastoreOut hexec (by rw [hT]; exact hP q0 _ ha) ((hK.2 t0 _ ht).1 n (fun j => .float (f j))) (j := i) (by show (i < 0 ∨ (arrV _ _ _).slots.size ≤ _); rw [arrV_size]; exact Classical.byContradiction hout) (g := F0 m pc ls (.float x :: .int i :: .ref a :: rest)) rfl (rest := rest) rfl (by rw [hb]; exact hdg) t
  simp only [arrV_size] at h1
  exact h1 st
theorem vx_daldZ {D : va_G} {cl : List vw_C} {ws : va_W} {tys : List (ClassId × FieldType)} {a : Nat} (hexec : p.tables.exec = Jvm.exec) (hb : c.code = cc) (hK : va_K D cl tys s) (hP : va_P D cl ws H) (q0 t0 : Nat) {cA : ClassId} {n : Nat} {f : Nat → UInt64} (ha : ws[q0]? = some (a, .inl (cA, n, .inr (.inr (.inr (.inl f)))))) (ht : tys[t0]? = some (cA, .double)) {i : Int32} (hout : ¬ vp_in i n) (hdg : decode cc pc = .ok (.daload, 1))
    (k : ∀ tx : String, tx = (toString "Index " ++ toString i ++ toString " out of bounds for length " ++ toString n : String) → vx_Note p l e R s m args below meth c H locs cells slots Q (F0 m pc ls rest) "java/lang/ArrayIndexOutOfBoundsException" tx) : W p l e R s m args below meth c H locs cells slots Q (F0 m pc ls (.int i :: .ref a :: rest)) := by
  intro T hT X
  obtain ⟨t, st, q⟩ := k _ rfl T hT X
  refine ⟨t, ?_, q⟩
  have h1 := X.daloadOut hexec (by rw [hT]; exact hP q0 _ ha) ((hK.2 t0 _ ht).1 n (fun j => .double (f j))) (j := i) (by show (i < 0 ∨ (arrV _ _ _).slots.size ≤ _); rw [arrV_size]; exact Classical.byContradiction hout) (g := F0 m pc ls (.int i :: .ref a :: rest)) rfl (rest := rest) rfl (by rw [hb]; exact hdg) t
  simp only [arrV_size] at h1
  exact h1 st
theorem vx_dastZ {D : va_G} {cl : List vw_C} {ws : va_W} {tys : List (ClassId × FieldType)} {a : Nat} (hexec : p.tables.exec = Jvm.exec) (hb : c.code = cc) (hK : va_K D cl tys s) (hP : va_P D cl ws H) (q0 t0 : Nat) {cA : ClassId} {n : Nat} {f : Nat → UInt64} (ha : ws[q0]? = some (a, .inl (cA, n, .inr (.inr (.inr (.inl f)))))) (ht : tys[t0]? = some (cA, .double)) {i : Int32} {x : UInt64} (hout : ¬ vp_in i n) (hdg : decode cc pc = .ok (.dastore, 1))
    (k : ∀ tx : String, tx = (toString "Index " ++ toString i ++ toString " out of bounds for length " ++ toString n : String) → vx_Note p l e R s m args below meth c H locs cells slots Q (F0 m pc ls rest) "java/lang/ArrayIndexOutOfBoundsException" tx) : W p l e R s m args below meth c H locs cells slots Q (F0 m pc ls (.double x :: .int i :: .ref a :: rest)) := by
  intro T hT X
  obtain ⟨t, st, q⟩ := k _ rfl T hT X
  refine ⟨t, ?_, q⟩
  have h1 := X.dastoreOut hexec (by rw [hT]; exact hP q0 _ ha) ((hK.2 t0 _ ht).1 n (fun j => .double (f j))) (j := i) (by show (i < 0 ∨ (arrV _ _ _).slots.size ≤ _); rw [arrV_size]; exact Classical.byContradiction hout) (g := F0 m pc ls (.double x :: .int i :: .ref a :: rest)) rfl (rest := rest) rfl (by rw [hb]; exact hdg) t
  simp only [arrV_size] at h1
  exact h1 st
theorem vx_arraylengthN (hexec : p.tables.exec = Jvm.exec) (hb : c.code = cc) (hdg : decode cc pc = .ok (.arraylength, 1)) (k : vx_NoteN p l e R s m args below meth c H locs cells slots Q (F0 m pc ls rest)) : W p l e R s m args below meth c H locs cells slots Q (F0 m pc ls (.null :: rest)) := by
  intro T hT X
  obtain ⟨t, st, q⟩ := k T hT X
  exact ⟨t, X.arraylengthNull hexec (g := F0 m pc ls (.null :: rest)) rfl (rest := rest) rfl (by rw [hb]; exact hdg) t st, q⟩
theorem vx_ialoadN (hexec : p.tables.exec = Jvm.exec) (hb : c.code = cc) {i : Int32} (hdg : decode cc pc = .ok (.iaload, 1)) (k : vx_NoteN p l e R s m args below meth c H locs cells slots Q (F0 m pc ls rest)) : W p l e R s m args below meth c H locs cells slots Q (F0 m pc ls (.int i :: .null :: rest)) := by
  intro T hT X
  obtain ⟨t, st, q⟩ := k T hT X
  exact ⟨t, X.ialoadNull hexec (g := F0 m pc ls (.int i :: .null :: rest)) rfl (rest := rest) rfl (by rw [hb]; exact hdg) t st, q⟩
theorem vx_laloadN (hexec : p.tables.exec = Jvm.exec) (hb : c.code = cc) {i : Int32} (hdg : decode cc pc = .ok (.laload, 1)) (k : vx_NoteN p l e R s m args below meth c H locs cells slots Q (F0 m pc ls rest)) : W p l e R s m args below meth c H locs cells slots Q (F0 m pc ls (.int i :: .null :: rest)) := by
  intro T hT X
  obtain ⟨t, st, q⟩ := k T hT X
  exact ⟨t, X.laloadNull hexec (g := F0 m pc ls (.int i :: .null :: rest)) rfl (rest := rest) rfl (by rw [hb]; exact hdg) t st, q⟩
theorem vx_faloadN (hexec : p.tables.exec = Jvm.exec) (hb : c.code = cc) {i : Int32} (hdg : decode cc pc = .ok (.faload, 1)) (k : vx_NoteN p l e R s m args below meth c H locs cells slots Q (F0 m pc ls rest)) : W p l e R s m args below meth c H locs cells slots Q (F0 m pc ls (.int i :: .null :: rest)) := by
  intro T hT X
  obtain ⟨t, st, q⟩ := k T hT X
  exact ⟨t, X.faloadNull hexec (g := F0 m pc ls (.int i :: .null :: rest)) rfl (rest := rest) rfl (by rw [hb]; exact hdg) t st, q⟩
theorem vx_daloadN (hexec : p.tables.exec = Jvm.exec) (hb : c.code = cc) {i : Int32} (hdg : decode cc pc = .ok (.daload, 1)) (k : vx_NoteN p l e R s m args below meth c H locs cells slots Q (F0 m pc ls rest)) : W p l e R s m args below meth c H locs cells slots Q (F0 m pc ls (.int i :: .null :: rest)) := by
  intro T hT X
  obtain ⟨t, st, q⟩ := k T hT X
  exact ⟨t, X.daloadNull hexec (g := F0 m pc ls (.int i :: .null :: rest)) rfl (rest := rest) rfl (by rw [hb]; exact hdg) t st, q⟩
theorem vx_aaloadN (hexec : p.tables.exec = Jvm.exec) (hb : c.code = cc) {i : Int32} (hdg : decode cc pc = .ok (.aaload, 1)) (k : vx_NoteN p l e R s m args below meth c H locs cells slots Q (F0 m pc ls rest)) : W p l e R s m args below meth c H locs cells slots Q (F0 m pc ls (.int i :: .null :: rest)) := by
  intro T hT X
  obtain ⟨t, st, q⟩ := k T hT X
  exact ⟨t, X.aaloadNull hexec (g := F0 m pc ls (.int i :: .null :: rest)) rfl (rest := rest) rfl (by rw [hb]; exact hdg) t st, q⟩
theorem vx_baloadN (hexec : p.tables.exec = Jvm.exec) (hb : c.code = cc) {i : Int32} (hdg : decode cc pc = .ok (.baload, 1)) (k : vx_NoteN p l e R s m args below meth c H locs cells slots Q (F0 m pc ls rest)) : W p l e R s m args below meth c H locs cells slots Q (F0 m pc ls (.int i :: .null :: rest)) := by
  intro T hT X
  obtain ⟨t, st, q⟩ := k T hT X
  exact ⟨t, X.baloadNull hexec (g := F0 m pc ls (.int i :: .null :: rest)) rfl (rest := rest) rfl (by rw [hb]; exact hdg) t st, q⟩
theorem vx_caloadN (hexec : p.tables.exec = Jvm.exec) (hb : c.code = cc) {i : Int32} (hdg : decode cc pc = .ok (.caload, 1)) (k : vx_NoteN p l e R s m args below meth c H locs cells slots Q (F0 m pc ls rest)) : W p l e R s m args below meth c H locs cells slots Q (F0 m pc ls (.int i :: .null :: rest)) := by
  intro T hT X
  obtain ⟨t, st, q⟩ := k T hT X
  exact ⟨t, X.caloadNull hexec (g := F0 m pc ls (.int i :: .null :: rest)) rfl (rest := rest) rfl (by rw [hb]; exact hdg) t st, q⟩
theorem vx_saloadN (hexec : p.tables.exec = Jvm.exec) (hb : c.code = cc) {i : Int32} (hdg : decode cc pc = .ok (.saload, 1)) (k : vx_NoteN p l e R s m args below meth c H locs cells slots Q (F0 m pc ls rest)) : W p l e R s m args below meth c H locs cells slots Q (F0 m pc ls (.int i :: .null :: rest)) := by
  intro T hT X
  obtain ⟨t, st, q⟩ := k T hT X
  exact ⟨t, X.saloadNull hexec (g := F0 m pc ls (.int i :: .null :: rest)) rfl (rest := rest) rfl (by rw [hb]; exact hdg) t st, q⟩
theorem vx_iastoreN (hexec : p.tables.exec = Jvm.exec) (hb : c.code = cc) {x : Int32} {i : Int32} (hdg : decode cc pc = .ok (.iastore, 1)) (k : vx_NoteN p l e R s m args below meth c H locs cells slots Q (F0 m pc ls rest)) : W p l e R s m args below meth c H locs cells slots Q (F0 m pc ls (.int x :: .int i :: .null :: rest)) := by
  intro T hT X
  obtain ⟨t, st, q⟩ := k T hT X
  exact ⟨t, X.iastoreNull hexec (g := F0 m pc ls (.int x :: .int i :: .null :: rest)) rfl (rest := rest) rfl (by rw [hb]; exact hdg) t st, q⟩
theorem vx_lastoreN (hexec : p.tables.exec = Jvm.exec) (hb : c.code = cc) {x : Int64} {i : Int32} (hdg : decode cc pc = .ok (.lastore, 1)) (k : vx_NoteN p l e R s m args below meth c H locs cells slots Q (F0 m pc ls rest)) : W p l e R s m args below meth c H locs cells slots Q (F0 m pc ls (.long x :: .int i :: .null :: rest)) := by
  intro T hT X
  obtain ⟨t, st, q⟩ := k T hT X
  exact ⟨t, X.lastoreNull hexec (g := F0 m pc ls (.long x :: .int i :: .null :: rest)) rfl (rest := rest) rfl (by rw [hb]; exact hdg) t st, q⟩
theorem vx_fastoreN (hexec : p.tables.exec = Jvm.exec) (hb : c.code = cc) {x : UInt32} {i : Int32} (hdg : decode cc pc = .ok (.fastore, 1)) (k : vx_NoteN p l e R s m args below meth c H locs cells slots Q (F0 m pc ls rest)) : W p l e R s m args below meth c H locs cells slots Q (F0 m pc ls (.float x :: .int i :: .null :: rest)) := by
  intro T hT X
  obtain ⟨t, st, q⟩ := k T hT X
  exact ⟨t, X.fastoreNull hexec (g := F0 m pc ls (.float x :: .int i :: .null :: rest)) rfl (rest := rest) rfl (by rw [hb]; exact hdg) t st, q⟩
theorem vx_dastoreN (hexec : p.tables.exec = Jvm.exec) (hb : c.code = cc) {x : UInt64} {i : Int32} (hdg : decode cc pc = .ok (.dastore, 1)) (k : vx_NoteN p l e R s m args below meth c H locs cells slots Q (F0 m pc ls rest)) : W p l e R s m args below meth c H locs cells slots Q (F0 m pc ls (.double x :: .int i :: .null :: rest)) := by
  intro T hT X
  obtain ⟨t, st, q⟩ := k T hT X
  exact ⟨t, X.dastoreNull hexec (g := F0 m pc ls (.double x :: .int i :: .null :: rest)) rfl (rest := rest) rfl (by rw [hb]; exact hdg) t st, q⟩
theorem vx_bastoreN (hexec : p.tables.exec = Jvm.exec) (hb : c.code = cc) {x : Int32} {i : Int32} (hdg : decode cc pc = .ok (.bastore, 1)) (k : vx_NoteN p l e R s m args below meth c H locs cells slots Q (F0 m pc ls rest)) : W p l e R s m args below meth c H locs cells slots Q (F0 m pc ls (.int x :: .int i :: .null :: rest)) := by
  intro T hT X
  obtain ⟨t, st, q⟩ := k T hT X
  exact ⟨t, X.bastoreNull hexec (g := F0 m pc ls (.int x :: .int i :: .null :: rest)) rfl (rest := rest) rfl (by rw [hb]; exact hdg) t st, q⟩
theorem vx_castoreN (hexec : p.tables.exec = Jvm.exec) (hb : c.code = cc) {x : Int32} {i : Int32} (hdg : decode cc pc = .ok (.castore, 1)) (k : vx_NoteN p l e R s m args below meth c H locs cells slots Q (F0 m pc ls rest)) : W p l e R s m args below meth c H locs cells slots Q (F0 m pc ls (.int x :: .int i :: .null :: rest)) := by
  intro T hT X
  obtain ⟨t, st, q⟩ := k T hT X
  exact ⟨t, X.castoreNull hexec (g := F0 m pc ls (.int x :: .int i :: .null :: rest)) rfl (rest := rest) rfl (by rw [hb]; exact hdg) t st, q⟩
theorem vx_sastoreN (hexec : p.tables.exec = Jvm.exec) (hb : c.code = cc) {x : Int32} {i : Int32} (hdg : decode cc pc = .ok (.sastore, 1)) (k : vx_NoteN p l e R s m args below meth c H locs cells slots Q (F0 m pc ls rest)) : W p l e R s m args below meth c H locs cells slots Q (F0 m pc ls (.int x :: .int i :: .null :: rest)) := by
  intro T hT X
  obtain ⟨t, st, q⟩ := k T hT X
  exact ⟨t, X.sastoreNull hexec (g := F0 m pc ls (.int x :: .int i :: .null :: rest)) rfl (rest := rest) rfl (by rw [hb]; exact hdg) t st, q⟩
theorem vx_invokeN {own C : String} {index maxL : Nat} {y : MethodName} {bytes : ByteArray} {ret : Option FieldType} (hexec : p.tables.exec = Jvm.exec) (hb : c.code = cc) (hown : s.vm.findClass own = some m.cls) (hlink : (Cond.methodLink own index y).before args s = true) (hinst : (Cond.instanceMethod y).before args s = true) (hcode : (Cond.code y bytes maxL ret).before args s = true) (hsel : (Cond.selects C y y).before args s = true)
    (hx : y.cls ≠ "java/lang/invoke/MethodHandle" ∧ y.cls ≠ "java/lang/invoke/VarHandle") {As : List Value} (hlen : (parseMethodDescriptor y.desc).map (fun d => d.parameters.length) = some As.length) (hdg : decode cc pc = .ok (.invokevirtual index, 3))
    (k : vx_NoteN p l e R s m args below meth c H locs cells slots Q (F0 m pc ls rest)) {st0 : List Value} (hst : st0 = As.reverse ++ .null :: rest) : W p l e R s m args below meth c H locs cells slots Q (F0 m pc ls st0) := by
  intro T hT X
  obtain ⟨r0, r, hn, hrm, hstR, hsigR⟩ := va_Decl.of hinst hcode
  obtain ⟨c2, r2, m2, q1, q2, q3, q4, kP, hkP, hkPi⟩ := Cond.selects_spec hsel
  cases hn.symm.trans q3
  have hl9 : As.length = r.sig.parameters.length := by
    rw [hsigR] at hlen
    exact (Option.some.inj hlen).symm
  obtain ⟨vm', X1, st1⟩ := X.invokevirtualNull hexec hown hlink hn hrm hstR hkP hkPi hx (g := F0 m pc ls st0) rfl (argsL := As) (rest := rest) hl9 hst (by rw [hb]; exact hdg)
  obtain ⟨t, st, q⟩ := k (T.setVm vm') hT X1
  exact ⟨t, st1 t st, q⟩
theorem vx_newarrayZ {atype : ArrayType} (hexec : p.tables.exec = Jvm.exec) (hb : c.code = cc) {n : Int32} (h0 : n < 0) (hdg : decode cc pc = .ok (.newarray atype, 2)) (k : ∀ tx : String, tx = toString n → vx_Note p l e R s m args below meth c H locs cells slots Q (F0 m pc ls rest) "java/lang/NegativeArraySizeException" tx) : W p l e R s m args below meth c H locs cells slots Q (F0 m pc ls (.int n :: rest)) := by
  intro T hT X
  obtain ⟨t, st, q⟩ := k _ rfl T hT X
  exact ⟨t, X.newarrayNegative hexec (g := F0 m pc ls (.int n :: rest)) rfl h0 (rest := rest) rfl (by rw [hb]; exact hdg) t st, q⟩
end
end VXM
/-! ===== END ===== -/
/-! ===== BEGIN an exception as an object: made, kept, thrown later (no traces kept) ===== -/
section VXK
variable {p : Program} {l : Launch} {e : Env} {R : Room} {s : State} {m₀ : MethodId} {args : Array Value} {below : List Frame} {meth : Method} {c : Code} {W : State} {locs : List Loc} {cells slots : Nat}
set_option maxHeartbeats 1000000 in
theorem vx_ctorMadeS (X : Stand p l e R s m₀ args below meth c W locs cells slots) (hexec : p.tables.exec = Jvm.exec) (htr : e.platform.stackTraces = false) {own cls : String} {names : List String} {ic : Nat}
    (hown : s.vm.findClass own = some m₀.cls) (hcls : Bundle.fit cls = true) (hnames : ∀ n ∈ names, Bundle.fit n = true)
    (h : ∀ a ∈ Bundle.ownAtoms own ic cls names, a.before args s = true)
    (hlocs : ∀ x ∈ locs, ∀ cell, s.heap[x.base]? = some cell → cell.vm.isStatics = false)
    {a : Addr} {cX : ClassId} {kX : Class} (hfoundX : s.vm.findClass cls = some cX) (hkX : s.vm.classes[cX]? = some kX) (hcell : W.heap[a]? = some (freshCell cX kX)) (hnew : s.heap.size ≤ a)
    {msg : Value} (hmsg : msg.isRef = true)
    {g : JFrame} (hg : g.method = m₀) (hsize : g.locals.size = c.maxLocals) {rest : List Value} (hstack : g.stack = msg :: .ref a :: .ref a :: rest)
    (hd6 : decode c.code g.pc = .ok (.invokespecial ic, 3))
    (hRframes : names.length + 3 < R.frames) (hRlocals : 2 * g.monitorRoom + ((Value.ref a :: rest).map fun v => v.category).sum + (13 * (names.length + 1) + 42) ≤ R.locals) :
    ∃ (V : State) (ce : Cell) (L : List Loc), Stand p l e R s m₀ args below meth c (V.setCell a ce) (locs ++ L) cells slots ∧ (∀ y ∈ L, y.base = a) ∧ a < V.heap.size ∧ ce.cls = cX ∧ ce.vm = .none ∧
      ∀ target, Steps p.tables e below ((V.setCell a ce).setTop { g with stack := .ref a :: rest, pc := g.pc + 3 }) target → Steps p.tables e below (W.setTop g) target := by
  have howns : e.platform.frameOwnsMonitors = true := by rw [X.admits.platform]
  have hfin : e.platform.finalization = false := by rw [X.admits.platform]
  have hpl : e.platform.magicAccessors = ({} : Platform).magicAccessors := by rw [X.admits.platform]
  have a' : ∀ x, x ∈ Bundle.ownAtoms own ic cls names → x.holds args s none s [] = true := fun x hx => h x hx
  obtain ⟨T, Z0, L, -, Y⟩ := ThrowableC.of_atoms (args := args) howns hfin hpl (fun x hx => h x (by simp [Bundle.ownAtoms, hx]))
  obtain ⟨Z, M, LZ, LM, hnZ⟩ := Init0T.ofS_atoms (args := args) hpl L Y (fun x hx => h x (by simp [Bundle.ownAtoms, hx]))
  obtain ⟨P1, Ps, hlen, L1, hL, hP1m, hlink1, hlink⟩ := Bundle.chainS (args := args) hpl hnZ names cls hcls hnames (fun x hx => h x (by simp [Bundle.ownAtoms, hx]))
  have hfound : s.vm.findClass cls = some P1.m.cls := findClass_of_methodNamed hP1m
  cases Option.some.inj (hfoundX.symm.trans hfound)
  obtain ⟨c1, kX', hc1, hk, hord, -, -, hn6⟩ := Cond.instantiable_spec (a' (.instantiable cls 6) (by simp [Bundle.ownAtoms]))
  cases Option.some.inj (hc1.symm.trans hfound)
  cases Option.some.inj (hkX.symm.trans hk)
  have hsel0 : selectMethod e.platform s.vm P1.m.cls T.fill0 = .method T.fill0 := by
    obtain ⟨c2, r2, m2, q1, q2, q3, q4, -⟩ := Cond.selects_spec (a' (.selects cls Bundle.tFill0 Bundle.tFill0) (by simp [Bundle.ownAtoms]))
    cases Option.some.inj (q1.symm.trans hfound)
    cases Option.some.inj (q2.symm.trans (State.methodFound?_of_named Y.fill0 (by decide)))
    cases Option.some.inj (q3.symm.trans Y.fill0)
    rw [Launch.admits_selectMethod X.admits]; exact q4
  have hselF : selectMethod e.platform s.vm P1.m.cls T.fill = .method T.fill := by
    obtain ⟨c2, r2, m2, q1, q2, q3, q4, -⟩ := Cond.selects_spec (a' (.selects cls Bundle.tFill Bundle.tFill) (by simp [Bundle.ownAtoms]))
    cases Option.some.inj (q1.symm.trans hfound)
    cases Option.some.inj (q2.symm.trans (State.methodFound?_of_named Y.fill (by decide)))
    cases Option.some.inj (q3.symm.trans Y.fill)
    rw [Launch.admits_selectMethod X.admits]; exact q4
  obtain ⟨cellS0, hcS0, hiss⟩ := Y.statics
  obtain ⟨u0, hu0⟩ := Cond.staticRefV Y.unassigned L.unassignedStatic L.statics hcS0 hiss (a' (.isRef (.static Bundle.tN "UNASSIGNED_STACK" Bundle.steD)) (by simp [Bundle.ownAtoms]))
  obtain ⟨sen, hsen⟩ := Cond.staticRefV Y.sentinel L.sentinelStatic L.statics hcS0 hiss (a' (.isRef (.static Bundle.tN "SUPPRESSED_SENTINEL" Bundle.listD)) (by simp [Bundle.ownAtoms]))
  obtain ⟨ci198, i198, fB, hk198, hg198, ha198, hsB, -, hnB, htB, hffB⟩ := Cond.ownField (t := .object "java/lang/Object") Y.found L.cls (by decide +kernel) (a' (.fieldLink Bundle.tN 198 Bundle.tN "backtrace" "Ljava/lang/Object;") (by simp [Bundle.ownAtoms])) (a' (.lays Bundle.tN Bundle.tN "backtrace" "Ljava/lang/Object;") (by simp [Bundle.ownAtoms])) e.platform hpl
  obtain ⟨cellS, hcS', heS, -, hkeep⟩ := X.same.2.2.2.2.2 T.aS cellS0 hcS0
  have hcellS : W.heap[T.aS]? = some cellS := hcS'
  have hout' : ∀ i, (⟨T.aS, i⟩ : Loc) ∉ locs := fun i hmem => by
    have := hlocs _ hmem cellS0 hcS0
    rw [hiss] at this; cases this
  have hknownS : cellS.vm ≠ .unknown := by
    rw [heS]; intro hu
    rw [show cellS0.vm = .unknown from hu] at hiss
    cases hiss
  have hneS : T.aS ≠ a := Nat.ne_of_lt (Nat.lt_of_lt_of_le (Array.getElem?_eq_some_iff.mp hcS0).1 hnew)
  obtain ⟨iM, hffM⟩ := Y.msg
  obtain ⟨tyC, dC, hdC, hdnC⟩ := Cond.laysAt hfound hk Y.cause (a' (.lays cls Bundle.tN "cause" "Ljava/lang/Throwable;") (by simp [Bundle.ownAtoms]))
  obtain ⟨tyS, dS, hdS, hdnS⟩ := Cond.laysAt hfound hk Y.stack (a' (.lays cls Bundle.tN "stackTrace" Bundle.steD) (by simp [Bundle.ownAtoms]))
  obtain ⟨tyP, dP, hdP, hdnP⟩ := Cond.laysAt hfound hk Y.supp (a' (.lays cls Bundle.tN "suppressedExceptions" Bundle.listD) (by simp [Bundle.ownAtoms]))
  obtain ⟨tyM, dM, hdM, hdnM⟩ := Cond.laysAt hfound hk hffM (a' (.lays cls Bundle.tN "detailMessage" "Ljava/lang/String;") (by simp [Bundle.ownAtoms]))
  obtain ⟨tyB, dB, hdB, hdnB⟩ := Cond.laysAt hfound hk hffB (a' (.lays cls Bundle.tN "backtrace" "Ljava/lang/Object;") (by simp [Bundle.ownAtoms]))
  have bC := Cond.laysApart hdB hdC hdnB hdnC (by rw [hnB, Y.causeName]; decide)
  have bS := Cond.laysApart hdB hdS hdnB hdnS (by rw [hnB, Y.stackName]; decide)
  have bP := Cond.laysApart hdB hdP hdnB hdnP (by rw [hnB, Y.suppName]; decide)
  have hskip : SkipFacts T e.platform s (fun u => u) u0 ((preparedCellV T.toThrowableT (freshCell P1.m.cls kX) a u0 sen).withEntry W.cur) :=
    ⟨{ ci198 := ci198, i198 := i198, fBack := fB }, ⟨hk198, hg198, ha198, hsB⟩, by
      have := fresh_default (c := P1.m.cls) tyB
      rw [htB] at this
      simpa [preparedCellV, Cell.setSlot, Cell.withEntry, Array.getElem?_setIfInBounds, bC, bS, bP, bC.symm, bS.symm, bP.symm, defaultValue] using this, fun _ _ => rfl⟩
  obtain ⟨tm, methC, cdC, kC, vm₁, hnC, -, -, -, -, -, -, -, hW₁, st1⟩ := Steps.initColdS (tb := p.tables) (e := e) (below := below) (s := s) (U := W) X.here hexec X.warmed hpl hown (t := Bundle.initS cls) rfl rfl (Bundle.fit_spec hcls).2
    (a' (.methodLink own ic (Bundle.initS cls)) (by simp [Bundle.ownAtoms])) (h (.instanceMethod (Bundle.initS cls)) (by cases names <;> simp [Bundle.ownAtoms, Bundle.chainSAtoms, Bundle.passSAtoms])) (bytes := Bundle.six) (maxL := 2) (h (.code (Bundle.initS cls) Bundle.six 2 none) (by cases names <;> simp [Bundle.ownAtoms, Bundle.chainSAtoms, Bundle.passSAtoms]))
    (f := g) hg (a := a) (msg := msg) (rest := .ref a :: rest) hstack hd6
  cases Option.some.inj (hnC.symm.trans hP1m)
  have X₁ := X.noted hW₁
  obtain ⟨vm₂, X₂, st2⟩ := X₁.ctorMessageOffV hexec (g := { g with stack := .ref a :: rest }) hg hsize T L Z LZ M LM (P1 :: Ps)
    (fun P hP => by rcases List.mem_cons.mp hP with rfl | hP; exact L1; exact hL P hP) ⟨hlink1, hlink⟩ (u0 := u0) (sen := sen) (self := a) hmsg (cell := freshCell P1.m.cls kX) (cellS := cellS)
    hcell (fun _ => by simp) (by simp) rfl rfl hsel0 hselF hcellS hneS hknownS (by rw [hkeep _ (hout' _)]; exact hu0) (by rw [hkeep _ (hout' _)]; exact hsen)
    (Takes.of_laid hk hord tyC (by rw [Y.causeType]; rfl)) (Takes.of_laid hk hord tyS (by rw [Y.stackType]; exact fits_refV_array _ u0)) (Takes.of_laid hk hord tyP (by rw [Y.suppType]; exact fits_refV_object _ sen))
    (Takes.of_laid hk hord tyM (by rw [Y.msgType]; exact fits_refV_object _ ⟨msg, hmsg⟩)) Y.objLocals hskip htr [] hd6
    (by simp only [List.length_cons, hlen]; omega) (by simp only [List.length_cons, hlen]; exact hRlocals)
  have hlt : a < ((W.setVm vm₁).setVm vm₂).heap.size := (Array.getElem?_eq_some_iff.mp hcell).1
  refine ⟨(W.setVm vm₁).setVm vm₂, _, _, X₂, fun y hy => ?_, hlt, rfl, rfl, fun target hwalk => st1 _ (fun acts => ?_)⟩
  · simp only [List.mem_cons, List.not_mem_nil, or_false] at hy
    rcases hy with rfl | rfl | rfl | rfl | rfl <;> rfl
  · rw [doInvoke_state]
    exact st2 _ hwalk
set_option maxHeartbeats 1000000 in
theorem vx_ctorMade0 (X : Stand p l e R s m₀ args below meth c W locs cells slots) (hexec : p.tables.exec = Jvm.exec) (htr : e.platform.stackTraces = false) {own cls : String} {names : List String} {ic : Nat}
    (hown : s.vm.findClass own = some m₀.cls) (hcls : Bundle.fit cls = true) (hnames : ∀ n ∈ names, Bundle.fit n = true)
    (h : ∀ a ∈ Bundle.ownAtoms0 own ic cls names, a.before args s = true)
    (hlocs : ∀ x ∈ locs, ∀ cell, s.heap[x.base]? = some cell → cell.vm.isStatics = false)
    {a : Addr} {cX : ClassId} {kX : Class} (hfoundX : s.vm.findClass cls = some cX) (hkX : s.vm.classes[cX]? = some kX) (hcell : W.heap[a]? = some (freshCell cX kX)) (hnew : s.heap.size ≤ a)
    {g : JFrame} (hg : g.method = m₀) (hsize : g.locals.size = c.maxLocals) {rest : List Value} (hstack : g.stack = .ref a :: .ref a :: rest)
    (hd6 : decode c.code g.pc = .ok (.invokespecial ic, 3))
    (hRframes : names.length + 3 < R.frames) (hRlocals : 2 * g.monitorRoom + ((Value.ref a :: rest).map fun v => v.category).sum + (13 * (names.length + 1) + 41) ≤ R.locals) :
    ∃ (V : State) (ce : Cell) (L : List Loc), Stand p l e R s m₀ args below meth c (V.setCell a ce) (locs ++ L) cells slots ∧ (∀ y ∈ L, y.base = a) ∧ a < V.heap.size ∧ ce.cls = cX ∧ ce.vm = .none ∧
      ∀ target, Steps p.tables e below ((V.setCell a ce).setTop { g with stack := .ref a :: rest, pc := g.pc + 3 }) target → Steps p.tables e below (W.setTop g) target := by
  have howns : e.platform.frameOwnsMonitors = true := by rw [X.admits.platform]
  have hfin : e.platform.finalization = false := by rw [X.admits.platform]
  have hpl : e.platform.magicAccessors = ({} : Platform).magicAccessors := by rw [X.admits.platform]
  have a' : ∀ x, x ∈ Bundle.ownAtoms0 own ic cls names → x.holds args s none s [] = true := fun x hx => h x hx
  obtain ⟨T, Z, L, LZ, Y⟩ := ThrowableC.of_atoms (args := args) howns hfin hpl (fun x hx => h x (by simp [Bundle.ownAtoms0, hx]))
  obtain ⟨P1, Ps, hlen, L1, hL, hP1m, hlink1, hlink⟩ := Bundle.chain0 (args := args) hpl Y.init0 names cls hcls hnames (fun x hx => h x (by simp [Bundle.ownAtoms0, hx]))
  have hfound : s.vm.findClass cls = some P1.m.cls := findClass_of_methodNamed hP1m
  cases Option.some.inj (hfoundX.symm.trans hfound)
  obtain ⟨c1, kX', hc1, hk, hord, -, -, hn6⟩ := Cond.instantiable_spec (a' (.instantiable cls 6) (by simp [Bundle.ownAtoms0]))
  cases Option.some.inj (hc1.symm.trans hfound)
  cases Option.some.inj (hkX.symm.trans hk)
  have hsel0 : selectMethod e.platform s.vm P1.m.cls T.fill0 = .method T.fill0 := by
    obtain ⟨c2, r2, m2, q1, q2, q3, q4, -⟩ := Cond.selects_spec (a' (.selects cls Bundle.tFill0 Bundle.tFill0) (by simp [Bundle.ownAtoms0]))
    cases Option.some.inj (q1.symm.trans hfound)
    cases Option.some.inj (q2.symm.trans (State.methodFound?_of_named Y.fill0 (by decide)))
    cases Option.some.inj (q3.symm.trans Y.fill0)
    rw [Launch.admits_selectMethod X.admits]; exact q4
  have hselF : selectMethod e.platform s.vm P1.m.cls T.fill = .method T.fill := by
    obtain ⟨c2, r2, m2, q1, q2, q3, q4, -⟩ := Cond.selects_spec (a' (.selects cls Bundle.tFill Bundle.tFill) (by simp [Bundle.ownAtoms0]))
    cases Option.some.inj (q1.symm.trans hfound)
    cases Option.some.inj (q2.symm.trans (State.methodFound?_of_named Y.fill (by decide)))
    cases Option.some.inj (q3.symm.trans Y.fill)
    rw [Launch.admits_selectMethod X.admits]; exact q4
  obtain ⟨cellS0, hcS0, hiss⟩ := Y.statics
  obtain ⟨u0, hu0⟩ := Cond.staticRefV Y.unassigned L.unassignedStatic L.statics hcS0 hiss (a' (.isRef (.static Bundle.tN "UNASSIGNED_STACK" Bundle.steD)) (by simp [Bundle.ownAtoms0]))
  obtain ⟨sen, hsen⟩ := Cond.staticRefV Y.sentinel L.sentinelStatic L.statics hcS0 hiss (a' (.isRef (.static Bundle.tN "SUPPRESSED_SENTINEL" Bundle.listD)) (by simp [Bundle.ownAtoms0]))
  obtain ⟨ci198, i198, fB, hk198, hg198, ha198, hsB, -, hnB, htB, hffB⟩ := Cond.ownField (t := .object "java/lang/Object") Y.found L.cls (by decide +kernel) (a' (.fieldLink Bundle.tN 198 Bundle.tN "backtrace" "Ljava/lang/Object;") (by simp [Bundle.ownAtoms0])) (a' (.lays Bundle.tN Bundle.tN "backtrace" "Ljava/lang/Object;") (by simp [Bundle.ownAtoms0])) e.platform hpl
  obtain ⟨cellS, hcS', heS, -, hkeep⟩ := X.same.2.2.2.2.2 T.aS cellS0 hcS0
  have hcellS : W.heap[T.aS]? = some cellS := hcS'
  have hout' : ∀ i, (⟨T.aS, i⟩ : Loc) ∉ locs := fun i hmem => by
    have := hlocs _ hmem cellS0 hcS0
    rw [hiss] at this; cases this
  have hknownS : cellS.vm ≠ .unknown := by
    rw [heS]; intro hu
    rw [show cellS0.vm = .unknown from hu] at hiss
    cases hiss
  have hneS : T.aS ≠ a := Nat.ne_of_lt (Nat.lt_of_lt_of_le (Array.getElem?_eq_some_iff.mp hcS0).1 hnew)
  obtain ⟨iM, hffM⟩ := Y.msg
  obtain ⟨tyC, dC, hdC, hdnC⟩ := Cond.laysAt hfound hk Y.cause (a' (.lays cls Bundle.tN "cause" "Ljava/lang/Throwable;") (by simp [Bundle.ownAtoms0]))
  obtain ⟨tyS, dS, hdS, hdnS⟩ := Cond.laysAt hfound hk Y.stack (a' (.lays cls Bundle.tN "stackTrace" Bundle.steD) (by simp [Bundle.ownAtoms0]))
  obtain ⟨tyP, dP, hdP, hdnP⟩ := Cond.laysAt hfound hk Y.supp (a' (.lays cls Bundle.tN "suppressedExceptions" Bundle.listD) (by simp [Bundle.ownAtoms0]))
  obtain ⟨tyM, dM, hdM, hdnM⟩ := Cond.laysAt hfound hk hffM (a' (.lays cls Bundle.tN "detailMessage" "Ljava/lang/String;") (by simp [Bundle.ownAtoms0]))
  obtain ⟨tyB, dB, hdB, hdnB⟩ := Cond.laysAt hfound hk hffB (a' (.lays cls Bundle.tN "backtrace" "Ljava/lang/Object;") (by simp [Bundle.ownAtoms0]))
  have bC := Cond.laysApart hdB hdC hdnB hdnC (by rw [hnB, Y.causeName]; decide)
  have bS := Cond.laysApart hdB hdS hdnB hdnS (by rw [hnB, Y.stackName]; decide)
  have bP := Cond.laysApart hdB hdP hdnB hdnP (by rw [hnB, Y.suppName]; decide)
  have hskip : SkipFacts T e.platform s (fun u => u) u0 ((preparedCellV T.toThrowableT (freshCell P1.m.cls kX) a u0 sen).withEntry W.cur) :=
    ⟨{ ci198 := ci198, i198 := i198, fBack := fB }, ⟨hk198, hg198, ha198, hsB⟩, by
      have := fresh_default (c := P1.m.cls) tyB
      rw [htB] at this
      simpa [preparedCellV, Cell.setSlot, Cell.withEntry, Array.getElem?_setIfInBounds, bC, bS, bP, bC.symm, bS.symm, bP.symm, defaultValue] using this, fun _ _ => rfl⟩
  obtain ⟨tm, methC, cdC, kC, vm₁, hnC, -, -, -, -, -, -, -, hW₁, st1⟩ := Steps.initCold (tb := p.tables) (e := e) (below := below) (s := s) (U := W) X.here hexec X.warmed hpl hown (t := Bundle.init0 cls) rfl rfl (Bundle.fit_spec hcls).2
    (a' (.methodLink own ic (Bundle.init0 cls)) (by simp [Bundle.ownAtoms0])) (h (.instanceMethod (Bundle.init0 cls)) (by cases names <;> simp [Bundle.ownAtoms0, Bundle.chain0Atoms, Bundle.passAtoms])) (bytes := Bundle.five) (maxL := 1) (h (.code (Bundle.init0 cls) Bundle.five 1 none) (by cases names <;> simp [Bundle.ownAtoms0, Bundle.chain0Atoms, Bundle.passAtoms]))
    (f := g) hg (a := a) (rest := .ref a :: rest) hstack hd6
  cases Option.some.inj (hnC.symm.trans hP1m)
  have X₁ := X.noted hW₁
  obtain ⟨vm₂, X₂, st2⟩ := X₁.ctorPlainOffV hexec (g := { g with stack := .ref a :: rest }) hg hsize T L Z LZ (P1 :: Ps)
    (fun P hP => by rcases List.mem_cons.mp hP with rfl | hP; exact L1; exact hL P hP) ⟨hlink1, hlink⟩ (u0 := u0) (sen := sen) (self := a) (cell := freshCell P1.m.cls kX) (cellS := cellS)
    hcell (fun _ => by simp) (by simp) rfl rfl hsel0 hselF hcellS hneS hknownS (by rw [hkeep _ (hout' _)]; exact hu0) (by rw [hkeep _ (hout' _)]; exact hsen)
    (Takes.of_laid hk hord tyC (by rw [Y.causeType]; rfl)) (Takes.of_laid hk hord tyS (by rw [Y.stackType]; exact fits_refV_array _ u0)) (Takes.of_laid hk hord tyP (by rw [Y.suppType]; exact fits_refV_object _ sen)) Y.objLocals hskip htr [] hd6
    (by simp only [List.length_cons, hlen]; omega) (by simp only [List.length_cons, hlen]; exact hRlocals)
  have hlt : a < ((W.setVm vm₁).setVm vm₂).heap.size := (Array.getElem?_eq_some_iff.mp hcell).1
  refine ⟨(W.setVm vm₁).setVm vm₂, _, _, X₂, fun y hy => ?_, hlt, rfl, rfl, fun target hwalk => st1 _ (fun acts => ?_)⟩
  · simp only [List.mem_cons, List.not_mem_nil, or_false] at hy
    rcases hy with rfl | rfl | rfl | rfl <;> rfl
  · rw [doInvoke_state]
    exact st2 _ hwalk
end VXK
section VXK2
variable {p : Program} {l : Launch} {e : Env} {R : Room} {s : State} {m : MethodId} {args : Array Value} {below : List Frame} {meth : Method} {c : Code} {H : Heap} {locs : List Loc} {cells slots : Nat} {Q : State → Prop}
variable {ls : Array Slot} {rest : List Value} {D : va_G} {cl : List vw_C} {tys : List (ClassId × FieldType)} {ws : va_W}
/-- 'new E("text")' that isn't thrown at once: the object goes on the stack -/
theorem vx_makeS {cc : ByteArray} {pc : Nat} (hexec : p.tables.exec = Jvm.exec) (hb : c.code = cc) (hl : l.stackTraces = false) {own cls text : String} {names : List String} {ik is ic sa ci : Nat} {A : Nat → Prop} {T0 : u_T}
    (hown : s.vm.findClass own = some m.cls) (hcls : Bundle.fit cls = true) (hnames : ∀ n ∈ names, Bundle.fit n = true)
    (hk : (Cond.classLink own ik cls).before args s = true) (hini : (Cond.initialized cls).before args s = true) (hstr : vk_R own is text sa s) (hat : ∀ w ∈ vx_atS own ic cls names, w.before args s = true)
    (hgood : ∀ w ∈ Cond.classLink own ik cls :: Cond.initialized cls :: vx_atS own ic cls names, vx_ot w = true)
    (hU : vx_Zq Bundle.tN "UNASSIGNED_STACK" Bundle.steD A s s.heap) (hN : vx_Zq Bundle.tN "SUPPRESSED_SENTINEL" Bundle.listD A s s.heap) (hS : va_S A s.heap H locs) (hsize : ls.size = c.maxLocals)
    (d0 : decode cc pc = .ok (.new ik, 3)) (d3 : decode cc (pc + 3) = .ok (.dup, 1)) (d4 : decode cc (pc + 4) = .ok (.ldc is, 2)) (d6 : decode cc (pc + 6) = .ok (.invokespecial ic, 3))
    (hK : va_K D cl tys s) (hP : va_P D cl ws H) (hD : va_D A ws) (hA : ∀ q, s.heap.size ≤ q → A q) (hc : cl[ci]? = some (cls, T0, 0))
    (hRframes : names.length + 3 < R.frames) (hRlocals : (rest.map fun v => v.category).sum + (13 * (names.length + 1) + 43) ≤ R.locals) (hRcells : cells + 1 ≤ R.cells) (hRslots : slots + 6 ≤ R.slots)
    (kk : ∀ (q : Nat) (H1 : Heap), va_P D cl (ws ++ [(q, .inr (ci, []))]) H1 → va_D A (ws ++ [(q, .inr (ci, []))]) → va_S A s.heap H1 locs → W p l e R s m args below meth c H1 locs (cells + 1) (slots + 6) Q (F0 m (pc + 9) ls (.ref q :: rest))) :
    W p l e R s m args below meth c H locs cells slots Q (F0 m pc ls rest) := by
  intro T hT X
  subst hT
  have htr : e.platform.stackTraces = false := (show e.platform.stackTraces = l.stackTraces by rw [X.admits.platform]).trans hl
  have Y := vx_rebase X (R' := { frames := R.frames, locals := R.locals, cells := 1, slots := 6 }) (Nat.le_refl _) (Nat.le_refl _) hRcells hRslots
  obtain ⟨s', hA'⟩ : ∃ z, z = (T.setVm s.vm).setFrames (.invoking m args :: below) := ⟨_, rfl⟩
  rw [← hA'] at Y
  have hvm : s'.vm = s.vm := by rw [hA']; rfl
  have hhp : s'.heap = T.heap := by rw [hA']; rfl
  have hW0 : s.WarmedH s'.vm := by rw [hvm]; exact State.WarmedH.refl s
  have hat' : ∀ w ∈ vx_atS own ic cls names, w.before args s' = true := fun w hw => vx_ot_at hW0 hvm.symm (hgood w (List.mem_cons_of_mem _ (List.mem_cons_of_mem _ hw))) (hat w hw)
  have hk' : (Cond.classLink own ik cls).before args s' = true := vx_ot_at hW0 hvm.symm (hgood _ List.mem_cons_self) hk
  have hini' : (Cond.initialized cls).before args s' = true := vx_ot_at hW0 hvm.symm (hgood _ (List.mem_cons_of_mem _ List.mem_cons_self)) hini
  have hU' : vx_Zq Bundle.tN "UNASSIGNED_STACK" Bundle.steD A s' s'.heap := by rw [hhp]; exact vx_Zq.moved hW0.alike (hU.kept hS.2.1)
  have hN' : vx_Zq Bundle.tN "SUPPRESSED_SENTINEL" Bundle.listD A s' s'.heap := by rw [hhp]; exact vx_Zq.moved hW0.alike (hN.kept hS.2.1)
  have h : ∀ w ∈ Bundle.ownAtoms own ic cls names, w.before args s' = true := vx_own hat' (vx_isRefq hU'.1) (vx_isRefq hN'.1) hU'.2.word hN'.2.word
  have hown' : s'.vm.findClass own = some m.cls := by rw [hvm]; exact hown
  have hins : (Cond.instantiable cls 6).before args s' = true := h _ (by simp [Bundle.ownAtoms])
  obtain ⟨vm₁, cX, kX, hfX, hkX, -, -, X₁, st1⟩ := Y.newCold hexec (own := own) (C := cls) (index := ik) (n := 6) hown' hk' hins hini'
    (g := F0 m pc ls rest) rfl (by rw [hb]; exact d0) (Nat.le_refl _) (Nat.le_refl _)
  generalize hT1 : (T.setVm vm₁).pushCell { cls := cX, slots := kX.instanceTypes.map defaultValue, vm := .none } = T1 at X₁ st1
  have hcat : (Value.ref T.heap.size).category = 1 := rfl
  have hcellA : T1.heap[T.heap.size]? = some (freshCell cX kX) := by rw [← hT1]; exact State.heap_pushCell_size _ _
  have d3' : decode c.code (pc + 3) = .ok (.dup, 1) := by rw [hb]; exact d3
  have d4' : decode c.code (pc + 4) = .ok (.ldc is, 2) := by rw [hb]; exact d4
  have hstr' : vk_R own is text sa s' := vk_R.warm hW0 hstr
  obtain ⟨V, ce, L, Z, hL, hlt, hcl9, hvm9, st⟩ := vx_ctorMadeS X₁ hexec htr (own := own) (cls := cls) (names := names) (ic := ic) hown' hcls hnames h (fun x hx => nomatch hx) hfX hkX hcellA (by rw [hhp]; exact Nat.le_refl _) (msg := .ref sa) rfl
    (g := { method := m, pc := pc + 6, locals := ls, stack := .ref sa :: .ref T.heap.size :: .ref T.heap.size :: rest, locked := none }) rfl hsize (rest := rest) rfl
    (by rw [hb]; exact d6) hRframes (by simp only [List.map_cons, List.sum_cons, hcat]; omega)
  have Z0 := Stand.forget (locs := []) Z (fun y hy => by rw [hL y hy, hhp]; exact Nat.le_refl _)
  obtain ⟨f1, f2⟩ := vx_frame Z0.same
  rw [hhp] at f1 f2
  have hcid : ce.cls = D.1 ci := by
    rw [hcl9]
    have h1 := (hK.1 ci _ hc).2.1
    rw [hvm] at hfX
    exact Option.some.inj (hfX.symm.trans h1)
  have hh : (V.setCell T.heap.size ce).heap[T.heap.size]? = some ce := heapAt_setCell_self (s := V) ce hlt
  subst hA'
  have X5 := vx_back9 X Y Z0
  have X6 : Stand p l e R s m args below meth c (V.setCell T.heap.size ce) locs (cells + 1) (slots + 6) := { X5 with same := X5.same.mono (by omega) (by omega) }
  have hk9 : ∀ (k : Nat) (x : Nat × va_E), ws[k]? = some x → (V.setCell T.heap.size ce).heap[x.1]? = T.heap[x.1]? := fun k x hx => f2 x.1 ((hP k x hx).lt) (fun z hz => nomatch hz)
  obtain ⟨t, a1, b1⟩ := kk T.heap.size (V.setCell T.heap.size ce).heap ((hP.kept hk9).app (fun k x hx => by
      have hz : k < 1 := (List.getElem?_eq_some_iff.mp hx).1
      rw [show k = 0 by omega] at hx
      cases hx
      exact ⟨_, hc, ce, hh, hcid, hvm9, fun k hk => absurd hk (Nat.not_lt_zero k)⟩)) (hD.push hP rfl (hA _ hS.1)) ⟨Nat.le_trans hS.1 f1, fun q h1 h2 => (f2 q (Nat.lt_of_lt_of_le h1 hS.1) (fun z hz => nomatch hz)).trans (hS.2.1 q h1 h2), hS.2.2⟩ _ rfl X6
  refine ⟨t, st1 _ ?_, b1⟩
  show Steps p.tables e below (T1.setTop { method := m, pc := pc + 3, locals := ls, stack := .ref T.heap.size :: rest, locked := none }) _
  jvm_step X₁.here [X₁.here.top, hexec, d3', Value.category]
  exact X₁.ldcString hexec (own := own) (text := text) (index := is) (a := sa) hown' hstr'.1 hstr'.2
    (g := { method := m, pc := pc + 4, locals := ls, stack := .ref T.heap.size :: .ref T.heap.size :: rest, locked := none }) rfl d4' _ (st _ a1)
/-- 'new E()' that isn't thrown at once: the object goes on the stack -/
theorem vx_make0 {cc : ByteArray} {pc : Nat} (hexec : p.tables.exec = Jvm.exec) (hb : c.code = cc) (hl : l.stackTraces = false) {own cls : String} {names : List String} {ik ic ci : Nat} {A : Nat → Prop} {T0 : u_T}
    (hown : s.vm.findClass own = some m.cls) (hcls : Bundle.fit cls = true) (hnames : ∀ n ∈ names, Bundle.fit n = true)
    (hk : (Cond.classLink own ik cls).before args s = true) (hini : (Cond.initialized cls).before args s = true) (hat : ∀ w ∈ vx_at0 own ic cls names, w.before args s = true)
    (hgood : ∀ w ∈ Cond.classLink own ik cls :: Cond.initialized cls :: vx_at0 own ic cls names, vx_ot w = true)
    (hU : vx_Zq Bundle.tN "UNASSIGNED_STACK" Bundle.steD A s s.heap) (hN : vx_Zq Bundle.tN "SUPPRESSED_SENTINEL" Bundle.listD A s s.heap) (hS : va_S A s.heap H locs) (hsize : ls.size = c.maxLocals)
    (d0 : decode cc pc = .ok (.new ik, 3)) (d3 : decode cc (pc + 3) = .ok (.dup, 1)) (d4 : decode cc (pc + 4) = .ok (.invokespecial ic, 3))
    (hK : va_K D cl tys s) (hP : va_P D cl ws H) (hD : va_D A ws) (hA : ∀ q, s.heap.size ≤ q → A q) (hc : cl[ci]? = some (cls, T0, 0))
    (hRframes : names.length + 3 < R.frames) (hRlocals : (rest.map fun v => v.category).sum + (13 * (names.length + 1) + 42) ≤ R.locals) (hRcells : cells + 1 ≤ R.cells) (hRslots : slots + 6 ≤ R.slots)
    (kk : ∀ (q : Nat) (H1 : Heap), va_P D cl (ws ++ [(q, .inr (ci, []))]) H1 → va_D A (ws ++ [(q, .inr (ci, []))]) → va_S A s.heap H1 locs → W p l e R s m args below meth c H1 locs (cells + 1) (slots + 6) Q (F0 m (pc + 7) ls (.ref q :: rest))) :
    W p l e R s m args below meth c H locs cells slots Q (F0 m pc ls rest) := by
  intro T hT X
  subst hT
  have htr : e.platform.stackTraces = false := (show e.platform.stackTraces = l.stackTraces by rw [X.admits.platform]).trans hl
  have Y := vx_rebase X (R' := { frames := R.frames, locals := R.locals, cells := 1, slots := 6 }) (Nat.le_refl _) (Nat.le_refl _) hRcells hRslots
  obtain ⟨s', hA'⟩ : ∃ z, z = (T.setVm s.vm).setFrames (.invoking m args :: below) := ⟨_, rfl⟩
  rw [← hA'] at Y
  have hvm : s'.vm = s.vm := by rw [hA']; rfl
  have hhp : s'.heap = T.heap := by rw [hA']; rfl
  have hW0 : s.WarmedH s'.vm := by rw [hvm]; exact State.WarmedH.refl s
  have hat' : ∀ w ∈ vx_at0 own ic cls names, w.before args s' = true := fun w hw => vx_ot_at hW0 hvm.symm (hgood w (List.mem_cons_of_mem _ (List.mem_cons_of_mem _ hw))) (hat w hw)
  have hk' : (Cond.classLink own ik cls).before args s' = true := vx_ot_at hW0 hvm.symm (hgood _ List.mem_cons_self) hk
  have hini' : (Cond.initialized cls).before args s' = true := vx_ot_at hW0 hvm.symm (hgood _ (List.mem_cons_of_mem _ List.mem_cons_self)) hini
  have hU' : vx_Zq Bundle.tN "UNASSIGNED_STACK" Bundle.steD A s' s'.heap := by rw [hhp]; exact vx_Zq.moved hW0.alike (hU.kept hS.2.1)
  have hN' : vx_Zq Bundle.tN "SUPPRESSED_SENTINEL" Bundle.listD A s' s'.heap := by rw [hhp]; exact vx_Zq.moved hW0.alike (hN.kept hS.2.1)
  have h : ∀ w ∈ Bundle.ownAtoms0 own ic cls names, w.before args s' = true := vx_own hat' (vx_isRefq hU'.1) (vx_isRefq hN'.1) hU'.2.word hN'.2.word
  have hown' : s'.vm.findClass own = some m.cls := by rw [hvm]; exact hown
  have hins : (Cond.instantiable cls 6).before args s' = true := h _ (by simp [Bundle.ownAtoms0])
  obtain ⟨vm₁, cX, kX, hfX, hkX, -, -, X₁, st1⟩ := Y.newCold hexec (own := own) (C := cls) (index := ik) (n := 6) hown' hk' hins hini'
    (g := F0 m pc ls rest) rfl (by rw [hb]; exact d0) (Nat.le_refl _) (Nat.le_refl _)
  generalize hT1 : (T.setVm vm₁).pushCell { cls := cX, slots := kX.instanceTypes.map defaultValue, vm := .none } = T1 at X₁ st1
  have hcat : (Value.ref T.heap.size).category = 1 := rfl
  have hcellA : T1.heap[T.heap.size]? = some (freshCell cX kX) := by rw [← hT1]; exact State.heap_pushCell_size _ _
  have d3' : decode c.code (pc + 3) = .ok (.dup, 1) := by rw [hb]; exact d3
  obtain ⟨V, ce, L, Z, hL, hlt, hcl9, hvm9, st⟩ := vx_ctorMade0 X₁ hexec htr (own := own) (cls := cls) (names := names) (ic := ic) hown' hcls hnames h (fun x hx => nomatch hx) hfX hkX hcellA (by rw [hhp]; exact Nat.le_refl _)
    (g := { method := m, pc := pc + 4, locals := ls, stack := .ref T.heap.size :: .ref T.heap.size :: rest, locked := none }) rfl hsize (rest := rest) rfl
    (by rw [hb]; exact d4) hRframes (by simp only [List.map_cons, List.sum_cons, hcat]; omega)
  have Z0 := Stand.forget (locs := []) Z (fun y hy => by rw [hL y hy, hhp]; exact Nat.le_refl _)
  obtain ⟨f1, f2⟩ := vx_frame Z0.same
  rw [hhp] at f1 f2
  have hcid : ce.cls = D.1 ci := by
    rw [hcl9]
    have h1 := (hK.1 ci _ hc).2.1
    rw [hvm] at hfX
    exact Option.some.inj (hfX.symm.trans h1)
  have hh : (V.setCell T.heap.size ce).heap[T.heap.size]? = some ce := heapAt_setCell_self (s := V) ce hlt
  subst hA'
  have X5 := vx_back9 X Y Z0
  have X6 : Stand p l e R s m args below meth c (V.setCell T.heap.size ce) locs (cells + 1) (slots + 6) := { X5 with same := X5.same.mono (by omega) (by omega) }
  have hk9 : ∀ (k : Nat) (x : Nat × va_E), ws[k]? = some x → (V.setCell T.heap.size ce).heap[x.1]? = T.heap[x.1]? := fun k x hx => f2 x.1 ((hP k x hx).lt) (fun z hz => nomatch hz)
  obtain ⟨t, a1, b1⟩ := kk T.heap.size (V.setCell T.heap.size ce).heap ((hP.kept hk9).app (fun k x hx => by
      have hz : k < 1 := (List.getElem?_eq_some_iff.mp hx).1
      rw [show k = 0 by omega] at hx
      cases hx
      exact ⟨_, hc, ce, hh, hcid, hvm9, fun k hk => absurd hk (Nat.not_lt_zero k)⟩)) (hD.push hP rfl (hA _ hS.1)) ⟨Nat.le_trans hS.1 f1, fun q h1 h2 => (f2 q (Nat.lt_of_lt_of_le h1 hS.1) (fun z hz => nomatch hz)).trans (hS.2.1 q h1 h2), hS.2.2⟩ _ rfl X6
  refine ⟨t, st1 _ ?_, b1⟩
  show Steps p.tables e below (T1.setTop { method := m, pc := pc + 3, locals := ls, stack := .ref T.heap.size :: rest, locked := none }) _
  jvm_step X₁.here [X₁.here.top, hexec, d3', Value.category]
  exact st _ a1
/-- 'throw x' of an object that was made before -/
theorem vx_athrow {cc : ByteArray} {pc : Nat} (hexec : p.tables.exec = Jvm.exec) (hb : c.code = cc) {q : Addr} (hdg : decode cc pc = .ok (.athrow, 1)) (k : vx_W p l e R s m args below meth c H locs cells slots Q (F0 m pc ls rest) q) : W p l e R s m args below meth c H locs cells slots Q (F0 m pc ls (.ref q :: rest)) := by
  intro T hT X
  obtain ⟨t, st, hq⟩ := k T hT X
  refine ⟨t, ?_, hq⟩
  have hdg' : decode c.code pc = .ok (.athrow, 1) := by rw [hb]; exact hdg
  jvm_step X.here [X.here.top, hexec, hdg', athrow.wp_sem]
  exact st
end VXK2
/-! ===== END ===== -/
/-! ===== BEGIN a constructor that throws (launches without stack traces) ===== -/
section VXIA
variable {p : Program} {l : Launch} {e : Env} {R : Room} {s : State} {m : MethodId} {args : Array Value} {below : List Frame} {meth : Method} {c : Code} {T : State} {locs : List Loc} {cells slots : Nat}
theorem vx_callI (X : Stand p l e R s m args below meth c T locs cells slots) (hexec : p.tables.exec = Jvm.exec) {own : String} {index : Nat} {y : MethodName} {bytes : ByteArray} {maxL : Nat}
    (hown : s.vm.findClass own = some m.cls) (hy1 : y.name = "<init>") (hlink : (Cond.methodLink own index y).before args s = true) (hinst : (Cond.instanceMethod y).before args s = true)
    (hcode : (Cond.code y bytes maxL none).before args s = true) (hy : y.cls ≠ "java/lang/invoke/MethodHandle" ∧ y.cls ≠ "java/lang/invoke/VarHandle")
    {W9 : Nat} {Pre : Pt → Array Value → Prop} {Post : Pt → Array Value → Option Value → Pt → Prop} {PostX : Pt → Array Value → Addr → Pt → Prop} (hK : vx_Back l R p e below s args y 3 W9 Pre Post PostX)
    {g : JFrame} (hg : g.method = m) (hsize : g.locals.size = c.maxLocals) {a : Addr} {argsL rest : List Value} (hlen : ∀ sig, parseMethodDescriptor y.desc = some sig → argsL.length = sig.parameters.length)
    (hstack : g.stack = argsL.reverse ++ .ref a :: rest) (hW : 2 * g.monitorRoom + (rest.map fun v => v.category).sum ≤ W9) (hdg : decode c.code g.pc = .ok (.invokespecial index, 3))
    (hpre : ∀ vm₁, s.WarmedH vm₁ → Pre ⟨T.setVm vm₁, locs, cells, slots⟩ (Value.ref a :: argsL).toArray) :
    (∃ (v : Option Value) (vm₁ : Vm) (B : Pt), s.WarmedH vm₁ ∧ Stand p l e R s m args below meth c B.U B.locs B.cells B.slots ∧ Post ⟨T.setVm vm₁, locs, cells, slots⟩ (Value.ref a :: argsL).toArray v B ∧
      ∀ target, Steps p.tables e below (B.U.setTop { g with pc := g.pc + 3, stack := v.toList ++ rest }) target → Steps p.tables e below (T.setTop g) target) ∨
    (∃ (q : Addr) (vm₁ : Vm) (B : Pt), s.WarmedH vm₁ ∧ Stand p l e R s m args below meth c B.U B.locs B.cells B.slots ∧ PostX ⟨T.setVm vm₁, locs, cells, slots⟩ (Value.ref a :: argsL).toArray q B ∧
      Steps p.tables e below (T.setTop g) ((B.U.setTop { g with stack := rest }).pushFrame (.throwing q))) := by
  subst hg
  have hpl : e.platform.magicAccessors = ({} : Platform).magicAccessors := by rw [X.admits.platform]
  obtain ⟨mk, methM, cM, kP, vm₁, hnamed, hmethM, hcodeM, -, hlocalsM, -, hkP, -, hW₁, hstep₁⟩ := Steps.initColdArgs (e := e) X.here hexec X.warmed hpl hown hy1 hy hlink hinst hcode (f := g) rfl hlen hstack hdg
  have X₁ := X.noted hW₁
  rcases hK g.method meth c ⟨T.setVm vm₁, locs, cells, slots⟩ { g with stack := rest } (.invokespecial index) mk (Value.ref a :: argsL).toArray X₁ rfl hsize hdg hW (X₁.named hnamed) (hpre vm₁ X₁.warmed) with ⟨v, B, X', hpost, hsteps⟩ | ⟨q, B, X', hpost, hsteps⟩
  · exact Or.inl ⟨v, vm₁, B, X₁.warmed, X', hpost, fun target h => hstep₁ _ fun acts => by rw [doInvoke_state]; exact hsteps.trans h⟩
  · exact Or.inr ⟨q, vm₁, B, X₁.warmed, X', hpost, hstep₁ _ fun acts => by rw [doInvoke_state]; exact hsteps⟩
end VXIA
section VXIB
variable {p : Program} {l : Launch} {e : Env} {R : Room} {s : State} {m : MethodId} {args : Array Value} {below : List Frame} {meth : Method} {c : Code} {H : Heap} {locs : List Loc} {cells slots : Nat}
variable {y : MethodName} {bytes cc : ByteArray} {maxL nL mc ms n index : Nat} {ret : Option FieldType} {ws : List Cond} {rm : Room} {Pc : Array Value → State → Prop} {Qc : Array Value → State → Outcome → State → Prop} {XC : String → State → State → Prop} {free : Addr → Prop} {Ts : List Cond} {own C : String} {b : Addr} {As rest : List Value} {g : JFrame}
theorem vx_runI (S : CallFix p m c cc nL s args Ts own) (hM : vx_Met l y ws rm Pc Qc XC mc ms free) (cw : CallB R s args own index y bytes maxL none ws rm mc ms n ∧ y.name = "<init>" ∧ (Cond.instanceMethod y).before args s = true) (hp : PreS s H Pc (.ref b :: As))
    (hg : g.method = m) (hn : As.length = n) (hsize : g.locals.size = nL) (hstack : g.stack = As.reverse ++ .ref b :: rest) (hW : 2 * g.monitorRoom + (rest.map fun v => v.category).sum ≤ 8) (hdg : decode cc g.pc = .ok (.invokespecial index, 3)) (hf : cells + mc ≤ R.cells ∧ slots + ms ≤ R.slots) :
    vx_Run p l e R s m args below meth c H locs cells slots mc ms g rest (Qc (Value.ref b :: As).toArray) XC free := by
  have hK : vx_Back l R p e below s args y 3 8 (PreOf R mc ms Pc) (PostOf Qc mc ms free) (vx_Post XC mc ms free) := vx_callBack cw.1 hM hp.1
  obtain ⟨⟨-, -, -, -, -, -, hcode, -, hy, hlen, hl⟩, hy1, hin⟩ := cw
  obtain ⟨hx, hb, hml, ho, -⟩ := S
  have hPc := hp.2
  intro T hT X
  rcases vx_callI X hx (bytes := bytes) (maxL := maxL) ho hy1 hl hin hcode hy hK hg (hsize.trans hml.symm) (a := b) (argsL := As) (rest := rest) (fun sig h => hn.trans (hlen sig h)) hstack hW (by rw [hb]; exact hdg)
    (fun vm₁ hW₁ => ⟨hf.1, hf.2, hPc (T.setVm vm₁) hT hW₁⟩) with ⟨v, vm₁, ⟨U', l2, c2, s2⟩, hW₁, X', ⟨g', mk, t, L, e1, e2, hq, h1, hL, h2, h3⟩, st⟩ | ⟨q, vm₁, ⟨U', l2, c2, s2⟩, hW₁, X', ⟨g', mk, t, L, E, ce, e1, e2, hq, hce, hcv, hcl, h1, hL, h2, h3⟩, st⟩
  · dsimp only [Pt.U, Pt.locs, Pt.cells, Pt.slots] at X' e1 e2 h1 h2 h3 st
    subst h1; subst h2; subst h3
    exact Or.inl ⟨v, (T.setVm vm₁).calling g' mk (Value.ref b :: As).toArray, t, U', L, hT, X', hL, e1, e2, hq, st⟩
  · dsimp only [Pt.U, Pt.locs, Pt.cells, Pt.slots] at X' e1 e2 h1 h2 h3 st hcl
    subst h1; subst h2; subst h3
    exact Or.inr ⟨q, (T.setVm vm₁).calling g' mk (Value.ref b :: As).toArray, t, U', L, E, ce, hT, X', hL, e1, e2, hq, hce, hcv, vx_cls hW₁ hcl, st⟩
end VXIB
/-! ===== END ===== -/
/-! ===== BEGIN a private constructor of a nest mate that throws ===== -/
section VXIC
variable {p : Program} {l : Launch} {e : Env} {R : Room} {s : State} {m : MethodId} {args : Array Value} {below : List Frame} {meth : Method} {c : Code} {T : State} {locs : List Loc} {cells slots : Nat}
theorem vx_callIN (X : Stand p l e R s m args below meth c T locs cells slots) (hexec : p.tables.exec = Jvm.exec) {own : String} {index : Nat} {host : String} {y : MethodName} {bytes : ByteArray} {maxL : Nat}
    (hown : s.vm.findClass own = some m.cls) (hy1 : y.name = "<init>") (hlink : (Cond.methodLinkNest own index y host).before args s = true) (hinst : (Cond.instanceMethod y).before args s = true)
    (hcode : (Cond.code y bytes maxL none).before args s = true) (hy : y.cls ≠ "java/lang/invoke/MethodHandle" ∧ y.cls ≠ "java/lang/invoke/VarHandle")
    {W9 : Nat} {Pre : Pt → Array Value → Prop} {Post : Pt → Array Value → Option Value → Pt → Prop} {PostX : Pt → Array Value → Addr → Pt → Prop} (hK : vx_Back l R p e below s args y 3 W9 Pre Post PostX)
    {g : JFrame} (hg : g.method = m) (hsize : g.locals.size = c.maxLocals) {a : Addr} {argsL rest : List Value} (hlen : ∀ sig, parseMethodDescriptor y.desc = some sig → argsL.length = sig.parameters.length)
    (hstack : g.stack = argsL.reverse ++ .ref a :: rest) (hW : 2 * g.monitorRoom + (rest.map fun v => v.category).sum ≤ W9) (hdg : decode c.code g.pc = .ok (.invokespecial index, 3))
    (hpre : ∀ vm₁, s.WarmedH vm₁ → Pre ⟨T.setVm vm₁, locs, cells, slots⟩ (Value.ref a :: argsL).toArray) :
    (∃ (v : Option Value) (vm₁ : Vm) (B : Pt), s.WarmedH vm₁ ∧ Stand p l e R s m args below meth c B.U B.locs B.cells B.slots ∧ Post ⟨T.setVm vm₁, locs, cells, slots⟩ (Value.ref a :: argsL).toArray v B ∧
      ∀ target, Steps p.tables e below (B.U.setTop { g with pc := g.pc + 3, stack := v.toList ++ rest }) target → Steps p.tables e below (T.setTop g) target) ∨
    (∃ (q : Addr) (vm₁ : Vm) (B : Pt), s.WarmedH vm₁ ∧ Stand p l e R s m args below meth c B.U B.locs B.cells B.slots ∧ PostX ⟨T.setVm vm₁, locs, cells, slots⟩ (Value.ref a :: argsL).toArray q B ∧
      Steps p.tables e below (T.setTop g) ((B.U.setTop { g with stack := rest }).pushFrame (.throwing q))) := by
  subst hg
  have hpl : e.platform.magicAccessors = ({} : Platform).magicAccessors := by rw [X.admits.platform]
  obtain ⟨mk, methM, cM, kP, vm₁, hnamed, hmethM, hcodeM, -, hlocalsM, -, hkP, -, hW₁, hstep₁⟩ := Steps.initColdArgsNest (e := e) X.here hexec X.warmed hpl hown hy1 hy hlink hinst hcode (f := g) rfl hlen hstack hdg
  have X₁ := X.noted hW₁
  rcases hK g.method meth c ⟨T.setVm vm₁, locs, cells, slots⟩ { g with stack := rest } (.invokespecial index) mk (Value.ref a :: argsL).toArray X₁ rfl hsize hdg hW (X₁.named hnamed) (hpre vm₁ X₁.warmed) with ⟨v, B, X', hpost, hsteps⟩ | ⟨q, B, X', hpost, hsteps⟩
  · exact Or.inl ⟨v, vm₁, B, X₁.warmed, X', hpost, fun target h => hstep₁ _ fun acts => by rw [doInvoke_state]; exact hsteps.trans h⟩
  · exact Or.inr ⟨q, vm₁, B, X₁.warmed, X', hpost, hstep₁ _ fun acts => by rw [doInvoke_state]; exact hsteps⟩
end VXIC
section VXID
variable {p : Program} {l : Launch} {e : Env} {R : Room} {s : State} {m : MethodId} {args : Array Value} {below : List Frame} {meth : Method} {c : Code} {H : Heap} {locs : List Loc} {cells slots : Nat}
theorem vx_runIN {y : MethodName} {bytes cc : ByteArray} {maxL nL mc ms n index : Nat} {ws : List Cond} {rm : Room} {Pc : Array Value → State → Prop} {Qc : Array Value → State → Outcome → State → Prop} {XC : String → State → State → Prop} {free : Addr → Prop} {Ts : List Cond} {own host : String} {b : Addr} {As rest : List Value} {g : JFrame}
    (S : CallFix p m c cc nL s args Ts own) (hM : vx_Met l y ws rm Pc Qc XC mc ms free) (cw : va_CN R s args own index y host bytes maxL none ws rm mc ms n ∧ y.name = "<init>" ∧ (Cond.instanceMethod y).before args s = true) (hp : PreS s H Pc (.ref b :: As))
    (hg : g.method = m) (hn : As.length = n) (hsize : g.locals.size = nL) (hstack : g.stack = As.reverse ++ .ref b :: rest) (hW : 2 * g.monitorRoom + (rest.map fun v => v.category).sum ≤ 8) (hdg : decode cc g.pc = .ok (.invokespecial index, 3)) (hf : cells + mc ≤ R.cells ∧ slots + ms ≤ R.slots) :
    vx_Run p l e R s m args below meth c H locs cells slots mc ms g rest (Qc (Value.ref b :: As).toArray) XC free := by
  obtain ⟨⟨⟨hrc, hrs, hfr, hlo, hws, hcw⟩, hcode, hini, hy, hlen, hl⟩, hx1, hx2⟩ := cw
  have hK : vx_Back l R p e below s args y 3 8 (PreOf R mc ms Pc) (PostOf Qc mc ms free) (vx_Post XC mc ms free) := vx_back (bytes := bytes) (maxL := maxL) (ret := none) hM hp.1 hrc hrs hfr hlo hws hcw (fun a' U hW => word_at hW (Or.inl (by first | rfl | simp [Cond.onTables, Cond.keeps, Cond.steady])) hini)
  obtain ⟨hx, hb, hml, ho, -⟩ := S
  have hPc := hp.2
  intro T hT X
  rcases vx_callIN X hx (bytes := bytes) (maxL := maxL) ho hx1 hl hx2 hcode hy hK hg (hsize.trans hml.symm) (a := b) (argsL := As) (rest := rest) (fun sig h => hn.trans (hlen sig h)) hstack hW (by rw [hb]; exact hdg)
    (fun vm₁ hW₁ => ⟨hf.1, hf.2, hPc (T.setVm vm₁) hT hW₁⟩) with ⟨v, vm₁, ⟨U', l2, c2, s2⟩, hW₁, X', ⟨g', mk, t, L, e1, e2, hq, h1, hL, h2, h3⟩, st⟩ | ⟨q, vm₁, ⟨U', l2, c2, s2⟩, hW₁, X', ⟨g', mk, t, L, E, ce, e1, e2, hq, hce, hcv, hcl, h1, hL, h2, h3⟩, st⟩
  · dsimp only [Pt.U, Pt.locs, Pt.cells, Pt.slots] at X' e1 e2 h1 h2 h3 st
    subst h1; subst h2; subst h3
    exact Or.inl ⟨v, (T.setVm vm₁).calling g' mk (Value.ref b :: As).toArray, t, U', L, hT, X', hL, e1, e2, hq, st⟩
  · dsimp only [Pt.U, Pt.locs, Pt.cells, Pt.slots] at X' e1 e2 h1 h2 h3 st hcl
    subst h1; subst h2; subst h3
    exact Or.inr ⟨q, (T.setVm vm₁).calling g' mk (Value.ref b :: As).toArray, t, U', L, E, ce, hT, X', hL, e1, e2, hq, hce, hcv, vx_cls hW₁ hcl, st⟩
end VXID
/-! ===== END ===== -/
/-! ===== BEGIN a method of a class above, found by the receiver, that may throw (follows va_callVU, va_runU of this kit) ===== -/
section
variable {p : Program} {l : Launch} {e : Env} {R : Room} {s : State} {m : MethodId} {args : Array Value} {below : List Frame} {meth : Method} {c : Code} {H : Heap} {locs : List Loc} {cells slots : Nat}
theorem vx_callVU {T : State} {locs : List Loc} {cells slots : Nat} (X : Stand p l e R s m args below meth c T locs cells slots) (hexec : p.tables.exec = Jvm.exec) {own C owner : String} {index : Nat} {x y : MethodName} {bytes : ByteArray} {maxL : Nat} {ret : Option FieldType}
    (hown : s.vm.findClass own = some m.cls) (hlink : (Cond.methodLink own index x).before args s = true) (hsame : (Cond.sameMethod x.cls owner x.name x.desc).before args s = true)
    (hd0 : va_Decl s ⟨owner, x.name, x.desc⟩) (howner : owner ≠ "java/lang/invoke/MethodHandle" ∧ owner ≠ "java/lang/invoke/VarHandle")
    (hsel : (Cond.selects C x y).before args s = true) (hinst : (Cond.instanceMethod y).before args s = true) (hcode : (Cond.code y bytes maxL ret).before args s = true)
    {W : Nat} {Pre : Pt → Array Value → Prop} {Post : Pt → Array Value → Option Value → Pt → Prop} {PostX : Pt → Array Value → Addr → Pt → Prop} (hK : vx_Back l R p e below s args y 3 W Pre Post PostX)
    {b : Addr} {cellB : Cell} (hcell : T.heap[b]? = some cellB) (hobj : cellB.vm.isStatics = false) (hcls : s.vm.findClass C = some cellB.cls)
    {g : JFrame} (hg : g.method = m) (hsize : g.locals.size = c.maxLocals) {argsL rest : List Value} (hlen : ∀ sig, parseMethodDescriptor x.desc = some sig → argsL.length = sig.parameters.length)
    (hstack : g.stack = argsL.reverse ++ .ref b :: rest) (hW : 2 * g.monitorRoom + (rest.map fun v => v.category).sum ≤ W) (hdg : decode c.code g.pc = .ok (.invokevirtual index, 3))
    (hpre : ∀ vm₁, s.WarmedH vm₁ → Pre ⟨T.setVm vm₁, locs, cells, slots⟩ (Value.ref b :: argsL).toArray) :
    (∃ (v : Option Value) (vm₁ : Vm) (B : Pt), s.WarmedH vm₁ ∧ Stand p l e R s m args below meth c B.U B.locs B.cells B.slots ∧ Post ⟨T.setVm vm₁, locs, cells, slots⟩ (Value.ref b :: argsL).toArray v B ∧
      ∀ target, Steps p.tables e below (B.U.setTop { g with pc := g.pc + 3, stack := v.toList ++ rest }) target → Steps p.tables e below (T.setTop g) target) ∨
    (∃ (q : Addr) (vm₁ : Vm) (B : Pt), s.WarmedH vm₁ ∧ Stand p l e R s m args below meth c B.U B.locs B.cells B.slots ∧ PostX ⟨T.setVm vm₁, locs, cells, slots⟩ (Value.ref b :: argsL).toArray q B ∧
      Steps p.tables e below (T.setTop g) ((B.U.setTop { g with stack := rest }).pushFrame (.throwing q))) := by
  obtain ⟨r0, r, hn, hrm, hstR, hsigR⟩ := hd0
  obtain ⟨cn, ck, r1, hcn, hck, hni, hf, hn1⟩ := Cond.sameMethod_found hsame
  cases hn.symm.trans hn1
  obtain ⟨mk, methM, hnamed, hmethM, -, habM⟩ := Cond.instanceMethod_spec hinst
  obtain ⟨c2, r2, m2, q1, q2, q3, q4, kP, hkP, hkPi⟩ := Cond.selects_spec hsel
  cases hcls.symm.trans q1
  cases hf.symm.trans q2
  cases hnamed.symm.trans q3
  have hselP : selectMethod e.platform s.vm cellB.cls r0 = .method mk := by rw [Launch.admits_selectMethod X.admits]; exact q4
  obtain ⟨vm₁, X₁, hstep₁⟩ := X.invokevirtualUp hexec hown hlink hsame howner hn hrm hstR (a := b) (cell := cellB) hcell
    (fun z h => by rw [h] at hobj; cases hobj) hselP hmethM habM hkP hkPi (g := g) hg (argsL := argsL) (rest := rest) (hlen _ hsigR) hstack hdg
  rcases hK m meth c ⟨T.setVm vm₁, locs, cells, slots⟩ { g with stack := rest } (.invokevirtual index) mk (Value.ref b :: argsL).toArray X₁ hg hsize hdg hW (X₁.named hnamed) (hpre vm₁ X₁.warmed) with ⟨v, B, X', hpost, hsteps⟩ | ⟨q, B, X', hpost, hsteps⟩
  · exact Or.inl ⟨v, vm₁, B, X₁.warmed, X', hpost, fun target h => hstep₁ _ fun acts => by rw [doInvoke_state]; exact hsteps.trans h⟩
  · exact Or.inr ⟨q, vm₁, B, X₁.warmed, X', hpost, hstep₁ _ fun acts => by rw [doInvoke_state]; exact hsteps⟩
theorem vx_runU {x y : MethodName} {bytes cc : ByteArray} {maxL nL mc ms n index : Nat} {ret : Option FieldType} {ws : List Cond} {rm : Room} {Pc : Array Value → State → Prop} {Qc : Array Value → State → Outcome → State → Prop} {XC : String → State → State → Prop} {free : Addr → Prop} {Ts : List Cond} {own C owner : String} {b : Addr} {As rest : List Value} {g : JFrame}
    (S : CallFix p m c cc nL s args Ts own) (hM : vx_Met l y ws rm Pc Qc XC mc ms free) (cw : va_CU R s args own C owner index x y bytes maxL ret ws rm mc ms n) (hp : PreV s H C b Pc As)
    (hg : g.method = m) (hn : As.length = n) (hsize : g.locals.size = nL) (hstack : g.stack = As.reverse ++ .ref b :: rest) (hW : 2 * g.monitorRoom + (rest.map fun v => v.category).sum ≤ 8) (hdg : decode cc g.pc = .ok (.invokevirtual index, 3)) (hf : cells + mc ≤ R.cells ∧ slots + ms ≤ R.slots) :
    vx_Run p l e R s m args below meth c H locs cells slots mc ms g rest (Qc (Value.ref b :: As).toArray) XC free := by
  obtain ⟨hrc, hrs, hfr, hlo, hws, hcw⟩ := cw.back
  have hini := cw.init
  have hK : vx_Back l R p e below s args y 3 8 (PreOf R mc ms Pc) (PostOf Qc mc ms free) (vx_Post XC mc ms free) := vx_back (bytes := bytes) (maxL := maxL) (ret := ret) hM hp.1 hrc hrs hfr hlo hws hcw (fun a' U hW => word_at hW (Or.inl (by first | rfl | simp [Cond.onTables, Cond.keeps, Cond.steady])) hini)
  obtain ⟨hx, hb, hml, ho, -⟩ := S
  obtain ⟨-, ⟨cellB, hcB, hoB, hclB⟩, hPc⟩ := hp
  intro T hT X
  rcases vx_callVU X hx (C := C) (owner := owner) (bytes := bytes) (maxL := maxL) (ret := ret) ho cw.link cw.same cw.decl cw.notMH cw.sel cw.inst cw.code hK (by rw [hT]; exact hcB) hoB hclB hg (hsize.trans hml.symm) (argsL := As) (rest := rest) (fun sig h => hn.trans (cw.len sig h)) hstack hW (by rw [hb]; exact hdg)
    (fun vm₁ hW₁ => ⟨hf.1, hf.2, hPc (T.setVm vm₁) hT hW₁⟩) with ⟨v, vm₁, ⟨U', l2, c2, s2⟩, hW₁, X', ⟨g', mk, t, L, e1, e2, hq, h1, hL, h2, h3⟩, st⟩ | ⟨q, vm₁, ⟨U', l2, c2, s2⟩, hW₁, X', ⟨g', mk, t, L, E, ce, e1, e2, hq, hce, hcv, hcl, h1, hL, h2, h3⟩, st⟩
  · dsimp only [Pt.U, Pt.locs, Pt.cells, Pt.slots] at X' e1 e2 h1 h2 h3 st
    subst h1; subst h2; subst h3
    exact Or.inl ⟨v, (T.setVm vm₁).calling g' mk (Value.ref b :: As).toArray, t, U', L, hT, X', hL, e1, e2, hq, st⟩
  · dsimp only [Pt.U, Pt.locs, Pt.cells, Pt.slots] at X' e1 e2 h1 h2 h3 st hcl
    subst h1; subst h2; subst h3
    exact Or.inr ⟨q, (T.setVm vm₁).calling g' mk (Value.ref b :: As).toArray, t, U', L, E, ce, hT, X', hL, e1, e2, hq, hce, hcv, vx_cls hW₁ hcl, st⟩
end
/-! ===== END ===== -/
/-! ===== BEGIN super.m(..) that may throw (follows va_callSU, va_runSU) ===== -/
section
variable {p : Program} {l : Launch} {e : Env} {R : Room} {s : State} {m : MethodId} {args : Array Value} {below : List Frame} {meth : Method} {c : Code} {H : Heap} {locs : List Loc} {cells slots : Nat}
theorem vx_callSU {T : State} {locs : List Loc} {cells slots : Nat} (X : Stand p l e R s m args below meth c T locs cells slots) (hexec : p.tables.exec = Jvm.exec) {own : String} {index : Nat} {y : MethodName} {bytes : ByteArray} {maxL : Nat} {ret : Option FieldType}
    (hown : s.vm.findClass own = some m.cls) (hlink : (Cond.methodLink own index y).before args s = true) (hsame : (Cond.sameMethod y.cls y.cls y.name y.desc).before args s = true) (hsup : (Cond.superclass own y.cls).before args s = true)
    (hinst : (Cond.instanceMethod y).before args s = true) (hcode : (Cond.code y bytes maxL ret).before args s = true) (hno : y.name ≠ "<init>")
    {W : Nat} {Pre : Pt → Array Value → Prop} {Post : Pt → Array Value → Option Value → Pt → Prop} {PostX : Pt → Array Value → Addr → Pt → Prop} (hK : vx_Back l R p e below s args y 3 W Pre Post PostX)
    {b : Addr} {cellB : Cell} {kB : Class} (hcell : T.heap[b]? = some cellB) (hobj : cellB.vm.isStatics = false) (hkB : s.vm.classes[cellB.cls]? = some kB)
    {g : JFrame} (hg : g.method = m) (hsize : g.locals.size = c.maxLocals) {argsL rest : List Value} (hlen : ∀ sig, parseMethodDescriptor y.desc = some sig → argsL.length = sig.parameters.length)
    (hstack : g.stack = argsL.reverse ++ .ref b :: rest) (hW : 2 * g.monitorRoom + (rest.map fun v => v.category).sum ≤ W) (hdg : decode c.code g.pc = .ok (.invokespecial index, 3))
    (hpre : ∀ vm₁, s.WarmedH vm₁ → Pre ⟨T.setVm vm₁, locs, cells, slots⟩ (Value.ref b :: argsL).toArray) :
    (∃ (v : Option Value) (vm₁ : Vm) (B : Pt), s.WarmedH vm₁ ∧ Stand p l e R s m args below meth c B.U B.locs B.cells B.slots ∧ Post ⟨T.setVm vm₁, locs, cells, slots⟩ (Value.ref b :: argsL).toArray v B ∧
      ∀ target, Steps p.tables e below (B.U.setTop { g with pc := g.pc + 3, stack := v.toList ++ rest }) target → Steps p.tables e below (T.setTop g) target) ∨
    (∃ (q : Addr) (vm₁ : Vm) (B : Pt), s.WarmedH vm₁ ∧ Stand p l e R s m args below meth c B.U B.locs B.cells B.slots ∧ PostX ⟨T.setVm vm₁, locs, cells, slots⟩ (Value.ref b :: argsL).toArray q B ∧
      Steps p.tables e below (T.setTop g) ((B.U.setTop { g with stack := rest }).pushFrame (.throwing q))) := by
  obtain ⟨mk, methM, hnamed, hmethM, hstM, habM⟩ := Cond.instanceMethod_spec hinst
  obtain ⟨methM', cM, hmethM', -, -, -, -, -, -, hsigM⟩ := Cond.code_spec hnamed hcode
  cases hmethM.symm.trans hmethM'
  obtain ⟨ps, dk, kp, hps, hdk, hkp, hsuper, -, -, hnid⟩ := Cond.superclass_spec hown hsup
  have hn : s.methodNamed? ⟨y.cls, y.name, y.desc⟩ = some mk := hnamed
  have hpm : ps = mk.cls := Option.some.inj (hps.symm.trans (findClass_of_methodNamed hnamed))
  have hsub : s.vm.isSubclass ps mk.cls = true := by rw [hpm]; simp [Vm.isSubclass, Vm.isSubclassAux]
  obtain ⟨vm₁, X₁, hstep₁⟩ := X.invokespecialUp hexec hown hlink hsame hn hmethM hstM habM hno hdk hnid hps hsuper hsub (a := b) (cell := cellB) hcell
    (fun z h => by rw [h] at hobj; cases hobj) hkB (g := g) hg (argsL := argsL) (rest := rest) (hlen _ hsigM) hstack hdg
  rcases hK m meth c ⟨T.setVm vm₁, locs, cells, slots⟩ { g with stack := rest } (.invokespecial index) mk (Value.ref b :: argsL).toArray X₁ hg hsize hdg hW (X₁.named hnamed) (hpre vm₁ X₁.warmed) with ⟨v, B, X', hpost, hsteps⟩ | ⟨q, B, X', hpost, hsteps⟩
  · exact Or.inl ⟨v, vm₁, B, X₁.warmed, X', hpost, fun target h => hstep₁ _ (by rw [doInvoke_state]; exact hsteps.trans h)⟩
  · exact Or.inr ⟨q, vm₁, B, X₁.warmed, X', hpost, hstep₁ _ (by rw [doInvoke_state]; exact hsteps)⟩
theorem vx_runSU {y : MethodName} {bytes cc : ByteArray} {maxL nL mc ms n index : Nat} {ret : Option FieldType} {ws : List Cond} {rm : Room} {Pc : Array Value → State → Prop} {Qc : Array Value → State → Outcome → State → Prop} {XC : String → State → State → Prop} {free : Addr → Prop} {Ts : List Cond} {own C : String} {cC : ClassId} {b : Addr} {As rest : List Value} {g : JFrame}
    (hat : ClassAt s C cC) (S : CallFix p m c cc nL s args Ts own) (hM : vx_Met l y ws rm Pc Qc XC mc ms free) (cw : va_CS R s args own index y bytes maxL ret ws rm mc ms n) (hp : PreV s H C b Pc As)
    (hg : g.method = m) (hn : As.length = n) (hsize : g.locals.size = nL) (hstack : g.stack = As.reverse ++ .ref b :: rest) (hW : 2 * g.monitorRoom + (rest.map fun v => v.category).sum ≤ 8) (hdg : decode cc g.pc = .ok (.invokespecial index, 3)) (hf : cells + mc ≤ R.cells ∧ slots + ms ≤ R.slots) :
    vx_Run p l e R s m args below meth c H locs cells slots mc ms g rest (Qc (Value.ref b :: As).toArray) XC free := by
  obtain ⟨⟨hrc, hrs, hfr, hlo, hws, hcw⟩, hl1, hl2, hl3, hl4, hini, hcode, hno, hlen⟩ := cw
  have hK : vx_Back l R p e below s args y 3 8 (PreOf R mc ms Pc) (PostOf Qc mc ms free) (vx_Post XC mc ms free) := vx_back (bytes := bytes) (maxL := maxL) (ret := ret) hM hp.1 hrc hrs hfr hlo hws hcw (fun a' U hW => word_at hW (Or.inl (by first | rfl | simp [Cond.onTables, Cond.keeps, Cond.steady])) hini)
  obtain ⟨hx, hb, hml, ho, -⟩ := S
  obtain ⟨-, ⟨cellB, hcB, hoB, hclB⟩, hPc⟩ := hp
  obtain ⟨hfc, kB, hkB, -⟩ := hat
  cases hfc.symm.trans hclB
  intro T hT X
  rcases vx_callSU X hx (bytes := bytes) (maxL := maxL) (ret := ret) ho hl1 hl2 hl3 hl4 hcode hno hK (by rw [hT]; exact hcB) hoB hkB hg (hsize.trans hml.symm) (argsL := As) (rest := rest) (fun sig h => hn.trans (hlen sig h)) hstack hW (by rw [hb]; exact hdg)
    (fun vm₁ hW₁ => ⟨hf.1, hf.2, hPc (T.setVm vm₁) hT hW₁⟩) with ⟨v, vm₁, ⟨U', l2, c2, s2⟩, hW₁, X', ⟨g', mk, t, L, e1, e2, hq, h1, hL, h2, h3⟩, st⟩ | ⟨q, vm₁, ⟨U', l2, c2, s2⟩, hW₁, X', ⟨g', mk, t, L, E, ce, e1, e2, hq, hce, hcv, hcl, h1, hL, h2, h3⟩, st⟩
  · dsimp only [Pt.U, Pt.locs, Pt.cells, Pt.slots] at X' e1 e2 h1 h2 h3 st
    subst h1; subst h2; subst h3
    exact Or.inl ⟨v, (T.setVm vm₁).calling g' mk (Value.ref b :: As).toArray, t, U', L, hT, X', hL, e1, e2, hq, st⟩
  · dsimp only [Pt.U, Pt.locs, Pt.cells, Pt.slots] at X' e1 e2 h1 h2 h3 st hcl
    subst h1; subst h2; subst h3
    exact Or.inr ⟨q, (T.setVm vm₁).calling g' mk (Value.ref b :: As).toArray, t, U', L, E, ce, hT, X', hL, e1, e2, hq, hce, hcv, vx_cls hW₁ hcl, st⟩
end
/-! ===== END ===== -/
/-! ===== BEGIN a private method of a nest mate that may throw (follows va_callVN, va_callSN, va_runVN, va_runSN) ===== -/
section
variable {p : Program} {l : Launch} {e : Env} {R : Room} {s : State} {m : MethodId} {args : Array Value} {below : List Frame} {meth : Method} {c : Code} {H : Heap} {locs : List Loc} {cells slots : Nat}
variable {T : State}
theorem vx_callVN (X : Stand p l e R s m args below meth c T locs cells slots) (hexec : p.tables.exec = Jvm.exec) {own C : String} {index : Nat} {host : String} {y : MethodName} {bytes : ByteArray} {maxL : Nat} {ret : Option FieldType}
    (hown : s.vm.findClass own = some m.cls) (hlink : (Cond.methodLinkNest own index y host).before args s = true) (hinst : (Cond.instanceMethod y).before args s = true) (hsel : (Cond.selects C y y).before args s = true)
    (hcode : (Cond.code y bytes maxL ret).before args s = true) (hy : y.cls ≠ "java/lang/invoke/MethodHandle" ∧ y.cls ≠ "java/lang/invoke/VarHandle")
    {W : Nat} {Pre : Pt → Array Value → Prop} {Post : Pt → Array Value → Option Value → Pt → Prop} {PostX : Pt → Array Value → Addr → Pt → Prop} (hK : vx_Back l R p e below s args y 3 W Pre Post PostX)
    {b : Addr} {cellB : Cell} (hcell : T.heap[b]? = some cellB) (hobj : cellB.vm.isStatics = false) (hcls : s.vm.findClass C = some cellB.cls)
    {g : JFrame} (hg : g.method = m) (hsize : g.locals.size = c.maxLocals) {argsL rest : List Value} (hlen : ∀ sig, parseMethodDescriptor y.desc = some sig → argsL.length = sig.parameters.length)
    (hstack : g.stack = argsL.reverse ++ .ref b :: rest) (hW : 2 * g.monitorRoom + (rest.map fun v => v.category).sum ≤ W) (hdg : decode c.code g.pc = .ok (.invokevirtual index, 3))
    (hpre : ∀ vm₁, s.WarmedH vm₁ → Pre ⟨T.setVm vm₁, locs, cells, slots⟩ (Value.ref b :: argsL).toArray) :
    (∃ (v : Option Value) (vm₁ : Vm) (B : Pt), s.WarmedH vm₁ ∧ Stand p l e R s m args below meth c B.U B.locs B.cells B.slots ∧ Post ⟨T.setVm vm₁, locs, cells, slots⟩ (Value.ref b :: argsL).toArray v B ∧
      ∀ target, Steps p.tables e below (B.U.setTop { g with pc := g.pc + 3, stack := v.toList ++ rest }) target → Steps p.tables e below (T.setTop g) target) ∨
    (∃ (q : Addr) (vm₁ : Vm) (B : Pt), s.WarmedH vm₁ ∧ Stand p l e R s m args below meth c B.U B.locs B.cells B.slots ∧ PostX ⟨T.setVm vm₁, locs, cells, slots⟩ (Value.ref b :: argsL).toArray q B ∧
      Steps p.tables e below (T.setTop g) ((B.U.setTop { g with stack := rest }).pushFrame (.throwing q))) := by
  obtain ⟨mk, methM, hnamed, hmethM, hstM, habM⟩ := Cond.instanceMethod_spec hinst
  obtain ⟨methM', cM, hmethM', -, -, -, -, -, -, hsigM⟩ := Cond.code_spec hnamed hcode
  cases hmethM.symm.trans hmethM'
  obtain ⟨c2, r2, m2, q1, q2, q3, q4, kP, hkP, hkPi⟩ := Cond.selects_spec hsel
  cases hcls.symm.trans q1
  cases (State.methodFound?_of_named hnamed hy).symm.trans q2
  cases hnamed.symm.trans q3
  have hselP : selectMethod e.platform s.vm cellB.cls mk = .method mk := by rw [Launch.admits_selectMethod X.admits]; exact q4
  obtain ⟨vm₁, X₁, hstep₁⟩ := X.invokevirtualNest hexec hown hlink hnamed hmethM hstM hkP hkPi hy (a := b) (cell := cellB) hcell
    (fun z h => by rw [h] at hobj; cases hobj) hselP hmethM habM hkP hkPi (g := g) hg (argsL := argsL) (rest := rest) (hlen _ hsigM) hstack hdg
  rcases hK m meth c ⟨T.setVm vm₁, locs, cells, slots⟩ { g with stack := rest } (.invokevirtual index) mk (Value.ref b :: argsL).toArray X₁ hg hsize hdg hW (X₁.named hnamed) (hpre vm₁ X₁.warmed) with ⟨v, B, X', hpost, hsteps⟩ | ⟨q, B, X', hpost, hsteps⟩
  · exact Or.inl ⟨v, vm₁, B, X₁.warmed, X', hpost, fun target h => hstep₁ _ fun acts => by rw [doInvoke_state]; exact hsteps.trans h⟩
  · exact Or.inr ⟨q, vm₁, B, X₁.warmed, X', hpost, hstep₁ _ fun acts => by rw [doInvoke_state]; exact hsteps⟩
theorem vx_callSN (X : Stand p l e R s m args below meth c T locs cells slots) (hexec : p.tables.exec = Jvm.exec) {own : String} {index : Nat} {host : String} {y : MethodName} {bytes : ByteArray} {maxL : Nat} {ret : Option FieldType}
    (hown : s.vm.findClass own = some m.cls) (hlink : (Cond.methodLinkNest own index y host).before args s = true) (hstat : (Cond.static y).before args s = true) (hinit : (Cond.initialized y.cls).before args s = true)
    (hcode : (Cond.code y bytes maxL ret).before args s = true) (hy : y.cls ≠ "java/lang/invoke/MethodHandle" ∧ y.cls ≠ "java/lang/invoke/VarHandle")
    {W : Nat} {Pre : Pt → Array Value → Prop} {Post : Pt → Array Value → Option Value → Pt → Prop} {PostX : Pt → Array Value → Addr → Pt → Prop} (hK : vx_Back l R p e below s args y 3 W Pre Post PostX)
    {g : JFrame} (hg : g.method = m) (hsize : g.locals.size = c.maxLocals) {argsL rest : List Value} (hlen : ∀ sig, parseMethodDescriptor y.desc = some sig → argsL.length = sig.parameters.length)
    (hstack : g.stack = argsL.reverse ++ rest) (hW : 2 * g.monitorRoom + (rest.map fun v => v.category).sum ≤ W) (hdg : decode c.code g.pc = .ok (.invokestatic index, 3))
    (hpre : ∀ vm₁, s.WarmedH vm₁ → Pre ⟨T.setVm vm₁, locs, cells, slots⟩ argsL.toArray) :
    (∃ (v : Option Value) (vm₁ : Vm) (B : Pt), s.WarmedH vm₁ ∧ Stand p l e R s m args below meth c B.U B.locs B.cells B.slots ∧ Post ⟨T.setVm vm₁, locs, cells, slots⟩ argsL.toArray v B ∧
      ∀ target, Steps p.tables e below (B.U.setTop { g with pc := g.pc + 3, stack := v.toList ++ rest }) target → Steps p.tables e below (T.setTop g) target) ∨
    (∃ (q : Addr) (vm₁ : Vm) (B : Pt), s.WarmedH vm₁ ∧ Stand p l e R s m args below meth c B.U B.locs B.cells B.slots ∧ PostX ⟨T.setVm vm₁, locs, cells, slots⟩ argsL.toArray q B ∧
      Steps p.tables e below (T.setTop g) ((B.U.setTop { g with stack := rest }).pushFrame (.throwing q))) := by
  obtain ⟨mk, hnamed⟩ := Cond.code_named hcode
  obtain ⟨methM, cM, hmethM, -, -, -, -, -, -, hsigM⟩ := Cond.code_spec hnamed hcode
  have hstatic : methM.isStatic = true := Cond.static_spec hnamed hmethM hstat
  obtain ⟨kP, hkP, -⟩ := className_of_methodNamed hnamed
  have hinitP : kP.init = .initialized := Cond.initialized_spec (findClass_of_methodNamed hnamed) hkP hinit
  obtain ⟨vm₁, X₁, hstep₁⟩ := X.invokestaticNest hexec hown hlink hnamed hmethM hstatic hkP hinitP hy (g := g) hg (argsL := argsL) (rest := rest) (hlen _ hsigM) hstack hdg
  rcases hK m meth c ⟨T.setVm vm₁, locs, cells, slots⟩ { g with stack := rest } (.invokestatic index) mk argsL.toArray X₁ hg hsize hdg hW (X₁.named hnamed) (hpre vm₁ X₁.warmed) with ⟨v, B, X', hpost, hsteps⟩ | ⟨q, B, X', hpost, hsteps⟩
  · exact Or.inl ⟨v, vm₁, B, X₁.warmed, X', hpost, fun target h => hstep₁ _ fun acts => by rw [doInvoke_state]; exact hsteps.trans h⟩
  · exact Or.inr ⟨q, vm₁, B, X₁.warmed, X', hpost, hstep₁ _ fun acts => by rw [doInvoke_state]; exact hsteps⟩
theorem vx_runVN {y : MethodName} {bytes cc : ByteArray} {maxL nL mc ms n index : Nat} {ret : Option FieldType} {ws : List Cond} {rm : Room} {Pc : Array Value → State → Prop} {Qc : Array Value → State → Outcome → State → Prop} {XC : String → State → State → Prop} {free : Addr → Prop} {Ts : List Cond} {own C host : String} {b : Addr} {As rest : List Value} {g : JFrame}
    (S : CallFix p m c cc nL s args Ts own) (hM : vx_Met l y ws rm Pc Qc XC mc ms free) (cw : va_CN R s args own index y host bytes maxL ret ws rm mc ms n ∧ (Cond.instanceMethod y).before args s = true ∧ (Cond.selects C y y).before args s = true) (hp : PreV s H C b Pc As)
    (hg : g.method = m) (hn : As.length = n) (hsize : g.locals.size = nL) (hstack : g.stack = As.reverse ++ .ref b :: rest) (hW : 2 * g.monitorRoom + (rest.map fun v => v.category).sum ≤ 8) (hdg : decode cc g.pc = .ok (.invokevirtual index, 3)) (hf : cells + mc ≤ R.cells ∧ slots + ms ≤ R.slots) :
    vx_Run p l e R s m args below meth c H locs cells slots mc ms g rest (Qc (Value.ref b :: As).toArray) XC free := by
  obtain ⟨⟨⟨hrc, hrs, hfr, hlo, hws, hcw⟩, hcode, hini, hy, hlen, hl⟩, hx1, hx2⟩ := cw
  have hK : vx_Back l R p e below s args y 3 8 (PreOf R mc ms Pc) (PostOf Qc mc ms free) (vx_Post XC mc ms free) := vx_back (bytes := bytes) (maxL := maxL) (ret := ret) hM hp.1 hrc hrs hfr hlo hws hcw (fun a' U hW => word_at hW (Or.inl (by first | rfl | simp [Cond.onTables, Cond.keeps, Cond.steady])) hini)
  obtain ⟨hx, hb, hml, ho, -⟩ := S
  obtain ⟨-, ⟨cellB, hcB, hoB, hclB⟩, hPc⟩ := hp
  intro T hT X
  rcases vx_callVN X hx (C := C) (bytes := bytes) (maxL := maxL) (ret := ret) ho hl hx1 hx2 hcode hy hK (by rw [hT]; exact hcB) hoB hclB hg (hsize.trans hml.symm) (argsL := As) (rest := rest) (fun sig h => hn.trans (hlen sig h)) hstack hW (by rw [hb]; exact hdg)
    (fun vm₁ hW₁ => ⟨hf.1, hf.2, hPc (T.setVm vm₁) hT hW₁⟩) with ⟨v, vm₁, ⟨U', l2, c2, s2⟩, hW₁, X', ⟨g', mk, t, L, e1, e2, hq, h1, hL, h2, h3⟩, st⟩ | ⟨q, vm₁, ⟨U', l2, c2, s2⟩, hW₁, X', ⟨g', mk, t, L, E, ce, e1, e2, hq, hce, hcv, hcl, h1, hL, h2, h3⟩, st⟩
  · dsimp only [Pt.U, Pt.locs, Pt.cells, Pt.slots] at X' e1 e2 h1 h2 h3 st
    subst h1; subst h2; subst h3
    exact Or.inl ⟨v, (T.setVm vm₁).calling g' mk (Value.ref b :: As).toArray, t, U', L, hT, X', hL, e1, e2, hq, st⟩
  · dsimp only [Pt.U, Pt.locs, Pt.cells, Pt.slots] at X' e1 e2 h1 h2 h3 st hcl
    subst h1; subst h2; subst h3
    exact Or.inr ⟨q, (T.setVm vm₁).calling g' mk (Value.ref b :: As).toArray, t, U', L, E, ce, hT, X', hL, e1, e2, hq, hce, hcv, vx_cls hW₁ hcl, st⟩
theorem vx_runSN {y : MethodName} {bytes cc : ByteArray} {maxL nL mc ms n index : Nat} {ret : Option FieldType} {ws : List Cond} {rm : Room} {Pc : Array Value → State → Prop} {Qc : Array Value → State → Outcome → State → Prop} {XC : String → State → State → Prop} {free : Addr → Prop} {Ts : List Cond} {own host : String} {As rest : List Value} {g : JFrame}
    (S : CallFix p m c cc nL s args Ts own) (hM : vx_Met l y ws rm Pc Qc XC mc ms free) (cw : va_CN R s args own index y host bytes maxL ret ws rm mc ms n ∧ (Cond.static y).before args s = true ∧ True) (hp : PreS s H Pc As)
    (hg : g.method = m) (hn : As.length = n) (hsize : g.locals.size = nL) (hstack : g.stack = As.reverse ++ rest) (hW : 2 * g.monitorRoom + (rest.map fun v => v.category).sum ≤ 8) (hdg : decode cc g.pc = .ok (.invokestatic index, 3)) (hf : cells + mc ≤ R.cells ∧ slots + ms ≤ R.slots) :
    vx_Run p l e R s m args below meth c H locs cells slots mc ms g rest (Qc As.toArray) XC free := by
  obtain ⟨⟨⟨hrc, hrs, hfr, hlo, hws, hcw⟩, hcode, hini, hy, hlen, hl⟩, hx1, hx2⟩ := cw
  have hK : vx_Back l R p e below s args y 3 8 (PreOf R mc ms Pc) (PostOf Qc mc ms free) (vx_Post XC mc ms free) := vx_back (bytes := bytes) (maxL := maxL) (ret := ret) hM hp.1 hrc hrs hfr hlo hws hcw (fun a' U hW => word_at hW (Or.inl (by first | rfl | simp [Cond.onTables, Cond.keeps, Cond.steady])) hini)
  obtain ⟨hx, hb, hml, ho, -⟩ := S
  have hPc := hp.2
  intro T hT X
  rcases vx_callSN X hx (bytes := bytes) (maxL := maxL) (ret := ret) ho hl hx1 hini hcode hy hK hg (hsize.trans hml.symm) (argsL := As) (rest := rest) (fun sig h => hn.trans (hlen sig h)) hstack hW (by rw [hb]; exact hdg)
    (fun vm₁ hW₁ => ⟨hf.1, hf.2, hPc (T.setVm vm₁) hT hW₁⟩) with ⟨v, vm₁, ⟨U', l2, c2, s2⟩, hW₁, X', ⟨g', mk, t, L, e1, e2, hq, h1, hL, h2, h3⟩, st⟩ | ⟨q, vm₁, ⟨U', l2, c2, s2⟩, hW₁, X', ⟨g', mk, t, L, E, ce, e1, e2, hq, hce, hcv, hcl, h1, hL, h2, h3⟩, st⟩
  · dsimp only [Pt.U, Pt.locs, Pt.cells, Pt.slots] at X' e1 e2 h1 h2 h3 st
    subst h1; subst h2; subst h3
    exact Or.inl ⟨v, (T.setVm vm₁).calling g' mk As.toArray, t, U', L, hT, X', hL, e1, e2, hq, st⟩
  · dsimp only [Pt.U, Pt.locs, Pt.cells, Pt.slots] at X' e1 e2 h1 h2 h3 st hcl
    subst h1; subst h2; subst h3
    exact Or.inr ⟨q, (T.setVm vm₁).calling g' mk As.toArray, t, U', L, E, ce, hT, X', hL, e1, e2, hq, hce, hcv, vx_cls hW₁ hcl, st⟩
end
/-! ===== END ===== -/
/-! ===== BEGIN calls by an interface of methods that may throw (vx_callIF, vx_runF follow va_callIF, va_runF of this kit) ===== -/
section
variable {p : Program} {l : Launch} {e : Env} {R : Room} {s : State} {m : MethodId} {args : Array Value} {below : List Frame} {meth : Method} {c : Code} {H : Heap} {locs : List Loc} {cells slots : Nat} {Q : State → Prop}
variable {mc ms : Nat} {free : Addr → Prop} {A0 A1 : Nat → Prop} {H0 : Heap} {a : Array Value} {pc : Nat} {ls : Array Slot} {st0 rest : List Value}
def vx_Run5 (p : Program) (l : Launch) (e : Env) (R : Room) (s : State) (m : MethodId) (args : Array Value) (below : List Frame) (meth : Method) (c : Code) (H : Heap) (locs : List Loc) (cells slots mc ms : Nat) (g : JFrame) (rest : List Value) (Qa : State → Outcome → State → Prop) (XC : String → State → State → Prop) (free : Addr → Prop) : Prop :=
  ∀ T : State, T.heap = H → Stand p l e R s m args below meth c T locs cells slots →
    (∃ (v : Option Value) (st₀ t T' : State) (L : List Loc), st₀.heap = H ∧ Stand p l e R s m args below meth c T' (locs ++ L) (cells + mc) (slots + ms) ∧ (∀ q ∈ L, free q.base) ∧ T'.heap = t.heap ∧ T'.vm = t.vm ∧ Qa st₀ (.returned v) t ∧
      Goes p e below T g T' { g with pc := g.pc + 5, stack := v.toList ++ rest }) ∨
    (∃ (q : Addr) (st₀ t T' : State) (L : List Loc) (E : String) (ce : Cell), st₀.heap = H ∧ Stand p l e R s m args below meth c T' (locs ++ L) (cells + mc) (slots + ms) ∧ (∀ z ∈ L, free z.base) ∧ T'.heap = t.heap ∧ T'.vm = t.vm ∧ XC E st₀ t ∧ t.heap[q]? = some ce ∧ ce.vm = .none ∧ s.vm.findClass E = some ce.cls ∧
      Steps p.tables e below (T.setTop g) ((T'.setTop { g with stack := rest }).pushFrame (.throwing q)))
theorem vx_callIF {T : State} (X : Stand p l e R s m args below meth c T locs cells slots) (hexec : p.tables.exec = Jvm.exec) {own C : String} {index count : Nat} {x y : MethodName} {bytes : ByteArray} {maxL : Nat} {ret : Option FieldType}
    (hown : s.vm.findClass own = some m.cls) (hlink : (Cond.methodLink own index x).before args s = true) (hdecl : (Cond.declares x).before args s = true) (hface : (Cond.interfaceMethod x.cls x.cls x.name x.desc).before args s = true)
    (hsel : (Cond.selects C x y).before args s = true) (hinst : (Cond.instanceMethod y).before args s = true) (hpub : (Cond.publicMethod y).before args s = true) (hunh : (Cond.unhidden C x.name x.desc).before args s = true)
    (hcast : (Cond.castable C x.cls).before args s = true) (hcode : (Cond.code y bytes maxL ret).before args s = true) (hx : x.cls ≠ "java/lang/invoke/MethodHandle" ∧ x.cls ≠ "java/lang/invoke/VarHandle")
    {W9 : Nat} {Pre : Pt → Array Value → Prop} {Post : Pt → Array Value → Option Value → Pt → Prop} {PostX : Pt → Array Value → Addr → Pt → Prop} (hK : vx_Back l R p e below s args y 5 W9 Pre Post PostX)
    {b : Addr} {cellB : Cell} {kB : Class} (hcell : T.heap[b]? = some cellB) (hobj : cellB.vm.isStatics = false) (hcls : s.vm.findClass C = some cellB.cls) (hkB : s.vm.classes[cellB.cls]? = some kB)
    {g : JFrame} (hg : g.method = m) (hsize : g.locals.size = c.maxLocals) {argsL rest : List Value} (hlen : ∀ sig, parseMethodDescriptor x.desc = some sig → argsL.length = sig.parameters.length)
    (hstack : g.stack = argsL.reverse ++ .ref b :: rest) (hW : 2 * g.monitorRoom + (rest.map fun v => v.category).sum ≤ W9) (hdg : decode c.code g.pc = .ok (.invokeinterface index count, 5))
    (hpre : ∀ vm₁, s.WarmedH vm₁ → Pre ⟨T.setVm vm₁, locs, cells, slots⟩ (Value.ref b :: argsL).toArray) :
    (∃ (v : Option Value) (vm₁ : Vm) (B : Pt), s.WarmedH vm₁ ∧ Stand p l e R s m args below meth c B.U B.locs B.cells B.slots ∧ Post ⟨T.setVm vm₁, locs, cells, slots⟩ (Value.ref b :: argsL).toArray v B ∧
      ∀ target, Steps p.tables e below (B.U.setTop { g with pc := g.pc + 5, stack := v.toList ++ rest }) target → Steps p.tables e below (T.setTop g) target) ∨
    (∃ (q : Addr) (vm₁ : Vm) (B : Pt), s.WarmedH vm₁ ∧ Stand p l e R s m args below meth c B.U B.locs B.cells B.slots ∧ PostX ⟨T.setVm vm₁, locs, cells, slots⟩ (Value.ref b :: argsL).toArray q B ∧
      Steps p.tables e below (T.setTop g) ((B.U.setTop { g with stack := rest }).pushFrame (.throwing q))) := by
  obtain ⟨r0, r, hn, hrm, hstR, hsigR⟩ := Cond.declares_spec hdecl
  obtain ⟨cL, kL, r1, hcL, hkL, hiL, hfoundL, hn1⟩ := Cond.interfaceMethod_spec hface
  cases hn.symm.trans hn1
  have hr0cls : r0.cls = cL := Option.some.inj ((findClass_of_methodNamed hn).symm.trans hcL)
  obtain ⟨hnameR, hdescR⟩ := name_of_methodNamed hn hrm
  obtain ⟨mk, methM, hnamed, hmethM, -, habM⟩ := Cond.instanceMethod_spec hinst
  obtain ⟨c2, r2, m2, q1, q2, q3, q4, -⟩ := Cond.selects_spec hsel
  cases hcls.symm.trans q1
  cases hfoundL.symm.trans q2
  cases hnamed.symm.trans q3
  have hselP : selectMethod e.platform s.vm cellB.cls r0 = .method mk := by rw [Launch.admits_selectMethod X.admits]; exact q4
  have hpubM : hasFlag methM.accessFlags Acc.public_ = true := Cond.publicMethod_spec hnamed hmethM hpub
  have hway : ((cellB.cls :: s.vm.superclasses cellB.cls).any fun k => (declaredIn s.vm r.name r.desc k).any fun (_, z) => z.isPrivate || z.isStatic) = false := by
    rw [hnameR, hdescR]; exact Cond.unhidden_spec hcls hunh
  obtain ⟨c3, t3, w1, w2, w3⟩ := Cond.castable_spec hcast
  cases hcls.symm.trans w1
  cases hcL.symm.trans w2
  obtain ⟨vm₁, X₁, hstep₁⟩ := X.invokeinterface hexec hown hlink hn hrm hstR (by rw [hr0cls]; exact hkL) hiL hx (a := b) (cell := cellB) (kcell := kB) hcell
    (fun z h => by rw [h] at hobj; cases hobj) hkB (by rw [hr0cls]; exact w3) hselP hmethM hway hpubM habM (g := g) hg (argsL := argsL) (rest := rest) (hlen _ hsigR) hstack hdg
  rcases hK m meth c ⟨T.setVm vm₁, locs, cells, slots⟩ { g with stack := rest } (.invokeinterface index count) mk (Value.ref b :: argsL).toArray X₁ hg hsize hdg hW (X₁.named hnamed) (hpre vm₁ X₁.warmed) with ⟨v, B, X', hpost, hsteps⟩ | ⟨q, B, X', hpost, hsteps⟩
  · exact Or.inl ⟨v, vm₁, B, X₁.warmed, X', hpost, fun target h => hstep₁ _ fun acts => by rw [doInvoke_state]; exact hsteps.trans h⟩
  · exact Or.inr ⟨q, vm₁, B, X₁.warmed, X', hpost, hstep₁ _ fun acts => by rw [doInvoke_state]; exact hsteps⟩
theorem vx_runF {x y : MethodName} {bytes cc : ByteArray} {maxL nL mc ms n index count : Nat} {ret : Option FieldType} {ws : List Cond} {rm : Room} {Pc : Array Value → State → Prop} {Qc : Array Value → State → Outcome → State → Prop} {XC : String → State → State → Prop} {free : Addr → Prop} {Ts : List Cond} {own C : String} {cC : ClassId} {b : Addr} {As rest : List Value} {g : JFrame}
    (hat : ClassAt s C cC) (S : CallFix p m c cc nL s args Ts own) (hM : vx_Met l y ws rm Pc Qc XC mc ms free) (cw : va_CI R s args own C index x y bytes maxL ret ws rm mc ms n) (hp : PreV s H C b Pc As)
    (hg : g.method = m) (hn : As.length = n) (hsize : g.locals.size = nL) (hstack : g.stack = As.reverse ++ .ref b :: rest) (hW : 2 * g.monitorRoom + (rest.map fun v => v.category).sum ≤ 8) (hdg : decode cc g.pc = .ok (.invokeinterface index count, 5)) (hf : cells + mc ≤ R.cells ∧ slots + ms ≤ R.slots) :
    vx_Run5 p l e R s m args below meth c H locs cells slots mc ms g rest (Qc (Value.ref b :: As).toArray) XC free := by
  obtain ⟨hrc, hrs, hfr, hlo, hws, hcw⟩ := cw.back
  have hini := cw.init
  have hK : vx_Back l R p e below s args y 5 8 (PreOf R mc ms Pc) (PostOf Qc mc ms free) (vx_Post XC mc ms free) := vx_back (bytes := bytes) (maxL := maxL) (ret := ret) hM hp.1 hrc hrs hfr hlo hws hcw (fun a' U hW => word_at hW (Or.inl (by first | rfl | simp [Cond.onTables, Cond.keeps, Cond.steady])) hini)
  obtain ⟨hx, hb, hml, ho, -⟩ := S
  obtain ⟨-, ⟨cellB, hcB, hoB, hclB⟩, hPc⟩ := hp
  obtain ⟨hfc, kB, hkB, -⟩ := hat
  cases hfc.symm.trans hclB
  intro T hT X
  rcases vx_callIF X hx (C := C) (bytes := bytes) (maxL := maxL) (ret := ret) ho cw.link cw.decl cw.face cw.sel cw.inst cw.pub cw.unh cw.cast cw.code cw.notMH hK (by rw [hT]; exact hcB) hoB hclB hkB hg (hsize.trans hml.symm) (argsL := As) (rest := rest) (fun sig h => hn.trans (cw.len sig h)) hstack hW (by rw [hb]; exact hdg)
    (fun vm₁ hW₁ => ⟨hf.1, hf.2, hPc (T.setVm vm₁) hT hW₁⟩) with ⟨v, vm₁, ⟨U', l2, c2, s2⟩, hW₁, X', ⟨g', mk, t, L, e1, e2, hq, h1, hL, h2, h3⟩, st⟩ | ⟨q, vm₁, ⟨U', l2, c2, s2⟩, hW₁, X', ⟨g', mk, t, L, E, ce, e1, e2, hq, hce, hcv, hcl, h1, hL, h2, h3⟩, st⟩
  · dsimp only [Pt.U, Pt.locs, Pt.cells, Pt.slots] at X' e1 e2 h1 h2 h3 st
    subst h1; subst h2; subst h3
    exact Or.inl ⟨v, (T.setVm vm₁).calling g' mk (Value.ref b :: As).toArray, t, U', L, hT, X', hL, e1, e2, hq, st⟩
  · dsimp only [Pt.U, Pt.locs, Pt.cells, Pt.slots] at X' e1 e2 h1 h2 h3 st hcl
    subst h1; subst h2; subst h3
    exact Or.inr ⟨q, (T.setVm vm₁).calling g' mk (Value.ref b :: As).toArray, t, U', L, E, ce, hT, X', hL, e1, e2, hq, hce, hcv, vx_cls hW₁ hcl, st⟩
theorem vx_callFv {S SX : Type} {post : S → Prop} {px : SX → Prop} {B : S → State → Prop} {BX : String → SX → State → Prop} {AX : Nat → Prop} (hr : vx_Run5 p l e R s m args below meth c H locs cells slots mc ms (F0 m pc ls st0) rest (va_Qv post B A1 a) (vx_X px BX AX) free) (hS : va_S A0 H0 H locs) (hA : ∀ q, q < H.size → A1 q → A0 q) (hf : ∀ q, free q → A0 q) (hAX : ∀ q, q < H.size → AX q → A0 q)
    (kx : ∀ (E : String) (ce : Cell) (q9 : Addr) (u : SX) (t : State) (H1 : Heap) (locs1 : List Loc), t.heap = H1 → s.vm.Alike t.vm → px u → BX E u t → H.size ≤ H1.size → (∀ q : Nat, q < H.size → ¬ AX q → H1[q]? = H[q]?) → va_S A0 H0 H1 locs1 → H1[q9]? = some ce → ce.vm = .none → s.vm.findClass E = some ce.cls → vx_W p l e R s m args below meth c H1 locs1 (cells + mc) (slots + ms) Q (F0 m pc ls rest) q9)
    (kk : ∀ (u : S) (t : State) (H1 : Heap) (locs1 : List Loc), t.heap = H1 → s.vm.Alike t.vm → post u → B u t → H.size ≤ H1.size → (∀ q : Nat, q < H.size → ¬ A1 q → H1[q]? = H[q]?) → va_S A0 H0 H1 locs1 → W p l e R s m args below meth c H1 locs1 (cells + mc) (slots + ms) Q (F0 m (pc + 5) ls (rest))) : W p l e R s m args below meth c H locs cells slots Q (F0 m pc ls st0) := by
  intro T hT X
  rcases hr T hT X with ⟨v, st₀, t, T', L, h0, X', hL, e1, e2, ⟨⟨u, hv, hp, hb⟩, hF⟩, st⟩ | ⟨q, st₀, t, T', L, E, ce, h0, X', hL, e1, e2, ⟨u, hp, hb, hF⟩, hce, hcv, hcl, st⟩
  · cases hv
    obtain ⟨k1, k2, k3⟩ := vx_keep h0 e1 hS hA hf hL hF
    obtain ⟨t2, a1, b1⟩ := kk u t T'.heap (locs ++ L) e1.symm (by rw [← e2]; exact X'.warmed.alike) hp hb k1 k2 k3 T' rfl X'
    exact ⟨t2, st t2 a1, b1⟩
  · obtain ⟨k1, k2, k3⟩ := vx_keep h0 e1 hS hAX hf hL hF
    obtain ⟨t2, a1, b1⟩ := kx E ce q u t T'.heap (locs ++ L) e1.symm (by rw [← e2]; exact X'.warmed.alike) hp hb k1 k2 k3 (by rw [e1]; exact hce) hcv hcl T' rfl X'
    exact ⟨t2, st.trans a1, b1⟩
theorem vx_callFi {S SX : Type} {post : Int32 → S → Prop} {px : SX → Prop} {B : S → State → Prop} {BX : String → SX → State → Prop} {AX : Nat → Prop} (hr : vx_Run5 p l e R s m args below meth c H locs cells slots mc ms (F0 m pc ls st0) rest (va_Qi post B A1 a) (vx_X px BX AX) free) (hS : va_S A0 H0 H locs) (hA : ∀ q, q < H.size → A1 q → A0 q) (hf : ∀ q, free q → A0 q) (hAX : ∀ q, q < H.size → AX q → A0 q)
    (kx : ∀ (E : String) (ce : Cell) (q9 : Addr) (u : SX) (t : State) (H1 : Heap) (locs1 : List Loc), t.heap = H1 → s.vm.Alike t.vm → px u → BX E u t → H.size ≤ H1.size → (∀ q : Nat, q < H.size → ¬ AX q → H1[q]? = H[q]?) → va_S A0 H0 H1 locs1 → H1[q9]? = some ce → ce.vm = .none → s.vm.findClass E = some ce.cls → vx_W p l e R s m args below meth c H1 locs1 (cells + mc) (slots + ms) Q (F0 m pc ls rest) q9)
    (kk : ∀ (r : Int32) (u : S) (t : State) (H1 : Heap) (locs1 : List Loc), t.heap = H1 → s.vm.Alike t.vm → post r u → B u t → H.size ≤ H1.size → (∀ q : Nat, q < H.size → ¬ A1 q → H1[q]? = H[q]?) → va_S A0 H0 H1 locs1 → W p l e R s m args below meth c H1 locs1 (cells + mc) (slots + ms) Q (F0 m (pc + 5) ls (.int r :: rest))) : W p l e R s m args below meth c H locs cells slots Q (F0 m pc ls st0) := by
  intro T hT X
  rcases hr T hT X with ⟨v, st₀, t, T', L, h0, X', hL, e1, e2, ⟨⟨r, u, hv, hp, hb⟩, hF⟩, st⟩ | ⟨q, st₀, t, T', L, E, ce, h0, X', hL, e1, e2, ⟨u, hp, hb, hF⟩, hce, hcv, hcl, st⟩
  · cases hv
    obtain ⟨k1, k2, k3⟩ := vx_keep h0 e1 hS hA hf hL hF
    obtain ⟨t2, a1, b1⟩ := kk r u t T'.heap (locs ++ L) e1.symm (by rw [← e2]; exact X'.warmed.alike) hp hb k1 k2 k3 T' rfl X'
    exact ⟨t2, st t2 a1, b1⟩
  · obtain ⟨k1, k2, k3⟩ := vx_keep h0 e1 hS hAX hf hL hF
    obtain ⟨t2, a1, b1⟩ := kx E ce q u t T'.heap (locs ++ L) e1.symm (by rw [← e2]; exact X'.warmed.alike) hp hb k1 k2 k3 (by rw [e1]; exact hce) hcv hcl T' rfl X'
    exact ⟨t2, st.trans a1, b1⟩
theorem vx_callFl {S SX : Type} {post : Int64 → S → Prop} {px : SX → Prop} {B : S → State → Prop} {BX : String → SX → State → Prop} {AX : Nat → Prop} (hr : vx_Run5 p l e R s m args below meth c H locs cells slots mc ms (F0 m pc ls st0) rest (va_Ql post B A1 a) (vx_X px BX AX) free) (hS : va_S A0 H0 H locs) (hA : ∀ q, q < H.size → A1 q → A0 q) (hf : ∀ q, free q → A0 q) (hAX : ∀ q, q < H.size → AX q → A0 q)
    (kx : ∀ (E : String) (ce : Cell) (q9 : Addr) (u : SX) (t : State) (H1 : Heap) (locs1 : List Loc), t.heap = H1 → s.vm.Alike t.vm → px u → BX E u t → H.size ≤ H1.size → (∀ q : Nat, q < H.size → ¬ AX q → H1[q]? = H[q]?) → va_S A0 H0 H1 locs1 → H1[q9]? = some ce → ce.vm = .none → s.vm.findClass E = some ce.cls → vx_W p l e R s m args below meth c H1 locs1 (cells + mc) (slots + ms) Q (F0 m pc ls rest) q9)
    (kk : ∀ (r : Int64) (u : S) (t : State) (H1 : Heap) (locs1 : List Loc), t.heap = H1 → s.vm.Alike t.vm → post r u → B u t → H.size ≤ H1.size → (∀ q : Nat, q < H.size → ¬ A1 q → H1[q]? = H[q]?) → va_S A0 H0 H1 locs1 → W p l e R s m args below meth c H1 locs1 (cells + mc) (slots + ms) Q (F0 m (pc + 5) ls (.long r :: rest))) : W p l e R s m args below meth c H locs cells slots Q (F0 m pc ls st0) := by
  intro T hT X
  rcases hr T hT X with ⟨v, st₀, t, T', L, h0, X', hL, e1, e2, ⟨⟨r, u, hv, hp, hb⟩, hF⟩, st⟩ | ⟨q, st₀, t, T', L, E, ce, h0, X', hL, e1, e2, ⟨u, hp, hb, hF⟩, hce, hcv, hcl, st⟩
  · cases hv
    obtain ⟨k1, k2, k3⟩ := vx_keep h0 e1 hS hA hf hL hF
    obtain ⟨t2, a1, b1⟩ := kk r u t T'.heap (locs ++ L) e1.symm (by rw [← e2]; exact X'.warmed.alike) hp hb k1 k2 k3 T' rfl X'
    exact ⟨t2, st t2 a1, b1⟩
  · obtain ⟨k1, k2, k3⟩ := vx_keep h0 e1 hS hAX hf hL hF
    obtain ⟨t2, a1, b1⟩ := kx E ce q u t T'.heap (locs ++ L) e1.symm (by rw [← e2]; exact X'.warmed.alike) hp hb k1 k2 k3 (by rw [e1]; exact hce) hcv hcl T' rfl X'
    exact ⟨t2, st.trans a1, b1⟩
theorem vx_callFf {S SX : Type} {post : UInt32 → S → Prop} {px : SX → Prop} {B : S → State → Prop} {BX : String → SX → State → Prop} {AX : Nat → Prop} (hr : vx_Run5 p l e R s m args below meth c H locs cells slots mc ms (F0 m pc ls st0) rest (va_Qf post B A1 a) (vx_X px BX AX) free) (hS : va_S A0 H0 H locs) (hA : ∀ q, q < H.size → A1 q → A0 q) (hf : ∀ q, free q → A0 q) (hAX : ∀ q, q < H.size → AX q → A0 q)
    (kx : ∀ (E : String) (ce : Cell) (q9 : Addr) (u : SX) (t : State) (H1 : Heap) (locs1 : List Loc), t.heap = H1 → s.vm.Alike t.vm → px u → BX E u t → H.size ≤ H1.size → (∀ q : Nat, q < H.size → ¬ AX q → H1[q]? = H[q]?) → va_S A0 H0 H1 locs1 → H1[q9]? = some ce → ce.vm = .none → s.vm.findClass E = some ce.cls → vx_W p l e R s m args below meth c H1 locs1 (cells + mc) (slots + ms) Q (F0 m pc ls rest) q9)
    (kk : ∀ (r : UInt32) (u : S) (t : State) (H1 : Heap) (locs1 : List Loc), t.heap = H1 → s.vm.Alike t.vm → post r u → B u t → H.size ≤ H1.size → (∀ q : Nat, q < H.size → ¬ A1 q → H1[q]? = H[q]?) → va_S A0 H0 H1 locs1 → W p l e R s m args below meth c H1 locs1 (cells + mc) (slots + ms) Q (F0 m (pc + 5) ls (.float r :: rest))) : W p l e R s m args below meth c H locs cells slots Q (F0 m pc ls st0) := by
  intro T hT X
  rcases hr T hT X with ⟨v, st₀, t, T', L, h0, X', hL, e1, e2, ⟨⟨r, u, hv, hp, hb⟩, hF⟩, st⟩ | ⟨q, st₀, t, T', L, E, ce, h0, X', hL, e1, e2, ⟨u, hp, hb, hF⟩, hce, hcv, hcl, st⟩
  · cases hv
    obtain ⟨k1, k2, k3⟩ := vx_keep h0 e1 hS hA hf hL hF
    obtain ⟨t2, a1, b1⟩ := kk r u t T'.heap (locs ++ L) e1.symm (by rw [← e2]; exact X'.warmed.alike) hp hb k1 k2 k3 T' rfl X'
    exact ⟨t2, st t2 a1, b1⟩
  · obtain ⟨k1, k2, k3⟩ := vx_keep h0 e1 hS hAX hf hL hF
    obtain ⟨t2, a1, b1⟩ := kx E ce q u t T'.heap (locs ++ L) e1.symm (by rw [← e2]; exact X'.warmed.alike) hp hb k1 k2 k3 (by rw [e1]; exact hce) hcv hcl T' rfl X'
    exact ⟨t2, st.trans a1, b1⟩
theorem vx_callFd {S SX : Type} {post : UInt64 → S → Prop} {px : SX → Prop} {B : S → State → Prop} {BX : String → SX → State → Prop} {AX : Nat → Prop} (hr : vx_Run5 p l e R s m args below meth c H locs cells slots mc ms (F0 m pc ls st0) rest (va_Qd post B A1 a) (vx_X px BX AX) free) (hS : va_S A0 H0 H locs) (hA : ∀ q, q < H.size → A1 q → A0 q) (hf : ∀ q, free q → A0 q) (hAX : ∀ q, q < H.size → AX q → A0 q)
    (kx : ∀ (E : String) (ce : Cell) (q9 : Addr) (u : SX) (t : State) (H1 : Heap) (locs1 : List Loc), t.heap = H1 → s.vm.Alike t.vm → px u → BX E u t → H.size ≤ H1.size → (∀ q : Nat, q < H.size → ¬ AX q → H1[q]? = H[q]?) → va_S A0 H0 H1 locs1 → H1[q9]? = some ce → ce.vm = .none → s.vm.findClass E = some ce.cls → vx_W p l e R s m args below meth c H1 locs1 (cells + mc) (slots + ms) Q (F0 m pc ls rest) q9)
    (kk : ∀ (r : UInt64) (u : S) (t : State) (H1 : Heap) (locs1 : List Loc), t.heap = H1 → s.vm.Alike t.vm → post r u → B u t → H.size ≤ H1.size → (∀ q : Nat, q < H.size → ¬ A1 q → H1[q]? = H[q]?) → va_S A0 H0 H1 locs1 → W p l e R s m args below meth c H1 locs1 (cells + mc) (slots + ms) Q (F0 m (pc + 5) ls (.double r :: rest))) : W p l e R s m args below meth c H locs cells slots Q (F0 m pc ls st0) := by
  intro T hT X
  rcases hr T hT X with ⟨v, st₀, t, T', L, h0, X', hL, e1, e2, ⟨⟨r, u, hv, hp, hb⟩, hF⟩, st⟩ | ⟨q, st₀, t, T', L, E, ce, h0, X', hL, e1, e2, ⟨u, hp, hb, hF⟩, hce, hcv, hcl, st⟩
  · cases hv
    obtain ⟨k1, k2, k3⟩ := vx_keep h0 e1 hS hA hf hL hF
    obtain ⟨t2, a1, b1⟩ := kk r u t T'.heap (locs ++ L) e1.symm (by rw [← e2]; exact X'.warmed.alike) hp hb k1 k2 k3 T' rfl X'
    exact ⟨t2, st t2 a1, b1⟩
  · obtain ⟨k1, k2, k3⟩ := vx_keep h0 e1 hS hAX hf hL hF
    obtain ⟨t2, a1, b1⟩ := kx E ce q u t T'.heap (locs ++ L) e1.symm (by rw [← e2]; exact X'.warmed.alike) hp hb k1 k2 k3 (by rw [e1]; exact hce) hcv hcl T' rfl X'
    exact ⟨t2, st.trans a1, b1⟩
end
/-! ===== END ===== -/
/-! ===== BEGIN by an interface, a method with a table of its own that may throw (follows va_callIFW, va_runFW) ===== -/
section
variable {p : Program} {l : Launch} {e : Env} {R : Room} {s : State} {m : MethodId} {args : Array Value} {below : List Frame} {meth : Method} {c : Code} {H : Heap} {locs : List Loc} {cells slots : Nat}
theorem vx_callIFW {T : State} (X : Stand p l e R s m args below meth c T locs cells slots) (hexec : p.tables.exec = Jvm.exec) {own C : String} {index count : Nat} {x y : MethodName} {bytes : ByteArray} {maxL : Nat} {ret : Option FieldType} {hh : List (Nat × Nat × Nat × Nat)}
    (hown : s.vm.findClass own = some m.cls) (hlink : (Cond.methodLink own index x).before args s = true) (hdecl : (Cond.declares x).before args s = true) (hface : (Cond.interfaceMethod x.cls x.cls x.name x.desc).before args s = true)
    (hsel : (Cond.selects C x y).before args s = true) (hinst : (Cond.instanceMethod y).before args s = true) (hpub : (Cond.publicMethod y).before args s = true) (hunh : (Cond.unhidden C x.name x.desc).before args s = true)
    (hcast : (Cond.castable C x.cls).before args s = true) (hcode : (Cond.codeWith y bytes maxL ret hh).before args s = true) (hx : x.cls ≠ "java/lang/invoke/MethodHandle" ∧ x.cls ≠ "java/lang/invoke/VarHandle")
    {W : Nat} {Pre : Pt → Array Value → Prop} {Post : Pt → Array Value → Option Value → Pt → Prop} {PostX : Pt → Array Value → Addr → Pt → Prop} (hK : vx_Back l R p e below s args y 5 W Pre Post PostX)
    {b : Addr} {cellB : Cell} {kB : Class} (hcell : T.heap[b]? = some cellB) (hobj : cellB.vm.isStatics = false) (hcls : s.vm.findClass C = some cellB.cls) (hkB : s.vm.classes[cellB.cls]? = some kB)
    {g : JFrame} (hg : g.method = m) (hsize : g.locals.size = c.maxLocals) {argsL rest : List Value} (hlen : ∀ sig, parseMethodDescriptor x.desc = some sig → argsL.length = sig.parameters.length)
    (hstack : g.stack = argsL.reverse ++ .ref b :: rest) (hW : 2 * g.monitorRoom + (rest.map fun v => v.category).sum ≤ W) (hdg : decode c.code g.pc = .ok (.invokeinterface index count, 5))
    (hpre : ∀ vm₁, s.WarmedH vm₁ → Pre ⟨T.setVm vm₁, locs, cells, slots⟩ (Value.ref b :: argsL).toArray) :
    (∃ (v : Option Value) (vm₁ : Vm) (B : Pt), s.WarmedH vm₁ ∧ Stand p l e R s m args below meth c B.U B.locs B.cells B.slots ∧ Post ⟨T.setVm vm₁, locs, cells, slots⟩ (Value.ref b :: argsL).toArray v B ∧
      ∀ target, Steps p.tables e below (B.U.setTop { g with pc := g.pc + 5, stack := v.toList ++ rest }) target → Steps p.tables e below (T.setTop g) target) ∨
    (∃ (q : Addr) (vm₁ : Vm) (B : Pt), s.WarmedH vm₁ ∧ Stand p l e R s m args below meth c B.U B.locs B.cells B.slots ∧ PostX ⟨T.setVm vm₁, locs, cells, slots⟩ (Value.ref b :: argsL).toArray q B ∧
      Steps p.tables e below (T.setTop g) ((B.U.setTop { g with stack := rest }).pushFrame (.throwing q))) := by
  obtain ⟨r0, r, hn, hrm, hstR, hsigR⟩ := Cond.declares_spec hdecl
  obtain ⟨cL, kL, r1, hcL, hkL, hiL, hfoundL, hn1⟩ := Cond.interfaceMethod_spec hface
  cases hn.symm.trans hn1
  have hr0cls : r0.cls = cL := Option.some.inj ((findClass_of_methodNamed hn).symm.trans hcL)
  obtain ⟨hnameR, hdescR⟩ := name_of_methodNamed hn hrm
  obtain ⟨mk, methM, hnamed, hmethM, -, habM⟩ := Cond.instanceMethod_spec hinst
  obtain ⟨c2, r2, m2, q1, q2, q3, q4, -⟩ := Cond.selects_spec hsel
  cases hcls.symm.trans q1
  cases hfoundL.symm.trans q2
  cases hnamed.symm.trans q3
  have hselP : selectMethod e.platform s.vm cellB.cls r0 = .method mk := by rw [Launch.admits_selectMethod X.admits]; exact q4
  have hpubM : hasFlag methM.accessFlags Acc.public_ = true := Cond.publicMethod_spec hnamed hmethM hpub
  have hway : ((cellB.cls :: s.vm.superclasses cellB.cls).any fun k => (declaredIn s.vm r.name r.desc k).any fun (_, z) => z.isPrivate || z.isStatic) = false := by
    rw [hnameR, hdescR]; exact Cond.unhidden_spec hcls hunh
  obtain ⟨c3, t3, w1, w2, w3⟩ := Cond.castable_spec hcast
  cases hcls.symm.trans w1
  cases hcL.symm.trans w2
  obtain ⟨vm₁, X₁, hstep₁⟩ := X.invokeinterface hexec hown hlink hn hrm hstR (by rw [hr0cls]; exact hkL) hiL hx (a := b) (cell := cellB) (kcell := kB) hcell
    (fun z h => by rw [h] at hobj; cases hobj) hkB (by rw [hr0cls]; exact w3) hselP hmethM hway hpubM habM (g := g) hg (argsL := argsL) (rest := rest) (hlen _ hsigR) hstack hdg
  rcases hK m meth c ⟨T.setVm vm₁, locs, cells, slots⟩ { g with stack := rest } (.invokeinterface index count) mk (Value.ref b :: argsL).toArray X₁ hg hsize hdg hW (X₁.named hnamed) (hpre vm₁ X₁.warmed) with ⟨v, B, X', hpost, hsteps⟩ | ⟨q, B, X', hpost, hsteps⟩
  · exact Or.inl ⟨v, vm₁, B, X₁.warmed, X', hpost, fun target h => hstep₁ _ fun acts => by rw [doInvoke_state]; exact hsteps.trans h⟩
  · exact Or.inr ⟨q, vm₁, B, X₁.warmed, X', hpost, hstep₁ _ fun acts => by rw [doInvoke_state]; exact hsteps⟩
theorem vx_runFW {x y : MethodName} {bytes cc : ByteArray} {maxL nL mc ms n index count : Nat} {ret : Option FieldType} {hh : List (Nat × Nat × Nat × Nat)} {ws : List Cond} {rm : Room} {Pc : Array Value → State → Prop} {Qc : Array Value → State → Outcome → State → Prop} {XC : String → State → State → Prop} {free : Addr → Prop} {Ts : List Cond} {own C : String} {cC : ClassId} {b : Addr} {As rest : List Value} {g : JFrame}
    (hat : ClassAt s C cC) (S : CallFix p m c cc nL s args Ts own) (hM : vx_Met l y ws rm Pc Qc XC mc ms free) (cw : va_CIW R s args own C index x y bytes maxL ret hh ws rm mc ms n) (hp : PreV s H C b Pc As)
    (hg : g.method = m) (hn : As.length = n) (hsize : g.locals.size = nL) (hstack : g.stack = As.reverse ++ .ref b :: rest) (hW : 2 * g.monitorRoom + (rest.map fun v => v.category).sum ≤ 8) (hdg : decode cc g.pc = .ok (.invokeinterface index count, 5)) (hf : cells + mc ≤ R.cells ∧ slots + ms ≤ R.slots) :
    vx_Run5 p l e R s m args below meth c H locs cells slots mc ms g rest (Qc (Value.ref b :: As).toArray) XC free := by
  obtain ⟨hrc, hrs, hfr, hlo, hws, hcw⟩ := cw.back
  have hini := cw.init
  have hK : vx_Back l R p e below s args y 5 8 (PreOf R mc ms Pc) (PostOf Qc mc ms free) (vx_Post XC mc ms free) := vx_backW (hh := hh) (bytes := bytes) (maxL := maxL) (ret := ret) hM hp.1 hrc hrs hfr hlo hws hcw (fun a' U hW => word_at hW (Or.inl (by first | rfl | simp [Cond.onTables, Cond.keeps, Cond.steady])) hini)
  obtain ⟨hx, hb, hml, ho, -⟩ := S
  obtain ⟨-, ⟨cellB, hcB, hoB, hclB⟩, hPc⟩ := hp
  obtain ⟨hfc, kB, hkB, -⟩ := hat
  cases hfc.symm.trans hclB
  intro T hT X
  rcases vx_callIFW X hx (C := C) (hh := hh) (bytes := bytes) (maxL := maxL) (ret := ret) ho cw.link cw.decl cw.face cw.sel cw.inst cw.pub cw.unh cw.cast cw.code cw.notMH hK (by rw [hT]; exact hcB) hoB hclB hkB hg (hsize.trans hml.symm) (argsL := As) (rest := rest) (fun sig h => hn.trans (cw.len sig h)) hstack hW (by rw [hb]; exact hdg)
    (fun vm₁ hW₁ => ⟨hf.1, hf.2, hPc (T.setVm vm₁) hT hW₁⟩) with ⟨v, vm₁, ⟨U', l2, c2, s2⟩, hW₁, X', ⟨g', mk, t, L, e1, e2, hq, h1, hL, h2, h3⟩, st⟩ | ⟨q, vm₁, ⟨U', l2, c2, s2⟩, hW₁, X', ⟨g', mk, t, L, E, ce, e1, e2, hq, hce, hcv, hcl, h1, hL, h2, h3⟩, st⟩
  · dsimp only [Pt.U, Pt.locs, Pt.cells, Pt.slots] at X' e1 e2 h1 h2 h3 st
    subst h1; subst h2; subst h3
    exact Or.inl ⟨v, (T.setVm vm₁).calling g' mk (Value.ref b :: As).toArray, t, U', L, hT, X', hL, e1, e2, hq, st⟩
  · dsimp only [Pt.U, Pt.locs, Pt.cells, Pt.slots] at X' e1 e2 h1 h2 h3 st hcl
    subst h1; subst h2; subst h3
    exact Or.inr ⟨q, (T.setVm vm₁).calling g' mk (Value.ref b :: As).toArray, t, U', L, E, ce, hT, X', hL, e1, e2, hq, hce, hcv, vx_cls hW₁ hcl, st⟩
end
/-! ===== END ===== -/
/-! ===== BEGIN .. of methods that hand back an object of the pool ===== -/
section
variable {p : Program} {l : Launch} {e : Env} {R : Room} {s : State} {m : MethodId} {args : Array Value} {below : List Frame} {meth : Method} {c : Code} {H : Heap} {locs : List Loc} {cells slots : Nat} {Q : State → Prop}
variable {mc ms : Nat} {free : Addr → Prop} {A0 A1 : Nat → Prop} {H0 : Heap} {a : Array Value} {pc : Nat} {ls : Array Slot} {st0 rest : List Value}
theorem vx_callq {S SX : Type} {post : Option Nat → S → Prop} {px : SX → Prop} {B : S → State → Prop} {BX : String → SX → State → Prop} {AX : Nat → Prop} (hr : vx_Run p l e R s m args below meth c H locs cells slots mc ms (F0 m pc ls st0) rest (va_Qq post B A1 a) (vx_X px BX AX) free) (hS : va_S A0 H0 H locs) (hA : ∀ q, q < H.size → A1 q → A0 q) (hf : ∀ q, free q → A0 q) (hAX : ∀ q, q < H.size → AX q → A0 q)
    (kx : ∀ (E : String) (ce : Cell) (q9 : Addr) (u : SX) (t : State) (H1 : Heap) (locs1 : List Loc), t.heap = H1 → s.vm.Alike t.vm → px u → BX E u t → H.size ≤ H1.size → (∀ q : Nat, q < H.size → ¬ AX q → H1[q]? = H[q]?) → va_S A0 H0 H1 locs1 → H1[q9]? = some ce → ce.vm = .none → s.vm.findClass E = some ce.cls → vx_W p l e R s m args below meth c H1 locs1 (cells + mc) (slots + ms) Q (F0 m pc ls rest) q9)
    (kk : ∀ (r : Option Nat) (u : S) (t : State) (H1 : Heap) (locs1 : List Loc), t.heap = H1 → s.vm.Alike t.vm → post r u → B u t → H.size ≤ H1.size → (∀ q : Nat, q < H.size → ¬ A1 q → H1[q]? = H[q]?) → va_S A0 H0 H1 locs1 → W p l e R s m args below meth c H1 locs1 (cells + mc) (slots + ms) Q (F0 m (pc + 3) ls (va_rf r :: rest))) : W p l e R s m args below meth c H locs cells slots Q (F0 m pc ls st0) := by
  intro T hT X
  rcases hr T hT X with ⟨v, st₀, t, T', L, h0, X', hL, e1, e2, ⟨⟨r, u, hv, hp, hb⟩, hF⟩, st⟩ | ⟨q, st₀, t, T', L, E, ce, h0, X', hL, e1, e2, ⟨u, hp, hb, hF⟩, hce, hcv, hcl, st⟩
  · cases hv
    obtain ⟨k1, k2, k3⟩ := vx_keep h0 e1 hS hA hf hL hF
    obtain ⟨t2, a1, b1⟩ := kk r u t T'.heap (locs ++ L) e1.symm (by rw [← e2]; exact X'.warmed.alike) hp hb k1 k2 k3 T' rfl X'
    exact ⟨t2, st t2 a1, b1⟩
  · obtain ⟨k1, k2, k3⟩ := vx_keep h0 e1 hS hAX hf hL hF
    obtain ⟨t2, a1, b1⟩ := kx E ce q u t T'.heap (locs ++ L) e1.symm (by rw [← e2]; exact X'.warmed.alike) hp hb k1 k2 k3 (by rw [e1]; exact hce) hcv hcl T' rfl X'
    exact ⟨t2, st.trans a1, b1⟩
end
/-! ===== END ===== -/
/-! ===== BEGIN .. a constant ===== -/
section
variable {p : Program} {l : Launch} {e : Env} {R : Room} {s : State} {m : MethodId} {args : Array Value} {below : List Frame} {meth : Method} {c : Code} {H : Heap} {locs : List Loc} {cells slots : Nat} {Q : State → Prop}
variable {mc ms : Nat} {free : Addr → Prop} {A0 A1 : Nat → Prop} {H0 : Heap} {a : Array Value} {pc : Nat} {ls : Array Slot} {st0 rest : List Value}
theorem vx_calle {ad : Nat → Nat} {S SX : Type} {post : Option Nat → S → Prop} {px : SX → Prop} {B : S → State → Prop} {BX : String → SX → State → Prop} {AX : Nat → Prop} (hr : vx_Run p l e R s m args below meth c H locs cells slots mc ms (F0 m pc ls st0) rest (va_Qe ad post B A1 a) (vx_X px BX AX) free) (hS : va_S A0 H0 H locs) (hA : ∀ q, q < H.size → A1 q → A0 q) (hf : ∀ q, free q → A0 q) (hAX : ∀ q, q < H.size → AX q → A0 q)
    (kx : ∀ (E : String) (ce : Cell) (q9 : Addr) (u : SX) (t : State) (H1 : Heap) (locs1 : List Loc), t.heap = H1 → s.vm.Alike t.vm → px u → BX E u t → H.size ≤ H1.size → (∀ q : Nat, q < H.size → ¬ AX q → H1[q]? = H[q]?) → va_S A0 H0 H1 locs1 → H1[q9]? = some ce → ce.vm = .none → s.vm.findClass E = some ce.cls → vx_W p l e R s m args below meth c H1 locs1 (cells + mc) (slots + ms) Q (F0 m pc ls rest) q9)
    (kk : ∀ (r : Option Nat) (u : S) (t : State) (H1 : Heap) (locs1 : List Loc), t.heap = H1 → s.vm.Alike t.vm → post r u → B u t → H.size ≤ H1.size → (∀ q : Nat, q < H.size → ¬ A1 q → H1[q]? = H[q]?) → va_S A0 H0 H1 locs1 → W p l e R s m args below meth c H1 locs1 (cells + mc) (slots + ms) Q (F0 m (pc + 3) ls (va_re ad r :: rest))) : W p l e R s m args below meth c H locs cells slots Q (F0 m pc ls st0) := by
  intro T hT X
  rcases hr T hT X with ⟨v, st₀, t, T', L, h0, X', hL, e1, e2, ⟨⟨r, u, hv, hp, hb⟩, hF⟩, st⟩ | ⟨q, st₀, t, T', L, E, ce, h0, X', hL, e1, e2, ⟨u, hp, hb, hF⟩, hce, hcv, hcl, st⟩
  · cases hv
    obtain ⟨k1, k2, k3⟩ := vx_keep h0 e1 hS hA hf hL hF
    obtain ⟨t2, a1, b1⟩ := kk r u t T'.heap (locs ++ L) e1.symm (by rw [← e2]; exact X'.warmed.alike) hp hb k1 k2 k3 T' rfl X'
    exact ⟨t2, st t2 a1, b1⟩
  · obtain ⟨k1, k2, k3⟩ := vx_keep h0 e1 hS hAX hf hL hF
    obtain ⟨t2, a1, b1⟩ := kx E ce q u t T'.heap (locs ++ L) e1.symm (by rw [← e2]; exact X'.warmed.alike) hp hb k1 k2 k3 (by rw [e1]; exact hce) hcv hcl T' rfl X'
    exact ⟨t2, st.trans a1, b1⟩
end
/-! ===== END ===== -/
/-! ===== BEGIN .. by an interface, an object ===== -/
section
variable {p : Program} {l : Launch} {e : Env} {R : Room} {s : State} {m : MethodId} {args : Array Value} {below : List Frame} {meth : Method} {c : Code} {H : Heap} {locs : List Loc} {cells slots : Nat} {Q : State → Prop}
variable {mc ms : Nat} {free : Addr → Prop} {A0 A1 : Nat → Prop} {H0 : Heap} {a : Array Value} {pc : Nat} {ls : Array Slot} {st0 rest : List Value}
theorem vx_callFq {S SX : Type} {post : Option Nat → S → Prop} {px : SX → Prop} {B : S → State → Prop} {BX : String → SX → State → Prop} {AX : Nat → Prop} (hr : vx_Run5 p l e R s m args below meth c H locs cells slots mc ms (F0 m pc ls st0) rest (va_Qq post B A1 a) (vx_X px BX AX) free) (hS : va_S A0 H0 H locs) (hA : ∀ q, q < H.size → A1 q → A0 q) (hf : ∀ q, free q → A0 q) (hAX : ∀ q, q < H.size → AX q → A0 q)
    (kx : ∀ (E : String) (ce : Cell) (q9 : Addr) (u : SX) (t : State) (H1 : Heap) (locs1 : List Loc), t.heap = H1 → s.vm.Alike t.vm → px u → BX E u t → H.size ≤ H1.size → (∀ q : Nat, q < H.size → ¬ AX q → H1[q]? = H[q]?) → va_S A0 H0 H1 locs1 → H1[q9]? = some ce → ce.vm = .none → s.vm.findClass E = some ce.cls → vx_W p l e R s m args below meth c H1 locs1 (cells + mc) (slots + ms) Q (F0 m pc ls rest) q9)
    (kk : ∀ (r : Option Nat) (u : S) (t : State) (H1 : Heap) (locs1 : List Loc), t.heap = H1 → s.vm.Alike t.vm → post r u → B u t → H.size ≤ H1.size → (∀ q : Nat, q < H.size → ¬ A1 q → H1[q]? = H[q]?) → va_S A0 H0 H1 locs1 → W p l e R s m args below meth c H1 locs1 (cells + mc) (slots + ms) Q (F0 m (pc + 5) ls (va_rf r :: rest))) : W p l e R s m args below meth c H locs cells slots Q (F0 m pc ls st0) := by
  intro T hT X
  rcases hr T hT X with ⟨v, st₀, t, T', L, h0, X', hL, e1, e2, ⟨⟨r, u, hv, hp, hb⟩, hF⟩, st⟩ | ⟨q, st₀, t, T', L, E, ce, h0, X', hL, e1, e2, ⟨u, hp, hb, hF⟩, hce, hcv, hcl, st⟩
  · cases hv
    obtain ⟨k1, k2, k3⟩ := vx_keep h0 e1 hS hA hf hL hF
    obtain ⟨t2, a1, b1⟩ := kk r u t T'.heap (locs ++ L) e1.symm (by rw [← e2]; exact X'.warmed.alike) hp hb k1 k2 k3 T' rfl X'
    exact ⟨t2, st t2 a1, b1⟩
  · obtain ⟨k1, k2, k3⟩ := vx_keep h0 e1 hS hAX hf hL hF
    obtain ⟨t2, a1, b1⟩ := kx E ce q u t T'.heap (locs ++ L) e1.symm (by rw [← e2]; exact X'.warmed.alike) hp hb k1 k2 k3 (by rw [e1]; exact hce) hcv hcl T' rfl X'
    exact ⟨t2, st.trans a1, b1⟩
end
/-! ===== END ===== -/
/-! ===== BEGIN .. by an interface, a constant ===== -/
section
variable {p : Program} {l : Launch} {e : Env} {R : Room} {s : State} {m : MethodId} {args : Array Value} {below : List Frame} {meth : Method} {c : Code} {H : Heap} {locs : List Loc} {cells slots : Nat} {Q : State → Prop}
variable {mc ms : Nat} {free : Addr → Prop} {A0 A1 : Nat → Prop} {H0 : Heap} {a : Array Value} {pc : Nat} {ls : Array Slot} {st0 rest : List Value}
theorem vx_callFe {ad : Nat → Nat} {S SX : Type} {post : Option Nat → S → Prop} {px : SX → Prop} {B : S → State → Prop} {BX : String → SX → State → Prop} {AX : Nat → Prop} (hr : vx_Run5 p l e R s m args below meth c H locs cells slots mc ms (F0 m pc ls st0) rest (va_Qe ad post B A1 a) (vx_X px BX AX) free) (hS : va_S A0 H0 H locs) (hA : ∀ q, q < H.size → A1 q → A0 q) (hf : ∀ q, free q → A0 q) (hAX : ∀ q, q < H.size → AX q → A0 q)
    (kx : ∀ (E : String) (ce : Cell) (q9 : Addr) (u : SX) (t : State) (H1 : Heap) (locs1 : List Loc), t.heap = H1 → s.vm.Alike t.vm → px u → BX E u t → H.size ≤ H1.size → (∀ q : Nat, q < H.size → ¬ AX q → H1[q]? = H[q]?) → va_S A0 H0 H1 locs1 → H1[q9]? = some ce → ce.vm = .none → s.vm.findClass E = some ce.cls → vx_W p l e R s m args below meth c H1 locs1 (cells + mc) (slots + ms) Q (F0 m pc ls rest) q9)
    (kk : ∀ (r : Option Nat) (u : S) (t : State) (H1 : Heap) (locs1 : List Loc), t.heap = H1 → s.vm.Alike t.vm → post r u → B u t → H.size ≤ H1.size → (∀ q : Nat, q < H.size → ¬ A1 q → H1[q]? = H[q]?) → va_S A0 H0 H1 locs1 → W p l e R s m args below meth c H1 locs1 (cells + mc) (slots + ms) Q (F0 m (pc + 5) ls (va_re ad r :: rest))) : W p l e R s m args below meth c H locs cells slots Q (F0 m pc ls st0) := by
  intro T hT X
  rcases hr T hT X with ⟨v, st₀, t, T', L, h0, X', hL, e1, e2, ⟨⟨r, u, hv, hp, hb⟩, hF⟩, st⟩ | ⟨q, st₀, t, T', L, E, ce, h0, X', hL, e1, e2, ⟨u, hp, hb, hF⟩, hce, hcv, hcl, st⟩
  · cases hv
    obtain ⟨k1, k2, k3⟩ := vx_keep h0 e1 hS hA hf hL hF
    obtain ⟨t2, a1, b1⟩ := kk r u t T'.heap (locs ++ L) e1.symm (by rw [← e2]; exact X'.warmed.alike) hp hb k1 k2 k3 T' rfl X'
    exact ⟨t2, st t2 a1, b1⟩
  · obtain ⟨k1, k2, k3⟩ := vx_keep h0 e1 hS hAX hf hL hF
    obtain ⟨t2, a1, b1⟩ := kx E ce q u t T'.heap (locs ++ L) e1.symm (by rw [← e2]; exact X'.warmed.alike) hp hb k1 k2 k3 (by rw [e1]; exact hce) hcv hcl T' rfl X'
    exact ⟨t2, st.trans a1, b1⟩
end
/-! ===== END ===== -/
/-! ===== BEGIN what the machine throws by itself: null at a field, at athrow ===== -/
section VXM2
variable {p : Program} {l : Launch} {e : Env} {R : Room} {s : State} {m : MethodId} {args : Array Value} {below : List Frame} {meth : Method} {c : Code} {H : Heap} {locs : List Loc} {cells slots : Nat}
variable {Q : State → Prop} {cc : ByteArray} {pc : Nat} {ls : Array Slot} {rest : List Value}
theorem vx_getfN {D cl tys} {own ref C : String} {T : u_T} {N ci index : Nat} {Ts : List Cond} (hexec : p.tables.exec = Jvm.exec) (hb : c.code = cc) (hts : ∀ w ∈ Ts, w.before args s = true) (hin : ∀ w ∈ u_ws C T N, w ∈ Ts) (hown : s.vm.findClass own = some m.cls) (hK : va_K D cl tys s) (hc : cl[ci]? = some (C, T, N)) (k : Nat) (hk : k < N) (hlink : (Cond.fieldLink own index ref (T k).2.1 (T k).2.2.1).before args s = true) (hsame : ∀ x, s.fieldFound? (T k).1 (T k).2.1 (T k).2.2.1 = some x → s.fieldFound? ref (T k).2.1 (T k).2.2.1 = some x) (hdg : decode cc pc = .ok (.getfield index, 3)) (kk : vx_NoteN p l e R s m args below meth c H locs cells slots Q (F0 m pc ls rest)) : W p l e R s m args below meth c H locs cells slots Q (F0 m pc ls (.null :: rest)) := by
  obtain ⟨hS, hfc, kC, hkC, -⟩ := hK.1 ci _ hc
  obtain ⟨cf, kf, fi, f, hi, -⟩ := hS k hk
  intro U hU X
  obtain ⟨vm', X1, st1⟩ := X.getfieldNull hexec hown hlink (hsame _ hi) (u_facts hfc hkC (u_lays hts hin hk) hi).1 (g := F0 m pc ls (.null :: rest)) rfl (rest := rest) rfl (by rw [hb]; exact hdg)
  obtain ⟨t, st, q⟩ := kk (U.setVm vm') hU X1
  exact ⟨t, st1 t st, q⟩
theorem vx_getfNN {D cl tys} {own ref C host : String} {T : u_T} {N ci index : Nat} {Ts : List Cond} (hexec : p.tables.exec = Jvm.exec) (hb : c.code = cc) (hts : ∀ w ∈ Ts, w.before args s = true) (hin : ∀ w ∈ u_ws C T N, w ∈ Ts) (hown : s.vm.findClass own = some m.cls) (hK : va_K D cl tys s) (hc : cl[ci]? = some (C, T, N)) (k : Nat) (hk : k < N) (hlink : (Cond.fieldLinkNest own index ref (T k).2.1 (T k).2.2.1 host).before args s = true) (hsame : ∀ x, s.fieldFound? (T k).1 (T k).2.1 (T k).2.2.1 = some x → s.fieldFound? ref (T k).2.1 (T k).2.2.1 = some x) (hdg : decode cc pc = .ok (.getfield index, 3)) (kk : vx_NoteN p l e R s m args below meth c H locs cells slots Q (F0 m pc ls rest)) : W p l e R s m args below meth c H locs cells slots Q (F0 m pc ls (.null :: rest)) := by
  obtain ⟨hS, hfc, kC, hkC, -⟩ := hK.1 ci _ hc
  obtain ⟨cf, kf, fi, f, hi, -⟩ := hS k hk
  intro U hU X
  obtain ⟨vm', X1, st1⟩ := X.getfieldNullNest hexec hown hlink (hsame _ hi) (u_facts hfc hkC (u_lays hts hin hk) hi).1 (g := F0 m pc ls (.null :: rest)) rfl (rest := rest) rfl (by rw [hb]; exact hdg)
  obtain ⟨t, st, q⟩ := kk (U.setVm vm') hU X1
  exact ⟨t, st1 t st, q⟩
theorem vx_putfN {D cl tys} {own ref C : String} {T : u_T} {N ci index : Nat} {Ts : List Cond} (hexec : p.tables.exec = Jvm.exec) (hb : c.code = cc) (hts : ∀ w ∈ Ts, w.before args s = true) (hin : ∀ w ∈ u_ws C T N, w ∈ Ts) (hown : s.vm.findClass own = some m.cls) (hK : va_K D cl tys s) (hc : cl[ci]? = some (C, T, N)) (k : Nat) (hk : k < N) (hlink : (Cond.fieldLink own index ref (T k).2.1 (T k).2.2.1).before args s = true) (hsame : ∀ x, s.fieldFound? (T k).1 (T k).2.1 (T k).2.2.1 = some x → s.fieldFound? ref (T k).2.1 (T k).2.2.1 = some x) (hfin : (T k).2.2.2 = false) {v : Value} (hdg : decode cc pc = .ok (.putfield index, 3)) (kk : vx_NoteN p l e R s m args below meth c H locs cells slots Q (F0 m pc ls rest)) : W p l e R s m args below meth c H locs cells slots Q (F0 m pc ls (v :: .null :: rest)) := by
  obtain ⟨hS, hfc, kC, hkC, -⟩ := hK.1 ci _ hc
  obtain ⟨cf, kf, fi, f, hi, -⟩ := hS k hk
  have hlay := hts _ (hin _ (u_in_lay hk))
  unfold u_lay at hlay
  rw [if_neg (by rw [hfin]; decide)] at hlay
  obtain ⟨c9, k9, cf9, kf9, fi9, f9, -, -, hi9, hst9, hnf9, -⟩ := Cond.lays_spec hlay
  cases hi.symm.trans hi9
  intro U hU X
  obtain ⟨vm', X1, st1⟩ := X.putfieldNull hexec hown hlink (hsame _ hi) hst9 hnf9 (g := F0 m pc ls (v :: .null :: rest)) rfl (v := v) (rest := rest) rfl (by rw [hb]; exact hdg)
  obtain ⟨t, st, q⟩ := kk (U.setVm vm') hU X1
  exact ⟨t, st1 t st, q⟩
theorem vx_putfNN {D cl tys} {own ref C host : String} {T : u_T} {N ci index : Nat} {Ts : List Cond} (hexec : p.tables.exec = Jvm.exec) (hb : c.code = cc) (hts : ∀ w ∈ Ts, w.before args s = true) (hin : ∀ w ∈ u_ws C T N, w ∈ Ts) (hown : s.vm.findClass own = some m.cls) (hK : va_K D cl tys s) (hc : cl[ci]? = some (C, T, N)) (k : Nat) (hk : k < N) (hlink : (Cond.fieldLinkNest own index ref (T k).2.1 (T k).2.2.1 host).before args s = true) (hsame : ∀ x, s.fieldFound? (T k).1 (T k).2.1 (T k).2.2.1 = some x → s.fieldFound? ref (T k).2.1 (T k).2.2.1 = some x) (hfin : (T k).2.2.2 = false) {v : Value} (hdg : decode cc pc = .ok (.putfield index, 3)) (kk : vx_NoteN p l e R s m args below meth c H locs cells slots Q (F0 m pc ls rest)) : W p l e R s m args below meth c H locs cells slots Q (F0 m pc ls (v :: .null :: rest)) := by
  obtain ⟨hS, hfc, kC, hkC, -⟩ := hK.1 ci _ hc
  obtain ⟨cf, kf, fi, f, hi, -⟩ := hS k hk
  have hlay := hts _ (hin _ (u_in_lay hk))
  unfold u_lay at hlay
  rw [if_neg (by rw [hfin]; decide)] at hlay
  obtain ⟨c9, k9, cf9, kf9, fi9, f9, -, -, hi9, hst9, hnf9, -⟩ := Cond.lays_spec hlay
  cases hi.symm.trans hi9
  intro U hU X
  obtain ⟨vm', X1, st1⟩ := X.putfieldNullNest hexec hown hlink (hsame _ hi) hst9 hnf9 (g := F0 m pc ls (v :: .null :: rest)) rfl (v := v) (rest := rest) rfl (by rw [hb]; exact hdg)
  obtain ⟨t, st, q⟩ := kk (U.setVm vm') hU X1
  exact ⟨t, st1 t st, q⟩
theorem vx_athrowN (hexec : p.tables.exec = Jvm.exec) (hb : c.code = cc) (hdg : decode cc pc = .ok (.athrow, 1)) (k : vx_NoteN p l e R s m args below meth c H locs cells slots Q (F0 m pc ls rest)) : W p l e R s m args below meth c H locs cells slots Q (F0 m pc ls (.null :: rest)) := by
  intro T hT X
  obtain ⟨t, st, q⟩ := k T hT X
  exact ⟨t, X.athrowNull hexec (g := F0 m pc ls (.null :: rest)) rfl (rest := rest) rfl (by rw [hb]; exact hdg) t st, q⟩
end VXM2
/-! ===== END ===== -/
end
section
/-! AN EXCEPTION WHOSE CONSTRUCTOR CALLS UP BY ANOTHER POOL NUMBER: NoSuchElementException's (String) calls RuntimeException's by 13, where vx_atS has 7: rows of kit/laws/EXCEPTIONS turned to any number -/
section VY
def vy_own (own : String) (ic : Nat) (X Y : String) (ix : Nat) (rx : ByteArray) (r : List String) : List Cond :=
  Bundle.throwableAtoms ++ Bundle.throwableSAtoms ++ (Bundle.passSAtoms X Y ix rx ++ Bundle.chainSAtoms Y r) ++
  [.methodLink own ic (Bundle.initS X), .instantiable X 6, .castable X X, .selects X Bundle.tFill0 Bundle.tFill0, .selects X Bundle.tFill Bundle.tFill] ++
  [.lays X Bundle.tN "cause" "Ljava/lang/Throwable;", .lays X Bundle.tN "stackTrace" Bundle.steD, .lays X Bundle.tN "suppressedExceptions" Bundle.listD, .lays X Bundle.tN "detailMessage" "Ljava/lang/String;"] ++
  [.isRef (.static Bundle.tN "UNASSIGNED_STACK" Bundle.steD), .isRef (.static Bundle.tN "SUPPRESSED_SENTINEL" Bundle.listD), .fieldLink Bundle.tN 198 Bundle.tN "backtrace" "Ljava/lang/Object;", .lays Bundle.tN Bundle.tN "backtrace" "Ljava/lang/Object;", .lays X Bundle.tN "backtrace" "Ljava/lang/Object;"]
def nseB : ByteArray := ⟨#[0x2a, 0x2b, 0xb7, 0x00, 0x0d, 0xb1]⟩
def vy_at (own : String) (ic : Nat) (X Y : String) (ix : Nat) (rx : ByteArray) (r : List String) : List Cond := (vy_own own ic X Y ix rx r).filter vx_no
theorem vy_chain {args : Array Value} {s : State} {pl : Platform} (hpl : pl.magicAccessors = ({} : Platform).magicAccessors) {top : MethodId} (htop : s.methodNamed? (Bundle.initS Bundle.tN) = some top) {X Y : String} {r : List String}
    {ix : Nat} {rx : ByteArray} (x0 : decode rx 0 = .ok (.aload_n 0, 1)) (x1 : decode rx 1 = .ok (.aload_n 1, 1)) (x2 : decode rx 2 = .ok (.invokespecial ix, 3)) (x5 : decode rx 5 = .ok (.return_, 1)) (hX : Bundle.fit X = true) (hn : ∀ n ∈ Y :: r, Bundle.fit n = true) (h : ∀ c ∈ Bundle.passSAtoms X Y ix rx ++ Bundle.chainSAtoms Y r, c.before args s = true) :
    ∃ (P1 : PassC) (Ps : List PassC), Ps.length = (Y :: r).length ∧ P1.LinksS pl s ∧ (∀ P, P ∈ Ps → P.LinksS pl s) ∧ s.methodNamed? (Bundle.initS X) = some P1.m ∧
      P1.sup = firstOf top (Ps.map (·.toPassT)) ∧ PassesOn top (Ps.map (·.toPassT)) := by
  obtain ⟨P, L, hm, hs⟩ := PassC.ofS_atoms (args := args) (s := s) hpl (X := X) (Y := Y) (Bundle.fit_spec hX).1 (Bundle.fit_spec (hn Y List.mem_cons_self)).2 x0 x1 x2 x5 (fun c hc => h c (List.mem_append_left _ hc))
  obtain ⟨P', Ps, hlen, L', hL, hm', hsup, hpass⟩ := Bundle.chainS (args := args) hpl htop r Y (hn Y List.mem_cons_self) (fun n hn' => hn n (List.mem_cons_of_mem _ hn')) (fun c hc => h c (List.mem_append_right _ hc))
  exact ⟨P, P' :: Ps, by simp [hlen], L, fun Q hQ => (List.mem_cons.mp hQ).elim (fun e => e ▸ L') (hL Q), hm, Option.some.inj (hs.symm.trans hm'), hsup, hpass⟩
section VY1
variable {p : Program} {l : Launch} {e : Env} {R : Room} {s : State} {m₀ : MethodId} {args : Array Value} {below : List Frame} {meth : Method} {c : Code} {W : State} {locs : List Loc} {cells slots : Nat}
set_option maxHeartbeats 1000000 in
theorem vy_ctorMadeS (X : Stand p l e R s m₀ args below meth c W locs cells slots) (hexec : p.tables.exec = Jvm.exec) (htr : e.platform.stackTraces = false) {own cls Y0 : String} {r0 : List String} {ic ix : Nat} {rx : ByteArray} (x0 : decode rx 0 = .ok (.aload_n 0, 1)) (x1 : decode rx 1 = .ok (.aload_n 1, 1)) (x2 : decode rx 2 = .ok (.invokespecial ix, 3)) (x5 : decode rx 5 = .ok (.return_, 1))
    (hown : s.vm.findClass own = some m₀.cls) (hcls : Bundle.fit cls = true) (hnames : ∀ n ∈ Y0 :: r0, Bundle.fit n = true)
    (h : ∀ a ∈ vy_own own ic cls Y0 ix rx r0, a.before args s = true)
    (hlocs : ∀ x ∈ locs, ∀ cell, s.heap[x.base]? = some cell → cell.vm.isStatics = false)
    {a : Addr} {cX : ClassId} {kX : Class} (hfoundX : s.vm.findClass cls = some cX) (hkX : s.vm.classes[cX]? = some kX) (hcell : W.heap[a]? = some (freshCell cX kX)) (hnew : s.heap.size ≤ a)
    {msg : Value} (hmsg : msg.isRef = true)
    {g : JFrame} (hg : g.method = m₀) (hsize : g.locals.size = c.maxLocals) {rest : List Value} (hstack : g.stack = msg :: .ref a :: .ref a :: rest)
    (hd6 : decode c.code g.pc = .ok (.invokespecial ic, 3))
    (hRframes : (Y0 :: r0).length + 3 < R.frames) (hRlocals : 2 * g.monitorRoom + ((Value.ref a :: rest).map fun v => v.category).sum + (13 * ((Y0 :: r0).length + 1) + 42) ≤ R.locals) :
    ∃ (V : State) (ce : Cell) (L : List Loc), Stand p l e R s m₀ args below meth c (V.setCell a ce) (locs ++ L) cells slots ∧ (∀ y ∈ L, y.base = a) ∧ a < V.heap.size ∧ ce.cls = cX ∧ ce.vm = .none ∧
      ∀ target, Steps p.tables e below ((V.setCell a ce).setTop { g with stack := .ref a :: rest, pc := g.pc + 3 }) target → Steps p.tables e below (W.setTop g) target := by
  have howns : e.platform.frameOwnsMonitors = true := by rw [X.admits.platform]
  have hfin : e.platform.finalization = false := by rw [X.admits.platform]
  have hpl : e.platform.magicAccessors = ({} : Platform).magicAccessors := by rw [X.admits.platform]
  have a' : ∀ x, x ∈ vy_own own ic cls Y0 ix rx r0 → x.holds args s none s [] = true := fun x hx => h x hx
  obtain ⟨T, Z0, L, -, Y⟩ := ThrowableC.of_atoms (args := args) howns hfin hpl (fun x hx => h x (by simp [vy_own, hx]))
  obtain ⟨Z, M, LZ, LM, hnZ⟩ := Init0T.ofS_atoms (args := args) hpl L Y (fun x hx => h x (by simp [vy_own, hx]))
  obtain ⟨P1, Ps, hlen, L1, hL, hP1m, hlink1, hlink⟩ := vy_chain (args := args) hpl hnZ x0 x1 x2 x5 hcls hnames (fun x hx => h x (List.mem_append_left _ (List.mem_append_left _ (List.mem_append_left _ (List.mem_append_right _ hx)))))
  have hfound : s.vm.findClass cls = some P1.m.cls := findClass_of_methodNamed hP1m
  cases Option.some.inj (hfoundX.symm.trans hfound)
  obtain ⟨c1, kX', hc1, hk, hord, -, -, hn6⟩ := Cond.instantiable_spec (a' (.instantiable cls 6) (by simp [vy_own]))
  cases Option.some.inj (hc1.symm.trans hfound)
  cases Option.some.inj (hkX.symm.trans hk)
  have hsel0 : selectMethod e.platform s.vm P1.m.cls T.fill0 = .method T.fill0 := by
    obtain ⟨c2, r2, m2, q1, q2, q3, q4, -⟩ := Cond.selects_spec (a' (.selects cls Bundle.tFill0 Bundle.tFill0) (by simp [vy_own]))
    cases Option.some.inj (q1.symm.trans hfound)
    cases Option.some.inj (q2.symm.trans (State.methodFound?_of_named Y.fill0 (by decide)))
    cases Option.some.inj (q3.symm.trans Y.fill0)
    rw [Launch.admits_selectMethod X.admits]; exact q4
  have hselF : selectMethod e.platform s.vm P1.m.cls T.fill = .method T.fill := by
    obtain ⟨c2, r2, m2, q1, q2, q3, q4, -⟩ := Cond.selects_spec (a' (.selects cls Bundle.tFill Bundle.tFill) (by simp [vy_own]))
    cases Option.some.inj (q1.symm.trans hfound)
    cases Option.some.inj (q2.symm.trans (State.methodFound?_of_named Y.fill (by decide)))
    cases Option.some.inj (q3.symm.trans Y.fill)
    rw [Launch.admits_selectMethod X.admits]; exact q4
  obtain ⟨cellS0, hcS0, hiss⟩ := Y.statics
  obtain ⟨u0, hu0⟩ := Cond.staticRefV Y.unassigned L.unassignedStatic L.statics hcS0 hiss (a' (.isRef (.static Bundle.tN "UNASSIGNED_STACK" Bundle.steD)) (by simp [vy_own]))
  obtain ⟨sen, hsen⟩ := Cond.staticRefV Y.sentinel L.sentinelStatic L.statics hcS0 hiss (a' (.isRef (.static Bundle.tN "SUPPRESSED_SENTINEL" Bundle.listD)) (by simp [vy_own]))
  obtain ⟨ci198, i198, fB, hk198, hg198, ha198, hsB, -, hnB, htB, hffB⟩ := Cond.ownField (t := .object "java/lang/Object") Y.found L.cls (by decide +kernel) (a' (.fieldLink Bundle.tN 198 Bundle.tN "backtrace" "Ljava/lang/Object;") (by simp [vy_own])) (a' (.lays Bundle.tN Bundle.tN "backtrace" "Ljava/lang/Object;") (by simp [vy_own])) e.platform hpl
  obtain ⟨cellS, hcS', heS, -, hkeep⟩ := X.same.2.2.2.2.2 T.aS cellS0 hcS0
  have hcellS : W.heap[T.aS]? = some cellS := hcS'
  have hout' : ∀ i, (⟨T.aS, i⟩ : Loc) ∉ locs := fun i hmem => by
    have := hlocs _ hmem cellS0 hcS0
    rw [hiss] at this; cases this
  have hknownS : cellS.vm ≠ .unknown := by
    rw [heS]; intro hu
    rw [show cellS0.vm = .unknown from hu] at hiss
    cases hiss
  have hneS : T.aS ≠ a := Nat.ne_of_lt (Nat.lt_of_lt_of_le (Array.getElem?_eq_some_iff.mp hcS0).1 hnew)
  obtain ⟨iM, hffM⟩ := Y.msg
  obtain ⟨tyC, dC, hdC, hdnC⟩ := Cond.laysAt hfound hk Y.cause (a' (.lays cls Bundle.tN "cause" "Ljava/lang/Throwable;") (by simp [vy_own]))
  obtain ⟨tyS, dS, hdS, hdnS⟩ := Cond.laysAt hfound hk Y.stack (a' (.lays cls Bundle.tN "stackTrace" Bundle.steD) (by simp [vy_own]))
  obtain ⟨tyP, dP, hdP, hdnP⟩ := Cond.laysAt hfound hk Y.supp (a' (.lays cls Bundle.tN "suppressedExceptions" Bundle.listD) (by simp [vy_own]))
  obtain ⟨tyM, dM, hdM, hdnM⟩ := Cond.laysAt hfound hk hffM (a' (.lays cls Bundle.tN "detailMessage" "Ljava/lang/String;") (by simp [vy_own]))
  obtain ⟨tyB, dB, hdB, hdnB⟩ := Cond.laysAt hfound hk hffB (a' (.lays cls Bundle.tN "backtrace" "Ljava/lang/Object;") (by simp [vy_own]))
  have bC := Cond.laysApart hdB hdC hdnB hdnC (by rw [hnB, Y.causeName]; decide)
  have bS := Cond.laysApart hdB hdS hdnB hdnS (by rw [hnB, Y.stackName]; decide)
  have bP := Cond.laysApart hdB hdP hdnB hdnP (by rw [hnB, Y.suppName]; decide)
  have hskip : SkipFacts T e.platform s (fun u => u) u0 ((preparedCellV T.toThrowableT (freshCell P1.m.cls kX) a u0 sen).withEntry W.cur) :=
    ⟨{ ci198 := ci198, i198 := i198, fBack := fB }, ⟨hk198, hg198, ha198, hsB⟩, by
      have := fresh_default (c := P1.m.cls) tyB
      rw [htB] at this
      simpa [preparedCellV, Cell.setSlot, Cell.withEntry, Array.getElem?_setIfInBounds, bC, bS, bP, bC.symm, bS.symm, bP.symm, defaultValue] using this, fun _ _ => rfl⟩
  obtain ⟨tm, methC, cdC, kC, vm₁, hnC, -, -, -, -, -, -, -, hW₁, st1⟩ := Steps.initColdS (tb := p.tables) (e := e) (below := below) (s := s) (U := W) X.here hexec X.warmed hpl hown (t := Bundle.initS cls) rfl rfl (Bundle.fit_spec hcls).2
    (a' (.methodLink own ic (Bundle.initS cls)) (by simp [vy_own])) (h (.instanceMethod (Bundle.initS cls)) (by simp [vy_own, Bundle.passSAtoms])) (bytes := rx) (maxL := 2) (h (.code (Bundle.initS cls) rx 2 none) (by simp [vy_own, Bundle.passSAtoms]))
    (f := g) hg (a := a) (msg := msg) (rest := .ref a :: rest) hstack hd6
  cases Option.some.inj (hnC.symm.trans hP1m)
  have X₁ := X.noted hW₁
  obtain ⟨vm₂, X₂, st2⟩ := X₁.ctorMessageOffV hexec (g := { g with stack := .ref a :: rest }) hg hsize T L Z LZ M LM (P1 :: Ps)
    (fun P hP => by rcases List.mem_cons.mp hP with rfl | hP; exact L1; exact hL P hP) ⟨hlink1, hlink⟩ (u0 := u0) (sen := sen) (self := a) hmsg (cell := freshCell P1.m.cls kX) (cellS := cellS)
    hcell (fun _ => by simp) (by simp) rfl rfl hsel0 hselF hcellS hneS hknownS (by rw [hkeep _ (hout' _)]; exact hu0) (by rw [hkeep _ (hout' _)]; exact hsen)
    (Takes.of_laid hk hord tyC (by rw [Y.causeType]; rfl)) (Takes.of_laid hk hord tyS (by rw [Y.stackType]; exact fits_refV_array _ u0)) (Takes.of_laid hk hord tyP (by rw [Y.suppType]; exact fits_refV_object _ sen))
    (Takes.of_laid hk hord tyM (by rw [Y.msgType]; exact fits_refV_object _ ⟨msg, hmsg⟩)) Y.objLocals hskip htr [] hd6
    (by simp only [List.length_cons, hlen]; omega) (by simp only [List.length_cons, hlen]; exact hRlocals)
  have hlt : a < ((W.setVm vm₁).setVm vm₂).heap.size := (Array.getElem?_eq_some_iff.mp hcell).1
  refine ⟨(W.setVm vm₁).setVm vm₂, _, _, X₂, fun y hy => ?_, hlt, rfl, rfl, fun target hwalk => st1 _ (fun acts => ?_)⟩
  · simp only [List.mem_cons, List.not_mem_nil, or_false] at hy
    rcases hy with rfl | rfl | rfl | rfl | rfl <;> rfl
  · rw [doInvoke_state]
    exact st2 _ hwalk
end VY1
section VY2
variable {p : Program} {l : Launch} {e : Env} {R : Room} {s : State} {m : MethodId} {args : Array Value} {below : List Frame} {meth : Method} {c : Code} {H : Heap} {locs : List Loc} {cells slots : Nat} {Q : State → Prop}
variable {ls : Array Slot} {rest : List Value} {D : va_G} {cl : List vw_C} {tys : List (ClassId × FieldType)} {ws : va_W}
set_option maxHeartbeats 1000000 in
theorem vy_makeS {cc : ByteArray} {pc : Nat} (hexec : p.tables.exec = Jvm.exec) (hb : c.code = cc) (hl : l.stackTraces = false) {own cls text Y0 : String} {r0 : List String} {ik is ic ix sa : Nat} {A : Nat → Prop} {rx : ByteArray} (x0 : decode rx 0 = .ok (.aload_n 0, 1)) (x1 : decode rx 1 = .ok (.aload_n 1, 1)) (x2 : decode rx 2 = .ok (.invokespecial ix, 3)) (x5 : decode rx 5 = .ok (.return_, 1))
    (hown : s.vm.findClass own = some m.cls) (hcls : Bundle.fit cls = true) (hnames : ∀ n ∈ Y0 :: r0, Bundle.fit n = true)
    (hk : (Cond.classLink own ik cls).before args s = true) (hini : (Cond.initialized cls).before args s = true) (hstr : vk_R own is text sa s) (hat : ∀ w ∈ vy_at own ic cls Y0 ix rx r0, w.before args s = true)
    (hgood : ∀ w ∈ Cond.classLink own ik cls :: Cond.initialized cls :: vy_at own ic cls Y0 ix rx r0, vx_ot w = true)
    (hU : vx_Zq Bundle.tN "UNASSIGNED_STACK" Bundle.steD A s s.heap) (hN : vx_Zq Bundle.tN "SUPPRESSED_SENTINEL" Bundle.listD A s s.heap) (hS : va_S A s.heap H locs) (hsize : ls.size = c.maxLocals)
    (d0 : decode cc pc = .ok (.new ik, 3)) (d3 : decode cc (pc + 3) = .ok (.dup, 1)) (d4 : decode cc (pc + 4) = .ok (.ldc is, 2)) (d6 : decode cc (pc + 6) = .ok (.invokespecial ic, 3))
    (hRframes : (Y0 :: r0).length + 3 < R.frames) (hRlocals : (rest.map fun v => v.category).sum + (13 * ((Y0 :: r0).length + 1) + 43) ≤ R.locals) (hRcells : cells + 1 ≤ R.cells) (hRslots : slots + 6 ≤ R.slots)
    (kk : ∀ (q : Nat) (H1 : Heap) (ce : Cell), H1[q]? = some ce → ce.vm = .none → s.vm.findClass cls = some ce.cls → H.size ≤ H1.size → (∀ x : Nat, x < H.size → H1[x]? = H[x]?) → W p l e R s m args below meth c H1 locs (cells + 1) (slots + 6) Q (F0 m (pc + 9) ls (.ref q :: rest))) :
    W p l e R s m args below meth c H locs cells slots Q (F0 m pc ls rest) := by
  intro T hT X
  subst hT
  have htr : e.platform.stackTraces = false := (show e.platform.stackTraces = l.stackTraces by rw [X.admits.platform]).trans hl
  have Y := vx_rebase X (R' := { frames := R.frames, locals := R.locals, cells := 1, slots := 6 }) (Nat.le_refl _) (Nat.le_refl _) hRcells hRslots
  obtain ⟨s', hA'⟩ : ∃ z, z = (T.setVm s.vm).setFrames (.invoking m args :: below) := ⟨_, rfl⟩
  rw [← hA'] at Y
  have hvm : s'.vm = s.vm := by rw [hA']; rfl
  have hhp : s'.heap = T.heap := by rw [hA']; rfl
  have hW0 : s.WarmedH s'.vm := by rw [hvm]; exact State.WarmedH.refl s
  have hat' : ∀ w ∈ vy_at own ic cls Y0 ix rx r0, w.before args s' = true := fun w hw => vx_ot_at hW0 hvm.symm (hgood w (List.mem_cons_of_mem _ (List.mem_cons_of_mem _ hw))) (hat w hw)
  have hk' : (Cond.classLink own ik cls).before args s' = true := vx_ot_at hW0 hvm.symm (hgood _ List.mem_cons_self) hk
  have hini' : (Cond.initialized cls).before args s' = true := vx_ot_at hW0 hvm.symm (hgood _ (List.mem_cons_of_mem _ List.mem_cons_self)) hini
  have hU' : vx_Zq Bundle.tN "UNASSIGNED_STACK" Bundle.steD A s' s'.heap := by rw [hhp]; exact vx_Zq.moved hW0.alike (hU.kept hS.2.1)
  have hN' : vx_Zq Bundle.tN "SUPPRESSED_SENTINEL" Bundle.listD A s' s'.heap := by rw [hhp]; exact vx_Zq.moved hW0.alike (hN.kept hS.2.1)
  have h : ∀ w ∈ vy_own own ic cls Y0 ix rx r0, w.before args s' = true := vx_own hat' (vx_isRefq hU'.1) (vx_isRefq hN'.1) hU'.2.word hN'.2.word
  have hown' : s'.vm.findClass own = some m.cls := by rw [hvm]; exact hown
  have hins : (Cond.instantiable cls 6).before args s' = true := h _ (by simp [vy_own])
  obtain ⟨vm₁, cX, kX, hfX, hkX, -, -, X₁, st1⟩ := Y.newCold hexec (own := own) (C := cls) (index := ik) (n := 6) hown' hk' hins hini'
    (g := F0 m pc ls rest) rfl (by rw [hb]; exact d0) (Nat.le_refl _) (Nat.le_refl _)
  generalize hT1 : (T.setVm vm₁).pushCell { cls := cX, slots := kX.instanceTypes.map defaultValue, vm := .none } = T1 at X₁ st1
  have hcat : (Value.ref T.heap.size).category = 1 := rfl
  have hcellA : T1.heap[T.heap.size]? = some (freshCell cX kX) := by rw [← hT1]; exact State.heap_pushCell_size _ _
  have d3' : decode c.code (pc + 3) = .ok (.dup, 1) := by rw [hb]; exact d3
  have d4' : decode c.code (pc + 4) = .ok (.ldc is, 2) := by rw [hb]; exact d4
  have hstr' : vk_R own is text sa s' := vk_R.warm hW0 hstr
  obtain ⟨V, ce, L, Z, hL, hlt, hcl9, hvm9, st⟩ := vy_ctorMadeS X₁ hexec htr (own := own) (cls := cls) (ic := ic) x0 x1 x2 x5 hown' hcls hnames h (fun x hx => nomatch hx) hfX hkX hcellA (by rw [hhp]; exact Nat.le_refl _) (msg := .ref sa) rfl
    (g := { method := m, pc := pc + 6, locals := ls, stack := .ref sa :: .ref T.heap.size :: .ref T.heap.size :: rest, locked := none }) rfl hsize (rest := rest) rfl
    (by rw [hb]; exact d6) hRframes (by simp only [List.map_cons, List.sum_cons, hcat]; omega)
  have Z0 := Stand.forget (locs := []) Z (fun y hy => by rw [hL y hy, hhp]; exact Nat.le_refl _)
  obtain ⟨f1, f2⟩ := vx_frame Z0.same
  rw [hhp] at f1 f2
  have hcid : s.vm.findClass cls = some ce.cls := by
    rw [hcl9, ← hvm]
    exact hfX
  have hh : (V.setCell T.heap.size ce).heap[T.heap.size]? = some ce := heapAt_setCell_self (s := V) ce hlt
  subst hA'
  have X5 := vx_back9 X Y Z0
  have X6 : Stand p l e R s m args below meth c (V.setCell T.heap.size ce) locs (cells + 1) (slots + 6) := { X5 with same := X5.same.mono (by omega) (by omega) }
  obtain ⟨t, a1, b1⟩ := kk T.heap.size (V.setCell T.heap.size ce).heap ce hh hvm9 hcid f1 (fun q hq => f2 q hq (fun z hz => nomatch hz)) _ rfl X6
  refine ⟨t, st1 _ ?_, b1⟩
  show Steps p.tables e below (T1.setTop { method := m, pc := pc + 3, locals := ls, stack := .ref T.heap.size :: rest, locked := none }) _
  jvm_step X₁.here [X₁.here.top, hexec, d3', Value.category]
  exact X₁.ldcString hexec (own := own) (text := text) (index := is) (a := sa) hown' hstr'.1 hstr'.2
    (g := { method := m, pc := pc + 4, locals := ls, stack := .ref T.heap.size :: .ref T.heap.size :: rest, locked := none }) rfl d4' _ (st _ a1)
set_option maxHeartbeats 1000000 in
theorem vy_makeSW {cc : ByteArray} {pc : Nat} (hexec : p.tables.exec = Jvm.exec) (hb : c.code = cc) (hl : l.stackTraces = false) {own cls text Y0 : String} {r0 : List String} {ik is ic ix sa : Nat} {A : Nat → Prop} {rx : ByteArray} (x0 : decode rx 0 = .ok (.aload_n 0, 1)) (x1 : decode rx 1 = .ok (.aload_n 1, 1)) (x2 : decode rx 2 = .ok (.invokespecial ix, 3)) (x5 : decode rx 5 = .ok (.return_, 1))
    (hown : s.vm.findClass own = some m.cls) (hcls : Bundle.fit cls = true) (hnames : ∀ n ∈ Y0 :: r0, Bundle.fit n = true)
    (hk : (Cond.classLink own ik cls).before args s = true) (hini : (Cond.initialized cls).before args s = true) (hstr : vk_R own is text sa s) (hat : ∀ w ∈ vy_at own ic cls Y0 ix rx r0, w.before args s = true)
    (hgood : ∀ w ∈ Cond.classLink own ik cls :: Cond.initialized cls :: vy_at own ic cls Y0 ix rx r0, vx_ot w = true)
    (hU : vx_Zq Bundle.tN "UNASSIGNED_STACK" Bundle.steD A s s.heap) (hN : vx_Zq Bundle.tN "SUPPRESSED_SENTINEL" Bundle.listD A s s.heap) (hS : va_S A s.heap H locs) (hsize : ls.size = c.maxLocals)
    (d0 : decode cc pc = .ok (.new ik, 3)) (d3 : decode cc (pc + 3) = .ok (.dup, 1)) (d4 : decode cc (pc + 4) = .ok (.ldc_w is, 3)) (d6 : decode cc (pc + 7) = .ok (.invokespecial ic, 3))
    (hRframes : (Y0 :: r0).length + 3 < R.frames) (hRlocals : (rest.map fun v => v.category).sum + (13 * ((Y0 :: r0).length + 1) + 43) ≤ R.locals) (hRcells : cells + 1 ≤ R.cells) (hRslots : slots + 6 ≤ R.slots)
    (kk : ∀ (q : Nat) (H1 : Heap) (ce : Cell), H1[q]? = some ce → ce.vm = .none → s.vm.findClass cls = some ce.cls → H.size ≤ H1.size → (∀ x : Nat, x < H.size → H1[x]? = H[x]?) → W p l e R s m args below meth c H1 locs (cells + 1) (slots + 6) Q (F0 m (pc + 10) ls (.ref q :: rest))) :
    W p l e R s m args below meth c H locs cells slots Q (F0 m pc ls rest) := by
  intro T hT X
  subst hT
  have htr : e.platform.stackTraces = false := (show e.platform.stackTraces = l.stackTraces by rw [X.admits.platform]).trans hl
  have Y := vx_rebase X (R' := { frames := R.frames, locals := R.locals, cells := 1, slots := 6 }) (Nat.le_refl _) (Nat.le_refl _) hRcells hRslots
  obtain ⟨s', hA'⟩ : ∃ z, z = (T.setVm s.vm).setFrames (.invoking m args :: below) := ⟨_, rfl⟩
  rw [← hA'] at Y
  have hvm : s'.vm = s.vm := by rw [hA']; rfl
  have hhp : s'.heap = T.heap := by rw [hA']; rfl
  have hW0 : s.WarmedH s'.vm := by rw [hvm]; exact State.WarmedH.refl s
  have hat' : ∀ w ∈ vy_at own ic cls Y0 ix rx r0, w.before args s' = true := fun w hw => vx_ot_at hW0 hvm.symm (hgood w (List.mem_cons_of_mem _ (List.mem_cons_of_mem _ hw))) (hat w hw)
  have hk' : (Cond.classLink own ik cls).before args s' = true := vx_ot_at hW0 hvm.symm (hgood _ List.mem_cons_self) hk
  have hini' : (Cond.initialized cls).before args s' = true := vx_ot_at hW0 hvm.symm (hgood _ (List.mem_cons_of_mem _ List.mem_cons_self)) hini
  have hU' : vx_Zq Bundle.tN "UNASSIGNED_STACK" Bundle.steD A s' s'.heap := by rw [hhp]; exact vx_Zq.moved hW0.alike (hU.kept hS.2.1)
  have hN' : vx_Zq Bundle.tN "SUPPRESSED_SENTINEL" Bundle.listD A s' s'.heap := by rw [hhp]; exact vx_Zq.moved hW0.alike (hN.kept hS.2.1)
  have h : ∀ w ∈ vy_own own ic cls Y0 ix rx r0, w.before args s' = true := vx_own hat' (vx_isRefq hU'.1) (vx_isRefq hN'.1) hU'.2.word hN'.2.word
  have hown' : s'.vm.findClass own = some m.cls := by rw [hvm]; exact hown
  have hins : (Cond.instantiable cls 6).before args s' = true := h _ (by simp [vy_own])
  obtain ⟨vm₁, cX, kX, hfX, hkX, -, -, X₁, st1⟩ := Y.newCold hexec (own := own) (C := cls) (index := ik) (n := 6) hown' hk' hins hini'
    (g := F0 m pc ls rest) rfl (by rw [hb]; exact d0) (Nat.le_refl _) (Nat.le_refl _)
  generalize hT1 : (T.setVm vm₁).pushCell { cls := cX, slots := kX.instanceTypes.map defaultValue, vm := .none } = T1 at X₁ st1
  have hcat : (Value.ref T.heap.size).category = 1 := rfl
  have hcellA : T1.heap[T.heap.size]? = some (freshCell cX kX) := by rw [← hT1]; exact State.heap_pushCell_size _ _
  have d3' : decode c.code (pc + 3) = .ok (.dup, 1) := by rw [hb]; exact d3
  have d4' : decode c.code (pc + 4) = .ok (.ldc_w is, 3) := by rw [hb]; exact d4
  have hstr' : vk_R own is text sa s' := vk_R.warm hW0 hstr
  obtain ⟨V, ce, L, Z, hL, hlt, hcl9, hvm9, st⟩ := vy_ctorMadeS X₁ hexec htr (own := own) (cls := cls) (ic := ic) x0 x1 x2 x5 hown' hcls hnames h (fun x hx => nomatch hx) hfX hkX hcellA (by rw [hhp]; exact Nat.le_refl _) (msg := .ref sa) rfl
    (g := { method := m, pc := pc + 7, locals := ls, stack := .ref sa :: .ref T.heap.size :: .ref T.heap.size :: rest, locked := none }) rfl hsize (rest := rest) rfl
    (by rw [hb]; exact d6) hRframes (by simp only [List.map_cons, List.sum_cons, hcat]; omega)
  have Z0 := Stand.forget (locs := []) Z (fun y hy => by rw [hL y hy, hhp]; exact Nat.le_refl _)
  obtain ⟨f1, f2⟩ := vx_frame Z0.same
  rw [hhp] at f1 f2
  have hcid : s.vm.findClass cls = some ce.cls := by
    rw [hcl9, ← hvm]
    exact hfX
  have hh : (V.setCell T.heap.size ce).heap[T.heap.size]? = some ce := heapAt_setCell_self (s := V) ce hlt
  subst hA'
  have X5 := vx_back9 X Y Z0
  have X6 : Stand p l e R s m args below meth c (V.setCell T.heap.size ce) locs (cells + 1) (slots + 6) := { X5 with same := X5.same.mono (by omega) (by omega) }
  obtain ⟨t, a1, b1⟩ := kk T.heap.size (V.setCell T.heap.size ce).heap ce hh hvm9 hcid f1 (fun q hq => f2 q hq (fun z hz => nomatch hz)) _ rfl X6
  refine ⟨t, st1 _ ?_, b1⟩
  show Steps p.tables e below (T1.setTop { method := m, pc := pc + 3, locals := ls, stack := .ref T.heap.size :: rest, locked := none }) _
  jvm_step X₁.here [X₁.here.top, hexec, d3', Value.category]
  exact X₁.ldcStringW hexec (own := own) (text := text) (index := is) (a := sa) hown' hstr'.1 hstr'.2
    (g := { method := m, pc := pc + 4, locals := ls, stack := .ref T.heap.size :: .ref T.heap.size :: rest, locked := none }) rfl d4' _ (st _ a1)
end VY2
end VY
end
section
/-! THE ENGINE, its words: a small machine over numbered objects. '.ref 0' is the script, '.ref (k + 1)' the object k of the heap. A walk is 'for every K that is closed under one step, K at the entry'. -/
/-- the flag: nothing but objects of the list was made so far; the objects -/
abbrev eH : Type := Bool × List va_E
/-- how a method ended: with a value, or by a throw of kind n -/
abbrev eO : Type := Option Value ⊕ Nat
abbrev eL : Type := List (Nat × Value)
/-- pc, instruction, next pc, three numbers of its own -/
abbrev eE : Type := Nat × Instr × Nat × Nat × Nat × Nat
/-- name, code, locals, return type, handlers, cells and slots, its number in vwCl, program -/
abbrev eM : Type := MethodName × ByteArray × Nat × Option FieldType × List (Nat × Nat × Nat × Nat) × (Nat × Nat) × Nat × List (List eE)
abbrev eK : Type := Nat → eL → List Value → eH → Nat → Nat → Prop
abbrev eQ : Type := eO → eH → Prop
abbrev eC : Type := Nat → List Value → eH → eQ → Prop
abbrev mNm (M : eM) : MethodName := M.1
abbrev mBy (M : eM) : ByteArray := M.2.1
abbrev mLo (M : eM) : Nat := M.2.2.1
abbrev mRt (M : eM) : Option FieldType := M.2.2.2.1
abbrev mHh (M : eM) : List (Nat × Nat × Nat × Nat) := M.2.2.2.2.1
abbrev mCo (M : eM) : Nat × Nat := M.2.2.2.2.2.1
abbrev mCi (M : eM) : Nat := M.2.2.2.2.2.2.1
abbrev mPr (M : eM) : List (List eE) := M.2.2.2.2.2.2.2
def eFind : List eE → Nat → Option (Instr × Nat × Nat × Nat × Nat)
  | [], _ => none
  | e :: r, pc => bif e.1 == pc then some e.2 else eFind r pc
def eAt (P : List (List eE)) (pc : Nat) : Option (Instr × Nat × Nat × Nat × Nat) := match P[pc / 16]? with
  | none => none
  | some c => eFind c pc
def lkp : eL → Nat → Option Value
  | [], _ => none
  | q :: r, i => bif q.1 == i then some q.2 else lkp r i
def eFil1 (i : Nat) : eL → (eL → Prop) → Prop
  | [], k => k []
  | q :: r, k => bif (!(q.1 == i) && !(q.1 + 1 == i && q.2.category == 2)) then eFil1 i r (fun r' => k (q :: r')) else eFil1 i r k
def eFil2 (i : Nat) : eL → (eL → Prop) → Prop
  | [], k => k []
  | q :: r, k => bif (!(q.1 == i) && (!(q.1 == i + 1) && !(q.1 + 1 == i && q.2.category == 2))) then eFil2 i r (fun r' => k (q :: r')) else eFil2 i r k
def eCat : List Value → Nat
  | [] => 0
  | v :: r => v.category + eCat r
def eIsA (t : Nat) (v : Value) : Bool := match v with
  | .ref _ => t == 0
  | .int _ => t == 1
  | .long _ => t == 2
  | .float _ => t == 3
  | .double _ => t == 4
  | _ => false
def pLd (t : Nat) (ls : eL) (i : Nat) (k : Value → Prop) : Prop := match lkp ls i with
  | some v => bif eIsA t v then k v else False
  | none => False
def pSt1 (t : Nat) (st : List Value) (i : Nat) (ls : eL) (k : eL → List Value → Prop) : Prop := match st with
  | v :: r => bif eIsA t v then eFil1 i ls (fun l' => k ((i, v) :: l') r) else False
  | _ => False
def pSt2 (t : Nat) (st : List Value) (i : Nat) (ls : eL) (k : eL → List Value → Prop) : Prop := match st with
  | v :: r => bif eIsA t v then eFil2 i ls (fun l' => k ((i, v) :: l') r) else False
  | _ => False
def pII (f : Int32 → Int32 → Int32) (st : List Value) (k : List Value → Prop) : Prop := match st with
  | .int y :: .int x :: r => k (.int (f x y) :: r)
  | _ => False
def pLL (f : Int64 → Int64 → Value) (st : List Value) (k : List Value → Prop) : Prop := match st with
  | .long y :: .long x :: r => k (f x y :: r)
  | _ => False
def pLI (f : Int64 → Int32 → Int64) (st : List Value) (k : List Value → Prop) : Prop := match st with
  | .int y :: .long x :: r => k (.long (f x y) :: r)
  | _ => False
def pI (f : Int32 → Value) (st : List Value) (k : List Value → Prop) : Prop := match st with
  | .int x :: r => k (f x :: r)
  | _ => False
def pL (f : Int64 → Value) (st : List Value) (k : List Value → Prop) : Prop := match st with
  | .long x :: r => k (f x :: r)
  | _ => False
def bI (P : Int32 → Prop) (st : List Value) (kt kf : List Value → Prop) : Prop := match st with
  | .int x :: r => (P x → kt r) ∧ (¬ P x → kf r)
  | _ => False
def bII (P : Int32 → Int32 → Prop) (st : List Value) (kt kf : List Value → Prop) : Prop := match st with
  | .int y :: .int x :: r => (P x y → kt r) ∧ (¬ P x y → kf r)
  | _ => False
def mR (st : List Value) (k : Nat → List Value → Prop) : Prop := match st with
  | .ref q :: r => k q r
  | _ => False
def mI (st : List Value) (k : Int32 → List Value → Prop) : Prop := match st with
  | .int x :: r => k x r
  | _ => False
def mJ (st : List Value) (k : Int64 → List Value → Prop) : Prop := match st with
  | .long x :: r => k x r
  | _ => False
def mF (st : List Value) (k : UInt32 → List Value → Prop) : Prop := match st with
  | .float x :: r => k x r
  | _ => False
def mD (st : List Value) (k : UInt64 → List Value → Prop) : Prop := match st with
  | .double x :: r => k x r
  | _ => False
def mV (st : List Value) (k : Value → List Value → Prop) : Prop := match st with
  | v :: r => k v r
  | _ => False
/-- an object's number out of what a reference holds -/
def mO (q : Nat) (k : Nat → Prop) : Prop := match q with
  | 0 => False
  | q + 1 => k q
def mN (st : List Value) (k : Prop) : Prop := match st with
  | [] => k
  | _ => False
/-- what the field j of the kind ci takes -/
def eFty (ci j : Nat) : FieldType := match ci with
  | 0 => tyX0 j
  | 1 => tyX1 j
  | 2 => tyX2 j
  | 3 => tyX4 j
  | 4 => tyX6 j
  | _ => tyX7 j
def eTy (ty : FieldType) (v : Value) : Bool := match ty, v with
  | .int, .int _ => true
  | .long, .long _ => true
  | .object _, .ref _ => true
  | .array _, .ref _ => true
  | _, _ => false
/-- a new object of the kind ci -/
def eNew (ci : Nat) : List Value := match ci with
  | 0 => [.null, .null, .null]
  | 1 => [.long 0, .long 0]
  | 2 => [.null]
  | 3 => [.null, .null, .null, .null, .null, .null]
  | 4 => [.null, .null, .null, .null, .null]
  | _ => [.null, .null, .null, .null, .null, .null, .int 0, .int 0]
/-- rows of one kind: 0 int, 1 boolean, 2 long, 3 double, 4 of FaceSets -/
def eArr (t n : Nat) : va_E := match t with
  | 0 => .inl (0, n, .inl (fun _ => 0))
  | 1 => .inl (1, n, .inl (fun _ => 0))
  | 2 => .inl (2, n, .inr (.inl (fun _ => 0)))
  | 3 => .inl (3, n, .inr (.inr (.inr (.inl (fun _ => 0)))))
  | _ => .inl (4, n, .inr (.inr (.inr (.inr (fun _ => none)))))
/-- kinds of throws: 0 index, 1 argument, 2 state, 3 no such element -/
def exN (n : Nat) : String := match n with
  | 0 => "java/lang/IndexOutOfBoundsException"
  | 1 => "java/lang/IllegalArgumentException"
  | 2 => "java/lang/IllegalStateException"
  | _ => "java/util/NoSuchElementException"
/-- the law's catch rows: what the pool's number names -/
def eHc (ct : Nat) : Nat := match ct with
  | 13 => 0
  | 15 => 1
  | 20 => 3
  | 50 => 2
  | _ => 9
def eHnd (hh : List (Nat × Nat × Nat × Nat)) (pc E : Nat) : Option Nat := match hh with
  | [] => none
  | q :: r => bif Nat.ble q.1 pc && Nat.blt pc q.2.1 && eHc q.2.2.2 == E then some q.2.2.1 else eHnd r pc E
def eArg : Nat → List Value → List Value → (List Value → List Value → Prop) → Prop
  | 0, st, acc, k => k acc st
  | n + 1, st, acc, k => match st with
    | v :: r => eArg n r (v :: acc) k
    | [] => False
def eCall (T : Nat → eM) (C : eC) (M : eM) (a : Nat) (as r : List Value) (h : eH) (kc ks : Nat) (kr : Option Value → eH → Nat → Nat → Prop) (kt : Nat → eH → Nat → Nat → Prop) : Prop :=
  (Nat.ble (eCat r) 8 = true ∧ kc + (mCo (T a)).1 ≤ (mCo M).1 ∧ ks + (mCo (T a)).2 ≤ (mCo M).2) ∧
    C a as h (fun o h' => match o with
      | .inl v => kr v h' (kc + (mCo (T a)).1) (ks + (mCo (T a)).2)
      | .inr E => kt E h' (kc + (mCo (T a)).1) (ks + (mCo (T a)).2))
def eRetK (n : Nat) (ls : eL) (r : List Value) (K : eK) : Option Value → eH → Nat → Nat → Prop := fun v h kc ks => match v with
  | some w => K n ls (w :: r) h kc ks
  | none => K n ls r h kc ks
def eThrK (M : eM) (Q : eQ) (pc : Nat) (ls : eL) (K : eK) : Nat → eH → Nat → Nat → Prop := fun E h kc ks => match eHnd (mHh M) pc E with
  | some hp => (match eAt (mPr M) hp with
    | some (.astore_n _, n, a, _, _) => eFil1 a ls (fun l' => K n l' [] h kc ks)
    | some (.astore _, n, a, _, _) => eFil1 a ls (fun l' => K n l' [] h kc ks)
    | _ => False)
  | none => mHh M = [] ∧ Q (.inr E) h
def eNar (rt : Option FieldType) (x : Int32) : Prop := match rt with
  | some ty => narrow ty (.int x) = .int x
  | none => False
def eEnd (M : eM) (Q : eQ) (v : Option Value) (h : eH) (kc ks : Nat) : Prop := (kc ≤ (mCo M).1 ∧ ks ≤ (mCo M).2) ∧ Q (.inl v) h
/-- one instruction -/
def okI (S : Nat × (Nat → Int32)) (T : Nat → eM) (C : eC) (M : eM) (d : Nat) (Q : eQ) (i : Instr) (n a b c : Nat) (pc : Nat) (ls : eL) (st : List Value) (h : eH) (kc ks : Nat) (K : eK) : Prop :=
  match i with
  | .aload_n _ => pLd 0 ls a (fun v => K n ls (v :: st) h kc ks)
  | .aload _ => pLd 0 ls a (fun v => K n ls (v :: st) h kc ks)
  | .iload_n _ => pLd 1 ls a (fun v => K n ls (v :: st) h kc ks)
  | .iload _ => pLd 1 ls a (fun v => K n ls (v :: st) h kc ks)
  | .lload_n _ => pLd 2 ls a (fun v => K n ls (v :: st) h kc ks)
  | .lload _ => pLd 2 ls a (fun v => K n ls (v :: st) h kc ks)
  | .fload _ => pLd 3 ls a (fun v => K n ls (v :: st) h kc ks)
  | .dload _ => pLd 4 ls a (fun v => K n ls (v :: st) h kc ks)
  | .astore_n _ => pSt1 0 st a ls (fun l' r => K n l' r h kc ks)
  | .astore _ => pSt1 0 st a ls (fun l' r => K n l' r h kc ks)
  | .istore_n _ => pSt1 1 st a ls (fun l' r => K n l' r h kc ks)
  | .istore _ => pSt1 1 st a ls (fun l' r => K n l' r h kc ks)
  | .fstore _ => pSt1 3 st a ls (fun l' r => K n l' r h kc ks)
  | .lstore_n _ => pSt2 2 st a ls (fun l' r => K n l' r h kc ks)
  | .lstore _ => pSt2 2 st a ls (fun l' r => K n l' r h kc ks)
  | .dstore _ => pSt2 4 st a ls (fun l' r => K n l' r h kc ks)
  | .iinc _ _ => pLd 1 ls a (fun v => match v with
    | .int x => eFil1 a ls (fun l' => K n ((a, .int (bif c == 1 then x - nI b else x + nI b)) :: l') st h kc ks)
    | _ => False)
  | .iconst _ => bif b == 1 then K n ls (.int (-1) :: st) h kc ks else K n ls (.int (nI a) :: st) h kc ks
  | .bipush _ => K n ls (.int (nI a) :: st) h kc ks
  | .sipush _ => K n ls (.int (nI a) :: st) h kc ks
  | .ldc _ => K n ls (.int (nI a) :: st) h kc ks
  | .ldc_w _ => K n ls (.int (nI a) :: st) h kc ks
  | .lconst _ => K n ls (.long (lN a) :: st) h kc ks
  | .ldc2_w _ => bif b == 1 then K n ls (.long (-1) :: st) h kc ks else K n ls (.long (lN a) :: st) h kc ks
  | .fconst _ => bif a == 0 then K n ls (.float FP.fconst0 :: st) h kc ks else False
  | .dconst _ => bif a == 0 then K n ls (.double FP.dconst0 :: st) h kc ks else False
  | .iadd => pII (fun x y => x + y) st (fun r => K n ls r h kc ks)
  | .isub => pII (fun x y => x - y) st (fun r => K n ls r h kc ks)
  | .imul => pII (fun x y => x * y) st (fun r => K n ls r h kc ks)
  | .iand => pII (fun x y => x &&& y) st (fun r => K n ls r h kc ks)
  | .ior => pII (fun x y => x ||| y) st (fun r => K n ls r h kc ks)
  | .ixor => pII (fun x y => x ^^^ y) st (fun r => K n ls r h kc ks)
  | .ishl => pII (fun x y => x <<< (y &&& 31)) st (fun r => K n ls r h kc ks)
  | .ishr => pII (fun x y => x >>> (y &&& 31)) st (fun r => K n ls r h kc ks)
  | .iushr => pII (fun x y => (x.toUInt32 >>> (y.toUInt32 &&& 31)).toInt32) st (fun r => K n ls r h kc ks)
  | .irem => mI st (fun y r => mI r (fun x r => ¬ y = 0 ∧ K n ls (.int (x - x / y * y) :: r) h kc ks))
  | .ineg => pI (fun x => .int (-x)) st (fun r => K n ls r h kc ks)
  | .i2l => pI (fun x => .long x.toInt64) st (fun r => K n ls r h kc ks)
  | .i2f => pI (fun x => .float (FP.i2f x)) st (fun r => K n ls r h kc ks)
  | .i2d => pI (fun x => .double (FP.i2d x)) st (fun r => K n ls r h kc ks)
  | .l2i => pL (fun x => .int x.toInt32) st (fun r => K n ls r h kc ks)
  | .ladd => pLL (fun x y => .long (x + y)) st (fun r => K n ls r h kc ks)
  | .lsub => pLL (fun x y => .long (x - y)) st (fun r => K n ls r h kc ks)
  | .lmul => pLL (fun x y => .long (x * y)) st (fun r => K n ls r h kc ks)
  | .land => pLL (fun x y => .long (x &&& y)) st (fun r => K n ls r h kc ks)
  | .lor => pLL (fun x y => .long (x ||| y)) st (fun r => K n ls r h kc ks)
  | .lxor => pLL (fun x y => .long (x ^^^ y)) st (fun r => K n ls r h kc ks)
  | .lcmp => pLL (fun x y => .int (lg_cmp x y)) st (fun r => K n ls r h kc ks)
  | .lshl => pLI (fun x y => x <<< (y.toInt64 &&& 63)) st (fun r => K n ls r h kc ks)
  | .lushr => pLI (fun x y => (x.toUInt64 >>> (y.toInt64.toUInt64 &&& Int64.toUInt64 63)).toInt64) st (fun r => K n ls r h kc ks)
  | .fdiv => mF st (fun y r => mF r (fun x r => vf_n32 (FP.fdiv x y) ∧ K n ls (.float (FP.fdiv x y) :: r) h kc ks))
  | .ddiv => mD st (fun y r => mD r (fun x r => vf_n64 (FP.ddiv x y) ∧ K n ls (.double (FP.ddiv x y) :: r) h kc ks))
  | .f2d => mF st (fun x r => vf_n64 (FP.f2d x) ∧ K n ls (.double (FP.f2d x) :: r) h kc ks)
  | .fcmp op => mF st (fun y r => mF r (fun x r => K n ls (.int (Op.cmpValue (FP.fcmp x y) op) :: r) h kc ks))
  | .dcmp op => mD st (fun y r => mD r (fun x r => K n ls (.int (Op.cmpValue (FP.dcmp x y) op) :: r) h kc ks))
  | .dup => mV st (fun v r => bif v.category == 1 then K n ls (v :: v :: r) h kc ks else False)
  | .pop => mV st (fun v r => bif v.category == 1 then K n ls r h kc ks else False)
  | .dup2 => mV st (fun v r => mV r (fun w r => bif v.category == 1 && w.category == 1 then K n ls (v :: w :: v :: w :: r) h kc ks else False))
  | .ifCond cd _ => (match cd with
    | .eq => bI (fun x => x = 0) st (fun r => K a ls r h kc ks) (fun r => K n ls r h kc ks)
    | .ne => bI (fun x => x = 0) st (fun r => K n ls r h kc ks) (fun r => K a ls r h kc ks)
    | .lt => bI (fun x => x < 0) st (fun r => K a ls r h kc ks) (fun r => K n ls r h kc ks)
    | .ge => bI (fun x => 0 ≤ x) st (fun r => K a ls r h kc ks) (fun r => K n ls r h kc ks)
    | .gt => bI (fun x => 0 < x) st (fun r => K a ls r h kc ks) (fun r => K n ls r h kc ks)
    | .le => bI (fun x => x ≤ 0) st (fun r => K a ls r h kc ks) (fun r => K n ls r h kc ks))
  | .if_icmp cd _ => (match cd with
    | .eq => bII (fun x y => x = y) st (fun r => K a ls r h kc ks) (fun r => K n ls r h kc ks)
    | .ne => bII (fun x y => x = y) st (fun r => K n ls r h kc ks) (fun r => K a ls r h kc ks)
    | .lt => bII (fun x y => x < y) st (fun r => K a ls r h kc ks) (fun r => K n ls r h kc ks)
    | .ge => bII (fun x y => y ≤ x) st (fun r => K a ls r h kc ks) (fun r => K n ls r h kc ks)
    | .gt => bII (fun x y => y < x) st (fun r => K a ls r h kc ks) (fun r => K n ls r h kc ks)
    | .le => bII (fun x y => x ≤ y) st (fun r => K a ls r h kc ks) (fun r => K n ls r h kc ks))
  | .goto _ => K a ls st h kc ks
  | .tableswitch _ lo hi offs => mI st (fun x r => (x.toInt < lo ∨ hi < x.toInt → K a ls r h kc ks) ∧ (∀ (j : Nat) (off : Int) (t : Nat), ¬ x.toInt < lo → ¬ hi < x.toInt → (x.toInt - lo).toNat = j → offs[j]? = some off → (pc : Int) + off = (t : Int) → K t ls r h kc ks))
  | .getfield _ => mR st (fun q r => mO q (fun q => ∃ (fs : List Value) (v : Value), h.2[q]? = some (.inr (a, fs)) ∧ fs[b]? = some v ∧ K n ls (v :: r) h kc ks))
  | .putfield _ => mV st (fun v r => mR r (fun q r => mO q (fun q => bif eTy (eFty a b) v then ∃ (fs : List Value), h.2[q]? = some (.inr (a, fs)) ∧ Nat.blt b fs.length = true ∧ K n ls r (h.1, h.2.set q (.inr (a, fs.set b v))) kc ks else False)))
  | .arraylength => mR st (fun q r => match q with
      | 0 => K n ls (.int (Int32.ofNat S.1) :: r) h kc ks
      | q + 1 => ∃ (t : Nat) (x : vp_A), h.2[q]? = some (.inl (t, x)) ∧ t ≤ 4 ∧ K n ls (.int (Int32.ofNat x.1) :: r) h kc ks)
  | .iaload => mI st (fun j r => mR r (fun q r => match q with
      | 0 => vp_in j S.1 ∧ K n ls (.int (S.2 j.toNatClampNeg) :: r) h kc ks
      | q + 1 => ∃ (N : Nat) (f : Nat → Int32), h.2[q]? = some (.inl (0, N, .inl f)) ∧ vp_in j N ∧ K n ls (.int (f j.toNatClampNeg) :: r) h kc ks))
  | .baload => mI st (fun j r => mR r (fun q r => mO q (fun q => ∃ (N : Nat) (f : Nat → Int32), h.2[q]? = some (.inl (1, N, .inl f)) ∧ vp_in j N ∧ K n ls (.int (f j.toNatClampNeg) :: r) h kc ks)))
  | .laload => mI st (fun j r => mR r (fun q r => mO q (fun q => ∃ (N : Nat) (f : Nat → Int64), h.2[q]? = some (.inl (2, N, .inr (.inl f))) ∧ vp_in j N ∧ K n ls (.long (f j.toNatClampNeg) :: r) h kc ks)))
  | .daload => mI st (fun j r => mR r (fun q r => mO q (fun q => ∃ (N : Nat) (f : Nat → UInt64), h.2[q]? = some (.inl (3, N, .inr (.inr (.inr (.inl f))))) ∧ vp_in j N ∧ K n ls (.double (f j.toNatClampNeg) :: r) h kc ks)))
  | .aaload => mI st (fun j r => mR r (fun q r => mO q (fun q => ∃ (N : Nat) (f : Nat → Option Nat) (z : Nat), h.2[q]? = some (.inl (4, N, .inr (.inr (.inr (.inr f))))) ∧ vp_in j N ∧ f j.toNatClampNeg = some z ∧ K n ls (.ref z :: r) h kc ks)))
  | .iastore => mI st (fun x r => mI r (fun j r => mR r (fun q r => mO q (fun q => ∃ (N : Nat) (f : Nat → Int32), h.2[q]? = some (.inl (0, N, .inl f)) ∧ vp_in j N ∧ K n ls r (h.1, h.2.set q (.inl (0, N, .inl (upd f j.toNatClampNeg x)))) kc ks))))
  | .bastore => mI st (fun x r => mI r (fun j r => mR r (fun q r => mO q (fun q => ∃ (N : Nat) (f : Nat → Int32), h.2[q]? = some (.inl (1, N, .inl f)) ∧ vp_in j N ∧ K n ls r (h.1, h.2.set q (.inl (1, N, .inl (upd f j.toNatClampNeg (vp_nar .boolean x))))) kc ks))))
  | .lastore => mJ st (fun x r => mI r (fun j r => mR r (fun q r => mO q (fun q => ∃ (N : Nat) (f : Nat → Int64), h.2[q]? = some (.inl (2, N, .inr (.inl f))) ∧ vp_in j N ∧ K n ls r (h.1, h.2.set q (.inl (2, N, .inr (.inl (vp_updL f j.toNatClampNeg x))))) kc ks))))
  | .dastore => mD st (fun x r => mI r (fun j r => mR r (fun q r => mO q (fun q => ∃ (N : Nat) (f : Nat → UInt64), h.2[q]? = some (.inl (3, N, .inr (.inr (.inr (.inl f))))) ∧ vp_in j N ∧ K n ls r (h.1, h.2.set q (.inl (3, N, .inr (.inr (.inr (.inl (vf_upd f j.toNatClampNeg x))))))) kc ks))))
  | .aastore => mR st (fun z r => mO z (fun z => mI r (fun j r => mR r (fun q r => mO q (fun q => ∃ (N : Nat) (f : Nat → Option Nat) (fs : List Value), h.2[q]? = some (.inl (4, N, .inr (.inr (.inr (.inr f))))) ∧ vp_in j N ∧ h.2[z]? = some (.inr (1, fs)) ∧ K n ls r (h.1, h.2.set q (.inl (4, N, .inr (.inr (.inr (.inr (va_up f j.toNatClampNeg (some (z + 1))))))))) kc ks)))))
  | .newarray _ => mI st (fun j r => (h.1 = true ∧ ¬ j < 0 ∧ j.toNatClampNeg ≤ 1000 ∧ kc + 1 ≤ (mCo M).1 ∧ ks + j.toNatClampNeg ≤ (mCo M).2) ∧ K n ls (.ref (h.2.length + 1) :: r) (h.1, h.2 ++ [eArr a j.toNatClampNeg]) (kc + 1) (ks + j.toNatClampNeg))
  | .anewarray _ => mI st (fun j r => (h.1 = true ∧ ¬ j < 0 ∧ j.toNatClampNeg ≤ 1000 ∧ kc + 1 ≤ (mCo M).1 ∧ ks + j.toNatClampNeg ≤ (mCo M).2) ∧ K n ls (.ref (h.2.length + 1) :: r) (h.1, h.2 ++ [eArr 4 j.toNatClampNeg]) (kc + 1) (ks + j.toNatClampNeg))
  | .new _ => bif c == 1 then ((6 ≤ d ∧ Nat.ble (eCat st) 8 = true ∧ mHh M = []) ∧ (kc + 1 ≤ (mCo M).1 ∧ ks + 6 ≤ (mCo M).2) ∧ Q (.inr a) (false, h.2))
    else ((h.1 = true ∧ kc + 1 ≤ (mCo M).1 ∧ ks + (eNew a).length ≤ (mCo M).2) ∧ K n ls (.ref (h.2.length + 1) :: st) (h.1, h.2 ++ [.inr (a, eNew a)]) (kc + 1) (ks + (eNew a).length))
  | .invokevirtual _ => eArg b st [] (fun as r => mR as (fun q _ => mO q (fun q => ∃ fs : List Value, h.2[q]? = some (.inr (mCi (T a), fs)) ∧ eCall T C M a as r h kc ks (eRetK n ls r K) (eThrK M Q pc ls K))))
  | .invokestatic _ => eArg b st [] (fun as r => bif c == 0 then eCall T C M a as r h kc ks (eRetK n ls r K) (eThrK M Q pc ls K) else eCall T C M a as r h kc ks (eRetK n ls r K) (fun _ _ _ _ => False))
  | .invokespecial _ => bif c == 2 then mR st (fun _ r => Nat.ble (eCat r) 8 = true ∧ 1 ≤ d ∧ K n ls r h kc ks)
    else eArg b st [] (fun as r => mR as (fun _ _ => eCall T C M a as r h kc ks (eRetK n ls r K) (fun _ _ _ _ => False)))
  | .ireturn => mI st (fun x r => mN r (eNar (mRt M) x ∧ eEnd M Q (some (.int x)) h kc ks))
  | .lreturn => mJ st (fun x r => mN r (eEnd M Q (some (.long x)) h kc ks))
  | .freturn => mF st (fun x r => mN r (eEnd M Q (some (.float x)) h kc ks))
  | .dreturn => mD st (fun x r => mN r (eEnd M Q (some (.double x)) h kc ks))
  | .areturn => mR st (fun x r => mN r (eEnd M Q (some (.ref x)) h kc ks))
  | .return_ => mN st (eEnd M Q none h kc ks)
  | _ => False
def eStep (S : Nat × (Nat → Int32)) (T : Nat → eM) (C : eC) (M : eM) (d : Nat) (Q : eQ) (K : eK) (pc : Nat) (ls : eL) (st : List Value) (h : eH) (kc ks : Nat) : Prop := match eAt (mPr M) pc with
  | some (i, n, a, b, c) => okI S T C M d Q i n a b c pc ls st h kc ks K
  | none => False
/-- the walk from a place ends well -/
def eOk (S : Nat × (Nat → Int32)) (T : Nat → eM) (C : eC) (M : eM) (d : Nat) (Q : eQ) (pc : Nat) (ls : eL) (st : List Value) (h : eH) (kc ks : Nat) : Prop :=
  ∀ K : eK, (∀ (pc : Nat) (ls : eL) (st : List Value) (h : eH) (kc ks : Nat), eStep S T C M d Q K pc ls st h kc ks → K pc ls st h kc ks) → K pc ls st h kc ks
/-- a call, at most d deep -/
def okCall (S : Nat × (Nat → Int32)) (T : Nat → eM) : Nat → eC
  | 0 => fun _ _ _ _ => False
  | d + 1 => fun m as h Q => Nat.ble (eCat as) (mLo (T m)) = true ∧ eOk S T (okCall S T d) (T m) (d + 1) Q 0 (lv_args 0 as) [] h 0 0
end
section
/-! THE ENGINE: what is checked of a method's text against the tables -/
def eLen (pc : Nat) (i : Instr) (n : Nat) : Nat := match i with
  | .aload _ | .iload _ | .lload _ | .fload _ | .dload _ | .astore _ | .istore _ | .lstore _ | .fstore _ | .dstore _ | .bipush _ | .ldc _ | .newarray _ => 2
  | .sipush _ | .ldc_w _ | .ldc2_w _ | .iinc _ _ | .ifCond _ _ | .if_icmp _ _ | .goto _ | .getfield _ | .putfield _ | .new _ | .anewarray _ | .invokevirtual _ | .invokestatic _ | .invokespecial _ => 3
  | .tableswitch .. => n - pc
  | _ => 1
def eIns (M : eM) (pc : Nat) (i : Instr) (a b c : Nat) : Bool := match i with
  | .aload_n j | .iload_n j | .lload_n j => j.val == a
  | .aload j | .iload j | .lload j | .fload j | .dload j => j == a
  | .astore_n j | .istore_n j => j.val == a && Nat.blt a (mLo M)
  | .lstore_n j => j.val == a && Nat.blt (a + 1) (mLo M)
  | .astore j | .istore j | .fstore j => j == a && Nat.blt a (mLo M)
  | .lstore j | .dstore j => j == a && Nat.blt (a + 1) (mLo M)
  | .iinc j v => j == a && Nat.blt a (mLo M) && (bif c == 1 then decide (Int32.ofInt v = - nI b) else decide (Int32.ofInt v = nI b))
  | .iconst v => bif b == 1 then decide (Int32.ofInt v = -1) else decide (Int32.ofInt v = nI a)
  | .bipush v => decide ((Int8.ofInt v).toInt32 = nI a)
  | .sipush v => decide ((Int16.ofInt v).toInt32 = nI a)
  | .lconst v => decide (Int64.ofNat (v : Nat) = lN a)
  | .fconst v => decide (v = 0)
  | .dconst v => decide (v = 0)
  | .ifCond _ off | .if_icmp _ off | .goto off => decide ((pc : Int) + off = (a : Int))
  | .tableswitch dflt _ _ _ => decide ((pc : Int) + dflt = (a : Int))
  | .new _ => bif c == 1 then Nat.ble a 3 else true
  | .lreturn => decide (mRt M = some .long)
  | .freturn => decide (mRt M = some .float)
  | .dreturn => decide (mRt M = some .double)
  | .areturn => decide (mRt M = some (.object RX1))
  | .return_ => decide (mRt M = none)
  | _ => true
def eChk (M : eM) (e : eE) : Bool := decide (decode (mBy M) e.1 = .ok (e.2.1, eLen e.1 e.2.1 e.2.2.1)) && (e.2.2.1 == e.1 + eLen e.1 e.2.1 e.2.2.1) && eIns M e.1 e.2.1 e.2.2.2.1 e.2.2.2.2.1 e.2.2.2.2.2
/-- the kind of row under a number -/
def eTyA (t : Nat) : FieldType := match t with
  | 0 => .int
  | 1 => .boolean
  | 2 => .long
  | 3 => .double
  | _ => .object RX1
/-- the words that are no good words and are carried by hand -/
def eNgw (w : Cond) : Bool := match w with
  | .methodLinkNest .. | .castable .. | .declares _ => true
  | _ => false
/-- a word of the tables that holds at every entry -/
def eW (w : Cond) : Prop := w ∈ lw_tbl ∧ goodWord w = true
def eX (w : Cond) : Prop := w ∈ lw_tbl ∧ eNgw w = true
def mWd (M : eM) : Cond := match mHh M with
  | [] => .code (mNm M) (mBy M) (mLo M) (mRt M)
  | _ => .codeWith (mNm M) (mBy M) (mLo M) (mRt M) (mHh M)
/-- what every method's name and code say -/
def eMeth (Y : eM) : Prop := eW (mWd Y) ∧ eW (.initialized (mNm Y).cls) ∧ ((mNm Y).cls ≠ "java/lang/invoke/MethodHandle" ∧ (mNm Y).cls ≠ "java/lang/invoke/VarHandle") ∧ plainName (mNm Y).cls = true ∧ mLo Y ≤ 19
def eAri (Y : eM) (n : Nat) : Prop := (parseMethodDescriptor (mNm Y).desc).map (fun d => d.parameters.length) = some n
def exS : List String := ["java/lang/RuntimeException", "java/lang/Exception"]
/-- the words of a throw of kind a -/
def eThW (own : String) (ic a : Nat) : List Cond := if a = 3 then vy_at own ic (exN 3) "java/lang/RuntimeException" 13 nseB ["java/lang/Exception"] else vx_atS own ic (exN a) exS
def eLink (T : Nat → eM) (M : eM) (e : eE) : Prop := match e with
  | (pc, i, _, a, b, c) => match i with
    | .getfield x => ∃ (C : String) (TT : u_T) (N : Nat), vwCl[a]? = some (C, TT, N) ∧ b < N ∧ eW (.fieldLink (mNm M).cls x (TT b).1 (TT b).2.1 (TT b).2.2.1)
    | .putfield x => ∃ (C : String) (TT : u_T) (N : Nat), vwCl[a]? = some (C, TT, N) ∧ b < N ∧ eW (.fieldLink (mNm M).cls x (TT b).1 (TT b).2.1 (TT b).2.2.1) ∧ ((TT b).2.2.2 = true → (mNm M).name = "<init>" ∧ (TT b).1 = (mNm M).cls)
    | .new x => if c = 1 then eW (.classLink (mNm M).cls x (exN a)) ∧ eW (.initialized (exN a)) ∧ (∃ (is ic : Nat) (tx : String), Cond.stringRef (mNm M).cls is tx ∈ tables_1 ∧ (∀ w ∈ eThW (mNm M).cls ic a, eW w ∨ eX w) ∧ decode (mBy M) (pc + 3) = .ok (.dup, 1) ∧
        ((decode (mBy M) (pc + 4) = .ok (.ldc is, 2) ∧ decode (mBy M) (pc + 6) = .ok (.invokespecial ic, 3) ∧ decode (mBy M) (pc + 9) = .ok (.athrow, 1)) ∨ (decode (mBy M) (pc + 4) = .ok (.ldc_w is, 3) ∧ decode (mBy M) (pc + 7) = .ok (.invokespecial ic, 3) ∧ decode (mBy M) (pc + 10) = .ok (.athrow, 1))))
      else ∃ (C : String) (TT : u_T) (N : Nat), vwCl[a]? = some (C, TT, N) ∧ eW (.classLink (mNm M).cls x C) ∧ eW (.instantiable C N) ∧ eW (.initialized C)
    | .tableswitch _ lo hi offs => offs.size = (hi - lo + 1).toNat ∧ ∀ off ∈ offs.toList, 0 ≤ (pc : Int) + off
    | .newarray at9 => eW (.arrayClass (newarray.typeOf at9)) ∧ newarray.typeOf at9 = eTyA a ∧ a ≤ 3
    | .anewarray x => eW (.classLink (mNm M).cls x RX1)
    | .ldc x => eW (.constant (mNm M).cls x (nI a))
    | .ldc_w x => eW (.constant (mNm M).cls x (nI a))
    | .ldc2_w x => if b = 1 then eW (.constantLong (mNm M).cls x (-1)) else eW (.constantLong (mNm M).cls x (lN a))
    | .invokevirtual x => eMeth (T a) ∧ mHh (T a) = [] ∧ (∃ n, b = n + 1 ∧ eAri (T a) n) ∧ (∃ q : vw_C, vwCl[mCi (T a)]? = some q ∧ q.1 = (mNm (T a)).cls) ∧ eW (.methodLink (mNm M).cls x (mNm (T a))) ∧ eW (.instanceMethod (mNm (T a))) ∧ eW (.selects (mNm (T a)).cls (mNm (T a)) (mNm (T a)))
    | .invokestatic x => eMeth (T a) ∧ eAri (T a) b ∧ eW (.static (mNm (T a))) ∧ (if c = 0 then mHh (T a) = [] ∧ eW (.methodLink (mNm M).cls x (mNm (T a))) else if c = 1 then mHh (T a) = [] ∧ eX (.methodLinkNest (mNm M).cls x (mNm (T a)) RX6) else mHh (T a) ≠ [] ∧ eW (.methodLink (mNm M).cls x (mNm (T a))))
    | .invokespecial x => if c = 2 then eW (.methodLink (mNm M).cls x objectInit) ∧ eW (.instanceMethod objectInit) ∧ eW (.code objectInit ⟨#[0xb1]⟩ 1 none)
      else eMeth (T a) ∧ mHh (T a) = [] ∧ mRt (T a) = none ∧ (mNm (T a)).name = "<init>" ∧ (∃ n, b = n + 1 ∧ eAri (T a) n) ∧ eW (.instanceMethod (mNm (T a))) ∧ (if c = 0 then eW (.methodLink (mNm M).cls x (mNm (T a))) else eX (.methodLinkNest (mNm M).cls x (mNm (T a)) RX6))
    | _ => True
/-- a method whose text is checked -/
def eMok (T : Nat → eM) (M : eM) : Prop := (∀ e ∈ (mPr M).flatten, eChk M e = true) ∧ (∀ e ∈ (mPr M).flatten, eLink T M e) ∧ (∀ x ∈ mHh M, x.2.2.2 ≠ 0 ∧ eHc x.2.2.2 ≤ 3 ∧ eW (.classLink (mNm M).cls x.2.2.2 (exN (eHc x.2.2.2))))
/-! what is known of the six kinds of objects -/
def eCls (q : vw_C) : Prop := (∀ w ∈ u_ws q.1 q.2.1 q.2.2, eW w) ∧ (∀ a, a < q.2.2 → ∀ b, b < q.2.2 → a ≠ b → (q.2.1 a).2.1 ≠ (q.2.1 b).2.1)
end
section
/-! THE ENGINE: what its heap stands for -/
def eAd (base b : Nat) : Nat → Nat
  | 0 => b
  | k + 1 => base + k
def eV (base b : Nat) (v : Value) : Value := match v with
  | .ref k => .ref (eAd base b k)
  | v => v
def eZ (dA : Nat → ClassId) (base b : Nat) (o : va_E) : va_E := match o with
  | .inl (t, n, x) => .inl (dA t, n, match x with
    | .inr (.inr (.inr (.inr f))) => .inr (.inr (.inr (.inr (fun j => (f j).map (eAd base b)))))
    | x => x)
  | .inr (ci, fs) => .inr (ci, fs.map (eV base b))
def eRH (D : va_G) (dA : Nat → ClassId) (base b : Nat) (h : eH) (H : Heap) : Prop :=
  (∀ (k : Nat) (o : va_E), h.2[k]? = some o → va_at D vwCl (base + k, eZ dA base b o) H) ∧ (h.1 = true → H.size = base + h.2.length) ∧ base + h.2.length ≤ H.size
def eEV (S : Nat × (Nat → Int32)) (D : va_G) (dA : Nat → ClassId) (base b : Nat) (U : State) : Prop :=
  (∀ w, eX w → va_Nw w U) ∧ (∀ (own : String) (k : Nat) (tx : String), Cond.stringRef own k tx ∈ tables_1 → ∃ a, vk_R own k tx a U) ∧
  vx_Zq Bundle.tN "UNASSIGNED_STACK" Bundle.steD (fun q => base ≤ q) U U.heap ∧ vx_Zq Bundle.tN "SUPPRESSED_SENTINEL" Bundle.listD (fun q => base ≤ q) U U.heap ∧
  va_AO RX1 U ∧ va_K D vwCl [] U ∧ (∀ t, t ≤ 4 → ArrOfT U (dA t) (eTyA t) ∧ va_RA U (dA t) (eTyA t)) ∧
  va_X b S.1 S.2 U U.heap ∧ b < base ∧ base ≤ U.heap.size ∧ (∀ E n, E ≤ 3 → n ≤ 3 → E ≠ n → va_Nc (exN E) (exN n) U)
theorem eV_cat (base b : Nat) (v : Value) : (eV base b v).category = v.category := by cases v <;> rfl
theorem eCat_sum (base b : Nat) : ∀ r : List Value, ((r.map (eV base b)).map fun v => v.category).sum = eCat r
  | [] => rfl
  | v :: r => by
    have ih := eCat_sum base b r
    simp only [List.map_cons, List.sum_cons, eV_cat, eCat] at ih ⊢
    rw [ih]
abbrev eLs (base b : Nat) (ls : eL) : List (Nat × Value) := ls.map (fun q => (q.1, eV base b q.2))
theorem eFil1_spec {i : Nat} : ∀ {ls : eL} {k : eL → Prop}, eFil1 i ls k → k (ls.filter (fun q => !(q.1 == i) && !(q.1 + 1 == i && q.2.category == 2)))
  | [], _, h => h
  | q :: r, k, h => by
    unfold eFil1 at h
    rw [List.filter_cons]
    cases hc : (!(q.1 == i) && !(q.1 + 1 == i && q.2.category == 2)) with
    | true => rw [hc] at h; exact eFil1_spec (ls := r) (k := fun r' => k (q :: r')) h
    | false => rw [hc] at h; exact eFil1_spec (ls := r) (k := k) h
theorem eFil2_spec {i : Nat} : ∀ {ls : eL} {k : eL → Prop}, eFil2 i ls k → k (ls.filter (fun q => !(q.1 == i) && (!(q.1 == i + 1) && !(q.1 + 1 == i && q.2.category == 2))))
  | [], _, h => h
  | q :: r, k, h => by
    unfold eFil2 at h
    rw [List.filter_cons]
    cases hc : (!(q.1 == i) && (!(q.1 == i + 1) && !(q.1 + 1 == i && q.2.category == 2))) with
    | true => rw [hc] at h; exact eFil2_spec (ls := r) (k := fun r' => k (q :: r')) h
    | false => rw [hc] at h; exact eFil2_spec (ls := r) (k := k) h
theorem eFil1_map (base b i : Nat) (v : Value) (ls : eL) : (i, eV base b v) :: (eLs base b ls).filter (fun q => !(q.1 == i) && !(q.1 + 1 == i && q.2.category == 2)) = eLs base b ((i, v) :: ls.filter (fun q => !(q.1 == i) && !(q.1 + 1 == i && q.2.category == 2))) := by
  show _ = (i, eV base b v) :: _
  congr 1
  rw [List.filter_map]
  congr 1
  refine List.filter_congr fun q _ => ?_
  simp only [Function.comp, eV_cat]
theorem eFil2_map (base b i : Nat) (v : Value) (ls : eL) : (i, eV base b v) :: (eLs base b ls).filter (fun q => !(q.1 == i) && (!(q.1 == i + 1) && !(q.1 + 1 == i && q.2.category == 2))) = eLs base b ((i, v) :: ls.filter (fun q => !(q.1 == i) && (!(q.1 == i + 1) && !(q.1 + 1 == i && q.2.category == 2)))) := by
  show _ = (i, eV base b v) :: _
  congr 1
  rw [List.filter_map]
  congr 1
  refine List.filter_congr fun q _ => ?_
  simp only [Function.comp, eV_cat]
theorem lkp_mem : ∀ {ls : eL} {i : Nat} {v : Value}, lkp ls i = some v → (i, v) ∈ ls
  | [], _, _, h => by cases h
  | q :: r, i, v, h => by
    unfold lkp at h
    cases hq : q.1 == i with
    | true =>
      rw [hq] at h
      have h1 : q.2 = v := Option.some.inj h
      have h2 : q.1 = i := eq_of_beq hq
      rw [← h1, ← h2]
      exact List.mem_cons_self
    | false => rw [hq] at h; exact List.mem_cons_of_mem _ (lkp_mem h)
theorem lkp_has {base b nL : Nat} {lsA : Array Slot} {ls : eL} {i : Nat} {v : Value} (hl : lv_has lsA nL (eLs base b ls)) (h : lkp ls i = some v) : lsA[i]? = some (.val (eV base b v)) :=
  hl.2.2 (i, eV base b v) (List.mem_map.mpr ⟨(i, v), lkp_mem h, rfl⟩)
-- what the small words say
theorem pII_s {f : Int32 → Int32 → Int32} {st : List Value} {k : List Value → Prop} (h : pII f st k) : ∃ x y r, st = .int y :: .int x :: r ∧ k (.int (f x y) :: r) := by
  unfold pII at h
  split at h
  · exact ⟨_, _, _, rfl, h⟩
  · exact h.elim
theorem pLL_s {f : Int64 → Int64 → Value} {st : List Value} {k : List Value → Prop} (h : pLL f st k) : ∃ x y r, st = .long y :: .long x :: r ∧ k (f x y :: r) := by
  unfold pLL at h
  split at h
  · exact ⟨_, _, _, rfl, h⟩
  · exact h.elim
theorem pLI_s {f : Int64 → Int32 → Int64} {st : List Value} {k : List Value → Prop} (h : pLI f st k) : ∃ x y r, st = .int y :: .long x :: r ∧ k (.long (f x y) :: r) := by
  unfold pLI at h
  split at h
  · exact ⟨_, _, _, rfl, h⟩
  · exact h.elim
theorem pI_s {f : Int32 → Value} {st : List Value} {k : List Value → Prop} (h : pI f st k) : ∃ x r, st = .int x :: r ∧ k (f x :: r) := by
  unfold pI at h
  split at h
  · exact ⟨_, _, rfl, h⟩
  · exact h.elim
theorem pL_s {f : Int64 → Value} {st : List Value} {k : List Value → Prop} (h : pL f st k) : ∃ x r, st = .long x :: r ∧ k (f x :: r) := by
  unfold pL at h
  split at h
  · exact ⟨_, _, rfl, h⟩
  · exact h.elim
theorem bI_s {P : Int32 → Prop} {st : List Value} {kt kf : List Value → Prop} (h : bI P st kt kf) : ∃ x r, st = .int x :: r ∧ (P x → kt r) ∧ (¬ P x → kf r) := by
  unfold bI at h
  split at h
  · exact ⟨_, _, rfl, h⟩
  · exact h.elim
theorem bII_s {P : Int32 → Int32 → Prop} {st : List Value} {kt kf : List Value → Prop} (h : bII P st kt kf) : ∃ x y r, st = .int y :: .int x :: r ∧ (P x y → kt r) ∧ (¬ P x y → kf r) := by
  unfold bII at h
  split at h
  · exact ⟨_, _, _, rfl, h⟩
  · exact h.elim
theorem mR_s {st : List Value} {k : Nat → List Value → Prop} (h : mR st k) : ∃ q r, st = .ref q :: r ∧ k q r := by
  unfold mR at h
  split at h
  · exact ⟨_, _, rfl, h⟩
  · exact h.elim
theorem mI_s {st : List Value} {k : Int32 → List Value → Prop} (h : mI st k) : ∃ x r, st = .int x :: r ∧ k x r := by
  unfold mI at h
  split at h
  · exact ⟨_, _, rfl, h⟩
  · exact h.elim
theorem mJ_s {st : List Value} {k : Int64 → List Value → Prop} (h : mJ st k) : ∃ x r, st = .long x :: r ∧ k x r := by
  unfold mJ at h
  split at h
  · exact ⟨_, _, rfl, h⟩
  · exact h.elim
theorem mF_s {st : List Value} {k : UInt32 → List Value → Prop} (h : mF st k) : ∃ x r, st = .float x :: r ∧ k x r := by
  unfold mF at h
  split at h
  · exact ⟨_, _, rfl, h⟩
  · exact h.elim
theorem mD_s {st : List Value} {k : UInt64 → List Value → Prop} (h : mD st k) : ∃ x r, st = .double x :: r ∧ k x r := by
  unfold mD at h
  split at h
  · exact ⟨_, _, rfl, h⟩
  · exact h.elim
theorem mV_s {st : List Value} {k : Value → List Value → Prop} (h : mV st k) : ∃ x r, st = x :: r ∧ k x r := by
  unfold mV at h
  split at h
  · exact ⟨_, _, rfl, h⟩
  · exact h.elim
theorem mO_s {q : Nat} {k : Nat → Prop} (h : mO q k) : ∃ z, q = z + 1 ∧ k z := by
  unfold mO at h
  split at h
  · exact h.elim
  · exact ⟨_, rfl, h⟩
theorem mN_s {st : List Value} {k : Prop} (h : mN st k) : st = [] ∧ k := by
  unfold mN at h
  split at h
  · exact ⟨rfl, h⟩
  · exact h.elim
theorem bif_s {c : Bool} {p : Prop} (h : (bif c then p else False)) : c = true ∧ p := by
  cases c
  · exact h.elim
  · exact ⟨rfl, h⟩
theorem pLd_s {t : Nat} {ls : eL} {i : Nat} {k : Value → Prop} (h : pLd t ls i k) : ∃ v, lkp ls i = some v ∧ eIsA t v = true ∧ k v := by
  unfold pLd at h
  split at h
  · exact ⟨_, by assumption, bif_s h⟩
  · exact h.elim
theorem eIsA_0 {v : Value} (h : eIsA 0 v = true) : ∃ k, v = .ref k := by cases v <;> first | exact ⟨_, rfl⟩ | (exact absurd h (by decide)) | simp [eIsA] at h
theorem eIsA_1 {v : Value} (h : eIsA 1 v = true) : ∃ k, v = .int k := by cases v <;> first | exact ⟨_, rfl⟩ | (exact absurd h (by decide)) | simp [eIsA] at h
theorem eIsA_2 {v : Value} (h : eIsA 2 v = true) : ∃ k, v = .long k := by cases v <;> first | exact ⟨_, rfl⟩ | (exact absurd h (by decide)) | simp [eIsA] at h
theorem eIsA_3 {v : Value} (h : eIsA 3 v = true) : ∃ k, v = .float k := by cases v <;> first | exact ⟨_, rfl⟩ | (exact absurd h (by decide)) | simp [eIsA] at h
theorem eIsA_4 {v : Value} (h : eIsA 4 v = true) : ∃ k, v = .double k := by cases v <;> first | exact ⟨_, rfl⟩ | (exact absurd h (by decide)) | simp [eIsA] at h
theorem pSt1_s {t : Nat} {st : List Value} {i : Nat} {ls : eL} {k : eL → List Value → Prop} (h : pSt1 t st i ls k) : ∃ v r, st = v :: r ∧ eIsA t v = true ∧ k ((i, v) :: ls.filter (fun q => !(q.1 == i) && !(q.1 + 1 == i && q.2.category == 2))) r := by
  unfold pSt1 at h
  split at h
  · obtain ⟨h1, h2⟩ := bif_s h
    exact ⟨_, _, rfl, h1, eFil1_spec h2⟩
  · exact h.elim
theorem pSt2_s {t : Nat} {st : List Value} {i : Nat} {ls : eL} {k : eL → List Value → Prop} (h : pSt2 t st i ls k) : ∃ v r, st = v :: r ∧ eIsA t v = true ∧ k ((i, v) :: ls.filter (fun q => !(q.1 == i) && (!(q.1 == i + 1) && !(q.1 + 1 == i && q.2.category == 2)))) r := by
  unfold pSt2 at h
  split at h
  · obtain ⟨h1, h2⟩ := bif_s h
    exact ⟨_, _, rfl, h1, eFil2_spec h2⟩
  · exact h.elim
theorem eArg_s : ∀ {n : Nat} {st acc : List Value} {k : List Value → List Value → Prop}, eArg n st acc k → ∃ as r, st = as.reverse ++ r ∧ as.length = n ∧ k (as ++ acc) r
  | 0, st, acc, k, h => ⟨[], st, rfl, rfl, h⟩
  | n + 1, [], acc, k, h => h.elim
  | n + 1, v :: r, acc, k, h => by
    obtain ⟨as, r', h1, h2, h3⟩ := eArg_s (n := n) (st := r) (acc := v :: acc) (k := k) h
    refine ⟨as ++ [v], r', ?_, by simp [h2], ?_⟩
    · rw [h1]; simp
    · rw [List.append_assoc]; exact h3
theorem eFind_mem : ∀ {l : List eE} {pc : Nat} {x : Instr × Nat × Nat × Nat × Nat}, eFind l pc = some x → (pc, x) ∈ l
  | [], _, _, h => by cases h
  | e :: r, pc, x, h => by
    unfold eFind at h
    cases hq : e.1 == pc with
    | true =>
      rw [hq] at h
      have h1 : e.2 = x := Option.some.inj h
      have h2 : e.1 = pc := eq_of_beq hq
      rw [← h1, ← h2]
      exact List.mem_cons_self
    | false => rw [hq] at h; exact List.mem_cons_of_mem _ (eFind_mem h)
theorem eAt_mem {P : List (List eE)} {pc : Nat} {x : Instr × Nat × Nat × Nat × Nat} (h : eAt P pc = some x) : (pc, x) ∈ P.flatten := by
  unfold eAt at h
  split at h
  · cases h
  · rename_i c hc
    exact List.mem_flatten.mpr ⟨c, List.mem_of_getElem? hc, eFind_mem h⟩
theorem eNg_good {w : Cond} (h : eNgw w = true) : w.onTables = true := by cases w <;> first | rfl | (simp [eNgw] at h)
theorem eNg_warm {w : Cond} {s U : State} (h : eNgw w = true) (hW : s.WarmedH U.vm) (hZ : va_Nw w s) : va_Nw w U := by
  cases w <;> first | exact va_Nw.warmM hW hZ | exact va_Nw.warmC hW hZ | exact va_Nw.warmD hW hZ | (simp [eNgw] at h)
-- the heap through a change
theorem eRH.kept {D : va_G} {dA : Nat → ClassId} {base b : Nat} {h : eH} {H H1 : Heap} (hR : eRH D dA base b h H) (hs : H.size ≤ H1.size) (hq : ∀ q : Nat, q < H.size → H1[q]? = H[q]?) : eRH D dA base b (false, h.2) H1 := by
  refine ⟨fun k o hk => ?_, (fun h => by cases h), Nat.le_trans hR.2.2 hs⟩
  have h1 := hR.1 k o hk
  exact h1.kept (hq _ h1.lt)
theorem eRH.set {D : va_G} {dA : Nat → ClassId} {base b k : Nat} {h : eH} {H H1 : Heap} {o o' : va_E} (hR : eRH D dA base b h H) (hk : h.2[k]? = some o) (ho : va_at D vwCl (base + k, eZ dA base b o') H1) (hz : H1.size = H.size) (hq : ∀ q : Nat, q ≠ base + k → H1[q]? = H[q]?) : eRH D dA base b (h.1, h.2.set k o') H1 := by
  refine ⟨fun j x hj => ?_, fun h1 => ?_, ?_⟩
  · by_cases hjk : j = k
    · subst hjk
      have hlt : j < h.2.length := (List.getElem?_eq_some_iff.mp hk).1
      have h2 : (h.2.set j o')[j]? = some o' := List.getElem?_set_self hlt
      cases h2.symm.trans hj
      exact ho
    · have h2 : (h.2.set k o')[j]? = h.2[j]? := List.getElem?_set_ne (fun e => hjk e.symm)
      have h3 := hR.1 j x (h2 ▸ hj)
      exact h3.kept (hq _ (by show base + j ≠ base + k; omega))
  · show H1.size = base + (h.2.set k o').length
    rw [hz, List.length_set]
    exact hR.2.1 h1
  · show base + (h.2.set k o').length ≤ H1.size
    rw [hz, List.length_set]
    exact hR.2.2
theorem eRH.push {D : va_G} {dA : Nat → ClassId} {base b : Nat} {h : eH} {H H1 : Heap} {o : va_E} (hR : eRH D dA base b h H) (ho : h.1 = true) (hv : va_at D vwCl (H.size, eZ dA base b o) H1) (hz : H1.size = H.size + 1) (hq : ∀ q : Nat, q < H.size → H1[q]? = H[q]?) : eRH D dA base b (h.1, h.2 ++ [o]) H1 := by
  have hs := hR.2.1 ho
  refine ⟨fun j x hj => ?_, fun _ => ?_, ?_⟩
  · by_cases hjk : j < h.2.length
    · rw [List.getElem?_append_left hjk] at hj
      have h3 := hR.1 j x hj
      exact h3.kept (hq _ h3.lt)
    · have hl : j < (h.2 ++ [o]).length := (List.getElem?_eq_some_iff.mp hj).1
      rw [List.length_append] at hl
      have hl1 : j = h.2.length := by simp at hl; omega
      subst hl1
      rw [List.getElem?_append_right (Nat.le_refl _)] at hj
      simp at hj
      subst hj
      rw [← hs]
      exact hv
  · show H1.size = base + (h.2 ++ [o]).length
    rw [hz, hs, List.length_append]; simp; omega
  · show base + (h.2 ++ [o]).length ≤ H1.size
    rw [hz, List.length_append]; simp; omega
end
section
/-! THE ENGINE: writes, told of its heap -/
theorem eTy_ok {ty : FieldType} {v : Value} (base b : Nat) (h : eTy ty v = true) : narrow ty (eV base b v) = eV base b v ∧ fits ty (eV base b v) = true := by
  cases ty <;> cases v <;> first | exact ⟨rfl, rfl⟩ | (simp [eTy] at h)
theorem va_SA {base : Nat} {s : State} (hb : base ≤ s.heap.size) : ∀ q : Nat, s.heap.size ≤ q → base ≤ q := fun _ h => Nat.le_trans hb h
section Sto
variable {p : Program} {l : Launch} {e : Env} {R : Room} {s : State} {m : MethodId} {args : Array Value} {below : List Frame} {meth : Method} {c : Code} {H H0 : Heap} {locs : List Loc} {cells slots : Nat} {Q : State → Prop}
variable {cc : ByteArray} {pc : Nat} {ls : Array Slot} {rest : List Value} {D : va_G} {dA : Nat → ClassId} {base b : Nat} {h : eH}
theorem e_put (hexec : p.tables.exec = Jvm.exec) (hb : c.code = cc) {own C : String} {T : u_T} {N ci index : Nat} {Ts : List Cond} (hts : ∀ w ∈ Ts, w.before args s = true) (hin : ∀ w ∈ u_ws C T N, w ∈ Ts) (ty0 : Nat → FieldType) (hty : ∀ k, k < N → parseFieldDescriptor (T k).2.2.1 = some (ty0 k)) (hnm : ∀ a, a < N → ∀ b, b < N → a ≠ b → (T a).2.1 ≠ (T b).2.1) (hown : s.vm.findClass own = some m.cls) (hK : va_K D vwCl [] s) (hR : eRH D dA base b h H) (hS0 : va_S (fun q => base ≤ q) H0 H locs) {q0 : Nat} {fs : List Value} (he : h.2[q0]? = some (.inr (ci, fs))) (hc : vwCl[ci]? = some (C, T, N)) (k : Nat) (hk : k < N) (hlink : (Cond.fieldLink own index (T k).1 (T k).2.1 (T k).2.2.1).before args s = true) (hfin : (T k).2.2.2 = true → meth.name = "<init>" ∧ (T k).1 = own) {ty : FieldType} {v : Value} (hd : parseFieldDescriptor (T k).2.2.1 = some ty) (hn : narrow ty (eV base b v) = eV base b v) (hfit : fits ty (eV base b v) = true) (hl : k < fs.length)
    (hdg : decode cc pc = .ok (.putfield index, 3)) (kk : ∀ (H1 : Heap) (locs1 : List Loc), eRH D dA base b (h.1, h.2.set q0 (.inr (ci, fs.set k v))) H1 → va_S (fun q => base ≤ q) H0 H1 locs1 → W p l e R s m args below meth c H1 locs1 cells slots Q (F0 m (pc + 3) ls rest)) : W p l e R s m args below meth c H locs cells slots Q (F0 m pc ls (eV base b v :: .ref (base + q0) :: rest)) := by
  have hap := va_apart (own := own) hts hin ty0 hty hnm hK hc
  obtain ⟨r, h1, cell, q1, q2, q3, q4⟩ := hR.1 q0 _ he
  have hr : r = (C, T, N) := Option.some.inj (h1.symm.trans hc)
  subst hr
  obtain ⟨hS, hfc, kC, hkC, hkind⟩ := hK.1 ci _ hc
  obtain ⟨cf, kf, fi, f, hi, hsl⟩ := hS k hk
  have hlay := hts _ (hin _ (u_in_lay hk))
  unfold u_lay at hlay
  have hst := (u_facts hfc hkC (u_lays hts hin hk) hi).1
  have hend : ∀ (H' : Heap), H'[base + q0]? = some (cell.setSlot f.slot (eV base b v)) → H'.size = H.size → (∀ q, q ≠ base + q0 → H'[q]? = H[q]?) → W p l e R s m args below meth c H' (locs ++ [⟨base + q0, f.slot⟩]) cells slots Q (F0 m (pc + 3) ls rest) := by
    intro H' e1 e2 e3
    rw [hsl] at e1 ⊢
    refine kk H' _ (hR.set he ⟨_, hc, ?_⟩ e2 e3) (hS0.put e2 e3 (Nat.le_add_right _ _))
    refine t_OB.to (V := updV (vp_V (fs.map (eV base b))) k (eV base b v)) ⟨_, e1, q2, q3, t_set q4 hap hk (eV base b v)⟩ (fun j _ => ?_)
    have h9 := vp_updV_set (fs := fs.map (eV base b)) (k := k) (by rw [List.length_map]; exact hl) (eV base b v) j
    rw [h9, List.map_set]
  cases hf : (T k).2.2.2 with
  | false =>
    rw [if_neg (by rw [hf]; decide)] at hlay
    have h6 := u_store hfc hkC hkind hlay hi hd hn hfit
    exact W.putK hexec hb (f := f) ⟨hown, hlink, ⟨_, _, _, hi⟩, hst⟩ (by rw [q2]; exact h6) q1 q3 (by rw [hsl]; exact k2_hasslot (q4 k hk)) rfl rfl hdg hend
  | true =>
    rw [if_pos hf] at hlay
    obtain ⟨hin2, hdecl⟩ := hfin hf
    have hcf : m.cls = cf := by
      obtain ⟨_, _, c', _, _, _, -, -, hf', -, -, -, hown2, -⟩ := Cond.laysFinal_spec hlay
      have e1 : c' = cf := by have := hi.symm.trans hf'; simp at this; exact this.1.symm
      rw [hdecl] at hown2
      rw [← e1]; exact Option.some.inj (hown.symm.trans hown2)
    have h6 := u_fits hfc hkC hkind (Or.inr hlay) hi hd hn hfit
    exact W.putFinK hexec hb hown hlink hi hst hcf hin2 (by rw [q2]; exact h6) q1 q3 (by rw [hsl]; exact k2_hasslot (q4 k hk)) rfl rfl hdg hend
theorem e_iast (hexec : p.tables.exec = Jvm.exec) (hb : c.code = cc) (hAr : ArrOfT s (dA 0) .int) (hR : eRH D dA base b h H) (hS : va_S (fun q => base ≤ q) H0 H locs) {q0 n : Nat} {f : Nat → Int32} (he : h.2[q0]? = some (.inl (0, n, .inl f))) {i : Int32} {x : Int32} (hin : vp_in i n) (hdg : decode cc pc = .ok (.iastore, 1))
    (kk : ∀ (H1 : Heap) (locs1 : List Loc), eRH D dA base b (h.1, h.2.set q0 (.inl (0, n, .inl (upd f i.toNatClampNeg x)))) H1 → va_S (fun q => base ≤ q) H0 H1 locs1 → W p l e R s m args below meth c H1 locs1 cells slots Q (F0 m (pc + 1) ls rest)) : W p l e R s m args below meth c H locs cells slots Q (F0 m pc ls (.int x :: .int i :: .ref (base + q0) :: rest)) := by
  refine W.iast hexec hb (hR.1 q0 _ he) (hAr n (fun j => .int (f j))) (fun q => by cases q) (by show ¬ (i < 0 ∨ (arrV _ _ _).slots.size ≤ _); rw [arrV_size]; exact hin) rfl rfl hdg fun H1 e z oq => ?_
  refine kk H1 _ (hR.set he ?_ z oq) (hS.put z oq (Nat.le_add_right _ _))
  show H1[base + q0]? = some (vp_cell _ _)
  rw [e]
  show some (Cell.setSlot (vp_cell (dA 0) (n, .inl f)) _ _) = some (vp_cell (dA 0) (n, .inl _))
  rw [vp_cell_i, vp_cell_i, arrV_store]
  congr 2
  funext q
  by_cases hq : q = i.toNatClampNeg
  · subst hq
    simp [updV, upd]
  · simp [updV, upd, hq]
theorem e_zast (hexec : p.tables.exec = Jvm.exec) (hb : c.code = cc) (hAr : ArrOfT s (dA 1) .boolean) (hR : eRH D dA base b h H) (hS : va_S (fun q => base ≤ q) H0 H locs) {q0 n : Nat} {f : Nat → Int32} (he : h.2[q0]? = some (.inl (1, n, .inl f))) {i : Int32} {x : Int32} (hin : vp_in i n) (hdg : decode cc pc = .ok (.bastore, 1))
    (kk : ∀ (H1 : Heap) (locs1 : List Loc), eRH D dA base b (h.1, h.2.set q0 (.inl (1, n, .inl (upd f i.toNatClampNeg (vp_nar .boolean x))))) H1 → va_S (fun q => base ≤ q) H0 H1 locs1 → W p l e R s m args below meth c H1 locs1 cells slots Q (F0 m (pc + 1) ls rest)) : W p l e R s m args below meth c H locs cells slots Q (F0 m pc ls (.int x :: .int i :: .ref (base + q0) :: rest)) := by
  refine W.zast hexec hb (hR.1 q0 _ he) (hAr n (fun j => .int (f j))) (fun q => by cases q) (by show ¬ (i < 0 ∨ (arrV _ _ _).slots.size ≤ _); rw [arrV_size]; exact hin) rfl rfl hdg fun H1 e z oq => ?_
  refine kk H1 _ (hR.set he ?_ z oq) (hS.put z oq (Nat.le_add_right _ _))
  show H1[base + q0]? = some (vp_cell _ _)
  rw [e]
  show some (Cell.setSlot (vp_cell (dA 1) (n, .inl f)) _ _) = some (vp_cell (dA 1) (n, .inl _))
  rw [vp_cell_i, vp_cell_i, arrV_store]
  congr 2
  funext q
  by_cases hq : q = i.toNatClampNeg
  · subst hq
    simp [updV, upd, vp_nar, narrow]
  · simp [updV, upd, hq]
theorem e_last (hexec : p.tables.exec = Jvm.exec) (hb : c.code = cc) (hAr : ArrOfT s (dA 2) .long) (hR : eRH D dA base b h H) (hS : va_S (fun q => base ≤ q) H0 H locs) {q0 n : Nat} {f : Nat → Int64} (he : h.2[q0]? = some (.inl (2, n, .inr (.inl f)))) {i : Int32} {x : Int64} (hin : vp_in i n) (hdg : decode cc pc = .ok (.lastore, 1))
    (kk : ∀ (H1 : Heap) (locs1 : List Loc), eRH D dA base b (h.1, h.2.set q0 (.inl (2, n, .inr (.inl (vp_updL f i.toNatClampNeg x))))) H1 → va_S (fun q => base ≤ q) H0 H1 locs1 → W p l e R s m args below meth c H1 locs1 cells slots Q (F0 m (pc + 1) ls rest)) : W p l e R s m args below meth c H locs cells slots Q (F0 m pc ls (.long x :: .int i :: .ref (base + q0) :: rest)) := by
  refine W.last hexec hb (hR.1 q0 _ he) (hAr n (fun j => .long (f j))) (fun q => by cases q) (by show ¬ (i < 0 ∨ (arrV _ _ _).slots.size ≤ _); rw [arrV_size]; exact hin) rfl rfl hdg fun H1 e z oq => ?_
  refine kk H1 _ (hR.set he ?_ z oq) (hS.put z oq (Nat.le_add_right _ _))
  show H1[base + q0]? = some (vp_cell _ _)
  rw [e]
  show some (Cell.setSlot (vp_cell (dA 2) (n, .inr (.inl f))) _ _) = some (vp_cell (dA 2) (n, .inr (.inl _)))
  rw [vp_cell_l, vp_cell_l, arrV_store]
  congr 2
  funext q
  by_cases hq : q = i.toNatClampNeg
  · subst hq
    simp [updV, vp_updL]
  · simp [updV, vp_updL, hq]
theorem e_dast (hexec : p.tables.exec = Jvm.exec) (hb : c.code = cc) (hAr : ArrOfT s (dA 3) .double) (hR : eRH D dA base b h H) (hS : va_S (fun q => base ≤ q) H0 H locs) {q0 n : Nat} {f : Nat → UInt64} (he : h.2[q0]? = some (.inl (3, n, .inr (.inr (.inr (.inl f)))))) {i : Int32} {x : UInt64} (hin : vp_in i n) (hdg : decode cc pc = .ok (.dastore, 1))
    (kk : ∀ (H1 : Heap) (locs1 : List Loc), eRH D dA base b (h.1, h.2.set q0 (.inl (3, n, .inr (.inr (.inr (.inl (vf_upd f i.toNatClampNeg x))))))) H1 → va_S (fun q => base ≤ q) H0 H1 locs1 → W p l e R s m args below meth c H1 locs1 cells slots Q (F0 m (pc + 1) ls rest)) : W p l e R s m args below meth c H locs cells slots Q (F0 m pc ls (.double x :: .int i :: .ref (base + q0) :: rest)) := by
  refine W.dast hexec hb (hR.1 q0 _ he) (hAr n (fun j => .double (f j))) (fun q => by cases q) (by show ¬ (i < 0 ∨ (arrV _ _ _).slots.size ≤ _); rw [arrV_size]; exact hin) rfl rfl hdg fun H1 e z oq => ?_
  refine kk H1 _ (hR.set he ?_ z oq) (hS.put z oq (Nat.le_add_right _ _))
  show H1[base + q0]? = some (vp_cell _ _)
  rw [e]
  show some (Cell.setSlot (vp_cell (dA 3) (n, .inr (.inr (.inr (.inl f))))) _ _) = some (vp_cell (dA 3) (n, .inr (.inr (.inr (.inl _)))))
  rw [vp_cell_d, vp_cell_d, arrV_store]
  congr 2
  funext q
  by_cases hq : q = i.toNatClampNeg
  · subst hq
    simp [updV, vf_upd]
  · simp [updV, vf_upd, hq]
theorem e_astq (hexec : p.tables.exec = Jvm.exec) (hb : c.code = cc) (hK : va_K D vwCl [] s) (hRA : va_RA s (dA 4) (.object RX1)) (hR : eRH D dA base b h H) (hS : va_S (fun q => base ≤ q) H0 H locs) {q0 z n : Nat} {fs : List Value} {f : Nat → Option Nat} (he : h.2[q0]? = some (.inl (4, n, .inr (.inr (.inr (.inr f)))))) (hv : h.2[z]? = some (.inr (1, fs))) {i : Int32} (hin : vp_in i n) (hdg : decode cc pc = .ok (.aastore, 1))
    (kk : ∀ (H1 : Heap) (locs1 : List Loc), eRH D dA base b (h.1, h.2.set q0 (.inl (4, n, .inr (.inr (.inr (.inr (va_up f i.toNatClampNeg (some (z + 1)))))))) ) H1 → va_S (fun q => base ≤ q) H0 H1 locs1 → W p l e R s m args below meth c H1 locs1 cells slots Q (F0 m (pc + 1) ls rest)) : W p l e R s m args below meth c H locs cells slots Q (F0 m pc ls (.ref (base + z) :: .int i :: .ref (base + q0) :: rest)) := by
  have hlt : i.toNatClampNeg < n := Nat.not_le.mp fun q => hin (Or.inr q)
  have h0 : ¬ i < 0 := fun q => hin (Or.inl q)
  obtain ⟨r', hr', cellV, g1, g2, g3, -⟩ := hR.1 z _ hv
  have hcls := (hK.1 1 (RX1, TX1, 2) rfl).2
  obtain ⟨kA, comp, k1, k2, k3, -⟩ := hRA
  have hcomp : comp = D.1 1 := Option.some.inj (k3.symm.trans hcls.1)
  subst hcomp
  obtain ⟨kC, hkC, -⟩ := hcls.2
  refine W.aast hexec hb (hR.1 q0 _ he) (fun q h => by cases h) (fun h => by cases h) k1 k2 rfl hkC ⟨h0, by show _ < (arrV _ _ _).slots.size; rw [arrV_size]; exact hlt⟩ g1 (fun q h => by rw [g3] at h; cases h) (by rw [g2]; exact hkC) (by rw [g2]; exact va_assign hcls) rfl rfl hdg fun H1 e zz oq => ?_
  refine kk H1 _ (hR.set he ?_ zz oq) (hS.put zz oq (Nat.le_add_right _ _))
  show H1[base + q0]? = some (vp_cell _ _)
  rw [e]
  show some (Cell.setSlot (vp_cell (dA 4) (n, .inr (.inr (.inr (.inr _))))) _ _) = some (vp_cell (dA 4) (n, .inr (.inr (.inr (.inr _)))))
  rw [vp_cell_q, vp_cell_q, arrV_store]
  congr 2
  funext q
  by_cases hq : q = i.toNatClampNeg
  · subst hq
    simp [updV, va_up, va_rf, eAd]
  · simp [updV, va_up, hq]
end Sto
end
section
/-! THE ENGINE: one step of it is one instruction of the machine -/
theorem eEV.same {S : Nat × (Nat → Int32)} {D : va_G} {dA : Nat → ClassId} {base b : Nat} {u U : State} (hE : eEV S D dA base b u) (hv : u.vm = U.vm) (hh : U.heap = u.heap) : eEV S D dA base b U := by
  obtain ⟨h1, h2, h3, h4, h5, h6, h7, h8, h9, h10, h11⟩ := hE
  have hal : u.vm.Alike U.vm := by rw [hv]; exact Vm.Alike.refl _
  refine ⟨fun w hw => va_Nw.same (eNg_good hw.2) hv (h1 w hw), fun own k tx hm => ?_, ?_, ?_, va_AO.moved hal h5, va_K.moved hal h6, fun t ht => ⟨arrOfT_moved hal (h7 t ht).1, va_RA.moved hal (h7 t ht).2⟩, ?_, h9, by rw [hh]; exact h10, fun E n a1 a2 a3 => va_Nc.moved hal (h11 E n a1 a2 a3)⟩
  · obtain ⟨a, ha⟩ := h2 own k tx hm
    exact ⟨a, vk_R.same hv.symm ha⟩
  · rw [hh]; exact vx_Zq.moved hal h3
  · rw [hh]; exact vx_Zq.moved hal h4
  · rw [hh]; exact va_X.moved hal h8
theorem eEV.warm {S : Nat × (Nat → Int32)} {D : va_G} {dA : Nat → ClassId} {base b : Nat} {s U : State} (hE : eEV S D dA base b s) (hW : s.WarmedH U.vm) (hz : s.heap.size ≤ U.heap.size) (hq : ∀ q : Nat, q < s.heap.size → ¬ base ≤ q → U.heap[q]? = s.heap[q]?) : eEV S D dA base b U := by
  obtain ⟨h1, h2, h3, h4, h5, h6, h7, h8, h9, h10, h11⟩ := hE
  have hal : s.vm.Alike U.vm := hW.alike
  refine ⟨fun w hw => eNg_warm hw.2 hW (h1 w hw), fun own k tx hm => ?_, vx_Zq.kept (vx_Zq.moved hal h3) hq, vx_Zq.kept (vx_Zq.moved hal h4) hq, va_AO.moved hal h5, va_K.moved hal h6, fun t ht => ⟨arrOfT_moved hal (h7 t ht).1, va_RA.moved hal (h7 t ht).2⟩, va_X.kept (va_X.moved hal h8) (hq b (Nat.lt_of_lt_of_le h9 h10) (Nat.not_le.mpr h9)), h9, Nat.le_trans h10 hz, fun E n a1 a2 a3 => va_Nc.moved hal (h11 E n a1 a2 a3)⟩
  obtain ⟨a, ha⟩ := h2 own k tx hm
  exact ⟨a, vk_R.warm hW ha⟩
/-- what a call that ends as Q wants promises of the machine -/
def eCon (S : Nat × (Nat → Int32)) (T : Nat → eM) (l : Launch) (D : va_G) (dA : Nat → ClassId) (base b d m' : Nat) (as : List Value) (h : eH) (Q : eQ) : Prop :=
  vx_Met l (mNm (T m')) (mWd (T m') :: lw_tbl.filter goodWord) { frames := d, cells := (mCo (T m')).1, slots := (mCo (T m')).2, locals := 38 * d }
    (va_Pc (as.map (eV base b)) (fun U => eEV S D dA base b U ∧ eRH D dA base b h U.heap))
    (fun _ st o t => ∃ (v : Option Value) (h' : eH), o = .returned (v.map (eV base b)) ∧ Q (.inl v) h' ∧ eRH D dA base b h' t.heap ∧ va_F (fun q => base ≤ q) st t)
    (fun E st t => ∃ (n : Nat) (h' : eH), n ≤ 3 ∧ E = exN n ∧ Q (.inr n) h' ∧ eRH D dA base b h' t.heap ∧ va_F (fun q => base ≤ q) st t)
    (mCo (T m')).1 (mCo (T m')).2 (fun q => base ≤ q)
theorem eCon_blind {S : Nat × (Nat → Int32)} {D : va_G} {dA : Nat → ClassId} {base b : Nat} {av : List Value} {h : eH} : FrameBlind (va_Pc av (fun U => eEV S D dA base b U ∧ eRH D dA base b h U.heap)) := by
  intro a U g mk q
  obtain ⟨q1, q2, q3⟩ := q
  exact ⟨q1, eEV.same (u := U) (U := U.calling g mk a) q2 rfl rfl, q3⟩
def eSim (p : Program) (l : Launch) (e : Env) (R : Room) (s : State) (m : MethodId) (args : Array Value) (below : List Frame) (meth : Method) (c : Code) (D : va_G) (dA : Nat → ClassId) (base b nL : Nat) (Fin : State → Prop) : eK := fun pc ls st h kc ks =>
  ∀ (H : Heap) (locs : List Loc) (lsA : Array Slot), eRH D dA base b h H → va_S (fun q => base ≤ q) s.heap H locs → lv_has lsA nL (eLs base b ls) → W p l e R s m args below meth c H locs kc ks Fin (F0 m pc lsA (st.map (eV base b)))
def eRtI (M : eM) (i : Instr) (v : Option Value) : Prop :=
  (i = .ireturn ∧ ∃ x, v = some (.int x) ∧ eNar (mRt M) x) ∨ (i = .lreturn ∧ (∃ x, v = some (.long x)) ∧ mRt M = some .long) ∨ (i = .freturn ∧ (∃ x, v = some (.float x)) ∧ mRt M = some .float) ∨ (i = .dreturn ∧ (∃ x, v = some (.double x)) ∧ mRt M = some .double) ∨ (i = .areturn ∧ (∃ x, v = some (.ref x)) ∧ mRt M = some (.object RX1)) ∨ (i = .return_ ∧ v = none ∧ mRt M = none)
theorem eHnd_s {own : String} {args : Array Value} {s : State} {pc E : Nat} (hN : ∀ E n, E ≤ 3 → n ≤ 3 → E ≠ n → va_Nc (exN E) (exN n) s) (hE : E ≤ 3) : ∀ {hh : List (Nat × Nat × Nat × Nat)} {hp : Nat} (_ : ∀ x ∈ hh, x.2.2.2 ≠ 0 ∧ eHc x.2.2.2 ≤ 3 ∧ (Cond.classLink own x.2.2.2 (exN (eHc x.2.2.2))).before args s = true), eHnd hh pc E = some hp →
    ∃ (pre : List ExceptionTableEntry) (x : ExceptionTableEntry) (suf : List ExceptionTableEntry), tableOf hh = pre ++ x :: suf ∧ (∀ z ∈ pre, covers z pc = false ∨ (z.catchType ≠ 0 ∧ ∃ nm : String, (Cond.classLink own z.catchType nm).before args s = true ∧ va_Nc (exN E) nm s)) ∧ covers x pc = true ∧ x.catchType ≠ 0 ∧ (Cond.classLink own x.catchType (exN E)).before args s = true ∧ x.handlerPc = hp
  | [], _, _, h => by cases h
  | q :: r, hp, hA, h => by
    unfold eHnd at h
    have hq := hA q List.mem_cons_self
    cases hc : (Nat.ble q.1 pc && Nat.blt pc q.2.1 && eHc q.2.2.2 == E) with
    | true =>
      rw [hc] at h
      have h1 : q.2.2.1 = hp := Option.some.inj h
      simp only [Bool.and_eq_true, beq_iff_eq] at hc
      obtain ⟨⟨c1, c2⟩, c3⟩ := hc
      refine ⟨[], ⟨q.1, q.2.1, q.2.2.1, q.2.2.2⟩, tableOf r, rfl, fun z hz => (nomatch hz), ?_, hq.1, ?_, h1⟩
      · show (decide (q.1 ≤ pc) && decide (pc < q.2.1)) = true
        rw [decide_eq_true (Nat.le_of_ble_eq_true c1), decide_eq_true (show pc < q.2.1 from Nat.le_of_ble_eq_true c2)]; rfl
      · rw [← c3]; exact hq.2.2
    | false =>
      rw [hc] at h
      obtain ⟨pre, x, suf, e1, e2, e3, e4, e5, e6⟩ := eHnd_s hN hE (hh := r) (fun y hy => hA y (List.mem_cons_of_mem _ hy)) h
      refine ⟨⟨q.1, q.2.1, q.2.2.1, q.2.2.2⟩ :: pre, x, suf, congrArg (List.cons _) e1, fun z hz => ?_, e3, e4, e5, e6⟩
      rcases List.mem_cons.mp hz with rfl | hz
      · by_cases hcov : (decide (q.1 ≤ pc) && decide (pc < q.2.1)) = true
        · refine Or.inr ⟨hq.1, exN (eHc q.2.2.2), hq.2.2, hN _ _ hE hq.2.1 fun hEq => ?_⟩
          simp only [Bool.and_eq_true, decide_eq_true_eq] at hcov
          rw [Nat.ble_eq_true_of_le hcov.1, show Nat.blt pc q.2.1 = true from Nat.ble_eq_true_of_le hcov.2, ← hEq] at hc
          simp at hc
        · exact Or.inl (by simpa using hcov)
      · exact e2 z hz
theorem eNew_ok : ∀ (ci : Nat) (C : String) (TT : u_T) (N : Nat), vwCl[ci]? = some (C, TT, N) → (eNew ci).length = N ∧ (∀ j, j < N → defaultValue (eFty ci j) = vp_V (eNew ci) j) ∧ (∀ k, k < N → parseFieldDescriptor (TT k).2.2.1 = some (eFty ci k)) ∧ ∀ base b, (eNew ci).map (eV base b) = eNew ci := by
  intro ci C TT N h
  match ci, h with
  | 0, h => cases h; exact ⟨rfl, by decide +kernel, tyX0_ok, fun _ _ => rfl⟩
  | 1, h => cases h; exact ⟨rfl, by decide +kernel, tyX1_ok, fun _ _ => rfl⟩
  | 2, h => cases h; exact ⟨rfl, by decide +kernel, tyX2_ok, fun _ _ => rfl⟩
  | 3, h => cases h; exact ⟨rfl, by decide +kernel, tyX4_ok, fun _ _ => rfl⟩
  | 4, h => cases h; exact ⟨rfl, by decide +kernel, tyX6_ok, fun _ _ => rfl⟩
  | 5, h => cases h; exact ⟨rfl, by decide +kernel, tyX7_ok, fun _ _ => rfl⟩
  | k + 6, h => simp [vwCl] at h
section Sim
variable {p : Program} {l : Launch} {e : Env} {R : Room} {s : State} {m : MethodId} {args : Array Value} {below : List Frame} {meth : Method} {c0 : Code} {Fin : State → Prop}
variable {S : Nat × (Nat → Int32)} {T : Nat → eM} {C : eC} {M : eM} {d : Nat} {Q : eQ} {D : va_G} {dA : Nat → ClassId} {base b0 : Nat}
/-- the call rows' common end -/
theorem e_back {a : Nat} {r : List Value} {H : Heap} {locs : List Loc} {lsA : Array Slot} {kc ks pc : Nat} {stA : List Value} {kr : Option Value → eH → Nat → Nat → Prop} {kt : Nat → eH → Nat → Nat → Prop}
    (hr : vx_Run p l e R s m args below meth c0 H locs kc ks (mCo (T a)).1 (mCo (T a)).2 (F0 m pc lsA stA) (r.map (eV base b0)) (fun st o t => ∃ (v : Option Value) (h' : eH), o = .returned (v.map (eV base b0)) ∧ kr v h' (kc + (mCo (T a)).1) (ks + (mCo (T a)).2) ∧ eRH D dA base b0 h' t.heap ∧ va_F (fun q => base ≤ q) st t)
      (fun E st t => ∃ (n : Nat) (h' : eH), n ≤ 3 ∧ E = exN n ∧ kt n h' (kc + (mCo (T a)).1) (ks + (mCo (T a)).2) ∧ eRH D dA base b0 h' t.heap ∧ va_F (fun q => base ≤ q) st t) (fun q => base ≤ q))
    (hSS : va_S (fun q => base ≤ q) s.heap H locs)
    (k1 : ∀ (v : Option Value) (h' : eH) (H1 : Heap) (locs1 : List Loc), kr v h' (kc + (mCo (T a)).1) (ks + (mCo (T a)).2) → eRH D dA base b0 h' H1 → va_S (fun q => base ≤ q) s.heap H1 locs1 → W p l e R s m args below meth c0 H1 locs1 (kc + (mCo (T a)).1) (ks + (mCo (T a)).2) Fin (F0 m (pc + 3) lsA ((v.map (eV base b0)).toList ++ r.map (eV base b0))))
    (k2 : ∀ (n : Nat) (h' : eH) (H1 : Heap) (locs1 : List Loc) (q : Nat) (ce : Cell), kt n h' (kc + (mCo (T a)).1) (ks + (mCo (T a)).2) → n ≤ 3 → eRH D dA base b0 h' H1 → va_S (fun q => base ≤ q) s.heap H1 locs1 → H1[q]? = some ce → ce.vm = .none → s.vm.findClass (exN n) = some ce.cls → vx_W p l e R s m args below meth c0 H1 locs1 (kc + (mCo (T a)).1) (ks + (mCo (T a)).2) Fin (F0 m pc lsA (r.map (eV base b0))) q) :
    W p l e R s m args below meth c0 H locs kc ks Fin (F0 m pc lsA stA) := by
  intro T9 hT X
  rcases hr T9 hT X with ⟨v, st₀, t, T', L, h0, X', hL, e1, e2, ⟨v', h', hv, hq, hRH, hF⟩, st⟩ | ⟨q, st₀, t, T', L, E, ce, h0, X', hL, e1, e2, ⟨n, h', hn, rfl, hq, hRH, hF⟩, hce, hcv, hcl, st⟩
  · have hv' : v = v'.map (eV base b0) := Outcome.returned.inj hv
    subst hv'
    obtain ⟨-, -, k3⟩ := vx_keep h0 e1 hSS (fun _ _ h => h) (fun _ h => h) hL hF
    obtain ⟨t2, a1, b1⟩ := k1 v' h' T'.heap (locs ++ L) hq (by rw [e1]; exact hRH) k3 T' rfl X'
    exact ⟨t2, st t2 a1, b1⟩
  · obtain ⟨-, -, k3⟩ := vx_keep h0 e1 hSS (fun _ _ h => h) (fun _ h => h) hL hF
    obtain ⟨t2, a1, b1⟩ := k2 n h' T'.heap (locs ++ L) q ce hq hn (by rw [e1]; exact hRH) k3 (by rw [e1]; exact hce) hcv hcl T' rfl X'
    exact ⟨t2, st.trans a1, b1⟩
theorem e_backM {a : Nat} {r : List Value} {H : Heap} {locs : List Loc} {lsA : Array Slot} {kc ks pc : Nat} {stA : List Value} {kr : Option Value → eH → Nat → Nat → Prop}
    (hr : va_Run p l e R s m args below meth c0 H locs kc ks (mCo (T a)).1 (mCo (T a)).2 (F0 m pc lsA stA) (r.map (eV base b0)) (fun st o t => ∃ (v : Option Value) (h' : eH), o = .returned (v.map (eV base b0)) ∧ kr v h' (kc + (mCo (T a)).1) (ks + (mCo (T a)).2) ∧ eRH D dA base b0 h' t.heap ∧ va_F (fun q => base ≤ q) st t) (fun q => base ≤ q))
    (hSS : va_S (fun q => base ≤ q) s.heap H locs)
    (k1 : ∀ (v : Option Value) (h' : eH) (H1 : Heap) (locs1 : List Loc), kr v h' (kc + (mCo (T a)).1) (ks + (mCo (T a)).2) → eRH D dA base b0 h' H1 → va_S (fun q => base ≤ q) s.heap H1 locs1 → W p l e R s m args below meth c0 H1 locs1 (kc + (mCo (T a)).1) (ks + (mCo (T a)).2) Fin (F0 m (pc + 3) lsA ((v.map (eV base b0)).toList ++ r.map (eV base b0)))) :
    W p l e R s m args below meth c0 H locs kc ks Fin (F0 m pc lsA stA) := by
  intro T9 hT X
  obtain ⟨v, st₀, t, T', L, h0, X', hL, e1, e2, ⟨v', h', hv, hq, hRH, hF⟩, st⟩ := hr T9 hT X
  have hv' : v = v'.map (eV base b0) := Outcome.returned.inj hv
  subst hv'
  obtain ⟨-, -, k3⟩ := vx_keep h0 e1 hSS (fun _ _ h => h) (fun _ h => h) hL hF
  obtain ⟨t2, a1, b1⟩ := k1 v' h' T'.heap (locs ++ L) hq (by rw [e1]; exact hRH) k3 T' rfl X'
  exact ⟨t2, st t2 a1, b1⟩
theorem eCon_met {d m' : Nat} {as : List Value} {h : eH} {Q' : eQ} (hc : eCon S T l D dA base b0 d m' as h Q') (hno : ∀ n h', Q' (.inr n) h' → False) :
    Met l (mNm (T m')) (mWd (T m') :: lw_tbl.filter goodWord) { frames := d, cells := (mCo (T m')).1, slots := (mCo (T m')).2, locals := 38 * d }
    (va_Pc (as.map (eV base b0)) (fun U => eEV S D dA base b0 U ∧ eRH D dA base b0 h U.heap))
    (fun _ st o t => ∃ (v : Option Value) (h' : eH), o = .returned (v.map (eV base b0)) ∧ Q' (.inl v) h' ∧ eRH D dA base b0 h' t.heap ∧ va_F (fun q => base ≤ q) st t)
    (mCo (T m')).1 (mCo (T m')).2 (fun q => base ≤ q) := by
  refine MetFree.mono hc (fun _ _ h => h) (fun _ _ _ _ _ h => h) (fun a s o s' _ hq => ?_)
  rcases hq with hq | ⟨q, rfl, E, ce, L, ⟨n, h', -, -, hq, -⟩, -⟩
  · exact hq
  · exact (hno n h' hq).elim
theorem eEV.call {h : eH} {H : Heap} {locs : List Loc} {as : List Value} (hE : eEV S D dA base b0 s) (hR : eRH D dA base b0 h H) (hSS : va_S (fun q => base ≤ q) s.heap H locs) (U : State) (hU : U.heap = H) (hW : s.WarmedH U.vm) : va_Pc (as.map (eV base b0)) (fun U => eEV S D dA base b0 U ∧ eRH D dA base b0 h U.heap) (as.map (eV base b0)).toArray U :=
  ⟨rfl, eEV.warm hE hW (by rw [hU]; exact hSS.1) (fun q h1 h2 => by rw [hU]; exact hSS.2.1 q h1 h2), by rw [hU]; exact hR⟩
theorem mWd_nil {M : eM} (h : mHh M = []) : mWd M = .code (mNm M) (mBy M) (mLo M) (mRt M) := by unfold mWd; rw [h]
theorem mWd_ne {M : eM} (h : mHh M ≠ []) : mWd M = .codeWith (mNm M) (mBy M) (mLo M) (mRt M) (mHh M) := by
  unfold mWd
  split
  · rename_i h1; exact absurd h1 h
  · rfl
theorem eWs_ok (hG : ∀ w, eW w → w.before args s = true) {Y : eM} (hY : eMeth Y) : ∀ w ∈ (mWd Y :: lw_tbl.filter goodWord), ∀ (a' : Array Value) (U : State), s.WarmedH U.vm → w.before a' U = true := by
  intro w hw a' U hW
  have h1 : eW w := by
    rcases List.mem_cons.mp hw with rfl | hw
    · exact hY.1
    · exact ⟨(List.mem_filter.mp hw).1, (List.mem_filter.mp hw).2⟩
  exact word_at hW (good_of_word h1.2) (hG w h1)
end Sim
/-- all that a step of the method M rests on -/
def eCx (p : Program) (l : Launch) (e : Env) (R : Room) (s : State) (m : MethodId) (args : Array Value) (below : List Frame) (meth : Method) (c0 : Code) (D : va_G) (dA : Nat → ClassId) (base b0 : Nat) (S : Nat × (Nat → Int32)) (T : Nat → eM) (C : eC) (M : eM) (d : Nat) (Q : eQ) (Fin : State → Prop) (K0 : eK) : Prop :=
  (∀ (pc : Nat) (ls : eL) (st : List Value) (h : eH) (kc ks : Nat), K0 pc ls st h kc ks → eSim p l e R s m args below meth c0 D dA base b0 (mLo M) Fin pc ls st h kc ks) ∧
  (p.tables.exec = Jvm.exec) ∧
  (c0.code = mBy M) ∧
  (c0.maxLocals = mLo M) ∧
  (s.vm.findClass (mNm M).cls = some m.cls) ∧
  (∀ w, eW w → w.before args s = true) ∧
  (eEV S D dA base b0 s) ∧
  (eMok T M) ∧
  (∀ q ∈ vwCl, eCls q) ∧
  (∀ E, E ≤ 3 → eX (.castable (exN E) (exN E))) ∧
  (meth.name = (mNm M).name) ∧
  (d ≤ R.frames) ∧
  (38 * d ≤ R.locals) ∧
  (1 ≤ d) ∧
  ((mCo M).1 ≤ R.cells) ∧
  ((mCo M).2 ≤ R.slots) ∧
  (c0.exceptionTable.toList = tableOf (mHh M)) ∧
  (∀ (m' : Nat) (as : List Value) (h : eH) (Q' : eQ), C m' as h Q' → eMeth (T m') → eCon S T l D dA base b0 (d - 1) m' as h Q') ∧
  (∀ (m' : Nat) (as : List Value) (h : eH) (Q' : eQ), C m' as h Q' → 2 ≤ d) ∧
  (∀ (i : Instr) (v : Option Value) (pc : Nat) (H : Heap) (locs : List Loc) (lsA : Array Slot) (h : eH) (kc ks : Nat), eRtI M i v → decode (mBy M) pc = .ok (i, 1) → eEnd M Q v h kc ks → eRH D dA base b0 h H → va_S (fun q => base ≤ q) s.heap H locs → W p l e R s m args below meth c0 H locs kc ks Fin (F0 m pc lsA (v.map (eV base b0)).toList)) ∧
  (∀ (pc : Nat) (H : Heap) (locs : List Loc) (lsA : Array Slot) (h : eH) (kc ks E q : Nat) (ce : Cell) (rest : List Value), mHh M = [] → E ≤ 3 → Q (.inr E) h → eRH D dA base b0 h H → va_S (fun q => base ≤ q) s.heap H locs → H[q]? = some ce → ce.vm = .none → s.vm.findClass (exN E) = some ce.cls → kc ≤ (mCo M).1 → ks ≤ (mCo M).2 → vx_W p l e R s m args below meth c0 H locs kc ks Fin (F0 m pc lsA rest) q) ∧
  (∀ (pc x n a b : Nat) (H : Heap) (locs : List Loc) (lsA : Array Slot) (st : List Value) (h : eH) (kc ks : Nat), eLink T M (pc, .new x, n, a, b, 1) → a ≤ 3 → eRH D dA base b0 h H → va_S (fun q => base ≤ q) s.heap H locs → lsA.size = c0.maxLocals → 6 ≤ d → eCat st ≤ 8 → kc + 1 ≤ (mCo M).1 → ks + 6 ≤ (mCo M).2 → mHh M = [] → Q (.inr a) (false, h.2) → decode (mBy M) pc = .ok (.new x, 3) → W p l e R s m args below meth c0 H locs kc ks Fin (F0 m pc lsA (st.map (eV base b0))))
section Cat
variable {p : Program} {l : Launch} {e : Env} {R : Room} {s : State} {m : MethodId} {args : Array Value} {below : List Frame} {meth : Method} {c0 : Code} {Fin : State → Prop}
variable {S : Nat × (Nat → Int32)} {T : Nat → eM} {C : eC} {M : eM} {d : Nat} {Q : eQ} {D : va_G} {dA : Nat → ClassId} {base b0 : Nat} {K0 : eK}
set_option maxHeartbeats 4000000 in
theorem e_catch (cx : eCx p l e R s m args below meth c0 D dA base b0 S T C M d Q Fin K0) {pc : Nat} {ls : eL} {lsA : Array Slot} (hl : lv_has lsA (mLo M) (eLs base b0 ls)) : ∀ (E : Nat) (h' : eH) (H1 : Heap) (locs1 : List Loc) (q9 : Nat) (ce : Cell) (kc1 ks1 : Nat) {rest : List Value}, eThrK M Q pc ls K0 E h' kc1 ks1 → E ≤ 3 → eRH D dA base b0 h' H1 → va_S (fun q => base ≤ q) s.heap H1 locs1 → H1[q9]? = some ce → ce.vm = .none → s.vm.findClass (exN E) = some ce.cls → kc1 ≤ (mCo M).1 → ks1 ≤ (mCo M).2 → vx_W p l e R s m args below meth c0 H1 locs1 kc1 ks1 Fin (F0 m pc lsA rest) q9 := by
  have cx0 := cx
  obtain ⟨hK0, hx, hb, hml, hown, hG, hE, hOK, hCl, hCa, hinit, hRf, hRl, hd1, hRc, hRs, htab, hC, hdC, hfin, hout, hthr⟩ := cx0
  have hOK0 := hOK
  obtain ⟨hOKc, hOKl, hOKh⟩ := hOK0
  have hE0 := hE
  obtain ⟨hNG, hStr, hZ1, hZ2, hAO, hK, hAr, hX, hbb, hbs, hNc⟩ := hE0
  intro E h' H1 locs1 q9 ce kc1 ks1 rest hk hE3 hR1 hS1 hce hcv hcl hkc hks
  unfold eThrK at hk
  split at hk
  · rename_i hp hhp
    obtain ⟨pre, x, suf, e1, e2, e3, e4, e5, e6⟩ := eHnd_s (own := (mNm M).cls) (args := args) hNc hE3 (fun x hx => ⟨(hOKh x hx).1, (hOKh x hx).2.1, hG _ (hOKh x hx).2.2⟩) hhp
    have hcas : (Cond.castable (exN E) (exN E)).before args s = true := va_Nw.use rfl (hNG _ (hCa E hE3))
    refine vx_catch hown pre x suf (htab.trans e1) e2 e3 e4 e5 hcas hce hcv hcl ?_
    rw [e6]
    have hdrop : ∀ {l9 : Array Slot} {j : Nat} {ls9 : eL}, lv_has l9 (mLo M) ((j, .ref q9) :: (eLs base b0 ls).filter (fun q => !(q.1 == j) && !(q.1 + 1 == j && q.2.category == 2))) → lv_has l9 (mLo M) (eLs base b0 (ls.filter (fun q => !(q.1 == j) && !(q.1 + 1 == j && q.2.category == 2)))) := fun {l9 j ls9} h9 => by
      refine ⟨h9.1, h9.2.1, fun q hq => h9.2.2 q (List.mem_cons_of_mem _ ?_)⟩
      have h8 := eFil1_map base b0 j (.int 0) ls
      have h7 : (eLs base b0 ls).filter (fun q => !(q.1 == j) && !(q.1 + 1 == j && q.2.category == 2)) = eLs base b0 (ls.filter (fun q => !(q.1 == j) && !(q.1 + 1 == j && q.2.category == 2))) := List.tail_eq_of_cons_eq h8
      rw [h7]; exact hq
    split at hk
    · rename_i j n9 a9 b9 c9 heq9
      have hmem9 := eAt_mem heq9
      have hchk9 := hOKc _ hmem9
      simp only [eChk, Bool.and_eq_true, decide_eq_true_eq, beq_iff_eq] at hchk9
      obtain ⟨⟨hd9, hn9⟩, hi9⟩ := hchk9
      have hn9 : n9 = hp + 1 := hn9
      subst hn9
      have hi9 : (j.val == a9 && Nat.blt a9 (mLo M)) = true := hi9
      simp only [Bool.and_eq_true, beq_iff_eq] at hi9
      exact lv_astore_n hx hb hd9 hi9.1 hl (Nat.le_of_ble_eq_true hi9.2) rfl (fun ls' hl' => hK0 _ _ _ _ _ _ (eFil1_spec hk) H1 locs1 ls' hR1 hS1 (hdrop (ls9 := ls) hl'))
    · rename_i j n9 a9 b9 c9 heq9
      have hmem9 := eAt_mem heq9
      have hchk9 := hOKc _ hmem9
      simp only [eChk, Bool.and_eq_true, decide_eq_true_eq, beq_iff_eq] at hchk9
      obtain ⟨⟨hd9, hn9⟩, hi9⟩ := hchk9
      have hn9 : n9 = hp + 2 := hn9
      subst hn9
      have hi9 : (j == a9 && Nat.blt a9 (mLo M)) = true := hi9
      simp only [Bool.and_eq_true, beq_iff_eq] at hi9
      obtain ⟨rfl, hi92⟩ := hi9
      exact lv_astore hx hb hd9 hl (Nat.le_of_ble_eq_true hi92) rfl (fun ls' hl' => hK0 _ _ _ _ _ _ (eFil1_spec hk) H1 locs1 ls' hR1 hS1 (hdrop (ls9 := ls) hl'))
    · exact hk.elim
  · exact hout pc H1 locs1 lsA h' kc1 ks1 E q9 ce rest hk.1 hE3 hk.2 hR1 hS1 hce hcv hcl hkc hks
end Cat
end
section
section InsA
variable {p : Program} {l : Launch} {e : Env} {R : Room} {s : State} {m : MethodId} {args : Array Value} {below : List Frame} {meth : Method} {c0 : Code} {Fin : State → Prop}
variable {S : Nat × (Nat → Int32)} {T : Nat → eM} {C : eC} {M : eM} {d : Nat} {Q : eQ} {D : va_G} {dA : Nat → ClassId} {base b0 : Nat} {K0 : eK}
set_option maxHeartbeats 4000000 in
set_option maxRecDepth 100000 in
theorem ei_aload_n (cx : eCx p l e R s m args below meth c0 D dA base b0 S T C M d Q Fin K0) (j : _root_.Fin 4) {n a b c pc : Nat} {ls : eL} {st : List Value} {h : eH} {kc ks : Nat} {H : Heap} {locs : List Loc} {lsA : Array Slot} (hd : decode (mBy M) pc = .ok ((.aload_n j), eLen pc (.aload_n j) n)) (hn : n = pc + eLen pc (.aload_n j) n) (hi : eIns M pc (.aload_n j) a b c = true) (hlk : eLink T M (pc, (.aload_n j), n, a, b, c)) (hR : eRH D dA base b0 h H) (hSS : va_S (fun q => base ≤ q) s.heap H locs) (hl : lv_has lsA (mLo M) (eLs base b0 ls)) (hstep : okI S T C M d Q (.aload_n j) n a b c pc ls st h kc ks K0) : W p l e R s m args below meth c0 H locs kc ks Fin (F0 m pc lsA (st.map (eV base b0))) := by
  have cx0 := cx
  obtain ⟨hK0, hx, hb, hml, hown, hG, hE, hOK, hCl, hCa, hinit, hRf, hRl, hd1, hRc, hRs, htab, hC, hdC, hfin, hout, hthr⟩ := cx0
  have hOK0 := hOK
  obtain ⟨hOKc, hOKl, hOKh⟩ := hOK0
  have hE0 := hE
  obtain ⟨hNG, hStr, hZ1, hZ2, hAO, hK, hAr, hX, hbb, hbs, hNc⟩ := hE0
  have hA : ∀ q : Nat, s.heap.size ≤ q → base ≤ q := va_SA hbs
  have hts : ∀ w ∈ lw_tbl.filter goodWord, w.before args s = true := fun w hw => hG w ⟨(List.mem_filter.mp hw).1, (List.mem_filter.mp hw).2⟩
  have hKy : ∀ t, t ≤ 4 → va_K D vwCl [(dA t, eTyA t)] s := fun t ht => ⟨hK.1, fun k q hq => by
    match k, hq with
    | 0, hq => cases hq; exact hAr t ht
    | k + 1, hq => simp at hq⟩
  have hP1 : ∀ {k : Nat} {o : va_E}, h.2[k]? = some o → va_P D vwCl [(base + k, eZ dA base b0 o)] H := fun {k o} hk j q hq => by
    match j, hq with
    | 0, hq => cases hq; exact hR.1 k o hk
    | j + 1, hq => simp at hq
  have hstep : pLd 0 ls a (fun v => K0 n ls (v :: st) h kc ks) := hstep
  have hd : decode (mBy M) pc = .ok (.aload_n j, 1) := hd
  have hn : n = pc + 1 := hn
  subst hn
  obtain ⟨v, h1, h2, hk⟩ := pLd_s hstep
  obtain ⟨k9, rfl⟩ := eIsA_0 h2
  exact lv_aload_n hx hb hd (eq_of_beq (show (j.val == a) = true from hi)) (lkp_has hl h1) (hK0 _ _ _ _ _ _ hk H locs lsA hR hSS hl)
set_option maxHeartbeats 4000000 in
set_option maxRecDepth 100000 in
theorem ei_iload_n (cx : eCx p l e R s m args below meth c0 D dA base b0 S T C M d Q Fin K0) (j : _root_.Fin 4) {n a b c pc : Nat} {ls : eL} {st : List Value} {h : eH} {kc ks : Nat} {H : Heap} {locs : List Loc} {lsA : Array Slot} (hd : decode (mBy M) pc = .ok ((.iload_n j), eLen pc (.iload_n j) n)) (hn : n = pc + eLen pc (.iload_n j) n) (hi : eIns M pc (.iload_n j) a b c = true) (hlk : eLink T M (pc, (.iload_n j), n, a, b, c)) (hR : eRH D dA base b0 h H) (hSS : va_S (fun q => base ≤ q) s.heap H locs) (hl : lv_has lsA (mLo M) (eLs base b0 ls)) (hstep : okI S T C M d Q (.iload_n j) n a b c pc ls st h kc ks K0) : W p l e R s m args below meth c0 H locs kc ks Fin (F0 m pc lsA (st.map (eV base b0))) := by
  have cx0 := cx
  obtain ⟨hK0, hx, hb, hml, hown, hG, hE, hOK, hCl, hCa, hinit, hRf, hRl, hd1, hRc, hRs, htab, hC, hdC, hfin, hout, hthr⟩ := cx0
  have hOK0 := hOK
  obtain ⟨hOKc, hOKl, hOKh⟩ := hOK0
  have hE0 := hE
  obtain ⟨hNG, hStr, hZ1, hZ2, hAO, hK, hAr, hX, hbb, hbs, hNc⟩ := hE0
  have hA : ∀ q : Nat, s.heap.size ≤ q → base ≤ q := va_SA hbs
  have hts : ∀ w ∈ lw_tbl.filter goodWord, w.before args s = true := fun w hw => hG w ⟨(List.mem_filter.mp hw).1, (List.mem_filter.mp hw).2⟩
  have hKy : ∀ t, t ≤ 4 → va_K D vwCl [(dA t, eTyA t)] s := fun t ht => ⟨hK.1, fun k q hq => by
    match k, hq with
    | 0, hq => cases hq; exact hAr t ht
    | k + 1, hq => simp at hq⟩
  have hP1 : ∀ {k : Nat} {o : va_E}, h.2[k]? = some o → va_P D vwCl [(base + k, eZ dA base b0 o)] H := fun {k o} hk j q hq => by
    match j, hq with
    | 0, hq => cases hq; exact hR.1 k o hk
    | j + 1, hq => simp at hq
  have hstep : pLd 1 ls a (fun v => K0 n ls (v :: st) h kc ks) := hstep
  have hd : decode (mBy M) pc = .ok (.iload_n j, 1) := hd
  have hn : n = pc + 1 := hn
  subst hn
  obtain ⟨v, h1, h2, hk⟩ := pLd_s hstep
  obtain ⟨k9, rfl⟩ := eIsA_1 h2
  exact lv_iload_n hx hb hd (eq_of_beq (show (j.val == a) = true from hi)) (lkp_has hl h1) (hK0 _ _ _ _ _ _ hk H locs lsA hR hSS hl)
set_option maxHeartbeats 4000000 in
set_option maxRecDepth 100000 in
theorem ei_lload_n (cx : eCx p l e R s m args below meth c0 D dA base b0 S T C M d Q Fin K0) (j : _root_.Fin 4) {n a b c pc : Nat} {ls : eL} {st : List Value} {h : eH} {kc ks : Nat} {H : Heap} {locs : List Loc} {lsA : Array Slot} (hd : decode (mBy M) pc = .ok ((.lload_n j), eLen pc (.lload_n j) n)) (hn : n = pc + eLen pc (.lload_n j) n) (hi : eIns M pc (.lload_n j) a b c = true) (hlk : eLink T M (pc, (.lload_n j), n, a, b, c)) (hR : eRH D dA base b0 h H) (hSS : va_S (fun q => base ≤ q) s.heap H locs) (hl : lv_has lsA (mLo M) (eLs base b0 ls)) (hstep : okI S T C M d Q (.lload_n j) n a b c pc ls st h kc ks K0) : W p l e R s m args below meth c0 H locs kc ks Fin (F0 m pc lsA (st.map (eV base b0))) := by
  have cx0 := cx
  obtain ⟨hK0, hx, hb, hml, hown, hG, hE, hOK, hCl, hCa, hinit, hRf, hRl, hd1, hRc, hRs, htab, hC, hdC, hfin, hout, hthr⟩ := cx0
  have hOK0 := hOK
  obtain ⟨hOKc, hOKl, hOKh⟩ := hOK0
  have hE0 := hE
  obtain ⟨hNG, hStr, hZ1, hZ2, hAO, hK, hAr, hX, hbb, hbs, hNc⟩ := hE0
  have hA : ∀ q : Nat, s.heap.size ≤ q → base ≤ q := va_SA hbs
  have hts : ∀ w ∈ lw_tbl.filter goodWord, w.before args s = true := fun w hw => hG w ⟨(List.mem_filter.mp hw).1, (List.mem_filter.mp hw).2⟩
  have hKy : ∀ t, t ≤ 4 → va_K D vwCl [(dA t, eTyA t)] s := fun t ht => ⟨hK.1, fun k q hq => by
    match k, hq with
    | 0, hq => cases hq; exact hAr t ht
    | k + 1, hq => simp at hq⟩
  have hP1 : ∀ {k : Nat} {o : va_E}, h.2[k]? = some o → va_P D vwCl [(base + k, eZ dA base b0 o)] H := fun {k o} hk j q hq => by
    match j, hq with
    | 0, hq => cases hq; exact hR.1 k o hk
    | j + 1, hq => simp at hq
  have hstep : pLd 2 ls a (fun v => K0 n ls (v :: st) h kc ks) := hstep
  have hd : decode (mBy M) pc = .ok (.lload_n j, 1) := hd
  have hn : n = pc + 1 := hn
  subst hn
  obtain ⟨v, h1, h2, hk⟩ := pLd_s hstep
  obtain ⟨k9, rfl⟩ := eIsA_2 h2
  exact lv_lload_n hx hb hd (eq_of_beq (show (j.val == a) = true from hi)) (lkp_has hl h1) (hK0 _ _ _ _ _ _ hk H locs lsA hR hSS hl)
set_option maxHeartbeats 4000000 in
set_option maxRecDepth 100000 in
theorem ei_aload (cx : eCx p l e R s m args below meth c0 D dA base b0 S T C M d Q Fin K0) (j : Nat) {n a b c pc : Nat} {ls : eL} {st : List Value} {h : eH} {kc ks : Nat} {H : Heap} {locs : List Loc} {lsA : Array Slot} (hd : decode (mBy M) pc = .ok ((.aload j), eLen pc (.aload j) n)) (hn : n = pc + eLen pc (.aload j) n) (hi : eIns M pc (.aload j) a b c = true) (hlk : eLink T M (pc, (.aload j), n, a, b, c)) (hR : eRH D dA base b0 h H) (hSS : va_S (fun q => base ≤ q) s.heap H locs) (hl : lv_has lsA (mLo M) (eLs base b0 ls)) (hstep : okI S T C M d Q (.aload j) n a b c pc ls st h kc ks K0) : W p l e R s m args below meth c0 H locs kc ks Fin (F0 m pc lsA (st.map (eV base b0))) := by
  have cx0 := cx
  obtain ⟨hK0, hx, hb, hml, hown, hG, hE, hOK, hCl, hCa, hinit, hRf, hRl, hd1, hRc, hRs, htab, hC, hdC, hfin, hout, hthr⟩ := cx0
  have hOK0 := hOK
  obtain ⟨hOKc, hOKl, hOKh⟩ := hOK0
  have hE0 := hE
  obtain ⟨hNG, hStr, hZ1, hZ2, hAO, hK, hAr, hX, hbb, hbs, hNc⟩ := hE0
  have hA : ∀ q : Nat, s.heap.size ≤ q → base ≤ q := va_SA hbs
  have hts : ∀ w ∈ lw_tbl.filter goodWord, w.before args s = true := fun w hw => hG w ⟨(List.mem_filter.mp hw).1, (List.mem_filter.mp hw).2⟩
  have hKy : ∀ t, t ≤ 4 → va_K D vwCl [(dA t, eTyA t)] s := fun t ht => ⟨hK.1, fun k q hq => by
    match k, hq with
    | 0, hq => cases hq; exact hAr t ht
    | k + 1, hq => simp at hq⟩
  have hP1 : ∀ {k : Nat} {o : va_E}, h.2[k]? = some o → va_P D vwCl [(base + k, eZ dA base b0 o)] H := fun {k o} hk j q hq => by
    match j, hq with
    | 0, hq => cases hq; exact hR.1 k o hk
    | j + 1, hq => simp at hq
  have hstep : pLd 0 ls a (fun v => K0 n ls (v :: st) h kc ks) := hstep
  have hd : decode (mBy M) pc = .ok (.aload j, 2) := hd
  have hn : n = pc + 2 := hn
  subst hn
  obtain ⟨v, h1, h2, hk⟩ := pLd_s hstep
  obtain ⟨k9, rfl⟩ := eIsA_0 h2
  have hj : j = a := eq_of_beq (show (j == a) = true from hi)
  subst hj
  exact lv_aload hx hb hd (lkp_has hl h1) (hK0 _ _ _ _ _ _ hk H locs lsA hR hSS hl)
set_option maxHeartbeats 4000000 in
set_option maxRecDepth 100000 in
theorem ei_iload (cx : eCx p l e R s m args below meth c0 D dA base b0 S T C M d Q Fin K0) (j : Nat) {n a b c pc : Nat} {ls : eL} {st : List Value} {h : eH} {kc ks : Nat} {H : Heap} {locs : List Loc} {lsA : Array Slot} (hd : decode (mBy M) pc = .ok ((.iload j), eLen pc (.iload j) n)) (hn : n = pc + eLen pc (.iload j) n) (hi : eIns M pc (.iload j) a b c = true) (hlk : eLink T M (pc, (.iload j), n, a, b, c)) (hR : eRH D dA base b0 h H) (hSS : va_S (fun q => base ≤ q) s.heap H locs) (hl : lv_has lsA (mLo M) (eLs base b0 ls)) (hstep : okI S T C M d Q (.iload j) n a b c pc ls st h kc ks K0) : W p l e R s m args below meth c0 H locs kc ks Fin (F0 m pc lsA (st.map (eV base b0))) := by
  have cx0 := cx
  obtain ⟨hK0, hx, hb, hml, hown, hG, hE, hOK, hCl, hCa, hinit, hRf, hRl, hd1, hRc, hRs, htab, hC, hdC, hfin, hout, hthr⟩ := cx0
  have hOK0 := hOK
  obtain ⟨hOKc, hOKl, hOKh⟩ := hOK0
  have hE0 := hE
  obtain ⟨hNG, hStr, hZ1, hZ2, hAO, hK, hAr, hX, hbb, hbs, hNc⟩ := hE0
  have hA : ∀ q : Nat, s.heap.size ≤ q → base ≤ q := va_SA hbs
  have hts : ∀ w ∈ lw_tbl.filter goodWord, w.before args s = true := fun w hw => hG w ⟨(List.mem_filter.mp hw).1, (List.mem_filter.mp hw).2⟩
  have hKy : ∀ t, t ≤ 4 → va_K D vwCl [(dA t, eTyA t)] s := fun t ht => ⟨hK.1, fun k q hq => by
    match k, hq with
    | 0, hq => cases hq; exact hAr t ht
    | k + 1, hq => simp at hq⟩
  have hP1 : ∀ {k : Nat} {o : va_E}, h.2[k]? = some o → va_P D vwCl [(base + k, eZ dA base b0 o)] H := fun {k o} hk j q hq => by
    match j, hq with
    | 0, hq => cases hq; exact hR.1 k o hk
    | j + 1, hq => simp at hq
  have hstep : pLd 1 ls a (fun v => K0 n ls (v :: st) h kc ks) := hstep
  have hd : decode (mBy M) pc = .ok (.iload j, 2) := hd
  have hn : n = pc + 2 := hn
  subst hn
  obtain ⟨v, h1, h2, hk⟩ := pLd_s hstep
  obtain ⟨k9, rfl⟩ := eIsA_1 h2
  have hj : j = a := eq_of_beq (show (j == a) = true from hi)
  subst hj
  exact lv_iload hx hb hd (lkp_has hl h1) (hK0 _ _ _ _ _ _ hk H locs lsA hR hSS hl)
set_option maxHeartbeats 4000000 in
set_option maxRecDepth 100000 in
theorem ei_lload (cx : eCx p l e R s m args below meth c0 D dA base b0 S T C M d Q Fin K0) (j : Nat) {n a b c pc : Nat} {ls : eL} {st : List Value} {h : eH} {kc ks : Nat} {H : Heap} {locs : List Loc} {lsA : Array Slot} (hd : decode (mBy M) pc = .ok ((.lload j), eLen pc (.lload j) n)) (hn : n = pc + eLen pc (.lload j) n) (hi : eIns M pc (.lload j) a b c = true) (hlk : eLink T M (pc, (.lload j), n, a, b, c)) (hR : eRH D dA base b0 h H) (hSS : va_S (fun q => base ≤ q) s.heap H locs) (hl : lv_has lsA (mLo M) (eLs base b0 ls)) (hstep : okI S T C M d Q (.lload j) n a b c pc ls st h kc ks K0) : W p l e R s m args below meth c0 H locs kc ks Fin (F0 m pc lsA (st.map (eV base b0))) := by
  have cx0 := cx
  obtain ⟨hK0, hx, hb, hml, hown, hG, hE, hOK, hCl, hCa, hinit, hRf, hRl, hd1, hRc, hRs, htab, hC, hdC, hfin, hout, hthr⟩ := cx0
  have hOK0 := hOK
  obtain ⟨hOKc, hOKl, hOKh⟩ := hOK0
  have hE0 := hE
  obtain ⟨hNG, hStr, hZ1, hZ2, hAO, hK, hAr, hX, hbb, hbs, hNc⟩ := hE0
  have hA : ∀ q : Nat, s.heap.size ≤ q → base ≤ q := va_SA hbs
  have hts : ∀ w ∈ lw_tbl.filter goodWord, w.before args s = true := fun w hw => hG w ⟨(List.mem_filter.mp hw).1, (List.mem_filter.mp hw).2⟩
  have hKy : ∀ t, t ≤ 4 → va_K D vwCl [(dA t, eTyA t)] s := fun t ht => ⟨hK.1, fun k q hq => by
    match k, hq with
    | 0, hq => cases hq; exact hAr t ht
    | k + 1, hq => simp at hq⟩
  have hP1 : ∀ {k : Nat} {o : va_E}, h.2[k]? = some o → va_P D vwCl [(base + k, eZ dA base b0 o)] H := fun {k o} hk j q hq => by
    match j, hq with
    | 0, hq => cases hq; exact hR.1 k o hk
    | j + 1, hq => simp at hq
  have hstep : pLd 2 ls a (fun v => K0 n ls (v :: st) h kc ks) := hstep
  have hd : decode (mBy M) pc = .ok (.lload j, 2) := hd
  have hn : n = pc + 2 := hn
  subst hn
  obtain ⟨v, h1, h2, hk⟩ := pLd_s hstep
  obtain ⟨k9, rfl⟩ := eIsA_2 h2
  have hj : j = a := eq_of_beq (show (j == a) = true from hi)
  subst hj
  exact lv_lload hx hb hd (lkp_has hl h1) (hK0 _ _ _ _ _ _ hk H locs lsA hR hSS hl)
set_option maxHeartbeats 4000000 in
set_option maxRecDepth 100000 in
theorem ei_fload (cx : eCx p l e R s m args below meth c0 D dA base b0 S T C M d Q Fin K0) (j : Nat) {n a b c pc : Nat} {ls : eL} {st : List Value} {h : eH} {kc ks : Nat} {H : Heap} {locs : List Loc} {lsA : Array Slot} (hd : decode (mBy M) pc = .ok ((.fload j), eLen pc (.fload j) n)) (hn : n = pc + eLen pc (.fload j) n) (hi : eIns M pc (.fload j) a b c = true) (hlk : eLink T M (pc, (.fload j), n, a, b, c)) (hR : eRH D dA base b0 h H) (hSS : va_S (fun q => base ≤ q) s.heap H locs) (hl : lv_has lsA (mLo M) (eLs base b0 ls)) (hstep : okI S T C M d Q (.fload j) n a b c pc ls st h kc ks K0) : W p l e R s m args below meth c0 H locs kc ks Fin (F0 m pc lsA (st.map (eV base b0))) := by
  have cx0 := cx
  obtain ⟨hK0, hx, hb, hml, hown, hG, hE, hOK, hCl, hCa, hinit, hRf, hRl, hd1, hRc, hRs, htab, hC, hdC, hfin, hout, hthr⟩ := cx0
  have hOK0 := hOK
  obtain ⟨hOKc, hOKl, hOKh⟩ := hOK0
  have hE0 := hE
  obtain ⟨hNG, hStr, hZ1, hZ2, hAO, hK, hAr, hX, hbb, hbs, hNc⟩ := hE0
  have hA : ∀ q : Nat, s.heap.size ≤ q → base ≤ q := va_SA hbs
  have hts : ∀ w ∈ lw_tbl.filter goodWord, w.before args s = true := fun w hw => hG w ⟨(List.mem_filter.mp hw).1, (List.mem_filter.mp hw).2⟩
  have hKy : ∀ t, t ≤ 4 → va_K D vwCl [(dA t, eTyA t)] s := fun t ht => ⟨hK.1, fun k q hq => by
    match k, hq with
    | 0, hq => cases hq; exact hAr t ht
    | k + 1, hq => simp at hq⟩
  have hP1 : ∀ {k : Nat} {o : va_E}, h.2[k]? = some o → va_P D vwCl [(base + k, eZ dA base b0 o)] H := fun {k o} hk j q hq => by
    match j, hq with
    | 0, hq => cases hq; exact hR.1 k o hk
    | j + 1, hq => simp at hq
  have hstep : pLd 3 ls a (fun v => K0 n ls (v :: st) h kc ks) := hstep
  have hd : decode (mBy M) pc = .ok (.fload j, 2) := hd
  have hn : n = pc + 2 := hn
  subst hn
  obtain ⟨v, h1, h2, hk⟩ := pLd_s hstep
  obtain ⟨k9, rfl⟩ := eIsA_3 h2
  have hj : j = a := eq_of_beq (show (j == a) = true from hi)
  subst hj
  exact lv_fload hx hb hd (lkp_has hl h1) (hK0 _ _ _ _ _ _ hk H locs lsA hR hSS hl)
set_option maxHeartbeats 4000000 in
set_option maxRecDepth 100000 in
theorem ei_dload (cx : eCx p l e R s m args below meth c0 D dA base b0 S T C M d Q Fin K0) (j : Nat) {n a b c pc : Nat} {ls : eL} {st : List Value} {h : eH} {kc ks : Nat} {H : Heap} {locs : List Loc} {lsA : Array Slot} (hd : decode (mBy M) pc = .ok ((.dload j), eLen pc (.dload j) n)) (hn : n = pc + eLen pc (.dload j) n) (hi : eIns M pc (.dload j) a b c = true) (hlk : eLink T M (pc, (.dload j), n, a, b, c)) (hR : eRH D dA base b0 h H) (hSS : va_S (fun q => base ≤ q) s.heap H locs) (hl : lv_has lsA (mLo M) (eLs base b0 ls)) (hstep : okI S T C M d Q (.dload j) n a b c pc ls st h kc ks K0) : W p l e R s m args below meth c0 H locs kc ks Fin (F0 m pc lsA (st.map (eV base b0))) := by
  have cx0 := cx
  obtain ⟨hK0, hx, hb, hml, hown, hG, hE, hOK, hCl, hCa, hinit, hRf, hRl, hd1, hRc, hRs, htab, hC, hdC, hfin, hout, hthr⟩ := cx0
  have hOK0 := hOK
  obtain ⟨hOKc, hOKl, hOKh⟩ := hOK0
  have hE0 := hE
  obtain ⟨hNG, hStr, hZ1, hZ2, hAO, hK, hAr, hX, hbb, hbs, hNc⟩ := hE0
  have hA : ∀ q : Nat, s.heap.size ≤ q → base ≤ q := va_SA hbs
  have hts : ∀ w ∈ lw_tbl.filter goodWord, w.before args s = true := fun w hw => hG w ⟨(List.mem_filter.mp hw).1, (List.mem_filter.mp hw).2⟩
  have hKy : ∀ t, t ≤ 4 → va_K D vwCl [(dA t, eTyA t)] s := fun t ht => ⟨hK.1, fun k q hq => by
    match k, hq with
    | 0, hq => cases hq; exact hAr t ht
    | k + 1, hq => simp at hq⟩
  have hP1 : ∀ {k : Nat} {o : va_E}, h.2[k]? = some o → va_P D vwCl [(base + k, eZ dA base b0 o)] H := fun {k o} hk j q hq => by
    match j, hq with
    | 0, hq => cases hq; exact hR.1 k o hk
    | j + 1, hq => simp at hq
  have hstep : pLd 4 ls a (fun v => K0 n ls (v :: st) h kc ks) := hstep
  have hd : decode (mBy M) pc = .ok (.dload j, 2) := hd
  have hn : n = pc + 2 := hn
  subst hn
  obtain ⟨v, h1, h2, hk⟩ := pLd_s hstep
  obtain ⟨k9, rfl⟩ := eIsA_4 h2
  have hj : j = a := eq_of_beq (show (j == a) = true from hi)
  subst hj
  exact lv_dload hx hb hd (lkp_has hl h1) (hK0 _ _ _ _ _ _ hk H locs lsA hR hSS hl)
set_option maxHeartbeats 4000000 in
set_option maxRecDepth 100000 in
theorem ei_astore_n (cx : eCx p l e R s m args below meth c0 D dA base b0 S T C M d Q Fin K0) (j : _root_.Fin 4) {n a b c pc : Nat} {ls : eL} {st : List Value} {h : eH} {kc ks : Nat} {H : Heap} {locs : List Loc} {lsA : Array Slot} (hd : decode (mBy M) pc = .ok ((.astore_n j), eLen pc (.astore_n j) n)) (hn : n = pc + eLen pc (.astore_n j) n) (hi : eIns M pc (.astore_n j) a b c = true) (hlk : eLink T M (pc, (.astore_n j), n, a, b, c)) (hR : eRH D dA base b0 h H) (hSS : va_S (fun q => base ≤ q) s.heap H locs) (hl : lv_has lsA (mLo M) (eLs base b0 ls)) (hstep : okI S T C M d Q (.astore_n j) n a b c pc ls st h kc ks K0) : W p l e R s m args below meth c0 H locs kc ks Fin (F0 m pc lsA (st.map (eV base b0))) := by
  have cx0 := cx
  obtain ⟨hK0, hx, hb, hml, hown, hG, hE, hOK, hCl, hCa, hinit, hRf, hRl, hd1, hRc, hRs, htab, hC, hdC, hfin, hout, hthr⟩ := cx0
  have hOK0 := hOK
  obtain ⟨hOKc, hOKl, hOKh⟩ := hOK0
  have hE0 := hE
  obtain ⟨hNG, hStr, hZ1, hZ2, hAO, hK, hAr, hX, hbb, hbs, hNc⟩ := hE0
  have hA : ∀ q : Nat, s.heap.size ≤ q → base ≤ q := va_SA hbs
  have hts : ∀ w ∈ lw_tbl.filter goodWord, w.before args s = true := fun w hw => hG w ⟨(List.mem_filter.mp hw).1, (List.mem_filter.mp hw).2⟩
  have hKy : ∀ t, t ≤ 4 → va_K D vwCl [(dA t, eTyA t)] s := fun t ht => ⟨hK.1, fun k q hq => by
    match k, hq with
    | 0, hq => cases hq; exact hAr t ht
    | k + 1, hq => simp at hq⟩
  have hP1 : ∀ {k : Nat} {o : va_E}, h.2[k]? = some o → va_P D vwCl [(base + k, eZ dA base b0 o)] H := fun {k o} hk j q hq => by
    match j, hq with
    | 0, hq => cases hq; exact hR.1 k o hk
    | j + 1, hq => simp at hq
  have hstep : pSt1 0 st a ls (fun l' r => K0 n l' r h kc ks) := hstep
  have hd : decode (mBy M) pc = .ok (.astore_n j, 1) := hd
  have hn : n = pc + 1 := hn
  subst hn
  obtain ⟨v, r, rfl, h2, hk⟩ := pSt1_s hstep
  obtain ⟨k9, rfl⟩ := eIsA_0 h2
  have hi : (j.val == a && Nat.blt a (mLo M)) = true := hi
  simp only [Bool.and_eq_true, beq_iff_eq] at hi
  exact lv_astore_n hx hb hd hi.1 hl (Nat.le_of_ble_eq_true hi.2) (eFil1_map base b0 a (.ref k9) ls) (fun ls' hl' => hK0 _ _ _ _ _ _ hk H locs ls' hR hSS hl')
set_option maxHeartbeats 4000000 in
set_option maxRecDepth 100000 in
theorem ei_istore_n (cx : eCx p l e R s m args below meth c0 D dA base b0 S T C M d Q Fin K0) (j : _root_.Fin 4) {n a b c pc : Nat} {ls : eL} {st : List Value} {h : eH} {kc ks : Nat} {H : Heap} {locs : List Loc} {lsA : Array Slot} (hd : decode (mBy M) pc = .ok ((.istore_n j), eLen pc (.istore_n j) n)) (hn : n = pc + eLen pc (.istore_n j) n) (hi : eIns M pc (.istore_n j) a b c = true) (hlk : eLink T M (pc, (.istore_n j), n, a, b, c)) (hR : eRH D dA base b0 h H) (hSS : va_S (fun q => base ≤ q) s.heap H locs) (hl : lv_has lsA (mLo M) (eLs base b0 ls)) (hstep : okI S T C M d Q (.istore_n j) n a b c pc ls st h kc ks K0) : W p l e R s m args below meth c0 H locs kc ks Fin (F0 m pc lsA (st.map (eV base b0))) := by
  have cx0 := cx
  obtain ⟨hK0, hx, hb, hml, hown, hG, hE, hOK, hCl, hCa, hinit, hRf, hRl, hd1, hRc, hRs, htab, hC, hdC, hfin, hout, hthr⟩ := cx0
  have hOK0 := hOK
  obtain ⟨hOKc, hOKl, hOKh⟩ := hOK0
  have hE0 := hE
  obtain ⟨hNG, hStr, hZ1, hZ2, hAO, hK, hAr, hX, hbb, hbs, hNc⟩ := hE0
  have hA : ∀ q : Nat, s.heap.size ≤ q → base ≤ q := va_SA hbs
  have hts : ∀ w ∈ lw_tbl.filter goodWord, w.before args s = true := fun w hw => hG w ⟨(List.mem_filter.mp hw).1, (List.mem_filter.mp hw).2⟩
  have hKy : ∀ t, t ≤ 4 → va_K D vwCl [(dA t, eTyA t)] s := fun t ht => ⟨hK.1, fun k q hq => by
    match k, hq with
    | 0, hq => cases hq; exact hAr t ht
    | k + 1, hq => simp at hq⟩
  have hP1 : ∀ {k : Nat} {o : va_E}, h.2[k]? = some o → va_P D vwCl [(base + k, eZ dA base b0 o)] H := fun {k o} hk j q hq => by
    match j, hq with
    | 0, hq => cases hq; exact hR.1 k o hk
    | j + 1, hq => simp at hq
  have hstep : pSt1 1 st a ls (fun l' r => K0 n l' r h kc ks) := hstep
  have hd : decode (mBy M) pc = .ok (.istore_n j, 1) := hd
  have hn : n = pc + 1 := hn
  subst hn
  obtain ⟨v, r, rfl, h2, hk⟩ := pSt1_s hstep
  obtain ⟨k9, rfl⟩ := eIsA_1 h2
  have hi : (j.val == a && Nat.blt a (mLo M)) = true := hi
  simp only [Bool.and_eq_true, beq_iff_eq] at hi
  exact lv_istore_n hx hb hd hi.1 hl (Nat.le_of_ble_eq_true hi.2) (eFil1_map base b0 a (.int k9) ls) (fun ls' hl' => hK0 _ _ _ _ _ _ hk H locs ls' hR hSS hl')
set_option maxHeartbeats 4000000 in
set_option maxRecDepth 100000 in
theorem ei_astore (cx : eCx p l e R s m args below meth c0 D dA base b0 S T C M d Q Fin K0) (j : Nat) {n a b c pc : Nat} {ls : eL} {st : List Value} {h : eH} {kc ks : Nat} {H : Heap} {locs : List Loc} {lsA : Array Slot} (hd : decode (mBy M) pc = .ok ((.astore j), eLen pc (.astore j) n)) (hn : n = pc + eLen pc (.astore j) n) (hi : eIns M pc (.astore j) a b c = true) (hlk : eLink T M (pc, (.astore j), n, a, b, c)) (hR : eRH D dA base b0 h H) (hSS : va_S (fun q => base ≤ q) s.heap H locs) (hl : lv_has lsA (mLo M) (eLs base b0 ls)) (hstep : okI S T C M d Q (.astore j) n a b c pc ls st h kc ks K0) : W p l e R s m args below meth c0 H locs kc ks Fin (F0 m pc lsA (st.map (eV base b0))) := by
  have cx0 := cx
  obtain ⟨hK0, hx, hb, hml, hown, hG, hE, hOK, hCl, hCa, hinit, hRf, hRl, hd1, hRc, hRs, htab, hC, hdC, hfin, hout, hthr⟩ := cx0
  have hOK0 := hOK
  obtain ⟨hOKc, hOKl, hOKh⟩ := hOK0
  have hE0 := hE
  obtain ⟨hNG, hStr, hZ1, hZ2, hAO, hK, hAr, hX, hbb, hbs, hNc⟩ := hE0
  have hA : ∀ q : Nat, s.heap.size ≤ q → base ≤ q := va_SA hbs
  have hts : ∀ w ∈ lw_tbl.filter goodWord, w.before args s = true := fun w hw => hG w ⟨(List.mem_filter.mp hw).1, (List.mem_filter.mp hw).2⟩
  have hKy : ∀ t, t ≤ 4 → va_K D vwCl [(dA t, eTyA t)] s := fun t ht => ⟨hK.1, fun k q hq => by
    match k, hq with
    | 0, hq => cases hq; exact hAr t ht
    | k + 1, hq => simp at hq⟩
  have hP1 : ∀ {k : Nat} {o : va_E}, h.2[k]? = some o → va_P D vwCl [(base + k, eZ dA base b0 o)] H := fun {k o} hk j q hq => by
    match j, hq with
    | 0, hq => cases hq; exact hR.1 k o hk
    | j + 1, hq => simp at hq
  have hstep : pSt1 0 st a ls (fun l' r => K0 n l' r h kc ks) := hstep
  have hd : decode (mBy M) pc = .ok (.astore j, 2) := hd
  have hn : n = pc + 2 := hn
  subst hn
  obtain ⟨v, r, rfl, h2, hk⟩ := pSt1_s hstep
  obtain ⟨k9, rfl⟩ := eIsA_0 h2
  have hi : (j == a && Nat.blt a (mLo M)) = true := hi
  simp only [Bool.and_eq_true, beq_iff_eq] at hi
  obtain ⟨rfl, hi2⟩ := hi
  exact lv_astore hx hb hd hl (Nat.le_of_ble_eq_true hi2) (eFil1_map base b0 j (.ref k9) ls) (fun ls' hl' => hK0 _ _ _ _ _ _ hk H locs ls' hR hSS hl')
set_option maxHeartbeats 4000000 in
set_option maxRecDepth 100000 in
theorem ei_istore (cx : eCx p l e R s m args below meth c0 D dA base b0 S T C M d Q Fin K0) (j : Nat) {n a b c pc : Nat} {ls : eL} {st : List Value} {h : eH} {kc ks : Nat} {H : Heap} {locs : List Loc} {lsA : Array Slot} (hd : decode (mBy M) pc = .ok ((.istore j), eLen pc (.istore j) n)) (hn : n = pc + eLen pc (.istore j) n) (hi : eIns M pc (.istore j) a b c = true) (hlk : eLink T M (pc, (.istore j), n, a, b, c)) (hR : eRH D dA base b0 h H) (hSS : va_S (fun q => base ≤ q) s.heap H locs) (hl : lv_has lsA (mLo M) (eLs base b0 ls)) (hstep : okI S T C M d Q (.istore j) n a b c pc ls st h kc ks K0) : W p l e R s m args below meth c0 H locs kc ks Fin (F0 m pc lsA (st.map (eV base b0))) := by
  have cx0 := cx
  obtain ⟨hK0, hx, hb, hml, hown, hG, hE, hOK, hCl, hCa, hinit, hRf, hRl, hd1, hRc, hRs, htab, hC, hdC, hfin, hout, hthr⟩ := cx0
  have hOK0 := hOK
  obtain ⟨hOKc, hOKl, hOKh⟩ := hOK0
  have hE0 := hE
  obtain ⟨hNG, hStr, hZ1, hZ2, hAO, hK, hAr, hX, hbb, hbs, hNc⟩ := hE0
  have hA : ∀ q : Nat, s.heap.size ≤ q → base ≤ q := va_SA hbs
  have hts : ∀ w ∈ lw_tbl.filter goodWord, w.before args s = true := fun w hw => hG w ⟨(List.mem_filter.mp hw).1, (List.mem_filter.mp hw).2⟩
  have hKy : ∀ t, t ≤ 4 → va_K D vwCl [(dA t, eTyA t)] s := fun t ht => ⟨hK.1, fun k q hq => by
    match k, hq with
    | 0, hq => cases hq; exact hAr t ht
    | k + 1, hq => simp at hq⟩
  have hP1 : ∀ {k : Nat} {o : va_E}, h.2[k]? = some o → va_P D vwCl [(base + k, eZ dA base b0 o)] H := fun {k o} hk j q hq => by
    match j, hq with
    | 0, hq => cases hq; exact hR.1 k o hk
    | j + 1, hq => simp at hq
  have hstep : pSt1 1 st a ls (fun l' r => K0 n l' r h kc ks) := hstep
  have hd : decode (mBy M) pc = .ok (.istore j, 2) := hd
  have hn : n = pc + 2 := hn
  subst hn
  obtain ⟨v, r, rfl, h2, hk⟩ := pSt1_s hstep
  obtain ⟨k9, rfl⟩ := eIsA_1 h2
  have hi : (j == a && Nat.blt a (mLo M)) = true := hi
  simp only [Bool.and_eq_true, beq_iff_eq] at hi
  obtain ⟨rfl, hi2⟩ := hi
  exact lv_istore hx hb hd hl (Nat.le_of_ble_eq_true hi2) (eFil1_map base b0 j (.int k9) ls) (fun ls' hl' => hK0 _ _ _ _ _ _ hk H locs ls' hR hSS hl')
set_option maxHeartbeats 4000000 in
set_option maxRecDepth 100000 in
theorem ei_fstore (cx : eCx p l e R s m args below meth c0 D dA base b0 S T C M d Q Fin K0) (j : Nat) {n a b c pc : Nat} {ls : eL} {st : List Value} {h : eH} {kc ks : Nat} {H : Heap} {locs : List Loc} {lsA : Array Slot} (hd : decode (mBy M) pc = .ok ((.fstore j), eLen pc (.fstore j) n)) (hn : n = pc + eLen pc (.fstore j) n) (hi : eIns M pc (.fstore j) a b c = true) (hlk : eLink T M (pc, (.fstore j), n, a, b, c)) (hR : eRH D dA base b0 h H) (hSS : va_S (fun q => base ≤ q) s.heap H locs) (hl : lv_has lsA (mLo M) (eLs base b0 ls)) (hstep : okI S T C M d Q (.fstore j) n a b c pc ls st h kc ks K0) : W p l e R s m args below meth c0 H locs kc ks Fin (F0 m pc lsA (st.map (eV base b0))) := by
  have cx0 := cx
  obtain ⟨hK0, hx, hb, hml, hown, hG, hE, hOK, hCl, hCa, hinit, hRf, hRl, hd1, hRc, hRs, htab, hC, hdC, hfin, hout, hthr⟩ := cx0
  have hOK0 := hOK
  obtain ⟨hOKc, hOKl, hOKh⟩ := hOK0
  have hE0 := hE
  obtain ⟨hNG, hStr, hZ1, hZ2, hAO, hK, hAr, hX, hbb, hbs, hNc⟩ := hE0
  have hA : ∀ q : Nat, s.heap.size ≤ q → base ≤ q := va_SA hbs
  have hts : ∀ w ∈ lw_tbl.filter goodWord, w.before args s = true := fun w hw => hG w ⟨(List.mem_filter.mp hw).1, (List.mem_filter.mp hw).2⟩
  have hKy : ∀ t, t ≤ 4 → va_K D vwCl [(dA t, eTyA t)] s := fun t ht => ⟨hK.1, fun k q hq => by
    match k, hq with
    | 0, hq => cases hq; exact hAr t ht
    | k + 1, hq => simp at hq⟩
  have hP1 : ∀ {k : Nat} {o : va_E}, h.2[k]? = some o → va_P D vwCl [(base + k, eZ dA base b0 o)] H := fun {k o} hk j q hq => by
    match j, hq with
    | 0, hq => cases hq; exact hR.1 k o hk
    | j + 1, hq => simp at hq
  have hstep : pSt1 3 st a ls (fun l' r => K0 n l' r h kc ks) := hstep
  have hd : decode (mBy M) pc = .ok (.fstore j, 2) := hd
  have hn : n = pc + 2 := hn
  subst hn
  obtain ⟨v, r, rfl, h2, hk⟩ := pSt1_s hstep
  obtain ⟨k9, rfl⟩ := eIsA_3 h2
  have hi : (j == a && Nat.blt a (mLo M)) = true := hi
  simp only [Bool.and_eq_true, beq_iff_eq] at hi
  obtain ⟨rfl, hi2⟩ := hi
  exact lv_fstore hx hb hd hl (Nat.le_of_ble_eq_true hi2) (eFil1_map base b0 j (.float k9) ls) (fun ls' hl' => hK0 _ _ _ _ _ _ hk H locs ls' hR hSS hl')
set_option maxHeartbeats 4000000 in
set_option maxRecDepth 100000 in
theorem ei_lstore_n (cx : eCx p l e R s m args below meth c0 D dA base b0 S T C M d Q Fin K0) (j : _root_.Fin 4) {n a b c pc : Nat} {ls : eL} {st : List Value} {h : eH} {kc ks : Nat} {H : Heap} {locs : List Loc} {lsA : Array Slot} (hd : decode (mBy M) pc = .ok ((.lstore_n j), eLen pc (.lstore_n j) n)) (hn : n = pc + eLen pc (.lstore_n j) n) (hi : eIns M pc (.lstore_n j) a b c = true) (hlk : eLink T M (pc, (.lstore_n j), n, a, b, c)) (hR : eRH D dA base b0 h H) (hSS : va_S (fun q => base ≤ q) s.heap H locs) (hl : lv_has lsA (mLo M) (eLs base b0 ls)) (hstep : okI S T C M d Q (.lstore_n j) n a b c pc ls st h kc ks K0) : W p l e R s m args below meth c0 H locs kc ks Fin (F0 m pc lsA (st.map (eV base b0))) := by
  have cx0 := cx
  obtain ⟨hK0, hx, hb, hml, hown, hG, hE, hOK, hCl, hCa, hinit, hRf, hRl, hd1, hRc, hRs, htab, hC, hdC, hfin, hout, hthr⟩ := cx0
  have hOK0 := hOK
  obtain ⟨hOKc, hOKl, hOKh⟩ := hOK0
  have hE0 := hE
  obtain ⟨hNG, hStr, hZ1, hZ2, hAO, hK, hAr, hX, hbb, hbs, hNc⟩ := hE0
  have hA : ∀ q : Nat, s.heap.size ≤ q → base ≤ q := va_SA hbs
  have hts : ∀ w ∈ lw_tbl.filter goodWord, w.before args s = true := fun w hw => hG w ⟨(List.mem_filter.mp hw).1, (List.mem_filter.mp hw).2⟩
  have hKy : ∀ t, t ≤ 4 → va_K D vwCl [(dA t, eTyA t)] s := fun t ht => ⟨hK.1, fun k q hq => by
    match k, hq with
    | 0, hq => cases hq; exact hAr t ht
    | k + 1, hq => simp at hq⟩
  have hP1 : ∀ {k : Nat} {o : va_E}, h.2[k]? = some o → va_P D vwCl [(base + k, eZ dA base b0 o)] H := fun {k o} hk j q hq => by
    match j, hq with
    | 0, hq => cases hq; exact hR.1 k o hk
    | j + 1, hq => simp at hq
  have hstep : pSt2 2 st a ls (fun l' r => K0 n l' r h kc ks) := hstep
  have hd : decode (mBy M) pc = .ok (.lstore_n j, 1) := hd
  have hn : n = pc + 1 := hn
  subst hn
  obtain ⟨v, r, rfl, h2, hk⟩ := pSt2_s hstep
  obtain ⟨k9, rfl⟩ := eIsA_2 h2
  have hi : (j.val == a && Nat.blt (a + 1) (mLo M)) = true := hi
  simp only [Bool.and_eq_true, beq_iff_eq] at hi
  exact lv_lstore_n hx hb hd hi.1 hl (Nat.le_of_ble_eq_true hi.2) (eFil2_map base b0 a (.long k9) ls) (fun ls' hl' => hK0 _ _ _ _ _ _ hk H locs ls' hR hSS hl')
set_option maxHeartbeats 4000000 in
set_option maxRecDepth 100000 in
theorem ei_lstore (cx : eCx p l e R s m args below meth c0 D dA base b0 S T C M d Q Fin K0) (j : Nat) {n a b c pc : Nat} {ls : eL} {st : List Value} {h : eH} {kc ks : Nat} {H : Heap} {locs : List Loc} {lsA : Array Slot} (hd : decode (mBy M) pc = .ok ((.lstore j), eLen pc (.lstore j) n)) (hn : n = pc + eLen pc (.lstore j) n) (hi : eIns M pc (.lstore j) a b c = true) (hlk : eLink T M (pc, (.lstore j), n, a, b, c)) (hR : eRH D dA base b0 h H) (hSS : va_S (fun q => base ≤ q) s.heap H locs) (hl : lv_has lsA (mLo M) (eLs base b0 ls)) (hstep : okI S T C M d Q (.lstore j) n a b c pc ls st h kc ks K0) : W p l e R s m args below meth c0 H locs kc ks Fin (F0 m pc lsA (st.map (eV base b0))) := by
  have cx0 := cx
  obtain ⟨hK0, hx, hb, hml, hown, hG, hE, hOK, hCl, hCa, hinit, hRf, hRl, hd1, hRc, hRs, htab, hC, hdC, hfin, hout, hthr⟩ := cx0
  have hOK0 := hOK
  obtain ⟨hOKc, hOKl, hOKh⟩ := hOK0
  have hE0 := hE
  obtain ⟨hNG, hStr, hZ1, hZ2, hAO, hK, hAr, hX, hbb, hbs, hNc⟩ := hE0
  have hA : ∀ q : Nat, s.heap.size ≤ q → base ≤ q := va_SA hbs
  have hts : ∀ w ∈ lw_tbl.filter goodWord, w.before args s = true := fun w hw => hG w ⟨(List.mem_filter.mp hw).1, (List.mem_filter.mp hw).2⟩
  have hKy : ∀ t, t ≤ 4 → va_K D vwCl [(dA t, eTyA t)] s := fun t ht => ⟨hK.1, fun k q hq => by
    match k, hq with
    | 0, hq => cases hq; exact hAr t ht
    | k + 1, hq => simp at hq⟩
  have hP1 : ∀ {k : Nat} {o : va_E}, h.2[k]? = some o → va_P D vwCl [(base + k, eZ dA base b0 o)] H := fun {k o} hk j q hq => by
    match j, hq with
    | 0, hq => cases hq; exact hR.1 k o hk
    | j + 1, hq => simp at hq
  have hstep : pSt2 2 st a ls (fun l' r => K0 n l' r h kc ks) := hstep
  have hd : decode (mBy M) pc = .ok (.lstore j, 2) := hd
  have hn : n = pc + 2 := hn
  subst hn
  obtain ⟨v, r, rfl, h2, hk⟩ := pSt2_s hstep
  obtain ⟨k9, rfl⟩ := eIsA_2 h2
  have hi : (j == a && Nat.blt (a + 1) (mLo M)) = true := hi
  simp only [Bool.and_eq_true, beq_iff_eq] at hi
  obtain ⟨rfl, hi2⟩ := hi
  exact lv_lstore hx hb hd hl (Nat.le_of_ble_eq_true hi2) (eFil2_map base b0 j (.long k9) ls) (fun ls' hl' => hK0 _ _ _ _ _ _ hk H locs ls' hR hSS hl')
set_option maxHeartbeats 4000000 in
set_option maxRecDepth 100000 in
theorem ei_dstore (cx : eCx p l e R s m args below meth c0 D dA base b0 S T C M d Q Fin K0) (j : Nat) {n a b c pc : Nat} {ls : eL} {st : List Value} {h : eH} {kc ks : Nat} {H : Heap} {locs : List Loc} {lsA : Array Slot} (hd : decode (mBy M) pc = .ok ((.dstore j), eLen pc (.dstore j) n)) (hn : n = pc + eLen pc (.dstore j) n) (hi : eIns M pc (.dstore j) a b c = true) (hlk : eLink T M (pc, (.dstore j), n, a, b, c)) (hR : eRH D dA base b0 h H) (hSS : va_S (fun q => base ≤ q) s.heap H locs) (hl : lv_has lsA (mLo M) (eLs base b0 ls)) (hstep : okI S T C M d Q (.dstore j) n a b c pc ls st h kc ks K0) : W p l e R s m args below meth c0 H locs kc ks Fin (F0 m pc lsA (st.map (eV base b0))) := by
  have cx0 := cx
  obtain ⟨hK0, hx, hb, hml, hown, hG, hE, hOK, hCl, hCa, hinit, hRf, hRl, hd1, hRc, hRs, htab, hC, hdC, hfin, hout, hthr⟩ := cx0
  have hOK0 := hOK
  obtain ⟨hOKc, hOKl, hOKh⟩ := hOK0
  have hE0 := hE
  obtain ⟨hNG, hStr, hZ1, hZ2, hAO, hK, hAr, hX, hbb, hbs, hNc⟩ := hE0
  have hA : ∀ q : Nat, s.heap.size ≤ q → base ≤ q := va_SA hbs
  have hts : ∀ w ∈ lw_tbl.filter goodWord, w.before args s = true := fun w hw => hG w ⟨(List.mem_filter.mp hw).1, (List.mem_filter.mp hw).2⟩
  have hKy : ∀ t, t ≤ 4 → va_K D vwCl [(dA t, eTyA t)] s := fun t ht => ⟨hK.1, fun k q hq => by
    match k, hq with
    | 0, hq => cases hq; exact hAr t ht
    | k + 1, hq => simp at hq⟩
  have hP1 : ∀ {k : Nat} {o : va_E}, h.2[k]? = some o → va_P D vwCl [(base + k, eZ dA base b0 o)] H := fun {k o} hk j q hq => by
    match j, hq with
    | 0, hq => cases hq; exact hR.1 k o hk
    | j + 1, hq => simp at hq
  have hstep : pSt2 4 st a ls (fun l' r => K0 n l' r h kc ks) := hstep
  have hd : decode (mBy M) pc = .ok (.dstore j, 2) := hd
  have hn : n = pc + 2 := hn
  subst hn
  obtain ⟨v, r, rfl, h2, hk⟩ := pSt2_s hstep
  obtain ⟨k9, rfl⟩ := eIsA_4 h2
  have hi : (j == a && Nat.blt (a + 1) (mLo M)) = true := hi
  simp only [Bool.and_eq_true, beq_iff_eq] at hi
  obtain ⟨rfl, hi2⟩ := hi
  exact lv_dstore hx hb hd hl (Nat.le_of_ble_eq_true hi2) (eFil2_map base b0 j (.double k9) ls) (fun ls' hl' => hK0 _ _ _ _ _ _ hk H locs ls' hR hSS hl')
set_option maxHeartbeats 4000000 in
set_option maxRecDepth 100000 in
theorem ei_iinc (cx : eCx p l e R s m args below meth c0 D dA base b0 S T C M d Q Fin K0) (j : Nat) (v9 : Int) {n a b c pc : Nat} {ls : eL} {st : List Value} {h : eH} {kc ks : Nat} {H : Heap} {locs : List Loc} {lsA : Array Slot} (hd : decode (mBy M) pc = .ok ((.iinc j v9), eLen pc (.iinc j v9) n)) (hn : n = pc + eLen pc (.iinc j v9) n) (hi : eIns M pc (.iinc j v9) a b c = true) (hlk : eLink T M (pc, (.iinc j v9), n, a, b, c)) (hR : eRH D dA base b0 h H) (hSS : va_S (fun q => base ≤ q) s.heap H locs) (hl : lv_has lsA (mLo M) (eLs base b0 ls)) (hstep : okI S T C M d Q (.iinc j v9) n a b c pc ls st h kc ks K0) : W p l e R s m args below meth c0 H locs kc ks Fin (F0 m pc lsA (st.map (eV base b0))) := by
  have cx0 := cx
  obtain ⟨hK0, hx, hb, hml, hown, hG, hE, hOK, hCl, hCa, hinit, hRf, hRl, hd1, hRc, hRs, htab, hC, hdC, hfin, hout, hthr⟩ := cx0
  have hOK0 := hOK
  obtain ⟨hOKc, hOKl, hOKh⟩ := hOK0
  have hE0 := hE
  obtain ⟨hNG, hStr, hZ1, hZ2, hAO, hK, hAr, hX, hbb, hbs, hNc⟩ := hE0
  have hA : ∀ q : Nat, s.heap.size ≤ q → base ≤ q := va_SA hbs
  have hts : ∀ w ∈ lw_tbl.filter goodWord, w.before args s = true := fun w hw => hG w ⟨(List.mem_filter.mp hw).1, (List.mem_filter.mp hw).2⟩
  have hKy : ∀ t, t ≤ 4 → va_K D vwCl [(dA t, eTyA t)] s := fun t ht => ⟨hK.1, fun k q hq => by
    match k, hq with
    | 0, hq => cases hq; exact hAr t ht
    | k + 1, hq => simp at hq⟩
  have hP1 : ∀ {k : Nat} {o : va_E}, h.2[k]? = some o → va_P D vwCl [(base + k, eZ dA base b0 o)] H := fun {k o} hk j q hq => by
    match j, hq with
    | 0, hq => cases hq; exact hR.1 k o hk
    | j + 1, hq => simp at hq
  have hstep : pLd 1 ls a (fun v => match v with | .int x => eFil1 a ls (fun l' => K0 n ((a, .int (bif c == 1 then x - nI b else x + nI b)) :: l') st h kc ks) | _ => False) := hstep
  have hd : decode (mBy M) pc = .ok (.iinc j v9, 3) := hd
  have hn : n = pc + 3 := hn
  subst hn
  obtain ⟨v, h1, h2, hk⟩ := pLd_s hstep
  obtain ⟨k9, rfl⟩ := eIsA_1 h2
  have hi : (j == a && Nat.blt a (mLo M) && (bif c == 1 then decide (Int32.ofInt v9 = - nI b) else decide (Int32.ofInt v9 = nI b))) = true := hi
  simp only [Bool.and_eq_true, beq_iff_eq] at hi
  obtain ⟨⟨rfl, hi2⟩, hi3⟩ := hi
  obtain ⟨k7, hk7⟩ := List.mem_iff_getElem?.mp (List.mem_map.mpr ⟨(j, Value.int k9), lkp_mem h1, rfl⟩ : (j, Value.int k9) ∈ eLs base b0 ls)
  have hv : k9 + Int32.ofInt v9 = (bif c == 1 then k9 - nI b else k9 + nI b) := by
    cases hc : (c == 1) with
    | true => rw [hc] at hi3; have h9 : Int32.ofInt v9 = - nI b := of_decide_eq_true hi3; rw [h9]; show k9 + -nI b = k9 - nI b; rw [Int32.sub_eq_add_neg]
    | false => rw [hc] at hi3; have h9 : Int32.ofInt v9 = nI b := of_decide_eq_true hi3; rw [h9]; rfl
  exact lv_iinc hx hb hd hl hk7 hv (Nat.le_of_ble_eq_true hi2) (eFil1_map base b0 j (.int _) ls) (fun ls' hl' => hK0 _ _ _ _ _ _ (eFil1_spec hk) H locs ls' hR hSS hl')
set_option maxHeartbeats 4000000 in
set_option maxRecDepth 100000 in
theorem ei_iconst (cx : eCx p l e R s m args below meth c0 D dA base b0 S T C M d Q Fin K0) (v9 : Int) {n a b c pc : Nat} {ls : eL} {st : List Value} {h : eH} {kc ks : Nat} {H : Heap} {locs : List Loc} {lsA : Array Slot} (hd : decode (mBy M) pc = .ok ((.iconst v9), eLen pc (.iconst v9) n)) (hn : n = pc + eLen pc (.iconst v9) n) (hi : eIns M pc (.iconst v9) a b c = true) (hlk : eLink T M (pc, (.iconst v9), n, a, b, c)) (hR : eRH D dA base b0 h H) (hSS : va_S (fun q => base ≤ q) s.heap H locs) (hl : lv_has lsA (mLo M) (eLs base b0 ls)) (hstep : okI S T C M d Q (.iconst v9) n a b c pc ls st h kc ks K0) : W p l e R s m args below meth c0 H locs kc ks Fin (F0 m pc lsA (st.map (eV base b0))) := by
  have cx0 := cx
  obtain ⟨hK0, hx, hb, hml, hown, hG, hE, hOK, hCl, hCa, hinit, hRf, hRl, hd1, hRc, hRs, htab, hC, hdC, hfin, hout, hthr⟩ := cx0
  have hOK0 := hOK
  obtain ⟨hOKc, hOKl, hOKh⟩ := hOK0
  have hE0 := hE
  obtain ⟨hNG, hStr, hZ1, hZ2, hAO, hK, hAr, hX, hbb, hbs, hNc⟩ := hE0
  have hA : ∀ q : Nat, s.heap.size ≤ q → base ≤ q := va_SA hbs
  have hts : ∀ w ∈ lw_tbl.filter goodWord, w.before args s = true := fun w hw => hG w ⟨(List.mem_filter.mp hw).1, (List.mem_filter.mp hw).2⟩
  have hKy : ∀ t, t ≤ 4 → va_K D vwCl [(dA t, eTyA t)] s := fun t ht => ⟨hK.1, fun k q hq => by
    match k, hq with
    | 0, hq => cases hq; exact hAr t ht
    | k + 1, hq => simp at hq⟩
  have hP1 : ∀ {k : Nat} {o : va_E}, h.2[k]? = some o → va_P D vwCl [(base + k, eZ dA base b0 o)] H := fun {k o} hk j q hq => by
    match j, hq with
    | 0, hq => cases hq; exact hR.1 k o hk
    | j + 1, hq => simp at hq
  have hstep : bif b == 1 then K0 n ls (.int (-1) :: st) h kc ks else K0 n ls (.int (nI a) :: st) h kc ks := hstep
  have hd : decode (mBy M) pc = .ok (.iconst v9, 1) := hd
  have hn : n = pc + 1 := hn
  subst hn
  have hi : (bif b == 1 then decide (Int32.ofInt v9 = -1) else decide (Int32.ofInt v9 = nI a)) = true := hi
  have hstep : (bif b == 1 then K0 (pc + 1) ls (.int (-1) :: st) h kc ks else K0 (pc + 1) ls (.int (nI a) :: st) h kc ks) := hstep
  cases hc : (b == 1) with
  | true => rw [hc] at hi hstep; exact lv_iconst hx hb hd (of_decide_eq_true hi) (hK0 _ _ _ _ _ _ hstep H locs lsA hR hSS hl)
  | false => rw [hc] at hi hstep; exact lv_iconst hx hb hd (of_decide_eq_true hi) (hK0 _ _ _ _ _ _ hstep H locs lsA hR hSS hl)
set_option maxHeartbeats 4000000 in
set_option maxRecDepth 100000 in
theorem ei_bipush (cx : eCx p l e R s m args below meth c0 D dA base b0 S T C M d Q Fin K0) (v9 : Int) {n a b c pc : Nat} {ls : eL} {st : List Value} {h : eH} {kc ks : Nat} {H : Heap} {locs : List Loc} {lsA : Array Slot} (hd : decode (mBy M) pc = .ok ((.bipush v9), eLen pc (.bipush v9) n)) (hn : n = pc + eLen pc (.bipush v9) n) (hi : eIns M pc (.bipush v9) a b c = true) (hlk : eLink T M (pc, (.bipush v9), n, a, b, c)) (hR : eRH D dA base b0 h H) (hSS : va_S (fun q => base ≤ q) s.heap H locs) (hl : lv_has lsA (mLo M) (eLs base b0 ls)) (hstep : okI S T C M d Q (.bipush v9) n a b c pc ls st h kc ks K0) : W p l e R s m args below meth c0 H locs kc ks Fin (F0 m pc lsA (st.map (eV base b0))) := by
  have cx0 := cx
  obtain ⟨hK0, hx, hb, hml, hown, hG, hE, hOK, hCl, hCa, hinit, hRf, hRl, hd1, hRc, hRs, htab, hC, hdC, hfin, hout, hthr⟩ := cx0
  have hOK0 := hOK
  obtain ⟨hOKc, hOKl, hOKh⟩ := hOK0
  have hE0 := hE
  obtain ⟨hNG, hStr, hZ1, hZ2, hAO, hK, hAr, hX, hbb, hbs, hNc⟩ := hE0
  have hA : ∀ q : Nat, s.heap.size ≤ q → base ≤ q := va_SA hbs
  have hts : ∀ w ∈ lw_tbl.filter goodWord, w.before args s = true := fun w hw => hG w ⟨(List.mem_filter.mp hw).1, (List.mem_filter.mp hw).2⟩
  have hKy : ∀ t, t ≤ 4 → va_K D vwCl [(dA t, eTyA t)] s := fun t ht => ⟨hK.1, fun k q hq => by
    match k, hq with
    | 0, hq => cases hq; exact hAr t ht
    | k + 1, hq => simp at hq⟩
  have hP1 : ∀ {k : Nat} {o : va_E}, h.2[k]? = some o → va_P D vwCl [(base + k, eZ dA base b0 o)] H := fun {k o} hk j q hq => by
    match j, hq with
    | 0, hq => cases hq; exact hR.1 k o hk
    | j + 1, hq => simp at hq
  have hstep : K0 n ls (.int (nI a) :: st) h kc ks := hstep
  have hd : decode (mBy M) pc = .ok (.bipush v9, 2) := hd
  have hn : n = pc + 2 := hn
  subst hn
  have hstep : K0 (pc + 2) ls (.int (nI a) :: st) h kc ks := hstep
  exact lv_bipush hx hb hd (of_decide_eq_true hi) (hK0 _ _ _ _ _ _ hstep H locs lsA hR hSS hl)
set_option maxHeartbeats 4000000 in
set_option maxRecDepth 100000 in
theorem ei_sipush (cx : eCx p l e R s m args below meth c0 D dA base b0 S T C M d Q Fin K0) (v9 : Int) {n a b c pc : Nat} {ls : eL} {st : List Value} {h : eH} {kc ks : Nat} {H : Heap} {locs : List Loc} {lsA : Array Slot} (hd : decode (mBy M) pc = .ok ((.sipush v9), eLen pc (.sipush v9) n)) (hn : n = pc + eLen pc (.sipush v9) n) (hi : eIns M pc (.sipush v9) a b c = true) (hlk : eLink T M (pc, (.sipush v9), n, a, b, c)) (hR : eRH D dA base b0 h H) (hSS : va_S (fun q => base ≤ q) s.heap H locs) (hl : lv_has lsA (mLo M) (eLs base b0 ls)) (hstep : okI S T C M d Q (.sipush v9) n a b c pc ls st h kc ks K0) : W p l e R s m args below meth c0 H locs kc ks Fin (F0 m pc lsA (st.map (eV base b0))) := by
  have cx0 := cx
  obtain ⟨hK0, hx, hb, hml, hown, hG, hE, hOK, hCl, hCa, hinit, hRf, hRl, hd1, hRc, hRs, htab, hC, hdC, hfin, hout, hthr⟩ := cx0
  have hOK0 := hOK
  obtain ⟨hOKc, hOKl, hOKh⟩ := hOK0
  have hE0 := hE
  obtain ⟨hNG, hStr, hZ1, hZ2, hAO, hK, hAr, hX, hbb, hbs, hNc⟩ := hE0
  have hA : ∀ q : Nat, s.heap.size ≤ q → base ≤ q := va_SA hbs
  have hts : ∀ w ∈ lw_tbl.filter goodWord, w.before args s = true := fun w hw => hG w ⟨(List.mem_filter.mp hw).1, (List.mem_filter.mp hw).2⟩
  have hKy : ∀ t, t ≤ 4 → va_K D vwCl [(dA t, eTyA t)] s := fun t ht => ⟨hK.1, fun k q hq => by
    match k, hq with
    | 0, hq => cases hq; exact hAr t ht
    | k + 1, hq => simp at hq⟩
  have hP1 : ∀ {k : Nat} {o : va_E}, h.2[k]? = some o → va_P D vwCl [(base + k, eZ dA base b0 o)] H := fun {k o} hk j q hq => by
    match j, hq with
    | 0, hq => cases hq; exact hR.1 k o hk
    | j + 1, hq => simp at hq
  have hstep : K0 n ls (.int (nI a) :: st) h kc ks := hstep
  have hd : decode (mBy M) pc = .ok (.sipush v9, 3) := hd
  have hn : n = pc + 3 := hn
  subst hn
  have hstep : K0 (pc + 3) ls (.int (nI a) :: st) h kc ks := hstep
  exact lv_sipush hx hb hd (of_decide_eq_true hi) (hK0 _ _ _ _ _ _ hstep H locs lsA hR hSS hl)
set_option maxHeartbeats 4000000 in
set_option maxRecDepth 100000 in
theorem ei_ldc (cx : eCx p l e R s m args below meth c0 D dA base b0 S T C M d Q Fin K0) (x9 : Nat) {n a b c pc : Nat} {ls : eL} {st : List Value} {h : eH} {kc ks : Nat} {H : Heap} {locs : List Loc} {lsA : Array Slot} (hd : decode (mBy M) pc = .ok ((.ldc x9), eLen pc (.ldc x9) n)) (hn : n = pc + eLen pc (.ldc x9) n) (hi : eIns M pc (.ldc x9) a b c = true) (hlk : eLink T M (pc, (.ldc x9), n, a, b, c)) (hR : eRH D dA base b0 h H) (hSS : va_S (fun q => base ≤ q) s.heap H locs) (hl : lv_has lsA (mLo M) (eLs base b0 ls)) (hstep : okI S T C M d Q (.ldc x9) n a b c pc ls st h kc ks K0) : W p l e R s m args below meth c0 H locs kc ks Fin (F0 m pc lsA (st.map (eV base b0))) := by
  have cx0 := cx
  obtain ⟨hK0, hx, hb, hml, hown, hG, hE, hOK, hCl, hCa, hinit, hRf, hRl, hd1, hRc, hRs, htab, hC, hdC, hfin, hout, hthr⟩ := cx0
  have hOK0 := hOK
  obtain ⟨hOKc, hOKl, hOKh⟩ := hOK0
  have hE0 := hE
  obtain ⟨hNG, hStr, hZ1, hZ2, hAO, hK, hAr, hX, hbb, hbs, hNc⟩ := hE0
  have hA : ∀ q : Nat, s.heap.size ≤ q → base ≤ q := va_SA hbs
  have hts : ∀ w ∈ lw_tbl.filter goodWord, w.before args s = true := fun w hw => hG w ⟨(List.mem_filter.mp hw).1, (List.mem_filter.mp hw).2⟩
  have hKy : ∀ t, t ≤ 4 → va_K D vwCl [(dA t, eTyA t)] s := fun t ht => ⟨hK.1, fun k q hq => by
    match k, hq with
    | 0, hq => cases hq; exact hAr t ht
    | k + 1, hq => simp at hq⟩
  have hP1 : ∀ {k : Nat} {o : va_E}, h.2[k]? = some o → va_P D vwCl [(base + k, eZ dA base b0 o)] H := fun {k o} hk j q hq => by
    match j, hq with
    | 0, hq => cases hq; exact hR.1 k o hk
    | j + 1, hq => simp at hq
  have hstep : K0 n ls (.int (nI a) :: st) h kc ks := hstep
  have hd : decode (mBy M) pc = .ok (.ldc x9, 2) := hd
  have hn : n = pc + 2 := hn
  subst hn
  have hstep : K0 (pc + 2) ls (.int (nI a) :: st) h kc ks := hstep
  exact lv_ldc hx hb hown (hG _ hlk) hd (hK0 _ _ _ _ _ _ hstep H locs lsA hR hSS hl)
set_option maxHeartbeats 4000000 in
set_option maxRecDepth 100000 in
theorem ei_ldc_w (cx : eCx p l e R s m args below meth c0 D dA base b0 S T C M d Q Fin K0) (x9 : Nat) {n a b c pc : Nat} {ls : eL} {st : List Value} {h : eH} {kc ks : Nat} {H : Heap} {locs : List Loc} {lsA : Array Slot} (hd : decode (mBy M) pc = .ok ((.ldc_w x9), eLen pc (.ldc_w x9) n)) (hn : n = pc + eLen pc (.ldc_w x9) n) (hi : eIns M pc (.ldc_w x9) a b c = true) (hlk : eLink T M (pc, (.ldc_w x9), n, a, b, c)) (hR : eRH D dA base b0 h H) (hSS : va_S (fun q => base ≤ q) s.heap H locs) (hl : lv_has lsA (mLo M) (eLs base b0 ls)) (hstep : okI S T C M d Q (.ldc_w x9) n a b c pc ls st h kc ks K0) : W p l e R s m args below meth c0 H locs kc ks Fin (F0 m pc lsA (st.map (eV base b0))) := by
  have cx0 := cx
  obtain ⟨hK0, hx, hb, hml, hown, hG, hE, hOK, hCl, hCa, hinit, hRf, hRl, hd1, hRc, hRs, htab, hC, hdC, hfin, hout, hthr⟩ := cx0
  have hOK0 := hOK
  obtain ⟨hOKc, hOKl, hOKh⟩ := hOK0
  have hE0 := hE
  obtain ⟨hNG, hStr, hZ1, hZ2, hAO, hK, hAr, hX, hbb, hbs, hNc⟩ := hE0
  have hA : ∀ q : Nat, s.heap.size ≤ q → base ≤ q := va_SA hbs
  have hts : ∀ w ∈ lw_tbl.filter goodWord, w.before args s = true := fun w hw => hG w ⟨(List.mem_filter.mp hw).1, (List.mem_filter.mp hw).2⟩
  have hKy : ∀ t, t ≤ 4 → va_K D vwCl [(dA t, eTyA t)] s := fun t ht => ⟨hK.1, fun k q hq => by
    match k, hq with
    | 0, hq => cases hq; exact hAr t ht
    | k + 1, hq => simp at hq⟩
  have hP1 : ∀ {k : Nat} {o : va_E}, h.2[k]? = some o → va_P D vwCl [(base + k, eZ dA base b0 o)] H := fun {k o} hk j q hq => by
    match j, hq with
    | 0, hq => cases hq; exact hR.1 k o hk
    | j + 1, hq => simp at hq
  have hstep : K0 n ls (.int (nI a) :: st) h kc ks := hstep
  have hd : decode (mBy M) pc = .ok (.ldc_w x9, 3) := hd
  have hn : n = pc + 3 := hn
  subst hn
  have hstep : K0 (pc + 3) ls (.int (nI a) :: st) h kc ks := hstep
  exact lv_ldcw hx hb hown (hG _ hlk) hd (hK0 _ _ _ _ _ _ hstep H locs lsA hR hSS hl)
set_option maxHeartbeats 4000000 in
set_option maxRecDepth 100000 in
theorem ei_lconst (cx : eCx p l e R s m args below meth c0 D dA base b0 S T C M d Q Fin K0) (v9 : _root_.Fin 2) {n a b c pc : Nat} {ls : eL} {st : List Value} {h : eH} {kc ks : Nat} {H : Heap} {locs : List Loc} {lsA : Array Slot} (hd : decode (mBy M) pc = .ok ((.lconst v9), eLen pc (.lconst v9) n)) (hn : n = pc + eLen pc (.lconst v9) n) (hi : eIns M pc (.lconst v9) a b c = true) (hlk : eLink T M (pc, (.lconst v9), n, a, b, c)) (hR : eRH D dA base b0 h H) (hSS : va_S (fun q => base ≤ q) s.heap H locs) (hl : lv_has lsA (mLo M) (eLs base b0 ls)) (hstep : okI S T C M d Q (.lconst v9) n a b c pc ls st h kc ks K0) : W p l e R s m args below meth c0 H locs kc ks Fin (F0 m pc lsA (st.map (eV base b0))) := by
  have cx0 := cx
  obtain ⟨hK0, hx, hb, hml, hown, hG, hE, hOK, hCl, hCa, hinit, hRf, hRl, hd1, hRc, hRs, htab, hC, hdC, hfin, hout, hthr⟩ := cx0
  have hOK0 := hOK
  obtain ⟨hOKc, hOKl, hOKh⟩ := hOK0
  have hE0 := hE
  obtain ⟨hNG, hStr, hZ1, hZ2, hAO, hK, hAr, hX, hbb, hbs, hNc⟩ := hE0
  have hA : ∀ q : Nat, s.heap.size ≤ q → base ≤ q := va_SA hbs
  have hts : ∀ w ∈ lw_tbl.filter goodWord, w.before args s = true := fun w hw => hG w ⟨(List.mem_filter.mp hw).1, (List.mem_filter.mp hw).2⟩
  have hKy : ∀ t, t ≤ 4 → va_K D vwCl [(dA t, eTyA t)] s := fun t ht => ⟨hK.1, fun k q hq => by
    match k, hq with
    | 0, hq => cases hq; exact hAr t ht
    | k + 1, hq => simp at hq⟩
  have hP1 : ∀ {k : Nat} {o : va_E}, h.2[k]? = some o → va_P D vwCl [(base + k, eZ dA base b0 o)] H := fun {k o} hk j q hq => by
    match j, hq with
    | 0, hq => cases hq; exact hR.1 k o hk
    | j + 1, hq => simp at hq
  have hstep : K0 n ls (.long (lN a) :: st) h kc ks := hstep
  have hd : decode (mBy M) pc = .ok (.lconst v9, 1) := hd
  have hn : n = pc + 1 := hn
  subst hn
  have hstep : K0 (pc + 1) ls (.long (lN a) :: st) h kc ks := hstep
  exact lv_lconst hx hb hd (of_decide_eq_true hi) (hK0 _ _ _ _ _ _ hstep H locs lsA hR hSS hl)
set_option maxHeartbeats 4000000 in
set_option maxRecDepth 100000 in
theorem ei_ldc2_w (cx : eCx p l e R s m args below meth c0 D dA base b0 S T C M d Q Fin K0) (x9 : Nat) {n a b c pc : Nat} {ls : eL} {st : List Value} {h : eH} {kc ks : Nat} {H : Heap} {locs : List Loc} {lsA : Array Slot} (hd : decode (mBy M) pc = .ok ((.ldc2_w x9), eLen pc (.ldc2_w x9) n)) (hn : n = pc + eLen pc (.ldc2_w x9) n) (hi : eIns M pc (.ldc2_w x9) a b c = true) (hlk : eLink T M (pc, (.ldc2_w x9), n, a, b, c)) (hR : eRH D dA base b0 h H) (hSS : va_S (fun q => base ≤ q) s.heap H locs) (hl : lv_has lsA (mLo M) (eLs base b0 ls)) (hstep : okI S T C M d Q (.ldc2_w x9) n a b c pc ls st h kc ks K0) : W p l e R s m args below meth c0 H locs kc ks Fin (F0 m pc lsA (st.map (eV base b0))) := by
  have cx0 := cx
  obtain ⟨hK0, hx, hb, hml, hown, hG, hE, hOK, hCl, hCa, hinit, hRf, hRl, hd1, hRc, hRs, htab, hC, hdC, hfin, hout, hthr⟩ := cx0
  have hOK0 := hOK
  obtain ⟨hOKc, hOKl, hOKh⟩ := hOK0
  have hE0 := hE
  obtain ⟨hNG, hStr, hZ1, hZ2, hAO, hK, hAr, hX, hbb, hbs, hNc⟩ := hE0
  have hA : ∀ q : Nat, s.heap.size ≤ q → base ≤ q := va_SA hbs
  have hts : ∀ w ∈ lw_tbl.filter goodWord, w.before args s = true := fun w hw => hG w ⟨(List.mem_filter.mp hw).1, (List.mem_filter.mp hw).2⟩
  have hKy : ∀ t, t ≤ 4 → va_K D vwCl [(dA t, eTyA t)] s := fun t ht => ⟨hK.1, fun k q hq => by
    match k, hq with
    | 0, hq => cases hq; exact hAr t ht
    | k + 1, hq => simp at hq⟩
  have hP1 : ∀ {k : Nat} {o : va_E}, h.2[k]? = some o → va_P D vwCl [(base + k, eZ dA base b0 o)] H := fun {k o} hk j q hq => by
    match j, hq with
    | 0, hq => cases hq; exact hR.1 k o hk
    | j + 1, hq => simp at hq
  have hstep : bif b == 1 then K0 n ls (.long (-1) :: st) h kc ks else K0 n ls (.long (lN a) :: st) h kc ks := hstep
  have hd : decode (mBy M) pc = .ok (.ldc2_w x9, 3) := hd
  have hn : n = pc + 3 := hn
  subst hn
  have hlk : if b = 1 then eW (.constantLong (mNm M).cls x9 (-1)) else eW (.constantLong (mNm M).cls x9 (lN a)) := hlk
  have hstep : (bif b == 1 then K0 (pc + 3) ls (.long (-1) :: st) h kc ks else K0 (pc + 3) ls (.long (lN a) :: st) h kc ks) := hstep
  cases hc : (b == 1) with
  | true => rw [hc] at hstep; rw [if_pos (eq_of_beq hc)] at hlk; exact lv_ldc2 hx hb hown (hG _ hlk) hd (hK0 _ _ _ _ _ _ hstep H locs lsA hR hSS hl)
  | false => rw [hc] at hstep; rw [if_neg (fun h9 => by simp [h9] at hc)] at hlk; exact lv_ldc2 hx hb hown (hG _ hlk) hd (hK0 _ _ _ _ _ _ hstep H locs lsA hR hSS hl)
set_option maxHeartbeats 4000000 in
set_option maxRecDepth 100000 in
theorem ei_fconst (cx : eCx p l e R s m args below meth c0 D dA base b0 S T C M d Q Fin K0) (v9 : _root_.Fin 3) {n a b c pc : Nat} {ls : eL} {st : List Value} {h : eH} {kc ks : Nat} {H : Heap} {locs : List Loc} {lsA : Array Slot} (hd : decode (mBy M) pc = .ok ((.fconst v9), eLen pc (.fconst v9) n)) (hn : n = pc + eLen pc (.fconst v9) n) (hi : eIns M pc (.fconst v9) a b c = true) (hlk : eLink T M (pc, (.fconst v9), n, a, b, c)) (hR : eRH D dA base b0 h H) (hSS : va_S (fun q => base ≤ q) s.heap H locs) (hl : lv_has lsA (mLo M) (eLs base b0 ls)) (hstep : okI S T C M d Q (.fconst v9) n a b c pc ls st h kc ks K0) : W p l e R s m args below meth c0 H locs kc ks Fin (F0 m pc lsA (st.map (eV base b0))) := by
  have cx0 := cx
  obtain ⟨hK0, hx, hb, hml, hown, hG, hE, hOK, hCl, hCa, hinit, hRf, hRl, hd1, hRc, hRs, htab, hC, hdC, hfin, hout, hthr⟩ := cx0
  have hOK0 := hOK
  obtain ⟨hOKc, hOKl, hOKh⟩ := hOK0
  have hE0 := hE
  obtain ⟨hNG, hStr, hZ1, hZ2, hAO, hK, hAr, hX, hbb, hbs, hNc⟩ := hE0
  have hA : ∀ q : Nat, s.heap.size ≤ q → base ≤ q := va_SA hbs
  have hts : ∀ w ∈ lw_tbl.filter goodWord, w.before args s = true := fun w hw => hG w ⟨(List.mem_filter.mp hw).1, (List.mem_filter.mp hw).2⟩
  have hKy : ∀ t, t ≤ 4 → va_K D vwCl [(dA t, eTyA t)] s := fun t ht => ⟨hK.1, fun k q hq => by
    match k, hq with
    | 0, hq => cases hq; exact hAr t ht
    | k + 1, hq => simp at hq⟩
  have hP1 : ∀ {k : Nat} {o : va_E}, h.2[k]? = some o → va_P D vwCl [(base + k, eZ dA base b0 o)] H := fun {k o} hk j q hq => by
    match j, hq with
    | 0, hq => cases hq; exact hR.1 k o hk
    | j + 1, hq => simp at hq
  have hstep : bif a == 0 then K0 n ls (.float FP.fconst0 :: st) h kc ks else False := hstep
  have hv9 : v9 = 0 := of_decide_eq_true hi
  subst hv9
  have hd : decode (mBy M) pc = .ok (.fconst 0, 1) := hd
  have hn : n = pc + 1 := hn
  subst hn
  obtain ⟨-, hk⟩ := bif_s hstep
  exact lv_fconst0 hx hb hd (hK0 _ _ _ _ _ _ hk H locs lsA hR hSS hl)
set_option maxHeartbeats 4000000 in
set_option maxRecDepth 100000 in
theorem ei_dconst (cx : eCx p l e R s m args below meth c0 D dA base b0 S T C M d Q Fin K0) (v9 : _root_.Fin 2) {n a b c pc : Nat} {ls : eL} {st : List Value} {h : eH} {kc ks : Nat} {H : Heap} {locs : List Loc} {lsA : Array Slot} (hd : decode (mBy M) pc = .ok ((.dconst v9), eLen pc (.dconst v9) n)) (hn : n = pc + eLen pc (.dconst v9) n) (hi : eIns M pc (.dconst v9) a b c = true) (hlk : eLink T M (pc, (.dconst v9), n, a, b, c)) (hR : eRH D dA base b0 h H) (hSS : va_S (fun q => base ≤ q) s.heap H locs) (hl : lv_has lsA (mLo M) (eLs base b0 ls)) (hstep : okI S T C M d Q (.dconst v9) n a b c pc ls st h kc ks K0) : W p l e R s m args below meth c0 H locs kc ks Fin (F0 m pc lsA (st.map (eV base b0))) := by
  have cx0 := cx
  obtain ⟨hK0, hx, hb, hml, hown, hG, hE, hOK, hCl, hCa, hinit, hRf, hRl, hd1, hRc, hRs, htab, hC, hdC, hfin, hout, hthr⟩ := cx0
  have hOK0 := hOK
  obtain ⟨hOKc, hOKl, hOKh⟩ := hOK0
  have hE0 := hE
  obtain ⟨hNG, hStr, hZ1, hZ2, hAO, hK, hAr, hX, hbb, hbs, hNc⟩ := hE0
  have hA : ∀ q : Nat, s.heap.size ≤ q → base ≤ q := va_SA hbs
  have hts : ∀ w ∈ lw_tbl.filter goodWord, w.before args s = true := fun w hw => hG w ⟨(List.mem_filter.mp hw).1, (List.mem_filter.mp hw).2⟩
  have hKy : ∀ t, t ≤ 4 → va_K D vwCl [(dA t, eTyA t)] s := fun t ht => ⟨hK.1, fun k q hq => by
    match k, hq with
    | 0, hq => cases hq; exact hAr t ht
    | k + 1, hq => simp at hq⟩
  have hP1 : ∀ {k : Nat} {o : va_E}, h.2[k]? = some o → va_P D vwCl [(base + k, eZ dA base b0 o)] H := fun {k o} hk j q hq => by
    match j, hq with
    | 0, hq => cases hq; exact hR.1 k o hk
    | j + 1, hq => simp at hq
  have hstep : bif a == 0 then K0 n ls (.double FP.dconst0 :: st) h kc ks else False := hstep
  have hv9 : v9 = 0 := of_decide_eq_true hi
  subst hv9
  have hd : decode (mBy M) pc = .ok (.dconst 0, 1) := hd
  have hn : n = pc + 1 := hn
  subst hn
  obtain ⟨-, hk⟩ := bif_s hstep
  exact lv_dconst0 hx hb hd (hK0 _ _ _ _ _ _ hk H locs lsA hR hSS hl)
set_option maxHeartbeats 4000000 in
set_option maxRecDepth 100000 in
theorem ei_iadd (cx : eCx p l e R s m args below meth c0 D dA base b0 S T C M d Q Fin K0)  {n a b c pc : Nat} {ls : eL} {st : List Value} {h : eH} {kc ks : Nat} {H : Heap} {locs : List Loc} {lsA : Array Slot} (hd : decode (mBy M) pc = .ok (.iadd, eLen pc .iadd n)) (hn : n = pc + eLen pc .iadd n) (hi : eIns M pc .iadd a b c = true) (hlk : eLink T M (pc, .iadd, n, a, b, c)) (hR : eRH D dA base b0 h H) (hSS : va_S (fun q => base ≤ q) s.heap H locs) (hl : lv_has lsA (mLo M) (eLs base b0 ls)) (hstep : okI S T C M d Q .iadd n a b c pc ls st h kc ks K0) : W p l e R s m args below meth c0 H locs kc ks Fin (F0 m pc lsA (st.map (eV base b0))) := by
  have cx0 := cx
  obtain ⟨hK0, hx, hb, hml, hown, hG, hE, hOK, hCl, hCa, hinit, hRf, hRl, hd1, hRc, hRs, htab, hC, hdC, hfin, hout, hthr⟩ := cx0
  have hOK0 := hOK
  obtain ⟨hOKc, hOKl, hOKh⟩ := hOK0
  have hE0 := hE
  obtain ⟨hNG, hStr, hZ1, hZ2, hAO, hK, hAr, hX, hbb, hbs, hNc⟩ := hE0
  have hA : ∀ q : Nat, s.heap.size ≤ q → base ≤ q := va_SA hbs
  have hts : ∀ w ∈ lw_tbl.filter goodWord, w.before args s = true := fun w hw => hG w ⟨(List.mem_filter.mp hw).1, (List.mem_filter.mp hw).2⟩
  have hKy : ∀ t, t ≤ 4 → va_K D vwCl [(dA t, eTyA t)] s := fun t ht => ⟨hK.1, fun k q hq => by
    match k, hq with
    | 0, hq => cases hq; exact hAr t ht
    | k + 1, hq => simp at hq⟩
  have hP1 : ∀ {k : Nat} {o : va_E}, h.2[k]? = some o → va_P D vwCl [(base + k, eZ dA base b0 o)] H := fun {k o} hk j q hq => by
    match j, hq with
    | 0, hq => cases hq; exact hR.1 k o hk
    | j + 1, hq => simp at hq
  have hstep : pII (fun x y => x + y) st (fun r => K0 n ls r h kc ks) := hstep
  have hd : decode (mBy M) pc = .ok (.iadd, 1) := hd
  have hn : n = pc + 1 := hn
  subst hn
  obtain ⟨x, y, r, rfl, hk⟩ := pII_s hstep
  exact lv_iadd hx hb hd (hK0 _ _ _ _ _ _ hk H locs lsA hR hSS hl)
set_option maxHeartbeats 4000000 in
set_option maxRecDepth 100000 in
theorem ei_isub (cx : eCx p l e R s m args below meth c0 D dA base b0 S T C M d Q Fin K0)  {n a b c pc : Nat} {ls : eL} {st : List Value} {h : eH} {kc ks : Nat} {H : Heap} {locs : List Loc} {lsA : Array Slot} (hd : decode (mBy M) pc = .ok (.isub, eLen pc .isub n)) (hn : n = pc + eLen pc .isub n) (hi : eIns M pc .isub a b c = true) (hlk : eLink T M (pc, .isub, n, a, b, c)) (hR : eRH D dA base b0 h H) (hSS : va_S (fun q => base ≤ q) s.heap H locs) (hl : lv_has lsA (mLo M) (eLs base b0 ls)) (hstep : okI S T C M d Q .isub n a b c pc ls st h kc ks K0) : W p l e R s m args below meth c0 H locs kc ks Fin (F0 m pc lsA (st.map (eV base b0))) := by
  have cx0 := cx
  obtain ⟨hK0, hx, hb, hml, hown, hG, hE, hOK, hCl, hCa, hinit, hRf, hRl, hd1, hRc, hRs, htab, hC, hdC, hfin, hout, hthr⟩ := cx0
  have hOK0 := hOK
  obtain ⟨hOKc, hOKl, hOKh⟩ := hOK0
  have hE0 := hE
  obtain ⟨hNG, hStr, hZ1, hZ2, hAO, hK, hAr, hX, hbb, hbs, hNc⟩ := hE0
  have hA : ∀ q : Nat, s.heap.size ≤ q → base ≤ q := va_SA hbs
  have hts : ∀ w ∈ lw_tbl.filter goodWord, w.before args s = true := fun w hw => hG w ⟨(List.mem_filter.mp hw).1, (List.mem_filter.mp hw).2⟩
  have hKy : ∀ t, t ≤ 4 → va_K D vwCl [(dA t, eTyA t)] s := fun t ht => ⟨hK.1, fun k q hq => by
    match k, hq with
    | 0, hq => cases hq; exact hAr t ht
    | k + 1, hq => simp at hq⟩
  have hP1 : ∀ {k : Nat} {o : va_E}, h.2[k]? = some o → va_P D vwCl [(base + k, eZ dA base b0 o)] H := fun {k o} hk j q hq => by
    match j, hq with
    | 0, hq => cases hq; exact hR.1 k o hk
    | j + 1, hq => simp at hq
  have hstep : pII (fun x y => x - y) st (fun r => K0 n ls r h kc ks) := hstep
  have hd : decode (mBy M) pc = .ok (.isub, 1) := hd
  have hn : n = pc + 1 := hn
  subst hn
  obtain ⟨x, y, r, rfl, hk⟩ := pII_s hstep
  exact lv_isub hx hb hd (hK0 _ _ _ _ _ _ hk H locs lsA hR hSS hl)
set_option maxHeartbeats 4000000 in
set_option maxRecDepth 100000 in
theorem ei_imul (cx : eCx p l e R s m args below meth c0 D dA base b0 S T C M d Q Fin K0)  {n a b c pc : Nat} {ls : eL} {st : List Value} {h : eH} {kc ks : Nat} {H : Heap} {locs : List Loc} {lsA : Array Slot} (hd : decode (mBy M) pc = .ok (.imul, eLen pc .imul n)) (hn : n = pc + eLen pc .imul n) (hi : eIns M pc .imul a b c = true) (hlk : eLink T M (pc, .imul, n, a, b, c)) (hR : eRH D dA base b0 h H) (hSS : va_S (fun q => base ≤ q) s.heap H locs) (hl : lv_has lsA (mLo M) (eLs base b0 ls)) (hstep : okI S T C M d Q .imul n a b c pc ls st h kc ks K0) : W p l e R s m args below meth c0 H locs kc ks Fin (F0 m pc lsA (st.map (eV base b0))) := by
  have cx0 := cx
  obtain ⟨hK0, hx, hb, hml, hown, hG, hE, hOK, hCl, hCa, hinit, hRf, hRl, hd1, hRc, hRs, htab, hC, hdC, hfin, hout, hthr⟩ := cx0
  have hOK0 := hOK
  obtain ⟨hOKc, hOKl, hOKh⟩ := hOK0
  have hE0 := hE
  obtain ⟨hNG, hStr, hZ1, hZ2, hAO, hK, hAr, hX, hbb, hbs, hNc⟩ := hE0
  have hA : ∀ q : Nat, s.heap.size ≤ q → base ≤ q := va_SA hbs
  have hts : ∀ w ∈ lw_tbl.filter goodWord, w.before args s = true := fun w hw => hG w ⟨(List.mem_filter.mp hw).1, (List.mem_filter.mp hw).2⟩
  have hKy : ∀ t, t ≤ 4 → va_K D vwCl [(dA t, eTyA t)] s := fun t ht => ⟨hK.1, fun k q hq => by
    match k, hq with
    | 0, hq => cases hq; exact hAr t ht
    | k + 1, hq => simp at hq⟩
  have hP1 : ∀ {k : Nat} {o : va_E}, h.2[k]? = some o → va_P D vwCl [(base + k, eZ dA base b0 o)] H := fun {k o} hk j q hq => by
    match j, hq with
    | 0, hq => cases hq; exact hR.1 k o hk
    | j + 1, hq => simp at hq
  have hstep : pII (fun x y => x * y) st (fun r => K0 n ls r h kc ks) := hstep
  have hd : decode (mBy M) pc = .ok (.imul, 1) := hd
  have hn : n = pc + 1 := hn
  subst hn
  obtain ⟨x, y, r, rfl, hk⟩ := pII_s hstep
  exact lv_imul hx hb hd (hK0 _ _ _ _ _ _ hk H locs lsA hR hSS hl)
set_option maxHeartbeats 4000000 in
set_option maxRecDepth 100000 in
theorem ei_iand (cx : eCx p l e R s m args below meth c0 D dA base b0 S T C M d Q Fin K0)  {n a b c pc : Nat} {ls : eL} {st : List Value} {h : eH} {kc ks : Nat} {H : Heap} {locs : List Loc} {lsA : Array Slot} (hd : decode (mBy M) pc = .ok (.iand, eLen pc .iand n)) (hn : n = pc + eLen pc .iand n) (hi : eIns M pc .iand a b c = true) (hlk : eLink T M (pc, .iand, n, a, b, c)) (hR : eRH D dA base b0 h H) (hSS : va_S (fun q => base ≤ q) s.heap H locs) (hl : lv_has lsA (mLo M) (eLs base b0 ls)) (hstep : okI S T C M d Q .iand n a b c pc ls st h kc ks K0) : W p l e R s m args below meth c0 H locs kc ks Fin (F0 m pc lsA (st.map (eV base b0))) := by
  have cx0 := cx
  obtain ⟨hK0, hx, hb, hml, hown, hG, hE, hOK, hCl, hCa, hinit, hRf, hRl, hd1, hRc, hRs, htab, hC, hdC, hfin, hout, hthr⟩ := cx0
  have hOK0 := hOK
  obtain ⟨hOKc, hOKl, hOKh⟩ := hOK0
  have hE0 := hE
  obtain ⟨hNG, hStr, hZ1, hZ2, hAO, hK, hAr, hX, hbb, hbs, hNc⟩ := hE0
  have hA : ∀ q : Nat, s.heap.size ≤ q → base ≤ q := va_SA hbs
  have hts : ∀ w ∈ lw_tbl.filter goodWord, w.before args s = true := fun w hw => hG w ⟨(List.mem_filter.mp hw).1, (List.mem_filter.mp hw).2⟩
  have hKy : ∀ t, t ≤ 4 → va_K D vwCl [(dA t, eTyA t)] s := fun t ht => ⟨hK.1, fun k q hq => by
    match k, hq with
    | 0, hq => cases hq; exact hAr t ht
    | k + 1, hq => simp at hq⟩
  have hP1 : ∀ {k : Nat} {o : va_E}, h.2[k]? = some o → va_P D vwCl [(base + k, eZ dA base b0 o)] H := fun {k o} hk j q hq => by
    match j, hq with
    | 0, hq => cases hq; exact hR.1 k o hk
    | j + 1, hq => simp at hq
  have hstep : pII (fun x y => x &&& y) st (fun r => K0 n ls r h kc ks) := hstep
  have hd : decode (mBy M) pc = .ok (.iand, 1) := hd
  have hn : n = pc + 1 := hn
  subst hn
  obtain ⟨x, y, r, rfl, hk⟩ := pII_s hstep
  exact lv_iand hx hb hd (hK0 _ _ _ _ _ _ hk H locs lsA hR hSS hl)
end InsA
end
section
section InsB
variable {p : Program} {l : Launch} {e : Env} {R : Room} {s : State} {m : MethodId} {args : Array Value} {below : List Frame} {meth : Method} {c0 : Code} {Fin : State → Prop}
variable {S : Nat × (Nat → Int32)} {T : Nat → eM} {C : eC} {M : eM} {d : Nat} {Q : eQ} {D : va_G} {dA : Nat → ClassId} {base b0 : Nat} {K0 : eK}
set_option maxHeartbeats 4000000 in
set_option maxRecDepth 100000 in
theorem ei_ior (cx : eCx p l e R s m args below meth c0 D dA base b0 S T C M d Q Fin K0)  {n a b c pc : Nat} {ls : eL} {st : List Value} {h : eH} {kc ks : Nat} {H : Heap} {locs : List Loc} {lsA : Array Slot} (hd : decode (mBy M) pc = .ok (.ior, eLen pc .ior n)) (hn : n = pc + eLen pc .ior n) (hi : eIns M pc .ior a b c = true) (hlk : eLink T M (pc, .ior, n, a, b, c)) (hR : eRH D dA base b0 h H) (hSS : va_S (fun q => base ≤ q) s.heap H locs) (hl : lv_has lsA (mLo M) (eLs base b0 ls)) (hstep : okI S T C M d Q .ior n a b c pc ls st h kc ks K0) : W p l e R s m args below meth c0 H locs kc ks Fin (F0 m pc lsA (st.map (eV base b0))) := by
  have cx0 := cx
  obtain ⟨hK0, hx, hb, hml, hown, hG, hE, hOK, hCl, hCa, hinit, hRf, hRl, hd1, hRc, hRs, htab, hC, hdC, hfin, hout, hthr⟩ := cx0
  have hOK0 := hOK
  obtain ⟨hOKc, hOKl, hOKh⟩ := hOK0
  have hE0 := hE
  obtain ⟨hNG, hStr, hZ1, hZ2, hAO, hK, hAr, hX, hbb, hbs, hNc⟩ := hE0
  have hA : ∀ q : Nat, s.heap.size ≤ q → base ≤ q := va_SA hbs
  have hts : ∀ w ∈ lw_tbl.filter goodWord, w.before args s = true := fun w hw => hG w ⟨(List.mem_filter.mp hw).1, (List.mem_filter.mp hw).2⟩
  have hKy : ∀ t, t ≤ 4 → va_K D vwCl [(dA t, eTyA t)] s := fun t ht => ⟨hK.1, fun k q hq => by
    match k, hq with
    | 0, hq => cases hq; exact hAr t ht
    | k + 1, hq => simp at hq⟩
  have hP1 : ∀ {k : Nat} {o : va_E}, h.2[k]? = some o → va_P D vwCl [(base + k, eZ dA base b0 o)] H := fun {k o} hk j q hq => by
    match j, hq with
    | 0, hq => cases hq; exact hR.1 k o hk
    | j + 1, hq => simp at hq
  have hstep : pII (fun x y => x ||| y) st (fun r => K0 n ls r h kc ks) := hstep
  have hd : decode (mBy M) pc = .ok (.ior, 1) := hd
  have hn : n = pc + 1 := hn
  subst hn
  obtain ⟨x, y, r, rfl, hk⟩ := pII_s hstep
  exact lv_ior hx hb hd (hK0 _ _ _ _ _ _ hk H locs lsA hR hSS hl)
set_option maxHeartbeats 4000000 in
set_option maxRecDepth 100000 in
theorem ei_ixor (cx : eCx p l e R s m args below meth c0 D dA base b0 S T C M d Q Fin K0)  {n a b c pc : Nat} {ls : eL} {st : List Value} {h : eH} {kc ks : Nat} {H : Heap} {locs : List Loc} {lsA : Array Slot} (hd : decode (mBy M) pc = .ok (.ixor, eLen pc .ixor n)) (hn : n = pc + eLen pc .ixor n) (hi : eIns M pc .ixor a b c = true) (hlk : eLink T M (pc, .ixor, n, a, b, c)) (hR : eRH D dA base b0 h H) (hSS : va_S (fun q => base ≤ q) s.heap H locs) (hl : lv_has lsA (mLo M) (eLs base b0 ls)) (hstep : okI S T C M d Q .ixor n a b c pc ls st h kc ks K0) : W p l e R s m args below meth c0 H locs kc ks Fin (F0 m pc lsA (st.map (eV base b0))) := by
  have cx0 := cx
  obtain ⟨hK0, hx, hb, hml, hown, hG, hE, hOK, hCl, hCa, hinit, hRf, hRl, hd1, hRc, hRs, htab, hC, hdC, hfin, hout, hthr⟩ := cx0
  have hOK0 := hOK
  obtain ⟨hOKc, hOKl, hOKh⟩ := hOK0
  have hE0 := hE
  obtain ⟨hNG, hStr, hZ1, hZ2, hAO, hK, hAr, hX, hbb, hbs, hNc⟩ := hE0
  have hA : ∀ q : Nat, s.heap.size ≤ q → base ≤ q := va_SA hbs
  have hts : ∀ w ∈ lw_tbl.filter goodWord, w.before args s = true := fun w hw => hG w ⟨(List.mem_filter.mp hw).1, (List.mem_filter.mp hw).2⟩
  have hKy : ∀ t, t ≤ 4 → va_K D vwCl [(dA t, eTyA t)] s := fun t ht => ⟨hK.1, fun k q hq => by
    match k, hq with
    | 0, hq => cases hq; exact hAr t ht
    | k + 1, hq => simp at hq⟩
  have hP1 : ∀ {k : Nat} {o : va_E}, h.2[k]? = some o → va_P D vwCl [(base + k, eZ dA base b0 o)] H := fun {k o} hk j q hq => by
    match j, hq with
    | 0, hq => cases hq; exact hR.1 k o hk
    | j + 1, hq => simp at hq
  have hstep : pII (fun x y => x ^^^ y) st (fun r => K0 n ls r h kc ks) := hstep
  have hd : decode (mBy M) pc = .ok (.ixor, 1) := hd
  have hn : n = pc + 1 := hn
  subst hn
  obtain ⟨x, y, r, rfl, hk⟩ := pII_s hstep
  exact lv_ixor hx hb hd (hK0 _ _ _ _ _ _ hk H locs lsA hR hSS hl)
set_option maxHeartbeats 4000000 in
set_option maxRecDepth 100000 in
theorem ei_ishl (cx : eCx p l e R s m args below meth c0 D dA base b0 S T C M d Q Fin K0)  {n a b c pc : Nat} {ls : eL} {st : List Value} {h : eH} {kc ks : Nat} {H : Heap} {locs : List Loc} {lsA : Array Slot} (hd : decode (mBy M) pc = .ok (.ishl, eLen pc .ishl n)) (hn : n = pc + eLen pc .ishl n) (hi : eIns M pc .ishl a b c = true) (hlk : eLink T M (pc, .ishl, n, a, b, c)) (hR : eRH D dA base b0 h H) (hSS : va_S (fun q => base ≤ q) s.heap H locs) (hl : lv_has lsA (mLo M) (eLs base b0 ls)) (hstep : okI S T C M d Q .ishl n a b c pc ls st h kc ks K0) : W p l e R s m args below meth c0 H locs kc ks Fin (F0 m pc lsA (st.map (eV base b0))) := by
  have cx0 := cx
  obtain ⟨hK0, hx, hb, hml, hown, hG, hE, hOK, hCl, hCa, hinit, hRf, hRl, hd1, hRc, hRs, htab, hC, hdC, hfin, hout, hthr⟩ := cx0
  have hOK0 := hOK
  obtain ⟨hOKc, hOKl, hOKh⟩ := hOK0
  have hE0 := hE
  obtain ⟨hNG, hStr, hZ1, hZ2, hAO, hK, hAr, hX, hbb, hbs, hNc⟩ := hE0
  have hA : ∀ q : Nat, s.heap.size ≤ q → base ≤ q := va_SA hbs
  have hts : ∀ w ∈ lw_tbl.filter goodWord, w.before args s = true := fun w hw => hG w ⟨(List.mem_filter.mp hw).1, (List.mem_filter.mp hw).2⟩
  have hKy : ∀ t, t ≤ 4 → va_K D vwCl [(dA t, eTyA t)] s := fun t ht => ⟨hK.1, fun k q hq => by
    match k, hq with
    | 0, hq => cases hq; exact hAr t ht
    | k + 1, hq => simp at hq⟩
  have hP1 : ∀ {k : Nat} {o : va_E}, h.2[k]? = some o → va_P D vwCl [(base + k, eZ dA base b0 o)] H := fun {k o} hk j q hq => by
    match j, hq with
    | 0, hq => cases hq; exact hR.1 k o hk
    | j + 1, hq => simp at hq
  have hstep : pII (fun x y => x <<< (y &&& 31)) st (fun r => K0 n ls r h kc ks) := hstep
  have hd : decode (mBy M) pc = .ok (.ishl, 1) := hd
  have hn : n = pc + 1 := hn
  subst hn
  obtain ⟨x, y, r, rfl, hk⟩ := pII_s hstep
  exact lv_ishl hx hb hd (hK0 _ _ _ _ _ _ hk H locs lsA hR hSS hl)
set_option maxHeartbeats 4000000 in
set_option maxRecDepth 100000 in
theorem ei_ishr (cx : eCx p l e R s m args below meth c0 D dA base b0 S T C M d Q Fin K0)  {n a b c pc : Nat} {ls : eL} {st : List Value} {h : eH} {kc ks : Nat} {H : Heap} {locs : List Loc} {lsA : Array Slot} (hd : decode (mBy M) pc = .ok (.ishr, eLen pc .ishr n)) (hn : n = pc + eLen pc .ishr n) (hi : eIns M pc .ishr a b c = true) (hlk : eLink T M (pc, .ishr, n, a, b, c)) (hR : eRH D dA base b0 h H) (hSS : va_S (fun q => base ≤ q) s.heap H locs) (hl : lv_has lsA (mLo M) (eLs base b0 ls)) (hstep : okI S T C M d Q .ishr n a b c pc ls st h kc ks K0) : W p l e R s m args below meth c0 H locs kc ks Fin (F0 m pc lsA (st.map (eV base b0))) := by
  have cx0 := cx
  obtain ⟨hK0, hx, hb, hml, hown, hG, hE, hOK, hCl, hCa, hinit, hRf, hRl, hd1, hRc, hRs, htab, hC, hdC, hfin, hout, hthr⟩ := cx0
  have hOK0 := hOK
  obtain ⟨hOKc, hOKl, hOKh⟩ := hOK0
  have hE0 := hE
  obtain ⟨hNG, hStr, hZ1, hZ2, hAO, hK, hAr, hX, hbb, hbs, hNc⟩ := hE0
  have hA : ∀ q : Nat, s.heap.size ≤ q → base ≤ q := va_SA hbs
  have hts : ∀ w ∈ lw_tbl.filter goodWord, w.before args s = true := fun w hw => hG w ⟨(List.mem_filter.mp hw).1, (List.mem_filter.mp hw).2⟩
  have hKy : ∀ t, t ≤ 4 → va_K D vwCl [(dA t, eTyA t)] s := fun t ht => ⟨hK.1, fun k q hq => by
    match k, hq with
    | 0, hq => cases hq; exact hAr t ht
    | k + 1, hq => simp at hq⟩
  have hP1 : ∀ {k : Nat} {o : va_E}, h.2[k]? = some o → va_P D vwCl [(base + k, eZ dA base b0 o)] H := fun {k o} hk j q hq => by
    match j, hq with
    | 0, hq => cases hq; exact hR.1 k o hk
    | j + 1, hq => simp at hq
  have hstep : pII (fun x y => x >>> (y &&& 31)) st (fun r => K0 n ls r h kc ks) := hstep
  have hd : decode (mBy M) pc = .ok (.ishr, 1) := hd
  have hn : n = pc + 1 := hn
  subst hn
  obtain ⟨x, y, r, rfl, hk⟩ := pII_s hstep
  exact lv_ishr hx hb hd (hK0 _ _ _ _ _ _ hk H locs lsA hR hSS hl)
set_option maxHeartbeats 4000000 in
set_option maxRecDepth 100000 in
theorem ei_iushr (cx : eCx p l e R s m args below meth c0 D dA base b0 S T C M d Q Fin K0)  {n a b c pc : Nat} {ls : eL} {st : List Value} {h : eH} {kc ks : Nat} {H : Heap} {locs : List Loc} {lsA : Array Slot} (hd : decode (mBy M) pc = .ok (.iushr, eLen pc .iushr n)) (hn : n = pc + eLen pc .iushr n) (hi : eIns M pc .iushr a b c = true) (hlk : eLink T M (pc, .iushr, n, a, b, c)) (hR : eRH D dA base b0 h H) (hSS : va_S (fun q => base ≤ q) s.heap H locs) (hl : lv_has lsA (mLo M) (eLs base b0 ls)) (hstep : okI S T C M d Q .iushr n a b c pc ls st h kc ks K0) : W p l e R s m args below meth c0 H locs kc ks Fin (F0 m pc lsA (st.map (eV base b0))) := by
  have cx0 := cx
  obtain ⟨hK0, hx, hb, hml, hown, hG, hE, hOK, hCl, hCa, hinit, hRf, hRl, hd1, hRc, hRs, htab, hC, hdC, hfin, hout, hthr⟩ := cx0
  have hOK0 := hOK
  obtain ⟨hOKc, hOKl, hOKh⟩ := hOK0
  have hE0 := hE
  obtain ⟨hNG, hStr, hZ1, hZ2, hAO, hK, hAr, hX, hbb, hbs, hNc⟩ := hE0
  have hA : ∀ q : Nat, s.heap.size ≤ q → base ≤ q := va_SA hbs
  have hts : ∀ w ∈ lw_tbl.filter goodWord, w.before args s = true := fun w hw => hG w ⟨(List.mem_filter.mp hw).1, (List.mem_filter.mp hw).2⟩
  have hKy : ∀ t, t ≤ 4 → va_K D vwCl [(dA t, eTyA t)] s := fun t ht => ⟨hK.1, fun k q hq => by
    match k, hq with
    | 0, hq => cases hq; exact hAr t ht
    | k + 1, hq => simp at hq⟩
  have hP1 : ∀ {k : Nat} {o : va_E}, h.2[k]? = some o → va_P D vwCl [(base + k, eZ dA base b0 o)] H := fun {k o} hk j q hq => by
    match j, hq with
    | 0, hq => cases hq; exact hR.1 k o hk
    | j + 1, hq => simp at hq
  have hstep : pII (fun x y => (x.toUInt32 >>> (y.toUInt32 &&& 31)).toInt32) st (fun r => K0 n ls r h kc ks) := hstep
  have hd : decode (mBy M) pc = .ok (.iushr, 1) := hd
  have hn : n = pc + 1 := hn
  subst hn
  obtain ⟨x, y, r, rfl, hk⟩ := pII_s hstep
  exact lv_iushr hx hb hd rfl (hK0 _ _ _ _ _ _ hk H locs lsA hR hSS hl)
set_option maxHeartbeats 4000000 in
set_option maxRecDepth 100000 in
theorem ei_irem (cx : eCx p l e R s m args below meth c0 D dA base b0 S T C M d Q Fin K0)  {n a b c pc : Nat} {ls : eL} {st : List Value} {h : eH} {kc ks : Nat} {H : Heap} {locs : List Loc} {lsA : Array Slot} (hd : decode (mBy M) pc = .ok (.irem, eLen pc .irem n)) (hn : n = pc + eLen pc .irem n) (hi : eIns M pc .irem a b c = true) (hlk : eLink T M (pc, .irem, n, a, b, c)) (hR : eRH D dA base b0 h H) (hSS : va_S (fun q => base ≤ q) s.heap H locs) (hl : lv_has lsA (mLo M) (eLs base b0 ls)) (hstep : okI S T C M d Q .irem n a b c pc ls st h kc ks K0) : W p l e R s m args below meth c0 H locs kc ks Fin (F0 m pc lsA (st.map (eV base b0))) := by
  have cx0 := cx
  obtain ⟨hK0, hx, hb, hml, hown, hG, hE, hOK, hCl, hCa, hinit, hRf, hRl, hd1, hRc, hRs, htab, hC, hdC, hfin, hout, hthr⟩ := cx0
  have hOK0 := hOK
  obtain ⟨hOKc, hOKl, hOKh⟩ := hOK0
  have hE0 := hE
  obtain ⟨hNG, hStr, hZ1, hZ2, hAO, hK, hAr, hX, hbb, hbs, hNc⟩ := hE0
  have hA : ∀ q : Nat, s.heap.size ≤ q → base ≤ q := va_SA hbs
  have hts : ∀ w ∈ lw_tbl.filter goodWord, w.before args s = true := fun w hw => hG w ⟨(List.mem_filter.mp hw).1, (List.mem_filter.mp hw).2⟩
  have hKy : ∀ t, t ≤ 4 → va_K D vwCl [(dA t, eTyA t)] s := fun t ht => ⟨hK.1, fun k q hq => by
    match k, hq with
    | 0, hq => cases hq; exact hAr t ht
    | k + 1, hq => simp at hq⟩
  have hP1 : ∀ {k : Nat} {o : va_E}, h.2[k]? = some o → va_P D vwCl [(base + k, eZ dA base b0 o)] H := fun {k o} hk j q hq => by
    match j, hq with
    | 0, hq => cases hq; exact hR.1 k o hk
    | j + 1, hq => simp at hq
  have hstep : mI st (fun y r => mI r (fun x r => ¬ y = 0 ∧ K0 n ls (.int (x - x / y * y) :: r) h kc ks)) := hstep
  have hd : decode (mBy M) pc = .ok (.irem, 1) := hd
  have hn : n = pc + 1 := hn
  subst hn
  obtain ⟨y, r, rfl, hs⟩ := mI_s hstep
  obtain ⟨x, r, rfl, h0, hk⟩ := mI_s hs
  exact lv_irem hx hb hd h0 (hK0 _ _ _ _ _ _ hk H locs lsA hR hSS hl)
set_option maxHeartbeats 4000000 in
set_option maxRecDepth 100000 in
theorem ei_ineg (cx : eCx p l e R s m args below meth c0 D dA base b0 S T C M d Q Fin K0)  {n a b c pc : Nat} {ls : eL} {st : List Value} {h : eH} {kc ks : Nat} {H : Heap} {locs : List Loc} {lsA : Array Slot} (hd : decode (mBy M) pc = .ok (.ineg, eLen pc .ineg n)) (hn : n = pc + eLen pc .ineg n) (hi : eIns M pc .ineg a b c = true) (hlk : eLink T M (pc, .ineg, n, a, b, c)) (hR : eRH D dA base b0 h H) (hSS : va_S (fun q => base ≤ q) s.heap H locs) (hl : lv_has lsA (mLo M) (eLs base b0 ls)) (hstep : okI S T C M d Q .ineg n a b c pc ls st h kc ks K0) : W p l e R s m args below meth c0 H locs kc ks Fin (F0 m pc lsA (st.map (eV base b0))) := by
  have cx0 := cx
  obtain ⟨hK0, hx, hb, hml, hown, hG, hE, hOK, hCl, hCa, hinit, hRf, hRl, hd1, hRc, hRs, htab, hC, hdC, hfin, hout, hthr⟩ := cx0
  have hOK0 := hOK
  obtain ⟨hOKc, hOKl, hOKh⟩ := hOK0
  have hE0 := hE
  obtain ⟨hNG, hStr, hZ1, hZ2, hAO, hK, hAr, hX, hbb, hbs, hNc⟩ := hE0
  have hA : ∀ q : Nat, s.heap.size ≤ q → base ≤ q := va_SA hbs
  have hts : ∀ w ∈ lw_tbl.filter goodWord, w.before args s = true := fun w hw => hG w ⟨(List.mem_filter.mp hw).1, (List.mem_filter.mp hw).2⟩
  have hKy : ∀ t, t ≤ 4 → va_K D vwCl [(dA t, eTyA t)] s := fun t ht => ⟨hK.1, fun k q hq => by
    match k, hq with
    | 0, hq => cases hq; exact hAr t ht
    | k + 1, hq => simp at hq⟩
  have hP1 : ∀ {k : Nat} {o : va_E}, h.2[k]? = some o → va_P D vwCl [(base + k, eZ dA base b0 o)] H := fun {k o} hk j q hq => by
    match j, hq with
    | 0, hq => cases hq; exact hR.1 k o hk
    | j + 1, hq => simp at hq
  have hstep : pI (fun x => .int (-x)) st (fun r => K0 n ls r h kc ks) := hstep
  have hd : decode (mBy M) pc = .ok (.ineg, 1) := hd
  have hn : n = pc + 1 := hn
  subst hn
  obtain ⟨x, r, rfl, hk⟩ := pI_s hstep
  exact lv_ineg hx hb hd (hK0 _ _ _ _ _ _ hk H locs lsA hR hSS hl)
set_option maxHeartbeats 4000000 in
set_option maxRecDepth 100000 in
theorem ei_i2l (cx : eCx p l e R s m args below meth c0 D dA base b0 S T C M d Q Fin K0)  {n a b c pc : Nat} {ls : eL} {st : List Value} {h : eH} {kc ks : Nat} {H : Heap} {locs : List Loc} {lsA : Array Slot} (hd : decode (mBy M) pc = .ok (.i2l, eLen pc .i2l n)) (hn : n = pc + eLen pc .i2l n) (hi : eIns M pc .i2l a b c = true) (hlk : eLink T M (pc, .i2l, n, a, b, c)) (hR : eRH D dA base b0 h H) (hSS : va_S (fun q => base ≤ q) s.heap H locs) (hl : lv_has lsA (mLo M) (eLs base b0 ls)) (hstep : okI S T C M d Q .i2l n a b c pc ls st h kc ks K0) : W p l e R s m args below meth c0 H locs kc ks Fin (F0 m pc lsA (st.map (eV base b0))) := by
  have cx0 := cx
  obtain ⟨hK0, hx, hb, hml, hown, hG, hE, hOK, hCl, hCa, hinit, hRf, hRl, hd1, hRc, hRs, htab, hC, hdC, hfin, hout, hthr⟩ := cx0
  have hOK0 := hOK
  obtain ⟨hOKc, hOKl, hOKh⟩ := hOK0
  have hE0 := hE
  obtain ⟨hNG, hStr, hZ1, hZ2, hAO, hK, hAr, hX, hbb, hbs, hNc⟩ := hE0
  have hA : ∀ q : Nat, s.heap.size ≤ q → base ≤ q := va_SA hbs
  have hts : ∀ w ∈ lw_tbl.filter goodWord, w.before args s = true := fun w hw => hG w ⟨(List.mem_filter.mp hw).1, (List.mem_filter.mp hw).2⟩
  have hKy : ∀ t, t ≤ 4 → va_K D vwCl [(dA t, eTyA t)] s := fun t ht => ⟨hK.1, fun k q hq => by
    match k, hq with
    | 0, hq => cases hq; exact hAr t ht
    | k + 1, hq => simp at hq⟩
  have hP1 : ∀ {k : Nat} {o : va_E}, h.2[k]? = some o → va_P D vwCl [(base + k, eZ dA base b0 o)] H := fun {k o} hk j q hq => by
    match j, hq with
    | 0, hq => cases hq; exact hR.1 k o hk
    | j + 1, hq => simp at hq
  have hstep : pI (fun x => .long x.toInt64) st (fun r => K0 n ls r h kc ks) := hstep
  have hd : decode (mBy M) pc = .ok (.i2l, 1) := hd
  have hn : n = pc + 1 := hn
  subst hn
  obtain ⟨x, r, rfl, hk⟩ := pI_s hstep
  exact lv_i2l hx hb hd rfl (hK0 _ _ _ _ _ _ hk H locs lsA hR hSS hl)
set_option maxHeartbeats 4000000 in
set_option maxRecDepth 100000 in
theorem ei_i2f (cx : eCx p l e R s m args below meth c0 D dA base b0 S T C M d Q Fin K0)  {n a b c pc : Nat} {ls : eL} {st : List Value} {h : eH} {kc ks : Nat} {H : Heap} {locs : List Loc} {lsA : Array Slot} (hd : decode (mBy M) pc = .ok (.i2f, eLen pc .i2f n)) (hn : n = pc + eLen pc .i2f n) (hi : eIns M pc .i2f a b c = true) (hlk : eLink T M (pc, .i2f, n, a, b, c)) (hR : eRH D dA base b0 h H) (hSS : va_S (fun q => base ≤ q) s.heap H locs) (hl : lv_has lsA (mLo M) (eLs base b0 ls)) (hstep : okI S T C M d Q .i2f n a b c pc ls st h kc ks K0) : W p l e R s m args below meth c0 H locs kc ks Fin (F0 m pc lsA (st.map (eV base b0))) := by
  have cx0 := cx
  obtain ⟨hK0, hx, hb, hml, hown, hG, hE, hOK, hCl, hCa, hinit, hRf, hRl, hd1, hRc, hRs, htab, hC, hdC, hfin, hout, hthr⟩ := cx0
  have hOK0 := hOK
  obtain ⟨hOKc, hOKl, hOKh⟩ := hOK0
  have hE0 := hE
  obtain ⟨hNG, hStr, hZ1, hZ2, hAO, hK, hAr, hX, hbb, hbs, hNc⟩ := hE0
  have hA : ∀ q : Nat, s.heap.size ≤ q → base ≤ q := va_SA hbs
  have hts : ∀ w ∈ lw_tbl.filter goodWord, w.before args s = true := fun w hw => hG w ⟨(List.mem_filter.mp hw).1, (List.mem_filter.mp hw).2⟩
  have hKy : ∀ t, t ≤ 4 → va_K D vwCl [(dA t, eTyA t)] s := fun t ht => ⟨hK.1, fun k q hq => by
    match k, hq with
    | 0, hq => cases hq; exact hAr t ht
    | k + 1, hq => simp at hq⟩
  have hP1 : ∀ {k : Nat} {o : va_E}, h.2[k]? = some o → va_P D vwCl [(base + k, eZ dA base b0 o)] H := fun {k o} hk j q hq => by
    match j, hq with
    | 0, hq => cases hq; exact hR.1 k o hk
    | j + 1, hq => simp at hq
  have hstep : pI (fun x => .float (FP.i2f x)) st (fun r => K0 n ls r h kc ks) := hstep
  have hd : decode (mBy M) pc = .ok (.i2f, 1) := hd
  have hn : n = pc + 1 := hn
  subst hn
  obtain ⟨x, r, rfl, hk⟩ := pI_s hstep
  exact lv_i2f hx hb hd (hK0 _ _ _ _ _ _ hk H locs lsA hR hSS hl)
set_option maxHeartbeats 4000000 in
set_option maxRecDepth 100000 in
theorem ei_i2d (cx : eCx p l e R s m args below meth c0 D dA base b0 S T C M d Q Fin K0)  {n a b c pc : Nat} {ls : eL} {st : List Value} {h : eH} {kc ks : Nat} {H : Heap} {locs : List Loc} {lsA : Array Slot} (hd : decode (mBy M) pc = .ok (.i2d, eLen pc .i2d n)) (hn : n = pc + eLen pc .i2d n) (hi : eIns M pc .i2d a b c = true) (hlk : eLink T M (pc, .i2d, n, a, b, c)) (hR : eRH D dA base b0 h H) (hSS : va_S (fun q => base ≤ q) s.heap H locs) (hl : lv_has lsA (mLo M) (eLs base b0 ls)) (hstep : okI S T C M d Q .i2d n a b c pc ls st h kc ks K0) : W p l e R s m args below meth c0 H locs kc ks Fin (F0 m pc lsA (st.map (eV base b0))) := by
  have cx0 := cx
  obtain ⟨hK0, hx, hb, hml, hown, hG, hE, hOK, hCl, hCa, hinit, hRf, hRl, hd1, hRc, hRs, htab, hC, hdC, hfin, hout, hthr⟩ := cx0
  have hOK0 := hOK
  obtain ⟨hOKc, hOKl, hOKh⟩ := hOK0
  have hE0 := hE
  obtain ⟨hNG, hStr, hZ1, hZ2, hAO, hK, hAr, hX, hbb, hbs, hNc⟩ := hE0
  have hA : ∀ q : Nat, s.heap.size ≤ q → base ≤ q := va_SA hbs
  have hts : ∀ w ∈ lw_tbl.filter goodWord, w.before args s = true := fun w hw => hG w ⟨(List.mem_filter.mp hw).1, (List.mem_filter.mp hw).2⟩
  have hKy : ∀ t, t ≤ 4 → va_K D vwCl [(dA t, eTyA t)] s := fun t ht => ⟨hK.1, fun k q hq => by
    match k, hq with
    | 0, hq => cases hq; exact hAr t ht
    | k + 1, hq => simp at hq⟩
  have hP1 : ∀ {k : Nat} {o : va_E}, h.2[k]? = some o → va_P D vwCl [(base + k, eZ dA base b0 o)] H := fun {k o} hk j q hq => by
    match j, hq with
    | 0, hq => cases hq; exact hR.1 k o hk
    | j + 1, hq => simp at hq
  have hstep : pI (fun x => .double (FP.i2d x)) st (fun r => K0 n ls r h kc ks) := hstep
  have hd : decode (mBy M) pc = .ok (.i2d, 1) := hd
  have hn : n = pc + 1 := hn
  subst hn
  obtain ⟨x, r, rfl, hk⟩ := pI_s hstep
  exact lv_i2d hx hb hd (hK0 _ _ _ _ _ _ hk H locs lsA hR hSS hl)
set_option maxHeartbeats 4000000 in
set_option maxRecDepth 100000 in
theorem ei_l2i (cx : eCx p l e R s m args below meth c0 D dA base b0 S T C M d Q Fin K0)  {n a b c pc : Nat} {ls : eL} {st : List Value} {h : eH} {kc ks : Nat} {H : Heap} {locs : List Loc} {lsA : Array Slot} (hd : decode (mBy M) pc = .ok (.l2i, eLen pc .l2i n)) (hn : n = pc + eLen pc .l2i n) (hi : eIns M pc .l2i a b c = true) (hlk : eLink T M (pc, .l2i, n, a, b, c)) (hR : eRH D dA base b0 h H) (hSS : va_S (fun q => base ≤ q) s.heap H locs) (hl : lv_has lsA (mLo M) (eLs base b0 ls)) (hstep : okI S T C M d Q .l2i n a b c pc ls st h kc ks K0) : W p l e R s m args below meth c0 H locs kc ks Fin (F0 m pc lsA (st.map (eV base b0))) := by
  have cx0 := cx
  obtain ⟨hK0, hx, hb, hml, hown, hG, hE, hOK, hCl, hCa, hinit, hRf, hRl, hd1, hRc, hRs, htab, hC, hdC, hfin, hout, hthr⟩ := cx0
  have hOK0 := hOK
  obtain ⟨hOKc, hOKl, hOKh⟩ := hOK0
  have hE0 := hE
  obtain ⟨hNG, hStr, hZ1, hZ2, hAO, hK, hAr, hX, hbb, hbs, hNc⟩ := hE0
  have hA : ∀ q : Nat, s.heap.size ≤ q → base ≤ q := va_SA hbs
  have hts : ∀ w ∈ lw_tbl.filter goodWord, w.before args s = true := fun w hw => hG w ⟨(List.mem_filter.mp hw).1, (List.mem_filter.mp hw).2⟩
  have hKy : ∀ t, t ≤ 4 → va_K D vwCl [(dA t, eTyA t)] s := fun t ht => ⟨hK.1, fun k q hq => by
    match k, hq with
    | 0, hq => cases hq; exact hAr t ht
    | k + 1, hq => simp at hq⟩
  have hP1 : ∀ {k : Nat} {o : va_E}, h.2[k]? = some o → va_P D vwCl [(base + k, eZ dA base b0 o)] H := fun {k o} hk j q hq => by
    match j, hq with
    | 0, hq => cases hq; exact hR.1 k o hk
    | j + 1, hq => simp at hq
  have hstep : pL (fun x => .int x.toInt32) st (fun r => K0 n ls r h kc ks) := hstep
  have hd : decode (mBy M) pc = .ok (.l2i, 1) := hd
  have hn : n = pc + 1 := hn
  subst hn
  obtain ⟨x, r, rfl, hk⟩ := pL_s hstep
  exact lv_l2i hx hb hd rfl (hK0 _ _ _ _ _ _ hk H locs lsA hR hSS hl)
set_option maxHeartbeats 4000000 in
set_option maxRecDepth 100000 in
theorem ei_ladd (cx : eCx p l e R s m args below meth c0 D dA base b0 S T C M d Q Fin K0)  {n a b c pc : Nat} {ls : eL} {st : List Value} {h : eH} {kc ks : Nat} {H : Heap} {locs : List Loc} {lsA : Array Slot} (hd : decode (mBy M) pc = .ok (.ladd, eLen pc .ladd n)) (hn : n = pc + eLen pc .ladd n) (hi : eIns M pc .ladd a b c = true) (hlk : eLink T M (pc, .ladd, n, a, b, c)) (hR : eRH D dA base b0 h H) (hSS : va_S (fun q => base ≤ q) s.heap H locs) (hl : lv_has lsA (mLo M) (eLs base b0 ls)) (hstep : okI S T C M d Q .ladd n a b c pc ls st h kc ks K0) : W p l e R s m args below meth c0 H locs kc ks Fin (F0 m pc lsA (st.map (eV base b0))) := by
  have cx0 := cx
  obtain ⟨hK0, hx, hb, hml, hown, hG, hE, hOK, hCl, hCa, hinit, hRf, hRl, hd1, hRc, hRs, htab, hC, hdC, hfin, hout, hthr⟩ := cx0
  have hOK0 := hOK
  obtain ⟨hOKc, hOKl, hOKh⟩ := hOK0
  have hE0 := hE
  obtain ⟨hNG, hStr, hZ1, hZ2, hAO, hK, hAr, hX, hbb, hbs, hNc⟩ := hE0
  have hA : ∀ q : Nat, s.heap.size ≤ q → base ≤ q := va_SA hbs
  have hts : ∀ w ∈ lw_tbl.filter goodWord, w.before args s = true := fun w hw => hG w ⟨(List.mem_filter.mp hw).1, (List.mem_filter.mp hw).2⟩
  have hKy : ∀ t, t ≤ 4 → va_K D vwCl [(dA t, eTyA t)] s := fun t ht => ⟨hK.1, fun k q hq => by
    match k, hq with
    | 0, hq => cases hq; exact hAr t ht
    | k + 1, hq => simp at hq⟩
  have hP1 : ∀ {k : Nat} {o : va_E}, h.2[k]? = some o → va_P D vwCl [(base + k, eZ dA base b0 o)] H := fun {k o} hk j q hq => by
    match j, hq with
    | 0, hq => cases hq; exact hR.1 k o hk
    | j + 1, hq => simp at hq
  have hstep : pLL (fun x y => .long (x + y)) st (fun r => K0 n ls r h kc ks) := hstep
  have hd : decode (mBy M) pc = .ok (.ladd, 1) := hd
  have hn : n = pc + 1 := hn
  subst hn
  obtain ⟨x, y, r, rfl, hk⟩ := pLL_s hstep
  exact lv_ladd hx hb hd (hK0 _ _ _ _ _ _ hk H locs lsA hR hSS hl)
set_option maxHeartbeats 4000000 in
set_option maxRecDepth 100000 in
theorem ei_lsub (cx : eCx p l e R s m args below meth c0 D dA base b0 S T C M d Q Fin K0)  {n a b c pc : Nat} {ls : eL} {st : List Value} {h : eH} {kc ks : Nat} {H : Heap} {locs : List Loc} {lsA : Array Slot} (hd : decode (mBy M) pc = .ok (.lsub, eLen pc .lsub n)) (hn : n = pc + eLen pc .lsub n) (hi : eIns M pc .lsub a b c = true) (hlk : eLink T M (pc, .lsub, n, a, b, c)) (hR : eRH D dA base b0 h H) (hSS : va_S (fun q => base ≤ q) s.heap H locs) (hl : lv_has lsA (mLo M) (eLs base b0 ls)) (hstep : okI S T C M d Q .lsub n a b c pc ls st h kc ks K0) : W p l e R s m args below meth c0 H locs kc ks Fin (F0 m pc lsA (st.map (eV base b0))) := by
  have cx0 := cx
  obtain ⟨hK0, hx, hb, hml, hown, hG, hE, hOK, hCl, hCa, hinit, hRf, hRl, hd1, hRc, hRs, htab, hC, hdC, hfin, hout, hthr⟩ := cx0
  have hOK0 := hOK
  obtain ⟨hOKc, hOKl, hOKh⟩ := hOK0
  have hE0 := hE
  obtain ⟨hNG, hStr, hZ1, hZ2, hAO, hK, hAr, hX, hbb, hbs, hNc⟩ := hE0
  have hA : ∀ q : Nat, s.heap.size ≤ q → base ≤ q := va_SA hbs
  have hts : ∀ w ∈ lw_tbl.filter goodWord, w.before args s = true := fun w hw => hG w ⟨(List.mem_filter.mp hw).1, (List.mem_filter.mp hw).2⟩
  have hKy : ∀ t, t ≤ 4 → va_K D vwCl [(dA t, eTyA t)] s := fun t ht => ⟨hK.1, fun k q hq => by
    match k, hq with
    | 0, hq => cases hq; exact hAr t ht
    | k + 1, hq => simp at hq⟩
  have hP1 : ∀ {k : Nat} {o : va_E}, h.2[k]? = some o → va_P D vwCl [(base + k, eZ dA base b0 o)] H := fun {k o} hk j q hq => by
    match j, hq with
    | 0, hq => cases hq; exact hR.1 k o hk
    | j + 1, hq => simp at hq
  have hstep : pLL (fun x y => .long (x - y)) st (fun r => K0 n ls r h kc ks) := hstep
  have hd : decode (mBy M) pc = .ok (.lsub, 1) := hd
  have hn : n = pc + 1 := hn
  subst hn
  obtain ⟨x, y, r, rfl, hk⟩ := pLL_s hstep
  exact lv_lsub hx hb hd (hK0 _ _ _ _ _ _ hk H locs lsA hR hSS hl)
set_option maxHeartbeats 4000000 in
set_option maxRecDepth 100000 in
theorem ei_lmul (cx : eCx p l e R s m args below meth c0 D dA base b0 S T C M d Q Fin K0)  {n a b c pc : Nat} {ls : eL} {st : List Value} {h : eH} {kc ks : Nat} {H : Heap} {locs : List Loc} {lsA : Array Slot} (hd : decode (mBy M) pc = .ok (.lmul, eLen pc .lmul n)) (hn : n = pc + eLen pc .lmul n) (hi : eIns M pc .lmul a b c = true) (hlk : eLink T M (pc, .lmul, n, a, b, c)) (hR : eRH D dA base b0 h H) (hSS : va_S (fun q => base ≤ q) s.heap H locs) (hl : lv_has lsA (mLo M) (eLs base b0 ls)) (hstep : okI S T C M d Q .lmul n a b c pc ls st h kc ks K0) : W p l e R s m args below meth c0 H locs kc ks Fin (F0 m pc lsA (st.map (eV base b0))) := by
  have cx0 := cx
  obtain ⟨hK0, hx, hb, hml, hown, hG, hE, hOK, hCl, hCa, hinit, hRf, hRl, hd1, hRc, hRs, htab, hC, hdC, hfin, hout, hthr⟩ := cx0
  have hOK0 := hOK
  obtain ⟨hOKc, hOKl, hOKh⟩ := hOK0
  have hE0 := hE
  obtain ⟨hNG, hStr, hZ1, hZ2, hAO, hK, hAr, hX, hbb, hbs, hNc⟩ := hE0
  have hA : ∀ q : Nat, s.heap.size ≤ q → base ≤ q := va_SA hbs
  have hts : ∀ w ∈ lw_tbl.filter goodWord, w.before args s = true := fun w hw => hG w ⟨(List.mem_filter.mp hw).1, (List.mem_filter.mp hw).2⟩
  have hKy : ∀ t, t ≤ 4 → va_K D vwCl [(dA t, eTyA t)] s := fun t ht => ⟨hK.1, fun k q hq => by
    match k, hq with
    | 0, hq => cases hq; exact hAr t ht
    | k + 1, hq => simp at hq⟩
  have hP1 : ∀ {k : Nat} {o : va_E}, h.2[k]? = some o → va_P D vwCl [(base + k, eZ dA base b0 o)] H := fun {k o} hk j q hq => by
    match j, hq with
    | 0, hq => cases hq; exact hR.1 k o hk
    | j + 1, hq => simp at hq
  have hstep : pLL (fun x y => .long (x * y)) st (fun r => K0 n ls r h kc ks) := hstep
  have hd : decode (mBy M) pc = .ok (.lmul, 1) := hd
  have hn : n = pc + 1 := hn
  subst hn
  obtain ⟨x, y, r, rfl, hk⟩ := pLL_s hstep
  exact lv_lmul hx hb hd (hK0 _ _ _ _ _ _ hk H locs lsA hR hSS hl)
set_option maxHeartbeats 4000000 in
set_option maxRecDepth 100000 in
theorem ei_land (cx : eCx p l e R s m args below meth c0 D dA base b0 S T C M d Q Fin K0)  {n a b c pc : Nat} {ls : eL} {st : List Value} {h : eH} {kc ks : Nat} {H : Heap} {locs : List Loc} {lsA : Array Slot} (hd : decode (mBy M) pc = .ok (.land, eLen pc .land n)) (hn : n = pc + eLen pc .land n) (hi : eIns M pc .land a b c = true) (hlk : eLink T M (pc, .land, n, a, b, c)) (hR : eRH D dA base b0 h H) (hSS : va_S (fun q => base ≤ q) s.heap H locs) (hl : lv_has lsA (mLo M) (eLs base b0 ls)) (hstep : okI S T C M d Q .land n a b c pc ls st h kc ks K0) : W p l e R s m args below meth c0 H locs kc ks Fin (F0 m pc lsA (st.map (eV base b0))) := by
  have cx0 := cx
  obtain ⟨hK0, hx, hb, hml, hown, hG, hE, hOK, hCl, hCa, hinit, hRf, hRl, hd1, hRc, hRs, htab, hC, hdC, hfin, hout, hthr⟩ := cx0
  have hOK0 := hOK
  obtain ⟨hOKc, hOKl, hOKh⟩ := hOK0
  have hE0 := hE
  obtain ⟨hNG, hStr, hZ1, hZ2, hAO, hK, hAr, hX, hbb, hbs, hNc⟩ := hE0
  have hA : ∀ q : Nat, s.heap.size ≤ q → base ≤ q := va_SA hbs
  have hts : ∀ w ∈ lw_tbl.filter goodWord, w.before args s = true := fun w hw => hG w ⟨(List.mem_filter.mp hw).1, (List.mem_filter.mp hw).2⟩
  have hKy : ∀ t, t ≤ 4 → va_K D vwCl [(dA t, eTyA t)] s := fun t ht => ⟨hK.1, fun k q hq => by
    match k, hq with
    | 0, hq => cases hq; exact hAr t ht
    | k + 1, hq => simp at hq⟩
  have hP1 : ∀ {k : Nat} {o : va_E}, h.2[k]? = some o → va_P D vwCl [(base + k, eZ dA base b0 o)] H := fun {k o} hk j q hq => by
    match j, hq with
    | 0, hq => cases hq; exact hR.1 k o hk
    | j + 1, hq => simp at hq
  have hstep : pLL (fun x y => .long (x &&& y)) st (fun r => K0 n ls r h kc ks) := hstep
  have hd : decode (mBy M) pc = .ok (.land, 1) := hd
  have hn : n = pc + 1 := hn
  subst hn
  obtain ⟨x, y, r, rfl, hk⟩ := pLL_s hstep
  exact lv_land hx hb hd (hK0 _ _ _ _ _ _ hk H locs lsA hR hSS hl)
set_option maxHeartbeats 4000000 in
set_option maxRecDepth 100000 in
theorem ei_lor (cx : eCx p l e R s m args below meth c0 D dA base b0 S T C M d Q Fin K0)  {n a b c pc : Nat} {ls : eL} {st : List Value} {h : eH} {kc ks : Nat} {H : Heap} {locs : List Loc} {lsA : Array Slot} (hd : decode (mBy M) pc = .ok (.lor, eLen pc .lor n)) (hn : n = pc + eLen pc .lor n) (hi : eIns M pc .lor a b c = true) (hlk : eLink T M (pc, .lor, n, a, b, c)) (hR : eRH D dA base b0 h H) (hSS : va_S (fun q => base ≤ q) s.heap H locs) (hl : lv_has lsA (mLo M) (eLs base b0 ls)) (hstep : okI S T C M d Q .lor n a b c pc ls st h kc ks K0) : W p l e R s m args below meth c0 H locs kc ks Fin (F0 m pc lsA (st.map (eV base b0))) := by
  have cx0 := cx
  obtain ⟨hK0, hx, hb, hml, hown, hG, hE, hOK, hCl, hCa, hinit, hRf, hRl, hd1, hRc, hRs, htab, hC, hdC, hfin, hout, hthr⟩ := cx0
  have hOK0 := hOK
  obtain ⟨hOKc, hOKl, hOKh⟩ := hOK0
  have hE0 := hE
  obtain ⟨hNG, hStr, hZ1, hZ2, hAO, hK, hAr, hX, hbb, hbs, hNc⟩ := hE0
  have hA : ∀ q : Nat, s.heap.size ≤ q → base ≤ q := va_SA hbs
  have hts : ∀ w ∈ lw_tbl.filter goodWord, w.before args s = true := fun w hw => hG w ⟨(List.mem_filter.mp hw).1, (List.mem_filter.mp hw).2⟩
  have hKy : ∀ t, t ≤ 4 → va_K D vwCl [(dA t, eTyA t)] s := fun t ht => ⟨hK.1, fun k q hq => by
    match k, hq with
    | 0, hq => cases hq; exact hAr t ht
    | k + 1, hq => simp at hq⟩
  have hP1 : ∀ {k : Nat} {o : va_E}, h.2[k]? = some o → va_P D vwCl [(base + k, eZ dA base b0 o)] H := fun {k o} hk j q hq => by
    match j, hq with
    | 0, hq => cases hq; exact hR.1 k o hk
    | j + 1, hq => simp at hq
  have hstep : pLL (fun x y => .long (x ||| y)) st (fun r => K0 n ls r h kc ks) := hstep
  have hd : decode (mBy M) pc = .ok (.lor, 1) := hd
  have hn : n = pc + 1 := hn
  subst hn
  obtain ⟨x, y, r, rfl, hk⟩ := pLL_s hstep
  exact lv_lor hx hb hd (hK0 _ _ _ _ _ _ hk H locs lsA hR hSS hl)
set_option maxHeartbeats 4000000 in
set_option maxRecDepth 100000 in
theorem ei_lxor (cx : eCx p l e R s m args below meth c0 D dA base b0 S T C M d Q Fin K0)  {n a b c pc : Nat} {ls : eL} {st : List Value} {h : eH} {kc ks : Nat} {H : Heap} {locs : List Loc} {lsA : Array Slot} (hd : decode (mBy M) pc = .ok (.lxor, eLen pc .lxor n)) (hn : n = pc + eLen pc .lxor n) (hi : eIns M pc .lxor a b c = true) (hlk : eLink T M (pc, .lxor, n, a, b, c)) (hR : eRH D dA base b0 h H) (hSS : va_S (fun q => base ≤ q) s.heap H locs) (hl : lv_has lsA (mLo M) (eLs base b0 ls)) (hstep : okI S T C M d Q .lxor n a b c pc ls st h kc ks K0) : W p l e R s m args below meth c0 H locs kc ks Fin (F0 m pc lsA (st.map (eV base b0))) := by
  have cx0 := cx
  obtain ⟨hK0, hx, hb, hml, hown, hG, hE, hOK, hCl, hCa, hinit, hRf, hRl, hd1, hRc, hRs, htab, hC, hdC, hfin, hout, hthr⟩ := cx0
  have hOK0 := hOK
  obtain ⟨hOKc, hOKl, hOKh⟩ := hOK0
  have hE0 := hE
  obtain ⟨hNG, hStr, hZ1, hZ2, hAO, hK, hAr, hX, hbb, hbs, hNc⟩ := hE0
  have hA : ∀ q : Nat, s.heap.size ≤ q → base ≤ q := va_SA hbs
  have hts : ∀ w ∈ lw_tbl.filter goodWord, w.before args s = true := fun w hw => hG w ⟨(List.mem_filter.mp hw).1, (List.mem_filter.mp hw).2⟩
  have hKy : ∀ t, t ≤ 4 → va_K D vwCl [(dA t, eTyA t)] s := fun t ht => ⟨hK.1, fun k q hq => by
    match k, hq with
    | 0, hq => cases hq; exact hAr t ht
    | k + 1, hq => simp at hq⟩
  have hP1 : ∀ {k : Nat} {o : va_E}, h.2[k]? = some o → va_P D vwCl [(base + k, eZ dA base b0 o)] H := fun {k o} hk j q hq => by
    match j, hq with
    | 0, hq => cases hq; exact hR.1 k o hk
    | j + 1, hq => simp at hq
  have hstep : pLL (fun x y => .long (x ^^^ y)) st (fun r => K0 n ls r h kc ks) := hstep
  have hd : decode (mBy M) pc = .ok (.lxor, 1) := hd
  have hn : n = pc + 1 := hn
  subst hn
  obtain ⟨x, y, r, rfl, hk⟩ := pLL_s hstep
  exact lv_lxor hx hb hd (hK0 _ _ _ _ _ _ hk H locs lsA hR hSS hl)
set_option maxHeartbeats 4000000 in
set_option maxRecDepth 100000 in
theorem ei_lcmp (cx : eCx p l e R s m args below meth c0 D dA base b0 S T C M d Q Fin K0)  {n a b c pc : Nat} {ls : eL} {st : List Value} {h : eH} {kc ks : Nat} {H : Heap} {locs : List Loc} {lsA : Array Slot} (hd : decode (mBy M) pc = .ok (.lcmp, eLen pc .lcmp n)) (hn : n = pc + eLen pc .lcmp n) (hi : eIns M pc .lcmp a b c = true) (hlk : eLink T M (pc, .lcmp, n, a, b, c)) (hR : eRH D dA base b0 h H) (hSS : va_S (fun q => base ≤ q) s.heap H locs) (hl : lv_has lsA (mLo M) (eLs base b0 ls)) (hstep : okI S T C M d Q .lcmp n a b c pc ls st h kc ks K0) : W p l e R s m args below meth c0 H locs kc ks Fin (F0 m pc lsA (st.map (eV base b0))) := by
  have cx0 := cx
  obtain ⟨hK0, hx, hb, hml, hown, hG, hE, hOK, hCl, hCa, hinit, hRf, hRl, hd1, hRc, hRs, htab, hC, hdC, hfin, hout, hthr⟩ := cx0
  have hOK0 := hOK
  obtain ⟨hOKc, hOKl, hOKh⟩ := hOK0
  have hE0 := hE
  obtain ⟨hNG, hStr, hZ1, hZ2, hAO, hK, hAr, hX, hbb, hbs, hNc⟩ := hE0
  have hA : ∀ q : Nat, s.heap.size ≤ q → base ≤ q := va_SA hbs
  have hts : ∀ w ∈ lw_tbl.filter goodWord, w.before args s = true := fun w hw => hG w ⟨(List.mem_filter.mp hw).1, (List.mem_filter.mp hw).2⟩
  have hKy : ∀ t, t ≤ 4 → va_K D vwCl [(dA t, eTyA t)] s := fun t ht => ⟨hK.1, fun k q hq => by
    match k, hq with
    | 0, hq => cases hq; exact hAr t ht
    | k + 1, hq => simp at hq⟩
  have hP1 : ∀ {k : Nat} {o : va_E}, h.2[k]? = some o → va_P D vwCl [(base + k, eZ dA base b0 o)] H := fun {k o} hk j q hq => by
    match j, hq with
    | 0, hq => cases hq; exact hR.1 k o hk
    | j + 1, hq => simp at hq
  have hstep : pLL (fun x y => .int (lg_cmp x y)) st (fun r => K0 n ls r h kc ks) := hstep
  have hd : decode (mBy M) pc = .ok (.lcmp, 1) := hd
  have hn : n = pc + 1 := hn
  subst hn
  obtain ⟨x, y, r, rfl, hk⟩ := pLL_s hstep
  exact W.lcmp hx hb hd (hK0 _ _ _ _ _ _ hk H locs lsA hR hSS hl)
set_option maxHeartbeats 4000000 in
set_option maxRecDepth 100000 in
theorem ei_lshl (cx : eCx p l e R s m args below meth c0 D dA base b0 S T C M d Q Fin K0)  {n a b c pc : Nat} {ls : eL} {st : List Value} {h : eH} {kc ks : Nat} {H : Heap} {locs : List Loc} {lsA : Array Slot} (hd : decode (mBy M) pc = .ok (.lshl, eLen pc .lshl n)) (hn : n = pc + eLen pc .lshl n) (hi : eIns M pc .lshl a b c = true) (hlk : eLink T M (pc, .lshl, n, a, b, c)) (hR : eRH D dA base b0 h H) (hSS : va_S (fun q => base ≤ q) s.heap H locs) (hl : lv_has lsA (mLo M) (eLs base b0 ls)) (hstep : okI S T C M d Q .lshl n a b c pc ls st h kc ks K0) : W p l e R s m args below meth c0 H locs kc ks Fin (F0 m pc lsA (st.map (eV base b0))) := by
  have cx0 := cx
  obtain ⟨hK0, hx, hb, hml, hown, hG, hE, hOK, hCl, hCa, hinit, hRf, hRl, hd1, hRc, hRs, htab, hC, hdC, hfin, hout, hthr⟩ := cx0
  have hOK0 := hOK
  obtain ⟨hOKc, hOKl, hOKh⟩ := hOK0
  have hE0 := hE
  obtain ⟨hNG, hStr, hZ1, hZ2, hAO, hK, hAr, hX, hbb, hbs, hNc⟩ := hE0
  have hA : ∀ q : Nat, s.heap.size ≤ q → base ≤ q := va_SA hbs
  have hts : ∀ w ∈ lw_tbl.filter goodWord, w.before args s = true := fun w hw => hG w ⟨(List.mem_filter.mp hw).1, (List.mem_filter.mp hw).2⟩
  have hKy : ∀ t, t ≤ 4 → va_K D vwCl [(dA t, eTyA t)] s := fun t ht => ⟨hK.1, fun k q hq => by
    match k, hq with
    | 0, hq => cases hq; exact hAr t ht
    | k + 1, hq => simp at hq⟩
  have hP1 : ∀ {k : Nat} {o : va_E}, h.2[k]? = some o → va_P D vwCl [(base + k, eZ dA base b0 o)] H := fun {k o} hk j q hq => by
    match j, hq with
    | 0, hq => cases hq; exact hR.1 k o hk
    | j + 1, hq => simp at hq
  have hstep : pLI (fun x y => x <<< (y.toInt64 &&& 63)) st (fun r => K0 n ls r h kc ks) := hstep
  have hd : decode (mBy M) pc = .ok (.lshl, 1) := hd
  have hn : n = pc + 1 := hn
  subst hn
  obtain ⟨x, y, r, rfl, hk⟩ := pLI_s hstep
  exact lv_lshl hx hb hd rfl (hK0 _ _ _ _ _ _ hk H locs lsA hR hSS hl)
set_option maxHeartbeats 4000000 in
set_option maxRecDepth 100000 in
theorem ei_lushr (cx : eCx p l e R s m args below meth c0 D dA base b0 S T C M d Q Fin K0)  {n a b c pc : Nat} {ls : eL} {st : List Value} {h : eH} {kc ks : Nat} {H : Heap} {locs : List Loc} {lsA : Array Slot} (hd : decode (mBy M) pc = .ok (.lushr, eLen pc .lushr n)) (hn : n = pc + eLen pc .lushr n) (hi : eIns M pc .lushr a b c = true) (hlk : eLink T M (pc, .lushr, n, a, b, c)) (hR : eRH D dA base b0 h H) (hSS : va_S (fun q => base ≤ q) s.heap H locs) (hl : lv_has lsA (mLo M) (eLs base b0 ls)) (hstep : okI S T C M d Q .lushr n a b c pc ls st h kc ks K0) : W p l e R s m args below meth c0 H locs kc ks Fin (F0 m pc lsA (st.map (eV base b0))) := by
  have cx0 := cx
  obtain ⟨hK0, hx, hb, hml, hown, hG, hE, hOK, hCl, hCa, hinit, hRf, hRl, hd1, hRc, hRs, htab, hC, hdC, hfin, hout, hthr⟩ := cx0
  have hOK0 := hOK
  obtain ⟨hOKc, hOKl, hOKh⟩ := hOK0
  have hE0 := hE
  obtain ⟨hNG, hStr, hZ1, hZ2, hAO, hK, hAr, hX, hbb, hbs, hNc⟩ := hE0
  have hA : ∀ q : Nat, s.heap.size ≤ q → base ≤ q := va_SA hbs
  have hts : ∀ w ∈ lw_tbl.filter goodWord, w.before args s = true := fun w hw => hG w ⟨(List.mem_filter.mp hw).1, (List.mem_filter.mp hw).2⟩
  have hKy : ∀ t, t ≤ 4 → va_K D vwCl [(dA t, eTyA t)] s := fun t ht => ⟨hK.1, fun k q hq => by
    match k, hq with
    | 0, hq => cases hq; exact hAr t ht
    | k + 1, hq => simp at hq⟩
  have hP1 : ∀ {k : Nat} {o : va_E}, h.2[k]? = some o → va_P D vwCl [(base + k, eZ dA base b0 o)] H := fun {k o} hk j q hq => by
    match j, hq with
    | 0, hq => cases hq; exact hR.1 k o hk
    | j + 1, hq => simp at hq
  have hstep : pLI (fun x y => (x.toUInt64 >>> (y.toInt64.toUInt64 &&& Int64.toUInt64 63)).toInt64) st (fun r => K0 n ls r h kc ks) := hstep
  have hd : decode (mBy M) pc = .ok (.lushr, 1) := hd
  have hn : n = pc + 1 := hn
  subst hn
  obtain ⟨x, y, r, rfl, hk⟩ := pLI_s hstep
  exact lv_lushr hx hb hd rfl (hK0 _ _ _ _ _ _ hk H locs lsA hR hSS hl)
set_option maxHeartbeats 4000000 in
set_option maxRecDepth 100000 in
theorem ei_fdiv (cx : eCx p l e R s m args below meth c0 D dA base b0 S T C M d Q Fin K0)  {n a b c pc : Nat} {ls : eL} {st : List Value} {h : eH} {kc ks : Nat} {H : Heap} {locs : List Loc} {lsA : Array Slot} (hd : decode (mBy M) pc = .ok (.fdiv, eLen pc .fdiv n)) (hn : n = pc + eLen pc .fdiv n) (hi : eIns M pc .fdiv a b c = true) (hlk : eLink T M (pc, .fdiv, n, a, b, c)) (hR : eRH D dA base b0 h H) (hSS : va_S (fun q => base ≤ q) s.heap H locs) (hl : lv_has lsA (mLo M) (eLs base b0 ls)) (hstep : okI S T C M d Q .fdiv n a b c pc ls st h kc ks K0) : W p l e R s m args below meth c0 H locs kc ks Fin (F0 m pc lsA (st.map (eV base b0))) := by
  have cx0 := cx
  obtain ⟨hK0, hx, hb, hml, hown, hG, hE, hOK, hCl, hCa, hinit, hRf, hRl, hd1, hRc, hRs, htab, hC, hdC, hfin, hout, hthr⟩ := cx0
  have hOK0 := hOK
  obtain ⟨hOKc, hOKl, hOKh⟩ := hOK0
  have hE0 := hE
  obtain ⟨hNG, hStr, hZ1, hZ2, hAO, hK, hAr, hX, hbb, hbs, hNc⟩ := hE0
  have hA : ∀ q : Nat, s.heap.size ≤ q → base ≤ q := va_SA hbs
  have hts : ∀ w ∈ lw_tbl.filter goodWord, w.before args s = true := fun w hw => hG w ⟨(List.mem_filter.mp hw).1, (List.mem_filter.mp hw).2⟩
  have hKy : ∀ t, t ≤ 4 → va_K D vwCl [(dA t, eTyA t)] s := fun t ht => ⟨hK.1, fun k q hq => by
    match k, hq with
    | 0, hq => cases hq; exact hAr t ht
    | k + 1, hq => simp at hq⟩
  have hP1 : ∀ {k : Nat} {o : va_E}, h.2[k]? = some o → va_P D vwCl [(base + k, eZ dA base b0 o)] H := fun {k o} hk j q hq => by
    match j, hq with
    | 0, hq => cases hq; exact hR.1 k o hk
    | j + 1, hq => simp at hq
  have hstep : mF st (fun y r => mF r (fun x r => vf_n32 (FP.fdiv x y) ∧ K0 n ls (.float (FP.fdiv x y) :: r) h kc ks)) := hstep
  have hd : decode (mBy M) pc = .ok (.fdiv, 1) := hd
  have hn : n = pc + 1 := hn
  subst hn
  obtain ⟨y, r, rfl, hs⟩ := mF_s hstep
  obtain ⟨x, r, rfl, h0, hk⟩ := mF_s hs
  exact lv_fdiv hx hb hd h0 (hK0 _ _ _ _ _ _ hk H locs lsA hR hSS hl)
set_option maxHeartbeats 4000000 in
set_option maxRecDepth 100000 in
theorem ei_ddiv (cx : eCx p l e R s m args below meth c0 D dA base b0 S T C M d Q Fin K0)  {n a b c pc : Nat} {ls : eL} {st : List Value} {h : eH} {kc ks : Nat} {H : Heap} {locs : List Loc} {lsA : Array Slot} (hd : decode (mBy M) pc = .ok (.ddiv, eLen pc .ddiv n)) (hn : n = pc + eLen pc .ddiv n) (hi : eIns M pc .ddiv a b c = true) (hlk : eLink T M (pc, .ddiv, n, a, b, c)) (hR : eRH D dA base b0 h H) (hSS : va_S (fun q => base ≤ q) s.heap H locs) (hl : lv_has lsA (mLo M) (eLs base b0 ls)) (hstep : okI S T C M d Q .ddiv n a b c pc ls st h kc ks K0) : W p l e R s m args below meth c0 H locs kc ks Fin (F0 m pc lsA (st.map (eV base b0))) := by
  have cx0 := cx
  obtain ⟨hK0, hx, hb, hml, hown, hG, hE, hOK, hCl, hCa, hinit, hRf, hRl, hd1, hRc, hRs, htab, hC, hdC, hfin, hout, hthr⟩ := cx0
  have hOK0 := hOK
  obtain ⟨hOKc, hOKl, hOKh⟩ := hOK0
  have hE0 := hE
  obtain ⟨hNG, hStr, hZ1, hZ2, hAO, hK, hAr, hX, hbb, hbs, hNc⟩ := hE0
  have hA : ∀ q : Nat, s.heap.size ≤ q → base ≤ q := va_SA hbs
  have hts : ∀ w ∈ lw_tbl.filter goodWord, w.before args s = true := fun w hw => hG w ⟨(List.mem_filter.mp hw).1, (List.mem_filter.mp hw).2⟩
  have hKy : ∀ t, t ≤ 4 → va_K D vwCl [(dA t, eTyA t)] s := fun t ht => ⟨hK.1, fun k q hq => by
    match k, hq with
    | 0, hq => cases hq; exact hAr t ht
    | k + 1, hq => simp at hq⟩
  have hP1 : ∀ {k : Nat} {o : va_E}, h.2[k]? = some o → va_P D vwCl [(base + k, eZ dA base b0 o)] H := fun {k o} hk j q hq => by
    match j, hq with
    | 0, hq => cases hq; exact hR.1 k o hk
    | j + 1, hq => simp at hq
  have hstep : mD st (fun y r => mD r (fun x r => vf_n64 (FP.ddiv x y) ∧ K0 n ls (.double (FP.ddiv x y) :: r) h kc ks)) := hstep
  have hd : decode (mBy M) pc = .ok (.ddiv, 1) := hd
  have hn : n = pc + 1 := hn
  subst hn
  obtain ⟨y, r, rfl, hs⟩ := mD_s hstep
  obtain ⟨x, r, rfl, h0, hk⟩ := mD_s hs
  exact lv_ddiv hx hb hd h0 (hK0 _ _ _ _ _ _ hk H locs lsA hR hSS hl)
set_option maxHeartbeats 4000000 in
set_option maxRecDepth 100000 in
theorem ei_f2d (cx : eCx p l e R s m args below meth c0 D dA base b0 S T C M d Q Fin K0)  {n a b c pc : Nat} {ls : eL} {st : List Value} {h : eH} {kc ks : Nat} {H : Heap} {locs : List Loc} {lsA : Array Slot} (hd : decode (mBy M) pc = .ok (.f2d, eLen pc .f2d n)) (hn : n = pc + eLen pc .f2d n) (hi : eIns M pc .f2d a b c = true) (hlk : eLink T M (pc, .f2d, n, a, b, c)) (hR : eRH D dA base b0 h H) (hSS : va_S (fun q => base ≤ q) s.heap H locs) (hl : lv_has lsA (mLo M) (eLs base b0 ls)) (hstep : okI S T C M d Q .f2d n a b c pc ls st h kc ks K0) : W p l e R s m args below meth c0 H locs kc ks Fin (F0 m pc lsA (st.map (eV base b0))) := by
  have cx0 := cx
  obtain ⟨hK0, hx, hb, hml, hown, hG, hE, hOK, hCl, hCa, hinit, hRf, hRl, hd1, hRc, hRs, htab, hC, hdC, hfin, hout, hthr⟩ := cx0
  have hOK0 := hOK
  obtain ⟨hOKc, hOKl, hOKh⟩ := hOK0
  have hE0 := hE
  obtain ⟨hNG, hStr, hZ1, hZ2, hAO, hK, hAr, hX, hbb, hbs, hNc⟩ := hE0
  have hA : ∀ q : Nat, s.heap.size ≤ q → base ≤ q := va_SA hbs
  have hts : ∀ w ∈ lw_tbl.filter goodWord, w.before args s = true := fun w hw => hG w ⟨(List.mem_filter.mp hw).1, (List.mem_filter.mp hw).2⟩
  have hKy : ∀ t, t ≤ 4 → va_K D vwCl [(dA t, eTyA t)] s := fun t ht => ⟨hK.1, fun k q hq => by
    match k, hq with
    | 0, hq => cases hq; exact hAr t ht
    | k + 1, hq => simp at hq⟩
  have hP1 : ∀ {k : Nat} {o : va_E}, h.2[k]? = some o → va_P D vwCl [(base + k, eZ dA base b0 o)] H := fun {k o} hk j q hq => by
    match j, hq with
    | 0, hq => cases hq; exact hR.1 k o hk
    | j + 1, hq => simp at hq
  have hstep : mF st (fun x r => vf_n64 (FP.f2d x) ∧ K0 n ls (.double (FP.f2d x) :: r) h kc ks) := hstep
  have hd : decode (mBy M) pc = .ok (.f2d, 1) := hd
  have hn : n = pc + 1 := hn
  subst hn
  obtain ⟨x, r, rfl, h0, hk⟩ := mF_s hstep
  exact lv_f2d hx hb hd h0 (hK0 _ _ _ _ _ _ hk H locs lsA hR hSS hl)
set_option maxHeartbeats 4000000 in
set_option maxRecDepth 100000 in
theorem ei_fcmp (cx : eCx p l e R s m args below meth c0 D dA base b0 S T C M d Q Fin K0) (op : CmpOp) {n a b c pc : Nat} {ls : eL} {st : List Value} {h : eH} {kc ks : Nat} {H : Heap} {locs : List Loc} {lsA : Array Slot} (hd : decode (mBy M) pc = .ok ((.fcmp op), eLen pc (.fcmp op) n)) (hn : n = pc + eLen pc (.fcmp op) n) (hi : eIns M pc (.fcmp op) a b c = true) (hlk : eLink T M (pc, (.fcmp op), n, a, b, c)) (hR : eRH D dA base b0 h H) (hSS : va_S (fun q => base ≤ q) s.heap H locs) (hl : lv_has lsA (mLo M) (eLs base b0 ls)) (hstep : okI S T C M d Q (.fcmp op) n a b c pc ls st h kc ks K0) : W p l e R s m args below meth c0 H locs kc ks Fin (F0 m pc lsA (st.map (eV base b0))) := by
  have cx0 := cx
  obtain ⟨hK0, hx, hb, hml, hown, hG, hE, hOK, hCl, hCa, hinit, hRf, hRl, hd1, hRc, hRs, htab, hC, hdC, hfin, hout, hthr⟩ := cx0
  have hOK0 := hOK
  obtain ⟨hOKc, hOKl, hOKh⟩ := hOK0
  have hE0 := hE
  obtain ⟨hNG, hStr, hZ1, hZ2, hAO, hK, hAr, hX, hbb, hbs, hNc⟩ := hE0
  have hA : ∀ q : Nat, s.heap.size ≤ q → base ≤ q := va_SA hbs
  have hts : ∀ w ∈ lw_tbl.filter goodWord, w.before args s = true := fun w hw => hG w ⟨(List.mem_filter.mp hw).1, (List.mem_filter.mp hw).2⟩
  have hKy : ∀ t, t ≤ 4 → va_K D vwCl [(dA t, eTyA t)] s := fun t ht => ⟨hK.1, fun k q hq => by
    match k, hq with
    | 0, hq => cases hq; exact hAr t ht
    | k + 1, hq => simp at hq⟩
  have hP1 : ∀ {k : Nat} {o : va_E}, h.2[k]? = some o → va_P D vwCl [(base + k, eZ dA base b0 o)] H := fun {k o} hk j q hq => by
    match j, hq with
    | 0, hq => cases hq; exact hR.1 k o hk
    | j + 1, hq => simp at hq
  have hstep : mF st (fun y r => mF r (fun x r => K0 n ls (.int (Op.cmpValue (FP.fcmp x y) op) :: r) h kc ks)) := hstep
  have hd : decode (mBy M) pc = .ok (.fcmp op, 1) := hd
  have hn : n = pc + 1 := hn
  subst hn
  obtain ⟨y, r, rfl, hs⟩ := mF_s hstep
  obtain ⟨x, r, rfl, hk⟩ := mF_s hs
  exact lv_fcmp hx hb hd (hK0 _ _ _ _ _ _ hk H locs lsA hR hSS hl)
set_option maxHeartbeats 4000000 in
set_option maxRecDepth 100000 in
theorem ei_dcmp (cx : eCx p l e R s m args below meth c0 D dA base b0 S T C M d Q Fin K0) (op : CmpOp) {n a b c pc : Nat} {ls : eL} {st : List Value} {h : eH} {kc ks : Nat} {H : Heap} {locs : List Loc} {lsA : Array Slot} (hd : decode (mBy M) pc = .ok ((.dcmp op), eLen pc (.dcmp op) n)) (hn : n = pc + eLen pc (.dcmp op) n) (hi : eIns M pc (.dcmp op) a b c = true) (hlk : eLink T M (pc, (.dcmp op), n, a, b, c)) (hR : eRH D dA base b0 h H) (hSS : va_S (fun q => base ≤ q) s.heap H locs) (hl : lv_has lsA (mLo M) (eLs base b0 ls)) (hstep : okI S T C M d Q (.dcmp op) n a b c pc ls st h kc ks K0) : W p l e R s m args below meth c0 H locs kc ks Fin (F0 m pc lsA (st.map (eV base b0))) := by
  have cx0 := cx
  obtain ⟨hK0, hx, hb, hml, hown, hG, hE, hOK, hCl, hCa, hinit, hRf, hRl, hd1, hRc, hRs, htab, hC, hdC, hfin, hout, hthr⟩ := cx0
  have hOK0 := hOK
  obtain ⟨hOKc, hOKl, hOKh⟩ := hOK0
  have hE0 := hE
  obtain ⟨hNG, hStr, hZ1, hZ2, hAO, hK, hAr, hX, hbb, hbs, hNc⟩ := hE0
  have hA : ∀ q : Nat, s.heap.size ≤ q → base ≤ q := va_SA hbs
  have hts : ∀ w ∈ lw_tbl.filter goodWord, w.before args s = true := fun w hw => hG w ⟨(List.mem_filter.mp hw).1, (List.mem_filter.mp hw).2⟩
  have hKy : ∀ t, t ≤ 4 → va_K D vwCl [(dA t, eTyA t)] s := fun t ht => ⟨hK.1, fun k q hq => by
    match k, hq with
    | 0, hq => cases hq; exact hAr t ht
    | k + 1, hq => simp at hq⟩
  have hP1 : ∀ {k : Nat} {o : va_E}, h.2[k]? = some o → va_P D vwCl [(base + k, eZ dA base b0 o)] H := fun {k o} hk j q hq => by
    match j, hq with
    | 0, hq => cases hq; exact hR.1 k o hk
    | j + 1, hq => simp at hq
  have hstep : mD st (fun y r => mD r (fun x r => K0 n ls (.int (Op.cmpValue (FP.dcmp x y) op) :: r) h kc ks)) := hstep
  have hd : decode (mBy M) pc = .ok (.dcmp op, 1) := hd
  have hn : n = pc + 1 := hn
  subst hn
  obtain ⟨y, r, rfl, hs⟩ := mD_s hstep
  obtain ⟨x, r, rfl, hk⟩ := mD_s hs
  exact lv_dcmp hx hb hd (hK0 _ _ _ _ _ _ hk H locs lsA hR hSS hl)
set_option maxHeartbeats 4000000 in
set_option maxRecDepth 100000 in
theorem ei_dup (cx : eCx p l e R s m args below meth c0 D dA base b0 S T C M d Q Fin K0)  {n a b c pc : Nat} {ls : eL} {st : List Value} {h : eH} {kc ks : Nat} {H : Heap} {locs : List Loc} {lsA : Array Slot} (hd : decode (mBy M) pc = .ok (.dup, eLen pc .dup n)) (hn : n = pc + eLen pc .dup n) (hi : eIns M pc .dup a b c = true) (hlk : eLink T M (pc, .dup, n, a, b, c)) (hR : eRH D dA base b0 h H) (hSS : va_S (fun q => base ≤ q) s.heap H locs) (hl : lv_has lsA (mLo M) (eLs base b0 ls)) (hstep : okI S T C M d Q .dup n a b c pc ls st h kc ks K0) : W p l e R s m args below meth c0 H locs kc ks Fin (F0 m pc lsA (st.map (eV base b0))) := by
  have cx0 := cx
  obtain ⟨hK0, hx, hb, hml, hown, hG, hE, hOK, hCl, hCa, hinit, hRf, hRl, hd1, hRc, hRs, htab, hC, hdC, hfin, hout, hthr⟩ := cx0
  have hOK0 := hOK
  obtain ⟨hOKc, hOKl, hOKh⟩ := hOK0
  have hE0 := hE
  obtain ⟨hNG, hStr, hZ1, hZ2, hAO, hK, hAr, hX, hbb, hbs, hNc⟩ := hE0
  have hA : ∀ q : Nat, s.heap.size ≤ q → base ≤ q := va_SA hbs
  have hts : ∀ w ∈ lw_tbl.filter goodWord, w.before args s = true := fun w hw => hG w ⟨(List.mem_filter.mp hw).1, (List.mem_filter.mp hw).2⟩
  have hKy : ∀ t, t ≤ 4 → va_K D vwCl [(dA t, eTyA t)] s := fun t ht => ⟨hK.1, fun k q hq => by
    match k, hq with
    | 0, hq => cases hq; exact hAr t ht
    | k + 1, hq => simp at hq⟩
  have hP1 : ∀ {k : Nat} {o : va_E}, h.2[k]? = some o → va_P D vwCl [(base + k, eZ dA base b0 o)] H := fun {k o} hk j q hq => by
    match j, hq with
    | 0, hq => cases hq; exact hR.1 k o hk
    | j + 1, hq => simp at hq
  have hstep : mV st (fun v r => bif v.category == 1 then K0 n ls (v :: v :: r) h kc ks else False) := hstep
  have hd : decode (mBy M) pc = .ok (.dup, 1) := hd
  have hn : n = pc + 1 := hn
  subst hn
  obtain ⟨v, r, rfl, hs⟩ := mV_s hstep
  obtain ⟨h1, hk⟩ := bif_s hs
  exact lv_dup hx hb hd ((eV_cat base b0 v).trans (eq_of_beq h1)) (hK0 _ _ _ _ _ _ hk H locs lsA hR hSS hl)
set_option maxHeartbeats 4000000 in
set_option maxRecDepth 100000 in
theorem ei_pop (cx : eCx p l e R s m args below meth c0 D dA base b0 S T C M d Q Fin K0)  {n a b c pc : Nat} {ls : eL} {st : List Value} {h : eH} {kc ks : Nat} {H : Heap} {locs : List Loc} {lsA : Array Slot} (hd : decode (mBy M) pc = .ok (.pop, eLen pc .pop n)) (hn : n = pc + eLen pc .pop n) (hi : eIns M pc .pop a b c = true) (hlk : eLink T M (pc, .pop, n, a, b, c)) (hR : eRH D dA base b0 h H) (hSS : va_S (fun q => base ≤ q) s.heap H locs) (hl : lv_has lsA (mLo M) (eLs base b0 ls)) (hstep : okI S T C M d Q .pop n a b c pc ls st h kc ks K0) : W p l e R s m args below meth c0 H locs kc ks Fin (F0 m pc lsA (st.map (eV base b0))) := by
  have cx0 := cx
  obtain ⟨hK0, hx, hb, hml, hown, hG, hE, hOK, hCl, hCa, hinit, hRf, hRl, hd1, hRc, hRs, htab, hC, hdC, hfin, hout, hthr⟩ := cx0
  have hOK0 := hOK
  obtain ⟨hOKc, hOKl, hOKh⟩ := hOK0
  have hE0 := hE
  obtain ⟨hNG, hStr, hZ1, hZ2, hAO, hK, hAr, hX, hbb, hbs, hNc⟩ := hE0
  have hA : ∀ q : Nat, s.heap.size ≤ q → base ≤ q := va_SA hbs
  have hts : ∀ w ∈ lw_tbl.filter goodWord, w.before args s = true := fun w hw => hG w ⟨(List.mem_filter.mp hw).1, (List.mem_filter.mp hw).2⟩
  have hKy : ∀ t, t ≤ 4 → va_K D vwCl [(dA t, eTyA t)] s := fun t ht => ⟨hK.1, fun k q hq => by
    match k, hq with
    | 0, hq => cases hq; exact hAr t ht
    | k + 1, hq => simp at hq⟩
  have hP1 : ∀ {k : Nat} {o : va_E}, h.2[k]? = some o → va_P D vwCl [(base + k, eZ dA base b0 o)] H := fun {k o} hk j q hq => by
    match j, hq with
    | 0, hq => cases hq; exact hR.1 k o hk
    | j + 1, hq => simp at hq
  have hstep : mV st (fun v r => bif v.category == 1 then K0 n ls r h kc ks else False) := hstep
  have hd : decode (mBy M) pc = .ok (.pop, 1) := hd
  have hn : n = pc + 1 := hn
  subst hn
  obtain ⟨v, r, rfl, hs⟩ := mV_s hstep
  obtain ⟨h1, hk⟩ := bif_s hs
  exact lv_pop hx hb hd ((eV_cat base b0 v).trans (eq_of_beq h1)) (hK0 _ _ _ _ _ _ hk H locs lsA hR hSS hl)
set_option maxHeartbeats 4000000 in
set_option maxRecDepth 100000 in
theorem ei_dup2 (cx : eCx p l e R s m args below meth c0 D dA base b0 S T C M d Q Fin K0)  {n a b c pc : Nat} {ls : eL} {st : List Value} {h : eH} {kc ks : Nat} {H : Heap} {locs : List Loc} {lsA : Array Slot} (hd : decode (mBy M) pc = .ok (.dup2, eLen pc .dup2 n)) (hn : n = pc + eLen pc .dup2 n) (hi : eIns M pc .dup2 a b c = true) (hlk : eLink T M (pc, .dup2, n, a, b, c)) (hR : eRH D dA base b0 h H) (hSS : va_S (fun q => base ≤ q) s.heap H locs) (hl : lv_has lsA (mLo M) (eLs base b0 ls)) (hstep : okI S T C M d Q .dup2 n a b c pc ls st h kc ks K0) : W p l e R s m args below meth c0 H locs kc ks Fin (F0 m pc lsA (st.map (eV base b0))) := by
  have cx0 := cx
  obtain ⟨hK0, hx, hb, hml, hown, hG, hE, hOK, hCl, hCa, hinit, hRf, hRl, hd1, hRc, hRs, htab, hC, hdC, hfin, hout, hthr⟩ := cx0
  have hOK0 := hOK
  obtain ⟨hOKc, hOKl, hOKh⟩ := hOK0
  have hE0 := hE
  obtain ⟨hNG, hStr, hZ1, hZ2, hAO, hK, hAr, hX, hbb, hbs, hNc⟩ := hE0
  have hA : ∀ q : Nat, s.heap.size ≤ q → base ≤ q := va_SA hbs
  have hts : ∀ w ∈ lw_tbl.filter goodWord, w.before args s = true := fun w hw => hG w ⟨(List.mem_filter.mp hw).1, (List.mem_filter.mp hw).2⟩
  have hKy : ∀ t, t ≤ 4 → va_K D vwCl [(dA t, eTyA t)] s := fun t ht => ⟨hK.1, fun k q hq => by
    match k, hq with
    | 0, hq => cases hq; exact hAr t ht
    | k + 1, hq => simp at hq⟩
  have hP1 : ∀ {k : Nat} {o : va_E}, h.2[k]? = some o → va_P D vwCl [(base + k, eZ dA base b0 o)] H := fun {k o} hk j q hq => by
    match j, hq with
    | 0, hq => cases hq; exact hR.1 k o hk
    | j + 1, hq => simp at hq
  have hstep : mV st (fun v r => mV r (fun w r => bif v.category == 1 && w.category == 1 then K0 n ls (v :: w :: v :: w :: r) h kc ks else False)) := hstep
  have hd : decode (mBy M) pc = .ok (.dup2, 1) := hd
  have hn : n = pc + 1 := hn
  subst hn
  obtain ⟨v, r, rfl, hs⟩ := mV_s hstep
  obtain ⟨w, r, rfl, hs⟩ := mV_s hs
  obtain ⟨h1, hk⟩ := bif_s hs
  simp only [Bool.and_eq_true, beq_iff_eq] at h1
  exact lv_dup2_11 hx hb hd ((eV_cat base b0 v).trans h1.1) ((eV_cat base b0 w).trans h1.2) (hK0 _ _ _ _ _ _ hk H locs lsA hR hSS hl)
end InsB
end
section
section InsC
variable {p : Program} {l : Launch} {e : Env} {R : Room} {s : State} {m : MethodId} {args : Array Value} {below : List Frame} {meth : Method} {c0 : Code} {Fin : State → Prop}
variable {S : Nat × (Nat → Int32)} {T : Nat → eM} {C : eC} {M : eM} {d : Nat} {Q : eQ} {D : va_G} {dA : Nat → ClassId} {base b0 : Nat} {K0 : eK}
set_option maxHeartbeats 4000000 in
set_option maxRecDepth 100000 in
theorem ei_ifCond (cx : eCx p l e R s m args below meth c0 D dA base b0 S T C M d Q Fin K0) (cd : ClassFile.Cond) (off : Int) {n a b c pc : Nat} {ls : eL} {st : List Value} {h : eH} {kc ks : Nat} {H : Heap} {locs : List Loc} {lsA : Array Slot} (hd : decode (mBy M) pc = .ok ((.ifCond cd off), eLen pc (.ifCond cd off) n)) (hn : n = pc + eLen pc (.ifCond cd off) n) (hi : eIns M pc (.ifCond cd off) a b c = true) (hlk : eLink T M (pc, (.ifCond cd off), n, a, b, c)) (hR : eRH D dA base b0 h H) (hSS : va_S (fun q => base ≤ q) s.heap H locs) (hl : lv_has lsA (mLo M) (eLs base b0 ls)) (hstep : okI S T C M d Q (.ifCond cd off) n a b c pc ls st h kc ks K0) : W p l e R s m args below meth c0 H locs kc ks Fin (F0 m pc lsA (st.map (eV base b0))) := by
  have cx0 := cx
  obtain ⟨hK0, hx, hb, hml, hown, hG, hE, hOK, hCl, hCa, hinit, hRf, hRl, hd1, hRc, hRs, htab, hC, hdC, hfin, hout, hthr⟩ := cx0
  have hOK0 := hOK
  obtain ⟨hOKc, hOKl, hOKh⟩ := hOK0
  have hE0 := hE
  obtain ⟨hNG, hStr, hZ1, hZ2, hAO, hK, hAr, hX, hbb, hbs, hNc⟩ := hE0
  have hA : ∀ q : Nat, s.heap.size ≤ q → base ≤ q := va_SA hbs
  have hts : ∀ w ∈ lw_tbl.filter goodWord, w.before args s = true := fun w hw => hG w ⟨(List.mem_filter.mp hw).1, (List.mem_filter.mp hw).2⟩
  have hKy : ∀ t, t ≤ 4 → va_K D vwCl [(dA t, eTyA t)] s := fun t ht => ⟨hK.1, fun k q hq => by
    match k, hq with
    | 0, hq => cases hq; exact hAr t ht
    | k + 1, hq => simp at hq⟩
  have hP1 : ∀ {k : Nat} {o : va_E}, h.2[k]? = some o → va_P D vwCl [(base + k, eZ dA base b0 o)] H := fun {k o} hk j q hq => by
    match j, hq with
    | 0, hq => cases hq; exact hR.1 k o hk
    | j + 1, hq => simp at hq
  have hd : decode (mBy M) pc = .ok (.ifCond cd off, 3) := hd
  have hn : n = pc + 3 := hn
  subst hn
  have ht : (pc : Int) + off = (a : Int) := of_decide_eq_true hi
  cases cd
  case eq =>
    have hstep : bI (fun x => x = 0) st (fun r => K0 a ls r h kc ks) (fun r => K0 (pc + 3) ls r h kc ks) := hstep
    obtain ⟨x, r, rfl, kt, kf⟩ := bI_s hstep
    exact lv_if_eq hx hb hd ht (fun q => hK0 _ _ _ _ _ _ (kt q) H locs lsA hR hSS hl) (fun q => hK0 _ _ _ _ _ _ (kf q) H locs lsA hR hSS hl)
  case ne =>
    have hstep : bI (fun x => x = 0) st (fun r => K0 (pc + 3) ls r h kc ks) (fun r => K0 a ls r h kc ks) := hstep
    obtain ⟨x, r, rfl, kt, kf⟩ := bI_s hstep
    exact lv_if_ne hx hb hd ht (fun q => hK0 _ _ _ _ _ _ (kf q) H locs lsA hR hSS hl) (fun q => hK0 _ _ _ _ _ _ (kt q) H locs lsA hR hSS hl)
  case lt =>
    have hstep : bI (fun x => x < 0) st (fun r => K0 a ls r h kc ks) (fun r => K0 (pc + 3) ls r h kc ks) := hstep
    obtain ⟨x, r, rfl, kt, kf⟩ := bI_s hstep
    exact lv_if_lt hx hb hd ht (fun q => hK0 _ _ _ _ _ _ (kt q) H locs lsA hR hSS hl) (fun q => hK0 _ _ _ _ _ _ (kf q) H locs lsA hR hSS hl)
  case ge =>
    have hstep : bI (fun x => 0 ≤ x) st (fun r => K0 a ls r h kc ks) (fun r => K0 (pc + 3) ls r h kc ks) := hstep
    obtain ⟨x, r, rfl, kt, kf⟩ := bI_s hstep
    exact lv_if_ge hx hb hd ht (fun q => hK0 _ _ _ _ _ _ (kt q) H locs lsA hR hSS hl) (fun q => hK0 _ _ _ _ _ _ (kf q) H locs lsA hR hSS hl)
  case gt =>
    have hstep : bI (fun x => 0 < x) st (fun r => K0 a ls r h kc ks) (fun r => K0 (pc + 3) ls r h kc ks) := hstep
    obtain ⟨x, r, rfl, kt, kf⟩ := bI_s hstep
    exact lv_if_gt hx hb hd ht (fun q => hK0 _ _ _ _ _ _ (kt q) H locs lsA hR hSS hl) (fun q => hK0 _ _ _ _ _ _ (kf q) H locs lsA hR hSS hl)
  case le =>
    have hstep : bI (fun x => x ≤ 0) st (fun r => K0 a ls r h kc ks) (fun r => K0 (pc + 3) ls r h kc ks) := hstep
    obtain ⟨x, r, rfl, kt, kf⟩ := bI_s hstep
    exact lv_if_le hx hb hd ht (fun q => hK0 _ _ _ _ _ _ (kt q) H locs lsA hR hSS hl) (fun q => hK0 _ _ _ _ _ _ (kf q) H locs lsA hR hSS hl)
set_option maxHeartbeats 4000000 in
set_option maxRecDepth 100000 in
theorem ei_if_icmp (cx : eCx p l e R s m args below meth c0 D dA base b0 S T C M d Q Fin K0) (cd : ClassFile.Cond) (off : Int) {n a b c pc : Nat} {ls : eL} {st : List Value} {h : eH} {kc ks : Nat} {H : Heap} {locs : List Loc} {lsA : Array Slot} (hd : decode (mBy M) pc = .ok ((.if_icmp cd off), eLen pc (.if_icmp cd off) n)) (hn : n = pc + eLen pc (.if_icmp cd off) n) (hi : eIns M pc (.if_icmp cd off) a b c = true) (hlk : eLink T M (pc, (.if_icmp cd off), n, a, b, c)) (hR : eRH D dA base b0 h H) (hSS : va_S (fun q => base ≤ q) s.heap H locs) (hl : lv_has lsA (mLo M) (eLs base b0 ls)) (hstep : okI S T C M d Q (.if_icmp cd off) n a b c pc ls st h kc ks K0) : W p l e R s m args below meth c0 H locs kc ks Fin (F0 m pc lsA (st.map (eV base b0))) := by
  have cx0 := cx
  obtain ⟨hK0, hx, hb, hml, hown, hG, hE, hOK, hCl, hCa, hinit, hRf, hRl, hd1, hRc, hRs, htab, hC, hdC, hfin, hout, hthr⟩ := cx0
  have hOK0 := hOK
  obtain ⟨hOKc, hOKl, hOKh⟩ := hOK0
  have hE0 := hE
  obtain ⟨hNG, hStr, hZ1, hZ2, hAO, hK, hAr, hX, hbb, hbs, hNc⟩ := hE0
  have hA : ∀ q : Nat, s.heap.size ≤ q → base ≤ q := va_SA hbs
  have hts : ∀ w ∈ lw_tbl.filter goodWord, w.before args s = true := fun w hw => hG w ⟨(List.mem_filter.mp hw).1, (List.mem_filter.mp hw).2⟩
  have hKy : ∀ t, t ≤ 4 → va_K D vwCl [(dA t, eTyA t)] s := fun t ht => ⟨hK.1, fun k q hq => by
    match k, hq with
    | 0, hq => cases hq; exact hAr t ht
    | k + 1, hq => simp at hq⟩
  have hP1 : ∀ {k : Nat} {o : va_E}, h.2[k]? = some o → va_P D vwCl [(base + k, eZ dA base b0 o)] H := fun {k o} hk j q hq => by
    match j, hq with
    | 0, hq => cases hq; exact hR.1 k o hk
    | j + 1, hq => simp at hq
  have hd : decode (mBy M) pc = .ok (.if_icmp cd off, 3) := hd
  have hn : n = pc + 3 := hn
  subst hn
  have ht : (pc : Int) + off = (a : Int) := of_decide_eq_true hi
  cases cd
  case eq =>
    have hstep : bII (fun x y => x = y) st (fun r => K0 a ls r h kc ks) (fun r => K0 (pc + 3) ls r h kc ks) := hstep
    obtain ⟨x, y, r, rfl, kt, kf⟩ := bII_s hstep
    exact lv_icmp_eq hx hb hd ht (fun q => hK0 _ _ _ _ _ _ (kt q) H locs lsA hR hSS hl) (fun q => hK0 _ _ _ _ _ _ (kf q) H locs lsA hR hSS hl)
  case ne =>
    have hstep : bII (fun x y => x = y) st (fun r => K0 (pc + 3) ls r h kc ks) (fun r => K0 a ls r h kc ks) := hstep
    obtain ⟨x, y, r, rfl, kt, kf⟩ := bII_s hstep
    exact lv_icmp_ne hx hb hd ht (fun q => hK0 _ _ _ _ _ _ (kf q) H locs lsA hR hSS hl) (fun q => hK0 _ _ _ _ _ _ (kt q) H locs lsA hR hSS hl)
  case lt =>
    have hstep : bII (fun x y => x < y) st (fun r => K0 a ls r h kc ks) (fun r => K0 (pc + 3) ls r h kc ks) := hstep
    obtain ⟨x, y, r, rfl, kt, kf⟩ := bII_s hstep
    exact lv_icmp_lt hx hb hd ht (fun q => hK0 _ _ _ _ _ _ (kt q) H locs lsA hR hSS hl) (fun q => hK0 _ _ _ _ _ _ (kf q) H locs lsA hR hSS hl)
  case ge =>
    have hstep : bII (fun x y => y ≤ x) st (fun r => K0 a ls r h kc ks) (fun r => K0 (pc + 3) ls r h kc ks) := hstep
    obtain ⟨x, y, r, rfl, kt, kf⟩ := bII_s hstep
    exact lv_icmp_ge hx hb hd ht (fun q => hK0 _ _ _ _ _ _ (kt q) H locs lsA hR hSS hl) (fun q => hK0 _ _ _ _ _ _ (kf q) H locs lsA hR hSS hl)
  case gt =>
    have hstep : bII (fun x y => y < x) st (fun r => K0 a ls r h kc ks) (fun r => K0 (pc + 3) ls r h kc ks) := hstep
    obtain ⟨x, y, r, rfl, kt, kf⟩ := bII_s hstep
    exact lv_icmp_gt hx hb hd ht (fun q => hK0 _ _ _ _ _ _ (kt q) H locs lsA hR hSS hl) (fun q => hK0 _ _ _ _ _ _ (kf q) H locs lsA hR hSS hl)
  case le =>
    have hstep : bII (fun x y => x ≤ y) st (fun r => K0 a ls r h kc ks) (fun r => K0 (pc + 3) ls r h kc ks) := hstep
    obtain ⟨x, y, r, rfl, kt, kf⟩ := bII_s hstep
    exact lv_icmp_le hx hb hd ht (fun q => hK0 _ _ _ _ _ _ (kt q) H locs lsA hR hSS hl) (fun q => hK0 _ _ _ _ _ _ (kf q) H locs lsA hR hSS hl)
set_option maxHeartbeats 4000000 in
set_option maxRecDepth 100000 in
theorem ei_goto (cx : eCx p l e R s m args below meth c0 D dA base b0 S T C M d Q Fin K0) (off : Int) {n a b c pc : Nat} {ls : eL} {st : List Value} {h : eH} {kc ks : Nat} {H : Heap} {locs : List Loc} {lsA : Array Slot} (hd : decode (mBy M) pc = .ok ((.goto off), eLen pc (.goto off) n)) (hn : n = pc + eLen pc (.goto off) n) (hi : eIns M pc (.goto off) a b c = true) (hlk : eLink T M (pc, (.goto off), n, a, b, c)) (hR : eRH D dA base b0 h H) (hSS : va_S (fun q => base ≤ q) s.heap H locs) (hl : lv_has lsA (mLo M) (eLs base b0 ls)) (hstep : okI S T C M d Q (.goto off) n a b c pc ls st h kc ks K0) : W p l e R s m args below meth c0 H locs kc ks Fin (F0 m pc lsA (st.map (eV base b0))) := by
  have cx0 := cx
  obtain ⟨hK0, hx, hb, hml, hown, hG, hE, hOK, hCl, hCa, hinit, hRf, hRl, hd1, hRc, hRs, htab, hC, hdC, hfin, hout, hthr⟩ := cx0
  have hOK0 := hOK
  obtain ⟨hOKc, hOKl, hOKh⟩ := hOK0
  have hE0 := hE
  obtain ⟨hNG, hStr, hZ1, hZ2, hAO, hK, hAr, hX, hbb, hbs, hNc⟩ := hE0
  have hA : ∀ q : Nat, s.heap.size ≤ q → base ≤ q := va_SA hbs
  have hts : ∀ w ∈ lw_tbl.filter goodWord, w.before args s = true := fun w hw => hG w ⟨(List.mem_filter.mp hw).1, (List.mem_filter.mp hw).2⟩
  have hKy : ∀ t, t ≤ 4 → va_K D vwCl [(dA t, eTyA t)] s := fun t ht => ⟨hK.1, fun k q hq => by
    match k, hq with
    | 0, hq => cases hq; exact hAr t ht
    | k + 1, hq => simp at hq⟩
  have hP1 : ∀ {k : Nat} {o : va_E}, h.2[k]? = some o → va_P D vwCl [(base + k, eZ dA base b0 o)] H := fun {k o} hk j q hq => by
    match j, hq with
    | 0, hq => cases hq; exact hR.1 k o hk
    | j + 1, hq => simp at hq
  have hstep : K0 a ls st h kc ks := hstep
  have hd : decode (mBy M) pc = .ok (.goto off, 3) := hd
  have hn : n = pc + 3 := hn
  subst hn
  have ht : (pc : Int) + off = (a : Int) := of_decide_eq_true hi
  have hstep : K0 a ls st h kc ks := hstep
  exact lv_goto hx hb hd ht (hK0 _ _ _ _ _ _ hstep H locs lsA hR hSS hl)
set_option maxHeartbeats 4000000 in
set_option maxRecDepth 100000 in
theorem ei_tableswitch (cx : eCx p l e R s m args below meth c0 D dA base b0 S T C M d Q Fin K0) (dflt lo hi9 : Int) (offs : Array Int) {n a b c pc : Nat} {ls : eL} {st : List Value} {h : eH} {kc ks : Nat} {H : Heap} {locs : List Loc} {lsA : Array Slot} (hd : decode (mBy M) pc = .ok ((.tableswitch dflt lo hi9 offs), eLen pc (.tableswitch dflt lo hi9 offs) n)) (hn : n = pc + eLen pc (.tableswitch dflt lo hi9 offs) n) (hi : eIns M pc (.tableswitch dflt lo hi9 offs) a b c = true) (hlk : eLink T M (pc, (.tableswitch dflt lo hi9 offs), n, a, b, c)) (hR : eRH D dA base b0 h H) (hSS : va_S (fun q => base ≤ q) s.heap H locs) (hl : lv_has lsA (mLo M) (eLs base b0 ls)) (hstep : okI S T C M d Q (.tableswitch dflt lo hi9 offs) n a b c pc ls st h kc ks K0) : W p l e R s m args below meth c0 H locs kc ks Fin (F0 m pc lsA (st.map (eV base b0))) := by
  have cx0 := cx
  obtain ⟨hK0, hx, hb, hml, hown, hG, hE, hOK, hCl, hCa, hinit, hRf, hRl, hd1, hRc, hRs, htab, hC, hdC, hfin, hout, hthr⟩ := cx0
  have hOK0 := hOK
  obtain ⟨hOKc, hOKl, hOKh⟩ := hOK0
  have hE0 := hE
  obtain ⟨hNG, hStr, hZ1, hZ2, hAO, hK, hAr, hX, hbb, hbs, hNc⟩ := hE0
  have hA : ∀ q : Nat, s.heap.size ≤ q → base ≤ q := va_SA hbs
  have hts : ∀ w ∈ lw_tbl.filter goodWord, w.before args s = true := fun w hw => hG w ⟨(List.mem_filter.mp hw).1, (List.mem_filter.mp hw).2⟩
  have hKy : ∀ t, t ≤ 4 → va_K D vwCl [(dA t, eTyA t)] s := fun t ht => ⟨hK.1, fun k q hq => by
    match k, hq with
    | 0, hq => cases hq; exact hAr t ht
    | k + 1, hq => simp at hq⟩
  have hP1 : ∀ {k : Nat} {o : va_E}, h.2[k]? = some o → va_P D vwCl [(base + k, eZ dA base b0 o)] H := fun {k o} hk j q hq => by
    match j, hq with
    | 0, hq => cases hq; exact hR.1 k o hk
    | j + 1, hq => simp at hq
  have hstep : mI st (fun x r => (x.toInt < lo ∨ hi9 < x.toInt → K0 a ls r h kc ks) ∧ (∀ (j : Nat) (off : Int) (t : Nat), ¬ x.toInt < lo → ¬ hi9 < x.toInt → (x.toInt - lo).toNat = j → offs[j]? = some off → (pc : Int) + off = (t : Int) → K0 t ls r h kc ks)) := hstep
  have ht : (pc : Int) + dflt = (a : Int) := of_decide_eq_true hi
  obtain ⟨x, r, rfl, k1, k2⟩ := mI_s hstep
  by_cases hx1 : x.toInt < lo ∨ hi9 < x.toInt
  · exact lv_tableOut hx hb hd hx1 ht (hK0 _ _ _ _ _ _ (k1 hx1) H locs lsA hR hSS hl)
  · have hx2 : ¬ x.toInt < lo := fun q => hx1 (Or.inl q)
    have hx3 : ¬ hi9 < x.toInt := fun q => hx1 (Or.inr q)
    have hlk9 : offs.size = (hi9 - lo + 1).toNat ∧ ∀ off ∈ offs.toList, 0 ≤ (pc : Int) + off := hlk
    obtain ⟨off, ho⟩ : ∃ off, offs[(x.toInt - lo).toNat]? = some off := ⟨_, Array.getElem?_eq_getElem (by rw [hlk9.1]; omega)⟩
    obtain ⟨t9, ht9⟩ : ∃ t : Nat, (pc : Int) + off = (t : Int) := ⟨((pc : Int) + off).toNat, (Int.toNat_of_nonneg (hlk9.2 off (Array.mem_toList_iff.mpr (Array.mem_of_getElem? ho)))).symm⟩
    exact lv_tableIn hx hb hd hx2 hx3 ho ht9 (hK0 _ _ _ _ _ _ (k2 _ off t9 hx2 hx3 rfl ho ht9) H locs lsA hR hSS hl)
set_option maxHeartbeats 4000000 in
set_option maxRecDepth 100000 in
theorem ei_getfield (cx : eCx p l e R s m args below meth c0 D dA base b0 S T C M d Q Fin K0) (x9 : Nat) {n a b c pc : Nat} {ls : eL} {st : List Value} {h : eH} {kc ks : Nat} {H : Heap} {locs : List Loc} {lsA : Array Slot} (hd : decode (mBy M) pc = .ok ((.getfield x9), eLen pc (.getfield x9) n)) (hn : n = pc + eLen pc (.getfield x9) n) (hi : eIns M pc (.getfield x9) a b c = true) (hlk : eLink T M (pc, (.getfield x9), n, a, b, c)) (hR : eRH D dA base b0 h H) (hSS : va_S (fun q => base ≤ q) s.heap H locs) (hl : lv_has lsA (mLo M) (eLs base b0 ls)) (hstep : okI S T C M d Q (.getfield x9) n a b c pc ls st h kc ks K0) : W p l e R s m args below meth c0 H locs kc ks Fin (F0 m pc lsA (st.map (eV base b0))) := by
  have cx0 := cx
  obtain ⟨hK0, hx, hb, hml, hown, hG, hE, hOK, hCl, hCa, hinit, hRf, hRl, hd1, hRc, hRs, htab, hC, hdC, hfin, hout, hthr⟩ := cx0
  have hOK0 := hOK
  obtain ⟨hOKc, hOKl, hOKh⟩ := hOK0
  have hE0 := hE
  obtain ⟨hNG, hStr, hZ1, hZ2, hAO, hK, hAr, hX, hbb, hbs, hNc⟩ := hE0
  have hA : ∀ q : Nat, s.heap.size ≤ q → base ≤ q := va_SA hbs
  have hts : ∀ w ∈ lw_tbl.filter goodWord, w.before args s = true := fun w hw => hG w ⟨(List.mem_filter.mp hw).1, (List.mem_filter.mp hw).2⟩
  have hKy : ∀ t, t ≤ 4 → va_K D vwCl [(dA t, eTyA t)] s := fun t ht => ⟨hK.1, fun k q hq => by
    match k, hq with
    | 0, hq => cases hq; exact hAr t ht
    | k + 1, hq => simp at hq⟩
  have hP1 : ∀ {k : Nat} {o : va_E}, h.2[k]? = some o → va_P D vwCl [(base + k, eZ dA base b0 o)] H := fun {k o} hk j q hq => by
    match j, hq with
    | 0, hq => cases hq; exact hR.1 k o hk
    | j + 1, hq => simp at hq
  have hstep : mR st (fun q r => mO q (fun q => ∃ (fs : List Value) (v : Value), h.2[q]? = some (.inr (a, fs)) ∧ fs[b]? = some v ∧ K0 n ls (v :: r) h kc ks)) := hstep
  have hd : decode (mBy M) pc = .ok (.getfield x9, 3) := hd
  have hn : n = pc + 3 := hn
  subst hn
  obtain ⟨q, r, rfl, hs⟩ := mR_s hstep
  obtain ⟨q, rfl, hs⟩ := mO_s hs
  obtain ⟨fs, v, hq, hv, hk⟩ := hs
  obtain ⟨CN, TT, NN, hvc, hbN, hw⟩ := hlk
  have hcls := hCl _ (List.mem_of_getElem? hvc)
  exact va_get (D := D) (ws := [(base + q, eZ dA base b0 (.inr (a, fs)))]) hx hb hts (fun w hw9 => List.mem_filter.mpr ⟨(hcls.1 w hw9).1, (hcls.1 w hw9).2⟩) hown hK (hP1 hq) 0 rfl hvc b hbN (hG _ hw) (fun _ h9 => h9) (v := eV base b0 v) (by rw [List.getElem?_map, hv]; rfl) hd (hK0 _ _ _ _ _ _ hk H locs lsA hR hSS hl)
set_option maxHeartbeats 4000000 in
set_option maxRecDepth 100000 in
theorem ei_putfield (cx : eCx p l e R s m args below meth c0 D dA base b0 S T C M d Q Fin K0) (x9 : Nat) {n a b c pc : Nat} {ls : eL} {st : List Value} {h : eH} {kc ks : Nat} {H : Heap} {locs : List Loc} {lsA : Array Slot} (hd : decode (mBy M) pc = .ok ((.putfield x9), eLen pc (.putfield x9) n)) (hn : n = pc + eLen pc (.putfield x9) n) (hi : eIns M pc (.putfield x9) a b c = true) (hlk : eLink T M (pc, (.putfield x9), n, a, b, c)) (hR : eRH D dA base b0 h H) (hSS : va_S (fun q => base ≤ q) s.heap H locs) (hl : lv_has lsA (mLo M) (eLs base b0 ls)) (hstep : okI S T C M d Q (.putfield x9) n a b c pc ls st h kc ks K0) : W p l e R s m args below meth c0 H locs kc ks Fin (F0 m pc lsA (st.map (eV base b0))) := by
  have cx0 := cx
  obtain ⟨hK0, hx, hb, hml, hown, hG, hE, hOK, hCl, hCa, hinit, hRf, hRl, hd1, hRc, hRs, htab, hC, hdC, hfin, hout, hthr⟩ := cx0
  have hOK0 := hOK
  obtain ⟨hOKc, hOKl, hOKh⟩ := hOK0
  have hE0 := hE
  obtain ⟨hNG, hStr, hZ1, hZ2, hAO, hK, hAr, hX, hbb, hbs, hNc⟩ := hE0
  have hA : ∀ q : Nat, s.heap.size ≤ q → base ≤ q := va_SA hbs
  have hts : ∀ w ∈ lw_tbl.filter goodWord, w.before args s = true := fun w hw => hG w ⟨(List.mem_filter.mp hw).1, (List.mem_filter.mp hw).2⟩
  have hKy : ∀ t, t ≤ 4 → va_K D vwCl [(dA t, eTyA t)] s := fun t ht => ⟨hK.1, fun k q hq => by
    match k, hq with
    | 0, hq => cases hq; exact hAr t ht
    | k + 1, hq => simp at hq⟩
  have hP1 : ∀ {k : Nat} {o : va_E}, h.2[k]? = some o → va_P D vwCl [(base + k, eZ dA base b0 o)] H := fun {k o} hk j q hq => by
    match j, hq with
    | 0, hq => cases hq; exact hR.1 k o hk
    | j + 1, hq => simp at hq
  have hstep : mV st (fun v r => mR r (fun q r => mO q (fun q => bif eTy (eFty a b) v then ∃ (fs : List Value), h.2[q]? = some (.inr (a, fs)) ∧ Nat.blt b fs.length = true ∧ K0 n ls r (h.1, h.2.set q (.inr (a, fs.set b v))) kc ks else False))) := hstep
  have hd : decode (mBy M) pc = .ok (.putfield x9, 3) := hd
  have hn : n = pc + 3 := hn
  subst hn
  obtain ⟨v, r, rfl, hs⟩ := mV_s hstep
  obtain ⟨q, r, rfl, hs⟩ := mR_s hs
  obtain ⟨q, rfl, hs⟩ := mO_s hs
  obtain ⟨hty, fs, hq, hlen, hk⟩ := bif_s hs
  obtain ⟨CN, TT, NN, hvc, hbN, hw, hfin9⟩ := hlk
  have hcls := hCl _ (List.mem_of_getElem? hvc)
  obtain ⟨-, -, hpf, -⟩ := eNew_ok _ _ _ _ hvc
  obtain ⟨hnw, hft⟩ := eTy_ok base b0 hty
  exact e_put hx hb hts (fun w hw9 => List.mem_filter.mpr ⟨(hcls.1 w hw9).1, (hcls.1 w hw9).2⟩) (eFty a) hpf hcls.2 hown hK hR hSS hq hvc b hbN (hG _ hw) (fun h9 => ⟨hinit.trans (hfin9 h9).1, (hfin9 h9).2⟩) (hpf b hbN) hnw hft (Nat.le_of_ble_eq_true hlen) hd (fun H1 locs1 hR1 hS1 => hK0 _ _ _ _ _ _ hk H1 locs1 lsA hR1 hS1 hl)
set_option maxHeartbeats 4000000 in
set_option maxRecDepth 100000 in
theorem ei_arraylength (cx : eCx p l e R s m args below meth c0 D dA base b0 S T C M d Q Fin K0)  {n a b c pc : Nat} {ls : eL} {st : List Value} {h : eH} {kc ks : Nat} {H : Heap} {locs : List Loc} {lsA : Array Slot} (hd : decode (mBy M) pc = .ok (.arraylength, eLen pc .arraylength n)) (hn : n = pc + eLen pc .arraylength n) (hi : eIns M pc .arraylength a b c = true) (hlk : eLink T M (pc, .arraylength, n, a, b, c)) (hR : eRH D dA base b0 h H) (hSS : va_S (fun q => base ≤ q) s.heap H locs) (hl : lv_has lsA (mLo M) (eLs base b0 ls)) (hstep : okI S T C M d Q .arraylength n a b c pc ls st h kc ks K0) : W p l e R s m args below meth c0 H locs kc ks Fin (F0 m pc lsA (st.map (eV base b0))) := by
  have cx0 := cx
  obtain ⟨hK0, hx, hb, hml, hown, hG, hE, hOK, hCl, hCa, hinit, hRf, hRl, hd1, hRc, hRs, htab, hC, hdC, hfin, hout, hthr⟩ := cx0
  have hOK0 := hOK
  obtain ⟨hOKc, hOKl, hOKh⟩ := hOK0
  have hE0 := hE
  obtain ⟨hNG, hStr, hZ1, hZ2, hAO, hK, hAr, hX, hbb, hbs, hNc⟩ := hE0
  have hA : ∀ q : Nat, s.heap.size ≤ q → base ≤ q := va_SA hbs
  have hts : ∀ w ∈ lw_tbl.filter goodWord, w.before args s = true := fun w hw => hG w ⟨(List.mem_filter.mp hw).1, (List.mem_filter.mp hw).2⟩
  have hKy : ∀ t, t ≤ 4 → va_K D vwCl [(dA t, eTyA t)] s := fun t ht => ⟨hK.1, fun k q hq => by
    match k, hq with
    | 0, hq => cases hq; exact hAr t ht
    | k + 1, hq => simp at hq⟩
  have hP1 : ∀ {k : Nat} {o : va_E}, h.2[k]? = some o → va_P D vwCl [(base + k, eZ dA base b0 o)] H := fun {k o} hk j q hq => by
    match j, hq with
    | 0, hq => cases hq; exact hR.1 k o hk
    | j + 1, hq => simp at hq
  have hstep : mR st (fun q r => match q with
    | 0 => K0 n ls (.int (Int32.ofNat S.1) :: r) h kc ks
    | q + 1 => ∃ (t : Nat) (x : vp_A), h.2[q]? = some (.inl (t, x)) ∧ t ≤ 4 ∧ K0 n ls (.int (Int32.ofNat x.1) :: r) h kc ks) := hstep
  have hd : decode (mBy M) pc = .ok (.arraylength, 1) := hd
  have hn : n = pc + 1 := hn
  subst hn
  obtain ⟨q, r, rfl, hs⟩ := mR_s hstep
  cases q with
  | zero => exact va_slen hx hb hX (Nat.lt_of_lt_of_le hbb hbs) (Nat.not_le.mpr hbb) hSS hd (hK0 _ _ _ _ _ _ hs H locs lsA hR hSS hl)
  | succ q =>
    obtain ⟨t, x, hq, ht, hk⟩ := hs
    obtain ⟨nn, x⟩ := x
    exact va_alen (D := D) (ws := [(base + q, eZ dA base b0 (.inl (t, nn, x)))]) (tys := [(dA t, eTyA t)]) hx hb (hKy t ht) (hP1 hq) 0 0 rfl rfl rfl hd (hK0 _ _ _ _ _ _ hk H locs lsA hR hSS hl)
set_option maxHeartbeats 4000000 in
set_option maxRecDepth 100000 in
theorem ei_iaload (cx : eCx p l e R s m args below meth c0 D dA base b0 S T C M d Q Fin K0)  {n a b c pc : Nat} {ls : eL} {st : List Value} {h : eH} {kc ks : Nat} {H : Heap} {locs : List Loc} {lsA : Array Slot} (hd : decode (mBy M) pc = .ok (.iaload, eLen pc .iaload n)) (hn : n = pc + eLen pc .iaload n) (hi : eIns M pc .iaload a b c = true) (hlk : eLink T M (pc, .iaload, n, a, b, c)) (hR : eRH D dA base b0 h H) (hSS : va_S (fun q => base ≤ q) s.heap H locs) (hl : lv_has lsA (mLo M) (eLs base b0 ls)) (hstep : okI S T C M d Q .iaload n a b c pc ls st h kc ks K0) : W p l e R s m args below meth c0 H locs kc ks Fin (F0 m pc lsA (st.map (eV base b0))) := by
  have cx0 := cx
  obtain ⟨hK0, hx, hb, hml, hown, hG, hE, hOK, hCl, hCa, hinit, hRf, hRl, hd1, hRc, hRs, htab, hC, hdC, hfin, hout, hthr⟩ := cx0
  have hOK0 := hOK
  obtain ⟨hOKc, hOKl, hOKh⟩ := hOK0
  have hE0 := hE
  obtain ⟨hNG, hStr, hZ1, hZ2, hAO, hK, hAr, hX, hbb, hbs, hNc⟩ := hE0
  have hA : ∀ q : Nat, s.heap.size ≤ q → base ≤ q := va_SA hbs
  have hts : ∀ w ∈ lw_tbl.filter goodWord, w.before args s = true := fun w hw => hG w ⟨(List.mem_filter.mp hw).1, (List.mem_filter.mp hw).2⟩
  have hKy : ∀ t, t ≤ 4 → va_K D vwCl [(dA t, eTyA t)] s := fun t ht => ⟨hK.1, fun k q hq => by
    match k, hq with
    | 0, hq => cases hq; exact hAr t ht
    | k + 1, hq => simp at hq⟩
  have hP1 : ∀ {k : Nat} {o : va_E}, h.2[k]? = some o → va_P D vwCl [(base + k, eZ dA base b0 o)] H := fun {k o} hk j q hq => by
    match j, hq with
    | 0, hq => cases hq; exact hR.1 k o hk
    | j + 1, hq => simp at hq
  have hstep : mI st (fun j r => mR r (fun q r => match q with
    | 0 => vp_in j S.1 ∧ K0 n ls (.int (S.2 j.toNatClampNeg) :: r) h kc ks
    | q + 1 => ∃ (N : Nat) (f : Nat → Int32), h.2[q]? = some (.inl (0, N, .inl f)) ∧ vp_in j N ∧ K0 n ls (.int (f j.toNatClampNeg) :: r) h kc ks)) := hstep
  have hd : decode (mBy M) pc = .ok (.iaload, 1) := hd
  have hn : n = pc + 1 := hn
  subst hn
  obtain ⟨j, r, rfl, hs⟩ := mI_s hstep
  obtain ⟨q, r, rfl, hs⟩ := mR_s hs
  cases q with
  | zero =>
    obtain ⟨hv, hk⟩ := hs
    exact va_sld hx hb hX (Nat.lt_of_lt_of_le hbb hbs) (Nat.not_le.mpr hbb) hSS hv hd (hK0 _ _ _ _ _ _ hk H locs lsA hR hSS hl)
  | succ q =>
    obtain ⟨N, f, hq, hv, hk⟩ := hs
    exact va_iald (D := D) (ws := [(base + q, eZ dA base b0 (.inl (0, N, .inl f)))]) (tys := [(dA 0, eTyA 0)]) hx hb (hKy 0 (by decide)) (hP1 hq) 0 0 rfl rfl hv hd (hK0 _ _ _ _ _ _ hk H locs lsA hR hSS hl)
set_option maxHeartbeats 4000000 in
set_option maxRecDepth 100000 in
theorem ei_baload (cx : eCx p l e R s m args below meth c0 D dA base b0 S T C M d Q Fin K0)  {n a b c pc : Nat} {ls : eL} {st : List Value} {h : eH} {kc ks : Nat} {H : Heap} {locs : List Loc} {lsA : Array Slot} (hd : decode (mBy M) pc = .ok (.baload, eLen pc .baload n)) (hn : n = pc + eLen pc .baload n) (hi : eIns M pc .baload a b c = true) (hlk : eLink T M (pc, .baload, n, a, b, c)) (hR : eRH D dA base b0 h H) (hSS : va_S (fun q => base ≤ q) s.heap H locs) (hl : lv_has lsA (mLo M) (eLs base b0 ls)) (hstep : okI S T C M d Q .baload n a b c pc ls st h kc ks K0) : W p l e R s m args below meth c0 H locs kc ks Fin (F0 m pc lsA (st.map (eV base b0))) := by
  have cx0 := cx
  obtain ⟨hK0, hx, hb, hml, hown, hG, hE, hOK, hCl, hCa, hinit, hRf, hRl, hd1, hRc, hRs, htab, hC, hdC, hfin, hout, hthr⟩ := cx0
  have hOK0 := hOK
  obtain ⟨hOKc, hOKl, hOKh⟩ := hOK0
  have hE0 := hE
  obtain ⟨hNG, hStr, hZ1, hZ2, hAO, hK, hAr, hX, hbb, hbs, hNc⟩ := hE0
  have hA : ∀ q : Nat, s.heap.size ≤ q → base ≤ q := va_SA hbs
  have hts : ∀ w ∈ lw_tbl.filter goodWord, w.before args s = true := fun w hw => hG w ⟨(List.mem_filter.mp hw).1, (List.mem_filter.mp hw).2⟩
  have hKy : ∀ t, t ≤ 4 → va_K D vwCl [(dA t, eTyA t)] s := fun t ht => ⟨hK.1, fun k q hq => by
    match k, hq with
    | 0, hq => cases hq; exact hAr t ht
    | k + 1, hq => simp at hq⟩
  have hP1 : ∀ {k : Nat} {o : va_E}, h.2[k]? = some o → va_P D vwCl [(base + k, eZ dA base b0 o)] H := fun {k o} hk j q hq => by
    match j, hq with
    | 0, hq => cases hq; exact hR.1 k o hk
    | j + 1, hq => simp at hq
  have hstep : mI st (fun j r => mR r (fun q r => mO q (fun q => ∃ (N : Nat) (f : Nat → Int32), h.2[q]? = some (.inl (1, N, .inl f)) ∧ vp_in j N ∧ K0 n ls (.int (f j.toNatClampNeg) :: r) h kc ks))) := hstep
  have hd : decode (mBy M) pc = .ok (.baload, 1) := hd
  have hn : n = pc + 1 := hn
  subst hn
  obtain ⟨j, r, rfl, hs⟩ := mI_s hstep
  obtain ⟨q, r, rfl, hs⟩ := mR_s hs
  obtain ⟨q, rfl, hs⟩ := mO_s hs
  obtain ⟨N, f, hq, hv, hk⟩ := hs
  exact va_zald (D := D) (ws := [(base + q, eZ dA base b0 (.inl (1, N, .inl f)))]) (tys := [(dA 1, eTyA 1)]) hx hb (hKy 1 (by decide)) (hP1 hq) 0 0 rfl rfl hv hd (hK0 _ _ _ _ _ _ hk H locs lsA hR hSS hl)
set_option maxHeartbeats 4000000 in
set_option maxRecDepth 100000 in
theorem ei_laload (cx : eCx p l e R s m args below meth c0 D dA base b0 S T C M d Q Fin K0)  {n a b c pc : Nat} {ls : eL} {st : List Value} {h : eH} {kc ks : Nat} {H : Heap} {locs : List Loc} {lsA : Array Slot} (hd : decode (mBy M) pc = .ok (.laload, eLen pc .laload n)) (hn : n = pc + eLen pc .laload n) (hi : eIns M pc .laload a b c = true) (hlk : eLink T M (pc, .laload, n, a, b, c)) (hR : eRH D dA base b0 h H) (hSS : va_S (fun q => base ≤ q) s.heap H locs) (hl : lv_has lsA (mLo M) (eLs base b0 ls)) (hstep : okI S T C M d Q .laload n a b c pc ls st h kc ks K0) : W p l e R s m args below meth c0 H locs kc ks Fin (F0 m pc lsA (st.map (eV base b0))) := by
  have cx0 := cx
  obtain ⟨hK0, hx, hb, hml, hown, hG, hE, hOK, hCl, hCa, hinit, hRf, hRl, hd1, hRc, hRs, htab, hC, hdC, hfin, hout, hthr⟩ := cx0
  have hOK0 := hOK
  obtain ⟨hOKc, hOKl, hOKh⟩ := hOK0
  have hE0 := hE
  obtain ⟨hNG, hStr, hZ1, hZ2, hAO, hK, hAr, hX, hbb, hbs, hNc⟩ := hE0
  have hA : ∀ q : Nat, s.heap.size ≤ q → base ≤ q := va_SA hbs
  have hts : ∀ w ∈ lw_tbl.filter goodWord, w.before args s = true := fun w hw => hG w ⟨(List.mem_filter.mp hw).1, (List.mem_filter.mp hw).2⟩
  have hKy : ∀ t, t ≤ 4 → va_K D vwCl [(dA t, eTyA t)] s := fun t ht => ⟨hK.1, fun k q hq => by
    match k, hq with
    | 0, hq => cases hq; exact hAr t ht
    | k + 1, hq => simp at hq⟩
  have hP1 : ∀ {k : Nat} {o : va_E}, h.2[k]? = some o → va_P D vwCl [(base + k, eZ dA base b0 o)] H := fun {k o} hk j q hq => by
    match j, hq with
    | 0, hq => cases hq; exact hR.1 k o hk
    | j + 1, hq => simp at hq
  have hstep : mI st (fun j r => mR r (fun q r => mO q (fun q => ∃ (N : Nat) (f : Nat → Int64), h.2[q]? = some (.inl (2, N, .inr (.inl f))) ∧ vp_in j N ∧ K0 n ls (.long (f j.toNatClampNeg) :: r) h kc ks))) := hstep
  have hd : decode (mBy M) pc = .ok (.laload, 1) := hd
  have hn : n = pc + 1 := hn
  subst hn
  obtain ⟨j, r, rfl, hs⟩ := mI_s hstep
  obtain ⟨q, r, rfl, hs⟩ := mR_s hs
  obtain ⟨q, rfl, hs⟩ := mO_s hs
  obtain ⟨N, f, hq, hv, hk⟩ := hs
  exact va_lald (D := D) (ws := [(base + q, eZ dA base b0 (.inl (2, N, .inr (.inl f))))]) (tys := [(dA 2, eTyA 2)]) hx hb (hKy 2 (by decide)) (hP1 hq) 0 0 rfl rfl hv hd (hK0 _ _ _ _ _ _ hk H locs lsA hR hSS hl)
set_option maxHeartbeats 4000000 in
set_option maxRecDepth 100000 in
theorem ei_daload (cx : eCx p l e R s m args below meth c0 D dA base b0 S T C M d Q Fin K0)  {n a b c pc : Nat} {ls : eL} {st : List Value} {h : eH} {kc ks : Nat} {H : Heap} {locs : List Loc} {lsA : Array Slot} (hd : decode (mBy M) pc = .ok (.daload, eLen pc .daload n)) (hn : n = pc + eLen pc .daload n) (hi : eIns M pc .daload a b c = true) (hlk : eLink T M (pc, .daload, n, a, b, c)) (hR : eRH D dA base b0 h H) (hSS : va_S (fun q => base ≤ q) s.heap H locs) (hl : lv_has lsA (mLo M) (eLs base b0 ls)) (hstep : okI S T C M d Q .daload n a b c pc ls st h kc ks K0) : W p l e R s m args below meth c0 H locs kc ks Fin (F0 m pc lsA (st.map (eV base b0))) := by
  have cx0 := cx
  obtain ⟨hK0, hx, hb, hml, hown, hG, hE, hOK, hCl, hCa, hinit, hRf, hRl, hd1, hRc, hRs, htab, hC, hdC, hfin, hout, hthr⟩ := cx0
  have hOK0 := hOK
  obtain ⟨hOKc, hOKl, hOKh⟩ := hOK0
  have hE0 := hE
  obtain ⟨hNG, hStr, hZ1, hZ2, hAO, hK, hAr, hX, hbb, hbs, hNc⟩ := hE0
  have hA : ∀ q : Nat, s.heap.size ≤ q → base ≤ q := va_SA hbs
  have hts : ∀ w ∈ lw_tbl.filter goodWord, w.before args s = true := fun w hw => hG w ⟨(List.mem_filter.mp hw).1, (List.mem_filter.mp hw).2⟩
  have hKy : ∀ t, t ≤ 4 → va_K D vwCl [(dA t, eTyA t)] s := fun t ht => ⟨hK.1, fun k q hq => by
    match k, hq with
    | 0, hq => cases hq; exact hAr t ht
    | k + 1, hq => simp at hq⟩
  have hP1 : ∀ {k : Nat} {o : va_E}, h.2[k]? = some o → va_P D vwCl [(base + k, eZ dA base b0 o)] H := fun {k o} hk j q hq => by
    match j, hq with
    | 0, hq => cases hq; exact hR.1 k o hk
    | j + 1, hq => simp at hq
  have hstep : mI st (fun j r => mR r (fun q r => mO q (fun q => ∃ (N : Nat) (f : Nat → UInt64), h.2[q]? = some (.inl (3, N, .inr (.inr (.inr (.inl f))))) ∧ vp_in j N ∧ K0 n ls (.double (f j.toNatClampNeg) :: r) h kc ks))) := hstep
  have hd : decode (mBy M) pc = .ok (.daload, 1) := hd
  have hn : n = pc + 1 := hn
  subst hn
  obtain ⟨j, r, rfl, hs⟩ := mI_s hstep
  obtain ⟨q, r, rfl, hs⟩ := mR_s hs
  obtain ⟨q, rfl, hs⟩ := mO_s hs
  obtain ⟨N, f, hq, hv, hk⟩ := hs
  exact va_dald (D := D) (ws := [(base + q, eZ dA base b0 (.inl (3, N, .inr (.inr (.inr (.inl f))))))]) (tys := [(dA 3, eTyA 3)]) hx hb (hKy 3 (by decide)) (hP1 hq) 0 0 rfl rfl hv hd (hK0 _ _ _ _ _ _ hk H locs lsA hR hSS hl)
set_option maxHeartbeats 4000000 in
set_option maxRecDepth 100000 in
theorem ei_aaload (cx : eCx p l e R s m args below meth c0 D dA base b0 S T C M d Q Fin K0)  {n a b c pc : Nat} {ls : eL} {st : List Value} {h : eH} {kc ks : Nat} {H : Heap} {locs : List Loc} {lsA : Array Slot} (hd : decode (mBy M) pc = .ok (.aaload, eLen pc .aaload n)) (hn : n = pc + eLen pc .aaload n) (hi : eIns M pc .aaload a b c = true) (hlk : eLink T M (pc, .aaload, n, a, b, c)) (hR : eRH D dA base b0 h H) (hSS : va_S (fun q => base ≤ q) s.heap H locs) (hl : lv_has lsA (mLo M) (eLs base b0 ls)) (hstep : okI S T C M d Q .aaload n a b c pc ls st h kc ks K0) : W p l e R s m args below meth c0 H locs kc ks Fin (F0 m pc lsA (st.map (eV base b0))) := by
  have cx0 := cx
  obtain ⟨hK0, hx, hb, hml, hown, hG, hE, hOK, hCl, hCa, hinit, hRf, hRl, hd1, hRc, hRs, htab, hC, hdC, hfin, hout, hthr⟩ := cx0
  have hOK0 := hOK
  obtain ⟨hOKc, hOKl, hOKh⟩ := hOK0
  have hE0 := hE
  obtain ⟨hNG, hStr, hZ1, hZ2, hAO, hK, hAr, hX, hbb, hbs, hNc⟩ := hE0
  have hA : ∀ q : Nat, s.heap.size ≤ q → base ≤ q := va_SA hbs
  have hts : ∀ w ∈ lw_tbl.filter goodWord, w.before args s = true := fun w hw => hG w ⟨(List.mem_filter.mp hw).1, (List.mem_filter.mp hw).2⟩
  have hKy : ∀ t, t ≤ 4 → va_K D vwCl [(dA t, eTyA t)] s := fun t ht => ⟨hK.1, fun k q hq => by
    match k, hq with
    | 0, hq => cases hq; exact hAr t ht
    | k + 1, hq => simp at hq⟩
  have hP1 : ∀ {k : Nat} {o : va_E}, h.2[k]? = some o → va_P D vwCl [(base + k, eZ dA base b0 o)] H := fun {k o} hk j q hq => by
    match j, hq with
    | 0, hq => cases hq; exact hR.1 k o hk
    | j + 1, hq => simp at hq
  have hstep : mI st (fun j r => mR r (fun q r => mO q (fun q => ∃ (N : Nat) (f : Nat → Option Nat) (z : Nat), h.2[q]? = some (.inl (4, N, .inr (.inr (.inr (.inr f))))) ∧ vp_in j N ∧ f j.toNatClampNeg = some z ∧ K0 n ls (.ref z :: r) h kc ks))) := hstep
  have hd : decode (mBy M) pc = .ok (.aaload, 1) := hd
  have hn : n = pc + 1 := hn
  subst hn
  obtain ⟨j, r, rfl, hs⟩ := mI_s hstep
  obtain ⟨q, r, rfl, hs⟩ := mR_s hs
  obtain ⟨q, rfl, hs⟩ := mO_s hs
  obtain ⟨N, f, z, hq, hv, hz, hk⟩ := hs
  refine va_aldq (D := D) (C := RX1) (ws := [(base + q, eZ dA base b0 (.inl (4, N, .inr (.inr (.inr (.inr f))))))]) (tys := [(dA 4, eTyA 4)]) hx hb (hKy 4 (by decide)) (hP1 hq) 0 0 rfl rfl hv hd ?_
  rw [hz]
  exact hK0 _ _ _ _ _ _ hk H locs lsA hR hSS hl
set_option maxHeartbeats 4000000 in
set_option maxRecDepth 100000 in
theorem ei_iastore (cx : eCx p l e R s m args below meth c0 D dA base b0 S T C M d Q Fin K0)  {n a b c pc : Nat} {ls : eL} {st : List Value} {h : eH} {kc ks : Nat} {H : Heap} {locs : List Loc} {lsA : Array Slot} (hd : decode (mBy M) pc = .ok (.iastore, eLen pc .iastore n)) (hn : n = pc + eLen pc .iastore n) (hi : eIns M pc .iastore a b c = true) (hlk : eLink T M (pc, .iastore, n, a, b, c)) (hR : eRH D dA base b0 h H) (hSS : va_S (fun q => base ≤ q) s.heap H locs) (hl : lv_has lsA (mLo M) (eLs base b0 ls)) (hstep : okI S T C M d Q .iastore n a b c pc ls st h kc ks K0) : W p l e R s m args below meth c0 H locs kc ks Fin (F0 m pc lsA (st.map (eV base b0))) := by
  have cx0 := cx
  obtain ⟨hK0, hx, hb, hml, hown, hG, hE, hOK, hCl, hCa, hinit, hRf, hRl, hd1, hRc, hRs, htab, hC, hdC, hfin, hout, hthr⟩ := cx0
  have hOK0 := hOK
  obtain ⟨hOKc, hOKl, hOKh⟩ := hOK0
  have hE0 := hE
  obtain ⟨hNG, hStr, hZ1, hZ2, hAO, hK, hAr, hX, hbb, hbs, hNc⟩ := hE0
  have hA : ∀ q : Nat, s.heap.size ≤ q → base ≤ q := va_SA hbs
  have hts : ∀ w ∈ lw_tbl.filter goodWord, w.before args s = true := fun w hw => hG w ⟨(List.mem_filter.mp hw).1, (List.mem_filter.mp hw).2⟩
  have hKy : ∀ t, t ≤ 4 → va_K D vwCl [(dA t, eTyA t)] s := fun t ht => ⟨hK.1, fun k q hq => by
    match k, hq with
    | 0, hq => cases hq; exact hAr t ht
    | k + 1, hq => simp at hq⟩
  have hP1 : ∀ {k : Nat} {o : va_E}, h.2[k]? = some o → va_P D vwCl [(base + k, eZ dA base b0 o)] H := fun {k o} hk j q hq => by
    match j, hq with
    | 0, hq => cases hq; exact hR.1 k o hk
    | j + 1, hq => simp at hq
  have hstep : mI st (fun x r => mI r (fun j r => mR r (fun q r => mO q (fun q => ∃ (N : Nat) (f : Nat → Int32), h.2[q]? = some (.inl (0, N, .inl f)) ∧ vp_in j N ∧ K0 n ls r (h.1, h.2.set q (.inl (0, N, .inl (upd f j.toNatClampNeg x)))) kc ks)))) := hstep
  have hd : decode (mBy M) pc = .ok (.iastore, 1) := hd
  have hn : n = pc + 1 := hn
  subst hn
  obtain ⟨x, r, rfl, hs⟩ := mI_s hstep
  obtain ⟨j, r, rfl, hs⟩ := mI_s hs
  obtain ⟨q, r, rfl, hs⟩ := mR_s hs
  obtain ⟨q, rfl, hs⟩ := mO_s hs
  obtain ⟨N, f, hq, hv, hk⟩ := hs
  exact e_iast hx hb (hAr 0 (by decide)).1 hR hSS hq hv hd (fun H1 locs1 hR1 hS1 => hK0 _ _ _ _ _ _ hk H1 locs1 lsA hR1 hS1 hl)
set_option maxHeartbeats 4000000 in
set_option maxRecDepth 100000 in
theorem ei_bastore (cx : eCx p l e R s m args below meth c0 D dA base b0 S T C M d Q Fin K0)  {n a b c pc : Nat} {ls : eL} {st : List Value} {h : eH} {kc ks : Nat} {H : Heap} {locs : List Loc} {lsA : Array Slot} (hd : decode (mBy M) pc = .ok (.bastore, eLen pc .bastore n)) (hn : n = pc + eLen pc .bastore n) (hi : eIns M pc .bastore a b c = true) (hlk : eLink T M (pc, .bastore, n, a, b, c)) (hR : eRH D dA base b0 h H) (hSS : va_S (fun q => base ≤ q) s.heap H locs) (hl : lv_has lsA (mLo M) (eLs base b0 ls)) (hstep : okI S T C M d Q .bastore n a b c pc ls st h kc ks K0) : W p l e R s m args below meth c0 H locs kc ks Fin (F0 m pc lsA (st.map (eV base b0))) := by
  have cx0 := cx
  obtain ⟨hK0, hx, hb, hml, hown, hG, hE, hOK, hCl, hCa, hinit, hRf, hRl, hd1, hRc, hRs, htab, hC, hdC, hfin, hout, hthr⟩ := cx0
  have hOK0 := hOK
  obtain ⟨hOKc, hOKl, hOKh⟩ := hOK0
  have hE0 := hE
  obtain ⟨hNG, hStr, hZ1, hZ2, hAO, hK, hAr, hX, hbb, hbs, hNc⟩ := hE0
  have hA : ∀ q : Nat, s.heap.size ≤ q → base ≤ q := va_SA hbs
  have hts : ∀ w ∈ lw_tbl.filter goodWord, w.before args s = true := fun w hw => hG w ⟨(List.mem_filter.mp hw).1, (List.mem_filter.mp hw).2⟩
  have hKy : ∀ t, t ≤ 4 → va_K D vwCl [(dA t, eTyA t)] s := fun t ht => ⟨hK.1, fun k q hq => by
    match k, hq with
    | 0, hq => cases hq; exact hAr t ht
    | k + 1, hq => simp at hq⟩
  have hP1 : ∀ {k : Nat} {o : va_E}, h.2[k]? = some o → va_P D vwCl [(base + k, eZ dA base b0 o)] H := fun {k o} hk j q hq => by
    match j, hq with
    | 0, hq => cases hq; exact hR.1 k o hk
    | j + 1, hq => simp at hq
  have hstep : mI st (fun x r => mI r (fun j r => mR r (fun q r => mO q (fun q => ∃ (N : Nat) (f : Nat → Int32), h.2[q]? = some (.inl (1, N, .inl f)) ∧ vp_in j N ∧ K0 n ls r (h.1, h.2.set q (.inl (1, N, .inl (upd f j.toNatClampNeg (vp_nar .boolean x))))) kc ks)))) := hstep
  have hd : decode (mBy M) pc = .ok (.bastore, 1) := hd
  have hn : n = pc + 1 := hn
  subst hn
  obtain ⟨x, r, rfl, hs⟩ := mI_s hstep
  obtain ⟨j, r, rfl, hs⟩ := mI_s hs
  obtain ⟨q, r, rfl, hs⟩ := mR_s hs
  obtain ⟨q, rfl, hs⟩ := mO_s hs
  obtain ⟨N, f, hq, hv, hk⟩ := hs
  exact e_zast hx hb (hAr 1 (by decide)).1 hR hSS hq hv hd (fun H1 locs1 hR1 hS1 => hK0 _ _ _ _ _ _ hk H1 locs1 lsA hR1 hS1 hl)
set_option maxHeartbeats 4000000 in
set_option maxRecDepth 100000 in
theorem ei_lastore (cx : eCx p l e R s m args below meth c0 D dA base b0 S T C M d Q Fin K0)  {n a b c pc : Nat} {ls : eL} {st : List Value} {h : eH} {kc ks : Nat} {H : Heap} {locs : List Loc} {lsA : Array Slot} (hd : decode (mBy M) pc = .ok (.lastore, eLen pc .lastore n)) (hn : n = pc + eLen pc .lastore n) (hi : eIns M pc .lastore a b c = true) (hlk : eLink T M (pc, .lastore, n, a, b, c)) (hR : eRH D dA base b0 h H) (hSS : va_S (fun q => base ≤ q) s.heap H locs) (hl : lv_has lsA (mLo M) (eLs base b0 ls)) (hstep : okI S T C M d Q .lastore n a b c pc ls st h kc ks K0) : W p l e R s m args below meth c0 H locs kc ks Fin (F0 m pc lsA (st.map (eV base b0))) := by
  have cx0 := cx
  obtain ⟨hK0, hx, hb, hml, hown, hG, hE, hOK, hCl, hCa, hinit, hRf, hRl, hd1, hRc, hRs, htab, hC, hdC, hfin, hout, hthr⟩ := cx0
  have hOK0 := hOK
  obtain ⟨hOKc, hOKl, hOKh⟩ := hOK0
  have hE0 := hE
  obtain ⟨hNG, hStr, hZ1, hZ2, hAO, hK, hAr, hX, hbb, hbs, hNc⟩ := hE0
  have hA : ∀ q : Nat, s.heap.size ≤ q → base ≤ q := va_SA hbs
  have hts : ∀ w ∈ lw_tbl.filter goodWord, w.before args s = true := fun w hw => hG w ⟨(List.mem_filter.mp hw).1, (List.mem_filter.mp hw).2⟩
  have hKy : ∀ t, t ≤ 4 → va_K D vwCl [(dA t, eTyA t)] s := fun t ht => ⟨hK.1, fun k q hq => by
    match k, hq with
    | 0, hq => cases hq; exact hAr t ht
    | k + 1, hq => simp at hq⟩
  have hP1 : ∀ {k : Nat} {o : va_E}, h.2[k]? = some o → va_P D vwCl [(base + k, eZ dA base b0 o)] H := fun {k o} hk j q hq => by
    match j, hq with
    | 0, hq => cases hq; exact hR.1 k o hk
    | j + 1, hq => simp at hq
  have hstep : mJ st (fun x r => mI r (fun j r => mR r (fun q r => mO q (fun q => ∃ (N : Nat) (f : Nat → Int64), h.2[q]? = some (.inl (2, N, .inr (.inl f))) ∧ vp_in j N ∧ K0 n ls r (h.1, h.2.set q (.inl (2, N, .inr (.inl (vp_updL f j.toNatClampNeg x))))) kc ks)))) := hstep
  have hd : decode (mBy M) pc = .ok (.lastore, 1) := hd
  have hn : n = pc + 1 := hn
  subst hn
  obtain ⟨x, r, rfl, hs⟩ := mJ_s hstep
  obtain ⟨j, r, rfl, hs⟩ := mI_s hs
  obtain ⟨q, r, rfl, hs⟩ := mR_s hs
  obtain ⟨q, rfl, hs⟩ := mO_s hs
  obtain ⟨N, f, hq, hv, hk⟩ := hs
  exact e_last hx hb (hAr 2 (by decide)).1 hR hSS hq hv hd (fun H1 locs1 hR1 hS1 => hK0 _ _ _ _ _ _ hk H1 locs1 lsA hR1 hS1 hl)
end InsC
end
section
theorem eRA_find {U : State} {cA : ClassId} : ∀ {t : Nat}, t ≤ 3 → va_RA U cA (eTyA t) → U.vm.findClass ("[" ++ (eTyA t).toString) = some cA
  | 0, _, h => h
  | 1, _, h => h
  | 2, _, h => h
  | 3, _, h => h
  | _ + 4, h, _ => absurd h (by omega)
theorem eArr_cell (dA : Nat → ClassId) (base b N : Nat) : ∀ {t : Nat}, t ≤ 3 → ∃ x : vp_A, eZ dA base b (eArr t N) = .inl (dA t, x) ∧ vp_cell (dA t) x = arrV (dA t) N (fun _ => defaultValue (eTyA t))
  | 0, _ => ⟨_, rfl, rfl⟩
  | 1, _ => ⟨_, rfl, rfl⟩
  | 2, _ => ⟨_, rfl, rfl⟩
  | 3, _ => ⟨_, rfl, rfl⟩
  | _ + 4, h => absurd h (by omega)
theorem eArr_small : ∀ {t : Nat}, t ≤ 3 → componentBytes (eTyA t) ≤ 8
  | 0, _ => by decide
  | 1, _ => by decide
  | 2, _ => by decide
  | 3, _ => by decide
  | _ + 4, h => absurd h (by omega)
section InsD
variable {p : Program} {l : Launch} {e : Env} {R : Room} {s : State} {m : MethodId} {args : Array Value} {below : List Frame} {meth : Method} {c0 : Code} {Fin : State → Prop}
variable {S : Nat × (Nat → Int32)} {T : Nat → eM} {C : eC} {M : eM} {d : Nat} {Q : eQ} {D : va_G} {dA : Nat → ClassId} {base b0 : Nat} {K0 : eK}
set_option maxHeartbeats 4000000 in
set_option maxRecDepth 100000 in
theorem ei_dastore (cx : eCx p l e R s m args below meth c0 D dA base b0 S T C M d Q Fin K0)  {n a b c pc : Nat} {ls : eL} {st : List Value} {h : eH} {kc ks : Nat} {H : Heap} {locs : List Loc} {lsA : Array Slot} (hd : decode (mBy M) pc = .ok (.dastore, eLen pc .dastore n)) (hn : n = pc + eLen pc .dastore n) (hi : eIns M pc .dastore a b c = true) (hlk : eLink T M (pc, .dastore, n, a, b, c)) (hR : eRH D dA base b0 h H) (hSS : va_S (fun q => base ≤ q) s.heap H locs) (hl : lv_has lsA (mLo M) (eLs base b0 ls)) (hstep : okI S T C M d Q .dastore n a b c pc ls st h kc ks K0) : W p l e R s m args below meth c0 H locs kc ks Fin (F0 m pc lsA (st.map (eV base b0))) := by
  have cx0 := cx
  obtain ⟨hK0, hx, hb, hml, hown, hG, hE, hOK, hCl, hCa, hinit, hRf, hRl, hd1, hRc, hRs, htab, hC, hdC, hfin, hout, hthr⟩ := cx0
  have hOK0 := hOK
  obtain ⟨hOKc, hOKl, hOKh⟩ := hOK0
  have hE0 := hE
  obtain ⟨hNG, hStr, hZ1, hZ2, hAO, hK, hAr, hX, hbb, hbs, hNc⟩ := hE0
  have hA : ∀ q : Nat, s.heap.size ≤ q → base ≤ q := va_SA hbs
  have hts : ∀ w ∈ lw_tbl.filter goodWord, w.before args s = true := fun w hw => hG w ⟨(List.mem_filter.mp hw).1, (List.mem_filter.mp hw).2⟩
  have hKy : ∀ t, t ≤ 4 → va_K D vwCl [(dA t, eTyA t)] s := fun t ht => ⟨hK.1, fun k q hq => by
    match k, hq with
    | 0, hq => cases hq; exact hAr t ht
    | k + 1, hq => simp at hq⟩
  have hP1 : ∀ {k : Nat} {o : va_E}, h.2[k]? = some o → va_P D vwCl [(base + k, eZ dA base b0 o)] H := fun {k o} hk j q hq => by
    match j, hq with
    | 0, hq => cases hq; exact hR.1 k o hk
    | j + 1, hq => simp at hq
  have hstep : mD st (fun x r => mI r (fun j r => mR r (fun q r => mO q (fun q => ∃ (N : Nat) (f : Nat → UInt64), h.2[q]? = some (.inl (3, N, .inr (.inr (.inr (.inl f))))) ∧ vp_in j N ∧ K0 n ls r (h.1, h.2.set q (.inl (3, N, .inr (.inr (.inr (.inl (vf_upd f j.toNatClampNeg x))))))) kc ks)))) := hstep
  have hd : decode (mBy M) pc = .ok (.dastore, 1) := hd
  have hn : n = pc + 1 := hn
  subst hn
  obtain ⟨x, r, rfl, hs⟩ := mD_s hstep
  obtain ⟨j, r, rfl, hs⟩ := mI_s hs
  obtain ⟨q, r, rfl, hs⟩ := mR_s hs
  obtain ⟨q, rfl, hs⟩ := mO_s hs
  obtain ⟨N, f, hq, hv, hk⟩ := hs
  exact e_dast hx hb (hAr 3 (by decide)).1 hR hSS hq hv hd (fun H1 locs1 hR1 hS1 => hK0 _ _ _ _ _ _ hk H1 locs1 lsA hR1 hS1 hl)
set_option maxHeartbeats 4000000 in
set_option maxRecDepth 100000 in
theorem ei_aastore (cx : eCx p l e R s m args below meth c0 D dA base b0 S T C M d Q Fin K0)  {n a b c pc : Nat} {ls : eL} {st : List Value} {h : eH} {kc ks : Nat} {H : Heap} {locs : List Loc} {lsA : Array Slot} (hd : decode (mBy M) pc = .ok (.aastore, eLen pc .aastore n)) (hn : n = pc + eLen pc .aastore n) (hi : eIns M pc .aastore a b c = true) (hlk : eLink T M (pc, .aastore, n, a, b, c)) (hR : eRH D dA base b0 h H) (hSS : va_S (fun q => base ≤ q) s.heap H locs) (hl : lv_has lsA (mLo M) (eLs base b0 ls)) (hstep : okI S T C M d Q .aastore n a b c pc ls st h kc ks K0) : W p l e R s m args below meth c0 H locs kc ks Fin (F0 m pc lsA (st.map (eV base b0))) := by
  have cx0 := cx
  obtain ⟨hK0, hx, hb, hml, hown, hG, hE, hOK, hCl, hCa, hinit, hRf, hRl, hd1, hRc, hRs, htab, hC, hdC, hfin, hout, hthr⟩ := cx0
  have hOK0 := hOK
  obtain ⟨hOKc, hOKl, hOKh⟩ := hOK0
  have hE0 := hE
  obtain ⟨hNG, hStr, hZ1, hZ2, hAO, hK, hAr, hX, hbb, hbs, hNc⟩ := hE0
  have hA : ∀ q : Nat, s.heap.size ≤ q → base ≤ q := va_SA hbs
  have hts : ∀ w ∈ lw_tbl.filter goodWord, w.before args s = true := fun w hw => hG w ⟨(List.mem_filter.mp hw).1, (List.mem_filter.mp hw).2⟩
  have hKy : ∀ t, t ≤ 4 → va_K D vwCl [(dA t, eTyA t)] s := fun t ht => ⟨hK.1, fun k q hq => by
    match k, hq with
    | 0, hq => cases hq; exact hAr t ht
    | k + 1, hq => simp at hq⟩
  have hP1 : ∀ {k : Nat} {o : va_E}, h.2[k]? = some o → va_P D vwCl [(base + k, eZ dA base b0 o)] H := fun {k o} hk j q hq => by
    match j, hq with
    | 0, hq => cases hq; exact hR.1 k o hk
    | j + 1, hq => simp at hq
  have hstep : mR st (fun z r => mO z (fun z => mI r (fun j r => mR r (fun q r => mO q (fun q => ∃ (N : Nat) (f : Nat → Option Nat) (fs : List Value), h.2[q]? = some (.inl (4, N, .inr (.inr (.inr (.inr f))))) ∧ vp_in j N ∧ h.2[z]? = some (.inr (1, fs)) ∧ K0 n ls r (h.1, h.2.set q (.inl (4, N, .inr (.inr (.inr (.inr (va_up f j.toNatClampNeg (some (z + 1))))))))) kc ks))))) := hstep
  have hd : decode (mBy M) pc = .ok (.aastore, 1) := hd
  have hn : n = pc + 1 := hn
  subst hn
  obtain ⟨z, r1, rfl, hs1⟩ := mR_s hstep
  obtain ⟨z, rfl, hs2⟩ := mO_s hs1
  obtain ⟨j, r2, rfl, hs3⟩ := mI_s hs2
  obtain ⟨q, r, rfl, hs4⟩ := mR_s hs3
  obtain ⟨q, rfl, hs5⟩ := mO_s hs4
  obtain ⟨N, f, fs, hq, hv, hz, hk⟩ := hs5
  exact e_astq hx hb hK (hAr 4 (by decide)).2 hR hSS hq hz hv hd (fun H1 locs1 hR1 hS1 => hK0 _ _ _ _ _ _ hk H1 locs1 lsA hR1 hS1 hl)
set_option maxHeartbeats 4000000 in
set_option maxRecDepth 100000 in
theorem ei_newarray (cx : eCx p l e R s m args below meth c0 D dA base b0 S T C M d Q Fin K0) (at9 : ArrayType) {n a b c pc : Nat} {ls : eL} {st : List Value} {h : eH} {kc ks : Nat} {H : Heap} {locs : List Loc} {lsA : Array Slot} (hd : decode (mBy M) pc = .ok ((.newarray at9), eLen pc (.newarray at9) n)) (hn : n = pc + eLen pc (.newarray at9) n) (hi : eIns M pc (.newarray at9) a b c = true) (hlk : eLink T M (pc, (.newarray at9), n, a, b, c)) (hR : eRH D dA base b0 h H) (hSS : va_S (fun q => base ≤ q) s.heap H locs) (hl : lv_has lsA (mLo M) (eLs base b0 ls)) (hstep : okI S T C M d Q (.newarray at9) n a b c pc ls st h kc ks K0) : W p l e R s m args below meth c0 H locs kc ks Fin (F0 m pc lsA (st.map (eV base b0))) := by
  have cx0 := cx
  obtain ⟨hK0, hx, hb, hml, hown, hG, hE, hOK, hCl, hCa, hinit, hRf, hRl, hd1, hRc, hRs, htab, hC, hdC, hfin, hout, hthr⟩ := cx0
  have hOK0 := hOK
  obtain ⟨hOKc, hOKl, hOKh⟩ := hOK0
  have hE0 := hE
  obtain ⟨hNG, hStr, hZ1, hZ2, hAO, hK, hAr, hX, hbb, hbs, hNc⟩ := hE0
  have hA : ∀ q : Nat, s.heap.size ≤ q → base ≤ q := va_SA hbs
  have hts : ∀ w ∈ lw_tbl.filter goodWord, w.before args s = true := fun w hw => hG w ⟨(List.mem_filter.mp hw).1, (List.mem_filter.mp hw).2⟩
  have hKy : ∀ t, t ≤ 4 → va_K D vwCl [(dA t, eTyA t)] s := fun t ht => ⟨hK.1, fun k q hq => by
    match k, hq with
    | 0, hq => cases hq; exact hAr t ht
    | k + 1, hq => simp at hq⟩
  have hP1 : ∀ {k : Nat} {o : va_E}, h.2[k]? = some o → va_P D vwCl [(base + k, eZ dA base b0 o)] H := fun {k o} hk j q hq => by
    match j, hq with
    | 0, hq => cases hq; exact hR.1 k o hk
    | j + 1, hq => simp at hq
  have hstep : mI st (fun j r => (h.1 = true ∧ ¬ j < 0 ∧ j.toNatClampNeg ≤ 1000 ∧ kc + 1 ≤ (mCo M).1 ∧ ks + j.toNatClampNeg ≤ (mCo M).2) ∧ K0 n ls (.ref (h.2.length + 1) :: r) (h.1, h.2 ++ [eArr a j.toNatClampNeg]) (kc + 1) (ks + j.toNatClampNeg)) := hstep
  have hd : decode (mBy M) pc = .ok (.newarray at9, 2) := hd
  have hn : n = pc + 2 := hn
  subst hn
  obtain ⟨j, r, rfl, ⟨ho, hj, hjs, hkc, hks⟩, hk⟩ := mI_s hstep
  obtain ⟨hw, hty, ha3⟩ := hlk
  have hsz := hR.2.1 ho
  refine va_newaK hx hb (hG _ hw) rfl hd rfl hj rfl (Nat.le_trans (Nat.mul_le_mul hjs (by rw [hty]; exact eArr_small ha3)) (by decide)) (Nat.le_trans hkc hRc) (Nat.le_trans hks hRs) rfl fun H1 cA e1 z1 o1 hAr9 hNm => ?_
  have hcA : cA = dA a := by
    rw [hty] at hNm
    exact Option.some.inj (hNm.symm.trans (eRA_find ha3 (hAr a (by omega)).2))
  subst hcA
  have hRH : eRH D dA base b0 (h.1, h.2 ++ [eArr a j.toNatClampNeg]) H1 := by
    obtain ⟨x9, hx1, hx2⟩ := eArr_cell dA base b0 j.toNatClampNeg ha3
    refine hR.push ho ?_ z1 o1
    rw [hx1]
    show H1[H.size]? = some (vp_cell (dA a) x9)
    rw [hx2, e1, hty]
  have hk9 := hK0 _ _ _ _ _ _ hk H1 locs lsA hRH ⟨Nat.le_trans hSS.1 (by omega), fun x h1 h2 => (o1 x (Nat.lt_of_lt_of_le h1 hSS.1)).trans (hSS.2.1 x h1 h2), hSS.2.2⟩ hl
  rw [hsz]
  exact hk9
set_option maxHeartbeats 4000000 in
set_option maxRecDepth 100000 in
theorem ei_anewarray (cx : eCx p l e R s m args below meth c0 D dA base b0 S T C M d Q Fin K0) (x9 : Nat) {n a b c pc : Nat} {ls : eL} {st : List Value} {h : eH} {kc ks : Nat} {H : Heap} {locs : List Loc} {lsA : Array Slot} (hd : decode (mBy M) pc = .ok ((.anewarray x9), eLen pc (.anewarray x9) n)) (hn : n = pc + eLen pc (.anewarray x9) n) (hi : eIns M pc (.anewarray x9) a b c = true) (hlk : eLink T M (pc, (.anewarray x9), n, a, b, c)) (hR : eRH D dA base b0 h H) (hSS : va_S (fun q => base ≤ q) s.heap H locs) (hl : lv_has lsA (mLo M) (eLs base b0 ls)) (hstep : okI S T C M d Q (.anewarray x9) n a b c pc ls st h kc ks K0) : W p l e R s m args below meth c0 H locs kc ks Fin (F0 m pc lsA (st.map (eV base b0))) := by
  have cx0 := cx
  obtain ⟨hK0, hx, hb, hml, hown, hG, hE, hOK, hCl, hCa, hinit, hRf, hRl, hd1, hRc, hRs, htab, hC, hdC, hfin, hout, hthr⟩ := cx0
  have hOK0 := hOK
  obtain ⟨hOKc, hOKl, hOKh⟩ := hOK0
  have hE0 := hE
  obtain ⟨hNG, hStr, hZ1, hZ2, hAO, hK, hAr, hX, hbb, hbs, hNc⟩ := hE0
  have hA : ∀ q : Nat, s.heap.size ≤ q → base ≤ q := va_SA hbs
  have hts : ∀ w ∈ lw_tbl.filter goodWord, w.before args s = true := fun w hw => hG w ⟨(List.mem_filter.mp hw).1, (List.mem_filter.mp hw).2⟩
  have hKy : ∀ t, t ≤ 4 → va_K D vwCl [(dA t, eTyA t)] s := fun t ht => ⟨hK.1, fun k q hq => by
    match k, hq with
    | 0, hq => cases hq; exact hAr t ht
    | k + 1, hq => simp at hq⟩
  have hP1 : ∀ {k : Nat} {o : va_E}, h.2[k]? = some o → va_P D vwCl [(base + k, eZ dA base b0 o)] H := fun {k o} hk j q hq => by
    match j, hq with
    | 0, hq => cases hq; exact hR.1 k o hk
    | j + 1, hq => simp at hq
  have hstep : mI st (fun j r => (h.1 = true ∧ ¬ j < 0 ∧ j.toNatClampNeg ≤ 1000 ∧ kc + 1 ≤ (mCo M).1 ∧ ks + j.toNatClampNeg ≤ (mCo M).2) ∧ K0 n ls (.ref (h.2.length + 1) :: r) (h.1, h.2 ++ [eArr 4 j.toNatClampNeg]) (kc + 1) (ks + j.toNatClampNeg)) := hstep
  have hd : decode (mBy M) pc = .ok (.anewarray x9, 3) := hd
  have hn : n = pc + 3 := hn
  subst hn
  obtain ⟨j, r, rfl, ⟨ho, hj, hjs, hkc, hks⟩, hk⟩ := mI_s hstep
  have hsz := hR.2.1 ho
  refine W.anew hx hb hown (hG _ hlk) (va_AO.use hAO) rfl hd rfl hj (Nat.le_trans (Nat.mul_le_mul_right 4 hjs) (by decide)) (Nat.le_trans hkc hRc) (Nat.le_trans hks hRs) fun cA kA comp f1 f2 f3 f4 => ?_
  generalize hH1 : H.push ({ cls := cA, slots := Array.replicate j.toNatClampNeg .null, vm := .none } : Cell) = H1
  have z1 : H1.size = H.size + 1 := by rw [← hH1, Array.size_push]
  have e1 : H1[H.size]? = some (arrV cA j.toNatClampNeg (fun _ => .null)) := by rw [← hH1, Array.getElem?_push_size, ← arrV_new]
  have o1 : ∀ q : Nat, q < H.size → H1[q]? = H[q]? := fun q hq => by rw [← hH1, Array.getElem?_push, if_neg (Nat.ne_of_lt hq)]
  have hcA : cA = dA 4 := by
    obtain ⟨kA9, comp9, g1, g2, g3, g4⟩ := (hAr 4 (by decide)).2
    exact Option.some.inj (f1.symm.trans g4)
  subst hcA
  have hRH : eRH D dA base b0 (h.1, h.2 ++ [eArr 4 j.toNatClampNeg]) H1 := hR.push ho e1 z1 o1
  have hk9 := hK0 _ _ _ _ _ _ hk H1 locs lsA hRH ⟨Nat.le_trans hSS.1 (by omega), fun x h1 h2 => (o1 x (Nat.lt_of_lt_of_le h1 hSS.1)).trans (hSS.2.1 x h1 h2), hSS.2.2⟩ hl
  rw [hsz]
  exact hk9
set_option maxHeartbeats 4000000 in
set_option maxRecDepth 100000 in
theorem ei_new (cx : eCx p l e R s m args below meth c0 D dA base b0 S T C M d Q Fin K0) (x9 : Nat) {n a b c pc : Nat} {ls : eL} {st : List Value} {h : eH} {kc ks : Nat} {H : Heap} {locs : List Loc} {lsA : Array Slot} (hd : decode (mBy M) pc = .ok ((.new x9), eLen pc (.new x9) n)) (hn : n = pc + eLen pc (.new x9) n) (hi : eIns M pc (.new x9) a b c = true) (hlk : eLink T M (pc, (.new x9), n, a, b, c)) (hR : eRH D dA base b0 h H) (hSS : va_S (fun q => base ≤ q) s.heap H locs) (hl : lv_has lsA (mLo M) (eLs base b0 ls)) (hstep : okI S T C M d Q (.new x9) n a b c pc ls st h kc ks K0) : W p l e R s m args below meth c0 H locs kc ks Fin (F0 m pc lsA (st.map (eV base b0))) := by
  have cx0 := cx
  obtain ⟨hK0, hx, hb, hml, hown, hG, hE, hOK, hCl, hCa, hinit, hRf, hRl, hd1, hRc, hRs, htab, hC, hdC, hfin, hout, hthr⟩ := cx0
  have hOK0 := hOK
  obtain ⟨hOKc, hOKl, hOKh⟩ := hOK0
  have hE0 := hE
  obtain ⟨hNG, hStr, hZ1, hZ2, hAO, hK, hAr, hX, hbb, hbs, hNc⟩ := hE0
  have hA : ∀ q : Nat, s.heap.size ≤ q → base ≤ q := va_SA hbs
  have hts : ∀ w ∈ lw_tbl.filter goodWord, w.before args s = true := fun w hw => hG w ⟨(List.mem_filter.mp hw).1, (List.mem_filter.mp hw).2⟩
  have hKy : ∀ t, t ≤ 4 → va_K D vwCl [(dA t, eTyA t)] s := fun t ht => ⟨hK.1, fun k q hq => by
    match k, hq with
    | 0, hq => cases hq; exact hAr t ht
    | k + 1, hq => simp at hq⟩
  have hP1 : ∀ {k : Nat} {o : va_E}, h.2[k]? = some o → va_P D vwCl [(base + k, eZ dA base b0 o)] H := fun {k o} hk j q hq => by
    match j, hq with
    | 0, hq => cases hq; exact hR.1 k o hk
    | j + 1, hq => simp at hq
  have hstep : bif c == 1 then ((6 ≤ d ∧ Nat.ble (eCat st) 8 = true ∧ mHh M = []) ∧ (kc + 1 ≤ (mCo M).1 ∧ ks + 6 ≤ (mCo M).2) ∧ Q (.inr a) (false, h.2))
  else ((h.1 = true ∧ kc + 1 ≤ (mCo M).1 ∧ ks + (eNew a).length ≤ (mCo M).2) ∧ K0 n ls (.ref (h.2.length + 1) :: st) (h.1, h.2 ++ [.inr (a, eNew a)]) (kc + 1) (ks + (eNew a).length)) := hstep
  have hd : decode (mBy M) pc = .ok (.new x9, 3) := hd
  have hn : n = pc + 3 := hn
  subst hn
  cases hc : (c == 1) with
  | true =>
    have hc1 : c = 1 := eq_of_beq hc
    subst hc1
    obtain ⟨⟨h6, hcat, hh0⟩, ⟨hkc, hks⟩, hQ⟩ := hstep
    have ha : a ≤ 3 := Nat.le_of_ble_eq_true hi
    exact hthr pc x9 _ a b H locs lsA st h kc ks hlk ha hR hSS (hl.1.trans hml.symm) h6 (Nat.le_of_ble_eq_true hcat) hkc hks hh0 hQ hd
  | false =>
    have hc1 : ¬ c = 1 := fun h9 => by simp [h9] at hc
    have hstep : (bif c == 1 then ((6 ≤ d ∧ Nat.ble (eCat st) 8 = true ∧ mHh M = []) ∧ (kc + 1 ≤ (mCo M).1 ∧ ks + 6 ≤ (mCo M).2) ∧ Q (.inr a) (false, h.2)) else ((h.1 = true ∧ kc + 1 ≤ (mCo M).1 ∧ ks + (eNew a).length ≤ (mCo M).2) ∧ K0 (pc + 3) ls (.ref (h.2.length + 1) :: st) (h.1, h.2 ++ [.inr (a, eNew a)]) (kc + 1) (ks + (eNew a).length))) := hstep
    rw [hc] at hstep
    obtain ⟨⟨ho, hkc, hks⟩, hk⟩ := hstep
    have hlk : if c = 1 then _ else ∃ (C : String) (TT : u_T) (N : Nat), vwCl[a]? = some (C, TT, N) ∧ eW (.classLink (mNm M).cls x9 C) ∧ eW (.instantiable C N) ∧ eW (.initialized C) := hlk
    rw [if_neg hc1] at hlk
    obtain ⟨CN, TT, NN, hvc, w1, w2, w3⟩ := hlk
    have hcls := hCl _ (List.mem_of_getElem? hvc)
    obtain ⟨hlen, hdef, hpf, hmap⟩ := eNew_ok _ _ _ _ hvc
    have hsz := hR.2.1 ho
    have hKn := hK.1 a _ hvc
    refine W.newcK hx hb hown (hG _ w1) (hG _ w2) (hG _ w3) rfl hd (Nat.le_trans hkc hRc) (Nat.le_trans (by rw [hlen]; exact Nat.le_refl _) (Nat.le_trans hks hRs)) hKn.2.1 rfl fun H1 kC hkC e1 z1 o1 => ?_
    have hRH : eRH D dA base b0 (h.1, h.2 ++ [.inr (a, eNew a)]) H1 := by
      refine hR.push ho ?_ z1 o1
      show va_at D vwCl (H.size, .inr (a, (eNew a).map (eV base b0))) H1
      rw [hmap]
      exact ⟨_, hvc, (u_born (eFty a) hts (fun w hw9 => List.mem_filter.mpr ⟨(hcls.1 w hw9).1, (hcls.1 w hw9).2⟩) hKn hkC e1 hpf).to hdef⟩
    have hk9 := hK0 _ _ _ _ _ _ hk H1 locs lsA hRH ⟨Nat.le_trans hSS.1 (by omega), fun x h1 h2 => (o1 x (Nat.lt_of_lt_of_le h1 hSS.1)).trans (hSS.2.1 x h1 h2), hSS.2.2⟩ hl
    rw [hlen] at hk9
    rw [hsz]
    exact hk9
set_option maxHeartbeats 4000000 in
set_option maxRecDepth 100000 in
theorem ei_invokevirtual (cx : eCx p l e R s m args below meth c0 D dA base b0 S T C M d Q Fin K0) (x9 : Nat) {n a b c pc : Nat} {ls : eL} {st : List Value} {h : eH} {kc ks : Nat} {H : Heap} {locs : List Loc} {lsA : Array Slot} (hd : decode (mBy M) pc = .ok ((.invokevirtual x9), eLen pc (.invokevirtual x9) n)) (hn : n = pc + eLen pc (.invokevirtual x9) n) (hi : eIns M pc (.invokevirtual x9) a b c = true) (hlk : eLink T M (pc, (.invokevirtual x9), n, a, b, c)) (hR : eRH D dA base b0 h H) (hSS : va_S (fun q => base ≤ q) s.heap H locs) (hl : lv_has lsA (mLo M) (eLs base b0 ls)) (hstep : okI S T C M d Q (.invokevirtual x9) n a b c pc ls st h kc ks K0) : W p l e R s m args below meth c0 H locs kc ks Fin (F0 m pc lsA (st.map (eV base b0))) := by
  have cx0 := cx
  obtain ⟨hK0, hx, hb, hml, hown, hG, hE, hOK, hCl, hCa, hinit, hRf, hRl, hd1, hRc, hRs, htab, hC, hdC, hfin, hout, hthr⟩ := cx0
  have hOK0 := hOK
  obtain ⟨hOKc, hOKl, hOKh⟩ := hOK0
  have hE0 := hE
  obtain ⟨hNG, hStr, hZ1, hZ2, hAO, hK, hAr, hX, hbb, hbs, hNc⟩ := hE0
  have hA : ∀ q : Nat, s.heap.size ≤ q → base ≤ q := va_SA hbs
  have hts : ∀ w ∈ lw_tbl.filter goodWord, w.before args s = true := fun w hw => hG w ⟨(List.mem_filter.mp hw).1, (List.mem_filter.mp hw).2⟩
  have hKy : ∀ t, t ≤ 4 → va_K D vwCl [(dA t, eTyA t)] s := fun t ht => ⟨hK.1, fun k q hq => by
    match k, hq with
    | 0, hq => cases hq; exact hAr t ht
    | k + 1, hq => simp at hq⟩
  have hP1 : ∀ {k : Nat} {o : va_E}, h.2[k]? = some o → va_P D vwCl [(base + k, eZ dA base b0 o)] H := fun {k o} hk j q hq => by
    match j, hq with
    | 0, hq => cases hq; exact hR.1 k o hk
    | j + 1, hq => simp at hq
  have hstep : eArg b st [] (fun as r => mR as (fun q _ => mO q (fun q => ∃ fs : List Value, h.2[q]? = some (.inr (mCi (T a), fs)) ∧ eCall T C M a as r h kc ks (eRetK n ls r K0) (eThrK M Q pc ls K0)))) := hstep
  have hd : decode (mBy M) pc = .ok (.invokevirtual x9, 3) := hd
  have hn : n = pc + 3 := hn
  subst hn
  obtain ⟨as, r, rfl, hlen, hs⟩ := eArg_s hstep
  rw [List.append_nil] at hs
  obtain ⟨q, as1, rfl, hs⟩ := mR_s hs
  obtain ⟨q, rfl, hs⟩ := mO_s hs
  obtain ⟨fs, hq, ⟨hcat, hkc, hks⟩, hCC⟩ := hs
  obtain ⟨hY, hYh, ⟨n9, hb9, har⟩, ⟨qc, hqc, hqn⟩, w1, w2, w3⟩ := hlk
  have h2d := hdC _ _ _ _ hCC
  have hcon := hC _ _ _ _ hCC hY
  have hr := vx_runV (p := p) (e := e) (R := R) (s := s) (m := m) (args := args) (below := below) (meth := meth) (c := c0) (H := H) (locs := locs) (cells := kc) (slots := ks) (own := (mNm M).cls) (C := (mNm (T a)).cls) (index := x9) (y := mNm (T a)) (bytes := mBy (T a)) (maxL := mLo (T a)) (nL := mLo M) (ret := mRt (T a)) (n := n9) (b := base + q) (As := as1.map (eV base b0)) (rest := r.map (eV base b0)) (g := F0 m pc lsA (((Value.ref (q + 1) :: as1).reverse ++ r).map (eV base b0))) (cc := mBy M) (Ts := lw_tbl.filter goodWord) ⟨hx, hb, hml, hown, hts⟩ hcon
    ⟨⟨rfl, rfl, by show d - 1 + 1 ≤ R.frames; omega, by show 8 + (mLo (T a) + 11) + 38 * (d - 1) ≤ R.locals; have := hY.2.2.2.2; omega, eWs_ok hG hY, by rw [← mWd_nil hYh]; exact List.mem_cons_self, by rw [← mWd_nil hYh]; exact hG _ hY.1, hG _ hY.2.1, hY.2.2.1, fun sig h9 => by have := har; unfold eAri at this; rw [h9] at this; exact (Option.some.inj this).symm, hG _ w1⟩, hG _ w2, hG _ w3⟩
    ⟨eCon_blind, ?_, fun U hU hW => eEV.call hE hR hSS U hU hW⟩ rfl (by simp at hlen ⊢; omega) hl.1 (by simp [eV, eAd]) (by show 2 * 0 + _ ≤ 8; rw [eCat_sum]; have := Nat.le_of_ble_eq_true hcat; omega) hd ⟨Nat.le_trans hkc hRc, Nat.le_trans hks hRs⟩
  rotate_left
  · have h9 := va_recv (s := s) (ws := [(base + q, eZ dA base b0 (.inr (mCi (T a), fs)))]) hK (hP1 hq) hqc (q0 := 0) rfl
    rw [hqn] at h9
    exact h9
  exact e_back (kr := eRetK (pc + 3) ls r K0) (kt := eThrK M Q pc ls K0) hr hSS (fun v h' H1 locs1 hkr hR1 hS1 => by
    cases v with
    | none => exact hK0 _ _ _ _ _ _ hkr H1 locs1 lsA hR1 hS1 hl
    | some v => exact hK0 _ _ _ _ _ _ hkr H1 locs1 lsA hR1 hS1 hl) (fun E h' H1 locs1 q9 ce hkt hE3 hR1 hS1 hce hcv hcl => by
    exact e_catch cx hl E h' H1 locs1 q9 ce _ _ hkt hE3 hR1 hS1 hce hcv hcl hkc hks)
set_option maxHeartbeats 4000000 in
set_option maxRecDepth 100000 in
theorem ei_invokestatic (cx : eCx p l e R s m args below meth c0 D dA base b0 S T C M d Q Fin K0) (x9 : Nat) {n a b c pc : Nat} {ls : eL} {st : List Value} {h : eH} {kc ks : Nat} {H : Heap} {locs : List Loc} {lsA : Array Slot} (hd : decode (mBy M) pc = .ok ((.invokestatic x9), eLen pc (.invokestatic x9) n)) (hn : n = pc + eLen pc (.invokestatic x9) n) (hi : eIns M pc (.invokestatic x9) a b c = true) (hlk : eLink T M (pc, (.invokestatic x9), n, a, b, c)) (hR : eRH D dA base b0 h H) (hSS : va_S (fun q => base ≤ q) s.heap H locs) (hl : lv_has lsA (mLo M) (eLs base b0 ls)) (hstep : okI S T C M d Q (.invokestatic x9) n a b c pc ls st h kc ks K0) : W p l e R s m args below meth c0 H locs kc ks Fin (F0 m pc lsA (st.map (eV base b0))) := by
  have cx0 := cx
  obtain ⟨hK0, hx, hb, hml, hown, hG, hE, hOK, hCl, hCa, hinit, hRf, hRl, hd1, hRc, hRs, htab, hC, hdC, hfin, hout, hthr⟩ := cx0
  have hOK0 := hOK
  obtain ⟨hOKc, hOKl, hOKh⟩ := hOK0
  have hE0 := hE
  obtain ⟨hNG, hStr, hZ1, hZ2, hAO, hK, hAr, hX, hbb, hbs, hNc⟩ := hE0
  have hA : ∀ q : Nat, s.heap.size ≤ q → base ≤ q := va_SA hbs
  have hts : ∀ w ∈ lw_tbl.filter goodWord, w.before args s = true := fun w hw => hG w ⟨(List.mem_filter.mp hw).1, (List.mem_filter.mp hw).2⟩
  have hKy : ∀ t, t ≤ 4 → va_K D vwCl [(dA t, eTyA t)] s := fun t ht => ⟨hK.1, fun k q hq => by
    match k, hq with
    | 0, hq => cases hq; exact hAr t ht
    | k + 1, hq => simp at hq⟩
  have hP1 : ∀ {k : Nat} {o : va_E}, h.2[k]? = some o → va_P D vwCl [(base + k, eZ dA base b0 o)] H := fun {k o} hk j q hq => by
    match j, hq with
    | 0, hq => cases hq; exact hR.1 k o hk
    | j + 1, hq => simp at hq
  have hstep : eArg b st [] (fun as r => bif c == 0 then eCall T C M a as r h kc ks (eRetK n ls r K0) (eThrK M Q pc ls K0) else eCall T C M a as r h kc ks (eRetK n ls r K0) (fun _ _ _ _ => False)) := hstep
  have hd : decode (mBy M) pc = .ok (.invokestatic x9, 3) := hd
  have hn : n = pc + 3 := hn
  subst hn
  obtain ⟨as, r, rfl, hlen, hs⟩ := eArg_s hstep
  rw [List.append_nil] at hs
  obtain ⟨hY, har, w2, hlk⟩ := hlk
  have hnth : ∀ (h' : eH) (E k1 k2 : Nat), (fun (_ : Nat) (_ : eH) (_ _ : Nat) => False) E h' k1 k2 → False := fun _ _ _ _ h => h
  have hari : ∀ sig, parseMethodDescriptor (mNm (T a)).desc = some sig → b = sig.parameters.length := fun sig h9 => by have := har; unfold eAri at this; rw [h9] at this; exact (Option.some.inj this).symm
  have hcat9 : ∀ {k : List Value}, Nat.ble (eCat r) 8 = true → 2 * (F0 m pc lsA k).monitorRoom + ((r.map (eV base b0)).map fun v => v.category).sum ≤ 8 := fun h9 => by show 2 * 0 + _ ≤ 8; rw [eCat_sum]; have := Nat.le_of_ble_eq_true h9; omega
  cases hc : (c == 0) with
  | true =>
    rw [hc] at hs
    obtain ⟨⟨hcat, hkc, hks⟩, hCC⟩ := hs
    rw [if_pos (eq_of_beq hc)] at hlk
    obtain ⟨hYh, w1⟩ := hlk
    have h2d := hdC _ _ _ _ hCC
    have hcon := hC _ _ _ _ hCC hY
    have hr := vx_runS (p := p) (e := e) (R := R) (s := s) (m := m) (args := args) (below := below) (meth := meth) (c := c0) (H := H) (locs := locs) (cells := kc) (slots := ks) (own := (mNm M).cls) (index := x9) (y := mNm (T a)) (bytes := mBy (T a)) (maxL := mLo (T a)) (nL := mLo M) (ret := mRt (T a)) (n := b) (As := as.map (eV base b0)) (rest := r.map (eV base b0)) (g := F0 m pc lsA ((as.reverse ++ r).map (eV base b0))) (cc := mBy M) (Ts := lw_tbl.filter goodWord) ⟨hx, hb, hml, hown, hts⟩ hcon
      ⟨⟨rfl, rfl, by show d - 1 + 1 ≤ R.frames; omega, by show 8 + (mLo (T a) + 11) + 38 * (d - 1) ≤ R.locals; have := hY.2.2.2.2; omega, eWs_ok hG hY, by rw [← mWd_nil hYh]; exact List.mem_cons_self, by rw [← mWd_nil hYh]; exact hG _ hY.1, hG _ hY.2.1, hY.2.2.1, hari, hG _ w1⟩, hG _ w2⟩
      ⟨eCon_blind, fun U hU hW => eEV.call hE hR hSS U hU hW⟩ rfl (by simp [hlen]) hl.1 (by simp) (hcat9 hcat) hd ⟨Nat.le_trans hkc hRc, Nat.le_trans hks hRs⟩
    exact e_back (kr := eRetK (pc + 3) ls r K0) (kt := eThrK M Q pc ls K0) hr hSS (fun v h' H1 locs1 hkr hR1 hS1 => by
      cases v with
      | none => exact hK0 _ _ _ _ _ _ hkr H1 locs1 lsA hR1 hS1 hl
      | some v => exact hK0 _ _ _ _ _ _ hkr H1 locs1 lsA hR1 hS1 hl) (fun E h' H1 locs1 q9 ce hkt hE3 hR1 hS1 hce hcv hcl => by
      exact e_catch cx hl E h' H1 locs1 q9 ce _ _ hkt hE3 hR1 hS1 hce hcv hcl hkc hks)
  | false =>
    rw [hc] at hs
    obtain ⟨⟨hcat, hkc, hks⟩, hCC⟩ := hs
    rw [if_neg (fun h9 => by simp [h9] at hc)] at hlk
    have h2d := hdC _ _ _ _ hCC
    have hcon := eCon_met (hC _ _ _ _ hCC hY) (fun n h' h9 => h9)
    by_cases hc1 : c = 1
    · rw [if_pos hc1] at hlk
      obtain ⟨hYh, w1⟩ := hlk
      have hr := va_runSN (p := p) (e := e) (R := R) (s := s) (m := m) (args := args) (below := below) (meth := meth) (c := c0) (H := H) (locs := locs) (cells := kc) (slots := ks) (own := (mNm M).cls) (host := RX6) (index := x9) (y := mNm (T a)) (bytes := mBy (T a)) (maxL := mLo (T a)) (nL := mLo M) (ret := mRt (T a)) (n := b) (As := as.map (eV base b0)) (rest := r.map (eV base b0)) (g := F0 m pc lsA ((as.reverse ++ r).map (eV base b0))) (cc := mBy M) (Ts := lw_tbl.filter goodWord) ⟨hx, hb, hml, hown, hts⟩ hcon
        ⟨⟨⟨rfl, rfl, by show d - 1 + 1 ≤ R.frames; omega, by show 8 + (mLo (T a) + 11) + 38 * (d - 1) ≤ R.locals; have := hY.2.2.2.2; omega, eWs_ok hG hY, by rw [← mWd_nil hYh]; exact List.mem_cons_self⟩, by rw [← mWd_nil hYh]; exact hG _ hY.1, hG _ hY.2.1, hY.2.2.1, hari, va_Nw.use rfl (hNG _ w1)⟩, hG _ w2, trivial⟩
        ⟨eCon_blind, fun U hU hW => eEV.call hE hR hSS U hU hW⟩ rfl (by simp [hlen]) hl.1 (by simp) (hcat9 hcat) hd ⟨Nat.le_trans hkc hRc, Nat.le_trans hks hRs⟩
      exact e_backM (kr := eRetK (pc + 3) ls r K0) hr hSS (fun v h' H1 locs1 hkr hR1 hS1 => by
        cases v with
        | none => exact hK0 _ _ _ _ _ _ hkr H1 locs1 lsA hR1 hS1 hl
        | some v => exact hK0 _ _ _ _ _ _ hkr H1 locs1 lsA hR1 hS1 hl)
    · rw [if_neg hc1] at hlk
      obtain ⟨hYh, w1⟩ := hlk
      have hr := vx_runSW (p := p) (e := e) (R := R) (s := s) (m := m) (args := args) (below := below) (meth := meth) (c := c0) (H := H) (locs := locs) (cells := kc) (slots := ks) (own := (mNm M).cls) (index := x9) (y := mNm (T a)) (bytes := mBy (T a)) (maxL := mLo (T a)) (nL := mLo M) (ret := mRt (T a)) (hh := mHh (T a)) (n := b) (As := as.map (eV base b0)) (rest := r.map (eV base b0)) (g := F0 m pc lsA ((as.reverse ++ r).map (eV base b0))) (cc := mBy M) (Ts := lw_tbl.filter goodWord) ⟨hx, hb, hml, hown, hts⟩ hcon
        ⟨⟨rfl, rfl, by show d - 1 + 1 ≤ R.frames; omega, by show 8 + (mLo (T a) + 11) + 38 * (d - 1) ≤ R.locals; have := hY.2.2.2.2; omega, eWs_ok hG hY, by rw [← mWd_ne hYh]; exact List.mem_cons_self⟩, by rw [← mWd_ne hYh]; exact hG _ hY.1, hG _ hY.2.1, hY.2.2.1, hari, hG _ w1, hG _ w2⟩
        ⟨eCon_blind, fun U hU hW => eEV.call hE hR hSS U hU hW⟩ rfl (by simp [hlen]) hl.1 (by simp) (hcat9 hcat) hd ⟨Nat.le_trans hkc hRc, Nat.le_trans hks hRs⟩
      exact e_backM (kr := eRetK (pc + 3) ls r K0) hr hSS (fun v h' H1 locs1 hkr hR1 hS1 => by
        cases v with
        | none => exact hK0 _ _ _ _ _ _ hkr H1 locs1 lsA hR1 hS1 hl
        | some v => exact hK0 _ _ _ _ _ _ hkr H1 locs1 lsA hR1 hS1 hl)
set_option maxHeartbeats 4000000 in
set_option maxRecDepth 100000 in
theorem ei_invokespecial (cx : eCx p l e R s m args below meth c0 D dA base b0 S T C M d Q Fin K0) (x9 : Nat) {n a b c pc : Nat} {ls : eL} {st : List Value} {h : eH} {kc ks : Nat} {H : Heap} {locs : List Loc} {lsA : Array Slot} (hd : decode (mBy M) pc = .ok ((.invokespecial x9), eLen pc (.invokespecial x9) n)) (hn : n = pc + eLen pc (.invokespecial x9) n) (hi : eIns M pc (.invokespecial x9) a b c = true) (hlk : eLink T M (pc, (.invokespecial x9), n, a, b, c)) (hR : eRH D dA base b0 h H) (hSS : va_S (fun q => base ≤ q) s.heap H locs) (hl : lv_has lsA (mLo M) (eLs base b0 ls)) (hstep : okI S T C M d Q (.invokespecial x9) n a b c pc ls st h kc ks K0) : W p l e R s m args below meth c0 H locs kc ks Fin (F0 m pc lsA (st.map (eV base b0))) := by
  have cx0 := cx
  obtain ⟨hK0, hx, hb, hml, hown, hG, hE, hOK, hCl, hCa, hinit, hRf, hRl, hd1, hRc, hRs, htab, hC, hdC, hfin, hout, hthr⟩ := cx0
  have hOK0 := hOK
  obtain ⟨hOKc, hOKl, hOKh⟩ := hOK0
  have hE0 := hE
  obtain ⟨hNG, hStr, hZ1, hZ2, hAO, hK, hAr, hX, hbb, hbs, hNc⟩ := hE0
  have hA : ∀ q : Nat, s.heap.size ≤ q → base ≤ q := va_SA hbs
  have hts : ∀ w ∈ lw_tbl.filter goodWord, w.before args s = true := fun w hw => hG w ⟨(List.mem_filter.mp hw).1, (List.mem_filter.mp hw).2⟩
  have hKy : ∀ t, t ≤ 4 → va_K D vwCl [(dA t, eTyA t)] s := fun t ht => ⟨hK.1, fun k q hq => by
    match k, hq with
    | 0, hq => cases hq; exact hAr t ht
    | k + 1, hq => simp at hq⟩
  have hP1 : ∀ {k : Nat} {o : va_E}, h.2[k]? = some o → va_P D vwCl [(base + k, eZ dA base b0 o)] H := fun {k o} hk j q hq => by
    match j, hq with
    | 0, hq => cases hq; exact hR.1 k o hk
    | j + 1, hq => simp at hq
  have hd : decode (mBy M) pc = .ok (.invokespecial x9, 3) := hd
  have hn : n = pc + 3 := hn
  subst hn
  have hstep : (bif c == 2 then mR st (fun _ r => Nat.ble (eCat r) 8 = true ∧ 1 ≤ d ∧ K0 (pc + 3) ls r h kc ks) else eArg b st [] (fun as r => mR as (fun _ _ => eCall T C M a as r h kc ks (eRetK (pc + 3) ls r K0) (fun _ _ _ _ => False)))) := hstep
  cases hc : (c == 2) with
  | true =>
    rw [hc] at hstep
    have hlk : if c = 2 then eW (.methodLink (mNm M).cls x9 objectInit) ∧ eW (.instanceMethod objectInit) ∧ eW (.code objectInit ⟨#[0xb1]⟩ 1 none) else _ := hlk
    rw [if_pos (eq_of_beq hc)] at hlk
    obtain ⟨q, r, rfl, hcat, hd9, hk⟩ := mR_s hstep
    have hcat := Nat.le_of_ble_eq_true hcat
    refine W.objInit hx hb hown (hG _ hlk.1) (hG _ hlk.2.1) (hG _ hlk.2.2) rfl (hl.1.trans hml.symm) (a := eAd base b0 q) (rest := r.map (eV base b0)) rfl hd (by omega) (by show 2 * 0 + _ + 12 ≤ R.locals; rw [eCat_sum]; omega) ?_
    exact hK0 _ _ _ _ _ _ hk H locs lsA hR hSS hl
  | false =>
    rw [hc] at hstep
    have hlk : if c = 2 then _ else eMeth (T a) ∧ mHh (T a) = [] ∧ mRt (T a) = none ∧ (mNm (T a)).name = "<init>" ∧ (∃ n, b = n + 1 ∧ eAri (T a) n) ∧ eW (.instanceMethod (mNm (T a))) ∧ (if c = 0 then eW (.methodLink (mNm M).cls x9 (mNm (T a))) else eX (.methodLinkNest (mNm M).cls x9 (mNm (T a)) RX6)) := hlk
    rw [if_neg (fun h9 => by simp [h9] at hc)] at hlk
    obtain ⟨as, r, rfl, hlen, hs⟩ := eArg_s hstep
    rw [List.append_nil] at hs
    obtain ⟨q, as1, rfl, ⟨hcat, hkc, hks⟩, hCC⟩ := mR_s hs
    obtain ⟨hY, hYh, hYr, hYn, ⟨n9, hb9, har⟩, w2, hlk⟩ := hlk
    have h2d := hdC _ _ _ _ hCC
    have hari : ∀ sig, parseMethodDescriptor (mNm (T a)).desc = some sig → n9 = sig.parameters.length := fun sig h9 => by have := har; unfold eAri at this; rw [h9] at this; exact (Option.some.inj this).symm
    have hcat9 : ∀ {k : List Value}, Nat.ble (eCat r) 8 = true → 2 * (F0 m pc lsA k).monitorRoom + ((r.map (eV base b0)).map fun v => v.category).sum ≤ 8 := fun h9 => by show 2 * 0 + _ ≤ 8; rw [eCat_sum]; have := Nat.le_of_ble_eq_true h9; omega
    have hcon := hC _ _ _ _ hCC hY
    have hcd : Cond.code (mNm (T a)) (mBy (T a)) (mLo (T a)) none ∈ mWd (T a) :: lw_tbl.filter goodWord := by rw [mWd_nil hYh, hYr]; exact List.mem_cons_self
    have hcd2 : (Cond.code (mNm (T a)) (mBy (T a)) (mLo (T a)) none).before args s = true := by have h9 := hG _ hY.1; rw [mWd_nil hYh, hYr] at h9; exact h9
    by_cases hc0 : c = 0
    · rw [if_pos hc0] at hlk
      have hr := vx_runI (p := p) (e := e) (R := R) (s := s) (m := m) (args := args) (below := below) (meth := meth) (c := c0) (H := H) (locs := locs) (cells := kc) (slots := ks) (own := (mNm M).cls) (index := x9) (y := mNm (T a)) (bytes := mBy (T a)) (maxL := mLo (T a)) (nL := mLo M) (n := n9) (b := eAd base b0 q) (As := as1.map (eV base b0)) (rest := r.map (eV base b0)) (g := F0 m pc lsA (((Value.ref q :: as1).reverse ++ r).map (eV base b0))) (cc := mBy M) (Ts := lw_tbl.filter goodWord) ⟨hx, hb, hml, hown, hts⟩ hcon
        ⟨⟨rfl, rfl, by show d - 1 + 1 ≤ R.frames; omega, by show 8 + (mLo (T a) + 11) + 38 * (d - 1) ≤ R.locals; have := hY.2.2.2.2; omega, eWs_ok hG hY, hcd, hcd2, hG _ hY.2.1, hY.2.2.1, hari, hG _ hlk⟩, hYn, hG _ w2⟩
        ⟨eCon_blind, fun U hU hW => eEV.call hE hR hSS U hU hW⟩ rfl (by simp at hlen ⊢; omega) hl.1 (by simp [eV]) (hcat9 hcat) hd ⟨Nat.le_trans hkc hRc, Nat.le_trans hks hRs⟩
      exact e_back (kr := eRetK (pc + 3) ls r K0) (kt := fun _ _ _ _ => False) hr hSS (fun v h' H1 locs1 hkr hR1 hS1 => by
        cases v with
        | none => exact hK0 _ _ _ _ _ _ hkr H1 locs1 lsA hR1 hS1 hl
        | some v => exact hK0 _ _ _ _ _ _ hkr H1 locs1 lsA hR1 hS1 hl) (fun E h' H1 locs1 q9 ce hkt hE3 hR1 hS1 hce hcv hcl => hkt.elim)
    · rw [if_neg hc0] at hlk
      have hr := vx_runIN (p := p) (e := e) (R := R) (s := s) (m := m) (args := args) (below := below) (meth := meth) (c := c0) (H := H) (locs := locs) (cells := kc) (slots := ks) (own := (mNm M).cls) (host := RX6) (index := x9) (y := mNm (T a)) (bytes := mBy (T a)) (maxL := mLo (T a)) (nL := mLo M) (n := n9) (b := eAd base b0 q) (As := as1.map (eV base b0)) (rest := r.map (eV base b0)) (g := F0 m pc lsA (((Value.ref q :: as1).reverse ++ r).map (eV base b0))) (cc := mBy M) (Ts := lw_tbl.filter goodWord) ⟨hx, hb, hml, hown, hts⟩ hcon
        ⟨⟨⟨rfl, rfl, by show d - 1 + 1 ≤ R.frames; omega, by show 8 + (mLo (T a) + 11) + 38 * (d - 1) ≤ R.locals; have := hY.2.2.2.2; omega, eWs_ok hG hY, hcd⟩, hcd2, hG _ hY.2.1, hY.2.2.1, hari, va_Nw.use rfl (hNG _ hlk)⟩, hYn, hG _ w2⟩
        ⟨eCon_blind, fun U hU hW => eEV.call hE hR hSS U hU hW⟩ rfl (by simp at hlen ⊢; omega) hl.1 (by simp [eV]) (hcat9 hcat) hd ⟨Nat.le_trans hkc hRc, Nat.le_trans hks hRs⟩
      exact e_back (kr := eRetK (pc + 3) ls r K0) (kt := fun _ _ _ _ => False) hr hSS (fun v h' H1 locs1 hkr hR1 hS1 => by
        cases v with
        | none => exact hK0 _ _ _ _ _ _ hkr H1 locs1 lsA hR1 hS1 hl
        | some v => exact hK0 _ _ _ _ _ _ hkr H1 locs1 lsA hR1 hS1 hl) (fun E h' H1 locs1 q9 ce hkt hE3 hR1 hS1 hce hcv hcl => hkt.elim)
set_option maxHeartbeats 4000000 in
set_option maxRecDepth 100000 in
theorem ei_lreturn (cx : eCx p l e R s m args below meth c0 D dA base b0 S T C M d Q Fin K0)  {n a b c pc : Nat} {ls : eL} {st : List Value} {h : eH} {kc ks : Nat} {H : Heap} {locs : List Loc} {lsA : Array Slot} (hd : decode (mBy M) pc = .ok (.lreturn, eLen pc .lreturn n)) (hn : n = pc + eLen pc .lreturn n) (hi : eIns M pc .lreturn a b c = true) (hlk : eLink T M (pc, .lreturn, n, a, b, c)) (hR : eRH D dA base b0 h H) (hSS : va_S (fun q => base ≤ q) s.heap H locs) (hl : lv_has lsA (mLo M) (eLs base b0 ls)) (hstep : okI S T C M d Q .lreturn n a b c pc ls st h kc ks K0) : W p l e R s m args below meth c0 H locs kc ks Fin (F0 m pc lsA (st.map (eV base b0))) := by
  have cx0 := cx
  obtain ⟨hK0, hx, hb, hml, hown, hG, hE, hOK, hCl, hCa, hinit, hRf, hRl, hd1, hRc, hRs, htab, hC, hdC, hfin, hout, hthr⟩ := cx0
  have hOK0 := hOK
  obtain ⟨hOKc, hOKl, hOKh⟩ := hOK0
  have hE0 := hE
  obtain ⟨hNG, hStr, hZ1, hZ2, hAO, hK, hAr, hX, hbb, hbs, hNc⟩ := hE0
  have hA : ∀ q : Nat, s.heap.size ≤ q → base ≤ q := va_SA hbs
  have hts : ∀ w ∈ lw_tbl.filter goodWord, w.before args s = true := fun w hw => hG w ⟨(List.mem_filter.mp hw).1, (List.mem_filter.mp hw).2⟩
  have hKy : ∀ t, t ≤ 4 → va_K D vwCl [(dA t, eTyA t)] s := fun t ht => ⟨hK.1, fun k q hq => by
    match k, hq with
    | 0, hq => cases hq; exact hAr t ht
    | k + 1, hq => simp at hq⟩
  have hP1 : ∀ {k : Nat} {o : va_E}, h.2[k]? = some o → va_P D vwCl [(base + k, eZ dA base b0 o)] H := fun {k o} hk j q hq => by
    match j, hq with
    | 0, hq => cases hq; exact hR.1 k o hk
    | j + 1, hq => simp at hq
  have hstep : mJ st (fun x r => mN r (eEnd M Q (some (.long x)) h kc ks)) := hstep
  have hd : decode (mBy M) pc = .ok (.lreturn, 1) := hd
  obtain ⟨x, r, rfl, hs⟩ := mJ_s hstep
  obtain ⟨rfl, hk⟩ := mN_s hs
  exact hfin .lreturn (some (.long x)) pc H locs lsA h kc ks (Or.inr (Or.inl ⟨rfl, ⟨x, rfl⟩, of_decide_eq_true hi⟩)) hd hk hR hSS
set_option maxHeartbeats 4000000 in
set_option maxRecDepth 100000 in
theorem ei_freturn (cx : eCx p l e R s m args below meth c0 D dA base b0 S T C M d Q Fin K0)  {n a b c pc : Nat} {ls : eL} {st : List Value} {h : eH} {kc ks : Nat} {H : Heap} {locs : List Loc} {lsA : Array Slot} (hd : decode (mBy M) pc = .ok (.freturn, eLen pc .freturn n)) (hn : n = pc + eLen pc .freturn n) (hi : eIns M pc .freturn a b c = true) (hlk : eLink T M (pc, .freturn, n, a, b, c)) (hR : eRH D dA base b0 h H) (hSS : va_S (fun q => base ≤ q) s.heap H locs) (hl : lv_has lsA (mLo M) (eLs base b0 ls)) (hstep : okI S T C M d Q .freturn n a b c pc ls st h kc ks K0) : W p l e R s m args below meth c0 H locs kc ks Fin (F0 m pc lsA (st.map (eV base b0))) := by
  have cx0 := cx
  obtain ⟨hK0, hx, hb, hml, hown, hG, hE, hOK, hCl, hCa, hinit, hRf, hRl, hd1, hRc, hRs, htab, hC, hdC, hfin, hout, hthr⟩ := cx0
  have hOK0 := hOK
  obtain ⟨hOKc, hOKl, hOKh⟩ := hOK0
  have hE0 := hE
  obtain ⟨hNG, hStr, hZ1, hZ2, hAO, hK, hAr, hX, hbb, hbs, hNc⟩ := hE0
  have hA : ∀ q : Nat, s.heap.size ≤ q → base ≤ q := va_SA hbs
  have hts : ∀ w ∈ lw_tbl.filter goodWord, w.before args s = true := fun w hw => hG w ⟨(List.mem_filter.mp hw).1, (List.mem_filter.mp hw).2⟩
  have hKy : ∀ t, t ≤ 4 → va_K D vwCl [(dA t, eTyA t)] s := fun t ht => ⟨hK.1, fun k q hq => by
    match k, hq with
    | 0, hq => cases hq; exact hAr t ht
    | k + 1, hq => simp at hq⟩
  have hP1 : ∀ {k : Nat} {o : va_E}, h.2[k]? = some o → va_P D vwCl [(base + k, eZ dA base b0 o)] H := fun {k o} hk j q hq => by
    match j, hq with
    | 0, hq => cases hq; exact hR.1 k o hk
    | j + 1, hq => simp at hq
  have hstep : mF st (fun x r => mN r (eEnd M Q (some (.float x)) h kc ks)) := hstep
  have hd : decode (mBy M) pc = .ok (.freturn, 1) := hd
  obtain ⟨x, r, rfl, hs⟩ := mF_s hstep
  obtain ⟨rfl, hk⟩ := mN_s hs
  exact hfin .freturn (some (.float x)) pc H locs lsA h kc ks (Or.inr (Or.inr (Or.inl ⟨rfl, ⟨x, rfl⟩, of_decide_eq_true hi⟩))) hd hk hR hSS
set_option maxHeartbeats 4000000 in
set_option maxRecDepth 100000 in
theorem ei_dreturn (cx : eCx p l e R s m args below meth c0 D dA base b0 S T C M d Q Fin K0)  {n a b c pc : Nat} {ls : eL} {st : List Value} {h : eH} {kc ks : Nat} {H : Heap} {locs : List Loc} {lsA : Array Slot} (hd : decode (mBy M) pc = .ok (.dreturn, eLen pc .dreturn n)) (hn : n = pc + eLen pc .dreturn n) (hi : eIns M pc .dreturn a b c = true) (hlk : eLink T M (pc, .dreturn, n, a, b, c)) (hR : eRH D dA base b0 h H) (hSS : va_S (fun q => base ≤ q) s.heap H locs) (hl : lv_has lsA (mLo M) (eLs base b0 ls)) (hstep : okI S T C M d Q .dreturn n a b c pc ls st h kc ks K0) : W p l e R s m args below meth c0 H locs kc ks Fin (F0 m pc lsA (st.map (eV base b0))) := by
  have cx0 := cx
  obtain ⟨hK0, hx, hb, hml, hown, hG, hE, hOK, hCl, hCa, hinit, hRf, hRl, hd1, hRc, hRs, htab, hC, hdC, hfin, hout, hthr⟩ := cx0
  have hOK0 := hOK
  obtain ⟨hOKc, hOKl, hOKh⟩ := hOK0
  have hE0 := hE
  obtain ⟨hNG, hStr, hZ1, hZ2, hAO, hK, hAr, hX, hbb, hbs, hNc⟩ := hE0
  have hA : ∀ q : Nat, s.heap.size ≤ q → base ≤ q := va_SA hbs
  have hts : ∀ w ∈ lw_tbl.filter goodWord, w.before args s = true := fun w hw => hG w ⟨(List.mem_filter.mp hw).1, (List.mem_filter.mp hw).2⟩
  have hKy : ∀ t, t ≤ 4 → va_K D vwCl [(dA t, eTyA t)] s := fun t ht => ⟨hK.1, fun k q hq => by
    match k, hq with
    | 0, hq => cases hq; exact hAr t ht
    | k + 1, hq => simp at hq⟩
  have hP1 : ∀ {k : Nat} {o : va_E}, h.2[k]? = some o → va_P D vwCl [(base + k, eZ dA base b0 o)] H := fun {k o} hk j q hq => by
    match j, hq with
    | 0, hq => cases hq; exact hR.1 k o hk
    | j + 1, hq => simp at hq
  have hstep : mD st (fun x r => mN r (eEnd M Q (some (.double x)) h kc ks)) := hstep
  have hd : decode (mBy M) pc = .ok (.dreturn, 1) := hd
  obtain ⟨x, r, rfl, hs⟩ := mD_s hstep
  obtain ⟨rfl, hk⟩ := mN_s hs
  exact hfin .dreturn (some (.double x)) pc H locs lsA h kc ks (Or.inr (Or.inr (Or.inr (Or.inl ⟨rfl, ⟨x, rfl⟩, of_decide_eq_true hi⟩)))) hd hk hR hSS
set_option maxHeartbeats 4000000 in
set_option maxRecDepth 100000 in
theorem ei_areturn (cx : eCx p l e R s m args below meth c0 D dA base b0 S T C M d Q Fin K0)  {n a b c pc : Nat} {ls : eL} {st : List Value} {h : eH} {kc ks : Nat} {H : Heap} {locs : List Loc} {lsA : Array Slot} (hd : decode (mBy M) pc = .ok (.areturn, eLen pc .areturn n)) (hn : n = pc + eLen pc .areturn n) (hi : eIns M pc .areturn a b c = true) (hlk : eLink T M (pc, .areturn, n, a, b, c)) (hR : eRH D dA base b0 h H) (hSS : va_S (fun q => base ≤ q) s.heap H locs) (hl : lv_has lsA (mLo M) (eLs base b0 ls)) (hstep : okI S T C M d Q .areturn n a b c pc ls st h kc ks K0) : W p l e R s m args below meth c0 H locs kc ks Fin (F0 m pc lsA (st.map (eV base b0))) := by
  have cx0 := cx
  obtain ⟨hK0, hx, hb, hml, hown, hG, hE, hOK, hCl, hCa, hinit, hRf, hRl, hd1, hRc, hRs, htab, hC, hdC, hfin, hout, hthr⟩ := cx0
  have hOK0 := hOK
  obtain ⟨hOKc, hOKl, hOKh⟩ := hOK0
  have hE0 := hE
  obtain ⟨hNG, hStr, hZ1, hZ2, hAO, hK, hAr, hX, hbb, hbs, hNc⟩ := hE0
  have hA : ∀ q : Nat, s.heap.size ≤ q → base ≤ q := va_SA hbs
  have hts : ∀ w ∈ lw_tbl.filter goodWord, w.before args s = true := fun w hw => hG w ⟨(List.mem_filter.mp hw).1, (List.mem_filter.mp hw).2⟩
  have hKy : ∀ t, t ≤ 4 → va_K D vwCl [(dA t, eTyA t)] s := fun t ht => ⟨hK.1, fun k q hq => by
    match k, hq with
    | 0, hq => cases hq; exact hAr t ht
    | k + 1, hq => simp at hq⟩
  have hP1 : ∀ {k : Nat} {o : va_E}, h.2[k]? = some o → va_P D vwCl [(base + k, eZ dA base b0 o)] H := fun {k o} hk j q hq => by
    match j, hq with
    | 0, hq => cases hq; exact hR.1 k o hk
    | j + 1, hq => simp at hq
  have hstep : mR st (fun x r => mN r (eEnd M Q (some (.ref x)) h kc ks)) := hstep
  have hd : decode (mBy M) pc = .ok (.areturn, 1) := hd
  obtain ⟨x, r, rfl, hs⟩ := mR_s hstep
  obtain ⟨rfl, hk⟩ := mN_s hs
  exact hfin .areturn (some (.ref x)) pc H locs lsA h kc ks (Or.inr (Or.inr (Or.inr (Or.inr (Or.inl ⟨rfl, ⟨x, rfl⟩, of_decide_eq_true hi⟩))))) hd hk hR hSS
set_option maxHeartbeats 4000000 in
set_option maxRecDepth 100000 in
theorem ei_ireturn (cx : eCx p l e R s m args below meth c0 D dA base b0 S T C M d Q Fin K0)  {n a b c pc : Nat} {ls : eL} {st : List Value} {h : eH} {kc ks : Nat} {H : Heap} {locs : List Loc} {lsA : Array Slot} (hd : decode (mBy M) pc = .ok (.ireturn, eLen pc .ireturn n)) (hn : n = pc + eLen pc .ireturn n) (hi : eIns M pc .ireturn a b c = true) (hlk : eLink T M (pc, .ireturn, n, a, b, c)) (hR : eRH D dA base b0 h H) (hSS : va_S (fun q => base ≤ q) s.heap H locs) (hl : lv_has lsA (mLo M) (eLs base b0 ls)) (hstep : okI S T C M d Q .ireturn n a b c pc ls st h kc ks K0) : W p l e R s m args below meth c0 H locs kc ks Fin (F0 m pc lsA (st.map (eV base b0))) := by
  have cx0 := cx
  obtain ⟨hK0, hx, hb, hml, hown, hG, hE, hOK, hCl, hCa, hinit, hRf, hRl, hd1, hRc, hRs, htab, hC, hdC, hfin, hout, hthr⟩ := cx0
  have hOK0 := hOK
  obtain ⟨hOKc, hOKl, hOKh⟩ := hOK0
  have hE0 := hE
  obtain ⟨hNG, hStr, hZ1, hZ2, hAO, hK, hAr, hX, hbb, hbs, hNc⟩ := hE0
  have hA : ∀ q : Nat, s.heap.size ≤ q → base ≤ q := va_SA hbs
  have hts : ∀ w ∈ lw_tbl.filter goodWord, w.before args s = true := fun w hw => hG w ⟨(List.mem_filter.mp hw).1, (List.mem_filter.mp hw).2⟩
  have hKy : ∀ t, t ≤ 4 → va_K D vwCl [(dA t, eTyA t)] s := fun t ht => ⟨hK.1, fun k q hq => by
    match k, hq with
    | 0, hq => cases hq; exact hAr t ht
    | k + 1, hq => simp at hq⟩
  have hP1 : ∀ {k : Nat} {o : va_E}, h.2[k]? = some o → va_P D vwCl [(base + k, eZ dA base b0 o)] H := fun {k o} hk j q hq => by
    match j, hq with
    | 0, hq => cases hq; exact hR.1 k o hk
    | j + 1, hq => simp at hq
  have hstep : mI st (fun x r => mN r (eNar (mRt M) x ∧ eEnd M Q (some (.int x)) h kc ks)) := hstep
  have hd : decode (mBy M) pc = .ok (.ireturn, 1) := hd
  obtain ⟨x, r, rfl, hs⟩ := mI_s hstep
  obtain ⟨rfl, hnr, hk⟩ := mN_s hs
  exact hfin .ireturn (some (.int x)) pc H locs lsA h kc ks (Or.inl ⟨rfl, x, rfl, hnr⟩) hd hk hR hSS
set_option maxHeartbeats 4000000 in
set_option maxRecDepth 100000 in
theorem ei_return_ (cx : eCx p l e R s m args below meth c0 D dA base b0 S T C M d Q Fin K0)  {n a b c pc : Nat} {ls : eL} {st : List Value} {h : eH} {kc ks : Nat} {H : Heap} {locs : List Loc} {lsA : Array Slot} (hd : decode (mBy M) pc = .ok (.return_, eLen pc .return_ n)) (hn : n = pc + eLen pc .return_ n) (hi : eIns M pc .return_ a b c = true) (hlk : eLink T M (pc, .return_, n, a, b, c)) (hR : eRH D dA base b0 h H) (hSS : va_S (fun q => base ≤ q) s.heap H locs) (hl : lv_has lsA (mLo M) (eLs base b0 ls)) (hstep : okI S T C M d Q .return_ n a b c pc ls st h kc ks K0) : W p l e R s m args below meth c0 H locs kc ks Fin (F0 m pc lsA (st.map (eV base b0))) := by
  have cx0 := cx
  obtain ⟨hK0, hx, hb, hml, hown, hG, hE, hOK, hCl, hCa, hinit, hRf, hRl, hd1, hRc, hRs, htab, hC, hdC, hfin, hout, hthr⟩ := cx0
  have hOK0 := hOK
  obtain ⟨hOKc, hOKl, hOKh⟩ := hOK0
  have hE0 := hE
  obtain ⟨hNG, hStr, hZ1, hZ2, hAO, hK, hAr, hX, hbb, hbs, hNc⟩ := hE0
  have hA : ∀ q : Nat, s.heap.size ≤ q → base ≤ q := va_SA hbs
  have hts : ∀ w ∈ lw_tbl.filter goodWord, w.before args s = true := fun w hw => hG w ⟨(List.mem_filter.mp hw).1, (List.mem_filter.mp hw).2⟩
  have hKy : ∀ t, t ≤ 4 → va_K D vwCl [(dA t, eTyA t)] s := fun t ht => ⟨hK.1, fun k q hq => by
    match k, hq with
    | 0, hq => cases hq; exact hAr t ht
    | k + 1, hq => simp at hq⟩
  have hP1 : ∀ {k : Nat} {o : va_E}, h.2[k]? = some o → va_P D vwCl [(base + k, eZ dA base b0 o)] H := fun {k o} hk j q hq => by
    match j, hq with
    | 0, hq => cases hq; exact hR.1 k o hk
    | j + 1, hq => simp at hq
  have hstep : mN st (eEnd M Q none h kc ks) := hstep
  have hd : decode (mBy M) pc = .ok (.return_, 1) := hd
  obtain ⟨rfl, hk⟩ := mN_s hstep
  exact hfin .return_ none pc H locs lsA h kc ks (Or.inr (Or.inr (Or.inr (Or.inr (Or.inr ⟨rfl, rfl, of_decide_eq_true hi⟩))))) hd hk hR hSS
end InsD
end
section
section Clo
variable {p : Program} {l : Launch} {e : Env} {R : Room} {s : State} {m : MethodId} {args : Array Value} {below : List Frame} {meth : Method} {c0 : Code} {Fin : State → Prop}
variable {S : Nat × (Nat → Int32)} {T : Nat → eM} {C : eC} {M : eM} {d : Nat} {Q : eQ} {D : va_G} {dA : Nat → ClassId} {base b0 : Nat} {K0 : eK}
set_option maxHeartbeats 4000000 in
set_option maxRecDepth 100000 in
theorem e_close (cx : eCx p l e R s m args below meth c0 D dA base b0 S T C M d Q Fin K0) : ∀ (pc : Nat) (ls : eL) (st : List Value) (h : eH) (kc ks : Nat), eStep S T C M d Q K0 pc ls st h kc ks → eSim p l e R s m args below meth c0 D dA base b0 (mLo M) Fin pc ls st h kc ks := by
  intro pc ls st h kc ks hstep H locs lsA hR hSS hl
  have cx0 := cx
  obtain ⟨hK0, hx, hb, hml, hown, hG, hE, hOK, hCl, hCa, hinit, hRf, hRl, hd1, hRc, hRs, htab, hC, hdC, hfin, hout, hthr⟩ := cx0
  obtain ⟨hOKc, hOKl, hOKh⟩ := hOK
  unfold eStep at hstep
  split at hstep
  rotate_left
  · exact hstep.elim
  rename_i i n a b c heq
  have hmem := eAt_mem heq
  have hlk := hOKl _ hmem
  have hchk := hOKc _ hmem
  simp only [eChk, Bool.and_eq_true, decide_eq_true_eq, beq_iff_eq] at hchk
  obtain ⟨⟨hd, hn⟩, hi⟩ := hchk
  clear hmem heq
  cases i
  case aload_n j => exact ei_aload_n cx j hd hn hi hlk hR hSS hl hstep
  case iload_n j => exact ei_iload_n cx j hd hn hi hlk hR hSS hl hstep
  case lload_n j => exact ei_lload_n cx j hd hn hi hlk hR hSS hl hstep
  case aload j => exact ei_aload cx j hd hn hi hlk hR hSS hl hstep
  case iload j => exact ei_iload cx j hd hn hi hlk hR hSS hl hstep
  case lload j => exact ei_lload cx j hd hn hi hlk hR hSS hl hstep
  case fload j => exact ei_fload cx j hd hn hi hlk hR hSS hl hstep
  case dload j => exact ei_dload cx j hd hn hi hlk hR hSS hl hstep
  case astore_n j => exact ei_astore_n cx j hd hn hi hlk hR hSS hl hstep
  case istore_n j => exact ei_istore_n cx j hd hn hi hlk hR hSS hl hstep
  case astore j => exact ei_astore cx j hd hn hi hlk hR hSS hl hstep
  case istore j => exact ei_istore cx j hd hn hi hlk hR hSS hl hstep
  case fstore j => exact ei_fstore cx j hd hn hi hlk hR hSS hl hstep
  case lstore_n j => exact ei_lstore_n cx j hd hn hi hlk hR hSS hl hstep
  case lstore j => exact ei_lstore cx j hd hn hi hlk hR hSS hl hstep
  case dstore j => exact ei_dstore cx j hd hn hi hlk hR hSS hl hstep
  case iinc j v9 => exact ei_iinc cx j v9 hd hn hi hlk hR hSS hl hstep
  case iconst v9 => exact ei_iconst cx v9 hd hn hi hlk hR hSS hl hstep
  case bipush v9 => exact ei_bipush cx v9 hd hn hi hlk hR hSS hl hstep
  case sipush v9 => exact ei_sipush cx v9 hd hn hi hlk hR hSS hl hstep
  case ldc x9 => exact ei_ldc cx x9 hd hn hi hlk hR hSS hl hstep
  case ldc_w x9 => exact ei_ldc_w cx x9 hd hn hi hlk hR hSS hl hstep
  case lconst v9 => exact ei_lconst cx v9 hd hn hi hlk hR hSS hl hstep
  case ldc2_w x9 => exact ei_ldc2_w cx x9 hd hn hi hlk hR hSS hl hstep
  case fconst v9 => exact ei_fconst cx v9 hd hn hi hlk hR hSS hl hstep
  case dconst v9 => exact ei_dconst cx v9 hd hn hi hlk hR hSS hl hstep
  case iadd => exact ei_iadd cx hd hn hi hlk hR hSS hl hstep
  case isub => exact ei_isub cx hd hn hi hlk hR hSS hl hstep
  case imul => exact ei_imul cx hd hn hi hlk hR hSS hl hstep
  case iand => exact ei_iand cx hd hn hi hlk hR hSS hl hstep
  case ior => exact ei_ior cx hd hn hi hlk hR hSS hl hstep
  case ixor => exact ei_ixor cx hd hn hi hlk hR hSS hl hstep
  case ishl => exact ei_ishl cx hd hn hi hlk hR hSS hl hstep
  case ishr => exact ei_ishr cx hd hn hi hlk hR hSS hl hstep
  case iushr => exact ei_iushr cx hd hn hi hlk hR hSS hl hstep
  case irem => exact ei_irem cx hd hn hi hlk hR hSS hl hstep
  case ineg => exact ei_ineg cx hd hn hi hlk hR hSS hl hstep
  case i2l => exact ei_i2l cx hd hn hi hlk hR hSS hl hstep
  case i2f => exact ei_i2f cx hd hn hi hlk hR hSS hl hstep
  case i2d => exact ei_i2d cx hd hn hi hlk hR hSS hl hstep
  case l2i => exact ei_l2i cx hd hn hi hlk hR hSS hl hstep
  case ladd => exact ei_ladd cx hd hn hi hlk hR hSS hl hstep
  case lsub => exact ei_lsub cx hd hn hi hlk hR hSS hl hstep
  case lmul => exact ei_lmul cx hd hn hi hlk hR hSS hl hstep
  case land => exact ei_land cx hd hn hi hlk hR hSS hl hstep
  case lor => exact ei_lor cx hd hn hi hlk hR hSS hl hstep
  case lxor => exact ei_lxor cx hd hn hi hlk hR hSS hl hstep
  case lcmp => exact ei_lcmp cx hd hn hi hlk hR hSS hl hstep
  case lshl => exact ei_lshl cx hd hn hi hlk hR hSS hl hstep
  case lushr => exact ei_lushr cx hd hn hi hlk hR hSS hl hstep
  case fdiv => exact ei_fdiv cx hd hn hi hlk hR hSS hl hstep
  case ddiv => exact ei_ddiv cx hd hn hi hlk hR hSS hl hstep
  case f2d => exact ei_f2d cx hd hn hi hlk hR hSS hl hstep
  case fcmp op => exact ei_fcmp cx op hd hn hi hlk hR hSS hl hstep
  case dcmp op => exact ei_dcmp cx op hd hn hi hlk hR hSS hl hstep
  case dup => exact ei_dup cx hd hn hi hlk hR hSS hl hstep
  case pop => exact ei_pop cx hd hn hi hlk hR hSS hl hstep
  case dup2 => exact ei_dup2 cx hd hn hi hlk hR hSS hl hstep
  case ifCond cd off => exact ei_ifCond cx cd off hd hn hi hlk hR hSS hl hstep
  case if_icmp cd off => exact ei_if_icmp cx cd off hd hn hi hlk hR hSS hl hstep
  case goto off => exact ei_goto cx off hd hn hi hlk hR hSS hl hstep
  case tableswitch dflt lo hi9 offs => exact ei_tableswitch cx dflt lo hi9 offs hd hn hi hlk hR hSS hl hstep
  case getfield x9 => exact ei_getfield cx x9 hd hn hi hlk hR hSS hl hstep
  case putfield x9 => exact ei_putfield cx x9 hd hn hi hlk hR hSS hl hstep
  case arraylength => exact ei_arraylength cx hd hn hi hlk hR hSS hl hstep
  case iaload => exact ei_iaload cx hd hn hi hlk hR hSS hl hstep
  case baload => exact ei_baload cx hd hn hi hlk hR hSS hl hstep
  case laload => exact ei_laload cx hd hn hi hlk hR hSS hl hstep
  case daload => exact ei_daload cx hd hn hi hlk hR hSS hl hstep
  case aaload => exact ei_aaload cx hd hn hi hlk hR hSS hl hstep
  case iastore => exact ei_iastore cx hd hn hi hlk hR hSS hl hstep
  case bastore => exact ei_bastore cx hd hn hi hlk hR hSS hl hstep
  case lastore => exact ei_lastore cx hd hn hi hlk hR hSS hl hstep
  case dastore => exact ei_dastore cx hd hn hi hlk hR hSS hl hstep
  case aastore => exact ei_aastore cx hd hn hi hlk hR hSS hl hstep
  case newarray at9 => exact ei_newarray cx at9 hd hn hi hlk hR hSS hl hstep
  case anewarray x9 => exact ei_anewarray cx x9 hd hn hi hlk hR hSS hl hstep
  case new x9 => exact ei_new cx x9 hd hn hi hlk hR hSS hl hstep
  case invokevirtual x9 => exact ei_invokevirtual cx x9 hd hn hi hlk hR hSS hl hstep
  case invokestatic x9 => exact ei_invokestatic cx x9 hd hn hi hlk hR hSS hl hstep
  case invokespecial x9 => exact ei_invokespecial cx x9 hd hn hi hlk hR hSS hl hstep
  case lreturn => exact ei_lreturn cx hd hn hi hlk hR hSS hl hstep
  case freturn => exact ei_freturn cx hd hn hi hlk hR hSS hl hstep
  case dreturn => exact ei_dreturn cx hd hn hi hlk hR hSS hl hstep
  case areturn => exact ei_areturn cx hd hn hi hlk hR hSS hl hstep
  case ireturn => exact ei_ireturn cx hd hn hi hlk hR hSS hl hstep
  case return_ => exact ei_return_ cx hd hn hi hlk hR hSS hl hstep
  all_goals exact False.elim hstep
end Clo
end
section
/-! THE ENGINE: what its calls promise, the machine keeps -/
theorem eSl_len (base b : Nat) : ∀ as : List Value, (lg_sl (as.map (eV base b))).length = eCat as
  | [] => rfl
  | v :: r => by
    have ih := eSl_len base b r
    cases v <;> simp_all [lg_sl, eV, eCat, Value.category] <;> omega
theorem eArgs_map (base b : Nat) : ∀ (i : Nat) (as : List Value), lv_args i (as.map (eV base b)) = eLs base b (lv_args i as)
  | _, [] => rfl
  | i, v :: r => by
    have hc := eV_cat base b v
    show (i, eV base b v) :: lv_args (if (eV base b v).category = 2 then i + 2 else i + 1) (r.map (eV base b)) = (i, eV base b v) :: eLs base b (lv_args (if v.category = 2 then i + 2 else i + 1) r)
    rw [hc, eArgs_map base b _ r]
theorem exFit : ∀ a : Nat, Bundle.fit (exN a) = true
  | 0 => by decide
  | 1 => by decide
  | 2 => by decide
  | _ + 3 => by show Bundle.fit "java/util/NoSuchElementException" = true; decide
theorem exS_fit : ∀ n ∈ exS, Bundle.fit n = true := by decide
theorem eX_ot {w : Cond} (h : eW w ∨ eX w) : vx_ot w = true := by
  unfold vx_ot
  rcases h with h | h
  · rw [h.2]; simp
  · rw [eNg_good h.2]; rfl
section Snd
variable {p : Program} {l : Launch} {e : Env} {s : State} {m : MethodId} {args : Array Value} {below : List Frame} {meth : Method} {c0 : Code}
variable {S : Nat × (Nat → Int32)} {T : Nat → eM} {d : Nat} {Q : eQ} {D : va_G} {dA : Nat → ClassId} {base b0 : Nat}
set_option maxHeartbeats 4000000 in
theorem e_body {m' : Nat} {as : List Value} {h : eH} (htr : l.stackTraces = false) (hOK : eMok T (T m')) (hCl : ∀ q ∈ vwCl, eCls q) (hCa : ∀ E, E ≤ 3 → eX (.castable (exN E) (exN E)))
    (hC : ∀ (m' : Nat) (as : List Value) (h : eH) (Q' : eQ), okCall S T d m' as h Q' → eMeth (T m') → eCon S T l D dA base b0 d m' as h Q')
    (hcall : okCall S T (d + 1) m' as h Q)
    (hx : p.tables.exec = Jvm.exec) (hb : c0.code = mBy (T m')) (hml : c0.maxLocals = mLo (T m')) (hrt : meth.sig.returnType = mRt (T m')) (hown : s.vm.findClass (mNm (T m')).cls = some m.cls) (hG : ∀ w, eW w → w.before args s = true) (hE : eEV S D dA base b0 s) (hRH : eRH D dA base b0 h s.heap) (hargs : args = (as.map (eV base b0)).toArray) (hinit : meth.name = (mNm (T m')).name) (hlocks : meth.locks = false) (htab : c0.exceptionTable.toList = tableOf (mHh (T m'))) :
    W p l e { frames := d + 1, cells := (mCo (T m')).1, slots := (mCo (T m')).2, locals := 38 * (d + 1) } s m args below meth c0 s.heap [] 0 0 (vx_MQ below
    (fun _ st o t => ∃ (v : Option Value) (h' : eH), o = .returned (v.map (eV base b0)) ∧ Q (.inl v) h' ∧ eRH D dA base b0 h' t.heap ∧ va_F (fun q => base ≤ q) st t)
    (fun E st t => ∃ (n : Nat) (h' : eH), n ≤ 3 ∧ E = exN n ∧ Q (.inr n) h' ∧ eRH D dA base b0 h' t.heap ∧ va_F (fun q => base ≤ q) st t)
    args s (mCo (T m')).1 (mCo (T m')).2 (fun q => base ≤ q)) (entryFrame m args (mLo (T m'))) := by
  obtain ⟨hfit, hok⟩ := hcall
  subst hargs
  rw [lg_entry_eq]
  have hE0 := hE
  obtain ⟨hNG, hStr, hZ1, hZ2, hAO, hK, hAr, hX, hbb, hbs, hNc⟩ := hE0
  refine hok (eSim p l e { frames := d + 1, cells := (mCo (T m')).1, slots := (mCo (T m')).2, locals := 38 * (d + 1) } s m (as.map (eV base b0)).toArray below meth c0 D dA base b0 (mLo (T m')) _) (e_close (C := okCall S T d) (d := d + 1) (Q := Q) ⟨fun _ _ _ _ _ _ h => h, hx, hb, hml, hown, hG, hE, hOK, hCl, hCa, hinit, Nat.le_refl _, Nat.le_refl _, by omega, Nat.le_refl _, Nat.le_refl _, htab, ?_, ?_, ?_, ?_, ?_⟩) s.heap [] _ hRH va_S.rf ?_
  · intro m9 as9 h9 Q9 hc hM
    exact hC m9 as9 h9 Q9 hc hM
  · intro m9 as9 h9 Q9 hc
    cases d with
    | zero => exact hc.elim
    | succ d => omega
  · intro i v pc H locs lsA h1 kc ks hrtI hd hend hR1 hS1
    obtain ⟨⟨hkc, hks⟩, hQ⟩ := hend
    refine W.widen (k := (mCo (T m')).1) (n := (mCo (T m')).2) hkc hks (vx_ret ?_)
    have hq : ∀ t : State, t.heap = H → s.WarmedH t.vm → ∃ (v' : Option Value) (h' : eH), Outcome.returned (v.map (eV base b0)) = .returned (v'.map (eV base b0)) ∧ Q (.inl v') h' ∧ eRH D dA base b0 h' t.heap ∧ va_F (fun q => base ≤ q) s t := fun t ht _ => ⟨v, h1, rfl, hQ, by rw [ht]; exact hR1, hS1.F ht⟩
    rcases hrtI with ⟨rfl, x, rfl, hn⟩ | ⟨rfl, ⟨x, rfl⟩, hr⟩ | ⟨rfl, ⟨x, rfl⟩, hr⟩ | ⟨rfl, ⟨x, rfl⟩, hr⟩ | ⟨rfl, ⟨x, rfl⟩, hr⟩ | ⟨rfl, rfl, hr⟩
    · unfold eNar at hn
      split at hn
      · rename_i ty hty
        exact W.zret hx hb (hrt.trans hty) hn hq hS1.2.2 hd hlocks
      · exact hn.elim
    · exact W.lret hx hb (hrt.trans hr) hq hS1.2.2 hd hlocks
    · exact W.fret hx hb (hrt.trans hr) hq hS1.2.2 hd hlocks
    · exact W.dret hx hb (hrt.trans hr) hq hS1.2.2 hd hlocks
    · exact W.aret hx hb (hrt.trans hr) (Or.inl ⟨_, rfl⟩) (Or.inr ⟨_, rfl⟩) hq hS1.2.2 hd hlocks
    · exact W.vret hx hb (hrt.trans hr) hq hS1.2.2 hd hlocks
  · intro pc H locs lsA h1 kc ks E q ce rest hh0 hE3 hQ hR1 hS1 hce hcv hcl hkc hks
    refine vx_out (fun x hx => ?_) hlocks hce hcv hcl (fun t ht _ => ⟨E, h1, hE3, rfl, hQ, by rw [ht]; exact hR1, hS1.F ht⟩) hS1.2.2 hkc hks
    rw [htab, hh0] at hx
    cases hx
  · intro pc x n a b H locs lsA st h1 kc ks hlk ha3 hR1 hS1 hsz h6 hcat hkc hks hh0 hQ hd
    have hlk : eW (.classLink (mNm (T m')).cls x (exN a)) ∧ eW (.initialized (exN a)) ∧ _ := hlk
    obtain ⟨w1, w2, is9, ic9, tx9, hstr9, hat9, d3, hdd⟩ := hlk
    obtain ⟨sa, hsa⟩ := hStr _ _ _ hstr9
    have hout : ∀ (q : Nat), ∀ x ∈ c0.exceptionTable.toList, covers x q = false := fun q x hx => by
      rw [htab, hh0] at hx
      cases hx
    have hxx : ∀ t : State, s.vm.Alike t.vm → H.size ≤ t.heap.size → (∀ q : Nat, q < H.size → t.heap[q]? = H[q]?) → ∃ (n : Nat) (h' : eH), n ≤ 3 ∧ exN a = exN n ∧ Q (.inr n) h' ∧ eRH D dA base b0 h' t.heap ∧ va_F (fun q => base ≤ q) s t := fun t _ hz hq => ⟨a, (false, h1.2), ha3, rfl, hQ, hR1.kept hz hq, Nat.le_trans hS1.1 hz, fun q a1 a2 => (hq q (Nat.lt_of_lt_of_le a1 hS1.1)).trans (hS1.2.1 q a1 a2)⟩
    have hloc : ((st.map (eV base b0)).map fun v => v.category).sum + (13 * (exS.length + 1) + 43) ≤ 38 * (d + 1) := by
      rw [eCat_sum]
      have : exS.length = 2 := rfl
      omega
    have hat0 : ∀ w ∈ eThW (mNm (T m')).cls ic9 a, w.before (as.map (eV base b0)).toArray s = true := fun w hw => (hat9 w hw).elim (fun h => hG w h) (fun h => va_Nw.use (eNg_good h.2) (hNG w h))
    have hgood0 : ∀ w ∈ Cond.classLink (mNm (T m')).cls x (exN a) :: Cond.initialized (exN a) :: eThW (mNm (T m')).cls ic9 a, vx_ot w = true := by
      intro w hw
      rcases List.mem_cons.mp hw with rfl | hw
      · exact eX_ot (Or.inl w1)
      · rcases List.mem_cons.mp hw with rfl | hw
        · exact eX_ot (Or.inl w2)
        · exact eX_ot (hat9 w hw)
    by_cases ha : a = 3
    · subst ha
      have hat : ∀ w ∈ vy_at (mNm (T m')).cls ic9 (exN 3) "java/lang/RuntimeException" 13 nseB ["java/lang/Exception"], w.before (as.map (eV base b0)).toArray s = true := hat0
      have hgood : ∀ w ∈ Cond.classLink (mNm (T m')).cls x (exN 3) :: Cond.initialized (exN 3) :: vy_at (mNm (T m')).cls ic9 (exN 3) "java/lang/RuntimeException" 13 nseB ["java/lang/Exception"], vx_ot w = true := hgood0
      have hlast : ∀ (q9 : Nat) (H9 : Heap) (ce9 : Cell) (pc9 : Nat), H9[q9]? = some ce9 → ce9.vm = .none → s.vm.findClass (exN 3) = some ce9.cls → H.size ≤ H9.size → (∀ x : Nat, x < H.size → H9[x]? = H[x]?) → decode (mBy (T m')) pc9 = .ok (.athrow, 1) → W p l e { frames := d + 1, cells := (mCo (T m')).1, slots := (mCo (T m')).2, locals := 38 * (d + 1) } s m (as.map (eV base b0)).toArray below meth c0 H9 locs (kc + 1) (ks + 6) (vx_MQ below
          (fun _ st o t => ∃ (v : Option Value) (h' : eH), o = .returned (v.map (eV base b0)) ∧ Q (.inl v) h' ∧ eRH D dA base b0 h' t.heap ∧ va_F (fun q => base ≤ q) st t)
          (fun E st t => ∃ (n : Nat) (h' : eH), n ≤ 3 ∧ E = exN n ∧ Q (.inr n) h' ∧ eRH D dA base b0 h' t.heap ∧ va_F (fun q => base ≤ q) st t)
          (as.map (eV base b0)).toArray s (mCo (T m')).1 (mCo (T m')).2 (fun q => base ≤ q)) (F0 m pc9 lsA (.ref q9 :: st.map (eV base b0))) := by
        intro q9 H9 ce9 pc9 g1 g2 g3 g4 g5 g6
        exact vx_athrow hx hb g6 (vx_out (hout pc9) hlocks g1 g2 g3 (fun t ht hal => hxx t hal (by rw [ht]; exact g4) (fun q hq => by rw [ht]; exact g5 q hq)) hS1.2.2 hkc hks)
      rcases hdd with ⟨e4, e6, e9⟩ | ⟨e4, e7, e10⟩
      · exact vy_makeS (rx := nseB) (ix := 13) hx hb htr (by decide +kernel) (by decide +kernel) (by decide +kernel) (by decide +kernel) hown (exFit 3) exS_fit (hG _ w1) (hG _ w2) hsa hat hgood hZ1 hZ2 hS1 hsz hd d3 e4 e6 (by show 2 + 3 < d + 1; omega) hloc hkc hks (fun q9 H9 ce9 g1 g2 g3 g4 g5 => hlast q9 H9 ce9 (pc + 9) g1 g2 g3 g4 g5 e9)
      · exact vy_makeSW (rx := nseB) (ix := 13) hx hb htr (by decide +kernel) (by decide +kernel) (by decide +kernel) (by decide +kernel) hown (exFit 3) exS_fit (hG _ w1) (hG _ w2) hsa hat hgood hZ1 hZ2 hS1 hsz hd d3 e4 e7 (by show 2 + 3 < d + 1; omega) hloc hkc hks (fun q9 H9 ce9 g1 g2 g3 g4 g5 => hlast q9 H9 ce9 (pc + 10) g1 g2 g3 g4 g5 e10)
    have hThW : eThW (mNm (T m')).cls ic9 a = vx_atS (mNm (T m')).cls ic9 (exN a) exS := if_neg ha
    rw [hThW] at hat0 hgood0
    have hat := hat0
    have hgood := hgood0
    rcases hdd with ⟨e4, e6, e9⟩ | ⟨e4, e7, e10⟩
    · exact vx_throwS (names := exS) hx hb htr hown (exFit a) exS_fit (hG _ w1) (hG _ w2) hsa hat hgood hZ1 hZ2 hS1 hsz hd d3 e4 e6 e9 (hout _) (by show 2 + 3 < d + 1; omega) hloc hkc hks hlocks hxx hS1.2.2 hkc hks
    · exact vx_throwSW (names := exS) hx hb htr hown (exFit a) exS_fit (hG _ w1) (hG _ w2) hsa hat hgood hZ1 hZ2 hS1 hsz hd d3 e4 e7 e10 (hout _) (by show 2 + 3 < d + 1; omega) hloc hkc hks hlocks hxx hS1.2.2 hkc hks
  · have h9 := lv_entry (as.map (eV base b0)) (n := mLo (T m')) (by rw [eSl_len]; exact Nat.le_of_ble_eq_true hfit)
    rw [eArgs_map] at h9
    exact h9
set_option maxHeartbeats 4000000 in
theorem e_sound (htr : l.stackTraces = false) (hOK : ∀ m, eMeth (T m) → eMok T (T m)) (hCl : ∀ q ∈ vwCl, eCls q) (hCa : ∀ E, E ≤ 3 → eX (.castable (exN E) (exN E))) :
    ∀ (d m' : Nat) (as : List Value) (h : eH) (Q : eQ), okCall S T d m' as h Q → eMeth (T m') → eCon S T l D dA base b0 d m' as h Q
  | 0, _, _, _, _, hc, _ => hc.elim
  | d + 1, m', as, h, Q, hc, hM => by
    have ih := e_sound htr hOK hCl hCa d
    have hOKm := hOK m' hM
    have hGof : ∀ {s : State} {args : Array Value} {meth : Method} {m : MethodId} {below : List Frame} {rm : Room} {e : Env} {p : Program} {c : Code} {s₁ : State}, BodyLoose p l (mNm (T m')) (headSpec (mWd (T m') :: lw_tbl.filter goodWord) rm) (mBy (T m')) (mLo (T m')) (mRt (T m')) e s m args below meth c s₁ → ∀ w, eW w → w.before args s = true := fun B w hw => atoms_spec (ws := mWd (T m') :: lw_tbl.filter goodWord) B.pre w (List.mem_cons_of_mem _ (List.mem_filter.mpr ⟨hw.1, hw.2⟩))
    by_cases hh : mHh (T m') = []
    · refine vx_ofW (cc := mBy (T m')) (maxL := mLo (T m')) (ret := mRt (T m')) hM.2.2.2.1 (by rw [mWd_nil hh]) ?_
      intro p e s m args below meth c s₁ B hml ht hP
      obtain ⟨hargs, hE, hRH⟩ := hP
      refine e_body htr hOKm hCl hCa ih hc B.exec B.bytes hml B.returns (findClass_of_methodNamed B.named) (hGof B) hE hRH hargs (name_of_methodNamed B.named B.method).1 B.notSynchronized ?_
      rw [hh]
      exact List.eq_nil_iff_forall_not_mem.mpr ht
    · refine vx_ofWH (cc := mBy (T m')) (maxL := mLo (T m')) (ret := mRt (T m')) (hh := mHh (T m')) hM.2.2.2.1 (by rw [mWd_ne hh]) ?_
      intro p e s m args below meth c s₁ B hml hP
      obtain ⟨hargs, hE, hRH⟩ := hP
      refine e_body htr hOKm hCl hCa ih hc B.exec B.bytes hml B.returns (findClass_of_methodNamed B.named) (hGof B) hE hRH hargs (name_of_methodNamed B.named B.method).1 B.notSynchronized ?_
      have hw := hGof B _ hM.1
      rw [mWd_ne hh] at hw
      exact vx_table (x := mNm (T m')) B hw
end Snd
end
