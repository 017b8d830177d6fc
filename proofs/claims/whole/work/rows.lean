section
-- ===== PART A: goes FIRST, ahead of the names: the tables' words, and 'selects' of the private methods out of them =====
/-- a private method of a class that the tables say can be made, by its rows of tables_1 -/
def lw_okq (q : MethodName × Nat) : Prop := (q.1.cls ≠ "java/lang/invoke/MethodHandle" ∧ q.1.cls ≠ "java/lang/invoke/VarHandle") ∧ Cond.instantiable q.1.cls q.2 ∈ tables_1 ∧ Cond.privateMethod q.1 ∈ tables_1 ∧ Cond.instanceMethod q.1 ∈ tables_1
theorem lw_p0 : lw_okq (⟨"Holeworks$Borders", "numberSlots", "()V"⟩, 3) := ⟨⟨by decide +kernel, by decide +kernel⟩, List.mem_of_getElem? (i := 41) (by decide +kernel), List.mem_of_getElem? (i := 47) (by decide +kernel), List.mem_of_getElem? (i := 48) (by decide +kernel)⟩
theorem lw_p1 : lw_okq (⟨"Holeworks$Borders", "bitsOfBorder", "(I)J"⟩, 3) := ⟨⟨by decide +kernel, by decide +kernel⟩, List.mem_of_getElem? (i := 41) (by decide +kernel), List.mem_of_getElem? (i := 60) (by decide +kernel), List.mem_of_getElem? (i := 61) (by decide +kernel)⟩
theorem lw_p2 : lw_okq (⟨"Holeworks", "giveMade", "(LHoleworks$FaceSet;)I"⟩, 5) := ⟨⟨by decide +kernel, by decide +kernel⟩, List.mem_of_getElem? (i := 19) (by decide +kernel), List.mem_of_getElem? (i := 161) (by decide +kernel), List.mem_of_getElem? (i := 162) (by decide +kernel)⟩
theorem lw_p3 : lw_okq (⟨"Holeworks", "shapeAt", "(I)LHoleworks$FaceSet;"⟩, 5) := ⟨⟨by decide +kernel, by decide +kernel⟩, List.mem_of_getElem? (i := 19) (by decide +kernel), List.mem_of_getElem? (i := 214) (by decide +kernel), List.mem_of_getElem? (i := 215) (by decide +kernel)⟩
theorem lw_p4 : lw_okq (⟨"java/lang/Throwable", "fillInStackTrace", "(I)Ljava/lang/Throwable;"⟩, 6) := ⟨⟨by decide +kernel, by decide +kernel⟩, List.mem_of_getElem? (i := 257) (by decide +kernel), List.mem_of_getElem? (i := 255) (by decide +kernel), List.mem_of_getElem? (i := 256) (by decide +kernel)⟩
theorem lw_p5 : lw_okq (⟨"Holeworks$Borders", "keepsIfFree", "(J)Z"⟩, 3) := ⟨⟨by decide +kernel, by decide +kernel⟩, List.mem_of_getElem? (i := 41) (by decide +kernel), List.mem_of_getElem? (i := 641) (by decide +kernel), List.mem_of_getElem? (i := 642) (by decide +kernel)⟩
theorem lw_p6 : lw_okq (⟨"Holeworks$Borders", "isSumOfKept", "(J)Z"⟩, 3) := ⟨⟨by decide +kernel, by decide +kernel⟩, List.mem_of_getElem? (i := 41) (by decide +kernel), List.mem_of_getElem? (i := 703) (by decide +kernel), List.mem_of_getElem? (i := 704) (by decide +kernel)⟩
theorem lw_p7 : lw_okq (⟨"Holeworks$Theorem", "tellsFilling", "(LHoleworks$FaceSet;ZLHoleworks$FaceSet;)Z"⟩, 6) := ⟨⟨by decide +kernel, by decide +kernel⟩, List.mem_of_getElem? (i := 76) (by decide +kernel), List.mem_of_getElem? (i := 763) (by decide +kernel), List.mem_of_getElem? (i := 764) (by decide +kernel)⟩
theorem lw_p8 : lw_okq (⟨"Holeworks$Theorem", "isOneWithoutHoles", "(LHoleworks$FaceSet;)Z"⟩, 6) := ⟨⟨by decide +kernel, by decide +kernel⟩, List.mem_of_getElem? (i := 76) (by decide +kernel), List.mem_of_getElem? (i := 788) (by decide +kernel), List.mem_of_getElem? (i := 789) (by decide +kernel)⟩
theorem lw_p9 : lw_okq (⟨"Holeworks$Theorem", "areOpposed", "(LHoleworks$FaceSet;I)Z"⟩, 6) := ⟨⟨by decide +kernel, by decide +kernel⟩, List.mem_of_getElem? (i := 76) (by decide +kernel), List.mem_of_getElem? (i := 817) (by decide +kernel), List.mem_of_getElem? (i := 818) (by decide +kernel)⟩
theorem lw_p10 : lw_okq (⟨"HoleworksModel", "isWrong", "(I)Z"⟩, 8) := ⟨⟨by decide +kernel, by decide +kernel⟩, List.mem_of_getElem? (i := 877) (by decide +kernel), List.mem_of_getElem? (i := 926) (by decide +kernel), List.mem_of_getElem? (i := 927) (by decide +kernel)⟩
theorem lw_p11 : lw_okq (⟨"HoleworksModel", "isThere", "(II)Z"⟩, 8) := ⟨⟨by decide +kernel, by decide +kernel⟩, List.mem_of_getElem? (i := 877) (by decide +kernel), List.mem_of_getElem? (i := 933) (by decide +kernel), List.mem_of_getElem? (i := 934) (by decide +kernel)⟩
theorem lw_p12 : lw_okq (⟨"HoleworksModel", "missing", "(II)I"⟩, 8) := ⟨⟨by decide +kernel, by decide +kernel⟩, List.mem_of_getElem? (i := 877) (by decide +kernel), List.mem_of_getElem? (i := 941) (by decide +kernel), List.mem_of_getElem? (i := 942) (by decide +kernel)⟩
theorem lw_p13 : lw_okq (⟨"HoleworksModel", "takeOut", "(II)I"⟩, 8) := ⟨⟨by decide +kernel, by decide +kernel⟩, List.mem_of_getElem? (i := 877) (by decide +kernel), List.mem_of_getElem? (i := 945) (by decide +kernel), List.mem_of_getElem? (i := 946) (by decide +kernel)⟩
theorem lw_p14 : lw_okq (⟨"HoleworksModel", "sizeOf", "(I)I"⟩, 8) := ⟨⟨by decide +kernel, by decide +kernel⟩, List.mem_of_getElem? (i := 877) (by decide +kernel), List.mem_of_getElem? (i := 953) (by decide +kernel), List.mem_of_getElem? (i := 954) (by decide +kernel)⟩
theorem lw_p15 : lw_okq (⟨"HoleworksModel", "keep", "(I)I"⟩, 8) := ⟨⟨by decide +kernel, by decide +kernel⟩, List.mem_of_getElem? (i := 877) (by decide +kernel), List.mem_of_getElem? (i := 961) (by decide +kernel), List.mem_of_getElem? (i := 962) (by decide +kernel)⟩
def lw_privs_1 : List (MethodName × Nat) := [(⟨"Holeworks$Borders", "numberSlots", "()V"⟩, 3), (⟨"Holeworks$Borders", "bitsOfBorder", "(I)J"⟩, 3), (⟨"Holeworks", "giveMade", "(LHoleworks$FaceSet;)I"⟩, 5), (⟨"Holeworks", "shapeAt", "(I)LHoleworks$FaceSet;"⟩, 5), (⟨"java/lang/Throwable", "fillInStackTrace", "(I)Ljava/lang/Throwable;"⟩, 6), (⟨"Holeworks$Borders", "keepsIfFree", "(J)Z"⟩, 3), (⟨"Holeworks$Borders", "isSumOfKept", "(J)Z"⟩, 3), (⟨"Holeworks$Theorem", "tellsFilling", "(LHoleworks$FaceSet;ZLHoleworks$FaceSet;)Z"⟩, 6), (⟨"Holeworks$Theorem", "isOneWithoutHoles", "(LHoleworks$FaceSet;)Z"⟩, 6), (⟨"Holeworks$Theorem", "areOpposed", "(LHoleworks$FaceSet;I)Z"⟩, 6), (⟨"HoleworksModel", "isWrong", "(I)Z"⟩, 8), (⟨"HoleworksModel", "isThere", "(II)Z"⟩, 8), (⟨"HoleworksModel", "missing", "(II)I"⟩, 8), (⟨"HoleworksModel", "takeOut", "(II)I"⟩, 8), (⟨"HoleworksModel", "sizeOf", "(I)I"⟩, 8), (⟨"HoleworksModel", "keep", "(I)I"⟩, 8)]
theorem lw_r1 : ∀ q ∈ lw_privs_1, lw_okq q := List.forall_mem_cons.mpr ⟨lw_p0, List.forall_mem_cons.mpr ⟨lw_p1, List.forall_mem_cons.mpr ⟨lw_p2, List.forall_mem_cons.mpr ⟨lw_p3, List.forall_mem_cons.mpr ⟨lw_p4, List.forall_mem_cons.mpr ⟨lw_p5, List.forall_mem_cons.mpr ⟨lw_p6, List.forall_mem_cons.mpr ⟨lw_p7, List.forall_mem_cons.mpr ⟨lw_p8, List.forall_mem_cons.mpr ⟨lw_p9, List.forall_mem_cons.mpr ⟨lw_p10, List.forall_mem_cons.mpr ⟨lw_p11, List.forall_mem_cons.mpr ⟨lw_p12, List.forall_mem_cons.mpr ⟨lw_p13, List.forall_mem_cons.mpr ⟨lw_p14, List.forall_mem_cons.mpr ⟨lw_p15, fun _ h => absurd h List.not_mem_nil⟩⟩⟩⟩⟩⟩⟩⟩⟩⟩⟩⟩⟩⟩⟩⟩
theorem lw_p16 : lw_okq (⟨"HoleworksModel", "cornersAt", "(I)I"⟩, 8) := ⟨⟨by decide +kernel, by decide +kernel⟩, List.mem_of_getElem? (i := 877) (by decide +kernel), List.mem_of_getElem? (i := 1001) (by decide +kernel), List.mem_of_getElem? (i := 1002) (by decide +kernel)⟩
theorem lw_p17 : lw_okq (⟨"HoleworksModel", "isLifted", "(III)Z"⟩, 8) := ⟨⟨by decide +kernel, by decide +kernel⟩, List.mem_of_getElem? (i := 877) (by decide +kernel), List.mem_of_getElem? (i := 1005) (by decide +kernel), List.mem_of_getElem? (i := 1006) (by decide +kernel)⟩
theorem lw_p18 : lw_okq (⟨"HoleworksModel", "overAt", "(II)I"⟩, 8) := ⟨⟨by decide +kernel, by decide +kernel⟩, List.mem_of_getElem? (i := 877) (by decide +kernel), List.mem_of_getElem? (i := 1028) (by decide +kernel), List.mem_of_getElem? (i := 1029) (by decide +kernel)⟩
theorem lw_p19 : lw_okq (⟨"HoleworksModel", "facesOf", "(II)I"⟩, 8) := ⟨⟨by decide +kernel, by decide +kernel⟩, List.mem_of_getElem? (i := 877) (by decide +kernel), List.mem_of_getElem? (i := 1044) (by decide +kernel), List.mem_of_getElem? (i := 1045) (by decide +kernel)⟩
theorem lw_p20 : lw_okq (⟨"HoleworksModel", "greatestOf", "(I)I"⟩, 8) := ⟨⟨by decide +kernel, by decide +kernel⟩, List.mem_of_getElem? (i := 877) (by decide +kernel), List.mem_of_getElem? (i := 1060) (by decide +kernel), List.mem_of_getElem? (i := 1061) (by decide +kernel)⟩
theorem lw_p21 : lw_okq (⟨"HoleworksModel", "isGreatest", "(II)Z"⟩, 8) := ⟨⟨by decide +kernel, by decide +kernel⟩, List.mem_of_getElem? (i := 877) (by decide +kernel), List.mem_of_getElem? (i := 1064) (by decide +kernel), List.mem_of_getElem? (i := 1065) (by decide +kernel)⟩
theorem lw_p22 : lw_okq (⟨"HoleworksModel", "isOf", "(II)Z"⟩, 8) := ⟨⟨by decide +kernel, by decide +kernel⟩, List.mem_of_getElem? (i := 877) (by decide +kernel), List.mem_of_getElem? (i := 1076) (by decide +kernel), List.mem_of_getElem? (i := 1077) (by decide +kernel)⟩
theorem lw_p23 : lw_okq (⟨"HoleworksModel", "walk", "(I)V"⟩, 8) := ⟨⟨by decide +kernel, by decide +kernel⟩, List.mem_of_getElem? (i := 877) (by decide +kernel), List.mem_of_getElem? (i := 1088) (by decide +kernel), List.mem_of_getElem? (i := 1089) (by decide +kernel)⟩
theorem lw_p24 : lw_okq (⟨"HoleworksModel", "join", "(I)V"⟩, 8) := ⟨⟨by decide +kernel, by decide +kernel⟩, List.mem_of_getElem? (i := 877) (by decide +kernel), List.mem_of_getElem? (i := 1092) (by decide +kernel), List.mem_of_getElem? (i := 1093) (by decide +kernel)⟩
theorem lw_p25 : lw_okq (⟨"HoleworksModel", "rank", "(II)I"⟩, 8) := ⟨⟨by decide +kernel, by decide +kernel⟩, List.mem_of_getElem? (i := 877) (by decide +kernel), List.mem_of_getElem? (i := 1104) (by decide +kernel), List.mem_of_getElem? (i := 1105) (by decide +kernel)⟩
theorem lw_p26 : lw_okq (⟨"HoleworksModel", "left", "(J)J"⟩, 8) := ⟨⟨by decide +kernel, by decide +kernel⟩, List.mem_of_getElem? (i := 877) (by decide +kernel), List.mem_of_getElem? (i := 1114) (by decide +kernel), List.mem_of_getElem? (i := 1115) (by decide +kernel)⟩
theorem lw_p27 : lw_okq (⟨"HoleworksModel", "rowMany", "()I"⟩, 8) := ⟨⟨by decide +kernel, by decide +kernel⟩, List.mem_of_getElem? (i := 877) (by decide +kernel), List.mem_of_getElem? (i := 1130) (by decide +kernel), List.mem_of_getElem? (i := 1131) (by decide +kernel)⟩
theorem lw_p28 : lw_okq (⟨"HoleworksModel", "rowHeight", "()I"⟩, 8) := ⟨⟨by decide +kernel, by decide +kernel⟩, List.mem_of_getElem? (i := 877) (by decide +kernel), List.mem_of_getElem? (i := 1134) (by decide +kernel), List.mem_of_getElem? (i := 1135) (by decide +kernel)⟩
theorem lw_p29 : lw_okq (⟨"HoleworksModel", "findBorder", "()V"⟩, 8) := ⟨⟨by decide +kernel, by decide +kernel⟩, List.mem_of_getElem? (i := 877) (by decide +kernel), List.mem_of_getElem? (i := 1142) (by decide +kernel), List.mem_of_getElem? (i := 1143) (by decide +kernel)⟩
def lw_privs_2 : List (MethodName × Nat) := [(⟨"HoleworksModel", "cornersAt", "(I)I"⟩, 8), (⟨"HoleworksModel", "isLifted", "(III)Z"⟩, 8), (⟨"HoleworksModel", "overAt", "(II)I"⟩, 8), (⟨"HoleworksModel", "facesOf", "(II)I"⟩, 8), (⟨"HoleworksModel", "greatestOf", "(I)I"⟩, 8), (⟨"HoleworksModel", "isGreatest", "(II)Z"⟩, 8), (⟨"HoleworksModel", "isOf", "(II)Z"⟩, 8), (⟨"HoleworksModel", "walk", "(I)V"⟩, 8), (⟨"HoleworksModel", "join", "(I)V"⟩, 8), (⟨"HoleworksModel", "rank", "(II)I"⟩, 8), (⟨"HoleworksModel", "left", "(J)J"⟩, 8), (⟨"HoleworksModel", "rowMany", "()I"⟩, 8), (⟨"HoleworksModel", "rowHeight", "()I"⟩, 8), (⟨"HoleworksModel", "findBorder", "()V"⟩, 8)]
theorem lw_r2 : ∀ q ∈ lw_privs_2, lw_okq q := List.forall_mem_cons.mpr ⟨lw_p16, List.forall_mem_cons.mpr ⟨lw_p17, List.forall_mem_cons.mpr ⟨lw_p18, List.forall_mem_cons.mpr ⟨lw_p19, List.forall_mem_cons.mpr ⟨lw_p20, List.forall_mem_cons.mpr ⟨lw_p21, List.forall_mem_cons.mpr ⟨lw_p22, List.forall_mem_cons.mpr ⟨lw_p23, List.forall_mem_cons.mpr ⟨lw_p24, List.forall_mem_cons.mpr ⟨lw_p25, List.forall_mem_cons.mpr ⟨lw_p26, List.forall_mem_cons.mpr ⟨lw_p27, List.forall_mem_cons.mpr ⟨lw_p28, List.forall_mem_cons.mpr ⟨lw_p29, fun _ h => absurd h List.not_mem_nil⟩⟩⟩⟩⟩⟩⟩⟩⟩⟩⟩⟩⟩⟩
def lw_privs : List (MethodName × Nat) := lw_privs_1 ++ (lw_privs_2)
def lw_tbl : List Cond := k2_sels lw_privs ++ tables_1
theorem lw_privs_ok : ∀ q ∈ lw_privs, lw_okq q := by
  show ∀ q ∈ lw_privs_1 ++ (lw_privs_2), lw_okq q
  exact List.forall_mem_append.mpr ⟨lw_r1, lw_r2⟩
/-- the streams that the claim lets the run draw from -/
abbrev lw_cs : List Choice := [Jvm.Choice.named "NaN.bits"]
theorem lw_bits : nanBits ∈ lw_cs := by first | decide | exact List.mem_cons_self | simp [lw_cs, nanBits]

-- ===== names (printed texts of the task folder) =====
def RX0 : String := "Holeworks$Borders"
def TX0 : u_T := fun k => match k with
  | 0 => ("Holeworks$Borders", "slotOf", "[I", true)
  | 1 => ("Holeworks$Borders", "borderOf", "[J", true)
  | _ => ("Holeworks$Borders", "keptAt", "[J", true)
def tyX0 : Nat → FieldType := fun k => match k with
  | 0 => .array .int
  | 1 => .array .long
  | _ => .array .long
abbrev wsX00 : List Cond := u_ws RX0 TX0 3
theorem nmX0 : ∀ a, a < 3 → ∀ b, b < 3 → a ≠ b → (TX0 a).2.1 ≠ (TX0 b).2.1 := by decide +kernel
theorem tyX0_ok : ∀ k, k < 3 → parseFieldDescriptor (TX0 k).2.2.1 = some (tyX0 k) := by decide +kernel
abbrev cX0_init : ByteArray := prog_2_method_1_code
def yX0_init : MethodName := ⟨RX0, "<init>", "()V"⟩
abbrev cX0_numberSlots : ByteArray := prog_2_method_2_code
def yX0_numberSlots : MethodName := ⟨RX0, "numberSlots", "()V"⟩
abbrev cX0_bitsOfBorder : ByteArray := prog_2_method_3_code
def yX0_bitsOfBorder : MethodName := ⟨RX0, "bitsOfBorder", "(I)J"⟩
abbrev cX0_makeBorder : ByteArray := prog_2_method_4_code
def yX0_makeBorder : MethodName := ⟨RX0, "makeBorder", "(LHoleworks$FaceSet;LHoleworks$FaceSet;)V"⟩
abbrev cX0_toggleBorder : ByteArray := prog_2_method_5_code
def yX0_toggleBorder : MethodName := ⟨RX0, "toggleBorder", "(ILHoleworks$FaceSet;)V"⟩
abbrev cX0_countFree : ByteArray := prog_2_method_6_code
def yX0_countFree : MethodName := ⟨RX0, "countFree", "(LHoleworks$FaceSet;I)I"⟩
abbrev cX0_keepsIfFree : ByteArray := prog_2_method_7_code
def yX0_keepsIfFree : MethodName := ⟨RX0, "keepsIfFree", "(J)Z"⟩
abbrev cX0_isSumOfKept : ByteArray := prog_2_method_8_code
def yX0_isSumOfKept : MethodName := ⟨RX0, "isSumOfKept", "(J)Z"⟩
abbrev cX0_countHoles : ByteArray := prog_2_method_9_code
def yX0_countHoles : MethodName := ⟨RX0, "countHoles", "(LHoleworks$FaceSet;I)I"⟩
abbrev cX0_holesBetween : ByteArray := prog_2_method_10_code
def yX0_holesBetween : MethodName := ⟨RX0, "holesBetween", "(LHoleworks$FaceSet;III)I"⟩
abbrev cX0_isFilling : ByteArray := prog_2_method_11_code
def yX0_isFilling : MethodName := ⟨RX0, "isFilling", "(LHoleworks$FaceSet;LHoleworks$FaceSet;)Z"⟩
def RX1 : String := "Holeworks$FaceSet"
def TX1 : u_T := fun k => match k with
  | 0 => ("Holeworks$FaceSet", "lower", "J", false)
  | _ => ("Holeworks$FaceSet", "upper", "J", false)
def tyX1 : Nat → FieldType := fun k => match k with
  | 0 => .long
  | _ => .long
abbrev wsX10 : List Cond := u_ws RX1 TX1 2
theorem nmX1 : ∀ a, a < 2 → ∀ b, b < 2 → a ≠ b → (TX1 a).2.1 ≠ (TX1 b).2.1 := by decide +kernel
theorem tyX1_ok : ∀ k, k < 2 → parseFieldDescriptor (TX1 k).2.2.1 = some (tyX1 k) := by decide +kernel
abbrev cX1_init : ByteArray := prog_3_method_1_code
def yX1_init : MethodName := ⟨RX1, "<init>", "()V"⟩
abbrev cX1_holds : ByteArray := prog_3_method_2_code
def yX1_holds : MethodName := ⟨RX1, "holds", "(I)Z"⟩
abbrev cX1_add : ByteArray := prog_3_method_3_code
def yX1_add : MethodName := ⟨RX1, "add", "(I)V"⟩
abbrev cX1_remove : ByteArray := prog_3_method_4_code
def yX1_remove : MethodName := ⟨RX1, "remove", "(I)V"⟩
abbrev cX1_toggle : ByteArray := prog_3_method_5_code
def yX1_toggle : MethodName := ⟨RX1, "toggle", "(I)V"⟩
abbrev cX1_addParts : ByteArray := prog_3_method_6_code
def yX1_addParts : MethodName := ⟨RX1, "addParts", "(I)V"⟩
abbrev cX1_removeWithAllOver : ByteArray := prog_3_method_7_code
def yX1_removeWithAllOver : MethodName := ⟨RX1, "removeWithAllOver", "(I)V"⟩
abbrev cX1_empty : ByteArray := prog_3_method_8_code
def yX1_empty : MethodName := ⟨RX1, "empty", "()V"⟩
abbrev cX1_become : ByteArray := prog_3_method_9_code
def yX1_become : MethodName := ⟨RX1, "become", "(LHoleworks$FaceSet;)V"⟩
abbrev cX1_becomeUnion : ByteArray := prog_3_method_10_code
def yX1_becomeUnion : MethodName := ⟨RX1, "becomeUnion", "(LHoleworks$FaceSet;LHoleworks$FaceSet;)V"⟩
abbrev cX1_becomeMeeting : ByteArray := prog_3_method_11_code
def yX1_becomeMeeting : MethodName := ⟨RX1, "becomeMeeting", "(LHoleworks$FaceSet;LHoleworks$FaceSet;)V"⟩
abbrev cX1_isEmpty : ByteArray := prog_3_method_12_code
def yX1_isEmpty : MethodName := ⟨RX1, "isEmpty", "()Z"⟩
abbrev cX1_isLike : ByteArray := prog_3_method_13_code
def yX1_isLike : MethodName := ⟨RX1, "isLike", "(LHoleworks$FaceSet;)Z"⟩
abbrev cX1_holdsAll : ByteArray := prog_3_method_14_code
def yX1_holdsAll : MethodName := ⟨RX1, "holdsAll", "(LHoleworks$FaceSet;)Z"⟩
abbrev cX1_count : ByteArray := prog_3_method_15_code
def yX1_count : MethodName := ⟨RX1, "count", "()I"⟩
abbrev cX1_countBeyond : ByteArray := prog_3_method_16_code
def yX1_countBeyond : MethodName := ⟨RX1, "countBeyond", "(LHoleworks$FaceSet;)I"⟩
abbrev cX1_countAt : ByteArray := prog_3_method_17_code
def yX1_countAt : MethodName := ⟨RX1, "countAt", "(I)I"⟩
abbrev cX1_signedCount : ByteArray := prog_3_method_18_code
def yX1_signedCount : MethodName := ⟨RX1, "signedCount", "()I"⟩
abbrev cX1_heightSum : ByteArray := prog_3_method_19_code
def yX1_heightSum : MethodName := ⟨RX1, "heightSum", "()I"⟩
abbrev cX1_cornerSet : ByteArray := prog_3_method_20_code
def yX1_cornerSet : MethodName := ⟨RX1, "cornerSet", "()I"⟩
abbrev cX1_faceAt : ByteArray := prog_3_method_21_code
def yX1_faceAt : MethodName := ⟨RX1, "faceAt", "(I)I"⟩
abbrev cX1_countOver : ByteArray := prog_3_method_22_code
def yX1_countOver : MethodName := ⟨RX1, "countOver", "(I)I"⟩
abbrev cX1_firstOver : ByteArray := prog_3_method_23_code
def yX1_firstOver : MethodName := ⟨RX1, "firstOver", "(I)I"⟩
def RX2 : String := "Holeworks$HoleRow"
def TX2 : u_T := fun k => match k with
  | _ => ("Holeworks$HoleRow", "many", "[I", true)
def tyX2 : Nat → FieldType := fun k => match k with
  | _ => .array .int
abbrev wsX20 : List Cond := u_ws RX2 TX2 1
theorem nmX2 : ∀ a, a < 1 → ∀ b, b < 1 → a ≠ b → (TX2 a).2.1 ≠ (TX2 b).2.1 := by decide +kernel
theorem tyX2_ok : ∀ k, k < 1 → parseFieldDescriptor (TX2 k).2.2.1 = some (tyX2 k) := by decide +kernel
abbrev cX2_init : ByteArray := prog_4_method_1_code
def yX2_init : MethodName := ⟨RX2, "<init>", "()V"⟩
abbrev cX2_tell : ByteArray := prog_4_method_2_code
def yX2_tell : MethodName := ⟨RX2, "tell", "(LHoleworks$FaceSet;LHoleworks$Borders;)V"⟩
abbrev cX2_at : ByteArray := prog_4_method_3_code
def yX2_at : MethodName := ⟨RX2, "at", "(I)I"⟩
abbrev cX2_areNone : ByteArray := prog_4_method_4_code
def yX2_areNone : MethodName := ⟨RX2, "areNone", "()Z"⟩
abbrev cX2_signedSum : ByteArray := prog_4_method_5_code
def yX2_signedSum : MethodName := ⟨RX2, "signedSum", "()I"⟩
abbrev cX2_differAt : ByteArray := prog_4_method_6_code
def yX2_differAt : MethodName := ⟨RX2, "differAt", "(IILHoleworks$HoleRow;)Z"⟩
abbrev cX2_areLike : ByteArray := prog_4_method_7_code
def yX2_areLike : MethodName := ⟨RX2, "areLike", "(LHoleworks$HoleRow;)Z"⟩
def RX3 : String := "Holeworks$Making"
def TX3 : u_T := fun k => match k with
  | _ => ("", "", "", false)
def tyX3 : Nat → FieldType := fun k => match k with
  | _ => .int
abbrev wsX30 : List Cond := u_ws RX3 TX3 0
theorem nmX3 : ∀ a, a < 0 → ∀ b, b < 0 → a ≠ b → (TX3 a).2.1 ≠ (TX3 b).2.1 := by decide +kernel
theorem tyX3_ok : ∀ k, k < 0 → parseFieldDescriptor (TX3 k).2.2.1 = some (tyX3 k) := by decide +kernel
abbrev cX3_makeLow : ByteArray := prog_5_method_2_code
def yX3_makeLow : MethodName := ⟨RX3, "makeLow", "(LHoleworks$FaceSet;ILHoleworks$FaceSet;)V"⟩
abbrev cX3_makeAbout : ByteArray := prog_5_method_3_code
def yX3_makeAbout : MethodName := ⟨RX3, "makeAbout", "(LHoleworks$FaceSet;IZLHoleworks$FaceSet;)V"⟩
abbrev cX3_makeCone : ByteArray := prog_5_method_4_code
def yX3_makeCone : MethodName := ⟨RX3, "makeCone", "(LHoleworks$FaceSet;ILHoleworks$FaceSet;)V"⟩
abbrev cX3_makeLift : ByteArray := prog_5_method_5_code
def yX3_makeLift : MethodName := ⟨RX3, "makeLift", "(LHoleworks$FaceSet;IILHoleworks$FaceSet;)V"⟩
abbrev cX3_addJoined : ByteArray := prog_5_method_6_code
def yX3_addJoined : MethodName := ⟨RX3, "addJoined", "(LHoleworks$FaceSet;ILHoleworks$FaceSet;)V"⟩
abbrev cX3_makeOther : ByteArray := prog_5_method_7_code
def yX3_makeOther : MethodName := ⟨RX3, "makeOther", "(LHoleworks$FaceSet;ILHoleworks$FaceSet;)V"⟩
abbrev cX3_makeExchanged : ByteArray := prog_5_method_8_code
def yX3_makeExchanged : MethodName := ⟨RX3, "makeExchanged", "(LHoleworks$FaceSet;IILHoleworks$FaceSet;)V"⟩
abbrev cX3_exchanged : ByteArray := prog_5_method_9_code
def yX3_exchanged : MethodName := ⟨RX3, "exchanged", "(III)I"⟩
abbrev cX3_makeGreatest : ByteArray := prog_5_method_10_code
def yX3_makeGreatest : MethodName := ⟨RX3, "makeGreatest", "(LHoleworks$FaceSet;LHoleworks$FaceSet;)V"⟩
abbrev cX3_liesInAnother : ByteArray := prog_5_method_11_code
def yX3_liesInAnother : MethodName := ⟨RX3, "liesInAnother", "(LHoleworks$FaceSet;I)Z"⟩
def RX4 : String := "Holeworks$Theorem"
def TX4 : u_T := fun k => match k with
  | 0 => ("Holeworks$Theorem", "borders", "LHoleworks$Borders;", true)
  | 1 => ("Holeworks$Theorem", "made", "LHoleworks$FaceSet;", true)
  | 2 => ("Holeworks$Theorem", "second", "LHoleworks$FaceSet;", true)
  | 3 => ("Holeworks$Theorem", "holesBefore", "LHoleworks$HoleRow;", true)
  | 4 => ("Holeworks$Theorem", "holesAfter", "LHoleworks$HoleRow;", true)
  | _ => ("Holeworks$Theorem", "holesSecond", "LHoleworks$HoleRow;", true)
def tyX4 : Nat → FieldType := fun k => match k with
  | 0 => .object "Holeworks$Borders"
  | 1 => .object "Holeworks$FaceSet"
  | 2 => .object "Holeworks$FaceSet"
  | 3 => .object "Holeworks$HoleRow"
  | 4 => .object "Holeworks$HoleRow"
  | _ => .object "Holeworks$HoleRow"
abbrev wsX40 : List Cond := u_ws RX4 TX4 6
theorem nmX4 : ∀ a, a < 6 → ∀ b, b < 6 → a ≠ b → (TX4 a).2.1 ≠ (TX4 b).2.1 := by decide +kernel
theorem tyX4_ok : ∀ k, k < 6 → parseFieldDescriptor (TX4 k).2.2.1 = some (tyX4 k) := by decide +kernel
abbrev cX4_init : ByteArray := prog_6_method_1_code
def yX4_init : MethodName := ⟨RX4, "<init>", "(LHoleworks$Borders;)V"⟩
abbrev cX4_tellsRow : ByteArray := prog_6_method_2_code
def yX4_tellsRow : MethodName := ⟨RX4, "tellsRow", "(LHoleworks$FaceSet;LHoleworks$FaceSet;)Z"⟩
abbrev cX4_tellsFilling : ByteArray := prog_6_method_3_code
def yX4_tellsFilling : MethodName := ⟨RX4, "tellsFilling", "(LHoleworks$FaceSet;ZLHoleworks$FaceSet;)Z"⟩
abbrev cX4_tellsPieces : ByteArray := prog_6_method_4_code
def yX4_tellsPieces : MethodName := ⟨RX4, "tellsPieces", "(LHoleworks$FaceSet;)Z"⟩
abbrev cX4_tellsSignedCount : ByteArray := prog_6_method_5_code
def yX4_tellsSignedCount : MethodName := ⟨RX4, "tellsSignedCount", "(LHoleworks$FaceSet;)Z"⟩
abbrev cX4_tellsCone : ByteArray := prog_6_method_6_code
def yX4_tellsCone : MethodName := ⟨RX4, "tellsCone", "(LHoleworks$FaceSet;)Z"⟩
abbrev cX4_tellsAbout : ByteArray := prog_6_method_7_code
def yX4_tellsAbout : MethodName := ⟨RX4, "tellsAbout", "(LHoleworks$FaceSet;I)Z"⟩
abbrev cX4_isOneWithoutHoles : ByteArray := prog_6_method_8_code
def yX4_isOneWithoutHoles : MethodName := ⟨RX4, "isOneWithoutHoles", "(LHoleworks$FaceSet;)Z"⟩
abbrev cX4_tellsLift : ByteArray := prog_6_method_9_code
def yX4_tellsLift : MethodName := ⟨RX4, "tellsLift", "(LHoleworks$FaceSet;)Z"⟩
abbrev cX4_tellsTouching : ByteArray := prog_6_method_10_code
def yX4_tellsTouching : MethodName := ⟨RX4, "tellsTouching", "(LHoleworks$FaceSet;LHoleworks$FaceSet;)Z"⟩
abbrev cX4_tellsFold : ByteArray := prog_6_method_11_code
def yX4_tellsFold : MethodName := ⟨RX4, "tellsFold", "(LHoleworks$FaceSet;I)Z"⟩
abbrev cX4_tellsTaking : ByteArray := prog_6_method_12_code
def yX4_tellsTaking : MethodName := ⟨RX4, "tellsTaking", "(LHoleworks$FaceSet;I)Z"⟩
abbrev cX4_tellsSums : ByteArray := prog_6_method_13_code
def yX4_tellsSums : MethodName := ⟨RX4, "tellsSums", "(LHoleworks$FaceSet;LHoleworks$FaceSet;)Z"⟩
abbrev cX4_tellsOther : ByteArray := prog_6_method_14_code
def yX4_tellsOther : MethodName := ⟨RX4, "tellsOther", "(LHoleworks$FaceSet;I)Z"⟩
abbrev cX4_isRim : ByteArray := prog_6_method_15_code
def yX4_isRim : MethodName := ⟨RX4, "isRim", "(LHoleworks$FaceSet;I)Z"⟩
abbrev cX4_areOpposed : ByteArray := prog_6_method_16_code
def yX4_areOpposed : MethodName := ⟨RX4, "areOpposed", "(LHoleworks$FaceSet;I)Z"⟩
abbrev cX4_tellsExchange : ByteArray := prog_6_method_17_code
def yX4_tellsExchange : MethodName := ⟨RX4, "tellsExchange", "(LHoleworks$FaceSet;II)Z"⟩
def RX5 : String := "Holeworks$Walk"
def TX5 : u_T := fun k => match k with
  | _ => ("", "", "", false)
def tyX5 : Nat → FieldType := fun k => match k with
  | _ => .int
abbrev wsX50 : List Cond := u_ws RX5 TX5 0
theorem nmX5 : ∀ a, a < 0 → ∀ b, b < 0 → a ≠ b → (TX5 a).2.1 ≠ (TX5 b).2.1 := by decide +kernel
theorem tyX5_ok : ∀ k, k < 0 → parseFieldDescriptor (TX5 k).2.2.1 = some (tyX5 k) := by decide +kernel
abbrev cX5_countPieces : ByteArray := prog_7_method_2_code
def yX5_countPieces : MethodName := ⟨RX5, "countPieces", "(LHoleworks$FaceSet;)I"⟩
abbrev cX5_pieceFrom : ByteArray := prog_7_method_3_code
def yX5_pieceFrom : MethodName := ⟨RX5, "pieceFrom", "(LHoleworks$FaceSet;I)I"⟩
abbrev cX5_neighbours : ByteArray := prog_7_method_4_code
def yX5_neighbours : MethodName := ⟨RX5, "neighbours", "(LHoleworks$FaceSet;I)I"⟩
abbrev cX5_areEven : ByteArray := prog_7_method_5_code
def yX5_areEven : MethodName := ⟨RX5, "areEven", "(LHoleworks$FaceSet;LHoleworks$FaceSet;)Z"⟩
def RX6 : String := "Holeworks"
def TX6 : u_T := fun k => match k with
  | 0 => ("Holeworks", "shapes", "[LHoleworks$FaceSet;", true)
  | 1 => ("Holeworks", "row", "LHoleworks$FaceSet;", true)
  | 2 => ("Holeworks", "made", "LHoleworks$FaceSet;", true)
  | 3 => ("Holeworks", "borders", "LHoleworks$Borders;", true)
  | _ => ("Holeworks", "theorem", "LHoleworks$Theorem;", true)
def tyX6 : Nat → FieldType := fun k => match k with
  | 0 => .array (.object "Holeworks$FaceSet")
  | 1 => .object "Holeworks$FaceSet"
  | 2 => .object "Holeworks$FaceSet"
  | 3 => .object "Holeworks$Borders"
  | _ => .object "Holeworks$Theorem"
abbrev wsX60 : List Cond := u_ws RX6 TX6 5
theorem nmX6 : ∀ a, a < 5 → ∀ b, b < 5 → a ≠ b → (TX6 a).2.1 ≠ (TX6 b).2.1 := by decide +kernel
theorem tyX6_ok : ∀ k, k < 5 → parseFieldDescriptor (TX6 k).2.2.1 = some (tyX6 k) := by decide +kernel
abbrev cX6_init : ByteArray := prog_1_method_1_code
def yX6_init : MethodName := ⟨RX6, "<init>", "()V"⟩
abbrev cX6_put : ByteArray := prog_1_method_2_code
def yX6_put : MethodName := ⟨RX6, "put", "(II)I"⟩
abbrev cX6_take : ByteArray := prog_1_method_3_code
def yX6_take : MethodName := ⟨RX6, "take", "(II)I"⟩
abbrev cX6_clear : ByteArray := prog_1_method_4_code
def yX6_clear : MethodName := ⟨RX6, "clear", "(I)I"⟩
abbrev cX6_copy : ByteArray := prog_1_method_5_code
def yX6_copy : MethodName := ⟨RX6, "copy", "(II)I"⟩
abbrev cX6_unite : ByteArray := prog_1_method_6_code
def yX6_unite : MethodName := ⟨RX6, "unite", "(III)I"⟩
abbrev cX6_meet : ByteArray := prog_1_method_7_code
def yX6_meet : MethodName := ⟨RX6, "meet", "(III)I"⟩
abbrev cX6_full : ByteArray := prog_1_method_8_code
def yX6_full : MethodName := ⟨RX6, "full", "(IZI)I"⟩
abbrev cX6_low : ByteArray := prog_1_method_9_code
def yX6_low : MethodName := ⟨RX6, "low", "(III)I"⟩
abbrev cX6_about : ByteArray := prog_1_method_10_code
def yX6_about : MethodName := ⟨RX6, "about", "(IIZI)I"⟩
abbrev cX6_cone : ByteArray := prog_1_method_11_code
def yX6_cone : MethodName := ⟨RX6, "cone", "(III)I"⟩
abbrev cX6_lift : ByteArray := prog_1_method_12_code
def yX6_lift : MethodName := ⟨RX6, "lift", "(IIII)I"⟩
abbrev cX6_other : ByteArray := prog_1_method_13_code
def yX6_other : MethodName := ⟨RX6, "other", "(III)I"⟩
abbrev cX6_exchange : ByteArray := prog_1_method_14_code
def yX6_exchange : MethodName := ⟨RX6, "exchange", "(IIII)I"⟩
abbrev cX6_fold : ByteArray := prog_1_method_15_code
def yX6_fold : MethodName := ⟨RX6, "fold", "(II)I"⟩
abbrev cX6_has : ByteArray := prog_1_method_16_code
def yX6_has : MethodName := ⟨RX6, "has", "(II)Z"⟩
abbrev cX6_size : ByteArray := prog_1_method_17_code
def yX6_size : MethodName := ⟨RX6, "size", "(I)I"⟩
abbrev cX6_faces : ByteArray := prog_1_method_18_code
def yX6_faces : MethodName := ⟨RX6, "faces", "(II)I"⟩
abbrev cX6_corners : ByteArray := prog_1_method_19_code
def yX6_corners : MethodName := ⟨RX6, "corners", "(I)I"⟩
abbrev cX6_over : ByteArray := prog_1_method_20_code
def yX6_over : MethodName := ⟨RX6, "over", "(II)I"⟩
abbrev cX6_greatest : ByteArray := prog_1_method_21_code
def yX6_greatest : MethodName := ⟨RX6, "greatest", "(I)I"⟩
abbrev cX6_greatestAt : ByteArray := prog_1_method_22_code
def yX6_greatestAt : MethodName := ⟨RX6, "greatestAt", "(II)I"⟩
abbrev cX6_isSame : ByteArray := prog_1_method_23_code
def yX6_isSame : MethodName := ⟨RX6, "isSame", "(II)Z"⟩
abbrev cX6_contains : ByteArray := prog_1_method_24_code
def yX6_contains : MethodName := ⟨RX6, "contains", "(II)Z"⟩
abbrev cX6_pieces : ByteArray := prog_1_method_25_code
def yX6_pieces : MethodName := ⟨RX6, "pieces", "(I)I"⟩
abbrev cX6_areJoined : ByteArray := prog_1_method_26_code
def yX6_areJoined : MethodName := ⟨RX6, "areJoined", "(III)Z"⟩
abbrev cX6_free : ByteArray := prog_1_method_27_code
def yX6_free : MethodName := ⟨RX6, "free", "(II)I"⟩
abbrev cX6_holes : ByteArray := prog_1_method_28_code
def yX6_holes : MethodName := ⟨RX6, "holes", "(II)I"⟩
abbrev cX6_signed : ByteArray := prog_1_method_29_code
def yX6_signed : MethodName := ⟨RX6, "signed", "(I)I"⟩
abbrev cX6_flip : ByteArray := prog_1_method_30_code
def yX6_flip : MethodName := ⟨RX6, "flip", "(I)I"⟩
abbrev cX6_border : ByteArray := prog_1_method_31_code
def yX6_border : MethodName := ⟨RX6, "border", "()I"⟩
abbrev cX6_drop : ByteArray := prog_1_method_32_code
def yX6_drop : MethodName := ⟨RX6, "drop", "()I"⟩
abbrev cX6_rowAt : ByteArray := prog_1_method_33_code
def yX6_rowAt : MethodName := ⟨RX6, "rowAt", "(I)I"⟩
abbrev cX6_isRound : ByteArray := prog_1_method_34_code
def yX6_isRound : MethodName := ⟨RX6, "isRound", "()Z"⟩
abbrev cX6_fills : ByteArray := prog_1_method_35_code
def yX6_fills : MethodName := ⟨RX6, "fills", "(I)Z"⟩
abbrev cX6_mean : ByteArray := prog_1_method_36_code
def yX6_mean : MethodName := ⟨RX6, "mean", "(I)D"⟩
abbrev cX6_share : ByteArray := prog_1_method_37_code
def yX6_share : MethodName := ⟨RX6, "share", "(I)F"⟩
abbrev cX6_checksum : ByteArray := prog_1_method_38_code
def yX6_checksum : MethodName := ⟨RX6, "checksum", "()J"⟩
abbrev cX6_isSound : ByteArray := prog_1_method_39_code
def yX6_isSound : MethodName := ⟨RX6, "isSound", "(I)Z"⟩
abbrev cX6_isTrue : ByteArray := prog_1_method_40_code
def yX6_isTrue : MethodName := ⟨RX6, "isTrue", "(III)Z"⟩
abbrev cX6_faceIsTrue : ByteArray := prog_1_method_41_code
def yX6_faceIsTrue : MethodName := ⟨RX6, "faceIsTrue", "(II)Z"⟩
abbrev cX6_pairIsTrue : ByteArray := prog_1_method_42_code
def yX6_pairIsTrue : MethodName := ⟨RX6, "pairIsTrue", "(II)Z"⟩
abbrev cX6_shapeAt : ByteArray := prog_1_method_43_code
def yX6_shapeAt : MethodName := ⟨RX6, "shapeAt", "(I)LHoleworks$FaceSet;"⟩
abbrev cX6_giveMade : ByteArray := prog_1_method_44_code
def yX6_giveMade : MethodName := ⟨RX6, "giveMade", "(LHoleworks$FaceSet;)I"⟩
abbrev cX6_emptied : ByteArray := prog_1_method_45_code
def yX6_emptied : MethodName := ⟨RX6, "emptied", "(LHoleworks$FaceSet;)I"⟩
abbrev cX6_checkFace : ByteArray := prog_1_method_46_code
def yX6_checkFace : MethodName := ⟨RX6, "checkFace", "(I)V"⟩
abbrev cX6_checkCorner : ByteArray := prog_1_method_47_code
def yX6_checkCorner : MethodName := ⟨RX6, "checkCorner", "(I)V"⟩
abbrev cX6_checkHeight : ByteArray := prog_1_method_48_code
def yX6_checkHeight : MethodName := ⟨RX6, "checkHeight", "(II)V"⟩
abbrev cX6_checkHeld : ByteArray := prog_1_method_49_code
def yX6_checkHeld : MethodName := ⟨RX6, "checkHeld", "(LHoleworks$FaceSet;I)V"⟩
abbrev cX6_checkNew : ByteArray := prog_1_method_50_code
def yX6_checkNew : MethodName := ⟨RX6, "checkNew", "(LHoleworks$FaceSet;I)V"⟩
abbrev cX6_checkedFaceAt : ByteArray := prog_1_method_51_code
def yX6_checkedFaceAt : MethodName := ⟨RX6, "checkedFaceAt", "(LHoleworks$FaceSet;I)I"⟩
abbrev cX6_checksumOn : ByteArray := prog_1_method_52_code
def yX6_checksumOn : MethodName := ⟨RX6, "checksumOn", "(JLHoleworks$FaceSet;)J"⟩
abbrev cX6_heightOf : ByteArray := prog_1_method_53_code
def yX6_heightOf : MethodName := ⟨RX6, "heightOf", "(I)I"⟩
abbrev cX6_leastCorner : ByteArray := prog_1_method_54_code
def yX6_leastCorner : MethodName := ⟨RX6, "leastCorner", "(I)I"⟩
def RX7 : String := "HoleworksModel"
def TX7 : u_T := fun k => match k with
  | 0 => ("HoleworksModel", "shape", "[Z", true)
  | 1 => ("HoleworksModel", "made", "[Z", true)
  | 2 => ("HoleworksModel", "row", "[Z", true)
  | 3 => ("HoleworksModel", "next", "[Z", true)
  | 4 => ("HoleworksModel", "piece", "[I", true)
  | 5 => ("HoleworksModel", "kept", "[J", true)
  | 6 => ("HoleworksModel", "keptMany", "I", false)
  | _ => ("HoleworksModel", "thrown", "I", false)
def tyX7 : Nat → FieldType := fun k => match k with
  | 0 => .array .boolean
  | 1 => .array .boolean
  | 2 => .array .boolean
  | 3 => .array .boolean
  | 4 => .array .int
  | 5 => .array .long
  | 6 => .int
  | _ => .int
abbrev wsX70 : List Cond := u_ws RX7 TX7 8
theorem nmX7 : ∀ a, a < 8 → ∀ b, b < 8 → a ≠ b → (TX7 a).2.1 ≠ (TX7 b).2.1 := by decide +kernel
theorem tyX7_ok : ∀ k, k < 8 → parseFieldDescriptor (TX7 k).2.2.1 = some (tyX7 k) := by decide +kernel
abbrev cX7_init : ByteArray := prog_9_method_1_code
def yX7_init : MethodName := ⟨RX7, "<init>", "()V"⟩
abbrev cX7_thrown : ByteArray := prog_9_method_2_code
def yX7_thrown : MethodName := ⟨RX7, "thrown", "()I"⟩
abbrev cX7_isWrong : ByteArray := prog_9_method_3_code
def yX7_isWrong : MethodName := ⟨RX7, "isWrong", "(I)Z"⟩
abbrev cX7_isIn : ByteArray := prog_9_method_4_code
def yX7_isIn : MethodName := ⟨RX7, "isIn", "(III)Z"⟩
abbrev cX7_isPlace : ByteArray := prog_9_method_5_code
def yX7_isPlace : MethodName := ⟨RX7, "isPlace", "(I)Z"⟩
abbrev cX7_isFace : ByteArray := prog_9_method_6_code
def yX7_isFace : MethodName := ⟨RX7, "isFace", "(I)Z"⟩
abbrev cX7_isCorner : ByteArray := prog_9_method_7_code
def yX7_isCorner : MethodName := ⟨RX7, "isCorner", "(I)Z"⟩
abbrev cX7_isHeight : ByteArray := prog_9_method_8_code
def yX7_isHeight : MethodName := ⟨RX7, "isHeight", "(I)Z"⟩
abbrev cX7_isThere : ByteArray := prog_9_method_9_code
def yX7_isThere : MethodName := ⟨RX7, "isThere", "(II)Z"⟩
abbrev cX7_cornersOf : ByteArray := prog_9_method_10_code
def yX7_cornersOf : MethodName := ⟨RX7, "cornersOf", "(I)I"⟩
abbrev cX7_height : ByteArray := prog_9_method_11_code
def yX7_height : MethodName := ⟨RX7, "height", "(I)I"⟩
abbrev cX7_isPart : ByteArray := prog_9_method_12_code
def yX7_isPart : MethodName := ⟨RX7, "isPart", "(II)Z"⟩
abbrev cX7_sizeOf : ByteArray := prog_9_method_13_code
def yX7_sizeOf : MethodName := ⟨RX7, "sizeOf", "(I)I"⟩
abbrev cX7_cornersAt : ByteArray := prog_9_method_14_code
def yX7_cornersAt : MethodName := ⟨RX7, "cornersAt", "(I)I"⟩
abbrev cX7_overAt : ByteArray := prog_9_method_15_code
def yX7_overAt : MethodName := ⟨RX7, "overAt", "(II)I"⟩
abbrev cX7_isGreatest : ByteArray := prog_9_method_16_code
def yX7_isGreatest : MethodName := ⟨RX7, "isGreatest", "(II)Z"⟩
abbrev cX7_keep : ByteArray := prog_9_method_17_code
def yX7_keep : MethodName := ⟨RX7, "keep", "(I)I"⟩
abbrev cX7_missing : ByteArray := prog_9_method_18_code
def yX7_missing : MethodName := ⟨RX7, "missing", "(II)I"⟩
abbrev cX7_put : ByteArray := prog_9_method_19_code
def yX7_put : MethodName := ⟨RX7, "put", "(II)I"⟩
abbrev cX7_takeOut : ByteArray := prog_9_method_20_code
def yX7_takeOut : MethodName := ⟨RX7, "takeOut", "(II)I"⟩
abbrev cX7_take : ByteArray := prog_9_method_21_code
def yX7_take : MethodName := ⟨RX7, "take", "(II)I"⟩
abbrev cX7_clear : ByteArray := prog_9_method_22_code
def yX7_clear : MethodName := ⟨RX7, "clear", "(I)I"⟩
abbrev cX7_copy : ByteArray := prog_9_method_23_code
def yX7_copy : MethodName := ⟨RX7, "copy", "(II)I"⟩
abbrev cX7_unite : ByteArray := prog_9_method_24_code
def yX7_unite : MethodName := ⟨RX7, "unite", "(III)I"⟩
abbrev cX7_meet : ByteArray := prog_9_method_25_code
def yX7_meet : MethodName := ⟨RX7, "meet", "(III)I"⟩
abbrev cX7_full : ByteArray := prog_9_method_26_code
def yX7_full : MethodName := ⟨RX7, "full", "(IZI)I"⟩
abbrev cX7_low : ByteArray := prog_9_method_27_code
def yX7_low : MethodName := ⟨RX7, "low", "(III)I"⟩
abbrev cX7_about : ByteArray := prog_9_method_28_code
def yX7_about : MethodName := ⟨RX7, "about", "(IIZI)I"⟩
abbrev cX7_cone : ByteArray := prog_9_method_29_code
def yX7_cone : MethodName := ⟨RX7, "cone", "(III)I"⟩
abbrev cX7_isLifted : ByteArray := prog_9_method_30_code
def yX7_isLifted : MethodName := ⟨RX7, "isLifted", "(III)Z"⟩
abbrev cX7_lift : ByteArray := prog_9_method_31_code
def yX7_lift : MethodName := ⟨RX7, "lift", "(IIII)I"⟩
abbrev cX7_other : ByteArray := prog_9_method_32_code
def yX7_other : MethodName := ⟨RX7, "other", "(III)I"⟩
abbrev cX7_exchanged : ByteArray := prog_9_method_33_code
def yX7_exchanged : MethodName := ⟨RX7, "exchanged", "(III)I"⟩
abbrev cX7_exchange : ByteArray := prog_9_method_34_code
def yX7_exchange : MethodName := ⟨RX7, "exchange", "(IIII)I"⟩
abbrev cX7_fold : ByteArray := prog_9_method_35_code
def yX7_fold : MethodName := ⟨RX7, "fold", "(II)I"⟩
abbrev cX7_has : ByteArray := prog_9_method_36_code
def yX7_has : MethodName := ⟨RX7, "has", "(II)Z"⟩
abbrev cX7_size : ByteArray := prog_9_method_37_code
def yX7_size : MethodName := ⟨RX7, "size", "(I)I"⟩
abbrev cX7_facesOf : ByteArray := prog_9_method_38_code
def yX7_facesOf : MethodName := ⟨RX7, "facesOf", "(II)I"⟩
abbrev cX7_faces : ByteArray := prog_9_method_39_code
def yX7_faces : MethodName := ⟨RX7, "faces", "(II)I"⟩
abbrev cX7_corners : ByteArray := prog_9_method_40_code
def yX7_corners : MethodName := ⟨RX7, "corners", "(I)I"⟩
abbrev cX7_over : ByteArray := prog_9_method_41_code
def yX7_over : MethodName := ⟨RX7, "over", "(II)I"⟩
abbrev cX7_greatestOf : ByteArray := prog_9_method_42_code
def yX7_greatestOf : MethodName := ⟨RX7, "greatestOf", "(I)I"⟩
abbrev cX7_greatest : ByteArray := prog_9_method_43_code
def yX7_greatest : MethodName := ⟨RX7, "greatest", "(I)I"⟩
abbrev cX7_greatestAt : ByteArray := prog_9_method_44_code
def yX7_greatestAt : MethodName := ⟨RX7, "greatestAt", "(II)I"⟩
abbrev cX7_isOf : ByteArray := prog_9_method_45_code
def yX7_isOf : MethodName := ⟨RX7, "isOf", "(II)Z"⟩
abbrev cX7_isSame : ByteArray := prog_9_method_46_code
def yX7_isSame : MethodName := ⟨RX7, "isSame", "(II)Z"⟩
abbrev cX7_contains : ByteArray := prog_9_method_47_code
def yX7_contains : MethodName := ⟨RX7, "contains", "(II)Z"⟩
abbrev cX7_walk : ByteArray := prog_9_method_48_code
def yX7_walk : MethodName := ⟨RX7, "walk", "(I)V"⟩
abbrev cX7_join : ByteArray := prog_9_method_49_code
def yX7_join : MethodName := ⟨RX7, "join", "(I)V"⟩
abbrev cX7_pieces : ByteArray := prog_9_method_50_code
def yX7_pieces : MethodName := ⟨RX7, "pieces", "(I)I"⟩
abbrev cX7_areJoined : ByteArray := prog_9_method_51_code
def yX7_areJoined : MethodName := ⟨RX7, "areJoined", "(III)Z"⟩
abbrev cX7_bit : ByteArray := prog_9_method_52_code
def yX7_bit : MethodName := ⟨RX7, "bit", "(I)J"⟩
abbrev cX7_borderBits : ByteArray := prog_9_method_53_code
def yX7_borderBits : MethodName := ⟨RX7, "borderBits", "(I)J"⟩
abbrev cX7_left : ByteArray := prog_9_method_54_code
def yX7_left : MethodName := ⟨RX7, "left", "(J)J"⟩
abbrev cX7_rank : ByteArray := prog_9_method_55_code
def yX7_rank : MethodName := ⟨RX7, "rank", "(II)I"⟩
abbrev cX7_free : ByteArray := prog_9_method_56_code
def yX7_free : MethodName := ⟨RX7, "free", "(II)I"⟩
abbrev cX7_holes : ByteArray := prog_9_method_57_code
def yX7_holes : MethodName := ⟨RX7, "holes", "(II)I"⟩
abbrev cX7_signed : ByteArray := prog_9_method_58_code
def yX7_signed : MethodName := ⟨RX7, "signed", "(I)I"⟩
abbrev cX7_rowMany : ByteArray := prog_9_method_59_code
def yX7_rowMany : MethodName := ⟨RX7, "rowMany", "()I"⟩
abbrev cX7_rowHeight : ByteArray := prog_9_method_60_code
def yX7_rowHeight : MethodName := ⟨RX7, "rowHeight", "()I"⟩
abbrev cX7_flip : ByteArray := prog_9_method_61_code
def yX7_flip : MethodName := ⟨RX7, "flip", "(I)I"⟩
abbrev cX7_findBorder : ByteArray := prog_9_method_62_code
def yX7_findBorder : MethodName := ⟨RX7, "findBorder", "()V"⟩
abbrev cX7_border : ByteArray := prog_9_method_63_code
def yX7_border : MethodName := ⟨RX7, "border", "()I"⟩
abbrev cX7_drop : ByteArray := prog_9_method_64_code
def yX7_drop : MethodName := ⟨RX7, "drop", "()I"⟩
abbrev cX7_rowAt : ByteArray := prog_9_method_65_code
def yX7_rowAt : MethodName := ⟨RX7, "rowAt", "(I)I"⟩
abbrev cX7_isRound : ByteArray := prog_9_method_66_code
def yX7_isRound : MethodName := ⟨RX7, "isRound", "()Z"⟩
abbrev cX7_fills : ByteArray := prog_9_method_67_code
def yX7_fills : MethodName := ⟨RX7, "fills", "(I)Z"⟩
abbrev cX7_mean : ByteArray := prog_9_method_68_code
def yX7_mean : MethodName := ⟨RX7, "mean", "(I)D"⟩
abbrev cX7_share : ByteArray := prog_9_method_69_code
def yX7_share : MethodName := ⟨RX7, "share", "(I)F"⟩
abbrev cX7_checksum : ByteArray := prog_9_method_70_code
def yX7_checksum : MethodName := ⟨RX7, "checksum", "()J"⟩
abbrev cX7_isSound : ByteArray := prog_9_method_71_code
def yX7_isSound : MethodName := ⟨RX7, "isSound", "(I)Z"⟩
abbrev cX7_isTrue : ByteArray := prog_9_method_72_code
def yX7_isTrue : MethodName := ⟨RX7, "isTrue", "(III)Z"⟩
abbrev cX7_faceIsTrue : ByteArray := prog_9_method_73_code
def yX7_faceIsTrue : MethodName := ⟨RX7, "faceIsTrue", "(II)Z"⟩
abbrev cX7_pairIsTrue : ByteArray := prog_9_method_74_code
def yX7_pairIsTrue : MethodName := ⟨RX7, "pairIsTrue", "(II)Z"⟩
def RJx145de : String := "java/io/Serializable"
def RJ6 : String := "java/lang/Integer"
abbrev cJ6_bitCount_0f7a4 : ByteArray := prog_15_method_49_code
def yJ6_bitCount_0f7a4 : MethodName := ⟨RJ6, "bitCount", "(I)I"⟩
def RJ13 : String := "java/lang/Long"
abbrev cJ13_bitCount_95d88 : ByteArray := prog_16_method_50_code
def yJ13_bitCount_95d88 : MethodName := ⟨RJ13, "bitCount", "(J)I"⟩
def RJ0 : String := "java/lang/String"
def RL : String := "HoleworksLaw"
abbrev cL_put : ByteArray := method_3_code
def yL_put : MethodName := ⟨RL, "put", "(LHoleworks;II[J)I"⟩
abbrev cL_take : ByteArray := method_4_code
def yL_take : MethodName := ⟨RL, "take", "(LHoleworks;II[J)I"⟩
abbrev cL_clear : ByteArray := method_5_code
def yL_clear : MethodName := ⟨RL, "clear", "(LHoleworks;I[J)I"⟩
abbrev cL_copy : ByteArray := method_6_code
def yL_copy : MethodName := ⟨RL, "copy", "(LHoleworks;II[J)I"⟩
abbrev cL_unite : ByteArray := method_7_code
def yL_unite : MethodName := ⟨RL, "unite", "(LHoleworks;III[J)I"⟩
abbrev cL_meet : ByteArray := method_8_code
def yL_meet : MethodName := ⟨RL, "meet", "(LHoleworks;III[J)I"⟩
abbrev cL_full : ByteArray := method_9_code
def yL_full : MethodName := ⟨RL, "full", "(LHoleworks;IZI[J)I"⟩
abbrev cL_low : ByteArray := method_10_code
def yL_low : MethodName := ⟨RL, "low", "(LHoleworks;III[J)I"⟩
abbrev cL_about : ByteArray := method_11_code
def yL_about : MethodName := ⟨RL, "about", "(LHoleworks;IIZI[J)I"⟩
abbrev cL_cone : ByteArray := method_12_code
def yL_cone : MethodName := ⟨RL, "cone", "(LHoleworks;III[J)I"⟩
abbrev cL_lift : ByteArray := method_13_code
def yL_lift : MethodName := ⟨RL, "lift", "(LHoleworks;IIII[J)I"⟩
abbrev cL_other : ByteArray := method_14_code
def yL_other : MethodName := ⟨RL, "other", "(LHoleworks;III[J)I"⟩
abbrev cL_exchange : ByteArray := method_15_code
def yL_exchange : MethodName := ⟨RL, "exchange", "(LHoleworks;IIII[J)I"⟩
abbrev cL_fold : ByteArray := method_16_code
def yL_fold : MethodName := ⟨RL, "fold", "(LHoleworks;II[J)I"⟩
abbrev cL_has : ByteArray := method_17_code
def yL_has : MethodName := ⟨RL, "has", "(LHoleworks;II[J)I"⟩
abbrev cL_size : ByteArray := method_18_code
def yL_size : MethodName := ⟨RL, "size", "(LHoleworks;I[J)I"⟩
abbrev cL_faces : ByteArray := method_19_code
def yL_faces : MethodName := ⟨RL, "faces", "(LHoleworks;II[J)I"⟩
abbrev cL_corners : ByteArray := method_20_code
def yL_corners : MethodName := ⟨RL, "corners", "(LHoleworks;I[J)I"⟩
abbrev cL_over : ByteArray := method_21_code
def yL_over : MethodName := ⟨RL, "over", "(LHoleworks;II[J)I"⟩
abbrev cL_greatest : ByteArray := method_22_code
def yL_greatest : MethodName := ⟨RL, "greatest", "(LHoleworks;I[J)I"⟩
abbrev cL_greatestAt : ByteArray := method_23_code
def yL_greatestAt : MethodName := ⟨RL, "greatestAt", "(LHoleworks;II[J)I"⟩
abbrev cL_isSame : ByteArray := method_24_code
def yL_isSame : MethodName := ⟨RL, "isSame", "(LHoleworks;II[J)I"⟩
abbrev cL_contains : ByteArray := method_25_code
def yL_contains : MethodName := ⟨RL, "contains", "(LHoleworks;II[J)I"⟩
abbrev cL_pieces : ByteArray := method_26_code
def yL_pieces : MethodName := ⟨RL, "pieces", "(LHoleworks;I[J)I"⟩
abbrev cL_areJoined : ByteArray := method_27_code
def yL_areJoined : MethodName := ⟨RL, "areJoined", "(LHoleworks;III[J)I"⟩
abbrev cL_free : ByteArray := method_28_code
def yL_free : MethodName := ⟨RL, "free", "(LHoleworks;II[J)I"⟩
abbrev cL_holes : ByteArray := method_29_code
def yL_holes : MethodName := ⟨RL, "holes", "(LHoleworks;II[J)I"⟩
abbrev cL_signed : ByteArray := method_30_code
def yL_signed : MethodName := ⟨RL, "signed", "(LHoleworks;I[J)I"⟩
abbrev cL_flip : ByteArray := method_31_code
def yL_flip : MethodName := ⟨RL, "flip", "(LHoleworks;I[J)I"⟩
abbrev cL_rowAt : ByteArray := method_32_code
def yL_rowAt : MethodName := ⟨RL, "rowAt", "(LHoleworks;I[J)I"⟩
abbrev cL_fills : ByteArray := method_33_code
def yL_fills : MethodName := ⟨RL, "fills", "(LHoleworks;I[J)I"⟩
abbrev cL_mean : ByteArray := method_34_code
def yL_mean : MethodName := ⟨RL, "mean", "(LHoleworks;I[D)I"⟩
abbrev cL_share : ByteArray := method_35_code
def yL_share : MethodName := ⟨RL, "share", "(LHoleworks;I[D)I"⟩
abbrev cL_isSound : ByteArray := method_36_code
def yL_isSound : MethodName := ⟨RL, "isSound", "(LHoleworks;I[J)I"⟩
abbrev cL_isTrue : ByteArray := method_37_code
def yL_isTrue : MethodName := ⟨RL, "isTrue", "(LHoleworks;III[J)I"⟩
abbrev cL_faceIsTrue : ByteArray := method_38_code
def yL_faceIsTrue : MethodName := ⟨RL, "faceIsTrue", "(LHoleworks;II[J)I"⟩
abbrev cL_pairIsTrue : ByteArray := method_39_code
def yL_pairIsTrue : MethodName := ⟨RL, "pairIsTrue", "(LHoleworks;II[J)I"⟩
abbrev cL_law : ByteArray := code
def yL_law : MethodName := ⟨RL, "law", "([I)Z"⟩
abbrev vwCl : List vw_C := [(RX0, TX0, 3), (RX1, TX1, 2), (RX2, TX2, 1), (RX4, TX4, 6), (RX6, TX6, 5), (RX7, TX7, 8)]
end
section
/-! ===== BEGIN words of one list among another's, by their places ===== -/
theorem goodIn_r {big : List Cond} (ws : List Cond) (ps : List Nat) (hp : ws = ps.filterMap (fun i => big[i]?)) (h : ws.all goodWord = true) : GoodIn big ws := by
  intro w hw
  have h1 := List.all_eq_true.mp h w hw
  rw [hp] at hw
  obtain ⟨i, -, hi⟩ := List.mem_filterMap.mp hw
  have hm : w ∈ big := by first | exact List.mem_of_getElem? hi | exact List.getElem?_mem hi
  exact ⟨hm, good_of_word h1⟩
theorem goodIn_app {big a b : List Cond} (ha : GoodIn big a) (hb : GoodIn big b) : GoodIn big (a ++ b) := fun w h => (List.mem_append.mp h).elim (ha w) (hb w)
theorem goodIn_ca {big a b : List Cond} {c : Cond} (ha : GoodIn big (c :: a)) (hb : GoodIn big b) : GoodIn big (c :: (a ++ b)) := fun w h => (List.mem_cons.mp h).elim (fun e => ha w (List.mem_cons.mpr (Or.inl e))) (fun h => (List.mem_append.mp h).elim (fun h => ha w (List.mem_cons.mpr (Or.inr h))) (hb w))
theorem goodIn_sub {big ws : List Cond} (hm : ∀ w ∈ ws, w ∈ big) (h : ws.all goodWord = true) : GoodIn big ws := fun w hw => ⟨hm w hw, good_of_word (List.all_eq_true.mp h w hw)⟩
/-! ===== END ===== -/
/-! ===== BEGIN exceptions that leave a method, and their catching by the caller (launches without stack traces) ===== -/
section VXA
/-! The laws vx_back, vx_callV, vx_callS, vx_callSW, vx_throw0, vx_throwS follow proofs of the library, with one case more: JvmDerived/Free/Laws.lean (Back.of_free), Shelf42/LK1.lean (callV, callS), Shelf/KitTraced.lean (throwNew0V, throwNewS). -/
/-- where a method has thrown q: the class by its name, the cell, what was written, the world -/
def vx_T (XC : String → State → State → Prop) (st : State) (q : Addr) (t : State) (mc ms : Nat) (free : Addr → Prop) : Prop :=
  ∃ (E : String) (ce : Cell) (L : List Loc), XC E st t ∧ t.heap[q]? = some ce ∧ ce.vm = .none ∧ st.vm.findClass E = some ce.cls ∧ st.WarmedH t.vm ∧ st.sameButNew ({ t with vm := st.vm } : State) L mc ms ∧ ∀ z ∈ L, free z.base
def vx_Q (Qc : Array Value → State → Outcome → State → Prop) (XC : String → State → State → Prop) (mc ms : Nat) (free : Addr → Prop) : Array Value → State → Outcome → State → Prop := fun a st o t =>
  (Qc a st o t ∧ ∃ L, FrameEnd st o t L mc ms ∧ ∀ q ∈ L, free q.base) ∨ ∃ q, o = .threw q ∧ vx_T XC st q t mc ms free
/-- a callee that returns or throws -/
def vx_Met (l : Launch) (y : MethodName) (ws : List Cond) (rm : Room) (Pc : Array Value → State → Prop) (Qc : Array Value → State → Outcome → State → Prop) (XC : String → State → State → Prop) (mc ms : Nat) (free : Addr → Prop) : Prop :=
  MetFree l y (headSpec ws rm) Pc (fun _ _ _ _ _ => True) (vx_Q Qc XC mc ms free)
def vx_Post (XC : String → State → State → Prop) (mc ms : Nat) (free : Addr → Prop) : Pt → Array Value → Addr → Pt → Prop := fun A a q B =>
  ∃ (g : JFrame) (mk : MethodId) (t : State) (L : List Loc) (E : String) (ce : Cell), B.U.heap = t.heap ∧ B.U.vm = t.vm ∧ XC E (A.U.calling g mk a) t ∧ t.heap[q]? = some ce ∧ ce.vm = .none ∧ A.U.vm.findClass E = some ce.cls ∧ B.locs = A.locs ++ L ∧ (∀ z ∈ L, free z.base) ∧ B.cells = A.cells + mc ∧ B.slots = A.slots + ms
def vx_Back (l : Launch) (R : Room) (p : Program) (e : Env) (below : List Frame) (s : State) (sargs : Array Value) (y : MethodName) (len W9 : Nat)
    (Pre : Pt → Array Value → Prop) (Post : Pt → Array Value → Option Value → Pt → Prop) (PostX : Pt → Array Value → Addr → Pt → Prop) : Prop :=
  ∀ (m : MethodId) (meth : Method) (c : Code) (A : Pt) (g : JFrame) (ig : Instr) (mk : MethodId) (a : Array Value),
    Stand p l e R s m sargs below meth c A.U A.locs A.cells A.slots → g.method = m → g.locals.size = c.maxLocals → decode c.code g.pc = .ok (ig, len) →
    2 * g.monitorRoom + (g.stack.map fun v => v.category).sum ≤ W9 → A.U.methodNamed? y = some mk → Pre A a →
    (∃ (v : Option Value) (B : Pt), Stand p l e R s m sargs below meth c B.U B.locs B.cells B.slots ∧ Post A a v B ∧
      Steps p.tables e below (doInvoke e (A.U.setTop g) [] mk a).1 (B.U.setTop { g with pc := g.pc + len, stack := v.toList ++ g.stack })) ∨
    (∃ (q : Addr) (B : Pt), Stand p l e R s m sargs below meth c B.U B.locs B.cells B.slots ∧ PostX A a q B ∧
      Steps p.tables e below (doInvoke e (A.U.setTop g) [] mk a).1 ((B.U.setTop g).pushFrame (.throwing q)))
section Payer
variable {l : Launch} {R : Room} {p : Program} {e : Env} {below : List Frame} {s : State} {sargs : Array Value} {y : MethodName} {len W9 : Nat}
theorem vx_back {ws : List Cond} {rm : Room} {Pc : Array Value → State → Prop} {Qc : Array Value → State → Outcome → State → Prop} {XC : String → State → State → Prop} {mc ms : Nat} {free : Addr → Prop} {bytes : ByteArray} {maxL : Nat} {ret : Option FieldType}
    (hM : vx_Met l y ws rm Pc Qc XC mc ms free) (hblind : FrameBlind Pc) (hrc : rm.cells = mc) (hrs : rm.slots = ms)
    (hframes : rm.frames + 1 ≤ R.frames) (hlocals : W9 + (maxL + 11) + rm.locals ≤ R.locals)
    (hws : ∀ w ∈ ws, ∀ a' U, s.WarmedH U.vm → w.before a' U = true) (hcode : Cond.code y bytes maxL ret ∈ ws) (hinit : ∀ a' U, s.WarmedH U.vm → (Cond.initialized y.cls).before a' U = true) :
    vx_Back l R p e below s sargs y len W9 (PreOf R mc ms Pc) (PostOf Qc mc ms free) (vx_Post XC mc ms free) := by
  intro m meth c A g ig mk a X hg hsize hdg hW hn hp
  have h1 : (headSpec ws rm).pre.before a A.U = true := atoms_intro fun w hw => hws w hw _ _ X.warmed
  have h2 : (Cond.code y bytes maxL ret).before a A.U = true := hws _ hcode _ _ X.warmed
  have h3 : (Cond.initialized y.cls).before a A.U = true := hinit _ _ X.warmed
  have h4 : A.cells + (headSpec ws rm).room.cells ≤ R.cells := by rw [show (headSpec ws rm).room.cells = mc from hrc]; exact hp.1
  have h5 : A.slots + (headSpec ws rm).room.slots ≤ R.slots := by rw [show (headSpec ws rm).room.slots = ms from hrs]; exact hp.2.1
  have hPc : Pc a (A.U.calling g mk a) := hblind _ _ _ _ hp.2.2
  obtain ⟨U, Ls, c0, s0⟩ := A
  dsimp only [Pt.U, Pt.locs, Pt.cells, Pt.slots] at h1 h2 h3 h4 h5 X hn hPc ⊢
  obtain ⟨methY, cY, hmY, hcY, -, hlY, -, -, -, -⟩ := Cond.code_spec hn h2
  obtain ⟨kY, hkY, -⟩ := className_of_methodNamed hn
  have hinitY : kY.init = .initialized := Cond.initialized_spec (findClass_of_methodNamed hn) hkY h3
  have h : At U g.method c below := by rw [hg]; exact X.here
  have hlocals9 : W9 + (maxL + 11) + (headSpec ws rm).room.locals ≤ R.locals := hlocals
  have happ : (headSpec ws rm).appliesLoose y e.platform (U.calling g mk a) = true :=
    Spec.appliesLoose_calling (g := g) h hdg hn hkY hinitY
      (X.room_calling (g := g) (R' := (headSpec ws rm).room) hsize hmY hcY hframes (by rw [hlY]; omega) h4 h5) h1
  obtain ⟨mid, hmid⟩ := h.above
  have hfr : (U.setTop g).frames = (.java g :: mid) ++ below := by rw [State.frames_setTop' g h.top, hmid]; rfl
  obtain ⟨o, s₂, hsteps, -, hend, hq⟩ := Steps.callFree hM p X.admits X.cas X.clock (acts := []) hfr happ hPc trivial
  have hq' : vx_Q Qc XC mc ms free a (U.calling g mk a) o s₂ := hq
  rw [State.frames_setTop' g h.top] at hend
  obtain ⟨g₀, hg0⟩ := Option.isSome_iff_exists.mp h.top
  obtain ⟨r, hr⟩ := State.topJava?_eq_some.mp hg0
  have hr' : (({ U with heap := s₂.heap, slotsUsed := s₂.slotsUsed } : State).setVm s₂.vm).frames = .java g₀ :: r := hr
  rcases hq' with ⟨hqc, L, hfe, hL⟩ | ⟨q, rfl, E, ce, L, hx, hce, hcv, hcl, hW₂, hsm, hL⟩
  · obtain ⟨⟨v, rfl⟩, hW₂, e2, q2, q3, q4, q5, q6⟩ := id hfe
    have e3 : s₂ = ({ (U.calling g mk a).setFrames s₂.frames with heap := s₂.heap, slotsUsed := s₂.slotsUsed } : State).setVm s₂.vm := by
      have : s₂ = ({ s₂ with vm := (U.calling g mk a).vm } : State).setVm s₂.vm := rfl
      rw [e2] at this
      exact this
    obtain ⟨c₂, i₂, len₂, hc₂, hd₂, hf₂⟩ := hend
    have hW' : U.WarmedH s₂.vm := hW₂
    have hcc : c₂ = c := by
      have h1 : s₂.code? g.method = U.code? g.method := by
        rw [State.code?_eq, State.code?_eq, hW'.alike.method?]
      exact Option.some.inj (hc₂.symm.trans (h1.trans h.code))
    subst hcc
    have hlen : len₂ = len := by rw [hdg] at hd₂; cases hd₂; rfl
    subst hlen
    have hs₂ : s₂ = (({ U with heap := s₂.heap, slotsUsed := s₂.slotsUsed } : State).setVm s₂.vm).setTop { g with pc := g.pc + len₂, stack := v.toList ++ g.stack } := by
      refine e3.trans ?_
      rw [hf₂, State.calling_eq h.top, State.setFrames_setFrames, State.setTop_of_frames _ hr', hr]
      rfl
    have hsame : U.sameButNew ({ U with heap := s₂.heap, slotsUsed := s₂.slotsUsed } : State) L mc ms := by
      refine ⟨?_, q2, q3, q4, q5, q6⟩
      obtain ⟨t, ht, -⟩ := State.frames_cons hr
      show ({ U with heap := s₂.heap, slotsUsed := s₂.slotsUsed } : State) = { U.setFrames U.frames with heap := s₂.heap, slotsUsed := s₂.slotsUsed }
      rw [State.setFrames_self ht]
    subst hg
    refine Or.inl ⟨v, ⟨(({ U with heap := s₂.heap, slotsUsed := s₂.slotsUsed } : State).setVm s₂.vm), Ls ++ L, c0 + mc, s0 + ms⟩,
      ⟨X.admits, X.cas, X.clock, X.frames, X.room, X.hears, X.method, X.code, (X.here.setHeapUsed s₂.heap s₂.slotsUsed).setVm hW'.alike, X.tail, State.WarmedH.trans X.warmed hW', X.limits, X.bytes, X.same.trans (hsame.setVm s.vm)⟩,
      ⟨g, mk, s₂, L, rfl, rfl, hqc, rfl, hL, rfl, rfl⟩, ?_⟩
    show Steps p.tables e below _ ((({ U with heap := s₂.heap, slotsUsed := s₂.slotsUsed } : State).setVm s₂.vm).setTop { g with pc := g.pc + len₂, stack := v.toList ++ g.stack })
    rw [← hs₂]
    exact hsteps
  · obtain ⟨e2, q2, q3, q4, q5, q6⟩ := id hsm
    have e3 : s₂ = ({ (U.calling g mk a).setFrames s₂.frames with heap := s₂.heap, slotsUsed := s₂.slotsUsed } : State).setVm s₂.vm := by
      have : s₂ = ({ s₂ with vm := (U.calling g mk a).vm } : State).setVm s₂.vm := rfl
      rw [e2] at this
      exact this
    have hf₂ : s₂.frames = .throwing q :: .java g :: U.frames.tail := hend
    have hW' : U.WarmedH s₂.vm := hW₂
    have hs₂ : s₂ = ((({ U with heap := s₂.heap, slotsUsed := s₂.slotsUsed } : State).setVm s₂.vm).setTop g).pushFrame (.throwing q) := by
      refine e3.trans ?_
      rw [hf₂, State.calling_eq h.top, State.setFrames_setFrames, State.pushFrame, State.frames_setTop _ hr', State.setTop_of_frames _ hr', State.setFrames_setFrames, hr]
      rfl
    have hsame : U.sameButNew ({ U with heap := s₂.heap, slotsUsed := s₂.slotsUsed } : State) L mc ms := by
      refine ⟨?_, q2, q3, q4, q5, q6⟩
      obtain ⟨t, ht, -⟩ := State.frames_cons hr
      show ({ U with heap := s₂.heap, slotsUsed := s₂.slotsUsed } : State) = { U.setFrames U.frames with heap := s₂.heap, slotsUsed := s₂.slotsUsed }
      rw [State.setFrames_self ht]
    subst hg
    refine Or.inr ⟨q, ⟨(({ U with heap := s₂.heap, slotsUsed := s₂.slotsUsed } : State).setVm s₂.vm), Ls ++ L, c0 + mc, s0 + ms⟩,
      ⟨X.admits, X.cas, X.clock, X.frames, X.room, X.hears, X.method, X.code, (X.here.setHeapUsed s₂.heap s₂.slotsUsed).setVm hW'.alike, X.tail, State.WarmedH.trans X.warmed hW', X.limits, X.bytes, X.same.trans (hsame.setVm s.vm)⟩,
      ⟨g, mk, s₂, L, E, ce, rfl, rfl, hx, hce, hcv, hcl, rfl, hL, rfl, rfl⟩, ?_⟩
    show Steps p.tables e below _ (((({ U with heap := s₂.heap, slotsUsed := s₂.slotsUsed } : State).setVm s₂.vm).setTop g).pushFrame (.throwing q))
    rw [← hs₂]
    exact hsteps
end Payer
section Calls
variable {p : Program} {l : Launch} {e : Env} {R : Room} {s : State} {m : MethodId} {args : Array Value} {below : List Frame} {meth : Method} {c : Code} {T : State} {locs : List Loc} {cells slots : Nat}
theorem vx_callV (X : Stand p l e R s m args below meth c T locs cells slots) (hexec : p.tables.exec = Jvm.exec) {own C : String} {index : Nat} {y : MethodName} {bytes : ByteArray} {maxL : Nat} {ret : Option FieldType}
    (hown : s.vm.findClass own = some m.cls) (hlink : (Cond.methodLink own index y).before args s = true) (hinst : (Cond.instanceMethod y).before args s = true) (hsel : (Cond.selects C y y).before args s = true)
    (hcode : (Cond.code y bytes maxL ret).before args s = true) (hy : y.cls ≠ "java/lang/invoke/MethodHandle" ∧ y.cls ≠ "java/lang/invoke/VarHandle")
    {W9 : Nat} {Pre : Pt → Array Value → Prop} {Post : Pt → Array Value → Option Value → Pt → Prop} {PostX : Pt → Array Value → Addr → Pt → Prop} (hK : vx_Back l R p e below s args y 3 W9 Pre Post PostX)
    {b : Addr} {cellB : Cell} (hcell : T.heap[b]? = some cellB) (hobj : cellB.vm.isStatics = false) (hcls : s.vm.findClass C = some cellB.cls)
    {g : JFrame} (hg : g.method = m) (hsize : g.locals.size = c.maxLocals) {argsL rest : List Value} (hlen : ∀ sig, parseMethodDescriptor y.desc = some sig → argsL.length = sig.parameters.length)
    (hstack : g.stack = argsL.reverse ++ .ref b :: rest) (hW : 2 * g.monitorRoom + (rest.map fun v => v.category).sum ≤ W9) (hdg : decode c.code g.pc = .ok (.invokevirtual index, 3))
    (hpre : ∀ vm₁, s.WarmedH vm₁ → Pre ⟨T.setVm vm₁, locs, cells, slots⟩ (Value.ref b :: argsL).toArray) :
    (∃ (v : Option Value) (vm₁ : Vm) (B : Pt), s.WarmedH vm₁ ∧ Stand p l e R s m args below meth c B.U B.locs B.cells B.slots ∧ Post ⟨T.setVm vm₁, locs, cells, slots⟩ (Value.ref b :: argsL).toArray v B ∧
      ∀ target, Steps p.tables e below (B.U.setTop { g with pc := g.pc + 3, stack := v.toList ++ rest }) target → Steps p.tables e below (T.setTop g) target) ∨
    (∃ (q : Addr) (vm₁ : Vm) (B : Pt), s.WarmedH vm₁ ∧ Stand p l e R s m args below meth c B.U B.locs B.cells B.slots ∧ PostX ⟨T.setVm vm₁, locs, cells, slots⟩ (Value.ref b :: argsL).toArray q B ∧
      Steps p.tables e below (T.setTop g) ((B.U.setTop { g with stack := rest }).pushFrame (.throwing q))) := by
  obtain ⟨mk, methM, hnamed, hmethM, hstM, habM⟩ := Cond.instanceMethod_spec hinst
  obtain ⟨methM', cM, hmethM', -, -, -, -, -, -, hsigM⟩ := Cond.code_spec hnamed hcode
  cases hmethM.symm.trans hmethM'
  obtain ⟨c2, r2, m2, q1, q2, q3, q4, kP, hkP, hkPi⟩ := Cond.selects_spec hsel
  cases hcls.symm.trans q1
  cases (State.methodFound?_of_named hnamed hy).symm.trans q2
  cases hnamed.symm.trans q3
  have hselP : selectMethod e.platform s.vm cellB.cls mk = .method mk := by rw [Launch.admits_selectMethod X.admits]; exact q4
  obtain ⟨vm₁, X₁, hstep₁⟩ := X.invokevirtual hexec hown hlink hnamed hmethM hstM hkP hkPi hy (a := b) (cell := cellB) hcell
    (fun z h => by rw [h] at hobj; cases hobj) hselP hmethM habM hkP hkPi (g := g) hg (argsL := argsL) (rest := rest) (hlen _ hsigM) hstack hdg
  rcases hK m meth c ⟨T.setVm vm₁, locs, cells, slots⟩ { g with stack := rest } (.invokevirtual index) mk (Value.ref b :: argsL).toArray X₁ hg hsize hdg hW (X₁.named hnamed) (hpre vm₁ X₁.warmed) with ⟨v, B, X', hpost, hsteps⟩ | ⟨q, B, X', hpost, hsteps⟩
  · exact Or.inl ⟨v, vm₁, B, X₁.warmed, X', hpost, fun target h => hstep₁ _ fun acts => by rw [doInvoke_state]; exact hsteps.trans h⟩
  · exact Or.inr ⟨q, vm₁, B, X₁.warmed, X', hpost, hstep₁ _ fun acts => by rw [doInvoke_state]; exact hsteps⟩
theorem vx_callS (X : Stand p l e R s m args below meth c T locs cells slots) (hexec : p.tables.exec = Jvm.exec) {own : String} {index : Nat} {y : MethodName} {bytes : ByteArray} {maxL : Nat} {ret : Option FieldType}
    (hown : s.vm.findClass own = some m.cls) (hlink : (Cond.methodLink own index y).before args s = true) (hstat : (Cond.static y).before args s = true) (hinit : (Cond.initialized y.cls).before args s = true)
    (hcode : (Cond.code y bytes maxL ret).before args s = true) (hy : y.cls ≠ "java/lang/invoke/MethodHandle" ∧ y.cls ≠ "java/lang/invoke/VarHandle")
    {W9 : Nat} {Pre : Pt → Array Value → Prop} {Post : Pt → Array Value → Option Value → Pt → Prop} {PostX : Pt → Array Value → Addr → Pt → Prop} (hK : vx_Back l R p e below s args y 3 W9 Pre Post PostX)
    {g : JFrame} (hg : g.method = m) (hsize : g.locals.size = c.maxLocals) {argsL rest : List Value} (hlen : ∀ sig, parseMethodDescriptor y.desc = some sig → argsL.length = sig.parameters.length)
    (hstack : g.stack = argsL.reverse ++ rest) (hW : 2 * g.monitorRoom + (rest.map fun v => v.category).sum ≤ W9) (hdg : decode c.code g.pc = .ok (.invokestatic index, 3))
    (hpre : ∀ vm₁, s.WarmedH vm₁ → Pre ⟨T.setVm vm₁, locs, cells, slots⟩ argsL.toArray) :
    (∃ (v : Option Value) (vm₁ : Vm) (B : Pt), s.WarmedH vm₁ ∧ Stand p l e R s m args below meth c B.U B.locs B.cells B.slots ∧ Post ⟨T.setVm vm₁, locs, cells, slots⟩ argsL.toArray v B ∧
      ∀ target, Steps p.tables e below (B.U.setTop { g with pc := g.pc + 3, stack := v.toList ++ rest }) target → Steps p.tables e below (T.setTop g) target) ∨
    (∃ (q : Addr) (vm₁ : Vm) (B : Pt), s.WarmedH vm₁ ∧ Stand p l e R s m args below meth c B.U B.locs B.cells B.slots ∧ PostX ⟨T.setVm vm₁, locs, cells, slots⟩ argsL.toArray q B ∧
      Steps p.tables e below (T.setTop g) ((B.U.setTop { g with stack := rest }).pushFrame (.throwing q))) := by
  obtain ⟨mk, hnamed⟩ := Cond.code_named hcode
  obtain ⟨methM, cM, hmethM, -, -, -, -, -, -, hsigM⟩ := Cond.code_spec hnamed hcode
  have hstatic : methM.isStatic = true := Cond.static_spec hnamed hmethM hstat
  obtain ⟨kP, hkP, -⟩ := className_of_methodNamed hnamed
  have hinitP : kP.init = .initialized := Cond.initialized_spec (findClass_of_methodNamed hnamed) hkP hinit
  obtain ⟨vm₁, X₁, hstep₁⟩ := X.invokestatic hexec hown hlink hnamed hmethM hstatic hkP hinitP hy (g := g) hg (argsL := argsL) (rest := rest) (hlen _ hsigM) hstack hdg
  rcases hK m meth c ⟨T.setVm vm₁, locs, cells, slots⟩ { g with stack := rest } (.invokestatic index) mk argsL.toArray X₁ hg hsize hdg hW (X₁.named hnamed) (hpre vm₁ X₁.warmed) with ⟨v, B, X', hpost, hsteps⟩ | ⟨q, B, X', hpost, hsteps⟩
  · exact Or.inl ⟨v, vm₁, B, X₁.warmed, X', hpost, fun target h => hstep₁ _ fun acts => by rw [doInvoke_state]; exact hsteps.trans h⟩
  · exact Or.inr ⟨q, vm₁, B, X₁.warmed, X', hpost, hstep₁ _ fun acts => by rw [doInvoke_state]; exact hsteps⟩
end Calls
theorem vx_cls {s : State} {T : State} {vm₁ : Vm} {E : String} {k : ClassId} (hW : s.WarmedH vm₁) (h : (T.setVm vm₁).vm.findClass E = some k) : s.vm.findClass E = some k := by
  have h1 : vm₁.findClass E = some k := h
  rw [hW.alike.findClass] at h1
  exact h1
/-- the method's frame g, with q thrown over it -/
def vx_W (p : Program) (l : Launch) (e : Env) (R : Room) (s : State) (m : MethodId) (args : Array Value) (below : List Frame) (meth : Method) (c : Code) (H : Heap) (locs : List Loc) (cells slots : Nat) (Q : State → Prop) (g : JFrame) (q : Addr) : Prop :=
  ∀ T : State, T.heap = H → Stand p l e R s m args below meth c T locs cells slots → ∃ t, Steps p.tables e below ((T.setTop g).pushFrame (.throwing q)) t ∧ Q t
def vx_Run (p : Program) (l : Launch) (e : Env) (R : Room) (s : State) (m : MethodId) (args : Array Value) (below : List Frame) (meth : Method) (c : Code) (H : Heap) (locs : List Loc) (cells slots mc ms : Nat) (g : JFrame) (rest : List Value) (Qa : State → Outcome → State → Prop) (XC : String → State → State → Prop) (free : Addr → Prop) : Prop :=
  ∀ T : State, T.heap = H → Stand p l e R s m args below meth c T locs cells slots →
    (∃ (v : Option Value) (st₀ t T' : State) (L : List Loc), st₀.heap = H ∧ Stand p l e R s m args below meth c T' (locs ++ L) (cells + mc) (slots + ms) ∧ (∀ q ∈ L, free q.base) ∧ T'.heap = t.heap ∧ T'.vm = t.vm ∧ Qa st₀ (.returned v) t ∧
      Goes p e below T g T' { g with pc := g.pc + 3, stack := v.toList ++ rest }) ∨
    (∃ (q : Addr) (st₀ t T' : State) (L : List Loc) (E : String) (ce : Cell), st₀.heap = H ∧ Stand p l e R s m args below meth c T' (locs ++ L) (cells + mc) (slots + ms) ∧ (∀ z ∈ L, free z.base) ∧ T'.heap = t.heap ∧ T'.vm = t.vm ∧ XC E st₀ t ∧ t.heap[q]? = some ce ∧ ce.vm = .none ∧ s.vm.findClass E = some ce.cls ∧
      Steps p.tables e below (T.setTop g) ((T'.setTop { g with stack := rest }).pushFrame (.throwing q)))
def vx_X {S : Type} (px : S → Prop) (B : String → S → State → Prop) (A : Nat → Prop) : String → State → State → Prop := fun E st t => ∃ u : S, px u ∧ B E u t ∧ va_F A st t
section Runs
variable {p : Program} {l : Launch} {e : Env} {R : Room} {s : State} {m : MethodId} {args : Array Value} {below : List Frame} {meth : Method} {c : Code} {H : Heap} {locs : List Loc} {cells slots : Nat}
variable {y : MethodName} {bytes cc : ByteArray} {maxL nL mc ms n index : Nat} {ret : Option FieldType} {ws : List Cond} {rm : Room} {Pc : Array Value → State → Prop} {Qc : Array Value → State → Outcome → State → Prop} {XC : String → State → State → Prop} {free : Addr → Prop} {Ts : List Cond} {own C : String} {b : Addr} {As rest : List Value} {g : JFrame}
theorem vx_callBack (cb : CallB R s args own index y bytes maxL ret ws rm mc ms n) (hM : vx_Met l y ws rm Pc Qc XC mc ms free) (hbl : FrameBlind Pc) : vx_Back l R p e below s args y 3 8 (PreOf R mc ms Pc) (PostOf Qc mc ms free) (vx_Post XC mc ms free) := by
  obtain ⟨hrc, hrs, hfr, hlo, hws, hcw, -, hini, -⟩ := cb
  exact vx_back (bytes := bytes) (maxL := maxL) (ret := ret) hM hbl hrc hrs hfr hlo hws hcw (fun a' U hW => word_at hW (Or.inl (by first | rfl | simp [Cond.onTables, Cond.keeps, Cond.steady])) hini)
theorem vx_runV (S : CallFix p m c cc nL s args Ts own) (hM : vx_Met l y ws rm Pc Qc XC mc ms free) (cw : CallW R s args own C index y bytes maxL ret ws rm mc ms n) (hp : PreV s H C b Pc As)
    (hg : g.method = m) (hn : As.length = n) (hsize : g.locals.size = nL) (hstack : g.stack = As.reverse ++ .ref b :: rest) (hW : 2 * g.monitorRoom + (rest.map fun v => v.category).sum ≤ 8) (hdg : decode cc g.pc = .ok (.invokevirtual index, 3)) (hf : cells + mc ≤ R.cells ∧ slots + ms ≤ R.slots) :
    vx_Run p l e R s m args below meth c H locs cells slots mc ms g rest (Qc (Value.ref b :: As).toArray) XC free := by
  have hK : vx_Back l R p e below s args y 3 8 (PreOf R mc ms Pc) (PostOf Qc mc ms free) (vx_Post XC mc ms free) := vx_callBack cw.1 hM hp.1
  obtain ⟨⟨-, -, -, -, -, -, hcode, -, hy, hlen, hl⟩, hin, hse⟩ := cw
  obtain ⟨hx, hb, hml, ho, -⟩ := S
  obtain ⟨-, ⟨cellB, hcB, hoB, hclB⟩, hPc⟩ := hp
  intro T hT X
  rcases vx_callV X hx (C := C) (bytes := bytes) (maxL := maxL) (ret := ret) ho hl hin hse hcode hy hK (by rw [hT]; exact hcB) hoB hclB hg (hsize.trans hml.symm) (argsL := As) (rest := rest) (fun sig h => hn.trans (hlen sig h)) hstack hW (by rw [hb]; exact hdg)
    (fun vm₁ hW₁ => ⟨hf.1, hf.2, hPc (T.setVm vm₁) hT hW₁⟩) with ⟨v, vm₁, ⟨U', l2, c2, s2⟩, hW₁, X', ⟨g', mk, t, L, e1, e2, hq, h1, hL, h2, h3⟩, st⟩ | ⟨q, vm₁, ⟨U', l2, c2, s2⟩, hW₁, X', ⟨g', mk, t, L, E, ce, e1, e2, hq, hce, hcv, hcl, h1, hL, h2, h3⟩, st⟩
  · dsimp only [Pt.U, Pt.locs, Pt.cells, Pt.slots] at X' e1 e2 h1 h2 h3 st
    subst h1; subst h2; subst h3
    exact Or.inl ⟨v, (T.setVm vm₁).calling g' mk (Value.ref b :: As).toArray, t, U', L, hT, X', hL, e1, e2, hq, st⟩
  · dsimp only [Pt.U, Pt.locs, Pt.cells, Pt.slots] at X' e1 e2 h1 h2 h3 st hcl
    subst h1; subst h2; subst h3
    exact Or.inr ⟨q, (T.setVm vm₁).calling g' mk (Value.ref b :: As).toArray, t, U', L, E, ce, hT, X', hL, e1, e2, hq, hce, hcv, vx_cls hW₁ hcl, st⟩
theorem vx_runS (S : CallFix p m c cc nL s args Ts own) (hM : vx_Met l y ws rm Pc Qc XC mc ms free) (cw : CallB R s args own index y bytes maxL ret ws rm mc ms n ∧ (Cond.static y).before args s = true) (hp : PreS s H Pc As)
    (hg : g.method = m) (hn : As.length = n) (hsize : g.locals.size = nL) (hstack : g.stack = As.reverse ++ rest) (hW : 2 * g.monitorRoom + (rest.map fun v => v.category).sum ≤ 8) (hdg : decode cc g.pc = .ok (.invokestatic index, 3)) (hf : cells + mc ≤ R.cells ∧ slots + ms ≤ R.slots) :
    vx_Run p l e R s m args below meth c H locs cells slots mc ms g rest (Qc As.toArray) XC free := by
  have hK : vx_Back l R p e below s args y 3 8 (PreOf R mc ms Pc) (PostOf Qc mc ms free) (vx_Post XC mc ms free) := vx_callBack cw.1 hM hp.1
  obtain ⟨⟨-, -, -, -, -, -, hcode, hini, hy, hlen, hl⟩, hstt⟩ := cw
  obtain ⟨hx, hb, hml, ho, -⟩ := S
  intro T hT X
  rcases vx_callS X hx (bytes := bytes) (maxL := maxL) (ret := ret) ho hl hstt hini hcode hy hK hg (hsize.trans hml.symm) (argsL := As) (rest := rest) (fun sig h => hn.trans (hlen sig h)) hstack hW (by rw [hb]; exact hdg)
    (fun vm₁ hW₁ => ⟨hf.1, hf.2, hp.2 (T.setVm vm₁) hT hW₁⟩) with ⟨v, vm₁, ⟨U', l2, c2, s2⟩, hW₁, X', ⟨g', mk, t, L, e1, e2, hq, h1, hL, h2, h3⟩, st⟩ | ⟨q, vm₁, ⟨U', l2, c2, s2⟩, hW₁, X', ⟨g', mk, t, L, E, ce, e1, e2, hq, hce, hcv, hcl, h1, hL, h2, h3⟩, st⟩
  · dsimp only [Pt.U, Pt.locs, Pt.cells, Pt.slots] at X' e1 e2 h1 h2 h3 st
    subst h1; subst h2; subst h3
    exact Or.inl ⟨v, (T.setVm vm₁).calling g' mk As.toArray, t, U', L, hT, X', hL, e1, e2, hq, st⟩
  · dsimp only [Pt.U, Pt.locs, Pt.cells, Pt.slots] at X' e1 e2 h1 h2 h3 st hcl
    subst h1; subst h2; subst h3
    exact Or.inr ⟨q, (T.setVm vm₁).calling g' mk As.toArray, t, U', L, E, ce, hT, X', hL, e1, e2, hq, hce, hcv, vx_cls hW₁ hcl, st⟩
end Runs
section Rows
variable {p : Program} {l : Launch} {e : Env} {R : Room} {s : State} {m : MethodId} {args : Array Value} {below : List Frame} {meth : Method} {c : Code} {H : Heap} {locs : List Loc} {cells slots : Nat} {Q : State → Prop}
variable {mc ms : Nat} {free : Addr → Prop} {A0 A1 : Nat → Prop} {H0 : Heap} {a : Array Value} {pc : Nat} {ls : Array Slot} {st0 rest : List Value}
theorem vx_keep {st₀ t T' : State} {L : List Loc} (h0 : st₀.heap = H) (e1 : T'.heap = t.heap) (hS : va_S A0 H0 H locs) (hA : ∀ q, q < H.size → A1 q → A0 q) (hf : ∀ q, free q → A0 q) (hL : ∀ q ∈ L, free q.base) (hF : va_F A1 st₀ t) :
    H.size ≤ T'.heap.size ∧ (∀ q : Nat, q < H.size → ¬ A1 q → T'.heap[q]? = H[q]?) ∧ va_S A0 H0 T'.heap (locs ++ L) := by
  obtain ⟨hz, hk⟩ := hF
  rw [h0] at hz hk
  exact ⟨by rw [e1]; exact hz, fun q h1 h2 => by rw [e1]; exact hk q h1 h2,
    ⟨Nat.le_trans hS.1 (by rw [e1]; exact hz), fun q h1 h2 => by rw [e1, hk q (Nat.lt_of_lt_of_le h1 hS.1) (fun z => h2 (hA q (Nat.lt_of_lt_of_le h1 hS.1) z))]; exact hS.2.1 q h1 h2, fun q hq => by
      rcases List.mem_append.mp hq with h | h
      · exact hS.2.2 q h
      · exact hf _ (hL q h)⟩⟩
theorem vx_calli {S SX : Type} {post : Int32 → S → Prop} {px : SX → Prop} {B : S → State → Prop} {BX : String → SX → State → Prop} {AX : Nat → Prop} (hr : vx_Run p l e R s m args below meth c H locs cells slots mc ms (F0 m pc ls st0) rest (va_Qi post B A1 a) (vx_X px BX AX) free) (hS : va_S A0 H0 H locs) (hA : ∀ q, q < H.size → A1 q → A0 q) (hf : ∀ q, free q → A0 q) (hAX : ∀ q, q < H.size → AX q → A0 q)
    (kx : ∀ (E : String) (ce : Cell) (q9 : Addr) (u : SX) (t : State) (H1 : Heap) (locs1 : List Loc), t.heap = H1 → s.vm.Alike t.vm → px u → BX E u t → H.size ≤ H1.size → (∀ q : Nat, q < H.size → ¬ AX q → H1[q]? = H[q]?) → va_S A0 H0 H1 locs1 → H1[q9]? = some ce → ce.vm = .none → s.vm.findClass E = some ce.cls → vx_W p l e R s m args below meth c H1 locs1 (cells + mc) (slots + ms) Q (F0 m pc ls rest) q9)
    (kk : ∀ (r : Int32) (u : S) (t : State) (H1 : Heap) (locs1 : List Loc), t.heap = H1 → s.vm.Alike t.vm → post r u → B u t → H.size ≤ H1.size → (∀ q : Nat, q < H.size → ¬ A1 q → H1[q]? = H[q]?) → va_S A0 H0 H1 locs1 → W p l e R s m args below meth c H1 locs1 (cells + mc) (slots + ms) Q (F0 m (pc + 3) ls (.int r :: rest))) : W p l e R s m args below meth c H locs cells slots Q (F0 m pc ls st0) := by
  intro T hT X
  rcases hr T hT X with ⟨v, st₀, t, T', L, h0, X', hL, e1, e2, ⟨⟨r, u, hv, hp, hb⟩, hF⟩, st⟩ | ⟨q, st₀, t, T', L, E, ce, h0, X', hL, e1, e2, ⟨u, hp, hb, hF⟩, hce, hcv, hcl, st⟩
  · cases hv
    obtain ⟨k1, k2, k3⟩ := vx_keep h0 e1 hS hA hf hL hF
    obtain ⟨t2, a1, b1⟩ := kk r u t T'.heap (locs ++ L) e1.symm (by rw [← e2]; exact X'.warmed.alike) hp hb k1 k2 k3 T' rfl X'
    exact ⟨t2, st t2 a1, b1⟩
  · obtain ⟨k1, k2, k3⟩ := vx_keep h0 e1 hS hAX hf hL hF
    obtain ⟨t2, a1, b1⟩ := kx E ce q u t T'.heap (locs ++ L) e1.symm (by rw [← e2]; exact X'.warmed.alike) hp hb k1 k2 k3 (by rw [e1]; exact hce) hcv hcl T' rfl X'
    exact ⟨t2, st.trans a1, b1⟩
theorem vx_calll {S SX : Type} {post : Int64 → S → Prop} {px : SX → Prop} {B : S → State → Prop} {BX : String → SX → State → Prop} {AX : Nat → Prop} (hr : vx_Run p l e R s m args below meth c H locs cells slots mc ms (F0 m pc ls st0) rest (va_Ql post B A1 a) (vx_X px BX AX) free) (hS : va_S A0 H0 H locs) (hA : ∀ q, q < H.size → A1 q → A0 q) (hf : ∀ q, free q → A0 q) (hAX : ∀ q, q < H.size → AX q → A0 q)
    (kx : ∀ (E : String) (ce : Cell) (q9 : Addr) (u : SX) (t : State) (H1 : Heap) (locs1 : List Loc), t.heap = H1 → s.vm.Alike t.vm → px u → BX E u t → H.size ≤ H1.size → (∀ q : Nat, q < H.size → ¬ AX q → H1[q]? = H[q]?) → va_S A0 H0 H1 locs1 → H1[q9]? = some ce → ce.vm = .none → s.vm.findClass E = some ce.cls → vx_W p l e R s m args below meth c H1 locs1 (cells + mc) (slots + ms) Q (F0 m pc ls rest) q9)
    (kk : ∀ (r : Int64) (u : S) (t : State) (H1 : Heap) (locs1 : List Loc), t.heap = H1 → s.vm.Alike t.vm → post r u → B u t → H.size ≤ H1.size → (∀ q : Nat, q < H.size → ¬ A1 q → H1[q]? = H[q]?) → va_S A0 H0 H1 locs1 → W p l e R s m args below meth c H1 locs1 (cells + mc) (slots + ms) Q (F0 m (pc + 3) ls (.long r :: rest))) : W p l e R s m args below meth c H locs cells slots Q (F0 m pc ls st0) := by
  intro T hT X
  rcases hr T hT X with ⟨v, st₀, t, T', L, h0, X', hL, e1, e2, ⟨⟨r, u, hv, hp, hb⟩, hF⟩, st⟩ | ⟨q, st₀, t, T', L, E, ce, h0, X', hL, e1, e2, ⟨u, hp, hb, hF⟩, hce, hcv, hcl, st⟩
  · cases hv
    obtain ⟨k1, k2, k3⟩ := vx_keep h0 e1 hS hA hf hL hF
    obtain ⟨t2, a1, b1⟩ := kk r u t T'.heap (locs ++ L) e1.symm (by rw [← e2]; exact X'.warmed.alike) hp hb k1 k2 k3 T' rfl X'
    exact ⟨t2, st t2 a1, b1⟩
  · obtain ⟨k1, k2, k3⟩ := vx_keep h0 e1 hS hAX hf hL hF
    obtain ⟨t2, a1, b1⟩ := kx E ce q u t T'.heap (locs ++ L) e1.symm (by rw [← e2]; exact X'.warmed.alike) hp hb k1 k2 k3 (by rw [e1]; exact hce) hcv hcl T' rfl X'
    exact ⟨t2, st.trans a1, b1⟩
theorem vx_callf {S SX : Type} {post : UInt32 → S → Prop} {px : SX → Prop} {B : S → State → Prop} {BX : String → SX → State → Prop} {AX : Nat → Prop} (hr : vx_Run p l e R s m args below meth c H locs cells slots mc ms (F0 m pc ls st0) rest (va_Qf post B A1 a) (vx_X px BX AX) free) (hS : va_S A0 H0 H locs) (hA : ∀ q, q < H.size → A1 q → A0 q) (hf : ∀ q, free q → A0 q) (hAX : ∀ q, q < H.size → AX q → A0 q)
    (kx : ∀ (E : String) (ce : Cell) (q9 : Addr) (u : SX) (t : State) (H1 : Heap) (locs1 : List Loc), t.heap = H1 → s.vm.Alike t.vm → px u → BX E u t → H.size ≤ H1.size → (∀ q : Nat, q < H.size → ¬ AX q → H1[q]? = H[q]?) → va_S A0 H0 H1 locs1 → H1[q9]? = some ce → ce.vm = .none → s.vm.findClass E = some ce.cls → vx_W p l e R s m args below meth c H1 locs1 (cells + mc) (slots + ms) Q (F0 m pc ls rest) q9)
    (kk : ∀ (r : UInt32) (u : S) (t : State) (H1 : Heap) (locs1 : List Loc), t.heap = H1 → s.vm.Alike t.vm → post r u → B u t → H.size ≤ H1.size → (∀ q : Nat, q < H.size → ¬ A1 q → H1[q]? = H[q]?) → va_S A0 H0 H1 locs1 → W p l e R s m args below meth c H1 locs1 (cells + mc) (slots + ms) Q (F0 m (pc + 3) ls (.float r :: rest))) : W p l e R s m args below meth c H locs cells slots Q (F0 m pc ls st0) := by
  intro T hT X
  rcases hr T hT X with ⟨v, st₀, t, T', L, h0, X', hL, e1, e2, ⟨⟨r, u, hv, hp, hb⟩, hF⟩, st⟩ | ⟨q, st₀, t, T', L, E, ce, h0, X', hL, e1, e2, ⟨u, hp, hb, hF⟩, hce, hcv, hcl, st⟩
  · cases hv
    obtain ⟨k1, k2, k3⟩ := vx_keep h0 e1 hS hA hf hL hF
    obtain ⟨t2, a1, b1⟩ := kk r u t T'.heap (locs ++ L) e1.symm (by rw [← e2]; exact X'.warmed.alike) hp hb k1 k2 k3 T' rfl X'
    exact ⟨t2, st t2 a1, b1⟩
  · obtain ⟨k1, k2, k3⟩ := vx_keep h0 e1 hS hAX hf hL hF
    obtain ⟨t2, a1, b1⟩ := kx E ce q u t T'.heap (locs ++ L) e1.symm (by rw [← e2]; exact X'.warmed.alike) hp hb k1 k2 k3 (by rw [e1]; exact hce) hcv hcl T' rfl X'
    exact ⟨t2, st.trans a1, b1⟩
theorem vx_calld {S SX : Type} {post : UInt64 → S → Prop} {px : SX → Prop} {B : S → State → Prop} {BX : String → SX → State → Prop} {AX : Nat → Prop} (hr : vx_Run p l e R s m args below meth c H locs cells slots mc ms (F0 m pc ls st0) rest (va_Qd post B A1 a) (vx_X px BX AX) free) (hS : va_S A0 H0 H locs) (hA : ∀ q, q < H.size → A1 q → A0 q) (hf : ∀ q, free q → A0 q) (hAX : ∀ q, q < H.size → AX q → A0 q)
    (kx : ∀ (E : String) (ce : Cell) (q9 : Addr) (u : SX) (t : State) (H1 : Heap) (locs1 : List Loc), t.heap = H1 → s.vm.Alike t.vm → px u → BX E u t → H.size ≤ H1.size → (∀ q : Nat, q < H.size → ¬ AX q → H1[q]? = H[q]?) → va_S A0 H0 H1 locs1 → H1[q9]? = some ce → ce.vm = .none → s.vm.findClass E = some ce.cls → vx_W p l e R s m args below meth c H1 locs1 (cells + mc) (slots + ms) Q (F0 m pc ls rest) q9)
    (kk : ∀ (r : UInt64) (u : S) (t : State) (H1 : Heap) (locs1 : List Loc), t.heap = H1 → s.vm.Alike t.vm → post r u → B u t → H.size ≤ H1.size → (∀ q : Nat, q < H.size → ¬ A1 q → H1[q]? = H[q]?) → va_S A0 H0 H1 locs1 → W p l e R s m args below meth c H1 locs1 (cells + mc) (slots + ms) Q (F0 m (pc + 3) ls (.double r :: rest))) : W p l e R s m args below meth c H locs cells slots Q (F0 m pc ls st0) := by
  intro T hT X
  rcases hr T hT X with ⟨v, st₀, t, T', L, h0, X', hL, e1, e2, ⟨⟨r, u, hv, hp, hb⟩, hF⟩, st⟩ | ⟨q, st₀, t, T', L, E, ce, h0, X', hL, e1, e2, ⟨u, hp, hb, hF⟩, hce, hcv, hcl, st⟩
  · cases hv
    obtain ⟨k1, k2, k3⟩ := vx_keep h0 e1 hS hA hf hL hF
    obtain ⟨t2, a1, b1⟩ := kk r u t T'.heap (locs ++ L) e1.symm (by rw [← e2]; exact X'.warmed.alike) hp hb k1 k2 k3 T' rfl X'
    exact ⟨t2, st t2 a1, b1⟩
  · obtain ⟨k1, k2, k3⟩ := vx_keep h0 e1 hS hAX hf hL hF
    obtain ⟨t2, a1, b1⟩ := kx E ce q u t T'.heap (locs ++ L) e1.symm (by rw [← e2]; exact X'.warmed.alike) hp hb k1 k2 k3 (by rw [e1]; exact hce) hcv hcl T' rfl X'
    exact ⟨t2, st.trans a1, b1⟩
theorem vx_callv {S SX : Type} {post : S → Prop} {px : SX → Prop} {B : S → State → Prop} {BX : String → SX → State → Prop} {AX : Nat → Prop} (hr : vx_Run p l e R s m args below meth c H locs cells slots mc ms (F0 m pc ls st0) rest (va_Qv post B A1 a) (vx_X px BX AX) free) (hS : va_S A0 H0 H locs) (hA : ∀ q, q < H.size → A1 q → A0 q) (hf : ∀ q, free q → A0 q) (hAX : ∀ q, q < H.size → AX q → A0 q)
    (kx : ∀ (E : String) (ce : Cell) (q9 : Addr) (u : SX) (t : State) (H1 : Heap) (locs1 : List Loc), t.heap = H1 → s.vm.Alike t.vm → px u → BX E u t → H.size ≤ H1.size → (∀ q : Nat, q < H.size → ¬ AX q → H1[q]? = H[q]?) → va_S A0 H0 H1 locs1 → H1[q9]? = some ce → ce.vm = .none → s.vm.findClass E = some ce.cls → vx_W p l e R s m args below meth c H1 locs1 (cells + mc) (slots + ms) Q (F0 m pc ls rest) q9)
    (kk : ∀ (u : S) (t : State) (H1 : Heap) (locs1 : List Loc), t.heap = H1 → s.vm.Alike t.vm → post u → B u t → H.size ≤ H1.size → (∀ q : Nat, q < H.size → ¬ A1 q → H1[q]? = H[q]?) → va_S A0 H0 H1 locs1 → W p l e R s m args below meth c H1 locs1 (cells + mc) (slots + ms) Q (F0 m (pc + 3) ls (rest))) : W p l e R s m args below meth c H locs cells slots Q (F0 m pc ls st0) := by
  intro T hT X
  rcases hr T hT X with ⟨v, st₀, t, T', L, h0, X', hL, e1, e2, ⟨⟨u, hv, hp, hb⟩, hF⟩, st⟩ | ⟨q, st₀, t, T', L, E, ce, h0, X', hL, e1, e2, ⟨u, hp, hb, hF⟩, hce, hcv, hcl, st⟩
  · cases hv
    obtain ⟨k1, k2, k3⟩ := vx_keep h0 e1 hS hA hf hL hF
    obtain ⟨t2, a1, b1⟩ := kk u t T'.heap (locs ++ L) e1.symm (by rw [← e2]; exact X'.warmed.alike) hp hb k1 k2 k3 T' rfl X'
    exact ⟨t2, st t2 a1, b1⟩
  · obtain ⟨k1, k2, k3⟩ := vx_keep h0 e1 hS hAX hf hL hF
    obtain ⟨t2, a1, b1⟩ := kx E ce q u t T'.heap (locs ++ L) e1.symm (by rw [← e2]; exact X'.warmed.alike) hp hb k1 k2 k3 (by rw [e1]; exact hce) hcv hcl T' rfl X'
    exact ⟨t2, st.trans a1, b1⟩
/-- caught by the row x of this method's table; the rows ahead don't take it -/
theorem vx_catch {own name : String} {E : String} {ce : Cell} {q : Addr} (hown : s.vm.findClass own = some m.cls) (pre : List ExceptionTableEntry) (x : ExceptionTableEntry) (suf : List ExceptionTableEntry) (hsplit : c.exceptionTable.toList = pre ++ x :: suf)
    (hpass : ∀ z ∈ pre, covers z pc = false ∨ (z.catchType ≠ 0 ∧ ∃ nm : String, (Cond.classLink own z.catchType nm).before args s = true ∧ va_Nc E nm s)) (hx : covers x pc = true) (h0 : x.catchType ≠ 0)
    (hlink : (Cond.classLink own x.catchType name).before args s = true) (hcast : (Cond.castable E name).before args s = true) (hcell : H[q]? = some ce) (hv : ce.vm = .none) (hcl : s.vm.findClass E = some ce.cls)
    (kk : W p l e R s m args below meth c H locs cells slots Q (F0 m x.handlerPc ls [.ref q])) : vx_W p l e R s m args below meth c H locs cells slots Q (F0 m pc ls rest) q := by
  intro T hT X
  have hpl : e.platform.magicAccessors = ({} : Platform).magicAccessors := by rw [X.admits.platform]
  obtain ⟨c3, c4, hc3, hc4, hasg⟩ := Cond.castable_spec hcast
  cases Option.some.inj (hc3.symm.trans hcl)
  obtain ⟨c5, hc5, hcl5⟩ := Cond.classLink_spec hown hlink e.platform hpl
  cases Option.some.inj (hc4.symm.trans hc5)
  obtain ⟨vm', X', st⟩ := X.thenCaughtThrough q (g := F0 m pc ls rest) rfl (Steps.refl _) (by rw [hT]; exact hcell) (by rw [hv]; rfl) (by obtain ⟨k9, h9, -⟩ := Vm.findClass_spec hcl; exact ⟨k9, h9⟩) pre x suf hsplit
    (fun z hz => by
      rcases hpass z hz with h | ⟨hz0, nm, hl1, hn1⟩
      · exact Or.inl h
      · obtain ⟨c6, hc6, hcl6⟩ := Cond.classLink_spec hown hl1 e.platform hpl
        obtain ⟨a8, b8, h1, h2, h3⟩ := hn1
        cases Option.some.inj (h1.symm.trans hcl)
        cases Option.some.inj (h2.symm.trans hc6)
        exact Or.inr ⟨hz0, _, hcl6, h3⟩) hx (Or.inr ⟨h0, c4, hcl5, hasg⟩)
  obtain ⟨t, a1, b1⟩ := kk (T.setVm vm') hT X'
  exact ⟨t, st.trans a1, b1⟩
end Rows
section Ends
variable {p : Program} {l : Launch} {e : Env} {R : Room} {s : State} {m : MethodId} {args : Array Value} {below : List Frame} {meth : Method} {c : Code} {H : Heap} {locs : List Loc} {cells slots : Nat} {Q : State → Prop}
variable {mc ms : Nat} {free : Addr → Prop} {A0 A1 : Nat → Prop} {H0 : Heap} {a : Array Value} {ls : Array Slot} {st0 rest : List Value}
variable {Qc : Array Value → State → Outcome → State → Prop} {XC : String → State → State → Prop}
/-- what a body that may throw owes at its end -/
def vx_MQ (below : List Frame) (Qc : Array Value → State → Outcome → State → Prop) (XC : String → State → State → Prop) (a : Array Value) (s : State) (mc ms : Nat) (free : Addr → Prop) : State → Prop := fun t =>
  ∃ o, t.status = .running ∧ Ended t below o ∧ vx_Q Qc XC mc ms free a s o t
theorem vx_ret {g : JFrame} {mc ms : Nat} (k : W p l e R s m args below meth c H locs cells slots (MQ below Qc args s mc ms free) g) : W p l e R s m args below meth c H locs cells slots (vx_MQ below Qc XC args s mc ms free) g := by
  intro T hT X
  obtain ⟨t, a1, o, b1, b2, b3, b4⟩ := k T hT X
  exact ⟨t, a1, o, b1, b2, Or.inl ⟨b3, b4⟩⟩
/-- not caught here: it goes on to the caller -/
theorem vx_widen {g : JFrame} {q : Addr} {k n : Nat} (h1 : cells ≤ k) (h2 : slots ≤ n) (kk : vx_W p l e R s m args below meth c H locs k n Q g q) : vx_W p l e R s m args below meth c H locs cells slots Q g q := fun T hT X => kk T hT (stand_widen X h1 h2)
theorem vx_out {pc : Nat} {E : String} {ce : Cell} {q : Addr} {mc ms : Nat} (hout : ∀ x ∈ c.exceptionTable.toList, covers x pc = false) (hlocks : meth.locks = false) (hcell : H[q]? = some ce) (hv : ce.vm = .none) (hcl : s.vm.findClass E = some ce.cls)
    (hx : ∀ t : State, t.heap = H → s.vm.Alike t.vm → XC E s t) (hf : ∀ z ∈ locs, free z.base) (hc : cells ≤ mc) (hs : slots ≤ ms) :
    vx_W p l e R s m args below meth c H locs cells slots (vx_MQ below Qc XC args s mc ms free) (F0 m pc ls rest) q := by
  intro T hT X
  obtain ⟨st1, hrun, hend, hW, hsm⟩ := X.leaveThrown q (g := F0 m pc ls rest) rfl rfl rfl hout hlocks
  have hcell9 : (T.setFrames (.throwing q :: below)).heap[q]? = some ce := by
    show T.heap[q]? = some ce
    rw [hT]; exact hcell
  exact ⟨_, st1, .threw q, hrun, hend, Or.inr ⟨q, rfl, E, ce, locs, hx _ hT hW.alike, hcell9, hv, hcl, hW, hsm.mono hc hs, hf⟩⟩
theorem vx_frame {U : State} {k n : Nat} (h : s.sameButNew ({ U with vm := s.vm } : State) locs k n) : s.heap.size ≤ U.heap.size ∧ ∀ q : Nat, q < s.heap.size → (∀ z ∈ locs, z.base ≠ q) → U.heap[q]? = s.heap[q]? := by
  obtain ⟨-, h2, -, -, -, h6⟩ := h
  refine ⟨h2, fun q hq hz => ?_⟩
  obtain ⟨c9, e1, e2, e3, e4⟩ := h6 q _ (Array.getElem?_eq_getElem hq)
  have hs : c9.slots = (s.heap[q]).slots := Array.ext_getElem? fun i => e4 i fun hm => hz _ hm rfl
  have h9 : c9 = s.heap[q] := by
    rw [hs] at e2
    exact e2
  have e5 : U.heap[q]? = some c9 := e1
  rw [e5, h9, Array.getElem?_eq_getElem hq]
/-- the words of a throw but the four that speak of the heap -/
def vx_no (w : Cond) : Bool := decide (w ≠ .isRef (.static Bundle.tN "UNASSIGNED_STACK" Bundle.steD)) && decide (w ≠ .isRef (.static Bundle.tN "SUPPRESSED_SENTINEL" Bundle.listD)) && decide (w ≠ .laysStatic Bundle.tN "UNASSIGNED_STACK" Bundle.steD) && decide (w ≠ .laysStatic Bundle.tN "SUPPRESSED_SENTINEL" Bundle.listD)
def vx_at0 (own : String) (ic : Nat) (X : String) (names : List String) : List Cond := (Bundle.ownAtoms0 own ic X names).filter vx_no
def vx_atS (own : String) (ic : Nat) (X : String) (names : List String) : List Cond := (Bundle.ownAtoms own ic X names).filter vx_no
/-- a word that the tables alone decide, or a good one -/
def vx_ot (w : Cond) : Bool := w.onTables || goodWord w
theorem vx_ot_at {args a' : Array Value} {s U : State} {w : Cond} (hW : s.WarmedH U.vm) (hvm : s.vm = U.vm) (hg : vx_ot w = true) (h : w.before args s = true) : w.before a' U = true := by
  simp only [vx_ot, Bool.or_eq_true] at hg
  rcases hg with hg | hg
  · exact va_tabs hg hvm h
  · exact word_at hW (good_of_word hg) h
/-- a list's words: the good ones out of the method's own list, the others by premises of their own -/
theorem vx_hat {args : Array Value} {s : State} {L B : List Cond} (h1 : ∀ w ∈ L.filter goodWord, w.before args s = true) (h2 : ∀ w ∈ L.filter (fun w => !goodWord w), w ∈ B) (h3 : ∀ w ∈ B, w.before args s = true) : ∀ w ∈ L, w.before args s = true := by
  intro w hw
  by_cases g : goodWord w = true
  · exact h1 w (List.mem_filter.mpr ⟨hw, g⟩)
  · refine h3 w (h2 w (List.mem_filter.mpr ⟨hw, ?_⟩))
    show (!goodWord w) = true
    cases hgw : goodWord w
    · rfl
    · exact absurd hgw g
theorem vx_c {args : Array Value} {s : State} {w : Cond} {B : List Cond} (h : w.before args s = true) (t : ∀ w ∈ B, w.before args s = true) : ∀ w' ∈ w :: B, w'.before args s = true := fun w' h' => (List.mem_cons.mp h').elim (fun e => by rw [e]; exact h) (t w')
theorem vx_n {args : Array Value} {s : State} : ∀ w ∈ ([] : List Cond), w.before args s = true := fun _ h => nomatch h
theorem vx_own {args : Array Value} {s : State} {L : List Cond} (h1 : ∀ w ∈ L.filter vx_no, w.before args s = true)
    (hU : (Cond.isRef (.static Bundle.tN "UNASSIGNED_STACK" Bundle.steD)).before args s = true) (hN : (Cond.isRef (.static Bundle.tN "SUPPRESSED_SENTINEL" Bundle.listD)).before args s = true)
    (lU : (Cond.laysStatic Bundle.tN "UNASSIGNED_STACK" Bundle.steD).before args s = true) (lN : (Cond.laysStatic Bundle.tN "SUPPRESSED_SENTINEL" Bundle.listD).before args s = true) : ∀ w ∈ L, w.before args s = true := by
  intro w hw
  by_cases e1 : w = .isRef (.static Bundle.tN "UNASSIGNED_STACK" Bundle.steD)
  · rw [e1]; exact hU
  · by_cases e2 : w = .isRef (.static Bundle.tN "SUPPRESSED_SENTINEL" Bundle.listD)
    · rw [e2]; exact hN
    · by_cases e3 : w = .laysStatic Bundle.tN "UNASSIGNED_STACK" Bundle.steD
      · rw [e3]; exact lU
      · by_cases e4 : w = .laysStatic Bundle.tN "SUPPRESSED_SENTINEL" Bundle.listD
        · rw [e4]; exact lN
        · exact h1 w (List.mem_filter.mpr ⟨hw, by unfold vx_no; rw [decide_eq_true e1, decide_eq_true e2, decide_eq_true e3, decide_eq_true e4]; rfl⟩)
/-- where a static field lies, its class's statics cell in H -/
def vx_L (C n d : String) (A : Nat → Prop) (U : State) (H : Heap) : Prop := ∃ (c : ClassId) (k : Class) (i : Nat) (f : Field) (a : Nat) (cell : Cell), U.vm.findClass C = some c ∧ U.fieldFound? C n d = some (c, k, i, f) ∧ f.isStatic = true ∧ k.statics = some a ∧ H[a]? = some cell ∧ cell.vm.isStatics = true ∧ cell.cls = c ∧ f.slot < cell.slots.size ∧ k.staticTypes[f.slot]? = some f.type ∧ ¬ A a
theorem vx_L.moved {C n d : String} {A : Nat → Prop} {u U : State} {H : Heap} (hvm : u.vm.Alike U.vm) (h : vx_L C n d A u H) : vx_L C n d A U H := by
  obtain ⟨c, k, i, f, a, cell, h1, h2, h3, h4, h5, h6, h7, h8, h9, h10⟩ := h
  obtain ⟨k', hi', he⟩ := State.fieldFound?_setVm hvm h2
  exact ⟨c, k', i, f, a, cell, by rw [hvm.findClass]; exact h1, hi', h3, by rw [he]; exact h4, h5, h6, h7, h8, by rw [he]; exact h9, h10⟩
theorem vx_L.kept {C n d : String} {A : Nat → Prop} {U : State} {H H1 : Heap} (h : vx_L C n d A U H) (hq : ∀ a : Nat, a < H.size → ¬ A a → H1[a]? = H[a]?) : vx_L C n d A U H1 := by
  obtain ⟨c, k, i, f, a, cell, h1, h2, h3, h4, h5, h6, h7, h8, h9, h10⟩ := h
  exact ⟨c, k, i, f, a, cell, h1, h2, h3, h4, by rw [hq a (Array.getElem?_eq_some_iff.mp h5).1 h10]; exact h5, h6, h7, h8, h9, h10⟩
theorem vx_L.narrow {C n d : String} {A B : Nat → Prop} {U : State} {H : Heap} (h : vx_L C n d A U H) (hAB : ∀ q, B q → A q) : vx_L C n d B U H := by
  obtain ⟨c, k, i, f, a, cell, h1, h2, h3, h4, h5, h6, h7, h8, h9, h10⟩ := h
  exact ⟨c, k, i, f, a, cell, h1, h2, h3, h4, h5, h6, h7, h8, h9, fun z => h10 (hAB _ z)⟩
theorem vx_L.word {C n d : String} {A : Nat → Prop} {s : State} {args : Array Value} (h : vx_L C n d A s s.heap) : (Cond.laysStatic C n d).before args s = true := by
  obtain ⟨c, k, i, f, a, cell, h1, h2, h3, h4, h5, h6, h7, h8, h9, -⟩ := h
  show (Cond.laysStatic C n d).holds args s none s [] = true
  exact Cond.laysStatic_of h1 h2 h3 h4 h5 h6 h7 h8 h9
/-- .. and what it holds: null or some reference -/
def vx_Zq (C n d : String) (A : Nat → Prop) (U : State) (H : Heap) : Prop := va_Zq C n d A U H ∧ vx_L C n d A U H
theorem vx_Zq.moved {C n d : String} {A : Nat → Prop} {u U : State} {H : Heap} (hvm : u.vm.Alike U.vm) (h : vx_Zq C n d A u H) : vx_Zq C n d A U H := ⟨va_Zq.moved hvm h.1, vx_L.moved hvm h.2⟩
theorem vx_Zq.kept {C n d : String} {A : Nat → Prop} {U : State} {H H1 : Heap} (h : vx_Zq C n d A U H) (hq : ∀ a : Nat, a < H.size → ¬ A a → H1[a]? = H[a]?) : vx_Zq C n d A U H1 := ⟨va_Zq.kept h.1 hq, vx_L.kept h.2 hq⟩
theorem vx_Zq.narrow {C n d : String} {A B : Nat → Prop} {U : State} {H : Heap} (h : vx_Zq C n d A U H) (hAB : ∀ q, B q → A q) : vx_Zq C n d B U H := ⟨va_Zq.narrow h.1 hAB, vx_L.narrow h.2 hAB⟩
theorem vx_Zqof {args : Array Value} {s : State} {C n d : String} {A : Nat → Prop} (hl : (Cond.laysStatic C n d).before args s = true) (hini : (Cond.initialized C).before args s = true) (h : (Cond.isRef (.static C n d)).before args s = true) (hA : ∀ a : Nat, a < s.heap.size → ¬ A a) : vx_Zq C n d A s s.heap := by
  refine ⟨va_Zqof hl hini h hA, ?_⟩
  obtain ⟨c, k, i, f, a, cell, h1, h2, h3, h4, h5, h6, h7, h8, h9⟩ := Cond.laysStatic_spec hl
  exact ⟨c, k, i, f, a, cell, h1, h2, h3, h4, h5, h6, h7, h8, h9, hA a (Array.getElem?_eq_some_iff.mp h5).1⟩
theorem vx_isRef {C n d : String} {v : Value} {A : Nat → Prop} {s : State} {args : Array Value} (h : va_Z C n d v A s s.heap) (hv : v.isRef = true) : (Cond.isRef (.static C n d)).before args s = true := by
  obtain ⟨cf, kf, fi, f, a, cell, h1, h2, h3, h4, h5, h6, h7, -⟩ := h
  have he : (Term.static C n d).eval args s none [] s = some v := by
    simp [Term.eval, State.fieldNamed?, h1, h2, h4, h5, h6, h7]
  simp only [Cond.before, Cond.holds, Cond.value, he]
  cases v <;> simp_all [Value.isRef]
theorem vx_isRefq {C n d : String} {A : Nat → Prop} {s : State} {args : Array Value} (h : va_Zq C n d A s s.heap) : (Cond.isRef (.static C n d)).before args s = true := by
  rcases h with h | ⟨t, h⟩
  · exact vx_isRef h rfl
  · exact vx_isRef h rfl
/-- the same frame, seen from here: as if the method were called anew in this heap -/
theorem vx_rebase {T : State} (X : Stand p l e R s m args below meth c T locs cells slots) {R' : Room} (hf : R'.frames ≤ R.frames) (hl : R'.locals ≤ R.locals) (hc : cells + R'.cells ≤ R.cells) (hs : slots + R'.slots ≤ R.slots) :
    Stand p l e R' ((T.setVm s.vm).setFrames (.invoking m args :: below)) m args below meth c T [] 0 0 := by
  have htop : (T.setVm s.vm).topJava?.isSome := X.here.top
  have hF : ((T.setVm s.vm).setFrames (.invoking m args :: below)).frames = .invoking m args :: below := State.frames_setFrames _ (State.cur_lt_of_top htop)
  obtain ⟨g₀, hg0⟩ := Option.isSome_iff_exists.mp htop
  obtain ⟨r, hr⟩ := State.topJava?_eq_some.mp hg0
  have hl9 : e.platform.stackLimits (T.setVm s.vm).me = e.platform.stackLimits s.me := X.limits
  have hb9 : (T.setVm s.vm).me.stackBytes = s.me.stackBytes := X.bytes
  refine ⟨X.admits, X.cas, X.clock, hF, ?_, X.hears, X.method, X.code, X.here, X.tail, X.warmed, ?_, ?_, ?_⟩
  · have h := X.room
    have hU : ((T.setVm s.vm).setFrames (.invoking m args :: below)).localsInUse = s.localsInUse := by
      rw [State.localsInUse_invoking hF (meth := meth) (c := c) X.method X.code, State.localsInUse_invoking X.frames X.method X.code]
    simp only [State.hasRoom, Bool.and_eq_true, decide_eq_true_eq] at h ⊢
    obtain ⟨⟨⟨⟨h1, h2, h3, h4, h5, h6⟩, h7⟩, h8⟩, h9⟩ := h
    rw [X.frames, List.length_cons] at h2 h3
    have q1 := X.heapSize
    have q2 := X.used
    simp only [hF, hU, List.length_cons, State.stackLimits_setFrames, State.stackBytes_setFrames, hl9, hb9]
    refine ⟨⟨⟨⟨by omega, by omega, by omega, by omega, by omega, h6⟩, ?_⟩, ?_⟩, X.book⟩
    · show T.heap.size + R'.cells ≤ e.platform.maxCells
      omega
    · show T.slotsUsed + R'.slots ≤ e.platform.maxSlots
      omega
  · rw [State.stackLimits_setFrames]; rfl
  · rw [State.stackBytes_setFrames]; rfl
  · refine ⟨?_, Nat.le_refl _, Nat.le_refl _, ?_, ?_, fun a c9 h9 => ⟨c9, h9, rfl, rfl, fun _ _ => rfl⟩⟩
    · obtain ⟨t, ht, -⟩ := State.frames_cons hr
      show T.setVm s.vm = { ((T.setVm s.vm).setFrames (.invoking m args :: below)).setFrames (T.setVm s.vm).frames with heap := T.heap, slotsUsed := T.slotsUsed }
      rw [State.setFrames_setFrames, State.setFrames_self ht]
      rfl
    · show T.slotsUsed = T.slotsUsed + ((T.heap.toList.drop T.heap.size).map (·.slots.size)).sum
      rw [List.drop_eq_nil_of_le (Nat.le_of_eq Array.length_toList)]
      rfl
    · show ((T.heap.toList.drop T.heap.size).map (·.slots.size)).sum ≤ 0
      rw [List.drop_eq_nil_of_le (Nat.le_of_eq Array.length_toList)]
      exact Nat.le_refl _
/-- 'throw new E()': new; dup; invokespecial; athrow -/
theorem vx_throw0 {cc : ByteArray} {pc : Nat} (hexec : p.tables.exec = Jvm.exec) (hb : c.code = cc) (hl : l.stackTraces = false) {own cls : String} {names : List String} {ik ic mc ms : Nat} {A : Nat → Prop}
    (hown : s.vm.findClass own = some m.cls) (hcls : Bundle.fit cls = true) (hnames : ∀ n ∈ names, Bundle.fit n = true)
    (hk : (Cond.classLink own ik cls).before args s = true) (hini : (Cond.initialized cls).before args s = true) (hat : ∀ w ∈ vx_at0 own ic cls names, w.before args s = true)
    (hgood : ∀ w ∈ Cond.classLink own ik cls :: Cond.initialized cls :: vx_at0 own ic cls names, vx_ot w = true)
    (hU : vx_Zq Bundle.tN "UNASSIGNED_STACK" Bundle.steD A s s.heap) (hN : vx_Zq Bundle.tN "SUPPRESSED_SENTINEL" Bundle.listD A s s.heap) (hS : va_S A s.heap H locs) (hsize : ls.size = c.maxLocals)
    (d0 : decode cc pc = .ok (.new ik, 3)) (d3 : decode cc (pc + 3) = .ok (.dup, 1)) (d4 : decode cc (pc + 4) = .ok (.invokespecial ic, 3)) (d7 : decode cc (pc + 7) = .ok (.athrow, 1))
    (hout : ∀ x ∈ c.exceptionTable.toList, covers x (pc + 7) = false)
    (hRframes : names.length + 3 < R.frames) (hRlocals : (rest.map fun v => v.category).sum + (13 * (names.length + 1) + 42) ≤ R.locals) (hRcells : cells + 1 ≤ R.cells) (hRslots : slots + 6 ≤ R.slots) (hlocks : meth.locks = false)
    (hx : ∀ t : State, s.vm.Alike t.vm → H.size ≤ t.heap.size → (∀ q : Nat, q < H.size → t.heap[q]? = H[q]?) → XC cls s t)
    (hf : ∀ z ∈ locs, free z.base) (hc : cells + 1 ≤ mc) (hs : slots + 6 ≤ ms) :
    W p l e R s m args below meth c H locs cells slots (vx_MQ below Qc XC args s mc ms free) (F0 m pc ls rest) := by
  intro T hT X
  have htr : e.platform.stackTraces = false := (show e.platform.stackTraces = l.stackTraces by rw [X.admits.platform]).trans hl
  have Y := vx_rebase X (R' := { frames := R.frames, locals := R.locals, cells := 1, slots := 6 }) (Nat.le_refl _) (Nat.le_refl _) hRcells hRslots
  obtain ⟨s', hA⟩ : ∃ z, z = (T.setVm s.vm).setFrames (.invoking m args :: below) := ⟨_, rfl⟩
  rw [← hA] at Y
  have hvm : s'.vm = s.vm := by rw [hA]; rfl
  have hhp : s'.heap = H := by rw [hA]; exact hT
  have hW0 : s.WarmedH s'.vm := by rw [hvm]; exact State.WarmedH.refl s
  have hat' : ∀ w ∈ vx_at0 own ic cls names, w.before args s' = true := fun w hw => vx_ot_at hW0 hvm.symm (hgood w (List.mem_cons_of_mem _ (List.mem_cons_of_mem _ hw))) (hat w hw)
  have hk' : (Cond.classLink own ik cls).before args s' = true := vx_ot_at hW0 hvm.symm (hgood _ List.mem_cons_self) hk
  have hini' : (Cond.initialized cls).before args s' = true := vx_ot_at hW0 hvm.symm (hgood _ (List.mem_cons_of_mem _ List.mem_cons_self)) hini
  have hU' : vx_Zq Bundle.tN "UNASSIGNED_STACK" Bundle.steD A s' s'.heap := by rw [hhp]; exact vx_Zq.moved hW0.alike (hU.kept hS.2.1)
  have hN' : vx_Zq Bundle.tN "SUPPRESSED_SENTINEL" Bundle.listD A s' s'.heap := by rw [hhp]; exact vx_Zq.moved hW0.alike (hN.kept hS.2.1)
  have h : ∀ w ∈ Bundle.ownAtoms0 own ic cls names, w.before args s' = true := vx_own hat' (vx_isRefq hU'.1) (vx_isRefq hN'.1) hU'.2.word hN'.2.word
  have hown' : s'.vm.findClass own = some m.cls := by rw [hvm]; exact hown
  have hins : (Cond.instantiable cls 6).before args s' = true := h _ (by simp [Bundle.ownAtoms0])
  obtain ⟨vm₁, cX, kX, hfX, hkX, -, -, X₁, st1⟩ := Y.newCold hexec (own := own) (C := cls) (index := ik) (n := 6) hown' hk' hins hini'
    (g := F0 m pc ls rest) rfl (by rw [hb]; exact d0) (Nat.le_refl _) (Nat.le_refl _)
  generalize hT1 : (T.setVm vm₁).pushCell { cls := cX, slots := kX.instanceTypes.map defaultValue, vm := .none } = T1 at X₁ st1
  have hcat : (Value.ref T.heap.size).category = 1 := rfl
  have hcellA : T1.heap[T.heap.size]? = some (freshCell cX kX) := by rw [← hT1]; exact State.heap_pushCell_size _ _
  have d3' : decode c.code (pc + 3) = .ok (.dup, 1) := by rw [hb]; exact d3
  obtain ⟨U, hsteps, hrun, hend, hW, hsame, ce, hce, hO⟩ := X₁.ctorThrow0 hexec htr (own := own) (cls := cls) (names := names) (ic := ic) hown' hcls hnames h (fun x hx => nomatch hx) hfX hkX hcellA (by rw [hhp, hT]; exact Nat.le_refl _)
    (g := { method := m, pc := pc + 4, locals := ls, stack := .ref T.heap.size :: .ref T.heap.size :: rest, locked := none }) rfl hsize rfl rfl (rest := rest) rfl
    (by rw [hb]; exact d4) (by rw [hb]; exact d7) hout hRframes (by simp only [List.map_cons, List.sum_cons, hcat]; omega) hlocks
  obtain ⟨f1, f2⟩ := vx_frame hsame
  rw [hhp] at f1 f2
  have hWs : s.WarmedH U.vm := State.WarmedH.trans hW0 hW
  have hcl : s.vm.findClass cls = some ce.cls := by
    have h9 := hO.cls
    rw [hvm] at h9
    exact h9
  have hall : s.sameButNew ({ U with vm := s.vm } : State) locs mc ms := by
    subst hA
    obtain ⟨e1, e2⟩ := hsame
    rw [State.setFrames_setFrames] at e1
    have h2 : (T.setVm s.vm).sameButNew ({ U with vm := s.vm } : State) [] (0 + 1) (0 + 6) := ⟨e1, e2⟩
    have h3 := X.same.trans h2
    rw [List.append_nil] at h3
    exact h3.mono hc hs
  refine ⟨U, ?_, .threw T.heap.size, hrun, hend, Or.inr ⟨T.heap.size, rfl, cls, ce, locs, hx U hWs.alike f1 (fun q hq => f2 q hq (fun z hz => nomatch hz)), hce, hO.vm, hcl, hWs, hall, hf⟩⟩
  refine st1 _ ?_
  show Steps p.tables e below (T1.setTop { method := m, pc := pc + 3, locals := ls, stack := .ref T.heap.size :: rest, locked := none }) _
  jvm_step X₁.here [X₁.here.top, hexec, d3', Value.category]
  exact hsteps
/-- 'throw new E("text")': new; dup; ldc; invokespecial; athrow -/
theorem vx_throwS {cc : ByteArray} {pc : Nat} (hexec : p.tables.exec = Jvm.exec) (hb : c.code = cc) (hl : l.stackTraces = false) {own cls text : String} {names : List String} {ik is ic mc ms sa : Nat} {A : Nat → Prop}
    (hown : s.vm.findClass own = some m.cls) (hcls : Bundle.fit cls = true) (hnames : ∀ n ∈ names, Bundle.fit n = true)
    (hk : (Cond.classLink own ik cls).before args s = true) (hini : (Cond.initialized cls).before args s = true) (hstr : vk_R own is text sa s) (hat : ∀ w ∈ vx_atS own ic cls names, w.before args s = true)
    (hgood : ∀ w ∈ Cond.classLink own ik cls :: Cond.initialized cls :: vx_atS own ic cls names, vx_ot w = true)
    (hU : vx_Zq Bundle.tN "UNASSIGNED_STACK" Bundle.steD A s s.heap) (hN : vx_Zq Bundle.tN "SUPPRESSED_SENTINEL" Bundle.listD A s s.heap) (hS : va_S A s.heap H locs) (hsize : ls.size = c.maxLocals)
    (d0 : decode cc pc = .ok (.new ik, 3)) (d3 : decode cc (pc + 3) = .ok (.dup, 1)) (d4 : decode cc (pc + 4) = .ok (.ldc is, 2)) (d6 : decode cc (pc + 6) = .ok (.invokespecial ic, 3)) (d9 : decode cc (pc + 9) = .ok (.athrow, 1))
    (hout : ∀ x ∈ c.exceptionTable.toList, covers x (pc + 9) = false)
    (hRframes : names.length + 3 < R.frames) (hRlocals : (rest.map fun v => v.category).sum + (13 * (names.length + 1) + 43) ≤ R.locals) (hRcells : cells + 1 ≤ R.cells) (hRslots : slots + 6 ≤ R.slots) (hlocks : meth.locks = false)
    (hx : ∀ t : State, s.vm.Alike t.vm → H.size ≤ t.heap.size → (∀ q : Nat, q < H.size → t.heap[q]? = H[q]?) → XC cls s t)
    (hf : ∀ z ∈ locs, free z.base) (hc : cells + 1 ≤ mc) (hs : slots + 6 ≤ ms) :
    W p l e R s m args below meth c H locs cells slots (vx_MQ below Qc XC args s mc ms free) (F0 m pc ls rest) := by
  intro T hT X
  have htr : e.platform.stackTraces = false := (show e.platform.stackTraces = l.stackTraces by rw [X.admits.platform]).trans hl
  have Y := vx_rebase X (R' := { frames := R.frames, locals := R.locals, cells := 1, slots := 6 }) (Nat.le_refl _) (Nat.le_refl _) hRcells hRslots
  obtain ⟨s', hA⟩ : ∃ z, z = (T.setVm s.vm).setFrames (.invoking m args :: below) := ⟨_, rfl⟩
  rw [← hA] at Y
  have hvm : s'.vm = s.vm := by rw [hA]; rfl
  have hhp : s'.heap = H := by rw [hA]; exact hT
  have hW0 : s.WarmedH s'.vm := by rw [hvm]; exact State.WarmedH.refl s
  have hat' : ∀ w ∈ vx_atS own ic cls names, w.before args s' = true := fun w hw => vx_ot_at hW0 hvm.symm (hgood w (List.mem_cons_of_mem _ (List.mem_cons_of_mem _ hw))) (hat w hw)
  have hk' : (Cond.classLink own ik cls).before args s' = true := vx_ot_at hW0 hvm.symm (hgood _ List.mem_cons_self) hk
  have hini' : (Cond.initialized cls).before args s' = true := vx_ot_at hW0 hvm.symm (hgood _ (List.mem_cons_of_mem _ List.mem_cons_self)) hini
  have hU' : vx_Zq Bundle.tN "UNASSIGNED_STACK" Bundle.steD A s' s'.heap := by rw [hhp]; exact vx_Zq.moved hW0.alike (hU.kept hS.2.1)
  have hN' : vx_Zq Bundle.tN "SUPPRESSED_SENTINEL" Bundle.listD A s' s'.heap := by rw [hhp]; exact vx_Zq.moved hW0.alike (hN.kept hS.2.1)
  have h : ∀ w ∈ Bundle.ownAtoms own ic cls names, w.before args s' = true := vx_own hat' (vx_isRefq hU'.1) (vx_isRefq hN'.1) hU'.2.word hN'.2.word
  have hown' : s'.vm.findClass own = some m.cls := by rw [hvm]; exact hown
  have hins : (Cond.instantiable cls 6).before args s' = true := h _ (by simp [Bundle.ownAtoms])
  obtain ⟨vm₁, cX, kX, hfX, hkX, -, -, X₁, st1⟩ := Y.newCold hexec (own := own) (C := cls) (index := ik) (n := 6) hown' hk' hins hini'
    (g := F0 m pc ls rest) rfl (by rw [hb]; exact d0) (Nat.le_refl _) (Nat.le_refl _)
  generalize hT1 : (T.setVm vm₁).pushCell { cls := cX, slots := kX.instanceTypes.map defaultValue, vm := .none } = T1 at X₁ st1
  have hcat : (Value.ref T.heap.size).category = 1 := rfl
  have hcellA : T1.heap[T.heap.size]? = some (freshCell cX kX) := by rw [← hT1]; exact State.heap_pushCell_size _ _
  have d3' : decode c.code (pc + 3) = .ok (.dup, 1) := by rw [hb]; exact d3
  have d4' : decode c.code (pc + 4) = .ok (.ldc is, 2) := by rw [hb]; exact d4
  have hstr' : vk_R own is text sa s' := vk_R.warm hW0 hstr
  obtain ⟨U, hsteps, hrun, hend, hW, hsame, ce, hce, hO⟩ := X₁.ctorThrowS hexec htr (own := own) (cls := cls) (names := names) (ic := ic) hown' hcls hnames h (fun x hx => nomatch hx) hfX hkX hcellA (by rw [hhp, hT]; exact Nat.le_refl _) (msg := .ref sa) rfl
    (g := { method := m, pc := pc + 6, locals := ls, stack := .ref sa :: .ref T.heap.size :: .ref T.heap.size :: rest, locked := none }) rfl hsize rfl rfl (rest := rest) rfl
    (by rw [hb]; exact d6) (by rw [hb]; exact d9) hout hRframes (by simp only [List.map_cons, List.sum_cons, hcat]; omega) hlocks
  obtain ⟨f1, f2⟩ := vx_frame hsame
  rw [hhp] at f1 f2
  have hWs : s.WarmedH U.vm := State.WarmedH.trans hW0 hW
  have hcl : s.vm.findClass cls = some ce.cls := by
    have h9 := hO.cls
    rw [hvm] at h9
    exact h9
  have hall : s.sameButNew ({ U with vm := s.vm } : State) locs mc ms := by
    subst hA
    obtain ⟨e1, e2⟩ := hsame
    rw [State.setFrames_setFrames] at e1
    have h2 : (T.setVm s.vm).sameButNew ({ U with vm := s.vm } : State) [] (0 + 1) (0 + 6) := ⟨e1, e2⟩
    have h3 := X.same.trans h2
    rw [List.append_nil] at h3
    exact h3.mono hc hs
  refine ⟨U, ?_, .threw T.heap.size, hrun, hend, Or.inr ⟨T.heap.size, rfl, cls, ce, locs, hx U hWs.alike f1 (fun q hq => f2 q hq (fun z hz => nomatch hz)), hce, hO.vm, hcl, hWs, hall, hf⟩⟩
  refine st1 _ ?_
  show Steps p.tables e below (T1.setTop { method := m, pc := pc + 3, locals := ls, stack := .ref T.heap.size :: rest, locked := none }) _
  jvm_step X₁.here [X₁.here.top, hexec, d3', Value.category]
  exact X₁.ldcString hexec (own := own) (text := text) (index := is) (a := sa) hown' hstr'.1 hstr'.2
    (g := { method := m, pc := pc + 4, locals := ls, stack := .ref T.heap.size :: .ref T.heap.size :: rest, locked := none }) rfl d4' _ hsteps
/-- 'throw new E("text")', the text by a wide index -/
theorem vx_throwSW {cc : ByteArray} {pc : Nat} (hexec : p.tables.exec = Jvm.exec) (hb : c.code = cc) (hl : l.stackTraces = false) {own cls text : String} {names : List String} {ik is ic mc ms sa : Nat} {A : Nat → Prop}
    (hown : s.vm.findClass own = some m.cls) (hcls : Bundle.fit cls = true) (hnames : ∀ n ∈ names, Bundle.fit n = true)
    (hk : (Cond.classLink own ik cls).before args s = true) (hini : (Cond.initialized cls).before args s = true) (hstr : vk_R own is text sa s) (hat : ∀ w ∈ vx_atS own ic cls names, w.before args s = true)
    (hgood : ∀ w ∈ Cond.classLink own ik cls :: Cond.initialized cls :: vx_atS own ic cls names, vx_ot w = true)
    (hU : vx_Zq Bundle.tN "UNASSIGNED_STACK" Bundle.steD A s s.heap) (hN : vx_Zq Bundle.tN "SUPPRESSED_SENTINEL" Bundle.listD A s s.heap) (hS : va_S A s.heap H locs) (hsize : ls.size = c.maxLocals)
    (d0 : decode cc pc = .ok (.new ik, 3)) (d3 : decode cc (pc + 3) = .ok (.dup, 1)) (d4 : decode cc (pc + 4) = .ok (.ldc_w is, 3)) (d7 : decode cc (pc + 7) = .ok (.invokespecial ic, 3)) (d10 : decode cc (pc + 10) = .ok (.athrow, 1))
    (hout : ∀ x ∈ c.exceptionTable.toList, covers x (pc + 10) = false)
    (hRframes : names.length + 3 < R.frames) (hRlocals : (rest.map fun v => v.category).sum + (13 * (names.length + 1) + 43) ≤ R.locals) (hRcells : cells + 1 ≤ R.cells) (hRslots : slots + 6 ≤ R.slots) (hlocks : meth.locks = false)
    (hx : ∀ t : State, s.vm.Alike t.vm → H.size ≤ t.heap.size → (∀ q : Nat, q < H.size → t.heap[q]? = H[q]?) → XC cls s t)
    (hf : ∀ z ∈ locs, free z.base) (hc : cells + 1 ≤ mc) (hs : slots + 6 ≤ ms) :
    W p l e R s m args below meth c H locs cells slots (vx_MQ below Qc XC args s mc ms free) (F0 m pc ls rest) := by
  intro T hT X
  have htr : e.platform.stackTraces = false := (show e.platform.stackTraces = l.stackTraces by rw [X.admits.platform]).trans hl
  have Y := vx_rebase X (R' := { frames := R.frames, locals := R.locals, cells := 1, slots := 6 }) (Nat.le_refl _) (Nat.le_refl _) hRcells hRslots
  obtain ⟨s', hA⟩ : ∃ z, z = (T.setVm s.vm).setFrames (.invoking m args :: below) := ⟨_, rfl⟩
  rw [← hA] at Y
  have hvm : s'.vm = s.vm := by rw [hA]; rfl
  have hhp : s'.heap = H := by rw [hA]; exact hT
  have hW0 : s.WarmedH s'.vm := by rw [hvm]; exact State.WarmedH.refl s
  have hat' : ∀ w ∈ vx_atS own ic cls names, w.before args s' = true := fun w hw => vx_ot_at hW0 hvm.symm (hgood w (List.mem_cons_of_mem _ (List.mem_cons_of_mem _ hw))) (hat w hw)
  have hk' : (Cond.classLink own ik cls).before args s' = true := vx_ot_at hW0 hvm.symm (hgood _ List.mem_cons_self) hk
  have hini' : (Cond.initialized cls).before args s' = true := vx_ot_at hW0 hvm.symm (hgood _ (List.mem_cons_of_mem _ List.mem_cons_self)) hini
  have hU' : vx_Zq Bundle.tN "UNASSIGNED_STACK" Bundle.steD A s' s'.heap := by rw [hhp]; exact vx_Zq.moved hW0.alike (hU.kept hS.2.1)
  have hN' : vx_Zq Bundle.tN "SUPPRESSED_SENTINEL" Bundle.listD A s' s'.heap := by rw [hhp]; exact vx_Zq.moved hW0.alike (hN.kept hS.2.1)
  have h : ∀ w ∈ Bundle.ownAtoms own ic cls names, w.before args s' = true := vx_own hat' (vx_isRefq hU'.1) (vx_isRefq hN'.1) hU'.2.word hN'.2.word
  have hown' : s'.vm.findClass own = some m.cls := by rw [hvm]; exact hown
  have hins : (Cond.instantiable cls 6).before args s' = true := h _ (by simp [Bundle.ownAtoms])
  obtain ⟨vm₁, cX, kX, hfX, hkX, -, -, X₁, st1⟩ := Y.newCold hexec (own := own) (C := cls) (index := ik) (n := 6) hown' hk' hins hini'
    (g := F0 m pc ls rest) rfl (by rw [hb]; exact d0) (Nat.le_refl _) (Nat.le_refl _)
  generalize hT1 : (T.setVm vm₁).pushCell { cls := cX, slots := kX.instanceTypes.map defaultValue, vm := .none } = T1 at X₁ st1
  have hcat : (Value.ref T.heap.size).category = 1 := rfl
  have hcellA : T1.heap[T.heap.size]? = some (freshCell cX kX) := by rw [← hT1]; exact State.heap_pushCell_size _ _
  have d3' : decode c.code (pc + 3) = .ok (.dup, 1) := by rw [hb]; exact d3
  have d4' : decode c.code (pc + 4) = .ok (.ldc_w is, 3) := by rw [hb]; exact d4
  have hstr' : vk_R own is text sa s' := vk_R.warm hW0 hstr
  obtain ⟨U, hsteps, hrun, hend, hW, hsame, ce, hce, hO⟩ := X₁.ctorThrowS hexec htr (own := own) (cls := cls) (names := names) (ic := ic) hown' hcls hnames h (fun x hx => nomatch hx) hfX hkX hcellA (by rw [hhp, hT]; exact Nat.le_refl _) (msg := .ref sa) rfl
    (g := { method := m, pc := pc + 7, locals := ls, stack := .ref sa :: .ref T.heap.size :: .ref T.heap.size :: rest, locked := none }) rfl hsize rfl rfl (rest := rest) rfl
    (by rw [hb]; exact d7) (by rw [hb]; exact d10) hout hRframes (by simp only [List.map_cons, List.sum_cons, hcat]; omega) hlocks
  obtain ⟨f1, f2⟩ := vx_frame hsame
  rw [hhp] at f1 f2
  have hWs : s.WarmedH U.vm := State.WarmedH.trans hW0 hW
  have hcl : s.vm.findClass cls = some ce.cls := by
    have h9 := hO.cls
    rw [hvm] at h9
    exact h9
  have hall : s.sameButNew ({ U with vm := s.vm } : State) locs mc ms := by
    subst hA
    obtain ⟨e1, e2⟩ := hsame
    rw [State.setFrames_setFrames] at e1
    have h2 : (T.setVm s.vm).sameButNew ({ U with vm := s.vm } : State) [] (0 + 1) (0 + 6) := ⟨e1, e2⟩
    have h3 := X.same.trans h2
    rw [List.append_nil] at h3
    exact h3.mono hc hs
  refine ⟨U, ?_, .threw T.heap.size, hrun, hend, Or.inr ⟨T.heap.size, rfl, cls, ce, locs, hx U hWs.alike f1 (fun q hq => f2 q hq (fun z hz => nomatch hz)), hce, hO.vm, hcl, hWs, hall, hf⟩⟩
  refine st1 _ ?_
  show Steps p.tables e below (T1.setTop { method := m, pc := pc + 3, locals := ls, stack := .ref T.heap.size :: rest, locked := none }) _
  jvm_step X₁.here [X₁.here.top, hexec, d3', Value.category]
  exact X₁.ldcStringW hexec (own := own) (text := text) (index := is) (a := sa) hown' hstr'.1 hstr'.2
    (g := { method := m, pc := pc + 4, locals := ls, stack := .ref T.heap.size :: .ref T.heap.size :: rest, locked := none }) rfl d4' _ hsteps
end Ends
section Bodies
variable {l : Launch}
theorem vx_ofW {y : MethodName} {ws ws' : List Cond} {rm : Room} {Pc : Array Value → State → Prop} {Qc : Array Value → State → Outcome → State → Prop} {XC : String → State → State → Prop} {mc ms : Nat} {free : Addr → Prop} {cc : ByteArray} {maxL : Nat} {ret : Option FieldType}
    (hy : plainName y.cls = true) (hw : ws = Cond.code y cc maxL ret :: ws')
    (body : ∀ p e s m args below meth c s₁, BodyLoose p l y (headSpec ws rm) cc maxL ret e s m args below meth c s₁ → c.maxLocals = maxL → (∀ x ∈ c.exceptionTable.toList, False) → Pc args s →
      W p l e (headSpec ws rm).room s m args below meth c s.heap [] 0 0 (vx_MQ below Qc XC args s mc ms free) (entryFrame m args maxL)) : vx_Met l y ws rm Pc Qc XC mc ms free := by
  refine MetFree.of_bodyS (code := cc) (maxLocals := maxL) (ret := ret) hy ?_ ?_
  · intro args s m h hn
    obtain ⟨meth, c, h1, h2, h3, h4, h5, h6, -, -⟩ := Cond.code_spec hn (atoms_spec (ws := ws) h _ (by rw [hw]; exact List.mem_cons_self))
    exact ⟨meth, c, h1, h2, h3, h4, h5, h6⟩
  · intro p e s m args below meth c s₁ B hml hP _
    have hh0 : s₁.heap = s.heap := by rw [B.state]; rfl
    have ht : ∀ x ∈ c.exceptionTable.toList, False := by
      obtain ⟨meth9, c9, h1, h2, -, -, -, -, h7, -⟩ := Cond.code_spec B.named (atoms_spec (ws := ws) B.pre _ (by rw [hw]; exact List.mem_cons_self))
      cases Option.some.inj (h1.symm.trans B.method)
      cases Option.some.inj (h2.symm.trans (Stand.of_body B).code)
      intro x hx
      rw [Array.isEmpty_iff.mp h7] at hx
      cases hx
    obtain ⟨t, a1, o, b1, b2, b3⟩ := body p e s m args below meth c s₁ B hml ht hP s₁ hh0 (Stand.of_body B)
    exact ⟨t, o, a1, b1, b2, b3⟩
/-- the table of a body with handlers -/
theorem vx_table {p : Program} {x y : MethodName} {S : Spec} {cc bytes : ByteArray} {maxL maxL' : Nat} {ret ret' : Option FieldType} {e : Env} {s s₁ : State} {m : MethodId} {args : Array Value} {below : List Frame} {meth : Method} {c : Code} {hh : List (Nat × Nat × Nat × Nat)}
    (B : BodyLoose p l y S cc maxL ret e s m args below meth c s₁) (h : (Cond.codeWith y bytes maxL' ret' hh).before args s = true) : c.exceptionTable.toList = tableOf hh := by
  obtain ⟨m9, meth9, c9, hn9, h1, h2, -, -, h6, -⟩ := Cond.codeWith_spec h
  cases Option.some.inj (hn9.symm.trans B.named)
  cases Option.some.inj (h1.symm.trans B.method)
  cases Option.some.inj (h2.symm.trans (Stand.of_body B).code)
  rw [← h6, table_eq]
end Bodies
end VXA
/-! ===== END ===== -/
/-! ===== BEGIN a static call of a method with an exception table ===== -/
section VXS
variable {p : Program} {l : Launch} {e : Env} {R : Room} {s : State} {m : MethodId} {args : Array Value} {below : List Frame} {meth : Method} {c : Code} {T : State} {H : Heap} {locs : List Loc} {cells slots : Nat}
abbrev vx_CSW (R : Room) (s : State) (args : Array Value) (own : String) (index : Nat) (y : MethodName) (bytes : ByteArray) (maxL : Nat) (ret : Option FieldType) (hh : List (Nat × Nat × Nat × Nat)) (ws : List Cond) (rm : Room) (mc ms n : Nat) : Prop :=
  (rm.cells = mc ∧ rm.slots = ms ∧ rm.frames + 1 ≤ R.frames ∧ 8 + (maxL + 11) + rm.locals ≤ R.locals ∧ (∀ w ∈ ws, ∀ (a' : Array Value) (U : State), s.WarmedH U.vm → w.before a' U = true) ∧ Cond.codeWith y bytes maxL ret hh ∈ ws) ∧
  (Cond.codeWith y bytes maxL ret hh).before args s = true ∧ (Cond.initialized y.cls).before args s = true ∧ (y.cls ≠ "java/lang/invoke/MethodHandle" ∧ y.cls ≠ "java/lang/invoke/VarHandle") ∧
  (∀ sig, parseMethodDescriptor y.desc = some sig → n = sig.parameters.length) ∧ (Cond.methodLink own index y).before args s = true ∧ (Cond.static y).before args s = true
theorem vx_cwSW {own : String} {index maxL mc ms : Nat} {y : MethodName} {bytes : ByteArray} {ret : Option FieldType} {hh : List (Nat × Nat × Nat × Nat)} {Ts ws ws' : List Cond} {rm : Room} (n : Nat) (ht : ∀ w ∈ Ts, w.before args s = true) (hT : GoodIn Ts (va_wsS own index y ws)) (hw : ws = Cond.codeWith y bytes maxL ret hh :: ws') (hrc : rm.cells = mc) (hrs : rm.slots = ms)
    (hd : y.cls ≠ "java/lang/invoke/MethodHandle" ∧ y.cls ≠ "java/lang/invoke/VarHandle" ∧ (parseMethodDescriptor y.desc).map (fun d => d.parameters.length) = some n) (hR : rm.frames + 1 ≤ R.frames ∧ 8 + (maxL + 11) + rm.locals ≤ R.locals) :
    vx_CSW R s args own index y bytes maxL ret hh ws rm mc ms n := by
  have ok : ∀ w ∈ va_wsS own index y ws, w.before args s = true := fun w h => ht w (hT w h).1
  have hG : GoodIn Ts ws := fun w h => hT w (by unfold va_wsS; exact List.mem_append_right _ h)
  have hc : Cond.codeWith y bytes maxL ret hh ∈ ws := by rw [hw]; exact List.mem_cons_self
  refine ⟨⟨hrc, hrs, hR.1, hR.2, pay_in ht hG, hc⟩, ht _ (hG _ hc).1, ok _ (by simp [va_wsS]), ⟨hd.1, hd.2.1⟩, fun sig h => ?_, ok _ (by simp [va_wsS]), ok _ (by simp [va_wsS])⟩
  have h2 := hd.2.2
  rw [h] at h2
  exact (Option.some.inj h2).symm
theorem vx_callSW (X : Stand p l e R s m args below meth c T locs cells slots) (hexec : p.tables.exec = Jvm.exec) {own : String} {index : Nat} {y : MethodName} {bytes : ByteArray} {maxL : Nat} {ret : Option FieldType} {hh : List (Nat × Nat × Nat × Nat)}
    (hown : s.vm.findClass own = some m.cls) (hlink : (Cond.methodLink own index y).before args s = true) (hstat : (Cond.static y).before args s = true) (hinit : (Cond.initialized y.cls).before args s = true)
    (hcode : (Cond.codeWith y bytes maxL ret hh).before args s = true) (hy : y.cls ≠ "java/lang/invoke/MethodHandle" ∧ y.cls ≠ "java/lang/invoke/VarHandle")
    {W9 : Nat} {Pre : Pt → Array Value → Prop} {Post : Pt → Array Value → Option Value → Pt → Prop} (hK : Back l R p e below s args y 3 W9 Pre Post)
    {g : JFrame} (hg : g.method = m) (hsize : g.locals.size = c.maxLocals) {argsL rest : List Value} (hlen : ∀ sig, parseMethodDescriptor y.desc = some sig → argsL.length = sig.parameters.length)
    (hstack : g.stack = argsL.reverse ++ rest) (hW : 2 * g.monitorRoom + (rest.map fun v => v.category).sum ≤ W9) (hdg : decode c.code g.pc = .ok (.invokestatic index, 3))
    (hpre : ∀ vm₁, s.WarmedH vm₁ → Pre ⟨T.setVm vm₁, locs, cells, slots⟩ argsL.toArray) :
    ∃ (v : Option Value) (vm₁ : Vm) (B : Pt), s.WarmedH vm₁ ∧ Stand p l e R s m args below meth c B.U B.locs B.cells B.slots ∧ Post ⟨T.setVm vm₁, locs, cells, slots⟩ argsL.toArray v B ∧
      ∀ target, Steps p.tables e below (B.U.setTop { g with pc := g.pc + 3, stack := v.toList ++ rest }) target → Steps p.tables e below (T.setTop g) target := by
  obtain ⟨mk, methM, cM, hnamed, hmethM, -, -, -, -, -, -, hsigM⟩ := Cond.codeWith_spec hcode
  have hstatic : methM.isStatic = true := Cond.static_spec hnamed hmethM hstat
  obtain ⟨kP, hkP, -⟩ := className_of_methodNamed hnamed
  have hinitP : kP.init = .initialized := Cond.initialized_spec (findClass_of_methodNamed hnamed) hkP hinit
  obtain ⟨vm₁, X₁, hstep₁⟩ := X.invokestatic hexec hown hlink hnamed hmethM hstatic hkP hinitP hy (g := g) hg (argsL := argsL) (rest := rest) (hlen _ hsigM) hstack hdg
  obtain ⟨v, B, X', hpost, hsteps⟩ := hK m meth c ⟨T.setVm vm₁, locs, cells, slots⟩ { g with stack := rest } (.invokestatic index) mk argsL.toArray X₁ hg hsize hdg hW (X₁.named hnamed) (hpre vm₁ X₁.warmed)
  exact ⟨v, vm₁, B, X₁.warmed, X', hpost, fun target h => hstep₁ _ fun acts => by rw [doInvoke_state]; exact hsteps.trans h⟩
theorem vx_runSW {y : MethodName} {bytes cc : ByteArray} {maxL nL mc ms n index : Nat} {ret : Option FieldType} {hh : List (Nat × Nat × Nat × Nat)} {ws : List Cond} {rm : Room} {Pc : Array Value → State → Prop} {Qc : Array Value → State → Outcome → State → Prop} {free : Addr → Prop} {Ts : List Cond} {own : String} {As rest : List Value} {g : JFrame}
    (S : CallFix p m c cc nL s args Ts own) (hM : Met l y ws rm Pc Qc mc ms free) (cw : vx_CSW R s args own index y bytes maxL ret hh ws rm mc ms n) (hp : PreS s H Pc As)
    (hg : g.method = m) (hn : As.length = n) (hsize : g.locals.size = nL) (hstack : g.stack = As.reverse ++ rest) (hW : 2 * g.monitorRoom + (rest.map fun v => v.category).sum ≤ 8) (hdg : decode cc g.pc = .ok (.invokestatic index, 3)) (hf : cells + mc ≤ R.cells ∧ slots + ms ≤ R.slots) :
    va_Run p l e R s m args below meth c H locs cells slots mc ms g rest (Qc As.toArray) (free) := by
  obtain ⟨⟨hrc, hrs, hfr, hlo, hws, hcw⟩, hcode, hini, hy, hlen, hl, hstt⟩ := cw
  have hK : Back l R p e below s args y 3 8 (PreOf R mc ms Pc) (PostOf Qc mc ms free) := va_backW (hh := hh) (bytes := bytes) (maxL := maxL) (ret := ret) hM hp.1 hrc hrs hfr hlo hws hcw (fun a' U hW => word_at hW (Or.inl (by first | rfl | simp [Cond.onTables, Cond.keeps, Cond.steady])) hini)
  obtain ⟨hx, hb, hml, ho, -⟩ := S
  intro T hT X
  obtain ⟨v, vm₁, ⟨U', l2, c2, s2⟩, hW₁, X', ⟨g', mk, t, L, e1, e2, hq, h1, hL, h2, h3⟩, st⟩ := vx_callSW X hx (hh := hh) (bytes := bytes) (maxL := maxL) (ret := ret) ho hl hstt hini hcode hy hK hg (hsize.trans hml.symm) (argsL := As) (rest := rest) (fun sig h => hn.trans (hlen sig h)) hstack hW (by rw [hb]; exact hdg)
    (fun vm₁ hW₁ => ⟨hf.1, hf.2, hp.2 (T.setVm vm₁) hT hW₁⟩)
  dsimp only [Pt.U, Pt.locs, Pt.cells, Pt.slots] at X' e1 e2 h1 h2 h3 st
  subst h1; subst h2; subst h3
  exact ⟨v, (T.setVm vm₁).calling g' mk As.toArray, t, U', L, hT, X', hL, e1, e2, hq, st⟩
/-- not caught here, past rows that name other classes: it goes on to the caller -/
theorem vx_outP {p : Program} {l : Launch} {e : Env} {R : Room} {s : State} {m : MethodId} {args : Array Value} {below : List Frame} {meth : Method} {c : Code} {H : Heap} {locs : List Loc} {cells slots : Nat} {free : Addr → Prop} {ls : Array Slot} {rest : List Value} {Qc : Array Value → State → Outcome → State → Prop} {XC : String → State → State → Prop}
    {pc : Nat} {own E : String} {ce : Cell} {q : Addr} {mc ms : Nat} (hown : s.vm.findClass own = some m.cls) (hlocks : meth.locks = false)
    (hpass : ∀ z ∈ c.exceptionTable.toList, covers z pc = false ∨ (z.catchType ≠ 0 ∧ ∃ nm : String, (Cond.classLink own z.catchType nm).before args s = true ∧ va_Nc E nm s)) (hcell : H[q]? = some ce) (hv : ce.vm = .none) (hcl : s.vm.findClass E = some ce.cls)
    (hx : ∀ t : State, t.heap = H → s.vm.Alike t.vm → XC E s t) (hf : ∀ z ∈ locs, free z.base) (hc : cells ≤ mc) (hs : slots ≤ ms) :
    vx_W p l e R s m args below meth c H locs cells slots (vx_MQ below Qc XC args s mc ms free) (F0 m pc ls rest) q := by
  intro T hT X
  have hpl : e.platform.magicAccessors = ({} : Platform).magicAccessors := by rw [X.admits.platform]
  obtain ⟨vm', hW', X', st⟩ := X.outThrough hlocks q (g := F0 m pc ls rest) rfl rfl rfl (cell := ce) (by rw [hT]; exact hcell) (by rw [hv]; rfl)
    (by obtain ⟨k9, h9, -⟩ := Vm.findClass_spec hcl; exact ⟨k9, h9⟩) (fun z hz => by
      rcases hpass z hz with h | ⟨hz0, nm, hl1, hn1⟩
      · exact Or.inl h
      · obtain ⟨c6, hc6, hcl6⟩ := Cond.classLink_spec hown hl1 e.platform hpl
        obtain ⟨a8, b8, h1, h2, h3⟩ := hn1
        cases Option.some.inj (h1.symm.trans hcl)
        cases Option.some.inj (h2.symm.trans hc6)
        exact Or.inr ⟨hz0, _, hcl6, h3⟩)
  obtain ⟨g₀, hfr⟩ := X'.frames_eq
  have hcell9 : ((T.setVm vm').setFrames (.throwing q :: below)).heap[q]? = some ce := by
    show T.heap[q]? = some ce
    rw [hT]; exact hcell
  have hend : Ended ((T.setVm vm').setFrames (.throwing q :: below)) below (.threw q) := State.frames_setFrames _ (State.cur_lt_of_frames hfr)
  refine ⟨(T.setVm vm').setFrames (.throwing q :: below), ?_, .threw q, X'.here.running, hend, Or.inr ⟨q, rfl, E, ce, locs, hx _ hT (X'.ends _).1.alike, hcell9, hv, hcl, (X'.ends _).1, (X'.ends _).2.mono hc hs, hf⟩⟩
  rw [X.pushThrowing_eq]
  exact st
/-- a thing of a world lies in the heap -/
theorem vx_lt {D : va_G} {cl : List vw_C} {ws : va_W} {H1 : Heap} (h : va_P D cl ws H1) {k : Nat} {q : Nat × va_E} (hk : ws[k]? = some q) : q.1 < H1.size := (h k q hk).lt
end VXS
/-! ===== END ===== -/
/-! ===== BEGIN methods with a table of their own: called by a name, returning or throwing ===== -/
section VXH
/-! vx_backW, vx_callVX, vx_callSX, vx_callVW, vx_runVW, vx_runVX, vx_runSX, vx_ofWH follow the same proofs as their sisters above (Free/Laws.lean, Shelf42/LK1.lean); vx_outP calls Shelf42/NT130.lean (outThrough). -/
section
variable {l : Launch} {R : Room} {p : Program} {e : Env} {below : List Frame} {s : State} {sargs : Array Value} {y : MethodName} {len W9 : Nat}
theorem vx_backW {ws : List Cond} {rm : Room} {Pc : Array Value → State → Prop} {Qc : Array Value → State → Outcome → State → Prop} {XC : String → State → State → Prop} {mc ms : Nat} {free : Addr → Prop} {bytes : ByteArray} {maxL : Nat} {ret : Option FieldType} {hh : List (Nat × Nat × Nat × Nat)}
    (hM : vx_Met l y ws rm Pc Qc XC mc ms free) (hblind : FrameBlind Pc) (hrc : rm.cells = mc) (hrs : rm.slots = ms)
    (hframes : rm.frames + 1 ≤ R.frames) (hlocals : W9 + (maxL + 11) + rm.locals ≤ R.locals)
    (hws : ∀ w ∈ ws, ∀ a' U, s.WarmedH U.vm → w.before a' U = true) (hcode : Cond.codeWith y bytes maxL ret hh ∈ ws) (hinit : ∀ a' U, s.WarmedH U.vm → (Cond.initialized y.cls).before a' U = true) :
    vx_Back l R p e below s sargs y len W9 (PreOf R mc ms Pc) (PostOf Qc mc ms free) (vx_Post XC mc ms free) := by
  intro m meth c A g ig mk a X hg hsize hdg hW hn hp
  have h1 : (headSpec ws rm).pre.before a A.U = true := atoms_intro fun w hw => hws w hw _ _ X.warmed
  have h2 : (Cond.codeWith y bytes maxL ret hh).before a A.U = true := hws _ hcode _ _ X.warmed
  have h3 : (Cond.initialized y.cls).before a A.U = true := hinit _ _ X.warmed
  have h4 : A.cells + (headSpec ws rm).room.cells ≤ R.cells := by rw [show (headSpec ws rm).room.cells = mc from hrc]; exact hp.1
  have h5 : A.slots + (headSpec ws rm).room.slots ≤ R.slots := by rw [show (headSpec ws rm).room.slots = ms from hrs]; exact hp.2.1
  have hPc : Pc a (A.U.calling g mk a) := hblind _ _ _ _ hp.2.2
  obtain ⟨U, Ls, c0, s0⟩ := A
  dsimp only [Pt.U, Pt.locs, Pt.cells, Pt.slots] at h1 h2 h3 h4 h5 X hn hPc ⊢
  obtain ⟨m9, methY, cY, hn9, hmY, hcY, -, hlY, -⟩ := Cond.codeWith_spec h2
  cases Option.some.inj (hn9.symm.trans hn)
  obtain ⟨kY, hkY, -⟩ := className_of_methodNamed hn
  have hinitY : kY.init = .initialized := Cond.initialized_spec (findClass_of_methodNamed hn) hkY h3
  have h : At U g.method c below := by rw [hg]; exact X.here
  have hlocals9 : W9 + (maxL + 11) + (headSpec ws rm).room.locals ≤ R.locals := hlocals
  have happ : (headSpec ws rm).appliesLoose y e.platform (U.calling g mk a) = true :=
    Spec.appliesLoose_calling (g := g) h hdg hn hkY hinitY
      (X.room_calling (g := g) (R' := (headSpec ws rm).room) hsize hmY hcY hframes (by rw [hlY]; omega) h4 h5) h1
  obtain ⟨mid, hmid⟩ := h.above
  have hfr : (U.setTop g).frames = (.java g :: mid) ++ below := by rw [State.frames_setTop' g h.top, hmid]; rfl
  obtain ⟨o, s₂, hsteps, -, hend, hq⟩ := Steps.callFree hM p X.admits X.cas X.clock (acts := []) hfr happ hPc trivial
  have hq' : vx_Q Qc XC mc ms free a (U.calling g mk a) o s₂ := hq
  rw [State.frames_setTop' g h.top] at hend
  obtain ⟨g₀, hg0⟩ := Option.isSome_iff_exists.mp h.top
  obtain ⟨r, hr⟩ := State.topJava?_eq_some.mp hg0
  have hr' : (({ U with heap := s₂.heap, slotsUsed := s₂.slotsUsed } : State).setVm s₂.vm).frames = .java g₀ :: r := hr
  rcases hq' with ⟨hqc, L, hfe, hL⟩ | ⟨q, rfl, E, ce, L, hx, hce, hcv, hcl, hW₂, hsm, hL⟩
  · obtain ⟨⟨v, rfl⟩, hW₂, e2, q2, q3, q4, q5, q6⟩ := id hfe
    have e3 : s₂ = ({ (U.calling g mk a).setFrames s₂.frames with heap := s₂.heap, slotsUsed := s₂.slotsUsed } : State).setVm s₂.vm := by
      have : s₂ = ({ s₂ with vm := (U.calling g mk a).vm } : State).setVm s₂.vm := rfl
      rw [e2] at this
      exact this
    obtain ⟨c₂, i₂, len₂, hc₂, hd₂, hf₂⟩ := hend
    have hW' : U.WarmedH s₂.vm := hW₂
    have hcc : c₂ = c := by
      have h1 : s₂.code? g.method = U.code? g.method := by
        rw [State.code?_eq, State.code?_eq, hW'.alike.method?]
      exact Option.some.inj (hc₂.symm.trans (h1.trans h.code))
    subst hcc
    have hlen : len₂ = len := by rw [hdg] at hd₂; cases hd₂; rfl
    subst hlen
    have hs₂ : s₂ = (({ U with heap := s₂.heap, slotsUsed := s₂.slotsUsed } : State).setVm s₂.vm).setTop { g with pc := g.pc + len₂, stack := v.toList ++ g.stack } := by
      refine e3.trans ?_
      rw [hf₂, State.calling_eq h.top, State.setFrames_setFrames, State.setTop_of_frames _ hr', hr]
      rfl
    have hsame : U.sameButNew ({ U with heap := s₂.heap, slotsUsed := s₂.slotsUsed } : State) L mc ms := by
      refine ⟨?_, q2, q3, q4, q5, q6⟩
      obtain ⟨t, ht, -⟩ := State.frames_cons hr
      show ({ U with heap := s₂.heap, slotsUsed := s₂.slotsUsed } : State) = { U.setFrames U.frames with heap := s₂.heap, slotsUsed := s₂.slotsUsed }
      rw [State.setFrames_self ht]
    subst hg
    refine Or.inl ⟨v, ⟨(({ U with heap := s₂.heap, slotsUsed := s₂.slotsUsed } : State).setVm s₂.vm), Ls ++ L, c0 + mc, s0 + ms⟩,
      ⟨X.admits, X.cas, X.clock, X.frames, X.room, X.hears, X.method, X.code, (X.here.setHeapUsed s₂.heap s₂.slotsUsed).setVm hW'.alike, X.tail, State.WarmedH.trans X.warmed hW', X.limits, X.bytes, X.same.trans (hsame.setVm s.vm)⟩,
      ⟨g, mk, s₂, L, rfl, rfl, hqc, rfl, hL, rfl, rfl⟩, ?_⟩
    show Steps p.tables e below _ ((({ U with heap := s₂.heap, slotsUsed := s₂.slotsUsed } : State).setVm s₂.vm).setTop { g with pc := g.pc + len₂, stack := v.toList ++ g.stack })
    rw [← hs₂]
    exact hsteps
  · obtain ⟨e2, q2, q3, q4, q5, q6⟩ := id hsm
    have e3 : s₂ = ({ (U.calling g mk a).setFrames s₂.frames with heap := s₂.heap, slotsUsed := s₂.slotsUsed } : State).setVm s₂.vm := by
      have : s₂ = ({ s₂ with vm := (U.calling g mk a).vm } : State).setVm s₂.vm := rfl
      rw [e2] at this
      exact this
    have hf₂ : s₂.frames = .throwing q :: .java g :: U.frames.tail := hend
    have hW' : U.WarmedH s₂.vm := hW₂
    have hs₂ : s₂ = ((({ U with heap := s₂.heap, slotsUsed := s₂.slotsUsed } : State).setVm s₂.vm).setTop g).pushFrame (.throwing q) := by
      refine e3.trans ?_
      rw [hf₂, State.calling_eq h.top, State.setFrames_setFrames, State.pushFrame, State.frames_setTop _ hr', State.setTop_of_frames _ hr', State.setFrames_setFrames, hr]
      rfl
    have hsame : U.sameButNew ({ U with heap := s₂.heap, slotsUsed := s₂.slotsUsed } : State) L mc ms := by
      refine ⟨?_, q2, q3, q4, q5, q6⟩
      obtain ⟨t, ht, -⟩ := State.frames_cons hr
      show ({ U with heap := s₂.heap, slotsUsed := s₂.slotsUsed } : State) = { U.setFrames U.frames with heap := s₂.heap, slotsUsed := s₂.slotsUsed }
      rw [State.setFrames_self ht]
    subst hg
    refine Or.inr ⟨q, ⟨(({ U with heap := s₂.heap, slotsUsed := s₂.slotsUsed } : State).setVm s₂.vm), Ls ++ L, c0 + mc, s0 + ms⟩,
      ⟨X.admits, X.cas, X.clock, X.frames, X.room, X.hears, X.method, X.code, (X.here.setHeapUsed s₂.heap s₂.slotsUsed).setVm hW'.alike, X.tail, State.WarmedH.trans X.warmed hW', X.limits, X.bytes, X.same.trans (hsame.setVm s.vm)⟩,
      ⟨g, mk, s₂, L, E, ce, rfl, rfl, hx, hce, hcv, hcl, rfl, hL, rfl, rfl⟩, ?_⟩
    show Steps p.tables e below _ (((({ U with heap := s₂.heap, slotsUsed := s₂.slotsUsed } : State).setVm s₂.vm).setTop g).pushFrame (.throwing q))
    rw [← hs₂]
    exact hsteps
end
variable {p : Program} {l : Launch} {e : Env} {R : Room} {s : State} {m : MethodId} {args : Array Value} {below : List Frame} {meth : Method} {c : Code} {T : State} {H : Heap} {locs : List Loc} {cells slots : Nat}
theorem vx_callVX (X : Stand p l e R s m args below meth c T locs cells slots) (hexec : p.tables.exec = Jvm.exec) {own C : String} {index : Nat} {y : MethodName} {bytes : ByteArray} {maxL : Nat} {ret : Option FieldType} {hh : List (Nat × Nat × Nat × Nat)}
    (hown : s.vm.findClass own = some m.cls) (hlink : (Cond.methodLink own index y).before args s = true) (hinst : (Cond.instanceMethod y).before args s = true) (hsel : (Cond.selects C y y).before args s = true)
    (hcode : (Cond.codeWith y bytes maxL ret hh).before args s = true) (hy : y.cls ≠ "java/lang/invoke/MethodHandle" ∧ y.cls ≠ "java/lang/invoke/VarHandle")
    {W9 : Nat} {Pre : Pt → Array Value → Prop} {Post : Pt → Array Value → Option Value → Pt → Prop} {PostX : Pt → Array Value → Addr → Pt → Prop} (hK : vx_Back l R p e below s args y 3 W9 Pre Post PostX)
    {b : Addr} {cellB : Cell} (hcell : T.heap[b]? = some cellB) (hobj : cellB.vm.isStatics = false) (hcls : s.vm.findClass C = some cellB.cls)
    {g : JFrame} (hg : g.method = m) (hsize : g.locals.size = c.maxLocals) {argsL rest : List Value} (hlen : ∀ sig, parseMethodDescriptor y.desc = some sig → argsL.length = sig.parameters.length)
    (hstack : g.stack = argsL.reverse ++ .ref b :: rest) (hW : 2 * g.monitorRoom + (rest.map fun v => v.category).sum ≤ W9) (hdg : decode c.code g.pc = .ok (.invokevirtual index, 3))
    (hpre : ∀ vm₁, s.WarmedH vm₁ → Pre ⟨T.setVm vm₁, locs, cells, slots⟩ (Value.ref b :: argsL).toArray) :
    (∃ (v : Option Value) (vm₁ : Vm) (B : Pt), s.WarmedH vm₁ ∧ Stand p l e R s m args below meth c B.U B.locs B.cells B.slots ∧ Post ⟨T.setVm vm₁, locs, cells, slots⟩ (Value.ref b :: argsL).toArray v B ∧
      ∀ target, Steps p.tables e below (B.U.setTop { g with pc := g.pc + 3, stack := v.toList ++ rest }) target → Steps p.tables e below (T.setTop g) target) ∨
    (∃ (q : Addr) (vm₁ : Vm) (B : Pt), s.WarmedH vm₁ ∧ Stand p l e R s m args below meth c B.U B.locs B.cells B.slots ∧ PostX ⟨T.setVm vm₁, locs, cells, slots⟩ (Value.ref b :: argsL).toArray q B ∧
      Steps p.tables e below (T.setTop g) ((B.U.setTop { g with stack := rest }).pushFrame (.throwing q))) := by
  obtain ⟨mk, methM, hnamed, hmethM, hstM, habM⟩ := Cond.instanceMethod_spec hinst
  obtain ⟨m8, methM', cM, hn8, hmethM', -, -, -, -, -, -, hsigM⟩ := Cond.codeWith_spec hcode
  cases Option.some.inj (hn8.symm.trans hnamed)
  cases hmethM.symm.trans hmethM'
  obtain ⟨c2, r2, m2, q1, q2, q3, q4, kP, hkP, hkPi⟩ := Cond.selects_spec hsel
  cases hcls.symm.trans q1
  cases (State.methodFound?_of_named hnamed hy).symm.trans q2
  cases hnamed.symm.trans q3
  have hselP : selectMethod e.platform s.vm cellB.cls mk = .method mk := by rw [Launch.admits_selectMethod X.admits]; exact q4
  obtain ⟨vm₁, X₁, hstep₁⟩ := X.invokevirtual hexec hown hlink hnamed hmethM hstM hkP hkPi hy (a := b) (cell := cellB) hcell
    (fun z h => by rw [h] at hobj; cases hobj) hselP hmethM habM hkP hkPi (g := g) hg (argsL := argsL) (rest := rest) (hlen _ hsigM) hstack hdg
  rcases hK m meth c ⟨T.setVm vm₁, locs, cells, slots⟩ { g with stack := rest } (.invokevirtual index) mk (Value.ref b :: argsL).toArray X₁ hg hsize hdg hW (X₁.named hnamed) (hpre vm₁ X₁.warmed) with ⟨v, B, X', hpost, hsteps⟩ | ⟨q, B, X', hpost, hsteps⟩
  · exact Or.inl ⟨v, vm₁, B, X₁.warmed, X', hpost, fun target h => hstep₁ _ fun acts => by rw [doInvoke_state]; exact hsteps.trans h⟩
  · exact Or.inr ⟨q, vm₁, B, X₁.warmed, X', hpost, hstep₁ _ fun acts => by rw [doInvoke_state]; exact hsteps⟩
theorem vx_callSX (X : Stand p l e R s m args below meth c T locs cells slots) (hexec : p.tables.exec = Jvm.exec) {own : String} {index : Nat} {y : MethodName} {bytes : ByteArray} {maxL : Nat} {ret : Option FieldType} {hh : List (Nat × Nat × Nat × Nat)}
    (hown : s.vm.findClass own = some m.cls) (hlink : (Cond.methodLink own index y).before args s = true) (hstat : (Cond.static y).before args s = true) (hinit : (Cond.initialized y.cls).before args s = true)
    (hcode : (Cond.codeWith y bytes maxL ret hh).before args s = true) (hy : y.cls ≠ "java/lang/invoke/MethodHandle" ∧ y.cls ≠ "java/lang/invoke/VarHandle")
    {W9 : Nat} {Pre : Pt → Array Value → Prop} {Post : Pt → Array Value → Option Value → Pt → Prop} {PostX : Pt → Array Value → Addr → Pt → Prop} (hK : vx_Back l R p e below s args y 3 W9 Pre Post PostX)
    {g : JFrame} (hg : g.method = m) (hsize : g.locals.size = c.maxLocals) {argsL rest : List Value} (hlen : ∀ sig, parseMethodDescriptor y.desc = some sig → argsL.length = sig.parameters.length)
    (hstack : g.stack = argsL.reverse ++ rest) (hW : 2 * g.monitorRoom + (rest.map fun v => v.category).sum ≤ W9) (hdg : decode c.code g.pc = .ok (.invokestatic index, 3))
    (hpre : ∀ vm₁, s.WarmedH vm₁ → Pre ⟨T.setVm vm₁, locs, cells, slots⟩ argsL.toArray) :
    (∃ (v : Option Value) (vm₁ : Vm) (B : Pt), s.WarmedH vm₁ ∧ Stand p l e R s m args below meth c B.U B.locs B.cells B.slots ∧ Post ⟨T.setVm vm₁, locs, cells, slots⟩ argsL.toArray v B ∧
      ∀ target, Steps p.tables e below (B.U.setTop { g with pc := g.pc + 3, stack := v.toList ++ rest }) target → Steps p.tables e below (T.setTop g) target) ∨
    (∃ (q : Addr) (vm₁ : Vm) (B : Pt), s.WarmedH vm₁ ∧ Stand p l e R s m args below meth c B.U B.locs B.cells B.slots ∧ PostX ⟨T.setVm vm₁, locs, cells, slots⟩ argsL.toArray q B ∧
      Steps p.tables e below (T.setTop g) ((B.U.setTop { g with stack := rest }).pushFrame (.throwing q))) := by
  obtain ⟨mk, methM, cM, hnamed, hmethM, -, -, -, -, -, -, hsigM⟩ := Cond.codeWith_spec hcode
  have hstatic : methM.isStatic = true := Cond.static_spec hnamed hmethM hstat
  obtain ⟨kP, hkP, -⟩ := className_of_methodNamed hnamed
  have hinitP : kP.init = .initialized := Cond.initialized_spec (findClass_of_methodNamed hnamed) hkP hinit
  obtain ⟨vm₁, X₁, hstep₁⟩ := X.invokestatic hexec hown hlink hnamed hmethM hstatic hkP hinitP hy (g := g) hg (argsL := argsL) (rest := rest) (hlen _ hsigM) hstack hdg
  rcases hK m meth c ⟨T.setVm vm₁, locs, cells, slots⟩ { g with stack := rest } (.invokestatic index) mk argsL.toArray X₁ hg hsize hdg hW (X₁.named hnamed) (hpre vm₁ X₁.warmed) with ⟨v, B, X', hpost, hsteps⟩ | ⟨q, B, X', hpost, hsteps⟩
  · exact Or.inl ⟨v, vm₁, B, X₁.warmed, X', hpost, fun target h => hstep₁ _ fun acts => by rw [doInvoke_state]; exact hsteps.trans h⟩
  · exact Or.inr ⟨q, vm₁, B, X₁.warmed, X', hpost, hstep₁ _ fun acts => by rw [doInvoke_state]; exact hsteps⟩
theorem vx_callVW (X : Stand p l e R s m args below meth c T locs cells slots) (hexec : p.tables.exec = Jvm.exec) {own C : String} {index : Nat} {y : MethodName} {bytes : ByteArray} {maxL : Nat} {ret : Option FieldType} {hh : List (Nat × Nat × Nat × Nat)}
    (hown : s.vm.findClass own = some m.cls) (hlink : (Cond.methodLink own index y).before args s = true) (hinst : (Cond.instanceMethod y).before args s = true) (hsel : (Cond.selects C y y).before args s = true)
    (hcode : (Cond.codeWith y bytes maxL ret hh).before args s = true) (hy : y.cls ≠ "java/lang/invoke/MethodHandle" ∧ y.cls ≠ "java/lang/invoke/VarHandle")
    {W9 : Nat} {Pre : Pt → Array Value → Prop} {Post : Pt → Array Value → Option Value → Pt → Prop} (hK : Back l R p e below s args y 3 W9 Pre Post)
    {b : Addr} {cellB : Cell} (hcell : T.heap[b]? = some cellB) (hobj : cellB.vm.isStatics = false) (hcls : s.vm.findClass C = some cellB.cls)
    {g : JFrame} (hg : g.method = m) (hsize : g.locals.size = c.maxLocals) {argsL rest : List Value} (hlen : ∀ sig, parseMethodDescriptor y.desc = some sig → argsL.length = sig.parameters.length)
    (hstack : g.stack = argsL.reverse ++ .ref b :: rest) (hW : 2 * g.monitorRoom + (rest.map fun v => v.category).sum ≤ W9) (hdg : decode c.code g.pc = .ok (.invokevirtual index, 3))
    (hpre : ∀ vm₁, s.WarmedH vm₁ → Pre ⟨T.setVm vm₁, locs, cells, slots⟩ (Value.ref b :: argsL).toArray) :
    ∃ (v : Option Value) (vm₁ : Vm) (B : Pt), s.WarmedH vm₁ ∧ Stand p l e R s m args below meth c B.U B.locs B.cells B.slots ∧ Post ⟨T.setVm vm₁, locs, cells, slots⟩ (Value.ref b :: argsL).toArray v B ∧
      ∀ target, Steps p.tables e below (B.U.setTop { g with pc := g.pc + 3, stack := v.toList ++ rest }) target → Steps p.tables e below (T.setTop g) target := by
  obtain ⟨mk, methM, hnamed, hmethM, hstM, habM⟩ := Cond.instanceMethod_spec hinst
  obtain ⟨m8, methM', cM, hn8, hmethM', -, -, -, -, -, -, hsigM⟩ := Cond.codeWith_spec hcode
  cases Option.some.inj (hn8.symm.trans hnamed)
  cases hmethM.symm.trans hmethM'
  obtain ⟨c2, r2, m2, q1, q2, q3, q4, kP, hkP, hkPi⟩ := Cond.selects_spec hsel
  cases hcls.symm.trans q1
  cases (State.methodFound?_of_named hnamed hy).symm.trans q2
  cases hnamed.symm.trans q3
  have hselP : selectMethod e.platform s.vm cellB.cls mk = .method mk := by rw [Launch.admits_selectMethod X.admits]; exact q4
  obtain ⟨vm₁, X₁, hstep₁⟩ := X.invokevirtual hexec hown hlink hnamed hmethM hstM hkP hkPi hy (a := b) (cell := cellB) hcell
    (fun z h => by rw [h] at hobj; cases hobj) hselP hmethM habM hkP hkPi (g := g) hg (argsL := argsL) (rest := rest) (hlen _ hsigM) hstack hdg
  obtain ⟨v, B, X', hpost, hsteps⟩ := hK m meth c ⟨T.setVm vm₁, locs, cells, slots⟩ { g with stack := rest } (.invokevirtual index) mk (Value.ref b :: argsL).toArray X₁ hg hsize hdg hW (X₁.named hnamed) (hpre vm₁ X₁.warmed)
  exact ⟨v, vm₁, B, X₁.warmed, X', hpost, fun target h => hstep₁ _ fun acts => by rw [doInvoke_state]; exact hsteps.trans h⟩
abbrev vx_CVW (R : Room) (s : State) (args : Array Value) (own C : String) (index : Nat) (y : MethodName) (bytes : ByteArray) (maxL : Nat) (ret : Option FieldType) (hh : List (Nat × Nat × Nat × Nat)) (ws : List Cond) (rm : Room) (mc ms n : Nat) : Prop :=
  (rm.cells = mc ∧ rm.slots = ms ∧ rm.frames + 1 ≤ R.frames ∧ 8 + (maxL + 11) + rm.locals ≤ R.locals ∧ (∀ w ∈ ws, ∀ (a' : Array Value) (U : State), s.WarmedH U.vm → w.before a' U = true) ∧ Cond.codeWith y bytes maxL ret hh ∈ ws) ∧
  (Cond.codeWith y bytes maxL ret hh).before args s = true ∧ (Cond.initialized y.cls).before args s = true ∧ (y.cls ≠ "java/lang/invoke/MethodHandle" ∧ y.cls ≠ "java/lang/invoke/VarHandle") ∧
  (∀ sig, parseMethodDescriptor y.desc = some sig → n = sig.parameters.length) ∧ (Cond.methodLink own index y).before args s = true ∧ (Cond.instanceMethod y).before args s = true ∧ (Cond.selects C y y).before args s = true
theorem vx_cwVW {own C : String} {index maxL mc ms : Nat} {y : MethodName} {bytes : ByteArray} {ret : Option FieldType} {hh : List (Nat × Nat × Nat × Nat)} {Ts ws ws' : List Cond} {rm : Room} (n : Nat) (ht : ∀ w ∈ Ts, w.before args s = true) (hT : GoodIn Ts (wsV own index C y ws)) (hw : ws = Cond.codeWith y bytes maxL ret hh :: ws') (hrc : rm.cells = mc) (hrs : rm.slots = ms)
    (hd : y.cls = C ∧ y.cls ≠ "java/lang/invoke/MethodHandle" ∧ y.cls ≠ "java/lang/invoke/VarHandle" ∧ (parseMethodDescriptor y.desc).map (fun d => d.parameters.length) = some n) (hR : rm.frames + 1 ≤ R.frames ∧ 8 + (maxL + 11) + rm.locals ≤ R.locals) :
    vx_CVW R s args own C index y bytes maxL ret hh ws rm mc ms n := by
  obtain ⟨hC, hd⟩ := hd
  subst hC
  have ok : ∀ w ∈ wsV own index y.cls y ws, w.before args s = true := fun w h => ht w (hT w h).1
  have hG : GoodIn Ts ws := fun w h => hT w (by unfold wsV; exact List.mem_append_right _ h)
  have hc : Cond.codeWith y bytes maxL ret hh ∈ ws := by rw [hw]; exact List.mem_cons_self
  refine ⟨⟨hrc, hrs, hR.1, hR.2, pay_in ht hG, hc⟩, ht _ (hG _ hc).1, ok _ (by simp [wsV]), ⟨hd.1, hd.2.1⟩, fun sig h => ?_, ok _ (by simp [wsV]), ok _ (by simp [wsV]), ok _ (by simp [wsV])⟩
  have h2 := hd.2.2
  rw [h] at h2
  exact (Option.some.inj h2).symm
theorem vx_runVW {y : MethodName} {bytes cc : ByteArray} {maxL nL mc ms n index : Nat} {ret : Option FieldType} {hh : List (Nat × Nat × Nat × Nat)} {ws : List Cond} {rm : Room} {Pc : Array Value → State → Prop} {Qc : Array Value → State → Outcome → State → Prop} {free : Addr → Prop} {Ts : List Cond} {own C : String} {b : Addr} {As rest : List Value} {g : JFrame}
    (S : CallFix p m c cc nL s args Ts own) (hM : Met l y ws rm Pc Qc mc ms free) (cw : vx_CVW R s args own C index y bytes maxL ret hh ws rm mc ms n) (hp : PreV s H C b Pc As)
    (hg : g.method = m) (hn : As.length = n) (hsize : g.locals.size = nL) (hstack : g.stack = As.reverse ++ .ref b :: rest) (hW : 2 * g.monitorRoom + (rest.map fun v => v.category).sum ≤ 8) (hdg : decode cc g.pc = .ok (.invokevirtual index, 3)) (hf : cells + mc ≤ R.cells ∧ slots + ms ≤ R.slots) :
    va_Run p l e R s m args below meth c H locs cells slots mc ms g rest (Qc (Value.ref b :: As).toArray) free := by
  obtain ⟨⟨hrc, hrs, hfr, hlo, hws, hcw⟩, hcode, hini, hy, hlen, hl, hin, hse⟩ := cw
  have hK : Back l R p e below s args y 3 8 (PreOf R mc ms Pc) (PostOf Qc mc ms free) := va_backW (hh := hh) (bytes := bytes) (maxL := maxL) (ret := ret) hM hp.1 hrc hrs hfr hlo hws hcw (fun a' U hW => word_at hW (Or.inl (by first | rfl | simp [Cond.onTables, Cond.keeps, Cond.steady])) hini)
  obtain ⟨hx, hb, hml, ho, -⟩ := S
  obtain ⟨-, ⟨cellB, hcB, hoB, hclB⟩, hPc⟩ := hp
  intro T hT X
  obtain ⟨v, vm₁, ⟨U', l2, c2, s2⟩, hW₁, X', ⟨g', mk, t, L, e1, e2, hq, h1, hL, h2, h3⟩, st⟩ := vx_callVW X hx (C := C) (hh := hh) (bytes := bytes) (maxL := maxL) (ret := ret) ho hl hin hse hcode hy hK (by rw [hT]; exact hcB) hoB hclB hg (hsize.trans hml.symm) (argsL := As) (rest := rest) (fun sig h => hn.trans (hlen sig h)) hstack hW (by rw [hb]; exact hdg)
    (fun vm₁ hW₁ => ⟨hf.1, hf.2, hPc (T.setVm vm₁) hT hW₁⟩)
  dsimp only [Pt.U, Pt.locs, Pt.cells, Pt.slots] at X' e1 e2 h1 h2 h3 st
  subst h1; subst h2; subst h3
  exact ⟨v, (T.setVm vm₁).calling g' mk (Value.ref b :: As).toArray, t, U', L, hT, X', hL, e1, e2, hq, st⟩
section
variable {y : MethodName} {bytes cc : ByteArray} {maxL nL mc ms n index : Nat} {ret : Option FieldType} {ws : List Cond} {rm : Room} {Pc : Array Value → State → Prop} {Qc : Array Value → State → Outcome → State → Prop} {XC : String → State → State → Prop} {free : Addr → Prop} {Ts : List Cond} {own C : String} {b : Addr} {As rest : List Value} {g : JFrame}
theorem vx_runVX {hh : List (Nat × Nat × Nat × Nat)} (S : CallFix p m c cc nL s args Ts own) (hM : vx_Met l y ws rm Pc Qc XC mc ms free) (cw : vx_CVW R s args own C index y bytes maxL ret hh ws rm mc ms n) (hp : PreV s H C b Pc As)
    (hg : g.method = m) (hn : As.length = n) (hsize : g.locals.size = nL) (hstack : g.stack = As.reverse ++ .ref b :: rest) (hW : 2 * g.monitorRoom + (rest.map fun v => v.category).sum ≤ 8) (hdg : decode cc g.pc = .ok (.invokevirtual index, 3)) (hf : cells + mc ≤ R.cells ∧ slots + ms ≤ R.slots) :
    vx_Run p l e R s m args below meth c H locs cells slots mc ms g rest (Qc (Value.ref b :: As).toArray) XC free := by
  obtain ⟨⟨hrc, hrs, hfr, hlo, hws, hcw⟩, hcode, hini, hy, hlen, hl, hin, hse⟩ := cw
  have hK : vx_Back l R p e below s args y 3 8 (PreOf R mc ms Pc) (PostOf Qc mc ms free) (vx_Post XC mc ms free) := vx_backW (hh := hh) (bytes := bytes) (maxL := maxL) (ret := ret) hM hp.1 hrc hrs hfr hlo hws hcw (fun a' U hW => word_at hW (Or.inl (by first | rfl | simp [Cond.onTables, Cond.keeps, Cond.steady])) hini)
  obtain ⟨hx, hb, hml, ho, -⟩ := S
  obtain ⟨-, ⟨cellB, hcB, hoB, hclB⟩, hPc⟩ := hp
  intro T hT X
  rcases vx_callVX X hx (C := C) (hh := hh) (bytes := bytes) (maxL := maxL) (ret := ret) ho hl hin hse hcode hy hK (by rw [hT]; exact hcB) hoB hclB hg (hsize.trans hml.symm) (argsL := As) (rest := rest) (fun sig h => hn.trans (hlen sig h)) hstack hW (by rw [hb]; exact hdg)
    (fun vm₁ hW₁ => ⟨hf.1, hf.2, hPc (T.setVm vm₁) hT hW₁⟩) with ⟨v, vm₁, ⟨U', l2, c2, s2⟩, hW₁, X', ⟨g', mk, t, L, e1, e2, hq, h1, hL, h2, h3⟩, st⟩ | ⟨q, vm₁, ⟨U', l2, c2, s2⟩, hW₁, X', ⟨g', mk, t, L, E, ce, e1, e2, hq, hce, hcv, hcl, h1, hL, h2, h3⟩, st⟩
  · dsimp only [Pt.U, Pt.locs, Pt.cells, Pt.slots] at X' e1 e2 h1 h2 h3 st
    subst h1; subst h2; subst h3
    exact Or.inl ⟨v, (T.setVm vm₁).calling g' mk (Value.ref b :: As).toArray, t, U', L, hT, X', hL, e1, e2, hq, st⟩
  · dsimp only [Pt.U, Pt.locs, Pt.cells, Pt.slots] at X' e1 e2 h1 h2 h3 st hcl
    subst h1; subst h2; subst h3
    exact Or.inr ⟨q, (T.setVm vm₁).calling g' mk (Value.ref b :: As).toArray, t, U', L, E, ce, hT, X', hL, e1, e2, hq, hce, hcv, vx_cls hW₁ hcl, st⟩
theorem vx_runSX {hh : List (Nat × Nat × Nat × Nat)} (S : CallFix p m c cc nL s args Ts own) (hM : vx_Met l y ws rm Pc Qc XC mc ms free) (cw : vx_CSW R s args own index y bytes maxL ret hh ws rm mc ms n) (hp : PreS s H Pc As)
    (hg : g.method = m) (hn : As.length = n) (hsize : g.locals.size = nL) (hstack : g.stack = As.reverse ++ rest) (hW : 2 * g.monitorRoom + (rest.map fun v => v.category).sum ≤ 8) (hdg : decode cc g.pc = .ok (.invokestatic index, 3)) (hf : cells + mc ≤ R.cells ∧ slots + ms ≤ R.slots) :
    vx_Run p l e R s m args below meth c H locs cells slots mc ms g rest (Qc As.toArray) XC free := by
  obtain ⟨⟨hrc, hrs, hfr, hlo, hws, hcw⟩, hcode, hini, hy, hlen, hl, hstt⟩ := cw
  have hK : vx_Back l R p e below s args y 3 8 (PreOf R mc ms Pc) (PostOf Qc mc ms free) (vx_Post XC mc ms free) := vx_backW (hh := hh) (bytes := bytes) (maxL := maxL) (ret := ret) hM hp.1 hrc hrs hfr hlo hws hcw (fun a' U hW => word_at hW (Or.inl (by first | rfl | simp [Cond.onTables, Cond.keeps, Cond.steady])) hini)
  obtain ⟨hx, hb, hml, ho, -⟩ := S
  intro T hT X
  rcases vx_callSX X hx (hh := hh) (bytes := bytes) (maxL := maxL) (ret := ret) ho hl hstt hini hcode hy hK hg (hsize.trans hml.symm) (argsL := As) (rest := rest) (fun sig h => hn.trans (hlen sig h)) hstack hW (by rw [hb]; exact hdg)
    (fun vm₁ hW₁ => ⟨hf.1, hf.2, hp.2 (T.setVm vm₁) hT hW₁⟩) with ⟨v, vm₁, ⟨U', l2, c2, s2⟩, hW₁, X', ⟨g', mk, t, L, e1, e2, hq, h1, hL, h2, h3⟩, st⟩ | ⟨q, vm₁, ⟨U', l2, c2, s2⟩, hW₁, X', ⟨g', mk, t, L, E, ce, e1, e2, hq, hce, hcv, hcl, h1, hL, h2, h3⟩, st⟩
  · dsimp only [Pt.U, Pt.locs, Pt.cells, Pt.slots] at X' e1 e2 h1 h2 h3 st
    subst h1; subst h2; subst h3
    exact Or.inl ⟨v, (T.setVm vm₁).calling g' mk As.toArray, t, U', L, hT, X', hL, e1, e2, hq, st⟩
  · dsimp only [Pt.U, Pt.locs, Pt.cells, Pt.slots] at X' e1 e2 h1 h2 h3 st hcl
    subst h1; subst h2; subst h3
    exact Or.inr ⟨q, (T.setVm vm₁).calling g' mk As.toArray, t, U', L, E, ce, hT, X', hL, e1, e2, hq, hce, hcv, vx_cls hW₁ hcl, st⟩
end
end VXH
theorem vx_ofWH {l : Launch} {y : MethodName} {ws ws' : List Cond} {rm : Room} {Pc : Array Value → State → Prop} {Qc : Array Value → State → Outcome → State → Prop} {XC : String → State → State → Prop} {mc ms : Nat} {free : Addr → Prop} {cc : ByteArray} {maxL : Nat} {ret : Option FieldType} {hh : List (Nat × Nat × Nat × Nat)}
    (hy : plainName y.cls = true) (hw : ws = Cond.codeWith y cc maxL ret hh :: ws')
    (body : ∀ p e s m args below meth c s₁, BodyLoose p l y (headSpec ws rm) cc maxL ret e s m args below meth c s₁ → c.maxLocals = maxL → Pc args s →
      W p l e (headSpec ws rm).room s m args below meth c s.heap [] 0 0 (vx_MQ below Qc XC args s mc ms free) (entryFrame m args maxL)) : vx_Met l y ws rm Pc Qc XC mc ms free := by
  refine MetFree.of_bodyS (code := cc) (maxLocals := maxL) (ret := ret) hy ?_ ?_
  · intro args s m h hn
    obtain ⟨m9, meth, c, hn9, h1, h2, h3, h4, -, h5, h6, -⟩ := Cond.codeWith_spec (atoms_spec (ws := ws) h _ (by rw [hw]; exact List.mem_cons_self))
    cases hn.symm.trans hn9
    exact ⟨meth, c, h1, h2, h3, h4, h5, h6⟩
  · intro p e s m args below meth c s₁ B hml hP _
    have hh0 : s₁.heap = s.heap := by rw [B.state]; rfl
    obtain ⟨t, a1, o, b1, b2, b3⟩ := body p e s m args below meth c s₁ B hml hP s₁ hh0 (Stand.of_body B)
    exact ⟨t, o, a1, b1, b2, b3⟩
/-! ===== END ===== -/
/-! ===== BEGIN what the machine throws by itself, no traces kept ===== -/
section VXM
set_option maxHeartbeats 1000000 in
/-- the machine throws cls with the message text, no traces kept: from its note over the frame g to 'throwing' over the same frame (follows the proofs of Stand.vmThrowsMessage, Shelf/KitTracedVmS.lean, and Stand.throwsMessageColdBareV, StandMessageColdV.lean, without the step out of the frame) -/
theorem vx_vmAt {p : Program} {l : Launch} {e : Env} {R : Room} {s : State} {m₀ : MethodId} {args : Array Value} {below : List Frame} {meth : Method} {c : Code} {W : State} {locs : List Loc} {cells slots : Nat}
    (X : Stand p l e R s m₀ args below meth c W locs cells slots) (hexec : p.tables.exec = Jvm.exec) (htr : e.platform.stackTraces = false) {cls : String} {names : List String} {text : String}
    (hcls : Bundle.fit cls = true) (hnames : ∀ n ∈ names, Bundle.fit n = true) (hsoe : (cls == "java/lang/StackOverflowError") = false) (hoom : (cls == "java/lang/OutOfMemoryError") = false)
    (h : ∀ a ∈ Bundle.messageArmAtoms cls names, a.before args s = true)
    (hlocs : ∀ x ∈ locs, ∀ cell, s.heap[x.base]? = some cell → cell.vm.isStatics = false)
    (htext : (text == notModelled) = false) (hlimit : ¬ (stringBytes (stringToUtf16 text)).size > e.platform.arrayLengthLimit) (hheap : ¬ (stringBytes (stringToUtf16 text)).size * componentBytes .byte > e.platform.maxHeapBytes)
    {g : JFrame} (hg : g.method = m₀) (hsize : g.locals.size = c.maxLocals)
    (hRframes : names.length + 4 < R.frames) (hRlocals : 2 * g.monitorRoom + (g.stack.map fun v => v.category).sum + 10240 ≤ R.locals) (hshort : 13 * names.length + 55 ≤ 10240)
    (hRcells : cells + 3 ≤ R.cells) (hRslots : slots + ((stringBytes (stringToUtf16 text)).size + 4 + 6) ≤ R.slots) (hlocks : meth.locks = false) :
    ∃ (S : State) (q : Addr) (ce : Cell), (∀ target, Steps p.tables e below ((S.setTop g).pushFrame (.throwing q)) target → Steps p.tables e below ((W.setTop g).pushFrame (.throwNew cls (some text) none)) target) ∧
      Stand p l e R s m₀ args below meth c S locs (cells + 3) (slots + ((stringBytes (stringToUtf16 text)).size + 4 + 6)) ∧ S.heap[q]? = some ce ∧ s.vm.findClass cls = some ce.cls ∧ ce.vm = .none := by
  have howns : e.platform.frameOwnsMonitors = true := by rw [X.admits.platform]
  have hfin : e.platform.finalization = false := by rw [X.admits.platform]
  have hpl : e.platform.magicAccessors = ({} : Platform).magicAccessors := by rw [X.admits.platform]
  have a : ∀ x, x ∈ Bundle.messageArmAtoms cls names → x.holds args s none s [] = true := fun x hx => h x hx
  obtain ⟨T, Z0, L, -, Y⟩ := ThrowableC.of_atoms (args := args) howns hfin hpl (fun x hx => h x (by simp [Bundle.messageArmAtoms, hx]))
  obtain ⟨Z, M, LZ, LM, hnZ⟩ := Init0T.ofS_atoms (args := args) hpl L Y (fun x hx => h x (by simp [Bundle.messageArmAtoms, hx]))
  obtain ⟨P1, Ps, hlen, L1, hL, hP1m, hlink1, hlink⟩ := Bundle.chainS (args := args) hpl hnZ names cls hcls hnames (fun x hx => h x (by simp [Bundle.messageArmAtoms, hx]))
  obtain ⟨Zs, LZs, hn4, hfitv, hfitc⟩ := StringT.of_atoms (args := args) (fun x hx => h x (by simp [Bundle.messageArmAtoms, hx]))
  have hfound : s.vm.findClass cls = some P1.m.cls := findClass_of_methodNamed hP1m
  obtain ⟨c1, kX, hc1, hk, hord, -, -, hn6⟩ := Cond.instantiable_spec (a (.instantiable cls 6) (by simp [Bundle.messageArmAtoms]))
  cases Option.some.inj (hc1.symm.trans hfound)
  have hinit := Cond.initialized_spec hfound hk (a (.initialized cls) (by simp [Bundle.messageArmAtoms]))
  have hctor : kX.findMethod "<init>" "(Ljava/lang/String;)V" = some P1.m.idx := findMethod_of_methodNamed hP1m hk
  have hsel0 : selectMethod e.platform s.vm P1.m.cls T.fill0 = .method T.fill0 := by
    obtain ⟨c2, r2, m2, q1, q2, q3, q4, -⟩ := Cond.selects_spec (a (.selects cls Bundle.tFill0 Bundle.tFill0) (by simp [Bundle.messageArmAtoms]))
    cases Option.some.inj (q1.symm.trans hfound)
    cases Option.some.inj (q2.symm.trans (State.methodFound?_of_named Y.fill0 (by decide)))
    cases Option.some.inj (q3.symm.trans Y.fill0)
    rw [Launch.admits_selectMethod X.admits]; exact q4
  have hselF : selectMethod e.platform s.vm P1.m.cls T.fill = .method T.fill := by
    obtain ⟨c2, r2, m2, q1, q2, q3, q4, -⟩ := Cond.selects_spec (a (.selects cls Bundle.tFill Bundle.tFill) (by simp [Bundle.messageArmAtoms]))
    cases Option.some.inj (q1.symm.trans hfound)
    cases Option.some.inj (q2.symm.trans (State.methodFound?_of_named Y.fill (by decide)))
    cases Option.some.inj (q3.symm.trans Y.fill)
    rw [Launch.admits_selectMethod X.admits]; exact q4
  obtain ⟨cellS0, hcS0, hiss⟩ := Y.statics
  obtain ⟨u0, hu0⟩ := Cond.staticRefV Y.unassigned L.unassignedStatic L.statics hcS0 hiss (a (.isRef (.static Bundle.tN "UNASSIGNED_STACK" Bundle.steD)) (by simp [Bundle.messageArmAtoms]))
  obtain ⟨sen, hsen⟩ := Cond.staticRefV Y.sentinel L.sentinelStatic L.statics hcS0 hiss (a (.isRef (.static Bundle.tN "SUPPRESSED_SENTINEL" Bundle.listD)) (by simp [Bundle.messageArmAtoms]))
  obtain ⟨ci198, i198, fB, hk198, hg198, ha198, hsB, -, hnB, htB, hffB⟩ := Cond.ownField (t := .object "java/lang/Object") Y.found L.cls (by decide +kernel) (a (.fieldLink Bundle.tN 198 Bundle.tN "backtrace" "Ljava/lang/Object;") (by simp [Bundle.messageArmAtoms])) (a (.lays Bundle.tN Bundle.tN "backtrace" "Ljava/lang/Object;") (by simp [Bundle.messageArmAtoms])) e.platform hpl
  obtain ⟨cellS, hcS', heS, -, hkeep⟩ := X.same.2.2.2.2.2 T.aS cellS0 hcS0
  have hcellS : W.heap[T.aS]? = some cellS := hcS'
  have hout' : ∀ i, (⟨T.aS, i⟩ : Loc) ∉ locs := fun i hmem => by
    have := hlocs _ hmem cellS0 hcS0
    rw [hiss] at this; cases this
  have hknownS : cellS.vm ≠ .unknown := by
    rw [heS]; intro hu
    rw [show cellS0.vm = .unknown from hu] at hiss
    cases hiss
  have hvU : cellS.slots[T.fUnassigned.slot]? = some u0.v := by rw [hkeep _ (hout' _)]; exact hu0
  have hvSen : cellS.slots[T.fSentinel.slot]? = some sen.v := by rw [hkeep _ (hout' _)]; exact hsen
  obtain ⟨iM, hffM⟩ := Y.msg
  obtain ⟨tyC, dC, hdC, hdnC⟩ := Cond.laysAt hfound hk Y.cause (a (.lays cls Bundle.tN "cause" "Ljava/lang/Throwable;") (by simp [Bundle.messageArmAtoms]))
  obtain ⟨tyS, dS, hdS, hdnS⟩ := Cond.laysAt hfound hk Y.stack (a (.lays cls Bundle.tN "stackTrace" Bundle.steD) (by simp [Bundle.messageArmAtoms]))
  obtain ⟨tyP, dP, hdP, hdnP⟩ := Cond.laysAt hfound hk Y.supp (a (.lays cls Bundle.tN "suppressedExceptions" Bundle.listD) (by simp [Bundle.messageArmAtoms]))
  obtain ⟨tyM, dM, hdM, hdnM⟩ := Cond.laysAt hfound hk hffM (a (.lays cls Bundle.tN "detailMessage" "Ljava/lang/String;") (by simp [Bundle.messageArmAtoms]))
  obtain ⟨tyB, dB, hdB, hdnB⟩ := Cond.laysAt hfound hk hffB (a (.lays cls Bundle.tN "backtrace" "Ljava/lang/Object;") (by simp [Bundle.messageArmAtoms]))
  have bC := Cond.laysApart hdB hdC hdnB hdnC (by rw [hnB, Y.causeName]; decide)
  have bS := Cond.laysApart hdB hdS hdnB hdnS (by rw [hnB, Y.stackName]; decide)
  have bP := Cond.laysApart hdB hdP hdnB hdnP (by rw [hnB, Y.suppName]; decide)
  have hbk : ((preparedCellV T.toThrowableT (freshCell P1.m.cls kX) (W.heap.size + 2) u0 sen).withEntry W.cur).slots[fB.slot]? = some .null := by
    have := fresh_default (c := P1.m.cls) tyB
    rw [htB] at this
    simpa [preparedCellV, Cell.setSlot, Cell.withEntry, Array.getElem?_setIfInBounds, bC, bS, bP, bC.symm, bS.symm, bP.symm, defaultValue] using this
  have tkC := Takes.of_laid (v := .ref (W.heap.size + 2)) hk hord tyC (by rw [Y.causeType]; rfl)
  have tkS := Takes.of_laid (v := u0.v) hk hord tyS (by rw [Y.stackType]; exact fits_refV_array _ u0)
  have tkP := Takes.of_laid (v := sen.v) hk hord tyP (by rw [Y.suppType]; exact fits_refV_object _ sen)
  have tkM := Takes.of_laid (v := .ref (W.heap.size + 1)) hk hord tyM (by rw [Y.msgType]; rfl)
  have hskip : SkipFacts T e.platform s (fun u => u) u0 ((preparedCellV T.toThrowableT (freshCell P1.m.cls kX) (W.heap.size + 2) u0 sen).withEntry W.cur) := ⟨{ ci198 := ci198, i198 := i198, fBack := fB }, ⟨hk198, hg198, ha198, hsB⟩, hbk, fun _ _ => rfl⟩
  have h0 : At W g.method c below := by rw [hg]; exact X.here
  obtain ⟨hbeyond, hfreeW⟩ := X.vmMayThrow hsize (.throwNew cls (some text) none) (fun f hf => by cases hf) rfl hRlocals
  have hfr' : W.frames.length + Ps.length + 4 < (e.platform.stackLimits W.me).1 := by have := X.framesAbove hRframes; omega
  have hwd' : (stackUse (.java g :: W.frames.tail)).2 + 13 * Ps.length + 55 ≤ (e.platform.stackLimits W.me).2 := by have := X.stackAbove hsize (K := 13 * Ps.length + 55) (by omega); omega
  have hslots : W.slotsUsed + (stringBytes (stringToUtf16 text)).size + Zs.kS.instanceTypes.size + kX.instanceTypes.size ≤ e.platform.maxSlots := by
    have := X.slotsAbove hRslots
    rw [hn4, hn6]
    omega
  obtain ⟨vm', hW', st⟩ := Steps.vmThrowsMessageColdByV p (s₀ := s) (S := W) (g := g) h0 hexec T L Z LZ M LM X.warmed (t := W.cur) rfl Zs LZs P1 L1 Ps hL hlink1 hlink hsoe hoom hfound hk hinit hord hctor
    (Launch.admits_hotImplicitExceptions X.admits) hbeyond hfreeW htext hlimit hheap (X.cellsAbove hRcells) hslots (hfitv _) (hfitc _)
    (Nn := fun u => u) heapOnly_id (fun _ _ => rfl) (fun _ => rfl) (fun u x y => setCell_twice _ _ _ _) (fun _ => Nat.le_refl _) (cN := ((preparedCellV T.toThrowableT (freshCell P1.m.cls kX) (W.heap.size + 2) u0 sen).withEntry W.cur))
    hsel0 hcellS hknownS hvU tkS (fun _ hu => hu) (fun _ hu => hu) rfl rfl rfl (by simp [preparedCellV, Cell.setSlot, Cell.withEntry]) hskip (fun _ _ hA hW _ hroom _ hrest => L.nativeOff p htr hA hW hroom hrest) hselF hvSen tkC tkP tkM Y.objLocals rfl hfr' hwd'
  rw [plainBareV_eq T.toThrowableT (W.heap.size + 2) u0 sen (.ref (W.heap.size + 1)) W.cur rfl rfl] at st
  obtain ⟨-, -, w3, w4, -, -, -⟩ := withThrown_facts e.platform W Zs text P1.m.cls kX
  have X3 := ((X.pushed (bytesOf Zs.cB (stringToUtf16 text))).pushed (stringAt Zs.cS Zs.kS Zs.fv Zs.fc (stringToUtf16 text) W.heap.size)).pushed (freshCell P1.m.cls kX)
  rw [← withString_eq] at X3
  have X4 := X3.noted hW'
  have ha : (W.heap.size + 2) < ((withThrown W Zs text P1.m.cls kX).setVm vm').heap.size := by show _ < (withThrown W Zs text P1.m.cls kX).heap.size; rw [w3]; omega
  have hcell : ((withThrown W Zs text P1.m.cls kX).setVm vm').heap[(W.heap.size + 2)]? = some (freshCell P1.m.cls kX) := w4
  have X5 := ((((X4.stored hcell T.fCause.slot (.ref (W.heap.size + 2))).storedAgain ha T.fStack.slot u0.v).storedAgain ha T.fSupp.slot sen.v).storedAgain ha T.fStack.slot u0.v).storedAgain ha T.fMsg.slot (.ref (W.heap.size + 1))
  obtain ⟨g₁, hfrM⟩ := X5.frames_eq
  have hU : ((((withThrown W Zs text P1.m.cls kX).setVm vm').setCell (W.heap.size + 2) (plainBareV T.toThrowableT (freshCell P1.m.cls kX) (W.heap.size + 2) u0 sen (.ref (W.heap.size + 1)))).setTop g).pushFrame (.throwing (W.heap.size + 2)) = (((withThrown W Zs text P1.m.cls kX).setVm vm').setCell (W.heap.size + 2) (plainBareV T.toThrowableT (freshCell P1.m.cls kX) (W.heap.size + 2) u0 sen (.ref (W.heap.size + 1)))).setFrames (.throwing (W.heap.size + 2) :: .java g :: below) := by
    rw [State.pushFrame, State.frames_setTop _ hfrM, State.setTop_of_frames _ hfrM, State.setFrames_setFrames]
  have b1 : (bytesOf Zs.cB (stringToUtf16 text)).slots.size = (stringBytes (stringToUtf16 text)).size := by
    rw [(Cell.writeAll_facts _ _).2.2]; simp [bytes0]
  have b2 : (stringAt Zs.cS Zs.kS Zs.fv Zs.fc (stringToUtf16 text) W.heap.size).slots.size = 4 := by simp [string0, Cell.setSlot, hn4]
  have b3 : (freshCell P1.m.cls kX).slots.size = 6 := by simp [hn6]
  rw [b1, b2, b3] at X5
  have e9 : slots + (stringBytes (stringToUtf16 text)).size + 4 + 6 = slots + ((stringBytes (stringToUtf16 text)).size + 4 + 6) := by omega
  rw [e9] at X5
  simp only [List.append_assoc, List.cons_append, List.nil_append] at X5
  refine ⟨((withThrown W Zs text P1.m.cls kX).setVm vm').setCell (W.heap.size + 2) (plainBareV T.toThrowableT (freshCell P1.m.cls kX) (W.heap.size + 2) u0 sen (.ref (W.heap.size + 1))), W.heap.size + 2, _, fun target ht => st _ (by rw [X.tail, ← hU]; exact ht),
    X5.forget (fun y hy => ?_), heapAt_setCell_self _ ha, hfound, rfl⟩
  simp only [List.mem_cons, List.not_mem_nil, or_false] at hy
  have hge : s.heap.size ≤ W.heap.size := X.same.2.1
  rcases hy with rfl | rfl | rfl | rfl | rfl <;> exact Nat.le_trans hge (Nat.le_add_right _ 2)
set_option maxHeartbeats 1000000 in
/-- the machine throws NullPointerException, no traces kept: from its note over the frame g to 'throwing' over the same frame (follows the proof of Stand.vmThrowsNpe, Shelf42/KT2.lean; throwsNpeColdBareVAt, Shelf42/NT91.lean, called) -/
theorem vx_npeAt {p : Program} {l : Launch} {e : Env} {R : Room} {s : State} {m₀ : MethodId} {args : Array Value} {below : List Frame} {meth : Method} {c : Code} {W : State} {locs : List Loc} {cells slots : Nat}
    (X : Stand p l e R s m₀ args below meth c W locs cells slots) (hexec : p.tables.exec = Jvm.exec) (htr : e.platform.stackTraces = false) {n : Nat}
    (h : ∀ a ∈ Bundle.npeArmAtoms n, a.before args s = true)
    (hlocs : ∀ x ∈ locs, ∀ cell, s.heap[x.base]? = some cell → cell.vm.isStatics = false)
    {g : JFrame} (hg : g.method = m₀) (hsize : g.locals.size = c.maxLocals)
    (hRframes : 7 < R.frames) (hRlocals : 2 * g.monitorRoom + (g.stack.map fun v => v.category).sum + 10240 ≤ R.locals)
    (hRcells : cells + 1 ≤ R.cells) (hRslots : slots + n ≤ R.slots) (hlocks : meth.locks = false) :
    ∃ (S : State) (q : Addr) (ce : Cell), (∀ target, Steps p.tables e below ((S.setTop g).pushFrame (.throwing q)) target → Steps p.tables e below ((W.setTop g).pushFrame (.throwNew "java/lang/NullPointerException" none none)) target) ∧
      Stand p l e R s m₀ args below meth c S locs (cells + 1) (slots + n) ∧ S.heap[q]? = some ce ∧ s.vm.findClass "java/lang/NullPointerException" = some ce.cls ∧ ce.vm = .none := by
  have howns : e.platform.frameOwnsMonitors = true := by rw [X.admits.platform]
  have hfin : e.platform.finalization = false := by rw [X.admits.platform]
  have hpl : e.platform.magicAccessors = ({} : Platform).magicAccessors := by rw [X.admits.platform]
  have hpl2 : e.platform.arrayCloneIsPublic = true := by rw [X.admits.platform]
  have a' : ∀ x, x ∈ Bundle.npeArmAtoms n → x.holds args s none s [] = true := fun x hx => h x hx
  obtain ⟨T, Z, L, LZ, Y⟩ := ThrowableC.of_atoms (args := args) howns hfin hpl (fun x hx => h x (by simp [Bundle.npeArmAtoms, hx]))
  obtain ⟨N, LN, hcN, hnNF, hordN, hffS⟩ := NpeC.of_atoms (args := args) hpl hpl2 L Y (fun x hx => h x (by simp [Bundle.npeArmAtoms, hx]))
  obtain ⟨P1, L1, hP1m, hP1s⟩ := PassC.of_atoms (args := args) (s := s) hpl (X := Bundle.nN) (Y := Bundle.rN) (by decide) (by decide) LibCode.NullPointerException.Init0.at_0 LibCode.NullPointerException.Init0.at_1 LibCode.NullPointerException.Init0.at_4 (fun x hx => h x (by simp [Bundle.npeArmAtoms, hx]))
  obtain ⟨PR, LR, hPRm, hPRs⟩ := PassC.of_atoms (args := args) (s := s) hpl (X := Bundle.rN) (Y := Bundle.eN) (by decide) (by decide) LibCode.RuntimeException.Init0.at_0 LibCode.RuntimeException.Init0.at_1 LibCode.RuntimeException.Init0.at_4 (fun x hx => h x (by simp [Bundle.npeArmAtoms, hx]))
  obtain ⟨PE, LEx, hPEm, hPEs⟩ := PassC.of_atoms (args := args) (s := s) hpl (X := Bundle.eN) (Y := Bundle.tN) (by decide) (by decide) LibCode.Exception.Init0.at_0 LibCode.Exception.Init0.at_1 LibCode.Exception.Init0.at_4 (fun x hx => h x (by simp [Bundle.npeArmAtoms, hx]))
  have hfound : s.vm.findClass Bundle.nN = some P1.m.cls := findClass_of_methodNamed hP1m
  have ecls : N.cN = P1.m.cls := Option.some.inj (hcN.symm.trans hfound)
  have hk : s.vm.classes[P1.m.cls]? = some N.kN := by rw [← ecls]; exact LN.cls
  have hinit := Cond.initialized_spec hfound hk (a' (.initialized Bundle.nN) (by simp [Bundle.npeArmAtoms]))
  have hctor : N.kN.findMethod "<init>" "()V" = some P1.m.idx := findMethod_of_methodNamed hP1m hk
  obtain ⟨c1, k1, hc1, hk1, -, -, -, hn⟩ := Cond.instantiable_spec (a' (.instantiable Bundle.nN n) (by simp [Bundle.npeArmAtoms]))
  cases Option.some.inj (hc1.symm.trans hfound)
  cases Option.some.inj (hk1.symm.trans hk)
  have hfsz : (freshCell P1.m.cls N.kN).slots.size = n := by simp [hn]
  have hlink1 : P1.sup = PR.m := Option.some.inj (hP1s.symm.trans hPRm)
  have hlinkR : PR.sup = PE.m := Option.some.inj (hPRs.symm.trans hPEm)
  have hlinkE : PE.sup = Z.m T.toThrowableT := Option.some.inj (hPEs.symm.trans Y.init0)
  have hLs : ∀ P, P ∈ [PR, PE] → P.Links0 e.platform s := fun P hP => by
    simp only [List.mem_cons, List.not_mem_nil, or_false] at hP
    rcases hP with rfl | rfl
    · exact LR
    · exact LEx
  have hsel0 : selectMethod e.platform s.vm P1.m.cls T.fill0 = .method T.fill0 := by
    obtain ⟨c2, r2, m2, q1, q2, q3, q4, -⟩ := Cond.selects_spec (a' (.selects Bundle.nN Bundle.tFill0 Bundle.tFill0) (by simp [Bundle.npeArmAtoms]))
    cases Option.some.inj (q1.symm.trans hfound)
    cases Option.some.inj (q2.symm.trans (State.methodFound?_of_named Y.fill0 (by decide)))
    cases Option.some.inj (q3.symm.trans Y.fill0)
    rw [Launch.admits_selectMethod X.admits]; exact q4
  have hselF : selectMethod e.platform s.vm P1.m.cls T.fill = .method N.fill := by
    obtain ⟨c2, r2, m2, q1, q2, q3, q4, -⟩ := Cond.selects_spec (a' (.selects Bundle.nN Bundle.tFill Bundle.nFill) (by simp [Bundle.npeArmAtoms]))
    cases Option.some.inj (q1.symm.trans hfound)
    cases Option.some.inj (q2.symm.trans (State.methodFound?_of_named Y.fill (by decide)))
    cases Option.some.inj (q3.symm.trans hnNF)
    rw [Launch.admits_selectMethod X.admits]; exact q4
  obtain ⟨cellS0, hcS0, hiss⟩ := Y.statics
  obtain ⟨u0, hu0⟩ := Cond.staticRefV Y.unassigned L.unassignedStatic L.statics hcS0 hiss (a' (.isRef (.static Bundle.tN "UNASSIGNED_STACK" Bundle.steD)) (by simp [Bundle.npeArmAtoms]))
  obtain ⟨sen, hsen⟩ := Cond.staticRefV Y.sentinel L.sentinelStatic L.statics hcS0 hiss (a' (.isRef (.static Bundle.tN "SUPPRESSED_SENTINEL" Bundle.listD)) (by simp [Bundle.npeArmAtoms]))
  obtain ⟨ci198, i198, fB, hk198, hg198, ha198, hsB, -, hnB, htB, hffB⟩ := Cond.ownField (t := .object "java/lang/Object") Y.found L.cls (by decide +kernel) (a' (.fieldLink Bundle.tN 198 Bundle.tN "backtrace" Bundle.objD) (by simp [Bundle.npeArmAtoms])) (a' (.lays Bundle.tN Bundle.tN "backtrace" Bundle.objD) (by simp [Bundle.npeArmAtoms])) e.platform hpl
  obtain ⟨cellS, hcS', heS, -, hkeep⟩ := X.same.2.2.2.2.2 T.aS cellS0 hcS0
  have hcellS : W.heap[T.aS]? = some cellS := hcS'
  have hout' : ∀ i, (⟨T.aS, i⟩ : Loc) ∉ locs := fun i hmem => by
    have := hlocs _ hmem cellS0 hcS0
    rw [hiss] at this; cases this
  have hknownS : cellS.vm ≠ .unknown := by
    rw [heS]; intro hu
    rw [show cellS0.vm = .unknown from hu] at hiss
    cases hiss
  have hvU : cellS.slots[T.fUnassigned.slot]? = some u0.v := by rw [hkeep _ (hout' _)]; exact hu0
  have hvSen : cellS.slots[T.fSentinel.slot]? = some sen.v := by rw [hkeep _ (hout' _)]; exact hsen
  obtain ⟨tyC, dC, hdC, hdnC⟩ := Cond.laysAt hfound hk Y.cause (a' (.lays Bundle.nN Bundle.tN "cause" "Ljava/lang/Throwable;") (by simp [Bundle.npeArmAtoms]))
  obtain ⟨tyS, dS, hdS, hdnS⟩ := Cond.laysAt hfound hk Y.stack (a' (.lays Bundle.nN Bundle.tN "stackTrace" Bundle.steD) (by simp [Bundle.npeArmAtoms]))
  obtain ⟨tyP, dP, hdP, hdnP⟩ := Cond.laysAt hfound hk Y.supp (a' (.lays Bundle.nN Bundle.tN "suppressedExceptions" Bundle.listD) (by simp [Bundle.npeArmAtoms]))
  obtain ⟨tyX, dX, hdX, hdnX⟩ := Cond.laysAt hfound hk hffS (a' (.lays Bundle.nN Bundle.nN "extendedMessageState" "I") (by simp [Bundle.npeArmAtoms, Bundle.npeAtoms]))
  obtain ⟨hnX, htX⟩ := State.fieldFound?_type hffS (t := .int) (by decide +kernel)
  have xC := Cond.laysApart hdC hdX hdnC hdnX (by rw [hnX, Y.causeName]; decide)
  have xS := Cond.laysApart hdS hdX hdnS hdnX (by rw [hnX, Y.stackName]; decide)
  have xP := Cond.laysApart hdP hdX hdnP hdnX (by rw [hnX, Y.suppName]; decide)
  have hv0 : (freshCell P1.m.cls N.kN).slots[N.fState.slot]? = some (.int 0) := by
    have := fresh_default (c := P1.m.cls) tyX
    rw [htX] at this; exact this
  obtain ⟨tyB, dB, hdB, hdnB⟩ := Cond.laysAt hfound hk hffB (a' (.lays Bundle.nN Bundle.tN "backtrace" Bundle.objD) (by simp [Bundle.npeArmAtoms]))
  have bC := Cond.laysApart hdB hdC hdnB hdnC (by rw [hnB, Y.causeName]; decide)
  have bS := Cond.laysApart hdB hdS hdnB hdnS (by rw [hnB, Y.stackName]; decide)
  have bP := Cond.laysApart hdB hdP hdnB hdnP (by rw [hnB, Y.suppName]; decide)
  have bX := Cond.laysApart hdB hdX hdnB hdnX (by rw [hnB, hnX]; decide)
  have hbk : ((npeCell N.toNpeT (preparedCellV T.toThrowableT (freshCell P1.m.cls N.kN) W.heap.size u0 sen) W.cur).withEntry W.cur).slots[fB.slot]? = some .null := by
    have := fresh_default (c := P1.m.cls) tyB
    rw [htB] at this
    simpa [npeCell, preparedCellV, Cell.setSlot, Cell.withEntry, Array.getElem?_setIfInBounds, bC, bS, bP, bX, bC.symm, bS.symm, bP.symm, bX.symm, defaultValue] using this
  have tkC := Takes.of_laid (v := .ref W.heap.size) hk hordN tyC (by rw [Y.causeType]; rfl)
  have tkS := Takes.of_laid (v := u0.v) hk hordN tyS (by rw [Y.stackType]; exact fits_refV_array _ u0)
  have tkP := Takes.of_laid (v := sen.v) hk hordN tyP (by rw [Y.suppType]; exact fits_refV_object _ sen)
  have tkX := Takes.of_laid (v := .int 1) hk hordN tyX (by rw [htX]; rfl)
  have hskip : SkipFacts T e.platform s (fun u => u) u0 ((npeCell N.toNpeT (preparedCellV T.toThrowableT (freshCell P1.m.cls N.kN) W.heap.size u0 sen) W.cur).withEntry W.cur) := ⟨{ ci198 := ci198, i198 := i198, fBack := fB }, ⟨hk198, hg198, ha198, hsB⟩, hbk, fun _ _ => rfl⟩
  obtain ⟨vm', X3, st, -⟩ := X.throwsNpeColdBareVAt hexec hg hsize T L Z LZ N LN P1 L1 [PR, PE] hLs hlink1 ⟨hlinkR, hlinkE, trivial⟩ hfound hk hinit hordN hctor hsel0 hselF hcellS hknownS hvU hvSen
    hv0 xC xS xP tkC tkS tkP tkX Y.objLocals hskip (fun _ _ hA hW _ hroom _ hrest => L.nativeOff p htr hA hW hroom hrest) (by simpa using hRframes) hRlocals (by simp) hRcells (by rw [hn]; exact hRslots)
  have hlt : W.heap.size < ((W.pushCell (freshCell P1.m.cls N.kN)).setVm vm').heap.size := by
    show W.heap.size < (W.pushCell (freshCell P1.m.cls N.kN)).heap.size
    rw [State.heap_size_pushCell]; omega
  rw [hfsz] at X3
  obtain ⟨g₁, hfrM⟩ := X3.frames_eq
  have hU : ((((W.pushCell (freshCell P1.m.cls N.kN)).setVm vm').setCell W.heap.size (npeBareV T.toThrowableT N.toNpeT (freshCell P1.m.cls N.kN) W.heap.size u0 sen)).setTop g).pushFrame (.throwing W.heap.size) = (((W.pushCell (freshCell P1.m.cls N.kN)).setVm vm').setCell W.heap.size (npeBareV T.toThrowableT N.toNpeT (freshCell P1.m.cls N.kN) W.heap.size u0 sen)).setFrames (.throwing W.heap.size :: .java g :: below) := by
    rw [State.pushFrame, State.frames_setTop _ hfrM, State.setTop_of_frames _ hfrM, State.setFrames_setFrames]
  refine ⟨_, W.heap.size, _, fun target ht => st.trans (by rw [← hU]; exact ht), X3.forget (fun y hy => ?_), heapAt_setCell_self _ hlt, hfound, rfl⟩
  simp only [List.mem_cons, List.not_mem_nil, or_false] at hy
  have hge : s.heap.size ≤ W.heap.size := X.same.2.1
  rcases hy with rfl | rfl | rfl | rfl | rfl <;> exact hge
/-- the words of a machine's NullPointerException, but the four that speak of the heap -/
def vx_atN (n : Nat) : List Cond := (Bundle.npeArmAtoms n).filter vx_no
/-- the words of a machine's throw with a message, but the four that speak of the heap -/
def vx_atM (X : String) (names : List String) : List Cond := (Bundle.messageArmAtoms X names).filter vx_no
section
variable {p : Program} {l : Launch} {e : Env} {R : Room} {s : State} {m : MethodId} {args : Array Value} {below : List Frame} {meth : Method} {c : Code} {H : Heap} {locs : List Loc} {cells slots : Nat}
/-- a frame seen from a rebased start, seen from the first start again -/
theorem vx_back9 {T S : State} {R' : Room} {k n : Nat} (X : Stand p l e R s m args below meth c T locs cells slots) (Y : Stand p l e R' ((T.setVm s.vm).setFrames (.invoking m args :: below)) m args below meth c T [] 0 0) (Z : Stand p l e R' ((T.setVm s.vm).setFrames (.invoking m args :: below)) m args below meth c S [] k n) :
    Stand p l e R s m args below meth c S locs (cells + k) (slots + n) := by
  have hW0 : s.WarmedH ((T.setVm s.vm).setFrames (.invoking m args :: below)).vm := State.WarmedH.refl s
  refine { admits := X.admits, cas := X.cas, clock := X.clock, frames := X.frames, room := X.room, hears := X.hears, method := X.method, code := X.code, here := Z.here, tail := Z.tail, warmed := State.WarmedH.trans hW0 Z.warmed, limits := Z.limits.trans (Y.limits.symm.trans X.limits), bytes := Z.bytes.trans (Y.bytes.symm.trans X.bytes), same := ?_ }
  obtain ⟨e1, e2⟩ := Z.same
  rw [State.setFrames_setFrames] at e1
  have h2 : (T.setVm s.vm).sameButNew (S.setVm s.vm) [] k n := ⟨e1, e2⟩
  have h3 := X.same.trans h2
  rw [List.append_nil] at h3
  exact h3
/-- from the machine's note that E is thrown here with this text -/
def vx_Note (p : Program) (l : Launch) (e : Env) (R : Room) (s : State) (m : MethodId) (args : Array Value) (below : List Frame) (meth : Method) (c : Code) (H : Heap) (locs : List Loc) (cells slots : Nat) (Q : State → Prop) (g : JFrame) (E text : String) : Prop :=
  ∀ T : State, T.heap = H → Stand p l e R s m args below meth c T locs cells slots → ∃ t, Steps p.tables e below ((T.setTop g).pushFrame (.throwNew E (some text) none)) t ∧ Q t
theorem vx_vm {pc : Nat} {ls : Array Slot} {rest : List Value} {Q : State → Prop} (hexec : p.tables.exec = Jvm.exec) (hl : l.stackTraces = false) {cls text : String} {names : List String} {nb : Nat} {A : Nat → Prop}
    (hcls : Bundle.fit cls = true) (hnames : ∀ n ∈ names, Bundle.fit n = true) (hsoe : (cls == "java/lang/StackOverflowError") = false) (hoom : (cls == "java/lang/OutOfMemoryError") = false)
    (hat : ∀ w ∈ vx_atM cls names, w.before args s = true) (hgood : ∀ w ∈ vx_atM cls names, vx_ot w = true)
    (hU : vx_Zq Bundle.tN "UNASSIGNED_STACK" Bundle.steD A s s.heap) (hN : vx_Zq Bundle.tN "SUPPRESSED_SENTINEL" Bundle.listD A s s.heap) (hS : va_S A s.heap H locs) (hsize : ls.size = c.maxLocals)
    (htext : (text == notModelled) = false) (hnb : (stringBytes (stringToUtf16 text)).size ≤ nb) (hnb1 : nb ≤ 1000)
    (hRframes : names.length + 4 < R.frames) (hRlocals : (rest.map fun v => v.category).sum + 10240 ≤ R.locals) (hshort : 13 * names.length + 55 ≤ 10240) (hRcells : cells + 3 ≤ R.cells) (hRslots : slots + (nb + 10) ≤ R.slots) (hlocks : meth.locks = false)
    (k : ∀ (H1 : Heap) (q9 : Addr) (ce : Cell), H.size ≤ H1.size → (∀ q : Nat, q < H.size → H1[q]? = H[q]?) → va_S A s.heap H1 locs → H1[q9]? = some ce → ce.vm = .none → s.vm.findClass cls = some ce.cls → vx_W p l e R s m args below meth c H1 locs (cells + 3) (slots + (nb + 10)) Q (F0 m pc ls rest) q9) :
    vx_Note p l e R s m args below meth c H locs cells slots Q (F0 m pc ls rest) cls text := by
  intro T hT X
  have htr : e.platform.stackTraces = false := (show e.platform.stackTraces = l.stackTraces by rw [X.admits.platform]).trans hl
  have Y := vx_rebase X (R' := { frames := R.frames, locals := R.locals, cells := 3, slots := nb + 10 }) (Nat.le_refl _) (Nat.le_refl _) hRcells hRslots
  have hhp : ((T.setVm s.vm).setFrames (.invoking m args :: below)).heap = H := hT
  have hW0 : s.WarmedH ((T.setVm s.vm).setFrames (.invoking m args :: below)).vm := State.WarmedH.refl s
  have hat' : ∀ w ∈ vx_atM cls names, w.before args ((T.setVm s.vm).setFrames (.invoking m args :: below)) = true := fun w hw => vx_ot_at hW0 rfl (hgood w hw) (hat w hw)
  have hU' : vx_Zq Bundle.tN "UNASSIGNED_STACK" Bundle.steD A ((T.setVm s.vm).setFrames (.invoking m args :: below)) ((T.setVm s.vm).setFrames (.invoking m args :: below)).heap := by rw [hhp]; exact vx_Zq.moved hW0.alike (hU.kept hS.2.1)
  have hN' : vx_Zq Bundle.tN "SUPPRESSED_SENTINEL" Bundle.listD A ((T.setVm s.vm).setFrames (.invoking m args :: below)) ((T.setVm s.vm).setFrames (.invoking m args :: below)).heap := by rw [hhp]; exact vx_Zq.moved hW0.alike (hN.kept hS.2.1)
  obtain ⟨S, q, ce, st, Z, hce, hcl', hv⟩ := vx_vmAt Y hexec htr (cls := cls) (names := names) (text := text) hcls hnames hsoe hoom (vx_own hat' (vx_isRefq hU'.1) (vx_isRefq hN'.1) hU'.2.word hN'.2.word) (fun x hx => nomatch hx) htext
    (by rw [Launch.admits_arrayLengthLimit X.admits]; omega) (by rw [Launch.admits_maxHeapBytes X.admits]; simp only [componentBytes]; omega)
    (g := F0 m pc ls rest) rfl hsize hRframes (by show 2 * 0 + (rest.map fun v => v.category).sum + 10240 ≤ R.locals; omega) hshort (by show 0 + 3 ≤ 3; omega) (by show 0 + (_ + 4 + 6) ≤ nb + 10; omega) hlocks
  obtain ⟨f1, f2⟩ := vx_frame Z.same
  have f1' : H.size ≤ S.heap.size := by rw [← hT]; exact f1
  have f2' : ∀ q : Nat, q < H.size → S.heap[q]? = H[q]? := fun q hq => by
    rw [← hT]
    exact f2 q (by rw [← hT] at hq; exact hq) (fun z hz => nomatch hz)
  have X5 := vx_back9 X Y Z
  have X6 : Stand p l e R s m args below meth c S locs (cells + 3) (slots + (nb + 10)) := { X5 with same := X5.same.mono (by omega) (by omega) }
  obtain ⟨t, a1, b1⟩ := k S.heap q ce f1' f2' ⟨Nat.le_trans hS.1 f1', fun q h1 h2 => (f2' q (Nat.lt_of_lt_of_le h1 hS.1)).trans (hS.2.1 q h1 h2), hS.2.2⟩ hce hv hcl' S rfl X6
  exact ⟨t, st t a1, b1⟩
/-- from the machine's note that NullPointerException is thrown here -/
def vx_NoteN (p : Program) (l : Launch) (e : Env) (R : Room) (s : State) (m : MethodId) (args : Array Value) (below : List Frame) (meth : Method) (c : Code) (H : Heap) (locs : List Loc) (cells slots : Nat) (Q : State → Prop) (g : JFrame) : Prop :=
  ∀ T : State, T.heap = H → Stand p l e R s m args below meth c T locs cells slots → ∃ t, Steps p.tables e below ((T.setTop g).pushFrame (.throwNew "java/lang/NullPointerException" none none)) t ∧ Q t
theorem vx_npe {pc : Nat} {ls : Array Slot} {rest : List Value} {Q : State → Prop} (hexec : p.tables.exec = Jvm.exec) (hl : l.stackTraces = false) {nb : Nat} {A : Nat → Prop}
    (hat : ∀ w ∈ vx_atN nb, w.before args s = true) (hgood : ∀ w ∈ vx_atN nb, vx_ot w = true)
    (hU : vx_Zq Bundle.tN "UNASSIGNED_STACK" Bundle.steD A s s.heap) (hN : vx_Zq Bundle.tN "SUPPRESSED_SENTINEL" Bundle.listD A s s.heap) (hS : va_S A s.heap H locs) (hsize : ls.size = c.maxLocals)
    (hRframes : 7 < R.frames) (hRlocals : (rest.map fun v => v.category).sum + 10240 ≤ R.locals) (hRcells : cells + 1 ≤ R.cells) (hRslots : slots + nb ≤ R.slots) (hlocks : meth.locks = false)
    (k : ∀ (H1 : Heap) (q9 : Addr) (ce : Cell), H.size ≤ H1.size → (∀ q : Nat, q < H.size → H1[q]? = H[q]?) → va_S A s.heap H1 locs → H1[q9]? = some ce → ce.vm = .none → s.vm.findClass "java/lang/NullPointerException" = some ce.cls → vx_W p l e R s m args below meth c H1 locs (cells + 1) (slots + nb) Q (F0 m pc ls rest) q9) :
    vx_NoteN p l e R s m args below meth c H locs cells slots Q (F0 m pc ls rest) := by
  intro T hT X
  have htr : e.platform.stackTraces = false := (show e.platform.stackTraces = l.stackTraces by rw [X.admits.platform]).trans hl
  have Y := vx_rebase X (R' := { frames := R.frames, locals := R.locals, cells := 1, slots := nb }) (Nat.le_refl _) (Nat.le_refl _) hRcells hRslots
  have hhp : ((T.setVm s.vm).setFrames (.invoking m args :: below)).heap = H := hT
  have hW0 : s.WarmedH ((T.setVm s.vm).setFrames (.invoking m args :: below)).vm := State.WarmedH.refl s
  have hat' : ∀ w ∈ vx_atN nb, w.before args ((T.setVm s.vm).setFrames (.invoking m args :: below)) = true := fun w hw => vx_ot_at hW0 rfl (hgood w hw) (hat w hw)
  have hU' : vx_Zq Bundle.tN "UNASSIGNED_STACK" Bundle.steD A ((T.setVm s.vm).setFrames (.invoking m args :: below)) ((T.setVm s.vm).setFrames (.invoking m args :: below)).heap := by rw [hhp]; exact vx_Zq.moved hW0.alike (hU.kept hS.2.1)
  have hN' : vx_Zq Bundle.tN "SUPPRESSED_SENTINEL" Bundle.listD A ((T.setVm s.vm).setFrames (.invoking m args :: below)) ((T.setVm s.vm).setFrames (.invoking m args :: below)).heap := by rw [hhp]; exact vx_Zq.moved hW0.alike (hN.kept hS.2.1)
  obtain ⟨S, q, ce, st, Z, hce, hcl', hv⟩ := vx_npeAt Y hexec htr (n := nb) (vx_own hat' (vx_isRefq hU'.1) (vx_isRefq hN'.1) hU'.2.word hN'.2.word) (fun x hx => nomatch hx)
    (g := F0 m pc ls rest) rfl hsize hRframes (by show 2 * 0 + (rest.map fun v => v.category).sum + 10240 ≤ R.locals; omega) (by show 0 + 1 ≤ 1; omega) (by show 0 + nb ≤ nb; omega) hlocks
  obtain ⟨f1, f2⟩ := vx_frame Z.same
  have f1' : H.size ≤ S.heap.size := by rw [← hT]; exact f1
  have f2' : ∀ q : Nat, q < H.size → S.heap[q]? = H[q]? := fun q hq => by
    rw [← hT]
    exact f2 q (by rw [← hT] at hq; exact hq) (fun z hz => nomatch hz)
  have X5 := vx_back9 X Y Z
  have X6 : Stand p l e R s m args below meth c S locs (cells + 1) (slots + nb) := { X5 with same := X5.same.mono (by omega) (by omega) }
  obtain ⟨t, a1, b1⟩ := k S.heap q ce f1' f2' ⟨Nat.le_trans hS.1 f1', fun q h1 h2 => (f2' q (Nat.lt_of_lt_of_le h1 hS.1)).trans (hS.2.1 q h1 h2), hS.2.2⟩ hce hv hcl' S rfl X6
  exact ⟨t, st t a1, b1⟩
variable {Q : State → Prop} {cc : ByteArray} {pc : Nat} {ls : Array Slot} {rest : List Value}
theorem vx_idivZ (hexec : p.tables.exec = Jvm.exec) (hb : c.code = cc) {a b : Int32} (h0 : b = 0) (d : decode cc pc = .ok (.idiv, 1)) (k : vx_Note p l e R s m args below meth c H locs cells slots Q (F0 m pc ls rest) "java/lang/ArithmeticException" "/ by zero") :
    W p l e R s m args below meth c H locs cells slots Q (F0 m pc ls (.int b :: .int a :: rest)) := by
  intro T hT X
  obtain ⟨t, st, q⟩ := k T hT X
  exact ⟨t, X.idivZero hexec (g := F0 m pc ls (.int b :: .int a :: rest)) rfl (a := a) (rest := rest) (by rw [h0]) (by rw [hb]; exact d) t st, q⟩
theorem vx_iremZ (hexec : p.tables.exec = Jvm.exec) (hb : c.code = cc) {a b : Int32} (h0 : b = 0) (d : decode cc pc = .ok (.irem, 1)) (k : vx_Note p l e R s m args below meth c H locs cells slots Q (F0 m pc ls rest) "java/lang/ArithmeticException" "/ by zero") :
    W p l e R s m args below meth c H locs cells slots Q (F0 m pc ls (.int b :: .int a :: rest)) := by
  intro T hT X
  obtain ⟨t, st, q⟩ := k T hT X
  exact ⟨t, X.iremZero hexec (g := F0 m pc ls (.int b :: .int a :: rest)) rfl (a := a) (rest := rest) (by rw [h0]) (by rw [hb]; exact d) t st, q⟩
theorem vx_ldivZ (hexec : p.tables.exec = Jvm.exec) (hb : c.code = cc) {a b : Int64} (h0 : b = 0) (d : decode cc pc = .ok (.ldiv, 1)) (k : vx_Note p l e R s m args below meth c H locs cells slots Q (F0 m pc ls rest) "java/lang/ArithmeticException" "/ by zero") :
    W p l e R s m args below meth c H locs cells slots Q (F0 m pc ls (.long b :: .long a :: rest)) := by
  intro T hT X
  obtain ⟨t, st, q⟩ := k T hT X
  exact ⟨t, X.ldivZero hexec (g := F0 m pc ls (.long b :: .long a :: rest)) rfl (a := a) (rest := rest) (by rw [h0]) (by rw [hb]; exact d) t st, q⟩
theorem vx_lremZ (hexec : p.tables.exec = Jvm.exec) (hb : c.code = cc) {a b : Int64} (h0 : b = 0) (d : decode cc pc = .ok (.lrem, 1)) (k : vx_Note p l e R s m args below meth c H locs cells slots Q (F0 m pc ls rest) "java/lang/ArithmeticException" "/ by zero") :
    W p l e R s m args below meth c H locs cells slots Q (F0 m pc ls (.long b :: .long a :: rest)) := by
  intro T hT X
  obtain ⟨t, st, q⟩ := k T hT X
  exact ⟨t, X.lremZero hexec (g := F0 m pc ls (.long b :: .long a :: rest)) rfl (a := a) (rest := rest) (by rw [h0]) (by rw [hb]; exact d) t st, q⟩
theorem vx_ialdZ {D : va_G} {cl : List vw_C} {ws : va_W} {tys : List (ClassId × FieldType)} {a : Nat} (hexec : p.tables.exec = Jvm.exec) (hb : c.code = cc) (hK : va_K D cl tys s) (hP : va_P D cl ws H) (q0 t0 : Nat) {cA : ClassId} {n : Nat} {f : Nat → Int32} (ha : ws[q0]? = some (a, .inl (cA, n, .inl f))) (ht : tys[t0]? = some (cA, .int)) {i : Int32} (hout : ¬ vp_in i n) (hdg : decode cc pc = .ok (.iaload, 1))
    (k : ∀ tx : String, tx = (toString "Index " ++ toString i ++ toString " out of bounds for length " ++ toString n : String) → vx_Note p l e R s m args below meth c H locs cells slots Q (F0 m pc ls rest) "java/lang/ArrayIndexOutOfBoundsException" tx) : W p l e R s m args below meth c H locs cells slots Q (F0 m pc ls (.int i :: .ref a :: rest)) := by
  intro T hT X
  obtain ⟨t, st, q⟩ := k _ rfl T hT X
  refine ⟨t, ?_, q⟩
  have h1 := X.ialoadOut hexec (by rw [hT]; exact hP q0 _ ha) ((hK.2 t0 _ ht).1 n (fun j => .int (f j))) (j := i) (by show (i < 0 ∨ (arrV _ _ _).slots.size ≤ _); rw [arrV_size]; exact Classical.byContradiction hout) (g := F0 m pc ls (.int i :: .ref a :: rest)) rfl (rest := rest) rfl (by rw [hb]; exact hdg) t
  simp only [arrV_size] at h1
  exact h1 st
theorem vx_iastZ {D : va_G} {cl : List vw_C} {ws : va_W} {tys : List (ClassId × FieldType)} {a : Nat} (hexec : p.tables.exec = Jvm.exec) (hb : c.code = cc) (hK : va_K D cl tys s) (hP : va_P D cl ws H) (q0 t0 : Nat) {cA : ClassId} {n : Nat} {f : Nat → Int32} (ha : ws[q0]? = some (a, .inl (cA, n, .inl f))) (ht : tys[t0]? = some (cA, .int)) {i : Int32} {x : Int32} (hout : ¬ vp_in i n) (hdg : decode cc pc = .ok (.iastore, 1))
    (k : ∀ tx : String, tx = (toString "Index " ++ toString i ++ toString " out of bounds for length " ++ toString n : String) → vx_Note p l e R s m args below meth c H locs cells slots Q (F0 m pc ls rest) "java/lang/ArrayIndexOutOfBoundsException" tx) : W p l e R s m args below meth c H locs cells slots Q (F0 m pc ls (.int x :: .int i :: .ref a :: rest)) := by
  intro T hT X
  obtain ⟨t, st, q⟩ := k _ rfl T hT X
  refine ⟨t, ?_, q⟩
  have h1 := X.iastoreOut hexec (by rw [hT]; exact hP q0 _ ha) ((hK.2 t0 _ ht).1 n (fun j => .int (f j))) (j := i) (by show (i < 0 ∨ (arrV _ _ _).slots.size ≤ _); rw [arrV_size]; exact Classical.byContradiction hout) (g := F0 m pc ls (.int x :: .int i :: .ref a :: rest)) rfl (rest := rest) rfl (by rw [hb]; exact hdg) t
  simp only [arrV_size] at h1
  exact h1 st
theorem vx_baldZ {D : va_G} {cl : List vw_C} {ws : va_W} {tys : List (ClassId × FieldType)} {a : Nat} (hexec : p.tables.exec = Jvm.exec) (hb : c.code = cc) (hK : va_K D cl tys s) (hP : va_P D cl ws H) (q0 t0 : Nat) {cA : ClassId} {n : Nat} {f : Nat → Int32} (ha : ws[q0]? = some (a, .inl (cA, n, .inl f))) (ht : tys[t0]? = some (cA, .byte)) {i : Int32} (hout : ¬ vp_in i n) (hdg : decode cc pc = .ok (.baload, 1))
    (k : ∀ tx : String, tx = (toString "Index " ++ toString i ++ toString " out of bounds for length " ++ toString n : String) → vx_Note p l e R s m args below meth c H locs cells slots Q (F0 m pc ls rest) "java/lang/ArrayIndexOutOfBoundsException" tx) : W p l e R s m args below meth c H locs cells slots Q (F0 m pc ls (.int i :: .ref a :: rest)) := by
  intro T hT X
  obtain ⟨t, st, q⟩ := k _ rfl T hT X
  refine ⟨t, ?_, q⟩
  have h1 := X.baloadOut hexec (by rw [hT]; exact hP q0 _ ha) ((hK.2 t0 _ ht).1 n (fun j => .int (f j))) (j := i) (by show (i < 0 ∨ (arrV _ _ _).slots.size ≤ _); rw [arrV_size]; exact Classical.byContradiction hout) (g := F0 m pc ls (.int i :: .ref a :: rest)) rfl (rest := rest) rfl (by rw [hb]; exact hdg) t
  simp only [arrV_size] at h1
  exact h1 st
theorem vx_bastZ {D : va_G} {cl : List vw_C} {ws : va_W} {tys : List (ClassId × FieldType)} {a : Nat} (hexec : p.tables.exec = Jvm.exec) (hb : c.code = cc) (hK : va_K D cl tys s) (hP : va_P D cl ws H) (q0 t0 : Nat) {cA : ClassId} {n : Nat} {f : Nat → Int32} (ha : ws[q0]? = some (a, .inl (cA, n, .inl f))) (ht : tys[t0]? = some (cA, .byte)) {i : Int32} {x : Int32} (hout : ¬ vp_in i n) (hdg : decode cc pc = .ok (.bastore, 1))
    (k : ∀ tx : String, tx = (toString "Index " ++ toString i ++ toString " out of bounds for length " ++ toString n : String) → vx_Note p l e R s m args below meth c H locs cells slots Q (F0 m pc ls rest) "java/lang/ArrayIndexOutOfBoundsException" tx) : W p l e R s m args below meth c H locs cells slots Q (F0 m pc ls (.int x :: .int i :: .ref a :: rest)) := by
  intro T hT X
  obtain ⟨t, st, q⟩ := k _ rfl T hT X
  refine ⟨t, ?_, q⟩
  have h1 := X.bastoreOut hexec (by rw [hT]; exact hP q0 _ ha) ((hK.2 t0 _ ht).1 n (fun j => .int (f j))) (j := i) (by show (i < 0 ∨ (arrV _ _ _).slots.size ≤ _); rw [arrV_size]; exact Classical.byContradiction hout) (g := F0 m pc ls (.int x :: .int i :: .ref a :: rest)) rfl (rest := rest) rfl (by rw [hb]; exact hdg) t
  simp only [arrV_size] at h1
  exact h1 st
theorem vx_zaldZ {D : va_G} {cl : List vw_C} {ws : va_W} {tys : List (ClassId × FieldType)} {a : Nat} (hexec : p.tables.exec = Jvm.exec) (hb : c.code = cc) (hK : va_K D cl tys s) (hP : va_P D cl ws H) (q0 t0 : Nat) {cA : ClassId} {n : Nat} {f : Nat → Int32} (ha : ws[q0]? = some (a, .inl (cA, n, .inl f))) (ht : tys[t0]? = some (cA, .boolean)) {i : Int32} (hout : ¬ vp_in i n) (hdg : decode cc pc = .ok (.baload, 1))
    (k : ∀ tx : String, tx = (toString "Index " ++ toString i ++ toString " out of bounds for length " ++ toString n : String) → vx_Note p l e R s m args below meth c H locs cells slots Q (F0 m pc ls rest) "java/lang/ArrayIndexOutOfBoundsException" tx) : W p l e R s m args below meth c H locs cells slots Q (F0 m pc ls (.int i :: .ref a :: rest)) := by
  intro T hT X
  obtain ⟨t, st, q⟩ := k _ rfl T hT X
  refine ⟨t, ?_, q⟩
  have h1 := X.baloadOut hexec (by rw [hT]; exact hP q0 _ ha) ((hK.2 t0 _ ht).1 n (fun j => .int (f j))) (j := i) (by show (i < 0 ∨ (arrV _ _ _).slots.size ≤ _); rw [arrV_size]; exact Classical.byContradiction hout) (g := F0 m pc ls (.int i :: .ref a :: rest)) rfl (rest := rest) rfl (by rw [hb]; exact hdg) t
  simp only [arrV_size] at h1
  exact h1 st
theorem vx_zastZ {D : va_G} {cl : List vw_C} {ws : va_W} {tys : List (ClassId × FieldType)} {a : Nat} (hexec : p.tables.exec = Jvm.exec) (hb : c.code = cc) (hK : va_K D cl tys s) (hP : va_P D cl ws H) (q0 t0 : Nat) {cA : ClassId} {n : Nat} {f : Nat → Int32} (ha : ws[q0]? = some (a, .inl (cA, n, .inl f))) (ht : tys[t0]? = some (cA, .boolean)) {i : Int32} {x : Int32} (hout : ¬ vp_in i n) (hdg : decode cc pc = .ok (.bastore, 1))
    (k : ∀ tx : String, tx = (toString "Index " ++ toString i ++ toString " out of bounds for length " ++ toString n : String) → vx_Note p l e R s m args below meth c H locs cells slots Q (F0 m pc ls rest) "java/lang/ArrayIndexOutOfBoundsException" tx) : W p l e R s m args below meth c H locs cells slots Q (F0 m pc ls (.int x :: .int i :: .ref a :: rest)) := by
  intro T hT X
  obtain ⟨t, st, q⟩ := k _ rfl T hT X
  refine ⟨t, ?_, q⟩
  have h1 := X.bastoreOut hexec (by rw [hT]; exact hP q0 _ ha) ((hK.2 t0 _ ht).1 n (fun j => .int (f j))) (j := i) (by show (i < 0 ∨ (arrV _ _ _).slots.size ≤ _); rw [arrV_size]; exact Classical.byContradiction hout) (g := F0 m pc ls (.int x :: .int i :: .ref a :: rest)) rfl (rest := rest) rfl (by rw [hb]; exact hdg) t
  simp only [arrV_size] at h1
  exact h1 st
theorem vx_caldZ {D : va_G} {cl : List vw_C} {ws : va_W} {tys : List (ClassId × FieldType)} {a : Nat} (hexec : p.tables.exec = Jvm.exec) (hb : c.code = cc) (hK : va_K D cl tys s) (hP : va_P D cl ws H) (q0 t0 : Nat) {cA : ClassId} {n : Nat} {f : Nat → Int32} (ha : ws[q0]? = some (a, .inl (cA, n, .inl f))) (ht : tys[t0]? = some (cA, .char)) {i : Int32} (hout : ¬ vp_in i n) (hdg : decode cc pc = .ok (.caload, 1))
    (k : ∀ tx : String, tx = (toString "Index " ++ toString i ++ toString " out of bounds for length " ++ toString n : String) → vx_Note p l e R s m args below meth c H locs cells slots Q (F0 m pc ls rest) "java/lang/ArrayIndexOutOfBoundsException" tx) : W p l e R s m args below meth c H locs cells slots Q (F0 m pc ls (.int i :: .ref a :: rest)) := by
  intro T hT X
  obtain ⟨t, st, q⟩ := k _ rfl T hT X
  refine ⟨t, ?_, q⟩
  have h1 := X.caloadOut hexec (by rw [hT]; exact hP q0 _ ha) ((hK.2 t0 _ ht).1 n (fun j => .int (f j))) (j := i) (by show (i < 0 ∨ (arrV _ _ _).slots.size ≤ _); rw [arrV_size]; exact Classical.byContradiction hout) (g := F0 m pc ls (.int i :: .ref a :: rest)) rfl (rest := rest) rfl (by rw [hb]; exact hdg) t
  simp only [arrV_size] at h1
  exact h1 st
theorem vx_castZ {D : va_G} {cl : List vw_C} {ws : va_W} {tys : List (ClassId × FieldType)} {a : Nat} (hexec : p.tables.exec = Jvm.exec) (hb : c.code = cc) (hK : va_K D cl tys s) (hP : va_P D cl ws H) (q0 t0 : Nat) {cA : ClassId} {n : Nat} {f : Nat → Int32} (ha : ws[q0]? = some (a, .inl (cA, n, .inl f))) (ht : tys[t0]? = some (cA, .char)) {i : Int32} {x : Int32} (hout : ¬ vp_in i n) (hdg : decode cc pc = .ok (.castore, 1))
    (k : ∀ tx : String, tx = (toString "Index " ++ toString i ++ toString " out of bounds for length " ++ toString n : String) → vx_Note p l e R s m args below meth c H locs cells slots Q (F0 m pc ls rest) "java/lang/ArrayIndexOutOfBoundsException" tx) : W p l e R s m args below meth c H locs cells slots Q (F0 m pc ls (.int x :: .int i :: .ref a :: rest)) := by
  intro T hT X
  obtain ⟨t, st, q⟩ := k _ rfl T hT X
  refine ⟨t, ?_, q⟩
  have h1 := X.castoreOut hexec (by rw [hT]; exact hP q0 _ ha) ((hK.2 t0 _ ht).1 n (fun j => .int (f j))) (j := i) (by show (i < 0 ∨ (arrV _ _ _).slots.size ≤ _); rw [arrV_size]; exact Classical.byContradiction hout) (g := F0 m pc ls (.int x :: .int i :: .ref a :: rest)) rfl (rest := rest) rfl (by rw [hb]; exact hdg) t
  simp only [arrV_size] at h1
  exact h1 st
theorem vx_saldZ {D : va_G} {cl : List vw_C} {ws : va_W} {tys : List (ClassId × FieldType)} {a : Nat} (hexec : p.tables.exec = Jvm.exec) (hb : c.code = cc) (hK : va_K D cl tys s) (hP : va_P D cl ws H) (q0 t0 : Nat) {cA : ClassId} {n : Nat} {f : Nat → Int32} (ha : ws[q0]? = some (a, .inl (cA, n, .inl f))) (ht : tys[t0]? = some (cA, .short)) {i : Int32} (hout : ¬ vp_in i n) (hdg : decode cc pc = .ok (.saload, 1))
    (k : ∀ tx : String, tx = (toString "Index " ++ toString i ++ toString " out of bounds for length " ++ toString n : String) → vx_Note p l e R s m args below meth c H locs cells slots Q (F0 m pc ls rest) "java/lang/ArrayIndexOutOfBoundsException" tx) : W p l e R s m args below meth c H locs cells slots Q (F0 m pc ls (.int i :: .ref a :: rest)) := by
  intro T hT X
  obtain ⟨t, st, q⟩ := k _ rfl T hT X
  refine ⟨t, ?_, q⟩
  have h1 := X.saloadOut hexec (by rw [hT]; exact hP q0 _ ha) ((hK.2 t0 _ ht).1 n (fun j => .int (f j))) (j := i) (by show (i < 0 ∨ (arrV _ _ _).slots.size ≤ _); rw [arrV_size]; exact Classical.byContradiction hout) (g := F0 m pc ls (.int i :: .ref a :: rest)) rfl (rest := rest) rfl (by rw [hb]; exact hdg) t
  simp only [arrV_size] at h1
  exact h1 st
theorem vx_sastZ {D : va_G} {cl : List vw_C} {ws : va_W} {tys : List (ClassId × FieldType)} {a : Nat} (hexec : p.tables.exec = Jvm.exec) (hb : c.code = cc) (hK : va_K D cl tys s) (hP : va_P D cl ws H) (q0 t0 : Nat) {cA : ClassId} {n : Nat} {f : Nat → Int32} (ha : ws[q0]? = some (a, .inl (cA, n, .inl f))) (ht : tys[t0]? = some (cA, .short)) {i : Int32} {x : Int32} (hout : ¬ vp_in i n) (hdg : decode cc pc = .ok (.sastore, 1))
    (k : ∀ tx : String, tx = (toString "Index " ++ toString i ++ toString " out of bounds for length " ++ toString n : String) → vx_Note p l e R s m args below meth c H locs cells slots Q (F0 m pc ls rest) "java/lang/ArrayIndexOutOfBoundsException" tx) : W p l e R s m args below meth c H locs cells slots Q (F0 m pc ls (.int x :: .int i :: .ref a :: rest)) := by
  intro T hT X
  obtain ⟨t, st, q⟩ := k _ rfl T hT X
  refine ⟨t, ?_, q⟩
  have h1 := X.sastoreOut hexec (by rw [hT]; exact hP q0 _ ha) ((hK.2 t0 _ ht).1 n (fun j => .int (f j))) (j := i) (by show (i < 0 ∨ (arrV _ _ _).slots.size ≤ _); rw [arrV_size]; exact Classical.byContradiction hout) (g := F0 m pc ls (.int x :: .int i :: .ref a :: rest)) rfl (rest := rest) rfl (by rw [hb]; exact hdg) t
  simp only [arrV_size] at h1
  exact h1 st
theorem vx_laldZ {D : va_G} {cl : List vw_C} {ws : va_W} {tys : List (ClassId × FieldType)} {a : Nat} (hexec : p.tables.exec = Jvm.exec) (hb : c.code = cc) (hK : va_K D cl tys s) (hP : va_P D cl ws H) (q0 t0 : Nat) {cA : ClassId} {n : Nat} {f : Nat → Int64} (ha : ws[q0]? = some (a, .inl (cA, n, .inr (.inl f)))) (ht : tys[t0]? = some (cA, .long)) {i : Int32} (hout : ¬ vp_in i n) (hdg : decode cc pc = .ok (.laload, 1))
    (k : ∀ tx : String, tx = (toString "Index " ++ toString i ++ toString " out of bounds for length " ++ toString n : String) → vx_Note p l e R s m args below meth c H locs cells slots Q (F0 m pc ls rest) "java/lang/ArrayIndexOutOfBoundsException" tx) : W p l e R s m args below meth c H locs cells slots Q (F0 m pc ls (.int i :: .ref a :: rest)) := by
  intro T hT X
  obtain ⟨t, st, q⟩ := k _ rfl T hT X
  refine ⟨t, ?_, q⟩
  have h1 := X.laloadOut hexec (by rw [hT]; exact hP q0 _ ha) ((hK.2 t0 _ ht).1 n (fun j => .long (f j))) (j := i) (by show (i < 0 ∨ (arrV _ _ _).slots.size ≤ _); rw [arrV_size]; exact Classical.byContradiction hout) (g := F0 m pc ls (.int i :: .ref a :: rest)) rfl (rest := rest) rfl (by rw [hb]; exact hdg) t
  simp only [arrV_size] at h1
  exact h1 st
theorem vx_lastZ {D : va_G} {cl : List vw_C} {ws : va_W} {tys : List (ClassId × FieldType)} {a : Nat} (hexec : p.tables.exec = Jvm.exec) (hb : c.code = cc) (hK : va_K D cl tys s) (hP : va_P D cl ws H) (q0 t0 : Nat) {cA : ClassId} {n : Nat} {f : Nat → Int64} (ha : ws[q0]? = some (a, .inl (cA, n, .inr (.inl f)))) (ht : tys[t0]? = some (cA, .long)) {i : Int32} {x : Int64} (hout : ¬ vp_in i n) (hdg : decode cc pc = .ok (.lastore, 1))
    (k : ∀ tx : String, tx = (toString "Index " ++ toString i ++ toString " out of bounds for length " ++ toString n : String) → vx_Note p l e R s m args below meth c H locs cells slots Q (F0 m pc ls rest) "java/lang/ArrayIndexOutOfBoundsException" tx) : W p l e R s m args below meth c H locs cells slots Q (F0 m pc ls (.long x :: .int i :: .ref a :: rest)) := by
  intro T hT X
  obtain ⟨t, st, q⟩ := k _ rfl T hT X
  refine ⟨t, ?_, q⟩
  have h1 := X.lastoreOut hexec (by rw [hT]; exact hP q0 _ ha) ((hK.2 t0 _ ht).1 n (fun j => .long (f j))) (j := i) (by show (i < 0 ∨ (arrV _ _ _).slots.size ≤ _); rw [arrV_size]; exact Classical.byContradiction hout) (g := F0 m pc ls (.long x :: .int i :: .ref a :: rest)) rfl (rest := rest) rfl (by rw [hb]; exact hdg) t
  simp only [arrV_size] at h1
  exact h1 st
theorem vx_faldZ {D : va_G} {cl : List vw_C} {ws : va_W} {tys : List (ClassId × FieldType)} {a : Nat} (hexec : p.tables.exec = Jvm.exec) (hb : c.code = cc) (hK : va_K D cl tys s) (hP : va_P D cl ws H) (q0 t0 : Nat) {cA : ClassId} {n : Nat} {f : Nat → UInt32} (ha : ws[q0]? = some (a, .inl (cA, n, .inr (.inr (.inl f))))) (ht : tys[t0]? = some (cA, .float)) {i : Int32} (hout : ¬ vp_in i n) (hdg : decode cc pc = .ok (.faload, 1))
    (k : ∀ tx : String, tx = (toString "Index " ++ toString i ++ toString " out of bounds for length " ++ toString n : String) → vx_Note p l e R s m args below meth c H locs cells slots Q (F0 m pc ls rest) "java/lang/ArrayIndexOutOfBoundsException" tx) : W p l e R s m args below meth c H locs cells slots Q (F0 m pc ls (.int i :: .ref a :: rest)) := by
  intro T hT X
  obtain ⟨t, st, q⟩ := k _ rfl T hT X
  refine ⟨t, ?_, q⟩
  have h1 := X.faloadOut hexec (by rw [hT]; exact hP q0 _ ha) ((hK.2 t0 _ ht).1 n (fun j => .float (f j))) (j := i) (by show (i < 0 ∨ (arrV _ _ _).slots.size ≤ _); rw [arrV_size]; exact Classical.byContradiction hout) (g := F0 m pc ls (.int i :: .ref a :: rest)) rfl (rest := rest) rfl (by rw [hb]; exact hdg) t
  simp only [arrV_size] at h1
  exact h1 st
theorem vx_fastZ {D : va_G} {cl : List vw_C} {ws : va_W} {tys : List (ClassId × FieldType)} {a : Nat} (hexec : p.tables.exec = Jvm.exec) (hb : c.code = cc) (hK : va_K D cl tys s) (hP : va_P D cl ws H) (q0 t0 : Nat) {cA : ClassId} {n : Nat} {f : Nat → UInt32} (ha : ws[q0]? = some (a, .inl (cA, n, .inr (.inr (.inl f))))) (ht : tys[t0]? = some (cA, .float)) {i : Int32} {x : UInt32} (hout : ¬ vp_in i n) (hdg : decode cc pc = .ok (.fastore, 1))
    (k : ∀ tx : String, tx = (toString "Index " ++ toString i ++ toString " out of bounds for length " ++ toString n : String) → vx_Note p l e R s m args below meth c H locs cells slots Q (F0 m pc ls rest) "java/lang/ArrayIndexOutOfBoundsException" tx) : W p l e R s m args below meth c H locs cells slots Q (F0 m pc ls (.float x :: .int i :: .ref a :: rest)) := by
  intro T hT X
  obtain ⟨t, st, q⟩ := k _ rfl T hT X
  refine ⟨t, ?_, q⟩
  have h1 := X.fastoreOut hexec (by rw [hT]; exact hP q0 _ ha) ((hK.2 t0 _ ht).1 n (fun j => .float (f j))) (j := i) (by show (i < 0 ∨ (arrV _ _ _).slots.size ≤ _); rw [arrV_size]; exact Classical.byContradiction hout) (g := F0 m pc ls (.float x :: .int i :: .ref a :: rest)) rfl (rest := rest) rfl (by rw [hb]; exact hdg) t
  simp only [arrV_size] at h1
  exact h1 st
theorem vx_daldZ {D : va_G} {cl : List vw_C} {ws : va_W} {tys : List (ClassId × FieldType)} {a : Nat} (hexec : p.tables.exec = Jvm.exec) (hb : c.code = cc) (hK : va_K D cl tys s) (hP : va_P D cl ws H) (q0 t0 : Nat) {cA : ClassId} {n : Nat} {f : Nat → UInt64} (ha : ws[q0]? = some (a, .inl (cA, n, .inr (.inr (.inr (.inl f)))))) (ht : tys[t0]? = some (cA, .double)) {i : Int32} (hout : ¬ vp_in i n) (hdg : decode cc pc = .ok (.daload, 1))
    (k : ∀ tx : String, tx = (toString "Index " ++ toString i ++ toString " out of bounds for length " ++ toString n : String) → vx_Note p l e R s m args below meth c H locs cells slots Q (F0 m pc ls rest) "java/lang/ArrayIndexOutOfBoundsException" tx) : W p l e R s m args below meth c H locs cells slots Q (F0 m pc ls (.int i :: .ref a :: rest)) := by
  intro T hT X
  obtain ⟨t, st, q⟩ := k _ rfl T hT X
  refine ⟨t, ?_, q⟩
  have h1 := X.daloadOut hexec (by rw [hT]; exact hP q0 _ ha) ((hK.2 t0 _ ht).1 n (fun j => .double (f j))) (j := i) (by show (i < 0 ∨ (arrV _ _ _).slots.size ≤ _); rw [arrV_size]; exact Classical.byContradiction hout) (g := F0 m pc ls (.int i :: .ref a :: rest)) rfl (rest := rest) rfl (by rw [hb]; exact hdg) t
  simp only [arrV_size] at h1
  exact h1 st
theorem vx_dastZ {D : va_G} {cl : List vw_C} {ws : va_W} {tys : List (ClassId × FieldType)} {a : Nat} (hexec : p.tables.exec = Jvm.exec) (hb : c.code = cc) (hK : va_K D cl tys s) (hP : va_P D cl ws H) (q0 t0 : Nat) {cA : ClassId} {n : Nat} {f : Nat → UInt64} (ha : ws[q0]? = some (a, .inl (cA, n, .inr (.inr (.inr (.inl f)))))) (ht : tys[t0]? = some (cA, .double)) {i : Int32} {x : UInt64} (hout : ¬ vp_in i n) (hdg : decode cc pc = .ok (.dastore, 1))
    (k : ∀ tx : String, tx = (toString "Index " ++ toString i ++ toString " out of bounds for length " ++ toString n : String) → vx_Note p l e R s m args below meth c H locs cells slots Q (F0 m pc ls rest) "java/lang/ArrayIndexOutOfBoundsException" tx) : W p l e R s m args below meth c H locs cells slots Q (F0 m pc ls (.double x :: .int i :: .ref a :: rest)) := by
  intro T hT X
  obtain ⟨t, st, q⟩ := k _ rfl T hT X
  refine ⟨t, ?_, q⟩
  have h1 := X.dastoreOut hexec (by rw [hT]; exact hP q0 _ ha) ((hK.2 t0 _ ht).1 n (fun j => .double (f j))) (j := i) (by show (i < 0 ∨ (arrV _ _ _).slots.size ≤ _); rw [arrV_size]; exact Classical.byContradiction hout) (g := F0 m pc ls (.double x :: .int i :: .ref a :: rest)) rfl (rest := rest) rfl (by rw [hb]; exact hdg) t
  simp only [arrV_size] at h1
  exact h1 st
theorem vx_arraylengthN (hexec : p.tables.exec = Jvm.exec) (hb : c.code = cc) (hdg : decode cc pc = .ok (.arraylength, 1)) (k : vx_NoteN p l e R s m args below meth c H locs cells slots Q (F0 m pc ls rest)) : W p l e R s m args below meth c H locs cells slots Q (F0 m pc ls (.null :: rest)) := by
  intro T hT X
  obtain ⟨t, st, q⟩ := k T hT X
  exact ⟨t, X.arraylengthNull hexec (g := F0 m pc ls (.null :: rest)) rfl (rest := rest) rfl (by rw [hb]; exact hdg) t st, q⟩
theorem vx_ialoadN (hexec : p.tables.exec = Jvm.exec) (hb : c.code = cc) {i : Int32} (hdg : decode cc pc = .ok (.iaload, 1)) (k : vx_NoteN p l e R s m args below meth c H locs cells slots Q (F0 m pc ls rest)) : W p l e R s m args below meth c H locs cells slots Q (F0 m pc ls (.int i :: .null :: rest)) := by
  intro T hT X
  obtain ⟨t, st, q⟩ := k T hT X
  exact ⟨t, X.ialoadNull hexec (g := F0 m pc ls (.int i :: .null :: rest)) rfl (rest := rest) rfl (by rw [hb]; exact hdg) t st, q⟩
theorem vx_laloadN (hexec : p.tables.exec = Jvm.exec) (hb : c.code = cc) {i : Int32} (hdg : decode cc pc = .ok (.laload, 1)) (k : vx_NoteN p l e R s m args below meth c H locs cells slots Q (F0 m pc ls rest)) : W p l e R s m args below meth c H locs cells slots Q (F0 m pc ls (.int i :: .null :: rest)) := by
  intro T hT X
  obtain ⟨t, st, q⟩ := k T hT X
  exact ⟨t, X.laloadNull hexec (g := F0 m pc ls (.int i :: .null :: rest)) rfl (rest := rest) rfl (by rw [hb]; exact hdg) t st, q⟩
theorem vx_faloadN (hexec : p.tables.exec = Jvm.exec) (hb : c.code = cc) {i : Int32} (hdg : decode cc pc = .ok (.faload, 1)) (k : vx_NoteN p l e R s m args below meth c H locs cells slots Q (F0 m pc ls rest)) : W p l e R s m args below meth c H locs cells slots Q (F0 m pc ls (.int i :: .null :: rest)) := by
  intro T hT X
  obtain ⟨t, st, q⟩ := k T hT X
  exact ⟨t, X.faloadNull hexec (g := F0 m pc ls (.int i :: .null :: rest)) rfl (rest := rest) rfl (by rw [hb]; exact hdg) t st, q⟩
theorem vx_daloadN (hexec : p.tables.exec = Jvm.exec) (hb : c.code = cc) {i : Int32} (hdg : decode cc pc = .ok (.daload, 1)) (k : vx_NoteN p l e R s m args below meth c H locs cells slots Q (F0 m pc ls rest)) : W p l e R s m args below meth c H locs cells slots Q (F0 m pc ls (.int i :: .null :: rest)) := by
  intro T hT X
  obtain ⟨t, st, q⟩ := k T hT X
  exact ⟨t, X.daloadNull hexec (g := F0 m pc ls (.int i :: .null :: rest)) rfl (rest := rest) rfl (by rw [hb]; exact hdg) t st, q⟩
theorem vx_aaloadN (hexec : p.tables.exec = Jvm.exec) (hb : c.code = cc) {i : Int32} (hdg : decode cc pc = .ok (.aaload, 1)) (k : vx_NoteN p l e R s m args below meth c H locs cells slots Q (F0 m pc ls rest)) : W p l e R s m args below meth c H locs cells slots Q (F0 m pc ls (.int i :: .null :: rest)) := by
  intro T hT X
  obtain ⟨t, st, q⟩ := k T hT X
  exact ⟨t, X.aaloadNull hexec (g := F0 m pc ls (.int i :: .null :: rest)) rfl (rest := rest) rfl (by rw [hb]; exact hdg) t st, q⟩
theorem vx_baloadN (hexec : p.tables.exec = Jvm.exec) (hb : c.code = cc) {i : Int32} (hdg : decode cc pc = .ok (.baload, 1)) (k : vx_NoteN p l e R s m args below meth c H locs cells slots Q (F0 m pc ls rest)) : W p l e R s m args below meth c H locs cells slots Q (F0 m pc ls (.int i :: .null :: rest)) := by
  intro T hT X
  obtain ⟨t, st, q⟩ := k T hT X
  exact ⟨t, X.baloadNull hexec (g := F0 m pc ls (.int i :: .null :: rest)) rfl (rest := rest) rfl (by rw [hb]; exact hdg) t st, q⟩
theorem vx_caloadN (hexec : p.tables.exec = Jvm.exec) (hb : c.code = cc) {i : Int32} (hdg : decode cc pc = .ok (.caload, 1)) (k : vx_NoteN p l e R s m args below meth c H locs cells slots Q (F0 m pc ls rest)) : W p l e R s m args below meth c H locs cells slots Q (F0 m pc ls (.int i :: .null :: rest)) := by
  intro T hT X
  obtain ⟨t, st, q⟩ := k T hT X
  exact ⟨t, X.caloadNull hexec (g := F0 m pc ls (.int i :: .null :: rest)) rfl (rest := rest) rfl (by rw [hb]; exact hdg) t st, q⟩
theorem vx_saloadN (hexec : p.tables.exec = Jvm.exec) (hb : c.code = cc) {i : Int32} (hdg : decode cc pc = .ok (.saload, 1)) (k : vx_NoteN p l e R s m args below meth c H locs cells slots Q (F0 m pc ls rest)) : W p l e R s m args below meth c H locs cells slots Q (F0 m pc ls (.int i :: .null :: rest)) := by
  intro T hT X
  obtain ⟨t, st, q⟩ := k T hT X
  exact ⟨t, X.saloadNull hexec (g := F0 m pc ls (.int i :: .null :: rest)) rfl (rest := rest) rfl (by rw [hb]; exact hdg) t st, q⟩
theorem vx_iastoreN (hexec : p.tables.exec = Jvm.exec) (hb : c.code = cc) {x : Int32} {i : Int32} (hdg : decode cc pc = .ok (.iastore, 1)) (k : vx_NoteN p l e R s m args below meth c H locs cells slots Q (F0 m pc ls rest)) : W p l e R s m args below meth c H locs cells slots Q (F0 m pc ls (.int x :: .int i :: .null :: rest)) := by
  intro T hT X
  obtain ⟨t, st, q⟩ := k T hT X
  exact ⟨t, X.iastoreNull hexec (g := F0 m pc ls (.int x :: .int i :: .null :: rest)) rfl (rest := rest) rfl (by rw [hb]; exact hdg) t st, q⟩
theorem vx_lastoreN (hexec : p.tables.exec = Jvm.exec) (hb : c.code = cc) {x : Int64} {i : Int32} (hdg : decode cc pc = .ok (.lastore, 1)) (k : vx_NoteN p l e R s m args below meth c H locs cells slots Q (F0 m pc ls rest)) : W p l e R s m args below meth c H locs cells slots Q (F0 m pc ls (.long x :: .int i :: .null :: rest)) := by
  intro T hT X
  obtain ⟨t, st, q⟩ := k T hT X
  exact ⟨t, X.lastoreNull hexec (g := F0 m pc ls (.long x :: .int i :: .null :: rest)) rfl (rest := rest) rfl (by rw [hb]; exact hdg) t st, q⟩
theorem vx_fastoreN (hexec : p.tables.exec = Jvm.exec) (hb : c.code = cc) {x : UInt32} {i : Int32} (hdg : decode cc pc = .ok (.fastore, 1)) (k : vx_NoteN p l e R s m args below meth c H locs cells slots Q (F0 m pc ls rest)) : W p l e R s m args below meth c H locs cells slots Q (F0 m pc ls (.float x :: .int i :: .null :: rest)) := by
  intro T hT X
  obtain ⟨t, st, q⟩ := k T hT X
  exact ⟨t, X.fastoreNull hexec (g := F0 m pc ls (.float x :: .int i :: .null :: rest)) rfl (rest := rest) rfl (by rw [hb]; exact hdg) t st, q⟩
theorem vx_dastoreN (hexec : p.tables.exec = Jvm.exec) (hb : c.code = cc) {x : UInt64} {i : Int32} (hdg : decode cc pc = .ok (.dastore, 1)) (k : vx_NoteN p l e R s m args below meth c H locs cells slots Q (F0 m pc ls rest)) : W p l e R s m args below meth c H locs cells slots Q (F0 m pc ls (.double x :: .int i :: .null :: rest)) := by
  intro T hT X
  obtain ⟨t, st, q⟩ := k T hT X
  exact ⟨t, X.dastoreNull hexec (g := F0 m pc ls (.double x :: .int i :: .null :: rest)) rfl (rest := rest) rfl (by rw [hb]; exact hdg) t st, q⟩
theorem vx_bastoreN (hexec : p.tables.exec = Jvm.exec) (hb : c.code = cc) {x : Int32} {i : Int32} (hdg : decode cc pc = .ok (.bastore, 1)) (k : vx_NoteN p l e R s m args below meth c H locs cells slots Q (F0 m pc ls rest)) : W p l e R s m args below meth c H locs cells slots Q (F0 m pc ls (.int x :: .int i :: .null :: rest)) := by
  intro T hT X
  obtain ⟨t, st, q⟩ := k T hT X
  exact ⟨t, X.bastoreNull hexec (g := F0 m pc ls (.int x :: .int i :: .null :: rest)) rfl (rest := rest) rfl (by rw [hb]; exact hdg) t st, q⟩
theorem vx_castoreN (hexec : p.tables.exec = Jvm.exec) (hb : c.code = cc) {x : Int32} {i : Int32} (hdg : decode cc pc = .ok (.castore, 1)) (k : vx_NoteN p l e R s m args below meth c H locs cells slots Q (F0 m pc ls rest)) : W p l e R s m args below meth c H locs cells slots Q (F0 m pc ls (.int x :: .int i :: .null :: rest)) := by
  intro T hT X
  obtain ⟨t, st, q⟩ := k T hT X
  exact ⟨t, X.castoreNull hexec (g := F0 m pc ls (.int x :: .int i :: .null :: rest)) rfl (rest := rest) rfl (by rw [hb]; exact hdg) t st, q⟩
theorem vx_sastoreN (hexec : p.tables.exec = Jvm.exec) (hb : c.code = cc) {x : Int32} {i : Int32} (hdg : decode cc pc = .ok (.sastore, 1)) (k : vx_NoteN p l e R s m args below meth c H locs cells slots Q (F0 m pc ls rest)) : W p l e R s m args below meth c H locs cells slots Q (F0 m pc ls (.int x :: .int i :: .null :: rest)) := by
  intro T hT X
  obtain ⟨t, st, q⟩ := k T hT X
  exact ⟨t, X.sastoreNull hexec (g := F0 m pc ls (.int x :: .int i :: .null :: rest)) rfl (rest := rest) rfl (by rw [hb]; exact hdg) t st, q⟩
theorem vx_invokeN {own C : String} {index maxL : Nat} {y : MethodName} {bytes : ByteArray} {ret : Option FieldType} (hexec : p.tables.exec = Jvm.exec) (hb : c.code = cc) (hown : s.vm.findClass own = some m.cls) (hlink : (Cond.methodLink own index y).before args s = true) (hinst : (Cond.instanceMethod y).before args s = true) (hcode : (Cond.code y bytes maxL ret).before args s = true) (hsel : (Cond.selects C y y).before args s = true)
    (hx : y.cls ≠ "java/lang/invoke/MethodHandle" ∧ y.cls ≠ "java/lang/invoke/VarHandle") {As : List Value} (hlen : (parseMethodDescriptor y.desc).map (fun d => d.parameters.length) = some As.length) (hdg : decode cc pc = .ok (.invokevirtual index, 3))
    (k : vx_NoteN p l e R s m args below meth c H locs cells slots Q (F0 m pc ls rest)) {st0 : List Value} (hst : st0 = As.reverse ++ .null :: rest) : W p l e R s m args below meth c H locs cells slots Q (F0 m pc ls st0) := by
  intro T hT X
  obtain ⟨r0, r, hn, hrm, hstR, hsigR⟩ := va_Decl.of hinst hcode
  obtain ⟨c2, r2, m2, q1, q2, q3, q4, kP, hkP, hkPi⟩ := Cond.selects_spec hsel
  cases hn.symm.trans q3
  have hl9 : As.length = r.sig.parameters.length := by
    rw [hsigR] at hlen
    exact (Option.some.inj hlen).symm
  obtain ⟨vm', X1, st1⟩ := X.invokevirtualNull hexec hown hlink hn hrm hstR hkP hkPi hx (g := F0 m pc ls st0) rfl (argsL := As) (rest := rest) hl9 hst (by rw [hb]; exact hdg)
  obtain ⟨t, st, q⟩ := k (T.setVm vm') hT X1
  exact ⟨t, st1 t st, q⟩
theorem vx_newarrayZ {atype : ArrayType} (hexec : p.tables.exec = Jvm.exec) (hb : c.code = cc) {n : Int32} (h0 : n < 0) (hdg : decode cc pc = .ok (.newarray atype, 2)) (k : ∀ tx : String, tx = toString n → vx_Note p l e R s m args below meth c H locs cells slots Q (F0 m pc ls rest) "java/lang/NegativeArraySizeException" tx) : W p l e R s m args below meth c H locs cells slots Q (F0 m pc ls (.int n :: rest)) := by
  intro T hT X
  obtain ⟨t, st, q⟩ := k _ rfl T hT X
  exact ⟨t, X.newarrayNegative hexec (g := F0 m pc ls (.int n :: rest)) rfl h0 (rest := rest) rfl (by rw [hb]; exact hdg) t st, q⟩
end
end VXM
/-! ===== END ===== -/
/-! ===== BEGIN an exception as an object: made, kept, thrown later (no traces kept) ===== -/
section VXK
variable {p : Program} {l : Launch} {e : Env} {R : Room} {s : State} {m₀ : MethodId} {args : Array Value} {below : List Frame} {meth : Method} {c : Code} {W : State} {locs : List Loc} {cells slots : Nat}
set_option maxHeartbeats 1000000 in
theorem vx_ctorMadeS (X : Stand p l e R s m₀ args below meth c W locs cells slots) (hexec : p.tables.exec = Jvm.exec) (htr : e.platform.stackTraces = false) {own cls : String} {names : List String} {ic : Nat}
    (hown : s.vm.findClass own = some m₀.cls) (hcls : Bundle.fit cls = true) (hnames : ∀ n ∈ names, Bundle.fit n = true)
    (h : ∀ a ∈ Bundle.ownAtoms own ic cls names, a.before args s = true)
    (hlocs : ∀ x ∈ locs, ∀ cell, s.heap[x.base]? = some cell → cell.vm.isStatics = false)
    {a : Addr} {cX : ClassId} {kX : Class} (hfoundX : s.vm.findClass cls = some cX) (hkX : s.vm.classes[cX]? = some kX) (hcell : W.heap[a]? = some (freshCell cX kX)) (hnew : s.heap.size ≤ a)
    {msg : Value} (hmsg : msg.isRef = true)
    {g : JFrame} (hg : g.method = m₀) (hsize : g.locals.size = c.maxLocals) {rest : List Value} (hstack : g.stack = msg :: .ref a :: .ref a :: rest)
    (hd6 : decode c.code g.pc = .ok (.invokespecial ic, 3))
    (hRframes : names.length + 3 < R.frames) (hRlocals : 2 * g.monitorRoom + ((Value.ref a :: rest).map fun v => v.category).sum + (13 * (names.length + 1) + 42) ≤ R.locals) :
    ∃ (V : State) (ce : Cell) (L : List Loc), Stand p l e R s m₀ args below meth c (V.setCell a ce) (locs ++ L) cells slots ∧ (∀ y ∈ L, y.base = a) ∧ a < V.heap.size ∧ ce.cls = cX ∧ ce.vm = .none ∧
      ∀ target, Steps p.tables e below ((V.setCell a ce).setTop { g with stack := .ref a :: rest, pc := g.pc + 3 }) target → Steps p.tables e below (W.setTop g) target := by
  have howns : e.platform.frameOwnsMonitors = true := by rw [X.admits.platform]
  have hfin : e.platform.finalization = false := by rw [X.admits.platform]
  have hpl : e.platform.magicAccessors = ({} : Platform).magicAccessors := by rw [X.admits.platform]
  have a' : ∀ x, x ∈ Bundle.ownAtoms own ic cls names → x.holds args s none s [] = true := fun x hx => h x hx
  obtain ⟨T, Z0, L, -, Y⟩ := ThrowableC.of_atoms (args := args) howns hfin hpl (fun x hx => h x (by simp [Bundle.ownAtoms, hx]))
  obtain ⟨Z, M, LZ, LM, hnZ⟩ := Init0T.ofS_atoms (args := args) hpl L Y (fun x hx => h x (by simp [Bundle.ownAtoms, hx]))
  obtain ⟨P1, Ps, hlen, L1, hL, hP1m, hlink1, hlink⟩ := Bundle.chainS (args := args) hpl hnZ names cls hcls hnames (fun x hx => h x (by simp [Bundle.ownAtoms, hx]))
  have hfound : s.vm.findClass cls = some P1.m.cls := findClass_of_methodNamed hP1m
  cases Option.some.inj (hfoundX.symm.trans hfound)
  obtain ⟨c1, kX', hc1, hk, hord, -, -, hn6⟩ := Cond.instantiable_spec (a' (.instantiable cls 6) (by simp [Bundle.ownAtoms]))
  cases Option.some.inj (hc1.symm.trans hfound)
  cases Option.some.inj (hkX.symm.trans hk)
  have hsel0 : selectMethod e.platform s.vm P1.m.cls T.fill0 = .method T.fill0 := by
    obtain ⟨c2, r2, m2, q1, q2, q3, q4, -⟩ := Cond.selects_spec (a' (.selects cls Bundle.tFill0 Bundle.tFill0) (by simp [Bundle.ownAtoms]))
    cases Option.some.inj (q1.symm.trans hfound)
    cases Option.some.inj (q2.symm.trans (State.methodFound?_of_named Y.fill0 (by decide)))
    cases Option.some.inj (q3.symm.trans Y.fill0)
    rw [Launch.admits_selectMethod X.admits]; exact q4
  have hselF : selectMethod e.platform s.vm P1.m.cls T.fill = .method T.fill := by
    obtain ⟨c2, r2, m2, q1, q2, q3, q4, -⟩ := Cond.selects_spec (a' (.selects cls Bundle.tFill Bundle.tFill) (by simp [Bundle.ownAtoms]))
    cases Option.some.inj (q1.symm.trans hfound)
    cases Option.some.inj (q2.symm.trans (State.methodFound?_of_named Y.fill (by decide)))
    cases Option.some.inj (q3.symm.trans Y.fill)
    rw [Launch.admits_selectMethod X.admits]; exact q4
  obtain ⟨cellS0, hcS0, hiss⟩ := Y.statics
  obtain ⟨u0, hu0⟩ := Cond.staticRefV Y.unassigned L.unassignedStatic L.statics hcS0 hiss (a' (.isRef (.static Bundle.tN "UNASSIGNED_STACK" Bundle.steD)) (by simp [Bundle.ownAtoms]))
  obtain ⟨sen, hsen⟩ := Cond.staticRefV Y.sentinel L.sentinelStatic L.statics hcS0 hiss (a' (.isRef (.static Bundle.tN "SUPPRESSED_SENTINEL" Bundle.listD)) (by simp [Bundle.ownAtoms]))
  obtain ⟨ci198, i198, fB, hk198, hg198, ha198, hsB, -, hnB, htB, hffB⟩ := Cond.ownField (t := .object "java/lang/Object") Y.found L.cls (by decide +kernel) (a' (.fieldLink Bundle.tN 198 Bundle.tN "backtrace" "Ljava/lang/Object;") (by simp [Bundle.ownAtoms])) (a' (.lays Bundle.tN Bundle.tN "backtrace" "Ljava/lang/Object;") (by simp [Bundle.ownAtoms])) e.platform hpl
  obtain ⟨cellS, hcS', heS, -, hkeep⟩ := X.same.2.2.2.2.2 T.aS cellS0 hcS0
  have hcellS : W.heap[T.aS]? = some cellS := hcS'
  have hout' : ∀ i, (⟨T.aS, i⟩ : Loc) ∉ locs := fun i hmem => by
    have := hlocs _ hmem cellS0 hcS0
    rw [hiss] at this; cases this
  have hknownS : cellS.vm ≠ .unknown := by
    rw [heS]; intro hu
    rw [show cellS0.vm = .unknown from hu] at hiss
    cases hiss
  have hneS : T.aS ≠ a := Nat.ne_of_lt (Nat.lt_of_lt_of_le (Array.getElem?_eq_some_iff.mp hcS0).1 hnew)
  obtain ⟨iM, hffM⟩ := Y.msg
  obtain ⟨tyC, dC, hdC, hdnC⟩ := Cond.laysAt hfound hk Y.cause (a' (.lays cls Bundle.tN "cause" "Ljava/lang/Throwable;") (by simp [Bundle.ownAtoms]))
  obtain ⟨tyS, dS, hdS, hdnS⟩ := Cond.laysAt hfound hk Y.stack (a' (.lays cls Bundle.tN "stackTrace" Bundle.steD) (by simp [Bundle.ownAtoms]))
  obtain ⟨tyP, dP, hdP, hdnP⟩ := Cond.laysAt hfound hk Y.supp (a' (.lays cls Bundle.tN "suppressedExceptions" Bundle.listD) (by simp [Bundle.ownAtoms]))
  obtain ⟨tyM, dM, hdM, hdnM⟩ := Cond.laysAt hfound hk hffM (a' (.lays cls Bundle.tN "detailMessage" "Ljava/lang/String;") (by simp [Bundle.ownAtoms]))
  obtain ⟨tyB, dB, hdB, hdnB⟩ := Cond.laysAt hfound hk hffB (a' (.lays cls Bundle.tN "backtrace" "Ljava/lang/Object;") (by simp [Bundle.ownAtoms]))
  have bC := Cond.laysApart hdB hdC hdnB hdnC (by rw [hnB, Y.causeName]; decide)
  have bS := Cond.laysApart hdB hdS hdnB hdnS (by rw [hnB, Y.stackName]; decide)
  have bP := Cond.laysApart hdB hdP hdnB hdnP (by rw [hnB, Y.suppName]; decide)
  have hskip : SkipFacts T e.platform s (fun u => u) u0 ((preparedCellV T.toThrowableT (freshCell P1.m.cls kX) a u0 sen).withEntry W.cur) :=
    ⟨{ ci198 := ci198, i198 := i198, fBack := fB }, ⟨hk198, hg198, ha198, hsB⟩, by
      have := fresh_default (c := P1.m.cls) tyB
      rw [htB] at this
      simpa [preparedCellV, Cell.setSlot, Cell.withEntry, Array.getElem?_setIfInBounds, bC, bS, bP, bC.symm, bS.symm, bP.symm, defaultValue] using this, fun _ _ => rfl⟩
  obtain ⟨tm, methC, cdC, kC, vm₁, hnC, -, -, -, -, -, -, -, hW₁, st1⟩ := Steps.initColdS (tb := p.tables) (e := e) (below := below) (s := s) (U := W) X.here hexec X.warmed hpl hown (t := Bundle.initS cls) rfl rfl (Bundle.fit_spec hcls).2
    (a' (.methodLink own ic (Bundle.initS cls)) (by simp [Bundle.ownAtoms])) (h (.instanceMethod (Bundle.initS cls)) (by cases names <;> simp [Bundle.ownAtoms, Bundle.chainSAtoms, Bundle.passSAtoms])) (bytes := Bundle.six) (maxL := 2) (h (.code (Bundle.initS cls) Bundle.six 2 none) (by cases names <;> simp [Bundle.ownAtoms, Bundle.chainSAtoms, Bundle.passSAtoms]))
    (f := g) hg (a := a) (msg := msg) (rest := .ref a :: rest) hstack hd6
  cases Option.some.inj (hnC.symm.trans hP1m)
  have X₁ := X.noted hW₁
  obtain ⟨vm₂, X₂, st2⟩ := X₁.ctorMessageOffV hexec (g := { g with stack := .ref a :: rest }) hg hsize T L Z LZ M LM (P1 :: Ps)
    (fun P hP => by rcases List.mem_cons.mp hP with rfl | hP; exact L1; exact hL P hP) ⟨hlink1, hlink⟩ (u0 := u0) (sen := sen) (self := a) hmsg (cell := freshCell P1.m.cls kX) (cellS := cellS)
    hcell (fun _ => by simp) (by simp) rfl rfl hsel0 hselF hcellS hneS hknownS (by rw [hkeep _ (hout' _)]; exact hu0) (by rw [hkeep _ (hout' _)]; exact hsen)
    (Takes.of_laid hk hord tyC (by rw [Y.causeType]; rfl)) (Takes.of_laid hk hord tyS (by rw [Y.stackType]; exact fits_refV_array _ u0)) (Takes.of_laid hk hord tyP (by rw [Y.suppType]; exact fits_refV_object _ sen))
    (Takes.of_laid hk hord tyM (by rw [Y.msgType]; exact fits_refV_object _ ⟨msg, hmsg⟩)) Y.objLocals hskip htr [] hd6
    (by simp only [List.length_cons, hlen]; omega) (by simp only [List.length_cons, hlen]; exact hRlocals)
  have hlt : a < ((W.setVm vm₁).setVm vm₂).heap.size := (Array.getElem?_eq_some_iff.mp hcell).1
  refine ⟨(W.setVm vm₁).setVm vm₂, _, _, X₂, fun y hy => ?_, hlt, rfl, rfl, fun target hwalk => st1 _ (fun acts => ?_)⟩
  · simp only [List.mem_cons, List.not_mem_nil, or_false] at hy
    rcases hy with rfl | rfl | rfl | rfl | rfl <;> rfl
  · rw [doInvoke_state]
    exact st2 _ hwalk
set_option maxHeartbeats 1000000 in
theorem vx_ctorMade0 (X : Stand p l e R s m₀ args below meth c W locs cells slots) (hexec : p.tables.exec = Jvm.exec) (htr : e.platform.stackTraces = false) {own cls : String} {names : List String} {ic : Nat}
    (hown : s.vm.findClass own = some m₀.cls) (hcls : Bundle.fit cls = true) (hnames : ∀ n ∈ names, Bundle.fit n = true)
    (h : ∀ a ∈ Bundle.ownAtoms0 own ic cls names, a.before args s = true)
    (hlocs : ∀ x ∈ locs, ∀ cell, s.heap[x.base]? = some cell → cell.vm.isStatics = false)
    {a : Addr} {cX : ClassId} {kX : Class} (hfoundX : s.vm.findClass cls = some cX) (hkX : s.vm.classes[cX]? = some kX) (hcell : W.heap[a]? = some (freshCell cX kX)) (hnew : s.heap.size ≤ a)
    {g : JFrame} (hg : g.method = m₀) (hsize : g.locals.size = c.maxLocals) {rest : List Value} (hstack : g.stack = .ref a :: .ref a :: rest)
    (hd6 : decode c.code g.pc = .ok (.invokespecial ic, 3))
    (hRframes : names.length + 3 < R.frames) (hRlocals : 2 * g.monitorRoom + ((Value.ref a :: rest).map fun v => v.category).sum + (13 * (names.length + 1) + 41) ≤ R.locals) :
    ∃ (V : State) (ce : Cell) (L : List Loc), Stand p l e R s m₀ args below meth c (V.setCell a ce) (locs ++ L) cells slots ∧ (∀ y ∈ L, y.base = a) ∧ a < V.heap.size ∧ ce.cls = cX ∧ ce.vm = .none ∧
      ∀ target, Steps p.tables e below ((V.setCell a ce).setTop { g with stack := .ref a :: rest, pc := g.pc + 3 }) target → Steps p.tables e below (W.setTop g) target := by
  have howns : e.platform.frameOwnsMonitors = true := by rw [X.admits.platform]
  have hfin : e.platform.finalization = false := by rw [X.admits.platform]
  have hpl : e.platform.magicAccessors = ({} : Platform).magicAccessors := by rw [X.admits.platform]
  have a' : ∀ x, x ∈ Bundle.ownAtoms0 own ic cls names → x.holds args s none s [] = true := fun x hx => h x hx
  obtain ⟨T, Z, L, LZ, Y⟩ := ThrowableC.of_atoms (args := args) howns hfin hpl (fun x hx => h x (by simp [Bundle.ownAtoms0, hx]))
  obtain ⟨P1, Ps, hlen, L1, hL, hP1m, hlink1, hlink⟩ := Bundle.chain0 (args := args) hpl Y.init0 names cls hcls hnames (fun x hx => h x (by simp [Bundle.ownAtoms0, hx]))
  have hfound : s.vm.findClass cls = some P1.m.cls := findClass_of_methodNamed hP1m
  cases Option.some.inj (hfoundX.symm.trans hfound)
  obtain ⟨c1, kX', hc1, hk, hord, -, -, hn6⟩ := Cond.instantiable_spec (a' (.instantiable cls 6) (by simp [Bundle.ownAtoms0]))
  cases Option.some.inj (hc1.symm.trans hfound)
  cases Option.some.inj (hkX.symm.trans hk)
  have hsel0 : selectMethod e.platform s.vm P1.m.cls T.fill0 = .method T.fill0 := by
    obtain ⟨c2, r2, m2, q1, q2, q3, q4, -⟩ := Cond.selects_spec (a' (.selects cls Bundle.tFill0 Bundle.tFill0) (by simp [Bundle.ownAtoms0]))
    cases Option.some.inj (q1.symm.trans hfound)
    cases Option.some.inj (q2.symm.trans (State.methodFound?_of_named Y.fill0 (by decide)))
    cases Option.some.inj (q3.symm.trans Y.fill0)
    rw [Launch.admits_selectMethod X.admits]; exact q4
  have hselF : selectMethod e.platform s.vm P1.m.cls T.fill = .method T.fill := by
    obtain ⟨c2, r2, m2, q1, q2, q3, q4, -⟩ := Cond.selects_spec (a' (.selects cls Bundle.tFill Bundle.tFill) (by simp [Bundle.ownAtoms0]))
    cases Option.some.inj (q1.symm.trans hfound)
    cases Option.some.inj (q2.symm.trans (State.methodFound?_of_named Y.fill (by decide)))
    cases Option.some.inj (q3.symm.trans Y.fill)
    rw [Launch.admits_selectMethod X.admits]; exact q4
  obtain ⟨cellS0, hcS0, hiss⟩ := Y.statics
  obtain ⟨u0, hu0⟩ := Cond.staticRefV Y.unassigned L.unassignedStatic L.statics hcS0 hiss (a' (.isRef (.static Bundle.tN "UNASSIGNED_STACK" Bundle.steD)) (by simp [Bundle.ownAtoms0]))
  obtain ⟨sen, hsen⟩ := Cond.staticRefV Y.sentinel L.sentinelStatic L.statics hcS0 hiss (a' (.isRef (.static Bundle.tN "SUPPRESSED_SENTINEL" Bundle.listD)) (by simp [Bundle.ownAtoms0]))
  obtain ⟨ci198, i198, fB, hk198, hg198, ha198, hsB, -, hnB, htB, hffB⟩ := Cond.ownField (t := .object "java/lang/Object") Y.found L.cls (by decide +kernel) (a' (.fieldLink Bundle.tN 198 Bundle.tN "backtrace" "Ljava/lang/Object;") (by simp [Bundle.ownAtoms0])) (a' (.lays Bundle.tN Bundle.tN "backtrace" "Ljava/lang/Object;") (by simp [Bundle.ownAtoms0])) e.platform hpl
  obtain ⟨cellS, hcS', heS, -, hkeep⟩ := X.same.2.2.2.2.2 T.aS cellS0 hcS0
  have hcellS : W.heap[T.aS]? = some cellS := hcS'
  have hout' : ∀ i, (⟨T.aS, i⟩ : Loc) ∉ locs := fun i hmem => by
    have := hlocs _ hmem cellS0 hcS0
    rw [hiss] at this; cases this
  have hknownS : cellS.vm ≠ .unknown := by
    rw [heS]; intro hu
    rw [show cellS0.vm = .unknown from hu] at hiss
    cases hiss
  have hneS : T.aS ≠ a := Nat.ne_of_lt (Nat.lt_of_lt_of_le (Array.getElem?_eq_some_iff.mp hcS0).1 hnew)
  obtain ⟨iM, hffM⟩ := Y.msg
  obtain ⟨tyC, dC, hdC, hdnC⟩ := Cond.laysAt hfound hk Y.cause (a' (.lays cls Bundle.tN "cause" "Ljava/lang/Throwable;") (by simp [Bundle.ownAtoms0]))
  obtain ⟨tyS, dS, hdS, hdnS⟩ := Cond.laysAt hfound hk Y.stack (a' (.lays cls Bundle.tN "stackTrace" Bundle.steD) (by simp [Bundle.ownAtoms0]))
  obtain ⟨tyP, dP, hdP, hdnP⟩ := Cond.laysAt hfound hk Y.supp (a' (.lays cls Bundle.tN "suppressedExceptions" Bundle.listD) (by simp [Bundle.ownAtoms0]))
  obtain ⟨tyM, dM, hdM, hdnM⟩ := Cond.laysAt hfound hk hffM (a' (.lays cls Bundle.tN "detailMessage" "Ljava/lang/String;") (by simp [Bundle.ownAtoms0]))
  obtain ⟨tyB, dB, hdB, hdnB⟩ := Cond.laysAt hfound hk hffB (a' (.lays cls Bundle.tN "backtrace" "Ljava/lang/Object;") (by simp [Bundle.ownAtoms0]))
  have bC := Cond.laysApart hdB hdC hdnB hdnC (by rw [hnB, Y.causeName]; decide)
  have bS := Cond.laysApart hdB hdS hdnB hdnS (by rw [hnB, Y.stackName]; decide)
  have bP := Cond.laysApart hdB hdP hdnB hdnP (by rw [hnB, Y.suppName]; decide)
  have hskip : SkipFacts T e.platform s (fun u => u) u0 ((preparedCellV T.toThrowableT (freshCell P1.m.cls kX) a u0 sen).withEntry W.cur) :=
    ⟨{ ci198 := ci198, i198 := i198, fBack := fB }, ⟨hk198, hg198, ha198, hsB⟩, by
      have := fresh_default (c := P1.m.cls) tyB
      rw [htB] at this
      simpa [preparedCellV, Cell.setSlot, Cell.withEntry, Array.getElem?_setIfInBounds, bC, bS, bP, bC.symm, bS.symm, bP.symm, defaultValue] using this, fun _ _ => rfl⟩
  obtain ⟨tm, methC, cdC, kC, vm₁, hnC, -, -, -, -, -, -, -, hW₁, st1⟩ := Steps.initCold (tb := p.tables) (e := e) (below := below) (s := s) (U := W) X.here hexec X.warmed hpl hown (t := Bundle.init0 cls) rfl rfl (Bundle.fit_spec hcls).2
    (a' (.methodLink own ic (Bundle.init0 cls)) (by simp [Bundle.ownAtoms0])) (h (.instanceMethod (Bundle.init0 cls)) (by cases names <;> simp [Bundle.ownAtoms0, Bundle.chain0Atoms, Bundle.passAtoms])) (bytes := Bundle.five) (maxL := 1) (h (.code (Bundle.init0 cls) Bundle.five 1 none) (by cases names <;> simp [Bundle.ownAtoms0, Bundle.chain0Atoms, Bundle.passAtoms]))
    (f := g) hg (a := a) (rest := .ref a :: rest) hstack hd6
  cases Option.some.inj (hnC.symm.trans hP1m)
  have X₁ := X.noted hW₁
  obtain ⟨vm₂, X₂, st2⟩ := X₁.ctorPlainOffV hexec (g := { g with stack := .ref a :: rest }) hg hsize T L Z LZ (P1 :: Ps)
    (fun P hP => by rcases List.mem_cons.mp hP with rfl | hP; exact L1; exact hL P hP) ⟨hlink1, hlink⟩ (u0 := u0) (sen := sen) (self := a) (cell := freshCell P1.m.cls kX) (cellS := cellS)
    hcell (fun _ => by simp) (by simp) rfl rfl hsel0 hselF hcellS hneS hknownS (by rw [hkeep _ (hout' _)]; exact hu0) (by rw [hkeep _ (hout' _)]; exact hsen)
    (Takes.of_laid hk hord tyC (by rw [Y.causeType]; rfl)) (Takes.of_laid hk hord tyS (by rw [Y.stackType]; exact fits_refV_array _ u0)) (Takes.of_laid hk hord tyP (by rw [Y.suppType]; exact fits_refV_object _ sen)) Y.objLocals hskip htr [] hd6
    (by simp only [List.length_cons, hlen]; omega) (by simp only [List.length_cons, hlen]; exact hRlocals)
  have hlt : a < ((W.setVm vm₁).setVm vm₂).heap.size := (Array.getElem?_eq_some_iff.mp hcell).1
  refine ⟨(W.setVm vm₁).setVm vm₂, _, _, X₂, fun y hy => ?_, hlt, rfl, rfl, fun target hwalk => st1 _ (fun acts => ?_)⟩
  · simp only [List.mem_cons, List.not_mem_nil, or_false] at hy
    rcases hy with rfl | rfl | rfl | rfl <;> rfl
  · rw [doInvoke_state]
    exact st2 _ hwalk
end VXK
section VXK2
variable {p : Program} {l : Launch} {e : Env} {R : Room} {s : State} {m : MethodId} {args : Array Value} {below : List Frame} {meth : Method} {c : Code} {H : Heap} {locs : List Loc} {cells slots : Nat} {Q : State → Prop}
variable {ls : Array Slot} {rest : List Value} {D : va_G} {cl : List vw_C} {tys : List (ClassId × FieldType)} {ws : va_W}
/-- 'new E("text")' that isn't thrown at once: the object goes on the stack -/
theorem vx_makeS {cc : ByteArray} {pc : Nat} (hexec : p.tables.exec = Jvm.exec) (hb : c.code = cc) (hl : l.stackTraces = false) {own cls text : String} {names : List String} {ik is ic sa ci : Nat} {A : Nat → Prop} {T0 : u_T}
    (hown : s.vm.findClass own = some m.cls) (hcls : Bundle.fit cls = true) (hnames : ∀ n ∈ names, Bundle.fit n = true)
    (hk : (Cond.classLink own ik cls).before args s = true) (hini : (Cond.initialized cls).before args s = true) (hstr : vk_R own is text sa s) (hat : ∀ w ∈ vx_atS own ic cls names, w.before args s = true)
    (hgood : ∀ w ∈ Cond.classLink own ik cls :: Cond.initialized cls :: vx_atS own ic cls names, vx_ot w = true)
    (hU : vx_Zq Bundle.tN "UNASSIGNED_STACK" Bundle.steD A s s.heap) (hN : vx_Zq Bundle.tN "SUPPRESSED_SENTINEL" Bundle.listD A s s.heap) (hS : va_S A s.heap H locs) (hsize : ls.size = c.maxLocals)
    (d0 : decode cc pc = .ok (.new ik, 3)) (d3 : decode cc (pc + 3) = .ok (.dup, 1)) (d4 : decode cc (pc + 4) = .ok (.ldc is, 2)) (d6 : decode cc (pc + 6) = .ok (.invokespecial ic, 3))
    (hK : va_K D cl tys s) (hP : va_P D cl ws H) (hD : va_D A ws) (hA : ∀ q, s.heap.size ≤ q → A q) (hc : cl[ci]? = some (cls, T0, 0))
    (hRframes : names.length + 3 < R.frames) (hRlocals : (rest.map fun v => v.category).sum + (13 * (names.length + 1) + 43) ≤ R.locals) (hRcells : cells + 1 ≤ R.cells) (hRslots : slots + 6 ≤ R.slots)
    (kk : ∀ (q : Nat) (H1 : Heap), va_P D cl (ws ++ [(q, .inr (ci, []))]) H1 → va_D A (ws ++ [(q, .inr (ci, []))]) → va_S A s.heap H1 locs → W p l e R s m args below meth c H1 locs (cells + 1) (slots + 6) Q (F0 m (pc + 9) ls (.ref q :: rest))) :
    W p l e R s m args below meth c H locs cells slots Q (F0 m pc ls rest) := by
  intro T hT X
  subst hT
  have htr : e.platform.stackTraces = false := (show e.platform.stackTraces = l.stackTraces by rw [X.admits.platform]).trans hl
  have Y := vx_rebase X (R' := { frames := R.frames, locals := R.locals, cells := 1, slots := 6 }) (Nat.le_refl _) (Nat.le_refl _) hRcells hRslots
  obtain ⟨s', hA'⟩ : ∃ z, z = (T.setVm s.vm).setFrames (.invoking m args :: below) := ⟨_, rfl⟩
  rw [← hA'] at Y
  have hvm : s'.vm = s.vm := by rw [hA']; rfl
  have hhp : s'.heap = T.heap := by rw [hA']; rfl
  have hW0 : s.WarmedH s'.vm := by rw [hvm]; exact State.WarmedH.refl s
  have hat' : ∀ w ∈ vx_atS own ic cls names, w.before args s' = true := fun w hw => vx_ot_at hW0 hvm.symm (hgood w (List.mem_cons_of_mem _ (List.mem_cons_of_mem _ hw))) (hat w hw)
  have hk' : (Cond.classLink own ik cls).before args s' = true := vx_ot_at hW0 hvm.symm (hgood _ List.mem_cons_self) hk
  have hini' : (Cond.initialized cls).before args s' = true := vx_ot_at hW0 hvm.symm (hgood _ (List.mem_cons_of_mem _ List.mem_cons_self)) hini
  have hU' : vx_Zq Bundle.tN "UNASSIGNED_STACK" Bundle.steD A s' s'.heap := by rw [hhp]; exact vx_Zq.moved hW0.alike (hU.kept hS.2.1)
  have hN' : vx_Zq Bundle.tN "SUPPRESSED_SENTINEL" Bundle.listD A s' s'.heap := by rw [hhp]; exact vx_Zq.moved hW0.alike (hN.kept hS.2.1)
  have h : ∀ w ∈ Bundle.ownAtoms own ic cls names, w.before args s' = true := vx_own hat' (vx_isRefq hU'.1) (vx_isRefq hN'.1) hU'.2.word hN'.2.word
  have hown' : s'.vm.findClass own = some m.cls := by rw [hvm]; exact hown
  have hins : (Cond.instantiable cls 6).before args s' = true := h _ (by simp [Bundle.ownAtoms])
  obtain ⟨vm₁, cX, kX, hfX, hkX, -, -, X₁, st1⟩ := Y.newCold hexec (own := own) (C := cls) (index := ik) (n := 6) hown' hk' hins hini'
    (g := F0 m pc ls rest) rfl (by rw [hb]; exact d0) (Nat.le_refl _) (Nat.le_refl _)
  generalize hT1 : (T.setVm vm₁).pushCell { cls := cX, slots := kX.instanceTypes.map defaultValue, vm := .none } = T1 at X₁ st1
  have hcat : (Value.ref T.heap.size).category = 1 := rfl
  have hcellA : T1.heap[T.heap.size]? = some (freshCell cX kX) := by rw [← hT1]; exact State.heap_pushCell_size _ _
  have d3' : decode c.code (pc + 3) = .ok (.dup, 1) := by rw [hb]; exact d3
  have d4' : decode c.code (pc + 4) = .ok (.ldc is, 2) := by rw [hb]; exact d4
  have hstr' : vk_R own is text sa s' := vk_R.warm hW0 hstr
  obtain ⟨V, ce, L, Z, hL, hlt, hcl9, hvm9, st⟩ := vx_ctorMadeS X₁ hexec htr (own := own) (cls := cls) (names := names) (ic := ic) hown' hcls hnames h (fun x hx => nomatch hx) hfX hkX hcellA (by rw [hhp]; exact Nat.le_refl _) (msg := .ref sa) rfl
    (g := { method := m, pc := pc + 6, locals := ls, stack := .ref sa :: .ref T.heap.size :: .ref T.heap.size :: rest, locked := none }) rfl hsize (rest := rest) rfl
    (by rw [hb]; exact d6) hRframes (by simp only [List.map_cons, List.sum_cons, hcat]; omega)
  have Z0 := Stand.forget (locs := []) Z (fun y hy => by rw [hL y hy, hhp]; exact Nat.le_refl _)
  obtain ⟨f1, f2⟩ := vx_frame Z0.same
  rw [hhp] at f1 f2
  have hcid : ce.cls = D.1 ci := by
    rw [hcl9]
    have h1 := (hK.1 ci _ hc).2.1
    rw [hvm] at hfX
    exact Option.some.inj (hfX.symm.trans h1)
  have hh : (V.setCell T.heap.size ce).heap[T.heap.size]? = some ce := heapAt_setCell_self (s := V) ce hlt
  subst hA'
  have X5 := vx_back9 X Y Z0
  have X6 : Stand p l e R s m args below meth c (V.setCell T.heap.size ce) locs (cells + 1) (slots + 6) := { X5 with same := X5.same.mono (by omega) (by omega) }
  have hk9 : ∀ (k : Nat) (x : Nat × va_E), ws[k]? = some x → (V.setCell T.heap.size ce).heap[x.1]? = T.heap[x.1]? := fun k x hx => f2 x.1 ((hP k x hx).lt) (fun z hz => nomatch hz)
  obtain ⟨t, a1, b1⟩ := kk T.heap.size (V.setCell T.heap.size ce).heap ((hP.kept hk9).app (fun k x hx => by
      have hz : k < 1 := (List.getElem?_eq_some_iff.mp hx).1
      rw [show k = 0 by omega] at hx
      cases hx
      exact ⟨_, hc, ce, hh, hcid, hvm9, fun k hk => absurd hk (Nat.not_lt_zero k)⟩)) (hD.push hP rfl (hA _ hS.1)) ⟨Nat.le_trans hS.1 f1, fun q h1 h2 => (f2 q (Nat.lt_of_lt_of_le h1 hS.1) (fun z hz => nomatch hz)).trans (hS.2.1 q h1 h2), hS.2.2⟩ _ rfl X6
  refine ⟨t, st1 _ ?_, b1⟩
  show Steps p.tables e below (T1.setTop { method := m, pc := pc + 3, locals := ls, stack := .ref T.heap.size :: rest, locked := none }) _
  jvm_step X₁.here [X₁.here.top, hexec, d3', Value.category]
  exact X₁.ldcString hexec (own := own) (text := text) (index := is) (a := sa) hown' hstr'.1 hstr'.2
    (g := { method := m, pc := pc + 4, locals := ls, stack := .ref T.heap.size :: .ref T.heap.size :: rest, locked := none }) rfl d4' _ (st _ a1)
/-- 'new E()' that isn't thrown at once: the object goes on the stack -/
theorem vx_make0 {cc : ByteArray} {pc : Nat} (hexec : p.tables.exec = Jvm.exec) (hb : c.code = cc) (hl : l.stackTraces = false) {own cls : String} {names : List String} {ik ic ci : Nat} {A : Nat → Prop} {T0 : u_T}
    (hown : s.vm.findClass own = some m.cls) (hcls : Bundle.fit cls = true) (hnames : ∀ n ∈ names, Bundle.fit n = true)
    (hk : (Cond.classLink own ik cls).before args s = true) (hini : (Cond.initialized cls).before args s = true) (hat : ∀ w ∈ vx_at0 own ic cls names, w.before args s = true)
    (hgood : ∀ w ∈ Cond.classLink own ik cls :: Cond.initialized cls :: vx_at0 own ic cls names, vx_ot w = true)
    (hU : vx_Zq Bundle.tN "UNASSIGNED_STACK" Bundle.steD A s s.heap) (hN : vx_Zq Bundle.tN "SUPPRESSED_SENTINEL" Bundle.listD A s s.heap) (hS : va_S A s.heap H locs) (hsize : ls.size = c.maxLocals)
    (d0 : decode cc pc = .ok (.new ik, 3)) (d3 : decode cc (pc + 3) = .ok (.dup, 1)) (d4 : decode cc (pc + 4) = .ok (.invokespecial ic, 3))
    (hK : va_K D cl tys s) (hP : va_P D cl ws H) (hD : va_D A ws) (hA : ∀ q, s.heap.size ≤ q → A q) (hc : cl[ci]? = some (cls, T0, 0))
    (hRframes : names.length + 3 < R.frames) (hRlocals : (rest.map fun v => v.category).sum + (13 * (names.length + 1) + 42) ≤ R.locals) (hRcells : cells + 1 ≤ R.cells) (hRslots : slots + 6 ≤ R.slots)
    (kk : ∀ (q : Nat) (H1 : Heap), va_P D cl (ws ++ [(q, .inr (ci, []))]) H1 → va_D A (ws ++ [(q, .inr (ci, []))]) → va_S A s.heap H1 locs → W p l e R s m args below meth c H1 locs (cells + 1) (slots + 6) Q (F0 m (pc + 7) ls (.ref q :: rest))) :
    W p l e R s m args below meth c H locs cells slots Q (F0 m pc ls rest) := by
  intro T hT X
  subst hT
  have htr : e.platform.stackTraces = false := (show e.platform.stackTraces = l.stackTraces by rw [X.admits.platform]).trans hl
  have Y := vx_rebase X (R' := { frames := R.frames, locals := R.locals, cells := 1, slots := 6 }) (Nat.le_refl _) (Nat.le_refl _) hRcells hRslots
  obtain ⟨s', hA'⟩ : ∃ z, z = (T.setVm s.vm).setFrames (.invoking m args :: below) := ⟨_, rfl⟩
  rw [← hA'] at Y
  have hvm : s'.vm = s.vm := by rw [hA']; rfl
  have hhp : s'.heap = T.heap := by rw [hA']; rfl
  have hW0 : s.WarmedH s'.vm := by rw [hvm]; exact State.WarmedH.refl s
  have hat' : ∀ w ∈ vx_at0 own ic cls names, w.before args s' = true := fun w hw => vx_ot_at hW0 hvm.symm (hgood w (List.mem_cons_of_mem _ (List.mem_cons_of_mem _ hw))) (hat w hw)
  have hk' : (Cond.classLink own ik cls).before args s' = true := vx_ot_at hW0 hvm.symm (hgood _ List.mem_cons_self) hk
  have hini' : (Cond.initialized cls).before args s' = true := vx_ot_at hW0 hvm.symm (hgood _ (List.mem_cons_of_mem _ List.mem_cons_self)) hini
  have hU' : vx_Zq Bundle.tN "UNASSIGNED_STACK" Bundle.steD A s' s'.heap := by rw [hhp]; exact vx_Zq.moved hW0.alike (hU.kept hS.2.1)
  have hN' : vx_Zq Bundle.tN "SUPPRESSED_SENTINEL" Bundle.listD A s' s'.heap := by rw [hhp]; exact vx_Zq.moved hW0.alike (hN.kept hS.2.1)
  have h : ∀ w ∈ Bundle.ownAtoms0 own ic cls names, w.before args s' = true := vx_own hat' (vx_isRefq hU'.1) (vx_isRefq hN'.1) hU'.2.word hN'.2.word
  have hown' : s'.vm.findClass own = some m.cls := by rw [hvm]; exact hown
  have hins : (Cond.instantiable cls 6).before args s' = true := h _ (by simp [Bundle.ownAtoms0])
  obtain ⟨vm₁, cX, kX, hfX, hkX, -, -, X₁, st1⟩ := Y.newCold hexec (own := own) (C := cls) (index := ik) (n := 6) hown' hk' hins hini'
    (g := F0 m pc ls rest) rfl (by rw [hb]; exact d0) (Nat.le_refl _) (Nat.le_refl _)
  generalize hT1 : (T.setVm vm₁).pushCell { cls := cX, slots := kX.instanceTypes.map defaultValue, vm := .none } = T1 at X₁ st1
  have hcat : (Value.ref T.heap.size).category = 1 := rfl
  have hcellA : T1.heap[T.heap.size]? = some (freshCell cX kX) := by rw [← hT1]; exact State.heap_pushCell_size _ _
  have d3' : decode c.code (pc + 3) = .ok (.dup, 1) := by rw [hb]; exact d3
  obtain ⟨V, ce, L, Z, hL, hlt, hcl9, hvm9, st⟩ := vx_ctorMade0 X₁ hexec htr (own := own) (cls := cls) (names := names) (ic := ic) hown' hcls hnames h (fun x hx => nomatch hx) hfX hkX hcellA (by rw [hhp]; exact Nat.le_refl _)
    (g := { method := m, pc := pc + 4, locals := ls, stack := .ref T.heap.size :: .ref T.heap.size :: rest, locked := none }) rfl hsize (rest := rest) rfl
    (by rw [hb]; exact d4) hRframes (by simp only [List.map_cons, List.sum_cons, hcat]; omega)
  have Z0 := Stand.forget (locs := []) Z (fun y hy => by rw [hL y hy, hhp]; exact Nat.le_refl _)
  obtain ⟨f1, f2⟩ := vx_frame Z0.same
  rw [hhp] at f1 f2
  have hcid : ce.cls = D.1 ci := by
    rw [hcl9]
    have h1 := (hK.1 ci _ hc).2.1
    rw [hvm] at hfX
    exact Option.some.inj (hfX.symm.trans h1)
  have hh : (V.setCell T.heap.size ce).heap[T.heap.size]? = some ce := heapAt_setCell_self (s := V) ce hlt
  subst hA'
  have X5 := vx_back9 X Y Z0
  have X6 : Stand p l e R s m args below meth c (V.setCell T.heap.size ce) locs (cells + 1) (slots + 6) := { X5 with same := X5.same.mono (by omega) (by omega) }
  have hk9 : ∀ (k : Nat) (x : Nat × va_E), ws[k]? = some x → (V.setCell T.heap.size ce).heap[x.1]? = T.heap[x.1]? := fun k x hx => f2 x.1 ((hP k x hx).lt) (fun z hz => nomatch hz)
  obtain ⟨t, a1, b1⟩ := kk T.heap.size (V.setCell T.heap.size ce).heap ((hP.kept hk9).app (fun k x hx => by
      have hz : k < 1 := (List.getElem?_eq_some_iff.mp hx).1
      rw [show k = 0 by omega] at hx
      cases hx
      exact ⟨_, hc, ce, hh, hcid, hvm9, fun k hk => absurd hk (Nat.not_lt_zero k)⟩)) (hD.push hP rfl (hA _ hS.1)) ⟨Nat.le_trans hS.1 f1, fun q h1 h2 => (f2 q (Nat.lt_of_lt_of_le h1 hS.1) (fun z hz => nomatch hz)).trans (hS.2.1 q h1 h2), hS.2.2⟩ _ rfl X6
  refine ⟨t, st1 _ ?_, b1⟩
  show Steps p.tables e below (T1.setTop { method := m, pc := pc + 3, locals := ls, stack := .ref T.heap.size :: rest, locked := none }) _
  jvm_step X₁.here [X₁.here.top, hexec, d3', Value.category]
  exact st _ a1
/-- 'throw x' of an object that was made before -/
theorem vx_athrow {cc : ByteArray} {pc : Nat} (hexec : p.tables.exec = Jvm.exec) (hb : c.code = cc) {q : Addr} (hdg : decode cc pc = .ok (.athrow, 1)) (k : vx_W p l e R s m args below meth c H locs cells slots Q (F0 m pc ls rest) q) : W p l e R s m args below meth c H locs cells slots Q (F0 m pc ls (.ref q :: rest)) := by
  intro T hT X
  obtain ⟨t, st, hq⟩ := k T hT X
  refine ⟨t, ?_, hq⟩
  have hdg' : decode c.code pc = .ok (.athrow, 1) := by rw [hb]; exact hdg
  jvm_step X.here [X.here.top, hexec, hdg', athrow.wp_sem]
  exact st
end VXK2
/-! ===== END ===== -/
/-! ===== BEGIN a constructor that throws (launches without stack traces) ===== -/
section VXIA
variable {p : Program} {l : Launch} {e : Env} {R : Room} {s : State} {m : MethodId} {args : Array Value} {below : List Frame} {meth : Method} {c : Code} {T : State} {locs : List Loc} {cells slots : Nat}
theorem vx_callI (X : Stand p l e R s m args below meth c T locs cells slots) (hexec : p.tables.exec = Jvm.exec) {own : String} {index : Nat} {y : MethodName} {bytes : ByteArray} {maxL : Nat}
    (hown : s.vm.findClass own = some m.cls) (hy1 : y.name = "<init>") (hlink : (Cond.methodLink own index y).before args s = true) (hinst : (Cond.instanceMethod y).before args s = true)
    (hcode : (Cond.code y bytes maxL none).before args s = true) (hy : y.cls ≠ "java/lang/invoke/MethodHandle" ∧ y.cls ≠ "java/lang/invoke/VarHandle")
    {W9 : Nat} {Pre : Pt → Array Value → Prop} {Post : Pt → Array Value → Option Value → Pt → Prop} {PostX : Pt → Array Value → Addr → Pt → Prop} (hK : vx_Back l R p e below s args y 3 W9 Pre Post PostX)
    {g : JFrame} (hg : g.method = m) (hsize : g.locals.size = c.maxLocals) {a : Addr} {argsL rest : List Value} (hlen : ∀ sig, parseMethodDescriptor y.desc = some sig → argsL.length = sig.parameters.length)
    (hstack : g.stack = argsL.reverse ++ .ref a :: rest) (hW : 2 * g.monitorRoom + (rest.map fun v => v.category).sum ≤ W9) (hdg : decode c.code g.pc = .ok (.invokespecial index, 3))
    (hpre : ∀ vm₁, s.WarmedH vm₁ → Pre ⟨T.setVm vm₁, locs, cells, slots⟩ (Value.ref a :: argsL).toArray) :
    (∃ (v : Option Value) (vm₁ : Vm) (B : Pt), s.WarmedH vm₁ ∧ Stand p l e R s m args below meth c B.U B.locs B.cells B.slots ∧ Post ⟨T.setVm vm₁, locs, cells, slots⟩ (Value.ref a :: argsL).toArray v B ∧
      ∀ target, Steps p.tables e below (B.U.setTop { g with pc := g.pc + 3, stack := v.toList ++ rest }) target → Steps p.tables e below (T.setTop g) target) ∨
    (∃ (q : Addr) (vm₁ : Vm) (B : Pt), s.WarmedH vm₁ ∧ Stand p l e R s m args below meth c B.U B.locs B.cells B.slots ∧ PostX ⟨T.setVm vm₁, locs, cells, slots⟩ (Value.ref a :: argsL).toArray q B ∧
      Steps p.tables e below (T.setTop g) ((B.U.setTop { g with stack := rest }).pushFrame (.throwing q))) := by
  subst hg
  have hpl : e.platform.magicAccessors = ({} : Platform).magicAccessors := by rw [X.admits.platform]
  obtain ⟨mk, methM, cM, kP, vm₁, hnamed, hmethM, hcodeM, -, hlocalsM, -, hkP, -, hW₁, hstep₁⟩ := Steps.initColdArgs (e := e) X.here hexec X.warmed hpl hown hy1 hy hlink hinst hcode (f := g) rfl hlen hstack hdg
  have X₁ := X.noted hW₁
  rcases hK g.method meth c ⟨T.setVm vm₁, locs, cells, slots⟩ { g with stack := rest } (.invokespecial index) mk (Value.ref a :: argsL).toArray X₁ rfl hsize hdg hW (X₁.named hnamed) (hpre vm₁ X₁.warmed) with ⟨v, B, X', hpost, hsteps⟩ | ⟨q, B, X', hpost, hsteps⟩
  · exact Or.inl ⟨v, vm₁, B, X₁.warmed, X', hpost, fun target h => hstep₁ _ fun acts => by rw [doInvoke_state]; exact hsteps.trans h⟩
  · exact Or.inr ⟨q, vm₁, B, X₁.warmed, X', hpost, hstep₁ _ fun acts => by rw [doInvoke_state]; exact hsteps⟩
end VXIA
section VXIB
variable {p : Program} {l : Launch} {e : Env} {R : Room} {s : State} {m : MethodId} {args : Array Value} {below : List Frame} {meth : Method} {c : Code} {H : Heap} {locs : List Loc} {cells slots : Nat}
variable {y : MethodName} {bytes cc : ByteArray} {maxL nL mc ms n index : Nat} {ret : Option FieldType} {ws : List Cond} {rm : Room} {Pc : Array Value → State → Prop} {Qc : Array Value → State → Outcome → State → Prop} {XC : String → State → State → Prop} {free : Addr → Prop} {Ts : List Cond} {own C : String} {b : Addr} {As rest : List Value} {g : JFrame}
theorem vx_runI (S : CallFix p m c cc nL s args Ts own) (hM : vx_Met l y ws rm Pc Qc XC mc ms free) (cw : CallB R s args own index y bytes maxL none ws rm mc ms n ∧ y.name = "<init>" ∧ (Cond.instanceMethod y).before args s = true) (hp : PreS s H Pc (.ref b :: As))
    (hg : g.method = m) (hn : As.length = n) (hsize : g.locals.size = nL) (hstack : g.stack = As.reverse ++ .ref b :: rest) (hW : 2 * g.monitorRoom + (rest.map fun v => v.category).sum ≤ 8) (hdg : decode cc g.pc = .ok (.invokespecial index, 3)) (hf : cells + mc ≤ R.cells ∧ slots + ms ≤ R.slots) :
    vx_Run p l e R s m args below meth c H locs cells slots mc ms g rest (Qc (Value.ref b :: As).toArray) XC free := by
  have hK : vx_Back l R p e below s args y 3 8 (PreOf R mc ms Pc) (PostOf Qc mc ms free) (vx_Post XC mc ms free) := vx_callBack cw.1 hM hp.1
  obtain ⟨⟨-, -, -, -, -, -, hcode, -, hy, hlen, hl⟩, hy1, hin⟩ := cw
  obtain ⟨hx, hb, hml, ho, -⟩ := S
  have hPc := hp.2
  intro T hT X
  rcases vx_callI X hx (bytes := bytes) (maxL := maxL) ho hy1 hl hin hcode hy hK hg (hsize.trans hml.symm) (a := b) (argsL := As) (rest := rest) (fun sig h => hn.trans (hlen sig h)) hstack hW (by rw [hb]; exact hdg)
    (fun vm₁ hW₁ => ⟨hf.1, hf.2, hPc (T.setVm vm₁) hT hW₁⟩) with ⟨v, vm₁, ⟨U', l2, c2, s2⟩, hW₁, X', ⟨g', mk, t, L, e1, e2, hq, h1, hL, h2, h3⟩, st⟩ | ⟨q, vm₁, ⟨U', l2, c2, s2⟩, hW₁, X', ⟨g', mk, t, L, E, ce, e1, e2, hq, hce, hcv, hcl, h1, hL, h2, h3⟩, st⟩
  · dsimp only [Pt.U, Pt.locs, Pt.cells, Pt.slots] at X' e1 e2 h1 h2 h3 st
    subst h1; subst h2; subst h3
    exact Or.inl ⟨v, (T.setVm vm₁).calling g' mk (Value.ref b :: As).toArray, t, U', L, hT, X', hL, e1, e2, hq, st⟩
  · dsimp only [Pt.U, Pt.locs, Pt.cells, Pt.slots] at X' e1 e2 h1 h2 h3 st hcl
    subst h1; subst h2; subst h3
    exact Or.inr ⟨q, (T.setVm vm₁).calling g' mk (Value.ref b :: As).toArray, t, U', L, E, ce, hT, X', hL, e1, e2, hq, hce, hcv, vx_cls hW₁ hcl, st⟩
end VXIB
/-! ===== END ===== -/
/-! ===== BEGIN a private constructor of a nest mate that throws ===== -/
section VXIC
variable {p : Program} {l : Launch} {e : Env} {R : Room} {s : State} {m : MethodId} {args : Array Value} {below : List Frame} {meth : Method} {c : Code} {T : State} {locs : List Loc} {cells slots : Nat}
theorem vx_callIN (X : Stand p l e R s m args below meth c T locs cells slots) (hexec : p.tables.exec = Jvm.exec) {own : String} {index : Nat} {host : String} {y : MethodName} {bytes : ByteArray} {maxL : Nat}
    (hown : s.vm.findClass own = some m.cls) (hy1 : y.name = "<init>") (hlink : (Cond.methodLinkNest own index y host).before args s = true) (hinst : (Cond.instanceMethod y).before args s = true)
    (hcode : (Cond.code y bytes maxL none).before args s = true) (hy : y.cls ≠ "java/lang/invoke/MethodHandle" ∧ y.cls ≠ "java/lang/invoke/VarHandle")
    {W9 : Nat} {Pre : Pt → Array Value → Prop} {Post : Pt → Array Value → Option Value → Pt → Prop} {PostX : Pt → Array Value → Addr → Pt → Prop} (hK : vx_Back l R p e below s args y 3 W9 Pre Post PostX)
    {g : JFrame} (hg : g.method = m) (hsize : g.locals.size = c.maxLocals) {a : Addr} {argsL rest : List Value} (hlen : ∀ sig, parseMethodDescriptor y.desc = some sig → argsL.length = sig.parameters.length)
    (hstack : g.stack = argsL.reverse ++ .ref a :: rest) (hW : 2 * g.monitorRoom + (rest.map fun v => v.category).sum ≤ W9) (hdg : decode c.code g.pc = .ok (.invokespecial index, 3))
    (hpre : ∀ vm₁, s.WarmedH vm₁ → Pre ⟨T.setVm vm₁, locs, cells, slots⟩ (Value.ref a :: argsL).toArray) :
    (∃ (v : Option Value) (vm₁ : Vm) (B : Pt), s.WarmedH vm₁ ∧ Stand p l e R s m args below meth c B.U B.locs B.cells B.slots ∧ Post ⟨T.setVm vm₁, locs, cells, slots⟩ (Value.ref a :: argsL).toArray v B ∧
      ∀ target, Steps p.tables e below (B.U.setTop { g with pc := g.pc + 3, stack := v.toList ++ rest }) target → Steps p.tables e below (T.setTop g) target) ∨
    (∃ (q : Addr) (vm₁ : Vm) (B : Pt), s.WarmedH vm₁ ∧ Stand p l e R s m args below meth c B.U B.locs B.cells B.slots ∧ PostX ⟨T.setVm vm₁, locs, cells, slots⟩ (Value.ref a :: argsL).toArray q B ∧
      Steps p.tables e below (T.setTop g) ((B.U.setTop { g with stack := rest }).pushFrame (.throwing q))) := by
  subst hg
  have hpl : e.platform.magicAccessors = ({} : Platform).magicAccessors := by rw [X.admits.platform]
  obtain ⟨mk, methM, cM, kP, vm₁, hnamed, hmethM, hcodeM, -, hlocalsM, -, hkP, -, hW₁, hstep₁⟩ := Steps.initColdArgsNest (e := e) X.here hexec X.warmed hpl hown hy1 hy hlink hinst hcode (f := g) rfl hlen hstack hdg
  have X₁ := X.noted hW₁
  rcases hK g.method meth c ⟨T.setVm vm₁, locs, cells, slots⟩ { g with stack := rest } (.invokespecial index) mk (Value.ref a :: argsL).toArray X₁ rfl hsize hdg hW (X₁.named hnamed) (hpre vm₁ X₁.warmed) with ⟨v, B, X', hpost, hsteps⟩ | ⟨q, B, X', hpost, hsteps⟩
  · exact Or.inl ⟨v, vm₁, B, X₁.warmed, X', hpost, fun target h => hstep₁ _ fun acts => by rw [doInvoke_state]; exact hsteps.trans h⟩
  · exact Or.inr ⟨q, vm₁, B, X₁.warmed, X', hpost, hstep₁ _ fun acts => by rw [doInvoke_state]; exact hsteps⟩
end VXIC
section VXID
variable {p : Program} {l : Launch} {e : Env} {R : Room} {s : State} {m : MethodId} {args : Array Value} {below : List Frame} {meth : Method} {c : Code} {H : Heap} {locs : List Loc} {cells slots : Nat}
theorem vx_runIN {y : MethodName} {bytes cc : ByteArray} {maxL nL mc ms n index : Nat} {ws : List Cond} {rm : Room} {Pc : Array Value → State → Prop} {Qc : Array Value → State → Outcome → State → Prop} {XC : String → State → State → Prop} {free : Addr → Prop} {Ts : List Cond} {own host : String} {b : Addr} {As rest : List Value} {g : JFrame}
    (S : CallFix p m c cc nL s args Ts own) (hM : vx_Met l y ws rm Pc Qc XC mc ms free) (cw : va_CN R s args own index y host bytes maxL none ws rm mc ms n ∧ y.name = "<init>" ∧ (Cond.instanceMethod y).before args s = true) (hp : PreS s H Pc (.ref b :: As))
    (hg : g.method = m) (hn : As.length = n) (hsize : g.locals.size = nL) (hstack : g.stack = As.reverse ++ .ref b :: rest) (hW : 2 * g.monitorRoom + (rest.map fun v => v.category).sum ≤ 8) (hdg : decode cc g.pc = .ok (.invokespecial index, 3)) (hf : cells + mc ≤ R.cells ∧ slots + ms ≤ R.slots) :
    vx_Run p l e R s m args below meth c H locs cells slots mc ms g rest (Qc (Value.ref b :: As).toArray) XC free := by
  obtain ⟨⟨⟨hrc, hrs, hfr, hlo, hws, hcw⟩, hcode, hini, hy, hlen, hl⟩, hx1, hx2⟩ := cw
  have hK : vx_Back l R p e below s args y 3 8 (PreOf R mc ms Pc) (PostOf Qc mc ms free) (vx_Post XC mc ms free) := vx_back (bytes := bytes) (maxL := maxL) (ret := none) hM hp.1 hrc hrs hfr hlo hws hcw (fun a' U hW => word_at hW (Or.inl (by first | rfl | simp [Cond.onTables, Cond.keeps, Cond.steady])) hini)
  obtain ⟨hx, hb, hml, ho, -⟩ := S
  have hPc := hp.2
  intro T hT X
  rcases vx_callIN X hx (bytes := bytes) (maxL := maxL) ho hx1 hl hx2 hcode hy hK hg (hsize.trans hml.symm) (a := b) (argsL := As) (rest := rest) (fun sig h => hn.trans (hlen sig h)) hstack hW (by rw [hb]; exact hdg)
    (fun vm₁ hW₁ => ⟨hf.1, hf.2, hPc (T.setVm vm₁) hT hW₁⟩) with ⟨v, vm₁, ⟨U', l2, c2, s2⟩, hW₁, X', ⟨g', mk, t, L, e1, e2, hq, h1, hL, h2, h3⟩, st⟩ | ⟨q, vm₁, ⟨U', l2, c2, s2⟩, hW₁, X', ⟨g', mk, t, L, E, ce, e1, e2, hq, hce, hcv, hcl, h1, hL, h2, h3⟩, st⟩
  · dsimp only [Pt.U, Pt.locs, Pt.cells, Pt.slots] at X' e1 e2 h1 h2 h3 st
    subst h1; subst h2; subst h3
    exact Or.inl ⟨v, (T.setVm vm₁).calling g' mk (Value.ref b :: As).toArray, t, U', L, hT, X', hL, e1, e2, hq, st⟩
  · dsimp only [Pt.U, Pt.locs, Pt.cells, Pt.slots] at X' e1 e2 h1 h2 h3 st hcl
    subst h1; subst h2; subst h3
    exact Or.inr ⟨q, (T.setVm vm₁).calling g' mk (Value.ref b :: As).toArray, t, U', L, E, ce, hT, X', hL, e1, e2, hq, hce, hcv, vx_cls hW₁ hcl, st⟩
end VXID
/-! ===== END ===== -/
/-! ===== BEGIN a method of a class above, found by the receiver, that may throw (follows va_callVU, va_runU of this kit) ===== -/
section
variable {p : Program} {l : Launch} {e : Env} {R : Room} {s : State} {m : MethodId} {args : Array Value} {below : List Frame} {meth : Method} {c : Code} {H : Heap} {locs : List Loc} {cells slots : Nat}
theorem vx_callVU {T : State} {locs : List Loc} {cells slots : Nat} (X : Stand p l e R s m args below meth c T locs cells slots) (hexec : p.tables.exec = Jvm.exec) {own C owner : String} {index : Nat} {x y : MethodName} {bytes : ByteArray} {maxL : Nat} {ret : Option FieldType}
    (hown : s.vm.findClass own = some m.cls) (hlink : (Cond.methodLink own index x).before args s = true) (hsame : (Cond.sameMethod x.cls owner x.name x.desc).before args s = true)
    (hd0 : va_Decl s ⟨owner, x.name, x.desc⟩) (howner : owner ≠ "java/lang/invoke/MethodHandle" ∧ owner ≠ "java/lang/invoke/VarHandle")
    (hsel : (Cond.selects C x y).before args s = true) (hinst : (Cond.instanceMethod y).before args s = true) (hcode : (Cond.code y bytes maxL ret).before args s = true)
    {W : Nat} {Pre : Pt → Array Value → Prop} {Post : Pt → Array Value → Option Value → Pt → Prop} {PostX : Pt → Array Value → Addr → Pt → Prop} (hK : vx_Back l R p e below s args y 3 W Pre Post PostX)
    {b : Addr} {cellB : Cell} (hcell : T.heap[b]? = some cellB) (hobj : cellB.vm.isStatics = false) (hcls : s.vm.findClass C = some cellB.cls)
    {g : JFrame} (hg : g.method = m) (hsize : g.locals.size = c.maxLocals) {argsL rest : List Value} (hlen : ∀ sig, parseMethodDescriptor x.desc = some sig → argsL.length = sig.parameters.length)
    (hstack : g.stack = argsL.reverse ++ .ref b :: rest) (hW : 2 * g.monitorRoom + (rest.map fun v => v.category).sum ≤ W) (hdg : decode c.code g.pc = .ok (.invokevirtual index, 3))
    (hpre : ∀ vm₁, s.WarmedH vm₁ → Pre ⟨T.setVm vm₁, locs, cells, slots⟩ (Value.ref b :: argsL).toArray) :
    (∃ (v : Option Value) (vm₁ : Vm) (B : Pt), s.WarmedH vm₁ ∧ Stand p l e R s m args below meth c B.U B.locs B.cells B.slots ∧ Post ⟨T.setVm vm₁, locs, cells, slots⟩ (Value.ref b :: argsL).toArray v B ∧
      ∀ target, Steps p.tables e below (B.U.setTop { g with pc := g.pc + 3, stack := v.toList ++ rest }) target → Steps p.tables e below (T.setTop g) target) ∨
    (∃ (q : Addr) (vm₁ : Vm) (B : Pt), s.WarmedH vm₁ ∧ Stand p l e R s m args below meth c B.U B.locs B.cells B.slots ∧ PostX ⟨T.setVm vm₁, locs, cells, slots⟩ (Value.ref b :: argsL).toArray q B ∧
      Steps p.tables e below (T.setTop g) ((B.U.setTop { g with stack := rest }).pushFrame (.throwing q))) := by
  obtain ⟨r0, r, hn, hrm, hstR, hsigR⟩ := hd0
  obtain ⟨cn, ck, r1, hcn, hck, hni, hf, hn1⟩ := Cond.sameMethod_found hsame
  cases hn.symm.trans hn1
  obtain ⟨mk, methM, hnamed, hmethM, -, habM⟩ := Cond.instanceMethod_spec hinst
  obtain ⟨c2, r2, m2, q1, q2, q3, q4, kP, hkP, hkPi⟩ := Cond.selects_spec hsel
  cases hcls.symm.trans q1
  cases hf.symm.trans q2
  cases hnamed.symm.trans q3
  have hselP : selectMethod e.platform s.vm cellB.cls r0 = .method mk := by rw [Launch.admits_selectMethod X.admits]; exact q4
  obtain ⟨vm₁, X₁, hstep₁⟩ := X.invokevirtualUp hexec hown hlink hsame howner hn hrm hstR (a := b) (cell := cellB) hcell
    (fun z h => by rw [h] at hobj; cases hobj) hselP hmethM habM hkP hkPi (g := g) hg (argsL := argsL) (rest := rest) (hlen _ hsigR) hstack hdg
  rcases hK m meth c ⟨T.setVm vm₁, locs, cells, slots⟩ { g with stack := rest } (.invokevirtual index) mk (Value.ref b :: argsL).toArray X₁ hg hsize hdg hW (X₁.named hnamed) (hpre vm₁ X₁.warmed) with ⟨v, B, X', hpost, hsteps⟩ | ⟨q, B, X', hpost, hsteps⟩
  · exact Or.inl ⟨v, vm₁, B, X₁.warmed, X', hpost, fun target h => hstep₁ _ fun acts => by rw [doInvoke_state]; exact hsteps.trans h⟩
  · exact Or.inr ⟨q, vm₁, B, X₁.warmed, X', hpost, hstep₁ _ fun acts => by rw [doInvoke_state]; exact hsteps⟩
theorem vx_runU {x y : MethodName} {bytes cc : ByteArray} {maxL nL mc ms n index : Nat} {ret : Option FieldType} {ws : List Cond} {rm : Room} {Pc : Array Value → State → Prop} {Qc : Array Value → State → Outcome → State → Prop} {XC : String → State → State → Prop} {free : Addr → Prop} {Ts : List Cond} {own C owner : String} {b : Addr} {As rest : List Value} {g : JFrame}
    (S : CallFix p m c cc nL s args Ts own) (hM : vx_Met l y ws rm Pc Qc XC mc ms free) (cw : va_CU R s args own C owner index x y bytes maxL ret ws rm mc ms n) (hp : PreV s H C b Pc As)
    (hg : g.method = m) (hn : As.length = n) (hsize : g.locals.size = nL) (hstack : g.stack = As.reverse ++ .ref b :: rest) (hW : 2 * g.monitorRoom + (rest.map fun v => v.category).sum ≤ 8) (hdg : decode cc g.pc = .ok (.invokevirtual index, 3)) (hf : cells + mc ≤ R.cells ∧ slots + ms ≤ R.slots) :
    vx_Run p l e R s m args below meth c H locs cells slots mc ms g rest (Qc (Value.ref b :: As).toArray) XC free := by
  obtain ⟨hrc, hrs, hfr, hlo, hws, hcw⟩ := cw.back
  have hini := cw.init
  have hK : vx_Back l R p e below s args y 3 8 (PreOf R mc ms Pc) (PostOf Qc mc ms free) (vx_Post XC mc ms free) := vx_back (bytes := bytes) (maxL := maxL) (ret := ret) hM hp.1 hrc hrs hfr hlo hws hcw (fun a' U hW => word_at hW (Or.inl (by first | rfl | simp [Cond.onTables, Cond.keeps, Cond.steady])) hini)
  obtain ⟨hx, hb, hml, ho, -⟩ := S
  obtain ⟨-, ⟨cellB, hcB, hoB, hclB⟩, hPc⟩ := hp
  intro T hT X
  rcases vx_callVU X hx (C := C) (owner := owner) (bytes := bytes) (maxL := maxL) (ret := ret) ho cw.link cw.same cw.decl cw.notMH cw.sel cw.inst cw.code hK (by rw [hT]; exact hcB) hoB hclB hg (hsize.trans hml.symm) (argsL := As) (rest := rest) (fun sig h => hn.trans (cw.len sig h)) hstack hW (by rw [hb]; exact hdg)
    (fun vm₁ hW₁ => ⟨hf.1, hf.2, hPc (T.setVm vm₁) hT hW₁⟩) with ⟨v, vm₁, ⟨U', l2, c2, s2⟩, hW₁, X', ⟨g', mk, t, L, e1, e2, hq, h1, hL, h2, h3⟩, st⟩ | ⟨q, vm₁, ⟨U', l2, c2, s2⟩, hW₁, X', ⟨g', mk, t, L, E, ce, e1, e2, hq, hce, hcv, hcl, h1, hL, h2, h3⟩, st⟩
  · dsimp only [Pt.U, Pt.locs, Pt.cells, Pt.slots] at X' e1 e2 h1 h2 h3 st
    subst h1; subst h2; subst h3
    exact Or.inl ⟨v, (T.setVm vm₁).calling g' mk (Value.ref b :: As).toArray, t, U', L, hT, X', hL, e1, e2, hq, st⟩
  · dsimp only [Pt.U, Pt.locs, Pt.cells, Pt.slots] at X' e1 e2 h1 h2 h3 st hcl
    subst h1; subst h2; subst h3
    exact Or.inr ⟨q, (T.setVm vm₁).calling g' mk (Value.ref b :: As).toArray, t, U', L, E, ce, hT, X', hL, e1, e2, hq, hce, hcv, vx_cls hW₁ hcl, st⟩
end
/-! ===== END ===== -/
/-! ===== BEGIN super.m(..) that may throw (follows va_callSU, va_runSU) ===== -/
section
variable {p : Program} {l : Launch} {e : Env} {R : Room} {s : State} {m : MethodId} {args : Array Value} {below : List Frame} {meth : Method} {c : Code} {H : Heap} {locs : List Loc} {cells slots : Nat}
theorem vx_callSU {T : State} {locs : List Loc} {cells slots : Nat} (X : Stand p l e R s m args below meth c T locs cells slots) (hexec : p.tables.exec = Jvm.exec) {own : String} {index : Nat} {y : MethodName} {bytes : ByteArray} {maxL : Nat} {ret : Option FieldType}
    (hown : s.vm.findClass own = some m.cls) (hlink : (Cond.methodLink own index y).before args s = true) (hsame : (Cond.sameMethod y.cls y.cls y.name y.desc).before args s = true) (hsup : (Cond.superclass own y.cls).before args s = true)
    (hinst : (Cond.instanceMethod y).before args s = true) (hcode : (Cond.code y bytes maxL ret).before args s = true) (hno : y.name ≠ "<init>")
    {W : Nat} {Pre : Pt → Array Value → Prop} {Post : Pt → Array Value → Option Value → Pt → Prop} {PostX : Pt → Array Value → Addr → Pt → Prop} (hK : vx_Back l R p e below s args y 3 W Pre Post PostX)
    {b : Addr} {cellB : Cell} {kB : Class} (hcell : T.heap[b]? = some cellB) (hobj : cellB.vm.isStatics = false) (hkB : s.vm.classes[cellB.cls]? = some kB)
    {g : JFrame} (hg : g.method = m) (hsize : g.locals.size = c.maxLocals) {argsL rest : List Value} (hlen : ∀ sig, parseMethodDescriptor y.desc = some sig → argsL.length = sig.parameters.length)
    (hstack : g.stack = argsL.reverse ++ .ref b :: rest) (hW : 2 * g.monitorRoom + (rest.map fun v => v.category).sum ≤ W) (hdg : decode c.code g.pc = .ok (.invokespecial index, 3))
    (hpre : ∀ vm₁, s.WarmedH vm₁ → Pre ⟨T.setVm vm₁, locs, cells, slots⟩ (Value.ref b :: argsL).toArray) :
    (∃ (v : Option Value) (vm₁ : Vm) (B : Pt), s.WarmedH vm₁ ∧ Stand p l e R s m args below meth c B.U B.locs B.cells B.slots ∧ Post ⟨T.setVm vm₁, locs, cells, slots⟩ (Value.ref b :: argsL).toArray v B ∧
      ∀ target, Steps p.tables e below (B.U.setTop { g with pc := g.pc + 3, stack := v.toList ++ rest }) target → Steps p.tables e below (T.setTop g) target) ∨
    (∃ (q : Addr) (vm₁ : Vm) (B : Pt), s.WarmedH vm₁ ∧ Stand p l e R s m args below meth c B.U B.locs B.cells B.slots ∧ PostX ⟨T.setVm vm₁, locs, cells, slots⟩ (Value.ref b :: argsL).toArray q B ∧
      Steps p.tables e below (T.setTop g) ((B.U.setTop { g with stack := rest }).pushFrame (.throwing q))) := by
  obtain ⟨mk, methM, hnamed, hmethM, hstM, habM⟩ := Cond.instanceMethod_spec hinst
  obtain ⟨methM', cM, hmethM', -, -, -, -, -, -, hsigM⟩ := Cond.code_spec hnamed hcode
  cases hmethM.symm.trans hmethM'
  obtain ⟨ps, dk, kp, hps, hdk, hkp, hsuper, -, -, hnid⟩ := Cond.superclass_spec hown hsup
  have hn : s.methodNamed? ⟨y.cls, y.name, y.desc⟩ = some mk := hnamed
  have hpm : ps = mk.cls := Option.some.inj (hps.symm.trans (findClass_of_methodNamed hnamed))
  have hsub : s.vm.isSubclass ps mk.cls = true := by rw [hpm]; simp [Vm.isSubclass, Vm.isSubclassAux]
  obtain ⟨vm₁, X₁, hstep₁⟩ := X.invokespecialUp hexec hown hlink hsame hn hmethM hstM habM hno hdk hnid hps hsuper hsub (a := b) (cell := cellB) hcell
    (fun z h => by rw [h] at hobj; cases hobj) hkB (g := g) hg (argsL := argsL) (rest := rest) (hlen _ hsigM) hstack hdg
  rcases hK m meth c ⟨T.setVm vm₁, locs, cells, slots⟩ { g with stack := rest } (.invokespecial index) mk (Value.ref b :: argsL).toArray X₁ hg hsize hdg hW (X₁.named hnamed) (hpre vm₁ X₁.warmed) with ⟨v, B, X', hpost, hsteps⟩ | ⟨q, B, X', hpost, hsteps⟩
  · exact Or.inl ⟨v, vm₁, B, X₁.warmed, X', hpost, fun target h => hstep₁ _ (by rw [doInvoke_state]; exact hsteps.trans h)⟩
  · exact Or.inr ⟨q, vm₁, B, X₁.warmed, X', hpost, hstep₁ _ (by rw [doInvoke_state]; exact hsteps)⟩
theorem vx_runSU {y : MethodName} {bytes cc : ByteArray} {maxL nL mc ms n index : Nat} {ret : Option FieldType} {ws : List Cond} {rm : Room} {Pc : Array Value → State → Prop} {Qc : Array Value → State → Outcome → State → Prop} {XC : String → State → State → Prop} {free : Addr → Prop} {Ts : List Cond} {own C : String} {cC : ClassId} {b : Addr} {As rest : List Value} {g : JFrame}
    (hat : ClassAt s C cC) (S : CallFix p m c cc nL s args Ts own) (hM : vx_Met l y ws rm Pc Qc XC mc ms free) (cw : va_CS R s args own index y bytes maxL ret ws rm mc ms n) (hp : PreV s H C b Pc As)
    (hg : g.method = m) (hn : As.length = n) (hsize : g.locals.size = nL) (hstack : g.stack = As.reverse ++ .ref b :: rest) (hW : 2 * g.monitorRoom + (rest.map fun v => v.category).sum ≤ 8) (hdg : decode cc g.pc = .ok (.invokespecial index, 3)) (hf : cells + mc ≤ R.cells ∧ slots + ms ≤ R.slots) :
    vx_Run p l e R s m args below meth c H locs cells slots mc ms g rest (Qc (Value.ref b :: As).toArray) XC free := by
  obtain ⟨⟨hrc, hrs, hfr, hlo, hws, hcw⟩, hl1, hl2, hl3, hl4, hini, hcode, hno, hlen⟩ := cw
  have hK : vx_Back l R p e below s args y 3 8 (PreOf R mc ms Pc) (PostOf Qc mc ms free) (vx_Post XC mc ms free) := vx_back (bytes := bytes) (maxL := maxL) (ret := ret) hM hp.1 hrc hrs hfr hlo hws hcw (fun a' U hW => word_at hW (Or.inl (by first | rfl | simp [Cond.onTables, Cond.keeps, Cond.steady])) hini)
  obtain ⟨hx, hb, hml, ho, -⟩ := S
  obtain ⟨-, ⟨cellB, hcB, hoB, hclB⟩, hPc⟩ := hp
  obtain ⟨hfc, kB, hkB, -⟩ := hat
  cases hfc.symm.trans hclB
  intro T hT X
  rcases vx_callSU X hx (bytes := bytes) (maxL := maxL) (ret := ret) ho hl1 hl2 hl3 hl4 hcode hno hK (by rw [hT]; exact hcB) hoB hkB hg (hsize.trans hml.symm) (argsL := As) (rest := rest) (fun sig h => hn.trans (hlen sig h)) hstack hW (by rw [hb]; exact hdg)
    (fun vm₁ hW₁ => ⟨hf.1, hf.2, hPc (T.setVm vm₁) hT hW₁⟩) with ⟨v, vm₁, ⟨U', l2, c2, s2⟩, hW₁, X', ⟨g', mk, t, L, e1, e2, hq, h1, hL, h2, h3⟩, st⟩ | ⟨q, vm₁, ⟨U', l2, c2, s2⟩, hW₁, X', ⟨g', mk, t, L, E, ce, e1, e2, hq, hce, hcv, hcl, h1, hL, h2, h3⟩, st⟩
  · dsimp only [Pt.U, Pt.locs, Pt.cells, Pt.slots] at X' e1 e2 h1 h2 h3 st
    subst h1; subst h2; subst h3
    exact Or.inl ⟨v, (T.setVm vm₁).calling g' mk (Value.ref b :: As).toArray, t, U', L, hT, X', hL, e1, e2, hq, st⟩
  · dsimp only [Pt.U, Pt.locs, Pt.cells, Pt.slots] at X' e1 e2 h1 h2 h3 st hcl
    subst h1; subst h2; subst h3
    exact Or.inr ⟨q, (T.setVm vm₁).calling g' mk (Value.ref b :: As).toArray, t, U', L, E, ce, hT, X', hL, e1, e2, hq, hce, hcv, vx_cls hW₁ hcl, st⟩
end
/-! ===== END ===== -/
/-! ===== BEGIN a private method of a nest mate that may throw (follows va_callVN, va_callSN, va_runVN, va_runSN) ===== -/
section
variable {p : Program} {l : Launch} {e : Env} {R : Room} {s : State} {m : MethodId} {args : Array Value} {below : List Frame} {meth : Method} {c : Code} {H : Heap} {locs : List Loc} {cells slots : Nat}
variable {T : State}
theorem vx_callVN (X : Stand p l e R s m args below meth c T locs cells slots) (hexec : p.tables.exec = Jvm.exec) {own C : String} {index : Nat} {host : String} {y : MethodName} {bytes : ByteArray} {maxL : Nat} {ret : Option FieldType}
    (hown : s.vm.findClass own = some m.cls) (hlink : (Cond.methodLinkNest own index y host).before args s = true) (hinst : (Cond.instanceMethod y).before args s = true) (hsel : (Cond.selects C y y).before args s = true)
    (hcode : (Cond.code y bytes maxL ret).before args s = true) (hy : y.cls ≠ "java/lang/invoke/MethodHandle" ∧ y.cls ≠ "java/lang/invoke/VarHandle")
    {W : Nat} {Pre : Pt → Array Value → Prop} {Post : Pt → Array Value → Option Value → Pt → Prop} {PostX : Pt → Array Value → Addr → Pt → Prop} (hK : vx_Back l R p e below s args y 3 W Pre Post PostX)
    {b : Addr} {cellB : Cell} (hcell : T.heap[b]? = some cellB) (hobj : cellB.vm.isStatics = false) (hcls : s.vm.findClass C = some cellB.cls)
    {g : JFrame} (hg : g.method = m) (hsize : g.locals.size = c.maxLocals) {argsL rest : List Value} (hlen : ∀ sig, parseMethodDescriptor y.desc = some sig → argsL.length = sig.parameters.length)
    (hstack : g.stack = argsL.reverse ++ .ref b :: rest) (hW : 2 * g.monitorRoom + (rest.map fun v => v.category).sum ≤ W) (hdg : decode c.code g.pc = .ok (.invokevirtual index, 3))
    (hpre : ∀ vm₁, s.WarmedH vm₁ → Pre ⟨T.setVm vm₁, locs, cells, slots⟩ (Value.ref b :: argsL).toArray) :
    (∃ (v : Option Value) (vm₁ : Vm) (B : Pt), s.WarmedH vm₁ ∧ Stand p l e R s m args below meth c B.U B.locs B.cells B.slots ∧ Post ⟨T.setVm vm₁, locs, cells, slots⟩ (Value.ref b :: argsL).toArray v B ∧
      ∀ target, Steps p.tables e below (B.U.setTop { g with pc := g.pc + 3, stack := v.toList ++ rest }) target → Steps p.tables e below (T.setTop g) target) ∨
    (∃ (q : Addr) (vm₁ : Vm) (B : Pt), s.WarmedH vm₁ ∧ Stand p l e R s m args below meth c B.U B.locs B.cells B.slots ∧ PostX ⟨T.setVm vm₁, locs, cells, slots⟩ (Value.ref b :: argsL).toArray q B ∧
      Steps p.tables e below (T.setTop g) ((B.U.setTop { g with stack := rest }).pushFrame (.throwing q))) := by
  obtain ⟨mk, methM, hnamed, hmethM, hstM, habM⟩ := Cond.instanceMethod_spec hinst
  obtain ⟨methM', cM, hmethM', -, -, -, -, -, -, hsigM⟩ := Cond.code_spec hnamed hcode
  cases hmethM.symm.trans hmethM'
  obtain ⟨c2, r2, m2, q1, q2, q3, q4, kP, hkP, hkPi⟩ := Cond.selects_spec hsel
  cases hcls.symm.trans q1
  cases (State.methodFound?_of_named hnamed hy).symm.trans q2
  cases hnamed.symm.trans q3
  have hselP : selectMethod e.platform s.vm cellB.cls mk = .method mk := by rw [Launch.admits_selectMethod X.admits]; exact q4
  obtain ⟨vm₁, X₁, hstep₁⟩ := X.invokevirtualNest hexec hown hlink hnamed hmethM hstM hkP hkPi hy (a := b) (cell := cellB) hcell
    (fun z h => by rw [h] at hobj; cases hobj) hselP hmethM habM hkP hkPi (g := g) hg (argsL := argsL) (rest := rest) (hlen _ hsigM) hstack hdg
  rcases hK m meth c ⟨T.setVm vm₁, locs, cells, slots⟩ { g with stack := rest } (.invokevirtual index) mk (Value.ref b :: argsL).toArray X₁ hg hsize hdg hW (X₁.named hnamed) (hpre vm₁ X₁.warmed) with ⟨v, B, X', hpost, hsteps⟩ | ⟨q, B, X', hpost, hsteps⟩
  · exact Or.inl ⟨v, vm₁, B, X₁.warmed, X', hpost, fun target h => hstep₁ _ fun acts => by rw [doInvoke_state]; exact hsteps.trans h⟩
  · exact Or.inr ⟨q, vm₁, B, X₁.warmed, X', hpost, hstep₁ _ fun acts => by rw [doInvoke_state]; exact hsteps⟩
theorem vx_callSN (X : Stand p l e R s m args below meth c T locs cells slots) (hexec : p.tables.exec = Jvm.exec) {own : String} {index : Nat} {host : String} {y : MethodName} {bytes : ByteArray} {maxL : Nat} {ret : Option FieldType}
    (hown : s.vm.findClass own = some m.cls) (hlink : (Cond.methodLinkNest own index y host).before args s = true) (hstat : (Cond.static y).before args s = true) (hinit : (Cond.initialized y.cls).before args s = true)
    (hcode : (Cond.code y bytes maxL ret).before args s = true) (hy : y.cls ≠ "java/lang/invoke/MethodHandle" ∧ y.cls ≠ "java/lang/invoke/VarHandle")
    {W : Nat} {Pre : Pt → Array Value → Prop} {Post : Pt → Array Value → Option Value → Pt → Prop} {PostX : Pt → Array Value → Addr → Pt → Prop} (hK : vx_Back l R p e below s args y 3 W Pre Post PostX)
    {g : JFrame} (hg : g.method = m) (hsize : g.locals.size = c.maxLocals) {argsL rest : List Value} (hlen : ∀ sig, parseMethodDescriptor y.desc = some sig → argsL.length = sig.parameters.length)
    (hstack : g.stack = argsL.reverse ++ rest) (hW : 2 * g.monitorRoom + (rest.map fun v => v.category).sum ≤ W) (hdg : decode c.code g.pc = .ok (.invokestatic index, 3))
    (hpre : ∀ vm₁, s.WarmedH vm₁ → Pre ⟨T.setVm vm₁, locs, cells, slots⟩ argsL.toArray) :
    (∃ (v : Option Value) (vm₁ : Vm) (B : Pt), s.WarmedH vm₁ ∧ Stand p l e R s m args below meth c B.U B.locs B.cells B.slots ∧ Post ⟨T.setVm vm₁, locs, cells, slots⟩ argsL.toArray v B ∧
      ∀ target, Steps p.tables e below (B.U.setTop { g with pc := g.pc + 3, stack := v.toList ++ rest }) target → Steps p.tables e below (T.setTop g) target) ∨
    (∃ (q : Addr) (vm₁ : Vm) (B : Pt), s.WarmedH vm₁ ∧ Stand p l e R s m args below meth c B.U B.locs B.cells B.slots ∧ PostX ⟨T.setVm vm₁, locs, cells, slots⟩ argsL.toArray q B ∧
      Steps p.tables e below (T.setTop g) ((B.U.setTop { g with stack := rest }).pushFrame (.throwing q))) := by
  obtain ⟨mk, hnamed⟩ := Cond.code_named hcode
  obtain ⟨methM, cM, hmethM, -, -, -, -, -, -, hsigM⟩ := Cond.code_spec hnamed hcode
  have hstatic : methM.isStatic = true := Cond.static_spec hnamed hmethM hstat
  obtain ⟨kP, hkP, -⟩ := className_of_methodNamed hnamed
  have hinitP : kP.init = .initialized := Cond.initialized_spec (findClass_of_methodNamed hnamed) hkP hinit
  obtain ⟨vm₁, X₁, hstep₁⟩ := X.invokestaticNest hexec hown hlink hnamed hmethM hstatic hkP hinitP hy (g := g) hg (argsL := argsL) (rest := rest) (hlen _ hsigM) hstack hdg
  rcases hK m meth c ⟨T.setVm vm₁, locs, cells, slots⟩ { g with stack := rest } (.invokestatic index) mk argsL.toArray X₁ hg hsize hdg hW (X₁.named hnamed) (hpre vm₁ X₁.warmed) with ⟨v, B, X', hpost, hsteps⟩ | ⟨q, B, X', hpost, hsteps⟩
  · exact Or.inl ⟨v, vm₁, B, X₁.warmed, X', hpost, fun target h => hstep₁ _ fun acts => by rw [doInvoke_state]; exact hsteps.trans h⟩
  · exact Or.inr ⟨q, vm₁, B, X₁.warmed, X', hpost, hstep₁ _ fun acts => by rw [doInvoke_state]; exact hsteps⟩
theorem vx_runVN {y : MethodName} {bytes cc : ByteArray} {maxL nL mc ms n index : Nat} {ret : Option FieldType} {ws : List Cond} {rm : Room} {Pc : Array Value → State → Prop} {Qc : Array Value → State → Outcome → State → Prop} {XC : String → State → State → Prop} {free : Addr → Prop} {Ts : List Cond} {own C host : String} {b : Addr} {As rest : List Value} {g : JFrame}
    (S : CallFix p m c cc nL s args Ts own) (hM : vx_Met l y ws rm Pc Qc XC mc ms free) (cw : va_CN R s args own index y host bytes maxL ret ws rm mc ms n ∧ (Cond.instanceMethod y).before args s = true ∧ (Cond.selects C y y).before args s = true) (hp : PreV s H C b Pc As)
    (hg : g.method = m) (hn : As.length = n) (hsize : g.locals.size = nL) (hstack : g.stack = As.reverse ++ .ref b :: rest) (hW : 2 * g.monitorRoom + (rest.map fun v => v.category).sum ≤ 8) (hdg : decode cc g.pc = .ok (.invokevirtual index, 3)) (hf : cells + mc ≤ R.cells ∧ slots + ms ≤ R.slots) :
    vx_Run p l e R s m args below meth c H locs cells slots mc ms g rest (Qc (Value.ref b :: As).toArray) XC free := by
  obtain ⟨⟨⟨hrc, hrs, hfr, hlo, hws, hcw⟩, hcode, hini, hy, hlen, hl⟩, hx1, hx2⟩ := cw
  have hK : vx_Back l R p e below s args y 3 8 (PreOf R mc ms Pc) (PostOf Qc mc ms free) (vx_Post XC mc ms free) := vx_back (bytes := bytes) (maxL := maxL) (ret := ret) hM hp.1 hrc hrs hfr hlo hws hcw (fun a' U hW => word_at hW (Or.inl (by first | rfl | simp [Cond.onTables, Cond.keeps, Cond.steady])) hini)
  obtain ⟨hx, hb, hml, ho, -⟩ := S
  obtain ⟨-, ⟨cellB, hcB, hoB, hclB⟩, hPc⟩ := hp
  intro T hT X
  rcases vx_callVN X hx (C := C) (bytes := bytes) (maxL := maxL) (ret := ret) ho hl hx1 hx2 hcode hy hK (by rw [hT]; exact hcB) hoB hclB hg (hsize.trans hml.symm) (argsL := As) (rest := rest) (fun sig h => hn.trans (hlen sig h)) hstack hW (by rw [hb]; exact hdg)
    (fun vm₁ hW₁ => ⟨hf.1, hf.2, hPc (T.setVm vm₁) hT hW₁⟩) with ⟨v, vm₁, ⟨U', l2, c2, s2⟩, hW₁, X', ⟨g', mk, t, L, e1, e2, hq, h1, hL, h2, h3⟩, st⟩ | ⟨q, vm₁, ⟨U', l2, c2, s2⟩, hW₁, X', ⟨g', mk, t, L, E, ce, e1, e2, hq, hce, hcv, hcl, h1, hL, h2, h3⟩, st⟩
  · dsimp only [Pt.U, Pt.locs, Pt.cells, Pt.slots] at X' e1 e2 h1 h2 h3 st
    subst h1; subst h2; subst h3
    exact Or.inl ⟨v, (T.setVm vm₁).calling g' mk (Value.ref b :: As).toArray, t, U', L, hT, X', hL, e1, e2, hq, st⟩
  · dsimp only [Pt.U, Pt.locs, Pt.cells, Pt.slots] at X' e1 e2 h1 h2 h3 st hcl
    subst h1; subst h2; subst h3
    exact Or.inr ⟨q, (T.setVm vm₁).calling g' mk (Value.ref b :: As).toArray, t, U', L, E, ce, hT, X', hL, e1, e2, hq, hce, hcv, vx_cls hW₁ hcl, st⟩
theorem vx_runSN {y : MethodName} {bytes cc : ByteArray} {maxL nL mc ms n index : Nat} {ret : Option FieldType} {ws : List Cond} {rm : Room} {Pc : Array Value → State → Prop} {Qc : Array Value → State → Outcome → State → Prop} {XC : String → State → State → Prop} {free : Addr → Prop} {Ts : List Cond} {own host : String} {As rest : List Value} {g : JFrame}
    (S : CallFix p m c cc nL s args Ts own) (hM : vx_Met l y ws rm Pc Qc XC mc ms free) (cw : va_CN R s args own index y host bytes maxL ret ws rm mc ms n ∧ (Cond.static y).before args s = true ∧ True) (hp : PreS s H Pc As)
    (hg : g.method = m) (hn : As.length = n) (hsize : g.locals.size = nL) (hstack : g.stack = As.reverse ++ rest) (hW : 2 * g.monitorRoom + (rest.map fun v => v.category).sum ≤ 8) (hdg : decode cc g.pc = .ok (.invokestatic index, 3)) (hf : cells + mc ≤ R.cells ∧ slots + ms ≤ R.slots) :
    vx_Run p l e R s m args below meth c H locs cells slots mc ms g rest (Qc As.toArray) XC free := by
  obtain ⟨⟨⟨hrc, hrs, hfr, hlo, hws, hcw⟩, hcode, hini, hy, hlen, hl⟩, hx1, hx2⟩ := cw
  have hK : vx_Back l R p e below s args y 3 8 (PreOf R mc ms Pc) (PostOf Qc mc ms free) (vx_Post XC mc ms free) := vx_back (bytes := bytes) (maxL := maxL) (ret := ret) hM hp.1 hrc hrs hfr hlo hws hcw (fun a' U hW => word_at hW (Or.inl (by first | rfl | simp [Cond.onTables, Cond.keeps, Cond.steady])) hini)
  obtain ⟨hx, hb, hml, ho, -⟩ := S
  have hPc := hp.2
  intro T hT X
  rcases vx_callSN X hx (bytes := bytes) (maxL := maxL) (ret := ret) ho hl hx1 hini hcode hy hK hg (hsize.trans hml.symm) (argsL := As) (rest := rest) (fun sig h => hn.trans (hlen sig h)) hstack hW (by rw [hb]; exact hdg)
    (fun vm₁ hW₁ => ⟨hf.1, hf.2, hPc (T.setVm vm₁) hT hW₁⟩) with ⟨v, vm₁, ⟨U', l2, c2, s2⟩, hW₁, X', ⟨g', mk, t, L, e1, e2, hq, h1, hL, h2, h3⟩, st⟩ | ⟨q, vm₁, ⟨U', l2, c2, s2⟩, hW₁, X', ⟨g', mk, t, L, E, ce, e1, e2, hq, hce, hcv, hcl, h1, hL, h2, h3⟩, st⟩
  · dsimp only [Pt.U, Pt.locs, Pt.cells, Pt.slots] at X' e1 e2 h1 h2 h3 st
    subst h1; subst h2; subst h3
    exact Or.inl ⟨v, (T.setVm vm₁).calling g' mk As.toArray, t, U', L, hT, X', hL, e1, e2, hq, st⟩
  · dsimp only [Pt.U, Pt.locs, Pt.cells, Pt.slots] at X' e1 e2 h1 h2 h3 st hcl
    subst h1; subst h2; subst h3
    exact Or.inr ⟨q, (T.setVm vm₁).calling g' mk As.toArray, t, U', L, E, ce, hT, X', hL, e1, e2, hq, hce, hcv, vx_cls hW₁ hcl, st⟩
end
/-! ===== END ===== -/
/-! ===== BEGIN calls by an interface of methods that may throw (vx_callIF, vx_runF follow va_callIF, va_runF of this kit) ===== -/
section
variable {p : Program} {l : Launch} {e : Env} {R : Room} {s : State} {m : MethodId} {args : Array Value} {below : List Frame} {meth : Method} {c : Code} {H : Heap} {locs : List Loc} {cells slots : Nat} {Q : State → Prop}
variable {mc ms : Nat} {free : Addr → Prop} {A0 A1 : Nat → Prop} {H0 : Heap} {a : Array Value} {pc : Nat} {ls : Array Slot} {st0 rest : List Value}
def vx_Run5 (p : Program) (l : Launch) (e : Env) (R : Room) (s : State) (m : MethodId) (args : Array Value) (below : List Frame) (meth : Method) (c : Code) (H : Heap) (locs : List Loc) (cells slots mc ms : Nat) (g : JFrame) (rest : List Value) (Qa : State → Outcome → State → Prop) (XC : String → State → State → Prop) (free : Addr → Prop) : Prop :=
  ∀ T : State, T.heap = H → Stand p l e R s m args below meth c T locs cells slots →
    (∃ (v : Option Value) (st₀ t T' : State) (L : List Loc), st₀.heap = H ∧ Stand p l e R s m args below meth c T' (locs ++ L) (cells + mc) (slots + ms) ∧ (∀ q ∈ L, free q.base) ∧ T'.heap = t.heap ∧ T'.vm = t.vm ∧ Qa st₀ (.returned v) t ∧
      Goes p e below T g T' { g with pc := g.pc + 5, stack := v.toList ++ rest }) ∨
    (∃ (q : Addr) (st₀ t T' : State) (L : List Loc) (E : String) (ce : Cell), st₀.heap = H ∧ Stand p l e R s m args below meth c T' (locs ++ L) (cells + mc) (slots + ms) ∧ (∀ z ∈ L, free z.base) ∧ T'.heap = t.heap ∧ T'.vm = t.vm ∧ XC E st₀ t ∧ t.heap[q]? = some ce ∧ ce.vm = .none ∧ s.vm.findClass E = some ce.cls ∧
      Steps p.tables e below (T.setTop g) ((T'.setTop { g with stack := rest }).pushFrame (.throwing q)))
theorem vx_callIF {T : State} (X : Stand p l e R s m args below meth c T locs cells slots) (hexec : p.tables.exec = Jvm.exec) {own C : String} {index count : Nat} {x y : MethodName} {bytes : ByteArray} {maxL : Nat} {ret : Option FieldType}
    (hown : s.vm.findClass own = some m.cls) (hlink : (Cond.methodLink own index x).before args s = true) (hdecl : (Cond.declares x).before args s = true) (hface : (Cond.interfaceMethod x.cls x.cls x.name x.desc).before args s = true)
    (hsel : (Cond.selects C x y).before args s = true) (hinst : (Cond.instanceMethod y).before args s = true) (hpub : (Cond.publicMethod y).before args s = true) (hunh : (Cond.unhidden C x.name x.desc).before args s = true)
    (hcast : (Cond.castable C x.cls).before args s = true) (hcode : (Cond.code y bytes maxL ret).before args s = true) (hx : x.cls ≠ "java/lang/invoke/MethodHandle" ∧ x.cls ≠ "java/lang/invoke/VarHandle")
    {W9 : Nat} {Pre : Pt → Array Value → Prop} {Post : Pt → Array Value → Option Value → Pt → Prop} {PostX : Pt → Array Value → Addr → Pt → Prop} (hK : vx_Back l R p e below s args y 5 W9 Pre Post PostX)
    {b : Addr} {cellB : Cell} {kB : Class} (hcell : T.heap[b]? = some cellB) (hobj : cellB.vm.isStatics = false) (hcls : s.vm.findClass C = some cellB.cls) (hkB : s.vm.classes[cellB.cls]? = some kB)
    {g : JFrame} (hg : g.method = m) (hsize : g.locals.size = c.maxLocals) {argsL rest : List Value} (hlen : ∀ sig, parseMethodDescriptor x.desc = some sig → argsL.length = sig.parameters.length)
    (hstack : g.stack = argsL.reverse ++ .ref b :: rest) (hW : 2 * g.monitorRoom + (rest.map fun v => v.category).sum ≤ W9) (hdg : decode c.code g.pc = .ok (.invokeinterface index count, 5))
    (hpre : ∀ vm₁, s.WarmedH vm₁ → Pre ⟨T.setVm vm₁, locs, cells, slots⟩ (Value.ref b :: argsL).toArray) :
    (∃ (v : Option Value) (vm₁ : Vm) (B : Pt), s.WarmedH vm₁ ∧ Stand p l e R s m args below meth c B.U B.locs B.cells B.slots ∧ Post ⟨T.setVm vm₁, locs, cells, slots⟩ (Value.ref b :: argsL).toArray v B ∧
      ∀ target, Steps p.tables e below (B.U.setTop { g with pc := g.pc + 5, stack := v.toList ++ rest }) target → Steps p.tables e below (T.setTop g) target) ∨
    (∃ (q : Addr) (vm₁ : Vm) (B : Pt), s.WarmedH vm₁ ∧ Stand p l e R s m args below meth c B.U B.locs B.cells B.slots ∧ PostX ⟨T.setVm vm₁, locs, cells, slots⟩ (Value.ref b :: argsL).toArray q B ∧
      Steps p.tables e below (T.setTop g) ((B.U.setTop { g with stack := rest }).pushFrame (.throwing q))) := by
  obtain ⟨r0, r, hn, hrm, hstR, hsigR⟩ := Cond.declares_spec hdecl
  obtain ⟨cL, kL, r1, hcL, hkL, hiL, hfoundL, hn1⟩ := Cond.interfaceMethod_spec hface
  cases hn.symm.trans hn1
  have hr0cls : r0.cls = cL := Option.some.inj ((findClass_of_methodNamed hn).symm.trans hcL)
  obtain ⟨hnameR, hdescR⟩ := name_of_methodNamed hn hrm
  obtain ⟨mk, methM, hnamed, hmethM, -, habM⟩ := Cond.instanceMethod_spec hinst
  obtain ⟨c2, r2, m2, q1, q2, q3, q4, -⟩ := Cond.selects_spec hsel
  cases hcls.symm.trans q1
  cases hfoundL.symm.trans q2
  cases hnamed.symm.trans q3
  have hselP : selectMethod e.platform s.vm cellB.cls r0 = .method mk := by rw [Launch.admits_selectMethod X.admits]; exact q4
  have hpubM : hasFlag methM.accessFlags Acc.public_ = true := Cond.publicMethod_spec hnamed hmethM hpub
  have hway : ((cellB.cls :: s.vm.superclasses cellB.cls).any fun k => (declaredIn s.vm r.name r.desc k).any fun (_, z) => z.isPrivate || z.isStatic) = false := by
    rw [hnameR, hdescR]; exact Cond.unhidden_spec hcls hunh
  obtain ⟨c3, t3, w1, w2, w3⟩ := Cond.castable_spec hcast
  cases hcls.symm.trans w1
  cases hcL.symm.trans w2
  obtain ⟨vm₁, X₁, hstep₁⟩ := X.invokeinterface hexec hown hlink hn hrm hstR (by rw [hr0cls]; exact hkL) hiL hx (a := b) (cell := cellB) (kcell := kB) hcell
    (fun z h => by rw [h] at hobj; cases hobj) hkB (by rw [hr0cls]; exact w3) hselP hmethM hway hpubM habM (g := g) hg (argsL := argsL) (rest := rest) (hlen _ hsigR) hstack hdg
  rcases hK m meth c ⟨T.setVm vm₁, locs, cells, slots⟩ { g with stack := rest } (.invokeinterface index count) mk (Value.ref b :: argsL).toArray X₁ hg hsize hdg hW (X₁.named hnamed) (hpre vm₁ X₁.warmed) with ⟨v, B, X', hpost, hsteps⟩ | ⟨q, B, X', hpost, hsteps⟩
  · exact Or.inl ⟨v, vm₁, B, X₁.warmed, X', hpost, fun target h => hstep₁ _ fun acts => by rw [doInvoke_state]; exact hsteps.trans h⟩
  · exact Or.inr ⟨q, vm₁, B, X₁.warmed, X', hpost, hstep₁ _ fun acts => by rw [doInvoke_state]; exact hsteps⟩
theorem vx_runF {x y : MethodName} {bytes cc : ByteArray} {maxL nL mc ms n index count : Nat} {ret : Option FieldType} {ws : List Cond} {rm : Room} {Pc : Array Value → State → Prop} {Qc : Array Value → State → Outcome → State → Prop} {XC : String → State → State → Prop} {free : Addr → Prop} {Ts : List Cond} {own C : String} {cC : ClassId} {b : Addr} {As rest : List Value} {g : JFrame}
    (hat : ClassAt s C cC) (S : CallFix p m c cc nL s args Ts own) (hM : vx_Met l y ws rm Pc Qc XC mc ms free) (cw : va_CI R s args own C index x y bytes maxL ret ws rm mc ms n) (hp : PreV s H C b Pc As)
    (hg : g.method = m) (hn : As.length = n) (hsize : g.locals.size = nL) (hstack : g.stack = As.reverse ++ .ref b :: rest) (hW : 2 * g.monitorRoom + (rest.map fun v => v.category).sum ≤ 8) (hdg : decode cc g.pc = .ok (.invokeinterface index count, 5)) (hf : cells + mc ≤ R.cells ∧ slots + ms ≤ R.slots) :
    vx_Run5 p l e R s m args below meth c H locs cells slots mc ms g rest (Qc (Value.ref b :: As).toArray) XC free := by
  obtain ⟨hrc, hrs, hfr, hlo, hws, hcw⟩ := cw.back
  have hini := cw.init
  have hK : vx_Back l R p e below s args y 5 8 (PreOf R mc ms Pc) (PostOf Qc mc ms free) (vx_Post XC mc ms free) := vx_back (bytes := bytes) (maxL := maxL) (ret := ret) hM hp.1 hrc hrs hfr hlo hws hcw (fun a' U hW => word_at hW (Or.inl (by first | rfl | simp [Cond.onTables, Cond.keeps, Cond.steady])) hini)
  obtain ⟨hx, hb, hml, ho, -⟩ := S
  obtain ⟨-, ⟨cellB, hcB, hoB, hclB⟩, hPc⟩ := hp
  obtain ⟨hfc, kB, hkB, -⟩ := hat
  cases hfc.symm.trans hclB
  intro T hT X
  rcases vx_callIF X hx (C := C) (bytes := bytes) (maxL := maxL) (ret := ret) ho cw.link cw.decl cw.face cw.sel cw.inst cw.pub cw.unh cw.cast cw.code cw.notMH hK (by rw [hT]; exact hcB) hoB hclB hkB hg (hsize.trans hml.symm) (argsL := As) (rest := rest) (fun sig h => hn.trans (cw.len sig h)) hstack hW (by rw [hb]; exact hdg)
    (fun vm₁ hW₁ => ⟨hf.1, hf.2, hPc (T.setVm vm₁) hT hW₁⟩) with ⟨v, vm₁, ⟨U', l2, c2, s2⟩, hW₁, X', ⟨g', mk, t, L, e1, e2, hq, h1, hL, h2, h3⟩, st⟩ | ⟨q, vm₁, ⟨U', l2, c2, s2⟩, hW₁, X', ⟨g', mk, t, L, E, ce, e1, e2, hq, hce, hcv, hcl, h1, hL, h2, h3⟩, st⟩
  · dsimp only [Pt.U, Pt.locs, Pt.cells, Pt.slots] at X' e1 e2 h1 h2 h3 st
    subst h1; subst h2; subst h3
    exact Or.inl ⟨v, (T.setVm vm₁).calling g' mk (Value.ref b :: As).toArray, t, U', L, hT, X', hL, e1, e2, hq, st⟩
  · dsimp only [Pt.U, Pt.locs, Pt.cells, Pt.slots] at X' e1 e2 h1 h2 h3 st hcl
    subst h1; subst h2; subst h3
    exact Or.inr ⟨q, (T.setVm vm₁).calling g' mk (Value.ref b :: As).toArray, t, U', L, E, ce, hT, X', hL, e1, e2, hq, hce, hcv, vx_cls hW₁ hcl, st⟩
theorem vx_callFv {S SX : Type} {post : S → Prop} {px : SX → Prop} {B : S → State → Prop} {BX : String → SX → State → Prop} {AX : Nat → Prop} (hr : vx_Run5 p l e R s m args below meth c H locs cells slots mc ms (F0 m pc ls st0) rest (va_Qv post B A1 a) (vx_X px BX AX) free) (hS : va_S A0 H0 H locs) (hA : ∀ q, q < H.size → A1 q → A0 q) (hf : ∀ q, free q → A0 q) (hAX : ∀ q, q < H.size → AX q → A0 q)
    (kx : ∀ (E : String) (ce : Cell) (q9 : Addr) (u : SX) (t : State) (H1 : Heap) (locs1 : List Loc), t.heap = H1 → s.vm.Alike t.vm → px u → BX E u t → H.size ≤ H1.size → (∀ q : Nat, q < H.size → ¬ AX q → H1[q]? = H[q]?) → va_S A0 H0 H1 locs1 → H1[q9]? = some ce → ce.vm = .none → s.vm.findClass E = some ce.cls → vx_W p l e R s m args below meth c H1 locs1 (cells + mc) (slots + ms) Q (F0 m pc ls rest) q9)
    (kk : ∀ (u : S) (t : State) (H1 : Heap) (locs1 : List Loc), t.heap = H1 → s.vm.Alike t.vm → post u → B u t → H.size ≤ H1.size → (∀ q : Nat, q < H.size → ¬ A1 q → H1[q]? = H[q]?) → va_S A0 H0 H1 locs1 → W p l e R s m args below meth c H1 locs1 (cells + mc) (slots + ms) Q (F0 m (pc + 5) ls (rest))) : W p l e R s m args below meth c H locs cells slots Q (F0 m pc ls st0) := by
  intro T hT X
  rcases hr T hT X with ⟨v, st₀, t, T', L, h0, X', hL, e1, e2, ⟨⟨u, hv, hp, hb⟩, hF⟩, st⟩ | ⟨q, st₀, t, T', L, E, ce, h0, X', hL, e1, e2, ⟨u, hp, hb, hF⟩, hce, hcv, hcl, st⟩
  · cases hv
    obtain ⟨k1, k2, k3⟩ := vx_keep h0 e1 hS hA hf hL hF
    obtain ⟨t2, a1, b1⟩ := kk u t T'.heap (locs ++ L) e1.symm (by rw [← e2]; exact X'.warmed.alike) hp hb k1 k2 k3 T' rfl X'
    exact ⟨t2, st t2 a1, b1⟩
  · obtain ⟨k1, k2, k3⟩ := vx_keep h0 e1 hS hAX hf hL hF
    obtain ⟨t2, a1, b1⟩ := kx E ce q u t T'.heap (locs ++ L) e1.symm (by rw [← e2]; exact X'.warmed.alike) hp hb k1 k2 k3 (by rw [e1]; exact hce) hcv hcl T' rfl X'
    exact ⟨t2, st.trans a1, b1⟩
theorem vx_callFi {S SX : Type} {post : Int32 → S → Prop} {px : SX → Prop} {B : S → State → Prop} {BX : String → SX → State → Prop} {AX : Nat → Prop} (hr : vx_Run5 p l e R s m args below meth c H locs cells slots mc ms (F0 m pc ls st0) rest (va_Qi post B A1 a) (vx_X px BX AX) free) (hS : va_S A0 H0 H locs) (hA : ∀ q, q < H.size → A1 q → A0 q) (hf : ∀ q, free q → A0 q) (hAX : ∀ q, q < H.size → AX q → A0 q)
    (kx : ∀ (E : String) (ce : Cell) (q9 : Addr) (u : SX) (t : State) (H1 : Heap) (locs1 : List Loc), t.heap = H1 → s.vm.Alike t.vm → px u → BX E u t → H.size ≤ H1.size → (∀ q : Nat, q < H.size → ¬ AX q → H1[q]? = H[q]?) → va_S A0 H0 H1 locs1 → H1[q9]? = some ce → ce.vm = .none → s.vm.findClass E = some ce.cls → vx_W p l e R s m args below meth c H1 locs1 (cells + mc) (slots + ms) Q (F0 m pc ls rest) q9)
    (kk : ∀ (r : Int32) (u : S) (t : State) (H1 : Heap) (locs1 : List Loc), t.heap = H1 → s.vm.Alike t.vm → post r u → B u t → H.size ≤ H1.size → (∀ q : Nat, q < H.size → ¬ A1 q → H1[q]? = H[q]?) → va_S A0 H0 H1 locs1 → W p l e R s m args below meth c H1 locs1 (cells + mc) (slots + ms) Q (F0 m (pc + 5) ls (.int r :: rest))) : W p l e R s m args below meth c H locs cells slots Q (F0 m pc ls st0) := by
  intro T hT X
  rcases hr T hT X with ⟨v, st₀, t, T', L, h0, X', hL, e1, e2, ⟨⟨r, u, hv, hp, hb⟩, hF⟩, st⟩ | ⟨q, st₀, t, T', L, E, ce, h0, X', hL, e1, e2, ⟨u, hp, hb, hF⟩, hce, hcv, hcl, st⟩
  · cases hv
    obtain ⟨k1, k2, k3⟩ := vx_keep h0 e1 hS hA hf hL hF
    obtain ⟨t2, a1, b1⟩ := kk r u t T'.heap (locs ++ L) e1.symm (by rw [← e2]; exact X'.warmed.alike) hp hb k1 k2 k3 T' rfl X'
    exact ⟨t2, st t2 a1, b1⟩
  · obtain ⟨k1, k2, k3⟩ := vx_keep h0 e1 hS hAX hf hL hF
    obtain ⟨t2, a1, b1⟩ := kx E ce q u t T'.heap (locs ++ L) e1.symm (by rw [← e2]; exact X'.warmed.alike) hp hb k1 k2 k3 (by rw [e1]; exact hce) hcv hcl T' rfl X'
    exact ⟨t2, st.trans a1, b1⟩
theorem vx_callFl {S SX : Type} {post : Int64 → S → Prop} {px : SX → Prop} {B : S → State → Prop} {BX : String → SX → State → Prop} {AX : Nat → Prop} (hr : vx_Run5 p l e R s m args below meth c H locs cells slots mc ms (F0 m pc ls st0) rest (va_Ql post B A1 a) (vx_X px BX AX) free) (hS : va_S A0 H0 H locs) (hA : ∀ q, q < H.size → A1 q → A0 q) (hf : ∀ q, free q → A0 q) (hAX : ∀ q, q < H.size → AX q → A0 q)
    (kx : ∀ (E : String) (ce : Cell) (q9 : Addr) (u : SX) (t : State) (H1 : Heap) (locs1 : List Loc), t.heap = H1 → s.vm.Alike t.vm → px u → BX E u t → H.size ≤ H1.size → (∀ q : Nat, q < H.size → ¬ AX q → H1[q]? = H[q]?) → va_S A0 H0 H1 locs1 → H1[q9]? = some ce → ce.vm = .none → s.vm.findClass E = some ce.cls → vx_W p l e R s m args below meth c H1 locs1 (cells + mc) (slots + ms) Q (F0 m pc ls rest) q9)
    (kk : ∀ (r : Int64) (u : S) (t : State) (H1 : Heap) (locs1 : List Loc), t.heap = H1 → s.vm.Alike t.vm → post r u → B u t → H.size ≤ H1.size → (∀ q : Nat, q < H.size → ¬ A1 q → H1[q]? = H[q]?) → va_S A0 H0 H1 locs1 → W p l e R s m args below meth c H1 locs1 (cells + mc) (slots + ms) Q (F0 m (pc + 5) ls (.long r :: rest))) : W p l e R s m args below meth c H locs cells slots Q (F0 m pc ls st0) := by
  intro T hT X
  rcases hr T hT X with ⟨v, st₀, t, T', L, h0, X', hL, e1, e2, ⟨⟨r, u, hv, hp, hb⟩, hF⟩, st⟩ | ⟨q, st₀, t, T', L, E, ce, h0, X', hL, e1, e2, ⟨u, hp, hb, hF⟩, hce, hcv, hcl, st⟩
  · cases hv
    obtain ⟨k1, k2, k3⟩ := vx_keep h0 e1 hS hA hf hL hF
    obtain ⟨t2, a1, b1⟩ := kk r u t T'.heap (locs ++ L) e1.symm (by rw [← e2]; exact X'.warmed.alike) hp hb k1 k2 k3 T' rfl X'
    exact ⟨t2, st t2 a1, b1⟩
  · obtain ⟨k1, k2, k3⟩ := vx_keep h0 e1 hS hAX hf hL hF
    obtain ⟨t2, a1, b1⟩ := kx E ce q u t T'.heap (locs ++ L) e1.symm (by rw [← e2]; exact X'.warmed.alike) hp hb k1 k2 k3 (by rw [e1]; exact hce) hcv hcl T' rfl X'
    exact ⟨t2, st.trans a1, b1⟩
theorem vx_callFf {S SX : Type} {post : UInt32 → S → Prop} {px : SX → Prop} {B : S → State → Prop} {BX : String → SX → State → Prop} {AX : Nat → Prop} (hr : vx_Run5 p l e R s m args below meth c H locs cells slots mc ms (F0 m pc ls st0) rest (va_Qf post B A1 a) (vx_X px BX AX) free) (hS : va_S A0 H0 H locs) (hA : ∀ q, q < H.size → A1 q → A0 q) (hf : ∀ q, free q → A0 q) (hAX : ∀ q, q < H.size → AX q → A0 q)
    (kx : ∀ (E : String) (ce : Cell) (q9 : Addr) (u : SX) (t : State) (H1 : Heap) (locs1 : List Loc), t.heap = H1 → s.vm.Alike t.vm → px u → BX E u t → H.size ≤ H1.size → (∀ q : Nat, q < H.size → ¬ AX q → H1[q]? = H[q]?) → va_S A0 H0 H1 locs1 → H1[q9]? = some ce → ce.vm = .none → s.vm.findClass E = some ce.cls → vx_W p l e R s m args below meth c H1 locs1 (cells + mc) (slots + ms) Q (F0 m pc ls rest) q9)
    (kk : ∀ (r : UInt32) (u : S) (t : State) (H1 : Heap) (locs1 : List Loc), t.heap = H1 → s.vm.Alike t.vm → post r u → B u t → H.size ≤ H1.size → (∀ q : Nat, q < H.size → ¬ A1 q → H1[q]? = H[q]?) → va_S A0 H0 H1 locs1 → W p l e R s m args below meth c H1 locs1 (cells + mc) (slots + ms) Q (F0 m (pc + 5) ls (.float r :: rest))) : W p l e R s m args below meth c H locs cells slots Q (F0 m pc ls st0) := by
  intro T hT X
  rcases hr T hT X with ⟨v, st₀, t, T', L, h0, X', hL, e1, e2, ⟨⟨r, u, hv, hp, hb⟩, hF⟩, st⟩ | ⟨q, st₀, t, T', L, E, ce, h0, X', hL, e1, e2, ⟨u, hp, hb, hF⟩, hce, hcv, hcl, st⟩
  · cases hv
    obtain ⟨k1, k2, k3⟩ := vx_keep h0 e1 hS hA hf hL hF
    obtain ⟨t2, a1, b1⟩ := kk r u t T'.heap (locs ++ L) e1.symm (by rw [← e2]; exact X'.warmed.alike) hp hb k1 k2 k3 T' rfl X'
    exact ⟨t2, st t2 a1, b1⟩
  · obtain ⟨k1, k2, k3⟩ := vx_keep h0 e1 hS hAX hf hL hF
    obtain ⟨t2, a1, b1⟩ := kx E ce q u t T'.heap (locs ++ L) e1.symm (by rw [← e2]; exact X'.warmed.alike) hp hb k1 k2 k3 (by rw [e1]; exact hce) hcv hcl T' rfl X'
    exact ⟨t2, st.trans a1, b1⟩
theorem vx_callFd {S SX : Type} {post : UInt64 → S → Prop} {px : SX → Prop} {B : S → State → Prop} {BX : String → SX → State → Prop} {AX : Nat → Prop} (hr : vx_Run5 p l e R s m args below meth c H locs cells slots mc ms (F0 m pc ls st0) rest (va_Qd post B A1 a) (vx_X px BX AX) free) (hS : va_S A0 H0 H locs) (hA : ∀ q, q < H.size → A1 q → A0 q) (hf : ∀ q, free q → A0 q) (hAX : ∀ q, q < H.size → AX q → A0 q)
    (kx : ∀ (E : String) (ce : Cell) (q9 : Addr) (u : SX) (t : State) (H1 : Heap) (locs1 : List Loc), t.heap = H1 → s.vm.Alike t.vm → px u → BX E u t → H.size ≤ H1.size → (∀ q : Nat, q < H.size → ¬ AX q → H1[q]? = H[q]?) → va_S A0 H0 H1 locs1 → H1[q9]? = some ce → ce.vm = .none → s.vm.findClass E = some ce.cls → vx_W p l e R s m args below meth c H1 locs1 (cells + mc) (slots + ms) Q (F0 m pc ls rest) q9)
    (kk : ∀ (r : UInt64) (u : S) (t : State) (H1 : Heap) (locs1 : List Loc), t.heap = H1 → s.vm.Alike t.vm → post r u → B u t → H.size ≤ H1.size → (∀ q : Nat, q < H.size → ¬ A1 q → H1[q]? = H[q]?) → va_S A0 H0 H1 locs1 → W p l e R s m args below meth c H1 locs1 (cells + mc) (slots + ms) Q (F0 m (pc + 5) ls (.double r :: rest))) : W p l e R s m args below meth c H locs cells slots Q (F0 m pc ls st0) := by
  intro T hT X
  rcases hr T hT X with ⟨v, st₀, t, T', L, h0, X', hL, e1, e2, ⟨⟨r, u, hv, hp, hb⟩, hF⟩, st⟩ | ⟨q, st₀, t, T', L, E, ce, h0, X', hL, e1, e2, ⟨u, hp, hb, hF⟩, hce, hcv, hcl, st⟩
  · cases hv
    obtain ⟨k1, k2, k3⟩ := vx_keep h0 e1 hS hA hf hL hF
    obtain ⟨t2, a1, b1⟩ := kk r u t T'.heap (locs ++ L) e1.symm (by rw [← e2]; exact X'.warmed.alike) hp hb k1 k2 k3 T' rfl X'
    exact ⟨t2, st t2 a1, b1⟩
  · obtain ⟨k1, k2, k3⟩ := vx_keep h0 e1 hS hAX hf hL hF
    obtain ⟨t2, a1, b1⟩ := kx E ce q u t T'.heap (locs ++ L) e1.symm (by rw [← e2]; exact X'.warmed.alike) hp hb k1 k2 k3 (by rw [e1]; exact hce) hcv hcl T' rfl X'
    exact ⟨t2, st.trans a1, b1⟩
end
/-! ===== END ===== -/
/-! ===== BEGIN by an interface, a method with a table of its own that may throw (follows va_callIFW, va_runFW) ===== -/
section
variable {p : Program} {l : Launch} {e : Env} {R : Room} {s : State} {m : MethodId} {args : Array Value} {below : List Frame} {meth : Method} {c : Code} {H : Heap} {locs : List Loc} {cells slots : Nat}
theorem vx_callIFW {T : State} (X : Stand p l e R s m args below meth c T locs cells slots) (hexec : p.tables.exec = Jvm.exec) {own C : String} {index count : Nat} {x y : MethodName} {bytes : ByteArray} {maxL : Nat} {ret : Option FieldType} {hh : List (Nat × Nat × Nat × Nat)}
    (hown : s.vm.findClass own = some m.cls) (hlink : (Cond.methodLink own index x).before args s = true) (hdecl : (Cond.declares x).before args s = true) (hface : (Cond.interfaceMethod x.cls x.cls x.name x.desc).before args s = true)
    (hsel : (Cond.selects C x y).before args s = true) (hinst : (Cond.instanceMethod y).before args s = true) (hpub : (Cond.publicMethod y).before args s = true) (hunh : (Cond.unhidden C x.name x.desc).before args s = true)
    (hcast : (Cond.castable C x.cls).before args s = true) (hcode : (Cond.codeWith y bytes maxL ret hh).before args s = true) (hx : x.cls ≠ "java/lang/invoke/MethodHandle" ∧ x.cls ≠ "java/lang/invoke/VarHandle")
    {W : Nat} {Pre : Pt → Array Value → Prop} {Post : Pt → Array Value → Option Value → Pt → Prop} {PostX : Pt → Array Value → Addr → Pt → Prop} (hK : vx_Back l R p e below s args y 5 W Pre Post PostX)
    {b : Addr} {cellB : Cell} {kB : Class} (hcell : T.heap[b]? = some cellB) (hobj : cellB.vm.isStatics = false) (hcls : s.vm.findClass C = some cellB.cls) (hkB : s.vm.classes[cellB.cls]? = some kB)
    {g : JFrame} (hg : g.method = m) (hsize : g.locals.size = c.maxLocals) {argsL rest : List Value} (hlen : ∀ sig, parseMethodDescriptor x.desc = some sig → argsL.length = sig.parameters.length)
    (hstack : g.stack = argsL.reverse ++ .ref b :: rest) (hW : 2 * g.monitorRoom + (rest.map fun v => v.category).sum ≤ W) (hdg : decode c.code g.pc = .ok (.invokeinterface index count, 5))
    (hpre : ∀ vm₁, s.WarmedH vm₁ → Pre ⟨T.setVm vm₁, locs, cells, slots⟩ (Value.ref b :: argsL).toArray) :
    (∃ (v : Option Value) (vm₁ : Vm) (B : Pt), s.WarmedH vm₁ ∧ Stand p l e R s m args below meth c B.U B.locs B.cells B.slots ∧ Post ⟨T.setVm vm₁, locs, cells, slots⟩ (Value.ref b :: argsL).toArray v B ∧
      ∀ target, Steps p.tables e below (B.U.setTop { g with pc := g.pc + 5, stack := v.toList ++ rest }) target → Steps p.tables e below (T.setTop g) target) ∨
    (∃ (q : Addr) (vm₁ : Vm) (B : Pt), s.WarmedH vm₁ ∧ Stand p l e R s m args below meth c B.U B.locs B.cells B.slots ∧ PostX ⟨T.setVm vm₁, locs, cells, slots⟩ (Value.ref b :: argsL).toArray q B ∧
      Steps p.tables e below (T.setTop g) ((B.U.setTop { g with stack := rest }).pushFrame (.throwing q))) := by
  obtain ⟨r0, r, hn, hrm, hstR, hsigR⟩ := Cond.declares_spec hdecl
  obtain ⟨cL, kL, r1, hcL, hkL, hiL, hfoundL, hn1⟩ := Cond.interfaceMethod_spec hface
  cases hn.symm.trans hn1
  have hr0cls : r0.cls = cL := Option.some.inj ((findClass_of_methodNamed hn).symm.trans hcL)
  obtain ⟨hnameR, hdescR⟩ := name_of_methodNamed hn hrm
  obtain ⟨mk, methM, hnamed, hmethM, -, habM⟩ := Cond.instanceMethod_spec hinst
  obtain ⟨c2, r2, m2, q1, q2, q3, q4, -⟩ := Cond.selects_spec hsel
  cases hcls.symm.trans q1
  cases hfoundL.symm.trans q2
  cases hnamed.symm.trans q3
  have hselP : selectMethod e.platform s.vm cellB.cls r0 = .method mk := by rw [Launch.admits_selectMethod X.admits]; exact q4
  have hpubM : hasFlag methM.accessFlags Acc.public_ = true := Cond.publicMethod_spec hnamed hmethM hpub
  have hway : ((cellB.cls :: s.vm.superclasses cellB.cls).any fun k => (declaredIn s.vm r.name r.desc k).any fun (_, z) => z.isPrivate || z.isStatic) = false := by
    rw [hnameR, hdescR]; exact Cond.unhidden_spec hcls hunh
  obtain ⟨c3, t3, w1, w2, w3⟩ := Cond.castable_spec hcast
  cases hcls.symm.trans w1
  cases hcL.symm.trans w2
  obtain ⟨vm₁, X₁, hstep₁⟩ := X.invokeinterface hexec hown hlink hn hrm hstR (by rw [hr0cls]; exact hkL) hiL hx (a := b) (cell := cellB) (kcell := kB) hcell
    (fun z h => by rw [h] at hobj; cases hobj) hkB (by rw [hr0cls]; exact w3) hselP hmethM hway hpubM habM (g := g) hg (argsL := argsL) (rest := rest) (hlen _ hsigR) hstack hdg
  rcases hK m meth c ⟨T.setVm vm₁, locs, cells, slots⟩ { g with stack := rest } (.invokeinterface index count) mk (Value.ref b :: argsL).toArray X₁ hg hsize hdg hW (X₁.named hnamed) (hpre vm₁ X₁.warmed) with ⟨v, B, X', hpost, hsteps⟩ | ⟨q, B, X', hpost, hsteps⟩
  · exact Or.inl ⟨v, vm₁, B, X₁.warmed, X', hpost, fun target h => hstep₁ _ fun acts => by rw [doInvoke_state]; exact hsteps.trans h⟩
  · exact Or.inr ⟨q, vm₁, B, X₁.warmed, X', hpost, hstep₁ _ fun acts => by rw [doInvoke_state]; exact hsteps⟩
theorem vx_runFW {x y : MethodName} {bytes cc : ByteArray} {maxL nL mc ms n index count : Nat} {ret : Option FieldType} {hh : List (Nat × Nat × Nat × Nat)} {ws : List Cond} {rm : Room} {Pc : Array Value → State → Prop} {Qc : Array Value → State → Outcome → State → Prop} {XC : String → State → State → Prop} {free : Addr → Prop} {Ts : List Cond} {own C : String} {cC : ClassId} {b : Addr} {As rest : List Value} {g : JFrame}
    (hat : ClassAt s C cC) (S : CallFix p m c cc nL s args Ts own) (hM : vx_Met l y ws rm Pc Qc XC mc ms free) (cw : va_CIW R s args own C index x y bytes maxL ret hh ws rm mc ms n) (hp : PreV s H C b Pc As)
    (hg : g.method = m) (hn : As.length = n) (hsize : g.locals.size = nL) (hstack : g.stack = As.reverse ++ .ref b :: rest) (hW : 2 * g.monitorRoom + (rest.map fun v => v.category).sum ≤ 8) (hdg : decode cc g.pc = .ok (.invokeinterface index count, 5)) (hf : cells + mc ≤ R.cells ∧ slots + ms ≤ R.slots) :
    vx_Run5 p l e R s m args below meth c H locs cells slots mc ms g rest (Qc (Value.ref b :: As).toArray) XC free := by
  obtain ⟨hrc, hrs, hfr, hlo, hws, hcw⟩ := cw.back
  have hini := cw.init
  have hK : vx_Back l R p e below s args y 5 8 (PreOf R mc ms Pc) (PostOf Qc mc ms free) (vx_Post XC mc ms free) := vx_backW (hh := hh) (bytes := bytes) (maxL := maxL) (ret := ret) hM hp.1 hrc hrs hfr hlo hws hcw (fun a' U hW => word_at hW (Or.inl (by first | rfl | simp [Cond.onTables, Cond.keeps, Cond.steady])) hini)
  obtain ⟨hx, hb, hml, ho, -⟩ := S
  obtain ⟨-, ⟨cellB, hcB, hoB, hclB⟩, hPc⟩ := hp
  obtain ⟨hfc, kB, hkB, -⟩ := hat
  cases hfc.symm.trans hclB
  intro T hT X
  rcases vx_callIFW X hx (C := C) (hh := hh) (bytes := bytes) (maxL := maxL) (ret := ret) ho cw.link cw.decl cw.face cw.sel cw.inst cw.pub cw.unh cw.cast cw.code cw.notMH hK (by rw [hT]; exact hcB) hoB hclB hkB hg (hsize.trans hml.symm) (argsL := As) (rest := rest) (fun sig h => hn.trans (cw.len sig h)) hstack hW (by rw [hb]; exact hdg)
    (fun vm₁ hW₁ => ⟨hf.1, hf.2, hPc (T.setVm vm₁) hT hW₁⟩) with ⟨v, vm₁, ⟨U', l2, c2, s2⟩, hW₁, X', ⟨g', mk, t, L, e1, e2, hq, h1, hL, h2, h3⟩, st⟩ | ⟨q, vm₁, ⟨U', l2, c2, s2⟩, hW₁, X', ⟨g', mk, t, L, E, ce, e1, e2, hq, hce, hcv, hcl, h1, hL, h2, h3⟩, st⟩
  · dsimp only [Pt.U, Pt.locs, Pt.cells, Pt.slots] at X' e1 e2 h1 h2 h3 st
    subst h1; subst h2; subst h3
    exact Or.inl ⟨v, (T.setVm vm₁).calling g' mk (Value.ref b :: As).toArray, t, U', L, hT, X', hL, e1, e2, hq, st⟩
  · dsimp only [Pt.U, Pt.locs, Pt.cells, Pt.slots] at X' e1 e2 h1 h2 h3 st hcl
    subst h1; subst h2; subst h3
    exact Or.inr ⟨q, (T.setVm vm₁).calling g' mk (Value.ref b :: As).toArray, t, U', L, E, ce, hT, X', hL, e1, e2, hq, hce, hcv, vx_cls hW₁ hcl, st⟩
end
/-! ===== END ===== -/
/-! ===== BEGIN .. of methods that hand back an object of the pool ===== -/
section
variable {p : Program} {l : Launch} {e : Env} {R : Room} {s : State} {m : MethodId} {args : Array Value} {below : List Frame} {meth : Method} {c : Code} {H : Heap} {locs : List Loc} {cells slots : Nat} {Q : State → Prop}
variable {mc ms : Nat} {free : Addr → Prop} {A0 A1 : Nat → Prop} {H0 : Heap} {a : Array Value} {pc : Nat} {ls : Array Slot} {st0 rest : List Value}
theorem vx_callq {S SX : Type} {post : Option Nat → S → Prop} {px : SX → Prop} {B : S → State → Prop} {BX : String → SX → State → Prop} {AX : Nat → Prop} (hr : vx_Run p l e R s m args below meth c H locs cells slots mc ms (F0 m pc ls st0) rest (va_Qq post B A1 a) (vx_X px BX AX) free) (hS : va_S A0 H0 H locs) (hA : ∀ q, q < H.size → A1 q → A0 q) (hf : ∀ q, free q → A0 q) (hAX : ∀ q, q < H.size → AX q → A0 q)
    (kx : ∀ (E : String) (ce : Cell) (q9 : Addr) (u : SX) (t : State) (H1 : Heap) (locs1 : List Loc), t.heap = H1 → s.vm.Alike t.vm → px u → BX E u t → H.size ≤ H1.size → (∀ q : Nat, q < H.size → ¬ AX q → H1[q]? = H[q]?) → va_S A0 H0 H1 locs1 → H1[q9]? = some ce → ce.vm = .none → s.vm.findClass E = some ce.cls → vx_W p l e R s m args below meth c H1 locs1 (cells + mc) (slots + ms) Q (F0 m pc ls rest) q9)
    (kk : ∀ (r : Option Nat) (u : S) (t : State) (H1 : Heap) (locs1 : List Loc), t.heap = H1 → s.vm.Alike t.vm → post r u → B u t → H.size ≤ H1.size → (∀ q : Nat, q < H.size → ¬ A1 q → H1[q]? = H[q]?) → va_S A0 H0 H1 locs1 → W p l e R s m args below meth c H1 locs1 (cells + mc) (slots + ms) Q (F0 m (pc + 3) ls (va_rf r :: rest))) : W p l e R s m args below meth c H locs cells slots Q (F0 m pc ls st0) := by
  intro T hT X
  rcases hr T hT X with ⟨v, st₀, t, T', L, h0, X', hL, e1, e2, ⟨⟨r, u, hv, hp, hb⟩, hF⟩, st⟩ | ⟨q, st₀, t, T', L, E, ce, h0, X', hL, e1, e2, ⟨u, hp, hb, hF⟩, hce, hcv, hcl, st⟩
  · cases hv
    obtain ⟨k1, k2, k3⟩ := vx_keep h0 e1 hS hA hf hL hF
    obtain ⟨t2, a1, b1⟩ := kk r u t T'.heap (locs ++ L) e1.symm (by rw [← e2]; exact X'.warmed.alike) hp hb k1 k2 k3 T' rfl X'
    exact ⟨t2, st t2 a1, b1⟩
  · obtain ⟨k1, k2, k3⟩ := vx_keep h0 e1 hS hAX hf hL hF
    obtain ⟨t2, a1, b1⟩ := kx E ce q u t T'.heap (locs ++ L) e1.symm (by rw [← e2]; exact X'.warmed.alike) hp hb k1 k2 k3 (by rw [e1]; exact hce) hcv hcl T' rfl X'
    exact ⟨t2, st.trans a1, b1⟩
end
/-! ===== END ===== -/
/-! ===== BEGIN .. a constant ===== -/
section
variable {p : Program} {l : Launch} {e : Env} {R : Room} {s : State} {m : MethodId} {args : Array Value} {below : List Frame} {meth : Method} {c : Code} {H : Heap} {locs : List Loc} {cells slots : Nat} {Q : State → Prop}
variable {mc ms : Nat} {free : Addr → Prop} {A0 A1 : Nat → Prop} {H0 : Heap} {a : Array Value} {pc : Nat} {ls : Array Slot} {st0 rest : List Value}
theorem vx_calle {ad : Nat → Nat} {S SX : Type} {post : Option Nat → S → Prop} {px : SX → Prop} {B : S → State → Prop} {BX : String → SX → State → Prop} {AX : Nat → Prop} (hr : vx_Run p l e R s m args below meth c H locs cells slots mc ms (F0 m pc ls st0) rest (va_Qe ad post B A1 a) (vx_X px BX AX) free) (hS : va_S A0 H0 H locs) (hA : ∀ q, q < H.size → A1 q → A0 q) (hf : ∀ q, free q → A0 q) (hAX : ∀ q, q < H.size → AX q → A0 q)
    (kx : ∀ (E : String) (ce : Cell) (q9 : Addr) (u : SX) (t : State) (H1 : Heap) (locs1 : List Loc), t.heap = H1 → s.vm.Alike t.vm → px u → BX E u t → H.size ≤ H1.size → (∀ q : Nat, q < H.size → ¬ AX q → H1[q]? = H[q]?) → va_S A0 H0 H1 locs1 → H1[q9]? = some ce → ce.vm = .none → s.vm.findClass E = some ce.cls → vx_W p l e R s m args below meth c H1 locs1 (cells + mc) (slots + ms) Q (F0 m pc ls rest) q9)
    (kk : ∀ (r : Option Nat) (u : S) (t : State) (H1 : Heap) (locs1 : List Loc), t.heap = H1 → s.vm.Alike t.vm → post r u → B u t → H.size ≤ H1.size → (∀ q : Nat, q < H.size → ¬ A1 q → H1[q]? = H[q]?) → va_S A0 H0 H1 locs1 → W p l e R s m args below meth c H1 locs1 (cells + mc) (slots + ms) Q (F0 m (pc + 3) ls (va_re ad r :: rest))) : W p l e R s m args below meth c H locs cells slots Q (F0 m pc ls st0) := by
  intro T hT X
  rcases hr T hT X with ⟨v, st₀, t, T', L, h0, X', hL, e1, e2, ⟨⟨r, u, hv, hp, hb⟩, hF⟩, st⟩ | ⟨q, st₀, t, T', L, E, ce, h0, X', hL, e1, e2, ⟨u, hp, hb, hF⟩, hce, hcv, hcl, st⟩
  · cases hv
    obtain ⟨k1, k2, k3⟩ := vx_keep h0 e1 hS hA hf hL hF
    obtain ⟨t2, a1, b1⟩ := kk r u t T'.heap (locs ++ L) e1.symm (by rw [← e2]; exact X'.warmed.alike) hp hb k1 k2 k3 T' rfl X'
    exact ⟨t2, st t2 a1, b1⟩
  · obtain ⟨k1, k2, k3⟩ := vx_keep h0 e1 hS hAX hf hL hF
    obtain ⟨t2, a1, b1⟩ := kx E ce q u t T'.heap (locs ++ L) e1.symm (by rw [← e2]; exact X'.warmed.alike) hp hb k1 k2 k3 (by rw [e1]; exact hce) hcv hcl T' rfl X'
    exact ⟨t2, st.trans a1, b1⟩
end
/-! ===== END ===== -/
/-! ===== BEGIN .. by an interface, an object ===== -/
section
variable {p : Program} {l : Launch} {e : Env} {R : Room} {s : State} {m : MethodId} {args : Array Value} {below : List Frame} {meth : Method} {c : Code} {H : Heap} {locs : List Loc} {cells slots : Nat} {Q : State → Prop}
variable {mc ms : Nat} {free : Addr → Prop} {A0 A1 : Nat → Prop} {H0 : Heap} {a : Array Value} {pc : Nat} {ls : Array Slot} {st0 rest : List Value}
theorem vx_callFq {S SX : Type} {post : Option Nat → S → Prop} {px : SX → Prop} {B : S → State → Prop} {BX : String → SX → State → Prop} {AX : Nat → Prop} (hr : vx_Run5 p l e R s m args below meth c H locs cells slots mc ms (F0 m pc ls st0) rest (va_Qq post B A1 a) (vx_X px BX AX) free) (hS : va_S A0 H0 H locs) (hA : ∀ q, q < H.size → A1 q → A0 q) (hf : ∀ q, free q → A0 q) (hAX : ∀ q, q < H.size → AX q → A0 q)
    (kx : ∀ (E : String) (ce : Cell) (q9 : Addr) (u : SX) (t : State) (H1 : Heap) (locs1 : List Loc), t.heap = H1 → s.vm.Alike t.vm → px u → BX E u t → H.size ≤ H1.size → (∀ q : Nat, q < H.size → ¬ AX q → H1[q]? = H[q]?) → va_S A0 H0 H1 locs1 → H1[q9]? = some ce → ce.vm = .none → s.vm.findClass E = some ce.cls → vx_W p l e R s m args below meth c H1 locs1 (cells + mc) (slots + ms) Q (F0 m pc ls rest) q9)
    (kk : ∀ (r : Option Nat) (u : S) (t : State) (H1 : Heap) (locs1 : List Loc), t.heap = H1 → s.vm.Alike t.vm → post r u → B u t → H.size ≤ H1.size → (∀ q : Nat, q < H.size → ¬ A1 q → H1[q]? = H[q]?) → va_S A0 H0 H1 locs1 → W p l e R s m args below meth c H1 locs1 (cells + mc) (slots + ms) Q (F0 m (pc + 5) ls (va_rf r :: rest))) : W p l e R s m args below meth c H locs cells slots Q (F0 m pc ls st0) := by
  intro T hT X
  rcases hr T hT X with ⟨v, st₀, t, T', L, h0, X', hL, e1, e2, ⟨⟨r, u, hv, hp, hb⟩, hF⟩, st⟩ | ⟨q, st₀, t, T', L, E, ce, h0, X', hL, e1, e2, ⟨u, hp, hb, hF⟩, hce, hcv, hcl, st⟩
  · cases hv
    obtain ⟨k1, k2, k3⟩ := vx_keep h0 e1 hS hA hf hL hF
    obtain ⟨t2, a1, b1⟩ := kk r u t T'.heap (locs ++ L) e1.symm (by rw [← e2]; exact X'.warmed.alike) hp hb k1 k2 k3 T' rfl X'
    exact ⟨t2, st t2 a1, b1⟩
  · obtain ⟨k1, k2, k3⟩ := vx_keep h0 e1 hS hAX hf hL hF
    obtain ⟨t2, a1, b1⟩ := kx E ce q u t T'.heap (locs ++ L) e1.symm (by rw [← e2]; exact X'.warmed.alike) hp hb k1 k2 k3 (by rw [e1]; exact hce) hcv hcl T' rfl X'
    exact ⟨t2, st.trans a1, b1⟩
end
/-! ===== END ===== -/
/-! ===== BEGIN .. by an interface, a constant ===== -/
section
variable {p : Program} {l : Launch} {e : Env} {R : Room} {s : State} {m : MethodId} {args : Array Value} {below : List Frame} {meth : Method} {c : Code} {H : Heap} {locs : List Loc} {cells slots : Nat} {Q : State → Prop}
variable {mc ms : Nat} {free : Addr → Prop} {A0 A1 : Nat → Prop} {H0 : Heap} {a : Array Value} {pc : Nat} {ls : Array Slot} {st0 rest : List Value}
theorem vx_callFe {ad : Nat → Nat} {S SX : Type} {post : Option Nat → S → Prop} {px : SX → Prop} {B : S → State → Prop} {BX : String → SX → State → Prop} {AX : Nat → Prop} (hr : vx_Run5 p l e R s m args below meth c H locs cells slots mc ms (F0 m pc ls st0) rest (va_Qe ad post B A1 a) (vx_X px BX AX) free) (hS : va_S A0 H0 H locs) (hA : ∀ q, q < H.size → A1 q → A0 q) (hf : ∀ q, free q → A0 q) (hAX : ∀ q, q < H.size → AX q → A0 q)
    (kx : ∀ (E : String) (ce : Cell) (q9 : Addr) (u : SX) (t : State) (H1 : Heap) (locs1 : List Loc), t.heap = H1 → s.vm.Alike t.vm → px u → BX E u t → H.size ≤ H1.size → (∀ q : Nat, q < H.size → ¬ AX q → H1[q]? = H[q]?) → va_S A0 H0 H1 locs1 → H1[q9]? = some ce → ce.vm = .none → s.vm.findClass E = some ce.cls → vx_W p l e R s m args below meth c H1 locs1 (cells + mc) (slots + ms) Q (F0 m pc ls rest) q9)
    (kk : ∀ (r : Option Nat) (u : S) (t : State) (H1 : Heap) (locs1 : List Loc), t.heap = H1 → s.vm.Alike t.vm → post r u → B u t → H.size ≤ H1.size → (∀ q : Nat, q < H.size → ¬ A1 q → H1[q]? = H[q]?) → va_S A0 H0 H1 locs1 → W p l e R s m args below meth c H1 locs1 (cells + mc) (slots + ms) Q (F0 m (pc + 5) ls (va_re ad r :: rest))) : W p l e R s m args below meth c H locs cells slots Q (F0 m pc ls st0) := by
  intro T hT X
  rcases hr T hT X with ⟨v, st₀, t, T', L, h0, X', hL, e1, e2, ⟨⟨r, u, hv, hp, hb⟩, hF⟩, st⟩ | ⟨q, st₀, t, T', L, E, ce, h0, X', hL, e1, e2, ⟨u, hp, hb, hF⟩, hce, hcv, hcl, st⟩
  · cases hv
    obtain ⟨k1, k2, k3⟩ := vx_keep h0 e1 hS hA hf hL hF
    obtain ⟨t2, a1, b1⟩ := kk r u t T'.heap (locs ++ L) e1.symm (by rw [← e2]; exact X'.warmed.alike) hp hb k1 k2 k3 T' rfl X'
    exact ⟨t2, st t2 a1, b1⟩
  · obtain ⟨k1, k2, k3⟩ := vx_keep h0 e1 hS hAX hf hL hF
    obtain ⟨t2, a1, b1⟩ := kx E ce q u t T'.heap (locs ++ L) e1.symm (by rw [← e2]; exact X'.warmed.alike) hp hb k1 k2 k3 (by rw [e1]; exact hce) hcv hcl T' rfl X'
    exact ⟨t2, st.trans a1, b1⟩
end
/-! ===== END ===== -/
/-! ===== BEGIN what the machine throws by itself: null at a field, at athrow ===== -/
section VXM2
variable {p : Program} {l : Launch} {e : Env} {R : Room} {s : State} {m : MethodId} {args : Array Value} {below : List Frame} {meth : Method} {c : Code} {H : Heap} {locs : List Loc} {cells slots : Nat}
variable {Q : State → Prop} {cc : ByteArray} {pc : Nat} {ls : Array Slot} {rest : List Value}
theorem vx_getfN {D cl tys} {own ref C : String} {T : u_T} {N ci index : Nat} {Ts : List Cond} (hexec : p.tables.exec = Jvm.exec) (hb : c.code = cc) (hts : ∀ w ∈ Ts, w.before args s = true) (hin : ∀ w ∈ u_ws C T N, w ∈ Ts) (hown : s.vm.findClass own = some m.cls) (hK : va_K D cl tys s) (hc : cl[ci]? = some (C, T, N)) (k : Nat) (hk : k < N) (hlink : (Cond.fieldLink own index ref (T k).2.1 (T k).2.2.1).before args s = true) (hsame : ∀ x, s.fieldFound? (T k).1 (T k).2.1 (T k).2.2.1 = some x → s.fieldFound? ref (T k).2.1 (T k).2.2.1 = some x) (hdg : decode cc pc = .ok (.getfield index, 3)) (kk : vx_NoteN p l e R s m args below meth c H locs cells slots Q (F0 m pc ls rest)) : W p l e R s m args below meth c H locs cells slots Q (F0 m pc ls (.null :: rest)) := by
  obtain ⟨hS, hfc, kC, hkC, -⟩ := hK.1 ci _ hc
  obtain ⟨cf, kf, fi, f, hi, -⟩ := hS k hk
  intro U hU X
  obtain ⟨vm', X1, st1⟩ := X.getfieldNull hexec hown hlink (hsame _ hi) (u_facts hfc hkC (u_lays hts hin hk) hi).1 (g := F0 m pc ls (.null :: rest)) rfl (rest := rest) rfl (by rw [hb]; exact hdg)
  obtain ⟨t, st, q⟩ := kk (U.setVm vm') hU X1
  exact ⟨t, st1 t st, q⟩
theorem vx_getfNN {D cl tys} {own ref C host : String} {T : u_T} {N ci index : Nat} {Ts : List Cond} (hexec : p.tables.exec = Jvm.exec) (hb : c.code = cc) (hts : ∀ w ∈ Ts, w.before args s = true) (hin : ∀ w ∈ u_ws C T N, w ∈ Ts) (hown : s.vm.findClass own = some m.cls) (hK : va_K D cl tys s) (hc : cl[ci]? = some (C, T, N)) (k : Nat) (hk : k < N) (hlink : (Cond.fieldLinkNest own index ref (T k).2.1 (T k).2.2.1 host).before args s = true) (hsame : ∀ x, s.fieldFound? (T k).1 (T k).2.1 (T k).2.2.1 = some x → s.fieldFound? ref (T k).2.1 (T k).2.2.1 = some x) (hdg : decode cc pc = .ok (.getfield index, 3)) (kk : vx_NoteN p l e R s m args below meth c H locs cells slots Q (F0 m pc ls rest)) : W p l e R s m args below meth c H locs cells slots Q (F0 m pc ls (.null :: rest)) := by
  obtain ⟨hS, hfc, kC, hkC, -⟩ := hK.1 ci _ hc
  obtain ⟨cf, kf, fi, f, hi, -⟩ := hS k hk
  intro U hU X
  obtain ⟨vm', X1, st1⟩ := X.getfieldNullNest hexec hown hlink (hsame _ hi) (u_facts hfc hkC (u_lays hts hin hk) hi).1 (g := F0 m pc ls (.null :: rest)) rfl (rest := rest) rfl (by rw [hb]; exact hdg)
  obtain ⟨t, st, q⟩ := kk (U.setVm vm') hU X1
  exact ⟨t, st1 t st, q⟩
theorem vx_putfN {D cl tys} {own ref C : String} {T : u_T} {N ci index : Nat} {Ts : List Cond} (hexec : p.tables.exec = Jvm.exec) (hb : c.code = cc) (hts : ∀ w ∈ Ts, w.before args s = true) (hin : ∀ w ∈ u_ws C T N, w ∈ Ts) (hown : s.vm.findClass own = some m.cls) (hK : va_K D cl tys s) (hc : cl[ci]? = some (C, T, N)) (k : Nat) (hk : k < N) (hlink : (Cond.fieldLink own index ref (T k).2.1 (T k).2.2.1).before args s = true) (hsame : ∀ x, s.fieldFound? (T k).1 (T k).2.1 (T k).2.2.1 = some x → s.fieldFound? ref (T k).2.1 (T k).2.2.1 = some x) (hfin : (T k).2.2.2 = false) {v : Value} (hdg : decode cc pc = .ok (.putfield index, 3)) (kk : vx_NoteN p l e R s m args below meth c H locs cells slots Q (F0 m pc ls rest)) : W p l e R s m args below meth c H locs cells slots Q (F0 m pc ls (v :: .null :: rest)) := by
  obtain ⟨hS, hfc, kC, hkC, -⟩ := hK.1 ci _ hc
  obtain ⟨cf, kf, fi, f, hi, -⟩ := hS k hk
  have hlay := hts _ (hin _ (u_in_lay hk))
  unfold u_lay at hlay
  rw [if_neg (by rw [hfin]; decide)] at hlay
  obtain ⟨c9, k9, cf9, kf9, fi9, f9, -, -, hi9, hst9, hnf9, -⟩ := Cond.lays_spec hlay
  cases hi.symm.trans hi9
  intro U hU X
  obtain ⟨vm', X1, st1⟩ := X.putfieldNull hexec hown hlink (hsame _ hi) hst9 hnf9 (g := F0 m pc ls (v :: .null :: rest)) rfl (v := v) (rest := rest) rfl (by rw [hb]; exact hdg)
  obtain ⟨t, st, q⟩ := kk (U.setVm vm') hU X1
  exact ⟨t, st1 t st, q⟩
theorem vx_putfNN {D cl tys} {own ref C host : String} {T : u_T} {N ci index : Nat} {Ts : List Cond} (hexec : p.tables.exec = Jvm.exec) (hb : c.code = cc) (hts : ∀ w ∈ Ts, w.before args s = true) (hin : ∀ w ∈ u_ws C T N, w ∈ Ts) (hown : s.vm.findClass own = some m.cls) (hK : va_K D cl tys s) (hc : cl[ci]? = some (C, T, N)) (k : Nat) (hk : k < N) (hlink : (Cond.fieldLinkNest own index ref (T k).2.1 (T k).2.2.1 host).before args s = true) (hsame : ∀ x, s.fieldFound? (T k).1 (T k).2.1 (T k).2.2.1 = some x → s.fieldFound? ref (T k).2.1 (T k).2.2.1 = some x) (hfin : (T k).2.2.2 = false) {v : Value} (hdg : decode cc pc = .ok (.putfield index, 3)) (kk : vx_NoteN p l e R s m args below meth c H locs cells slots Q (F0 m pc ls rest)) : W p l e R s m args below meth c H locs cells slots Q (F0 m pc ls (v :: .null :: rest)) := by
  obtain ⟨hS, hfc, kC, hkC, -⟩ := hK.1 ci _ hc
  obtain ⟨cf, kf, fi, f, hi, -⟩ := hS k hk
  have hlay := hts _ (hin _ (u_in_lay hk))
  unfold u_lay at hlay
  rw [if_neg (by rw [hfin]; decide)] at hlay
  obtain ⟨c9, k9, cf9, kf9, fi9, f9, -, -, hi9, hst9, hnf9, -⟩ := Cond.lays_spec hlay
  cases hi.symm.trans hi9
  intro U hU X
  obtain ⟨vm', X1, st1⟩ := X.putfieldNullNest hexec hown hlink (hsame _ hi) hst9 hnf9 (g := F0 m pc ls (v :: .null :: rest)) rfl (v := v) (rest := rest) rfl (by rw [hb]; exact hdg)
  obtain ⟨t, st, q⟩ := kk (U.setVm vm') hU X1
  exact ⟨t, st1 t st, q⟩
theorem vx_athrowN (hexec : p.tables.exec = Jvm.exec) (hb : c.code = cc) (hdg : decode cc pc = .ok (.athrow, 1)) (k : vx_NoteN p l e R s m args below meth c H locs cells slots Q (F0 m pc ls rest)) : W p l e R s m args below meth c H locs cells slots Q (F0 m pc ls (.null :: rest)) := by
  intro T hT X
  obtain ⟨t, st, q⟩ := k T hT X
  exact ⟨t, X.athrowNull hexec (g := F0 m pc ls (.null :: rest)) rfl (rest := rest) rfl (by rw [hb]; exact hdg) t st, q⟩
end VXM2
/-! ===== END ===== -/
end
section
/-! AN EXCEPTION WHOSE CONSTRUCTOR CALLS UP BY ANOTHER POOL NUMBER: NoSuchElementException's (String) calls RuntimeException's by 13, where vx_atS has 7: rows of kit/laws/EXCEPTIONS turned to any number -/
section VY
def vy_own (own : String) (ic : Nat) (X Y : String) (ix : Nat) (rx : ByteArray) (r : List String) : List Cond :=
  Bundle.throwableAtoms ++ Bundle.throwableSAtoms ++ (Bundle.passSAtoms X Y ix rx ++ Bundle.chainSAtoms Y r) ++
  [.methodLink own ic (Bundle.initS X), .instantiable X 6, .castable X X, .selects X Bundle.tFill0 Bundle.tFill0, .selects X Bundle.tFill Bundle.tFill] ++
  [.lays X Bundle.tN "cause" "Ljava/lang/Throwable;", .lays X Bundle.tN "stackTrace" Bundle.steD, .lays X Bundle.tN "suppressedExceptions" Bundle.listD, .lays X Bundle.tN "detailMessage" "Ljava/lang/String;"] ++
  [.isRef (.static Bundle.tN "UNASSIGNED_STACK" Bundle.steD), .isRef (.static Bundle.tN "SUPPRESSED_SENTINEL" Bundle.listD), .fieldLink Bundle.tN 198 Bundle.tN "backtrace" "Ljava/lang/Object;", .lays Bundle.tN Bundle.tN "backtrace" "Ljava/lang/Object;", .lays X Bundle.tN "backtrace" "Ljava/lang/Object;"]
def nseB : ByteArray := ⟨#[0x2a, 0x2b, 0xb7, 0x00, 0x0d, 0xb1]⟩
def vy_at (own : String) (ic : Nat) (X Y : String) (ix : Nat) (rx : ByteArray) (r : List String) : List Cond := (vy_own own ic X Y ix rx r).filter vx_no
theorem vy_chain {args : Array Value} {s : State} {pl : Platform} (hpl : pl.magicAccessors = ({} : Platform).magicAccessors) {top : MethodId} (htop : s.methodNamed? (Bundle.initS Bundle.tN) = some top) {X Y : String} {r : List String}
    {ix : Nat} {rx : ByteArray} (x0 : decode rx 0 = .ok (.aload_n 0, 1)) (x1 : decode rx 1 = .ok (.aload_n 1, 1)) (x2 : decode rx 2 = .ok (.invokespecial ix, 3)) (x5 : decode rx 5 = .ok (.return_, 1)) (hX : Bundle.fit X = true) (hn : ∀ n ∈ Y :: r, Bundle.fit n = true) (h : ∀ c ∈ Bundle.passSAtoms X Y ix rx ++ Bundle.chainSAtoms Y r, c.before args s = true) :
    ∃ (P1 : PassC) (Ps : List PassC), Ps.length = (Y :: r).length ∧ P1.LinksS pl s ∧ (∀ P, P ∈ Ps → P.LinksS pl s) ∧ s.methodNamed? (Bundle.initS X) = some P1.m ∧
      P1.sup = firstOf top (Ps.map (·.toPassT)) ∧ PassesOn top (Ps.map (·.toPassT)) := by
  obtain ⟨P, L, hm, hs⟩ := PassC.ofS_atoms (args := args) (s := s) hpl (X := X) (Y := Y) (Bundle.fit_spec hX).1 (Bundle.fit_spec (hn Y List.mem_cons_self)).2 x0 x1 x2 x5 (fun c hc => h c (List.mem_append_left _ hc))
  obtain ⟨P', Ps, hlen, L', hL, hm', hsup, hpass⟩ := Bundle.chainS (args := args) hpl htop r Y (hn Y List.mem_cons_self) (fun n hn' => hn n (List.mem_cons_of_mem _ hn')) (fun c hc => h c (List.mem_append_right _ hc))
  exact ⟨P, P' :: Ps, by simp [hlen], L, fun Q hQ => (List.mem_cons.mp hQ).elim (fun e => e ▸ L') (hL Q), hm, Option.some.inj (hs.symm.trans hm'), hsup, hpass⟩
section VY1
variable {p : Program} {l : Launch} {e : Env} {R : Room} {s : State} {m₀ : MethodId} {args : Array Value} {below : List Frame} {meth : Method} {c : Code} {W : State} {locs : List Loc} {cells slots : Nat}
set_option maxHeartbeats 1000000 in
theorem vy_ctorMadeS (X : Stand p l e R s m₀ args below meth c W locs cells slots) (hexec : p.tables.exec = Jvm.exec) (htr : e.platform.stackTraces = false) {own cls Y0 : String} {r0 : List String} {ic ix : Nat} {rx : ByteArray} (x0 : decode rx 0 = .ok (.aload_n 0, 1)) (x1 : decode rx 1 = .ok (.aload_n 1, 1)) (x2 : decode rx 2 = .ok (.invokespecial ix, 3)) (x5 : decode rx 5 = .ok (.return_, 1))
    (hown : s.vm.findClass own = some m₀.cls) (hcls : Bundle.fit cls = true) (hnames : ∀ n ∈ Y0 :: r0, Bundle.fit n = true)
    (h : ∀ a ∈ vy_own own ic cls Y0 ix rx r0, a.before args s = true)
    (hlocs : ∀ x ∈ locs, ∀ cell, s.heap[x.base]? = some cell → cell.vm.isStatics = false)
    {a : Addr} {cX : ClassId} {kX : Class} (hfoundX : s.vm.findClass cls = some cX) (hkX : s.vm.classes[cX]? = some kX) (hcell : W.heap[a]? = some (freshCell cX kX)) (hnew : s.heap.size ≤ a)
    {msg : Value} (hmsg : msg.isRef = true)
    {g : JFrame} (hg : g.method = m₀) (hsize : g.locals.size = c.maxLocals) {rest : List Value} (hstack : g.stack = msg :: .ref a :: .ref a :: rest)
    (hd6 : decode c.code g.pc = .ok (.invokespecial ic, 3))
    (hRframes : (Y0 :: r0).length + 3 < R.frames) (hRlocals : 2 * g.monitorRoom + ((Value.ref a :: rest).map fun v => v.category).sum + (13 * ((Y0 :: r0).length + 1) + 42) ≤ R.locals) :
    ∃ (V : State) (ce : Cell) (L : List Loc), Stand p l e R s m₀ args below meth c (V.setCell a ce) (locs ++ L) cells slots ∧ (∀ y ∈ L, y.base = a) ∧ a < V.heap.size ∧ ce.cls = cX ∧ ce.vm = .none ∧
      ∀ target, Steps p.tables e below ((V.setCell a ce).setTop { g with stack := .ref a :: rest, pc := g.pc + 3 }) target → Steps p.tables e below (W.setTop g) target := by
  have howns : e.platform.frameOwnsMonitors = true := by rw [X.admits.platform]
  have hfin : e.platform.finalization = false := by rw [X.admits.platform]
  have hpl : e.platform.magicAccessors = ({} : Platform).magicAccessors := by rw [X.admits.platform]
  have a' : ∀ x, x ∈ vy_own own ic cls Y0 ix rx r0 → x.holds args s none s [] = true := fun x hx => h x hx
  obtain ⟨T, Z0, L, -, Y⟩ := ThrowableC.of_atoms (args := args) howns hfin hpl (fun x hx => h x (by simp [vy_own, hx]))
  obtain ⟨Z, M, LZ, LM, hnZ⟩ := Init0T.ofS_atoms (args := args) hpl L Y (fun x hx => h x (by simp [vy_own, hx]))
  obtain ⟨P1, Ps, hlen, L1, hL, hP1m, hlink1, hlink⟩ := vy_chain (args := args) hpl hnZ x0 x1 x2 x5 hcls hnames (fun x hx => h x (List.mem_append_left _ (List.mem_append_left _ (List.mem_append_left _ (List.mem_append_right _ hx)))))
  have hfound : s.vm.findClass cls = some P1.m.cls := findClass_of_methodNamed hP1m
  cases Option.some.inj (hfoundX.symm.trans hfound)
  obtain ⟨c1, kX', hc1, hk, hord, -, -, hn6⟩ := Cond.instantiable_spec (a' (.instantiable cls 6) (by simp [vy_own]))
  cases Option.some.inj (hc1.symm.trans hfound)
  cases Option.some.inj (hkX.symm.trans hk)
  have hsel0 : selectMethod e.platform s.vm P1.m.cls T.fill0 = .method T.fill0 := by
    obtain ⟨c2, r2, m2, q1, q2, q3, q4, -⟩ := Cond.selects_spec (a' (.selects cls Bundle.tFill0 Bundle.tFill0) (by simp [vy_own]))
    cases Option.some.inj (q1.symm.trans hfound)
    cases Option.some.inj (q2.symm.trans (State.methodFound?_of_named Y.fill0 (by decide)))
    cases Option.some.inj (q3.symm.trans Y.fill0)
    rw [Launch.admits_selectMethod X.admits]; exact q4
  have hselF : selectMethod e.platform s.vm P1.m.cls T.fill = .method T.fill := by
    obtain ⟨c2, r2, m2, q1, q2, q3, q4, -⟩ := Cond.selects_spec (a' (.selects cls Bundle.tFill Bundle.tFill) (by simp [vy_own]))
    cases Option.some.inj (q1.symm.trans hfound)
    cases Option.some.inj (q2.symm.trans (State.methodFound?_of_named Y.fill (by decide)))
    cases Option.some.inj (q3.symm.trans Y.fill)
    rw [Launch.admits_selectMethod X.admits]; exact q4
  obtain ⟨cellS0, hcS0, hiss⟩ := Y.statics
  obtain ⟨u0, hu0⟩ := Cond.staticRefV Y.unassigned L.unassignedStatic L.statics hcS0 hiss (a' (.isRef (.static Bundle.tN "UNASSIGNED_STACK" Bundle.steD)) (by simp [vy_own]))
  obtain ⟨sen, hsen⟩ := Cond.staticRefV Y.sentinel L.sentinelStatic L.statics hcS0 hiss (a' (.isRef (.static Bundle.tN "SUPPRESSED_SENTINEL" Bundle.listD)) (by simp [vy_own]))
  obtain ⟨ci198, i198, fB, hk198, hg198, ha198, hsB, -, hnB, htB, hffB⟩ := Cond.ownField (t := .object "java/lang/Object") Y.found L.cls (by decide +kernel) (a' (.fieldLink Bundle.tN 198 Bundle.tN "backtrace" "Ljava/lang/Object;") (by simp [vy_own])) (a' (.lays Bundle.tN Bundle.tN "backtrace" "Ljava/lang/Object;") (by simp [vy_own])) e.platform hpl
  obtain ⟨cellS, hcS', heS, -, hkeep⟩ := X.same.2.2.2.2.2 T.aS cellS0 hcS0
  have hcellS : W.heap[T.aS]? = some cellS := hcS'
  have hout' : ∀ i, (⟨T.aS, i⟩ : Loc) ∉ locs := fun i hmem => by
    have := hlocs _ hmem cellS0 hcS0
    rw [hiss] at this; cases this
  have hknownS : cellS.vm ≠ .unknown := by
    rw [heS]; intro hu
    rw [show cellS0.vm = .unknown from hu] at hiss
    cases hiss
  have hneS : T.aS ≠ a := Nat.ne_of_lt (Nat.lt_of_lt_of_le (Array.getElem?_eq_some_iff.mp hcS0).1 hnew)
  obtain ⟨iM, hffM⟩ := Y.msg
  obtain ⟨tyC, dC, hdC, hdnC⟩ := Cond.laysAt hfound hk Y.cause (a' (.lays cls Bundle.tN "cause" "Ljava/lang/Throwable;") (by simp [vy_own]))
  obtain ⟨tyS, dS, hdS, hdnS⟩ := Cond.laysAt hfound hk Y.stack (a' (.lays cls Bundle.tN "stackTrace" Bundle.steD) (by simp [vy_own]))
  obtain ⟨tyP, dP, hdP, hdnP⟩ := Cond.laysAt hfound hk Y.supp (a' (.lays cls Bundle.tN "suppressedExceptions" Bundle.listD) (by simp [vy_own]))
  obtain ⟨tyM, dM, hdM, hdnM⟩ := Cond.laysAt hfound hk hffM (a' (.lays cls Bundle.tN "detailMessage" "Ljava/lang/String;") (by simp [vy_own]))
  obtain ⟨tyB, dB, hdB, hdnB⟩ := Cond.laysAt hfound hk hffB (a' (.lays cls Bundle.tN "backtrace" "Ljava/lang/Object;") (by simp [vy_own]))
  have bC := Cond.laysApart hdB hdC hdnB hdnC (by rw [hnB, Y.causeName]; decide)
  have bS := Cond.laysApart hdB hdS hdnB hdnS (by rw [hnB, Y.stackName]; decide)
  have bP := Cond.laysApart hdB hdP hdnB hdnP (by rw [hnB, Y.suppName]; decide)
  have hskip : SkipFacts T e.platform s (fun u => u) u0 ((preparedCellV T.toThrowableT (freshCell P1.m.cls kX) a u0 sen).withEntry W.cur) :=
    ⟨{ ci198 := ci198, i198 := i198, fBack := fB }, ⟨hk198, hg198, ha198, hsB⟩, by
      have := fresh_default (c := P1.m.cls) tyB
      rw [htB] at this
      simpa [preparedCellV, Cell.setSlot, Cell.withEntry, Array.getElem?_setIfInBounds, bC, bS, bP, bC.symm, bS.symm, bP.symm, defaultValue] using this, fun _ _ => rfl⟩
  obtain ⟨tm, methC, cdC, kC, vm₁, hnC, -, -, -, -, -, -, -, hW₁, st1⟩ := Steps.initColdS (tb := p.tables) (e := e) (below := below) (s := s) (U := W) X.here hexec X.warmed hpl hown (t := Bundle.initS cls) rfl rfl (Bundle.fit_spec hcls).2
    (a' (.methodLink own ic (Bundle.initS cls)) (by simp [vy_own])) (h (.instanceMethod (Bundle.initS cls)) (by simp [vy_own, Bundle.passSAtoms])) (bytes := rx) (maxL := 2) (h (.code (Bundle.initS cls) rx 2 none) (by simp [vy_own, Bundle.passSAtoms]))
    (f := g) hg (a := a) (msg := msg) (rest := .ref a :: rest) hstack hd6
  cases Option.some.inj (hnC.symm.trans hP1m)
  have X₁ := X.noted hW₁
  obtain ⟨vm₂, X₂, st2⟩ := X₁.ctorMessageOffV hexec (g := { g with stack := .ref a :: rest }) hg hsize T L Z LZ M LM (P1 :: Ps)
    (fun P hP => by rcases List.mem_cons.mp hP with rfl | hP; exact L1; exact hL P hP) ⟨hlink1, hlink⟩ (u0 := u0) (sen := sen) (self := a) hmsg (cell := freshCell P1.m.cls kX) (cellS := cellS)
    hcell (fun _ => by simp) (by simp) rfl rfl hsel0 hselF hcellS hneS hknownS (by rw [hkeep _ (hout' _)]; exact hu0) (by rw [hkeep _ (hout' _)]; exact hsen)
    (Takes.of_laid hk hord tyC (by rw [Y.causeType]; rfl)) (Takes.of_laid hk hord tyS (by rw [Y.stackType]; exact fits_refV_array _ u0)) (Takes.of_laid hk hord tyP (by rw [Y.suppType]; exact fits_refV_object _ sen))
    (Takes.of_laid hk hord tyM (by rw [Y.msgType]; exact fits_refV_object _ ⟨msg, hmsg⟩)) Y.objLocals hskip htr [] hd6
    (by simp only [List.length_cons, hlen]; omega) (by simp only [List.length_cons, hlen]; exact hRlocals)
  have hlt : a < ((W.setVm vm₁).setVm vm₂).heap.size := (Array.getElem?_eq_some_iff.mp hcell).1
  refine ⟨(W.setVm vm₁).setVm vm₂, _, _, X₂, fun y hy => ?_, hlt, rfl, rfl, fun target hwalk => st1 _ (fun acts => ?_)⟩
  · simp only [List.mem_cons, List.not_mem_nil, or_false] at hy
    rcases hy with rfl | rfl | rfl | rfl | rfl <;> rfl
  · rw [doInvoke_state]
    exact st2 _ hwalk
end VY1
section VY2
variable {p : Program} {l : Launch} {e : Env} {R : Room} {s : State} {m : MethodId} {args : Array Value} {below : List Frame} {meth : Method} {c : Code} {H : Heap} {locs : List Loc} {cells slots : Nat} {Q : State → Prop}
variable {ls : Array Slot} {rest : List Value} {D : va_G} {cl : List vw_C} {tys : List (ClassId × FieldType)} {ws : va_W}
set_option maxHeartbeats 1000000 in
theorem vy_makeS {cc : ByteArray} {pc : Nat} (hexec : p.tables.exec = Jvm.exec) (hb : c.code = cc) (hl : l.stackTraces = false) {own cls text Y0 : String} {r0 : List String} {ik is ic ix sa : Nat} {A : Nat → Prop} {rx : ByteArray} (x0 : decode rx 0 = .ok (.aload_n 0, 1)) (x1 : decode rx 1 = .ok (.aload_n 1, 1)) (x2 : decode rx 2 = .ok (.invokespecial ix, 3)) (x5 : decode rx 5 = .ok (.return_, 1))
    (hown : s.vm.findClass own = some m.cls) (hcls : Bundle.fit cls = true) (hnames : ∀ n ∈ Y0 :: r0, Bundle.fit n = true)
    (hk : (Cond.classLink own ik cls).before args s = true) (hini : (Cond.initialized cls).before args s = true) (hstr : vk_R own is text sa s) (hat : ∀ w ∈ vy_at own ic cls Y0 ix rx r0, w.before args s = true)
    (hgood : ∀ w ∈ Cond.classLink own ik cls :: Cond.initialized cls :: vy_at own ic cls Y0 ix rx r0, vx_ot w = true)
    (hU : vx_Zq Bundle.tN "UNASSIGNED_STACK" Bundle.steD A s s.heap) (hN : vx_Zq Bundle.tN "SUPPRESSED_SENTINEL" Bundle.listD A s s.heap) (hS : va_S A s.heap H locs) (hsize : ls.size = c.maxLocals)
    (d0 : decode cc pc = .ok (.new ik, 3)) (d3 : decode cc (pc + 3) = .ok (.dup, 1)) (d4 : decode cc (pc + 4) = .ok (.ldc is, 2)) (d6 : decode cc (pc + 6) = .ok (.invokespecial ic, 3))
    (hRframes : (Y0 :: r0).length + 3 < R.frames) (hRlocals : (rest.map fun v => v.category).sum + (13 * ((Y0 :: r0).length + 1) + 43) ≤ R.locals) (hRcells : cells + 1 ≤ R.cells) (hRslots : slots + 6 ≤ R.slots)
    (kk : ∀ (q : Nat) (H1 : Heap) (ce : Cell), H1[q]? = some ce → ce.vm = .none → s.vm.findClass cls = some ce.cls → H.size ≤ H1.size → (∀ x : Nat, x < H.size → H1[x]? = H[x]?) → W p l e R s m args below meth c H1 locs (cells + 1) (slots + 6) Q (F0 m (pc + 9) ls (.ref q :: rest))) :
    W p l e R s m args below meth c H locs cells slots Q (F0 m pc ls rest) := by
  intro T hT X
  subst hT
  have htr : e.platform.stackTraces = false := (show e.platform.stackTraces = l.stackTraces by rw [X.admits.platform]).trans hl
  have Y := vx_rebase X (R' := { frames := R.frames, locals := R.locals, cells := 1, slots := 6 }) (Nat.le_refl _) (Nat.le_refl _) hRcells hRslots
  obtain ⟨s', hA'⟩ : ∃ z, z = (T.setVm s.vm).setFrames (.invoking m args :: below) := ⟨_, rfl⟩
  rw [← hA'] at Y
  have hvm : s'.vm = s.vm := by rw [hA']; rfl
  have hhp : s'.heap = T.heap := by rw [hA']; rfl
  have hW0 : s.WarmedH s'.vm := by rw [hvm]; exact State.WarmedH.refl s
  have hat' : ∀ w ∈ vy_at own ic cls Y0 ix rx r0, w.before args s' = true := fun w hw => vx_ot_at hW0 hvm.symm (hgood w (List.mem_cons_of_mem _ (List.mem_cons_of_mem _ hw))) (hat w hw)
  have hk' : (Cond.classLink own ik cls).before args s' = true := vx_ot_at hW0 hvm.symm (hgood _ List.mem_cons_self) hk
  have hini' : (Cond.initialized cls).before args s' = true := vx_ot_at hW0 hvm.symm (hgood _ (List.mem_cons_of_mem _ List.mem_cons_self)) hini
  have hU' : vx_Zq Bundle.tN "UNASSIGNED_STACK" Bundle.steD A s' s'.heap := by rw [hhp]; exact vx_Zq.moved hW0.alike (hU.kept hS.2.1)
  have hN' : vx_Zq Bundle.tN "SUPPRESSED_SENTINEL" Bundle.listD A s' s'.heap := by rw [hhp]; exact vx_Zq.moved hW0.alike (hN.kept hS.2.1)
  have h : ∀ w ∈ vy_own own ic cls Y0 ix rx r0, w.before args s' = true := vx_own hat' (vx_isRefq hU'.1) (vx_isRefq hN'.1) hU'.2.word hN'.2.word
  have hown' : s'.vm.findClass own = some m.cls := by rw [hvm]; exact hown
  have hins : (Cond.instantiable cls 6).before args s' = true := h _ (by simp [vy_own])
  obtain ⟨vm₁, cX, kX, hfX, hkX, -, -, X₁, st1⟩ := Y.newCold hexec (own := own) (C := cls) (index := ik) (n := 6) hown' hk' hins hini'
    (g := F0 m pc ls rest) rfl (by rw [hb]; exact d0) (Nat.le_refl _) (Nat.le_refl _)
  generalize hT1 : (T.setVm vm₁).pushCell { cls := cX, slots := kX.instanceTypes.map defaultValue, vm := .none } = T1 at X₁ st1
  have hcat : (Value.ref T.heap.size).category = 1 := rfl
  have hcellA : T1.heap[T.heap.size]? = some (freshCell cX kX) := by rw [← hT1]; exact State.heap_pushCell_size _ _
  have d3' : decode c.code (pc + 3) = .ok (.dup, 1) := by rw [hb]; exact d3
  have d4' : decode c.code (pc + 4) = .ok (.ldc is, 2) := by rw [hb]; exact d4
  have hstr' : vk_R own is text sa s' := vk_R.warm hW0 hstr
  obtain ⟨V, ce, L, Z, hL, hlt, hcl9, hvm9, st⟩ := vy_ctorMadeS X₁ hexec htr (own := own) (cls := cls) (ic := ic) x0 x1 x2 x5 hown' hcls hnames h (fun x hx => nomatch hx) hfX hkX hcellA (by rw [hhp]; exact Nat.le_refl _) (msg := .ref sa) rfl
    (g := { method := m, pc := pc + 6, locals := ls, stack := .ref sa :: .ref T.heap.size :: .ref T.heap.size :: rest, locked := none }) rfl hsize (rest := rest) rfl
    (by rw [hb]; exact d6) hRframes (by simp only [List.map_cons, List.sum_cons, hcat]; omega)
  have Z0 := Stand.forget (locs := []) Z (fun y hy => by rw [hL y hy, hhp]; exact Nat.le_refl _)
  obtain ⟨f1, f2⟩ := vx_frame Z0.same
  rw [hhp] at f1 f2
  have hcid : s.vm.findClass cls = some ce.cls := by
    rw [hcl9, ← hvm]
    exact hfX
  have hh : (V.setCell T.heap.size ce).heap[T.heap.size]? = some ce := heapAt_setCell_self (s := V) ce hlt
  subst hA'
  have X5 := vx_back9 X Y Z0
  have X6 : Stand p l e R s m args below meth c (V.setCell T.heap.size ce) locs (cells + 1) (slots + 6) := { X5 with same := X5.same.mono (by omega) (by omega) }
  obtain ⟨t, a1, b1⟩ := kk T.heap.size (V.setCell T.heap.size ce).heap ce hh hvm9 hcid f1 (fun q hq => f2 q hq (fun z hz => nomatch hz)) _ rfl X6
  refine ⟨t, st1 _ ?_, b1⟩
  show Steps p.tables e below (T1.setTop { method := m, pc := pc + 3, locals := ls, stack := .ref T.heap.size :: rest, locked := none }) _
  jvm_step X₁.here [X₁.here.top, hexec, d3', Value.category]
  exact X₁.ldcString hexec (own := own) (text := text) (index := is) (a := sa) hown' hstr'.1 hstr'.2
    (g := { method := m, pc := pc + 4, locals := ls, stack := .ref T.heap.size :: .ref T.heap.size :: rest, locked := none }) rfl d4' _ (st _ a1)
set_option maxHeartbeats 1000000 in
theorem vy_makeSW {cc : ByteArray} {pc : Nat} (hexec : p.tables.exec = Jvm.exec) (hb : c.code = cc) (hl : l.stackTraces = false) {own cls text Y0 : String} {r0 : List String} {ik is ic ix sa : Nat} {A : Nat → Prop} {rx : ByteArray} (x0 : decode rx 0 = .ok (.aload_n 0, 1)) (x1 : decode rx 1 = .ok (.aload_n 1, 1)) (x2 : decode rx 2 = .ok (.invokespecial ix, 3)) (x5 : decode rx 5 = .ok (.return_, 1))
    (hown : s.vm.findClass own = some m.cls) (hcls : Bundle.fit cls = true) (hnames : ∀ n ∈ Y0 :: r0, Bundle.fit n = true)
    (hk : (Cond.classLink own ik cls).before args s = true) (hini : (Cond.initialized cls).before args s = true) (hstr : vk_R own is text sa s) (hat : ∀ w ∈ vy_at own ic cls Y0 ix rx r0, w.before args s = true)
    (hgood : ∀ w ∈ Cond.classLink own ik cls :: Cond.initialized cls :: vy_at own ic cls Y0 ix rx r0, vx_ot w = true)
    (hU : vx_Zq Bundle.tN "UNASSIGNED_STACK" Bundle.steD A s s.heap) (hN : vx_Zq Bundle.tN "SUPPRESSED_SENTINEL" Bundle.listD A s s.heap) (hS : va_S A s.heap H locs) (hsize : ls.size = c.maxLocals)
    (d0 : decode cc pc = .ok (.new ik, 3)) (d3 : decode cc (pc + 3) = .ok (.dup, 1)) (d4 : decode cc (pc + 4) = .ok (.ldc_w is, 3)) (d6 : decode cc (pc + 7) = .ok (.invokespecial ic, 3))
    (hRframes : (Y0 :: r0).length + 3 < R.frames) (hRlocals : (rest.map fun v => v.category).sum + (13 * ((Y0 :: r0).length + 1) + 43) ≤ R.locals) (hRcells : cells + 1 ≤ R.cells) (hRslots : slots + 6 ≤ R.slots)
    (kk : ∀ (q : Nat) (H1 : Heap) (ce : Cell), H1[q]? = some ce → ce.vm = .none → s.vm.findClass cls = some ce.cls → H.size ≤ H1.size → (∀ x : Nat, x < H.size → H1[x]? = H[x]?) → W p l e R s m args below meth c H1 locs (cells + 1) (slots + 6) Q (F0 m (pc + 10) ls (.ref q :: rest))) :
    W p l e R s m args below meth c H locs cells slots Q (F0 m pc ls rest) := by
  intro T hT X
  subst hT
  have htr : e.platform.stackTraces = false := (show e.platform.stackTraces = l.stackTraces by rw [X.admits.platform]).trans hl
  have Y := vx_rebase X (R' := { frames := R.frames, locals := R.locals, cells := 1, slots := 6 }) (Nat.le_refl _) (Nat.le_refl _) hRcells hRslots
  obtain ⟨s', hA'⟩ : ∃ z, z = (T.setVm s.vm).setFrames (.invoking m args :: below) := ⟨_, rfl⟩
  rw [← hA'] at Y
  have hvm : s'.vm = s.vm := by rw [hA']; rfl
  have hhp : s'.heap = T.heap := by rw [hA']; rfl
  have hW0 : s.WarmedH s'.vm := by rw [hvm]; exact State.WarmedH.refl s
  have hat' : ∀ w ∈ vy_at own ic cls Y0 ix rx r0, w.before args s' = true := fun w hw => vx_ot_at hW0 hvm.symm (hgood w (List.mem_cons_of_mem _ (List.mem_cons_of_mem _ hw))) (hat w hw)
  have hk' : (Cond.classLink own ik cls).before args s' = true := vx_ot_at hW0 hvm.symm (hgood _ List.mem_cons_self) hk
  have hini' : (Cond.initialized cls).before args s' = true := vx_ot_at hW0 hvm.symm (hgood _ (List.mem_cons_of_mem _ List.mem_cons_self)) hini
  have hU' : vx_Zq Bundle.tN "UNASSIGNED_STACK" Bundle.steD A s' s'.heap := by rw [hhp]; exact vx_Zq.moved hW0.alike (hU.kept hS.2.1)
  have hN' : vx_Zq Bundle.tN "SUPPRESSED_SENTINEL" Bundle.listD A s' s'.heap := by rw [hhp]; exact vx_Zq.moved hW0.alike (hN.kept hS.2.1)
  have h : ∀ w ∈ vy_own own ic cls Y0 ix rx r0, w.before args s' = true := vx_own hat' (vx_isRefq hU'.1) (vx_isRefq hN'.1) hU'.2.word hN'.2.word
  have hown' : s'.vm.findClass own = some m.cls := by rw [hvm]; exact hown
  have hins : (Cond.instantiable cls 6).before args s' = true := h _ (by simp [vy_own])
  obtain ⟨vm₁, cX, kX, hfX, hkX, -, -, X₁, st1⟩ := Y.newCold hexec (own := own) (C := cls) (index := ik) (n := 6) hown' hk' hins hini'
    (g := F0 m pc ls rest) rfl (by rw [hb]; exact d0) (Nat.le_refl _) (Nat.le_refl _)
  generalize hT1 : (T.setVm vm₁).pushCell { cls := cX, slots := kX.instanceTypes.map defaultValue, vm := .none } = T1 at X₁ st1
  have hcat : (Value.ref T.heap.size).category = 1 := rfl
  have hcellA : T1.heap[T.heap.size]? = some (freshCell cX kX) := by rw [← hT1]; exact State.heap_pushCell_size _ _
  have d3' : decode c.code (pc + 3) = .ok (.dup, 1) := by rw [hb]; exact d3
  have d4' : decode c.code (pc + 4) = .ok (.ldc_w is, 3) := by rw [hb]; exact d4
  have hstr' : vk_R own is text sa s' := vk_R.warm hW0 hstr
  obtain ⟨V, ce, L, Z, hL, hlt, hcl9, hvm9, st⟩ := vy_ctorMadeS X₁ hexec htr (own := own) (cls := cls) (ic := ic) x0 x1 x2 x5 hown' hcls hnames h (fun x hx => nomatch hx) hfX hkX hcellA (by rw [hhp]; exact Nat.le_refl _) (msg := .ref sa) rfl
    (g := { method := m, pc := pc + 7, locals := ls, stack := .ref sa :: .ref T.heap.size :: .ref T.heap.size :: rest, locked := none }) rfl hsize (rest := rest) rfl
    (by rw [hb]; exact d6) hRframes (by simp only [List.map_cons, List.sum_cons, hcat]; omega)
  have Z0 := Stand.forget (locs := []) Z (fun y hy => by rw [hL y hy, hhp]; exact Nat.le_refl _)
  obtain ⟨f1, f2⟩ := vx_frame Z0.same
  rw [hhp] at f1 f2
  have hcid : s.vm.findClass cls = some ce.cls := by
    rw [hcl9, ← hvm]
    exact hfX
  have hh : (V.setCell T.heap.size ce).heap[T.heap.size]? = some ce := heapAt_setCell_self (s := V) ce hlt
  subst hA'
  have X5 := vx_back9 X Y Z0
  have X6 : Stand p l e R s m args below meth c (V.setCell T.heap.size ce) locs (cells + 1) (slots + 6) := { X5 with same := X5.same.mono (by omega) (by omega) }
  obtain ⟨t, a1, b1⟩ := kk T.heap.size (V.setCell T.heap.size ce).heap ce hh hvm9 hcid f1 (fun q hq => f2 q hq (fun z hz => nomatch hz)) _ rfl X6
  refine ⟨t, st1 _ ?_, b1⟩
  show Steps p.tables e below (T1.setTop { method := m, pc := pc + 3, locals := ls, stack := .ref T.heap.size :: rest, locked := none }) _
  jvm_step X₁.here [X₁.here.top, hexec, d3', Value.category]
  exact X₁.ldcStringW hexec (own := own) (text := text) (index := is) (a := sa) hown' hstr'.1 hstr'.2
    (g := { method := m, pc := pc + 4, locals := ls, stack := .ref T.heap.size :: .ref T.heap.size :: rest, locked := none }) rfl d4' _ (st _ a1)
end VY2
end VY
end
section
/-! GF(2): numbers as rows of bits; what a list spans, and how many of it are free -/
section Lin
def sp : List Nat → Nat → Bool
  | [], v => v == 0
  | u :: L, v => sp L v || sp L (v ^^^ u)
def rk : List Nat → Nat
  | [] => 0
  | u :: L => bif sp L u then rk L else rk L + 1
theorem sp_cons {u v : Nat} {L : List Nat} : sp (u :: L) v = true ↔ sp L v = true ∨ sp L (v ^^^ u) = true := by
  show (sp L v || sp L (v ^^^ u)) = true ↔ _
  rw [Bool.or_eq_true]
theorem sp_0 : ∀ L : List Nat, sp L 0 = true
  | [] => rfl
  | _ :: L => sp_cons.mpr (Or.inl (sp_0 L))
theorem xor_cc (a b : Nat) : a ^^^ b ^^^ b = a := by rw [Nat.xor_assoc, Nat.xor_self, Nat.xor_zero]
theorem xor_swap (a b c : Nat) : a ^^^ b ^^^ c = a ^^^ c ^^^ b := by rw [Nat.xor_assoc, Nat.xor_comm b c, ← Nat.xor_assoc]
theorem xor_ex {a b c : Nat} (h : a ^^^ b = c) : a = c ^^^ b := by rw [← h, xor_cc]
theorem xor_0 {a b : Nat} (h : a ^^^ b = 0) : a = b := by rw [xor_ex h, Nat.zero_xor]
theorem sp_x : ∀ {L : List Nat} {a b : Nat}, sp L a = true → sp L b = true → sp L (a ^^^ b) = true
  | [], a, b, ha, hb => by
    have h1 : a = 0 := eq_of_beq ha
    have h2 : b = 0 := eq_of_beq hb
    subst h1; subst h2; rfl
  | u :: L, a, b, ha, hb => by
    rcases sp_cons.mp ha with ha | ha <;> rcases sp_cons.mp hb with hb | hb
    · exact sp_cons.mpr (Or.inl (sp_x ha hb))
    · refine sp_cons.mpr (Or.inr ?_)
      rw [Nat.xor_assoc]; exact sp_x ha hb
    · refine sp_cons.mpr (Or.inr ?_)
      rw [xor_swap]; exact sp_x ha hb
    · refine sp_cons.mpr (Or.inl ?_)
      have h := sp_x ha hb
      rw [← Nat.xor_assoc, xor_swap a u b, xor_cc] at h
      exact h
theorem sp_w {u v : Nat} {L : List Nat} (h : sp L v = true) : sp (u :: L) v = true := sp_cons.mpr (Or.inl h)
theorem sp_h (u : Nat) (L : List Nat) : sp (u :: L) u = true := sp_cons.mpr (Or.inr (by rw [Nat.xor_self]; exact sp_0 L))
theorem sp_m : ∀ {L : List Nat} {u : Nat}, u ∈ L → sp L u = true
  | a :: L, u, h => by
    rcases List.mem_cons.mp h with rfl | h
    · exact sp_h _ _
    · exact sp_w (sp_m h)
theorem sp_mono : ∀ {L L' : List Nat} {v : Nat}, (∀ u ∈ L, sp L' u = true) → sp L v = true → sp L' v = true
  | [], L', v, _, hv => by
    have h : v = 0 := eq_of_beq hv
    subst h; exact sp_0 L'
  | u :: L, L', v, h, hv => by
    have h1 := fun w hw => h w (List.mem_cons_of_mem u hw)
    rcases sp_cons.mp hv with hv | hv
    · exact sp_mono h1 hv
    · have h2 := sp_x (sp_mono h1 hv) (h u List.mem_cons_self)
      rw [xor_cc] at h2; exact h2
def els : List Nat → List Nat
  | [] => [0]
  | u :: L => els L ++ (els L).map (fun w => w ^^^ u)
theorem els_mem : ∀ {L : List Nat} {v : Nat}, v ∈ els L ↔ sp L v = true
  | [], v => by simp [els, sp]
  | u :: L, v => by
    rw [sp_cons, els, List.mem_append, List.mem_map, els_mem]
    constructor
    · rintro (h | ⟨w, hw, rfl⟩)
      · exact Or.inl h
      · exact Or.inr (by rw [xor_cc]; exact els_mem.mp hw)
    · rintro (h | h)
      · exact Or.inl h
      · exact Or.inr ⟨v ^^^ u, els_mem.mpr h, xor_cc _ _⟩
theorem els_len : ∀ L : List Nat, (els L).length = 2 ^ L.length
  | [] => rfl
  | u :: L => by
    rw [els, List.length_append, List.length_map, els_len L, List.length_cons, Nat.pow_succ]; omega
def bs : List Nat → List Nat
  | [] => []
  | u :: L => bif sp L u then bs L else u :: bs L
theorem bs_sp : ∀ {L : List Nat} {v : Nat}, sp (bs L) v = true ↔ sp L v = true
  | [], v => Iff.rfl
  | u :: L, v => by
    unfold bs
    cases h : sp L u with
    | true =>
      show sp (bs L) v = true ↔ _
      rw [bs_sp, sp_cons]
      constructor
      · exact Or.inl
      · rintro (h1 | h1)
        · exact h1
        · have h2 := sp_x h1 h
          rw [xor_cc] at h2; exact h2
    | false =>
      show sp (u :: bs L) v = true ↔ _
      rw [sp_cons, sp_cons, bs_sp, bs_sp]
theorem bs_len : ∀ L : List Nat, (bs L).length = rk L
  | [] => rfl
  | u :: L => by
    unfold bs rk
    cases h : sp L u with
    | true => exact bs_len L
    | false => show (bs L).length + 1 = rk L + 1; rw [bs_len L]
theorem els_nodup : ∀ L : List Nat, (els (bs L)).Nodup
  | [] => by simp [bs, els]
  | u :: L => by
    unfold bs
    cases h : sp L u with
    | true => exact els_nodup L
    | false =>
      show (els (bs L) ++ (els (bs L)).map (fun w => w ^^^ u)).Nodup
      refine List.nodup_append.mpr ⟨els_nodup L, ?_, ?_⟩
      · refine List.Pairwise.map _ (fun a b (hab : a ≠ b) => ?_) (els_nodup L)
        intro hx
        have hx : a ^^^ u = b ^^^ u := hx
        exact hab (by rw [xor_ex hx, xor_cc])
      · intro a ha b hb hab
        obtain ⟨w, hw, rfl⟩ := List.mem_map.mp hb
        have h1 := els_mem.mp ha
        have h2 := els_mem.mp hw
        rw [hab] at h1
        have h3 := sp_x h2 h1
        have h4 : w ^^^ (w ^^^ u) = u := by rw [← Nat.xor_assoc, Nat.xor_self, Nat.zero_xor]
        rw [h4, bs_sp, h] at h3
        cases h3
theorem nodup_len : ∀ {l1 l2 : List Nat}, l1.Nodup → (∀ a ∈ l1, a ∈ l2) → l1.length ≤ l2.length
  | [], _, _, _ => Nat.zero_le _
  | a :: t, l2, hn, hs => by
    obtain ⟨h1, h2⟩ := List.nodup_cons.mp hn
    have ha := hs a List.mem_cons_self
    have h3 := nodup_len (l1 := t) (l2 := l2.erase a) h2 (fun b hb => (List.mem_erase_of_ne (fun (e : b = a) => h1 (e ▸ hb))).mpr (hs b (List.mem_cons_of_mem _ hb)))
    have h4 := List.length_erase_of_mem ha
    have h5 : 0 < l2.length := List.length_pos_of_mem ha
    show t.length + 1 ≤ l2.length
    omega
theorem pow_le_inv {a b : Nat} (h : 2 ^ a ≤ 2 ^ b) : a ≤ b := (Nat.pow_le_pow_iff_right (by decide)).mp h
theorem rk_le {L L' : List Nat} (h : ∀ u ∈ L, sp L' u = true) : rk L ≤ rk L' := by
  have h1 : (els (bs L)).length ≤ (els (bs L')).length := nodup_len (els_nodup L) fun a ha => els_mem.mpr (bs_sp.mpr (sp_mono h (bs_sp.mp (els_mem.mp ha))))
  rw [els_len, els_len, bs_len, bs_len] at h1
  exact pow_le_inv h1
theorem rk_eq {L L' : List Nat} (h1 : ∀ u ∈ L, sp L' u = true) (h2 : ∀ u ∈ L', sp L u = true) : rk L = rk L' := Nat.le_antisymm (rk_le h1) (rk_le h2)
theorem rk_mem {L L' : List Nat} (h : ∀ u, u ∈ L ↔ u ∈ L') : rk L = rk L' := rk_eq (fun u hu => sp_m ((h u).mp hu)) (fun u hu => sp_m ((h u).mpr hu))
theorem rk_len : ∀ L : List Nat, rk L ≤ L.length
  | [] => Nat.le_refl _
  | u :: L => by
    unfold rk
    have := rk_len L
    cases sp L u
    · show rk L + 1 ≤ L.length + 1; omega
    · show rk L ≤ L.length + 1; omega
theorem rk_c (u : Nat) (L : List Nat) : rk (u :: L) = bif sp L u then rk L else rk L + 1 := rfl
theorem rk_in {u : Nat} {L : List Nat} (h : sp L u = true) : rk (u :: L) = rk L := by rw [rk_c, h]; rfl
theorem rk_out {u : Nat} {L : List Nat} (h : sp L u = false) : rk (u :: L) = rk L + 1 := by rw [rk_c, h]; rfl
theorem sp_app : ∀ {A B : List Nat} {v : Nat}, sp (A ++ B) v = true ↔ ∃ a, sp A a = true ∧ sp B (v ^^^ a) = true
  | [], B, v => by
    constructor
    · exact fun h => ⟨0, rfl, by rw [Nat.xor_zero]; exact h⟩
    · rintro ⟨a, ha, hb⟩
      have h : a = 0 := eq_of_beq ha
      subst h
      rw [Nat.xor_zero] at hb; exact hb
  | u :: A, B, v => by
    show sp (u :: (A ++ B)) v = true ↔ _
    rw [sp_cons, sp_app, sp_app]
    constructor
    · rintro (⟨a, ha, hb⟩ | ⟨a, ha, hb⟩)
      · exact ⟨a, sp_w ha, hb⟩
      · refine ⟨a ^^^ u, sp_cons.mpr (Or.inr (by rw [xor_cc]; exact ha)), ?_⟩
        rw [Nat.xor_comm a u, ← Nat.xor_assoc]; exact hb
    · rintro ⟨a, ha, hb⟩
      rcases sp_cons.mp ha with ha | ha
      · exact Or.inl ⟨a, ha, hb⟩
      · refine Or.inr ⟨a ^^^ u, ha, ?_⟩
        have : v ^^^ u ^^^ (a ^^^ u) = v ^^^ a := by rw [Nat.xor_comm a u, ← Nat.xor_assoc, xor_cc]
        rw [this]; exact hb
/-- two lists that meet in 0 alone -/
theorem rk_app : ∀ {A B : List Nat}, (∀ v, sp A v = true → sp B v = true → v = 0) → rk (A ++ B) = rk A + rk B
  | [], B, _ => by show rk B = 0 + rk B; omega
  | u :: A, B, h => by
    have ih := rk_app (A := A) (B := B) (fun v h1 h2 => h v (sp_w h1) h2)
    have he : sp (A ++ B) u = sp A u := by
      rw [Bool.eq_iff_iff, sp_app]
      constructor
      · rintro ⟨a, ha, hb⟩
        have h0 := h (u ^^^ a) (sp_cons.mpr (Or.inr (by rw [xor_swap, Nat.xor_self, Nat.zero_xor]; exact ha))) hb
        rw [xor_0 h0]; exact ha
      · exact fun hu => ⟨u, hu, by rw [Nat.xor_self]; exact sp_0 B⟩
    show rk (u :: (A ++ B)) = rk (u :: A) + rk B
    cases hs : sp A u with
    | true => rw [rk_in (he.trans hs), rk_in hs, ih]
    | false => rw [rk_out (he.trans hs), rk_out hs, ih]; omega
/-- a map that keeps sums -/
def Lmap (T : Nat → Nat) : Prop := T 0 = 0 ∧ ∀ a b, T (a ^^^ b) = T a ^^^ T b
theorem sp_T {T : Nat → Nat} (hT : Lmap T) : ∀ {L : List Nat} {v : Nat}, sp L v = true → sp (L.map T) (T v) = true
  | [], v, h => by
    have h : v = 0 := eq_of_beq h
    subst h; rw [hT.1]; rfl
  | u :: L, v, h => by
    rcases sp_cons.mp h with h | h
    · exact sp_cons.mpr (Or.inl (sp_T hT h))
    · refine sp_cons.mpr (Or.inr ?_)
      rw [← hT.2]; exact sp_T hT h
theorem sp_Tinv {T : Nat → Nat} (hT : Lmap T) : ∀ {L : List Nat} {y : Nat}, sp (L.map T) y = true → ∃ x, sp L x = true ∧ T x = y
  | [], y, h => ⟨0, rfl, by rw [hT.1]; exact (eq_of_beq h).symm⟩
  | u :: L, y, h => by
    rcases sp_cons.mp h with h | h
    · obtain ⟨x, h1, h2⟩ := sp_Tinv hT h
      exact ⟨x, sp_w h1, h2⟩
    · obtain ⟨x, h1, h2⟩ := sp_Tinv hT h
      exact ⟨x ^^^ u, sp_cons.mpr (Or.inr (by rw [xor_cc]; exact h1)), by rw [hT.2, h2, xor_cc]⟩
/-- the kernel within a span, and the count of the whole -/
theorem rk_ker {T : Nat → Nat} (hT : Lmap T) : ∀ L : List Nat, ∃ Z : List Nat, (∀ v, sp Z v = true ↔ sp L v = true ∧ T v = 0) ∧ rk L = rk Z + rk (L.map T)
  | [] => ⟨[], fun v => ⟨fun h => ⟨h, by rw [show v = 0 from eq_of_beq h]; exact hT.1⟩, fun h => h.1⟩, rfl⟩
  | u :: L => by
    obtain ⟨Z, hZ, hr⟩ := rk_ker hT L
    cases hu : sp (L.map T) (T u) with
    | true =>
      obtain ⟨w, hw, hTw⟩ := sp_Tinv hT hu
      have hz0 : T (u ^^^ w) = 0 := by rw [hT.2, hTw, Nat.xor_self]
      refine ⟨(u ^^^ w) :: Z, fun v => ?_, ?_⟩
      · rw [sp_cons, sp_cons, hZ, hZ]
        constructor
        · rintro (⟨h1, h2⟩ | ⟨h1, h2⟩)
          · exact ⟨Or.inl h1, h2⟩
          · have h3 := sp_x h1 hw
            rw [Nat.xor_assoc, xor_cc] at h3
            rw [hT.2, hz0, Nat.xor_zero] at h2
            exact ⟨Or.inr h3, h2⟩
        · rintro ⟨h1 | h1, h2⟩
          · exact Or.inl ⟨h1, h2⟩
          · refine Or.inr ⟨?_, by rw [hT.2, h2, hz0]; rfl⟩
            have h3 := sp_x h1 hw
            rw [Nat.xor_assoc] at h3; exact h3
      · have hzu : sp Z (u ^^^ w) = sp L u := by
          rw [Bool.eq_iff_iff, hZ]
          constructor
          · rintro ⟨h1, -⟩
            have h3 := sp_x h1 hw
            rw [xor_cc] at h3; exact h3
          · exact fun h => ⟨sp_x h hw, hz0⟩
        show rk (u :: L) = rk ((u ^^^ w) :: Z) + rk (T u :: L.map T)
        rw [rk_in hu]
        cases hs : sp L u with
        | true => rw [rk_in hs, rk_in (hzu.trans hs), hr]
        | false => rw [rk_out hs, rk_out (hzu.trans hs), hr]; omega
    | false =>
      refine ⟨Z, fun v => ?_, ?_⟩
      · rw [hZ, sp_cons]
        constructor
        · exact fun h => ⟨Or.inl h.1, h.2⟩
        · rintro ⟨h1 | h1, h2⟩
          · exact ⟨h1, h2⟩
          · have h3 := sp_T hT h1
            rw [hT.2, h2, Nat.zero_xor, hu] at h3
            cases h3
      · have hs : sp L u = false := by
          cases hs : sp L u with
          | false => rfl
          | true => rw [sp_T hT hs] at hu; cases hu
        show rk (u :: L) = rk Z + rk (T u :: L.map T)
        rw [rk_out hs, rk_out hu, hr]; omega
/-- a map that loses nothing of the span keeps the count -/
theorem rk_inj {T : Nat → Nat} (hT : Lmap T) {L : List Nat} (h : ∀ v, sp L v = true → T v = 0 → v = 0) : rk (L.map T) = rk L := by
  obtain ⟨Z, hZ, hr⟩ := rk_ker hT L
  have h0 : rk Z = 0 := by
    have h1 : rk Z ≤ rk [] := rk_le fun u hu => by
      have h2 := (hZ u).mp (sp_m hu)
      rw [h u h2.1 h2.2]; rfl
    exact Nat.le_zero.mp h1
  rw [hr, h0]; omega
/-- the number of n bits -/
def mkN (f : Nat → Bool) : Nat → Nat
  | 0 => 0
  | n + 1 => mkN f n + (bif f n then 2 ^ n else 0)
theorem mkN_lt (f : Nat → Bool) : ∀ n, mkN f n < 2 ^ n
  | 0 => by show 0 < 1; decide
  | n + 1 => by
    have := mkN_lt f n
    unfold mkN
    rw [Nat.pow_succ]
    cases f n
    · show mkN f n + 0 < _; omega
    · show mkN f n + 2 ^ n < _; omega
theorem mkN_bit (f : Nat → Bool) : ∀ n i, (mkN f n).testBit i = (decide (i < n) && f i)
  | 0, i => by simp [mkN]
  | n + 1, i => by
    have h := mkN_lt f n
    have ih := mkN_bit f n
    unfold mkN
    cases hf : f n with
    | false =>
      show (mkN f n + 0).testBit i = _
      rw [Nat.add_zero, ih]
      by_cases hi : i = n
      · subst hi; simp [hf]
      · have : decide (i < n + 1) = decide (i < n) := by simp; omega
        rw [this]
    | true =>
      show (mkN f n + 2 ^ n).testBit i = _
      rw [Nat.add_comm]
      rcases Nat.lt_trichotomy i n with hi | hi | hi
      · rw [Nat.testBit_two_pow_add_gt hi, ih]
        have : decide (i < n + 1) = decide (i < n) := by simp; omega
        rw [this]
      · subst hi
        rw [Nat.testBit_two_pow_add_eq, ih]
        simp [hf]
      · have h1 : 2 ^ n + mkN f n < 2 ^ i := Nat.lt_of_lt_of_le (by rw [Nat.pow_succ]; omega) (Nat.pow_le_pow_right (by decide) hi)
        rw [Nat.testBit_lt_two_pow h1]
        have : decide (i < n + 1) = false := by simp; omega
        rw [this]; rfl
end Lin
end
section
/-! rows on bits, shifts and unsigned numbers, to paste: each family out of a closed proof of our own, whole with what it rests on; each by itself clean at Lean in its own claim (generation 39, form 5). Take a family whole -/
/-! ===== Int32 by its bits: bt x i ===== -/
def bt (x : Int32) (i : Nat) : Bool := x.toBitVec.getLsbD i
theorem b_ext {x y : Int32} (h : ∀ i, i < 32 → bt x i = bt y i) : x = y := Int32.toBitVec_inj.mp (BitVec.eq_of_getLsbD_eq (fun i hi => h i hi))
theorem b_or (x y : Int32) (i : Nat) : bt (x ||| y) i = (bt x i || bt y i) := by unfold bt; rw [Int32.toBitVec_or, BitVec.getLsbD_or]
theorem b_and (x y : Int32) (i : Nat) : bt (x &&& y) i = (bt x i && bt y i) := by unfold bt; rw [Int32.toBitVec_and, BitVec.getLsbD_and]
theorem b_xor (x y : Int32) (i : Nat) : bt (x ^^^ y) i = (bt x i ^^ bt y i) := by unfold bt; rw [Int32.toBitVec_xor, BitVec.getLsbD_xor]
theorem b_big {x : Int32} {i : Nat} (h : 32 ≤ i) : bt x i = false := BitVec.getLsbD_of_ge _ _ h
theorem b_255 (i : Nat) : bt 255 i = decide (i < 8) := by
  rcases Nat.lt_or_ge i 32 with h | h
  · exact (by decide +kernel : ∀ i, i < 32 → bt 255 i = decide (i < 8)) i h
  · rw [b_big h, decide_eq_false (by omega)]
theorem b_65535 (i : Nat) : bt 65535 i = decide (i < 16) := by
  rcases Nat.lt_or_ge i 32 with h | h
  · exact (by decide +kernel : ∀ i, i < 32 → bt 65535 i = decide (i < 16)) i h
  · rw [b_big h, decide_eq_false (by omega)]
theorem b_m1 : ∀ i, i < 32 → bt (-1) i = true := by decide +kernel
theorem b_0 (i : Nat) : bt 0 i = false := BitVec.getLsbD_zero
theorem s_l : ∀ n, n < 32 → ((nI n &&& 31).toBitVec.smod 32).toNat = n := by decide +kernel
theorem s_u : ∀ n, n < 32 → (((nI n).toUInt32 &&& Int32.toUInt32 31).toBitVec % 32).toNat = n := by decide +kernel
theorem b_shl (n : Nat) (hn : n < 32) (x : Int32) {i : Nat} (hi : i < 32) : bt (x <<< (nI n &&& 31)) i = (decide (n ≤ i) && bt x (i - n)) := by
  unfold bt
  rw [Int32.toBitVec_shiftLeft]
  show (x.toBitVec <<< ((nI n &&& 31).toBitVec.smod 32).toNat).getLsbD i = _
  rw [s_l n hn, BitVec.getLsbD_shiftLeft]
  rcases Nat.lt_or_ge i n with h | h
  · simp [h, Nat.not_le.mpr h]
  · simp [hi, h, Nat.not_lt.mpr h]
theorem b_ushr (n : Nat) (hn : n < 32) (x : Int32) (i : Nat) : bt ((x.toUInt32 >>> ((nI n).toUInt32 &&& Int32.toUInt32 31)).toInt32) i = bt x (n + i) := by
  show (x.toUInt32 >>> ((nI n).toUInt32 &&& Int32.toUInt32 31)).toBitVec.getLsbD i = x.toUInt32.toBitVec.getLsbD (n + i)
  rw [UInt32.toBitVec_shiftRight]
  show (x.toUInt32.toBitVec >>> (((nI n).toUInt32 &&& Int32.toUInt32 31).toBitVec % 32).toNat).getLsbD i = _
  rw [s_u n hn, BitVec.getLsbD_ushiftRight]
theorem b_sshr (n : Nat) (hn : n < 32) (x : Int32) {i : Nat} (hi : i < 32) : bt (x >>> (nI n &&& 31)) i = if n + i < 32 then bt x (n + i) else bt x 31 := by
  unfold bt
  rw [Int32.toBitVec_shiftRight]
  show (x.toBitVec.sshiftRight ((nI n &&& 31).toBitVec.smod 32).toNat).getLsbD i = _
  rw [s_l n hn, BitVec.getLsbD_sshiftRight, BitVec.msb_eq_getLsbD_last]
  simp [hi]
theorem b_shl8 (x : Int32) {i : Nat} (hi : i < 32) : bt (x <<< ((8 : Int32) &&& 31)) i = (decide (8 ≤ i) && bt x (i - 8)) := b_shl 8 (by omega) x hi
theorem b_shl16 (x : Int32) {i : Nat} (hi : i < 32) : bt (x <<< ((16 : Int32) &&& 31)) i = (decide (16 ≤ i) && bt x (i - 16)) := b_shl 16 (by omega) x hi
theorem b_shl24 (x : Int32) {i : Nat} (hi : i < 32) : bt (x <<< ((24 : Int32) &&& 31)) i = (decide (24 ≤ i) && bt x (i - 24)) := b_shl 24 (by omega) x hi
theorem b_sshr8 (x : Int32) {i : Nat} (hi : i < 32) : bt (x >>> ((8 : Int32) &&& 31)) i = if 8 + i < 32 then bt x (8 + i) else bt x 31 := b_sshr 8 (by omega) x hi
/-! ===== nI under and, xor, >>>, one bit, 65535 ===== -/
theorem nx_and (a b : Nat) : nI a &&& nI b = nI (a &&& b) := by
  apply Int32.toBitVec_inj.1
  show BitVec.ofNat 32 a &&& BitVec.ofNat 32 b = BitVec.ofNat 32 (a &&& b)
  apply BitVec.eq_of_getLsbD_eq
  intro i hi
  simp [hi]
theorem nx_xor (a b : Nat) : nI a ^^^ nI b = nI (a ^^^ b) := by
  apply Int32.toBitVec_inj.1
  show BitVec.ofNat 32 a ^^^ BitVec.ofNat 32 b = BitVec.ofNat 32 (a ^^^ b)
  apply BitVec.eq_of_getLsbD_eq
  intro i hi
  simp [hi]
theorem nx_cnt : ∀ j : Fin 32, (UInt32.ofNat j.val &&& Int32.toUInt32 31).toNat % 32 = j.val := by decide +kernel
theorem nx_ush {k j : Nat} (hk : k < 65536) (hj : j < 32) : ((nI k).toUInt32 >>> ((nI j).toUInt32 &&& Int32.toUInt32 31)).toInt32 = nI (k >>> j) := by
  have hs : k >>> j ≤ k := by
    rw [Nat.shiftRight_eq_div_pow]
    exact Nat.div_le_self _ _
  have e2 : UInt32.ofNat k >>> (UInt32.ofNat j &&& Int32.toUInt32 31) = UInt32.ofNat (k >>> j) := by
    apply UInt32.toNat_inj.1
    have h1 : (UInt32.ofNat k).toNat = k := Nat.mod_eq_of_lt (by omega)
    have h2 : (UInt32.ofNat (k >>> j)).toNat = k >>> j := Nat.mod_eq_of_lt (by omega)
    rw [UInt32.toNat_shiftRight, nx_cnt ⟨j, hj⟩, h1, h2]
  show (UInt32.ofNat k >>> (UInt32.ofNat j &&& Int32.toUInt32 31)).toInt32 = _
  rw [e2]
  rfl
theorem nx_bit {k j : Nat} (hk : k < 65536) (hj : j < 16) : (((nI k).toUInt32 >>> ((nI j).toUInt32 &&& Int32.toUInt32 31)).toInt32 &&& 1) = 0 ↔ k.testBit j = false := by
  rw [nx_ush hk (by omega)]
  show nI (k >>> j) &&& nI 1 = 0 ↔ _
  rw [nx_and, Nat.and_one_is_mod, ← nI_0, nI_eq (by omega) (by omega), Nat.testBit_eq_decide_div_mod_eq, Nat.shiftRight_eq_div_pow, decide_eq_false_iff_not]
  generalize k / 2 ^ j = z
  omega
theorem nx_mod (k : Nat) : nI k &&& 65535 = nI (k % 65536) := by
  show nI k &&& nI 65535 = _
  rw [nx_and, show (65535 : Nat) = 2 ^ 16 - 1 from rfl, Nat.and_two_pow_sub_one_eq_mod]
theorem nx_m16 {k : Nat} (h : k < 65536) : nI k &&& 65535 = nI k := by rw [nx_mod, Nat.mod_eq_of_lt h]
theorem nx_mask (x : Int32) : ∃ k, k < 65536 ∧ x &&& 65535 = nI k := by
  have e : x = nI x.toBitVec.toNat := by
    apply Int32.toBitVec_inj.1
    show x.toBitVec = BitVec.ofNat 32 x.toBitVec.toNat
    simp
  refine ⟨x.toBitVec.toNat % 65536, Nat.mod_lt _ (by omega), ?_⟩
  rw [← nx_mod, ← e]
/-! ===== Int32 as a set of bits: test, set ===== -/
def nf_M (m : Int32) : Nat := 4294967296 - m.toBitVec.toNat
theorem nf_sh : ∀ l, l < 32 → ((1 : Int32) <<< (nI l &&& 31)).toBitVec = BitVec.twoPow 32 l := by decide +kernel
theorem nf_sl : ∀ l, l < 32 → (((nI l).toUInt32 &&& Int32.toUInt32 31).toBitVec % 32).toNat = l := by decide +kernel
theorem nf_tp : ∀ l, l < 32 → BitVec.twoPow 32 l ≠ 0#32 := by decide +kernel
theorem nf_bit (m : Int32) (l : Nat) (hl : l < 32) : ((m.toUInt32 >>> ((nI l).toUInt32 &&& Int32.toUInt32 31)).toInt32 &&& 1) = 0 ↔ (m &&& ((1 : Int32) <<< (nI l &&& 31))) = 0 := by
  have e : ((m.toUInt32 >>> ((nI l).toUInt32 &&& Int32.toUInt32 31)).toInt32).toBitVec = m.toBitVec >>> l := by
    show m.toBitVec >>> (((nI l).toUInt32 &&& Int32.toUInt32 31).toBitVec % 32) = m.toBitVec >>> l
    rw [BitVec.ushiftRight_eq', nf_sl l hl]
  rw [← Int32.toBitVec_inj, ← Int32.toBitVec_inj, Int32.toBitVec_and, Int32.toBitVec_and, nf_sh l hl, e, BitVec.and_twoPow]
  show (m.toBitVec >>> l &&& 1#32) = 0#32 ↔ _ = 0#32
  rw [BitVec.and_one_eq_setWidth_ofBool_getLsbD, BitVec.getLsbD_ushiftRight, Nat.add_zero]
  cases hb : m.toBitVec.getLsbD l
  · exact ⟨fun _ => by simp, fun _ => by decide⟩
  · exact ⟨fun z => absurd z (by decide), fun z => absurd ((if_pos rfl).symm.trans z) (nf_tp l hl)⟩
theorem nf_gr (m k : Int32) (h : m &&& k = 0) (hk : k ≠ 0) : nf_M (m ||| k) < nf_M m := by
  have hm := m.toBitVec.isLt
  have hm' := (m ||| k).toBitVec.isLt
  have h1 : m.toBitVec.toNat ≤ (m ||| k).toBitVec.toNat := by
    rw [Int32.toBitVec_or, BitVec.toNat_or]
    exact Nat.left_le_or
  have h2 : m.toBitVec.toNat ≠ (m ||| k).toBitVec.toNat := by
    intro e
    have e2 : m = m ||| k := Int32.toBitVec_inj.mp (BitVec.eq_of_toNat_eq e)
    apply hk
    apply Int32.toBitVec_inj.mp
    show k.toBitVec = 0#32
    apply BitVec.eq_of_getLsbD_eq
    intro i hi
    have a : m.toBitVec.getLsbD i = (m.toBitVec.getLsbD i || k.toBitVec.getLsbD i) := by rw [← BitVec.getLsbD_or, ← Int32.toBitVec_or, ← e2]
    have b : (m.toBitVec.getLsbD i && k.toBitVec.getLsbD i) = false := by
      rw [← BitVec.getLsbD_and, ← Int32.toBitVec_and, h]
      exact BitVec.getLsbD_zero
    rw [BitVec.getLsbD_zero]
    revert a b
    cases m.toBitVec.getLsbD i <;> cases k.toBitVec.getLsbD i <;> simp
  unfold nf_M
  omega
/-! ===== a byte read unsigned ===== -/
theorem bp_b (x : Int32) : x.toInt8.toInt32 &&& 255 = x &&& 255 := by
  apply Int32.toBitVec_inj.mp
  rw [Int32.toBitVec_and, Int32.toBitVec_and, Int8.toBitVec_toInt32, Int32.toBitVec_toInt8]
  apply BitVec.eq_of_getLsbD_eq
  intro i hi
  rw [BitVec.getLsbD_and, BitVec.getLsbD_and]
  have hm : ∀ i < 32, 8 ≤ i → (255 : Int32).toBitVec.getLsbD i = false := by decide
  rcases Nat.lt_or_ge i 8 with z | z
  · rw [BitVec.getLsbD_signExtend, BitVec.getLsbD_signExtend, if_pos z, if_pos hi]
    simp only [z, hi, decide_true, Bool.true_and]
  · rw [hm i hi z]; simp
/-! ===== the char cast and 65535 ===== -/
/-! ===== Int64 as a set of bits: test, set, clear ===== -/
theorem ts_nf {x : Bool} (h : ¬ x = false) : x = true := by cases x <;> first | rfl | exact absurd rfl h
theorem ts_nt {x : Bool} (h : ¬ x = true) : x = false := by cases x <;> first | rfl | exact absurd rfl h
theorem ts_bit {w : Int64} {s : UInt64} {j : Nat} (hj : j < 64) (hs : s.toNat = j) : ((w.toUInt64 >>> s).toInt64 &&& 1) = 0 ↔ w.toBitVec.getLsbD j = false := by
  have e : (w.toUInt64 >>> s).toInt64.toBitVec = w.toBitVec >>> j := by
    apply BitVec.eq_of_toNat_eq
    show (w.toUInt64 >>> s).toNat = _
    rw [UInt64.toNat_shiftRight, hs, Nat.mod_eq_of_lt hj, BitVec.toNat_ushiftRight]
    rfl
  rw [← Int64.toBitVec_inj, Int64.toBitVec_and, e]
  show w.toBitVec >>> j &&& 1#64 = 0#64 ↔ _
  constructor
  · intro h
    have t := congrArg (fun x => x.getLsbD 0) h
    simpa using t
  · intro h
    apply BitVec.eq_of_getLsbD_eq
    intro i hi
    cases i with
    | zero => simp [h]
    | succ i => simp
theorem ts_or {w m : Int64} {j : Nat} (hj : j < 64) (hm : m.toBitVec = BitVec.twoPow 64 j) : (w ||| m) = w ↔ w.toBitVec.getLsbD j = true := by
  rw [← Int64.toBitVec_inj, Int64.toBitVec_or, hm]
  constructor
  · intro h
    have t := congrArg (fun x => x.getLsbD j) h
    simp only [BitVec.getLsbD_or, BitVec.getLsbD_twoPow] at t
    simpa [hj] using t.symm
  · intro h
    apply BitVec.eq_of_getLsbD_eq
    intro i hi
    rw [BitVec.getLsbD_or, BitVec.getLsbD_twoPow]
    by_cases e : j = i
    · subst e; rw [h, Bool.true_or]
    · simp [e]
theorem ts_and {w m : Int64} {j : Nat} (hj : j < 64) (hm : m.toBitVec = BitVec.twoPow 64 j) : (w &&& (m ^^^ (-1))) = w ↔ w.toBitVec.getLsbD j = false := by
  have ha : (-1 : Int64).toBitVec = BitVec.allOnes 64 := by decide
  rw [← Int64.toBitVec_inj, Int64.toBitVec_and, Int64.toBitVec_xor, hm, ha]
  constructor
  · intro h
    have t := congrArg (fun x => x.getLsbD j) h
    simp only [BitVec.getLsbD_and, BitVec.getLsbD_xor, BitVec.getLsbD_twoPow, BitVec.getLsbD_allOnes] at t
    simpa [hj] using t.symm
  · intro h
    apply BitVec.eq_of_getLsbD_eq
    intro i hi
    rw [BitVec.getLsbD_and, BitVec.getLsbD_xor, BitVec.getLsbD_twoPow, BitVec.getLsbD_allOnes]
    by_cases e : j = i
    · subst e; rw [h, Bool.false_and]
    · simp [e, hi]
/-! ===== lN n to 2^64: shifts, and, or, masks, one bit ===== -/
theorem wb_tb (n : Nat) : (lN n).toBitVec = BitVec.ofNat 64 n := rfl
theorem wb_inj {a b : Int64} (h : a.toBitVec = b.toBitVec) : a = b := Int64.toBitVec_inj.mp h
theorem wb_tn {n : Nat} (h : n < 2 ^ 64) : (lN n).toBitVec.toNat = n := by rw [wb_tb, BitVec.toNat_ofNat, Nat.mod_eq_of_lt h]
theorem wb_of (x : Int64) : ∃ n, n < 2 ^ 64 ∧ x = lN n := ⟨x.toBitVec.toNat, x.toBitVec.isLt, wb_inj (by rw [wb_tb]; simp)⟩
theorem wb_of32 (x : Int32) : ∃ n, n < 2 ^ 32 ∧ x = nI n := ⟨x.toBitVec.toNat, x.toBitVec.isLt, Int32.toBitVec_inj.mp (by show _ = BitVec.ofNat 32 _; simp)⟩
theorem wb_c : ∀ k, k < 64 → ((nI k).toInt64 &&& 63) = lN k := by decide +kernel
theorem wb_cu : ∀ k, k < 64 → ((nI k).toInt64.toUInt64 &&& Int64.toUInt64 63) = UInt64.ofNat k := by decide +kernel
theorem wb_sm : ∀ k, k < 64 → (BitVec.ofNat 64 k).smod 64 = BitVec.ofNat 64 k := by decide +kernel
theorem wb_pw {a b : Nat} (h : a ≤ b) : 2 ^ b = 2 ^ a * 2 ^ (b - a) := by rw [← Nat.pow_add]; congr 1; omega
theorem wb_lt2 {a b : Nat} (h : a < b) : 2 ^ a < 2 ^ b := Nat.pow_lt_pow_right (by decide) h
theorem wb_mod (n : Nat) : lN n = lN (n % 2 ^ 64) := wb_inj (by rw [wb_tb, wb_tb]; apply BitVec.eq_of_toNat_eq; rw [BitVec.toNat_ofNat, BitVec.toNat_ofNat, Nat.mod_mod])
theorem wb_shr {n k : Nat} (hn : n < 2 ^ 64) (hk : k < 64) : ((lN n).toUInt64 >>> ((nI k).toInt64.toUInt64 &&& Int64.toUInt64 63)).toInt64 = lN (n / 2 ^ k) := by
  rw [wb_cu k hk]
  apply wb_inj
  apply BitVec.eq_of_toNat_eq
  show ((lN n).toUInt64 >>> UInt64.ofNat k).toNat = (BitVec.ofNat 64 _).toNat
  have h1 : (UInt64.ofNat k).toNat = k := by
    show (BitVec.ofNat 64 k).toNat = k
    rw [BitVec.toNat_ofNat, Nat.mod_eq_of_lt (by omega)]
  have h2 : (lN n).toUInt64.toNat = n := wb_tn hn
  rw [UInt64.toNat_shiftRight, h1, h2, Nat.mod_eq_of_lt hk, Nat.shiftRight_eq_div_pow, BitVec.toNat_ofNat, Nat.mod_eq_of_lt (Nat.lt_of_le_of_lt (Nat.div_le_self _ _) hn)]
theorem wb_shl (n : Nat) {k : Nat} (hk : k < 64) : lN n <<< ((nI k).toInt64 &&& 63) = lN (n * 2 ^ k) := by
  rw [wb_c k hk]
  apply wb_inj
  rw [Int64.toBitVec_shiftLeft, wb_tb, wb_tb, wb_tb, wb_sm k hk]
  apply BitVec.eq_of_toNat_eq
  rw [BitVec.shiftLeft_eq', BitVec.toNat_shiftLeft, BitVec.toNat_ofNat, BitVec.toNat_ofNat, BitVec.toNat_ofNat, Nat.mod_eq_of_lt (show k < 2 ^ 64 by omega), Nat.shiftLeft_eq, Nat.mul_mod, Nat.mod_mod, ← Nat.mul_mod]
theorem wb_and {a b : Nat} (ha : a < 2 ^ 64) (hb : b < 2 ^ 64) : lN a &&& lN b = lN (a &&& b) := by
  apply wb_inj
  rw [Int64.toBitVec_and, wb_tb, wb_tb, wb_tb]
  apply BitVec.eq_of_toNat_eq
  rw [BitVec.toNat_and, BitVec.toNat_ofNat, BitVec.toNat_ofNat, BitVec.toNat_ofNat, Nat.mod_eq_of_lt ha, Nat.mod_eq_of_lt hb, Nat.mod_eq_of_lt (Nat.and_lt_two_pow _ hb)]
theorem wb_or {a b : Nat} (ha : a < 2 ^ 64) (hb : b < 2 ^ 64) : lN a ||| lN b = lN (a ||| b) := by
  apply wb_inj
  rw [Int64.toBitVec_or, wb_tb, wb_tb, wb_tb]
  apply BitVec.eq_of_toNat_eq
  rw [BitVec.toNat_or, BitVec.toNat_ofNat, BitVec.toNat_ofNat, BitVec.toNat_ofNat, Nat.mod_eq_of_lt ha, Nat.mod_eq_of_lt hb, Nat.mod_eq_of_lt (Nat.or_lt_two_pow ha hb)]
theorem wb_mask {n k : Nat} (hn : n < 2 ^ 64) (hk : k < 64) : lN n &&& lN (2 ^ k - 1) = lN (n % 2 ^ k) := by
  rw [wb_and hn (by have := wb_lt2 hk; omega), Nat.and_two_pow_sub_one_eq_mod]
theorem wb_a1 {n : Nat} (hn : n < 2 ^ 64) : lN n &&& 1 = lN (n % 2) := wb_mask (k := 1) hn (by decide)
theorem wb_bit {n k : Nat} (hn : n < 2 ^ 64) (hk : k < 64) : ((lN n).toUInt64 >>> ((nI k).toInt64.toUInt64 &&& Int64.toUInt64 63)).toInt64 &&& 1 = lN (n / 2 ^ k % 2) := by
  rw [wb_shr hn hk, wb_a1 (Nat.lt_of_le_of_lt (Nat.div_le_self _ _) hn)]
theorem wb_xor {q k : Nat} (hk : k < 63) (h : 2 ^ k ≤ q) (h2 : q < 2 ^ (k + 1)) : lN q ^^^ lN (2 ^ k) = lN (q - 2 ^ k) := by
  obtain ⟨r, rfl⟩ : ∃ r, q = 2 ^ k + r := ⟨q - 2 ^ k, by omega⟩
  have hr : r < 2 ^ k := by rw [Nat.pow_succ] at h2; omega
  have hx : (2 ^ k + r) ^^^ 2 ^ k = r := by
    apply Nat.eq_of_testBit_eq
    intro i
    rw [Nat.testBit_xor, Nat.testBit_two_pow]
    rcases Nat.lt_trichotomy i k with h | h | h
    · rw [Nat.testBit_two_pow_add_gt h]
      simp [show ¬ k = i by omega]
    · subst h
      rw [Nat.testBit_two_pow_add_eq]
      simp
    · have a1 : 2 ^ (k + 1) ≤ 2 ^ i := Nat.pow_le_pow_right (by decide) h
      rw [Nat.testBit_lt_two_pow (show 2 ^ k + r < 2 ^ i by omega), Nat.testBit_lt_two_pow (show r < 2 ^ i by omega)]
      simp [show ¬ k = i by omega]
  have b1 := wb_lt2 (show k + 1 < 64 by omega)
  have b2 := wb_lt2 (show k < 64 by omega)
  apply wb_inj
  rw [Int64.toBitVec_xor, wb_tb, wb_tb, wb_tb]
  apply BitVec.eq_of_toNat_eq
  rw [BitVec.toNat_xor, BitVec.toNat_ofNat, BitVec.toNat_ofNat, BitVec.toNat_ofNat, Nat.mod_eq_of_lt (by omega : 2 ^ k + r < 2 ^ 64), Nat.mod_eq_of_lt b2, hx, Nat.add_sub_cancel_left, Nat.mod_eq_of_lt (by omega)]
/-! ===== lN: masks, 'or' of parts that don't overlap is a sum ===== -/
theorem u_tn {n : Nat} (h : n < 2 ^ 64) : (UInt64.ofNat n).toNat = n := Nat.mod_eq_of_lt h
theorem g_and {a b c : Nat} (ha : a < 2 ^ 64) (hb : b < 2 ^ 64) (hc : a &&& b = c) : lN a &&& lN b = lN c := by
  subst hc
  have h : UInt64.ofNat a &&& UInt64.ofNat b = UInt64.ofNat (a &&& b) := UInt64.toNat_inj.mp (by rw [UInt64.toNat_and, u_tn ha, u_tn hb, u_tn (Nat.and_lt_two_pow a hb)])
  have h2 := congrArg UInt64.toInt64 h
  exact h2
theorem g_and1 {a : Nat} (ha : a < 2 ^ 64) : lN a &&& 1 = lN (a % 2) := g_and (b := 1) ha (by decide) (Nat.and_two_pow_sub_one_eq_mod a 1)
theorem g_mask {a s p : Nat} (hp : 2 ^ s = p) (hs : s < 64) (ha : a < 2 ^ 64) : lN a &&& lN (p - 1) = lN (a % p) := by
  subst hp
  have := Nat.pow_lt_pow_right (show 1 < 2 by decide) hs
  exact g_and ha (by omega) (Nat.and_two_pow_sub_one_eq_mod a s)
theorem g_or {k p a b : Nat} (hp : 2 ^ k = p) (ha : a < p) (h : b * p + a < 2 ^ 64) : lN (b * p) ||| lN a = lN (b * p + a) := by
  subst hp
  have h1 : b * 2 ^ k ||| a = b * 2 ^ k + a := by rw [← Nat.shiftLeft_eq, Nat.shiftLeft_add_eq_or_of_lt ha]
  have h3 : UInt64.ofNat (b * 2 ^ k) ||| UInt64.ofNat a = UInt64.ofNat (b * 2 ^ k + a) := UInt64.toNat_inj.mp (by rw [UInt64.toNat_or, u_tn (by omega), u_tn (by omega), u_tn h, h1])
  have h2 := congrArg UInt64.toInt64 h3
  exact h2
theorem g_or' {k p a b : Nat} (hp : 2 ^ k = p) (ha : a < p) (h : a + b * p < 2 ^ 64) : lN a ||| lN (b * p) = lN (a + b * p) := by
  rw [Int64.or_comm, g_or hp ha (by omega), Nat.add_comm]
theorem g_ushr {a k p : Nat} {y : UInt64} (hy : y = UInt64.ofNat k) (hk : k < 64) (hp : 2 ^ k = p) (ha : a < 2 ^ 64) : ((lN a).toUInt64 >>> y).toInt64 = lN (a / p) := by
  subst hy hp
  have h : UInt64.ofNat a >>> UInt64.ofNat k = UInt64.ofNat (a / 2 ^ k) := UInt64.toNat_inj.mp (by rw [UInt64.toNat_shiftRight, u_tn ha, u_tn (by omega), u_tn (Nat.lt_of_le_of_lt (Nat.div_le_self _ _) ha), Nat.mod_eq_of_lt hk, Nat.shiftRight_eq_div_pow])
  have h2 := congrArg UInt64.toInt64 h
  exact h2
theorem g_shl {a k p : Nat} {y : Int64} (hy : y.toBitVec.smod 64 = BitVec.ofNat 64 k) (hk : k < 64) (hp : 2 ^ k = p) (ha : a < 2 ^ 64) : lN a <<< y = lN (a * p) := by
  subst hp
  apply Int64.toBitVec_inj.mp
  rw [Int64.toBitVec_shiftLeft, hy]
  apply BitVec.eq_of_toNat_eq
  have hb : (lN a).toBitVec.toNat = a := Nat.mod_eq_of_lt ha
  have hk' : (BitVec.ofNat 64 k).toNat = k := Nat.mod_eq_of_lt (by omega)
  have h : ((lN a).toBitVec <<< BitVec.ofNat 64 k).toNat = (a * 2 ^ k) % 2 ^ 64 := by simp only [BitVec.shiftLeft_eq', BitVec.toNat_shiftLeft, hb, hk', Nat.shiftLeft_eq]
  exact h
/-! ===== lN to 2^62 under >> and >>> ===== -/
theorem pf_lI {a : Nat} (h : a < 2 ^ 63) : (lN a).toInt = (a : Int) := lg_ofNat_toInt h
theorem pf_shr {a d : Nat} {D : Int64} (hD : (D.toBitVec.smod 64).toNat = d) (h : a < 2 ^ 62) : lN a >>> D = lN (a / 2 ^ d) := by
  have hd : a / 2 ^ d ≤ a := Nat.div_le_self _ _
  apply Int64.toInt_inj.mp
  have e : (lN a >>> D).toInt = (lN a).toInt >>> d := by
    rw [← hD]
    exact BitVec.toInt_sshiftRight ..
  rw [e, Int.shiftRight_eq_div_pow, pf_lI (by omega), pf_lI (by omega)]
  rfl
theorem pf_ushr {a d : Nat} {D : UInt64} (hD : D.toNat % 64 = d) (h : a < 2 ^ 62) : ((lN a).toUInt64 >>> D).toInt64 = lN (a / 2 ^ d) := by
  have hd : a / 2 ^ d ≤ a := Nat.div_le_self _ _
  have e : (lN a).toUInt64 >>> D = UInt64.ofNat (a / 2 ^ d) := UInt64.toNat_inj.mp (by
    rw [UInt64.toNat_shiftRight, hD, Nat.shiftRight_eq_div_pow, UInt64.toNat_ofNat']
    show (UInt64.ofNat a).toNat / 2 ^ d = _
    rw [UInt64.toNat_ofNat', Nat.mod_eq_of_lt (by omega), Nat.mod_eq_of_lt (by omega)])
  rw [e]
  rfl
theorem pf_andw (x : Int64) : ∃ m, m < 2 ^ 32 ∧ x &&& 4294967295 = lN m := ⟨x.toBitVec.toNat % 2 ^ 32, Nat.mod_lt _ (by decide), Int64.toBitVec_inj.mp (BitVec.eq_of_toNat_eq (by
  show (x.toBitVec &&& 4294967295#64).toNat = (BitVec.ofNat 64 (x.toBitVec.toNat % 2 ^ 32)).toNat
  rw [BitVec.toNat_and, show (4294967295#64).toNat = 2 ^ 32 - 1 from by decide, Nat.and_two_pow_sub_one_eq_mod, BitVec.toNat_ofNat]
  omega))⟩
/-! ===== Int64 as an unsigned number: uN x ===== -/
def uN (x : Int64) : Nat := x.toUInt64.toNat
theorem uN_lt (x : Int64) : uN x < 18446744073709551616 := x.toUInt64.toNat_lt
theorem uN_inj {x y : Int64} (h : uN x = uN y) : x = y := congrArg UInt64.toInt64 (UInt64.toNat_inj.mp h)
theorem uN_add (x y : Int64) : uN (x + y) = (uN x + uN y) % 18446744073709551616 := by
  show (x.toUInt64 + y.toUInt64).toNat = _
  exact UInt64.toNat_add _ _
theorem uN_mul (x y : Int64) : uN (x * y) = (uN x * uN y) % 18446744073709551616 := by
  show (x.toUInt64 * y.toUInt64).toNat = _
  exact UInt64.toNat_mul _ _
theorem uN_shl (x : Int64) : uN (x <<< ((1 : Int32).toInt64 &&& 63)) = (2 * uN x) % 18446744073709551616 := by
  have h : (((1 : Int32).toInt64 &&& 63).toBitVec.smod 64).toNat = 1 := by decide
  show (x.toBitVec <<< (((1 : Int32).toInt64 &&& 63).toBitVec.smod 64).toNat).toNat = _
  rw [h, BitVec.toNat_shiftLeft, Nat.shiftLeft_eq, Nat.mul_comm]
  rfl
theorem uN_shr (x : Int64) (s : UInt64) : uN (x.toUInt64 >>> s).toInt64 = uN x / 2 ^ (s.toNat % 64) := by
  show (x.toUInt64 >>> s).toNat = _
  rw [UInt64.toNat_shiftRight, Nat.shiftRight_eq_div_pow]
  rfl
theorem uN_s32 (x : Int64) : uN (x.toUInt64 >>> ((32 : Int32).toInt64.toUInt64 &&& Int64.toUInt64 63)).toInt64 = uN x / 4294967296 := by
  have h : ((32 : Int32).toInt64.toUInt64 &&& Int64.toUInt64 63).toNat % 64 = 32 := by decide
  rw [uN_shr, h]
theorem uN_s63 (x : Int64) : uN (x.toUInt64 >>> ((63 : Int32).toInt64.toUInt64 &&& Int64.toUInt64 63)).toInt64 = uN x / 9223372036854775808 := by
  have h : ((63 : Int32).toInt64.toUInt64 &&& Int64.toUInt64 63).toNat % 64 = 63 := by decide
  rw [uN_shr, h]
theorem uN_lo (x : Int64) : uN (x &&& 4294967295) = uN x % 4294967296 := by
  show (x.toUInt64 &&& Int64.toUInt64 4294967295).toNat = _
  rw [UInt64.toNat_and]
  exact Nat.and_two_pow_sub_one_eq_mod _ 32
theorem uN_bit (x : Int64) : (x &&& 1) = 0 ↔ uN x % 2 = 0 := by
  have h : uN (x &&& 1) = uN x % 2 := by
    show (x.toUInt64 &&& Int64.toUInt64 1).toNat = _
    rw [UInt64.toNat_and]
    exact Nat.and_two_pow_sub_one_eq_mod _ 1
  rw [← h]
  exact ⟨fun z => by rw [z]; rfl, fun z => uN_inj (z.trans rfl)⟩
theorem uN_or {x y : Int64} (hy : uN y < 2) : uN ((x <<< ((1 : Int32).toInt64 &&& 63)) ||| y) = (2 * uN x) % 18446744073709551616 + uN y := by
  have h1 : uN ((x <<< ((1 : Int32).toInt64 &&& 63)) ||| y) = uN (x <<< ((1 : Int32).toInt64 &&& 63)) ||| uN y := UInt64.toNat_or _ _
  have h2 : (2 * uN x) % 18446744073709551616 = 2 ^ 1 * (uN x % 9223372036854775808) := by omega
  rw [h1, uN_shl, h2]
  exact (Nat.two_pow_add_eq_or_of_lt (i := 1) hy _).symm
theorem nat_xor {a : Nat} (h : a < 18446744073709551616) : a ^^^ 2 ^ 63 = (a + 9223372036854775808) % 18446744073709551616 := by
  have h1 : (a ^^^ 2 ^ 63) % 2 ^ 63 = a % 2 ^ 63 := by rw [Nat.xor_mod_two_pow, Nat.mod_self, Nat.xor_zero]
  have h2 : (a ^^^ 2 ^ 63) / 2 ^ 63 = (a / 2 ^ 63) ^^^ 1 := by rw [Nat.xor_div_two_pow, Nat.div_self (Nat.two_pow_pos 63)]
  have h3 : a / 2 ^ 63 = 0 ∨ a / 2 ^ 63 = 1 := by omega
  generalize a ^^^ 2 ^ 63 = t at h1 h2
  rcases h3 with h3 | h3
  · rw [h3] at h2
    have h2 : t / 2 ^ 63 = 1 := h2
    omega
  · rw [h3] at h2
    have h2 : t / 2 ^ 63 = 0 := h2
    omega
theorem uN_xor (x : Int64) : uN (x ^^^ (-9223372036854775808)) = (uN x + 9223372036854775808) % 18446744073709551616 := by
  rw [← nat_xor (uN_lt x)]
  exact UInt64.toNat_xor _ _
theorem uN_int (x : Int64) : x.toInt = if 2 * uN x < 18446744073709551616 then (uN x : Int) else (uN x : Int) - 18446744073709551616 := BitVec.toInt_eq_toNat_cond _
theorem uN_le (x y : Int64) : (x ^^^ (-9223372036854775808)) ≤ (y ^^^ (-9223372036854775808)) ↔ uN x ≤ uN y := by
  have hx := uN_lt x
  have hy := uN_lt y
  rw [Int64.le_iff_toInt_le, uN_int, uN_int, uN_xor, uN_xor]
  omega
theorem uN_sk (x : Int64) {k : Nat} (hk : k < 64) : uN (x.toUInt64 >>> ((nI k).toInt64.toUInt64 &&& Int64.toUInt64 63)).toInt64 = uN x / 2 ^ k := by
  have h : ((nI k).toInt64.toUInt64 &&& Int64.toUInt64 63).toNat % 64 = k := by
    rw [nI_l (by omega), UInt64.toNat_and]
    have e : (lN k).toUInt64.toNat = k % 2 ^ 64 := rfl
    have e2 : (Int64.toUInt64 63).toNat = 2 ^ 6 - 1 := by decide
    rw [e, e2, Nat.and_two_pow_sub_one_eq_mod]
    omega
  rw [uN_shr, h]
/-! ===== unsigned comparison by xor with the least ===== -/
theorem lN_bv (n : Nat) : (lN n).toBitVec = BitVec.ofNat 64 n := rfl
theorem lN_nat {n : Nat} (h : n < 2 ^ 64) : (lN n).toBitVec.toNat = n := by rw [lN_bv, BitVec.toNat_ofNat]; exact Nat.mod_eq_of_lt h
theorem lN_xor (a b : Nat) : lN a ^^^ lN b = lN (a ^^^ b) := by
  apply Int64.toBitVec_inj.mp; rw [Int64.toBitVec_xor, lN_bv, lN_bv, lN_bv]; apply BitVec.eq_of_getLsbD_eq; intro i hi; simp [BitVec.getLsbD_ofNat, Nat.testBit_xor, hi]
theorem lN_ti {m : Nat} (h : m < 2 ^ 64) : (lN m).toInt = if m < 2 ^ 63 then (m : Int) else (m : Int) - 2 ^ 64 := by
  have c := BitVec.toInt_eq_toNat_cond (lN m).toBitVec
  rw [lN_nat h] at c
  show (lN m).toBitVec.toInt = _
  rw [c]
  split <;> split <;> omega
theorem xor63 {x : Nat} (h : x < 2 ^ 63) : x ^^^ 2 ^ 63 = 2 ^ 63 + x := by
  apply Nat.eq_of_testBit_eq
  intro i
  rw [Nat.testBit_xor, Nat.testBit_two_pow]
  rcases Nat.lt_trichotomy i 63 with z | z | z
  · rw [Nat.testBit_two_pow_add_gt z, decide_eq_false (by omega)]; simp
  · subst z; rw [Nat.testBit_two_pow_add_eq]; simp
  · have hp : 2 ^ 64 ≤ 2 ^ i := Nat.pow_le_pow_right (by decide) z
    rw [Nat.testBit_lt_two_pow (show x < 2 ^ i by omega), Nat.testBit_lt_two_pow (show 2 ^ 63 + x < 2 ^ i by omega), decide_eq_false (by omega)]; rfl
theorem xorS {a : Nat} (h : a < 2 ^ 64) : (lN a ^^^ (-9223372036854775808)).toInt = (a : Int) - 2 ^ 63 := by
  rw [show (-9223372036854775808 : Int64) = lN (2 ^ 63) from by decide +kernel, lN_xor]
  rcases Nat.lt_or_ge a (2 ^ 63) with z | z
  · rw [xor63 z, lN_ti (by omega), if_neg (by omega)]; omega
  · obtain ⟨x, rfl⟩ : ∃ x, a = 2 ^ 63 + x := ⟨a - 2 ^ 63, by omega⟩
    rw [← xor63 (by omega), Nat.xor_assoc, Nat.xor_self, Nat.xor_zero, lN_ti (by omega), if_pos (by omega), xor63 (by omega)]; omega
theorem ultL {a b : Nat} (ha : a < 2 ^ 64) (hb : b < 2 ^ 64) : ((lN b ^^^ (-9223372036854775808)) ≤ (lN a ^^^ (-9223372036854775808))) ↔ b ≤ a := by
  rw [Int64.le_iff_toInt_le, xorS ha, xorS hb]; omega
/-! ===== Int64 masks of n low bits ===== -/
theorem cr_bits (W U M : BitVec 64) : ((W &&& U) &&& (U &&& (M ^^^ BitVec.allOnes 64))) = 0#64 ↔ (W &&& U) &&& M = W &&& U := by
  constructor
  · intro h
    apply BitVec.eq_of_getLsbD_eq
    intro i hi
    have e := congrArg (fun x => BitVec.getLsbD x i) h
    simp only [BitVec.getLsbD_and, BitVec.getLsbD_xor, BitVec.getLsbD_allOnes, BitVec.getLsbD_zero, hi, decide_true] at e ⊢
    revert e
    cases W.getLsbD i <;> cases U.getLsbD i <;> cases M.getLsbD i <;> decide
  · intro h
    apply BitVec.eq_of_getLsbD_eq
    intro i hi
    have e := congrArg (fun x => BitVec.getLsbD x i) h
    simp only [BitVec.getLsbD_and, BitVec.getLsbD_xor, BitVec.getLsbD_allOnes, BitVec.getLsbD_zero, hi, decide_true] at e ⊢
    revert e
    cases W.getLsbD i <;> cases U.getLsbD i <;> cases M.getLsbD i <;> decide
theorem cr_mask (w U m : Int64) (n : Nat) (hm : m.toBitVec.toNat = 2 ^ n - 1) : ((w &&& U) &&& (U &&& (m ^^^ (-1)))) = 0 ↔ (w &&& U).toBitVec.toNat < 2 ^ n := by
  have e0 : (-1 : Int64).toBitVec = BitVec.allOnes 64 := by decide
  have z0 : (0 : Int64).toBitVec = 0#64 := by decide
  rw [← Int64.toBitVec_inj, z0, Int64.toBitVec_and, Int64.toBitVec_and, Int64.toBitVec_and, Int64.toBitVec_xor, e0, cr_bits]
  generalize w.toBitVec &&& U.toBitVec = T
  rw [← BitVec.toNat_inj, BitVec.toNat_and, hm, Nat.and_two_pow_sub_one_eq_mod]
  constructor
  · intro h
    have t := Nat.mod_lt T.toNat (Nat.two_pow_pos n)
    rw [h] at t
    exact t
  · exact Nat.mod_eq_of_lt
theorem cr_shr (t : Int64) (x : UInt64) (n : Nat) (hx : x.toNat % 64 = n) : (t.toUInt64 >>> x).toInt64 = 0 ↔ t.toBitVec.toNat < 2 ^ n := by
  rw [← Int64.toBitVec_inj, ← BitVec.toNat_inj]
  show (t.toUInt64 >>> x).toNat = 0 ↔ t.toUInt64.toNat < 2 ^ n
  rw [UInt64.toNat_shiftRight, hx, Nat.shiftRight_eq_div_pow]
  constructor
  · intro h
    have d : t.toUInt64.toNat / 2 ^ n < 1 := by
      rw [h]
      decide
    have e := (Nat.div_lt_iff_lt_mul (Nat.two_pow_pos n)).mp d
    rw [Nat.one_mul] at e
    exact e
  · exact Nat.div_eq_of_lt
theorem cr_amt (s : Int64) : ∃ n, n < 64 ∧ s &&& 63 = lN n ∧ (s.toUInt64 &&& Int64.toUInt64 63).toNat % 64 = n := by
  have e : (s.toUInt64 &&& Int64.toUInt64 63).toNat = s.toUInt64.toNat % 2 ^ 6 := by
    rw [UInt64.toNat_and, show (Int64.toUInt64 63).toNat = 2 ^ 6 - 1 from by decide, Nat.and_two_pow_sub_one_eq_mod]
  refine ⟨s.toUInt64.toNat % 2 ^ 6, by omega, ?_, by omega⟩
  rw [← Int64.toBitVec_inj, ← BitVec.toNat_inj]
  show (s.toUInt64 &&& Int64.toUInt64 63).toNat = (BitVec.ofNat 64 (s.toUInt64.toNat % 2 ^ 6)).toNat
  rw [e, BitVec.toNat_ofNat]
  omega
/-! plain facts to paste, each family by itself; over the kit's nI, lN and upd -/
/-! ===== drawers: more things than places ===== -/
theorem fb_holes : ∀ (m n : Nat) (f : Nat → Nat), (∀ i, i < n → f i < m) → (∀ i j, i < j → j < n → f i ≠ f j) → n ≤ m := by
  intro m
  induction m with
  | zero =>
    intro n f h1 _
    rcases Nat.eq_zero_or_pos n with h | h
    · omega
    · exact absurd (h1 0 h) (Nat.not_lt_zero _)
  | succ m ih =>
    intro n f h1 h2
    by_cases hx : ∃ i, i < n ∧ f i = m
    · obtain ⟨a, ha, hfa⟩ := hx
      have hg := ih (n - 1) (fun i => if i < a then f i else f (i + 1)) (by
        intro i hi
        by_cases q : i < a
        · simp only [if_pos q]
          have b1 := h1 i (by omega)
          have b2 := h2 i a q ha
          omega
        · simp only [if_neg q]
          have b1 := h1 (i + 1) (by omega)
          have b2 := h2 a (i + 1) (by omega) (by omega)
          omega) (by
        intro i j hij hj
        by_cases q : i < a
        · by_cases r : j < a
          · simp only [if_pos q, if_pos r]
            exact h2 i j hij (by omega)
          · simp only [if_pos q, if_neg r]
            exact h2 i (j + 1) (by omega) (by omega)
        · have r : ¬ j < a := by omega
          simp only [if_neg q, if_neg r]
          exact h2 (i + 1) (j + 1) (by omega) (by omega))
      omega
    · have hg := ih n f (fun i hi => by
        have b1 := h1 i hi
        have b2 : f i ≠ m := fun e => hx ⟨i, hi, e⟩
        omega) h2
      omega
/-- two of them in one place -/
theorem fb_twice {m n : Nat} {f : Nat → Nat} (h : ∀ i, i < n → f i < m) (hm : m < n) : ∃ i j, i < j ∧ j < n ∧ f i = f j := by
  refine Classical.byContradiction fun hx => ?_
  have := fb_holes m n f h (fun i j hij hj e => hx ⟨i, j, hij, hj, e⟩)
  omega
/-- as many as places, none twice: each place is taken -/
theorem fb_onto {n : Nat} {f : Nat → Nat} (h : ∀ i, i < n → f i < n) (h2 : ∀ i j, i < j → j < n → f i ≠ f j) {y : Nat} (hy : y < n) : ∃ i, i < n ∧ f i = y := by
  refine Classical.byContradiction fun hx => ?_
  have hne : ∀ i, i < n → f i ≠ y := fun i hi e => hx ⟨i, hi, e⟩
  have := fb_holes (n - 1) n (fun i => if f i < y then f i else f i - 1) (by
    intro i hi
    have b1 := h i hi
    have b2 := hne i hi
    by_cases q : f i < y
    · simp only [if_pos q]; omega
    · simp only [if_neg q]; omega) (by
    intro i j hij hj
    have b1 := hne i (by omega)
    have b2 := hne j hj
    have b3 := h2 i j hij hj
    by_cases q : f i < y
    · by_cases r : f j < y
      · simp only [if_pos q, if_pos r]; exact b3
      · simp only [if_pos q, if_neg r]; omega
    · by_cases r : f j < y
      · simp only [if_neg q, if_pos r]; omega
      · simp only [if_neg q, if_neg r]; omega)
  omega
/-! ===== how many places have a property ===== -/
def fb_ct (p : Nat → Bool) : Nat → Nat
  | 0 => 0
  | n + 1 => fb_ct p n + (if p n then 1 else 0)
theorem fb_ct_succ (p : Nat → Bool) (n : Nat) : fb_ct p (n + 1) = fb_ct p n + (if p n then 1 else 0) := rfl
theorem fb_ct_le (p : Nat → Bool) : ∀ n, fb_ct p n ≤ n
  | 0 => Nat.le_refl _
  | n + 1 => by
    have h := fb_ct_le p n
    rw [fb_ct_succ]
    split <;> omega
theorem fb_ct_step (p : Nat → Bool) (m : Nat) : ∀ n, fb_ct p m ≤ fb_ct p (m + n)
  | 0 => Nat.le_refl _
  | n + 1 => by
    have h := fb_ct_step p m n
    show fb_ct p m ≤ fb_ct p (m + n + 1)
    rw [fb_ct_succ]
    omega
theorem fb_ct_mono (p : Nat → Bool) {m n : Nat} (h : m ≤ n) : fb_ct p m ≤ fb_ct p n := by
  have := fb_ct_step p m (n - m)
  rwa [Nat.add_sub_cancel' h] at this
theorem fb_ct_cong {p q : Nat → Bool} : ∀ {n : Nat}, (∀ k, k < n → p k = q k) → fb_ct p n = fb_ct q n
  | 0, _ => rfl
  | n + 1, h => by
    rw [fb_ct_succ, fb_ct_succ, fb_ct_cong (fun k hk => h k (by omega)), h n (by omega)]
/-- one place changed -/
theorem fb_ct_out (p : Nat → Bool) (b : Bool) {i n : Nat} (h : n ≤ i) : fb_ct (fun k => if k = i then b else p k) n = fb_ct p n :=
  fb_ct_cong fun k hk => if_neg (by omega)
theorem fb_ct_upd (p : Nat → Bool) (b : Bool) {i : Nat} : ∀ {n : Nat}, i < n → fb_ct (fun k => if k = i then b else p k) n + (if p i then 1 else 0) = fb_ct p n + (if b then 1 else 0)
  | 0, h => absurd h (Nat.not_lt_zero i)
  | n + 1, h => by
    rw [fb_ct_succ, fb_ct_succ]
    rcases Nat.lt_or_ge i n with q | q
    · have := fb_ct_upd p b q
      have e : (if n = i then b else p n) = p n := if_neg (by omega)
      rw [e]
      omega
    · have e : i = n := by omega
      subst e
      rw [fb_ct_out p b (Nat.le_refl _)]
      simp only [if_true]
      omega
theorem fb_ct_sub {p q : Nat → Bool} : ∀ {n : Nat}, (∀ k, k < n → p k = true → q k = true) → fb_ct p n ≤ fb_ct q n
  | 0, _ => Nat.le_refl _
  | n + 1, h => by
    have h1 := fb_ct_sub (n := n) (p := p) (q := q) (fun k hk => h k (by omega))
    have h2 := h n (by omega)
    rw [fb_ct_succ, fb_ct_succ]
    cases hp : p n <;> cases hq : q n <;> simp_all <;> omega
theorem fb_ct_or {p q : Nat → Bool} : ∀ {n : Nat}, (∀ k, k < n → ¬ (p k = true ∧ q k = true)) → fb_ct (fun k => p k || q k) n = fb_ct p n + fb_ct q n
  | 0, _ => rfl
  | n + 1, h => by
    have h1 := fb_ct_or (n := n) (p := p) (q := q) (fun k hk => h k (by omega))
    have h2 := h n (by omega)
    rw [fb_ct_succ, fb_ct_succ, fb_ct_succ, h1]
    cases hp : p n <;> cases hq : q n <;> simp_all <;> omega
theorem fb_ct_not (p : Nat → Bool) : ∀ n, fb_ct p n + fb_ct (fun k => !p k) n = n
  | 0 => rfl
  | n + 1 => by
    have h := fb_ct_not p n
    rw [fb_ct_succ, fb_ct_succ]
    cases p n <;> simp <;> omega
theorem fb_ct_split (p : Nat → Bool) (m : Nat) : ∀ n, fb_ct p (m + n) = fb_ct p m + fb_ct (fun k => p (m + k)) n
  | 0 => rfl
  | n + 1 => by
    have h := fb_ct_split p m n
    show fb_ct p (m + n + 1) = _
    rw [fb_ct_succ, fb_ct_succ, h, Nat.add_assoc]
theorem fb_ct_zero {p : Nat → Bool} : ∀ {n : Nat}, fb_ct p n = 0 ↔ ∀ k, k < n → p k = false
  | 0 => ⟨fun _ k hk => absurd hk (Nat.not_lt_zero k), fun _ => rfl⟩
  | n + 1 => by
    have h := fb_ct_zero (p := p) (n := n)
    rw [fb_ct_succ]
    constructor
    · intro e k hk
      have e1 : fb_ct p n = 0 := by omega
      rcases Nat.lt_or_ge k n with q | q
      · exact h.mp e1 k q
      · have ek : k = n := by omega
        subst ek
        cases hp : p k
        · rfl
        · simp [hp] at e
    · intro a
      rw [h.mpr (fun k hk => a k (by omega)), a n (by omega)]
      rfl
theorem fb_ct_pos {p : Nat → Bool} {n : Nat} : 0 < fb_ct p n ↔ ∃ k, k < n ∧ p k = true := by
  constructor
  · intro h
    refine Classical.byContradiction fun hx => ?_
    have := fb_ct_zero.mpr (fun k hk => by
      cases hp : p k
      · rfl
      · exact absurd ⟨k, hk, hp⟩ hx : ∀ k, k < n → p k = false)
    omega
  · rintro ⟨k, hk, hp⟩
    rcases Nat.eq_zero_or_pos (fb_ct p n) with e | e
    · have := fb_ct_zero.mp e k hk
      rw [this] at hp
      cases hp
    · exact e
theorem fb_ct_all {p : Nat → Bool} {n : Nat} : fb_ct p n = n ↔ ∀ k, k < n → p k = true := by
  have h := fb_ct_not p n
  constructor
  · intro e k hk
    have z : fb_ct (fun k => !p k) n = 0 := by omega
    have := fb_ct_zero.mp z k hk
    cases hp : p k
    · simp [hp] at this
    · rfl
  · intro a
    have z : fb_ct (fun k => !p k) n = 0 := fb_ct_zero.mpr (fun k hk => by simp [a k hk])
    omega
/-- the k-th place with the property -/
theorem fb_ct_kth {p : Nat → Bool} {k : Nat} : ∀ {n : Nat}, k < fb_ct p n → ∃ i, i < n ∧ p i = true ∧ fb_ct p i = k
  | 0, h => absurd h (Nat.not_lt_zero k)
  | n + 1, h => by
    rcases Nat.lt_or_ge k (fb_ct p n) with q | q
    · obtain ⟨i, h1, h2⟩ := fb_ct_kth q
      exact ⟨i, by omega, h2⟩
    · rw [fb_ct_succ] at h
      cases hp : p n
      · simp [hp] at h; omega
      · simp [hp] at h
        exact ⟨n, by omega, hp, by omega⟩
theorem fb_ct_kth_one {p : Nat → Bool} {i j : Nat} (hi : p i = true) (hj : p j = true) (e : fb_ct p i = fb_ct p j) : i = j := by
  have key : ∀ a b : Nat, a < b → p a = true → fb_ct p a < fb_ct p b := by
    intro a b hab ha
    have h := fb_ct_mono p (show a + 1 ≤ b from hab)
    rw [fb_ct_succ, ha] at h
    simp at h
    omega
  rcases Nat.lt_trichotomy i j with q | q | q
  · have := key i j q hi; omega
  · exact q
  · have := key j i q hj; omega
/-! ===== sums over a range: one place changed, parts, bounds ===== -/
def fb_sm (f : Nat → Nat) : Nat → Nat
  | 0 => 0
  | n + 1 => fb_sm f n + f n
theorem fb_sm_succ (f : Nat → Nat) (n : Nat) : fb_sm f (n + 1) = fb_sm f n + f n := rfl
theorem fb_sm_cong {f g : Nat → Nat} : ∀ {n : Nat}, (∀ k, k < n → f k = g k) → fb_sm f n = fb_sm g n
  | 0, _ => rfl
  | n + 1, h => by rw [fb_sm_succ, fb_sm_succ, fb_sm_cong (fun k hk => h k (by omega)), h n (by omega)]
theorem fb_sm_out (f : Nat → Nat) (v : Nat) {i n : Nat} (h : n ≤ i) : fb_sm (fun k => if k = i then v else f k) n = fb_sm f n :=
  fb_sm_cong fun k hk => if_neg (by omega)
theorem fb_sm_upd (f : Nat → Nat) (v : Nat) {i : Nat} : ∀ {n : Nat}, i < n → fb_sm (fun k => if k = i then v else f k) n + f i = fb_sm f n + v
  | 0, h => absurd h (Nat.not_lt_zero i)
  | n + 1, h => by
    rw [fb_sm_succ, fb_sm_succ]
    rcases Nat.lt_or_ge i n with q | q
    · have := fb_sm_upd f v q
      have e : (if n = i then v else f n) = f n := if_neg (by omega)
      rw [e]
      omega
    · have e : i = n := by omega
      subst e
      rw [fb_sm_out f v (Nat.le_refl _)]
      simp only [if_true]
      omega
theorem fb_sm_add (f g : Nat → Nat) : ∀ n, fb_sm (fun k => f k + g k) n = fb_sm f n + fb_sm g n
  | 0 => rfl
  | n + 1 => by
    have h := fb_sm_add f g n
    rw [fb_sm_succ, fb_sm_succ, fb_sm_succ, h]
    omega
theorem fb_sm_le {f g : Nat → Nat} : ∀ {n : Nat}, (∀ k, k < n → f k ≤ g k) → fb_sm f n ≤ fb_sm g n
  | 0, _ => Nat.le_refl _
  | n + 1, h => by
    have h1 := fb_sm_le (n := n) (f := f) (g := g) (fun k hk => h k (by omega))
    have h2 := h n (by omega)
    rw [fb_sm_succ, fb_sm_succ]
    omega
theorem fb_sm_const (c : Nat) : ∀ n, fb_sm (fun _ => c) n = n * c
  | 0 => by rw [Nat.zero_mul]; rfl
  | n + 1 => by rw [fb_sm_succ, fb_sm_const c n, Nat.succ_mul]
theorem fb_sm_bound {f : Nat → Nat} {c n : Nat} (h : ∀ k, k < n → f k ≤ c) : fb_sm f n ≤ n * c := by
  rw [← fb_sm_const c n]
  exact fb_sm_le h
theorem fb_sm_mono (f : Nat → Nat) (m : Nat) : ∀ n, fb_sm f m ≤ fb_sm f (m + n)
  | 0 => Nat.le_refl _
  | n + 1 => by
    have h := fb_sm_mono f m n
    show fb_sm f m ≤ fb_sm f (m + n + 1)
    rw [fb_sm_succ]
    omega
theorem fb_sm_part (f : Nat → Nat) {i n : Nat} (h : i < n) : fb_sm f i + f i ≤ fb_sm f n := by
  have := fb_sm_mono f (i + 1) (n - (i + 1))
  rw [fb_sm_succ, show i + 1 + (n - (i + 1)) = n by omega] at this
  exact this
theorem fb_sm_split (f : Nat → Nat) (m : Nat) : ∀ n, fb_sm f (m + n) = fb_sm f m + fb_sm (fun k => f (m + k)) n
  | 0 => rfl
  | n + 1 => by
    have h := fb_sm_split f m n
    show fb_sm f (m + n + 1) = _
    rw [fb_sm_succ, fb_sm_succ, h, Nat.add_assoc]
theorem fb_sm_zero {f : Nat → Nat} {n : Nat} (h : fb_sm f n = 0) : ∀ k, k < n → f k = 0 := fun k hk => by
  have := fb_sm_part f hk
  omega
/-- the same over whole numbers -/
def fb_si (f : Nat → Int) : Nat → Int
  | 0 => 0
  | n + 1 => fb_si f n + f n
theorem fb_si_succ (f : Nat → Int) (n : Nat) : fb_si f (n + 1) = fb_si f n + f n := rfl
theorem fb_si_cong {f g : Nat → Int} : ∀ {n : Nat}, (∀ k, k < n → f k = g k) → fb_si f n = fb_si g n
  | 0, _ => rfl
  | n + 1, h => by rw [fb_si_succ, fb_si_succ, fb_si_cong (fun k hk => h k (by omega)), h n (by omega)]
theorem fb_si_out (f : Nat → Int) (v : Int) {i n : Nat} (h : n ≤ i) : fb_si (fun k => if k = i then v else f k) n = fb_si f n :=
  fb_si_cong fun k hk => if_neg (by omega)
theorem fb_si_upd (f : Nat → Int) (v : Int) {i : Nat} : ∀ {n : Nat}, i < n → fb_si (fun k => if k = i then v else f k) n = fb_si f n - f i + v
  | 0, h => absurd h (Nat.not_lt_zero i)
  | n + 1, h => by
    rw [fb_si_succ, fb_si_succ]
    rcases Nat.lt_or_ge i n with q | q
    · have := fb_si_upd f v q
      have e : (if n = i then v else f n) = f n := if_neg (by omega)
      rw [e]
      omega
    · have e : i = n := by omega
      subst e
      rw [fb_si_out f v (Nat.le_refl _)]
      simp only [if_true]
      omega
theorem fb_si_add (f g : Nat → Int) : ∀ n, fb_si (fun k => f k + g k) n = fb_si f n + fb_si g n
  | 0 => rfl
  | n + 1 => by
    have h := fb_si_add f g n
    rw [fb_si_succ, fb_si_succ, fb_si_succ, h]
    omega
theorem fb_si_sub (f g : Nat → Int) : ∀ n, fb_si (fun k => f k - g k) n = fb_si f n - fb_si g n
  | 0 => rfl
  | n + 1 => by
    have h := fb_si_sub f g n
    rw [fb_si_succ, fb_si_succ, fb_si_succ, h]
    omega
theorem fb_si_mul (c : Int) (f : Nat → Int) : ∀ n, fb_si (fun k => c * f k) n = c * fb_si f n
  | 0 => (Int.mul_zero c).symm
  | n + 1 => by
    have h := fb_si_mul c f n
    rw [fb_si_succ, fb_si_succ, h, Int.mul_add]
theorem fb_si_split (f : Nat → Int) (m : Nat) : ∀ n, fb_si f (m + n) = fb_si f m + fb_si (fun k => f (m + k)) n
  | 0 => (Int.add_zero _).symm
  | n + 1 => by
    have h := fb_si_split f m n
    show fb_si f (m + n + 1) = _
    rw [fb_si_succ, fb_si_succ, h, Int.add_assoc]
theorem fb_si_nat (f : Nat → Nat) : ∀ n, fb_si (fun k => (f k : Int)) n = (fb_sm f n : Int)
  | 0 => rfl
  | n + 1 => by
    have h := fb_si_nat f n
    rw [fb_si_succ, fb_sm_succ, h]
    omega
theorem fb_si_bound {f : Nat → Int} {c : Int} (hc : 0 ≤ c) : ∀ {n : Nat}, (∀ k, k < n → -c ≤ f k ∧ f k ≤ c) → -(n * c) ≤ fb_si f n ∧ fb_si f n ≤ n * c
  | 0, _ => by simp [fb_si]
  | n + 1, h => by
    have h1 := fb_si_bound (n := n) (f := f) hc (fun k hk => h k (by omega))
    have h2 := h n (by omega)
    have e : ((n + 1 : Nat) : Int) * c = n * c + c := by rw [Int.natCast_add, Int.add_mul]; simp
    rw [fb_si_succ, e]
    omega
/-! ===== bits of a long that isn't negative ===== -/
theorem fb_andL (a b : Nat) : lN a &&& lN b = lN (a &&& b) := by
  apply Int64.toBitVec_inj.1
  show BitVec.ofNat 64 a &&& BitVec.ofNat 64 b = BitVec.ofNat 64 (a &&& b)
  apply BitVec.eq_of_getLsbD_eq
  intro i hi
  simp [hi]
theorem fb_orL (a b : Nat) : lN a ||| lN b = lN (a ||| b) := by
  apply Int64.toBitVec_inj.1
  show BitVec.ofNat 64 a ||| BitVec.ofNat 64 b = BitVec.ofNat 64 (a ||| b)
  apply BitVec.eq_of_getLsbD_eq
  intro i hi
  simp [hi]
theorem fb_xorL (a b : Nat) : lN a ^^^ lN b = lN (a ^^^ b) := by
  apply Int64.toBitVec_inj.1
  show BitVec.ofNat 64 a ^^^ BitVec.ofNat 64 b = BitVec.ofNat 64 (a ^^^ b)
  apply BitVec.eq_of_getLsbD_eq
  intro i hi
  simp [hi]
theorem fb_xorI (a b : Nat) : nI a ^^^ nI b = nI (a ^^^ b) := by
  apply Int32.toBitVec_inj.1
  show BitVec.ofNat 32 a ^^^ BitVec.ofNat 32 b = BitVec.ofNat 32 (a ^^^ b)
  apply BitVec.eq_of_getLsbD_eq
  intro i hi
  simp [hi]
theorem fb_maskL (n k : Nat) : lN n &&& lN (2 ^ k - 1) = lN (n % 2 ^ k) := by rw [fb_andL, Nat.and_two_pow_sub_one_eq_mod]
theorem fb_or_sumL {a k : Nat} (b : Nat) (h : a < 2 ^ k) : lN (2 ^ k * b) ||| lN a = lN (2 ^ k * b + a) := by rw [fb_orL, Nat.two_pow_add_eq_or_of_lt h]
theorem fb_lN_inj {a b : Nat} (ha : a < 2 ^ 63) (hb : b < 2 ^ 63) : lN a = lN b ↔ a = b := by
  constructor
  · intro h
    have h1 : (BitVec.ofNat 64 a).toNat = (BitVec.ofNat 64 b).toNat := congrArg (fun x : Int64 => x.toBitVec.toNat) h
    rw [BitVec.toNat_ofNat, BitVec.toNat_ofNat, Nat.mod_eq_of_lt (by omega), Nat.mod_eq_of_lt (by omega)] at h1
    exact h1
  · rintro rfl; rfl
theorem fb_bit_nat (n j : Nat) : n &&& 2 ^ j = 0 ↔ n.testBit j = false := by
  constructor
  · intro h
    have h1 : (n &&& 2 ^ j).testBit j = false := by rw [h]; simp
    rw [Nat.testBit_and] at h1
    simpa using h1
  · intro h
    apply Nat.eq_of_testBit_eq
    intro i
    rw [Nat.testBit_and]
    by_cases hi : j = i
    · subst hi; simp [h]
    · first | (simp [Nat.testBit_two_pow, hi]; done) | (simp [Nat.testBit_two_pow_of_ne hi]; done)
/-- one bit of a long -/
theorem fb_bitL {n j : Nat} (hj : j < 63) : lN n &&& lN (2 ^ j) = 0 ↔ n.testBit j = false := by
  have h2 : (2 : Nat) ^ j < 2 ^ 63 := Nat.pow_lt_pow_right (by decide) hj
  have hle : n &&& 2 ^ j ≤ 2 ^ j := Nat.and_le_right
  rw [fb_andL, ← fb_bit_nat, show (0 : Int64) = lN 0 from rfl]
  exact fb_lN_inj (by omega) (by decide)
/-- a bit set, a bit taken off -/
theorem fb_bit_set (n j i : Nat) : (n ||| 2 ^ j).testBit i = (n.testBit i || decide (i = j)) := by
  rw [Nat.testBit_or]
  by_cases h : j = i
  · subst h; simp
  · have h2 : ¬ i = j := fun e => h e.symm
    first | (simp [Nat.testBit_two_pow, h, h2]; done) | (simp [Nat.testBit_two_pow_of_ne h, h2]; done)
theorem fb_bit_flip (n j i : Nat) : (n ^^^ 2 ^ j).testBit i = (n.testBit i ^^ decide (i = j)) := by
  rw [Nat.testBit_xor]
  by_cases h : j = i
  · subst h; simp
  · have h2 : ¬ i = j := fun e => h e.symm
    first | (simp [Nat.testBit_two_pow, h, h2]; done) | (simp [Nat.testBit_two_pow_of_ne h, h2]; done)
/-! ===== a stretch of an array written over by a function ===== -/
def fb_put {α : Type} (f g : Nat → α) (a n : Nat) : Nat → α := fun k => if a ≤ k ∧ k < a + n then g (k - a) else f k
theorem fb_put_0 {α : Type} (f g : Nat → α) (a : Nat) : fb_put f g a 0 = f := funext fun k => if_neg (by omega)
theorem fb_put_in {α : Type} {f g : Nat → α} {a n k : Nat} (h1 : a ≤ k) (h2 : k < a + n) : fb_put f g a n k = g (k - a) := if_pos ⟨h1, h2⟩
theorem fb_put_out {α : Type} {f g : Nat → α} {a n k : Nat} (h : k < a ∨ a + n ≤ k) : fb_put f g a n k = f k := if_neg (by omega)
theorem fb_put_succ (f g : Nat → Int32) (a n : Nat) : upd (fb_put f g a n) (a + n) (g n) = fb_put f g a (n + 1) := by
  funext k
  by_cases h : k = a + n
  · subst h
    simp [upd, fb_put]
  · by_cases h1 : a ≤ k ∧ k < a + n
    · have h2 : a ≤ k ∧ k < a + (n + 1) := by omega
      simp only [upd, fb_put, if_neg h, if_pos h1, if_pos h2]
    · have h2 : ¬ (a ≤ k ∧ k < a + (n + 1)) := by omega
      simp only [upd, fb_put, if_neg h, if_neg h1, if_neg h2]
/-- .. from the far end down -/
theorem fb_put_down (f g : Nat → Int32) {a n m : Nat} (h : m < n) : upd (fb_put f (fun k => g (k + (m + 1))) (a + (m + 1)) (n - (m + 1))) (a + m) (g m) = fb_put f (fun k => g (k + m)) (a + m) (n - m) := by
  funext k
  by_cases h0 : k = a + m
  · subst h0
    simp only [upd, if_true]
    rw [fb_put_in (by omega) (by omega)]
    exact congrArg g (by omega)
  · simp only [upd, if_neg h0]
    by_cases h1 : a + (m + 1) ≤ k ∧ k < a + (m + 1) + (n - (m + 1))
    · rw [fb_put_in h1.1 h1.2, fb_put_in (by omega) (by omega)]
      exact congrArg g (by omega)
    · rw [fb_put_out (by omega), fb_put_out (by omega)]
theorem fb_put_cong {α : Type} {f f2 g g2 : Nat → α} {a n : Nat} (hf : ∀ k, (k < a ∨ a + n ≤ k) → f k = f2 k) (hg : ∀ k, k < n → g k = g2 k) : fb_put f g a n = fb_put f2 g2 a n := by
  funext k
  by_cases h : a ≤ k ∧ k < a + n
  · rw [fb_put_in h.1 h.2, fb_put_in h.1 h.2, hg _ (by omega)]
  · rw [fb_put_out (by omega), fb_put_out (by omega), hf _ (by omega)]
/-! ===== the least, the first, the best so far; that there is one alone ===== -/
theorem fb_first {p : Nat → Prop} [DecidablePred p] : ∀ {n : Nat}, (∃ i, i < n ∧ p i) → ∃ i, i < n ∧ p i ∧ ∀ j, j < i → ¬ p j
  | 0, h => by obtain ⟨i, hi, -⟩ := h; exact absurd hi (Nat.not_lt_zero i)
  | n + 1, h => by
    by_cases q : ∃ i, i < n ∧ p i
    · obtain ⟨i, h1, h2⟩ := fb_first q
      exact ⟨i, by omega, h2⟩
    · obtain ⟨i, h1, h2⟩ := h
      have e : i = n := by
        rcases Nat.lt_or_ge i n with r | r
        · exact absurd ⟨i, r, h2⟩ q
        · omega
      subst e
      exact ⟨i, by omega, h2, fun j hj hp => q ⟨j, hj, hp⟩⟩
theorem fb_first_one {p : Nat → Prop} {i j : Nat} (hi : p i) (hi2 : ∀ k, k < i → ¬ p k) (hj : p j) (hj2 : ∀ k, k < j → ¬ p k) : i = j := by
  rcases Nat.lt_trichotomy i j with q | q | q
  · exact absurd hi (hj2 i q)
  · exact q
  · exact absurd hj (hi2 j q)
theorem fb_last {p : Nat → Prop} [DecidablePred p] : ∀ {n : Nat}, (∃ i, i < n ∧ p i) → ∃ i, i < n ∧ p i ∧ ∀ j, i < j → j < n → ¬ p j
  | 0, h => by obtain ⟨i, hi, -⟩ := h; exact absurd hi (Nat.not_lt_zero i)
  | n + 1, h => by
    by_cases q : p n
    · exact ⟨n, by omega, q, fun j h1 h2 => by omega⟩
    · obtain ⟨i, h1, h2⟩ := h
      have hi : i < n := by
        rcases Nat.lt_or_ge i n with r | r
        · exact r
        · have e : i = n := by omega
          subst e
          exact absurd h2 q
      obtain ⟨i2, a1, a2, a3⟩ := fb_last (n := n) ⟨i, hi, h2⟩
      refine ⟨i2, by omega, a2, fun j b1 b2 => ?_⟩
      rcases Nat.lt_or_ge j n with r | r
      · exact a3 j b1 r
      · have e : j = n := by omega
        subst e
        exact q
/-- the first greatest -/
theorem fb_best (f : Nat → Int) : ∀ {n : Nat}, 0 < n → ∃ i, i < n ∧ (∀ j, j < n → f j ≤ f i) ∧ ∀ j, j < i → f j < f i
  | 0, h => absurd h (Nat.lt_irrefl 0)
  | 1, _ => ⟨0, by omega, fun j hj => by have e : j = 0 := by omega
                                         subst e; exact Int.le_refl _, fun j hj => absurd hj (Nat.not_lt_zero j)⟩
  | n + 2, _ => by
    obtain ⟨i, h1, h2, h3⟩ := fb_best f (n := n + 1) (by omega)
    by_cases q : f i < f (n + 1)
    · refine ⟨n + 1, by omega, fun j hj => ?_, fun j hj => ?_⟩
      · rcases Nat.lt_or_ge j (n + 1) with r | r
        · have := h2 j r; omega
        · have e : j = n + 1 := by omega
          subst e; exact Int.le_refl _
      · have := h2 j hj; omega
    · refine ⟨i, by omega, fun j hj => ?_, h3⟩
      rcases Nat.lt_or_ge j (n + 1) with r | r
      · exact h2 j r
      · have e : j = n + 1 := by omega
        subst e; omega
theorem fb_best_one {f : Nat → Int} {n i j : Nat} (hi : i < n) (hi2 : ∀ k, k < n → f k ≤ f i) (hi3 : ∀ k, k < i → f k < f i) (hj : j < n) (hj2 : ∀ k, k < n → f k ≤ f j) (hj3 : ∀ k, k < j → f k < f j) : i = j := by
  rcases Nat.lt_trichotomy i j with q | q | q
  · have a := hj3 i q
    have b := hi2 j hj
    omega
  · exact q
  · have a := hi3 j q
    have b := hj2 i hi
    omega
/-- the first least -/
theorem fb_low (f : Nat → Int) {n : Nat} (h : 0 < n) : ∃ i, i < n ∧ (∀ j, j < n → f i ≤ f j) ∧ ∀ j, j < i → f i < f j := by
  obtain ⟨i, h1, h2, h3⟩ := fb_best (fun k => -f k) h
  exact ⟨i, h1, fun j hj => by have := h2 j hj; omega, fun j hj => by have := h3 j hj; omega⟩
/-! ===== signed ints as whole numbers, within bounds ===== -/
theorem fb_rng (x : Int32) : -2147483648 ≤ x.toInt ∧ x.toInt < 2147483648 := by
  have h1 := Int32.le_toInt x
  have h2 := Int32.toInt_lt x
  omega
theorem fb_bmod {z : Int} (h1 : -2147483648 ≤ z) (h2 : z < 2147483648) : z.bmod (2 ^ 32) = z := by
  rw [Int.bmod_eq_of_le (by omega) (by omega)]
theorem fb_addI {x y : Int32} (h1 : -2147483648 ≤ x.toInt + y.toInt) (h2 : x.toInt + y.toInt < 2147483648) : (x + y).toInt = x.toInt + y.toInt := by
  rw [Int32.toInt_add, fb_bmod h1 h2]
theorem fb_subI {x y : Int32} (h1 : -2147483648 ≤ x.toInt - y.toInt) (h2 : x.toInt - y.toInt < 2147483648) : (x - y).toInt = x.toInt - y.toInt := by
  rw [Int32.toInt_sub, fb_bmod h1 h2]
theorem fb_mulI {x y : Int32} (h1 : -2147483648 ≤ x.toInt * y.toInt) (h2 : x.toInt * y.toInt < 2147483648) : (x * y).toInt = x.toInt * y.toInt := by
  rw [Int32.toInt_mul, fb_bmod h1 h2]
theorem fb_negI {x : Int32} (h : x.toInt ≠ -2147483648) : (-x).toInt = -x.toInt := by
  have := fb_rng x
  rw [Int32.toInt_neg, fb_bmod (by omega) (by omega)]
theorem fb_ofI {z : Int} (h1 : -2147483648 ≤ z) (h2 : z < 2147483648) : (Int32.ofInt z).toInt = z := by
  rw [Int32.toInt_ofInt, fb_bmod h1 h2]
theorem fb_asI (x : Int32) : Int32.ofInt x.toInt = x := Int32.ofInt_toInt x
theorem fb_rngL (x : Int64) : -9223372036854775808 ≤ x.toInt ∧ x.toInt < 9223372036854775808 := by
  have h1 := Int64.le_toInt x
  have h2 := Int64.toInt_lt x
  omega
theorem fb_bmodL {z : Int} (h1 : -9223372036854775808 ≤ z) (h2 : z < 9223372036854775808) : z.bmod (2 ^ 64) = z := by
  rw [Int.bmod_eq_of_le (by omega) (by omega)]
theorem fb_addL {x y : Int64} (h1 : -9223372036854775808 ≤ x.toInt + y.toInt) (h2 : x.toInt + y.toInt < 9223372036854775808) : (x + y).toInt = x.toInt + y.toInt := by
  rw [Int64.toInt_add, fb_bmodL h1 h2]
theorem fb_subL {x y : Int64} (h1 : -9223372036854775808 ≤ x.toInt - y.toInt) (h2 : x.toInt - y.toInt < 9223372036854775808) : (x - y).toInt = x.toInt - y.toInt := by
  rw [Int64.toInt_sub, fb_bmodL h1 h2]
theorem fb_mulL {x y : Int64} (h1 : -9223372036854775808 ≤ x.toInt * y.toInt) (h2 : x.toInt * y.toInt < 9223372036854775808) : (x * y).toInt = x.toInt * y.toInt := by
  rw [Int64.toInt_mul, fb_bmodL h1 h2]
/-! ===== cuts of what is narrow already ===== -/
theorem fb_byte {x : Int32} (h1 : -128 ≤ x.toInt) (h2 : x.toInt < 128) : x.toInt8.toInt32 = x := by
  apply Int32.toInt_inj.1
  rw [Int8.toInt_toInt32, Int32.toInt_toInt8, Int.bmod_eq_of_le (by omega) (by omega)]
theorem fb_short {x : Int32} (h1 : -32768 ≤ x.toInt) (h2 : x.toInt < 32768) : x.toInt16.toInt32 = x := by
  apply Int32.toInt_inj.1
  rw [Int16.toInt_toInt32, Int32.toInt_toInt16, Int.bmod_eq_of_le (by omega) (by omega)]
theorem fb_byte_rng (x : Int32) : -128 ≤ x.toInt8.toInt32.toInt ∧ x.toInt8.toInt32.toInt < 128 := by
  rw [Int8.toInt_toInt32]
  have h1 := Int8.le_toInt x.toInt8
  have h2 := Int8.toInt_lt x.toInt8
  omega
theorem fb_short_rng (x : Int32) : -32768 ≤ x.toInt16.toInt32.toInt ∧ x.toInt16.toInt32.toInt < 32768 := by
  rw [Int16.toInt_toInt32]
  have h1 := Int16.le_toInt x.toInt16
  have h2 := Int16.toInt_lt x.toInt16
  omega
theorem fb_byte_twice (x : Int32) : x.toInt8.toInt32.toInt8.toInt32 = x.toInt8.toInt32 := fb_byte (fb_byte_rng x).1 (fb_byte_rng x).2
theorem fb_short_twice (x : Int32) : x.toInt16.toInt32.toInt16.toInt32 = x.toInt16.toInt32 := fb_short (fb_short_rng x).1 (fb_short_rng x).2
theorem fb_char {n : Nat} (h : n < 65536) : (nI n).toUInt32.toUInt16.toUInt32.toInt32 = nI n := by
  apply Int32.toBitVec_inj.1
  apply BitVec.eq_of_toNat_eq
  have e1 : (nI n).toBitVec.toNat = n := by
    show (BitVec.ofNat 32 n).toNat = n
    rw [BitVec.toNat_ofNat, Nat.mod_eq_of_lt (by omega)]
  have e2 : ((nI n).toUInt32.toUInt16.toUInt32).toNat = n := by
    rw [UInt16.toNat_toUInt32, UInt32.toNat_toUInt16]
    show (nI n).toBitVec.toNat % 2 ^ 16 = n
    rw [e1, Nat.mod_eq_of_lt (by omega)]
  rw [e1]
  exact e2
end
section
/-! sets of faces as two longs -/
section Set
theorem mkN_cong {f g : Nat → Bool} : ∀ {n : Nat}, (∀ i, i < n → f i = g i) → mkN f n = mkN g n
  | 0, _ => rfl
  | n + 1, h => by
    unfold mkN
    rw [mkN_cong (fun i hi => h i (Nat.lt_succ_of_lt hi)), h n (Nat.lt_succ_self n)]
theorem mkN_and (f g : Nat → Bool) (n : Nat) : mkN f n &&& mkN g n = mkN (fun i => f i && g i) n :=
  Nat.eq_of_testBit_eq fun i => by
    rw [Nat.testBit_and, mkN_bit, mkN_bit, mkN_bit]
    cases decide (i < n) <;> cases f i <;> cases g i <;> rfl
theorem mkN_or (f g : Nat → Bool) (n : Nat) : mkN f n ||| mkN g n = mkN (fun i => f i || g i) n :=
  Nat.eq_of_testBit_eq fun i => by
    rw [Nat.testBit_or, mkN_bit, mkN_bit, mkN_bit]
    cases decide (i < n) <;> cases f i <;> cases g i <;> rfl
theorem mkN_xor (f g : Nat → Bool) (n : Nat) : mkN f n ^^^ mkN g n = mkN (fun i => f i ^^ g i) n :=
  Nat.eq_of_testBit_eq fun i => by
    rw [Nat.testBit_xor, mkN_bit, mkN_bit, mkN_bit]
    cases decide (i < n) <;> cases f i <;> cases g i <;> rfl
theorem mkN_pow {k n : Nat} (h : k < n) : mkN (fun i => i == k) n = 2 ^ k :=
  Nat.eq_of_testBit_eq fun i => by
    rw [mkN_bit, Nat.testBit_two_pow]
    by_cases hi : i = k
    · subst hi; simp [h]
    · have h1 : (i == k) = false := by simp [hi]
      rw [h1, Bool.and_false]
      simp; omega
theorem mkN_inj {f g : Nat → Bool} {n : Nat} (h : mkN f n = mkN g n) : ∀ i, i < n → f i = g i := fun i hi => by
  have h1 := congrArg (fun x => Nat.testBit x i) h
  simp only [mkN_bit, hi, decide_true, Bool.true_and] at h1
  exact h1
def enW (s : Nat → Bool) : Int64 := lN (mkN s 64)
abbrev sh64 (s : Nat → Bool) : Nat → Bool := fun i => s (i + 64)
/-- a set of faces as an object -/
abbrev fsS (s : Nat → Bool) : va_E := .inr (1, [.long (enW s), .long (enW (sh64 s))])
theorem enW_cong {f g : Nat → Bool} (h : ∀ i, i < 64 → f i = g i) : enW f = enW g := by unfold enW; rw [mkN_cong h]
theorem enW_and (f g : Nat → Bool) : enW f &&& enW g = enW (fun i => f i && g i) := by unfold enW; rw [fb_andL, mkN_and]
theorem enW_or (f g : Nat → Bool) : enW f ||| enW g = enW (fun i => f i || g i) := by unfold enW; rw [fb_orL, mkN_or]
theorem enW_xor (f g : Nat → Bool) : enW f ^^^ enW g = enW (fun i => f i ^^ g i) := by unfold enW; rw [fb_xorL, mkN_xor]
theorem enW_m1 : (-1 : Int64) = enW (fun _ => true) := by decide +kernel
theorem enW_not (f : Nat → Bool) : enW f ^^^ (-1) = enW (fun i => !f i) := by
  rw [enW_m1, enW_xor]
  exact enW_cong fun i _ => by cases f i <;> rfl
theorem sh_amt : ∀ f, f < 128 → ((nI f).toInt64 &&& 63) = ((nI (f % 64)).toInt64 &&& 63) := by decide +kernel
theorem sh_amtU : ∀ f, f < 128 → ((nI f).toInt64.toUInt64 &&& Int64.toUInt64 63) = ((nI (f % 64)).toInt64.toUInt64 &&& Int64.toUInt64 63) := by decide +kernel
theorem enW_bit {f : Nat} (hf : f < 128) : lN 1 <<< ((nI f).toInt64 &&& 63) = enW (fun i => i == f % 64) := by
  rw [sh_amt f hf, wb_shl 1 (Nat.mod_lt _ (by decide)), Nat.one_mul]
  unfold enW
  rw [mkN_pow (Nat.mod_lt _ (by decide))]
theorem enW_get (s : Nat → Bool) {f : Nat} (hf : f < 128) : lg_cmp (((enW s).toUInt64 >>> ((nI f).toInt64.toUInt64 &&& Int64.toUInt64 63)).toInt64 &&& lN 1) (lN 0) = 0 ↔ s (f % 64) = false := by
  have hm : f % 64 < 64 := Nat.mod_lt _ (by decide)
  rw [lg_cmp_eq, sh_amtU f hf]
  unfold enW
  rw [wb_shr (mkN_lt s 64) hm, fb_andL]
  have h1 : mkN s 64 / 2 ^ (f % 64) &&& 1 = (if s (f % 64) then 1 else 0) := by
    rw [Nat.and_one_is_mod]
    have h2 := mkN_bit s 64 (f % 64)
    rw [Nat.testBit_eq_decide_div_mod_eq, decide_eq_true hm, Bool.true_and] at h2
    cases hs : s (f % 64) with
    | true => rw [hs] at h2; exact of_decide_eq_true h2
    | false =>
      rw [hs] at h2
      have := of_decide_eq_false h2
      show _ = 0
      omega
  rw [h1]
  cases s (f % 64)
  · simp
  · simp only [if_true]
    constructor
    · intro h; exact absurd h (by decide +kernel)
    · intro h; cases h
end Set
end
section
/-! how many bits a number has: the JDK's two bitCounts -/
section Pop
/-- the bits of a face -/
def pc (f : Nat) : Nat := fb_ct (fun i => f.testBit i) 7
def ushI (x y : Int32) : Int32 := (x.toUInt32 >>> (y.toUInt32 &&& 31)).toInt32
def popI (x0 : Int32) : Int32 :=
  (fun x => (fun x => (fun x => (fun x => (fun x => x &&& nI 63) (x + ushI x (nI 16))) (x + ushI x (nI 8))) ((x + ushI x (nI 4)) &&& nI 252645135)) ((x &&& nI 858993459) + (ushI x (nI 2) &&& nI 858993459))) (x0 - (ushI x0 (nI 1) &&& nI 1431655765))
theorem popI_ok : ∀ f, f < 128 → popI (nI f) = nI (pc f) := by decide +kernel
theorem mkN_8 (s : Nat → Bool) : ∀ n, mkN s (8 + n) = mkN s 8 + 256 * mkN (fun i => s (8 + i)) n
  | 0 => by show mkN s 8 = mkN s 8 + 256 * 0; omega
  | n + 1 => by
    have ih := mkN_8 s n
    show mkN s (8 + n) + (bif s (8 + n) then 2 ^ (8 + n) else 0) = mkN s 8 + 256 * (mkN (fun i => s (8 + i)) n + (bif s (8 + n) then 2 ^ n else 0))
    rw [ih]
    cases s (8 + n)
    · show _ + 0 = _ + 256 * (_ + 0); omega
    · show _ + 2 ^ (8 + n) = _ + 256 * (_ + 2 ^ n)
      rw [Nat.pow_add]; omega
theorem and_256 (x y p q : Nat) (hx : x < 256) (hp : p < 256) : (x + 256 * y) &&& (p + 256 * q) = (x &&& p) + 256 * (y &&& q) := by
  have h8 : (256 : Nat) = 2 ^ 8 := rfl
  have ha : x &&& p < 2 ^ 8 := Nat.lt_of_le_of_lt Nat.and_le_left hx
  refine Nat.eq_of_testBit_eq fun i => ?_
  rw [h8, Nat.add_comm x, Nat.add_comm p, Nat.add_comm (x &&& p), Nat.testBit_and, Nat.testBit_two_pow_mul_add _ hx, Nat.testBit_two_pow_mul_add _ hp, Nat.testBit_two_pow_mul_add _ ha]
  by_cases hi : i < 8
  · simp [hi, Nat.testBit_and]
  · simp [hi, Nat.testBit_and]
def st (p q r n : Nat) : Nat :=
  (fun a => (fun b => (b + b / 16) &&& r) ((a &&& q) + (a / 4 &&& q))) (n - (n / 2 &&& p))
theorem by_1 : ∀ x, x < 256 → ∀ b, b < 2 → (x / 2 + 128 * b) &&& 0x55 = x / 2 &&& 0x55 := by decide +kernel
theorem by_2 : ∀ x, x < 256 → ∀ b, b < 4 → (x / 4 + 64 * b) &&& 0x33 = x / 4 &&& 0x33 := by decide +kernel
theorem by_3 : ∀ x, x < 256 → st 0x55 0x33 15 x = fb_ct (fun i => x.testBit i) 8 := by decide +kernel
theorem st_step (x m p q r : Nat) (hx : x < 256) (hq : q % 16 ≤ 3) : st (0x55 + 256 * p) (0x33 + 256 * q) (15 + 256 * r) (x + 256 * m) = st 0x55 0x33 15 x + 256 * st p q r m := by
  obtain ⟨am, ham⟩ : ∃ z, z = m - (m / 2 &&& p) := ⟨_, rfl⟩
  obtain ⟨ax, hax⟩ : ∃ z, z = x - (x / 2 &&& 0x55) := ⟨_, rfl⟩
  have h1 : (x + 256 * m) - ((x + 256 * m) / 2 &&& (0x55 + 256 * p)) = ax + 256 * am := by
    have e : (x + 256 * m) / 2 = (x / 2 + 128 * (m % 2)) + 256 * (m / 2) := by omega
    rw [e, and_256 _ _ _ _ (by omega) (by decide), by_1 x hx _ (Nat.mod_lt _ (by decide))]
    have l1 : x / 2 &&& 0x55 ≤ x / 2 := Nat.and_le_left
    have l2 : m / 2 &&& p ≤ m / 2 := Nat.and_le_left
    omega
  have hax8 : ax < 256 := by omega
  obtain ⟨bm, hbm⟩ : ∃ z, z = (am &&& q) + (am / 4 &&& q) := ⟨_, rfl⟩
  obtain ⟨bx, hbx⟩ : ∃ z, z = (ax &&& 0x33) + (ax / 4 &&& 0x33) := ⟨_, rfl⟩
  have h2 : ((ax + 256 * am) &&& (0x33 + 256 * q)) + ((ax + 256 * am) / 4 &&& (0x33 + 256 * q)) = bx + 256 * bm := by
    have e : (ax + 256 * am) / 4 = (ax / 4 + 64 * (am % 4)) + 256 * (am / 4) := by omega
    rw [e, and_256 _ _ _ _ hax8 (by decide), and_256 _ _ _ _ (by omega) (by decide), by_2 ax hax8 _ (Nat.mod_lt _ (by decide))]
    omega
  have hb1 : ∀ z, (z &&& q) % 16 ≤ 3 := fun z => by
    have e : (z &&& q) % 16 = (z % 16) &&& (q % 16) := by
      refine Nat.eq_of_testBit_eq fun i => ?_
      have h16 : (16 : Nat) = 2 ^ 4 := rfl
      rw [h16, Nat.testBit_mod_two_pow, Nat.testBit_and, Nat.testBit_and, Nat.testBit_mod_two_pow, Nat.testBit_mod_two_pow]
      cases decide (i < 4) <;> simp
    rw [e]
    exact Nat.le_trans Nat.and_le_right hq
  have hbm16 : bm % 16 ≤ 6 := by have a1 := hb1 am; have a2 := hb1 (am / 4); omega
  have hbxl : bx ≤ 102 := by
    have a1 : ax &&& 0x33 ≤ 0x33 := Nat.and_le_right
    have a2 : ax / 4 &&& 0x33 ≤ 0x33 := Nat.and_le_right
    omega
  show (fun a => (fun b => (b + b / 16) &&& (15 + 256 * r)) ((a &&& (0x33 + 256 * q)) + (a / 4 &&& (0x33 + 256 * q)))) ((x + 256 * m) - ((x + 256 * m) / 2 &&& (0x55 + 256 * p))) = (fun a => (fun b => (b + b / 16) &&& 15) ((a &&& 0x33) + (a / 4 &&& 0x33))) (x - (x / 2 &&& 0x55)) + 256 * (fun a => (fun b => (b + b / 16) &&& r) ((a &&& q) + (a / 4 &&& q))) (m - (m / 2 &&& p))
  rw [h1, ← ham, ← hax]
  show (fun b => (b + b / 16) &&& (15 + 256 * r)) (((ax + 256 * am) &&& (0x33 + 256 * q)) + ((ax + 256 * am) / 4 &&& (0x33 + 256 * q))) = (fun b => (b + b / 16) &&& 15) ((ax &&& 0x33) + (ax / 4 &&& 0x33)) + 256 * (fun b => (b + b / 16) &&& r) ((am &&& q) + (am / 4 &&& q))
  rw [h2, ← hbm, ← hbx]
  show (bx + 256 * bm + (bx + 256 * bm) / 16) &&& (15 + 256 * r) = ((bx + bx / 16) &&& 15) + 256 * ((bm + bm / 16) &&& r)
  have e : bx + 256 * bm + (bx + 256 * bm) / 16 = (bx + bx / 16 + 16 * (bm % 16)) + 256 * (bm + bm / 16) := by omega
  rw [e, and_256 _ _ _ _ (by omega) (by decide)]
  have e15 : ∀ z : Nat, z &&& 15 = z % 16 := fun z => Nat.and_two_pow_sub_one_eq_mod z 4
  rw [e15, e15]
  omega
def mk9 (m : Nat) : Nat → Nat
  | 0 => 0
  | j + 1 => m + 256 * mk9 m j
def dig : Nat → (Nat → Bool) → Nat
  | 0, _ => 0
  | j + 1, s => fb_ct s 8 + 256 * dig j (fun i => s (8 + i))
theorem mk9_16 : ∀ j, mk9 0x33 j % 16 ≤ 3
  | 0 => by decide
  | j + 1 => by show (0x33 + 256 * mk9 0x33 j) % 16 ≤ 3; omega
theorem st_dig : ∀ (j : Nat) (s : Nat → Bool), st (mk9 0x55 j) (mk9 0x33 j) (mk9 15 j) (mkN s (8 * j)) = dig j s
  | 0, s => by show st 0 0 0 0 = 0; decide
  | j + 1, s => by
    have e : 8 * (j + 1) = 8 + 8 * j := by omega
    rw [e, mkN_8]
    show st (0x55 + 256 * mk9 0x55 j) (0x33 + 256 * mk9 0x33 j) (15 + 256 * mk9 15 j) _ = fb_ct s 8 + 256 * dig j (fun i => s (8 + i))
    rw [st_step _ _ _ _ _ (mkN_lt s 8) (mk9_16 j), by_3 _ (mkN_lt s 8), st_dig j]
    congr 1
    refine fb_ct_cong fun k hk => ?_
    rw [mkN_bit, decide_eq_true hk, Bool.true_and]
def popN (n : Nat) : Nat :=
  (fun c => (fun d => (fun e => (e + e / 4294967296) &&& 127) (d + d / 65536)) (c + c / 256)) (st 6148914691236517205 3689348814741910323 1085102592571150095 n)
theorem dv9 (a b k : Nat) (h : a < k) : (a + k * b) / k = b := by
  rw [Nat.add_mul_div_left _ _ (by omega), Nat.div_eq_of_lt h, Nat.zero_add]
theorem pop_sum (p0 p1 p2 p3 p4 p5 p6 p7 : Nat) (b0 : p0 ≤ 8) (b1 : p1 ≤ 8) (b2 : p2 ≤ 8) (b3 : p3 ≤ 8) (b4 : p4 ≤ 8) (b5 : p5 ≤ 8) (b6 : p6 ≤ 8) (b7 : p7 ≤ 8) :
    (p0 + 256 * (p1 + 256 * (p2 + 256 * (p3 + 256 * (p4 + 256 * (p5 + 256 * (p6 + 256 * (p7 + 256 * 0))))))) + (p0 + 256 * (p1 + 256 * (p2 + 256 * (p3 + 256 * (p4 + 256 * (p5 + 256 * (p6 + 256 * (p7 + 256 * 0)))))))) / 256 + (p0 + 256 * (p1 + 256 * (p2 + 256 * (p3 + 256 * (p4 + 256 * (p5 + 256 * (p6 + 256 * (p7 + 256 * 0))))))) + (p0 + 256 * (p1 + 256 * (p2 + 256 * (p3 + 256 * (p4 + 256 * (p5 + 256 * (p6 + 256 * (p7 + 256 * 0)))))))) / 256) / 65536 +
      (p0 + 256 * (p1 + 256 * (p2 + 256 * (p3 + 256 * (p4 + 256 * (p5 + 256 * (p6 + 256 * (p7 + 256 * 0))))))) + (p0 + 256 * (p1 + 256 * (p2 + 256 * (p3 + 256 * (p4 + 256 * (p5 + 256 * (p6 + 256 * (p7 + 256 * 0)))))))) / 256 + (p0 + 256 * (p1 + 256 * (p2 + 256 * (p3 + 256 * (p4 + 256 * (p5 + 256 * (p6 + 256 * (p7 + 256 * 0))))))) + (p0 + 256 * (p1 + 256 * (p2 + 256 * (p3 + 256 * (p4 + 256 * (p5 + 256 * (p6 + 256 * (p7 + 256 * 0)))))))) / 256) / 65536) / 4294967296) % 128 =
    p0 + (p1 + (p2 + (p3 + (p4 + (p5 + (p6 + p7)))))) := by
  obtain ⟨q6, hq6⟩ : ∃ z, z = p6 + 256 * (p7 + 256 * 0) := ⟨_, rfl⟩
  rw [← hq6]
  obtain ⟨q5, hq5⟩ : ∃ z, z = p5 + 256 * q6 := ⟨_, rfl⟩
  rw [← hq5]
  obtain ⟨q4, hq4⟩ : ∃ z, z = p4 + 256 * q5 := ⟨_, rfl⟩
  rw [← hq4]
  obtain ⟨q3, hq3⟩ : ∃ z, z = p3 + 256 * q4 := ⟨_, rfl⟩
  rw [← hq3]
  obtain ⟨q2, hq2⟩ : ∃ z, z = p2 + 256 * q3 := ⟨_, rfl⟩
  rw [← hq2]
  obtain ⟨q1, hq1⟩ : ∃ z, z = p1 + 256 * q2 := ⟨_, rfl⟩
  rw [← hq1]
  rw [dv9 p0 q1 256 (by omega)]
  have e2 : p0 + 256 * q1 + q1 = (p0 + p1 + 256 * (p1 + p2)) + 65536 * (q2 + q3) := by
    rw [hq1, hq2]; omega
  rw [e2, dv9 _ (q2 + q3) 65536 (by omega)]
  have e3 : p0 + p1 + 256 * (p1 + p2) + 65536 * (q2 + q3) + (q2 + q3) = ((p0 + p1 + p2 + p3) + 256 * (p1 + p2 + p3 + p4) + 65536 * (p2 + p3 + p4 + p5) + 16777216 * (p3 + p4 + p5 + p6)) + 4294967296 * (q4 + q5 + q6 + p7) := by
    rw [hq2, hq3, hq4, hq5, hq6]; omega
  rw [e3, dv9 _ (q4 + q5 + q6 + p7) 4294967296 (by omega)]
  have e4 : q4 + q5 + q6 + p7 = (p4 + p5 + p6 + p7) + 128 * (2 * (q5 + q6 + p7)) := by
    rw [hq4, hq5, hq6]; omega
  have e5 : ((p0 + p1 + p2 + p3) + 256 * (p1 + p2 + p3 + p4) + 65536 * (p2 + p3 + p4 + p5) + 16777216 * (p3 + p4 + p5 + p6)) + 4294967296 * (q4 + q5 + q6 + p7) + (q4 + q5 + q6 + p7) = (p0 + p1 + p2 + p3 + (p4 + p5 + p6 + p7)) + 128 * (2 * (p1 + p2 + p3 + p4) + 512 * (p2 + p3 + p4 + p5) + 131072 * (p3 + p4 + p5 + p6) + 33554432 * (q4 + q5 + q6 + p7) + 2 * (q5 + q6 + p7)) := by omega
  rw [e5, Nat.add_mul_mod_self_left, Nat.mod_eq_of_lt (by omega)]
  omega
theorem popN_ok (s : Nat → Bool) : popN (mkN s 64) = fb_ct s 64 := by
  have h := st_dig 8 s
  have e1 : mk9 0x55 8 = 6148914691236517205 := by decide
  have e2 : mk9 0x33 8 = 3689348814741910323 := by decide
  have e3 : mk9 15 8 = 1085102592571150095 := by decide
  rw [e1, e2, e3] at h
  unfold popN
  rw [h]
  have e127 : ∀ z : Nat, z &&& 127 = z % 128 := fun z => Nat.and_two_pow_sub_one_eq_mod z 7
  have hs : fb_ct s 64 = fb_ct s 8 + (fb_ct (fun i => s (8 + i)) 8 + (fb_ct (fun i => s (8 + (8 + i))) 8 + (fb_ct (fun i => s (8 + (8 + (8 + i)))) 8 + (fb_ct (fun i => s (8 + (8 + (8 + (8 + i))))) 8 + (fb_ct (fun i => s (8 + (8 + (8 + (8 + (8 + i)))))) 8 + (fb_ct (fun i => s (8 + (8 + (8 + (8 + (8 + (8 + i))))))) 8 + fb_ct (fun i => s (8 + (8 + (8 + (8 + (8 + (8 + (8 + i)))))))) 8)))))) := by
    rw [show (64 : Nat) = 8 + 56 from rfl, fb_ct_split, show (56 : Nat) = 8 + 48 from rfl, fb_ct_split, show (48 : Nat) = 8 + 40 from rfl, fb_ct_split, show (40 : Nat) = 8 + 32 from rfl, fb_ct_split, show (32 : Nat) = 8 + 24 from rfl, fb_ct_split, show (24 : Nat) = 8 + 16 from rfl, fb_ct_split, show (16 : Nat) = 8 + 8 from rfl, fb_ct_split]
  rw [hs]
  simp only [dig]
  have b0 := fb_ct_le s 8
  have b1 := fb_ct_le (fun i => s (8 + i)) 8
  have b2 := fb_ct_le (fun i => s (8 + (8 + i))) 8
  have b3 := fb_ct_le (fun i => s (8 + (8 + (8 + i)))) 8
  have b4 := fb_ct_le (fun i => s (8 + (8 + (8 + (8 + i))))) 8
  have b5 := fb_ct_le (fun i => s (8 + (8 + (8 + (8 + (8 + i)))))) 8
  have b6 := fb_ct_le (fun i => s (8 + (8 + (8 + (8 + (8 + (8 + i))))))) 8
  have b7 := fb_ct_le (fun i => s (8 + (8 + (8 + (8 + (8 + (8 + (8 + i)))))))) 8
  generalize fb_ct s 8 = p0 at b0 ⊢
  generalize fb_ct (fun i => s (8 + i)) 8 = p1 at b1 ⊢
  generalize fb_ct (fun i => s (8 + (8 + i))) 8 = p2 at b2 ⊢
  generalize fb_ct (fun i => s (8 + (8 + (8 + i)))) 8 = p3 at b3 ⊢
  generalize fb_ct (fun i => s (8 + (8 + (8 + (8 + i))))) 8 = p4 at b4 ⊢
  generalize fb_ct (fun i => s (8 + (8 + (8 + (8 + (8 + i)))))) 8 = p5 at b5 ⊢
  generalize fb_ct (fun i => s (8 + (8 + (8 + (8 + (8 + (8 + i))))))) 8 = p6 at b6 ⊢
  generalize fb_ct (fun i => s (8 + (8 + (8 + (8 + (8 + (8 + (8 + i)))))))) 8 = p7 at b7 ⊢
  rw [e127]
  exact pop_sum p0 p1 p2 p3 p4 p5 p6 p7 b0 b1 b2 b3 b4 b5 b6 b7
def ushL (x : Int64) (y : Int32) : Int64 := (x.toUInt64 >>> (y.toInt64.toUInt64 &&& Int64.toUInt64 63)).toInt64
def popL (x0 : Int64) : Int32 :=
  (fun x => (fun x => (fun x => (fun x => (fun x => (fun x => x.toInt32 &&& nI 127) (x + ushL x (nI 32))) (x + ushL x (nI 16))) (x + ushL x (nI 8))) ((x + ushL x (nI 4)) &&& lN 1085102592571150095)) ((x &&& lN 3689348814741910323) + (ushL x (nI 2) &&& lN 3689348814741910323))) (x0 - (ushL x0 (nI 1) &&& lN 6148914691236517205))
theorem ushL_N {n : Nat} (k : Nat) (hn : n < 2 ^ 64) (hk : k < 64) : ushL (lN n) (nI k) = lN (n / 2 ^ k) := wb_shr hn hk
theorem popL_ok (s : Nat → Bool) : popL (enW s) = nI (fb_ct s 64) := by
  have h64 := mkN_lt s 64
  rw [← popN_ok]
  unfold popL enW
  generalize mkN s 64 = n at h64 ⊢
  have l1 : n / 2 ^ 1 &&& 6148914691236517205 ≤ n := Nat.le_trans Nat.and_le_left (Nat.div_le_self _ _)
  rw [ushL_N 1 h64 (by decide), fb_andL, lN_sub l1]
  have ha : n - (n / 2 ^ 1 &&& 6148914691236517205) < 2 ^ 64 := Nat.lt_of_le_of_lt (Nat.sub_le _ _) h64
  unfold popN st
  show (fun x => (fun x => (fun x => (fun x => (fun x => (fun x => x.toInt32 &&& nI 127) (x + ushL x (nI 32))) (x + ushL x (nI 16))) (x + ushL x (nI 8))) ((x + ushL x (nI 4)) &&& lN 1085102592571150095)) ((x &&& lN 3689348814741910323) + (ushL x (nI 2) &&& lN 3689348814741910323))) (lN (n - (n / 2 &&& 6148914691236517205))) = _
  have ha : n - (n / 2 &&& 6148914691236517205) < 2 ^ 64 := ha
  generalize n - (n / 2 &&& 6148914691236517205) = a at ha ⊢
  show (fun x => (fun x => (fun x => (fun x => (fun x => x.toInt32 &&& nI 127) (x + ushL x (nI 32))) (x + ushL x (nI 16))) (x + ushL x (nI 8))) ((x + ushL x (nI 4)) &&& lN 1085102592571150095)) ((lN a &&& lN 3689348814741910323) + (ushL (lN a) (nI 2) &&& lN 3689348814741910323)) = nI ((fun c => (fun d => (fun e => (e + e / 4294967296) &&& 127) (d + d / 65536)) (c + c / 256)) ((fun b => (b + b / 16) &&& 1085102592571150095) ((a &&& 3689348814741910323) + (a / 4 &&& 3689348814741910323))))
  rw [ushL_N 2 ha (by decide), fb_andL, fb_andL, lN_add]
  have hb : (a &&& 3689348814741910323) + (a / 4 &&& 3689348814741910323) < 2 ^ 64 := by
    have b1 : a &&& 3689348814741910323 ≤ 3689348814741910323 := Nat.and_le_right
    have b2 : a / 4 &&& 3689348814741910323 ≤ 3689348814741910323 := Nat.and_le_right
    omega
  show (fun x => (fun x => (fun x => (fun x => (fun x => x.toInt32 &&& nI 127) (x + ushL x (nI 32))) (x + ushL x (nI 16))) (x + ushL x (nI 8))) ((x + ushL x (nI 4)) &&& lN 1085102592571150095)) (lN ((a &&& 3689348814741910323) + (a / 4 &&& 3689348814741910323))) = _
  generalize (a &&& 3689348814741910323) + (a / 4 &&& 3689348814741910323) = b at hb ⊢
  show (fun x => (fun x => (fun x => (fun x => x.toInt32 &&& nI 127) (x + ushL x (nI 32))) (x + ushL x (nI 16))) (x + ushL x (nI 8))) ((lN b + ushL (lN b) (nI 4)) &&& lN 1085102592571150095) = nI ((fun c => (fun d => (fun e => (e + e / 4294967296) &&& 127) (d + d / 65536)) (c + c / 256)) ((b + b / 16) &&& 1085102592571150095))
  rw [ushL_N 4 hb (by decide), lN_add, fb_andL]
  have hc : (b + b / 16) &&& 1085102592571150095 ≤ 1085102592571150095 := Nat.and_le_right
  show (fun x => (fun x => (fun x => (fun x => x.toInt32 &&& nI 127) (x + ushL x (nI 32))) (x + ushL x (nI 16))) (x + ushL x (nI 8))) (lN ((b + b / 16) &&& 1085102592571150095)) = _
  generalize (b + b / 16) &&& 1085102592571150095 = c at hc ⊢
  show (fun x => (fun x => (fun x => x.toInt32 &&& nI 127) (x + ushL x (nI 32))) (x + ushL x (nI 16))) (lN c + ushL (lN c) (nI 8)) = nI ((fun d => (fun e => (e + e / 4294967296) &&& 127) (d + d / 65536)) (c + c / 256))
  rw [ushL_N 8 (by omega) (by decide), lN_add]
  have hd : c + c / 256 < 2 ^ 62 := by omega
  show (fun x => (fun x => (fun x => x.toInt32 &&& nI 127) (x + ushL x (nI 32))) (x + ushL x (nI 16))) (lN (c + c / 256)) = _
  generalize c + c / 256 = d at hd ⊢
  show (fun x => (fun x => x.toInt32 &&& nI 127) (x + ushL x (nI 32))) (lN d + ushL (lN d) (nI 16)) = nI ((fun e => (e + e / 4294967296) &&& 127) (d + d / 65536))
  rw [ushL_N 16 (by omega) (by decide), lN_add]
  have he : d + d / 65536 < 2 ^ 63 := by omega
  show (fun x => (fun x => x.toInt32 &&& nI 127) (x + ushL x (nI 32))) (lN (d + d / 65536)) = _
  generalize d + d / 65536 = e at he ⊢
  show (lN e + ushL (lN e) (nI 32)).toInt32 &&& nI 127 = nI ((e + e / 4294967296) &&& 127)
  rw [ushL_N 32 (by omega) (by decide), lN_add, lN_i, nx_and]
end Pop
end
section
/-! THE ENGINE, its words: a small machine over numbered objects. '.ref 0' is the script, '.ref (k + 1)' the object k of the heap. A walk is 'for every K that is closed under one step, K at the entry'. -/
/-- the flag: nothing but objects of the list was made so far; the objects -/
abbrev eH : Type := Bool × List va_E
/-- how a method ended: with a value, or by a throw of kind n -/
abbrev eO : Type := Option Value ⊕ Nat
abbrev eL : Type := List (Nat × Value)
/-- pc, instruction, next pc, three numbers of its own -/
abbrev eE : Type := Nat × Instr × Nat × Nat × Nat × Nat
/-- name, code, locals, return type, handlers, cells and slots, its number in vwCl, program -/
abbrev eM : Type := MethodName × ByteArray × Nat × Option FieldType × List (Nat × Nat × Nat × Nat) × (Nat × Nat) × Nat × List (List eE)
abbrev eK : Type := Nat → eL → List Value → eH → Nat → Nat → Prop
abbrev eQ : Type := eO → eH → Prop
abbrev eC : Type := Nat → List Value → eH → eQ → Prop
abbrev mNm (M : eM) : MethodName := M.1
abbrev mBy (M : eM) : ByteArray := M.2.1
abbrev mLo (M : eM) : Nat := M.2.2.1
abbrev mRt (M : eM) : Option FieldType := M.2.2.2.1
abbrev mHh (M : eM) : List (Nat × Nat × Nat × Nat) := M.2.2.2.2.1
abbrev mCo (M : eM) : Nat × Nat := M.2.2.2.2.2.1
abbrev mCi (M : eM) : Nat := M.2.2.2.2.2.2.1
abbrev mPr (M : eM) : List (List eE) := M.2.2.2.2.2.2.2
def eFind : List eE → Nat → Option (Instr × Nat × Nat × Nat × Nat)
  | [], _ => none
  | e :: r, pc => bif e.1 == pc then some e.2 else eFind r pc
def eAt (P : List (List eE)) (pc : Nat) : Option (Instr × Nat × Nat × Nat × Nat) := match P[pc / 16]? with
  | none => none
  | some c => eFind c pc
def lkp : eL → Nat → Option Value
  | [], _ => none
  | q :: r, i => bif q.1 == i then some q.2 else lkp r i
def eFil1 (i : Nat) : eL → (eL → Prop) → Prop
  | [], k => k []
  | q :: r, k => bif (!(q.1 == i) && !(q.1 + 1 == i && q.2.category == 2)) then eFil1 i r (fun r' => k (q :: r')) else eFil1 i r k
def eFil2 (i : Nat) : eL → (eL → Prop) → Prop
  | [], k => k []
  | q :: r, k => bif (!(q.1 == i) && (!(q.1 == i + 1) && !(q.1 + 1 == i && q.2.category == 2))) then eFil2 i r (fun r' => k (q :: r')) else eFil2 i r k
def eCat : List Value → Nat
  | [] => 0
  | v :: r => v.category + eCat r
def eIsA (t : Nat) (v : Value) : Bool := match v with
  | .ref _ => t == 0
  | .int _ => t == 1
  | .long _ => t == 2
  | .float _ => t == 3
  | .double _ => t == 4
  | _ => false
def pLd (t : Nat) (ls : eL) (i : Nat) (k : Value → Prop) : Prop := match lkp ls i with
  | some v => bif eIsA t v then k v else False
  | none => False
def pSt1 (t : Nat) (st : List Value) (i : Nat) (ls : eL) (k : eL → List Value → Prop) : Prop := match st with
  | v :: r => bif eIsA t v then eFil1 i ls (fun l' => k ((i, v) :: l') r) else False
  | _ => False
def pSt2 (t : Nat) (st : List Value) (i : Nat) (ls : eL) (k : eL → List Value → Prop) : Prop := match st with
  | v :: r => bif eIsA t v then eFil2 i ls (fun l' => k ((i, v) :: l') r) else False
  | _ => False
def pII (f : Int32 → Int32 → Int32) (st : List Value) (k : List Value → Prop) : Prop := match st with
  | .int y :: .int x :: r => k (.int (f x y) :: r)
  | _ => False
def pLL (f : Int64 → Int64 → Value) (st : List Value) (k : List Value → Prop) : Prop := match st with
  | .long y :: .long x :: r => k (f x y :: r)
  | _ => False
def pLI (f : Int64 → Int32 → Int64) (st : List Value) (k : List Value → Prop) : Prop := match st with
  | .int y :: .long x :: r => k (.long (f x y) :: r)
  | _ => False
def pI (f : Int32 → Value) (st : List Value) (k : List Value → Prop) : Prop := match st with
  | .int x :: r => k (f x :: r)
  | _ => False
def pL (f : Int64 → Value) (st : List Value) (k : List Value → Prop) : Prop := match st with
  | .long x :: r => k (f x :: r)
  | _ => False
def bI (P : Int32 → Prop) (st : List Value) (kt kf : List Value → Prop) : Prop := match st with
  | .int x :: r => (P x → kt r) ∧ (¬ P x → kf r)
  | _ => False
def bII (P : Int32 → Int32 → Prop) (st : List Value) (kt kf : List Value → Prop) : Prop := match st with
  | .int y :: .int x :: r => (P x y → kt r) ∧ (¬ P x y → kf r)
  | _ => False
def mR (st : List Value) (k : Nat → List Value → Prop) : Prop := match st with
  | .ref q :: r => k q r
  | _ => False
def mI (st : List Value) (k : Int32 → List Value → Prop) : Prop := match st with
  | .int x :: r => k x r
  | _ => False
def mJ (st : List Value) (k : Int64 → List Value → Prop) : Prop := match st with
  | .long x :: r => k x r
  | _ => False
def mF (st : List Value) (k : UInt32 → List Value → Prop) : Prop := match st with
  | .float x :: r => k x r
  | _ => False
def mD (st : List Value) (k : UInt64 → List Value → Prop) : Prop := match st with
  | .double x :: r => k x r
  | _ => False
def mV (st : List Value) (k : Value → List Value → Prop) : Prop := match st with
  | v :: r => k v r
  | _ => False
/-- an object's number out of what a reference holds -/
def mO (q : Nat) (k : Nat → Prop) : Prop := match q with
  | 0 => False
  | q + 1 => k q
def mN (st : List Value) (k : Prop) : Prop := match st with
  | [] => k
  | _ => False
/-- what the field j of the kind ci takes -/
def eFty (ci j : Nat) : FieldType := match ci with
  | 0 => tyX0 j
  | 1 => tyX1 j
  | 2 => tyX2 j
  | 3 => tyX4 j
  | 4 => tyX6 j
  | _ => tyX7 j
def eTy (ty : FieldType) (v : Value) : Bool := match ty, v with
  | .int, .int _ => true
  | .long, .long _ => true
  | .object _, .ref _ => true
  | .array _, .ref _ => true
  | _, _ => false
/-- a new object of the kind ci -/
def eNew (ci : Nat) : List Value := match ci with
  | 0 => [.null, .null, .null]
  | 1 => [.long 0, .long 0]
  | 2 => [.null]
  | 3 => [.null, .null, .null, .null, .null, .null]
  | 4 => [.null, .null, .null, .null, .null]
  | _ => [.null, .null, .null, .null, .null, .null, .int 0, .int 0]
/-- rows of one kind: 0 int, 1 boolean, 2 long, 3 double, 4 of FaceSets -/
def eArr (t n : Nat) : va_E := match t with
  | 0 => .inl (0, n, .inl (fun _ => 0))
  | 1 => .inl (1, n, .inl (fun _ => 0))
  | 2 => .inl (2, n, .inr (.inl (fun _ => 0)))
  | 3 => .inl (3, n, .inr (.inr (.inr (.inl (fun _ => 0)))))
  | _ => .inl (4, n, .inr (.inr (.inr (.inr (fun _ => none)))))
/-- kinds of throws: 0 index, 1 argument, 2 state, 3 no such element -/
def exN (n : Nat) : String := match n with
  | 0 => "java/lang/IndexOutOfBoundsException"
  | 1 => "java/lang/IllegalArgumentException"
  | 2 => "java/lang/IllegalStateException"
  | _ => "java/util/NoSuchElementException"
/-- the law's catch rows: what the pool's number names -/
def eHc (ct : Nat) : Nat := match ct with
  | 13 => 0
  | 15 => 1
  | 20 => 3
  | 50 => 2
  | _ => 9
def eHnd (hh : List (Nat × Nat × Nat × Nat)) (pc E : Nat) : Option Nat := match hh with
  | [] => none
  | q :: r => bif Nat.ble q.1 pc && Nat.blt pc q.2.1 && eHc q.2.2.2 == E then some q.2.2.1 else eHnd r pc E
def eArg : Nat → List Value → List Value → (List Value → List Value → Prop) → Prop
  | 0, st, acc, k => k acc st
  | n + 1, st, acc, k => match st with
    | v :: r => eArg n r (v :: acc) k
    | [] => False
def eCall (T : Nat → eM) (C : eC) (M : eM) (a : Nat) (as r : List Value) (h : eH) (kc ks : Nat) (kr : Option Value → eH → Nat → Nat → Prop) (kt : Nat → eH → Nat → Nat → Prop) : Prop :=
  (Nat.ble (eCat r) 8 = true ∧ kc + (mCo (T a)).1 ≤ (mCo M).1 ∧ ks + (mCo (T a)).2 ≤ (mCo M).2) ∧
    C a as h (fun o h' => match o with
      | .inl v => kr v h' (kc + (mCo (T a)).1) (ks + (mCo (T a)).2)
      | .inr E => kt E h' (kc + (mCo (T a)).1) (ks + (mCo (T a)).2))
def eRetK (n : Nat) (ls : eL) (r : List Value) (K : eK) : Option Value → eH → Nat → Nat → Prop := fun v h kc ks => match v with
  | some w => K n ls (w :: r) h kc ks
  | none => K n ls r h kc ks
def eThrK (M : eM) (Q : eQ) (pc : Nat) (ls : eL) (K : eK) : Nat → eH → Nat → Nat → Prop := fun E h kc ks => match eHnd (mHh M) pc E with
  | some hp => (match eAt (mPr M) hp with
    | some (.astore_n _, n, a, _, _) => eFil1 a ls (fun l' => K n l' [] h kc ks)
    | some (.astore _, n, a, _, _) => eFil1 a ls (fun l' => K n l' [] h kc ks)
    | _ => False)
  | none => mHh M = [] ∧ Q (.inr E) h
def eNar (rt : Option FieldType) (x : Int32) : Prop := match rt with
  | some ty => narrow ty (.int x) = .int x
  | none => False
def eEnd (M : eM) (Q : eQ) (v : Option Value) (h : eH) (kc ks : Nat) : Prop := (kc ≤ (mCo M).1 ∧ ks ≤ (mCo M).2) ∧ Q (.inl v) h
/-- one instruction -/
def okI (S : Nat × (Nat → Int32)) (T : Nat → eM) (C : eC) (M : eM) (d : Nat) (Q : eQ) (i : Instr) (n a b c : Nat) (pc : Nat) (ls : eL) (st : List Value) (h : eH) (kc ks : Nat) (K : eK) : Prop :=
  match i with
  | .aload_n _ => pLd 0 ls a (fun v => K n ls (v :: st) h kc ks)
  | .aload _ => pLd 0 ls a (fun v => K n ls (v :: st) h kc ks)
  | .iload_n _ => pLd 1 ls a (fun v => K n ls (v :: st) h kc ks)
  | .iload _ => pLd 1 ls a (fun v => K n ls (v :: st) h kc ks)
  | .lload_n _ => pLd 2 ls a (fun v => K n ls (v :: st) h kc ks)
  | .lload _ => pLd 2 ls a (fun v => K n ls (v :: st) h kc ks)
  | .fload _ => pLd 3 ls a (fun v => K n ls (v :: st) h kc ks)
  | .dload _ => pLd 4 ls a (fun v => K n ls (v :: st) h kc ks)
  | .astore_n _ => pSt1 0 st a ls (fun l' r => K n l' r h kc ks)
  | .astore _ => pSt1 0 st a ls (fun l' r => K n l' r h kc ks)
  | .istore_n _ => pSt1 1 st a ls (fun l' r => K n l' r h kc ks)
  | .istore _ => pSt1 1 st a ls (fun l' r => K n l' r h kc ks)
  | .fstore _ => pSt1 3 st a ls (fun l' r => K n l' r h kc ks)
  | .lstore_n _ => pSt2 2 st a ls (fun l' r => K n l' r h kc ks)
  | .lstore _ => pSt2 2 st a ls (fun l' r => K n l' r h kc ks)
  | .dstore _ => pSt2 4 st a ls (fun l' r => K n l' r h kc ks)
  | .iinc _ _ => pLd 1 ls a (fun v => match v with
    | .int x => eFil1 a ls (fun l' => K n ((a, .int (bif c == 1 then x - nI b else x + nI b)) :: l') st h kc ks)
    | _ => False)
  | .iconst _ => bif b == 1 then K n ls (.int (-1) :: st) h kc ks else K n ls (.int (nI a) :: st) h kc ks
  | .bipush _ => K n ls (.int (nI a) :: st) h kc ks
  | .sipush _ => K n ls (.int (nI a) :: st) h kc ks
  | .ldc _ => K n ls (.int (nI a) :: st) h kc ks
  | .ldc_w _ => K n ls (.int (nI a) :: st) h kc ks
  | .lconst _ => K n ls (.long (lN a) :: st) h kc ks
  | .ldc2_w _ => bif b == 1 then K n ls (.long (-1) :: st) h kc ks else K n ls (.long (lN a) :: st) h kc ks
  | .fconst _ => bif a == 0 then K n ls (.float FP.fconst0 :: st) h kc ks else False
  | .dconst _ => bif a == 0 then K n ls (.double FP.dconst0 :: st) h kc ks else False
  | .iadd => mI st (fun y r => mI r (fun x r => K n ls (.int (x + y) :: r) h kc ks))
  | .isub => mI st (fun y r => mI r (fun x r => K n ls (.int (x - y) :: r) h kc ks))
  | .imul => mI st (fun y r => mI r (fun x r => K n ls (.int (x * y) :: r) h kc ks))
  | .iand => mI st (fun y r => mI r (fun x r => K n ls (.int (x &&& y) :: r) h kc ks))
  | .ior => mI st (fun y r => mI r (fun x r => K n ls (.int (x ||| y) :: r) h kc ks))
  | .ixor => mI st (fun y r => mI r (fun x r => K n ls (.int (x ^^^ y) :: r) h kc ks))
  | .ishl => mI st (fun y r => mI r (fun x r => K n ls (.int (x <<< (y &&& 31)) :: r) h kc ks))
  | .ishr => mI st (fun y r => mI r (fun x r => K n ls (.int (x >>> (y &&& 31)) :: r) h kc ks))
  | .iushr => mI st (fun y r => mI r (fun x r => K n ls (.int ((x.toUInt32 >>> (y.toUInt32 &&& 31)).toInt32) :: r) h kc ks))
  | .irem => mI st (fun y r => mI r (fun x r => ¬ y = 0 ∧ K n ls (.int (x - x / y * y) :: r) h kc ks))
  | .ineg => mI st (fun x r => K n ls (.int (-x) :: r) h kc ks)
  | .i2l => mI st (fun x r => K n ls (.long x.toInt64 :: r) h kc ks)
  | .i2f => mI st (fun x r => K n ls (.float (FP.i2f x) :: r) h kc ks)
  | .i2d => mI st (fun x r => K n ls (.double (FP.i2d x) :: r) h kc ks)
  | .l2i => mJ st (fun x r => K n ls (.int x.toInt32 :: r) h kc ks)
  | .ladd => mJ st (fun y r => mJ r (fun x r => K n ls (.long (x + y) :: r) h kc ks))
  | .lsub => mJ st (fun y r => mJ r (fun x r => K n ls (.long (x - y) :: r) h kc ks))
  | .lmul => mJ st (fun y r => mJ r (fun x r => K n ls (.long (x * y) :: r) h kc ks))
  | .land => mJ st (fun y r => mJ r (fun x r => K n ls (.long (x &&& y) :: r) h kc ks))
  | .lor => mJ st (fun y r => mJ r (fun x r => K n ls (.long (x ||| y) :: r) h kc ks))
  | .lxor => mJ st (fun y r => mJ r (fun x r => K n ls (.long (x ^^^ y) :: r) h kc ks))
  | .lcmp => mJ st (fun y r => mJ r (fun x r => K n ls (.int (lg_cmp x y) :: r) h kc ks))
  | .lshl => mI st (fun y r => mJ r (fun x r => K n ls (.long (x <<< (y.toInt64 &&& 63)) :: r) h kc ks))
  | .lushr => mI st (fun y r => mJ r (fun x r => K n ls (.long ((x.toUInt64 >>> (y.toInt64.toUInt64 &&& Int64.toUInt64 63)).toInt64) :: r) h kc ks))
  | .fdiv => mF st (fun y r => mF r (fun x r => vf_n32 (FP.fdiv x y) ∧ K n ls (.float (FP.fdiv x y) :: r) h kc ks))
  | .ddiv => mD st (fun y r => mD r (fun x r => vf_n64 (FP.ddiv x y) ∧ K n ls (.double (FP.ddiv x y) :: r) h kc ks))
  | .f2d => mF st (fun x r => vf_n64 (FP.f2d x) ∧ K n ls (.double (FP.f2d x) :: r) h kc ks)
  | .fcmp op => mF st (fun y r => mF r (fun x r => K n ls (.int (Op.cmpValue (FP.fcmp x y) op) :: r) h kc ks))
  | .dcmp op => mD st (fun y r => mD r (fun x r => K n ls (.int (Op.cmpValue (FP.dcmp x y) op) :: r) h kc ks))
  | .dup => mV st (fun v r => bif v.category == 1 then K n ls (v :: v :: r) h kc ks else False)
  | .pop => mV st (fun v r => bif v.category == 1 then K n ls r h kc ks else False)
  | .dup2 => mV st (fun v r => mV r (fun w r => bif v.category == 1 && w.category == 1 then K n ls (v :: w :: v :: w :: r) h kc ks else False))
  | .ifCond cd _ => (match cd with
    | .eq => mI st (fun x r => (x = 0 → K a ls r h kc ks) ∧ (¬ x = 0 → K n ls r h kc ks))
    | .ne => mI st (fun x r => (x = 0 → K n ls r h kc ks) ∧ (¬ x = 0 → K a ls r h kc ks))
    | .lt => mI st (fun x r => (x < 0 → K a ls r h kc ks) ∧ (¬ x < 0 → K n ls r h kc ks))
    | .ge => mI st (fun x r => (0 ≤ x → K a ls r h kc ks) ∧ (¬ 0 ≤ x → K n ls r h kc ks))
    | .gt => mI st (fun x r => (0 < x → K a ls r h kc ks) ∧ (¬ 0 < x → K n ls r h kc ks))
    | .le => mI st (fun x r => (x ≤ 0 → K a ls r h kc ks) ∧ (¬ x ≤ 0 → K n ls r h kc ks)))
  | .if_icmp cd _ => (match cd with
    | .eq => mI st (fun y r => mI r (fun x r => (x = y → K a ls r h kc ks) ∧ (¬ x = y → K n ls r h kc ks)))
    | .ne => mI st (fun y r => mI r (fun x r => (x = y → K n ls r h kc ks) ∧ (¬ x = y → K a ls r h kc ks)))
    | .lt => mI st (fun y r => mI r (fun x r => (x < y → K a ls r h kc ks) ∧ (¬ x < y → K n ls r h kc ks)))
    | .ge => mI st (fun y r => mI r (fun x r => (y ≤ x → K a ls r h kc ks) ∧ (¬ y ≤ x → K n ls r h kc ks)))
    | .gt => mI st (fun y r => mI r (fun x r => (y < x → K a ls r h kc ks) ∧ (¬ y < x → K n ls r h kc ks)))
    | .le => mI st (fun y r => mI r (fun x r => (x ≤ y → K a ls r h kc ks) ∧ (¬ x ≤ y → K n ls r h kc ks))))
  | .goto _ => K a ls st h kc ks
  | .tableswitch _ lo hi offs => mI st (fun x r => (x.toInt < lo ∨ hi < x.toInt → K a ls r h kc ks) ∧ (∀ (j : Nat) (off : Int) (t : Nat), ¬ x.toInt < lo → ¬ hi < x.toInt → (x.toInt - lo).toNat = j → offs[j]? = some off → (pc : Int) + off = (t : Int) → K t ls r h kc ks))
  | .getfield _ => mR st (fun q r => mO q (fun q => ∃ (fs : List Value) (v : Value), h.2[q]? = some (.inr (a, fs)) ∧ fs[b]? = some v ∧ K n ls (v :: r) h kc ks))
  | .putfield _ => mV st (fun v r => mR r (fun q r => mO q (fun q => bif eTy (eFty a b) v then ∃ (fs : List Value), h.2[q]? = some (.inr (a, fs)) ∧ Nat.blt b fs.length = true ∧ K n ls r (h.1, h.2.set q (.inr (a, fs.set b v))) kc ks else False)))
  | .arraylength => mR st (fun q r => match q with
      | 0 => K n ls (.int (Int32.ofNat S.1) :: r) h kc ks
      | q + 1 => ∃ (t : Nat) (x : vp_A), h.2[q]? = some (.inl (t, x)) ∧ t ≤ 4 ∧ K n ls (.int (Int32.ofNat x.1) :: r) h kc ks)
  | .iaload => mI st (fun j r => mR r (fun q r => match q with
      | 0 => vp_in j S.1 ∧ K n ls (.int (S.2 j.toNatClampNeg) :: r) h kc ks
      | q + 1 => ∃ (N : Nat) (f : Nat → Int32), h.2[q]? = some (.inl (0, N, .inl f)) ∧ vp_in j N ∧ K n ls (.int (f j.toNatClampNeg) :: r) h kc ks))
  | .baload => mI st (fun j r => mR r (fun q r => mO q (fun q => ∃ (N : Nat) (f : Nat → Int32), h.2[q]? = some (.inl (1, N, .inl f)) ∧ vp_in j N ∧ K n ls (.int (f j.toNatClampNeg) :: r) h kc ks)))
  | .laload => mI st (fun j r => mR r (fun q r => mO q (fun q => ∃ (N : Nat) (f : Nat → Int64), h.2[q]? = some (.inl (2, N, .inr (.inl f))) ∧ vp_in j N ∧ K n ls (.long (f j.toNatClampNeg) :: r) h kc ks)))
  | .daload => mI st (fun j r => mR r (fun q r => mO q (fun q => ∃ (N : Nat) (f : Nat → UInt64), h.2[q]? = some (.inl (3, N, .inr (.inr (.inr (.inl f))))) ∧ vp_in j N ∧ K n ls (.double (f j.toNatClampNeg) :: r) h kc ks)))
  | .aaload => mI st (fun j r => mR r (fun q r => mO q (fun q => ∃ (N : Nat) (f : Nat → Option Nat) (z : Nat), h.2[q]? = some (.inl (4, N, .inr (.inr (.inr (.inr f))))) ∧ vp_in j N ∧ f j.toNatClampNeg = some z ∧ K n ls (.ref z :: r) h kc ks)))
  | .iastore => mI st (fun x r => mI r (fun j r => mR r (fun q r => mO q (fun q => ∃ (N : Nat) (f : Nat → Int32), h.2[q]? = some (.inl (0, N, .inl f)) ∧ vp_in j N ∧ K n ls r (h.1, h.2.set q (.inl (0, N, .inl (upd f j.toNatClampNeg x)))) kc ks))))
  | .bastore => mI st (fun x r => mI r (fun j r => mR r (fun q r => mO q (fun q => ∃ (N : Nat) (f : Nat → Int32), h.2[q]? = some (.inl (1, N, .inl f)) ∧ vp_in j N ∧ K n ls r (h.1, h.2.set q (.inl (1, N, .inl (upd f j.toNatClampNeg (vp_nar .boolean x))))) kc ks))))
  | .lastore => mJ st (fun x r => mI r (fun j r => mR r (fun q r => mO q (fun q => ∃ (N : Nat) (f : Nat → Int64), h.2[q]? = some (.inl (2, N, .inr (.inl f))) ∧ vp_in j N ∧ K n ls r (h.1, h.2.set q (.inl (2, N, .inr (.inl (vp_updL f j.toNatClampNeg x))))) kc ks))))
  | .dastore => mD st (fun x r => mI r (fun j r => mR r (fun q r => mO q (fun q => ∃ (N : Nat) (f : Nat → UInt64), h.2[q]? = some (.inl (3, N, .inr (.inr (.inr (.inl f))))) ∧ vp_in j N ∧ K n ls r (h.1, h.2.set q (.inl (3, N, .inr (.inr (.inr (.inl (vf_upd f j.toNatClampNeg x))))))) kc ks))))
  | .aastore => mR st (fun z r => mO z (fun z => mI r (fun j r => mR r (fun q r => mO q (fun q => ∃ (N : Nat) (f : Nat → Option Nat) (fs : List Value), h.2[q]? = some (.inl (4, N, .inr (.inr (.inr (.inr f))))) ∧ vp_in j N ∧ h.2[z]? = some (.inr (1, fs)) ∧ K n ls r (h.1, h.2.set q (.inl (4, N, .inr (.inr (.inr (.inr (va_up f j.toNatClampNeg (some (z + 1))))))))) kc ks)))))
  | .newarray _ => mI st (fun j r => (h.1 = true ∧ ¬ j < 0 ∧ j.toNatClampNeg ≤ 1000 ∧ kc + 1 ≤ (mCo M).1 ∧ ks + j.toNatClampNeg ≤ (mCo M).2) ∧ K n ls (.ref (h.2.length + 1) :: r) (h.1, h.2 ++ [eArr a j.toNatClampNeg]) (kc + 1) (ks + j.toNatClampNeg))
  | .anewarray _ => mI st (fun j r => (h.1 = true ∧ ¬ j < 0 ∧ j.toNatClampNeg ≤ 1000 ∧ kc + 1 ≤ (mCo M).1 ∧ ks + j.toNatClampNeg ≤ (mCo M).2) ∧ K n ls (.ref (h.2.length + 1) :: r) (h.1, h.2 ++ [eArr 4 j.toNatClampNeg]) (kc + 1) (ks + j.toNatClampNeg))
  | .new _ => bif c == 1 then ((6 ≤ d ∧ Nat.ble (eCat st) 8 = true ∧ mHh M = []) ∧ (kc + 1 ≤ (mCo M).1 ∧ ks + 6 ≤ (mCo M).2) ∧ Q (.inr a) (false, h.2))
    else ((h.1 = true ∧ kc + 1 ≤ (mCo M).1 ∧ ks + (eNew a).length ≤ (mCo M).2) ∧ K n ls (.ref (h.2.length + 1) :: st) (h.1, h.2 ++ [.inr (a, eNew a)]) (kc + 1) (ks + (eNew a).length))
  | .invokevirtual _ => eArg b st [] (fun as r => mR as (fun q _ => mO q (fun q => ∃ fs : List Value, h.2[q]? = some (.inr (mCi (T a), fs)) ∧ eCall T C M a as r h kc ks (eRetK n ls r K) (eThrK M Q pc ls K))))
  | .invokestatic _ => eArg b st [] (fun as r => bif c == 0 then eCall T C M a as r h kc ks (eRetK n ls r K) (eThrK M Q pc ls K) else eCall T C M a as r h kc ks (eRetK n ls r K) (fun _ _ _ _ => False))
  | .invokespecial _ => bif c == 2 then mR st (fun _ r => Nat.ble (eCat r) 8 = true ∧ 1 ≤ d ∧ K n ls r h kc ks)
    else eArg b st [] (fun as r => mR as (fun _ _ => eCall T C M a as r h kc ks (eRetK n ls r K) (fun _ _ _ _ => False)))
  | .ireturn => mI st (fun x r => mN r (eNar (mRt M) x ∧ eEnd M Q (some (.int x)) h kc ks))
  | .lreturn => mJ st (fun x r => mN r (eEnd M Q (some (.long x)) h kc ks))
  | .freturn => mF st (fun x r => mN r (eEnd M Q (some (.float x)) h kc ks))
  | .dreturn => mD st (fun x r => mN r (eEnd M Q (some (.double x)) h kc ks))
  | .areturn => mR st (fun x r => mN r (eEnd M Q (some (.ref x)) h kc ks))
  | .return_ => mN st (eEnd M Q none h kc ks)
  | _ => False
end
section
/-! the methods, by program out of the printed texts -/
section Tab
noncomputable def MX0_init : eM := (yX0_init, cX0_init, 2, (Option.none : Option Jvm.ClassFile.FieldType), [], (3, 291), 0, [[(0, .aload_n 0, 1, 0, 0, 0), (1, .invokespecial 3, 4, 0, 0, 2), (4, .aload_n 0, 5, 0, 0, 0), (5, .sipush 128, 8, 128, 0, 0), (8, .newarray .int, 10, 0, 0, 0), (10, .putfield 9, 13, 0, 0, 0), (13, .aload_n 0, 14, 0, 0, 0), (14, .sipush 128, 17, 128, 0, 0)],
  [(17, .newarray .long, 19, 2, 0, 0), (19, .putfield 15, 22, 0, 1, 0), (22, .aload_n 0, 23, 0, 0, 0), (23, .bipush 35, 25, 35, 0, 0), (25, .newarray .long, 27, 2, 0, 0), (27, .putfield 19, 30, 0, 2, 0), (30, .aload_n 0, 31, 0, 0, 0), (31, .invokevirtual 22, 34, 1, 1, 0)],
  [(34, .iconst 1, 35, 1, 0, 0), (35, .istore_n 1, 36, 1, 0, 0), (36, .iload_n 1, 37, 1, 0, 0), (37, .bipush 127, 39, 127, 0, 0), (39, .if_icmp .gt 20, 42, 59, 0, 0), (42, .aload_n 0, 43, 0, 0, 0), (43, .getfield 15, 46, 0, 1, 0), (46, .iload_n 1, 47, 1, 0, 0), (47, .aload_n 0, 48, 0, 0, 0)],
  [(48, .iload_n 1, 49, 1, 0, 0), (49, .invokevirtual 25, 52, 2, 2, 0), (52, .lastore, 53, 0, 0, 0), (53, .iinc 1 1, 56, 1, 1, 0), (56, .goto (-20), 59, 36, 0, 0), (59, .return_, 60, 0, 0, 0)]])
noncomputable def MX0_numberSlots : eM := (yX0_numberSlots, cX0_numberSlots, 4, (Option.none : Option Jvm.ClassFile.FieldType), [], (0, 0), 0, [[(0, .iconst 0, 1, 0, 0, 0), (1, .istore_n 1, 2, 1, 0, 0), (2, .iload_n 1, 3, 1, 0, 0), (3, .bipush 7, 5, 7, 0, 0), (5, .if_icmp .ge 43, 8, 48, 0, 0), (8, .iconst 0, 9, 0, 0, 0), (9, .istore_n 2, 10, 2, 0, 0), (10, .iconst 1, 11, 1, 0, 0), (11, .istore_n 3, 12, 3, 0, 0), (12, .iload_n 3, 13, 3, 0, 0), (13, .bipush 127, 15, 127, 0, 0), (15, .if_icmp .gt 27, 18, 42, 0, 0)],
  [(18, .iload_n 3, 19, 3, 0, 0), (19, .invokestatic 29, 22, 124, 1, 1), (22, .iload_n 1, 23, 1, 0, 0), (23, .if_icmp .ne 13, 26, 36, 0, 0), (26, .aload_n 0, 27, 0, 0, 0), (27, .getfield 9, 30, 0, 0, 0), (30, .iload_n 3, 31, 3, 0, 0), (31, .iload_n 2, 32, 2, 0, 0)],
  [(32, .iastore, 33, 0, 0, 0), (33, .iinc 2 1, 36, 2, 1, 0), (36, .iinc 3 1, 39, 3, 1, 0), (39, .goto (-27), 42, 12, 0, 0), (42, .iinc 1 1, 45, 1, 1, 0), (45, .goto (-43), 48, 2, 0, 0)],
  [(48, .return_, 49, 0, 0, 0)]])
noncomputable def MX0_bitsOfBorder : eM := (yX0_bitsOfBorder, cX0_bitsOfBorder, 6, (Option.some Jvm.ClassFile.FieldType.long), [], (0, 0), 0, [[(0, .lconst 0, 1, 0, 0, 0), (1, .lstore_n 2, 2, 2, 0, 0), (2, .iconst 0, 3, 0, 0, 0), (3, .istore 4, 5, 4, 0, 0), (5, .iload 4, 7, 4, 0, 0), (7, .bipush 7, 9, 7, 0, 0), (9, .if_icmp .ge 50, 12, 59, 0, 0), (12, .iload_n 1, 13, 1, 0, 0), (13, .iconst 1, 14, 1, 0, 0), (14, .iload 4, 16, 4, 0, 0)],
  [(16, .ishl, 17, 0, 0, 0), (17, .iconst (-1), 18, 0, 1, 0), (18, .ixor, 19, 0, 0, 0), (19, .iand, 20, 0, 0, 0), (20, .istore 5, 22, 5, 0, 0), (22, .iload 5, 24, 5, 0, 0), (24, .iload_n 1, 25, 1, 0, 0), (25, .if_icmp .eq 28, 28, 53, 0, 0), (28, .iload 5, 30, 5, 0, 0), (30, .iconst 1, 31, 1, 0, 0), (31, .if_icmp .lt 22, 34, 53, 0, 0)],
  [(34, .iload 5, 36, 5, 0, 0), (36, .bipush 127, 38, 127, 0, 0), (38, .if_icmp .gt 15, 41, 53, 0, 0), (41, .lload_n 2, 42, 2, 0, 0), (42, .lconst 1, 43, 1, 0, 0), (43, .aload_n 0, 44, 0, 0, 0), (44, .getfield 9, 47, 0, 0, 0), (47, .iload 5, 49, 5, 0, 0)],
  [(49, .iaload, 50, 0, 0, 0), (50, .lshl, 51, 0, 0, 0), (51, .lor, 52, 0, 0, 0), (52, .lstore_n 2, 53, 2, 0, 0), (53, .iinc 4 1, 56, 4, 1, 0), (56, .goto (-51), 59, 5, 0, 0), (59, .lload_n 2, 60, 2, 0, 0), (60, .lreturn, 61, 0, 0, 0)]])
noncomputable def MX0_makeBorder : eM := (yX0_makeBorder, cX0_makeBorder, 3, (Option.none : Option Jvm.ClassFile.FieldType), [], (0, 0), 0, [[(0, .aload_n 1, 1, 1, 0, 0), (1, .invokevirtual 33, 4, 18, 1, 0), (4, .iconst 1, 5, 1, 0, 0), (5, .istore_n 2, 6, 2, 0, 0), (6, .iload_n 2, 7, 2, 0, 0), (7, .bipush 127, 9, 127, 0, 0), (9, .if_icmp .gt 22, 12, 31, 0, 0), (12, .aload_n 0, 13, 0, 0, 0), (13, .iload_n 2, 14, 2, 0, 0), (14, .invokevirtual 38, 17, 12, 2, 0)],
  [(17, .ifCond .eq 8, 20, 25, 0, 0), (20, .iload_n 2, 21, 2, 0, 0), (21, .aload_n 1, 22, 1, 0, 0), (22, .invokestatic 42, 25, 4, 2, 0), (25, .iinc 2 1, 28, 2, 1, 0), (28, .goto (-22), 31, 6, 0, 0), (31, .return_, 32, 0, 0, 0)]])
noncomputable def MX0_toggleBorder : eM := (yX0_toggleBorder, cX0_toggleBorder, 4, (Option.none : Option Jvm.ClassFile.FieldType), [], (0, 0), 0, [[(0, .iconst 0, 1, 0, 0, 0), (1, .istore_n 2, 2, 2, 0, 0), (2, .iload_n 2, 3, 2, 0, 0), (3, .bipush 7, 5, 7, 0, 0), (5, .if_icmp .ge 31, 8, 36, 0, 0), (8, .iload_n 0, 9, 0, 0, 0), (9, .iconst 1, 10, 1, 0, 0), (10, .iload_n 2, 11, 2, 0, 0), (11, .ishl, 12, 0, 0, 0), (12, .iconst (-1), 13, 0, 1, 0), (13, .ixor, 14, 0, 0, 0), (14, .iand, 15, 0, 0, 0), (15, .istore_n 3, 16, 3, 0, 0)],
  [(16, .iload_n 3, 17, 3, 0, 0), (17, .iload_n 0, 18, 0, 0, 0), (18, .if_icmp .eq 12, 21, 30, 0, 0), (21, .iload_n 3, 22, 3, 0, 0), (22, .ifCond .eq 8, 25, 30, 0, 0), (25, .aload_n 1, 26, 1, 0, 0), (26, .iload_n 3, 27, 3, 0, 0), (27, .invokevirtual 46, 30, 15, 2, 0), (30, .iinc 2 1, 33, 2, 1, 0)],
  [(33, .goto (-31), 36, 2, 0, 0), (36, .return_, 37, 0, 0, 0)]])
noncomputable def MX0_countFree : eM := (yX0_countFree, cX0_countFree, 5, (Option.some Jvm.ClassFile.FieldType.int), [], (0, 0), 0, [[(0, .iconst 0, 1, 0, 0, 0), (1, .istore_n 3, 2, 3, 0, 0), (2, .iload_n 3, 3, 3, 0, 0), (3, .bipush 35, 5, 35, 0, 0), (5, .if_icmp .ge 16, 8, 21, 0, 0), (8, .aload_n 0, 9, 0, 0, 0), (9, .getfield 19, 12, 0, 2, 0), (12, .iload_n 3, 13, 3, 0, 0), (13, .lconst 0, 14, 0, 0, 0), (14, .lastore, 15, 0, 0, 0), (15, .iinc 3 1, 18, 3, 1, 0)],
  [(18, .goto (-16), 21, 2, 0, 0), (21, .iconst 0, 22, 0, 0, 0), (22, .istore_n 3, 23, 3, 0, 0), (23, .iload_n 2, 24, 2, 0, 0), (24, .iconst 1, 25, 1, 0, 0), (25, .if_icmp .lt 60, 28, 85, 0, 0), (28, .iload_n 2, 29, 2, 0, 0), (29, .bipush 7, 31, 7, 0, 0), (31, .if_icmp .ge 54, 34, 85, 0, 0)],
  [(34, .iconst 1, 35, 1, 0, 0), (35, .istore 4, 37, 4, 0, 0), (37, .iload 4, 39, 4, 0, 0), (39, .bipush 127, 41, 127, 0, 0), (41, .if_icmp .gt 44, 44, 85, 0, 0), (44, .iload 4, 46, 4, 0, 0), (46, .invokestatic 29, 49, 124, 1, 1)],
  [(49, .iload_n 2, 50, 2, 0, 0), (50, .if_icmp .ne 29, 53, 79, 0, 0), (53, .aload_n 1, 54, 1, 0, 0), (54, .iload 4, 56, 4, 0, 0), (56, .invokevirtual 38, 59, 12, 2, 0), (59, .ifCond .eq 20, 62, 79, 0, 0), (62, .aload_n 0, 63, 0, 0, 0), (63, .aload_n 0, 64, 0, 0, 0)],
  [(64, .getfield 15, 67, 0, 1, 0), (67, .iload 4, 69, 4, 0, 0), (69, .laload, 70, 0, 0, 0), (70, .invokevirtual 50, 73, 6, 2, 0), (73, .ifCond .eq 6, 76, 79, 0, 0), (76, .iinc 3 1, 79, 3, 1, 0), (79, .iinc 4 1, 82, 4, 1, 0)],
  [(82, .goto (-45), 85, 37, 0, 0), (85, .iload_n 3, 86, 3, 0, 0), (86, .ireturn, 87, 0, 0, 0)]])
noncomputable def MX0_keepsIfFree : eM := (yX0_keepsIfFree, cX0_keepsIfFree, 6, (Option.some Jvm.ClassFile.FieldType.boolean), [], (0, 0), 0, [[(0, .lload_n 1, 1, 1, 0, 0), (1, .lstore_n 3, 2, 3, 0, 0), (2, .iconst 0, 3, 0, 0, 0), (3, .istore 5, 5, 5, 0, 0), (5, .iload 5, 7, 5, 0, 0), (7, .bipush 35, 9, 35, 0, 0), (9, .if_icmp .ge 58, 12, 67, 0, 0), (12, .lload_n 3, 13, 3, 0, 0), (13, .lconst 0, 14, 0, 0, 0), (14, .lcmp, 15, 0, 0, 0), (15, .ifCond .eq 52, 18, 67, 0, 0)],
  [(18, .lload_n 3, 19, 3, 0, 0), (19, .iload 5, 21, 5, 0, 0), (21, .lushr, 22, 0, 0, 0), (22, .lconst 1, 23, 1, 0, 0), (23, .land, 24, 0, 0, 0), (24, .lconst 0, 25, 0, 0, 0), (25, .lcmp, 26, 0, 0, 0), (26, .ifCond .eq 35, 29, 61, 0, 0), (29, .aload_n 0, 30, 0, 0, 0), (30, .getfield 19, 33, 0, 2, 0)],
  [(33, .iload 5, 35, 5, 0, 0), (35, .laload, 36, 0, 0, 0), (36, .lconst 0, 37, 0, 0, 0), (37, .lcmp, 38, 0, 0, 0), (38, .ifCond .ne 13, 41, 51, 0, 0), (41, .aload_n 0, 42, 0, 0, 0), (42, .getfield 19, 45, 0, 2, 0), (45, .iload 5, 47, 5, 0, 0), (47, .lload_n 3, 48, 3, 0, 0)],
  [(48, .lastore, 49, 0, 0, 0), (49, .iconst 1, 50, 1, 0, 0), (50, .ireturn, 51, 0, 0, 0), (51, .lload_n 3, 52, 3, 0, 0), (52, .aload_n 0, 53, 0, 0, 0), (53, .getfield 19, 56, 0, 2, 0), (56, .iload 5, 58, 5, 0, 0), (58, .laload, 59, 0, 0, 0), (59, .lxor, 60, 0, 0, 0), (60, .lstore_n 3, 61, 3, 0, 0), (61, .iinc 5 1, 64, 5, 1, 0)],
  [(64, .goto (-59), 67, 5, 0, 0), (67, .iconst 0, 68, 0, 0, 0), (68, .ireturn, 69, 0, 0, 0)]])
noncomputable def MX0_isSumOfKept : eM := (yX0_isSumOfKept, cX0_isSumOfKept, 6, (Option.some Jvm.ClassFile.FieldType.boolean), [], (0, 0), 0, [[(0, .lload_n 1, 1, 1, 0, 0), (1, .lstore_n 3, 2, 3, 0, 0), (2, .iconst 0, 3, 0, 0, 0), (3, .istore 5, 5, 5, 0, 0), (5, .iload 5, 7, 5, 0, 0), (7, .bipush 35, 9, 35, 0, 0), (9, .if_icmp .ge 30, 12, 39, 0, 0), (12, .lload_n 3, 13, 3, 0, 0), (13, .iload 5, 15, 5, 0, 0), (15, .lushr, 16, 0, 0, 0)],
  [(16, .lconst 1, 17, 1, 0, 0), (17, .land, 18, 0, 0, 0), (18, .lconst 0, 19, 0, 0, 0), (19, .lcmp, 20, 0, 0, 0), (20, .ifCond .eq 13, 23, 33, 0, 0), (23, .lload_n 3, 24, 3, 0, 0), (24, .aload_n 0, 25, 0, 0, 0), (25, .getfield 19, 28, 0, 2, 0), (28, .iload 5, 30, 5, 0, 0), (30, .laload, 31, 0, 0, 0), (31, .lxor, 32, 0, 0, 0)],
  [(32, .lstore_n 3, 33, 3, 0, 0), (33, .iinc 5 1, 36, 5, 1, 0), (36, .goto (-31), 39, 5, 0, 0), (39, .lload_n 3, 40, 3, 0, 0), (40, .lconst 0, 41, 0, 0, 0), (41, .lcmp, 42, 0, 0, 0), (42, .ifCond .ne 7, 45, 49, 0, 0), (45, .iconst 1, 46, 1, 0, 0), (46, .goto 4, 49, 50, 0, 0)],
  [(49, .iconst 0, 50, 0, 0, 0), (50, .ireturn, 51, 0, 0, 0)]])
noncomputable def MX0_countHoles : eM := (yX0_countHoles, cX0_countHoles, 3, (Option.some Jvm.ClassFile.FieldType.int), [], (0, 0), 0, [[(0, .aload_n 1, 1, 1, 0, 0), (1, .iload_n 2, 2, 2, 0, 0), (2, .aload_n 0, 3, 0, 0, 0), (3, .aload_n 1, 4, 1, 0, 0), (4, .iload_n 2, 5, 2, 0, 0), (5, .invokevirtual 54, 8, 5, 3, 0), (8, .aload_n 0, 9, 0, 0, 0), (9, .aload_n 1, 10, 1, 0, 0), (10, .iload_n 2, 11, 2, 0, 0), (11, .iconst 1, 12, 1, 0, 0), (12, .iadd, 13, 0, 0, 0), (13, .invokevirtual 54, 16, 5, 3, 0)],
  [(16, .invokestatic 58, 19, 9, 4, 0), (19, .ireturn, 20, 0, 0, 0)]])
noncomputable def MX0_holesBetween : eM := (yX0_holesBetween, cX0_holesBetween, 5, (Option.some Jvm.ClassFile.FieldType.int), [], (0, 0), 0, [[(0, .aload_n 0, 1, 0, 0, 0), (1, .invokevirtual 62, 4, 22, 1, 0), (4, .ifCond .eq 5, 7, 9, 0, 0), (7, .iconst 0, 8, 0, 0, 0), (8, .ireturn, 9, 0, 0, 0), (9, .aload_n 0, 10, 0, 0, 0), (10, .iload_n 1, 11, 1, 0, 0), (11, .invokevirtual 66, 14, 27, 2, 0), (14, .iload_n 2, 15, 2, 0, 0), (15, .isub, 16, 0, 0, 0)],
  [(16, .iload_n 3, 17, 3, 0, 0), (17, .isub, 18, 0, 0, 0), (18, .istore 4, 20, 4, 0, 0), (20, .iload_n 1, 21, 1, 0, 0), (21, .ifCond .ne 10, 24, 31, 0, 0), (24, .iload 4, 26, 4, 0, 0), (26, .iconst 1, 27, 1, 0, 0), (27, .isub, 28, 0, 0, 0), (28, .goto 5, 31, 33, 0, 0), (31, .iload 4, 33, 4, 0, 0)],
  [(33, .ireturn, 34, 0, 0, 0)]])
noncomputable def MX0_isFilling : eM := (yX0_isFilling, cX0_isFilling, 6, (Option.some Jvm.ClassFile.FieldType.boolean), [], (0, 0), 0, [[(0, .aload_n 1, 1, 1, 0, 0), (1, .invokevirtual 62, 4, 22, 1, 0), (4, .ifCond .eq 5, 7, 9, 0, 0), (7, .iconst 1, 8, 1, 0, 0), (8, .ireturn, 9, 0, 0, 0), (9, .aload_n 0, 10, 0, 0, 0), (10, .aload_n 2, 11, 2, 0, 0), (11, .aload_n 1, 12, 1, 0, 0), (12, .iconst 0, 13, 0, 0, 0), (13, .invokevirtual 69, 16, 31, 2, 0)],
  [(16, .invokestatic 29, 19, 124, 1, 1), (19, .iconst 1, 20, 1, 0, 0), (20, .iadd, 21, 0, 0, 0), (21, .invokevirtual 54, 24, 5, 3, 0), (24, .pop, 25, 0, 0, 0), (25, .lconst 0, 26, 0, 0, 0), (26, .lstore_n 3, 27, 3, 0, 0), (27, .iconst 1, 28, 1, 0, 0), (28, .istore 5, 30, 5, 0, 0), (30, .iload 5, 32, 5, 0, 0)],
  [(32, .bipush 127, 34, 127, 0, 0), (34, .if_icmp .gt 30, 37, 64, 0, 0), (37, .aload_n 1, 38, 1, 0, 0), (38, .iload 5, 40, 5, 0, 0), (40, .invokevirtual 38, 43, 12, 2, 0), (43, .ifCond .eq 15, 46, 58, 0, 0), (46, .lload_n 3, 47, 3, 0, 0), (47, .lconst 1, 48, 1, 0, 0)],
  [(48, .aload_n 0, 49, 0, 0, 0), (49, .getfield 9, 52, 0, 0, 0), (52, .iload 5, 54, 5, 0, 0), (54, .iaload, 55, 0, 0, 0), (55, .lshl, 56, 0, 0, 0), (56, .lor, 57, 0, 0, 0), (57, .lstore_n 3, 58, 3, 0, 0), (58, .iinc 5 1, 61, 5, 1, 0), (61, .goto (-31), 64, 30, 0, 0)],
  [(64, .aload_n 0, 65, 0, 0, 0), (65, .lload_n 3, 66, 3, 0, 0), (66, .invokevirtual 72, 69, 7, 2, 0), (69, .ireturn, 70, 0, 0, 0)]])
noncomputable def MX1_init : eM := (yX1_init, cX1_init, 1, (Option.none : Option Jvm.ClassFile.FieldType), [], (0, 0), 1, [[(0, .aload_n 0, 1, 0, 0, 0), (1, .invokespecial 3, 4, 0, 0, 2), (4, .return_, 5, 0, 0, 0)]])
noncomputable def MX1_holds : eM := (yX1_holds, cX1_holds, 4, (Option.some Jvm.ClassFile.FieldType.boolean), [], (0, 0), 1, [[(0, .iload_n 1, 1, 1, 0, 0), (1, .bipush 64, 3, 64, 0, 0), (3, .if_icmp .ge 10, 6, 13, 0, 0), (6, .aload_n 0, 7, 0, 0, 0), (7, .getfield 11, 10, 1, 0, 0), (10, .goto 7, 13, 17, 0, 0), (13, .aload_n 0, 14, 0, 0, 0), (14, .getfield 15, 17, 1, 1, 0)],
  [(17, .lstore_n 2, 18, 2, 0, 0), (18, .lload_n 2, 19, 2, 0, 0), (19, .iload_n 1, 20, 1, 0, 0), (20, .lushr, 21, 0, 0, 0), (21, .lconst 1, 22, 1, 0, 0), (22, .land, 23, 0, 0, 0), (23, .lconst 0, 24, 0, 0, 0), (24, .lcmp, 25, 0, 0, 0), (25, .ifCond .eq 7, 28, 32, 0, 0), (28, .iconst 1, 29, 1, 0, 0), (29, .goto 4, 32, 33, 0, 0)],
  [(32, .iconst 0, 33, 0, 0, 0), (33, .ireturn, 34, 0, 0, 0)]])
noncomputable def MX1_add : eM := (yX1_add, cX1_add, 2, (Option.none : Option Jvm.ClassFile.FieldType), [], (0, 0), 1, [[(0, .iload_n 1, 1, 1, 0, 0), (1, .bipush 64, 3, 64, 0, 0), (3, .if_icmp .ge 18, 6, 21, 0, 0), (6, .aload_n 0, 7, 0, 0, 0), (7, .dup, 8, 0, 0, 0), (8, .getfield 11, 11, 1, 0, 0), (11, .lconst 1, 12, 1, 0, 0), (12, .iload_n 1, 13, 1, 0, 0), (13, .lshl, 14, 0, 0, 0), (14, .lor, 15, 0, 0, 0), (15, .putfield 11, 18, 1, 0, 0)],
  [(18, .goto 15, 21, 33, 0, 0), (21, .aload_n 0, 22, 0, 0, 0), (22, .dup, 23, 0, 0, 0), (23, .getfield 15, 26, 1, 1, 0), (26, .lconst 1, 27, 1, 0, 0), (27, .iload_n 1, 28, 1, 0, 0), (28, .lshl, 29, 0, 0, 0), (29, .lor, 30, 0, 0, 0), (30, .putfield 15, 33, 1, 1, 0)],
  [(33, .return_, 34, 0, 0, 0)]])
noncomputable def MX1_remove : eM := (yX1_remove, cX1_remove, 2, (Option.none : Option Jvm.ClassFile.FieldType), [], (0, 0), 1, [[(0, .iload_n 1, 1, 1, 0, 0), (1, .bipush 64, 3, 64, 0, 0), (3, .if_icmp .ge 22, 6, 25, 0, 0), (6, .aload_n 0, 7, 0, 0, 0), (7, .dup, 8, 0, 0, 0), (8, .getfield 11, 11, 1, 0, 0), (11, .lconst 1, 12, 1, 0, 0), (12, .iload_n 1, 13, 1, 0, 0), (13, .lshl, 14, 0, 0, 0), (14, .ldc2_w 18, 17, 0, 1, 0)],
  [(17, .lxor, 18, 0, 0, 0), (18, .land, 19, 0, 0, 0), (19, .putfield 11, 22, 1, 0, 0), (22, .goto 19, 25, 41, 0, 0), (25, .aload_n 0, 26, 0, 0, 0), (26, .dup, 27, 0, 0, 0), (27, .getfield 15, 30, 1, 1, 0), (30, .lconst 1, 31, 1, 0, 0), (31, .iload_n 1, 32, 1, 0, 0)],
  [(32, .lshl, 33, 0, 0, 0), (33, .ldc2_w 18, 36, 0, 1, 0), (36, .lxor, 37, 0, 0, 0), (37, .land, 38, 0, 0, 0), (38, .putfield 15, 41, 1, 1, 0), (41, .return_, 42, 0, 0, 0)]])
noncomputable def MX1_toggle : eM := (yX1_toggle, cX1_toggle, 2, (Option.none : Option Jvm.ClassFile.FieldType), [], (0, 0), 1, [[(0, .aload_n 0, 1, 0, 0, 0), (1, .iload_n 1, 2, 1, 0, 0), (2, .invokevirtual 20, 5, 12, 2, 0), (5, .ifCond .eq 11, 8, 16, 0, 0), (8, .aload_n 0, 9, 0, 0, 0), (9, .iload_n 1, 10, 1, 0, 0), (10, .invokevirtual 24, 13, 14, 2, 0), (13, .goto 8, 16, 21, 0, 0)],
  [(16, .aload_n 0, 17, 0, 0, 0), (17, .iload_n 1, 18, 1, 0, 0), (18, .invokevirtual 28, 21, 13, 2, 0), (21, .return_, 22, 0, 0, 0)]])
noncomputable def MX1_addParts : eM := (yX1_addParts, cX1_addParts, 3, (Option.none : Option Jvm.ClassFile.FieldType), [], (0, 0), 1, [[(0, .iconst 1, 1, 1, 0, 0), (1, .istore_n 2, 2, 2, 0, 0), (2, .iload_n 2, 3, 2, 0, 0), (3, .iload_n 1, 4, 1, 0, 0), (4, .if_icmp .gt 21, 7, 25, 0, 0), (7, .iload_n 2, 8, 2, 0, 0), (8, .iload_n 1, 9, 1, 0, 0), (9, .iand, 10, 0, 0, 0), (10, .iload_n 2, 11, 2, 0, 0), (11, .if_icmp .ne 8, 14, 19, 0, 0), (14, .aload_n 0, 15, 0, 0, 0), (15, .iload_n 2, 16, 2, 0, 0)],
  [(16, .invokevirtual 28, 19, 13, 2, 0), (19, .iinc 2 1, 22, 2, 1, 0), (22, .goto (-20), 25, 2, 0, 0), (25, .return_, 26, 0, 0, 0)]])
noncomputable def MX1_removeWithAllOver : eM := (yX1_removeWithAllOver, cX1_removeWithAllOver, 3, (Option.none : Option Jvm.ClassFile.FieldType), [], (0, 0), 1, [[(0, .iload_n 1, 1, 1, 0, 0), (1, .istore_n 2, 2, 2, 0, 0), (2, .iload_n 2, 3, 2, 0, 0), (3, .bipush 127, 5, 127, 0, 0), (5, .if_icmp .gt 21, 8, 26, 0, 0), (8, .iload_n 2, 9, 2, 0, 0), (9, .iload_n 1, 10, 1, 0, 0), (10, .iand, 11, 0, 0, 0), (11, .iload_n 1, 12, 1, 0, 0), (12, .if_icmp .ne 8, 15, 20, 0, 0), (15, .aload_n 0, 16, 0, 0, 0)],
  [(16, .iload_n 2, 17, 2, 0, 0), (17, .invokevirtual 24, 20, 14, 2, 0), (20, .iinc 2 1, 23, 2, 1, 0), (23, .goto (-21), 26, 2, 0, 0), (26, .return_, 27, 0, 0, 0)]])
noncomputable def MX1_empty : eM := (yX1_empty, cX1_empty, 1, (Option.none : Option Jvm.ClassFile.FieldType), [], (0, 0), 1, [[(0, .aload_n 0, 1, 0, 0, 0), (1, .lconst 0, 2, 0, 0, 0), (2, .putfield 11, 5, 1, 0, 0), (5, .aload_n 0, 6, 0, 0, 0), (6, .lconst 0, 7, 0, 0, 0), (7, .putfield 15, 10, 1, 1, 0), (10, .return_, 11, 0, 0, 0)]])
noncomputable def MX1_become : eM := (yX1_become, cX1_become, 2, (Option.none : Option Jvm.ClassFile.FieldType), [], (0, 0), 1, [[(0, .aload_n 0, 1, 0, 0, 0), (1, .aload_n 1, 2, 1, 0, 0), (2, .getfield 11, 5, 1, 0, 0), (5, .putfield 11, 8, 1, 0, 0), (8, .aload_n 0, 9, 0, 0, 0), (9, .aload_n 1, 10, 1, 0, 0), (10, .getfield 15, 13, 1, 1, 0), (13, .putfield 15, 16, 1, 1, 0)],
  [(16, .return_, 17, 0, 0, 0)]])
noncomputable def MX1_becomeUnion : eM := (yX1_becomeUnion, cX1_becomeUnion, 3, (Option.none : Option Jvm.ClassFile.FieldType), [], (0, 0), 1, [[(0, .aload_n 0, 1, 0, 0, 0), (1, .aload_n 1, 2, 1, 0, 0), (2, .getfield 11, 5, 1, 0, 0), (5, .aload_n 2, 6, 2, 0, 0), (6, .getfield 11, 9, 1, 0, 0), (9, .lor, 10, 0, 0, 0), (10, .putfield 11, 13, 1, 0, 0), (13, .aload_n 0, 14, 0, 0, 0), (14, .aload_n 1, 15, 1, 0, 0), (15, .getfield 15, 18, 1, 1, 0)],
  [(18, .aload_n 2, 19, 2, 0, 0), (19, .getfield 15, 22, 1, 1, 0), (22, .lor, 23, 0, 0, 0), (23, .putfield 15, 26, 1, 1, 0), (26, .return_, 27, 0, 0, 0)]])
noncomputable def MX1_becomeMeeting : eM := (yX1_becomeMeeting, cX1_becomeMeeting, 3, (Option.none : Option Jvm.ClassFile.FieldType), [], (0, 0), 1, [[(0, .aload_n 0, 1, 0, 0, 0), (1, .aload_n 1, 2, 1, 0, 0), (2, .getfield 11, 5, 1, 0, 0), (5, .aload_n 2, 6, 2, 0, 0), (6, .getfield 11, 9, 1, 0, 0), (9, .land, 10, 0, 0, 0), (10, .putfield 11, 13, 1, 0, 0), (13, .aload_n 0, 14, 0, 0, 0), (14, .aload_n 1, 15, 1, 0, 0), (15, .getfield 15, 18, 1, 1, 0)],
  [(18, .aload_n 2, 19, 2, 0, 0), (19, .getfield 15, 22, 1, 1, 0), (22, .land, 23, 0, 0, 0), (23, .putfield 15, 26, 1, 1, 0), (26, .return_, 27, 0, 0, 0)]])
noncomputable def MX1_isEmpty : eM := (yX1_isEmpty, cX1_isEmpty, 1, (Option.some Jvm.ClassFile.FieldType.boolean), [], (0, 0), 1, [[(0, .aload_n 0, 1, 0, 0, 0), (1, .getfield 11, 4, 1, 0, 0), (4, .aload_n 0, 5, 0, 0, 0), (5, .getfield 15, 8, 1, 1, 0), (8, .lor, 9, 0, 0, 0), (9, .lconst 0, 10, 0, 0, 0), (10, .lcmp, 11, 0, 0, 0), (11, .ifCond .ne 7, 14, 18, 0, 0), (14, .iconst 1, 15, 1, 0, 0), (15, .goto 4, 18, 19, 0, 0)],
  [(18, .iconst 0, 19, 0, 0, 0), (19, .ireturn, 20, 0, 0, 0)]])
noncomputable def MX1_isLike : eM := (yX1_isLike, cX1_isLike, 2, (Option.some Jvm.ClassFile.FieldType.boolean), [], (0, 0), 1, [[(0, .aload_n 0, 1, 0, 0, 0), (1, .getfield 11, 4, 1, 0, 0), (4, .aload_n 1, 5, 1, 0, 0), (5, .getfield 11, 8, 1, 0, 0), (8, .lcmp, 9, 0, 0, 0), (9, .ifCond .ne 19, 12, 28, 0, 0), (12, .aload_n 0, 13, 0, 0, 0), (13, .getfield 15, 16, 1, 1, 0)],
  [(16, .aload_n 1, 17, 1, 0, 0), (17, .getfield 15, 20, 1, 1, 0), (20, .lcmp, 21, 0, 0, 0), (21, .ifCond .ne 7, 24, 28, 0, 0), (24, .iconst 1, 25, 1, 0, 0), (25, .goto 4, 28, 29, 0, 0), (28, .iconst 0, 29, 0, 0, 0), (29, .ireturn, 30, 0, 0, 0)]])
noncomputable def MX1_holdsAll : eM := (yX1_holdsAll, cX1_holdsAll, 2, (Option.some Jvm.ClassFile.FieldType.boolean), [], (0, 0), 1, [[(0, .aload_n 1, 1, 1, 0, 0), (1, .aload_n 0, 2, 0, 0, 0), (2, .invokevirtual 31, 5, 26, 2, 0), (5, .ifCond .ne 7, 8, 12, 0, 0), (8, .iconst 1, 9, 1, 0, 0), (9, .goto 4, 12, 13, 0, 0), (12, .iconst 0, 13, 0, 0, 0), (13, .ireturn, 14, 0, 0, 0)]])
noncomputable def MX1_count : eM := (yX1_count, cX1_count, 1, (Option.some Jvm.ClassFile.FieldType.int), [], (0, 0), 1, [[(0, .aload_n 0, 1, 0, 0, 0), (1, .getfield 11, 4, 1, 0, 0), (4, .invokestatic 35, 7, 201, 1, 0), (7, .aload_n 0, 8, 0, 0, 0), (8, .getfield 15, 11, 1, 1, 0), (11, .invokestatic 35, 14, 201, 1, 0), (14, .iadd, 15, 0, 0, 0), (15, .ireturn, 16, 0, 0, 0)]])
noncomputable def MX1_countBeyond : eM := (yX1_countBeyond, cX1_countBeyond, 2, (Option.some Jvm.ClassFile.FieldType.int), [], (0, 0), 1, [[(0, .aload_n 0, 1, 0, 0, 0), (1, .getfield 11, 4, 1, 0, 0), (4, .aload_n 1, 5, 1, 0, 0), (5, .getfield 11, 8, 1, 0, 0), (8, .ldc2_w 18, 11, 0, 1, 0), (11, .lxor, 12, 0, 0, 0), (12, .land, 13, 0, 0, 0), (13, .invokestatic 35, 16, 201, 1, 0)],
  [(16, .aload_n 0, 17, 0, 0, 0), (17, .getfield 15, 20, 1, 1, 0), (20, .aload_n 1, 21, 1, 0, 0), (21, .getfield 15, 24, 1, 1, 0), (24, .ldc2_w 18, 27, 0, 1, 0), (27, .lxor, 28, 0, 0, 0), (28, .land, 29, 0, 0, 0), (29, .invokestatic 35, 32, 201, 1, 0)],
  [(32, .iadd, 33, 0, 0, 0), (33, .ireturn, 34, 0, 0, 0)]])
noncomputable def MX1_countAt : eM := (yX1_countAt, cX1_countAt, 4, (Option.some Jvm.ClassFile.FieldType.int), [], (0, 0), 1, [[(0, .iconst 0, 1, 0, 0, 0), (1, .istore_n 2, 2, 2, 0, 0), (2, .iconst 1, 3, 1, 0, 0), (3, .istore_n 3, 4, 3, 0, 0), (4, .iload_n 3, 5, 3, 0, 0), (5, .bipush 127, 7, 127, 0, 0), (7, .if_icmp .gt 28, 10, 35, 0, 0), (10, .iload_n 3, 11, 3, 0, 0), (11, .invokestatic 41, 14, 124, 1, 1), (14, .iload_n 1, 15, 1, 0, 0), (15, .if_icmp .ne 14, 18, 29, 0, 0)],
  [(18, .aload_n 0, 19, 0, 0, 0), (19, .iload_n 3, 20, 3, 0, 0), (20, .invokevirtual 20, 23, 12, 2, 0), (23, .ifCond .eq 6, 26, 29, 0, 0), (26, .iinc 2 1, 29, 2, 1, 0), (29, .iinc 3 1, 32, 3, 1, 0)],
  [(32, .goto (-28), 35, 4, 0, 0), (35, .iload_n 2, 36, 2, 0, 0), (36, .ireturn, 37, 0, 0, 0)]])
noncomputable def MX1_signedCount : eM := (yX1_signedCount, cX1_signedCount, 3, (Option.some Jvm.ClassFile.FieldType.int), [], (0, 0), 1, [[(0, .iconst 0, 1, 0, 0, 0), (1, .istore_n 1, 2, 1, 0, 0), (2, .iconst 1, 3, 1, 0, 0), (3, .istore_n 2, 4, 2, 0, 0), (4, .iload_n 2, 5, 2, 0, 0), (5, .bipush 127, 7, 127, 0, 0), (7, .if_icmp .gt 34, 10, 41, 0, 0), (10, .aload_n 0, 11, 0, 0, 0), (11, .iload_n 2, 12, 2, 0, 0), (12, .invokevirtual 20, 15, 12, 2, 0), (15, .ifCond .eq 20, 18, 35, 0, 0)],
  [(18, .iload_n 1, 19, 1, 0, 0), (19, .iload_n 2, 20, 2, 0, 0), (20, .invokestatic 41, 23, 124, 1, 1), (23, .iconst 2, 24, 2, 0, 0), (24, .irem, 25, 0, 0, 0), (25, .ifCond .ne 7, 28, 32, 0, 0), (28, .iconst 1, 29, 1, 0, 0), (29, .goto 4, 32, 33, 0, 0)],
  [(32, .iconst (-1), 33, 0, 1, 0), (33, .iadd, 34, 0, 0, 0), (34, .istore_n 1, 35, 1, 0, 0), (35, .iinc 2 1, 38, 2, 1, 0), (38, .goto (-34), 41, 4, 0, 0), (41, .iload_n 1, 42, 1, 0, 0), (42, .ireturn, 43, 0, 0, 0)]])
noncomputable def MX1_heightSum : eM := (yX1_heightSum, cX1_heightSum, 3, (Option.some Jvm.ClassFile.FieldType.int), [], (0, 0), 1, [[(0, .iconst 0, 1, 0, 0, 0), (1, .istore_n 1, 2, 1, 0, 0), (2, .iconst 1, 3, 1, 0, 0), (3, .istore_n 2, 4, 2, 0, 0), (4, .iload_n 2, 5, 2, 0, 0), (5, .bipush 127, 7, 127, 0, 0), (7, .if_icmp .gt 24, 10, 31, 0, 0), (10, .aload_n 0, 11, 0, 0, 0), (11, .iload_n 2, 12, 2, 0, 0), (12, .invokevirtual 20, 15, 12, 2, 0), (15, .ifCond .eq 10, 18, 25, 0, 0)],
  [(18, .iload_n 1, 19, 1, 0, 0), (19, .iload_n 2, 20, 2, 0, 0), (20, .invokestatic 41, 23, 124, 1, 1), (23, .iadd, 24, 0, 0, 0), (24, .istore_n 1, 25, 1, 0, 0), (25, .iinc 2 1, 28, 2, 1, 0), (28, .goto (-24), 31, 4, 0, 0), (31, .iload_n 1, 32, 1, 0, 0)],
  [(32, .ireturn, 33, 0, 0, 0)]])
noncomputable def MX1_cornerSet : eM := (yX1_cornerSet, cX1_cornerSet, 3, (Option.some Jvm.ClassFile.FieldType.int), [], (0, 0), 1, [[(0, .iconst 0, 1, 0, 0, 0), (1, .istore_n 1, 2, 1, 0, 0), (2, .iconst 1, 3, 1, 0, 0), (3, .istore_n 2, 4, 2, 0, 0), (4, .iload_n 2, 5, 2, 0, 0), (5, .bipush 127, 7, 127, 0, 0), (7, .if_icmp .gt 21, 10, 28, 0, 0), (10, .aload_n 0, 11, 0, 0, 0), (11, .iload_n 2, 12, 2, 0, 0), (12, .invokevirtual 20, 15, 12, 2, 0), (15, .ifCond .eq 7, 18, 22, 0, 0)],
  [(18, .iload_n 1, 19, 1, 0, 0), (19, .iload_n 2, 20, 2, 0, 0), (20, .ior, 21, 0, 0, 0), (21, .istore_n 1, 22, 1, 0, 0), (22, .iinc 2 1, 25, 2, 1, 0), (25, .goto (-21), 28, 4, 0, 0), (28, .iload_n 1, 29, 1, 0, 0), (29, .ireturn, 30, 0, 0, 0)]])
noncomputable def MX1_faceAt : eM := (yX1_faceAt, cX1_faceAt, 4, (Option.some Jvm.ClassFile.FieldType.int), [], (0, 0), 1, [[(0, .iconst 0, 1, 0, 0, 0), (1, .istore_n 2, 2, 2, 0, 0), (2, .iconst 1, 3, 1, 0, 0), (3, .istore_n 3, 4, 3, 0, 0), (4, .iload_n 3, 5, 3, 0, 0), (5, .bipush 127, 7, 127, 0, 0), (7, .if_icmp .gt 27, 10, 34, 0, 0), (10, .aload_n 0, 11, 0, 0, 0), (11, .iload_n 3, 12, 3, 0, 0), (12, .invokevirtual 20, 15, 12, 2, 0), (15, .ifCond .eq 13, 18, 28, 0, 0)],
  [(18, .iload_n 2, 19, 2, 0, 0), (19, .iload_n 1, 20, 1, 0, 0), (20, .if_icmp .ne 5, 23, 25, 0, 0), (23, .iload_n 3, 24, 3, 0, 0), (24, .ireturn, 25, 0, 0, 0), (25, .iinc 2 1, 28, 2, 1, 0), (28, .iinc 3 1, 31, 3, 1, 0), (31, .goto (-27), 34, 4, 0, 0)],
  [(34, .iconst 0, 35, 0, 0, 0), (35, .ireturn, 36, 0, 0, 0)]])
noncomputable def MX1_countOver : eM := (yX1_countOver, cX1_countOver, 4, (Option.some Jvm.ClassFile.FieldType.int), [], (0, 0), 1, [[(0, .iconst 0, 1, 0, 0, 0), (1, .istore_n 2, 2, 2, 0, 0), (2, .iload_n 1, 3, 1, 0, 0), (3, .iconst 1, 4, 1, 0, 0), (4, .iadd, 5, 0, 0, 0), (5, .istore_n 3, 6, 3, 0, 0), (6, .iload_n 3, 7, 3, 0, 0), (7, .bipush 127, 9, 127, 0, 0), (9, .if_icmp .gt 27, 12, 36, 0, 0), (12, .iload_n 3, 13, 3, 0, 0), (13, .iload_n 1, 14, 1, 0, 0), (14, .iand, 15, 0, 0, 0), (15, .iload_n 1, 16, 1, 0, 0)],
  [(16, .if_icmp .ne 14, 19, 30, 0, 0), (19, .aload_n 0, 20, 0, 0, 0), (20, .iload_n 3, 21, 3, 0, 0), (21, .invokevirtual 20, 24, 12, 2, 0), (24, .ifCond .eq 6, 27, 30, 0, 0), (27, .iinc 2 1, 30, 2, 1, 0), (30, .iinc 3 1, 33, 3, 1, 0)],
  [(33, .goto (-27), 36, 6, 0, 0), (36, .iload_n 2, 37, 2, 0, 0), (37, .ireturn, 38, 0, 0, 0)]])
noncomputable def MX1_firstOver : eM := (yX1_firstOver, cX1_firstOver, 3, (Option.some Jvm.ClassFile.FieldType.int), [], (0, 0), 1, [[(0, .iload_n 1, 1, 1, 0, 0), (1, .iconst 1, 2, 1, 0, 0), (2, .iadd, 3, 0, 0, 0), (3, .istore_n 2, 4, 2, 0, 0), (4, .iload_n 2, 5, 2, 0, 0), (5, .bipush 127, 7, 127, 0, 0), (7, .if_icmp .gt 26, 10, 33, 0, 0), (10, .iload_n 2, 11, 2, 0, 0), (11, .iload_n 1, 12, 1, 0, 0), (12, .iand, 13, 0, 0, 0), (13, .iload_n 1, 14, 1, 0, 0), (14, .if_icmp .ne 13, 17, 27, 0, 0)],
  [(17, .aload_n 0, 18, 0, 0, 0), (18, .iload_n 2, 19, 2, 0, 0), (19, .invokevirtual 20, 22, 12, 2, 0), (22, .ifCond .eq 5, 25, 27, 0, 0), (25, .iload_n 2, 26, 2, 0, 0), (26, .ireturn, 27, 0, 0, 0), (27, .iinc 2 1, 30, 2, 1, 0), (30, .goto (-26), 33, 4, 0, 0)],
  [(33, .iconst 0, 34, 0, 0, 0), (34, .ireturn, 35, 0, 0, 0)]])
noncomputable def MX2_init : eM := (yX2_init, cX2_init, 1, (Option.none : Option Jvm.ClassFile.FieldType), [], (1, 7), 2, [[(0, .aload_n 0, 1, 0, 0, 0), (1, .invokespecial 3, 4, 0, 0, 2), (4, .aload_n 0, 5, 0, 0, 0), (5, .bipush 7, 7, 7, 0, 0), (7, .newarray .int, 9, 0, 0, 0), (9, .putfield 9, 12, 2, 0, 0), (12, .return_, 13, 0, 0, 0)]])
noncomputable def MX2_tell : eM := (yX2_tell, cX2_tell, 6, (Option.none : Option Jvm.ClassFile.FieldType), [], (0, 0), 2, [[(0, .iconst 0, 1, 0, 0, 0), (1, .istore_n 3, 2, 3, 0, 0), (2, .iconst 0, 3, 0, 0, 0), (3, .istore 4, 5, 4, 0, 0), (5, .iload 4, 7, 4, 0, 0), (7, .bipush 7, 9, 7, 0, 0), (9, .if_icmp .ge 39, 12, 48, 0, 0), (12, .aload_n 2, 13, 2, 0, 0), (13, .aload_n 1, 14, 1, 0, 0), (14, .iload 4, 16, 4, 0, 0)],
  [(16, .iconst 1, 17, 1, 0, 0), (17, .iadd, 18, 0, 0, 0), (18, .invokevirtual 15, 21, 5, 3, 0), (21, .istore 5, 23, 5, 0, 0), (23, .aload_n 0, 24, 0, 0, 0), (24, .getfield 9, 27, 2, 0, 0), (27, .iload 4, 29, 4, 0, 0), (29, .aload_n 1, 30, 1, 0, 0), (30, .iload 4, 32, 4, 0, 0)],
  [(32, .iload_n 3, 33, 3, 0, 0), (33, .iload 5, 35, 5, 0, 0), (35, .invokestatic 21, 38, 9, 4, 0), (38, .iastore, 39, 0, 0, 0), (39, .iload 5, 41, 5, 0, 0), (41, .istore_n 3, 42, 3, 0, 0), (42, .iinc 4 1, 45, 4, 1, 0), (45, .goto (-40), 48, 5, 0, 0)],
  [(48, .return_, 49, 0, 0, 0)]])
noncomputable def MX2_at : eM := (yX2_at, cX2_at, 2, (Option.some Jvm.ClassFile.FieldType.int), [], (0, 0), 2, [[(0, .iload_n 1, 1, 1, 0, 0), (1, .ifCond .lt 18, 4, 19, 0, 0), (4, .iload_n 1, 5, 1, 0, 0), (5, .bipush 7, 7, 7, 0, 0), (7, .if_icmp .ge 12, 10, 19, 0, 0), (10, .aload_n 0, 11, 0, 0, 0), (11, .getfield 9, 14, 2, 0, 0), (14, .iload_n 1, 15, 1, 0, 0), (15, .iaload, 16, 0, 0, 0)],
  [(16, .goto 4, 19, 20, 0, 0), (19, .iconst 0, 20, 0, 0, 0), (20, .ireturn, 21, 0, 0, 0)]])
noncomputable def MX2_areNone : eM := (yX2_areNone, cX2_areNone, 2, (Option.some Jvm.ClassFile.FieldType.boolean), [], (0, 0), 2, [[(0, .iconst 0, 1, 0, 0, 0), (1, .istore_n 1, 2, 1, 0, 0), (2, .iload_n 1, 3, 1, 0, 0), (3, .bipush 7, 5, 7, 0, 0), (5, .if_icmp .ge 20, 8, 25, 0, 0), (8, .aload_n 0, 9, 0, 0, 0), (9, .getfield 9, 12, 2, 0, 0), (12, .iload_n 1, 13, 1, 0, 0), (13, .iaload, 14, 0, 0, 0), (14, .ifCond .eq 5, 17, 19, 0, 0)],
  [(17, .iconst 0, 18, 0, 0, 0), (18, .ireturn, 19, 0, 0, 0), (19, .iinc 1 1, 22, 1, 1, 0), (22, .goto (-20), 25, 2, 0, 0), (25, .iconst 1, 26, 1, 0, 0), (26, .ireturn, 27, 0, 0, 0)]])
noncomputable def MX2_signedSum : eM := (yX2_signedSum, cX2_signedSum, 3, (Option.some Jvm.ClassFile.FieldType.int), [], (0, 0), 2, [[(0, .iconst 0, 1, 0, 0, 0), (1, .istore_n 1, 2, 1, 0, 0), (2, .iconst 0, 3, 0, 0, 0), (3, .istore_n 2, 4, 2, 0, 0), (4, .iload_n 2, 5, 2, 0, 0), (5, .bipush 7, 7, 7, 0, 0), (7, .if_icmp .ge 34, 10, 41, 0, 0), (10, .iload_n 1, 11, 1, 0, 0), (11, .iload_n 2, 12, 2, 0, 0), (12, .iconst 2, 13, 2, 0, 0), (13, .irem, 14, 0, 0, 0), (14, .ifCond .ne 12, 17, 26, 0, 0)],
  [(17, .aload_n 0, 18, 0, 0, 0), (18, .getfield 9, 21, 2, 0, 0), (21, .iload_n 2, 22, 2, 0, 0), (22, .iaload, 23, 0, 0, 0), (23, .goto 10, 26, 33, 0, 0), (26, .aload_n 0, 27, 0, 0, 0), (27, .getfield 9, 30, 2, 0, 0), (30, .iload_n 2, 31, 2, 0, 0), (31, .iaload, 32, 0, 0, 0)],
  [(32, .ineg, 33, 0, 0, 0), (33, .iadd, 34, 0, 0, 0), (34, .istore_n 1, 35, 1, 0, 0), (35, .iinc 2 1, 38, 2, 1, 0), (38, .goto (-34), 41, 4, 0, 0), (41, .iload_n 1, 42, 1, 0, 0), (42, .ireturn, 43, 0, 0, 0)]])
noncomputable def MX2_differAt : eM := (yX2_differAt, cX2_differAt, 6, (Option.some Jvm.ClassFile.FieldType.boolean), [], (0, 0), 2, [[(0, .iconst 0, 1, 0, 0, 0), (1, .istore 4, 3, 4, 0, 0), (3, .iload 4, 5, 4, 0, 0), (5, .bipush 7, 7, 7, 0, 0), (7, .if_icmp .ge 48, 10, 55, 0, 0), (10, .iload 4, 12, 4, 0, 0), (12, .iload_n 1, 13, 1, 0, 0), (13, .if_icmp .ne 14, 16, 27, 0, 0)],
  [(16, .aload_n 3, 17, 3, 0, 0), (17, .iload 4, 19, 4, 0, 0), (19, .invokevirtual 25, 22, 36, 2, 0), (22, .iload_n 2, 23, 2, 0, 0), (23, .iadd, 24, 0, 0, 0), (24, .goto 9, 27, 33, 0, 0), (27, .aload_n 3, 28, 3, 0, 0), (28, .iload 4, 30, 4, 0, 0), (30, .invokevirtual 25, 33, 36, 2, 0)],
  [(33, .istore 5, 35, 5, 0, 0), (35, .aload_n 0, 36, 0, 0, 0), (36, .getfield 9, 39, 2, 0, 0), (39, .iload 4, 41, 4, 0, 0), (41, .iaload, 42, 0, 0, 0), (42, .iload 5, 44, 5, 0, 0), (44, .if_icmp .eq 5, 47, 49, 0, 0), (47, .iconst 0, 48, 0, 0, 0)],
  [(48, .ireturn, 49, 0, 0, 0), (49, .iinc 4 1, 52, 4, 1, 0), (52, .goto (-49), 55, 3, 0, 0), (55, .iconst 1, 56, 1, 0, 0), (56, .ireturn, 57, 0, 0, 0)]])
noncomputable def MX2_areLike : eM := (yX2_areLike, cX2_areLike, 2, (Option.some Jvm.ClassFile.FieldType.boolean), [], (0, 0), 2, [[(0, .aload_n 0, 1, 0, 0, 0), (1, .iconst 0, 2, 0, 0, 0), (2, .iconst 0, 3, 0, 0, 0), (3, .aload_n 1, 4, 1, 0, 0), (4, .invokevirtual 29, 7, 39, 4, 0), (7, .ireturn, 8, 0, 0, 0)]])
noncomputable def MX3_makeLow : eM := (yX3_makeLow, cX3_makeLow, 4, (Option.none : Option Jvm.ClassFile.FieldType), [], (0, 0), 9, [[(0, .aload_n 2, 1, 2, 0, 0), (1, .invokevirtual 9, 4, 18, 1, 0), (4, .iconst 1, 5, 1, 0, 0), (5, .istore_n 3, 6, 3, 0, 0), (6, .iload_n 3, 7, 3, 0, 0), (7, .bipush 127, 9, 127, 0, 0), (9, .if_icmp .gt 30, 12, 39, 0, 0), (12, .aload_n 0, 13, 0, 0, 0), (13, .iload_n 3, 14, 3, 0, 0), (14, .invokevirtual 14, 17, 12, 2, 0)],
  [(17, .ifCond .eq 16, 20, 33, 0, 0), (20, .iload_n 3, 21, 3, 0, 0), (21, .invokestatic 18, 24, 124, 1, 1), (24, .iload_n 1, 25, 1, 0, 0), (25, .if_icmp .gt 8, 28, 33, 0, 0), (28, .aload_n 2, 29, 2, 0, 0), (29, .iload_n 3, 30, 3, 0, 0), (30, .invokevirtual 22, 33, 13, 2, 0)],
  [(33, .iinc 3 1, 36, 3, 1, 0), (36, .goto (-30), 39, 6, 0, 0), (39, .return_, 40, 0, 0, 0)]])
noncomputable def MX3_makeAbout : eM := (yX3_makeAbout, cX3_makeAbout, 6, (Option.none : Option Jvm.ClassFile.FieldType), [], (0, 0), 9, [[(0, .aload_n 3, 1, 3, 0, 0), (1, .invokevirtual 9, 4, 18, 1, 0), (4, .iconst 1, 5, 1, 0, 0), (5, .istore 4, 7, 4, 0, 0), (7, .iload 4, 9, 4, 0, 0), (9, .bipush 127, 11, 127, 0, 0), (11, .if_icmp .gt 58, 14, 69, 0, 0), (14, .iload_n 2, 15, 2, 0, 0), (15, .ifCond .eq 10, 18, 25, 0, 0)],
  [(18, .iload 4, 20, 4, 0, 0), (20, .iload_n 1, 21, 1, 0, 0), (21, .iand, 22, 0, 0, 0), (22, .ifCond .ne 7, 25, 29, 0, 0), (25, .iconst 1, 26, 1, 0, 0), (26, .goto 4, 29, 30, 0, 0), (29, .iconst 0, 30, 0, 0, 0), (30, .istore 5, 32, 5, 0, 0)],
  [(32, .iload 5, 34, 5, 0, 0), (34, .ifCond .eq 29, 37, 63, 0, 0), (37, .aload_n 0, 38, 0, 0, 0), (38, .iload 4, 40, 4, 0, 0), (40, .invokevirtual 14, 43, 12, 2, 0), (43, .ifCond .eq 20, 46, 63, 0, 0), (46, .aload_n 0, 47, 0, 0, 0), (47, .iload 4, 49, 4, 0, 0)],
  [(49, .iload_n 1, 50, 1, 0, 0), (50, .ior, 51, 0, 0, 0), (51, .invokevirtual 14, 54, 12, 2, 0), (54, .ifCond .eq 9, 57, 63, 0, 0), (57, .aload_n 3, 58, 3, 0, 0), (58, .iload 4, 60, 4, 0, 0), (60, .invokevirtual 22, 63, 13, 2, 0), (63, .iinc 4 1, 66, 4, 1, 0)],
  [(66, .goto (-59), 69, 7, 0, 0), (69, .return_, 70, 0, 0, 0)]])
noncomputable def MX3_makeCone : eM := (yX3_makeCone, cX3_makeCone, 3, (Option.none : Option Jvm.ClassFile.FieldType), [], (0, 0), 9, [[(0, .aload_n 2, 1, 2, 0, 0), (1, .aload_n 0, 2, 0, 0, 0), (2, .invokevirtual 26, 5, 19, 2, 0), (5, .aload_n 0, 6, 0, 0, 0), (6, .iload_n 1, 7, 1, 0, 0), (7, .aload_n 2, 8, 2, 0, 0), (8, .invokestatic 30, 11, 45, 3, 0), (11, .return_, 12, 0, 0, 0)]])
noncomputable def MX3_makeLift : eM := (yX3_makeLift, cX3_makeLift, 4, (Option.none : Option Jvm.ClassFile.FieldType), [], (0, 0), 9, [[(0, .aload_n 3, 1, 3, 0, 0), (1, .aload_n 0, 2, 0, 0, 0), (2, .invokevirtual 26, 5, 19, 2, 0), (5, .aload_n 0, 6, 0, 0, 0), (6, .iload_n 1, 7, 1, 0, 0), (7, .aload_n 3, 8, 3, 0, 0), (8, .invokestatic 30, 11, 45, 3, 0), (11, .aload_n 0, 12, 0, 0, 0), (12, .iload_n 2, 13, 2, 0, 0), (13, .aload_n 3, 14, 3, 0, 0), (14, .invokestatic 30, 17, 45, 3, 0)],
  [(17, .return_, 18, 0, 0, 0)]])
noncomputable def MX3_addJoined : eM := (yX3_addJoined, cX3_addJoined, 4, (Option.none : Option Jvm.ClassFile.FieldType), [], (0, 0), 9, [[(0, .aload_n 2, 1, 2, 0, 0), (1, .iload_n 1, 2, 1, 0, 0), (2, .invokevirtual 22, 5, 13, 2, 0), (5, .iconst 1, 6, 1, 0, 0), (6, .istore_n 3, 7, 3, 0, 0), (7, .iload_n 3, 8, 3, 0, 0), (8, .bipush 127, 10, 127, 0, 0), (10, .if_icmp .gt 24, 13, 34, 0, 0), (13, .aload_n 0, 14, 0, 0, 0), (14, .iload_n 3, 15, 3, 0, 0), (15, .invokevirtual 14, 18, 12, 2, 0)],
  [(18, .ifCond .eq 10, 21, 28, 0, 0), (21, .aload_n 2, 22, 2, 0, 0), (22, .iload_n 3, 23, 3, 0, 0), (23, .iload_n 1, 24, 1, 0, 0), (24, .ior, 25, 0, 0, 0), (25, .invokevirtual 22, 28, 13, 2, 0), (28, .iinc 3 1, 31, 3, 1, 0), (31, .goto (-24), 34, 7, 0, 0)],
  [(34, .return_, 35, 0, 0, 0)]])
noncomputable def MX3_makeOther : eM := (yX3_makeOther, cX3_makeOther, 4, (Option.none : Option Jvm.ClassFile.FieldType), [], (0, 0), 9, [[(0, .aload_n 2, 1, 2, 0, 0), (1, .invokevirtual 9, 4, 18, 1, 0), (4, .iconst 1, 5, 1, 0, 0), (5, .istore_n 3, 6, 3, 0, 0), (6, .iload_n 3, 7, 3, 0, 0), (7, .iload_n 1, 8, 1, 0, 0), (8, .if_icmp .ge 31, 11, 39, 0, 0), (11, .iload_n 3, 12, 3, 0, 0), (12, .iload_n 1, 13, 1, 0, 0), (13, .iand, 14, 0, 0, 0), (14, .iload_n 3, 15, 3, 0, 0), (15, .if_icmp .ne 18, 18, 33, 0, 0)],
  [(18, .aload_n 0, 19, 0, 0, 0), (19, .iload_n 1, 20, 1, 0, 0), (20, .iload_n 3, 21, 3, 0, 0), (21, .ixor, 22, 0, 0, 0), (22, .invokevirtual 14, 25, 12, 2, 0), (25, .ifCond .ne 8, 28, 33, 0, 0), (28, .aload_n 2, 29, 2, 0, 0), (29, .iload_n 3, 30, 3, 0, 0), (30, .invokevirtual 22, 33, 13, 2, 0)],
  [(33, .iinc 3 1, 36, 3, 1, 0), (36, .goto (-30), 39, 6, 0, 0), (39, .return_, 40, 0, 0, 0)]])
noncomputable def MX3_makeExchanged : eM := (yX3_makeExchanged, cX3_makeExchanged, 5, (Option.none : Option Jvm.ClassFile.FieldType), [], (0, 0), 9, [[(0, .aload_n 3, 1, 3, 0, 0), (1, .invokevirtual 9, 4, 18, 1, 0), (4, .iconst 1, 5, 1, 0, 0), (5, .istore 4, 7, 4, 0, 0), (7, .iload 4, 9, 4, 0, 0), (9, .bipush 127, 11, 127, 0, 0), (11, .if_icmp .gt 29, 14, 40, 0, 0), (14, .aload_n 0, 15, 0, 0, 0), (15, .iload 4, 17, 4, 0, 0)],
  [(17, .invokevirtual 14, 20, 12, 2, 0), (20, .ifCond .eq 14, 23, 34, 0, 0), (23, .aload_n 3, 24, 3, 0, 0), (24, .iload 4, 26, 4, 0, 0), (26, .iload_n 1, 27, 1, 0, 0), (27, .iload_n 2, 28, 2, 0, 0), (28, .invokestatic 36, 31, 48, 3, 0), (31, .invokevirtual 22, 34, 13, 2, 0)],
  [(34, .iinc 4 1, 37, 4, 1, 0), (37, .goto (-30), 40, 7, 0, 0), (40, .return_, 41, 0, 0, 0)]])
noncomputable def MX3_exchanged : eM := (yX3_exchanged, cX3_exchanged, 5, (Option.some Jvm.ClassFile.FieldType.int), [], (0, 0), 9, [[(0, .iload_n 0, 1, 0, 0, 0), (1, .iconst 1, 2, 1, 0, 0), (2, .iload_n 1, 3, 1, 0, 0), (3, .ishl, 4, 0, 0, 0), (4, .iand, 5, 0, 0, 0), (5, .ifCond .eq 7, 8, 12, 0, 0), (8, .iconst 1, 9, 1, 0, 0), (9, .goto 4, 12, 13, 0, 0), (12, .iconst 0, 13, 0, 0, 0), (13, .istore_n 3, 14, 3, 0, 0), (14, .iload_n 0, 15, 0, 0, 0), (15, .iconst 1, 16, 1, 0, 0)],
  [(16, .iload_n 2, 17, 2, 0, 0), (17, .ishl, 18, 0, 0, 0), (18, .iand, 19, 0, 0, 0), (19, .ifCond .eq 7, 22, 26, 0, 0), (22, .iconst 1, 23, 1, 0, 0), (23, .goto 4, 26, 27, 0, 0), (26, .iconst 0, 27, 0, 0, 0), (27, .istore 4, 29, 4, 0, 0), (29, .iload_n 3, 30, 3, 0, 0), (30, .iload 4, 32, 4, 0, 0)],
  [(32, .if_icmp .ne 7, 35, 39, 0, 0), (35, .iload_n 0, 36, 0, 0, 0), (36, .goto 12, 39, 48, 0, 0), (39, .iload_n 0, 40, 0, 0, 0), (40, .iconst 1, 41, 1, 0, 0), (41, .iload_n 1, 42, 1, 0, 0), (42, .ishl, 43, 0, 0, 0), (43, .iconst 1, 44, 1, 0, 0), (44, .iload_n 2, 45, 2, 0, 0), (45, .ishl, 46, 0, 0, 0), (46, .ior, 47, 0, 0, 0), (47, .ixor, 48, 0, 0, 0)],
  [(48, .ireturn, 49, 0, 0, 0)]])
noncomputable def MX3_makeGreatest : eM := (yX3_makeGreatest, cX3_makeGreatest, 3, (Option.none : Option Jvm.ClassFile.FieldType), [], (0, 0), 9, [[(0, .aload_n 1, 1, 1, 0, 0), (1, .invokevirtual 9, 4, 18, 1, 0), (4, .iconst 1, 5, 1, 0, 0), (5, .istore_n 2, 6, 2, 0, 0), (6, .iload_n 2, 7, 2, 0, 0), (7, .bipush 127, 9, 127, 0, 0), (9, .if_icmp .gt 30, 12, 39, 0, 0), (12, .aload_n 0, 13, 0, 0, 0), (13, .iload_n 2, 14, 2, 0, 0), (14, .invokevirtual 14, 17, 12, 2, 0)],
  [(17, .ifCond .eq 16, 20, 33, 0, 0), (20, .aload_n 0, 21, 0, 0, 0), (21, .iload_n 2, 22, 2, 0, 0), (22, .invokestatic 40, 25, 50, 2, 0), (25, .ifCond .ne 8, 28, 33, 0, 0), (28, .aload_n 1, 29, 1, 0, 0), (29, .iload_n 2, 30, 2, 0, 0), (30, .invokevirtual 22, 33, 13, 2, 0)],
  [(33, .iinc 2 1, 36, 2, 1, 0), (36, .goto (-30), 39, 6, 0, 0), (39, .return_, 40, 0, 0, 0)]])
noncomputable def MX3_liesInAnother : eM := (yX3_liesInAnother, cX3_liesInAnother, 4, (Option.some Jvm.ClassFile.FieldType.boolean), [], (0, 0), 9, [[(0, .iconst 0, 1, 0, 0, 0), (1, .istore_n 2, 2, 2, 0, 0), (2, .iload_n 2, 3, 2, 0, 0), (3, .bipush 7, 5, 7, 0, 0), (5, .if_icmp .ge 30, 8, 35, 0, 0), (8, .iload_n 1, 9, 1, 0, 0), (9, .iconst 1, 10, 1, 0, 0), (10, .iload_n 2, 11, 2, 0, 0), (11, .ishl, 12, 0, 0, 0), (12, .ior, 13, 0, 0, 0), (13, .istore_n 3, 14, 3, 0, 0), (14, .iload_n 3, 15, 3, 0, 0), (15, .iload_n 1, 16, 1, 0, 0)],
  [(16, .if_icmp .eq 13, 19, 29, 0, 0), (19, .aload_n 0, 20, 0, 0, 0), (20, .iload_n 3, 21, 3, 0, 0), (21, .invokevirtual 14, 24, 12, 2, 0), (24, .ifCond .eq 5, 27, 29, 0, 0), (27, .iconst 1, 28, 1, 0, 0), (28, .ireturn, 29, 0, 0, 0), (29, .iinc 2 1, 32, 2, 1, 0)],
  [(32, .goto (-30), 35, 2, 0, 0), (35, .iconst 0, 36, 0, 0, 0), (36, .ireturn, 37, 0, 0, 0)]])
noncomputable def MX4_init : eM := (yX4_init, cX4_init, 2, (Option.none : Option Jvm.ClassFile.FieldType), [], (8, 28), 3, [[(0, .aload_n 0, 1, 0, 0, 0), (1, .invokespecial 3, 4, 0, 0, 2), (4, .aload_n 0, 5, 0, 0, 0), (5, .aload_n 1, 6, 1, 0, 0), (6, .putfield 9, 9, 3, 0, 0), (9, .aload_n 0, 10, 0, 0, 0), (10, .new 15, 13, 1, 0, 0), (13, .dup, 14, 0, 0, 0), (14, .invokespecial 17, 17, 11, 1, 1)],
  [(17, .putfield 18, 20, 3, 1, 0), (20, .aload_n 0, 21, 0, 0, 0), (21, .new 15, 24, 1, 0, 0), (24, .dup, 25, 0, 0, 0), (25, .invokespecial 17, 28, 11, 1, 1), (28, .putfield 22, 31, 3, 2, 0), (31, .aload_n 0, 32, 0, 0, 0)],
  [(32, .new 25, 35, 2, 0, 0), (35, .dup, 36, 0, 0, 0), (36, .invokespecial 27, 39, 34, 1, 0), (39, .putfield 28, 42, 3, 3, 0), (42, .aload_n 0, 43, 0, 0, 0), (43, .new 25, 46, 2, 0, 0), (46, .dup, 47, 0, 0, 0), (47, .invokespecial 27, 50, 34, 1, 0)],
  [(50, .putfield 32, 53, 3, 4, 0), (53, .aload_n 0, 54, 0, 0, 0), (54, .new 25, 57, 2, 0, 0), (57, .dup, 58, 0, 0, 0), (58, .invokespecial 27, 61, 34, 1, 0), (61, .putfield 35, 64, 3, 5, 0)],
  [(64, .return_, 65, 0, 0, 0)]])
noncomputable def MX4_tellsRow : eM := (yX4_tellsRow, cX4_tellsRow, 4, (Option.some Jvm.ClassFile.FieldType.boolean), [], (0, 0), 3, [[(0, .aload_n 1, 1, 1, 0, 0), (1, .aload_n 0, 2, 0, 0, 0), (2, .getfield 18, 5, 3, 1, 0), (5, .invokestatic 38, 8, 3, 2, 0), (8, .aload_n 0, 9, 0, 0, 0), (9, .getfield 18, 12, 3, 1, 0), (12, .invokevirtual 44, 15, 22, 1, 0), (15, .istore_n 3, 16, 3, 0, 0)],
  [(16, .aload_n 0, 17, 0, 0, 0), (17, .getfield 18, 20, 3, 1, 0), (20, .aload_n 0, 21, 0, 0, 0), (21, .getfield 22, 24, 3, 2, 0), (24, .invokestatic 38, 27, 3, 2, 0), (27, .aload_n 0, 28, 0, 0, 0), (28, .getfield 22, 31, 3, 2, 0), (31, .invokevirtual 44, 34, 22, 1, 0)],
  [(34, .ifCond .ne 5, 37, 39, 0, 0), (37, .iconst 0, 38, 0, 0, 0), (38, .ireturn, 39, 0, 0, 0), (39, .aload_n 2, 40, 2, 0, 0), (40, .aload_n 1, 41, 1, 0, 0), (41, .invokevirtual 48, 44, 24, 2, 0), (44, .ifCond .eq 13, 47, 57, 0, 0), (47, .aload_n 0, 48, 0, 0, 0)],
  [(48, .aload_n 1, 49, 1, 0, 0), (49, .iload_n 3, 50, 3, 0, 0), (50, .aload_n 2, 51, 2, 0, 0), (51, .invokevirtual 52, 54, 53, 4, 0), (54, .ifCond .eq 7, 57, 61, 0, 0), (57, .iconst 1, 58, 1, 0, 0), (58, .goto 4, 61, 62, 0, 0), (61, .iconst 0, 62, 0, 0, 0), (62, .ireturn, 63, 0, 0, 0)]])
noncomputable def MX4_tellsFilling : eM := (yX4_tellsFilling, cX4_tellsFilling, 6, (Option.some Jvm.ClassFile.FieldType.boolean), [], (0, 0), 3, [[(0, .aload_n 0, 1, 0, 0, 0), (1, .getfield 9, 4, 3, 0, 0), (4, .aload_n 1, 5, 1, 0, 0), (5, .aload_n 3, 6, 3, 0, 0), (6, .invokevirtual 56, 9, 10, 3, 0), (9, .istore 4, 11, 4, 0, 0), (11, .iload 4, 13, 4, 0, 0), (13, .ifCond .eq 9, 16, 22, 0, 0)],
  [(16, .iload_n 2, 17, 2, 0, 0), (17, .ifCond .ne 5, 20, 22, 0, 0), (20, .iconst 0, 21, 0, 0, 0), (21, .ireturn, 22, 0, 0, 0), (22, .aload_n 1, 23, 1, 0, 0), (23, .invokevirtual 44, 26, 22, 1, 0), (26, .ifCond .eq 6, 29, 32, 0, 0), (29, .iload 4, 31, 4, 0, 0), (31, .ireturn, 32, 0, 0, 0)],
  [(32, .aload_n 1, 33, 1, 0, 0), (33, .iconst 0, 34, 0, 0, 0), (34, .invokevirtual 60, 37, 31, 2, 0), (37, .invokestatic 64, 40, 124, 1, 1), (40, .istore 5, 42, 5, 0, 0), (42, .iload 5, 44, 5, 0, 0), (44, .ifCond .ne 19, 47, 63, 0, 0), (47, .iload 4, 49, 4, 0, 0)],
  [(49, .aload_n 1, 50, 1, 0, 0), (50, .aload_n 3, 51, 3, 0, 0), (51, .invokestatic 67, 54, 71, 2, 0), (54, .if_icmp .ne 7, 57, 61, 0, 0), (57, .iconst 1, 58, 1, 0, 0), (58, .goto 4, 61, 62, 0, 0), (61, .iconst 0, 62, 0, 0, 0), (62, .ireturn, 63, 0, 0, 0), (63, .iload 4, 65, 4, 0, 0)],
  [(65, .ifCond .ne 20, 68, 85, 0, 0), (68, .iload_n 2, 69, 2, 0, 0), (69, .ifCond .eq 16, 72, 85, 0, 0), (72, .aload_n 0, 73, 0, 0, 0), (73, .getfield 9, 76, 3, 0, 0), (76, .aload_n 3, 77, 3, 0, 0), (77, .iload 5, 79, 5, 0, 0), (79, .invokevirtual 72, 82, 8, 3, 0)],
  [(82, .ifCond .eq 7, 85, 89, 0, 0), (85, .iconst 1, 86, 1, 0, 0), (86, .goto 4, 89, 90, 0, 0), (89, .iconst 0, 90, 0, 0, 0), (90, .ireturn, 91, 0, 0, 0)]])
noncomputable def MX4_tellsPieces : eM := (yX4_tellsPieces, cX4_tellsPieces, 3, (Option.some Jvm.ClassFile.FieldType.boolean), [], (0, 0), 3, [[(0, .aload_n 1, 1, 1, 0, 0), (1, .invokevirtual 44, 4, 22, 1, 0), (4, .ifCond .eq 5, 7, 9, 0, 0), (7, .iconst 1, 8, 1, 0, 0), (8, .ireturn, 9, 0, 0, 0), (9, .aload_n 1, 10, 1, 0, 0), (10, .invokestatic 76, 13, 68, 1, 0), (13, .istore_n 2, 14, 2, 0, 0), (14, .iload_n 2, 15, 2, 0, 0), (15, .aload_n 1, 16, 1, 0, 0)],
  [(16, .iconst 0, 17, 0, 0, 0), (17, .invokevirtual 80, 20, 27, 2, 0), (20, .aload_n 0, 21, 0, 0, 0), (21, .getfield 9, 24, 3, 0, 0), (24, .aload_n 1, 25, 1, 0, 0), (25, .iconst 1, 26, 1, 0, 0), (26, .invokevirtual 83, 29, 5, 3, 0), (29, .isub, 30, 0, 0, 0), (30, .if_icmp .ne 22, 33, 52, 0, 0)],
  [(33, .iload_n 2, 34, 2, 0, 0), (34, .aload_n 0, 35, 0, 0, 0), (35, .getfield 9, 38, 3, 0, 0), (38, .aload_n 1, 39, 1, 0, 0), (39, .iconst 0, 40, 0, 0, 0), (40, .invokevirtual 72, 43, 8, 3, 0), (43, .iconst 1, 44, 1, 0, 0), (44, .iadd, 45, 0, 0, 0), (45, .if_icmp .ne 7, 48, 52, 0, 0)],
  [(48, .iconst 1, 49, 1, 0, 0), (49, .goto 4, 52, 53, 0, 0), (52, .iconst 0, 53, 0, 0, 0), (53, .ireturn, 54, 0, 0, 0)]])
noncomputable def MX4_tellsSignedCount : eM := (yX4_tellsSignedCount, cX4_tellsSignedCount, 2, (Option.some Jvm.ClassFile.FieldType.boolean), [], (0, 0), 3, [[(0, .aload_n 1, 1, 1, 0, 0), (1, .invokevirtual 44, 4, 22, 1, 0), (4, .ifCond .eq 5, 7, 9, 0, 0), (7, .iconst 1, 8, 1, 0, 0), (8, .ireturn, 9, 0, 0, 0), (9, .aload_n 0, 10, 0, 0, 0), (10, .getfield 28, 13, 3, 3, 0), (13, .aload_n 1, 14, 1, 0, 0), (14, .aload_n 0, 15, 0, 0, 0), (15, .getfield 9, 18, 3, 0, 0)],
  [(18, .invokevirtual 86, 21, 35, 3, 0), (21, .aload_n 1, 22, 1, 0, 0), (22, .invokevirtual 90, 25, 28, 1, 0), (25, .aload_n 0, 26, 0, 0, 0), (26, .getfield 28, 29, 3, 3, 0), (29, .invokevirtual 94, 32, 38, 1, 0)],
  [(32, .iconst 1, 33, 1, 0, 0), (33, .iadd, 34, 0, 0, 0), (34, .if_icmp .ne 7, 37, 41, 0, 0), (37, .iconst 1, 38, 1, 0, 0), (38, .goto 4, 41, 42, 0, 0), (41, .iconst 0, 42, 0, 0, 0), (42, .ireturn, 43, 0, 0, 0)]])
noncomputable def MX4_tellsCone : eM := (yX4_tellsCone, cX4_tellsCone, 3, (Option.some Jvm.ClassFile.FieldType.boolean), [], (0, 0), 3, [[(0, .bipush 127, 2, 127, 0, 0), (2, .aload_n 1, 3, 1, 0, 0), (3, .invokevirtual 97, 6, 30, 1, 0), (6, .iconst (-1), 7, 0, 1, 0), (7, .ixor, 8, 0, 0, 0), (8, .iand, 9, 0, 0, 0), (9, .invokestatic 100, 12, 125, 1, 1), (12, .istore_n 2, 13, 2, 0, 0), (13, .iload_n 2, 14, 2, 0, 0), (14, .ifCond .ne 5, 17, 19, 0, 0)],
  [(17, .iconst 1, 18, 1, 0, 0), (18, .ireturn, 19, 0, 0, 0), (19, .aload_n 1, 20, 1, 0, 0), (20, .iload_n 2, 21, 2, 0, 0), (21, .aload_n 0, 22, 0, 0, 0), (22, .getfield 18, 25, 3, 1, 0), (25, .invokestatic 103, 28, 43, 3, 0), (28, .aload_n 0, 29, 0, 0, 0), (29, .aload_n 0, 30, 0, 0, 0), (30, .getfield 18, 33, 3, 1, 0)],
  [(33, .invokevirtual 109, 36, 58, 2, 0), (36, .ireturn, 37, 0, 0, 0)]])
noncomputable def MX4_tellsAbout : eM := (yX4_tellsAbout, cX4_tellsAbout, 3, (Option.some Jvm.ClassFile.FieldType.boolean), [], (0, 0), 3, [[(0, .aload_n 1, 1, 1, 0, 0), (1, .iload_n 2, 2, 2, 0, 0), (2, .iconst 0, 3, 0, 0, 0), (3, .aload_n 0, 4, 0, 0, 0), (4, .getfield 18, 7, 3, 1, 0), (7, .invokestatic 112, 10, 42, 4, 0), (10, .aload_n 0, 11, 0, 0, 0), (11, .aload_n 0, 12, 0, 0, 0), (12, .getfield 18, 15, 3, 1, 0), (15, .invokevirtual 109, 18, 58, 2, 0)],
  [(18, .ireturn, 19, 0, 0, 0)]])
noncomputable def MX4_isOneWithoutHoles : eM := (yX4_isOneWithoutHoles, cX4_isOneWithoutHoles, 2, (Option.some Jvm.ClassFile.FieldType.boolean), [], (0, 0), 3, [[(0, .aload_n 0, 1, 0, 0, 0), (1, .getfield 32, 4, 3, 4, 0), (4, .aload_n 1, 5, 1, 0, 0), (5, .aload_n 0, 6, 0, 0, 0), (6, .getfield 9, 9, 3, 0, 0), (9, .invokevirtual 86, 12, 35, 3, 0), (12, .aload_n 0, 13, 0, 0, 0), (13, .getfield 32, 16, 3, 4, 0)],
  [(16, .invokevirtual 116, 19, 37, 1, 0), (19, .ifCond .eq 15, 22, 34, 0, 0), (22, .aload_n 1, 23, 1, 0, 0), (23, .invokestatic 76, 26, 68, 1, 0), (26, .iconst 1, 27, 1, 0, 0), (27, .if_icmp .ne 7, 30, 34, 0, 0), (30, .iconst 1, 31, 1, 0, 0), (31, .goto 4, 34, 35, 0, 0)],
  [(34, .iconst 0, 35, 0, 0, 0), (35, .ireturn, 36, 0, 0, 0)]])
noncomputable def MX4_tellsLift : eM := (yX4_tellsLift, cX4_tellsLift, 6, (Option.some Jvm.ClassFile.FieldType.boolean), [], (0, 0), 3, [[(0, .bipush 127, 2, 127, 0, 0), (2, .aload_n 1, 3, 1, 0, 0), (3, .invokevirtual 97, 6, 30, 1, 0), (6, .iconst (-1), 7, 0, 1, 0), (7, .ixor, 8, 0, 0, 0), (8, .iand, 9, 0, 0, 0), (9, .istore_n 2, 10, 2, 0, 0), (10, .iload_n 2, 11, 2, 0, 0), (11, .invokestatic 100, 14, 125, 1, 1), (14, .istore_n 3, 15, 3, 0, 0), (15, .iload_n 2, 16, 2, 0, 0)],
  [(16, .iload_n 3, 17, 3, 0, 0), (17, .iconst (-1), 18, 0, 1, 0), (18, .ixor, 19, 0, 0, 0), (19, .iand, 20, 0, 0, 0), (20, .invokestatic 100, 23, 125, 1, 1), (23, .istore 4, 25, 4, 0, 0), (25, .aload_n 1, 26, 1, 0, 0), (26, .invokevirtual 44, 29, 22, 1, 0), (29, .ifCond .ne 8, 32, 37, 0, 0)],
  [(32, .iload 4, 34, 4, 0, 0), (34, .ifCond .ne 5, 37, 39, 0, 0), (37, .iconst 1, 38, 1, 0, 0), (38, .ireturn, 39, 0, 0, 0), (39, .aload_n 1, 40, 1, 0, 0), (40, .iload_n 3, 41, 3, 0, 0), (41, .iload 4, 43, 4, 0, 0), (43, .aload_n 0, 44, 0, 0, 0), (44, .getfield 18, 47, 3, 1, 0), (47, .invokestatic 119, 50, 44, 4, 0)],
  [(50, .aload_n 0, 51, 0, 0, 0), (51, .getfield 28, 54, 3, 3, 0), (54, .aload_n 1, 55, 1, 0, 0), (55, .aload_n 0, 56, 0, 0, 0), (56, .getfield 9, 59, 3, 0, 0), (59, .invokevirtual 86, 62, 35, 3, 0), (62, .aload_n 0, 63, 0, 0, 0), (63, .getfield 32, 66, 3, 4, 0)],
  [(66, .aload_n 0, 67, 0, 0, 0), (67, .getfield 18, 70, 3, 1, 0), (70, .aload_n 0, 71, 0, 0, 0), (71, .getfield 9, 74, 3, 0, 0), (74, .invokevirtual 86, 77, 35, 3, 0), (77, .iconst 0, 78, 0, 0, 0), (78, .istore 5, 80, 5, 0, 0)],
  [(80, .iload 5, 82, 5, 0, 0), (82, .bipush 7, 84, 7, 0, 0), (84, .if_icmp .gt 34, 87, 118, 0, 0), (87, .aload_n 0, 88, 0, 0, 0), (88, .getfield 32, 91, 3, 4, 0), (91, .iload 5, 93, 5, 0, 0), (93, .invokevirtual 123, 96, 36, 2, 0)],
  [(96, .aload_n 0, 97, 0, 0, 0), (97, .getfield 28, 100, 3, 3, 0), (100, .iload 5, 102, 5, 0, 0), (102, .iconst 1, 103, 1, 0, 0), (103, .isub, 104, 0, 0, 0), (104, .invokevirtual 123, 107, 36, 2, 0), (107, .if_icmp .eq 5, 110, 112, 0, 0), (110, .iconst 0, 111, 0, 0, 0), (111, .ireturn, 112, 0, 0, 0)],
  [(112, .iinc 5 1, 115, 5, 1, 0), (115, .goto (-35), 118, 80, 0, 0), (118, .iconst 1, 119, 1, 0, 0), (119, .ireturn, 120, 0, 0, 0)]])
noncomputable def MX4_tellsTouching : eM := (yX4_tellsTouching, cX4_tellsTouching, 4, (Option.some Jvm.ClassFile.FieldType.boolean), [], (0, 0), 3, [[(0, .aload_n 0, 1, 0, 0, 0), (1, .getfield 18, 4, 3, 1, 0), (4, .aload_n 1, 5, 1, 0, 0), (5, .aload_n 2, 6, 2, 0, 0), (6, .invokevirtual 126, 9, 21, 3, 0), (9, .aload_n 0, 10, 0, 0, 0), (10, .getfield 18, 13, 3, 1, 0), (13, .invokevirtual 129, 16, 25, 1, 0)],
  [(16, .iconst 1, 17, 1, 0, 0), (17, .if_icmp .eq 5, 20, 22, 0, 0), (20, .iconst 1, 21, 1, 0, 0), (21, .ireturn, 22, 0, 0, 0), (22, .aload_n 0, 23, 0, 0, 0), (23, .getfield 18, 26, 3, 1, 0), (26, .aload_n 1, 27, 1, 0, 0), (27, .aload_n 2, 28, 2, 0, 0), (28, .invokevirtual 132, 31, 20, 3, 0), (31, .aload_n 0, 32, 0, 0, 0)],
  [(32, .getfield 28, 35, 3, 3, 0), (35, .aload_n 1, 36, 1, 0, 0), (36, .aload_n 0, 37, 0, 0, 0), (37, .getfield 9, 40, 3, 0, 0), (40, .invokevirtual 86, 43, 35, 3, 0), (43, .aload_n 0, 44, 0, 0, 0), (44, .getfield 35, 47, 3, 5, 0), (47, .aload_n 2, 48, 2, 0, 0)],
  [(48, .aload_n 0, 49, 0, 0, 0), (49, .getfield 9, 52, 3, 0, 0), (52, .invokevirtual 86, 55, 35, 3, 0), (55, .aload_n 0, 56, 0, 0, 0), (56, .getfield 32, 59, 3, 4, 0), (59, .aload_n 0, 60, 0, 0, 0), (60, .getfield 18, 63, 3, 1, 0), (63, .aload_n 0, 64, 0, 0, 0)],
  [(64, .getfield 9, 67, 3, 0, 0), (67, .invokevirtual 86, 70, 35, 3, 0), (70, .iconst 0, 71, 0, 0, 0), (71, .istore_n 3, 72, 3, 0, 0), (72, .iload_n 3, 73, 3, 0, 0), (73, .bipush 7, 75, 7, 0, 0), (75, .if_icmp .ge 39, 78, 114, 0, 0), (78, .aload_n 0, 79, 0, 0, 0), (79, .getfield 32, 82, 3, 4, 0)],
  [(82, .iload_n 3, 83, 3, 0, 0), (83, .invokevirtual 123, 86, 36, 2, 0), (86, .aload_n 0, 87, 0, 0, 0), (87, .getfield 28, 90, 3, 3, 0), (90, .iload_n 3, 91, 3, 0, 0), (91, .invokevirtual 123, 94, 36, 2, 0), (94, .aload_n 0, 95, 0, 0, 0), (95, .getfield 35, 98, 3, 5, 0)],
  [(98, .iload_n 3, 99, 3, 0, 0), (99, .invokevirtual 123, 102, 36, 2, 0), (102, .iadd, 103, 0, 0, 0), (103, .if_icmp .eq 5, 106, 108, 0, 0), (106, .iconst 0, 107, 0, 0, 0), (107, .ireturn, 108, 0, 0, 0), (108, .iinc 3 1, 111, 3, 1, 0), (111, .goto (-39), 114, 72, 0, 0)],
  [(114, .iconst 1, 115, 1, 0, 0), (115, .ireturn, 116, 0, 0, 0)]])
noncomputable def MX4_tellsFold : eM := (yX4_tellsFold, cX4_tellsFold, 3, (Option.some Jvm.ClassFile.FieldType.boolean), [], (0, 0), 3, [[(0, .aload_n 1, 1, 1, 0, 0), (1, .iload_n 2, 2, 2, 0, 0), (2, .invokevirtual 135, 5, 32, 2, 0), (5, .iconst 1, 6, 1, 0, 0), (6, .if_icmp .eq 5, 9, 11, 0, 0), (9, .iconst 1, 10, 1, 0, 0), (10, .ireturn, 11, 0, 0, 0), (11, .aload_n 0, 12, 0, 0, 0), (12, .getfield 18, 15, 3, 1, 0), (15, .aload_n 1, 16, 1, 0, 0)],
  [(16, .invokevirtual 138, 19, 19, 2, 0), (19, .aload_n 0, 20, 0, 0, 0), (20, .getfield 18, 23, 3, 1, 0), (23, .aload_n 1, 24, 1, 0, 0), (24, .iload_n 2, 25, 2, 0, 0), (25, .invokevirtual 142, 28, 33, 2, 0), (28, .invokevirtual 145, 31, 14, 2, 0), (31, .aload_n 0, 32, 0, 0, 0)],
  [(32, .getfield 18, 35, 3, 1, 0), (35, .iload_n 2, 36, 2, 0, 0), (36, .invokevirtual 145, 39, 14, 2, 0), (39, .aload_n 0, 40, 0, 0, 0), (40, .getfield 28, 43, 3, 3, 0), (43, .aload_n 1, 44, 1, 0, 0), (44, .aload_n 0, 45, 0, 0, 0), (45, .getfield 9, 48, 3, 0, 0)],
  [(48, .invokevirtual 86, 51, 35, 3, 0), (51, .aload_n 0, 52, 0, 0, 0), (52, .getfield 32, 55, 3, 4, 0), (55, .aload_n 0, 56, 0, 0, 0), (56, .getfield 18, 59, 3, 1, 0), (59, .aload_n 0, 60, 0, 0, 0), (60, .getfield 9, 63, 3, 0, 0), (63, .invokevirtual 86, 66, 35, 3, 0)],
  [(66, .aload_n 0, 67, 0, 0, 0), (67, .getfield 32, 70, 3, 4, 0), (70, .aload_n 0, 71, 0, 0, 0), (71, .getfield 28, 74, 3, 3, 0), (74, .invokevirtual 149, 77, 40, 2, 0), (77, .ireturn, 78, 0, 0, 0)]])
noncomputable def MX4_tellsTaking : eM := (yX4_tellsTaking, cX4_tellsTaking, 4, (Option.some Jvm.ClassFile.FieldType.boolean), [], (0, 0), 3, [[(0, .aload_n 1, 1, 1, 0, 0), (1, .iload_n 2, 2, 2, 0, 0), (2, .invokevirtual 135, 5, 32, 2, 0), (5, .ifCond .ne 11, 8, 16, 0, 0), (8, .aload_n 1, 9, 1, 0, 0), (9, .invokevirtual 129, 12, 25, 1, 0), (12, .iconst 1, 13, 1, 0, 0), (13, .if_icmp .ne 5, 16, 18, 0, 0)],
  [(16, .iconst 1, 17, 1, 0, 0), (17, .ireturn, 18, 0, 0, 0), (18, .aload_n 0, 19, 0, 0, 0), (19, .getfield 18, 22, 3, 1, 0), (22, .aload_n 1, 23, 1, 0, 0), (23, .invokevirtual 138, 26, 19, 2, 0), (26, .aload_n 0, 27, 0, 0, 0), (27, .getfield 18, 30, 3, 1, 0), (30, .iload_n 2, 31, 2, 0, 0), (31, .invokevirtual 145, 34, 14, 2, 0)],
  [(34, .aload_n 0, 35, 0, 0, 0), (35, .getfield 28, 38, 3, 3, 0), (38, .aload_n 1, 39, 1, 0, 0), (39, .aload_n 0, 40, 0, 0, 0), (40, .getfield 9, 43, 3, 0, 0), (43, .invokevirtual 86, 46, 35, 3, 0), (46, .aload_n 0, 47, 0, 0, 0), (47, .getfield 32, 50, 3, 4, 0)],
  [(50, .aload_n 0, 51, 0, 0, 0), (51, .getfield 18, 54, 3, 1, 0), (54, .aload_n 0, 55, 0, 0, 0), (55, .getfield 9, 58, 3, 0, 0), (58, .invokevirtual 86, 61, 35, 3, 0), (61, .iload_n 2, 62, 2, 0, 0), (62, .invokestatic 64, 65, 124, 1, 1)],
  [(65, .istore_n 3, 66, 3, 0, 0), (66, .aload_n 0, 67, 0, 0, 0), (67, .getfield 32, 70, 3, 4, 0), (70, .iload_n 3, 71, 3, 0, 0), (71, .iconst (-1), 72, 0, 1, 0), (72, .aload_n 0, 73, 0, 0, 0), (73, .getfield 28, 76, 3, 3, 0), (76, .invokevirtual 153, 79, 39, 4, 0), (79, .ifCond .ne 25, 82, 104, 0, 0)],
  [(82, .iload_n 3, 83, 3, 0, 0), (83, .ifCond .le 25, 86, 108, 0, 0), (86, .aload_n 0, 87, 0, 0, 0), (87, .getfield 32, 90, 3, 4, 0), (90, .iload_n 3, 91, 3, 0, 0), (91, .iconst 1, 92, 1, 0, 0), (92, .isub, 93, 0, 0, 0), (93, .iconst 1, 94, 1, 0, 0), (94, .aload_n 0, 95, 0, 0, 0), (95, .getfield 28, 98, 3, 3, 0)],
  [(98, .invokevirtual 153, 101, 39, 4, 0), (101, .ifCond .eq 7, 104, 108, 0, 0), (104, .iconst 1, 105, 1, 0, 0), (105, .goto 4, 108, 109, 0, 0), (108, .iconst 0, 109, 0, 0, 0), (109, .ireturn, 110, 0, 0, 0)]])
noncomputable def MX4_tellsSums : eM := (yX4_tellsSums, cX4_tellsSums, 5, (Option.some Jvm.ClassFile.FieldType.boolean), [], (0, 0), 3, [[(0, .aload_n 0, 1, 0, 0, 0), (1, .getfield 18, 4, 3, 1, 0), (4, .aload_n 1, 5, 1, 0, 0), (5, .aload_n 2, 6, 2, 0, 0), (6, .invokevirtual 126, 9, 21, 3, 0), (9, .aload_n 0, 10, 0, 0, 0), (10, .getfield 22, 13, 3, 2, 0), (13, .aload_n 1, 14, 1, 0, 0), (14, .aload_n 2, 15, 2, 0, 0), (15, .invokevirtual 132, 18, 20, 3, 0)],
  [(18, .iconst 0, 19, 0, 0, 0), (19, .istore_n 3, 20, 3, 0, 0), (20, .iload_n 3, 21, 3, 0, 0), (21, .bipush 7, 23, 7, 0, 0), (23, .if_icmp .ge 46, 26, 69, 0, 0), (26, .aload_n 1, 27, 1, 0, 0), (27, .iload_n 3, 28, 3, 0, 0), (28, .invokevirtual 80, 31, 27, 2, 0), (31, .aload_n 2, 32, 2, 0, 0)],
  [(32, .iload_n 3, 33, 3, 0, 0), (33, .invokevirtual 80, 36, 27, 2, 0), (36, .iadd, 37, 0, 0, 0), (37, .istore 4, 39, 4, 0, 0), (39, .aload_n 0, 40, 0, 0, 0), (40, .getfield 18, 43, 3, 1, 0), (43, .iload_n 3, 44, 3, 0, 0), (44, .invokevirtual 80, 47, 27, 2, 0), (47, .aload_n 0, 48, 0, 0, 0)],
  [(48, .getfield 22, 51, 3, 2, 0), (51, .iload_n 3, 52, 3, 0, 0), (52, .invokevirtual 80, 55, 27, 2, 0), (55, .iadd, 56, 0, 0, 0), (56, .iload 4, 58, 4, 0, 0), (58, .if_icmp .eq 5, 61, 63, 0, 0), (61, .iconst 0, 62, 0, 0, 0), (62, .ireturn, 63, 0, 0, 0), (63, .iinc 3 1, 66, 3, 1, 0)],
  [(66, .goto (-46), 69, 20, 0, 0), (69, .iconst 1, 70, 1, 0, 0), (70, .ireturn, 71, 0, 0, 0)]])
noncomputable def MX4_tellsOther : eM := (yX4_tellsOther, cX4_tellsOther, 4, (Option.some Jvm.ClassFile.FieldType.boolean), [], (0, 0), 3, [[(0, .iload_n 2, 1, 2, 0, 0), (1, .invokestatic 157, 4, 200, 1, 0), (4, .istore_n 3, 5, 3, 0, 0), (5, .iload_n 3, 6, 3, 0, 0), (6, .iconst 2, 7, 2, 0, 0), (7, .if_icmp .lt 11, 10, 18, 0, 0), (10, .aload_n 1, 11, 1, 0, 0), (11, .iload_n 2, 12, 2, 0, 0), (12, .invokevirtual 162, 15, 12, 2, 0), (15, .ifCond .eq 5, 18, 20, 0, 0)],
  [(18, .iconst 1, 19, 1, 0, 0), (19, .ireturn, 20, 0, 0, 0), (20, .aload_n 1, 21, 1, 0, 0), (21, .iload_n 2, 22, 2, 0, 0), (22, .aload_n 0, 23, 0, 0, 0), (23, .getfield 18, 26, 3, 1, 0), (26, .invokestatic 166, 29, 46, 3, 0), (29, .aload_n 0, 30, 0, 0, 0), (30, .getfield 18, 33, 3, 1, 0)],
  [(33, .iload_n 2, 34, 2, 0, 0), (34, .aload_n 0, 35, 0, 0, 0), (35, .getfield 22, 38, 3, 2, 0), (38, .invokestatic 166, 41, 46, 3, 0), (41, .aload_n 0, 42, 0, 0, 0), (42, .getfield 22, 45, 3, 2, 0), (45, .aload_n 1, 46, 1, 0, 0), (46, .invokevirtual 169, 49, 23, 2, 0)],
  [(49, .ifCond .eq 31, 52, 80, 0, 0), (52, .aload_n 1, 53, 1, 0, 0), (53, .invokevirtual 44, 56, 22, 1, 0), (56, .ifCond .ne 20, 59, 76, 0, 0), (59, .aload_n 1, 60, 1, 0, 0), (60, .iload_n 3, 61, 3, 0, 0), (61, .invokestatic 172, 64, 65, 2, 0)],
  [(64, .ifCond .ne 12, 67, 76, 0, 0), (67, .aload_n 0, 68, 0, 0, 0), (68, .aload_n 1, 69, 1, 0, 0), (69, .iload_n 3, 70, 3, 0, 0), (70, .invokevirtual 176, 73, 66, 3, 0), (73, .ifCond .eq 7, 76, 80, 0, 0), (76, .iconst 1, 77, 1, 0, 0), (77, .goto 4, 80, 81, 0, 0)],
  [(80, .iconst 0, 81, 0, 0, 0), (81, .ireturn, 82, 0, 0, 0)]])
noncomputable def MX4_isRim : eM := (yX4_isRim, cX4_isRim, 2, (Option.some Jvm.ClassFile.FieldType.boolean), [], (0, 0), 3, [[(0, .aload_n 0, 1, 0, 0, 0), (1, .invokevirtual 129, 4, 25, 1, 0), (4, .iconst 1, 5, 1, 0, 0), (5, .iload_n 1, 6, 1, 0, 0), (6, .ishl, 7, 0, 0, 0), (7, .iconst 2, 8, 2, 0, 0), (8, .isub, 9, 0, 0, 0), (9, .if_icmp .ne 7, 12, 16, 0, 0), (12, .iconst 1, 13, 1, 0, 0), (13, .goto 4, 16, 17, 0, 0)],
  [(16, .iconst 0, 17, 0, 0, 0), (17, .ireturn, 18, 0, 0, 0)]])
noncomputable def MX4_areOpposed : eM := (yX4_areOpposed, cX4_areOpposed, 7, (Option.some Jvm.ClassFile.FieldType.boolean), [], (0, 0), 3, [[(0, .aload_n 0, 1, 0, 0, 0), (1, .getfield 28, 4, 3, 3, 0), (4, .aload_n 1, 5, 1, 0, 0), (5, .aload_n 0, 6, 0, 0, 0), (6, .getfield 9, 9, 3, 0, 0), (9, .invokevirtual 86, 12, 35, 3, 0), (12, .aload_n 0, 13, 0, 0, 0), (13, .getfield 32, 16, 3, 4, 0)],
  [(16, .aload_n 0, 17, 0, 0, 0), (17, .getfield 18, 20, 3, 1, 0), (20, .aload_n 0, 21, 0, 0, 0), (21, .getfield 9, 24, 3, 0, 0), (24, .invokevirtual 86, 27, 35, 3, 0), (27, .iload_n 2, 28, 2, 0, 0), (28, .iconst 3, 29, 3, 0, 0), (29, .isub, 30, 0, 0, 0), (30, .istore_n 3, 31, 3, 0, 0), (31, .iconst 0, 32, 0, 0, 0)],
  [(32, .istore 4, 34, 4, 0, 0), (34, .iload 4, 36, 4, 0, 0), (36, .bipush 7, 38, 7, 0, 0), (38, .if_icmp .ge 77, 41, 115, 0, 0), (41, .iload 4, 43, 4, 0, 0), (43, .iload_n 3, 44, 3, 0, 0), (44, .if_icmp .le 7, 47, 51, 0, 0), (47, .iconst 1, 48, 1, 0, 0)],
  [(48, .goto 4, 51, 52, 0, 0), (51, .iconst 0, 52, 0, 0, 0), (52, .istore 5, 54, 5, 0, 0), (54, .iload 5, 56, 5, 0, 0), (56, .ifCond .eq 7, 59, 63, 0, 0), (59, .iconst 0, 60, 0, 0, 0), (60, .goto 14, 63, 74, 0, 0), (63, .aload_n 0, 64, 0, 0, 0)],
  [(64, .getfield 32, 67, 3, 4, 0), (67, .iload_n 3, 68, 3, 0, 0), (68, .iload 4, 70, 4, 0, 0), (70, .isub, 71, 0, 0, 0), (71, .invokevirtual 123, 74, 36, 2, 0), (74, .istore 6, 76, 6, 0, 0), (76, .aload_n 0, 77, 0, 0, 0), (77, .getfield 28, 80, 3, 3, 0)],
  [(80, .iload 4, 82, 4, 0, 0), (82, .invokevirtual 123, 85, 36, 2, 0), (85, .iload 6, 87, 6, 0, 0), (87, .if_icmp .ne 20, 90, 107, 0, 0), (90, .iload 5, 92, 5, 0, 0), (92, .ifCond .eq 17, 95, 109, 0, 0), (95, .aload_n 0, 96, 0, 0, 0)],
  [(96, .getfield 32, 99, 3, 4, 0), (99, .iload 4, 101, 4, 0, 0), (101, .invokevirtual 123, 104, 36, 2, 0), (104, .ifCond .eq 5, 107, 109, 0, 0), (107, .iconst 0, 108, 0, 0, 0), (108, .ireturn, 109, 0, 0, 0), (109, .iinc 4 1, 112, 4, 1, 0)],
  [(112, .goto (-78), 115, 34, 0, 0), (115, .iconst 1, 116, 1, 0, 0), (116, .ireturn, 117, 0, 0, 0)]])
noncomputable def MX4_tellsExchange : eM := (yX4_tellsExchange, cX4_tellsExchange, 5, (Option.some Jvm.ClassFile.FieldType.boolean), [], (0, 0), 3, [[(0, .aload_n 1, 1, 1, 0, 0), (1, .iload_n 2, 2, 2, 0, 0), (2, .iload_n 3, 3, 3, 0, 0), (3, .aload_n 0, 4, 0, 0, 0), (4, .getfield 18, 7, 3, 1, 0), (7, .invokestatic 179, 10, 47, 4, 0), (10, .iconst 0, 11, 0, 0, 0), (11, .istore 4, 13, 4, 0, 0), (13, .iload 4, 15, 4, 0, 0), (15, .bipush 7, 17, 7, 0, 0)],
  [(17, .if_icmp .ge 29, 20, 46, 0, 0), (20, .aload_n 0, 21, 0, 0, 0), (21, .getfield 18, 24, 3, 1, 0), (24, .iload 4, 26, 4, 0, 0), (26, .invokevirtual 80, 29, 27, 2, 0), (29, .aload_n 1, 30, 1, 0, 0), (30, .iload 4, 32, 4, 0, 0)],
  [(32, .invokevirtual 80, 35, 27, 2, 0), (35, .if_icmp .eq 5, 38, 40, 0, 0), (38, .iconst 0, 39, 0, 0, 0), (39, .ireturn, 40, 0, 0, 0), (40, .iinc 4 1, 43, 4, 1, 0), (43, .goto (-30), 46, 13, 0, 0), (46, .aload_n 0, 47, 0, 0, 0), (47, .getfield 28, 50, 3, 3, 0)],
  [(50, .aload_n 1, 51, 1, 0, 0), (51, .aload_n 0, 52, 0, 0, 0), (52, .getfield 9, 55, 3, 0, 0), (55, .invokevirtual 86, 58, 35, 3, 0), (58, .aload_n 0, 59, 0, 0, 0), (59, .getfield 32, 62, 3, 4, 0), (62, .aload_n 0, 63, 0, 0, 0), (63, .getfield 18, 66, 3, 1, 0)],
  [(66, .aload_n 0, 67, 0, 0, 0), (67, .getfield 9, 70, 3, 0, 0), (70, .invokevirtual 86, 73, 35, 3, 0), (73, .aload_n 0, 74, 0, 0, 0), (74, .getfield 32, 77, 3, 4, 0), (77, .aload_n 0, 78, 0, 0, 0), (78, .getfield 28, 81, 3, 3, 0)],
  [(81, .invokevirtual 149, 84, 40, 2, 0), (84, .ifCond .eq 21, 87, 105, 0, 0), (87, .aload_n 0, 88, 0, 0, 0), (88, .getfield 18, 91, 3, 1, 0), (91, .invokestatic 76, 94, 68, 1, 0), (94, .aload_n 1, 95, 1, 0, 0), (95, .invokestatic 76, 98, 68, 1, 0)],
  [(98, .if_icmp .ne 7, 101, 105, 0, 0), (101, .iconst 1, 102, 1, 0, 0), (102, .goto 4, 105, 106, 0, 0), (105, .iconst 0, 106, 0, 0, 0), (106, .ireturn, 107, 0, 0, 0)]])
noncomputable def MX5_countPieces : eM := (yX5_countPieces, cX5_countPieces, 4, (Option.some Jvm.ClassFile.FieldType.int), [], (0, 0), 9, [[(0, .aload_n 0, 1, 0, 0, 0), (1, .invokevirtual 9, 4, 30, 1, 0), (4, .istore_n 1, 5, 1, 0, 0), (5, .iconst 0, 6, 0, 0, 0), (6, .istore_n 2, 7, 2, 0, 0), (7, .iconst 0, 8, 0, 0, 0), (8, .istore_n 3, 9, 3, 0, 0), (9, .iload_n 3, 10, 3, 0, 0), (10, .bipush 7, 12, 7, 0, 0), (12, .if_icmp .ge 29, 15, 41, 0, 0), (15, .iload_n 1, 16, 1, 0, 0)],
  [(16, .ifCond .eq 25, 19, 41, 0, 0), (19, .iload_n 1, 20, 1, 0, 0), (20, .aload_n 0, 21, 0, 0, 0), (21, .iload_n 1, 22, 1, 0, 0), (22, .invokestatic 15, 25, 125, 1, 1), (25, .invokestatic 19, 28, 69, 2, 0), (28, .iconst (-1), 29, 0, 1, 0), (29, .ixor, 30, 0, 0, 0), (30, .iand, 31, 0, 0, 0), (31, .istore_n 1, 32, 1, 0, 0)],
  [(32, .iinc 2 1, 35, 2, 1, 0), (35, .iinc 3 1, 38, 3, 1, 0), (38, .goto (-29), 41, 9, 0, 0), (41, .iload_n 2, 42, 2, 0, 0), (42, .ireturn, 43, 0, 0, 0)]])
noncomputable def MX5_pieceFrom : eM := (yX5_pieceFrom, cX5_pieceFrom, 6, (Option.some Jvm.ClassFile.FieldType.int), [], (0, 0), 9, [[(0, .iload_n 1, 1, 1, 0, 0), (1, .istore_n 2, 2, 2, 0, 0), (2, .iconst 0, 3, 0, 0, 0), (3, .istore_n 3, 4, 3, 0, 0), (4, .iconst 0, 5, 0, 0, 0), (5, .istore 4, 7, 4, 0, 0), (7, .iload 4, 9, 4, 0, 0), (9, .bipush 7, 11, 7, 0, 0), (11, .if_icmp .ge 38, 14, 49, 0, 0), (14, .iload_n 3, 15, 3, 0, 0), (15, .iload_n 2, 16, 2, 0, 0)],
  [(16, .if_icmp .eq 33, 19, 49, 0, 0), (19, .iload_n 2, 20, 2, 0, 0), (20, .iload_n 3, 21, 3, 0, 0), (21, .iconst (-1), 22, 0, 1, 0), (22, .ixor, 23, 0, 0, 0), (23, .iand, 24, 0, 0, 0), (24, .invokestatic 15, 27, 125, 1, 1), (27, .istore 5, 29, 5, 0, 0), (29, .iload_n 3, 30, 3, 0, 0), (30, .iload 5, 32, 5, 0, 0)],
  [(32, .ior, 33, 0, 0, 0), (33, .istore_n 3, 34, 3, 0, 0), (34, .iload_n 2, 35, 2, 0, 0), (35, .aload_n 0, 36, 0, 0, 0), (36, .iload 5, 38, 5, 0, 0), (38, .invokestatic 25, 41, 70, 2, 0), (41, .ior, 42, 0, 0, 0), (42, .istore_n 2, 43, 2, 0, 0), (43, .iinc 4 1, 46, 4, 1, 0), (46, .goto (-39), 49, 7, 0, 0)],
  [(49, .iload_n 2, 50, 2, 0, 0), (50, .ireturn, 51, 0, 0, 0)]])
noncomputable def MX5_neighbours : eM := (yX5_neighbours, cX5_neighbours, 5, (Option.some Jvm.ClassFile.FieldType.int), [], (0, 0), 9, [[(0, .iconst 0, 1, 0, 0, 0), (1, .istore_n 2, 2, 2, 0, 0), (2, .iconst 0, 3, 0, 0, 0), (3, .istore_n 3, 4, 3, 0, 0), (4, .iload_n 3, 5, 3, 0, 0), (5, .bipush 7, 7, 7, 0, 0), (7, .if_icmp .ge 30, 10, 37, 0, 0), (10, .iconst 1, 11, 1, 0, 0), (11, .iload_n 3, 12, 3, 0, 0), (12, .ishl, 13, 0, 0, 0), (13, .istore 4, 15, 4, 0, 0), (15, .aload_n 0, 16, 0, 0, 0)],
  [(16, .iload_n 1, 17, 1, 0, 0), (17, .iload 4, 19, 4, 0, 0), (19, .ior, 20, 0, 0, 0), (20, .invokevirtual 28, 23, 12, 2, 0), (23, .ifCond .eq 8, 26, 31, 0, 0), (26, .iload_n 2, 27, 2, 0, 0), (27, .iload 4, 29, 4, 0, 0), (29, .ior, 30, 0, 0, 0), (30, .istore_n 2, 31, 2, 0, 0), (31, .iinc 3 1, 34, 3, 1, 0)],
  [(34, .goto (-30), 37, 4, 0, 0), (37, .iload_n 2, 38, 2, 0, 0), (38, .ireturn, 39, 0, 0, 0)]])
noncomputable def MX5_areEven : eM := (yX5_areEven, cX5_areEven, 6, (Option.some Jvm.ClassFile.FieldType.boolean), [], (0, 0), 9, [[(0, .aload_n 0, 1, 0, 0, 0), (1, .invokevirtual 9, 4, 30, 1, 0), (4, .istore_n 2, 5, 2, 0, 0), (5, .aload_n 1, 6, 1, 0, 0), (6, .invokevirtual 9, 9, 30, 1, 0), (9, .istore_n 3, 10, 3, 0, 0), (10, .iconst 0, 11, 0, 0, 0), (11, .istore 4, 13, 4, 0, 0), (13, .iload 4, 15, 4, 0, 0), (15, .bipush 7, 17, 7, 0, 0)],
  [(17, .if_icmp .ge 44, 20, 61, 0, 0), (20, .iload_n 3, 21, 3, 0, 0), (21, .ifCond .eq 40, 24, 61, 0, 0), (24, .aload_n 1, 25, 1, 0, 0), (25, .iload_n 3, 26, 3, 0, 0), (26, .invokestatic 15, 29, 125, 1, 1), (29, .invokestatic 19, 32, 69, 2, 0)],
  [(32, .istore 5, 34, 5, 0, 0), (34, .iload 5, 36, 5, 0, 0), (36, .iload_n 2, 37, 2, 0, 0), (37, .iand, 38, 0, 0, 0), (38, .invokestatic 32, 41, 200, 1, 0), (41, .iconst 2, 42, 2, 0, 0), (42, .irem, 43, 0, 0, 0), (43, .ifCond .eq 5, 46, 48, 0, 0), (46, .iconst 0, 47, 0, 0, 0), (47, .ireturn, 48, 0, 0, 0)],
  [(48, .iload_n 3, 49, 3, 0, 0), (49, .iload 5, 51, 5, 0, 0), (51, .iconst (-1), 52, 0, 1, 0), (52, .ixor, 53, 0, 0, 0), (53, .iand, 54, 0, 0, 0), (54, .istore_n 3, 55, 3, 0, 0), (55, .iinc 4 1, 58, 4, 1, 0), (58, .goto (-45), 61, 13, 0, 0), (61, .iconst 1, 62, 1, 0, 0), (62, .ireturn, 63, 0, 0, 0)]])
noncomputable def MX6_init : eM := (yX6_init, cX6_init, 2, (Option.none : Option Jvm.ClassFile.FieldType), [], (30, 400), 4, [[(0, .aload_n 0, 1, 0, 0, 0), (1, .invokespecial 1, 4, 0, 0, 2), (4, .aload_n 0, 5, 0, 0, 0), (5, .bipush 6, 7, 6, 0, 0), (7, .anewarray 9, 10, 0, 0, 0), (10, .putfield 11, 13, 4, 0, 0), (13, .iconst 0, 14, 0, 0, 0), (14, .istore_n 1, 15, 1, 0, 0), (15, .iload_n 1, 16, 1, 0, 0)],
  [(16, .bipush 6, 18, 6, 0, 0), (18, .if_icmp .ge 22, 21, 40, 0, 0), (21, .aload_n 0, 22, 0, 0, 0), (22, .getfield 11, 25, 4, 0, 0), (25, .iload_n 1, 26, 1, 0, 0), (26, .new 9, 29, 1, 0, 0), (29, .dup, 30, 0, 0, 0), (30, .invokespecial 15, 33, 11, 1, 1)],
  [(33, .aastore, 34, 0, 0, 0), (34, .iinc 1 1, 37, 1, 1, 0), (37, .goto (-22), 40, 15, 0, 0), (40, .aload_n 0, 41, 0, 0, 0), (41, .new 9, 44, 1, 0, 0), (44, .dup, 45, 0, 0, 0), (45, .invokespecial 15, 48, 11, 1, 1)],
  [(48, .putfield 16, 51, 4, 1, 0), (51, .aload_n 0, 52, 0, 0, 0), (52, .new 9, 55, 1, 0, 0), (55, .dup, 56, 0, 0, 0), (56, .invokespecial 15, 59, 11, 1, 1), (59, .putfield 20, 62, 4, 2, 0), (62, .aload_n 0, 63, 0, 0, 0), (63, .new 23, 66, 0, 0, 0)],
  [(66, .dup, 67, 0, 0, 0), (67, .invokespecial 25, 70, 0, 1, 0), (70, .putfield 26, 73, 4, 3, 0), (73, .aload_n 0, 74, 0, 0, 0), (74, .new 30, 77, 3, 0, 0), (77, .dup, 78, 0, 0, 0), (78, .aload_n 0, 79, 0, 0, 0), (79, .getfield 26, 82, 4, 3, 0)],
  [(82, .invokespecial 32, 85, 51, 2, 0), (85, .putfield 35, 88, 4, 4, 0), (88, .return_, 89, 0, 0, 0)]])
noncomputable def MX6_put : eM := (yX6_put, cX6_put, 5, (Option.some Jvm.ClassFile.FieldType.int), [], (2, 12), 4, [[(0, .aload_n 0, 1, 0, 0, 0), (1, .iload_n 1, 2, 1, 0, 0), (2, .invokevirtual 39, 5, 114, 2, 0), (5, .astore_n 3, 6, 3, 0, 0), (6, .iload_n 2, 7, 2, 0, 0), (7, .invokestatic 43, 10, 117, 1, 0), (10, .aload_n 3, 11, 3, 0, 0), (11, .invokevirtual 47, 14, 25, 1, 0), (14, .istore 4, 16, 4, 0, 0)],
  [(16, .aload_n 3, 17, 3, 0, 0), (17, .iload_n 2, 18, 2, 0, 0), (18, .invokevirtual 51, 21, 16, 2, 0), (21, .aload_n 3, 22, 3, 0, 0), (22, .invokevirtual 47, 25, 25, 1, 0), (25, .iload 4, 27, 4, 0, 0), (27, .isub, 28, 0, 0, 0), (28, .ireturn, 29, 0, 0, 0)]])
noncomputable def MX6_take : eM := (yX6_take, cX6_take, 5, (Option.some Jvm.ClassFile.FieldType.int), [], (3, 18), 4, [[(0, .aload_n 0, 1, 0, 0, 0), (1, .iload_n 1, 2, 1, 0, 0), (2, .invokevirtual 39, 5, 114, 2, 0), (5, .astore_n 3, 6, 3, 0, 0), (6, .iload_n 2, 7, 2, 0, 0), (7, .invokestatic 43, 10, 117, 1, 0), (10, .aload_n 3, 11, 3, 0, 0), (11, .iload_n 2, 12, 2, 0, 0), (12, .invokestatic 54, 15, 120, 2, 0), (15, .aload_n 3, 16, 3, 0, 0)],
  [(16, .invokevirtual 47, 19, 25, 1, 0), (19, .istore 4, 21, 4, 0, 0), (21, .aload_n 3, 22, 3, 0, 0), (22, .iload_n 2, 23, 2, 0, 0), (23, .invokevirtual 58, 26, 17, 2, 0), (26, .iload 4, 28, 4, 0, 0), (28, .aload_n 3, 29, 3, 0, 0), (29, .invokevirtual 47, 32, 25, 1, 0)],
  [(32, .isub, 33, 0, 0, 0), (33, .ireturn, 34, 0, 0, 0)]])
noncomputable def MX6_clear : eM := (yX6_clear, cX6_clear, 2, (Option.some Jvm.ClassFile.FieldType.int), [], (1, 6), 4, [[(0, .aload_n 0, 1, 0, 0, 0), (1, .iload_n 1, 2, 1, 0, 0), (2, .invokevirtual 39, 5, 114, 2, 0), (5, .invokestatic 61, 8, 116, 1, 0), (8, .ireturn, 9, 0, 0, 0)]])
noncomputable def MX6_copy : eM := (yX6_copy, cX6_copy, 5, (Option.some Jvm.ClassFile.FieldType.int), [], (2, 12), 4, [[(0, .aload_n 0, 1, 0, 0, 0), (1, .iload_n 1, 2, 1, 0, 0), (2, .invokevirtual 39, 5, 114, 2, 0), (5, .astore_n 3, 6, 3, 0, 0), (6, .aload_n 0, 7, 0, 0, 0), (7, .iload_n 2, 8, 2, 0, 0), (8, .invokevirtual 39, 11, 114, 2, 0), (11, .astore 4, 13, 4, 0, 0), (13, .aload 4, 15, 4, 0, 0), (15, .aload_n 3, 16, 3, 0, 0)],
  [(16, .invokevirtual 65, 19, 19, 2, 0), (19, .aload 4, 21, 4, 0, 0), (21, .invokevirtual 47, 24, 25, 1, 0), (24, .ireturn, 25, 0, 0, 0)]])
noncomputable def MX6_unite : eM := (yX6_unite, cX6_unite, 7, (Option.some Jvm.ClassFile.FieldType.int), [], (3, 18), 4, [[(0, .aload_n 0, 1, 0, 0, 0), (1, .iload_n 1, 2, 1, 0, 0), (2, .invokevirtual 39, 5, 114, 2, 0), (5, .astore 4, 7, 4, 0, 0), (7, .aload_n 0, 8, 0, 0, 0), (8, .iload_n 2, 9, 2, 0, 0), (9, .invokevirtual 39, 12, 114, 2, 0), (12, .astore 5, 14, 5, 0, 0), (14, .aload_n 0, 15, 0, 0, 0), (15, .iload_n 3, 16, 3, 0, 0)],
  [(16, .invokevirtual 39, 19, 114, 2, 0), (19, .astore 6, 21, 6, 0, 0), (21, .aload_n 0, 22, 0, 0, 0), (22, .getfield 20, 25, 4, 2, 0), (25, .aload 4, 27, 4, 0, 0), (27, .aload 5, 29, 5, 0, 0), (29, .invokevirtual 69, 32, 20, 3, 0)],
  [(32, .aload_n 0, 33, 0, 0, 0), (33, .aload 6, 35, 6, 0, 0), (35, .invokevirtual 73, 38, 115, 2, 0), (38, .ireturn, 39, 0, 0, 0)]])
noncomputable def MX6_meet : eM := (yX6_meet, cX6_meet, 7, (Option.some Jvm.ClassFile.FieldType.int), [], (3, 18), 4, [[(0, .aload_n 0, 1, 0, 0, 0), (1, .iload_n 1, 2, 1, 0, 0), (2, .invokevirtual 39, 5, 114, 2, 0), (5, .astore 4, 7, 4, 0, 0), (7, .aload_n 0, 8, 0, 0, 0), (8, .iload_n 2, 9, 2, 0, 0), (9, .invokevirtual 39, 12, 114, 2, 0), (12, .astore 5, 14, 5, 0, 0), (14, .aload_n 0, 15, 0, 0, 0), (15, .iload_n 3, 16, 3, 0, 0)],
  [(16, .invokevirtual 39, 19, 114, 2, 0), (19, .astore 6, 21, 6, 0, 0), (21, .aload_n 0, 22, 0, 0, 0), (22, .getfield 20, 25, 4, 2, 0), (25, .aload 4, 27, 4, 0, 0), (27, .aload 5, 29, 5, 0, 0), (29, .invokevirtual 76, 32, 21, 3, 0)],
  [(32, .aload_n 0, 33, 0, 0, 0), (33, .aload 6, 35, 6, 0, 0), (35, .invokevirtual 73, 38, 115, 2, 0), (38, .ireturn, 39, 0, 0, 0)]])
noncomputable def MX6_full : eM := (yX6_full, cX6_full, 5, (Option.some Jvm.ClassFile.FieldType.int), [], (2, 12), 4, [[(0, .aload_n 0, 1, 0, 0, 0), (1, .iload_n 3, 2, 3, 0, 0), (2, .invokevirtual 39, 5, 114, 2, 0), (5, .astore 4, 7, 4, 0, 0), (7, .iload_n 1, 8, 1, 0, 0), (8, .invokestatic 43, 11, 117, 1, 0), (11, .aload 4, 13, 4, 0, 0), (13, .invokevirtual 79, 16, 18, 1, 0)],
  [(16, .aload 4, 18, 4, 0, 0), (18, .iload_n 1, 19, 1, 0, 0), (19, .invokevirtual 51, 22, 16, 2, 0), (22, .iload_n 2, 23, 2, 0, 0), (23, .ifCond .eq 9, 26, 32, 0, 0), (26, .aload 4, 28, 4, 0, 0), (28, .iload_n 1, 29, 1, 0, 0), (29, .invokevirtual 82, 32, 14, 2, 0)],
  [(32, .aload 4, 34, 4, 0, 0), (34, .invokevirtual 47, 37, 25, 1, 0), (37, .ireturn, 38, 0, 0, 0)]])
noncomputable def MX6_low : eM := (yX6_low, cX6_low, 6, (Option.some Jvm.ClassFile.FieldType.int), [], (3, 18), 4, [[(0, .aload_n 0, 1, 0, 0, 0), (1, .iload_n 1, 2, 1, 0, 0), (2, .invokevirtual 39, 5, 114, 2, 0), (5, .astore 4, 7, 4, 0, 0), (7, .aload_n 0, 8, 0, 0, 0), (8, .iload_n 3, 9, 3, 0, 0), (9, .invokevirtual 39, 12, 114, 2, 0), (12, .astore 5, 14, 5, 0, 0), (14, .iload_n 2, 15, 2, 0, 0), (15, .iconst 0, 16, 0, 0, 0)],
  [(16, .invokestatic 85, 19, 119, 2, 0), (19, .aload 4, 21, 4, 0, 0), (21, .iload_n 2, 22, 2, 0, 0), (22, .aload_n 0, 23, 0, 0, 0), (23, .getfield 20, 26, 4, 2, 0), (26, .invokestatic 89, 29, 41, 3, 0), (29, .aload_n 0, 30, 0, 0, 0), (30, .aload 5, 32, 5, 0, 0)],
  [(32, .invokevirtual 73, 35, 115, 2, 0), (35, .ireturn, 36, 0, 0, 0)]])
noncomputable def MX6_about : eM := (yX6_about, cX6_about, 7, (Option.some Jvm.ClassFile.FieldType.int), [], (4, 24), 4, [[(0, .aload_n 0, 1, 0, 0, 0), (1, .iload_n 1, 2, 1, 0, 0), (2, .invokevirtual 39, 5, 114, 2, 0), (5, .astore 5, 7, 5, 0, 0), (7, .aload_n 0, 8, 0, 0, 0), (8, .iload 4, 10, 4, 0, 0), (10, .invokevirtual 39, 13, 114, 2, 0), (13, .astore 6, 15, 6, 0, 0), (15, .iload_n 2, 16, 2, 0, 0)],
  [(16, .invokestatic 43, 19, 117, 1, 0), (19, .aload 5, 21, 5, 0, 0), (21, .iload_n 2, 22, 2, 0, 0), (22, .invokestatic 54, 25, 120, 2, 0), (25, .aload 5, 27, 5, 0, 0), (27, .iload_n 2, 28, 2, 0, 0), (28, .iload_n 3, 29, 3, 0, 0), (29, .aload_n 0, 30, 0, 0, 0), (30, .getfield 20, 33, 4, 2, 0)],
  [(33, .invokestatic 95, 36, 42, 4, 0), (36, .aload_n 0, 37, 0, 0, 0), (37, .aload 6, 39, 6, 0, 0), (39, .invokevirtual 73, 42, 115, 2, 0), (42, .ireturn, 43, 0, 0, 0)]])
noncomputable def MX6_cone : eM := (yX6_cone, cX6_cone, 6, (Option.some Jvm.ClassFile.FieldType.int), [], (4, 24), 4, [[(0, .aload_n 0, 1, 0, 0, 0), (1, .iload_n 1, 2, 1, 0, 0), (2, .invokevirtual 39, 5, 114, 2, 0), (5, .astore 4, 7, 4, 0, 0), (7, .aload_n 0, 8, 0, 0, 0), (8, .iload_n 3, 9, 3, 0, 0), (9, .invokevirtual 39, 12, 114, 2, 0), (12, .astore 5, 14, 5, 0, 0), (14, .iload_n 2, 15, 2, 0, 0), (15, .invokestatic 99, 18, 118, 1, 0)],
  [(18, .aload 4, 20, 4, 0, 0), (20, .iload_n 2, 21, 2, 0, 0), (21, .invokestatic 102, 24, 121, 2, 0), (24, .aload 4, 26, 4, 0, 0), (26, .iconst 1, 27, 1, 0, 0), (27, .iload_n 2, 28, 2, 0, 0), (28, .ishl, 29, 0, 0, 0), (29, .aload_n 0, 30, 0, 0, 0), (30, .getfield 20, 33, 4, 2, 0)],
  [(33, .invokestatic 105, 36, 43, 3, 0), (36, .aload_n 0, 37, 0, 0, 0), (37, .aload 5, 39, 5, 0, 0), (39, .invokevirtual 73, 42, 115, 2, 0), (42, .ireturn, 43, 0, 0, 0)]])
noncomputable def MX6_lift : eM := (yX6_lift, cX6_lift, 7, (Option.some Jvm.ClassFile.FieldType.int), [], (7, 42), 4, [[(0, .aload_n 0, 1, 0, 0, 0), (1, .iload_n 1, 2, 1, 0, 0), (2, .invokevirtual 39, 5, 114, 2, 0), (5, .astore 5, 7, 5, 0, 0), (7, .aload_n 0, 8, 0, 0, 0), (8, .iload 4, 10, 4, 0, 0), (10, .invokevirtual 39, 13, 114, 2, 0), (13, .astore 6, 15, 6, 0, 0), (15, .iload_n 2, 16, 2, 0, 0)],
  [(16, .invokestatic 99, 19, 118, 1, 0), (19, .iload_n 3, 20, 3, 0, 0), (20, .invokestatic 99, 23, 118, 1, 0), (23, .iload_n 2, 24, 2, 0, 0), (24, .iload_n 3, 25, 3, 0, 0), (25, .if_icmp .ne 13, 28, 38, 0, 0), (28, .new 108, 31, 1, 0, 1)],
  [(38, .aload 5, 40, 5, 0, 0), (40, .iload_n 2, 41, 2, 0, 0), (41, .invokestatic 102, 44, 121, 2, 0), (44, .aload 5, 46, 5, 0, 0), (46, .iload_n 3, 47, 3, 0, 0), (47, .invokestatic 102, 50, 121, 2, 0)],
  [(50, .aload 5, 52, 5, 0, 0), (52, .iconst 1, 53, 1, 0, 0), (53, .iload_n 2, 54, 2, 0, 0), (54, .ishl, 55, 0, 0, 0), (55, .iconst 1, 56, 1, 0, 0), (56, .iload_n 3, 57, 3, 0, 0), (57, .ishl, 58, 0, 0, 0), (58, .aload_n 0, 59, 0, 0, 0), (59, .getfield 20, 62, 4, 2, 0), (62, .invokestatic 115, 65, 44, 4, 0)],
  [(65, .aload_n 0, 66, 0, 0, 0), (66, .aload 6, 68, 6, 0, 0), (68, .invokevirtual 73, 71, 115, 2, 0), (71, .ireturn, 72, 0, 0, 0)]])
noncomputable def MX6_other : eM := (yX6_other, cX6_other, 6, (Option.some Jvm.ClassFile.FieldType.int), [], (4, 24), 4, [[(0, .aload_n 0, 1, 0, 0, 0), (1, .iload_n 1, 2, 1, 0, 0), (2, .invokevirtual 39, 5, 114, 2, 0), (5, .astore 4, 7, 4, 0, 0), (7, .aload_n 0, 8, 0, 0, 0), (8, .iload_n 3, 9, 3, 0, 0), (9, .invokevirtual 39, 12, 114, 2, 0), (12, .astore 5, 14, 5, 0, 0), (14, .iload_n 2, 15, 2, 0, 0), (15, .invokestatic 43, 18, 117, 1, 0)],
  [(18, .aload 4, 20, 4, 0, 0), (20, .invokevirtual 119, 23, 30, 1, 0), (23, .iload_n 2, 24, 2, 0, 0), (24, .iconst (-1), 25, 0, 1, 0), (25, .ixor, 26, 0, 0, 0), (26, .iand, 27, 0, 0, 0), (27, .ifCond .eq 13, 30, 40, 0, 0), (30, .new 122, 33, 2, 0, 1)],
  [(40, .aload 4, 42, 4, 0, 0), (42, .iload_n 2, 43, 2, 0, 0), (43, .aload_n 0, 44, 0, 0, 0), (44, .getfield 20, 47, 4, 2, 0), (47, .invokestatic 127, 50, 46, 3, 0)],
  [(50, .aload_n 0, 51, 0, 0, 0), (51, .aload 5, 53, 5, 0, 0), (53, .invokevirtual 73, 56, 115, 2, 0), (56, .ireturn, 57, 0, 0, 0)]])
noncomputable def MX6_exchange : eM := (yX6_exchange, cX6_exchange, 8, (Option.some Jvm.ClassFile.FieldType.int), [], (4, 24), 4, [[(0, .aload_n 0, 1, 0, 0, 0), (1, .iload_n 1, 2, 1, 0, 0), (2, .invokevirtual 39, 5, 114, 2, 0), (5, .astore 5, 7, 5, 0, 0), (7, .aload_n 0, 8, 0, 0, 0), (8, .iload 4, 10, 4, 0, 0), (10, .invokevirtual 39, 13, 114, 2, 0), (13, .astore 6, 15, 6, 0, 0), (15, .iload_n 2, 16, 2, 0, 0)],
  [(16, .invokestatic 99, 19, 118, 1, 0), (19, .iload_n 3, 20, 3, 0, 0), (20, .invokestatic 99, 23, 118, 1, 0), (23, .aload 5, 25, 5, 0, 0), (25, .iload_n 2, 26, 2, 0, 0), (26, .iload_n 3, 27, 3, 0, 0), (27, .aload_n 0, 28, 0, 0, 0), (28, .getfield 20, 31, 4, 2, 0), (31, .invokestatic 130, 34, 47, 4, 0)],
  [(34, .aload_n 0, 35, 0, 0, 0), (35, .getfield 20, 38, 4, 2, 0), (38, .aload 5, 40, 5, 0, 0), (40, .invokevirtual 133, 43, 26, 2, 0), (43, .istore 7, 45, 7, 0, 0), (45, .aload 6, 47, 6, 0, 0), (47, .aload_n 0, 48, 0, 0, 0)],
  [(48, .getfield 20, 51, 4, 2, 0), (51, .invokevirtual 65, 54, 19, 2, 0), (54, .iload 7, 56, 7, 0, 0), (56, .ireturn, 57, 0, 0, 0)]])
noncomputable def MX6_fold : eM := (yX6_fold, cX6_fold, 5, (Option.some Jvm.ClassFile.FieldType.int), [], (4, 24), 4, [[(0, .aload_n 0, 1, 0, 0, 0), (1, .iload_n 1, 2, 1, 0, 0), (2, .invokevirtual 39, 5, 114, 2, 0), (5, .astore_n 3, 6, 3, 0, 0), (6, .iload_n 2, 7, 2, 0, 0), (7, .invokestatic 43, 10, 117, 1, 0), (10, .aload_n 3, 11, 3, 0, 0), (11, .iload_n 2, 12, 2, 0, 0), (12, .invokestatic 54, 15, 120, 2, 0), (15, .aload_n 3, 16, 3, 0, 0)],
  [(16, .iload_n 2, 17, 2, 0, 0), (17, .invokevirtual 136, 20, 32, 2, 0), (20, .iconst 1, 21, 1, 0, 0), (21, .if_icmp .eq 13, 24, 34, 0, 0), (24, .new 122, 27, 2, 0, 1)],
  [(34, .aload_n 3, 35, 3, 0, 0), (35, .iload_n 2, 36, 2, 0, 0), (36, .invokevirtual 142, 39, 33, 2, 0), (39, .istore 4, 41, 4, 0, 0), (41, .aload_n 3, 42, 3, 0, 0), (42, .iload_n 2, 43, 2, 0, 0), (43, .invokevirtual 82, 46, 14, 2, 0), (46, .aload_n 3, 47, 3, 0, 0), (47, .iload 4, 49, 4, 0, 0)],
  [(49, .invokevirtual 82, 52, 14, 2, 0), (52, .iload 4, 54, 4, 0, 0), (54, .ireturn, 55, 0, 0, 0)]])
noncomputable def MX6_has : eM := (yX6_has, cX6_has, 4, (Option.some Jvm.ClassFile.FieldType.boolean), [], (2, 12), 4, [[(0, .aload_n 0, 1, 0, 0, 0), (1, .iload_n 1, 2, 1, 0, 0), (2, .invokevirtual 39, 5, 114, 2, 0), (5, .astore_n 3, 6, 3, 0, 0), (6, .iload_n 2, 7, 2, 0, 0), (7, .invokestatic 43, 10, 117, 1, 0), (10, .aload_n 3, 11, 3, 0, 0), (11, .iload_n 2, 12, 2, 0, 0), (12, .invokevirtual 145, 15, 12, 2, 0), (15, .ireturn, 16, 0, 0, 0)]])
noncomputable def MX6_size : eM := (yX6_size, cX6_size, 2, (Option.some Jvm.ClassFile.FieldType.int), [], (1, 6), 4, [[(0, .aload_n 0, 1, 0, 0, 0), (1, .iload_n 1, 2, 1, 0, 0), (2, .invokevirtual 39, 5, 114, 2, 0), (5, .invokevirtual 47, 8, 25, 1, 0), (8, .ireturn, 9, 0, 0, 0)]])
noncomputable def MX6_faces : eM := (yX6_faces, cX6_faces, 4, (Option.some Jvm.ClassFile.FieldType.int), [], (2, 12), 4, [[(0, .aload_n 0, 1, 0, 0, 0), (1, .iload_n 1, 2, 1, 0, 0), (2, .invokevirtual 39, 5, 114, 2, 0), (5, .astore_n 3, 6, 3, 0, 0), (6, .iload_n 2, 7, 2, 0, 0), (7, .iconst 0, 8, 0, 0, 0), (8, .invokestatic 85, 11, 119, 2, 0), (11, .aload_n 3, 12, 3, 0, 0), (12, .iload_n 2, 13, 2, 0, 0), (13, .invokevirtual 149, 16, 27, 2, 0)],
  [(16, .ireturn, 17, 0, 0, 0)]])
noncomputable def MX6_corners : eM := (yX6_corners, cX6_corners, 2, (Option.some Jvm.ClassFile.FieldType.int), [], (1, 6), 4, [[(0, .aload_n 0, 1, 0, 0, 0), (1, .iload_n 1, 2, 1, 0, 0), (2, .invokevirtual 39, 5, 114, 2, 0), (5, .invokevirtual 119, 8, 30, 1, 0), (8, .ireturn, 9, 0, 0, 0)]])
noncomputable def MX6_over : eM := (yX6_over, cX6_over, 4, (Option.some Jvm.ClassFile.FieldType.int), [], (3, 18), 4, [[(0, .aload_n 0, 1, 0, 0, 0), (1, .iload_n 1, 2, 1, 0, 0), (2, .invokevirtual 39, 5, 114, 2, 0), (5, .astore_n 3, 6, 3, 0, 0), (6, .iload_n 2, 7, 2, 0, 0), (7, .invokestatic 43, 10, 117, 1, 0), (10, .aload_n 3, 11, 3, 0, 0), (11, .iload_n 2, 12, 2, 0, 0), (12, .invokestatic 54, 15, 120, 2, 0), (15, .aload_n 3, 16, 3, 0, 0)],
  [(16, .iload_n 2, 17, 2, 0, 0), (17, .invokevirtual 136, 20, 32, 2, 0), (20, .ireturn, 21, 0, 0, 0)]])
noncomputable def MX6_greatest : eM := (yX6_greatest, cX6_greatest, 2, (Option.some Jvm.ClassFile.FieldType.int), [], (1, 6), 4, [[(0, .aload_n 0, 1, 0, 0, 0), (1, .iload_n 1, 2, 1, 0, 0), (2, .invokevirtual 39, 5, 114, 2, 0), (5, .aload_n 0, 6, 0, 0, 0), (6, .getfield 20, 9, 4, 2, 0), (9, .invokestatic 152, 12, 49, 2, 0), (12, .aload_n 0, 13, 0, 0, 0), (13, .getfield 20, 16, 4, 2, 0)],
  [(16, .invokevirtual 47, 19, 25, 1, 0), (19, .ireturn, 20, 0, 0, 0)]])
noncomputable def MX6_greatestAt : eM := (yX6_greatestAt, cX6_greatestAt, 3, (Option.some Jvm.ClassFile.FieldType.int), [], (2, 12), 4, [[(0, .aload_n 0, 1, 0, 0, 0), (1, .iload_n 1, 2, 1, 0, 0), (2, .invokevirtual 39, 5, 114, 2, 0), (5, .aload_n 0, 6, 0, 0, 0), (6, .getfield 20, 9, 4, 2, 0), (9, .invokestatic 152, 12, 49, 2, 0), (12, .aload_n 0, 13, 0, 0, 0), (13, .getfield 20, 16, 4, 2, 0)],
  [(16, .iload_n 2, 17, 2, 0, 0), (17, .invokestatic 155, 20, 122, 2, 0), (20, .ireturn, 21, 0, 0, 0)]])
noncomputable def MX6_isSame : eM := (yX6_isSame, cX6_isSame, 5, (Option.some Jvm.ClassFile.FieldType.boolean), [], (2, 12), 4, [[(0, .aload_n 0, 1, 0, 0, 0), (1, .iload_n 1, 2, 1, 0, 0), (2, .invokevirtual 39, 5, 114, 2, 0), (5, .astore_n 3, 6, 3, 0, 0), (6, .aload_n 0, 7, 0, 0, 0), (7, .iload_n 2, 8, 2, 0, 0), (8, .invokevirtual 39, 11, 114, 2, 0), (11, .astore 4, 13, 4, 0, 0), (13, .aload_n 3, 14, 3, 0, 0), (14, .aload 4, 16, 4, 0, 0)],
  [(16, .invokevirtual 159, 19, 23, 2, 0), (19, .ireturn, 20, 0, 0, 0)]])
noncomputable def MX6_contains : eM := (yX6_contains, cX6_contains, 5, (Option.some Jvm.ClassFile.FieldType.boolean), [], (2, 12), 4, [[(0, .aload_n 0, 1, 0, 0, 0), (1, .iload_n 1, 2, 1, 0, 0), (2, .invokevirtual 39, 5, 114, 2, 0), (5, .astore_n 3, 6, 3, 0, 0), (6, .aload_n 0, 7, 0, 0, 0), (7, .iload_n 2, 8, 2, 0, 0), (8, .invokevirtual 39, 11, 114, 2, 0), (11, .astore 4, 13, 4, 0, 0), (13, .aload_n 3, 14, 3, 0, 0), (14, .aload 4, 16, 4, 0, 0)],
  [(16, .invokevirtual 163, 19, 24, 2, 0), (19, .ireturn, 20, 0, 0, 0)]])
noncomputable def MX6_pieces : eM := (yX6_pieces, cX6_pieces, 2, (Option.some Jvm.ClassFile.FieldType.int), [], (1, 6), 4, [[(0, .aload_n 0, 1, 0, 0, 0), (1, .iload_n 1, 2, 1, 0, 0), (2, .invokevirtual 39, 5, 114, 2, 0), (5, .invokestatic 166, 8, 68, 1, 0), (8, .ireturn, 9, 0, 0, 0)]])
noncomputable def MX6_areJoined : eM := (yX6_areJoined, cX6_areJoined, 5, (Option.some Jvm.ClassFile.FieldType.boolean), [], (5, 30), 4, [[(0, .aload_n 0, 1, 0, 0, 0), (1, .iload_n 1, 2, 1, 0, 0), (2, .invokevirtual 39, 5, 114, 2, 0), (5, .astore 4, 7, 4, 0, 0), (7, .iload_n 2, 8, 2, 0, 0), (8, .invokestatic 99, 11, 118, 1, 0), (11, .iload_n 3, 12, 3, 0, 0), (12, .invokestatic 99, 15, 118, 1, 0), (15, .aload 4, 17, 4, 0, 0)],
  [(17, .iconst 1, 18, 1, 0, 0), (18, .iload_n 2, 19, 2, 0, 0), (19, .ishl, 20, 0, 0, 0), (20, .invokestatic 54, 23, 120, 2, 0), (23, .aload 4, 25, 4, 0, 0), (25, .iconst 1, 26, 1, 0, 0), (26, .iload_n 3, 27, 3, 0, 0), (27, .ishl, 28, 0, 0, 0), (28, .invokestatic 54, 31, 120, 2, 0), (31, .aload 4, 33, 4, 0, 0)],
  [(33, .iconst 1, 34, 1, 0, 0), (34, .iload_n 2, 35, 2, 0, 0), (35, .ishl, 36, 0, 0, 0), (36, .invokestatic 171, 39, 69, 2, 0), (39, .iconst 1, 40, 1, 0, 0), (40, .iload_n 3, 41, 3, 0, 0), (41, .ishl, 42, 0, 0, 0), (42, .iand, 43, 0, 0, 0), (43, .ifCond .eq 7, 46, 50, 0, 0), (46, .iconst 1, 47, 1, 0, 0), (47, .goto 4, 50, 51, 0, 0)],
  [(50, .iconst 0, 51, 0, 0, 0), (51, .ireturn, 52, 0, 0, 0)]])
noncomputable def MX6_free : eM := (yX6_free, cX6_free, 4, (Option.some Jvm.ClassFile.FieldType.int), [], (2, 12), 4, [[(0, .aload_n 0, 1, 0, 0, 0), (1, .iload_n 1, 2, 1, 0, 0), (2, .invokevirtual 39, 5, 114, 2, 0), (5, .astore_n 3, 6, 3, 0, 0), (6, .iload_n 2, 7, 2, 0, 0), (7, .iconst 1, 8, 1, 0, 0), (8, .invokestatic 85, 11, 119, 2, 0), (11, .aload_n 0, 12, 0, 0, 0), (12, .getfield 26, 15, 4, 3, 0), (15, .aload_n 3, 16, 3, 0, 0)],
  [(16, .iload_n 2, 17, 2, 0, 0), (17, .invokevirtual 174, 20, 5, 3, 0), (20, .ireturn, 21, 0, 0, 0)]])
noncomputable def MX6_holes : eM := (yX6_holes, cX6_holes, 4, (Option.some Jvm.ClassFile.FieldType.int), [], (2, 12), 4, [[(0, .aload_n 0, 1, 0, 0, 0), (1, .iload_n 1, 2, 1, 0, 0), (2, .invokevirtual 39, 5, 114, 2, 0), (5, .astore_n 3, 6, 3, 0, 0), (6, .iload_n 2, 7, 2, 0, 0), (7, .iconst 0, 8, 0, 0, 0), (8, .invokestatic 85, 11, 119, 2, 0), (11, .aload_n 0, 12, 0, 0, 0), (12, .getfield 26, 15, 4, 3, 0), (15, .aload_n 3, 16, 3, 0, 0)],
  [(16, .iload_n 2, 17, 2, 0, 0), (17, .invokevirtual 177, 20, 8, 3, 0), (20, .ireturn, 21, 0, 0, 0)]])
noncomputable def MX6_signed : eM := (yX6_signed, cX6_signed, 2, (Option.some Jvm.ClassFile.FieldType.int), [], (1, 6), 4, [[(0, .aload_n 0, 1, 0, 0, 0), (1, .iload_n 1, 2, 1, 0, 0), (2, .invokevirtual 39, 5, 114, 2, 0), (5, .invokevirtual 180, 8, 28, 1, 0), (8, .ireturn, 9, 0, 0, 0)]])
noncomputable def MX6_flip : eM := (yX6_flip, cX6_flip, 2, (Option.some Jvm.ClassFile.FieldType.int), [], (2, 12), 4, [[(0, .iload_n 1, 1, 1, 0, 0), (1, .invokestatic 43, 4, 117, 1, 0), (4, .aload_n 0, 5, 0, 0, 0), (5, .getfield 16, 8, 4, 1, 0), (8, .invokevirtual 183, 11, 22, 1, 0), (11, .ifCond .ne 31, 14, 42, 0, 0), (14, .aload_n 0, 15, 0, 0, 0), (15, .getfield 16, 18, 4, 1, 0)],
  [(18, .iconst 0, 19, 0, 0, 0), (19, .invokevirtual 187, 22, 31, 2, 0), (22, .invokestatic 190, 25, 124, 1, 0), (25, .iload_n 1, 26, 1, 0, 0), (26, .invokestatic 190, 29, 124, 1, 0), (29, .if_icmp .eq 13, 32, 42, 0, 0)],
  [(32, .new 122, 35, 2, 0, 1), (42, .aload_n 0, 43, 0, 0, 0), (43, .getfield 16, 46, 4, 1, 0), (46, .iload_n 1, 47, 1, 0, 0), (47, .invokevirtual 195, 50, 15, 2, 0)],
  [(50, .aload_n 0, 51, 0, 0, 0), (51, .getfield 16, 54, 4, 1, 0), (54, .invokevirtual 47, 57, 25, 1, 0), (57, .ireturn, 58, 0, 0, 0)]])
noncomputable def MX6_border : eM := (yX6_border, cX6_border, 1, (Option.some Jvm.ClassFile.FieldType.int), [], (0, 0), 4, [[(0, .aload_n 0, 1, 0, 0, 0), (1, .getfield 16, 4, 4, 1, 0), (4, .aload_n 0, 5, 0, 0, 0), (5, .getfield 20, 8, 4, 2, 0), (8, .invokestatic 198, 11, 3, 2, 0), (11, .aload_n 0, 12, 0, 0, 0), (12, .aload_n 0, 13, 0, 0, 0), (13, .getfield 16, 16, 4, 1, 0)],
  [(16, .invokevirtual 73, 19, 115, 2, 0), (19, .ireturn, 20, 0, 0, 0)]])
noncomputable def MX6_drop : eM := (yX6_drop, cX6_drop, 1, (Option.some Jvm.ClassFile.FieldType.int), [], (0, 0), 4, [[(0, .aload_n 0, 1, 0, 0, 0), (1, .getfield 16, 4, 4, 1, 0), (4, .invokestatic 61, 7, 116, 1, 0), (7, .ireturn, 8, 0, 0, 0)]])
noncomputable def MX6_rowAt : eM := (yX6_rowAt, cX6_rowAt, 2, (Option.some Jvm.ClassFile.FieldType.int), [], (1, 6), 4, [[(0, .aload_n 0, 1, 0, 0, 0), (1, .getfield 16, 4, 4, 1, 0), (4, .iload_n 1, 5, 1, 0, 0), (5, .invokestatic 155, 8, 122, 2, 0), (8, .ireturn, 9, 0, 0, 0)]])
noncomputable def MX6_isRound : eM := (yX6_isRound, cX6_isRound, 1, (Option.some Jvm.ClassFile.FieldType.boolean), [], (0, 0), 4, [[(0, .aload_n 0, 1, 0, 0, 0), (1, .getfield 16, 4, 4, 1, 0), (4, .aload_n 0, 5, 0, 0, 0), (5, .getfield 20, 8, 4, 2, 0), (8, .invokestatic 198, 11, 3, 2, 0), (11, .aload_n 0, 12, 0, 0, 0), (12, .getfield 20, 15, 4, 2, 0), (15, .invokevirtual 183, 18, 22, 1, 0)],
  [(18, .ireturn, 19, 0, 0, 0)]])
noncomputable def MX6_fills : eM := (yX6_fills, cX6_fills, 3, (Option.some Jvm.ClassFile.FieldType.boolean), [], (2, 12), 4, [[(0, .aload_n 0, 1, 0, 0, 0), (1, .iload_n 1, 2, 1, 0, 0), (2, .invokevirtual 39, 5, 114, 2, 0), (5, .astore_n 2, 6, 2, 0, 0), (6, .aload_n 2, 7, 2, 0, 0), (7, .aload_n 0, 8, 0, 0, 0), (8, .getfield 16, 11, 4, 1, 0), (11, .invokevirtual 163, 14, 24, 2, 0), (14, .ifCond .ne 13, 17, 27, 0, 0)],
  [(17, .new 122, 20, 2, 0, 1), (27, .aload_n 0, 28, 0, 0, 0), (28, .getfield 26, 31, 4, 3, 0), (31, .aload_n 0, 32, 0, 0, 0)],
  [(32, .getfield 16, 35, 4, 1, 0), (35, .aload_n 2, 36, 2, 0, 0), (36, .invokevirtual 203, 39, 10, 3, 0), (39, .ireturn, 40, 0, 0, 0)]])
noncomputable def MX6_mean : eM := (yX6_mean, cX6_mean, 4, (Option.some Jvm.ClassFile.FieldType.double), [], (2, 12), 4, [[(0, .aload_n 0, 1, 0, 0, 0), (1, .iload_n 1, 2, 1, 0, 0), (2, .invokevirtual 39, 5, 114, 2, 0), (5, .astore_n 2, 6, 2, 0, 0), (6, .aload_n 2, 7, 2, 0, 0), (7, .invokevirtual 47, 10, 25, 1, 0), (10, .istore_n 3, 11, 3, 0, 0), (11, .iload_n 3, 12, 3, 0, 0), (12, .ifCond .ne 13, 15, 25, 0, 0), (15, .new 207, 18, 3, 0, 1)],
  [(25, .aload_n 2, 26, 2, 0, 0), (26, .invokevirtual 212, 29, 29, 1, 0), (29, .i2d, 30, 0, 0, 0), (30, .iload_n 3, 31, 3, 0, 0), (31, .i2d, 32, 0, 0, 0)],
  [(32, .ddiv, 33, 0, 0, 0), (33, .dreturn, 34, 0, 0, 0)]])
noncomputable def MX6_share : eM := (yX6_share, cX6_share, 4, (Option.some Jvm.ClassFile.FieldType.float), [], (1, 6), 4, [[(0, .aload_n 0, 1, 0, 0, 0), (1, .iload_n 1, 2, 1, 0, 0), (2, .invokevirtual 39, 5, 114, 2, 0), (5, .astore_n 2, 6, 2, 0, 0), (6, .aload_n 2, 7, 2, 0, 0), (7, .invokevirtual 47, 10, 25, 1, 0), (10, .istore_n 3, 11, 3, 0, 0), (11, .iload_n 3, 12, 3, 0, 0), (12, .ifCond .ne 5, 15, 17, 0, 0), (15, .fconst 0, 16, 0, 0, 0)],
  [(16, .freturn, 17, 0, 0, 0), (17, .aload_n 2, 18, 2, 0, 0), (18, .aload_n 0, 19, 0, 0, 0), (19, .getfield 20, 22, 4, 2, 0), (22, .invokestatic 152, 25, 49, 2, 0), (25, .aload_n 0, 26, 0, 0, 0), (26, .getfield 20, 29, 4, 2, 0), (29, .invokevirtual 47, 32, 25, 1, 0)],
  [(32, .i2f, 33, 0, 0, 0), (33, .iload_n 3, 34, 3, 0, 0), (34, .i2f, 35, 0, 0, 0), (35, .fdiv, 36, 0, 0, 0), (36, .freturn, 37, 0, 0, 0)]])
noncomputable def MX6_checksum : eM := (yX6_checksum, cX6_checksum, 4, (Option.some Jvm.ClassFile.FieldType.long), [], (0, 0), 4, [[(0, .ldc2_w 215, 3, 17, 0, 0), (3, .lstore_n 1, 4, 1, 0, 0), (4, .iconst 0, 5, 0, 0, 0), (5, .istore_n 3, 6, 3, 0, 0), (6, .iload_n 3, 7, 3, 0, 0), (7, .bipush 6, 9, 6, 0, 0), (9, .if_icmp .ge 20, 12, 29, 0, 0), (12, .lload_n 1, 13, 1, 0, 0), (13, .aload_n 0, 14, 0, 0, 0), (14, .getfield 11, 17, 4, 0, 0)],
  [(17, .iload_n 3, 18, 3, 0, 0), (18, .aaload, 19, 0, 0, 0), (19, .invokestatic 217, 22, 123, 2, 0), (22, .lstore_n 1, 23, 1, 0, 0), (23, .iinc 3 1, 26, 3, 1, 0), (26, .goto (-20), 29, 6, 0, 0), (29, .lload_n 1, 30, 1, 0, 0), (30, .aload_n 0, 31, 0, 0, 0), (31, .getfield 16, 34, 4, 1, 0)],
  [(34, .invokestatic 217, 37, 123, 2, 0), (37, .lreturn, 38, 0, 0, 0)]])
noncomputable def MX6_isSound : eM := (yX6_isSound, cX6_isSound, 3, (Option.some Jvm.ClassFile.FieldType.boolean), [], (1, 6), 4, [[(0, .aload_n 0, 1, 0, 0, 0), (1, .iload_n 1, 2, 1, 0, 0), (2, .invokevirtual 39, 5, 114, 2, 0), (5, .astore_n 2, 6, 2, 0, 0), (6, .aload_n 0, 7, 0, 0, 0), (7, .getfield 35, 10, 4, 4, 0), (10, .aload_n 2, 11, 2, 0, 0), (11, .invokevirtual 221, 14, 54, 2, 0), (14, .ifCond .eq 33, 17, 47, 0, 0)],
  [(17, .aload_n 0, 18, 0, 0, 0), (18, .getfield 35, 21, 4, 4, 0), (21, .aload_n 2, 22, 2, 0, 0), (22, .invokevirtual 224, 25, 55, 2, 0), (25, .ifCond .eq 22, 28, 47, 0, 0), (28, .aload_n 0, 29, 0, 0, 0), (29, .getfield 35, 32, 4, 4, 0)],
  [(32, .aload_n 0, 33, 0, 0, 0), (33, .getfield 16, 36, 4, 1, 0), (36, .aload_n 2, 37, 2, 0, 0), (37, .invokevirtual 227, 40, 52, 3, 0), (40, .ifCond .eq 7, 43, 47, 0, 0), (43, .iconst 1, 44, 1, 0, 0), (44, .goto 4, 47, 48, 0, 0), (47, .iconst 0, 48, 0, 0, 0)],
  [(48, .ireturn, 49, 0, 0, 0)]])
noncomputable def MX6_isTrue : eM := (yX6_isTrue, cX6_isTrue, 5, (Option.some Jvm.ClassFile.FieldType.boolean), [], (3, 18), 4, [[(0, .aload_n 0, 1, 0, 0, 0), (1, .iload_n 1, 2, 1, 0, 0), (2, .invokevirtual 39, 5, 114, 2, 0), (5, .astore 4, 7, 4, 0, 0), (7, .iload_n 2, 8, 2, 0, 0), (8, .invokestatic 99, 11, 118, 1, 0), (11, .iload_n 3, 12, 3, 0, 0), (12, .invokestatic 99, 15, 118, 1, 0), (15, .aload_n 0, 16, 0, 0, 0)],
  [(16, .getfield 35, 19, 4, 4, 0), (19, .aload 4, 21, 4, 0, 0), (21, .invokevirtual 230, 24, 56, 2, 0), (24, .ifCond .eq 64, 27, 88, 0, 0), (27, .aload_n 0, 28, 0, 0, 0), (28, .getfield 35, 31, 4, 4, 0), (31, .aload 4, 33, 4, 0, 0)],
  [(33, .invokevirtual 233, 36, 59, 2, 0), (36, .ifCond .eq 52, 39, 88, 0, 0), (39, .aload_n 0, 40, 0, 0, 0), (40, .getfield 35, 43, 4, 4, 0), (43, .aload 4, 45, 4, 0, 0), (45, .bipush 127, 47, 127, 0, 0), (47, .invokevirtual 236, 50, 64, 3, 0)],
  [(50, .ifCond .eq 38, 53, 88, 0, 0), (53, .aload_n 0, 54, 0, 0, 0), (54, .getfield 35, 57, 4, 4, 0), (57, .aload 4, 59, 4, 0, 0), (59, .aload 4, 61, 4, 0, 0), (61, .invokevirtual 119, 64, 30, 1, 0)],
  [(64, .invokevirtual 236, 67, 64, 3, 0), (67, .ifCond .eq 21, 70, 88, 0, 0), (70, .aload_n 0, 71, 0, 0, 0), (71, .getfield 35, 74, 4, 4, 0), (74, .aload 4, 76, 4, 0, 0), (76, .iload_n 2, 77, 2, 0, 0), (77, .iload_n 3, 78, 3, 0, 0), (78, .invokevirtual 240, 81, 67, 4, 0)],
  [(81, .ifCond .eq 7, 84, 88, 0, 0), (84, .iconst 1, 85, 1, 0, 0), (85, .goto 4, 88, 89, 0, 0), (88, .iconst 0, 89, 0, 0, 0), (89, .ireturn, 90, 0, 0, 0)]])
noncomputable def MX6_faceIsTrue : eM := (yX6_faceIsTrue, cX6_faceIsTrue, 4, (Option.some Jvm.ClassFile.FieldType.boolean), [], (3, 18), 4, [[(0, .aload_n 0, 1, 0, 0, 0), (1, .iload_n 1, 2, 1, 0, 0), (2, .invokevirtual 39, 5, 114, 2, 0), (5, .astore_n 3, 6, 3, 0, 0), (6, .iload_n 2, 7, 2, 0, 0), (7, .invokestatic 43, 10, 117, 1, 0), (10, .aload_n 3, 11, 3, 0, 0), (11, .iload_n 2, 12, 2, 0, 0), (12, .invokestatic 54, 15, 120, 2, 0), (15, .aload_n 0, 16, 0, 0, 0)],
  [(16, .getfield 35, 19, 4, 4, 0), (19, .aload_n 3, 20, 3, 0, 0), (20, .iload_n 2, 21, 2, 0, 0), (21, .invokevirtual 244, 24, 57, 3, 0), (24, .ifCond .eq 31, 27, 55, 0, 0), (27, .aload_n 0, 28, 0, 0, 0), (28, .getfield 35, 31, 4, 4, 0), (31, .aload_n 3, 32, 3, 0, 0)],
  [(32, .iload_n 2, 33, 2, 0, 0), (33, .invokevirtual 247, 36, 61, 3, 0), (36, .ifCond .eq 19, 39, 55, 0, 0), (39, .aload_n 0, 40, 0, 0, 0), (40, .getfield 35, 43, 4, 4, 0), (43, .aload_n 3, 44, 3, 0, 0), (44, .iload_n 2, 45, 2, 0, 0), (45, .invokevirtual 250, 48, 62, 3, 0)],
  [(48, .ifCond .eq 7, 51, 55, 0, 0), (51, .iconst 1, 52, 1, 0, 0), (52, .goto 4, 55, 56, 0, 0), (55, .iconst 0, 56, 0, 0, 0), (56, .ireturn, 57, 0, 0, 0)]])
noncomputable def MX6_pairIsTrue : eM := (yX6_pairIsTrue, cX6_pairIsTrue, 5, (Option.some Jvm.ClassFile.FieldType.boolean), [], (2, 12), 4, [[(0, .aload_n 0, 1, 0, 0, 0), (1, .iload_n 1, 2, 1, 0, 0), (2, .invokevirtual 39, 5, 114, 2, 0), (5, .astore_n 3, 6, 3, 0, 0), (6, .aload_n 0, 7, 0, 0, 0), (7, .iload_n 2, 8, 2, 0, 0), (8, .invokevirtual 39, 11, 114, 2, 0), (11, .astore 4, 13, 4, 0, 0), (13, .aload_n 0, 14, 0, 0, 0), (14, .getfield 35, 17, 4, 4, 0)],
  [(17, .aload_n 3, 18, 3, 0, 0), (18, .aload 4, 20, 4, 0, 0), (20, .invokevirtual 253, 23, 63, 3, 0), (23, .ifCond .eq 20, 26, 43, 0, 0), (26, .aload_n 0, 27, 0, 0, 0), (27, .getfield 35, 30, 4, 4, 0), (30, .aload_n 3, 31, 3, 0, 0), (31, .aload 4, 33, 4, 0, 0)],
  [(33, .invokevirtual 256, 36, 60, 3, 0), (36, .ifCond .eq 7, 39, 43, 0, 0), (39, .iconst 1, 40, 1, 0, 0), (40, .goto 4, 43, 44, 0, 0), (43, .iconst 0, 44, 0, 0, 0), (44, .ireturn, 45, 0, 0, 0)]])
noncomputable def MX6_shapeAt : eM := (yX6_shapeAt, cX6_shapeAt, 2, (Option.some (Jvm.ClassFile.FieldType.object "Holeworks$FaceSet")), [], (1, 6), 4, [[(0, .iload_n 1, 1, 1, 0, 0), (1, .ifCond .lt 9, 4, 10, 0, 0), (4, .iload_n 1, 5, 1, 0, 0), (5, .bipush 6, 7, 6, 0, 0), (7, .if_icmp .lt 14, 10, 21, 0, 0), (10, .new 259, 13, 0, 0, 1)],
  [(21, .aload_n 0, 22, 0, 0, 0), (22, .getfield 11, 25, 4, 0, 0), (25, .iload_n 1, 26, 1, 0, 0), (26, .aaload, 27, 0, 0, 0), (27, .areturn, 28, 0, 0, 0)]])
noncomputable def MX6_giveMade : eM := (yX6_giveMade, cX6_giveMade, 2, (Option.some Jvm.ClassFile.FieldType.int), [], (0, 0), 4, [[(0, .aload_n 1, 1, 1, 0, 0), (1, .aload_n 0, 2, 0, 0, 0), (2, .getfield 20, 5, 4, 2, 0), (5, .invokevirtual 65, 8, 19, 2, 0), (8, .aload_n 1, 9, 1, 0, 0), (9, .invokevirtual 47, 12, 25, 1, 0), (12, .ireturn, 13, 0, 0, 0)]])
noncomputable def MX6_emptied : eM := (yX6_emptied, cX6_emptied, 2, (Option.some Jvm.ClassFile.FieldType.int), [], (0, 0), 4, [[(0, .aload_n 0, 1, 0, 0, 0), (1, .invokevirtual 47, 4, 25, 1, 0), (4, .istore_n 1, 5, 1, 0, 0), (5, .aload_n 0, 6, 0, 0, 0), (6, .invokevirtual 79, 9, 18, 1, 0), (9, .iload_n 1, 10, 1, 0, 0), (10, .ireturn, 11, 0, 0, 0)]])
noncomputable def MX6_checkFace : eM := (yX6_checkFace, cX6_checkFace, 1, (Option.none : Option Jvm.ClassFile.FieldType), [], (1, 6), 4, [[(0, .iload_n 0, 1, 0, 0, 0), (1, .iconst 1, 2, 1, 0, 0), (2, .if_icmp .lt 9, 5, 11, 0, 0), (5, .iload_n 0, 6, 0, 0, 0), (6, .bipush 127, 8, 127, 0, 0), (8, .if_icmp .le 14, 11, 22, 0, 0), (11, .new 108, 14, 1, 0, 1)],
  [(22, .return_, 23, 0, 0, 0)]])
noncomputable def MX6_checkCorner : eM := (yX6_checkCorner, cX6_checkCorner, 1, (Option.none : Option Jvm.ClassFile.FieldType), [], (1, 6), 4, [[(0, .iload_n 0, 1, 0, 0, 0), (1, .ifCond .lt 9, 4, 10, 0, 0), (4, .iload_n 0, 5, 0, 0, 0), (5, .bipush 7, 7, 7, 0, 0), (7, .if_icmp .lt 14, 10, 21, 0, 0), (10, .new 108, 13, 1, 0, 1)],
  [(21, .return_, 22, 0, 0, 0)]])
noncomputable def MX6_checkHeight : eM := (yX6_checkHeight, cX6_checkHeight, 2, (Option.none : Option Jvm.ClassFile.FieldType), [], (1, 6), 4, [[(0, .iload_n 0, 1, 0, 0, 0), (1, .iload_n 1, 2, 1, 0, 0), (2, .if_icmp .lt 9, 5, 11, 0, 0), (5, .iload_n 0, 6, 0, 0, 0), (6, .bipush 7, 8, 7, 0, 0), (8, .if_icmp .lt 14, 11, 22, 0, 0), (11, .new 108, 14, 1, 0, 1)],
  [(22, .return_, 23, 0, 0, 0)]])
noncomputable def MX6_checkHeld : eM := (yX6_checkHeld, cX6_checkHeld, 2, (Option.none : Option Jvm.ClassFile.FieldType), [], (1, 6), 4, [[(0, .aload_n 0, 1, 0, 0, 0), (1, .iload_n 1, 2, 1, 0, 0), (2, .invokevirtual 145, 5, 12, 2, 0), (5, .ifCond .ne 14, 8, 19, 0, 0), (8, .new 207, 11, 3, 0, 1)],
  [(19, .return_, 20, 0, 0, 0)]])
noncomputable def MX6_checkNew : eM := (yX6_checkNew, cX6_checkNew, 2, (Option.none : Option Jvm.ClassFile.FieldType), [], (1, 6), 4, [[(0, .aload_n 0, 1, 0, 0, 0), (1, .iconst 1, 2, 1, 0, 0), (2, .iload_n 1, 3, 1, 0, 0), (3, .ishl, 4, 0, 0, 0), (4, .invokevirtual 145, 7, 12, 2, 0), (7, .ifCond .eq 14, 10, 21, 0, 0), (10, .new 122, 13, 2, 0, 1)],
  [(21, .return_, 22, 0, 0, 0)]])
noncomputable def MX6_checkedFaceAt : eM := (yX6_checkedFaceAt, cX6_checkedFaceAt, 3, (Option.some Jvm.ClassFile.FieldType.int), [], (1, 6), 4, [[(0, .aload_n 0, 1, 0, 0, 0), (1, .iload_n 1, 2, 1, 0, 0), (2, .invokevirtual 187, 5, 31, 2, 0), (5, .istore_n 2, 6, 2, 0, 0), (6, .iload_n 2, 7, 2, 0, 0), (7, .ifCond .ne 14, 10, 21, 0, 0), (10, .new 259, 13, 0, 0, 1)],
  [(21, .iload_n 2, 22, 2, 0, 0), (22, .ireturn, 23, 0, 0, 0)]])
noncomputable def MX6_checksumOn : eM := (yX6_checksumOn, cX6_checksumOn, 6, (Option.some Jvm.ClassFile.FieldType.long), [], (0, 0), 4, [[(0, .lload_n 0, 1, 0, 0, 0), (1, .ldc2_w 276, 4, 31, 0, 0), (4, .lmul, 5, 0, 0, 0), (5, .aload_n 2, 6, 2, 0, 0), (6, .invokevirtual 47, 9, 25, 1, 0), (9, .i2l, 10, 0, 0, 0), (10, .ladd, 11, 0, 0, 0), (11, .lstore_n 3, 12, 3, 0, 0), (12, .iconst 1, 13, 1, 0, 0), (13, .istore 5, 15, 5, 0, 0), (15, .iload 5, 17, 5, 0, 0)],
  [(17, .bipush 127, 19, 127, 0, 0), (19, .if_icmp .gt 28, 22, 47, 0, 0), (22, .aload_n 2, 23, 2, 0, 0), (23, .iload 5, 25, 5, 0, 0), (25, .invokevirtual 145, 28, 12, 2, 0), (28, .ifCond .eq 13, 31, 41, 0, 0), (31, .lload_n 3, 32, 3, 0, 0)],
  [(32, .ldc2_w 276, 35, 31, 0, 0), (35, .lmul, 36, 0, 0, 0), (36, .iload 5, 38, 5, 0, 0), (38, .i2l, 39, 0, 0, 0), (39, .ladd, 40, 0, 0, 0), (40, .lstore_n 3, 41, 3, 0, 0), (41, .iinc 5 1, 44, 5, 1, 0), (44, .goto (-29), 47, 15, 0, 0), (47, .lload_n 3, 48, 3, 0, 0)],
  [(48, .lreturn, 49, 0, 0, 0)]])
noncomputable def MX6_heightOf : eM := (yX6_heightOf, cX6_heightOf, 1, (Option.some Jvm.ClassFile.FieldType.int), [], (0, 0), 4, [[(0, .iload_n 0, 1, 0, 0, 0), (1, .invokestatic 278, 4, 200, 1, 0), (4, .iconst 1, 5, 1, 0, 0), (5, .isub, 6, 0, 0, 0), (6, .ireturn, 7, 0, 0, 0)]])
noncomputable def MX6_leastCorner : eM := (yX6_leastCorner, cX6_leastCorner, 1, (Option.some Jvm.ClassFile.FieldType.int), [], (0, 0), 4, [[(0, .iload_n 0, 1, 0, 0, 0), (1, .iload_n 0, 2, 0, 0, 0), (2, .ineg, 3, 0, 0, 0), (3, .iand, 4, 0, 0, 0), (4, .ireturn, 5, 0, 0, 0)]])
noncomputable def MX7_init : eM := (yX7_init, cX7_init, 1, (Option.none : Option Jvm.ClassFile.FieldType), [], (8, 1300), 5, [[(0, .aload_n 0, 1, 0, 0, 0), (1, .invokespecial 1, 4, 0, 0, 2), (4, .aload_n 0, 5, 0, 0, 0), (5, .sipush 768, 8, 768, 0, 0), (8, .newarray .boolean, 10, 1, 0, 0), (10, .putfield 7, 13, 5, 0, 0), (13, .aload_n 0, 14, 0, 0, 0), (14, .sipush 128, 17, 128, 0, 0)],
  [(17, .newarray .boolean, 19, 1, 0, 0), (19, .putfield 13, 22, 5, 1, 0), (22, .aload_n 0, 23, 0, 0, 0), (23, .sipush 128, 26, 128, 0, 0), (26, .newarray .boolean, 28, 1, 0, 0), (28, .putfield 16, 31, 5, 2, 0), (31, .aload_n 0, 32, 0, 0, 0)],
  [(32, .sipush 128, 35, 128, 0, 0), (35, .newarray .boolean, 37, 1, 0, 0), (37, .putfield 19, 40, 5, 3, 0), (40, .aload_n 0, 41, 0, 0, 0), (41, .bipush 7, 43, 7, 0, 0), (43, .newarray .int, 45, 0, 0, 0), (45, .putfield 22, 48, 5, 4, 0)],
  [(48, .aload_n 0, 49, 0, 0, 0), (49, .bipush 36, 51, 36, 0, 0), (51, .newarray .long, 53, 2, 0, 0), (53, .putfield 26, 56, 5, 5, 0), (56, .return_, 57, 0, 0, 0)]])
noncomputable def MX7_thrown : eM := (yX7_thrown, cX7_thrown, 1, (Option.some Jvm.ClassFile.FieldType.int), [], (0, 0), 5, [[(0, .aload_n 0, 1, 0, 0, 0), (1, .getfield 30, 4, 5, 7, 0), (4, .ireturn, 5, 0, 0, 0)]])
noncomputable def MX7_isWrong : eM := (yX7_isWrong, cX7_isWrong, 2, (Option.some Jvm.ClassFile.FieldType.boolean), [], (0, 0), 5, [[(0, .aload_n 0, 1, 0, 0, 0), (1, .iload_n 1, 2, 1, 0, 0), (2, .putfield 30, 5, 5, 7, 0), (5, .iload_n 1, 6, 1, 0, 0), (6, .ifCond .eq 7, 9, 13, 0, 0), (9, .iconst 1, 10, 1, 0, 0), (10, .goto 4, 13, 14, 0, 0), (13, .iconst 0, 14, 0, 0, 0), (14, .ireturn, 15, 0, 0, 0)]])
noncomputable def MX7_isIn : eM := (yX7_isIn, cX7_isIn, 3, (Option.some Jvm.ClassFile.FieldType.boolean), [], (0, 0), 5, [[(0, .iload_n 0, 1, 0, 0, 0), (1, .iload_n 1, 2, 1, 0, 0), (2, .if_icmp .lt 12, 5, 14, 0, 0), (5, .iload_n 0, 6, 0, 0, 0), (6, .iload_n 2, 7, 2, 0, 0), (7, .if_icmp .gt 7, 10, 14, 0, 0), (10, .iconst 1, 11, 1, 0, 0), (11, .goto 4, 14, 15, 0, 0), (14, .iconst 0, 15, 0, 0, 0), (15, .ireturn, 16, 0, 0, 0)]])
noncomputable def MX7_isPlace : eM := (yX7_isPlace, cX7_isPlace, 1, (Option.some Jvm.ClassFile.FieldType.boolean), [], (0, 0), 5, [[(0, .iload_n 0, 1, 0, 0, 0), (1, .iconst 0, 2, 0, 0, 0), (2, .iconst 5, 3, 5, 0, 0), (3, .invokestatic 34, 6, 129, 3, 0), (6, .ireturn, 7, 0, 0, 0)]])
noncomputable def MX7_isFace : eM := (yX7_isFace, cX7_isFace, 1, (Option.some Jvm.ClassFile.FieldType.boolean), [], (0, 0), 5, [[(0, .iload_n 0, 1, 0, 0, 0), (1, .iconst 1, 2, 1, 0, 0), (2, .bipush 127, 4, 127, 0, 0), (4, .invokestatic 34, 7, 129, 3, 0), (7, .ireturn, 8, 0, 0, 0)]])
noncomputable def MX7_isCorner : eM := (yX7_isCorner, cX7_isCorner, 1, (Option.some Jvm.ClassFile.FieldType.boolean), [], (0, 0), 5, [[(0, .iload_n 0, 1, 0, 0, 0), (1, .iconst 0, 2, 0, 0, 0), (2, .bipush 6, 4, 6, 0, 0), (4, .invokestatic 34, 7, 129, 3, 0), (7, .ireturn, 8, 0, 0, 0)]])
noncomputable def MX7_isHeight : eM := (yX7_isHeight, cX7_isHeight, 1, (Option.some Jvm.ClassFile.FieldType.boolean), [], (0, 0), 5, [[(0, .iload_n 0, 1, 0, 0, 0), (1, .iconst 0, 2, 0, 0, 0), (2, .bipush 6, 4, 6, 0, 0), (4, .invokestatic 34, 7, 129, 3, 0), (7, .ireturn, 8, 0, 0, 0)]])
noncomputable def MX7_isThere : eM := (yX7_isThere, cX7_isThere, 3, (Option.some Jvm.ClassFile.FieldType.boolean), [], (0, 0), 5, [[(0, .aload_n 0, 1, 0, 0, 0), (1, .getfield 7, 4, 5, 0, 0), (4, .sipush 128, 7, 128, 0, 0), (7, .iload_n 1, 8, 1, 0, 0), (8, .imul, 9, 0, 0, 0), (9, .iload_n 2, 10, 2, 0, 0), (10, .iadd, 11, 0, 0, 0), (11, .baload, 12, 0, 0, 0), (12, .ireturn, 13, 0, 0, 0)]])
noncomputable def MX7_cornersOf : eM := (yX7_cornersOf, cX7_cornersOf, 3, (Option.some Jvm.ClassFile.FieldType.int), [], (0, 0), 5, [[(0, .iconst 0, 1, 0, 0, 0), (1, .istore_n 1, 2, 1, 0, 0), (2, .iconst 0, 3, 0, 0, 0), (3, .istore_n 2, 4, 2, 0, 0), (4, .iload_n 2, 5, 2, 0, 0), (5, .bipush 7, 7, 7, 0, 0), (7, .if_icmp .ge 17, 10, 24, 0, 0), (10, .iload_n 1, 11, 1, 0, 0), (11, .iload_n 0, 12, 0, 0, 0), (12, .iload_n 2, 13, 2, 0, 0), (13, .ishr, 14, 0, 0, 0), (14, .iconst 1, 15, 1, 0, 0), (15, .iand, 16, 0, 0, 0)],
  [(16, .iadd, 17, 0, 0, 0), (17, .istore_n 1, 18, 1, 0, 0), (18, .iinc 2 1, 21, 2, 1, 0), (21, .goto (-17), 24, 4, 0, 0), (24, .iload_n 1, 25, 1, 0, 0), (25, .ireturn, 26, 0, 0, 0)]])
noncomputable def MX7_height : eM := (yX7_height, cX7_height, 1, (Option.some Jvm.ClassFile.FieldType.int), [], (0, 0), 5, [[(0, .iload_n 0, 1, 0, 0, 0), (1, .invokestatic 38, 4, 135, 1, 0), (4, .iconst 1, 5, 1, 0, 0), (5, .isub, 6, 0, 0, 0), (6, .ireturn, 7, 0, 0, 0)]])
noncomputable def MX7_isPart : eM := (yX7_isPart, cX7_isPart, 2, (Option.some Jvm.ClassFile.FieldType.boolean), [], (0, 0), 5, [[(0, .iload_n 0, 1, 0, 0, 0), (1, .iload_n 1, 2, 1, 0, 0), (2, .iand, 3, 0, 0, 0), (3, .iload_n 0, 4, 0, 0, 0), (4, .if_icmp .ne 7, 7, 11, 0, 0), (7, .iconst 1, 8, 1, 0, 0), (8, .goto 4, 11, 12, 0, 0), (11, .iconst 0, 12, 0, 0, 0), (12, .ireturn, 13, 0, 0, 0)]])
noncomputable def MX7_sizeOf : eM := (yX7_sizeOf, cX7_sizeOf, 4, (Option.some Jvm.ClassFile.FieldType.int), [], (0, 0), 5, [[(0, .iconst 0, 1, 0, 0, 0), (1, .istore_n 2, 2, 2, 0, 0), (2, .iconst 1, 3, 1, 0, 0), (3, .istore_n 3, 4, 3, 0, 0), (4, .iload_n 3, 5, 3, 0, 0), (5, .sipush 128, 8, 128, 0, 0), (8, .if_icmp .ge 26, 11, 34, 0, 0), (11, .iload_n 2, 12, 2, 0, 0), (12, .aload_n 0, 13, 0, 0, 0), (13, .iload_n 1, 14, 1, 0, 0), (14, .iload_n 3, 15, 3, 0, 0), (15, .invokevirtual 42, 18, 134, 3, 0)],
  [(18, .ifCond .eq 7, 21, 25, 0, 0), (21, .iconst 1, 22, 1, 0, 0), (22, .goto 4, 25, 26, 0, 0), (25, .iconst 0, 26, 0, 0, 0), (26, .iadd, 27, 0, 0, 0), (27, .istore_n 2, 28, 2, 0, 0), (28, .iinc 3 1, 31, 3, 1, 0), (31, .goto (-27), 34, 4, 0, 0)],
  [(34, .iload_n 2, 35, 2, 0, 0), (35, .ireturn, 36, 0, 0, 0)]])
noncomputable def MX7_cornersAt : eM := (yX7_cornersAt, cX7_cornersAt, 4, (Option.some Jvm.ClassFile.FieldType.int), [], (0, 0), 5, [[(0, .iconst 0, 1, 0, 0, 0), (1, .istore_n 2, 2, 2, 0, 0), (2, .iconst 1, 3, 1, 0, 0), (3, .istore_n 3, 4, 3, 0, 0), (4, .iload_n 3, 5, 3, 0, 0), (5, .sipush 128, 8, 128, 0, 0), (8, .if_icmp .ge 26, 11, 34, 0, 0), (11, .iload_n 2, 12, 2, 0, 0), (12, .aload_n 0, 13, 0, 0, 0), (13, .iload_n 1, 14, 1, 0, 0), (14, .iload_n 3, 15, 3, 0, 0), (15, .invokevirtual 42, 18, 134, 3, 0)],
  [(18, .ifCond .eq 7, 21, 25, 0, 0), (21, .iload_n 3, 22, 3, 0, 0), (22, .goto 4, 25, 26, 0, 0), (25, .iconst 0, 26, 0, 0, 0), (26, .ior, 27, 0, 0, 0), (27, .istore_n 2, 28, 2, 0, 0), (28, .iinc 3 1, 31, 3, 1, 0), (31, .goto (-27), 34, 4, 0, 0)],
  [(34, .iload_n 2, 35, 2, 0, 0), (35, .ireturn, 36, 0, 0, 0)]])
noncomputable def MX7_overAt : eM := (yX7_overAt, cX7_overAt, 5, (Option.some Jvm.ClassFile.FieldType.int), [], (0, 0), 5, [[(0, .iconst 0, 1, 0, 0, 0), (1, .istore_n 3, 2, 3, 0, 0), (2, .iconst 1, 3, 1, 0, 0), (3, .istore 4, 5, 4, 0, 0), (5, .iload 4, 7, 4, 0, 0), (7, .sipush 128, 10, 128, 0, 0), (10, .if_icmp .ge 42, 13, 52, 0, 0), (13, .iload_n 3, 14, 3, 0, 0), (14, .iload 4, 16, 4, 0, 0)],
  [(16, .iload_n 2, 17, 2, 0, 0), (17, .if_icmp .eq 26, 20, 43, 0, 0), (20, .iload_n 2, 21, 2, 0, 0), (21, .iload 4, 23, 4, 0, 0), (23, .invokestatic 46, 26, 137, 2, 0), (26, .ifCond .eq 17, 29, 43, 0, 0), (29, .aload_n 0, 30, 0, 0, 0), (30, .iload_n 1, 31, 1, 0, 0), (31, .iload 4, 33, 4, 0, 0)],
  [(33, .invokevirtual 42, 36, 134, 3, 0), (36, .ifCond .eq 7, 39, 43, 0, 0), (39, .iconst 1, 40, 1, 0, 0), (40, .goto 4, 43, 44, 0, 0), (43, .iconst 0, 44, 0, 0, 0), (44, .iadd, 45, 0, 0, 0), (45, .istore_n 3, 46, 3, 0, 0), (46, .iinc 4 1, 49, 4, 1, 0)],
  [(49, .goto (-44), 52, 5, 0, 0), (52, .iload_n 3, 53, 3, 0, 0), (53, .ireturn, 54, 0, 0, 0)]])
noncomputable def MX7_isGreatest : eM := (yX7_isGreatest, cX7_isGreatest, 3, (Option.some Jvm.ClassFile.FieldType.boolean), [], (0, 0), 5, [[(0, .aload_n 0, 1, 0, 0, 0), (1, .iload_n 1, 2, 1, 0, 0), (2, .iload_n 2, 3, 2, 0, 0), (3, .invokevirtual 42, 6, 134, 3, 0), (6, .ifCond .eq 16, 9, 22, 0, 0), (9, .aload_n 0, 10, 0, 0, 0), (10, .iload_n 1, 11, 1, 0, 0), (11, .iload_n 2, 12, 2, 0, 0), (12, .invokevirtual 49, 15, 140, 3, 0), (15, .ifCond .ne 7, 18, 22, 0, 0)],
  [(18, .iconst 1, 19, 1, 0, 0), (19, .goto 4, 22, 23, 0, 0), (22, .iconst 0, 23, 0, 0, 0), (23, .ireturn, 24, 0, 0, 0)]])
noncomputable def MX7_keep : eM := (yX7_keep, cX7_keep, 3, (Option.some Jvm.ClassFile.FieldType.int), [], (0, 0), 5, [[(0, .iconst 1, 1, 1, 0, 0), (1, .istore_n 2, 2, 2, 0, 0), (2, .iload_n 2, 3, 2, 0, 0), (3, .sipush 128, 6, 128, 0, 0), (6, .if_icmp .ge 27, 9, 33, 0, 0), (9, .aload_n 0, 10, 0, 0, 0), (10, .getfield 7, 13, 5, 0, 0), (13, .sipush 128, 16, 128, 0, 0)],
  [(16, .iload_n 1, 17, 1, 0, 0), (17, .imul, 18, 0, 0, 0), (18, .iload_n 2, 19, 2, 0, 0), (19, .iadd, 20, 0, 0, 0), (20, .aload_n 0, 21, 0, 0, 0), (21, .getfield 13, 24, 5, 1, 0), (24, .iload_n 2, 25, 2, 0, 0), (25, .baload, 26, 0, 0, 0), (26, .bastore, 27, 0, 0, 0), (27, .iinc 2 1, 30, 2, 1, 0), (30, .goto (-28), 33, 2, 0, 0)],
  [(33, .aload_n 0, 34, 0, 0, 0), (34, .iload_n 1, 35, 1, 0, 0), (35, .invokevirtual 53, 38, 138, 2, 0), (38, .ireturn, 39, 0, 0, 0)]])
noncomputable def MX7_missing : eM := (yX7_missing, cX7_missing, 3, (Option.some Jvm.ClassFile.FieldType.int), [], (0, 0), 5, [[(0, .iload_n 1, 1, 1, 0, 0), (1, .invokestatic 56, 4, 130, 1, 0), (4, .ifCond .ne 7, 7, 11, 0, 0), (7, .iconst 1, 8, 1, 0, 0), (8, .goto 28, 11, 36, 0, 0), (11, .iload_n 2, 12, 2, 0, 0), (12, .invokestatic 60, 15, 131, 1, 0), (15, .ifCond .ne 7, 18, 22, 0, 0)],
  [(18, .iconst 2, 19, 2, 0, 0), (19, .goto 17, 22, 36, 0, 0), (22, .aload_n 0, 23, 0, 0, 0), (23, .iload_n 1, 24, 1, 0, 0), (24, .iload_n 2, 25, 2, 0, 0), (25, .invokevirtual 42, 28, 134, 3, 0), (28, .ifCond .ne 7, 31, 35, 0, 0), (31, .iconst 3, 32, 3, 0, 0)],
  [(32, .goto 4, 35, 36, 0, 0), (35, .iconst 0, 36, 0, 0, 0), (36, .ireturn, 37, 0, 0, 0)]])
noncomputable def MX7_put : eM := (yX7_put, cX7_put, 5, (Option.some Jvm.ClassFile.FieldType.int), [], (0, 0), 5, [[(0, .aload_n 0, 1, 0, 0, 0), (1, .iload_n 1, 2, 1, 0, 0), (2, .invokestatic 56, 5, 130, 1, 0), (5, .ifCond .ne 7, 8, 12, 0, 0), (8, .iconst 1, 9, 1, 0, 0), (9, .goto 15, 12, 24, 0, 0), (12, .iload_n 2, 13, 2, 0, 0), (13, .invokestatic 60, 16, 131, 1, 0)],
  [(16, .ifCond .ne 7, 19, 23, 0, 0), (19, .iconst 2, 20, 2, 0, 0), (20, .goto 4, 23, 24, 0, 0), (23, .iconst 0, 24, 0, 0, 0), (24, .invokevirtual 63, 27, 128, 2, 0), (27, .ifCond .eq 5, 30, 32, 0, 0), (30, .iconst 0, 31, 0, 0, 0), (31, .ireturn, 32, 0, 0, 0)],
  [(32, .iconst 0, 33, 0, 0, 0), (33, .istore_n 3, 34, 3, 0, 0), (34, .iconst 1, 35, 1, 0, 0), (35, .istore 4, 37, 4, 0, 0), (37, .iload 4, 39, 4, 0, 0), (39, .sipush 128, 42, 128, 0, 0), (42, .if_icmp .ge 48, 45, 90, 0, 0), (45, .iload 4, 47, 4, 0, 0), (47, .iload_n 2, 48, 2, 0, 0)],
  [(48, .invokestatic 46, 51, 137, 2, 0), (51, .ifCond .eq 33, 54, 84, 0, 0), (54, .aload_n 0, 55, 0, 0, 0), (55, .iload_n 1, 56, 1, 0, 0), (56, .iload 4, 58, 4, 0, 0), (58, .invokevirtual 42, 61, 134, 3, 0), (61, .ifCond .eq 6, 64, 67, 0, 0)],
  [(64, .goto 20, 67, 84, 0, 0), (67, .aload_n 0, 68, 0, 0, 0), (68, .getfield 7, 71, 5, 0, 0), (71, .sipush 128, 74, 128, 0, 0), (74, .iload_n 1, 75, 1, 0, 0), (75, .imul, 76, 0, 0, 0), (76, .iload 4, 78, 4, 0, 0), (78, .iadd, 79, 0, 0, 0), (79, .iconst 1, 80, 1, 0, 0)],
  [(80, .bastore, 81, 0, 0, 0), (81, .iinc 3 1, 84, 3, 1, 0), (84, .iinc 4 1, 87, 4, 1, 0), (87, .goto (-50), 90, 37, 0, 0), (90, .iload_n 3, 91, 3, 0, 0), (91, .ireturn, 92, 0, 0, 0)]])
noncomputable def MX7_takeOut : eM := (yX7_takeOut, cX7_takeOut, 5, (Option.some Jvm.ClassFile.FieldType.int), [], (0, 0), 5, [[(0, .iconst 0, 1, 0, 0, 0), (1, .istore_n 3, 2, 3, 0, 0), (2, .iconst 1, 3, 1, 0, 0), (3, .istore 4, 5, 4, 0, 0), (5, .iload 4, 7, 4, 0, 0), (7, .sipush 128, 10, 128, 0, 0), (10, .if_icmp .ge 48, 13, 58, 0, 0), (13, .iload_n 2, 14, 2, 0, 0), (14, .iload 4, 16, 4, 0, 0)],
  [(16, .invokestatic 46, 19, 137, 2, 0), (19, .ifCond .eq 33, 22, 52, 0, 0), (22, .aload_n 0, 23, 0, 0, 0), (23, .iload_n 1, 24, 1, 0, 0), (24, .iload 4, 26, 4, 0, 0), (26, .invokevirtual 42, 29, 134, 3, 0), (29, .ifCond .ne 6, 32, 35, 0, 0)],
  [(32, .goto 20, 35, 52, 0, 0), (35, .aload_n 0, 36, 0, 0, 0), (36, .getfield 7, 39, 5, 0, 0), (39, .sipush 128, 42, 128, 0, 0), (42, .iload_n 1, 43, 1, 0, 0), (43, .imul, 44, 0, 0, 0), (44, .iload 4, 46, 4, 0, 0), (46, .iadd, 47, 0, 0, 0), (47, .iconst 0, 48, 0, 0, 0)],
  [(48, .bastore, 49, 0, 0, 0), (49, .iinc 3 1, 52, 3, 1, 0), (52, .iinc 4 1, 55, 4, 1, 0), (55, .goto (-50), 58, 5, 0, 0), (58, .iload_n 3, 59, 3, 0, 0), (59, .ireturn, 60, 0, 0, 0)]])
noncomputable def MX7_take : eM := (yX7_take, cX7_take, 3, (Option.some Jvm.ClassFile.FieldType.int), [], (0, 0), 5, [[(0, .aload_n 0, 1, 0, 0, 0), (1, .aload_n 0, 2, 0, 0, 0), (2, .iload_n 1, 3, 1, 0, 0), (3, .iload_n 2, 4, 2, 0, 0), (4, .invokevirtual 66, 7, 143, 3, 0), (7, .invokevirtual 63, 10, 128, 2, 0), (10, .ifCond .eq 5, 13, 15, 0, 0), (13, .iconst 0, 14, 0, 0, 0), (14, .ireturn, 15, 0, 0, 0), (15, .aload_n 0, 16, 0, 0, 0)],
  [(16, .iload_n 1, 17, 1, 0, 0), (17, .iload_n 2, 18, 2, 0, 0), (18, .invokevirtual 69, 21, 145, 3, 0), (21, .ireturn, 22, 0, 0, 0)]])
noncomputable def MX7_clear : eM := (yX7_clear, cX7_clear, 4, (Option.some Jvm.ClassFile.FieldType.int), [], (0, 0), 5, [[(0, .aload_n 0, 1, 0, 0, 0), (1, .iload_n 1, 2, 1, 0, 0), (2, .invokestatic 56, 5, 130, 1, 0), (5, .ifCond .eq 7, 8, 12, 0, 0), (8, .iconst 0, 9, 0, 0, 0), (9, .goto 4, 12, 13, 0, 0), (12, .iconst 1, 13, 1, 0, 0), (13, .invokevirtual 63, 16, 128, 2, 0)],
  [(16, .ifCond .eq 5, 19, 21, 0, 0), (19, .iconst 0, 20, 0, 0, 0), (20, .ireturn, 21, 0, 0, 0), (21, .aload_n 0, 22, 0, 0, 0), (22, .iload_n 1, 23, 1, 0, 0), (23, .invokevirtual 53, 26, 138, 2, 0), (26, .istore_n 2, 27, 2, 0, 0), (27, .iconst 1, 28, 1, 0, 0), (28, .istore_n 3, 29, 3, 0, 0), (29, .iload_n 3, 30, 3, 0, 0), (30, .sipush 128, 33, 128, 0, 0)],
  [(33, .if_icmp .ge 22, 36, 55, 0, 0), (36, .aload_n 0, 37, 0, 0, 0), (37, .getfield 7, 40, 5, 0, 0), (40, .sipush 128, 43, 128, 0, 0), (43, .iload_n 1, 44, 1, 0, 0), (44, .imul, 45, 0, 0, 0), (45, .iload_n 3, 46, 3, 0, 0), (46, .iadd, 47, 0, 0, 0), (47, .iconst 0, 48, 0, 0, 0)],
  [(48, .bastore, 49, 0, 0, 0), (49, .iinc 3 1, 52, 3, 1, 0), (52, .goto (-23), 55, 29, 0, 0), (55, .iload_n 2, 56, 2, 0, 0), (56, .ireturn, 57, 0, 0, 0)]])
noncomputable def MX7_copy : eM := (yX7_copy, cX7_copy, 4, (Option.some Jvm.ClassFile.FieldType.int), [], (0, 0), 5, [[(0, .aload_n 0, 1, 0, 0, 0), (1, .iload_n 1, 2, 1, 0, 0), (2, .invokestatic 56, 5, 130, 1, 0), (5, .ifCond .eq 14, 8, 19, 0, 0), (8, .iload_n 2, 9, 2, 0, 0), (9, .invokestatic 56, 12, 130, 1, 0), (12, .ifCond .eq 7, 15, 19, 0, 0), (15, .iconst 0, 16, 0, 0, 0)],
  [(16, .goto 4, 19, 20, 0, 0), (19, .iconst 1, 20, 1, 0, 0), (20, .invokevirtual 63, 23, 128, 2, 0), (23, .ifCond .eq 5, 26, 28, 0, 0), (26, .iconst 0, 27, 0, 0, 0), (27, .ireturn, 28, 0, 0, 0), (28, .iconst 1, 29, 1, 0, 0), (29, .istore_n 3, 30, 3, 0, 0), (30, .iload_n 3, 31, 3, 0, 0), (31, .sipush 128, 34, 128, 0, 0)],
  [(34, .if_icmp .ge 21, 37, 55, 0, 0), (37, .aload_n 0, 38, 0, 0, 0), (38, .getfield 13, 41, 5, 1, 0), (41, .iload_n 3, 42, 3, 0, 0), (42, .aload_n 0, 43, 0, 0, 0), (43, .iload_n 1, 44, 1, 0, 0), (44, .iload_n 3, 45, 3, 0, 0), (45, .invokevirtual 42, 48, 134, 3, 0)],
  [(48, .bastore, 49, 0, 0, 0), (49, .iinc 3 1, 52, 3, 1, 0), (52, .goto (-22), 55, 30, 0, 0), (55, .aload_n 0, 56, 0, 0, 0), (56, .iload_n 2, 57, 2, 0, 0), (57, .invokevirtual 72, 60, 142, 2, 0), (60, .ireturn, 61, 0, 0, 0)]])
noncomputable def MX7_unite : eM := (yX7_unite, cX7_unite, 5, (Option.some Jvm.ClassFile.FieldType.int), [], (0, 0), 5, [[(0, .aload_n 0, 1, 0, 0, 0), (1, .iload_n 1, 2, 1, 0, 0), (2, .invokestatic 56, 5, 130, 1, 0), (5, .ifCond .eq 21, 8, 26, 0, 0), (8, .iload_n 2, 9, 2, 0, 0), (9, .invokestatic 56, 12, 130, 1, 0), (12, .ifCond .eq 14, 15, 26, 0, 0), (15, .iload_n 3, 16, 3, 0, 0)],
  [(16, .invokestatic 56, 19, 130, 1, 0), (19, .ifCond .eq 7, 22, 26, 0, 0), (22, .iconst 0, 23, 0, 0, 0), (23, .goto 4, 26, 27, 0, 0), (26, .iconst 1, 27, 1, 0, 0), (27, .invokevirtual 63, 30, 128, 2, 0), (30, .ifCond .eq 5, 33, 35, 0, 0)],
  [(33, .iconst 0, 34, 0, 0, 0), (34, .ireturn, 35, 0, 0, 0), (35, .iconst 1, 36, 1, 0, 0), (36, .istore 4, 38, 4, 0, 0), (38, .iload 4, 40, 4, 0, 0), (40, .sipush 128, 43, 128, 0, 0), (43, .if_icmp .ge 41, 46, 84, 0, 0), (46, .aload_n 0, 47, 0, 0, 0), (47, .getfield 13, 50, 5, 1, 0)],
  [(50, .iload 4, 52, 4, 0, 0), (52, .aload_n 0, 53, 0, 0, 0), (53, .iload_n 1, 54, 1, 0, 0), (54, .iload 4, 56, 4, 0, 0), (56, .invokevirtual 42, 59, 134, 3, 0), (59, .ifCond .ne 13, 62, 72, 0, 0), (62, .aload_n 0, 63, 0, 0, 0), (63, .iload_n 2, 64, 2, 0, 0)],
  [(64, .iload 4, 66, 4, 0, 0), (66, .invokevirtual 42, 69, 134, 3, 0), (69, .ifCond .eq 7, 72, 76, 0, 0), (72, .iconst 1, 73, 1, 0, 0), (73, .goto 4, 76, 77, 0, 0), (76, .iconst 0, 77, 0, 0, 0), (77, .bastore, 78, 0, 0, 0), (78, .iinc 4 1, 81, 4, 1, 0)],
  [(81, .goto (-43), 84, 38, 0, 0), (84, .aload_n 0, 85, 0, 0, 0), (85, .iload_n 3, 86, 3, 0, 0), (86, .invokevirtual 72, 89, 142, 2, 0), (89, .ireturn, 90, 0, 0, 0)]])
noncomputable def MX7_meet : eM := (yX7_meet, cX7_meet, 5, (Option.some Jvm.ClassFile.FieldType.int), [], (0, 0), 5, [[(0, .aload_n 0, 1, 0, 0, 0), (1, .iload_n 1, 2, 1, 0, 0), (2, .invokestatic 56, 5, 130, 1, 0), (5, .ifCond .eq 21, 8, 26, 0, 0), (8, .iload_n 2, 9, 2, 0, 0), (9, .invokestatic 56, 12, 130, 1, 0), (12, .ifCond .eq 14, 15, 26, 0, 0), (15, .iload_n 3, 16, 3, 0, 0)],
  [(16, .invokestatic 56, 19, 130, 1, 0), (19, .ifCond .eq 7, 22, 26, 0, 0), (22, .iconst 0, 23, 0, 0, 0), (23, .goto 4, 26, 27, 0, 0), (26, .iconst 1, 27, 1, 0, 0), (27, .invokevirtual 63, 30, 128, 2, 0), (30, .ifCond .eq 5, 33, 35, 0, 0)],
  [(33, .iconst 0, 34, 0, 0, 0), (34, .ireturn, 35, 0, 0, 0), (35, .iconst 1, 36, 1, 0, 0), (36, .istore 4, 38, 4, 0, 0), (38, .iload 4, 40, 4, 0, 0), (40, .sipush 128, 43, 128, 0, 0), (43, .if_icmp .ge 41, 46, 84, 0, 0), (46, .aload_n 0, 47, 0, 0, 0), (47, .getfield 13, 50, 5, 1, 0)],
  [(50, .iload 4, 52, 4, 0, 0), (52, .aload_n 0, 53, 0, 0, 0), (53, .iload_n 1, 54, 1, 0, 0), (54, .iload 4, 56, 4, 0, 0), (56, .invokevirtual 42, 59, 134, 3, 0), (59, .ifCond .eq 17, 62, 76, 0, 0), (62, .aload_n 0, 63, 0, 0, 0), (63, .iload_n 2, 64, 2, 0, 0)],
  [(64, .iload 4, 66, 4, 0, 0), (66, .invokevirtual 42, 69, 134, 3, 0), (69, .ifCond .eq 7, 72, 76, 0, 0), (72, .iconst 1, 73, 1, 0, 0), (73, .goto 4, 76, 77, 0, 0), (76, .iconst 0, 77, 0, 0, 0), (77, .bastore, 78, 0, 0, 0), (78, .iinc 4 1, 81, 4, 1, 0)],
  [(81, .goto (-43), 84, 38, 0, 0), (84, .aload_n 0, 85, 0, 0, 0), (85, .iload_n 3, 86, 3, 0, 0), (86, .invokevirtual 72, 89, 142, 2, 0), (89, .ireturn, 90, 0, 0, 0)]])
noncomputable def MX7_full : eM := (yX7_full, cX7_full, 5, (Option.some Jvm.ClassFile.FieldType.int), [], (0, 0), 5, [[(0, .aload_n 0, 1, 0, 0, 0), (1, .iload_n 3, 2, 3, 0, 0), (2, .invokestatic 56, 5, 130, 1, 0), (5, .ifCond .ne 7, 8, 12, 0, 0), (8, .iconst 1, 9, 1, 0, 0), (9, .goto 15, 12, 24, 0, 0), (12, .iload_n 1, 13, 1, 0, 0), (13, .invokestatic 60, 16, 131, 1, 0)],
  [(16, .ifCond .ne 7, 19, 23, 0, 0), (19, .iconst 2, 20, 2, 0, 0), (20, .goto 4, 23, 24, 0, 0), (23, .iconst 0, 24, 0, 0, 0), (24, .invokevirtual 63, 27, 128, 2, 0), (27, .ifCond .eq 5, 30, 32, 0, 0), (30, .iconst 0, 31, 0, 0, 0), (31, .ireturn, 32, 0, 0, 0)],
  [(32, .iconst 1, 33, 1, 0, 0), (33, .istore 4, 35, 4, 0, 0), (35, .iload 4, 37, 4, 0, 0), (37, .sipush 128, 40, 128, 0, 0), (40, .if_icmp .ge 40, 43, 80, 0, 0), (43, .aload_n 0, 44, 0, 0, 0), (44, .getfield 13, 47, 5, 1, 0), (47, .iload 4, 49, 4, 0, 0)],
  [(49, .iload 4, 51, 4, 0, 0), (51, .iload_n 1, 52, 1, 0, 0), (52, .invokestatic 46, 55, 137, 2, 0), (55, .ifCond .eq 17, 58, 72, 0, 0), (58, .iload_n 2, 59, 2, 0, 0), (59, .ifCond .eq 9, 62, 68, 0, 0), (62, .iload 4, 64, 4, 0, 0)],
  [(64, .iload_n 1, 65, 1, 0, 0), (65, .if_icmp .eq 7, 68, 72, 0, 0), (68, .iconst 1, 69, 1, 0, 0), (69, .goto 4, 72, 73, 0, 0), (72, .iconst 0, 73, 0, 0, 0), (73, .bastore, 74, 0, 0, 0), (74, .iinc 4 1, 77, 4, 1, 0), (77, .goto (-42), 80, 35, 0, 0)],
  [(80, .aload_n 0, 81, 0, 0, 0), (81, .iload_n 3, 82, 3, 0, 0), (82, .invokevirtual 72, 85, 142, 2, 0), (85, .ireturn, 86, 0, 0, 0)]])
noncomputable def MX7_low : eM := (yX7_low, cX7_low, 5, (Option.some Jvm.ClassFile.FieldType.int), [], (0, 0), 5, [[(0, .aload_n 0, 1, 0, 0, 0), (1, .iload_n 1, 2, 1, 0, 0), (2, .invokestatic 56, 5, 130, 1, 0), (5, .ifCond .eq 10, 8, 15, 0, 0), (8, .iload_n 3, 9, 3, 0, 0), (9, .invokestatic 56, 12, 130, 1, 0), (12, .ifCond .ne 7, 15, 19, 0, 0), (15, .iconst 1, 16, 1, 0, 0)],
  [(16, .goto 15, 19, 31, 0, 0), (19, .iload_n 2, 20, 2, 0, 0), (20, .invokestatic 75, 23, 133, 1, 0), (23, .ifCond .ne 7, 26, 30, 0, 0), (26, .iconst 2, 27, 2, 0, 0), (27, .goto 4, 30, 31, 0, 0), (30, .iconst 0, 31, 0, 0, 0), (31, .invokevirtual 63, 34, 128, 2, 0)],
  [(34, .ifCond .eq 5, 37, 39, 0, 0), (37, .iconst 0, 38, 0, 0, 0), (38, .ireturn, 39, 0, 0, 0), (39, .iconst 1, 40, 1, 0, 0), (40, .istore 4, 42, 4, 0, 0), (42, .iload 4, 44, 4, 0, 0), (44, .sipush 128, 47, 128, 0, 0), (47, .if_icmp .ge 40, 50, 87, 0, 0)],
  [(50, .aload_n 0, 51, 0, 0, 0), (51, .getfield 13, 54, 5, 1, 0), (54, .iload 4, 56, 4, 0, 0), (56, .aload_n 0, 57, 0, 0, 0), (57, .iload_n 1, 58, 1, 0, 0), (58, .iload 4, 60, 4, 0, 0), (60, .invokevirtual 42, 63, 134, 3, 0), (63, .ifCond .eq 16, 66, 79, 0, 0)],
  [(66, .iload 4, 68, 4, 0, 0), (68, .invokestatic 78, 71, 136, 1, 0), (71, .iload_n 2, 72, 2, 0, 0), (72, .if_icmp .gt 7, 75, 79, 0, 0), (75, .iconst 1, 76, 1, 0, 0), (76, .goto 4, 79, 80, 0, 0), (79, .iconst 0, 80, 0, 0, 0)],
  [(80, .bastore, 81, 0, 0, 0), (81, .iinc 4 1, 84, 4, 1, 0), (84, .goto (-42), 87, 42, 0, 0), (87, .aload_n 0, 88, 0, 0, 0), (88, .iload_n 3, 89, 3, 0, 0), (89, .invokevirtual 72, 92, 142, 2, 0), (92, .ireturn, 93, 0, 0, 0)]])
noncomputable def MX7_about : eM := (yX7_about, cX7_about, 6, (Option.some Jvm.ClassFile.FieldType.int), [], (0, 0), 5, [[(0, .aload_n 0, 1, 0, 0, 0), (1, .iload 4, 3, 4, 0, 0), (3, .invokestatic 56, 6, 130, 1, 0), (6, .ifCond .ne 7, 9, 13, 0, 0), (9, .iconst 1, 10, 1, 0, 0), (10, .goto 9, 13, 19, 0, 0), (13, .aload_n 0, 14, 0, 0, 0), (14, .iload_n 1, 15, 1, 0, 0), (15, .iload_n 2, 16, 2, 0, 0)],
  [(16, .invokevirtual 66, 19, 143, 3, 0), (19, .invokevirtual 63, 22, 128, 2, 0), (22, .ifCond .eq 5, 25, 27, 0, 0), (25, .iconst 0, 26, 0, 0, 0), (26, .ireturn, 27, 0, 0, 0), (27, .iconst 1, 28, 1, 0, 0), (28, .istore 5, 30, 5, 0, 0), (30, .iload 5, 32, 5, 0, 0)],
  [(32, .sipush 128, 35, 128, 0, 0), (35, .if_icmp .ge 44, 38, 79, 0, 0), (38, .aload_n 0, 39, 0, 0, 0), (39, .getfield 13, 42, 5, 1, 0), (42, .iload 5, 44, 5, 0, 0), (44, .aload_n 0, 45, 0, 0, 0), (45, .iload_n 1, 46, 1, 0, 0), (46, .iload 5, 48, 5, 0, 0)],
  [(48, .iload_n 2, 49, 2, 0, 0), (49, .ior, 50, 0, 0, 0), (50, .invokevirtual 42, 53, 134, 3, 0), (53, .ifCond .eq 18, 56, 71, 0, 0), (56, .iload_n 3, 57, 3, 0, 0), (57, .ifCond .eq 10, 60, 67, 0, 0), (60, .iload 5, 62, 5, 0, 0), (62, .iload_n 2, 63, 2, 0, 0), (63, .iand, 64, 0, 0, 0)],
  [(64, .ifCond .ne 7, 67, 71, 0, 0), (67, .iconst 1, 68, 1, 0, 0), (68, .goto 4, 71, 72, 0, 0), (71, .iconst 0, 72, 0, 0, 0), (72, .bastore, 73, 0, 0, 0), (73, .iinc 5 1, 76, 5, 1, 0), (76, .goto (-46), 79, 30, 0, 0), (79, .aload_n 0, 80, 0, 0, 0)],
  [(80, .iload 4, 82, 4, 0, 0), (82, .invokevirtual 72, 85, 142, 2, 0), (85, .ireturn, 86, 0, 0, 0)]])
noncomputable def MX7_cone : eM := (yX7_cone, cX7_cone, 5, (Option.some Jvm.ClassFile.FieldType.int), [], (0, 0), 5, [[(0, .aload_n 0, 1, 0, 0, 0), (1, .iload_n 1, 2, 1, 0, 0), (2, .invokestatic 56, 5, 130, 1, 0), (5, .ifCond .eq 10, 8, 15, 0, 0), (8, .iload_n 3, 9, 3, 0, 0), (9, .invokestatic 56, 12, 130, 1, 0), (12, .ifCond .ne 7, 15, 19, 0, 0), (15, .iconst 1, 16, 1, 0, 0)],
  [(16, .goto 32, 19, 48, 0, 0), (19, .iload_n 2, 20, 2, 0, 0), (20, .invokestatic 81, 23, 132, 1, 0), (23, .ifCond .ne 7, 26, 30, 0, 0), (26, .iconst 2, 27, 2, 0, 0), (27, .goto 21, 30, 48, 0, 0), (30, .aload_n 0, 31, 0, 0, 0), (31, .iload_n 1, 32, 1, 0, 0)],
  [(32, .invokevirtual 84, 35, 139, 2, 0), (35, .iload_n 2, 36, 2, 0, 0), (36, .ishr, 37, 0, 0, 0), (37, .iconst 1, 38, 1, 0, 0), (38, .iand, 39, 0, 0, 0), (39, .iconst 1, 40, 1, 0, 0), (40, .if_icmp .ne 7, 43, 47, 0, 0), (43, .iconst 3, 44, 3, 0, 0), (44, .goto 4, 47, 48, 0, 0), (47, .iconst 0, 48, 0, 0, 0)],
  [(48, .invokevirtual 63, 51, 128, 2, 0), (51, .ifCond .eq 5, 54, 56, 0, 0), (54, .iconst 0, 55, 0, 0, 0), (55, .ireturn, 56, 0, 0, 0), (56, .iconst 1, 57, 1, 0, 0), (57, .istore 4, 59, 4, 0, 0), (59, .iload 4, 61, 4, 0, 0), (61, .sipush 128, 64, 128, 0, 0)],
  [(64, .if_icmp .ge 26, 67, 90, 0, 0), (67, .aload_n 0, 68, 0, 0, 0), (68, .getfield 13, 71, 5, 1, 0), (71, .iload 4, 73, 4, 0, 0), (73, .aload_n 0, 74, 0, 0, 0), (74, .iload_n 1, 75, 1, 0, 0), (75, .iload 4, 77, 4, 0, 0), (77, .iconst 1, 78, 1, 0, 0), (78, .iload_n 2, 79, 2, 0, 0), (79, .ishl, 80, 0, 0, 0)],
  [(80, .invokevirtual 87, 83, 155, 4, 0), (83, .bastore, 84, 0, 0, 0), (84, .iinc 4 1, 87, 4, 1, 0), (87, .goto (-28), 90, 59, 0, 0), (90, .aload_n 0, 91, 0, 0, 0), (91, .iload_n 3, 92, 3, 0, 0), (92, .invokevirtual 72, 95, 142, 2, 0), (95, .ireturn, 96, 0, 0, 0)]])
noncomputable def MX7_isLifted : eM := (yX7_isLifted, cX7_isLifted, 5, (Option.some Jvm.ClassFile.FieldType.boolean), [], (0, 0), 5, [[(0, .iload_n 2, 1, 2, 0, 0), (1, .iload_n 3, 2, 3, 0, 0), (2, .iconst (-1), 3, 0, 1, 0), (3, .ixor, 4, 0, 0, 0), (4, .iand, 5, 0, 0, 0), (5, .istore 4, 7, 4, 0, 0), (7, .iload 4, 9, 4, 0, 0), (9, .ifCond .eq 13, 12, 22, 0, 0), (12, .aload_n 0, 13, 0, 0, 0), (13, .iload_n 1, 14, 1, 0, 0), (14, .iload 4, 16, 4, 0, 0)],
  [(16, .invokevirtual 42, 19, 134, 3, 0), (19, .ifCond .eq 7, 22, 26, 0, 0), (22, .iconst 1, 23, 1, 0, 0), (23, .goto 4, 26, 27, 0, 0), (26, .iconst 0, 27, 0, 0, 0), (27, .ireturn, 28, 0, 0, 0)]])
noncomputable def MX7_lift : eM := (yX7_lift, cX7_lift, 9, (Option.some Jvm.ClassFile.FieldType.int), [], (0, 0), 5, [[(0, .iload_n 2, 1, 2, 0, 0), (1, .invokestatic 81, 4, 132, 1, 0), (4, .ifCond .eq 19, 7, 23, 0, 0), (7, .iload_n 3, 8, 3, 0, 0), (8, .invokestatic 81, 11, 132, 1, 0), (11, .ifCond .eq 12, 14, 23, 0, 0), (14, .iload_n 2, 15, 2, 0, 0), (15, .iload_n 3, 16, 3, 0, 0)],
  [(16, .if_icmp .eq 7, 19, 23, 0, 0), (19, .iconst 1, 20, 1, 0, 0), (20, .goto 4, 23, 24, 0, 0), (23, .iconst 0, 24, 0, 0, 0), (24, .istore 5, 26, 5, 0, 0), (26, .aload_n 0, 27, 0, 0, 0), (27, .iload_n 1, 28, 1, 0, 0), (28, .invokestatic 56, 31, 130, 1, 0), (31, .ifCond .eq 11, 34, 42, 0, 0)],
  [(34, .iload 4, 36, 4, 0, 0), (36, .invokestatic 56, 39, 130, 1, 0), (39, .ifCond .ne 7, 42, 46, 0, 0), (42, .iconst 1, 43, 1, 0, 0), (43, .goto 33, 46, 76, 0, 0), (46, .iload 5, 48, 5, 0, 0)],
  [(48, .ifCond .ne 7, 51, 55, 0, 0), (51, .iconst 2, 52, 2, 0, 0), (52, .goto 24, 55, 76, 0, 0), (55, .aload_n 0, 56, 0, 0, 0), (56, .iload_n 1, 57, 1, 0, 0), (57, .invokevirtual 84, 60, 139, 2, 0), (60, .iconst 1, 61, 1, 0, 0), (61, .iload_n 2, 62, 2, 0, 0), (62, .ishl, 63, 0, 0, 0), (63, .iconst 1, 64, 1, 0, 0)],
  [(64, .iload_n 3, 65, 3, 0, 0), (65, .ishl, 66, 0, 0, 0), (66, .ior, 67, 0, 0, 0), (67, .iand, 68, 0, 0, 0), (68, .ifCond .eq 7, 71, 75, 0, 0), (71, .iconst 3, 72, 3, 0, 0), (72, .goto 4, 75, 76, 0, 0), (75, .iconst 0, 76, 0, 0, 0), (76, .invokevirtual 63, 79, 128, 2, 0), (79, .ifCond .eq 5, 82, 84, 0, 0)],
  [(82, .iconst 0, 83, 0, 0, 0), (83, .ireturn, 84, 0, 0, 0), (84, .iconst 1, 85, 1, 0, 0), (85, .iload_n 2, 86, 2, 0, 0), (86, .ishl, 87, 0, 0, 0), (87, .istore 6, 89, 6, 0, 0), (89, .iconst 1, 90, 1, 0, 0), (90, .iload_n 3, 91, 3, 0, 0), (91, .ishl, 92, 0, 0, 0), (92, .istore 7, 94, 7, 0, 0), (94, .iconst 1, 95, 1, 0, 0), (95, .istore 8, 97, 8, 0, 0)],
  [(97, .iload 8, 99, 8, 0, 0), (99, .sipush 128, 102, 128, 0, 0), (102, .if_icmp .ge 61, 105, 163, 0, 0), (105, .aload_n 0, 106, 0, 0, 0), (106, .getfield 13, 109, 5, 1, 0), (109, .iload 8, 111, 8, 0, 0), (111, .iload 6, 113, 6, 0, 0)],
  [(113, .iload 7, 115, 7, 0, 0), (115, .ior, 116, 0, 0, 0), (116, .iload 8, 118, 8, 0, 0), (118, .invokestatic 46, 121, 137, 2, 0), (121, .ifCond .ne 34, 124, 155, 0, 0), (124, .aload_n 0, 125, 0, 0, 0), (125, .iload_n 1, 126, 1, 0, 0), (126, .iload 8, 128, 8, 0, 0)],
  [(128, .iload 6, 130, 6, 0, 0), (130, .iload 8, 132, 8, 0, 0), (132, .invokestatic 46, 135, 137, 2, 0), (135, .ifCond .eq 8, 138, 143, 0, 0), (138, .iload 6, 140, 6, 0, 0), (140, .goto 5, 143, 145, 0, 0), (143, .iload 7, 145, 7, 0, 0)],
  [(145, .invokevirtual 87, 148, 155, 4, 0), (148, .ifCond .eq 7, 151, 155, 0, 0), (151, .iconst 1, 152, 1, 0, 0), (152, .goto 4, 155, 156, 0, 0), (155, .iconst 0, 156, 0, 0, 0), (156, .bastore, 157, 0, 0, 0), (157, .iinc 8 1, 160, 8, 1, 0)],
  [(160, .goto (-63), 163, 97, 0, 0), (163, .aload_n 0, 164, 0, 0, 0), (164, .iload 4, 166, 4, 0, 0), (166, .invokevirtual 72, 169, 142, 2, 0), (169, .ireturn, 170, 0, 0, 0)]])
noncomputable def MX7_other : eM := (yX7_other, cX7_other, 5, (Option.some Jvm.ClassFile.FieldType.int), [], (0, 0), 5, [[(0, .aload_n 0, 1, 0, 0, 0), (1, .iload_n 1, 2, 1, 0, 0), (2, .invokestatic 56, 5, 130, 1, 0), (5, .ifCond .eq 10, 8, 15, 0, 0), (8, .iload_n 3, 9, 3, 0, 0), (9, .invokestatic 56, 12, 130, 1, 0), (12, .ifCond .ne 7, 15, 19, 0, 0), (15, .iconst 1, 16, 1, 0, 0)],
  [(16, .goto 31, 19, 47, 0, 0), (19, .iload_n 2, 20, 2, 0, 0), (20, .invokestatic 60, 23, 131, 1, 0), (23, .ifCond .ne 7, 26, 30, 0, 0), (26, .iconst 2, 27, 2, 0, 0), (27, .goto 20, 30, 47, 0, 0), (30, .aload_n 0, 31, 0, 0, 0), (31, .iload_n 1, 32, 1, 0, 0)],
  [(32, .invokevirtual 84, 35, 139, 2, 0), (35, .iload_n 2, 36, 2, 0, 0), (36, .invokestatic 46, 39, 137, 2, 0), (39, .ifCond .ne 7, 42, 46, 0, 0), (42, .iconst 3, 43, 3, 0, 0), (43, .goto 4, 46, 47, 0, 0), (46, .iconst 0, 47, 0, 0, 0), (47, .invokevirtual 63, 50, 128, 2, 0)],
  [(50, .ifCond .eq 5, 53, 55, 0, 0), (53, .iconst 0, 54, 0, 0, 0), (54, .ireturn, 55, 0, 0, 0), (55, .iconst 1, 56, 1, 0, 0), (56, .istore 4, 58, 4, 0, 0), (58, .iload 4, 60, 4, 0, 0), (60, .sipush 128, 63, 128, 0, 0), (63, .if_icmp .ge 48, 66, 111, 0, 0)],
  [(66, .aload_n 0, 67, 0, 0, 0), (67, .getfield 13, 70, 5, 1, 0), (70, .iload 4, 72, 4, 0, 0), (72, .iload 4, 74, 4, 0, 0), (74, .iload_n 2, 75, 2, 0, 0), (75, .invokestatic 46, 78, 137, 2, 0), (78, .ifCond .eq 25, 81, 103, 0, 0)],
  [(81, .iload 4, 83, 4, 0, 0), (83, .iload_n 2, 84, 2, 0, 0), (84, .if_icmp .eq 19, 87, 103, 0, 0), (87, .aload_n 0, 88, 0, 0, 0), (88, .iload_n 1, 89, 1, 0, 0), (89, .iload_n 2, 90, 2, 0, 0), (90, .iload 4, 92, 4, 0, 0), (92, .isub, 93, 0, 0, 0), (93, .invokevirtual 42, 96, 134, 3, 0)],
  [(96, .ifCond .ne 7, 99, 103, 0, 0), (99, .iconst 1, 100, 1, 0, 0), (100, .goto 4, 103, 104, 0, 0), (103, .iconst 0, 104, 0, 0, 0), (104, .bastore, 105, 0, 0, 0), (105, .iinc 4 1, 108, 4, 1, 0), (108, .goto (-50), 111, 58, 0, 0), (111, .aload_n 0, 112, 0, 0, 0)],
  [(112, .iload_n 3, 113, 3, 0, 0), (113, .invokevirtual 72, 116, 142, 2, 0), (116, .ireturn, 117, 0, 0, 0)]])
noncomputable def MX7_exchanged : eM := (yX7_exchanged, cX7_exchanged, 4, (Option.some Jvm.ClassFile.FieldType.int), [], (0, 0), 5, [[(0, .iload_n 0, 1, 0, 0, 0), (1, .iconst 1, 2, 1, 0, 0), (2, .iload_n 1, 3, 1, 0, 0), (3, .ishl, 4, 0, 0, 0), (4, .iconst 1, 5, 1, 0, 0), (5, .iload_n 2, 6, 2, 0, 0), (6, .ishl, 7, 0, 0, 0), (7, .ior, 8, 0, 0, 0), (8, .iconst (-1), 9, 0, 1, 0), (9, .ixor, 10, 0, 0, 0), (10, .iand, 11, 0, 0, 0), (11, .istore_n 3, 12, 3, 0, 0), (12, .iload_n 3, 13, 3, 0, 0), (13, .iload_n 0, 14, 0, 0, 0), (14, .iload_n 1, 15, 1, 0, 0), (15, .ishr, 16, 0, 0, 0)],
  [(16, .iconst 1, 17, 1, 0, 0), (17, .iand, 18, 0, 0, 0), (18, .iload_n 2, 19, 2, 0, 0), (19, .ishl, 20, 0, 0, 0), (20, .ior, 21, 0, 0, 0), (21, .iload_n 0, 22, 0, 0, 0), (22, .iload_n 2, 23, 2, 0, 0), (23, .ishr, 24, 0, 0, 0), (24, .iconst 1, 25, 1, 0, 0), (25, .iand, 26, 0, 0, 0), (26, .iload_n 1, 27, 1, 0, 0), (27, .ishl, 28, 0, 0, 0), (28, .ior, 29, 0, 0, 0), (29, .ireturn, 30, 0, 0, 0)]])
noncomputable def MX7_exchange : eM := (yX7_exchange, cX7_exchange, 7, (Option.some Jvm.ClassFile.FieldType.int), [], (0, 0), 5, [[(0, .aload_n 0, 1, 0, 0, 0), (1, .iload_n 1, 2, 1, 0, 0), (2, .invokestatic 56, 5, 130, 1, 0), (5, .ifCond .eq 11, 8, 16, 0, 0), (8, .iload 4, 10, 4, 0, 0), (10, .invokestatic 56, 13, 130, 1, 0), (13, .ifCond .ne 7, 16, 20, 0, 0)],
  [(16, .iconst 1, 17, 1, 0, 0), (17, .goto 22, 20, 39, 0, 0), (20, .iload_n 2, 21, 2, 0, 0), (21, .invokestatic 81, 24, 132, 1, 0), (24, .ifCond .eq 10, 27, 34, 0, 0), (27, .iload_n 3, 28, 3, 0, 0), (28, .invokestatic 81, 31, 132, 1, 0), (31, .ifCond .ne 7, 34, 38, 0, 0)],
  [(34, .iconst 2, 35, 2, 0, 0), (35, .goto 4, 38, 39, 0, 0), (38, .iconst 0, 39, 0, 0, 0), (39, .invokevirtual 63, 42, 128, 2, 0), (42, .ifCond .eq 5, 45, 47, 0, 0), (45, .iconst 0, 46, 0, 0, 0), (46, .ireturn, 47, 0, 0, 0), (47, .iconst 0, 48, 0, 0, 0)],
  [(48, .istore 5, 50, 5, 0, 0), (50, .iconst 1, 51, 1, 0, 0), (51, .istore 6, 53, 6, 0, 0), (53, .iload 6, 55, 6, 0, 0), (55, .sipush 128, 58, 128, 0, 0), (58, .if_icmp .ge 58, 61, 116, 0, 0), (61, .aload_n 0, 62, 0, 0, 0), (62, .getfield 13, 65, 5, 1, 0)],
  [(65, .iload 6, 67, 6, 0, 0), (67, .aload_n 0, 68, 0, 0, 0), (68, .iload_n 1, 69, 1, 0, 0), (69, .iload 6, 71, 6, 0, 0), (71, .iload_n 2, 72, 2, 0, 0), (72, .iload_n 3, 73, 3, 0, 0), (73, .invokestatic 90, 76, 158, 3, 0), (76, .invokevirtual 42, 79, 134, 3, 0), (79, .bastore, 80, 0, 0, 0)],
  [(80, .iload 5, 82, 5, 0, 0), (82, .aload_n 0, 83, 0, 0, 0), (83, .getfield 13, 86, 5, 1, 0), (86, .iload 6, 88, 6, 0, 0), (88, .baload, 89, 0, 0, 0), (89, .ifCond .eq 17, 92, 106, 0, 0), (92, .aload_n 0, 93, 0, 0, 0), (93, .iload_n 1, 94, 1, 0, 0), (94, .iload 6, 96, 6, 0, 0)],
  [(96, .invokevirtual 42, 99, 134, 3, 0), (99, .ifCond .ne 7, 102, 106, 0, 0), (102, .iconst 1, 103, 1, 0, 0), (103, .goto 4, 106, 107, 0, 0), (106, .iconst 0, 107, 0, 0, 0), (107, .iadd, 108, 0, 0, 0), (108, .istore 5, 110, 5, 0, 0), (110, .iinc 6 1, 113, 6, 1, 0)],
  [(113, .goto (-60), 116, 53, 0, 0), (116, .aload_n 0, 117, 0, 0, 0), (117, .iload 4, 119, 4, 0, 0), (119, .invokevirtual 72, 122, 142, 2, 0), (122, .pop, 123, 0, 0, 0), (123, .iload 5, 125, 5, 0, 0), (125, .ireturn, 126, 0, 0, 0)]])
noncomputable def MX7_fold : eM := (yX7_fold, cX7_fold, 6, (Option.some Jvm.ClassFile.FieldType.int), [], (0, 0), 5, [[(0, .aload_n 0, 1, 0, 0, 0), (1, .iload_n 1, 2, 1, 0, 0), (2, .iload_n 2, 3, 2, 0, 0), (3, .invokevirtual 66, 6, 143, 3, 0), (6, .istore_n 3, 7, 3, 0, 0), (7, .aload_n 0, 8, 0, 0, 0), (8, .iload_n 3, 9, 3, 0, 0), (9, .ifCond .eq 7, 12, 16, 0, 0), (12, .iload_n 3, 13, 3, 0, 0), (13, .goto 18, 16, 31, 0, 0)],
  [(16, .aload_n 0, 17, 0, 0, 0), (17, .iload_n 1, 18, 1, 0, 0), (18, .iload_n 2, 19, 2, 0, 0), (19, .invokevirtual 49, 22, 140, 3, 0), (22, .iconst 1, 23, 1, 0, 0), (23, .if_icmp .eq 7, 26, 30, 0, 0), (26, .iconst 4, 27, 4, 0, 0), (27, .goto 4, 30, 31, 0, 0), (30, .iconst 0, 31, 0, 0, 0), (31, .invokevirtual 63, 34, 128, 2, 0)],
  [(34, .ifCond .eq 5, 37, 39, 0, 0), (37, .iconst 0, 38, 0, 0, 0), (38, .ireturn, 39, 0, 0, 0), (39, .iconst 0, 40, 0, 0, 0), (40, .istore 4, 42, 4, 0, 0), (42, .iconst 1, 43, 1, 0, 0), (43, .istore 5, 45, 5, 0, 0), (45, .iload 5, 47, 5, 0, 0), (47, .sipush 128, 50, 128, 0, 0)],
  [(50, .if_icmp .ge 43, 53, 93, 0, 0), (53, .iload 5, 55, 5, 0, 0), (55, .iload_n 2, 56, 2, 0, 0), (56, .if_icmp .eq 27, 59, 83, 0, 0), (59, .iload_n 2, 60, 2, 0, 0), (60, .iload 5, 62, 5, 0, 0), (62, .invokestatic 46, 65, 137, 2, 0)],
  [(65, .ifCond .eq 18, 68, 83, 0, 0), (68, .aload_n 0, 69, 0, 0, 0), (69, .iload_n 1, 70, 1, 0, 0), (70, .iload 5, 72, 5, 0, 0), (72, .invokevirtual 42, 75, 134, 3, 0), (75, .ifCond .eq 8, 78, 83, 0, 0), (78, .iload 5, 80, 5, 0, 0)],
  [(80, .goto 5, 83, 85, 0, 0), (83, .iload 4, 85, 4, 0, 0), (85, .istore 4, 87, 4, 0, 0), (87, .iinc 5 1, 90, 5, 1, 0), (90, .goto (-45), 93, 45, 0, 0), (93, .aload_n 0, 94, 0, 0, 0), (94, .iload_n 1, 95, 1, 0, 0), (95, .iload_n 2, 96, 2, 0, 0)],
  [(96, .invokevirtual 69, 99, 145, 3, 0), (99, .pop, 100, 0, 0, 0), (100, .iload 4, 102, 4, 0, 0), (102, .ireturn, 103, 0, 0, 0)]])
noncomputable def MX7_has : eM := (yX7_has, cX7_has, 3, (Option.some Jvm.ClassFile.FieldType.boolean), [], (0, 0), 5, [[(0, .aload_n 0, 1, 0, 0, 0), (1, .iload_n 1, 2, 1, 0, 0), (2, .invokestatic 56, 5, 130, 1, 0), (5, .ifCond .ne 7, 8, 12, 0, 0), (8, .iconst 1, 9, 1, 0, 0), (9, .goto 15, 12, 24, 0, 0), (12, .iload_n 2, 13, 2, 0, 0), (13, .invokestatic 60, 16, 131, 1, 0)],
  [(16, .ifCond .ne 7, 19, 23, 0, 0), (19, .iconst 2, 20, 2, 0, 0), (20, .goto 4, 23, 24, 0, 0), (23, .iconst 0, 24, 0, 0, 0), (24, .invokevirtual 63, 27, 128, 2, 0), (27, .ifCond .ne 16, 30, 43, 0, 0), (30, .aload_n 0, 31, 0, 0, 0), (31, .iload_n 1, 32, 1, 0, 0)],
  [(32, .iload_n 2, 33, 2, 0, 0), (33, .invokevirtual 42, 36, 134, 3, 0), (36, .ifCond .eq 7, 39, 43, 0, 0), (39, .iconst 1, 40, 1, 0, 0), (40, .goto 4, 43, 44, 0, 0), (43, .iconst 0, 44, 0, 0, 0), (44, .ireturn, 45, 0, 0, 0)]])
noncomputable def MX7_size : eM := (yX7_size, cX7_size, 2, (Option.some Jvm.ClassFile.FieldType.int), [], (0, 0), 5, [[(0, .aload_n 0, 1, 0, 0, 0), (1, .iload_n 1, 2, 1, 0, 0), (2, .invokestatic 56, 5, 130, 1, 0), (5, .ifCond .eq 7, 8, 12, 0, 0), (8, .iconst 0, 9, 0, 0, 0), (9, .goto 4, 12, 13, 0, 0), (12, .iconst 1, 13, 1, 0, 0), (13, .invokevirtual 63, 16, 128, 2, 0)],
  [(16, .ifCond .eq 7, 19, 23, 0, 0), (19, .iconst 0, 20, 0, 0, 0), (20, .goto 8, 23, 28, 0, 0), (23, .aload_n 0, 24, 0, 0, 0), (24, .iload_n 1, 25, 1, 0, 0), (25, .invokevirtual 53, 28, 138, 2, 0), (28, .ireturn, 29, 0, 0, 0)]])
noncomputable def MX7_facesOf : eM := (yX7_facesOf, cX7_facesOf, 5, (Option.some Jvm.ClassFile.FieldType.int), [], (0, 0), 5, [[(0, .iconst 0, 1, 0, 0, 0), (1, .istore_n 3, 2, 3, 0, 0), (2, .iconst 1, 3, 1, 0, 0), (3, .istore 4, 5, 4, 0, 0), (5, .iload 4, 7, 4, 0, 0), (7, .sipush 128, 10, 128, 0, 0), (10, .if_icmp .ge 36, 13, 46, 0, 0), (13, .iload_n 3, 14, 3, 0, 0), (14, .aload_n 0, 15, 0, 0, 0), (15, .iload_n 1, 16, 1, 0, 0)],
  [(16, .iload 4, 18, 4, 0, 0), (18, .invokevirtual 42, 21, 134, 3, 0), (21, .ifCond .eq 16, 24, 37, 0, 0), (24, .iload 4, 26, 4, 0, 0), (26, .invokestatic 78, 29, 136, 1, 0), (29, .iload_n 2, 30, 2, 0, 0), (30, .if_icmp .ne 7, 33, 37, 0, 0)],
  [(33, .iconst 1, 34, 1, 0, 0), (34, .goto 4, 37, 38, 0, 0), (37, .iconst 0, 38, 0, 0, 0), (38, .iadd, 39, 0, 0, 0), (39, .istore_n 3, 40, 3, 0, 0), (40, .iinc 4 1, 43, 4, 1, 0), (43, .goto (-38), 46, 5, 0, 0), (46, .iload_n 3, 47, 3, 0, 0), (47, .ireturn, 48, 0, 0, 0)]])
noncomputable def MX7_faces : eM := (yX7_faces, cX7_faces, 3, (Option.some Jvm.ClassFile.FieldType.int), [], (0, 0), 5, [[(0, .aload_n 0, 1, 0, 0, 0), (1, .iload_n 1, 2, 1, 0, 0), (2, .invokestatic 56, 5, 130, 1, 0), (5, .ifCond .ne 7, 8, 12, 0, 0), (8, .iconst 1, 9, 1, 0, 0), (9, .goto 15, 12, 24, 0, 0), (12, .iload_n 2, 13, 2, 0, 0), (13, .invokestatic 75, 16, 133, 1, 0)],
  [(16, .ifCond .ne 7, 19, 23, 0, 0), (19, .iconst 2, 20, 2, 0, 0), (20, .goto 4, 23, 24, 0, 0), (23, .iconst 0, 24, 0, 0, 0), (24, .invokevirtual 63, 27, 128, 2, 0), (27, .ifCond .eq 7, 30, 34, 0, 0), (30, .iconst 0, 31, 0, 0, 0), (31, .goto 9, 34, 40, 0, 0)],
  [(34, .aload_n 0, 35, 0, 0, 0), (35, .iload_n 1, 36, 1, 0, 0), (36, .iload_n 2, 37, 2, 0, 0), (37, .invokevirtual 94, 40, 163, 3, 0), (40, .ireturn, 41, 0, 0, 0)]])
noncomputable def MX7_corners : eM := (yX7_corners, cX7_corners, 2, (Option.some Jvm.ClassFile.FieldType.int), [], (0, 0), 5, [[(0, .aload_n 0, 1, 0, 0, 0), (1, .iload_n 1, 2, 1, 0, 0), (2, .invokestatic 56, 5, 130, 1, 0), (5, .ifCond .eq 7, 8, 12, 0, 0), (8, .iconst 0, 9, 0, 0, 0), (9, .goto 4, 12, 13, 0, 0), (12, .iconst 1, 13, 1, 0, 0), (13, .invokevirtual 63, 16, 128, 2, 0)],
  [(16, .ifCond .eq 7, 19, 23, 0, 0), (19, .iconst 0, 20, 0, 0, 0), (20, .goto 8, 23, 28, 0, 0), (23, .aload_n 0, 24, 0, 0, 0), (24, .iload_n 1, 25, 1, 0, 0), (25, .invokevirtual 84, 28, 139, 2, 0), (28, .ireturn, 29, 0, 0, 0)]])
noncomputable def MX7_over : eM := (yX7_over, cX7_over, 3, (Option.some Jvm.ClassFile.FieldType.int), [], (0, 0), 5, [[(0, .aload_n 0, 1, 0, 0, 0), (1, .aload_n 0, 2, 0, 0, 0), (2, .iload_n 1, 3, 1, 0, 0), (3, .iload_n 2, 4, 2, 0, 0), (4, .invokevirtual 66, 7, 143, 3, 0), (7, .invokevirtual 63, 10, 128, 2, 0), (10, .ifCond .eq 7, 13, 17, 0, 0), (13, .iconst 0, 14, 0, 0, 0), (14, .goto 9, 17, 23, 0, 0)],
  [(17, .aload_n 0, 18, 0, 0, 0), (18, .iload_n 1, 19, 1, 0, 0), (19, .iload_n 2, 20, 2, 0, 0), (20, .invokevirtual 49, 23, 140, 3, 0), (23, .ireturn, 24, 0, 0, 0)]])
noncomputable def MX7_greatestOf : eM := (yX7_greatestOf, cX7_greatestOf, 4, (Option.some Jvm.ClassFile.FieldType.int), [], (0, 0), 5, [[(0, .iconst 0, 1, 0, 0, 0), (1, .istore_n 2, 2, 2, 0, 0), (2, .iconst 1, 3, 1, 0, 0), (3, .istore_n 3, 4, 3, 0, 0), (4, .iload_n 3, 5, 3, 0, 0), (5, .sipush 128, 8, 128, 0, 0), (8, .if_icmp .ge 26, 11, 34, 0, 0), (11, .iload_n 2, 12, 2, 0, 0), (12, .aload_n 0, 13, 0, 0, 0), (13, .iload_n 1, 14, 1, 0, 0), (14, .iload_n 3, 15, 3, 0, 0), (15, .invokevirtual 97, 18, 141, 3, 0)],
  [(18, .ifCond .eq 7, 21, 25, 0, 0), (21, .iconst 1, 22, 1, 0, 0), (22, .goto 4, 25, 26, 0, 0), (25, .iconst 0, 26, 0, 0, 0), (26, .iadd, 27, 0, 0, 0), (27, .istore_n 2, 28, 2, 0, 0), (28, .iinc 3 1, 31, 3, 1, 0), (31, .goto (-27), 34, 4, 0, 0)],
  [(34, .iload_n 2, 35, 2, 0, 0), (35, .ireturn, 36, 0, 0, 0)]])
noncomputable def MX7_greatest : eM := (yX7_greatest, cX7_greatest, 2, (Option.some Jvm.ClassFile.FieldType.int), [], (0, 0), 5, [[(0, .aload_n 0, 1, 0, 0, 0), (1, .iload_n 1, 2, 1, 0, 0), (2, .invokestatic 56, 5, 130, 1, 0), (5, .ifCond .eq 7, 8, 12, 0, 0), (8, .iconst 0, 9, 0, 0, 0), (9, .goto 4, 12, 13, 0, 0), (12, .iconst 1, 13, 1, 0, 0), (13, .invokevirtual 63, 16, 128, 2, 0)],
  [(16, .ifCond .eq 7, 19, 23, 0, 0), (19, .iconst 0, 20, 0, 0, 0), (20, .goto 8, 23, 28, 0, 0), (23, .aload_n 0, 24, 0, 0, 0), (24, .iload_n 1, 25, 1, 0, 0), (25, .invokevirtual 100, 28, 167, 2, 0), (28, .ireturn, 29, 0, 0, 0)]])
noncomputable def MX7_greatestAt : eM := (yX7_greatestAt, cX7_greatestAt, 5, (Option.some Jvm.ClassFile.FieldType.int), [], (0, 0), 5, [[(0, .aload_n 0, 1, 0, 0, 0), (1, .iload_n 1, 2, 1, 0, 0), (2, .invokestatic 56, 5, 130, 1, 0), (5, .ifCond .eq 18, 8, 23, 0, 0), (8, .iload_n 2, 9, 2, 0, 0), (9, .iconst 0, 10, 0, 0, 0), (10, .aload_n 0, 11, 0, 0, 0), (11, .iload_n 1, 12, 1, 0, 0), (12, .invokevirtual 100, 15, 167, 2, 0), (15, .iconst 1, 16, 1, 0, 0)],
  [(16, .isub, 17, 0, 0, 0), (17, .invokestatic 34, 20, 129, 3, 0), (20, .ifCond .ne 7, 23, 27, 0, 0), (23, .iconst 1, 24, 1, 0, 0), (24, .goto 4, 27, 28, 0, 0), (27, .iconst 0, 28, 0, 0, 0), (28, .invokevirtual 63, 31, 128, 2, 0), (31, .ifCond .eq 5, 34, 36, 0, 0)],
  [(34, .iconst 0, 35, 0, 0, 0), (35, .ireturn, 36, 0, 0, 0), (36, .iload_n 2, 37, 2, 0, 0), (37, .istore_n 3, 38, 3, 0, 0), (38, .iconst 0, 39, 0, 0, 0), (39, .istore 4, 41, 4, 0, 0), (41, .iload_n 3, 42, 3, 0, 0), (42, .ifCond .lt 27, 45, 69, 0, 0), (45, .iinc 4 1, 48, 4, 1, 0)],
  [(48, .iload_n 3, 49, 3, 0, 0), (49, .aload_n 0, 50, 0, 0, 0), (50, .iload_n 1, 51, 1, 0, 0), (51, .iload 4, 53, 4, 0, 0), (53, .invokevirtual 97, 56, 141, 3, 0), (56, .ifCond .eq 7, 59, 63, 0, 0), (59, .iconst 1, 60, 1, 0, 0), (60, .goto 4, 63, 64, 0, 0), (63, .iconst 0, 64, 0, 0, 0)],
  [(64, .isub, 65, 0, 0, 0), (65, .istore_n 3, 66, 3, 0, 0), (66, .goto (-25), 69, 41, 0, 0), (69, .iload 4, 71, 4, 0, 0), (71, .ireturn, 72, 0, 0, 0)]])
noncomputable def MX7_isOf : eM := (yX7_isOf, cX7_isOf, 5, (Option.some Jvm.ClassFile.FieldType.boolean), [], (0, 0), 5, [[(0, .iconst 1, 1, 1, 0, 0), (1, .istore_n 3, 2, 3, 0, 0), (2, .iconst 1, 3, 1, 0, 0), (3, .istore 4, 5, 4, 0, 0), (5, .iload 4, 7, 4, 0, 0), (7, .sipush 128, 10, 128, 0, 0), (10, .if_icmp .ge 37, 13, 47, 0, 0), (13, .iload_n 3, 14, 3, 0, 0), (14, .aload_n 0, 15, 0, 0, 0), (15, .iload_n 1, 16, 1, 0, 0)],
  [(16, .iload 4, 18, 4, 0, 0), (18, .invokevirtual 42, 21, 134, 3, 0), (21, .ifCond .ne 13, 24, 34, 0, 0), (24, .aload_n 0, 25, 0, 0, 0), (25, .iload_n 2, 26, 2, 0, 0), (26, .iload 4, 28, 4, 0, 0), (28, .invokevirtual 42, 31, 134, 3, 0), (31, .ifCond .ne 7, 34, 38, 0, 0)],
  [(34, .iconst 1, 35, 1, 0, 0), (35, .goto 4, 38, 39, 0, 0), (38, .iconst 0, 39, 0, 0, 0), (39, .iand, 40, 0, 0, 0), (40, .istore_n 3, 41, 3, 0, 0), (41, .iinc 4 1, 44, 4, 1, 0), (44, .goto (-39), 47, 5, 0, 0), (47, .iload_n 3, 48, 3, 0, 0)],
  [(48, .ireturn, 49, 0, 0, 0)]])
noncomputable def MX7_isSame : eM := (yX7_isSame, cX7_isSame, 3, (Option.some Jvm.ClassFile.FieldType.boolean), [], (0, 0), 5, [[(0, .aload_n 0, 1, 0, 0, 0), (1, .iload_n 1, 2, 1, 0, 0), (2, .invokestatic 56, 5, 130, 1, 0), (5, .ifCond .eq 14, 8, 19, 0, 0), (8, .iload_n 2, 9, 2, 0, 0), (9, .invokestatic 56, 12, 130, 1, 0), (12, .ifCond .eq 7, 15, 19, 0, 0), (15, .iconst 0, 16, 0, 0, 0)],
  [(16, .goto 4, 19, 20, 0, 0), (19, .iconst 1, 20, 1, 0, 0), (20, .invokevirtual 63, 23, 128, 2, 0), (23, .ifCond .ne 25, 26, 48, 0, 0), (26, .aload_n 0, 27, 0, 0, 0), (27, .iload_n 1, 28, 1, 0, 0), (28, .iload_n 2, 29, 2, 0, 0), (29, .invokevirtual 103, 32, 170, 3, 0)],
  [(32, .ifCond .eq 16, 35, 48, 0, 0), (35, .aload_n 0, 36, 0, 0, 0), (36, .iload_n 2, 37, 2, 0, 0), (37, .iload_n 1, 38, 1, 0, 0), (38, .invokevirtual 103, 41, 170, 3, 0), (41, .ifCond .eq 7, 44, 48, 0, 0), (44, .iconst 1, 45, 1, 0, 0), (45, .goto 4, 48, 49, 0, 0)],
  [(48, .iconst 0, 49, 0, 0, 0), (49, .ireturn, 50, 0, 0, 0)]])
noncomputable def MX7_contains : eM := (yX7_contains, cX7_contains, 3, (Option.some Jvm.ClassFile.FieldType.boolean), [], (0, 0), 5, [[(0, .aload_n 0, 1, 0, 0, 0), (1, .iload_n 1, 2, 1, 0, 0), (2, .invokestatic 56, 5, 130, 1, 0), (5, .ifCond .eq 14, 8, 19, 0, 0), (8, .iload_n 2, 9, 2, 0, 0), (9, .invokestatic 56, 12, 130, 1, 0), (12, .ifCond .eq 7, 15, 19, 0, 0), (15, .iconst 0, 16, 0, 0, 0)],
  [(16, .goto 4, 19, 20, 0, 0), (19, .iconst 1, 20, 1, 0, 0), (20, .invokevirtual 63, 23, 128, 2, 0), (23, .ifCond .ne 16, 26, 39, 0, 0), (26, .aload_n 0, 27, 0, 0, 0), (27, .iload_n 1, 28, 1, 0, 0), (28, .iload_n 2, 29, 2, 0, 0), (29, .invokevirtual 103, 32, 170, 3, 0)],
  [(32, .ifCond .eq 7, 35, 39, 0, 0), (35, .iconst 1, 36, 1, 0, 0), (36, .goto 4, 39, 40, 0, 0), (39, .iconst 0, 40, 0, 0, 0), (40, .ireturn, 41, 0, 0, 0)]])
noncomputable def MX7_walk : eM := (yX7_walk, cX7_walk, 4, (Option.none : Option Jvm.ClassFile.FieldType), [], (0, 0), 5, [[(0, .iconst 0, 1, 0, 0, 0), (1, .istore_n 2, 2, 2, 0, 0), (2, .iload_n 2, 3, 2, 0, 0), (3, .bipush 7, 5, 7, 0, 0), (5, .if_icmp .ge 31, 8, 36, 0, 0), (8, .aload_n 0, 9, 0, 0, 0), (9, .getfield 22, 12, 5, 4, 0), (12, .iload_n 2, 13, 2, 0, 0), (13, .aload_n 0, 14, 0, 0, 0), (14, .iload_n 1, 15, 1, 0, 0), (15, .iconst 1, 16, 1, 0, 0)],
  [(16, .iload_n 2, 17, 2, 0, 0), (17, .ishl, 18, 0, 0, 0), (18, .invokevirtual 42, 21, 134, 3, 0), (21, .ifCond .eq 7, 24, 28, 0, 0), (24, .iload_n 2, 25, 2, 0, 0), (25, .goto 4, 28, 29, 0, 0), (28, .iconst (-1), 29, 0, 1, 0), (29, .iastore, 30, 0, 0, 0), (30, .iinc 2 1, 33, 2, 1, 0)],
  [(33, .goto (-31), 36, 2, 0, 0), (36, .iconst 0, 37, 0, 0, 0), (37, .istore_n 2, 38, 2, 0, 0), (38, .iload_n 2, 39, 2, 0, 0), (39, .bipush 7, 41, 7, 0, 0), (41, .if_icmp .ge 46, 44, 87, 0, 0), (44, .iconst 1, 45, 1, 0, 0), (45, .istore_n 3, 46, 3, 0, 0), (46, .iload_n 3, 47, 3, 0, 0), (47, .sipush 128, 50, 128, 0, 0)],
  [(50, .if_icmp .ge 31, 53, 81, 0, 0), (53, .aload_n 0, 54, 0, 0, 0), (54, .iload_n 1, 55, 1, 0, 0), (55, .iload_n 3, 56, 3, 0, 0), (56, .invokevirtual 42, 59, 134, 3, 0), (59, .ifCond .eq 16, 62, 75, 0, 0), (62, .iload_n 3, 63, 3, 0, 0), (63, .invokestatic 78, 66, 136, 1, 0)],
  [(66, .iconst 1, 67, 1, 0, 0), (67, .if_icmp .ne 8, 70, 75, 0, 0), (70, .aload_n 0, 71, 0, 0, 0), (71, .iload_n 3, 72, 3, 0, 0), (72, .invokevirtual 106, 75, 174, 2, 0), (75, .iinc 3 1, 78, 3, 1, 0), (78, .goto (-32), 81, 46, 0, 0)],
  [(81, .iinc 2 1, 84, 2, 1, 0), (84, .goto (-46), 87, 38, 0, 0), (87, .return_, 88, 0, 0, 0)]])
noncomputable def MX7_join : eM := (yX7_join, cX7_join, 4, (Option.none : Option Jvm.ClassFile.FieldType), [], (0, 0), 5, [[(0, .bipush 7, 2, 7, 0, 0), (2, .istore_n 2, 3, 2, 0, 0), (3, .iconst 0, 4, 0, 0, 0), (4, .istore_n 3, 5, 3, 0, 0), (5, .iload_n 3, 6, 3, 0, 0), (6, .bipush 7, 8, 7, 0, 0), (8, .if_icmp .ge 39, 11, 47, 0, 0), (11, .iload_n 1, 12, 1, 0, 0), (12, .iload_n 3, 13, 3, 0, 0), (13, .ishr, 14, 0, 0, 0), (14, .iconst 1, 15, 1, 0, 0), (15, .iand, 16, 0, 0, 0)],
  [(16, .iconst 1, 17, 1, 0, 0), (17, .if_icmp .ne 22, 20, 39, 0, 0), (20, .aload_n 0, 21, 0, 0, 0), (21, .getfield 22, 24, 5, 4, 0), (24, .iload_n 3, 25, 3, 0, 0), (25, .iaload, 26, 0, 0, 0), (26, .iload_n 2, 27, 2, 0, 0), (27, .if_icmp .ge 12, 30, 39, 0, 0), (30, .aload_n 0, 31, 0, 0, 0), (31, .getfield 22, 34, 5, 4, 0)],
  [(34, .iload_n 3, 35, 3, 0, 0), (35, .iaload, 36, 0, 0, 0), (36, .goto 4, 39, 40, 0, 0), (39, .iload_n 2, 40, 2, 0, 0), (40, .istore_n 2, 41, 2, 0, 0), (41, .iinc 3 1, 44, 3, 1, 0), (44, .goto (-39), 47, 5, 0, 0), (47, .iconst 0, 48, 0, 0, 0)],
  [(48, .istore_n 3, 49, 3, 0, 0), (49, .iload_n 3, 50, 3, 0, 0), (50, .bipush 7, 52, 7, 0, 0), (52, .if_icmp .ge 34, 55, 86, 0, 0), (55, .aload_n 0, 56, 0, 0, 0), (56, .getfield 22, 59, 5, 4, 0), (59, .iload_n 3, 60, 3, 0, 0), (60, .iload_n 1, 61, 1, 0, 0), (61, .iload_n 3, 62, 3, 0, 0), (62, .ishr, 63, 0, 0, 0), (63, .iconst 1, 64, 1, 0, 0)],
  [(64, .iand, 65, 0, 0, 0), (65, .iconst 1, 66, 1, 0, 0), (66, .if_icmp .ne 7, 69, 73, 0, 0), (69, .iload_n 2, 70, 2, 0, 0), (70, .goto 9, 73, 79, 0, 0), (73, .aload_n 0, 74, 0, 0, 0), (74, .getfield 22, 77, 5, 4, 0), (77, .iload_n 3, 78, 3, 0, 0), (78, .iaload, 79, 0, 0, 0), (79, .iastore, 80, 0, 0, 0)],
  [(80, .iinc 3 1, 83, 3, 1, 0), (83, .goto (-34), 86, 49, 0, 0), (86, .return_, 87, 0, 0, 0)]])
noncomputable def MX7_pieces : eM := (yX7_pieces, cX7_pieces, 4, (Option.some Jvm.ClassFile.FieldType.int), [], (0, 0), 5, [[(0, .aload_n 0, 1, 0, 0, 0), (1, .iload_n 1, 2, 1, 0, 0), (2, .invokestatic 56, 5, 130, 1, 0), (5, .ifCond .eq 7, 8, 12, 0, 0), (8, .iconst 0, 9, 0, 0, 0), (9, .goto 4, 12, 13, 0, 0), (12, .iconst 1, 13, 1, 0, 0), (13, .invokevirtual 63, 16, 128, 2, 0)],
  [(16, .ifCond .eq 5, 19, 21, 0, 0), (19, .iconst 0, 20, 0, 0, 0), (20, .ireturn, 21, 0, 0, 0), (21, .aload_n 0, 22, 0, 0, 0), (22, .iload_n 1, 23, 1, 0, 0), (23, .invokevirtual 110, 26, 173, 2, 0), (26, .iconst 0, 27, 0, 0, 0), (27, .istore_n 2, 28, 2, 0, 0), (28, .iconst 0, 29, 0, 0, 0), (29, .istore_n 3, 30, 3, 0, 0), (30, .iload_n 3, 31, 3, 0, 0), (31, .bipush 7, 33, 7, 0, 0)],
  [(33, .if_icmp .ge 27, 36, 60, 0, 0), (36, .iload_n 2, 37, 2, 0, 0), (37, .aload_n 0, 38, 0, 0, 0), (38, .getfield 22, 41, 5, 4, 0), (41, .iload_n 3, 42, 3, 0, 0), (42, .iaload, 43, 0, 0, 0), (43, .iload_n 3, 44, 3, 0, 0), (44, .if_icmp .ne 7, 47, 51, 0, 0), (47, .iconst 1, 48, 1, 0, 0)],
  [(48, .goto 4, 51, 52, 0, 0), (51, .iconst 0, 52, 0, 0, 0), (52, .iadd, 53, 0, 0, 0), (53, .istore_n 2, 54, 2, 0, 0), (54, .iinc 3 1, 57, 3, 1, 0), (57, .goto (-27), 60, 30, 0, 0), (60, .iload_n 2, 61, 2, 0, 0), (61, .ireturn, 62, 0, 0, 0)]])
noncomputable def MX7_areJoined : eM := (yX7_areJoined, cX7_areJoined, 4, (Option.some Jvm.ClassFile.FieldType.boolean), [], (0, 0), 5, [[(0, .aload_n 0, 1, 0, 0, 0), (1, .iload_n 1, 2, 1, 0, 0), (2, .invokestatic 56, 5, 130, 1, 0), (5, .ifCond .ne 7, 8, 12, 0, 0), (8, .iconst 1, 9, 1, 0, 0), (9, .goto 48, 12, 57, 0, 0), (12, .iload_n 2, 13, 2, 0, 0), (13, .invokestatic 81, 16, 132, 1, 0)],
  [(16, .ifCond .eq 10, 19, 26, 0, 0), (19, .iload_n 3, 20, 3, 0, 0), (20, .invokestatic 81, 23, 132, 1, 0), (23, .ifCond .ne 7, 26, 30, 0, 0), (26, .iconst 2, 27, 2, 0, 0), (27, .goto 30, 30, 57, 0, 0), (30, .aload_n 0, 31, 0, 0, 0), (31, .iload_n 1, 32, 1, 0, 0)],
  [(32, .iconst 1, 33, 1, 0, 0), (33, .iload_n 2, 34, 2, 0, 0), (34, .ishl, 35, 0, 0, 0), (35, .invokevirtual 42, 38, 134, 3, 0), (38, .ifCond .eq 14, 41, 52, 0, 0), (41, .aload_n 0, 42, 0, 0, 0), (42, .iload_n 1, 43, 1, 0, 0), (43, .iconst 1, 44, 1, 0, 0), (44, .iload_n 3, 45, 3, 0, 0), (45, .ishl, 46, 0, 0, 0), (46, .invokevirtual 42, 49, 134, 3, 0)],
  [(49, .ifCond .ne 7, 52, 56, 0, 0), (52, .iconst 3, 53, 3, 0, 0), (53, .goto 4, 56, 57, 0, 0), (56, .iconst 0, 57, 0, 0, 0), (57, .invokevirtual 63, 60, 128, 2, 0), (60, .ifCond .eq 5, 63, 65, 0, 0), (63, .iconst 0, 64, 0, 0, 0)],
  [(64, .ireturn, 65, 0, 0, 0), (65, .aload_n 0, 66, 0, 0, 0), (66, .iload_n 1, 67, 1, 0, 0), (67, .invokevirtual 110, 70, 173, 2, 0), (70, .aload_n 0, 71, 0, 0, 0), (71, .getfield 22, 74, 5, 4, 0), (74, .iload_n 2, 75, 2, 0, 0), (75, .iaload, 76, 0, 0, 0), (76, .aload_n 0, 77, 0, 0, 0), (77, .getfield 22, 80, 5, 4, 0)],
  [(80, .iload_n 3, 81, 3, 0, 0), (81, .iaload, 82, 0, 0, 0), (82, .if_icmp .ne 7, 85, 89, 0, 0), (85, .iconst 1, 86, 1, 0, 0), (86, .goto 4, 89, 90, 0, 0), (89, .iconst 0, 90, 0, 0, 0), (90, .ireturn, 91, 0, 0, 0)]])
noncomputable def MX7_bit : eM := (yX7_bit, cX7_bit, 4, (Option.some Jvm.ClassFile.FieldType.long), [], (0, 0), 5, [[(0, .lconst 1, 1, 1, 0, 0), (1, .lstore_n 1, 2, 1, 0, 0), (2, .iconst 1, 3, 1, 0, 0), (3, .istore_n 3, 4, 3, 0, 0), (4, .iload_n 3, 5, 3, 0, 0), (5, .iload_n 0, 6, 0, 0, 0), (6, .if_icmp .ge 28, 9, 34, 0, 0), (9, .lload_n 1, 10, 1, 0, 0), (10, .iload_n 3, 11, 3, 0, 0), (11, .invokestatic 78, 14, 136, 1, 0), (14, .iload_n 0, 15, 0, 0, 0), (15, .invokestatic 78, 18, 136, 1, 0)],
  [(18, .if_icmp .ne 7, 21, 25, 0, 0), (21, .iconst 1, 22, 1, 0, 0), (22, .goto 4, 25, 26, 0, 0), (25, .iconst 0, 26, 0, 0, 0), (26, .lshl, 27, 0, 0, 0), (27, .lstore_n 1, 28, 1, 0, 0), (28, .iinc 3 1, 31, 3, 1, 0), (31, .goto (-27), 34, 4, 0, 0)],
  [(34, .lload_n 1, 35, 1, 0, 0), (35, .lreturn, 36, 0, 0, 0)]])
noncomputable def MX7_borderBits : eM := (yX7_borderBits, cX7_borderBits, 4, (Option.some Jvm.ClassFile.FieldType.long), [], (0, 0), 5, [[(0, .lconst 0, 1, 0, 0, 0), (1, .lstore_n 1, 2, 1, 0, 0), (2, .iconst 0, 3, 0, 0, 0), (3, .istore_n 3, 4, 3, 0, 0), (4, .iload_n 3, 5, 3, 0, 0), (5, .bipush 7, 7, 7, 0, 0), (7, .if_icmp .ge 33, 10, 40, 0, 0), (10, .lload_n 1, 11, 1, 0, 0), (11, .iload_n 0, 12, 0, 0, 0), (12, .iload_n 3, 13, 3, 0, 0), (13, .ishr, 14, 0, 0, 0), (14, .iconst 1, 15, 1, 0, 0), (15, .iand, 16, 0, 0, 0)],
  [(16, .iconst 1, 17, 1, 0, 0), (17, .if_icmp .ne 14, 20, 31, 0, 0), (20, .iload_n 0, 21, 0, 0, 0), (21, .iconst 1, 22, 1, 0, 0), (22, .iload_n 3, 23, 3, 0, 0), (23, .ishl, 24, 0, 0, 0), (24, .isub, 25, 0, 0, 0), (25, .invokestatic 113, 28, 177, 1, 0), (28, .goto 4, 31, 32, 0, 0), (31, .lconst 0, 32, 0, 0, 0)],
  [(32, .lor, 33, 0, 0, 0), (33, .lstore_n 1, 34, 1, 0, 0), (34, .iinc 3 1, 37, 3, 1, 0), (37, .goto (-33), 40, 4, 0, 0), (40, .lload_n 1, 41, 1, 0, 0), (41, .lreturn, 42, 0, 0, 0)]])
noncomputable def MX7_left : eM := (yX7_left, cX7_left, 6, (Option.some Jvm.ClassFile.FieldType.long), [], (0, 0), 5, [[(0, .lload_n 1, 1, 1, 0, 0), (1, .lstore_n 3, 2, 3, 0, 0), (2, .iconst 0, 3, 0, 0, 0), (3, .istore 5, 5, 5, 0, 0), (5, .iload 5, 7, 5, 0, 0), (7, .aload_n 0, 8, 0, 0, 0), (8, .getfield 117, 11, 5, 6, 0), (11, .if_icmp .ge 37, 14, 48, 0, 0), (14, .lload_n 3, 15, 3, 0, 0), (15, .aload_n 0, 16, 0, 0, 0)],
  [(16, .getfield 26, 19, 5, 5, 0), (19, .iload 5, 21, 5, 0, 0), (21, .laload, 22, 0, 0, 0), (22, .lxor, 23, 0, 0, 0), (23, .lload_n 3, 24, 3, 0, 0), (24, .lcmp, 25, 0, 0, 0), (25, .ifCond .ge 15, 28, 40, 0, 0), (28, .lload_n 3, 29, 3, 0, 0), (29, .aload_n 0, 30, 0, 0, 0), (30, .getfield 26, 33, 5, 5, 0)],
  [(33, .iload 5, 35, 5, 0, 0), (35, .laload, 36, 0, 0, 0), (36, .lxor, 37, 0, 0, 0), (37, .goto 4, 40, 41, 0, 0), (40, .lload_n 3, 41, 3, 0, 0), (41, .lstore_n 3, 42, 3, 0, 0), (42, .iinc 5 1, 45, 5, 1, 0), (45, .goto (-40), 48, 5, 0, 0)],
  [(48, .lload_n 3, 49, 3, 0, 0), (49, .lreturn, 50, 0, 0, 0)]])
noncomputable def MX7_rank : eM := (yX7_rank, cX7_rank, 6, (Option.some Jvm.ClassFile.FieldType.int), [], (0, 0), 5, [[(0, .aload_n 0, 1, 0, 0, 0), (1, .iconst 0, 2, 0, 0, 0), (2, .putfield 117, 5, 5, 6, 0), (5, .iconst 1, 6, 1, 0, 0), (6, .istore_n 3, 7, 3, 0, 0), (7, .iload_n 3, 8, 3, 0, 0), (8, .sipush 128, 11, 128, 0, 0), (11, .if_icmp .ge 76, 14, 87, 0, 0), (14, .iload_n 2, 15, 2, 0, 0), (15, .bipush 6, 17, 6, 0, 0)],
  [(17, .if_icmp .gt 70, 20, 87, 0, 0), (20, .aload_n 0, 21, 0, 0, 0), (21, .iload_n 1, 22, 1, 0, 0), (22, .iload_n 3, 23, 3, 0, 0), (23, .invokevirtual 42, 26, 134, 3, 0), (26, .ifCond .eq 55, 29, 81, 0, 0), (29, .iload_n 3, 30, 3, 0, 0), (30, .invokestatic 78, 33, 136, 1, 0)],
  [(33, .iload_n 2, 34, 2, 0, 0), (34, .if_icmp .eq 6, 37, 40, 0, 0), (37, .goto 44, 40, 81, 0, 0), (40, .aload_n 0, 41, 0, 0, 0), (41, .iload_n 3, 42, 3, 0, 0), (42, .invokestatic 120, 45, 178, 1, 0), (45, .invokevirtual 123, 48, 179, 2, 0)],
  [(48, .lstore 4, 50, 4, 0, 0), (50, .lload 4, 52, 4, 0, 0), (52, .lconst 0, 53, 0, 0, 0), (53, .lcmp, 54, 0, 0, 0), (54, .ifCond .ne 6, 57, 60, 0, 0), (57, .goto 24, 60, 81, 0, 0), (60, .aload_n 0, 61, 0, 0, 0), (61, .getfield 26, 64, 5, 5, 0)],
  [(64, .aload_n 0, 65, 0, 0, 0), (65, .getfield 117, 68, 5, 6, 0), (68, .lload 4, 70, 4, 0, 0), (70, .lastore, 71, 0, 0, 0), (71, .aload_n 0, 72, 0, 0, 0), (72, .dup, 73, 0, 0, 0), (73, .getfield 117, 76, 5, 6, 0), (76, .iconst 1, 77, 1, 0, 0), (77, .iadd, 78, 0, 0, 0), (78, .putfield 117, 81, 5, 6, 0)],
  [(81, .iinc 3 1, 84, 3, 1, 0), (84, .goto (-77), 87, 7, 0, 0), (87, .aload_n 0, 88, 0, 0, 0), (88, .getfield 117, 91, 5, 6, 0), (91, .ireturn, 92, 0, 0, 0)]])
noncomputable def MX7_free : eM := (yX7_free, cX7_free, 3, (Option.some Jvm.ClassFile.FieldType.int), [], (0, 0), 5, [[(0, .aload_n 0, 1, 0, 0, 0), (1, .iload_n 1, 2, 1, 0, 0), (2, .invokestatic 56, 5, 130, 1, 0), (5, .ifCond .ne 7, 8, 12, 0, 0), (8, .iconst 1, 9, 1, 0, 0), (9, .goto 18, 12, 27, 0, 0), (12, .iload_n 2, 13, 2, 0, 0), (13, .iconst 1, 14, 1, 0, 0), (14, .bipush 6, 16, 6, 0, 0)],
  [(16, .invokestatic 34, 19, 129, 3, 0), (19, .ifCond .ne 7, 22, 26, 0, 0), (22, .iconst 2, 23, 2, 0, 0), (23, .goto 4, 26, 27, 0, 0), (26, .iconst 0, 27, 0, 0, 0), (27, .invokevirtual 63, 30, 128, 2, 0), (30, .ifCond .eq 7, 33, 37, 0, 0)],
  [(33, .iconst 0, 34, 0, 0, 0), (34, .goto 9, 37, 43, 0, 0), (37, .aload_n 0, 38, 0, 0, 0), (38, .iload_n 1, 39, 1, 0, 0), (39, .iload_n 2, 40, 2, 0, 0), (40, .invokevirtual 127, 43, 180, 3, 0), (43, .ireturn, 44, 0, 0, 0)]])
noncomputable def MX7_holes : eM := (yX7_holes, cX7_holes, 4, (Option.some Jvm.ClassFile.FieldType.int), [], (0, 0), 5, [[(0, .aload_n 0, 1, 0, 0, 0), (1, .iload_n 1, 2, 1, 0, 0), (2, .invokestatic 56, 5, 130, 1, 0), (5, .ifCond .ne 7, 8, 12, 0, 0), (8, .iconst 1, 9, 1, 0, 0), (9, .goto 15, 12, 24, 0, 0), (12, .iload_n 2, 13, 2, 0, 0), (13, .invokestatic 75, 16, 133, 1, 0)],
  [(16, .ifCond .ne 7, 19, 23, 0, 0), (19, .iconst 2, 20, 2, 0, 0), (20, .goto 4, 23, 24, 0, 0), (23, .iconst 0, 24, 0, 0, 0), (24, .invokevirtual 63, 27, 128, 2, 0), (27, .ifCond .ne 11, 30, 38, 0, 0), (30, .aload_n 0, 31, 0, 0, 0), (31, .iload_n 1, 32, 1, 0, 0)],
  [(32, .invokevirtual 53, 35, 138, 2, 0), (35, .ifCond .ne 5, 38, 40, 0, 0), (38, .iconst 0, 39, 0, 0, 0), (39, .ireturn, 40, 0, 0, 0), (40, .iload_n 2, 41, 2, 0, 0), (41, .ifCond .ne 7, 44, 48, 0, 0), (44, .iconst 1, 45, 1, 0, 0), (45, .goto 9, 48, 54, 0, 0)],
  [(48, .aload_n 0, 49, 0, 0, 0), (49, .iload_n 1, 50, 1, 0, 0), (50, .iload_n 2, 51, 2, 0, 0), (51, .invokevirtual 127, 54, 180, 3, 0), (54, .istore_n 3, 55, 3, 0, 0), (55, .aload_n 0, 56, 0, 0, 0), (56, .iload_n 1, 57, 1, 0, 0), (57, .iload_n 2, 58, 2, 0, 0), (58, .invokevirtual 94, 61, 163, 3, 0), (61, .iload_n 3, 62, 3, 0, 0), (62, .isub, 63, 0, 0, 0), (63, .aload_n 0, 64, 0, 0, 0)],
  [(64, .iload_n 1, 65, 1, 0, 0), (65, .iload_n 2, 66, 2, 0, 0), (66, .iconst 1, 67, 1, 0, 0), (67, .iadd, 68, 0, 0, 0), (68, .invokevirtual 127, 71, 180, 3, 0), (71, .isub, 72, 0, 0, 0), (72, .ireturn, 73, 0, 0, 0)]])
noncomputable def MX7_signed : eM := (yX7_signed, cX7_signed, 4, (Option.some Jvm.ClassFile.FieldType.int), [], (0, 0), 5, [[(0, .aload_n 0, 1, 0, 0, 0), (1, .iload_n 1, 2, 1, 0, 0), (2, .invokestatic 56, 5, 130, 1, 0), (5, .ifCond .eq 7, 8, 12, 0, 0), (8, .iconst 0, 9, 0, 0, 0), (9, .goto 4, 12, 13, 0, 0), (12, .iconst 1, 13, 1, 0, 0), (13, .invokevirtual 63, 16, 128, 2, 0)],
  [(16, .ifCond .eq 5, 19, 21, 0, 0), (19, .iconst 0, 20, 0, 0, 0), (20, .ireturn, 21, 0, 0, 0), (21, .iconst 0, 22, 0, 0, 0), (22, .istore_n 2, 23, 2, 0, 0), (23, .iconst 0, 24, 0, 0, 0), (24, .istore_n 3, 25, 3, 0, 0), (25, .iload_n 3, 26, 3, 0, 0), (26, .bipush 7, 28, 7, 0, 0), (28, .if_icmp .ge 34, 31, 62, 0, 0), (31, .iload_n 2, 32, 2, 0, 0)],
  [(32, .iload_n 3, 33, 3, 0, 0), (33, .iconst 2, 34, 2, 0, 0), (34, .irem, 35, 0, 0, 0), (35, .ifCond .ne 12, 38, 47, 0, 0), (38, .aload_n 0, 39, 0, 0, 0), (39, .iload_n 1, 40, 1, 0, 0), (40, .iload_n 3, 41, 3, 0, 0), (41, .invokevirtual 94, 44, 163, 3, 0), (44, .goto 10, 47, 54, 0, 0), (47, .aload_n 0, 48, 0, 0, 0)],
  [(48, .iload_n 1, 49, 1, 0, 0), (49, .iload_n 3, 50, 3, 0, 0), (50, .invokevirtual 94, 53, 163, 3, 0), (53, .ineg, 54, 0, 0, 0), (54, .iadd, 55, 0, 0, 0), (55, .istore_n 2, 56, 2, 0, 0), (56, .iinc 3 1, 59, 3, 1, 0), (59, .goto (-34), 62, 25, 0, 0), (62, .iload_n 2, 63, 2, 0, 0), (63, .ireturn, 64, 0, 0, 0)]])
noncomputable def MX7_rowMany : eM := (yX7_rowMany, cX7_rowMany, 3, (Option.some Jvm.ClassFile.FieldType.int), [], (0, 0), 5, [[(0, .iconst 0, 1, 0, 0, 0), (1, .istore_n 1, 2, 1, 0, 0), (2, .iconst 1, 3, 1, 0, 0), (3, .istore_n 2, 4, 2, 0, 0), (4, .iload_n 2, 5, 2, 0, 0), (5, .sipush 128, 8, 128, 0, 0), (8, .if_icmp .ge 26, 11, 34, 0, 0), (11, .iload_n 1, 12, 1, 0, 0), (12, .aload_n 0, 13, 0, 0, 0), (13, .getfield 16, 16, 5, 2, 0)],
  [(16, .iload_n 2, 17, 2, 0, 0), (17, .baload, 18, 0, 0, 0), (18, .ifCond .eq 7, 21, 25, 0, 0), (21, .iconst 1, 22, 1, 0, 0), (22, .goto 4, 25, 26, 0, 0), (25, .iconst 0, 26, 0, 0, 0), (26, .iadd, 27, 0, 0, 0), (27, .istore_n 1, 28, 1, 0, 0), (28, .iinc 2 1, 31, 2, 1, 0), (31, .goto (-27), 34, 4, 0, 0)],
  [(34, .iload_n 1, 35, 1, 0, 0), (35, .ireturn, 36, 0, 0, 0)]])
noncomputable def MX7_rowHeight : eM := (yX7_rowHeight, cX7_rowHeight, 3, (Option.some Jvm.ClassFile.FieldType.int), [], (0, 0), 5, [[(0, .iconst (-1), 1, 0, 1, 0), (1, .istore_n 1, 2, 1, 0, 0), (2, .iconst 1, 3, 1, 0, 0), (3, .istore_n 2, 4, 2, 0, 0), (4, .iload_n 2, 5, 2, 0, 0), (5, .sipush 128, 8, 128, 0, 0), (8, .if_icmp .ge 27, 11, 35, 0, 0), (11, .aload_n 0, 12, 0, 0, 0), (12, .getfield 16, 15, 5, 2, 0), (15, .iload_n 2, 16, 2, 0, 0)],
  [(16, .baload, 17, 0, 0, 0), (17, .ifCond .eq 10, 20, 27, 0, 0), (20, .iload_n 2, 21, 2, 0, 0), (21, .invokestatic 78, 24, 136, 1, 0), (24, .goto 4, 27, 28, 0, 0), (27, .iload_n 1, 28, 1, 0, 0), (28, .istore_n 1, 29, 1, 0, 0), (29, .iinc 2 1, 32, 2, 1, 0)],
  [(32, .goto (-28), 35, 4, 0, 0), (35, .iload_n 1, 36, 1, 0, 0), (36, .ireturn, 37, 0, 0, 0)]])
noncomputable def MX7_flip : eM := (yX7_flip, cX7_flip, 2, (Option.some Jvm.ClassFile.FieldType.int), [], (0, 0), 5, [[(0, .aload_n 0, 1, 0, 0, 0), (1, .iload_n 1, 2, 1, 0, 0), (2, .invokestatic 60, 5, 131, 1, 0), (5, .ifCond .ne 7, 8, 12, 0, 0), (8, .iconst 1, 9, 1, 0, 0), (9, .goto 26, 12, 35, 0, 0), (12, .aload_n 0, 13, 0, 0, 0), (13, .invokevirtual 130, 16, 184, 1, 0)],
  [(16, .ifCond .le 18, 19, 34, 0, 0), (19, .aload_n 0, 20, 0, 0, 0), (20, .invokevirtual 134, 23, 185, 1, 0), (23, .iload_n 1, 24, 1, 0, 0), (24, .invokestatic 78, 27, 136, 1, 0), (27, .if_icmp .eq 7, 30, 34, 0, 0), (30, .iconst 2, 31, 2, 0, 0), (31, .goto 4, 34, 35, 0, 0)],
  [(34, .iconst 0, 35, 0, 0, 0), (35, .invokevirtual 63, 38, 128, 2, 0), (38, .ifCond .eq 5, 41, 43, 0, 0), (41, .iconst 0, 42, 0, 0, 0), (42, .ireturn, 43, 0, 0, 0), (43, .aload_n 0, 44, 0, 0, 0), (44, .getfield 16, 47, 5, 2, 0), (47, .iload_n 1, 48, 1, 0, 0)],
  [(48, .aload_n 0, 49, 0, 0, 0), (49, .getfield 16, 52, 5, 2, 0), (52, .iload_n 1, 53, 1, 0, 0), (53, .baload, 54, 0, 0, 0), (54, .ifCond .ne 7, 57, 61, 0, 0), (57, .iconst 1, 58, 1, 0, 0), (58, .goto 4, 61, 62, 0, 0), (61, .iconst 0, 62, 0, 0, 0), (62, .bastore, 63, 0, 0, 0), (63, .aload_n 0, 64, 0, 0, 0)],
  [(64, .invokevirtual 130, 67, 184, 1, 0), (67, .ireturn, 68, 0, 0, 0)]])
noncomputable def MX7_findBorder : eM := (yX7_findBorder, cX7_findBorder, 3, (Option.none : Option Jvm.ClassFile.FieldType), [], (0, 0), 5, [[(0, .iconst 1, 1, 1, 0, 0), (1, .istore_n 1, 2, 1, 0, 0), (2, .iload_n 1, 3, 1, 0, 0), (3, .sipush 128, 6, 128, 0, 0), (6, .if_icmp .ge 65, 9, 71, 0, 0), (9, .aload_n 0, 10, 0, 0, 0), (10, .getfield 19, 13, 5, 3, 0), (13, .iload_n 1, 14, 1, 0, 0), (14, .iconst 0, 15, 0, 0, 0), (15, .bastore, 16, 0, 0, 0)],
  [(16, .iconst 0, 17, 0, 0, 0), (17, .istore_n 2, 18, 2, 0, 0), (18, .iload_n 2, 19, 2, 0, 0), (19, .bipush 7, 21, 7, 0, 0), (21, .if_icmp .ge 44, 24, 65, 0, 0), (24, .aload_n 0, 25, 0, 0, 0), (25, .getfield 19, 28, 5, 3, 0), (28, .iload_n 1, 29, 1, 0, 0), (29, .dup2, 30, 0, 0, 0), (30, .baload, 31, 0, 0, 0), (31, .iload_n 1, 32, 1, 0, 0)],
  [(32, .iload_n 2, 33, 2, 0, 0), (33, .ishr, 34, 0, 0, 0), (34, .iconst 1, 35, 1, 0, 0), (35, .iand, 36, 0, 0, 0), (36, .ifCond .ne 20, 39, 56, 0, 0), (39, .aload_n 0, 40, 0, 0, 0), (40, .getfield 16, 43, 5, 2, 0), (43, .iload_n 1, 44, 1, 0, 0), (44, .iconst 1, 45, 1, 0, 0), (45, .iload_n 2, 46, 2, 0, 0), (46, .ishl, 47, 0, 0, 0), (47, .ior, 48, 0, 0, 0)],
  [(48, .baload, 49, 0, 0, 0), (49, .ifCond .eq 7, 52, 56, 0, 0), (52, .iconst 1, 53, 1, 0, 0), (53, .goto 4, 56, 57, 0, 0), (56, .iconst 0, 57, 0, 0, 0), (57, .ixor, 58, 0, 0, 0), (58, .bastore, 59, 0, 0, 0), (59, .iinc 2 1, 62, 2, 1, 0), (62, .goto (-44), 65, 18, 0, 0)],
  [(65, .iinc 1 1, 68, 1, 1, 0), (68, .goto (-66), 71, 2, 0, 0), (71, .return_, 72, 0, 0, 0)]])
noncomputable def MX7_border : eM := (yX7_border, cX7_border, 2, (Option.some Jvm.ClassFile.FieldType.int), [], (0, 0), 5, [[(0, .aload_n 0, 1, 0, 0, 0), (1, .invokevirtual 137, 4, 187, 1, 0), (4, .iconst 1, 5, 1, 0, 0), (5, .istore_n 1, 6, 1, 0, 0), (6, .iload_n 1, 7, 1, 0, 0), (7, .sipush 128, 10, 128, 0, 0), (10, .if_icmp .ge 21, 13, 31, 0, 0), (13, .aload_n 0, 14, 0, 0, 0), (14, .getfield 16, 17, 5, 2, 0)],
  [(17, .iload_n 1, 18, 1, 0, 0), (18, .aload_n 0, 19, 0, 0, 0), (19, .getfield 19, 22, 5, 3, 0), (22, .iload_n 1, 23, 1, 0, 0), (23, .baload, 24, 0, 0, 0), (24, .bastore, 25, 0, 0, 0), (25, .iinc 1 1, 28, 1, 1, 0), (28, .goto (-22), 31, 6, 0, 0), (31, .aload_n 0, 32, 0, 0, 0)],
  [(32, .invokevirtual 130, 35, 184, 1, 0), (35, .ireturn, 36, 0, 0, 0)]])
noncomputable def MX7_drop : eM := (yX7_drop, cX7_drop, 3, (Option.some Jvm.ClassFile.FieldType.int), [], (0, 0), 5, [[(0, .aload_n 0, 1, 0, 0, 0), (1, .invokevirtual 130, 4, 184, 1, 0), (4, .istore_n 1, 5, 1, 0, 0), (5, .iconst 1, 6, 1, 0, 0), (6, .istore_n 2, 7, 2, 0, 0), (7, .iload_n 2, 8, 2, 0, 0), (8, .sipush 128, 11, 128, 0, 0), (11, .if_icmp .ge 16, 14, 27, 0, 0), (14, .aload_n 0, 15, 0, 0, 0), (15, .getfield 16, 18, 5, 2, 0)],
  [(18, .iload_n 2, 19, 2, 0, 0), (19, .iconst 0, 20, 0, 0, 0), (20, .bastore, 21, 0, 0, 0), (21, .iinc 2 1, 24, 2, 1, 0), (24, .goto (-17), 27, 7, 0, 0), (27, .iload_n 1, 28, 1, 0, 0), (28, .ireturn, 29, 0, 0, 0)]])
noncomputable def MX7_rowAt : eM := (yX7_rowAt, cX7_rowAt, 4, (Option.some Jvm.ClassFile.FieldType.int), [], (0, 0), 5, [[(0, .aload_n 0, 1, 0, 0, 0), (1, .iload_n 1, 2, 1, 0, 0), (2, .iconst 0, 3, 0, 0, 0), (3, .aload_n 0, 4, 0, 0, 0), (4, .invokevirtual 130, 7, 184, 1, 0), (7, .iconst 1, 8, 1, 0, 0), (8, .isub, 9, 0, 0, 0), (9, .invokestatic 34, 12, 129, 3, 0), (12, .ifCond .eq 7, 15, 19, 0, 0), (15, .iconst 0, 16, 0, 0, 0)],
  [(16, .goto 4, 19, 20, 0, 0), (19, .iconst 1, 20, 1, 0, 0), (20, .invokevirtual 63, 23, 128, 2, 0), (23, .ifCond .eq 5, 26, 28, 0, 0), (26, .iconst 0, 27, 0, 0, 0), (27, .ireturn, 28, 0, 0, 0), (28, .iload_n 1, 29, 1, 0, 0), (29, .istore_n 2, 30, 2, 0, 0), (30, .iconst 0, 31, 0, 0, 0), (31, .istore_n 3, 32, 3, 0, 0)],
  [(32, .iload_n 2, 33, 2, 0, 0), (33, .ifCond .lt 26, 36, 59, 0, 0), (36, .iinc 3 1, 39, 3, 1, 0), (39, .iload_n 2, 40, 2, 0, 0), (40, .aload_n 0, 41, 0, 0, 0), (41, .getfield 16, 44, 5, 2, 0), (44, .iload_n 3, 45, 3, 0, 0), (45, .baload, 46, 0, 0, 0), (46, .ifCond .eq 7, 49, 53, 0, 0)],
  [(49, .iconst 1, 50, 1, 0, 0), (50, .goto 4, 53, 54, 0, 0), (53, .iconst 0, 54, 0, 0, 0), (54, .isub, 55, 0, 0, 0), (55, .istore_n 2, 56, 2, 0, 0), (56, .goto (-24), 59, 32, 0, 0), (59, .iload_n 3, 60, 3, 0, 0), (60, .ireturn, 61, 0, 0, 0)]])
noncomputable def MX7_isRound : eM := (yX7_isRound, cX7_isRound, 3, (Option.some Jvm.ClassFile.FieldType.boolean), [], (0, 0), 5, [[(0, .aload_n 0, 1, 0, 0, 0), (1, .invokevirtual 137, 4, 187, 1, 0), (4, .iconst 1, 5, 1, 0, 0), (5, .istore_n 1, 6, 1, 0, 0), (6, .iconst 1, 7, 1, 0, 0), (7, .istore_n 2, 8, 2, 0, 0), (8, .iload_n 2, 9, 2, 0, 0), (9, .sipush 128, 12, 128, 0, 0), (12, .if_icmp .ge 26, 15, 38, 0, 0), (15, .iload_n 1, 16, 1, 0, 0)],
  [(16, .aload_n 0, 17, 0, 0, 0), (17, .getfield 19, 20, 5, 3, 0), (20, .iload_n 2, 21, 2, 0, 0), (21, .baload, 22, 0, 0, 0), (22, .ifCond .ne 7, 25, 29, 0, 0), (25, .iconst 1, 26, 1, 0, 0), (26, .goto 4, 29, 30, 0, 0), (29, .iconst 0, 30, 0, 0, 0), (30, .iand, 31, 0, 0, 0), (31, .istore_n 1, 32, 1, 0, 0)],
  [(32, .iinc 2 1, 35, 2, 1, 0), (35, .goto (-27), 38, 8, 0, 0), (38, .iload_n 1, 39, 1, 0, 0), (39, .ireturn, 40, 0, 0, 0)]])
noncomputable def MX7_fills : eM := (yX7_fills, cX7_fills, 6, (Option.some Jvm.ClassFile.FieldType.boolean), [], (0, 0), 5, [[(0, .iload_n 1, 1, 1, 0, 0), (1, .invokestatic 56, 4, 130, 1, 0), (4, .istore_n 2, 5, 2, 0, 0), (5, .lconst 0, 6, 0, 0, 0), (6, .lstore_n 3, 7, 3, 0, 0), (7, .iconst 1, 8, 1, 0, 0), (8, .istore 5, 10, 5, 0, 0), (10, .iload 5, 12, 5, 0, 0), (12, .sipush 128, 15, 128, 0, 0), (15, .if_icmp .ge 66, 18, 81, 0, 0)],
  [(18, .iload_n 1, 19, 1, 0, 0), (19, .invokestatic 56, 22, 130, 1, 0), (22, .ifCond .eq 59, 25, 81, 0, 0), (25, .iload_n 2, 26, 2, 0, 0), (26, .aload_n 0, 27, 0, 0, 0), (27, .getfield 16, 30, 5, 2, 0), (30, .iload 5, 32, 5, 0, 0)],
  [(32, .baload, 33, 0, 0, 0), (33, .ifCond .eq 13, 36, 46, 0, 0), (36, .aload_n 0, 37, 0, 0, 0), (37, .iload_n 1, 38, 1, 0, 0), (38, .iload 5, 40, 5, 0, 0), (40, .invokevirtual 42, 43, 134, 3, 0), (43, .ifCond .eq 7, 46, 50, 0, 0), (46, .iconst 1, 47, 1, 0, 0), (47, .goto 4, 50, 51, 0, 0)],
  [(50, .iconst 0, 51, 0, 0, 0), (51, .iand, 52, 0, 0, 0), (52, .istore_n 2, 53, 2, 0, 0), (53, .lload_n 3, 54, 3, 0, 0), (54, .aload_n 0, 55, 0, 0, 0), (55, .getfield 16, 58, 5, 2, 0), (58, .iload 5, 60, 5, 0, 0), (60, .baload, 61, 0, 0, 0), (61, .ifCond .eq 11, 64, 72, 0, 0)],
  [(64, .iload 5, 66, 5, 0, 0), (66, .invokestatic 113, 69, 177, 1, 0), (69, .goto 4, 72, 73, 0, 0), (72, .lconst 0, 73, 0, 0, 0), (73, .lor, 74, 0, 0, 0), (74, .lstore_n 3, 75, 3, 0, 0), (75, .iinc 5 1, 78, 5, 1, 0), (78, .goto (-68), 81, 10, 0, 0)],
  [(81, .aload_n 0, 82, 0, 0, 0), (82, .iload_n 1, 83, 1, 0, 0), (83, .invokestatic 56, 86, 130, 1, 0), (86, .ifCond .ne 7, 89, 93, 0, 0), (89, .iconst 1, 90, 1, 0, 0), (90, .goto 12, 93, 102, 0, 0), (93, .iload_n 2, 94, 2, 0, 0), (94, .ifCond .ne 7, 97, 101, 0, 0)],
  [(97, .iconst 2, 98, 2, 0, 0), (98, .goto 4, 101, 102, 0, 0), (101, .iconst 0, 102, 0, 0, 0), (102, .invokevirtual 63, 105, 128, 2, 0), (105, .ifCond .eq 5, 108, 110, 0, 0), (108, .iconst 0, 109, 0, 0, 0), (109, .ireturn, 110, 0, 0, 0), (110, .aload_n 0, 111, 0, 0, 0), (111, .iload_n 1, 112, 1, 0, 0)],
  [(112, .aload_n 0, 113, 0, 0, 0), (113, .invokevirtual 134, 116, 185, 1, 0), (116, .iconst 1, 117, 1, 0, 0), (117, .iadd, 118, 0, 0, 0), (118, .invokevirtual 127, 121, 180, 3, 0), (121, .pop, 122, 0, 0, 0), (122, .aload_n 0, 123, 0, 0, 0), (123, .lload_n 3, 124, 3, 0, 0), (124, .invokevirtual 123, 127, 179, 2, 0), (127, .lconst 0, 128, 0, 0, 0)],
  [(128, .lcmp, 129, 0, 0, 0), (129, .ifCond .ne 7, 132, 136, 0, 0), (132, .iconst 1, 133, 1, 0, 0), (133, .goto 4, 136, 137, 0, 0), (136, .iconst 0, 137, 0, 0, 0), (137, .ireturn, 138, 0, 0, 0)]])
noncomputable def MX7_mean : eM := (yX7_mean, cX7_mean, 4, (Option.some Jvm.ClassFile.FieldType.double), [], (0, 0), 5, [[(0, .aload_n 0, 1, 0, 0, 0), (1, .iload_n 1, 2, 1, 0, 0), (2, .invokestatic 56, 5, 130, 1, 0), (5, .ifCond .ne 7, 8, 12, 0, 0), (8, .iconst 1, 9, 1, 0, 0), (9, .goto 16, 12, 25, 0, 0), (12, .aload_n 0, 13, 0, 0, 0), (13, .iload_n 1, 14, 1, 0, 0), (14, .invokevirtual 53, 17, 138, 2, 0)],
  [(17, .ifCond .ne 7, 20, 24, 0, 0), (20, .iconst 2, 21, 2, 0, 0), (21, .goto 4, 24, 25, 0, 0), (24, .iconst 0, 25, 0, 0, 0), (25, .invokevirtual 63, 28, 128, 2, 0), (28, .ifCond .eq 5, 31, 33, 0, 0), (31, .dconst 0, 32, 0, 0, 0)],
  [(32, .dreturn, 33, 0, 0, 0), (33, .iconst 0, 34, 0, 0, 0), (34, .istore_n 2, 35, 2, 0, 0), (35, .iconst 1, 36, 1, 0, 0), (36, .istore_n 3, 37, 3, 0, 0), (37, .iload_n 3, 38, 3, 0, 0), (38, .sipush 128, 41, 128, 0, 0), (41, .if_icmp .ge 29, 44, 70, 0, 0), (44, .iload_n 2, 45, 2, 0, 0), (45, .aload_n 0, 46, 0, 0, 0), (46, .iload_n 1, 47, 1, 0, 0), (47, .iload_n 3, 48, 3, 0, 0)],
  [(48, .invokevirtual 42, 51, 134, 3, 0), (51, .ifCond .eq 10, 54, 61, 0, 0), (54, .iload_n 3, 55, 3, 0, 0), (55, .invokestatic 78, 58, 136, 1, 0), (58, .goto 4, 61, 62, 0, 0), (61, .iconst 0, 62, 0, 0, 0), (62, .iadd, 63, 0, 0, 0), (63, .istore_n 2, 64, 2, 0, 0)],
  [(64, .iinc 3 1, 67, 3, 1, 0), (67, .goto (-30), 70, 37, 0, 0), (70, .iload_n 2, 71, 2, 0, 0), (71, .i2d, 72, 0, 0, 0), (72, .aload_n 0, 73, 0, 0, 0), (73, .iload_n 1, 74, 1, 0, 0), (74, .invokevirtual 53, 77, 138, 2, 0), (77, .i2d, 78, 0, 0, 0), (78, .ddiv, 79, 0, 0, 0), (79, .dreturn, 80, 0, 0, 0)]])
noncomputable def MX7_share : eM := (yX7_share, cX7_share, 2, (Option.some Jvm.ClassFile.FieldType.float), [], (0, 0), 5, [[(0, .aload_n 0, 1, 0, 0, 0), (1, .iload_n 1, 2, 1, 0, 0), (2, .invokestatic 56, 5, 130, 1, 0), (5, .ifCond .eq 7, 8, 12, 0, 0), (8, .iconst 0, 9, 0, 0, 0), (9, .goto 4, 12, 13, 0, 0), (12, .iconst 1, 13, 1, 0, 0), (13, .invokevirtual 63, 16, 128, 2, 0)],
  [(16, .ifCond .ne 11, 19, 27, 0, 0), (19, .aload_n 0, 20, 0, 0, 0), (20, .iload_n 1, 21, 1, 0, 0), (21, .invokevirtual 53, 24, 138, 2, 0), (24, .ifCond .ne 5, 27, 29, 0, 0), (27, .fconst 0, 28, 0, 0, 0), (28, .freturn, 29, 0, 0, 0), (29, .aload_n 0, 30, 0, 0, 0), (30, .iload_n 1, 31, 1, 0, 0), (31, .invokevirtual 100, 34, 167, 2, 0)],
  [(34, .i2f, 35, 0, 0, 0), (35, .aload_n 0, 36, 0, 0, 0), (36, .iload_n 1, 37, 1, 0, 0), (37, .invokevirtual 53, 40, 138, 2, 0), (40, .i2f, 41, 0, 0, 0), (41, .fdiv, 42, 0, 0, 0), (42, .freturn, 43, 0, 0, 0)]])
noncomputable def MX7_checksum : eM := (yX7_checksum, cX7_checksum, 5, (Option.some Jvm.ClassFile.FieldType.long), [], (0, 0), 5, [[(0, .ldc2_w 140, 3, 17, 0, 0), (3, .lstore_n 1, 4, 1, 0, 0), (4, .iconst 0, 5, 0, 0, 0), (5, .istore_n 3, 6, 3, 0, 0), (6, .iload_n 3, 7, 3, 0, 0), (7, .bipush 6, 9, 6, 0, 0), (9, .if_icmp .ge 63, 12, 72, 0, 0), (12, .ldc2_w 142, 15, 31, 0, 0), (15, .lload_n 1, 16, 1, 0, 0)],
  [(16, .lmul, 17, 0, 0, 0), (17, .aload_n 0, 18, 0, 0, 0), (18, .iload_n 3, 19, 3, 0, 0), (19, .invokevirtual 53, 22, 138, 2, 0), (22, .i2l, 23, 0, 0, 0), (23, .ladd, 24, 0, 0, 0), (24, .lstore_n 1, 25, 1, 0, 0), (25, .iconst 1, 26, 1, 0, 0), (26, .istore 4, 28, 4, 0, 0), (28, .iload 4, 30, 4, 0, 0), (30, .sipush 128, 33, 128, 0, 0)],
  [(33, .if_icmp .ge 33, 36, 66, 0, 0), (36, .aload_n 0, 37, 0, 0, 0), (37, .iload_n 3, 38, 3, 0, 0), (38, .iload 4, 40, 4, 0, 0), (40, .invokevirtual 42, 43, 134, 3, 0), (43, .ifCond .eq 15, 46, 58, 0, 0), (46, .ldc2_w 142, 49, 31, 0, 0)],
  [(49, .lload_n 1, 50, 1, 0, 0), (50, .lmul, 51, 0, 0, 0), (51, .iload 4, 53, 4, 0, 0), (53, .i2l, 54, 0, 0, 0), (54, .ladd, 55, 0, 0, 0), (55, .goto 4, 58, 59, 0, 0), (58, .lload_n 1, 59, 1, 0, 0), (59, .lstore_n 1, 60, 1, 0, 0), (60, .iinc 4 1, 63, 4, 1, 0), (63, .goto (-35), 66, 28, 0, 0)],
  [(66, .iinc 3 1, 69, 3, 1, 0), (69, .goto (-63), 72, 6, 0, 0), (72, .ldc2_w 142, 75, 31, 0, 0), (75, .lload_n 1, 76, 1, 0, 0), (76, .lmul, 77, 0, 0, 0), (77, .aload_n 0, 78, 0, 0, 0), (78, .invokevirtual 130, 81, 184, 1, 0)],
  [(81, .i2l, 82, 0, 0, 0), (82, .ladd, 83, 0, 0, 0), (83, .lstore_n 1, 84, 1, 0, 0), (84, .iconst 1, 85, 1, 0, 0), (85, .istore_n 3, 86, 3, 0, 0), (86, .iload_n 3, 87, 3, 0, 0), (87, .sipush 128, 90, 128, 0, 0), (90, .if_icmp .ge 31, 93, 121, 0, 0), (93, .aload_n 0, 94, 0, 0, 0), (94, .getfield 16, 97, 5, 2, 0)],
  [(97, .iload_n 3, 98, 3, 0, 0), (98, .baload, 99, 0, 0, 0), (99, .ifCond .eq 14, 102, 113, 0, 0), (102, .ldc2_w 142, 105, 31, 0, 0), (105, .lload_n 1, 106, 1, 0, 0), (106, .lmul, 107, 0, 0, 0), (107, .iload_n 3, 108, 3, 0, 0), (108, .i2l, 109, 0, 0, 0), (109, .ladd, 110, 0, 0, 0), (110, .goto 4, 113, 114, 0, 0)],
  [(113, .lload_n 1, 114, 1, 0, 0), (114, .lstore_n 1, 115, 1, 0, 0), (115, .iinc 3 1, 118, 3, 1, 0), (118, .goto (-32), 121, 86, 0, 0), (121, .lload_n 1, 122, 1, 0, 0), (122, .lreturn, 123, 0, 0, 0)]])
noncomputable def MX7_isSound : eM := (yX7_isSound, cX7_isSound, 2, (Option.some Jvm.ClassFile.FieldType.boolean), [], (0, 0), 5, [[(0, .aload_n 0, 1, 0, 0, 0), (1, .iload_n 1, 2, 1, 0, 0), (2, .invokestatic 56, 5, 130, 1, 0), (5, .ifCond .eq 7, 8, 12, 0, 0), (8, .iconst 0, 9, 0, 0, 0), (9, .goto 4, 12, 13, 0, 0), (12, .iconst 1, 13, 1, 0, 0), (13, .invokevirtual 63, 16, 128, 2, 0)],
  [(16, .ifCond .ne 7, 19, 23, 0, 0), (19, .iconst 1, 20, 1, 0, 0), (20, .goto 4, 23, 24, 0, 0), (23, .iconst 0, 24, 0, 0, 0), (24, .ireturn, 25, 0, 0, 0)]])
noncomputable def MX7_isTrue : eM := (yX7_isTrue, cX7_isTrue, 4, (Option.some Jvm.ClassFile.FieldType.boolean), [], (0, 0), 5, [[(0, .aload_n 0, 1, 0, 0, 0), (1, .iload_n 1, 2, 1, 0, 0), (2, .invokestatic 56, 5, 130, 1, 0), (5, .ifCond .ne 7, 8, 12, 0, 0), (8, .iconst 1, 9, 1, 0, 0), (9, .goto 22, 12, 31, 0, 0), (12, .iload_n 2, 13, 2, 0, 0), (13, .invokestatic 81, 16, 132, 1, 0)],
  [(16, .ifCond .eq 10, 19, 26, 0, 0), (19, .iload_n 3, 20, 3, 0, 0), (20, .invokestatic 81, 23, 132, 1, 0), (23, .ifCond .ne 7, 26, 30, 0, 0), (26, .iconst 2, 27, 2, 0, 0), (27, .goto 4, 30, 31, 0, 0), (30, .iconst 0, 31, 0, 0, 0), (31, .invokevirtual 63, 34, 128, 2, 0)],
  [(34, .ifCond .ne 7, 37, 41, 0, 0), (37, .iconst 1, 38, 1, 0, 0), (38, .goto 4, 41, 42, 0, 0), (41, .iconst 0, 42, 0, 0, 0), (42, .ireturn, 43, 0, 0, 0)]])
noncomputable def MX7_faceIsTrue : eM := (yX7_faceIsTrue, cX7_faceIsTrue, 3, (Option.some Jvm.ClassFile.FieldType.boolean), [], (0, 0), 5, [[(0, .aload_n 0, 1, 0, 0, 0), (1, .aload_n 0, 2, 0, 0, 0), (2, .iload_n 1, 3, 1, 0, 0), (3, .iload_n 2, 4, 2, 0, 0), (4, .invokevirtual 66, 7, 143, 3, 0), (7, .invokevirtual 63, 10, 128, 2, 0), (10, .ifCond .ne 7, 13, 17, 0, 0), (13, .iconst 1, 14, 1, 0, 0), (14, .goto 4, 17, 18, 0, 0)],
  [(17, .iconst 0, 18, 0, 0, 0), (18, .ireturn, 19, 0, 0, 0)]])
noncomputable def MX7_pairIsTrue : eM := (yX7_pairIsTrue, cX7_pairIsTrue, 3, (Option.some Jvm.ClassFile.FieldType.boolean), [], (0, 0), 5, [[(0, .aload_n 0, 1, 0, 0, 0), (1, .iload_n 1, 2, 1, 0, 0), (2, .invokestatic 56, 5, 130, 1, 0), (5, .ifCond .eq 14, 8, 19, 0, 0), (8, .iload_n 2, 9, 2, 0, 0), (9, .invokestatic 56, 12, 130, 1, 0), (12, .ifCond .eq 7, 15, 19, 0, 0), (15, .iconst 0, 16, 0, 0, 0)],
  [(16, .goto 4, 19, 20, 0, 0), (19, .iconst 1, 20, 1, 0, 0), (20, .invokevirtual 63, 23, 128, 2, 0), (23, .ifCond .ne 7, 26, 30, 0, 0), (26, .iconst 1, 27, 1, 0, 0), (27, .goto 4, 30, 31, 0, 0), (30, .iconst 0, 31, 0, 0, 0), (31, .ireturn, 32, 0, 0, 0)]])
noncomputable def MJ6_bitCount_0f7a4 : eM := (yJ6_bitCount_0f7a4, cJ6_bitCount_0f7a4, 1, (Option.some Jvm.ClassFile.FieldType.int), [], (0, 0), 9, [[(0, .iload_n 0, 1, 0, 0, 0), (1, .iload_n 0, 2, 0, 0, 0), (2, .iconst 1, 3, 1, 0, 0), (3, .iushr, 4, 0, 0, 0), (4, .ldc_w 265, 7, 1431655765, 0, 0), (7, .iand, 8, 0, 0, 0), (8, .isub, 9, 0, 0, 0), (9, .istore_n 0, 10, 0, 0, 0), (10, .iload_n 0, 11, 0, 0, 0), (11, .ldc_w 266, 14, 858993459, 0, 0), (14, .iand, 15, 0, 0, 0), (15, .iload_n 0, 16, 0, 0, 0)],
  [(16, .iconst 2, 17, 2, 0, 0), (17, .iushr, 18, 0, 0, 0), (18, .ldc_w 266, 21, 858993459, 0, 0), (21, .iand, 22, 0, 0, 0), (22, .iadd, 23, 0, 0, 0), (23, .istore_n 0, 24, 0, 0, 0), (24, .iload_n 0, 25, 0, 0, 0), (25, .iload_n 0, 26, 0, 0, 0), (26, .iconst 4, 27, 4, 0, 0), (27, .iushr, 28, 0, 0, 0), (28, .iadd, 29, 0, 0, 0), (29, .ldc_w 267, 32, 252645135, 0, 0)],
  [(32, .iand, 33, 0, 0, 0), (33, .istore_n 0, 34, 0, 0, 0), (34, .iload_n 0, 35, 0, 0, 0), (35, .iload_n 0, 36, 0, 0, 0), (36, .bipush 8, 38, 8, 0, 0), (38, .iushr, 39, 0, 0, 0), (39, .iadd, 40, 0, 0, 0), (40, .istore_n 0, 41, 0, 0, 0), (41, .iload_n 0, 42, 0, 0, 0), (42, .iload_n 0, 43, 0, 0, 0), (43, .bipush 16, 45, 16, 0, 0), (45, .iushr, 46, 0, 0, 0), (46, .iadd, 47, 0, 0, 0), (47, .istore_n 0, 48, 0, 0, 0)],
  [(48, .iload_n 0, 49, 0, 0, 0), (49, .bipush 63, 51, 63, 0, 0), (51, .iand, 52, 0, 0, 0), (52, .ireturn, 53, 0, 0, 0)]])
noncomputable def MJ13_bitCount_95d88 : eM := (yJ13_bitCount_95d88, cJ13_bitCount_95d88, 2, (Option.some Jvm.ClassFile.FieldType.int), [], (0, 0), 9, [[(0, .lload_n 0, 1, 0, 0, 0), (1, .lload_n 0, 2, 0, 0, 0), (2, .iconst 1, 3, 1, 0, 0), (3, .lushr, 4, 0, 0, 0), (4, .ldc2_w 314, 7, 6148914691236517205, 0, 0), (7, .land, 8, 0, 0, 0), (8, .lsub, 9, 0, 0, 0), (9, .lstore_n 0, 10, 0, 0, 0), (10, .lload_n 0, 11, 0, 0, 0), (11, .ldc2_w 316, 14, 3689348814741910323, 0, 0), (14, .land, 15, 0, 0, 0), (15, .lload_n 0, 16, 0, 0, 0)],
  [(16, .iconst 2, 17, 2, 0, 0), (17, .lushr, 18, 0, 0, 0), (18, .ldc2_w 316, 21, 3689348814741910323, 0, 0), (21, .land, 22, 0, 0, 0), (22, .ladd, 23, 0, 0, 0), (23, .lstore_n 0, 24, 0, 0, 0), (24, .lload_n 0, 25, 0, 0, 0), (25, .lload_n 0, 26, 0, 0, 0), (26, .iconst 4, 27, 4, 0, 0), (27, .lushr, 28, 0, 0, 0), (28, .ladd, 29, 0, 0, 0), (29, .ldc2_w 318, 32, 1085102592571150095, 0, 0)],
  [(32, .land, 33, 0, 0, 0), (33, .lstore_n 0, 34, 0, 0, 0), (34, .lload_n 0, 35, 0, 0, 0), (35, .lload_n 0, 36, 0, 0, 0), (36, .bipush 8, 38, 8, 0, 0), (38, .lushr, 39, 0, 0, 0), (39, .ladd, 40, 0, 0, 0), (40, .lstore_n 0, 41, 0, 0, 0), (41, .lload_n 0, 42, 0, 0, 0), (42, .lload_n 0, 43, 0, 0, 0), (43, .bipush 16, 45, 16, 0, 0), (45, .lushr, 46, 0, 0, 0), (46, .ladd, 47, 0, 0, 0), (47, .lstore_n 0, 48, 0, 0, 0)],
  [(48, .lload_n 0, 49, 0, 0, 0), (49, .lload_n 0, 50, 0, 0, 0), (50, .bipush 32, 52, 32, 0, 0), (52, .lushr, 53, 0, 0, 0), (53, .ladd, 54, 0, 0, 0), (54, .lstore_n 0, 55, 0, 0, 0), (55, .lload_n 0, 56, 0, 0, 0), (56, .l2i, 57, 0, 0, 0), (57, .bipush 127, 59, 127, 0, 0), (59, .iand, 60, 0, 0, 0), (60, .ireturn, 61, 0, 0, 0)]])
noncomputable def ML_put : eM := (yL_put, cL_put, 5, (Option.some Jvm.ClassFile.FieldType.int), [((0 : Nat), (10 : Nat), (13 : Nat), (13 : Nat)), ((0 : Nat), (10 : Nat), (17 : Nat), (15 : Nat))], (2, 12), 9, [[(0, .aload_n 3, 1, 3, 0, 0), (1, .iconst 0, 2, 0, 0, 0), (2, .aload_n 0, 3, 0, 0, 0), (3, .iload_n 1, 4, 1, 0, 0), (4, .iload_n 2, 5, 2, 0, 0), (5, .invokevirtual 7, 8, 73, 3, 0), (8, .i2l, 9, 0, 0, 0), (9, .lastore, 10, 0, 0, 0), (10, .goto 11, 13, 21, 0, 0), (13, .astore 4, 15, 4, 0, 0), (15, .iconst 1, 16, 1, 0, 0)],
  [(16, .ireturn, 17, 0, 0, 0), (17, .astore 4, 19, 4, 0, 0), (19, .iconst 2, 20, 2, 0, 0), (20, .ireturn, 21, 0, 0, 0), (21, .iconst 0, 22, 0, 0, 0), (22, .ireturn, 23, 0, 0, 0)]])
noncomputable def ML_take : eM := (yL_take, cL_take, 5, (Option.some Jvm.ClassFile.FieldType.int), [((0 : Nat), (10 : Nat), (13 : Nat), (13 : Nat)), ((0 : Nat), (10 : Nat), (17 : Nat), (15 : Nat)), ((0 : Nat), (10 : Nat), (21 : Nat), (20 : Nat))], (3, 18), 9, [[(0, .aload_n 3, 1, 3, 0, 0), (1, .iconst 0, 2, 0, 0, 0), (2, .aload_n 0, 3, 0, 0, 0), (3, .iload_n 1, 4, 1, 0, 0), (4, .iload_n 2, 5, 2, 0, 0), (5, .invokevirtual 17, 8, 74, 3, 0), (8, .i2l, 9, 0, 0, 0), (9, .lastore, 10, 0, 0, 0), (10, .goto 15, 13, 25, 0, 0), (13, .astore 4, 15, 4, 0, 0), (15, .iconst 1, 16, 1, 0, 0)],
  [(16, .ireturn, 17, 0, 0, 0), (17, .astore 4, 19, 4, 0, 0), (19, .iconst 2, 20, 2, 0, 0), (20, .ireturn, 21, 0, 0, 0), (21, .astore 4, 23, 4, 0, 0), (23, .iconst 3, 24, 3, 0, 0), (24, .ireturn, 25, 0, 0, 0), (25, .iconst 0, 26, 0, 0, 0), (26, .ireturn, 27, 0, 0, 0)]])
noncomputable def ML_clear : eM := (yL_clear, cL_clear, 4, (Option.some Jvm.ClassFile.FieldType.int), [((0 : Nat), (9 : Nat), (12 : Nat), (13 : Nat))], (1, 6), 9, [[(0, .aload_n 2, 1, 2, 0, 0), (1, .iconst 0, 2, 0, 0, 0), (2, .aload_n 0, 3, 0, 0, 0), (3, .iload_n 1, 4, 1, 0, 0), (4, .invokevirtual 22, 7, 75, 2, 0), (7, .i2l, 8, 0, 0, 0), (8, .lastore, 9, 0, 0, 0), (9, .goto 6, 12, 15, 0, 0), (12, .astore_n 3, 13, 3, 0, 0), (13, .iconst 1, 14, 1, 0, 0), (14, .ireturn, 15, 0, 0, 0), (15, .iconst 0, 16, 0, 0, 0)],
  [(16, .ireturn, 17, 0, 0, 0)]])
noncomputable def ML_copy : eM := (yL_copy, cL_copy, 5, (Option.some Jvm.ClassFile.FieldType.int), [((0 : Nat), (10 : Nat), (13 : Nat), (13 : Nat))], (2, 12), 9, [[(0, .aload_n 3, 1, 3, 0, 0), (1, .iconst 0, 2, 0, 0, 0), (2, .aload_n 0, 3, 0, 0, 0), (3, .iload_n 1, 4, 1, 0, 0), (4, .iload_n 2, 5, 2, 0, 0), (5, .invokevirtual 26, 8, 76, 3, 0), (8, .i2l, 9, 0, 0, 0), (9, .lastore, 10, 0, 0, 0), (10, .goto 7, 13, 17, 0, 0), (13, .astore 4, 15, 4, 0, 0), (15, .iconst 1, 16, 1, 0, 0)],
  [(16, .ireturn, 17, 0, 0, 0), (17, .iconst 0, 18, 0, 0, 0), (18, .ireturn, 19, 0, 0, 0)]])
noncomputable def ML_unite : eM := (yL_unite, cL_unite, 6, (Option.some Jvm.ClassFile.FieldType.int), [((0 : Nat), (12 : Nat), (15 : Nat), (13 : Nat))], (3, 18), 9, [[(0, .aload 4, 2, 4, 0, 0), (2, .iconst 0, 3, 0, 0, 0), (3, .aload_n 0, 4, 0, 0, 0), (4, .iload_n 1, 5, 1, 0, 0), (5, .iload_n 2, 6, 2, 0, 0), (6, .iload_n 3, 7, 3, 0, 0), (7, .invokevirtual 29, 10, 77, 4, 0), (10, .i2l, 11, 0, 0, 0), (11, .lastore, 12, 0, 0, 0), (12, .goto 7, 15, 19, 0, 0), (15, .astore 5, 17, 5, 0, 0)],
  [(17, .iconst 1, 18, 1, 0, 0), (18, .ireturn, 19, 0, 0, 0), (19, .iconst 0, 20, 0, 0, 0), (20, .ireturn, 21, 0, 0, 0)]])
noncomputable def ML_meet : eM := (yL_meet, cL_meet, 6, (Option.some Jvm.ClassFile.FieldType.int), [((0 : Nat), (12 : Nat), (15 : Nat), (13 : Nat))], (3, 18), 9, [[(0, .aload 4, 2, 4, 0, 0), (2, .iconst 0, 3, 0, 0, 0), (3, .aload_n 0, 4, 0, 0, 0), (4, .iload_n 1, 5, 1, 0, 0), (5, .iload_n 2, 6, 2, 0, 0), (6, .iload_n 3, 7, 3, 0, 0), (7, .invokevirtual 33, 10, 78, 4, 0), (10, .i2l, 11, 0, 0, 0), (11, .lastore, 12, 0, 0, 0), (12, .goto 7, 15, 19, 0, 0), (15, .astore 5, 17, 5, 0, 0)],
  [(17, .iconst 1, 18, 1, 0, 0), (18, .ireturn, 19, 0, 0, 0), (19, .iconst 0, 20, 0, 0, 0), (20, .ireturn, 21, 0, 0, 0)]])
noncomputable def ML_full : eM := (yL_full, cL_full, 6, (Option.some Jvm.ClassFile.FieldType.int), [((0 : Nat), (12 : Nat), (15 : Nat), (13 : Nat)), ((0 : Nat), (12 : Nat), (19 : Nat), (15 : Nat))], (2, 12), 9, [[(0, .aload 4, 2, 4, 0, 0), (2, .iconst 0, 3, 0, 0, 0), (3, .aload_n 0, 4, 0, 0, 0), (4, .iload_n 1, 5, 1, 0, 0), (5, .iload_n 2, 6, 2, 0, 0), (6, .iload_n 3, 7, 3, 0, 0), (7, .invokevirtual 36, 10, 79, 4, 0), (10, .i2l, 11, 0, 0, 0), (11, .lastore, 12, 0, 0, 0), (12, .goto 11, 15, 23, 0, 0), (15, .astore 5, 17, 5, 0, 0)],
  [(17, .iconst 1, 18, 1, 0, 0), (18, .ireturn, 19, 0, 0, 0), (19, .astore 5, 21, 5, 0, 0), (21, .iconst 2, 22, 2, 0, 0), (22, .ireturn, 23, 0, 0, 0), (23, .iconst 0, 24, 0, 0, 0), (24, .ireturn, 25, 0, 0, 0)]])
noncomputable def ML_low : eM := (yL_low, cL_low, 6, (Option.some Jvm.ClassFile.FieldType.int), [((0 : Nat), (12 : Nat), (15 : Nat), (13 : Nat)), ((0 : Nat), (12 : Nat), (19 : Nat), (15 : Nat))], (3, 18), 9, [[(0, .aload 4, 2, 4, 0, 0), (2, .iconst 0, 3, 0, 0, 0), (3, .aload_n 0, 4, 0, 0, 0), (4, .iload_n 1, 5, 1, 0, 0), (5, .iload_n 2, 6, 2, 0, 0), (6, .iload_n 3, 7, 3, 0, 0), (7, .invokevirtual 40, 10, 80, 4, 0), (10, .i2l, 11, 0, 0, 0), (11, .lastore, 12, 0, 0, 0), (12, .goto 11, 15, 23, 0, 0), (15, .astore 5, 17, 5, 0, 0)],
  [(17, .iconst 1, 18, 1, 0, 0), (18, .ireturn, 19, 0, 0, 0), (19, .astore 5, 21, 5, 0, 0), (21, .iconst 2, 22, 2, 0, 0), (22, .ireturn, 23, 0, 0, 0), (23, .iconst 0, 24, 0, 0, 0), (24, .ireturn, 25, 0, 0, 0)]])
noncomputable def ML_about : eM := (yL_about, cL_about, 7, (Option.some Jvm.ClassFile.FieldType.int), [((0 : Nat), (14 : Nat), (17 : Nat), (13 : Nat)), ((0 : Nat), (14 : Nat), (21 : Nat), (15 : Nat)), ((0 : Nat), (14 : Nat), (25 : Nat), (20 : Nat))], (4, 24), 9, [[(0, .aload 5, 2, 5, 0, 0), (2, .iconst 0, 3, 0, 0, 0), (3, .aload_n 0, 4, 0, 0, 0), (4, .iload_n 1, 5, 1, 0, 0), (5, .iload_n 2, 6, 2, 0, 0), (6, .iload_n 3, 7, 3, 0, 0), (7, .iload 4, 9, 4, 0, 0), (9, .invokevirtual 43, 12, 81, 5, 0), (12, .i2l, 13, 0, 0, 0), (13, .lastore, 14, 0, 0, 0), (14, .goto 15, 17, 29, 0, 0)],
  [(17, .astore 6, 19, 6, 0, 0), (19, .iconst 1, 20, 1, 0, 0), (20, .ireturn, 21, 0, 0, 0), (21, .astore 6, 23, 6, 0, 0), (23, .iconst 2, 24, 2, 0, 0), (24, .ireturn, 25, 0, 0, 0), (25, .astore 6, 27, 6, 0, 0), (27, .iconst 3, 28, 3, 0, 0), (28, .ireturn, 29, 0, 0, 0), (29, .iconst 0, 30, 0, 0, 0), (30, .ireturn, 31, 0, 0, 0)]])
noncomputable def ML_cone : eM := (yL_cone, cL_cone, 6, (Option.some Jvm.ClassFile.FieldType.int), [((0 : Nat), (12 : Nat), (15 : Nat), (13 : Nat)), ((0 : Nat), (12 : Nat), (19 : Nat), (15 : Nat)), ((0 : Nat), (12 : Nat), (23 : Nat), (50 : Nat))], (4, 24), 9, [[(0, .aload 4, 2, 4, 0, 0), (2, .iconst 0, 3, 0, 0, 0), (3, .aload_n 0, 4, 0, 0, 0), (4, .iload_n 1, 5, 1, 0, 0), (5, .iload_n 2, 6, 2, 0, 0), (6, .iload_n 3, 7, 3, 0, 0), (7, .invokevirtual 47, 10, 82, 4, 0), (10, .i2l, 11, 0, 0, 0), (11, .lastore, 12, 0, 0, 0), (12, .goto 15, 15, 27, 0, 0), (15, .astore 5, 17, 5, 0, 0)],
  [(17, .iconst 1, 18, 1, 0, 0), (18, .ireturn, 19, 0, 0, 0), (19, .astore 5, 21, 5, 0, 0), (21, .iconst 2, 22, 2, 0, 0), (22, .ireturn, 23, 0, 0, 0), (23, .astore 5, 25, 5, 0, 0), (25, .iconst 3, 26, 3, 0, 0), (26, .ireturn, 27, 0, 0, 0), (27, .iconst 0, 28, 0, 0, 0), (28, .ireturn, 29, 0, 0, 0)]])
noncomputable def ML_lift : eM := (yL_lift, cL_lift, 7, (Option.some Jvm.ClassFile.FieldType.int), [((0 : Nat), (14 : Nat), (17 : Nat), (13 : Nat)), ((0 : Nat), (14 : Nat), (21 : Nat), (15 : Nat)), ((0 : Nat), (14 : Nat), (25 : Nat), (50 : Nat))], (7, 42), 9, [[(0, .aload 5, 2, 5, 0, 0), (2, .iconst 0, 3, 0, 0, 0), (3, .aload_n 0, 4, 0, 0, 0), (4, .iload_n 1, 5, 1, 0, 0), (5, .iload_n 2, 6, 2, 0, 0), (6, .iload_n 3, 7, 3, 0, 0), (7, .iload 4, 9, 4, 0, 0), (9, .invokevirtual 52, 12, 83, 5, 0), (12, .i2l, 13, 0, 0, 0), (13, .lastore, 14, 0, 0, 0), (14, .goto 15, 17, 29, 0, 0)],
  [(17, .astore 6, 19, 6, 0, 0), (19, .iconst 1, 20, 1, 0, 0), (20, .ireturn, 21, 0, 0, 0), (21, .astore 6, 23, 6, 0, 0), (23, .iconst 2, 24, 2, 0, 0), (24, .ireturn, 25, 0, 0, 0), (25, .astore 6, 27, 6, 0, 0), (27, .iconst 3, 28, 3, 0, 0), (28, .ireturn, 29, 0, 0, 0), (29, .iconst 0, 30, 0, 0, 0), (30, .ireturn, 31, 0, 0, 0)]])
noncomputable def ML_other : eM := (yL_other, cL_other, 6, (Option.some Jvm.ClassFile.FieldType.int), [((0 : Nat), (12 : Nat), (15 : Nat), (13 : Nat)), ((0 : Nat), (12 : Nat), (19 : Nat), (15 : Nat)), ((0 : Nat), (12 : Nat), (23 : Nat), (50 : Nat))], (4, 24), 9, [[(0, .aload 4, 2, 4, 0, 0), (2, .iconst 0, 3, 0, 0, 0), (3, .aload_n 0, 4, 0, 0, 0), (4, .iload_n 1, 5, 1, 0, 0), (5, .iload_n 2, 6, 2, 0, 0), (6, .iload_n 3, 7, 3, 0, 0), (7, .invokevirtual 56, 10, 84, 4, 0), (10, .i2l, 11, 0, 0, 0), (11, .lastore, 12, 0, 0, 0), (12, .goto 15, 15, 27, 0, 0), (15, .astore 5, 17, 5, 0, 0)],
  [(17, .iconst 1, 18, 1, 0, 0), (18, .ireturn, 19, 0, 0, 0), (19, .astore 5, 21, 5, 0, 0), (21, .iconst 2, 22, 2, 0, 0), (22, .ireturn, 23, 0, 0, 0), (23, .astore 5, 25, 5, 0, 0), (25, .iconst 3, 26, 3, 0, 0), (26, .ireturn, 27, 0, 0, 0), (27, .iconst 0, 28, 0, 0, 0), (28, .ireturn, 29, 0, 0, 0)]])
noncomputable def ML_exchange : eM := (yL_exchange, cL_exchange, 7, (Option.some Jvm.ClassFile.FieldType.int), [((0 : Nat), (14 : Nat), (17 : Nat), (13 : Nat)), ((0 : Nat), (14 : Nat), (21 : Nat), (15 : Nat))], (4, 24), 9, [[(0, .aload 5, 2, 5, 0, 0), (2, .iconst 0, 3, 0, 0, 0), (3, .aload_n 0, 4, 0, 0, 0), (4, .iload_n 1, 5, 1, 0, 0), (5, .iload_n 2, 6, 2, 0, 0), (6, .iload_n 3, 7, 3, 0, 0), (7, .iload 4, 9, 4, 0, 0), (9, .invokevirtual 59, 12, 85, 5, 0), (12, .i2l, 13, 0, 0, 0), (13, .lastore, 14, 0, 0, 0), (14, .goto 11, 17, 25, 0, 0)],
  [(17, .astore 6, 19, 6, 0, 0), (19, .iconst 1, 20, 1, 0, 0), (20, .ireturn, 21, 0, 0, 0), (21, .astore 6, 23, 6, 0, 0), (23, .iconst 2, 24, 2, 0, 0), (24, .ireturn, 25, 0, 0, 0), (25, .iconst 0, 26, 0, 0, 0), (26, .ireturn, 27, 0, 0, 0)]])
noncomputable def ML_fold : eM := (yL_fold, cL_fold, 5, (Option.some Jvm.ClassFile.FieldType.int), [((0 : Nat), (10 : Nat), (13 : Nat), (13 : Nat)), ((0 : Nat), (10 : Nat), (17 : Nat), (15 : Nat)), ((0 : Nat), (10 : Nat), (21 : Nat), (20 : Nat)), ((0 : Nat), (10 : Nat), (25 : Nat), (50 : Nat))], (4, 24), 9, [[(0, .aload_n 3, 1, 3, 0, 0), (1, .iconst 0, 2, 0, 0, 0), (2, .aload_n 0, 3, 0, 0, 0), (3, .iload_n 1, 4, 1, 0, 0), (4, .iload_n 2, 5, 2, 0, 0), (5, .invokevirtual 62, 8, 86, 3, 0), (8, .i2l, 9, 0, 0, 0), (9, .lastore, 10, 0, 0, 0), (10, .goto 19, 13, 29, 0, 0), (13, .astore 4, 15, 4, 0, 0), (15, .iconst 1, 16, 1, 0, 0)],
  [(16, .ireturn, 17, 0, 0, 0), (17, .astore 4, 19, 4, 0, 0), (19, .iconst 2, 20, 2, 0, 0), (20, .ireturn, 21, 0, 0, 0), (21, .astore 4, 23, 4, 0, 0), (23, .iconst 3, 24, 3, 0, 0), (24, .ireturn, 25, 0, 0, 0), (25, .astore 4, 27, 4, 0, 0), (27, .iconst 4, 28, 4, 0, 0), (28, .ireturn, 29, 0, 0, 0), (29, .iconst 0, 30, 0, 0, 0), (30, .ireturn, 31, 0, 0, 0)]])
noncomputable def ML_has : eM := (yL_has, cL_has, 5, (Option.some Jvm.ClassFile.FieldType.int), [((0 : Nat), (17 : Nat), (20 : Nat), (13 : Nat)), ((0 : Nat), (17 : Nat), (24 : Nat), (15 : Nat))], (2, 12), 9, [[(0, .aload_n 3, 1, 3, 0, 0), (1, .iconst 0, 2, 0, 0, 0), (2, .aload_n 0, 3, 0, 0, 0), (3, .iload_n 1, 4, 1, 0, 0), (4, .iload_n 2, 5, 2, 0, 0), (5, .invokevirtual 65, 8, 87, 3, 0), (8, .ifCond .eq 7, 11, 15, 0, 0), (11, .lconst 1, 12, 1, 0, 0), (12, .goto 4, 15, 16, 0, 0), (15, .lconst 0, 16, 0, 0, 0)],
  [(16, .lastore, 17, 0, 0, 0), (17, .goto 11, 20, 28, 0, 0), (20, .astore 4, 22, 4, 0, 0), (22, .iconst 1, 23, 1, 0, 0), (23, .ireturn, 24, 0, 0, 0), (24, .astore 4, 26, 4, 0, 0), (26, .iconst 2, 27, 2, 0, 0), (27, .ireturn, 28, 0, 0, 0), (28, .iconst 0, 29, 0, 0, 0), (29, .ireturn, 30, 0, 0, 0)]])
noncomputable def ML_size : eM := (yL_size, cL_size, 4, (Option.some Jvm.ClassFile.FieldType.int), [((0 : Nat), (9 : Nat), (12 : Nat), (13 : Nat))], (1, 6), 9, [[(0, .aload_n 2, 1, 2, 0, 0), (1, .iconst 0, 2, 0, 0, 0), (2, .aload_n 0, 3, 0, 0, 0), (3, .iload_n 1, 4, 1, 0, 0), (4, .invokevirtual 69, 7, 88, 2, 0), (7, .i2l, 8, 0, 0, 0), (8, .lastore, 9, 0, 0, 0), (9, .goto 6, 12, 15, 0, 0), (12, .astore_n 3, 13, 3, 0, 0), (13, .iconst 1, 14, 1, 0, 0), (14, .ireturn, 15, 0, 0, 0), (15, .iconst 0, 16, 0, 0, 0)],
  [(16, .ireturn, 17, 0, 0, 0)]])
noncomputable def ML_faces : eM := (yL_faces, cL_faces, 5, (Option.some Jvm.ClassFile.FieldType.int), [((0 : Nat), (10 : Nat), (13 : Nat), (13 : Nat)), ((0 : Nat), (10 : Nat), (17 : Nat), (15 : Nat))], (2, 12), 9, [[(0, .aload_n 3, 1, 3, 0, 0), (1, .iconst 0, 2, 0, 0, 0), (2, .aload_n 0, 3, 0, 0, 0), (3, .iload_n 1, 4, 1, 0, 0), (4, .iload_n 2, 5, 2, 0, 0), (5, .invokevirtual 72, 8, 89, 3, 0), (8, .i2l, 9, 0, 0, 0), (9, .lastore, 10, 0, 0, 0), (10, .goto 11, 13, 21, 0, 0), (13, .astore 4, 15, 4, 0, 0), (15, .iconst 1, 16, 1, 0, 0)],
  [(16, .ireturn, 17, 0, 0, 0), (17, .astore 4, 19, 4, 0, 0), (19, .iconst 2, 20, 2, 0, 0), (20, .ireturn, 21, 0, 0, 0), (21, .iconst 0, 22, 0, 0, 0), (22, .ireturn, 23, 0, 0, 0)]])
noncomputable def ML_corners : eM := (yL_corners, cL_corners, 4, (Option.some Jvm.ClassFile.FieldType.int), [((0 : Nat), (9 : Nat), (12 : Nat), (13 : Nat))], (1, 6), 9, [[(0, .aload_n 2, 1, 2, 0, 0), (1, .iconst 0, 2, 0, 0, 0), (2, .aload_n 0, 3, 0, 0, 0), (3, .iload_n 1, 4, 1, 0, 0), (4, .invokevirtual 75, 7, 90, 2, 0), (7, .i2l, 8, 0, 0, 0), (8, .lastore, 9, 0, 0, 0), (9, .goto 6, 12, 15, 0, 0), (12, .astore_n 3, 13, 3, 0, 0), (13, .iconst 1, 14, 1, 0, 0), (14, .ireturn, 15, 0, 0, 0), (15, .iconst 0, 16, 0, 0, 0)],
  [(16, .ireturn, 17, 0, 0, 0)]])
noncomputable def ML_over : eM := (yL_over, cL_over, 5, (Option.some Jvm.ClassFile.FieldType.int), [((0 : Nat), (10 : Nat), (13 : Nat), (13 : Nat)), ((0 : Nat), (10 : Nat), (17 : Nat), (15 : Nat)), ((0 : Nat), (10 : Nat), (21 : Nat), (20 : Nat))], (3, 18), 9, [[(0, .aload_n 3, 1, 3, 0, 0), (1, .iconst 0, 2, 0, 0, 0), (2, .aload_n 0, 3, 0, 0, 0), (3, .iload_n 1, 4, 1, 0, 0), (4, .iload_n 2, 5, 2, 0, 0), (5, .invokevirtual 78, 8, 91, 3, 0), (8, .i2l, 9, 0, 0, 0), (9, .lastore, 10, 0, 0, 0), (10, .goto 15, 13, 25, 0, 0), (13, .astore 4, 15, 4, 0, 0), (15, .iconst 1, 16, 1, 0, 0)],
  [(16, .ireturn, 17, 0, 0, 0), (17, .astore 4, 19, 4, 0, 0), (19, .iconst 2, 20, 2, 0, 0), (20, .ireturn, 21, 0, 0, 0), (21, .astore 4, 23, 4, 0, 0), (23, .iconst 3, 24, 3, 0, 0), (24, .ireturn, 25, 0, 0, 0), (25, .iconst 0, 26, 0, 0, 0), (26, .ireturn, 27, 0, 0, 0)]])
noncomputable def ML_greatest : eM := (yL_greatest, cL_greatest, 4, (Option.some Jvm.ClassFile.FieldType.int), [((0 : Nat), (9 : Nat), (12 : Nat), (13 : Nat))], (1, 6), 9, [[(0, .aload_n 2, 1, 2, 0, 0), (1, .iconst 0, 2, 0, 0, 0), (2, .aload_n 0, 3, 0, 0, 0), (3, .iload_n 1, 4, 1, 0, 0), (4, .invokevirtual 81, 7, 92, 2, 0), (7, .i2l, 8, 0, 0, 0), (8, .lastore, 9, 0, 0, 0), (9, .goto 6, 12, 15, 0, 0), (12, .astore_n 3, 13, 3, 0, 0), (13, .iconst 1, 14, 1, 0, 0), (14, .ireturn, 15, 0, 0, 0), (15, .iconst 0, 16, 0, 0, 0)],
  [(16, .ireturn, 17, 0, 0, 0)]])
noncomputable def ML_greatestAt : eM := (yL_greatestAt, cL_greatestAt, 5, (Option.some Jvm.ClassFile.FieldType.int), [((0 : Nat), (10 : Nat), (13 : Nat), (13 : Nat))], (2, 12), 9, [[(0, .aload_n 3, 1, 3, 0, 0), (1, .iconst 0, 2, 0, 0, 0), (2, .aload_n 0, 3, 0, 0, 0), (3, .iload_n 1, 4, 1, 0, 0), (4, .iload_n 2, 5, 2, 0, 0), (5, .invokevirtual 84, 8, 93, 3, 0), (8, .i2l, 9, 0, 0, 0), (9, .lastore, 10, 0, 0, 0), (10, .goto 7, 13, 17, 0, 0), (13, .astore 4, 15, 4, 0, 0), (15, .iconst 1, 16, 1, 0, 0)],
  [(16, .ireturn, 17, 0, 0, 0), (17, .iconst 0, 18, 0, 0, 0), (18, .ireturn, 19, 0, 0, 0)]])
noncomputable def ML_isSame : eM := (yL_isSame, cL_isSame, 5, (Option.some Jvm.ClassFile.FieldType.int), [((0 : Nat), (17 : Nat), (20 : Nat), (13 : Nat))], (2, 12), 9, [[(0, .aload_n 3, 1, 3, 0, 0), (1, .iconst 0, 2, 0, 0, 0), (2, .aload_n 0, 3, 0, 0, 0), (3, .iload_n 1, 4, 1, 0, 0), (4, .iload_n 2, 5, 2, 0, 0), (5, .invokevirtual 87, 8, 94, 3, 0), (8, .ifCond .eq 7, 11, 15, 0, 0), (11, .lconst 1, 12, 1, 0, 0), (12, .goto 4, 15, 16, 0, 0), (15, .lconst 0, 16, 0, 0, 0)],
  [(16, .lastore, 17, 0, 0, 0), (17, .goto 7, 20, 24, 0, 0), (20, .astore 4, 22, 4, 0, 0), (22, .iconst 1, 23, 1, 0, 0), (23, .ireturn, 24, 0, 0, 0), (24, .iconst 0, 25, 0, 0, 0), (25, .ireturn, 26, 0, 0, 0)]])
noncomputable def ML_contains : eM := (yL_contains, cL_contains, 5, (Option.some Jvm.ClassFile.FieldType.int), [((0 : Nat), (17 : Nat), (20 : Nat), (13 : Nat))], (2, 12), 9, [[(0, .aload_n 3, 1, 3, 0, 0), (1, .iconst 0, 2, 0, 0, 0), (2, .aload_n 0, 3, 0, 0, 0), (3, .iload_n 1, 4, 1, 0, 0), (4, .iload_n 2, 5, 2, 0, 0), (5, .invokevirtual 90, 8, 95, 3, 0), (8, .ifCond .eq 7, 11, 15, 0, 0), (11, .lconst 1, 12, 1, 0, 0), (12, .goto 4, 15, 16, 0, 0), (15, .lconst 0, 16, 0, 0, 0)],
  [(16, .lastore, 17, 0, 0, 0), (17, .goto 7, 20, 24, 0, 0), (20, .astore 4, 22, 4, 0, 0), (22, .iconst 1, 23, 1, 0, 0), (23, .ireturn, 24, 0, 0, 0), (24, .iconst 0, 25, 0, 0, 0), (25, .ireturn, 26, 0, 0, 0)]])
noncomputable def ML_pieces : eM := (yL_pieces, cL_pieces, 4, (Option.some Jvm.ClassFile.FieldType.int), [((0 : Nat), (9 : Nat), (12 : Nat), (13 : Nat))], (1, 6), 9, [[(0, .aload_n 2, 1, 2, 0, 0), (1, .iconst 0, 2, 0, 0, 0), (2, .aload_n 0, 3, 0, 0, 0), (3, .iload_n 1, 4, 1, 0, 0), (4, .invokevirtual 93, 7, 96, 2, 0), (7, .i2l, 8, 0, 0, 0), (8, .lastore, 9, 0, 0, 0), (9, .goto 6, 12, 15, 0, 0), (12, .astore_n 3, 13, 3, 0, 0), (13, .iconst 1, 14, 1, 0, 0), (14, .ireturn, 15, 0, 0, 0), (15, .iconst 0, 16, 0, 0, 0)],
  [(16, .ireturn, 17, 0, 0, 0)]])
noncomputable def ML_areJoined : eM := (yL_areJoined, cL_areJoined, 6, (Option.some Jvm.ClassFile.FieldType.int), [((0 : Nat), (19 : Nat), (22 : Nat), (13 : Nat)), ((0 : Nat), (19 : Nat), (26 : Nat), (15 : Nat)), ((0 : Nat), (19 : Nat), (30 : Nat), (20 : Nat))], (5, 30), 9, [[(0, .aload 4, 2, 4, 0, 0), (2, .iconst 0, 3, 0, 0, 0), (3, .aload_n 0, 4, 0, 0, 0), (4, .iload_n 1, 5, 1, 0, 0), (5, .iload_n 2, 6, 2, 0, 0), (6, .iload_n 3, 7, 3, 0, 0), (7, .invokevirtual 96, 10, 97, 4, 0), (10, .ifCond .eq 7, 13, 17, 0, 0), (13, .lconst 1, 14, 1, 0, 0), (14, .goto 4, 17, 18, 0, 0)],
  [(17, .lconst 0, 18, 0, 0, 0), (18, .lastore, 19, 0, 0, 0), (19, .goto 15, 22, 34, 0, 0), (22, .astore 5, 24, 5, 0, 0), (24, .iconst 1, 25, 1, 0, 0), (25, .ireturn, 26, 0, 0, 0), (26, .astore 5, 28, 5, 0, 0), (28, .iconst 2, 29, 2, 0, 0), (29, .ireturn, 30, 0, 0, 0), (30, .astore 5, 32, 5, 0, 0)],
  [(32, .iconst 3, 33, 3, 0, 0), (33, .ireturn, 34, 0, 0, 0), (34, .iconst 0, 35, 0, 0, 0), (35, .ireturn, 36, 0, 0, 0)]])
noncomputable def ML_free : eM := (yL_free, cL_free, 5, (Option.some Jvm.ClassFile.FieldType.int), [((0 : Nat), (10 : Nat), (13 : Nat), (13 : Nat)), ((0 : Nat), (10 : Nat), (17 : Nat), (15 : Nat))], (2, 12), 9, [[(0, .aload_n 3, 1, 3, 0, 0), (1, .iconst 0, 2, 0, 0, 0), (2, .aload_n 0, 3, 0, 0, 0), (3, .iload_n 1, 4, 1, 0, 0), (4, .iload_n 2, 5, 2, 0, 0), (5, .invokevirtual 100, 8, 98, 3, 0), (8, .i2l, 9, 0, 0, 0), (9, .lastore, 10, 0, 0, 0), (10, .goto 11, 13, 21, 0, 0), (13, .astore 4, 15, 4, 0, 0), (15, .iconst 1, 16, 1, 0, 0)],
  [(16, .ireturn, 17, 0, 0, 0), (17, .astore 4, 19, 4, 0, 0), (19, .iconst 2, 20, 2, 0, 0), (20, .ireturn, 21, 0, 0, 0), (21, .iconst 0, 22, 0, 0, 0), (22, .ireturn, 23, 0, 0, 0)]])
noncomputable def ML_holes : eM := (yL_holes, cL_holes, 5, (Option.some Jvm.ClassFile.FieldType.int), [((0 : Nat), (10 : Nat), (13 : Nat), (13 : Nat)), ((0 : Nat), (10 : Nat), (17 : Nat), (15 : Nat))], (2, 12), 9, [[(0, .aload_n 3, 1, 3, 0, 0), (1, .iconst 0, 2, 0, 0, 0), (2, .aload_n 0, 3, 0, 0, 0), (3, .iload_n 1, 4, 1, 0, 0), (4, .iload_n 2, 5, 2, 0, 0), (5, .invokevirtual 103, 8, 99, 3, 0), (8, .i2l, 9, 0, 0, 0), (9, .lastore, 10, 0, 0, 0), (10, .goto 11, 13, 21, 0, 0), (13, .astore 4, 15, 4, 0, 0), (15, .iconst 1, 16, 1, 0, 0)],
  [(16, .ireturn, 17, 0, 0, 0), (17, .astore 4, 19, 4, 0, 0), (19, .iconst 2, 20, 2, 0, 0), (20, .ireturn, 21, 0, 0, 0), (21, .iconst 0, 22, 0, 0, 0), (22, .ireturn, 23, 0, 0, 0)]])
noncomputable def ML_signed : eM := (yL_signed, cL_signed, 4, (Option.some Jvm.ClassFile.FieldType.int), [((0 : Nat), (9 : Nat), (12 : Nat), (13 : Nat))], (1, 6), 9, [[(0, .aload_n 2, 1, 2, 0, 0), (1, .iconst 0, 2, 0, 0, 0), (2, .aload_n 0, 3, 0, 0, 0), (3, .iload_n 1, 4, 1, 0, 0), (4, .invokevirtual 106, 7, 100, 2, 0), (7, .i2l, 8, 0, 0, 0), (8, .lastore, 9, 0, 0, 0), (9, .goto 6, 12, 15, 0, 0), (12, .astore_n 3, 13, 3, 0, 0), (13, .iconst 1, 14, 1, 0, 0), (14, .ireturn, 15, 0, 0, 0), (15, .iconst 0, 16, 0, 0, 0)],
  [(16, .ireturn, 17, 0, 0, 0)]])
noncomputable def ML_flip : eM := (yL_flip, cL_flip, 4, (Option.some Jvm.ClassFile.FieldType.int), [((0 : Nat), (9 : Nat), (12 : Nat), (15 : Nat)), ((0 : Nat), (9 : Nat), (15 : Nat), (50 : Nat))], (2, 12), 9, [[(0, .aload_n 2, 1, 2, 0, 0), (1, .iconst 0, 2, 0, 0, 0), (2, .aload_n 0, 3, 0, 0, 0), (3, .iload_n 1, 4, 1, 0, 0), (4, .invokevirtual 109, 7, 101, 2, 0), (7, .i2l, 8, 0, 0, 0), (8, .lastore, 9, 0, 0, 0), (9, .goto 9, 12, 18, 0, 0), (12, .astore_n 3, 13, 3, 0, 0), (13, .iconst 1, 14, 1, 0, 0), (14, .ireturn, 15, 0, 0, 0), (15, .astore_n 3, 16, 3, 0, 0)],
  [(16, .iconst 2, 17, 2, 0, 0), (17, .ireturn, 18, 0, 0, 0), (18, .iconst 0, 19, 0, 0, 0), (19, .ireturn, 20, 0, 0, 0)]])
noncomputable def ML_rowAt : eM := (yL_rowAt, cL_rowAt, 4, (Option.some Jvm.ClassFile.FieldType.int), [((0 : Nat), (9 : Nat), (12 : Nat), (13 : Nat))], (1, 6), 9, [[(0, .aload_n 2, 1, 2, 0, 0), (1, .iconst 0, 2, 0, 0, 0), (2, .aload_n 0, 3, 0, 0, 0), (3, .iload_n 1, 4, 1, 0, 0), (4, .invokevirtual 112, 7, 104, 2, 0), (7, .i2l, 8, 0, 0, 0), (8, .lastore, 9, 0, 0, 0), (9, .goto 6, 12, 15, 0, 0), (12, .astore_n 3, 13, 3, 0, 0), (13, .iconst 1, 14, 1, 0, 0), (14, .ireturn, 15, 0, 0, 0), (15, .iconst 0, 16, 0, 0, 0)],
  [(16, .ireturn, 17, 0, 0, 0)]])
noncomputable def ML_fills : eM := (yL_fills, cL_fills, 4, (Option.some Jvm.ClassFile.FieldType.int), [((0 : Nat), (16 : Nat), (19 : Nat), (13 : Nat)), ((0 : Nat), (16 : Nat), (22 : Nat), (50 : Nat))], (2, 12), 9, [[(0, .aload_n 2, 1, 2, 0, 0), (1, .iconst 0, 2, 0, 0, 0), (2, .aload_n 0, 3, 0, 0, 0), (3, .iload_n 1, 4, 1, 0, 0), (4, .invokevirtual 115, 7, 106, 2, 0), (7, .ifCond .eq 7, 10, 14, 0, 0), (10, .lconst 1, 11, 1, 0, 0), (11, .goto 4, 14, 15, 0, 0), (14, .lconst 0, 15, 0, 0, 0), (15, .lastore, 16, 0, 0, 0)],
  [(16, .goto 9, 19, 25, 0, 0), (19, .astore_n 3, 20, 3, 0, 0), (20, .iconst 1, 21, 1, 0, 0), (21, .ireturn, 22, 0, 0, 0), (22, .astore_n 3, 23, 3, 0, 0), (23, .iconst 2, 24, 2, 0, 0), (24, .ireturn, 25, 0, 0, 0), (25, .iconst 0, 26, 0, 0, 0), (26, .ireturn, 27, 0, 0, 0)]])
noncomputable def ML_mean : eM := (yL_mean, cL_mean, 4, (Option.some Jvm.ClassFile.FieldType.int), [((0 : Nat), (8 : Nat), (11 : Nat), (13 : Nat)), ((0 : Nat), (8 : Nat), (14 : Nat), (20 : Nat))], (2, 12), 9, [[(0, .aload_n 2, 1, 2, 0, 0), (1, .iconst 0, 2, 0, 0, 0), (2, .aload_n 0, 3, 0, 0, 0), (3, .iload_n 1, 4, 1, 0, 0), (4, .invokevirtual 119, 7, 107, 2, 0), (7, .dastore, 8, 0, 0, 0), (8, .goto 9, 11, 17, 0, 0), (11, .astore_n 3, 12, 3, 0, 0), (12, .iconst 1, 13, 1, 0, 0), (13, .ireturn, 14, 0, 0, 0), (14, .astore_n 3, 15, 3, 0, 0), (15, .iconst 2, 16, 2, 0, 0)],
  [(16, .ireturn, 17, 0, 0, 0), (17, .iconst 0, 18, 0, 0, 0), (18, .ireturn, 19, 0, 0, 0)]])
noncomputable def ML_share : eM := (yL_share, cL_share, 4, (Option.some Jvm.ClassFile.FieldType.int), [((0 : Nat), (9 : Nat), (12 : Nat), (13 : Nat))], (1, 6), 9, [[(0, .aload_n 2, 1, 2, 0, 0), (1, .iconst 0, 2, 0, 0, 0), (2, .aload_n 0, 3, 0, 0, 0), (3, .iload_n 1, 4, 1, 0, 0), (4, .invokevirtual 123, 7, 108, 2, 0), (7, .f2d, 8, 0, 0, 0), (8, .dastore, 9, 0, 0, 0), (9, .goto 6, 12, 15, 0, 0), (12, .astore_n 3, 13, 3, 0, 0), (13, .iconst 1, 14, 1, 0, 0), (14, .ireturn, 15, 0, 0, 0), (15, .iconst 0, 16, 0, 0, 0)],
  [(16, .ireturn, 17, 0, 0, 0)]])
noncomputable def ML_isSound : eM := (yL_isSound, cL_isSound, 4, (Option.some Jvm.ClassFile.FieldType.int), [((0 : Nat), (16 : Nat), (19 : Nat), (13 : Nat))], (1, 6), 9, [[(0, .aload_n 2, 1, 2, 0, 0), (1, .iconst 0, 2, 0, 0, 0), (2, .aload_n 0, 3, 0, 0, 0), (3, .iload_n 1, 4, 1, 0, 0), (4, .invokevirtual 127, 7, 110, 2, 0), (7, .ifCond .eq 7, 10, 14, 0, 0), (10, .lconst 1, 11, 1, 0, 0), (11, .goto 4, 14, 15, 0, 0), (14, .lconst 0, 15, 0, 0, 0), (15, .lastore, 16, 0, 0, 0)],
  [(16, .goto 6, 19, 22, 0, 0), (19, .astore_n 3, 20, 3, 0, 0), (20, .iconst 1, 21, 1, 0, 0), (21, .ireturn, 22, 0, 0, 0), (22, .iconst 0, 23, 0, 0, 0), (23, .ireturn, 24, 0, 0, 0)]])
noncomputable def ML_isTrue : eM := (yL_isTrue, cL_isTrue, 6, (Option.some Jvm.ClassFile.FieldType.int), [((0 : Nat), (19 : Nat), (22 : Nat), (13 : Nat)), ((0 : Nat), (19 : Nat), (26 : Nat), (15 : Nat))], (3, 18), 9, [[(0, .aload 4, 2, 4, 0, 0), (2, .iconst 0, 3, 0, 0, 0), (3, .aload_n 0, 4, 0, 0, 0), (4, .iload_n 1, 5, 1, 0, 0), (5, .iload_n 2, 6, 2, 0, 0), (6, .iload_n 3, 7, 3, 0, 0), (7, .invokevirtual 130, 10, 111, 4, 0), (10, .ifCond .eq 7, 13, 17, 0, 0), (13, .lconst 1, 14, 1, 0, 0), (14, .goto 4, 17, 18, 0, 0)],
  [(17, .lconst 0, 18, 0, 0, 0), (18, .lastore, 19, 0, 0, 0), (19, .goto 11, 22, 30, 0, 0), (22, .astore 5, 24, 5, 0, 0), (24, .iconst 1, 25, 1, 0, 0), (25, .ireturn, 26, 0, 0, 0), (26, .astore 5, 28, 5, 0, 0), (28, .iconst 2, 29, 2, 0, 0), (29, .ireturn, 30, 0, 0, 0), (30, .iconst 0, 31, 0, 0, 0), (31, .ireturn, 32, 0, 0, 0)]])
noncomputable def ML_faceIsTrue : eM := (yL_faceIsTrue, cL_faceIsTrue, 5, (Option.some Jvm.ClassFile.FieldType.int), [((0 : Nat), (17 : Nat), (20 : Nat), (13 : Nat)), ((0 : Nat), (17 : Nat), (24 : Nat), (15 : Nat)), ((0 : Nat), (17 : Nat), (28 : Nat), (20 : Nat))], (3, 18), 9, [[(0, .aload_n 3, 1, 3, 0, 0), (1, .iconst 0, 2, 0, 0, 0), (2, .aload_n 0, 3, 0, 0, 0), (3, .iload_n 1, 4, 1, 0, 0), (4, .iload_n 2, 5, 2, 0, 0), (5, .invokevirtual 133, 8, 112, 3, 0), (8, .ifCond .eq 7, 11, 15, 0, 0), (11, .lconst 1, 12, 1, 0, 0), (12, .goto 4, 15, 16, 0, 0), (15, .lconst 0, 16, 0, 0, 0)],
  [(16, .lastore, 17, 0, 0, 0), (17, .goto 15, 20, 32, 0, 0), (20, .astore 4, 22, 4, 0, 0), (22, .iconst 1, 23, 1, 0, 0), (23, .ireturn, 24, 0, 0, 0), (24, .astore 4, 26, 4, 0, 0), (26, .iconst 2, 27, 2, 0, 0), (27, .ireturn, 28, 0, 0, 0), (28, .astore 4, 30, 4, 0, 0), (30, .iconst 3, 31, 3, 0, 0), (31, .ireturn, 32, 0, 0, 0)],
  [(32, .iconst 0, 33, 0, 0, 0), (33, .ireturn, 34, 0, 0, 0)]])
noncomputable def ML_pairIsTrue : eM := (yL_pairIsTrue, cL_pairIsTrue, 5, (Option.some Jvm.ClassFile.FieldType.int), [((0 : Nat), (17 : Nat), (20 : Nat), (13 : Nat))], (2, 12), 9, [[(0, .aload_n 3, 1, 3, 0, 0), (1, .iconst 0, 2, 0, 0, 0), (2, .aload_n 0, 3, 0, 0, 0), (3, .iload_n 1, 4, 1, 0, 0), (4, .iload_n 2, 5, 2, 0, 0), (5, .invokevirtual 136, 8, 113, 3, 0), (8, .ifCond .eq 7, 11, 15, 0, 0), (11, .lconst 1, 12, 1, 0, 0), (12, .goto 4, 15, 16, 0, 0), (15, .lconst 0, 16, 0, 0, 0)],
  [(16, .lastore, 17, 0, 0, 0), (17, .goto 7, 20, 24, 0, 0), (20, .astore 4, 22, 4, 0, 0), (22, .iconst 1, 23, 1, 0, 0), (23, .ireturn, 24, 0, 0, 0), (24, .iconst 0, 25, 0, 0, 0), (25, .ireturn, 26, 0, 0, 0)]])
noncomputable def ML_law : eM := (yL_law, cL_law, 9, (some .boolean), [], (601024, 7293034), 9, [[(0, .new 8, 3, 4, 0, 0), (3, .dup, 4, 0, 0, 0), (4, .invokespecial 139, 7, 72, 1, 0), (7, .astore_n 1, 8, 1, 0, 0), (8, .new 140, 11, 5, 0, 0), (11, .dup, 12, 0, 0, 0), (12, .invokespecial 142, 15, 126, 1, 0), (15, .astore_n 2, 16, 2, 0, 0)],
  [(16, .iconst 1, 17, 1, 0, 0), (17, .newarray .long, 19, 2, 0, 0), (19, .astore_n 3, 20, 3, 0, 0), (20, .iconst 1, 21, 1, 0, 0), (21, .newarray .double, 23, 3, 0, 0), (23, .astore 4, 25, 4, 0, 0), (25, .iconst 0, 26, 0, 0, 0), (26, .istore 5, 28, 5, 0, 0), (28, .iload 5, 30, 5, 0, 0), (30, .aload_n 0, 31, 0, 0, 0), (31, .arraylength, 32, 0, 0, 0)],
  [(32, .iconst 5, 33, 5, 0, 0), (33, .isub, 34, 0, 0, 0), (34, .if_icmp .gt 2927, 37, 2961, 0, 0), (37, .aload_n 0, 38, 0, 0, 0), (38, .iload 5, 40, 5, 0, 0), (40, .iaload, 41, 0, 0, 0), (41, .bipush 63, 43, 63, 0, 0), (43, .iand, 44, 0, 0, 0), (44, .tableswitch 2911 0 40 #[180, 248, 316, 372, 440, 520, 600, 696, 776, 884, 964, 1056, 1136, 1228, 1296, 1371, 1427, 1495, 1551, 1619, 1675, 1743, 1818, 1893, 1949, 2036, 2104, 2172, 2228, 2284, 2297, 2310, 2366, 2379, 2442, 2519, 2597, 2611, 2674, 2761, 2836], 224, 2955, 0, 0)],
  [],
  [],
  [],
  [],
  [],
  [],
  [],
  [],
  [],
  [],
  [],
  [(224, .aload_n 1, 225, 1, 0, 0), (225, .aload_n 0, 226, 0, 0, 0), (226, .iload 5, 228, 5, 0, 0), (228, .iconst 1, 229, 1, 0, 0), (229, .iadd, 230, 0, 0, 0), (230, .iaload, 231, 0, 0, 0), (231, .aload_n 0, 232, 0, 0, 0), (232, .iload 5, 234, 5, 0, 0), (234, .iconst 2, 235, 2, 0, 0), (235, .iadd, 236, 0, 0, 0), (236, .iaload, 237, 0, 0, 0), (237, .aload_n 3, 238, 3, 0, 0), (238, .invokestatic 143, 241, 202, 4, 2)],
  [(241, .istore 6, 243, 6, 0, 0), (243, .aload_n 2, 244, 2, 0, 0), (244, .aload_n 0, 245, 0, 0, 0), (245, .iload 5, 247, 5, 0, 0), (247, .iconst 1, 248, 1, 0, 0), (248, .iadd, 249, 0, 0, 0), (249, .iaload, 250, 0, 0, 0), (250, .aload_n 0, 251, 0, 0, 0), (251, .iload 5, 253, 5, 0, 0), (253, .iconst 2, 254, 2, 0, 0), (254, .iadd, 255, 0, 0, 0), (255, .iaload, 256, 0, 0, 0)],
  [(256, .invokevirtual 148, 259, 144, 3, 0), (259, .istore 7, 261, 7, 0, 0), (261, .aload_n 2, 262, 2, 0, 0), (262, .invokevirtual 149, 265, 127, 1, 0), (265, .iload 6, 267, 6, 0, 0), (267, .if_icmp .eq 5, 270, 272, 0, 0), (270, .iconst 0, 271, 0, 0, 0), (271, .ireturn, 272, 0, 0, 0)],
  [(272, .iload 6, 274, 6, 0, 0), (274, .ifCond .ne 15, 277, 289, 0, 0), (277, .aload_n 3, 278, 3, 0, 0), (278, .iconst 0, 279, 0, 0, 0), (279, .laload, 280, 0, 0, 0), (280, .iload 7, 282, 7, 0, 0), (282, .i2l, 283, 0, 0, 0), (283, .lcmp, 284, 0, 0, 0), (284, .ifCond .eq 5, 287, 289, 0, 0), (287, .iconst 0, 288, 0, 0, 0)],
  [(288, .ireturn, 289, 0, 0, 0), (289, .goto 2666, 292, 2955, 0, 0), (292, .aload_n 1, 293, 1, 0, 0), (293, .aload_n 0, 294, 0, 0, 0), (294, .iload 5, 296, 5, 0, 0), (296, .iconst 1, 297, 1, 0, 0), (297, .iadd, 298, 0, 0, 0), (298, .iaload, 299, 0, 0, 0), (299, .aload_n 0, 300, 0, 0, 0), (300, .iload 5, 302, 5, 0, 0), (302, .iconst 2, 303, 2, 0, 0), (303, .iadd, 304, 0, 0, 0)],
  [(304, .iaload, 305, 0, 0, 0), (305, .aload_n 3, 306, 3, 0, 0), (306, .invokestatic 153, 309, 203, 4, 2), (309, .istore 6, 311, 6, 0, 0), (311, .aload_n 2, 312, 2, 0, 0), (312, .aload_n 0, 313, 0, 0, 0), (313, .iload 5, 315, 5, 0, 0), (315, .iconst 1, 316, 1, 0, 0), (316, .iadd, 317, 0, 0, 0), (317, .iaload, 318, 0, 0, 0), (318, .aload_n 0, 319, 0, 0, 0), (319, .iload 5, 321, 5, 0, 0)],
  [(321, .iconst 2, 322, 2, 0, 0), (322, .iadd, 323, 0, 0, 0), (323, .iaload, 324, 0, 0, 0), (324, .invokevirtual 155, 327, 146, 3, 0), (327, .istore 7, 329, 7, 0, 0), (329, .aload_n 2, 330, 2, 0, 0), (330, .invokevirtual 149, 333, 127, 1, 0), (333, .iload 6, 335, 6, 0, 0), (335, .if_icmp .eq 5, 338, 340, 0, 0)],
  [(338, .iconst 0, 339, 0, 0, 0), (339, .ireturn, 340, 0, 0, 0), (340, .iload 6, 342, 6, 0, 0), (342, .ifCond .ne 15, 345, 357, 0, 0), (345, .aload_n 3, 346, 3, 0, 0), (346, .iconst 0, 347, 0, 0, 0), (347, .laload, 348, 0, 0, 0), (348, .iload 7, 350, 7, 0, 0), (350, .i2l, 351, 0, 0, 0), (351, .lcmp, 352, 0, 0, 0)],
  [(352, .ifCond .eq 5, 355, 357, 0, 0), (355, .iconst 0, 356, 0, 0, 0), (356, .ireturn, 357, 0, 0, 0), (357, .goto 2598, 360, 2955, 0, 0), (360, .aload_n 1, 361, 1, 0, 0), (361, .aload_n 0, 362, 0, 0, 0), (362, .iload 5, 364, 5, 0, 0), (364, .iconst 1, 365, 1, 0, 0), (365, .iadd, 366, 0, 0, 0), (366, .iaload, 367, 0, 0, 0), (367, .aload_n 3, 368, 3, 0, 0)],
  [(368, .invokestatic 156, 371, 204, 3, 2), (371, .istore 6, 373, 6, 0, 0), (373, .aload_n 2, 374, 2, 0, 0), (374, .aload_n 0, 375, 0, 0, 0), (375, .iload 5, 377, 5, 0, 0), (377, .iconst 1, 378, 1, 0, 0), (378, .iadd, 379, 0, 0, 0), (379, .iaload, 380, 0, 0, 0), (380, .invokevirtual 159, 383, 147, 2, 0), (383, .istore 7, 385, 7, 0, 0)],
  [(385, .aload_n 2, 386, 2, 0, 0), (386, .invokevirtual 149, 389, 127, 1, 0), (389, .iload 6, 391, 6, 0, 0), (391, .if_icmp .eq 5, 394, 396, 0, 0), (394, .iconst 0, 395, 0, 0, 0), (395, .ireturn, 396, 0, 0, 0), (396, .iload 6, 398, 6, 0, 0), (398, .ifCond .ne 15, 401, 413, 0, 0)],
  [(401, .aload_n 3, 402, 3, 0, 0), (402, .iconst 0, 403, 0, 0, 0), (403, .laload, 404, 0, 0, 0), (404, .iload 7, 406, 7, 0, 0), (406, .i2l, 407, 0, 0, 0), (407, .lcmp, 408, 0, 0, 0), (408, .ifCond .eq 5, 411, 413, 0, 0), (411, .iconst 0, 412, 0, 0, 0), (412, .ireturn, 413, 0, 0, 0), (413, .goto 2542, 416, 2955, 0, 0)],
  [(416, .aload_n 1, 417, 1, 0, 0), (417, .aload_n 0, 418, 0, 0, 0), (418, .iload 5, 420, 5, 0, 0), (420, .iconst 1, 421, 1, 0, 0), (421, .iadd, 422, 0, 0, 0), (422, .iaload, 423, 0, 0, 0), (423, .aload_n 0, 424, 0, 0, 0), (424, .iload 5, 426, 5, 0, 0), (426, .iconst 2, 427, 2, 0, 0), (427, .iadd, 428, 0, 0, 0), (428, .iaload, 429, 0, 0, 0), (429, .aload_n 3, 430, 3, 0, 0), (430, .invokestatic 160, 433, 205, 4, 2)],
  [(433, .istore 6, 435, 6, 0, 0), (435, .aload_n 2, 436, 2, 0, 0), (436, .aload_n 0, 437, 0, 0, 0), (437, .iload 5, 439, 5, 0, 0), (439, .iconst 1, 440, 1, 0, 0), (440, .iadd, 441, 0, 0, 0), (441, .iaload, 442, 0, 0, 0), (442, .aload_n 0, 443, 0, 0, 0), (443, .iload 5, 445, 5, 0, 0), (445, .iconst 2, 446, 2, 0, 0), (446, .iadd, 447, 0, 0, 0), (447, .iaload, 448, 0, 0, 0)],
  [(448, .invokevirtual 162, 451, 148, 3, 0), (451, .istore 7, 453, 7, 0, 0), (453, .aload_n 2, 454, 2, 0, 0), (454, .invokevirtual 149, 457, 127, 1, 0), (457, .iload 6, 459, 6, 0, 0), (459, .if_icmp .eq 5, 462, 464, 0, 0), (462, .iconst 0, 463, 0, 0, 0), (463, .ireturn, 464, 0, 0, 0)],
  [(464, .iload 6, 466, 6, 0, 0), (466, .ifCond .ne 15, 469, 481, 0, 0), (469, .aload_n 3, 470, 3, 0, 0), (470, .iconst 0, 471, 0, 0, 0), (471, .laload, 472, 0, 0, 0), (472, .iload 7, 474, 7, 0, 0), (474, .i2l, 475, 0, 0, 0), (475, .lcmp, 476, 0, 0, 0), (476, .ifCond .eq 5, 479, 481, 0, 0), (479, .iconst 0, 480, 0, 0, 0)],
  [(480, .ireturn, 481, 0, 0, 0), (481, .goto 2474, 484, 2955, 0, 0), (484, .aload_n 1, 485, 1, 0, 0), (485, .aload_n 0, 486, 0, 0, 0), (486, .iload 5, 488, 5, 0, 0), (488, .iconst 1, 489, 1, 0, 0), (489, .iadd, 490, 0, 0, 0), (490, .iaload, 491, 0, 0, 0), (491, .aload_n 0, 492, 0, 0, 0), (492, .iload 5, 494, 5, 0, 0), (494, .iconst 2, 495, 2, 0, 0), (495, .iadd, 496, 0, 0, 0)],
  [(496, .iaload, 497, 0, 0, 0), (497, .aload_n 0, 498, 0, 0, 0), (498, .iload 5, 500, 5, 0, 0), (500, .iconst 3, 501, 3, 0, 0), (501, .iadd, 502, 0, 0, 0), (502, .iaload, 503, 0, 0, 0), (503, .aload_n 3, 504, 3, 0, 0), (504, .invokestatic 163, 507, 206, 5, 2), (507, .istore 6, 509, 6, 0, 0), (509, .aload_n 2, 510, 2, 0, 0), (510, .aload_n 0, 511, 0, 0, 0), (511, .iload 5, 513, 5, 0, 0)],
  [(513, .iconst 1, 514, 1, 0, 0), (514, .iadd, 515, 0, 0, 0), (515, .iaload, 516, 0, 0, 0), (516, .aload_n 0, 517, 0, 0, 0), (517, .iload 5, 519, 5, 0, 0), (519, .iconst 2, 520, 2, 0, 0), (520, .iadd, 521, 0, 0, 0), (521, .iaload, 522, 0, 0, 0), (522, .aload_n 0, 523, 0, 0, 0), (523, .iload 5, 525, 5, 0, 0), (525, .iconst 3, 526, 3, 0, 0), (526, .iadd, 527, 0, 0, 0), (527, .iaload, 528, 0, 0, 0)],
  [(528, .invokevirtual 166, 531, 149, 4, 0), (531, .istore 7, 533, 7, 0, 0), (533, .aload_n 2, 534, 2, 0, 0), (534, .invokevirtual 149, 537, 127, 1, 0), (537, .iload 6, 539, 6, 0, 0), (539, .if_icmp .eq 5, 542, 544, 0, 0), (542, .iconst 0, 543, 0, 0, 0), (543, .ireturn, 544, 0, 0, 0)],
  [(544, .iload 6, 546, 6, 0, 0), (546, .ifCond .ne 15, 549, 561, 0, 0), (549, .aload_n 3, 550, 3, 0, 0), (550, .iconst 0, 551, 0, 0, 0), (551, .laload, 552, 0, 0, 0), (552, .iload 7, 554, 7, 0, 0), (554, .i2l, 555, 0, 0, 0), (555, .lcmp, 556, 0, 0, 0), (556, .ifCond .eq 5, 559, 561, 0, 0), (559, .iconst 0, 560, 0, 0, 0)],
  [(560, .ireturn, 561, 0, 0, 0), (561, .goto 2394, 564, 2955, 0, 0), (564, .aload_n 1, 565, 1, 0, 0), (565, .aload_n 0, 566, 0, 0, 0), (566, .iload 5, 568, 5, 0, 0), (568, .iconst 1, 569, 1, 0, 0), (569, .iadd, 570, 0, 0, 0), (570, .iaload, 571, 0, 0, 0), (571, .aload_n 0, 572, 0, 0, 0), (572, .iload 5, 574, 5, 0, 0), (574, .iconst 2, 575, 2, 0, 0), (575, .iadd, 576, 0, 0, 0)],
  [(576, .iaload, 577, 0, 0, 0), (577, .aload_n 0, 578, 0, 0, 0), (578, .iload 5, 580, 5, 0, 0), (580, .iconst 3, 581, 3, 0, 0), (581, .iadd, 582, 0, 0, 0), (582, .iaload, 583, 0, 0, 0), (583, .aload_n 3, 584, 3, 0, 0), (584, .invokestatic 167, 587, 207, 5, 2), (587, .istore 6, 589, 6, 0, 0), (589, .aload_n 2, 590, 2, 0, 0), (590, .aload_n 0, 591, 0, 0, 0), (591, .iload 5, 593, 5, 0, 0)],
  [(593, .iconst 1, 594, 1, 0, 0), (594, .iadd, 595, 0, 0, 0), (595, .iaload, 596, 0, 0, 0), (596, .aload_n 0, 597, 0, 0, 0), (597, .iload 5, 599, 5, 0, 0), (599, .iconst 2, 600, 2, 0, 0), (600, .iadd, 601, 0, 0, 0), (601, .iaload, 602, 0, 0, 0), (602, .aload_n 0, 603, 0, 0, 0), (603, .iload 5, 605, 5, 0, 0), (605, .iconst 3, 606, 3, 0, 0), (606, .iadd, 607, 0, 0, 0), (607, .iaload, 608, 0, 0, 0)],
  [(608, .invokevirtual 169, 611, 150, 4, 0), (611, .istore 7, 613, 7, 0, 0), (613, .aload_n 2, 614, 2, 0, 0), (614, .invokevirtual 149, 617, 127, 1, 0), (617, .iload 6, 619, 6, 0, 0), (619, .if_icmp .eq 5, 622, 624, 0, 0), (622, .iconst 0, 623, 0, 0, 0), (623, .ireturn, 624, 0, 0, 0)],
  [(624, .iload 6, 626, 6, 0, 0), (626, .ifCond .ne 15, 629, 641, 0, 0), (629, .aload_n 3, 630, 3, 0, 0), (630, .iconst 0, 631, 0, 0, 0), (631, .laload, 632, 0, 0, 0), (632, .iload 7, 634, 7, 0, 0), (634, .i2l, 635, 0, 0, 0), (635, .lcmp, 636, 0, 0, 0), (636, .ifCond .eq 5, 639, 641, 0, 0), (639, .iconst 0, 640, 0, 0, 0)],
  [(640, .ireturn, 641, 0, 0, 0), (641, .goto 2314, 644, 2955, 0, 0), (644, .aload_n 1, 645, 1, 0, 0), (645, .aload_n 0, 646, 0, 0, 0), (646, .iload 5, 648, 5, 0, 0), (648, .iconst 1, 649, 1, 0, 0), (649, .iadd, 650, 0, 0, 0), (650, .iaload, 651, 0, 0, 0), (651, .aload_n 0, 652, 0, 0, 0), (652, .iload 5, 654, 5, 0, 0), (654, .iconst 2, 655, 2, 0, 0), (655, .iadd, 656, 0, 0, 0)],
  [(656, .iaload, 657, 0, 0, 0), (657, .ifCond .eq 7, 660, 664, 0, 0), (660, .iconst 1, 661, 1, 0, 0), (661, .goto 4, 664, 665, 0, 0), (664, .iconst 0, 665, 0, 0, 0), (665, .aload_n 0, 666, 0, 0, 0), (666, .iload 5, 668, 5, 0, 0), (668, .iconst 3, 669, 3, 0, 0), (669, .iadd, 670, 0, 0, 0), (670, .iaload, 671, 0, 0, 0), (671, .aload_n 3, 672, 3, 0, 0)],
  [(672, .invokestatic 170, 675, 208, 5, 2), (675, .istore 6, 677, 6, 0, 0), (677, .aload_n 2, 678, 2, 0, 0), (678, .aload_n 0, 679, 0, 0, 0), (679, .iload 5, 681, 5, 0, 0), (681, .iconst 1, 682, 1, 0, 0), (682, .iadd, 683, 0, 0, 0), (683, .iaload, 684, 0, 0, 0), (684, .aload_n 0, 685, 0, 0, 0), (685, .iload 5, 687, 5, 0, 0), (687, .iconst 2, 688, 2, 0, 0)],
  [(688, .iadd, 689, 0, 0, 0), (689, .iaload, 690, 0, 0, 0), (690, .ifCond .eq 7, 693, 697, 0, 0), (693, .iconst 1, 694, 1, 0, 0), (694, .goto 4, 697, 698, 0, 0), (697, .iconst 0, 698, 0, 0, 0), (698, .aload_n 0, 699, 0, 0, 0), (699, .iload 5, 701, 5, 0, 0), (701, .iconst 3, 702, 3, 0, 0), (702, .iadd, 703, 0, 0, 0), (703, .iaload, 704, 0, 0, 0)],
  [(704, .invokevirtual 173, 707, 151, 4, 0), (707, .istore 7, 709, 7, 0, 0), (709, .aload_n 2, 710, 2, 0, 0), (710, .invokevirtual 149, 713, 127, 1, 0), (713, .iload 6, 715, 6, 0, 0), (715, .if_icmp .eq 5, 718, 720, 0, 0), (718, .iconst 0, 719, 0, 0, 0), (719, .ireturn, 720, 0, 0, 0)],
  [(720, .iload 6, 722, 6, 0, 0), (722, .ifCond .ne 15, 725, 737, 0, 0), (725, .aload_n 3, 726, 3, 0, 0), (726, .iconst 0, 727, 0, 0, 0), (727, .laload, 728, 0, 0, 0), (728, .iload 7, 730, 7, 0, 0), (730, .i2l, 731, 0, 0, 0), (731, .lcmp, 732, 0, 0, 0), (732, .ifCond .eq 5, 735, 737, 0, 0), (735, .iconst 0, 736, 0, 0, 0)],
  [(736, .ireturn, 737, 0, 0, 0), (737, .goto 2218, 740, 2955, 0, 0), (740, .aload_n 1, 741, 1, 0, 0), (741, .aload_n 0, 742, 0, 0, 0), (742, .iload 5, 744, 5, 0, 0), (744, .iconst 1, 745, 1, 0, 0), (745, .iadd, 746, 0, 0, 0), (746, .iaload, 747, 0, 0, 0), (747, .aload_n 0, 748, 0, 0, 0), (748, .iload 5, 750, 5, 0, 0), (750, .iconst 2, 751, 2, 0, 0), (751, .iadd, 752, 0, 0, 0)],
  [(752, .iaload, 753, 0, 0, 0), (753, .aload_n 0, 754, 0, 0, 0), (754, .iload 5, 756, 5, 0, 0), (756, .iconst 3, 757, 3, 0, 0), (757, .iadd, 758, 0, 0, 0), (758, .iaload, 759, 0, 0, 0), (759, .aload_n 3, 760, 3, 0, 0), (760, .invokestatic 174, 763, 209, 5, 2), (763, .istore 6, 765, 6, 0, 0), (765, .aload_n 2, 766, 2, 0, 0), (766, .aload_n 0, 767, 0, 0, 0), (767, .iload 5, 769, 5, 0, 0)],
  [(769, .iconst 1, 770, 1, 0, 0), (770, .iadd, 771, 0, 0, 0), (771, .iaload, 772, 0, 0, 0), (772, .aload_n 0, 773, 0, 0, 0), (773, .iload 5, 775, 5, 0, 0), (775, .iconst 2, 776, 2, 0, 0), (776, .iadd, 777, 0, 0, 0), (777, .iaload, 778, 0, 0, 0), (778, .aload_n 0, 779, 0, 0, 0), (779, .iload 5, 781, 5, 0, 0), (781, .iconst 3, 782, 3, 0, 0), (782, .iadd, 783, 0, 0, 0), (783, .iaload, 784, 0, 0, 0)],
  [(784, .invokevirtual 176, 787, 152, 4, 0), (787, .istore 7, 789, 7, 0, 0), (789, .aload_n 2, 790, 2, 0, 0), (790, .invokevirtual 149, 793, 127, 1, 0), (793, .iload 6, 795, 6, 0, 0), (795, .if_icmp .eq 5, 798, 800, 0, 0), (798, .iconst 0, 799, 0, 0, 0), (799, .ireturn, 800, 0, 0, 0)],
  [(800, .iload 6, 802, 6, 0, 0), (802, .ifCond .ne 15, 805, 817, 0, 0), (805, .aload_n 3, 806, 3, 0, 0), (806, .iconst 0, 807, 0, 0, 0), (807, .laload, 808, 0, 0, 0), (808, .iload 7, 810, 7, 0, 0), (810, .i2l, 811, 0, 0, 0), (811, .lcmp, 812, 0, 0, 0), (812, .ifCond .eq 5, 815, 817, 0, 0), (815, .iconst 0, 816, 0, 0, 0)],
  [(816, .ireturn, 817, 0, 0, 0), (817, .goto 2138, 820, 2955, 0, 0), (820, .aload_n 1, 821, 1, 0, 0), (821, .aload_n 0, 822, 0, 0, 0), (822, .iload 5, 824, 5, 0, 0), (824, .iconst 1, 825, 1, 0, 0), (825, .iadd, 826, 0, 0, 0), (826, .iaload, 827, 0, 0, 0), (827, .aload_n 0, 828, 0, 0, 0), (828, .iload 5, 830, 5, 0, 0), (830, .iconst 2, 831, 2, 0, 0), (831, .iadd, 832, 0, 0, 0)],
  [(832, .iaload, 833, 0, 0, 0), (833, .aload_n 0, 834, 0, 0, 0), (834, .iload 5, 836, 5, 0, 0), (836, .iconst 3, 837, 3, 0, 0), (837, .iadd, 838, 0, 0, 0), (838, .iaload, 839, 0, 0, 0), (839, .ifCond .eq 7, 842, 846, 0, 0), (842, .iconst 1, 843, 1, 0, 0), (843, .goto 4, 846, 847, 0, 0), (846, .iconst 0, 847, 0, 0, 0), (847, .aload_n 0, 848, 0, 0, 0)],
  [(848, .iload 5, 850, 5, 0, 0), (850, .iconst 4, 851, 4, 0, 0), (851, .iadd, 852, 0, 0, 0), (852, .iaload, 853, 0, 0, 0), (853, .aload_n 3, 854, 3, 0, 0), (854, .invokestatic 177, 857, 210, 6, 2), (857, .istore 6, 859, 6, 0, 0), (859, .aload_n 2, 860, 2, 0, 0), (860, .aload_n 0, 861, 0, 0, 0), (861, .iload 5, 863, 5, 0, 0), (863, .iconst 1, 864, 1, 0, 0)],
  [(864, .iadd, 865, 0, 0, 0), (865, .iaload, 866, 0, 0, 0), (866, .aload_n 0, 867, 0, 0, 0), (867, .iload 5, 869, 5, 0, 0), (869, .iconst 2, 870, 2, 0, 0), (870, .iadd, 871, 0, 0, 0), (871, .iaload, 872, 0, 0, 0), (872, .aload_n 0, 873, 0, 0, 0), (873, .iload 5, 875, 5, 0, 0), (875, .iconst 3, 876, 3, 0, 0), (876, .iadd, 877, 0, 0, 0), (877, .iaload, 878, 0, 0, 0), (878, .ifCond .eq 7, 881, 885, 0, 0)],
  [(881, .iconst 1, 882, 1, 0, 0), (882, .goto 4, 885, 886, 0, 0), (885, .iconst 0, 886, 0, 0, 0), (886, .aload_n 0, 887, 0, 0, 0), (887, .iload 5, 889, 5, 0, 0), (889, .iconst 4, 890, 4, 0, 0), (890, .iadd, 891, 0, 0, 0), (891, .iaload, 892, 0, 0, 0), (892, .invokevirtual 180, 895, 153, 5, 0), (895, .istore 7, 897, 7, 0, 0)],
  [(897, .aload_n 2, 898, 2, 0, 0), (898, .invokevirtual 149, 901, 127, 1, 0), (901, .iload 6, 903, 6, 0, 0), (903, .if_icmp .eq 5, 906, 908, 0, 0), (906, .iconst 0, 907, 0, 0, 0), (907, .ireturn, 908, 0, 0, 0), (908, .iload 6, 910, 6, 0, 0), (910, .ifCond .ne 15, 913, 925, 0, 0)],
  [(913, .aload_n 3, 914, 3, 0, 0), (914, .iconst 0, 915, 0, 0, 0), (915, .laload, 916, 0, 0, 0), (916, .iload 7, 918, 7, 0, 0), (918, .i2l, 919, 0, 0, 0), (919, .lcmp, 920, 0, 0, 0), (920, .ifCond .eq 5, 923, 925, 0, 0), (923, .iconst 0, 924, 0, 0, 0), (924, .ireturn, 925, 0, 0, 0), (925, .goto 2030, 928, 2955, 0, 0)],
  [(928, .aload_n 1, 929, 1, 0, 0), (929, .aload_n 0, 930, 0, 0, 0), (930, .iload 5, 932, 5, 0, 0), (932, .iconst 1, 933, 1, 0, 0), (933, .iadd, 934, 0, 0, 0), (934, .iaload, 935, 0, 0, 0), (935, .aload_n 0, 936, 0, 0, 0), (936, .iload 5, 938, 5, 0, 0), (938, .iconst 2, 939, 2, 0, 0), (939, .iadd, 940, 0, 0, 0), (940, .iaload, 941, 0, 0, 0), (941, .aload_n 0, 942, 0, 0, 0), (942, .iload 5, 944, 5, 0, 0)],
  [(944, .iconst 3, 945, 3, 0, 0), (945, .iadd, 946, 0, 0, 0), (946, .iaload, 947, 0, 0, 0), (947, .aload_n 3, 948, 3, 0, 0), (948, .invokestatic 181, 951, 211, 5, 2), (951, .istore 6, 953, 6, 0, 0), (953, .aload_n 2, 954, 2, 0, 0), (954, .aload_n 0, 955, 0, 0, 0), (955, .iload 5, 957, 5, 0, 0), (957, .iconst 1, 958, 1, 0, 0), (958, .iadd, 959, 0, 0, 0), (959, .iaload, 960, 0, 0, 0)],
  [(960, .aload_n 0, 961, 0, 0, 0), (961, .iload 5, 963, 5, 0, 0), (963, .iconst 2, 964, 2, 0, 0), (964, .iadd, 965, 0, 0, 0), (965, .iaload, 966, 0, 0, 0), (966, .aload_n 0, 967, 0, 0, 0), (967, .iload 5, 969, 5, 0, 0), (969, .iconst 3, 970, 3, 0, 0), (970, .iadd, 971, 0, 0, 0), (971, .iaload, 972, 0, 0, 0), (972, .invokevirtual 183, 975, 154, 4, 0), (975, .istore 7, 977, 7, 0, 0)],
  [(977, .aload_n 2, 978, 2, 0, 0), (978, .invokevirtual 149, 981, 127, 1, 0), (981, .iload 6, 983, 6, 0, 0), (983, .if_icmp .eq 5, 986, 988, 0, 0), (986, .iconst 0, 987, 0, 0, 0), (987, .ireturn, 988, 0, 0, 0), (988, .iload 6, 990, 6, 0, 0), (990, .ifCond .ne 15, 993, 1005, 0, 0)],
  [(993, .aload_n 3, 994, 3, 0, 0), (994, .iconst 0, 995, 0, 0, 0), (995, .laload, 996, 0, 0, 0), (996, .iload 7, 998, 7, 0, 0), (998, .i2l, 999, 0, 0, 0), (999, .lcmp, 1000, 0, 0, 0), (1000, .ifCond .eq 5, 1003, 1005, 0, 0), (1003, .iconst 0, 1004, 0, 0, 0), (1004, .ireturn, 1005, 0, 0, 0), (1005, .goto 1950, 1008, 2955, 0, 0)],
  [(1008, .aload_n 1, 1009, 1, 0, 0), (1009, .aload_n 0, 1010, 0, 0, 0), (1010, .iload 5, 1012, 5, 0, 0), (1012, .iconst 1, 1013, 1, 0, 0), (1013, .iadd, 1014, 0, 0, 0), (1014, .iaload, 1015, 0, 0, 0), (1015, .aload_n 0, 1016, 0, 0, 0), (1016, .iload 5, 1018, 5, 0, 0), (1018, .iconst 2, 1019, 2, 0, 0), (1019, .iadd, 1020, 0, 0, 0), (1020, .iaload, 1021, 0, 0, 0), (1021, .aload_n 0, 1022, 0, 0, 0), (1022, .iload 5, 1024, 5, 0, 0)],
  [(1024, .iconst 3, 1025, 3, 0, 0), (1025, .iadd, 1026, 0, 0, 0), (1026, .iaload, 1027, 0, 0, 0), (1027, .aload_n 0, 1028, 0, 0, 0), (1028, .iload 5, 1030, 5, 0, 0), (1030, .iconst 4, 1031, 4, 0, 0), (1031, .iadd, 1032, 0, 0, 0), (1032, .iaload, 1033, 0, 0, 0), (1033, .aload_n 3, 1034, 3, 0, 0), (1034, .invokestatic 184, 1037, 212, 6, 2), (1037, .istore 6, 1039, 6, 0, 0), (1039, .aload_n 2, 1040, 2, 0, 0)],
  [(1040, .aload_n 0, 1041, 0, 0, 0), (1041, .iload 5, 1043, 5, 0, 0), (1043, .iconst 1, 1044, 1, 0, 0), (1044, .iadd, 1045, 0, 0, 0), (1045, .iaload, 1046, 0, 0, 0), (1046, .aload_n 0, 1047, 0, 0, 0), (1047, .iload 5, 1049, 5, 0, 0), (1049, .iconst 2, 1050, 2, 0, 0), (1050, .iadd, 1051, 0, 0, 0), (1051, .iaload, 1052, 0, 0, 0), (1052, .aload_n 0, 1053, 0, 0, 0), (1053, .iload 5, 1055, 5, 0, 0), (1055, .iconst 3, 1056, 3, 0, 0)],
  [(1056, .iadd, 1057, 0, 0, 0), (1057, .iaload, 1058, 0, 0, 0), (1058, .aload_n 0, 1059, 0, 0, 0), (1059, .iload 5, 1061, 5, 0, 0), (1061, .iconst 4, 1062, 4, 0, 0), (1062, .iadd, 1063, 0, 0, 0), (1063, .iaload, 1064, 0, 0, 0), (1064, .invokevirtual 187, 1067, 156, 5, 0), (1067, .istore 7, 1069, 7, 0, 0), (1069, .aload_n 2, 1070, 2, 0, 0), (1070, .invokevirtual 149, 1073, 127, 1, 0)],
  [(1073, .iload 6, 1075, 6, 0, 0), (1075, .if_icmp .eq 5, 1078, 1080, 0, 0), (1078, .iconst 0, 1079, 0, 0, 0), (1079, .ireturn, 1080, 0, 0, 0), (1080, .iload 6, 1082, 6, 0, 0), (1082, .ifCond .ne 15, 1085, 1097, 0, 0), (1085, .aload_n 3, 1086, 3, 0, 0), (1086, .iconst 0, 1087, 0, 0, 0), (1087, .laload, 1088, 0, 0, 0)],
  [(1088, .iload 7, 1090, 7, 0, 0), (1090, .i2l, 1091, 0, 0, 0), (1091, .lcmp, 1092, 0, 0, 0), (1092, .ifCond .eq 5, 1095, 1097, 0, 0), (1095, .iconst 0, 1096, 0, 0, 0), (1096, .ireturn, 1097, 0, 0, 0), (1097, .goto 1858, 1100, 2955, 0, 0), (1100, .aload_n 1, 1101, 1, 0, 0), (1101, .aload_n 0, 1102, 0, 0, 0), (1102, .iload 5, 1104, 5, 0, 0)],
  [(1104, .iconst 1, 1105, 1, 0, 0), (1105, .iadd, 1106, 0, 0, 0), (1106, .iaload, 1107, 0, 0, 0), (1107, .aload_n 0, 1108, 0, 0, 0), (1108, .iload 5, 1110, 5, 0, 0), (1110, .iconst 2, 1111, 2, 0, 0), (1111, .iadd, 1112, 0, 0, 0), (1112, .iaload, 1113, 0, 0, 0), (1113, .aload_n 0, 1114, 0, 0, 0), (1114, .iload 5, 1116, 5, 0, 0), (1116, .iconst 3, 1117, 3, 0, 0), (1117, .iadd, 1118, 0, 0, 0), (1118, .iaload, 1119, 0, 0, 0), (1119, .aload_n 3, 1120, 3, 0, 0)],
  [(1120, .invokestatic 188, 1123, 213, 5, 2), (1123, .istore 6, 1125, 6, 0, 0), (1125, .aload_n 2, 1126, 2, 0, 0), (1126, .aload_n 0, 1127, 0, 0, 0), (1127, .iload 5, 1129, 5, 0, 0), (1129, .iconst 1, 1130, 1, 0, 0), (1130, .iadd, 1131, 0, 0, 0), (1131, .iaload, 1132, 0, 0, 0), (1132, .aload_n 0, 1133, 0, 0, 0), (1133, .iload 5, 1135, 5, 0, 0), (1135, .iconst 2, 1136, 2, 0, 0)],
  [(1136, .iadd, 1137, 0, 0, 0), (1137, .iaload, 1138, 0, 0, 0), (1138, .aload_n 0, 1139, 0, 0, 0), (1139, .iload 5, 1141, 5, 0, 0), (1141, .iconst 3, 1142, 3, 0, 0), (1142, .iadd, 1143, 0, 0, 0), (1143, .iaload, 1144, 0, 0, 0), (1144, .invokevirtual 190, 1147, 157, 4, 0), (1147, .istore 7, 1149, 7, 0, 0), (1149, .aload_n 2, 1150, 2, 0, 0), (1150, .invokevirtual 149, 1153, 127, 1, 0)],
  [(1153, .iload 6, 1155, 6, 0, 0), (1155, .if_icmp .eq 5, 1158, 1160, 0, 0), (1158, .iconst 0, 1159, 0, 0, 0), (1159, .ireturn, 1160, 0, 0, 0), (1160, .iload 6, 1162, 6, 0, 0), (1162, .ifCond .ne 15, 1165, 1177, 0, 0), (1165, .aload_n 3, 1166, 3, 0, 0), (1166, .iconst 0, 1167, 0, 0, 0), (1167, .laload, 1168, 0, 0, 0)],
  [(1168, .iload 7, 1170, 7, 0, 0), (1170, .i2l, 1171, 0, 0, 0), (1171, .lcmp, 1172, 0, 0, 0), (1172, .ifCond .eq 5, 1175, 1177, 0, 0), (1175, .iconst 0, 1176, 0, 0, 0), (1176, .ireturn, 1177, 0, 0, 0), (1177, .goto 1778, 1180, 2955, 0, 0), (1180, .aload_n 1, 1181, 1, 0, 0), (1181, .aload_n 0, 1182, 0, 0, 0), (1182, .iload 5, 1184, 5, 0, 0)],
  [(1184, .iconst 1, 1185, 1, 0, 0), (1185, .iadd, 1186, 0, 0, 0), (1186, .iaload, 1187, 0, 0, 0), (1187, .aload_n 0, 1188, 0, 0, 0), (1188, .iload 5, 1190, 5, 0, 0), (1190, .iconst 2, 1191, 2, 0, 0), (1191, .iadd, 1192, 0, 0, 0), (1192, .iaload, 1193, 0, 0, 0), (1193, .aload_n 0, 1194, 0, 0, 0), (1194, .iload 5, 1196, 5, 0, 0), (1196, .iconst 3, 1197, 3, 0, 0), (1197, .iadd, 1198, 0, 0, 0), (1198, .iaload, 1199, 0, 0, 0), (1199, .aload_n 0, 1200, 0, 0, 0)],
  [(1200, .iload 5, 1202, 5, 0, 0), (1202, .iconst 4, 1203, 4, 0, 0), (1203, .iadd, 1204, 0, 0, 0), (1204, .iaload, 1205, 0, 0, 0), (1205, .aload_n 3, 1206, 3, 0, 0), (1206, .invokestatic 191, 1209, 214, 6, 2), (1209, .istore 6, 1211, 6, 0, 0), (1211, .aload_n 2, 1212, 2, 0, 0), (1212, .aload_n 0, 1213, 0, 0, 0), (1213, .iload 5, 1215, 5, 0, 0), (1215, .iconst 1, 1216, 1, 0, 0)],
  [(1216, .iadd, 1217, 0, 0, 0), (1217, .iaload, 1218, 0, 0, 0), (1218, .aload_n 0, 1219, 0, 0, 0), (1219, .iload 5, 1221, 5, 0, 0), (1221, .iconst 2, 1222, 2, 0, 0), (1222, .iadd, 1223, 0, 0, 0), (1223, .iaload, 1224, 0, 0, 0), (1224, .aload_n 0, 1225, 0, 0, 0), (1225, .iload 5, 1227, 5, 0, 0), (1227, .iconst 3, 1228, 3, 0, 0), (1228, .iadd, 1229, 0, 0, 0), (1229, .iaload, 1230, 0, 0, 0), (1230, .aload_n 0, 1231, 0, 0, 0), (1231, .iload 5, 1233, 5, 0, 0)],
  [(1233, .iconst 4, 1234, 4, 0, 0), (1234, .iadd, 1235, 0, 0, 0), (1235, .iaload, 1236, 0, 0, 0), (1236, .invokevirtual 193, 1239, 159, 5, 0), (1239, .istore 7, 1241, 7, 0, 0), (1241, .aload_n 2, 1242, 2, 0, 0), (1242, .invokevirtual 149, 1245, 127, 1, 0), (1245, .iload 6, 1247, 6, 0, 0), (1247, .if_icmp .eq 5, 1250, 1252, 0, 0)],
  [(1250, .iconst 0, 1251, 0, 0, 0), (1251, .ireturn, 1252, 0, 0, 0), (1252, .iload 6, 1254, 6, 0, 0), (1254, .ifCond .ne 15, 1257, 1269, 0, 0), (1257, .aload_n 3, 1258, 3, 0, 0), (1258, .iconst 0, 1259, 0, 0, 0), (1259, .laload, 1260, 0, 0, 0), (1260, .iload 7, 1262, 7, 0, 0), (1262, .i2l, 1263, 0, 0, 0), (1263, .lcmp, 1264, 0, 0, 0)],
  [(1264, .ifCond .eq 5, 1267, 1269, 0, 0), (1267, .iconst 0, 1268, 0, 0, 0), (1268, .ireturn, 1269, 0, 0, 0), (1269, .goto 1686, 1272, 2955, 0, 0), (1272, .aload_n 1, 1273, 1, 0, 0), (1273, .aload_n 0, 1274, 0, 0, 0), (1274, .iload 5, 1276, 5, 0, 0), (1276, .iconst 1, 1277, 1, 0, 0), (1277, .iadd, 1278, 0, 0, 0), (1278, .iaload, 1279, 0, 0, 0), (1279, .aload_n 0, 1280, 0, 0, 0)],
  [(1280, .iload 5, 1282, 5, 0, 0), (1282, .iconst 2, 1283, 2, 0, 0), (1283, .iadd, 1284, 0, 0, 0), (1284, .iaload, 1285, 0, 0, 0), (1285, .aload_n 3, 1286, 3, 0, 0), (1286, .invokestatic 194, 1289, 215, 4, 2), (1289, .istore 6, 1291, 6, 0, 0), (1291, .aload_n 2, 1292, 2, 0, 0), (1292, .aload_n 0, 1293, 0, 0, 0), (1293, .iload 5, 1295, 5, 0, 0), (1295, .iconst 1, 1296, 1, 0, 0)],
  [(1296, .iadd, 1297, 0, 0, 0), (1297, .iaload, 1298, 0, 0, 0), (1298, .aload_n 0, 1299, 0, 0, 0), (1299, .iload 5, 1301, 5, 0, 0), (1301, .iconst 2, 1302, 2, 0, 0), (1302, .iadd, 1303, 0, 0, 0), (1303, .iaload, 1304, 0, 0, 0), (1304, .invokevirtual 196, 1307, 160, 3, 0), (1307, .istore 7, 1309, 7, 0, 0), (1309, .aload_n 2, 1310, 2, 0, 0), (1310, .invokevirtual 149, 1313, 127, 1, 0)],
  [(1313, .iload 6, 1315, 6, 0, 0), (1315, .if_icmp .eq 5, 1318, 1320, 0, 0), (1318, .iconst 0, 1319, 0, 0, 0), (1319, .ireturn, 1320, 0, 0, 0), (1320, .iload 6, 1322, 6, 0, 0), (1322, .ifCond .ne 15, 1325, 1337, 0, 0), (1325, .aload_n 3, 1326, 3, 0, 0), (1326, .iconst 0, 1327, 0, 0, 0), (1327, .laload, 1328, 0, 0, 0)],
  [(1328, .iload 7, 1330, 7, 0, 0), (1330, .i2l, 1331, 0, 0, 0), (1331, .lcmp, 1332, 0, 0, 0), (1332, .ifCond .eq 5, 1335, 1337, 0, 0), (1335, .iconst 0, 1336, 0, 0, 0), (1336, .ireturn, 1337, 0, 0, 0), (1337, .goto 1618, 1340, 2955, 0, 0), (1340, .aload_n 1, 1341, 1, 0, 0), (1341, .aload_n 0, 1342, 0, 0, 0), (1342, .iload 5, 1344, 5, 0, 0)],
  [(1344, .iconst 1, 1345, 1, 0, 0), (1345, .iadd, 1346, 0, 0, 0), (1346, .iaload, 1347, 0, 0, 0), (1347, .aload_n 0, 1348, 0, 0, 0), (1348, .iload 5, 1350, 5, 0, 0), (1350, .iconst 2, 1351, 2, 0, 0), (1351, .iadd, 1352, 0, 0, 0), (1352, .iaload, 1353, 0, 0, 0), (1353, .aload_n 3, 1354, 3, 0, 0), (1354, .invokestatic 197, 1357, 216, 4, 2), (1357, .istore 6, 1359, 6, 0, 0), (1359, .aload_n 2, 1360, 2, 0, 0)],
  [(1360, .aload_n 0, 1361, 0, 0, 0), (1361, .iload 5, 1363, 5, 0, 0), (1363, .iconst 1, 1364, 1, 0, 0), (1364, .iadd, 1365, 0, 0, 0), (1365, .iaload, 1366, 0, 0, 0), (1366, .aload_n 0, 1367, 0, 0, 0), (1367, .iload 5, 1369, 5, 0, 0), (1369, .iconst 2, 1370, 2, 0, 0), (1370, .iadd, 1371, 0, 0, 0), (1371, .iaload, 1372, 0, 0, 0), (1372, .invokevirtual 199, 1375, 161, 3, 0), (1375, .istore 7, 1377, 7, 0, 0)],
  [(1377, .aload_n 2, 1378, 2, 0, 0), (1378, .invokevirtual 149, 1381, 127, 1, 0), (1381, .iload 6, 1383, 6, 0, 0), (1383, .if_icmp .eq 5, 1386, 1388, 0, 0), (1386, .iconst 0, 1387, 0, 0, 0), (1387, .ireturn, 1388, 0, 0, 0), (1388, .iload 6, 1390, 6, 0, 0), (1390, .ifCond .ne 22, 1393, 1412, 0, 0)],
  [(1393, .aload_n 3, 1394, 3, 0, 0), (1394, .iconst 0, 1395, 0, 0, 0), (1395, .laload, 1396, 0, 0, 0), (1396, .iload 7, 1398, 7, 0, 0), (1398, .ifCond .eq 7, 1401, 1405, 0, 0), (1401, .lconst 1, 1402, 1, 0, 0), (1402, .goto 4, 1405, 1406, 0, 0), (1405, .lconst 0, 1406, 0, 0, 0), (1406, .lcmp, 1407, 0, 0, 0), (1407, .ifCond .eq 5, 1410, 1412, 0, 0)],
  [(1410, .iconst 0, 1411, 0, 0, 0), (1411, .ireturn, 1412, 0, 0, 0), (1412, .goto 1543, 1415, 2955, 0, 0), (1415, .aload_n 1, 1416, 1, 0, 0), (1416, .aload_n 0, 1417, 0, 0, 0), (1417, .iload 5, 1419, 5, 0, 0), (1419, .iconst 1, 1420, 1, 0, 0), (1420, .iadd, 1421, 0, 0, 0), (1421, .iaload, 1422, 0, 0, 0), (1422, .aload_n 3, 1423, 3, 0, 0), (1423, .invokestatic 200, 1426, 217, 3, 2)],
  [(1426, .istore 6, 1428, 6, 0, 0), (1428, .aload_n 2, 1429, 2, 0, 0), (1429, .aload_n 0, 1430, 0, 0, 0), (1430, .iload 5, 1432, 5, 0, 0), (1432, .iconst 1, 1433, 1, 0, 0), (1433, .iadd, 1434, 0, 0, 0), (1434, .iaload, 1435, 0, 0, 0), (1435, .invokevirtual 202, 1438, 162, 2, 0), (1438, .istore 7, 1440, 7, 0, 0)],
  [(1440, .aload_n 2, 1441, 2, 0, 0), (1441, .invokevirtual 149, 1444, 127, 1, 0), (1444, .iload 6, 1446, 6, 0, 0), (1446, .if_icmp .eq 5, 1449, 1451, 0, 0), (1449, .iconst 0, 1450, 0, 0, 0), (1450, .ireturn, 1451, 0, 0, 0), (1451, .iload 6, 1453, 6, 0, 0), (1453, .ifCond .ne 15, 1456, 1468, 0, 0)],
  [(1456, .aload_n 3, 1457, 3, 0, 0), (1457, .iconst 0, 1458, 0, 0, 0), (1458, .laload, 1459, 0, 0, 0), (1459, .iload 7, 1461, 7, 0, 0), (1461, .i2l, 1462, 0, 0, 0), (1462, .lcmp, 1463, 0, 0, 0), (1463, .ifCond .eq 5, 1466, 1468, 0, 0), (1466, .iconst 0, 1467, 0, 0, 0), (1467, .ireturn, 1468, 0, 0, 0), (1468, .goto 1487, 1471, 2955, 0, 0), (1471, .aload_n 1, 1472, 1, 0, 0)],
  [(1472, .aload_n 0, 1473, 0, 0, 0), (1473, .iload 5, 1475, 5, 0, 0), (1475, .iconst 1, 1476, 1, 0, 0), (1476, .iadd, 1477, 0, 0, 0), (1477, .iaload, 1478, 0, 0, 0), (1478, .aload_n 0, 1479, 0, 0, 0), (1479, .iload 5, 1481, 5, 0, 0), (1481, .iconst 2, 1482, 2, 0, 0), (1482, .iadd, 1483, 0, 0, 0), (1483, .iaload, 1484, 0, 0, 0), (1484, .aload_n 3, 1485, 3, 0, 0), (1485, .invokestatic 203, 1488, 218, 4, 2)],
  [(1488, .istore 6, 1490, 6, 0, 0), (1490, .aload_n 2, 1491, 2, 0, 0), (1491, .aload_n 0, 1492, 0, 0, 0), (1492, .iload 5, 1494, 5, 0, 0), (1494, .iconst 1, 1495, 1, 0, 0), (1495, .iadd, 1496, 0, 0, 0), (1496, .iaload, 1497, 0, 0, 0), (1497, .aload_n 0, 1498, 0, 0, 0), (1498, .iload 5, 1500, 5, 0, 0), (1500, .iconst 2, 1501, 2, 0, 0), (1501, .iadd, 1502, 0, 0, 0), (1502, .iaload, 1503, 0, 0, 0), (1503, .invokevirtual 205, 1506, 164, 3, 0)],
  [(1506, .istore 7, 1508, 7, 0, 0), (1508, .aload_n 2, 1509, 2, 0, 0), (1509, .invokevirtual 149, 1512, 127, 1, 0), (1512, .iload 6, 1514, 6, 0, 0), (1514, .if_icmp .eq 5, 1517, 1519, 0, 0), (1517, .iconst 0, 1518, 0, 0, 0), (1518, .ireturn, 1519, 0, 0, 0), (1519, .iload 6, 1521, 6, 0, 0)],
  [(1521, .ifCond .ne 15, 1524, 1536, 0, 0), (1524, .aload_n 3, 1525, 3, 0, 0), (1525, .iconst 0, 1526, 0, 0, 0), (1526, .laload, 1527, 0, 0, 0), (1527, .iload 7, 1529, 7, 0, 0), (1529, .i2l, 1530, 0, 0, 0), (1530, .lcmp, 1531, 0, 0, 0), (1531, .ifCond .eq 5, 1534, 1536, 0, 0), (1534, .iconst 0, 1535, 0, 0, 0), (1535, .ireturn, 1536, 0, 0, 0)],
  [(1536, .goto 1419, 1539, 2955, 0, 0), (1539, .aload_n 1, 1540, 1, 0, 0), (1540, .aload_n 0, 1541, 0, 0, 0), (1541, .iload 5, 1543, 5, 0, 0), (1543, .iconst 1, 1544, 1, 0, 0), (1544, .iadd, 1545, 0, 0, 0), (1545, .iaload, 1546, 0, 0, 0), (1546, .aload_n 3, 1547, 3, 0, 0), (1547, .invokestatic 206, 1550, 219, 3, 2), (1550, .istore 6, 1552, 6, 0, 0)],
  [(1552, .aload_n 2, 1553, 2, 0, 0), (1553, .aload_n 0, 1554, 0, 0, 0), (1554, .iload 5, 1556, 5, 0, 0), (1556, .iconst 1, 1557, 1, 0, 0), (1557, .iadd, 1558, 0, 0, 0), (1558, .iaload, 1559, 0, 0, 0), (1559, .invokevirtual 208, 1562, 165, 2, 0), (1562, .istore 7, 1564, 7, 0, 0), (1564, .aload_n 2, 1565, 2, 0, 0), (1565, .invokevirtual 149, 1568, 127, 1, 0)],
  [(1568, .iload 6, 1570, 6, 0, 0), (1570, .if_icmp .eq 5, 1573, 1575, 0, 0), (1573, .iconst 0, 1574, 0, 0, 0), (1574, .ireturn, 1575, 0, 0, 0), (1575, .iload 6, 1577, 6, 0, 0), (1577, .ifCond .ne 15, 1580, 1592, 0, 0), (1580, .aload_n 3, 1581, 3, 0, 0), (1581, .iconst 0, 1582, 0, 0, 0), (1582, .laload, 1583, 0, 0, 0), (1583, .iload 7, 1585, 7, 0, 0)],
  [(1585, .i2l, 1586, 0, 0, 0), (1586, .lcmp, 1587, 0, 0, 0), (1587, .ifCond .eq 5, 1590, 1592, 0, 0), (1590, .iconst 0, 1591, 0, 0, 0), (1591, .ireturn, 1592, 0, 0, 0), (1592, .goto 1363, 1595, 2955, 0, 0), (1595, .aload_n 1, 1596, 1, 0, 0), (1596, .aload_n 0, 1597, 0, 0, 0), (1597, .iload 5, 1599, 5, 0, 0), (1599, .iconst 1, 1600, 1, 0, 0)],
  [(1600, .iadd, 1601, 0, 0, 0), (1601, .iaload, 1602, 0, 0, 0), (1602, .aload_n 0, 1603, 0, 0, 0), (1603, .iload 5, 1605, 5, 0, 0), (1605, .iconst 2, 1606, 2, 0, 0), (1606, .iadd, 1607, 0, 0, 0), (1607, .iaload, 1608, 0, 0, 0), (1608, .aload_n 3, 1609, 3, 0, 0), (1609, .invokestatic 209, 1612, 220, 4, 2), (1612, .istore 6, 1614, 6, 0, 0), (1614, .aload_n 2, 1615, 2, 0, 0), (1615, .aload_n 0, 1616, 0, 0, 0)],
  [(1616, .iload 5, 1618, 5, 0, 0), (1618, .iconst 1, 1619, 1, 0, 0), (1619, .iadd, 1620, 0, 0, 0), (1620, .iaload, 1621, 0, 0, 0), (1621, .aload_n 0, 1622, 0, 0, 0), (1622, .iload 5, 1624, 5, 0, 0), (1624, .iconst 2, 1625, 2, 0, 0), (1625, .iadd, 1626, 0, 0, 0), (1626, .iaload, 1627, 0, 0, 0), (1627, .invokevirtual 211, 1630, 166, 3, 0), (1630, .istore 7, 1632, 7, 0, 0)],
  [(1632, .aload_n 2, 1633, 2, 0, 0), (1633, .invokevirtual 149, 1636, 127, 1, 0), (1636, .iload 6, 1638, 6, 0, 0), (1638, .if_icmp .eq 5, 1641, 1643, 0, 0), (1641, .iconst 0, 1642, 0, 0, 0), (1642, .ireturn, 1643, 0, 0, 0), (1643, .iload 6, 1645, 6, 0, 0), (1645, .ifCond .ne 15, 1648, 1660, 0, 0)],
  [(1648, .aload_n 3, 1649, 3, 0, 0), (1649, .iconst 0, 1650, 0, 0, 0), (1650, .laload, 1651, 0, 0, 0), (1651, .iload 7, 1653, 7, 0, 0), (1653, .i2l, 1654, 0, 0, 0), (1654, .lcmp, 1655, 0, 0, 0), (1655, .ifCond .eq 5, 1658, 1660, 0, 0), (1658, .iconst 0, 1659, 0, 0, 0), (1659, .ireturn, 1660, 0, 0, 0), (1660, .goto 1295, 1663, 2955, 0, 0), (1663, .aload_n 1, 1664, 1, 0, 0)],
  [(1664, .aload_n 0, 1665, 0, 0, 0), (1665, .iload 5, 1667, 5, 0, 0), (1667, .iconst 1, 1668, 1, 0, 0), (1668, .iadd, 1669, 0, 0, 0), (1669, .iaload, 1670, 0, 0, 0), (1670, .aload_n 3, 1671, 3, 0, 0), (1671, .invokestatic 212, 1674, 221, 3, 2), (1674, .istore 6, 1676, 6, 0, 0), (1676, .aload_n 2, 1677, 2, 0, 0), (1677, .aload_n 0, 1678, 0, 0, 0), (1678, .iload 5, 1680, 5, 0, 0)],
  [(1680, .iconst 1, 1681, 1, 0, 0), (1681, .iadd, 1682, 0, 0, 0), (1682, .iaload, 1683, 0, 0, 0), (1683, .invokevirtual 214, 1686, 168, 2, 0), (1686, .istore 7, 1688, 7, 0, 0), (1688, .aload_n 2, 1689, 2, 0, 0), (1689, .invokevirtual 149, 1692, 127, 1, 0), (1692, .iload 6, 1694, 6, 0, 0), (1694, .if_icmp .eq 5, 1697, 1699, 0, 0)],
  [(1697, .iconst 0, 1698, 0, 0, 0), (1698, .ireturn, 1699, 0, 0, 0), (1699, .iload 6, 1701, 6, 0, 0), (1701, .ifCond .ne 15, 1704, 1716, 0, 0), (1704, .aload_n 3, 1705, 3, 0, 0), (1705, .iconst 0, 1706, 0, 0, 0), (1706, .laload, 1707, 0, 0, 0), (1707, .iload 7, 1709, 7, 0, 0), (1709, .i2l, 1710, 0, 0, 0), (1710, .lcmp, 1711, 0, 0, 0), (1711, .ifCond .eq 5, 1714, 1716, 0, 0)],
  [(1714, .iconst 0, 1715, 0, 0, 0), (1715, .ireturn, 1716, 0, 0, 0), (1716, .goto 1239, 1719, 2955, 0, 0), (1719, .aload_n 1, 1720, 1, 0, 0), (1720, .aload_n 0, 1721, 0, 0, 0), (1721, .iload 5, 1723, 5, 0, 0), (1723, .iconst 1, 1724, 1, 0, 0), (1724, .iadd, 1725, 0, 0, 0), (1725, .iaload, 1726, 0, 0, 0), (1726, .aload_n 0, 1727, 0, 0, 0), (1727, .iload 5, 1729, 5, 0, 0)],
  [(1729, .iconst 2, 1730, 2, 0, 0), (1730, .iadd, 1731, 0, 0, 0), (1731, .iaload, 1732, 0, 0, 0), (1732, .aload_n 3, 1733, 3, 0, 0), (1733, .invokestatic 215, 1736, 222, 4, 2), (1736, .istore 6, 1738, 6, 0, 0), (1738, .aload_n 2, 1739, 2, 0, 0), (1739, .aload_n 0, 1740, 0, 0, 0), (1740, .iload 5, 1742, 5, 0, 0), (1742, .iconst 1, 1743, 1, 0, 0), (1743, .iadd, 1744, 0, 0, 0)],
  [(1744, .iaload, 1745, 0, 0, 0), (1745, .aload_n 0, 1746, 0, 0, 0), (1746, .iload 5, 1748, 5, 0, 0), (1748, .iconst 2, 1749, 2, 0, 0), (1749, .iadd, 1750, 0, 0, 0), (1750, .iaload, 1751, 0, 0, 0), (1751, .invokevirtual 217, 1754, 169, 3, 0), (1754, .istore 7, 1756, 7, 0, 0), (1756, .aload_n 2, 1757, 2, 0, 0), (1757, .invokevirtual 149, 1760, 127, 1, 0)],
  [(1760, .iload 6, 1762, 6, 0, 0), (1762, .if_icmp .eq 5, 1765, 1767, 0, 0), (1765, .iconst 0, 1766, 0, 0, 0), (1766, .ireturn, 1767, 0, 0, 0), (1767, .iload 6, 1769, 6, 0, 0), (1769, .ifCond .ne 15, 1772, 1784, 0, 0), (1772, .aload_n 3, 1773, 3, 0, 0), (1773, .iconst 0, 1774, 0, 0, 0), (1774, .laload, 1775, 0, 0, 0), (1775, .iload 7, 1777, 7, 0, 0)],
  [(1777, .i2l, 1778, 0, 0, 0), (1778, .lcmp, 1779, 0, 0, 0), (1779, .ifCond .eq 5, 1782, 1784, 0, 0), (1782, .iconst 0, 1783, 0, 0, 0), (1783, .ireturn, 1784, 0, 0, 0), (1784, .goto 1171, 1787, 2955, 0, 0), (1787, .aload_n 1, 1788, 1, 0, 0), (1788, .aload_n 0, 1789, 0, 0, 0), (1789, .iload 5, 1791, 5, 0, 0), (1791, .iconst 1, 1792, 1, 0, 0)],
  [(1792, .iadd, 1793, 0, 0, 0), (1793, .iaload, 1794, 0, 0, 0), (1794, .aload_n 0, 1795, 0, 0, 0), (1795, .iload 5, 1797, 5, 0, 0), (1797, .iconst 2, 1798, 2, 0, 0), (1798, .iadd, 1799, 0, 0, 0), (1799, .iaload, 1800, 0, 0, 0), (1800, .aload_n 3, 1801, 3, 0, 0), (1801, .invokestatic 218, 1804, 223, 4, 2), (1804, .istore 6, 1806, 6, 0, 0), (1806, .aload_n 2, 1807, 2, 0, 0), (1807, .aload_n 0, 1808, 0, 0, 0)],
  [(1808, .iload 5, 1810, 5, 0, 0), (1810, .iconst 1, 1811, 1, 0, 0), (1811, .iadd, 1812, 0, 0, 0), (1812, .iaload, 1813, 0, 0, 0), (1813, .aload_n 0, 1814, 0, 0, 0), (1814, .iload 5, 1816, 5, 0, 0), (1816, .iconst 2, 1817, 2, 0, 0), (1817, .iadd, 1818, 0, 0, 0), (1818, .iaload, 1819, 0, 0, 0), (1819, .invokevirtual 220, 1822, 171, 3, 0), (1822, .istore 7, 1824, 7, 0, 0)],
  [(1824, .aload_n 2, 1825, 2, 0, 0), (1825, .invokevirtual 149, 1828, 127, 1, 0), (1828, .iload 6, 1830, 6, 0, 0), (1830, .if_icmp .eq 5, 1833, 1835, 0, 0), (1833, .iconst 0, 1834, 0, 0, 0), (1834, .ireturn, 1835, 0, 0, 0), (1835, .iload 6, 1837, 6, 0, 0), (1837, .ifCond .ne 22, 1840, 1859, 0, 0)],
  [(1840, .aload_n 3, 1841, 3, 0, 0), (1841, .iconst 0, 1842, 0, 0, 0), (1842, .laload, 1843, 0, 0, 0), (1843, .iload 7, 1845, 7, 0, 0), (1845, .ifCond .eq 7, 1848, 1852, 0, 0), (1848, .lconst 1, 1849, 1, 0, 0), (1849, .goto 4, 1852, 1853, 0, 0), (1852, .lconst 0, 1853, 0, 0, 0), (1853, .lcmp, 1854, 0, 0, 0), (1854, .ifCond .eq 5, 1857, 1859, 0, 0)],
  [(1857, .iconst 0, 1858, 0, 0, 0), (1858, .ireturn, 1859, 0, 0, 0), (1859, .goto 1096, 1862, 2955, 0, 0), (1862, .aload_n 1, 1863, 1, 0, 0), (1863, .aload_n 0, 1864, 0, 0, 0), (1864, .iload 5, 1866, 5, 0, 0), (1866, .iconst 1, 1867, 1, 0, 0), (1867, .iadd, 1868, 0, 0, 0), (1868, .iaload, 1869, 0, 0, 0), (1869, .aload_n 0, 1870, 0, 0, 0), (1870, .iload 5, 1872, 5, 0, 0)],
  [(1872, .iconst 2, 1873, 2, 0, 0), (1873, .iadd, 1874, 0, 0, 0), (1874, .iaload, 1875, 0, 0, 0), (1875, .aload_n 3, 1876, 3, 0, 0), (1876, .invokestatic 221, 1879, 224, 4, 2), (1879, .istore 6, 1881, 6, 0, 0), (1881, .aload_n 2, 1882, 2, 0, 0), (1882, .aload_n 0, 1883, 0, 0, 0), (1883, .iload 5, 1885, 5, 0, 0), (1885, .iconst 1, 1886, 1, 0, 0), (1886, .iadd, 1887, 0, 0, 0), (1887, .iaload, 1888, 0, 0, 0)],
  [(1888, .aload_n 0, 1889, 0, 0, 0), (1889, .iload 5, 1891, 5, 0, 0), (1891, .iconst 2, 1892, 2, 0, 0), (1892, .iadd, 1893, 0, 0, 0), (1893, .iaload, 1894, 0, 0, 0), (1894, .invokevirtual 223, 1897, 172, 3, 0), (1897, .istore 7, 1899, 7, 0, 0), (1899, .aload_n 2, 1900, 2, 0, 0), (1900, .invokevirtual 149, 1903, 127, 1, 0), (1903, .iload 6, 1905, 6, 0, 0)],
  [(1905, .if_icmp .eq 5, 1908, 1910, 0, 0), (1908, .iconst 0, 1909, 0, 0, 0), (1909, .ireturn, 1910, 0, 0, 0), (1910, .iload 6, 1912, 6, 0, 0), (1912, .ifCond .ne 22, 1915, 1934, 0, 0), (1915, .aload_n 3, 1916, 3, 0, 0), (1916, .iconst 0, 1917, 0, 0, 0), (1917, .laload, 1918, 0, 0, 0), (1918, .iload 7, 1920, 7, 0, 0)],
  [(1920, .ifCond .eq 7, 1923, 1927, 0, 0), (1923, .lconst 1, 1924, 1, 0, 0), (1924, .goto 4, 1927, 1928, 0, 0), (1927, .lconst 0, 1928, 0, 0, 0), (1928, .lcmp, 1929, 0, 0, 0), (1929, .ifCond .eq 5, 1932, 1934, 0, 0), (1932, .iconst 0, 1933, 0, 0, 0), (1933, .ireturn, 1934, 0, 0, 0), (1934, .goto 1021, 1937, 2955, 0, 0)],
  [(1937, .aload_n 1, 1938, 1, 0, 0), (1938, .aload_n 0, 1939, 0, 0, 0), (1939, .iload 5, 1941, 5, 0, 0), (1941, .iconst 1, 1942, 1, 0, 0), (1942, .iadd, 1943, 0, 0, 0), (1943, .iaload, 1944, 0, 0, 0), (1944, .aload_n 3, 1945, 3, 0, 0), (1945, .invokestatic 224, 1948, 225, 3, 2), (1948, .istore 6, 1950, 6, 0, 0), (1950, .aload_n 2, 1951, 2, 0, 0), (1951, .aload_n 0, 1952, 0, 0, 0)],
  [(1952, .iload 5, 1954, 5, 0, 0), (1954, .iconst 1, 1955, 1, 0, 0), (1955, .iadd, 1956, 0, 0, 0), (1956, .iaload, 1957, 0, 0, 0), (1957, .invokevirtual 226, 1960, 175, 2, 0), (1960, .istore 7, 1962, 7, 0, 0), (1962, .aload_n 2, 1963, 2, 0, 0), (1963, .invokevirtual 149, 1966, 127, 1, 0), (1966, .iload 6, 1968, 6, 0, 0)],
  [(1968, .if_icmp .eq 5, 1971, 1973, 0, 0), (1971, .iconst 0, 1972, 0, 0, 0), (1972, .ireturn, 1973, 0, 0, 0), (1973, .iload 6, 1975, 6, 0, 0), (1975, .ifCond .ne 15, 1978, 1990, 0, 0), (1978, .aload_n 3, 1979, 3, 0, 0), (1979, .iconst 0, 1980, 0, 0, 0), (1980, .laload, 1981, 0, 0, 0), (1981, .iload 7, 1983, 7, 0, 0), (1983, .i2l, 1984, 0, 0, 0)],
  [(1984, .lcmp, 1985, 0, 0, 0), (1985, .ifCond .eq 5, 1988, 1990, 0, 0), (1988, .iconst 0, 1989, 0, 0, 0), (1989, .ireturn, 1990, 0, 0, 0), (1990, .goto 965, 1993, 2955, 0, 0), (1993, .aload_n 1, 1994, 1, 0, 0), (1994, .aload_n 0, 1995, 0, 0, 0), (1995, .iload 5, 1997, 5, 0, 0), (1997, .iconst 1, 1998, 1, 0, 0), (1998, .iadd, 1999, 0, 0, 0), (1999, .iaload, 2000, 0, 0, 0)],
  [(2000, .aload_n 0, 2001, 0, 0, 0), (2001, .iload 5, 2003, 5, 0, 0), (2003, .iconst 2, 2004, 2, 0, 0), (2004, .iadd, 2005, 0, 0, 0), (2005, .iaload, 2006, 0, 0, 0), (2006, .aload_n 0, 2007, 0, 0, 0), (2007, .iload 5, 2009, 5, 0, 0), (2009, .iconst 3, 2010, 3, 0, 0), (2010, .iadd, 2011, 0, 0, 0), (2011, .iaload, 2012, 0, 0, 0), (2012, .aload_n 3, 2013, 3, 0, 0), (2013, .invokestatic 227, 2016, 226, 5, 2)],
  [(2016, .istore 6, 2018, 6, 0, 0), (2018, .aload_n 2, 2019, 2, 0, 0), (2019, .aload_n 0, 2020, 0, 0, 0), (2020, .iload 5, 2022, 5, 0, 0), (2022, .iconst 1, 2023, 1, 0, 0), (2023, .iadd, 2024, 0, 0, 0), (2024, .iaload, 2025, 0, 0, 0), (2025, .aload_n 0, 2026, 0, 0, 0), (2026, .iload 5, 2028, 5, 0, 0), (2028, .iconst 2, 2029, 2, 0, 0), (2029, .iadd, 2030, 0, 0, 0), (2030, .iaload, 2031, 0, 0, 0), (2031, .aload_n 0, 2032, 0, 0, 0)],
  [(2032, .iload 5, 2034, 5, 0, 0), (2034, .iconst 3, 2035, 3, 0, 0), (2035, .iadd, 2036, 0, 0, 0), (2036, .iaload, 2037, 0, 0, 0), (2037, .invokevirtual 229, 2040, 176, 4, 0), (2040, .istore 7, 2042, 7, 0, 0), (2042, .aload_n 2, 2043, 2, 0, 0), (2043, .invokevirtual 149, 2046, 127, 1, 0), (2046, .iload 6, 2048, 6, 0, 0)],
  [(2048, .if_icmp .eq 5, 2051, 2053, 0, 0), (2051, .iconst 0, 2052, 0, 0, 0), (2052, .ireturn, 2053, 0, 0, 0), (2053, .iload 6, 2055, 6, 0, 0), (2055, .ifCond .ne 22, 2058, 2077, 0, 0), (2058, .aload_n 3, 2059, 3, 0, 0), (2059, .iconst 0, 2060, 0, 0, 0), (2060, .laload, 2061, 0, 0, 0), (2061, .iload 7, 2063, 7, 0, 0), (2063, .ifCond .eq 7, 2066, 2070, 0, 0)],
  [(2066, .lconst 1, 2067, 1, 0, 0), (2067, .goto 4, 2070, 2071, 0, 0), (2070, .lconst 0, 2071, 0, 0, 0), (2071, .lcmp, 2072, 0, 0, 0), (2072, .ifCond .eq 5, 2075, 2077, 0, 0), (2075, .iconst 0, 2076, 0, 0, 0), (2076, .ireturn, 2077, 0, 0, 0), (2077, .goto 878, 2080, 2955, 0, 0)],
  [(2080, .aload_n 1, 2081, 1, 0, 0), (2081, .aload_n 0, 2082, 0, 0, 0), (2082, .iload 5, 2084, 5, 0, 0), (2084, .iconst 1, 2085, 1, 0, 0), (2085, .iadd, 2086, 0, 0, 0), (2086, .iaload, 2087, 0, 0, 0), (2087, .aload_n 0, 2088, 0, 0, 0), (2088, .iload 5, 2090, 5, 0, 0), (2090, .iconst 2, 2091, 2, 0, 0), (2091, .iadd, 2092, 0, 0, 0), (2092, .iaload, 2093, 0, 0, 0), (2093, .aload_n 3, 2094, 3, 0, 0), (2094, .invokestatic 230, 2097, 227, 4, 2)],
  [(2097, .istore 6, 2099, 6, 0, 0), (2099, .aload_n 2, 2100, 2, 0, 0), (2100, .aload_n 0, 2101, 0, 0, 0), (2101, .iload 5, 2103, 5, 0, 0), (2103, .iconst 1, 2104, 1, 0, 0), (2104, .iadd, 2105, 0, 0, 0), (2105, .iaload, 2106, 0, 0, 0), (2106, .aload_n 0, 2107, 0, 0, 0), (2107, .iload 5, 2109, 5, 0, 0), (2109, .iconst 2, 2110, 2, 0, 0), (2110, .iadd, 2111, 0, 0, 0), (2111, .iaload, 2112, 0, 0, 0)],
  [(2112, .invokevirtual 232, 2115, 181, 3, 0), (2115, .istore 7, 2117, 7, 0, 0), (2117, .aload_n 2, 2118, 2, 0, 0), (2118, .invokevirtual 149, 2121, 127, 1, 0), (2121, .iload 6, 2123, 6, 0, 0), (2123, .if_icmp .eq 5, 2126, 2128, 0, 0), (2126, .iconst 0, 2127, 0, 0, 0), (2127, .ireturn, 2128, 0, 0, 0)],
  [(2128, .iload 6, 2130, 6, 0, 0), (2130, .ifCond .ne 15, 2133, 2145, 0, 0), (2133, .aload_n 3, 2134, 3, 0, 0), (2134, .iconst 0, 2135, 0, 0, 0), (2135, .laload, 2136, 0, 0, 0), (2136, .iload 7, 2138, 7, 0, 0), (2138, .i2l, 2139, 0, 0, 0), (2139, .lcmp, 2140, 0, 0, 0), (2140, .ifCond .eq 5, 2143, 2145, 0, 0), (2143, .iconst 0, 2144, 0, 0, 0)],
  [(2144, .ireturn, 2145, 0, 0, 0), (2145, .goto 810, 2148, 2955, 0, 0), (2148, .aload_n 1, 2149, 1, 0, 0), (2149, .aload_n 0, 2150, 0, 0, 0), (2150, .iload 5, 2152, 5, 0, 0), (2152, .iconst 1, 2153, 1, 0, 0), (2153, .iadd, 2154, 0, 0, 0), (2154, .iaload, 2155, 0, 0, 0), (2155, .aload_n 0, 2156, 0, 0, 0), (2156, .iload 5, 2158, 5, 0, 0), (2158, .iconst 2, 2159, 2, 0, 0), (2159, .iadd, 2160, 0, 0, 0)],
  [(2160, .iaload, 2161, 0, 0, 0), (2161, .aload_n 3, 2162, 3, 0, 0), (2162, .invokestatic 233, 2165, 228, 4, 2), (2165, .istore 6, 2167, 6, 0, 0), (2167, .aload_n 2, 2168, 2, 0, 0), (2168, .aload_n 0, 2169, 0, 0, 0), (2169, .iload 5, 2171, 5, 0, 0), (2171, .iconst 1, 2172, 1, 0, 0), (2172, .iadd, 2173, 0, 0, 0), (2173, .iaload, 2174, 0, 0, 0), (2174, .aload_n 0, 2175, 0, 0, 0), (2175, .iload 5, 2177, 5, 0, 0)],
  [(2177, .iconst 2, 2178, 2, 0, 0), (2178, .iadd, 2179, 0, 0, 0), (2179, .iaload, 2180, 0, 0, 0), (2180, .invokevirtual 235, 2183, 182, 3, 0), (2183, .istore 7, 2185, 7, 0, 0), (2185, .aload_n 2, 2186, 2, 0, 0), (2186, .invokevirtual 149, 2189, 127, 1, 0), (2189, .iload 6, 2191, 6, 0, 0), (2191, .if_icmp .eq 5, 2194, 2196, 0, 0)],
  [(2194, .iconst 0, 2195, 0, 0, 0), (2195, .ireturn, 2196, 0, 0, 0), (2196, .iload 6, 2198, 6, 0, 0), (2198, .ifCond .ne 15, 2201, 2213, 0, 0), (2201, .aload_n 3, 2202, 3, 0, 0), (2202, .iconst 0, 2203, 0, 0, 0), (2203, .laload, 2204, 0, 0, 0), (2204, .iload 7, 2206, 7, 0, 0), (2206, .i2l, 2207, 0, 0, 0), (2207, .lcmp, 2208, 0, 0, 0)],
  [(2208, .ifCond .eq 5, 2211, 2213, 0, 0), (2211, .iconst 0, 2212, 0, 0, 0), (2212, .ireturn, 2213, 0, 0, 0), (2213, .goto 742, 2216, 2955, 0, 0), (2216, .aload_n 1, 2217, 1, 0, 0), (2217, .aload_n 0, 2218, 0, 0, 0), (2218, .iload 5, 2220, 5, 0, 0), (2220, .iconst 1, 2221, 1, 0, 0), (2221, .iadd, 2222, 0, 0, 0), (2222, .iaload, 2223, 0, 0, 0), (2223, .aload_n 3, 2224, 3, 0, 0)],
  [(2224, .invokestatic 236, 2227, 229, 3, 2), (2227, .istore 6, 2229, 6, 0, 0), (2229, .aload_n 2, 2230, 2, 0, 0), (2230, .aload_n 0, 2231, 0, 0, 0), (2231, .iload 5, 2233, 5, 0, 0), (2233, .iconst 1, 2234, 1, 0, 0), (2234, .iadd, 2235, 0, 0, 0), (2235, .iaload, 2236, 0, 0, 0), (2236, .invokevirtual 238, 2239, 183, 2, 0), (2239, .istore 7, 2241, 7, 0, 0)],
  [(2241, .aload_n 2, 2242, 2, 0, 0), (2242, .invokevirtual 149, 2245, 127, 1, 0), (2245, .iload 6, 2247, 6, 0, 0), (2247, .if_icmp .eq 5, 2250, 2252, 0, 0), (2250, .iconst 0, 2251, 0, 0, 0), (2251, .ireturn, 2252, 0, 0, 0), (2252, .iload 6, 2254, 6, 0, 0), (2254, .ifCond .ne 15, 2257, 2269, 0, 0)],
  [(2257, .aload_n 3, 2258, 3, 0, 0), (2258, .iconst 0, 2259, 0, 0, 0), (2259, .laload, 2260, 0, 0, 0), (2260, .iload 7, 2262, 7, 0, 0), (2262, .i2l, 2263, 0, 0, 0), (2263, .lcmp, 2264, 0, 0, 0), (2264, .ifCond .eq 5, 2267, 2269, 0, 0), (2267, .iconst 0, 2268, 0, 0, 0), (2268, .ireturn, 2269, 0, 0, 0), (2269, .goto 686, 2272, 2955, 0, 0)],
  [(2272, .aload_n 1, 2273, 1, 0, 0), (2273, .aload_n 0, 2274, 0, 0, 0), (2274, .iload 5, 2276, 5, 0, 0), (2276, .iconst 1, 2277, 1, 0, 0), (2277, .iadd, 2278, 0, 0, 0), (2278, .iaload, 2279, 0, 0, 0), (2279, .aload_n 3, 2280, 3, 0, 0), (2280, .invokestatic 239, 2283, 230, 3, 2), (2283, .istore 6, 2285, 6, 0, 0), (2285, .aload_n 2, 2286, 2, 0, 0), (2286, .aload_n 0, 2287, 0, 0, 0), (2287, .iload 5, 2289, 5, 0, 0)],
  [(2289, .iconst 1, 2290, 1, 0, 0), (2290, .iadd, 2291, 0, 0, 0), (2291, .iaload, 2292, 0, 0, 0), (2292, .invokevirtual 241, 2295, 186, 2, 0), (2295, .istore 7, 2297, 7, 0, 0), (2297, .aload_n 2, 2298, 2, 0, 0), (2298, .invokevirtual 149, 2301, 127, 1, 0), (2301, .iload 6, 2303, 6, 0, 0), (2303, .if_icmp .eq 5, 2306, 2308, 0, 0)],
  [(2306, .iconst 0, 2307, 0, 0, 0), (2307, .ireturn, 2308, 0, 0, 0), (2308, .iload 6, 2310, 6, 0, 0), (2310, .ifCond .ne 15, 2313, 2325, 0, 0), (2313, .aload_n 3, 2314, 3, 0, 0), (2314, .iconst 0, 2315, 0, 0, 0), (2315, .laload, 2316, 0, 0, 0), (2316, .iload 7, 2318, 7, 0, 0), (2318, .i2l, 2319, 0, 0, 0), (2319, .lcmp, 2320, 0, 0, 0)],
  [(2320, .ifCond .eq 5, 2323, 2325, 0, 0), (2323, .iconst 0, 2324, 0, 0, 0), (2324, .ireturn, 2325, 0, 0, 0), (2325, .goto 630, 2328, 2955, 0, 0), (2328, .aload_n 1, 2329, 1, 0, 0), (2329, .invokevirtual 242, 2332, 102, 1, 0), (2332, .aload_n 2, 2333, 2, 0, 0), (2333, .invokevirtual 245, 2336, 188, 1, 0)],
  [(2336, .if_icmp .eq 619, 2339, 2955, 0, 0), (2339, .iconst 0, 2340, 0, 0, 0), (2340, .ireturn, 2341, 0, 0, 0), (2341, .aload_n 1, 2342, 1, 0, 0), (2342, .invokevirtual 246, 2345, 103, 1, 0), (2345, .aload_n 2, 2346, 2, 0, 0), (2346, .invokevirtual 249, 2349, 189, 1, 0), (2349, .if_icmp .eq 606, 2352, 2955, 0, 0)],
  [(2352, .iconst 0, 2353, 0, 0, 0), (2353, .ireturn, 2354, 0, 0, 0), (2354, .aload_n 1, 2355, 1, 0, 0), (2355, .aload_n 0, 2356, 0, 0, 0), (2356, .iload 5, 2358, 5, 0, 0), (2358, .iconst 1, 2359, 1, 0, 0), (2359, .iadd, 2360, 0, 0, 0), (2360, .iaload, 2361, 0, 0, 0), (2361, .aload_n 3, 2362, 3, 0, 0), (2362, .invokestatic 250, 2365, 231, 3, 2), (2365, .istore 6, 2367, 6, 0, 0), (2367, .aload_n 2, 2368, 2, 0, 0)],
  [(2368, .aload_n 0, 2369, 0, 0, 0), (2369, .iload 5, 2371, 5, 0, 0), (2371, .iconst 1, 2372, 1, 0, 0), (2372, .iadd, 2373, 0, 0, 0), (2373, .iaload, 2374, 0, 0, 0), (2374, .invokevirtual 252, 2377, 190, 2, 0), (2377, .istore 7, 2379, 7, 0, 0), (2379, .aload_n 2, 2380, 2, 0, 0), (2380, .invokevirtual 149, 2383, 127, 1, 0), (2383, .iload 6, 2385, 6, 0, 0)],
  [(2385, .if_icmp .eq 5, 2388, 2390, 0, 0), (2388, .iconst 0, 2389, 0, 0, 0), (2389, .ireturn, 2390, 0, 0, 0), (2390, .iload 6, 2392, 6, 0, 0), (2392, .ifCond .ne 15, 2395, 2407, 0, 0), (2395, .aload_n 3, 2396, 3, 0, 0), (2396, .iconst 0, 2397, 0, 0, 0), (2397, .laload, 2398, 0, 0, 0), (2398, .iload 7, 2400, 7, 0, 0)],
  [(2400, .i2l, 2401, 0, 0, 0), (2401, .lcmp, 2402, 0, 0, 0), (2402, .ifCond .eq 5, 2405, 2407, 0, 0), (2405, .iconst 0, 2406, 0, 0, 0), (2406, .ireturn, 2407, 0, 0, 0), (2407, .goto 548, 2410, 2955, 0, 0), (2410, .aload_n 1, 2411, 1, 0, 0), (2411, .invokevirtual 253, 2414, 105, 1, 0), (2414, .aload_n 2, 2415, 2, 0, 0), (2415, .invokevirtual 257, 2418, 191, 1, 0)],
  [(2418, .if_icmp .eq 537, 2421, 2955, 0, 0), (2421, .iconst 0, 2422, 0, 0, 0), (2422, .ireturn, 2423, 0, 0, 0), (2423, .aload_n 1, 2424, 1, 0, 0), (2424, .aload_n 0, 2425, 0, 0, 0), (2425, .iload 5, 2427, 5, 0, 0), (2427, .iconst 1, 2428, 1, 0, 0), (2428, .iadd, 2429, 0, 0, 0), (2429, .iaload, 2430, 0, 0, 0), (2430, .aload_n 3, 2431, 3, 0, 0), (2431, .invokestatic 258, 2434, 232, 3, 2)],
  [(2434, .istore 6, 2436, 6, 0, 0), (2436, .aload_n 2, 2437, 2, 0, 0), (2437, .aload_n 0, 2438, 0, 0, 0), (2438, .iload 5, 2440, 5, 0, 0), (2440, .iconst 1, 2441, 1, 0, 0), (2441, .iadd, 2442, 0, 0, 0), (2442, .iaload, 2443, 0, 0, 0), (2443, .invokevirtual 260, 2446, 192, 2, 0), (2446, .istore 7, 2448, 7, 0, 0)],
  [(2448, .aload_n 2, 2449, 2, 0, 0), (2449, .invokevirtual 149, 2452, 127, 1, 0), (2452, .iload 6, 2454, 6, 0, 0), (2454, .if_icmp .eq 5, 2457, 2459, 0, 0), (2457, .iconst 0, 2458, 0, 0, 0), (2458, .ireturn, 2459, 0, 0, 0), (2459, .iload 6, 2461, 6, 0, 0), (2461, .ifCond .ne 22, 2464, 2483, 0, 0)],
  [(2464, .aload_n 3, 2465, 3, 0, 0), (2465, .iconst 0, 2466, 0, 0, 0), (2466, .laload, 2467, 0, 0, 0), (2467, .iload 7, 2469, 7, 0, 0), (2469, .ifCond .eq 7, 2472, 2476, 0, 0), (2472, .lconst 1, 2473, 1, 0, 0), (2473, .goto 4, 2476, 2477, 0, 0), (2476, .lconst 0, 2477, 0, 0, 0), (2477, .lcmp, 2478, 0, 0, 0), (2478, .ifCond .eq 5, 2481, 2483, 0, 0)],
  [(2481, .iconst 0, 2482, 0, 0, 0), (2482, .ireturn, 2483, 0, 0, 0), (2483, .goto 472, 2486, 2955, 0, 0), (2486, .aload_n 1, 2487, 1, 0, 0), (2487, .aload_n 0, 2488, 0, 0, 0), (2488, .iload 5, 2490, 5, 0, 0), (2490, .iconst 1, 2491, 1, 0, 0), (2491, .iadd, 2492, 0, 0, 0), (2492, .iaload, 2493, 0, 0, 0), (2493, .aload 4, 2495, 4, 0, 0), (2495, .invokestatic 261, 2498, 233, 3, 2)],
  [(2498, .istore 6, 2500, 6, 0, 0), (2500, .aload_n 2, 2501, 2, 0, 0), (2501, .aload_n 0, 2502, 0, 0, 0), (2502, .iload 5, 2504, 5, 0, 0), (2504, .iconst 1, 2505, 1, 0, 0), (2505, .iadd, 2506, 0, 0, 0), (2506, .iaload, 2507, 0, 0, 0), (2507, .invokevirtual 264, 2510, 193, 2, 0), (2510, .dstore 7, 2512, 7, 0, 0)],
  [(2512, .aload_n 2, 2513, 2, 0, 0), (2513, .invokevirtual 149, 2516, 127, 1, 0), (2516, .iload 6, 2518, 6, 0, 0), (2518, .if_icmp .eq 5, 2521, 2523, 0, 0), (2521, .iconst 0, 2522, 0, 0, 0), (2522, .ireturn, 2523, 0, 0, 0), (2523, .iload 6, 2525, 6, 0, 0), (2525, .ifCond .ne 35, 2528, 2560, 0, 0)],
  [(2528, .aload 4, 2530, 4, 0, 0), (2530, .iconst 0, 2531, 0, 0, 0), (2531, .daload, 2532, 0, 0, 0), (2532, .dload 7, 2534, 7, 0, 0), (2534, .dcmp .l, 2535, 0, 0, 0), (2535, .ifCond .eq 25, 2538, 2560, 0, 0), (2538, .aload 4, 2540, 4, 0, 0), (2540, .iconst 0, 2541, 0, 0, 0), (2541, .daload, 2542, 0, 0, 0), (2542, .aload 4, 2544, 4, 0, 0)],
  [(2544, .iconst 0, 2545, 0, 0, 0), (2545, .daload, 2546, 0, 0, 0), (2546, .dcmp .l, 2547, 0, 0, 0), (2547, .ifCond .eq 11, 2550, 2558, 0, 0), (2550, .dload 7, 2552, 7, 0, 0), (2552, .dload 7, 2554, 7, 0, 0), (2554, .dcmp .l, 2555, 0, 0, 0), (2555, .ifCond .ne 5, 2558, 2560, 0, 0), (2558, .iconst 0, 2559, 0, 0, 0), (2559, .ireturn, 2560, 0, 0, 0)],
  [(2560, .goto 395, 2563, 2955, 0, 0), (2563, .aload_n 1, 2564, 1, 0, 0), (2564, .aload_n 0, 2565, 0, 0, 0), (2565, .iload 5, 2567, 5, 0, 0), (2567, .iconst 1, 2568, 1, 0, 0), (2568, .iadd, 2569, 0, 0, 0), (2569, .iaload, 2570, 0, 0, 0), (2570, .aload 4, 2572, 4, 0, 0), (2572, .invokestatic 265, 2575, 234, 3, 2), (2575, .istore 6, 2577, 6, 0, 0)],
  [(2577, .aload_n 2, 2578, 2, 0, 0), (2578, .aload_n 0, 2579, 0, 0, 0), (2579, .iload 5, 2581, 5, 0, 0), (2581, .iconst 1, 2582, 1, 0, 0), (2582, .iadd, 2583, 0, 0, 0), (2583, .iaload, 2584, 0, 0, 0), (2584, .invokevirtual 267, 2587, 194, 2, 0), (2587, .fstore 7, 2589, 7, 0, 0), (2589, .aload_n 2, 2590, 2, 0, 0), (2590, .invokevirtual 149, 2593, 127, 1, 0)],
  [(2593, .iload 6, 2595, 6, 0, 0), (2595, .if_icmp .eq 5, 2598, 2600, 0, 0), (2598, .iconst 0, 2599, 0, 0, 0), (2599, .ireturn, 2600, 0, 0, 0), (2600, .iload 6, 2602, 6, 0, 0), (2602, .ifCond .ne 36, 2605, 2638, 0, 0), (2605, .aload 4, 2607, 4, 0, 0), (2607, .iconst 0, 2608, 0, 0, 0)],
  [(2608, .daload, 2609, 0, 0, 0), (2609, .fload 7, 2611, 7, 0, 0), (2611, .f2d, 2612, 0, 0, 0), (2612, .dcmp .l, 2613, 0, 0, 0), (2613, .ifCond .eq 25, 2616, 2638, 0, 0), (2616, .aload 4, 2618, 4, 0, 0), (2618, .iconst 0, 2619, 0, 0, 0), (2619, .daload, 2620, 0, 0, 0), (2620, .aload 4, 2622, 4, 0, 0), (2622, .iconst 0, 2623, 0, 0, 0), (2623, .daload, 2624, 0, 0, 0)],
  [(2624, .dcmp .l, 2625, 0, 0, 0), (2625, .ifCond .eq 11, 2628, 2636, 0, 0), (2628, .fload 7, 2630, 7, 0, 0), (2630, .fload 7, 2632, 7, 0, 0), (2632, .fcmp .l, 2633, 0, 0, 0), (2633, .ifCond .ne 5, 2636, 2638, 0, 0), (2636, .iconst 0, 2637, 0, 0, 0), (2637, .ireturn, 2638, 0, 0, 0), (2638, .goto 317, 2641, 2955, 0, 0)],
  [(2641, .aload_n 1, 2642, 1, 0, 0), (2642, .invokevirtual 268, 2645, 109, 1, 0), (2645, .aload_n 2, 2646, 2, 0, 0), (2646, .invokevirtual 272, 2649, 195, 1, 0), (2649, .lcmp, 2650, 0, 0, 0), (2650, .ifCond .eq 305, 2653, 2955, 0, 0), (2653, .iconst 0, 2654, 0, 0, 0), (2654, .ireturn, 2655, 0, 0, 0), (2655, .aload_n 1, 2656, 1, 0, 0)],
  [(2656, .aload_n 0, 2657, 0, 0, 0), (2657, .iload 5, 2659, 5, 0, 0), (2659, .iconst 1, 2660, 1, 0, 0), (2660, .iadd, 2661, 0, 0, 0), (2661, .iaload, 2662, 0, 0, 0), (2662, .aload_n 3, 2663, 3, 0, 0), (2663, .invokestatic 273, 2666, 235, 3, 2), (2666, .istore 6, 2668, 6, 0, 0), (2668, .aload_n 2, 2669, 2, 0, 0), (2669, .aload_n 0, 2670, 0, 0, 0), (2670, .iload 5, 2672, 5, 0, 0)],
  [(2672, .iconst 1, 2673, 1, 0, 0), (2673, .iadd, 2674, 0, 0, 0), (2674, .iaload, 2675, 0, 0, 0), (2675, .invokevirtual 275, 2678, 196, 2, 0), (2678, .istore 7, 2680, 7, 0, 0), (2680, .aload_n 2, 2681, 2, 0, 0), (2681, .invokevirtual 149, 2684, 127, 1, 0), (2684, .iload 6, 2686, 6, 0, 0), (2686, .if_icmp .eq 5, 2689, 2691, 0, 0)],
  [(2689, .iconst 0, 2690, 0, 0, 0), (2690, .ireturn, 2691, 0, 0, 0), (2691, .iload 6, 2693, 6, 0, 0), (2693, .ifCond .ne 22, 2696, 2715, 0, 0), (2696, .aload_n 3, 2697, 3, 0, 0), (2697, .iconst 0, 2698, 0, 0, 0), (2698, .laload, 2699, 0, 0, 0), (2699, .iload 7, 2701, 7, 0, 0), (2701, .ifCond .eq 7, 2704, 2708, 0, 0)],
  [(2704, .lconst 1, 2705, 1, 0, 0), (2705, .goto 4, 2708, 2709, 0, 0), (2708, .lconst 0, 2709, 0, 0, 0), (2709, .lcmp, 2710, 0, 0, 0), (2710, .ifCond .eq 5, 2713, 2715, 0, 0), (2713, .iconst 0, 2714, 0, 0, 0), (2714, .ireturn, 2715, 0, 0, 0), (2715, .goto 240, 2718, 2955, 0, 0), (2718, .aload_n 1, 2719, 1, 0, 0), (2719, .aload_n 0, 2720, 0, 0, 0)],
  [(2720, .iload 5, 2722, 5, 0, 0), (2722, .iconst 1, 2723, 1, 0, 0), (2723, .iadd, 2724, 0, 0, 0), (2724, .iaload, 2725, 0, 0, 0), (2725, .aload_n 0, 2726, 0, 0, 0), (2726, .iload 5, 2728, 5, 0, 0), (2728, .iconst 2, 2729, 2, 0, 0), (2729, .iadd, 2730, 0, 0, 0), (2730, .iaload, 2731, 0, 0, 0), (2731, .aload_n 0, 2732, 0, 0, 0), (2732, .iload 5, 2734, 5, 0, 0), (2734, .iconst 3, 2735, 3, 0, 0), (2735, .iadd, 2736, 0, 0, 0)],
  [(2736, .iaload, 2737, 0, 0, 0), (2737, .aload_n 3, 2738, 3, 0, 0), (2738, .invokestatic 276, 2741, 236, 5, 2), (2741, .istore 6, 2743, 6, 0, 0), (2743, .aload_n 2, 2744, 2, 0, 0), (2744, .aload_n 0, 2745, 0, 0, 0), (2745, .iload 5, 2747, 5, 0, 0), (2747, .iconst 1, 2748, 1, 0, 0), (2748, .iadd, 2749, 0, 0, 0), (2749, .iaload, 2750, 0, 0, 0), (2750, .aload_n 0, 2751, 0, 0, 0), (2751, .iload 5, 2753, 5, 0, 0)],
  [(2753, .iconst 2, 2754, 2, 0, 0), (2754, .iadd, 2755, 0, 0, 0), (2755, .iaload, 2756, 0, 0, 0), (2756, .aload_n 0, 2757, 0, 0, 0), (2757, .iload 5, 2759, 5, 0, 0), (2759, .iconst 3, 2760, 3, 0, 0), (2760, .iadd, 2761, 0, 0, 0), (2761, .iaload, 2762, 0, 0, 0), (2762, .invokevirtual 278, 2765, 197, 4, 0), (2765, .istore 7, 2767, 7, 0, 0), (2767, .aload_n 2, 2768, 2, 0, 0)],
  [(2768, .invokevirtual 149, 2771, 127, 1, 0), (2771, .iload 6, 2773, 6, 0, 0), (2773, .if_icmp .eq 5, 2776, 2778, 0, 0), (2776, .iconst 0, 2777, 0, 0, 0), (2777, .ireturn, 2778, 0, 0, 0), (2778, .iload 6, 2780, 6, 0, 0), (2780, .ifCond .ne 22, 2783, 2802, 0, 0), (2783, .aload_n 3, 2784, 3, 0, 0)],
  [(2784, .iconst 0, 2785, 0, 0, 0), (2785, .laload, 2786, 0, 0, 0), (2786, .iload 7, 2788, 7, 0, 0), (2788, .ifCond .eq 7, 2791, 2795, 0, 0), (2791, .lconst 1, 2792, 1, 0, 0), (2792, .goto 4, 2795, 2796, 0, 0), (2795, .lconst 0, 2796, 0, 0, 0), (2796, .lcmp, 2797, 0, 0, 0), (2797, .ifCond .eq 5, 2800, 2802, 0, 0)],
  [(2800, .iconst 0, 2801, 0, 0, 0), (2801, .ireturn, 2802, 0, 0, 0), (2802, .goto 153, 2805, 2955, 0, 0), (2805, .aload_n 1, 2806, 1, 0, 0), (2806, .aload_n 0, 2807, 0, 0, 0), (2807, .iload 5, 2809, 5, 0, 0), (2809, .iconst 1, 2810, 1, 0, 0), (2810, .iadd, 2811, 0, 0, 0), (2811, .iaload, 2812, 0, 0, 0), (2812, .aload_n 0, 2813, 0, 0, 0), (2813, .iload 5, 2815, 5, 0, 0), (2815, .iconst 2, 2816, 2, 0, 0)],
  [(2816, .iadd, 2817, 0, 0, 0), (2817, .iaload, 2818, 0, 0, 0), (2818, .aload_n 3, 2819, 3, 0, 0), (2819, .invokestatic 279, 2822, 237, 4, 2), (2822, .istore 6, 2824, 6, 0, 0), (2824, .aload_n 2, 2825, 2, 0, 0), (2825, .aload_n 0, 2826, 0, 0, 0), (2826, .iload 5, 2828, 5, 0, 0), (2828, .iconst 1, 2829, 1, 0, 0), (2829, .iadd, 2830, 0, 0, 0), (2830, .iaload, 2831, 0, 0, 0), (2831, .aload_n 0, 2832, 0, 0, 0)],
  [(2832, .iload 5, 2834, 5, 0, 0), (2834, .iconst 2, 2835, 2, 0, 0), (2835, .iadd, 2836, 0, 0, 0), (2836, .iaload, 2837, 0, 0, 0), (2837, .invokevirtual 281, 2840, 198, 3, 0), (2840, .istore 7, 2842, 7, 0, 0), (2842, .aload_n 2, 2843, 2, 0, 0), (2843, .invokevirtual 149, 2846, 127, 1, 0), (2846, .iload 6, 2848, 6, 0, 0)],
  [(2848, .if_icmp .eq 5, 2851, 2853, 0, 0), (2851, .iconst 0, 2852, 0, 0, 0), (2852, .ireturn, 2853, 0, 0, 0), (2853, .iload 6, 2855, 6, 0, 0), (2855, .ifCond .ne 22, 2858, 2877, 0, 0), (2858, .aload_n 3, 2859, 3, 0, 0), (2859, .iconst 0, 2860, 0, 0, 0), (2860, .laload, 2861, 0, 0, 0), (2861, .iload 7, 2863, 7, 0, 0), (2863, .ifCond .eq 7, 2866, 2870, 0, 0)],
  [(2866, .lconst 1, 2867, 1, 0, 0), (2867, .goto 4, 2870, 2871, 0, 0), (2870, .lconst 0, 2871, 0, 0, 0), (2871, .lcmp, 2872, 0, 0, 0), (2872, .ifCond .eq 5, 2875, 2877, 0, 0), (2875, .iconst 0, 2876, 0, 0, 0), (2876, .ireturn, 2877, 0, 0, 0), (2877, .goto 78, 2880, 2955, 0, 0)],
  [(2880, .aload_n 1, 2881, 1, 0, 0), (2881, .aload_n 0, 2882, 0, 0, 0), (2882, .iload 5, 2884, 5, 0, 0), (2884, .iconst 1, 2885, 1, 0, 0), (2885, .iadd, 2886, 0, 0, 0), (2886, .iaload, 2887, 0, 0, 0), (2887, .aload_n 0, 2888, 0, 0, 0), (2888, .iload 5, 2890, 5, 0, 0), (2890, .iconst 2, 2891, 2, 0, 0), (2891, .iadd, 2892, 0, 0, 0), (2892, .iaload, 2893, 0, 0, 0), (2893, .aload_n 3, 2894, 3, 0, 0), (2894, .invokestatic 282, 2897, 238, 4, 2)],
  [(2897, .istore 6, 2899, 6, 0, 0), (2899, .aload_n 2, 2900, 2, 0, 0), (2900, .aload_n 0, 2901, 0, 0, 0), (2901, .iload 5, 2903, 5, 0, 0), (2903, .iconst 1, 2904, 1, 0, 0), (2904, .iadd, 2905, 0, 0, 0), (2905, .iaload, 2906, 0, 0, 0), (2906, .aload_n 0, 2907, 0, 0, 0), (2907, .iload 5, 2909, 5, 0, 0), (2909, .iconst 2, 2910, 2, 0, 0), (2910, .iadd, 2911, 0, 0, 0), (2911, .iaload, 2912, 0, 0, 0)],
  [(2912, .invokevirtual 284, 2915, 199, 3, 0), (2915, .istore 7, 2917, 7, 0, 0), (2917, .aload_n 2, 2918, 2, 0, 0), (2918, .invokevirtual 149, 2921, 127, 1, 0), (2921, .iload 6, 2923, 6, 0, 0), (2923, .if_icmp .eq 5, 2926, 2928, 0, 0), (2926, .iconst 0, 2927, 0, 0, 0), (2927, .ireturn, 2928, 0, 0, 0)],
  [(2928, .iload 6, 2930, 6, 0, 0), (2930, .ifCond .ne 22, 2933, 2952, 0, 0), (2933, .aload_n 3, 2934, 3, 0, 0), (2934, .iconst 0, 2935, 0, 0, 0), (2935, .laload, 2936, 0, 0, 0), (2936, .iload 7, 2938, 7, 0, 0), (2938, .ifCond .eq 7, 2941, 2945, 0, 0), (2941, .lconst 1, 2942, 1, 0, 0), (2942, .goto 4, 2945, 2946, 0, 0)],
  [(2945, .lconst 0, 2946, 0, 0, 0), (2946, .lcmp, 2947, 0, 0, 0), (2947, .ifCond .eq 5, 2950, 2952, 0, 0), (2950, .iconst 0, 2951, 0, 0, 0), (2951, .ireturn, 2952, 0, 0, 0), (2952, .goto 3, 2955, 2955, 0, 0), (2955, .iinc 5 5, 2958, 5, 5, 0), (2958, .goto (-2930), 2961, 28, 0, 0)],
  [(2961, .iconst 1, 2962, 1, 0, 0), (2962, .ireturn, 2963, 0, 0, 0)]])
noncomputable def M_none : eM := (⟨"", "", ""⟩, ⟨#[]⟩, 0, none, [], (0, 0), 9, [])
noncomputable def MT (m : Nat) : eM := (((([[MX0_init, MX0_numberSlots, MX0_bitsOfBorder, MX0_makeBorder, MX0_toggleBorder, MX0_countFree, MX0_keepsIfFree, MX0_isSumOfKept, MX0_countHoles, MX0_holesBetween, MX0_isFilling, MX1_init, MX1_holds, MX1_add, MX1_remove, MX1_toggle],
  [MX1_addParts, MX1_removeWithAllOver, MX1_empty, MX1_become, MX1_becomeUnion, MX1_becomeMeeting, MX1_isEmpty, MX1_isLike, MX1_holdsAll, MX1_count, MX1_countBeyond, MX1_countAt, MX1_signedCount, MX1_heightSum, MX1_cornerSet, MX1_faceAt],
  [MX1_countOver, MX1_firstOver, MX2_init, MX2_tell, MX2_at, MX2_areNone, MX2_signedSum, MX2_differAt, MX2_areLike, MX3_makeLow, MX3_makeAbout, MX3_makeCone, MX3_makeLift, MX3_addJoined, MX3_makeOther, MX3_makeExchanged],
  [MX3_exchanged, MX3_makeGreatest, MX3_liesInAnother, MX4_init, MX4_tellsRow, MX4_tellsFilling, MX4_tellsPieces, MX4_tellsSignedCount, MX4_tellsCone, MX4_tellsAbout, MX4_isOneWithoutHoles, MX4_tellsLift, MX4_tellsTouching, MX4_tellsFold, MX4_tellsTaking, MX4_tellsSums],
  [MX4_tellsOther, MX4_isRim, MX4_areOpposed, MX4_tellsExchange, MX5_countPieces, MX5_pieceFrom, MX5_neighbours, MX5_areEven, MX6_init, MX6_put, MX6_take, MX6_clear, MX6_copy, MX6_unite, MX6_meet, MX6_full],
  [MX6_low, MX6_about, MX6_cone, MX6_lift, MX6_other, MX6_exchange, MX6_fold, MX6_has, MX6_size, MX6_faces, MX6_corners, MX6_over, MX6_greatest, MX6_greatestAt, MX6_isSame, MX6_contains],
  [MX6_pieces, MX6_areJoined, MX6_free, MX6_holes, MX6_signed, MX6_flip, MX6_border, MX6_drop, MX6_rowAt, MX6_isRound, MX6_fills, MX6_mean, MX6_share, MX6_checksum, MX6_isSound, MX6_isTrue],
  [MX6_faceIsTrue, MX6_pairIsTrue, MX6_shapeAt, MX6_giveMade, MX6_emptied, MX6_checkFace, MX6_checkCorner, MX6_checkHeight, MX6_checkHeld, MX6_checkNew, MX6_checkedFaceAt, MX6_checksumOn, MX6_heightOf, MX6_leastCorner, MX7_init, MX7_thrown],
  [MX7_isWrong, MX7_isIn, MX7_isPlace, MX7_isFace, MX7_isCorner, MX7_isHeight, MX7_isThere, MX7_cornersOf, MX7_height, MX7_isPart, MX7_sizeOf, MX7_cornersAt, MX7_overAt, MX7_isGreatest, MX7_keep, MX7_missing],
  [MX7_put, MX7_takeOut, MX7_take, MX7_clear, MX7_copy, MX7_unite, MX7_meet, MX7_full, MX7_low, MX7_about, MX7_cone, MX7_isLifted, MX7_lift, MX7_other, MX7_exchanged, MX7_exchange],
  [MX7_fold, MX7_has, MX7_size, MX7_facesOf, MX7_faces, MX7_corners, MX7_over, MX7_greatestOf, MX7_greatest, MX7_greatestAt, MX7_isOf, MX7_isSame, MX7_contains, MX7_walk, MX7_join, MX7_pieces],
  [MX7_areJoined, MX7_bit, MX7_borderBits, MX7_left, MX7_rank, MX7_free, MX7_holes, MX7_signed, MX7_rowMany, MX7_rowHeight, MX7_flip, MX7_findBorder, MX7_border, MX7_drop, MX7_rowAt, MX7_isRound],
  [MX7_fills, MX7_mean, MX7_share, MX7_checksum, MX7_isSound, MX7_isTrue, MX7_faceIsTrue, MX7_pairIsTrue, MJ6_bitCount_0f7a4, MJ13_bitCount_95d88, ML_put, ML_take, ML_clear, ML_copy, ML_unite, ML_meet],
  [ML_full, ML_low, ML_about, ML_cone, ML_lift, ML_other, ML_exchange, ML_fold, ML_has, ML_size, ML_faces, ML_corners, ML_over, ML_greatest, ML_greatestAt, ML_isSame],
  [ML_contains, ML_pieces, ML_areJoined, ML_free, ML_holes, ML_signed, ML_flip, ML_rowAt, ML_fills, ML_mean, ML_share, ML_isSound, ML_isTrue, ML_faceIsTrue, ML_pairIsTrue]] : List (List eM))[m / 16]?).getD [])[m % 16]?).getD M_none
abbrev nX0_init : Nat := 0
abbrev nX0_numberSlots : Nat := 1
abbrev nX0_bitsOfBorder : Nat := 2
abbrev nX0_makeBorder : Nat := 3
abbrev nX0_toggleBorder : Nat := 4
abbrev nX0_countFree : Nat := 5
abbrev nX0_keepsIfFree : Nat := 6
abbrev nX0_isSumOfKept : Nat := 7
abbrev nX0_countHoles : Nat := 8
abbrev nX0_holesBetween : Nat := 9
abbrev nX0_isFilling : Nat := 10
abbrev nX1_init : Nat := 11
abbrev nX1_holds : Nat := 12
abbrev nX1_add : Nat := 13
abbrev nX1_remove : Nat := 14
abbrev nX1_toggle : Nat := 15
abbrev nX1_addParts : Nat := 16
abbrev nX1_removeWithAllOver : Nat := 17
abbrev nX1_empty : Nat := 18
abbrev nX1_become : Nat := 19
abbrev nX1_becomeUnion : Nat := 20
abbrev nX1_becomeMeeting : Nat := 21
abbrev nX1_isEmpty : Nat := 22
abbrev nX1_isLike : Nat := 23
abbrev nX1_holdsAll : Nat := 24
abbrev nX1_count : Nat := 25
abbrev nX1_countBeyond : Nat := 26
abbrev nX1_countAt : Nat := 27
abbrev nX1_signedCount : Nat := 28
abbrev nX1_heightSum : Nat := 29
abbrev nX1_cornerSet : Nat := 30
abbrev nX1_faceAt : Nat := 31
abbrev nX1_countOver : Nat := 32
abbrev nX1_firstOver : Nat := 33
abbrev nX2_init : Nat := 34
abbrev nX2_tell : Nat := 35
abbrev nX2_at : Nat := 36
abbrev nX2_areNone : Nat := 37
abbrev nX2_signedSum : Nat := 38
abbrev nX2_differAt : Nat := 39
abbrev nX2_areLike : Nat := 40
abbrev nX3_makeLow : Nat := 41
abbrev nX3_makeAbout : Nat := 42
abbrev nX3_makeCone : Nat := 43
abbrev nX3_makeLift : Nat := 44
abbrev nX3_addJoined : Nat := 45
abbrev nX3_makeOther : Nat := 46
abbrev nX3_makeExchanged : Nat := 47
abbrev nX3_exchanged : Nat := 48
abbrev nX3_makeGreatest : Nat := 49
abbrev nX3_liesInAnother : Nat := 50
abbrev nX4_init : Nat := 51
abbrev nX4_tellsRow : Nat := 52
abbrev nX4_tellsFilling : Nat := 53
abbrev nX4_tellsPieces : Nat := 54
abbrev nX4_tellsSignedCount : Nat := 55
abbrev nX4_tellsCone : Nat := 56
abbrev nX4_tellsAbout : Nat := 57
abbrev nX4_isOneWithoutHoles : Nat := 58
abbrev nX4_tellsLift : Nat := 59
abbrev nX4_tellsTouching : Nat := 60
abbrev nX4_tellsFold : Nat := 61
abbrev nX4_tellsTaking : Nat := 62
abbrev nX4_tellsSums : Nat := 63
abbrev nX4_tellsOther : Nat := 64
abbrev nX4_isRim : Nat := 65
abbrev nX4_areOpposed : Nat := 66
abbrev nX4_tellsExchange : Nat := 67
abbrev nX5_countPieces : Nat := 68
abbrev nX5_pieceFrom : Nat := 69
abbrev nX5_neighbours : Nat := 70
abbrev nX5_areEven : Nat := 71
abbrev nX6_init : Nat := 72
abbrev nX6_put : Nat := 73
abbrev nX6_take : Nat := 74
abbrev nX6_clear : Nat := 75
abbrev nX6_copy : Nat := 76
abbrev nX6_unite : Nat := 77
abbrev nX6_meet : Nat := 78
abbrev nX6_full : Nat := 79
abbrev nX6_low : Nat := 80
abbrev nX6_about : Nat := 81
abbrev nX6_cone : Nat := 82
abbrev nX6_lift : Nat := 83
abbrev nX6_other : Nat := 84
abbrev nX6_exchange : Nat := 85
abbrev nX6_fold : Nat := 86
abbrev nX6_has : Nat := 87
abbrev nX6_size : Nat := 88
abbrev nX6_faces : Nat := 89
abbrev nX6_corners : Nat := 90
abbrev nX6_over : Nat := 91
abbrev nX6_greatest : Nat := 92
abbrev nX6_greatestAt : Nat := 93
abbrev nX6_isSame : Nat := 94
abbrev nX6_contains : Nat := 95
abbrev nX6_pieces : Nat := 96
abbrev nX6_areJoined : Nat := 97
abbrev nX6_free : Nat := 98
abbrev nX6_holes : Nat := 99
abbrev nX6_signed : Nat := 100
abbrev nX6_flip : Nat := 101
abbrev nX6_border : Nat := 102
abbrev nX6_drop : Nat := 103
abbrev nX6_rowAt : Nat := 104
abbrev nX6_isRound : Nat := 105
abbrev nX6_fills : Nat := 106
abbrev nX6_mean : Nat := 107
abbrev nX6_share : Nat := 108
abbrev nX6_checksum : Nat := 109
abbrev nX6_isSound : Nat := 110
abbrev nX6_isTrue : Nat := 111
abbrev nX6_faceIsTrue : Nat := 112
abbrev nX6_pairIsTrue : Nat := 113
abbrev nX6_shapeAt : Nat := 114
abbrev nX6_giveMade : Nat := 115
abbrev nX6_emptied : Nat := 116
abbrev nX6_checkFace : Nat := 117
abbrev nX6_checkCorner : Nat := 118
abbrev nX6_checkHeight : Nat := 119
abbrev nX6_checkHeld : Nat := 120
abbrev nX6_checkNew : Nat := 121
abbrev nX6_checkedFaceAt : Nat := 122
abbrev nX6_checksumOn : Nat := 123
abbrev nX6_heightOf : Nat := 124
abbrev nX6_leastCorner : Nat := 125
abbrev nX7_init : Nat := 126
abbrev nX7_thrown : Nat := 127
abbrev nX7_isWrong : Nat := 128
abbrev nX7_isIn : Nat := 129
abbrev nX7_isPlace : Nat := 130
abbrev nX7_isFace : Nat := 131
abbrev nX7_isCorner : Nat := 132
abbrev nX7_isHeight : Nat := 133
abbrev nX7_isThere : Nat := 134
abbrev nX7_cornersOf : Nat := 135
abbrev nX7_height : Nat := 136
abbrev nX7_isPart : Nat := 137
abbrev nX7_sizeOf : Nat := 138
abbrev nX7_cornersAt : Nat := 139
abbrev nX7_overAt : Nat := 140
abbrev nX7_isGreatest : Nat := 141
abbrev nX7_keep : Nat := 142
abbrev nX7_missing : Nat := 143
abbrev nX7_put : Nat := 144
abbrev nX7_takeOut : Nat := 145
abbrev nX7_take : Nat := 146
abbrev nX7_clear : Nat := 147
abbrev nX7_copy : Nat := 148
abbrev nX7_unite : Nat := 149
abbrev nX7_meet : Nat := 150
abbrev nX7_full : Nat := 151
abbrev nX7_low : Nat := 152
abbrev nX7_about : Nat := 153
abbrev nX7_cone : Nat := 154
abbrev nX7_isLifted : Nat := 155
abbrev nX7_lift : Nat := 156
abbrev nX7_other : Nat := 157
abbrev nX7_exchanged : Nat := 158
abbrev nX7_exchange : Nat := 159
abbrev nX7_fold : Nat := 160
abbrev nX7_has : Nat := 161
abbrev nX7_size : Nat := 162
abbrev nX7_facesOf : Nat := 163
abbrev nX7_faces : Nat := 164
abbrev nX7_corners : Nat := 165
abbrev nX7_over : Nat := 166
abbrev nX7_greatestOf : Nat := 167
abbrev nX7_greatest : Nat := 168
abbrev nX7_greatestAt : Nat := 169
abbrev nX7_isOf : Nat := 170
abbrev nX7_isSame : Nat := 171
abbrev nX7_contains : Nat := 172
abbrev nX7_walk : Nat := 173
abbrev nX7_join : Nat := 174
abbrev nX7_pieces : Nat := 175
abbrev nX7_areJoined : Nat := 176
abbrev nX7_bit : Nat := 177
abbrev nX7_borderBits : Nat := 178
abbrev nX7_left : Nat := 179
abbrev nX7_rank : Nat := 180
abbrev nX7_free : Nat := 181
abbrev nX7_holes : Nat := 182
abbrev nX7_signed : Nat := 183
abbrev nX7_rowMany : Nat := 184
abbrev nX7_rowHeight : Nat := 185
abbrev nX7_flip : Nat := 186
abbrev nX7_findBorder : Nat := 187
abbrev nX7_border : Nat := 188
abbrev nX7_drop : Nat := 189
abbrev nX7_rowAt : Nat := 190
abbrev nX7_isRound : Nat := 191
abbrev nX7_fills : Nat := 192
abbrev nX7_mean : Nat := 193
abbrev nX7_share : Nat := 194
abbrev nX7_checksum : Nat := 195
abbrev nX7_isSound : Nat := 196
abbrev nX7_isTrue : Nat := 197
abbrev nX7_faceIsTrue : Nat := 198
abbrev nX7_pairIsTrue : Nat := 199
abbrev nJ6_bitCount_0f7a4 : Nat := 200
abbrev nJ13_bitCount_95d88 : Nat := 201
abbrev nL_put : Nat := 202
abbrev nL_take : Nat := 203
abbrev nL_clear : Nat := 204
abbrev nL_copy : Nat := 205
abbrev nL_unite : Nat := 206
abbrev nL_meet : Nat := 207
abbrev nL_full : Nat := 208
abbrev nL_low : Nat := 209
abbrev nL_about : Nat := 210
abbrev nL_cone : Nat := 211
abbrev nL_lift : Nat := 212
abbrev nL_other : Nat := 213
abbrev nL_exchange : Nat := 214
abbrev nL_fold : Nat := 215
abbrev nL_has : Nat := 216
abbrev nL_size : Nat := 217
abbrev nL_faces : Nat := 218
abbrev nL_corners : Nat := 219
abbrev nL_over : Nat := 220
abbrev nL_greatest : Nat := 221
abbrev nL_greatestAt : Nat := 222
abbrev nL_isSame : Nat := 223
abbrev nL_contains : Nat := 224
abbrev nL_pieces : Nat := 225
abbrev nL_areJoined : Nat := 226
abbrev nL_free : Nat := 227
abbrev nL_holes : Nat := 228
abbrev nL_signed : Nat := 229
abbrev nL_flip : Nat := 230
abbrev nL_rowAt : Nat := 231
abbrev nL_fills : Nat := 232
abbrev nL_mean : Nat := 233
abbrev nL_share : Nat := 234
abbrev nL_isSound : Nat := 235
abbrev nL_isTrue : Nat := 236
abbrev nL_faceIsTrue : Nat := 237
abbrev nL_pairIsTrue : Nat := 238
abbrev nL_law : Nat := 239
end Tab
end
section
/-! THE ENGINE: steps, walks, calls -/
def eStep (S : Nat × (Nat → Int32)) (T : Nat → eM) (C : eC) (M : eM) (d : Nat) (Q : eQ) (K : eK) (pc : Nat) (ls : eL) (st : List Value) (h : eH) (kc ks : Nat) : Prop := match eAt (mPr M) pc with
  | some (i, n, a, b, c) => okI S T C M d Q i n a b c pc ls st h kc ks K
  | none => False
/-- the walk from a place ends well -/
def eOk (S : Nat × (Nat → Int32)) (T : Nat → eM) (C : eC) (M : eM) (d : Nat) (Q : eQ) (pc : Nat) (ls : eL) (st : List Value) (h : eH) (kc ks : Nat) : Prop :=
  ∀ K : eK, (∀ (pc : Nat) (ls : eL) (st : List Value) (h : eH) (kc ks : Nat), eStep S T C M d Q K pc ls st h kc ks → K pc ls st h kc ks) →
    (∀ (pc : Nat) (ls ls' : eL) (st : List Value) (h : eH) (kc ks : Nat), (∀ q ∈ ls', q ∈ ls) → K pc ls' st h kc ks → K pc ls st h kc ks) → K pc ls st h kc ks
/-- a call, at most d deep -/
def okCall (S : Nat × (Nat → Int32)) (T : Nat → eM) : Nat → eC
  | 0 => fun _ _ _ _ => False
  | d + 1 => fun m as h Q => Nat.ble (eCat as) (mLo (T m)) = true ∧ eOk S T (okCall S T d) (T m) (d + 1) Q 0 (lv_args 0 as) [] h 0 0
end
section
/-! RULES for the walks -/
section Rul
variable {S : Nat × (Nat → Int32)} {T : Nat → eM} {C : eC} {M : eM} {d : Nat} {Q : eQ} {K : eK} {pc n a b c x : Nat} {ls : eL} {st r : List Value} {h : eH} {kc ks : Nat}
theorem okc {m : Nat} {as : List Value} (hM : T m = M) (hf : Nat.ble (eCat as) (mLo M) = true) (hk : ∀ K : eK, (∀ (pc : Nat) (ls : eL) (st : List Value) (h : eH) (kc ks : Nat), eStep S T (okCall S T d) M (d + 1) Q K pc ls st h kc ks → K pc ls st h kc ks) → (∀ (pc : Nat) (ls ls' : eL) (st : List Value) (h : eH) (kc ks : Nat), (∀ q ∈ ls', q ∈ ls) → K pc ls' st h kc ks → K pc ls st h kc ks) → K 0 (lv_args 0 as) [] h 0 0) : okCall S T (d + 1) m as h Q := by
  subst hM
  exact ⟨hf, hk⟩
theorem r_get {q : Nat} {fs : List Value} {v : Value} (hat : eAt (mPr M) pc = some (.getfield x, n, a, b, c)) (hk : h.2[q]? = some (.inr (a, fs))) (hv : fs[b]? = some v) (kk : K n ls (v :: r) h kc ks) : eStep S T C M d Q K pc ls (.ref (q + 1) :: r) h kc ks := by
  unfold eStep; rw [hat]; exact ⟨fs, v, hk, hv, kk⟩
theorem r_put {q : Nat} {fs : List Value} {v : Value} (hat : eAt (mPr M) pc = some (.putfield x, n, a, b, c)) (hty : eTy (eFty a b) v = true) (hk : h.2[q]? = some (.inr (a, fs))) (hb : Nat.blt b fs.length = true) (kk : K n ls r (h.1, h.2.set q (.inr (a, fs.set b v))) kc ks) : eStep S T C M d Q K pc ls (v :: .ref (q + 1) :: r) h kc ks := by
  unfold eStep; rw [hat]
  show (bif eTy (eFty a b) v then _ else False)
  rw [hty]
  exact ⟨fs, hk, hb, kk⟩
theorem r_callV {q : Nat} {fs as1 : List Value} (hat : eAt (mPr M) pc = some (.invokevirtual x, n, a, b, c)) (he : ∀ k : List Value → List Value → Prop, eArg b st [] k = k (.ref (q + 1) :: as1) r) (hk : h.2[q]? = some (.inr (mCi (T a), fs))) (hb : Nat.ble (eCat r) 8 = true ∧ kc + (mCo (T a)).1 ≤ (mCo M).1 ∧ ks + (mCo (T a)).2 ≤ (mCo M).2)
    (hc : C a (.ref (q + 1) :: as1) h (fun o h' => match o with
      | .inl v => eRetK n ls r K v h' (kc + (mCo (T a)).1) (ks + (mCo (T a)).2)
      | .inr E => eThrK M Q pc ls K E h' (kc + (mCo (T a)).1) (ks + (mCo (T a)).2))) : eStep S T C M d Q K pc ls st h kc ks := by
  unfold eStep; rw [hat]
  show eArg b st [] _
  rw [he]
  exact ⟨fs, hk, hb, hc⟩
theorem r_callS {as : List Value} (hat : eAt (mPr M) pc = some (.invokestatic x, n, a, b, 0)) (he : ∀ k : List Value → List Value → Prop, eArg b st [] k = k as r) (hb : Nat.ble (eCat r) 8 = true ∧ kc + (mCo (T a)).1 ≤ (mCo M).1 ∧ ks + (mCo (T a)).2 ≤ (mCo M).2)
    (hc : C a as h (fun o h' => match o with
      | .inl v => eRetK n ls r K v h' (kc + (mCo (T a)).1) (ks + (mCo (T a)).2)
      | .inr E => eThrK M Q pc ls K E h' (kc + (mCo (T a)).1) (ks + (mCo (T a)).2))) : eStep S T C M d Q K pc ls st h kc ks := by
  unfold eStep; rw [hat]
  show eArg b st [] _
  rw [he]
  exact ⟨hb, hc⟩
theorem r_callN {as : List Value} (hat : eAt (mPr M) pc = some (.invokestatic x, n, a, b, c + 1)) (he : ∀ k : List Value → List Value → Prop, eArg b st [] k = k as r) (hb : Nat.ble (eCat r) 8 = true ∧ kc + (mCo (T a)).1 ≤ (mCo M).1 ∧ ks + (mCo (T a)).2 ≤ (mCo M).2)
    (hc : C a as h (fun o h' => match o with
      | .inl v => eRetK n ls r K v h' (kc + (mCo (T a)).1) (ks + (mCo (T a)).2)
      | .inr _ => False)) : eStep S T C M d Q K pc ls st h kc ks := by
  unfold eStep; rw [hat]
  show eArg b st [] _
  rw [he]
  exact ⟨hb, hc⟩
theorem r_callI {q : Nat} {as1 : List Value} (hat : eAt (mPr M) pc = some (.invokespecial x, n, a, b, c)) (hc2 : (c == 2) = false) (he : ∀ k : List Value → List Value → Prop, eArg b st [] k = k (.ref q :: as1) r) (hb : Nat.ble (eCat r) 8 = true ∧ kc + (mCo (T a)).1 ≤ (mCo M).1 ∧ ks + (mCo (T a)).2 ≤ (mCo M).2)
    (hc : C a (.ref q :: as1) h (fun o h' => match o with
      | .inl v => eRetK n ls r K v h' (kc + (mCo (T a)).1) (ks + (mCo (T a)).2)
      | .inr _ => False)) : eStep S T C M d Q K pc ls st h kc ks := by
  unfold eStep; rw [hat]
  show (bif c == 2 then _ else _)
  rw [hc2]
  show eArg b st [] _
  rw [he]
  exact ⟨hb, hc⟩
end Rul
theorem b0 {r : List Value} {kc ks : Nat} {p q : Nat × Nat} (h1 : Nat.ble (eCat r) 8 = true) (h2 : Nat.ble (kc + p.1) q.1 = true) (h3 : Nat.ble (ks + p.2) q.2 = true) : Nat.ble (eCat r) 8 = true ∧ kc + p.1 ≤ q.1 ∧ ks + p.2 ≤ q.2 := ⟨h1, Nat.le_of_ble_eq_true h2, Nat.le_of_ble_eq_true h3⟩
def b2i (b : Bool) : Int32 := bif b then nI 1 else nI 0
theorem b2i_nar : ∀ b : Bool, narrow .boolean (.int (b2i b)) = .int (b2i b) := by decide +kernel
theorem b2i_t {b : Bool} (h : b = true) : b2i b = nI 1 := by rw [h]; rfl
theorem b2i_f {b : Bool} (h : b = false) : b2i b = nI 0 := by rw [h]; rfl
theorem b2i_0 {b : Bool} : b2i b = 0 ↔ b = false := by cases b <;> decide +kernel
section Rul2
variable {S : Nat × (Nat → Int32)} {T : Nat → eM} {C : eC} {M : eM} {d : Nat} {Q : eQ} {K : eK} {pc n a b c x : Nat} {ls : eL} {st r : List Value} {h : eH} {kc ks : Nat}
theorem r_iret {v : Int32} (hat : eAt (mPr M) pc = some (.ireturn, n, a, b, c)) (hn : eNar (mRt M) v) (h1 : Nat.ble kc (mCo M).1 = true) (h2 : Nat.ble ks (mCo M).2 = true) (hq : Q (.inl (some (.int v))) h) : eStep S T C M d Q K pc ls [.int v] h kc ks := by
  unfold eStep; rw [hat]; exact ⟨hn, ⟨Nat.le_of_ble_eq_true h1, Nat.le_of_ble_eq_true h2⟩, hq⟩
theorem r_lret {v : Int64} (hat : eAt (mPr M) pc = some (.lreturn, n, a, b, c)) (h1 : Nat.ble kc (mCo M).1 = true) (h2 : Nat.ble ks (mCo M).2 = true) (hq : Q (.inl (some (.long v))) h) : eStep S T C M d Q K pc ls [.long v] h kc ks := by
  unfold eStep; rw [hat]; exact ⟨⟨Nat.le_of_ble_eq_true h1, Nat.le_of_ble_eq_true h2⟩, hq⟩
theorem r_fret {v : UInt32} (hat : eAt (mPr M) pc = some (.freturn, n, a, b, c)) (h1 : Nat.ble kc (mCo M).1 = true) (h2 : Nat.ble ks (mCo M).2 = true) (hq : Q (.inl (some (.float v))) h) : eStep S T C M d Q K pc ls [.float v] h kc ks := by
  unfold eStep; rw [hat]; exact ⟨⟨Nat.le_of_ble_eq_true h1, Nat.le_of_ble_eq_true h2⟩, hq⟩
theorem r_dret {v : UInt64} (hat : eAt (mPr M) pc = some (.dreturn, n, a, b, c)) (h1 : Nat.ble kc (mCo M).1 = true) (h2 : Nat.ble ks (mCo M).2 = true) (hq : Q (.inl (some (.double v))) h) : eStep S T C M d Q K pc ls [.double v] h kc ks := by
  unfold eStep; rw [hat]; exact ⟨⟨Nat.le_of_ble_eq_true h1, Nat.le_of_ble_eq_true h2⟩, hq⟩
theorem r_aret {v : Nat} (hat : eAt (mPr M) pc = some (.areturn, n, a, b, c)) (h1 : Nat.ble kc (mCo M).1 = true) (h2 : Nat.ble ks (mCo M).2 = true) (hq : Q (.inl (some (.ref v))) h) : eStep S T C M d Q K pc ls [.ref v] h kc ks := by
  unfold eStep; rw [hat]; exact ⟨⟨Nat.le_of_ble_eq_true h1, Nat.le_of_ble_eq_true h2⟩, hq⟩
theorem r_vret (hat : eAt (mPr M) pc = some (.return_, n, a, b, c)) (h1 : Nat.ble kc (mCo M).1 = true) (h2 : Nat.ble ks (mCo M).2 = true) (hq : Q (.inl none) h) : eStep S T C M d Q K pc ls [] h kc ks := by
  unfold eStep; rw [hat]; exact ⟨⟨Nat.le_of_ble_eq_true h1, Nat.le_of_ble_eq_true h2⟩, hq⟩
theorem r_obj {q : Nat} (hat : eAt (mPr M) pc = some (.invokespecial x, n, a, b, 2)) (hr : Nat.ble (eCat r) 8 = true) (hd : 1 ≤ d) (kk : K n ls r h kc ks) : eStep S T C M d Q K pc ls (.ref q :: r) h kc ks := by
  unfold eStep; rw [hat]; exact ⟨hr, hd, kk⟩
theorem r_thr (hat : eAt (mPr M) pc = some (.new x, n, a, b, 1)) (hd : 6 ≤ d) (hc : Nat.ble (eCat st) 8 = true) (hh : mHh M = []) (h1 : Nat.ble (kc + 1) (mCo M).1 = true) (h2 : Nat.ble (ks + 6) (mCo M).2 = true) (hq : Q (.inr a) (false, h.2)) : eStep S T C M d Q K pc ls st h kc ks := by
  unfold eStep; rw [hat]; exact ⟨⟨hd, hc, hh⟩, ⟨Nat.le_of_ble_eq_true h1, Nat.le_of_ble_eq_true h2⟩, hq⟩
theorem r_irem {x1 y1 : Int32} (hat : eAt (mPr M) pc = some (.irem, n, a, b, c)) (h0 : ¬ y1 = 0) (kk : K n ls (.int (x1 - x1 / y1 * y1) :: r) h kc ks) : eStep S T C M d Q K pc ls (.int y1 :: .int x1 :: r) h kc ks := by
  unfold eStep; rw [hat]; exact ⟨h0, kk⟩
theorem r_iald {q N : Nat} {f : Nat → Int32} {j : Int32} (hat : eAt (mPr M) pc = some (.iaload, n, a, b, c)) (hk : h.2[q]? = some (.inl (0, N, .inl f))) (hj : vp_in j N) (kk : K n ls (.int (f j.toNatClampNeg) :: r) h kc ks) : eStep S T C M d Q K pc ls (.int j :: .ref (q + 1) :: r) h kc ks := by
  unfold eStep; rw [hat]; exact ⟨N, f, hk, hj, kk⟩
theorem r_zald {q N : Nat} {f : Nat → Int32} {j : Int32} (hat : eAt (mPr M) pc = some (.baload, n, a, b, c)) (hk : h.2[q]? = some (.inl (1, N, .inl f))) (hj : vp_in j N) (kk : K n ls (.int (f j.toNatClampNeg) :: r) h kc ks) : eStep S T C M d Q K pc ls (.int j :: .ref (q + 1) :: r) h kc ks := by
  unfold eStep; rw [hat]; exact ⟨N, f, hk, hj, kk⟩
theorem r_lald {q N : Nat} {f : Nat → Int64} {j : Int32} (hat : eAt (mPr M) pc = some (.laload, n, a, b, c)) (hk : h.2[q]? = some (.inl (2, N, .inr (.inl f)))) (hj : vp_in j N) (kk : K n ls (.long (f j.toNatClampNeg) :: r) h kc ks) : eStep S T C M d Q K pc ls (.int j :: .ref (q + 1) :: r) h kc ks := by
  unfold eStep; rw [hat]; exact ⟨N, f, hk, hj, kk⟩
theorem r_aald {q N z : Nat} {f : Nat → Option Nat} {j : Int32} (hat : eAt (mPr M) pc = some (.aaload, n, a, b, c)) (hk : h.2[q]? = some (.inl (4, N, .inr (.inr (.inr (.inr f)))))) (hj : vp_in j N) (hz : f j.toNatClampNeg = some z) (kk : K n ls (.ref z :: r) h kc ks) : eStep S T C M d Q K pc ls (.int j :: .ref (q + 1) :: r) h kc ks := by
  unfold eStep; rw [hat]; exact ⟨N, f, z, hk, hj, hz, kk⟩
theorem r_iast {q N : Nat} {f : Nat → Int32} {j x1 : Int32} (hat : eAt (mPr M) pc = some (.iastore, n, a, b, c)) (hk : h.2[q]? = some (.inl (0, N, .inl f))) (hj : vp_in j N) (kk : K n ls r (h.1, h.2.set q (.inl (0, N, .inl (upd f j.toNatClampNeg x1)))) kc ks) : eStep S T C M d Q K pc ls (.int x1 :: .int j :: .ref (q + 1) :: r) h kc ks := by
  unfold eStep; rw [hat]; exact ⟨N, f, hk, hj, kk⟩
theorem r_zast {q N : Nat} {f : Nat → Int32} {j x1 : Int32} (hat : eAt (mPr M) pc = some (.bastore, n, a, b, c)) (hk : h.2[q]? = some (.inl (1, N, .inl f))) (hj : vp_in j N) (kk : K n ls r (h.1, h.2.set q (.inl (1, N, .inl (upd f j.toNatClampNeg (vp_nar .boolean x1))))) kc ks) : eStep S T C M d Q K pc ls (.int x1 :: .int j :: .ref (q + 1) :: r) h kc ks := by
  unfold eStep; rw [hat]; exact ⟨N, f, hk, hj, kk⟩
theorem r_last {q N : Nat} {f : Nat → Int64} {j : Int32} {x1 : Int64} (hat : eAt (mPr M) pc = some (.lastore, n, a, b, c)) (hk : h.2[q]? = some (.inl (2, N, .inr (.inl f)))) (hj : vp_in j N) (kk : K n ls r (h.1, h.2.set q (.inl (2, N, .inr (.inl (vp_updL f j.toNatClampNeg x1))))) kc ks) : eStep S T C M d Q K pc ls (.long x1 :: .int j :: .ref (q + 1) :: r) h kc ks := by
  unfold eStep; rw [hat]; exact ⟨N, f, hk, hj, kk⟩
end Rul2
theorem gs {l : List va_E} {k : Nat} {o o' : va_E} (h : l[k]? = some o) : (l.set k o')[k]? = some o' := List.getElem?_set_self (List.getElem?_eq_some_iff.mp h).1
theorem gn {l : List va_E} {k j : Nat} {o' : va_E} {x : Option va_E} (hn : k ≠ j) (h : l[j]? = x) : (l.set k o')[j]? = x := (List.getElem?_set_ne hn).trans h
theorem gq {l : List va_E} {k : Nat} {o : va_E} (h : l[k]? = some o) : l.set k o = l := by
  apply List.ext_getElem?
  intro i
  by_cases hi : k = i
  · subst hi; rw [gs h, h]
  · rw [List.getElem?_set_ne hi]
/-- a loop that counts up -/
theorem up {P : Nat → Prop} (N a : Nat) (hend : P N) (hstep : ∀ k, a ≤ k → k < N → P (k + 1) → P k) (h : a ≤ N) : P a := by
  have key : ∀ j, j ≤ N - a → P (N - j) := by
    intro j
    induction j with
    | zero => intro _; exact hend
    | succ j ih =>
      intro hj
      have h1 := hstep (N - (j + 1)) (by omega) (by omega)
      rw [show N - (j + 1) + 1 = N - j by omega] at h1
      exact h1 (ih (by omega))
  have h2 := key (N - a) (Nat.le_refl _)
  rw [show N - (N - a) = a by omega] at h2
  exact h2
end
section
section FS
theorem fs_lo (s : Nat → Bool) {f : Nat} (hf : f < 128) (c : ¬ nI 64 ≤ nI f) : lg_cmp (((enW s).toUInt64 >>> ((nI f).toInt64.toUInt64 &&& Int64.toUInt64 63)).toInt64 &&& lN 1) (lN 0) = 0 ↔ s f = false := by
  have h64 : f < 64 := Nat.lt_of_not_le fun h => c (nI_le h (by omega))
  rw [enW_get s hf, Nat.mod_eq_of_lt h64]
theorem fs_up (s : Nat → Bool) {f : Nat} (hf : f < 128) (c : nI 64 ≤ nI f) : lg_cmp (((enW (sh64 s)).toUInt64 >>> ((nI f).toInt64.toUInt64 &&& Int64.toUInt64 63)).toInt64 &&& lN 1) (lN 0) = 0 ↔ s f = false := by
  have h64 : 64 ≤ f := Nat.le_of_not_lt fun h => nI_ge h (by omega) c
  rw [enW_get (sh64 s) hf]
  show s (f % 64 + 64) = false ↔ _
  rw [show f % 64 + 64 = f by omega]
set_option maxRecDepth 10000 in
/-- FaceSet.holds -/
theorem kX1_holds {S : Nat × (Nat → Int32)} {d : Nat} {h : eH} {Q : eQ} {k : Nat} {s : Nat → Bool} {f : Nat} (hf : f < 128) (hk : h.2[k]? = some (fsS s)) (hQ : Q (.inl (some (.int (b2i (s f))))) h) : okCall S MT (d + 1) nX1_holds [.ref (k + 1), .int (nI f)] h Q := by
  refine okc (M := MX1_holds) rfl rfl fun K hK hW => ?_
  show K 0 [(0, .ref (k + 1)), (1, .int (nI f))] [] h 0 0
  iterate 2 refine hK _ _ _ _ _ _ (?_ : K _ _ _ _ _ _)
  refine hK _ _ _ _ _ _ (And.intro (fun c1 => ?_) (fun c1 => ?_))
  · skip
    iterate 1 refine hK _ _ _ _ _ _ (?_ : K _ _ _ _ _ _)
    refine hK _ _ _ _ _ _ (r_get rfl (by assumption) rfl (?_ : K _ _ _ _ _ _))
    iterate 8 refine hK _ _ _ _ _ _ (?_ : K _ _ _ _ _ _)
    refine hK _ _ _ _ _ _ (And.intro (fun c2 => ?_) (fun c2 => ?_))
    · skip
      iterate 1 refine hK _ _ _ _ _ _ (?_ : K _ _ _ _ _ _)
      exact hK _ _ _ _ _ _ (r_iret rfl rfl rfl rfl (b2i_f ((fs_up s hf c1).mp c2) ▸ hQ))
    · skip
      iterate 2 refine hK _ _ _ _ _ _ (?_ : K _ _ _ _ _ _)
      exact hK _ _ _ _ _ _ (r_iret rfl rfl rfl rfl (b2i_t (Bool.of_not_eq_false (fun e => c2 ((fs_up s hf c1).mpr e))) ▸ hQ))
  · skip
    iterate 1 refine hK _ _ _ _ _ _ (?_ : K _ _ _ _ _ _)
    refine hK _ _ _ _ _ _ (r_get rfl (by assumption) rfl (?_ : K _ _ _ _ _ _))
    iterate 9 refine hK _ _ _ _ _ _ (?_ : K _ _ _ _ _ _)
    refine hK _ _ _ _ _ _ (And.intro (fun c3 => ?_) (fun c3 => ?_))
    · skip
      iterate 1 refine hK _ _ _ _ _ _ (?_ : K _ _ _ _ _ _)
      exact hK _ _ _ _ _ _ (r_iret rfl rfl rfl rfl (b2i_f ((fs_lo s hf c1).mp c3) ▸ hQ))
    · skip
      iterate 2 refine hK _ _ _ _ _ _ (?_ : K _ _ _ _ _ _)
      exact hK _ _ _ _ _ _ (r_iret rfl rfl rfl rfl (b2i_t (Bool.of_not_eq_false (fun e => c3 ((fs_lo s hf c1).mpr e))) ▸ hQ))

def sIns (s : Nat → Bool) (f : Nat) : Nat → Bool := fun i => s i || i == f
def sDel (s : Nat → Bool) (f : Nat) : Nat → Bool := fun i => s i && !(i == f)
theorem fs_cong {s t : Nat → Bool} (h : ∀ i, i < 128 → s i = t i) : fsS s = fsS t := by
  show (Sum.inr (1, [.long (enW s), .long (enW (sh64 s))]) : va_E) = Sum.inr (1, [.long (enW t), .long (enW (sh64 t))])
  rw [enW_cong (f := s) (g := t) (fun i hi => h i (by omega)), enW_cong (f := sh64 s) (g := sh64 t) (fun i hi => h (i + 64) (by omega))]
theorem fs_ins_lo (s : Nat → Bool) {f : Nat} (hf : f < 128) (c : ¬ nI 64 ≤ nI f) : (.inr (1, [.long (enW s ||| (lN 1 <<< ((nI f).toInt64 &&& 63))), .long (enW (sh64 s))]) : va_E) = fsS (sIns s f) := by
  have h64 : f < 64 := Nat.lt_of_not_le fun h => c (nI_le h (by omega))
  rw [enW_bit hf, enW_or, Nat.mod_eq_of_lt h64]
  show (Sum.inr (1, [Value.long _, Value.long (enW (sh64 s))]) : va_E) = Sum.inr (1, [.long (enW (sIns s f)), .long (enW (sh64 (sIns s f)))])
  rw [enW_cong (f := sh64 (sIns s f)) (g := sh64 s) (fun i _ => by
    show (s (i + 64) || (i + 64) == f) = s (i + 64)
    rw [show ((i + 64) == f) = false by simp; omega, Bool.or_false])]
  rfl
theorem fs_ins_up (s : Nat → Bool) {f : Nat} (hf : f < 128) (c : nI 64 ≤ nI f) : (.inr (1, [.long (enW s), .long (enW (sh64 s) ||| (lN 1 <<< ((nI f).toInt64 &&& 63)))]) : va_E) = fsS (sIns s f) := by
  have h64 : 64 ≤ f := Nat.le_of_not_lt fun h => nI_ge h (by omega) c
  rw [enW_bit hf, enW_or]
  show (Sum.inr (1, [Value.long (enW s), Value.long _]) : va_E) = Sum.inr (1, [.long (enW (sIns s f)), .long (enW (sh64 (sIns s f)))])
  rw [enW_cong (f := sIns s f) (g := s) (fun i hi => by
    show (s i || i == f) = s i
    rw [show (i == f) = false by simp; omega, Bool.or_false]), enW_cong (f := sh64 (sIns s f)) (g := fun i => sh64 s i || i == f % 64) (fun i hi => by
    show (s (i + 64) || (i + 64) == f) = (s (i + 64) || i == f % 64)
    congr 1
    rw [Bool.eq_iff_iff, beq_iff_eq, beq_iff_eq]; omega)]
theorem fs_del_lo (s : Nat → Bool) {f : Nat} (hf : f < 128) (c : ¬ nI 64 ≤ nI f) : (.inr (1, [.long (enW s &&& ((lN 1 <<< ((nI f).toInt64 &&& 63)) ^^^ (-1))), .long (enW (sh64 s))]) : va_E) = fsS (sDel s f) := by
  have h64 : f < 64 := Nat.lt_of_not_le fun h => c (nI_le h (by omega))
  rw [enW_bit hf, enW_not, enW_and, Nat.mod_eq_of_lt h64]
  show (Sum.inr (1, [Value.long _, Value.long (enW (sh64 s))]) : va_E) = Sum.inr (1, [.long (enW (sDel s f)), .long (enW (sh64 (sDel s f)))])
  rw [enW_cong (f := sh64 (sDel s f)) (g := sh64 s) (fun i _ => by
    show (s (i + 64) && !((i + 64) == f)) = s (i + 64)
    rw [show ((i + 64) == f) = false by simp; omega, Bool.not_false, Bool.and_true])]
  rfl
theorem fs_del_up (s : Nat → Bool) {f : Nat} (hf : f < 128) (c : nI 64 ≤ nI f) : (.inr (1, [.long (enW s), .long (enW (sh64 s) &&& ((lN 1 <<< ((nI f).toInt64 &&& 63)) ^^^ (-1)))]) : va_E) = fsS (sDel s f) := by
  have h64 : 64 ≤ f := Nat.le_of_not_lt fun h => nI_ge h (by omega) c
  rw [enW_bit hf, enW_not, enW_and]
  show (Sum.inr (1, [Value.long (enW s), Value.long _]) : va_E) = Sum.inr (1, [.long (enW (sDel s f)), .long (enW (sh64 (sDel s f)))])
  rw [enW_cong (f := sDel s f) (g := s) (fun i hi => by
    show (s i && !(i == f)) = s i
    rw [show (i == f) = false by simp; omega, Bool.not_false, Bool.and_true]), enW_cong (f := sh64 (sDel s f)) (g := fun i => sh64 s i && !(i == f % 64)) (fun i hi => by
    show (s (i + 64) && !((i + 64) == f)) = (s (i + 64) && !(i == f % 64))
    congr 2
    rw [Bool.eq_iff_iff, beq_iff_eq, beq_iff_eq]; omega)]
theorem hS {Q : eQ} {o : eO} {b : Bool} {l : List va_E} {k : Nat} {x y : va_E} (e : x = y) (h : Q o (b, l.set k y)) : Q o (b, l.set k x) := by rw [e]; exact h
set_option maxRecDepth 10000 in
/-- FaceSet.add -/
theorem kX1_add {S : Nat × (Nat → Int32)} {d : Nat} {h : eH} {Q : eQ} {k : Nat} {s : Nat → Bool} {f : Nat} (hf : f < 128) (hk : h.2[k]? = some (fsS s)) (hQ : Q (.inl none) (h.1, h.2.set k (fsS (sIns s f)))) : okCall S MT (d + 1) nX1_add [.ref (k + 1), .int (nI f)] h Q := by
  refine okc (M := MX1_add) rfl rfl fun K hK hW => ?_
  show K 0 [(0, .ref (k + 1)), (1, .int (nI f))] [] h 0 0
  iterate 2 refine hK _ _ _ _ _ _ (?_ : K _ _ _ _ _ _)
  refine hK _ _ _ _ _ _ (And.intro (fun c1 => ?_) (fun c1 => ?_))
  · skip
    iterate 2 refine hK _ _ _ _ _ _ (?_ : K _ _ _ _ _ _)
    refine hK _ _ _ _ _ _ (r_get rfl (by assumption) rfl (?_ : K _ _ _ _ _ _))
    iterate 4 refine hK _ _ _ _ _ _ (?_ : K _ _ _ _ _ _)
    refine hK _ _ _ _ _ _ (r_put rfl rfl (by assumption) rfl (?_ : K _ _ _ _ _ _))
    exact hK _ _ _ _ _ _ (r_vret rfl rfl rfl (hS (fs_ins_up s hf c1) hQ))
  · skip
    iterate 2 refine hK _ _ _ _ _ _ (?_ : K _ _ _ _ _ _)
    refine hK _ _ _ _ _ _ (r_get rfl (by assumption) rfl (?_ : K _ _ _ _ _ _))
    iterate 4 refine hK _ _ _ _ _ _ (?_ : K _ _ _ _ _ _)
    refine hK _ _ _ _ _ _ (r_put rfl rfl (by assumption) rfl (?_ : K _ _ _ _ _ _))
    iterate 1 refine hK _ _ _ _ _ _ (?_ : K _ _ _ _ _ _)
    exact hK _ _ _ _ _ _ (r_vret rfl rfl rfl (hS (fs_ins_lo s hf c1) hQ))

set_option maxRecDepth 10000 in
/-- FaceSet.remove -/
theorem kX1_remove {S : Nat × (Nat → Int32)} {d : Nat} {h : eH} {Q : eQ} {k : Nat} {s : Nat → Bool} {f : Nat} (hf : f < 128) (hk : h.2[k]? = some (fsS s)) (hQ : Q (.inl none) (h.1, h.2.set k (fsS (sDel s f)))) : okCall S MT (d + 1) nX1_remove [.ref (k + 1), .int (nI f)] h Q := by
  refine okc (M := MX1_remove) rfl rfl fun K hK hW => ?_
  show K 0 [(0, .ref (k + 1)), (1, .int (nI f))] [] h 0 0
  iterate 2 refine hK _ _ _ _ _ _ (?_ : K _ _ _ _ _ _)
  refine hK _ _ _ _ _ _ (And.intro (fun c1 => ?_) (fun c1 => ?_))
  · skip
    iterate 2 refine hK _ _ _ _ _ _ (?_ : K _ _ _ _ _ _)
    refine hK _ _ _ _ _ _ (r_get rfl (by assumption) rfl (?_ : K _ _ _ _ _ _))
    iterate 6 refine hK _ _ _ _ _ _ (?_ : K _ _ _ _ _ _)
    refine hK _ _ _ _ _ _ (r_put rfl rfl (by assumption) rfl (?_ : K _ _ _ _ _ _))
    exact hK _ _ _ _ _ _ (r_vret rfl rfl rfl (hS (fs_del_up s hf c1) hQ))
  · skip
    iterate 2 refine hK _ _ _ _ _ _ (?_ : K _ _ _ _ _ _)
    refine hK _ _ _ _ _ _ (r_get rfl (by assumption) rfl (?_ : K _ _ _ _ _ _))
    iterate 6 refine hK _ _ _ _ _ _ (?_ : K _ _ _ _ _ _)
    refine hK _ _ _ _ _ _ (r_put rfl rfl (by assumption) rfl (?_ : K _ _ _ _ _ _))
    iterate 1 refine hK _ _ _ _ _ _ (?_ : K _ _ _ _ _ _)
    exact hK _ _ _ _ _ _ (r_vret rfl rfl rfl (hS (fs_del_lo s hf c1) hQ))

theorem fb_128 (s : Nat → Bool) : fb_ct s 64 + fb_ct (sh64 s) 64 = fb_ct s 128 := by
  have h := fb_ct_split s 64 64
  rw [show fb_ct s 128 = fb_ct s (64 + 64) from rfl, h, fb_ct_cong (p := sh64 s) (q := fun k => s (64 + k)) (fun i _ => by show s (i + 64) = s (64 + i); rw [Nat.add_comm])]
def ht (f : Nat) : Nat := pc f - 1
theorem ht_ok : ∀ f, f < 128 → 1 ≤ f → nI (pc f) - nI 1 = nI (ht f) := by decide +kernel
theorem ht_lt : ∀ f, f < 128 → ht f < 7 := by decide +kernel
/-- of the faces from 1 on -/
def cF (p : Nat → Bool) (n : Nat) : Nat := fb_ct (fun i => decide (0 < i) && p i) n
theorem cF_1 (p : Nat → Bool) : cF p 1 = 0 := rfl
theorem cF_t {p : Nat → Bool} {n : Nat} (h0 : 0 < n) (h : p n = true) : nI (cF p n) + nI 1 = nI (cF p (n + 1)) := by
  rw [nI_add]
  show _ = nI (fb_ct _ n + if (decide (0 < n) && p n) then 1 else 0)
  rw [decide_eq_true h0, h]; rfl
theorem cF_f {p : Nat → Bool} {n : Nat} (h : p n = false) : cF p (n + 1) = cF p n := by
  show fb_ct _ n + (if (decide (0 < n) && p n) then 1 else 0) = _
  rw [h, Bool.and_false]; rfl
set_option maxRecDepth 10000 in
/-- Integer.bitCount of a face -/
theorem kJ6_bitCount_0f7a4 {S : Nat × (Nat → Int32)} {d : Nat} {h : eH} {Q : eQ} {f : Nat} (hf : f < 128) (hQ : Q (.inl (some (.int (nI (pc f))))) h) : okCall S MT (d + 1) nJ6_bitCount_0f7a4 [.int (nI f)] h Q := by
  refine okc (M := MJ6_bitCount_0f7a4) rfl rfl fun K hK hW => ?_
  show K 0 [(0, .int (nI f))] [] h 0 0
  iterate 41 refine hK _ _ _ _ _ _ (?_ : K _ _ _ _ _ _)
  exact hK _ _ _ _ _ _ (r_iret rfl rfl rfl rfl (show Q (.inl (some (.int (popI (nI f))))) h by rw [popI_ok f hf]; exact hQ))

set_option maxRecDepth 10000 in
/-- Long.bitCount -/
theorem kJ13_bitCount_95d88 {S : Nat × (Nat → Int32)} {d : Nat} {h : eH} {Q : eQ} {s : Nat → Bool} (hQ : Q (.inl (some (.int (nI (fb_ct s 64))))) h) : okCall S MT (d + 1) nJ13_bitCount_95d88 [.long (enW s)] h Q := by
  refine okc (M := MJ13_bitCount_95d88) rfl rfl fun K hK hW => ?_
  show K 0 [(0, .long (enW s))] [] h 0 0
  iterate 48 refine hK _ _ _ _ _ _ (?_ : K _ _ _ _ _ _)
  exact hK _ _ _ _ _ _ (r_iret rfl rfl rfl rfl (show Q (.inl (some (.int (popL (enW s))))) h by rw [popL_ok]; exact hQ))

set_option maxRecDepth 10000 in
/-- Holeworks.heightOf -/
theorem kX6_heightOf {S : Nat × (Nat → Int32)} {d : Nat} {h : eH} {Q : eQ} {f : Nat} (hf : f < 128) (hf1 : 1 ≤ f) (hQ : Q (.inl (some (.int (nI (ht f))))) h) : okCall S MT (d + 2) nX6_heightOf [.int (nI f)] h Q := by
  refine okc (M := MX6_heightOf) rfl rfl fun K hK hW => ?_
  show K 0 [(0, .int (nI f))] [] h 0 0
  iterate 1 refine hK _ _ _ _ _ _ (?_ : K _ _ _ _ _ _)
  refine hK _ _ _ _ _ _ (r_callS rfl (fun _ => rfl) (b0 rfl rfl rfl) (kJ6_bitCount_0f7a4 hf (?_ : K _ _ _ _ _ _)))
  iterate 2 refine hK _ _ _ _ _ _ (?_ : K _ _ _ _ _ _)
  exact hK _ _ _ _ _ _ (r_iret rfl rfl rfl rfl (by rw [ht_ok f hf hf1]; exact hQ))

set_option maxRecDepth 10000 in
/-- FaceSet.count -/
theorem kX1_count {S : Nat × (Nat → Int32)} {d : Nat} {h : eH} {Q : eQ} {k : Nat} {s : Nat → Bool} (hk : h.2[k]? = some (fsS s)) (hQ : Q (.inl (some (.int (nI (fb_ct s 128))))) h) : okCall S MT (d + 2) nX1_count [.ref (k + 1)] h Q := by
  refine okc (M := MX1_count) rfl rfl fun K hK hW => ?_
  show K 0 [(0, .ref (k + 1))] [] h 0 0
  iterate 1 refine hK _ _ _ _ _ _ (?_ : K _ _ _ _ _ _)
  refine hK _ _ _ _ _ _ (r_get rfl (by assumption) rfl (?_ : K _ _ _ _ _ _))
  refine hK _ _ _ _ _ _ (r_callS rfl (fun _ => rfl) (b0 rfl rfl rfl) (kJ13_bitCount_95d88 (?_ : K _ _ _ _ _ _)))
  iterate 1 refine hK _ _ _ _ _ _ (?_ : K _ _ _ _ _ _)
  refine hK _ _ _ _ _ _ (r_get rfl (by assumption) rfl (?_ : K _ _ _ _ _ _))
  refine hK _ _ _ _ _ _ (r_callS rfl (fun _ => rfl) (b0 rfl rfl rfl) (kJ13_bitCount_95d88 (?_ : K _ _ _ _ _ _)))
  iterate 1 refine hK _ _ _ _ _ _ (?_ : K _ _ _ _ _ _)
  exact hK _ _ _ _ _ _ (r_iret rfl rfl rfl rfl (by rw [nI_add, fb_128]; exact hQ))

set_option maxRecDepth 10000 in
/-- FaceSet.countAt -/
theorem kX1_countAt {S : Nat × (Nat → Int32)} {d : Nat} {h : eH} {Q : eQ} {q t : Nat} {s : Nat → Bool} (ht7 : t < 128) (hk0 : h.2[q]? = some (fsS s)) (hQ : Q (.inl (some (.int (nI (cF (fun i => decide (ht i = t) && s i) 128))))) h) : okCall S MT (d + 3) nX1_countAt [.ref (q + 1), .int (nI t)] h Q := by
  refine okc (M := MX1_countAt) rfl rfl fun K hK hW => ?_
  show K 0 [(0, .ref (q + 1)), (1, .int (nI t))] [] h 0 0
  iterate 6 refine hK _ _ _ _ _ _ (?_ : K _ _ _ _ _ _)
  refine hW _ _ [(3, .int (nI (1))), (2, .int (nI (cF (fun i => decide (ht i = t) && s i) (1)))), (0, .ref (q + 1)), (1, .int (nI t))] _ _ _ _ (by simp [cF_1]) ?_
  refine up (P := fun k => K 7 [(3, .int (nI (k))), (2, .int (nI (cF (fun i => decide (ht i = t) && s i) (k)))), (0, .ref (q + 1)), (1, .int (nI t))] [.int (nI 127), .int (nI (k))] h 0 0) 128 1 ?_ ?_ (by decide)
  · skip
    refine hK _ _ _ _ _ _ (And.intro (fun _ => ?_) (fun c9 => absurd (nI_lt (by decide) (by decide)) c9))
    iterate 1 refine hK _ _ _ _ _ _ (?_ : K _ _ _ _ _ _)
    exact hK _ _ _ _ _ _ (r_iret rfl rfl rfl rfl hQ)
  · intro k h0k hk ihk
    refine hK _ _ _ _ _ _ (And.intro (fun c9 => absurd c9 (nI_nlt (by omega) (by omega))) (fun _ => ?_))
    iterate 1 refine hK _ _ _ _ _ _ (?_ : K _ _ _ _ _ _)
    refine hK _ _ _ _ _ _ (r_callN rfl (fun _ => rfl) (b0 rfl rfl rfl) (kX6_heightOf (f := k) (by omega) (by omega) (?_ : K _ _ _ _ _ _)))
    iterate 1 refine hK _ _ _ _ _ _ (?_ : K _ _ _ _ _ _)
    refine hK _ _ _ _ _ _ (And.intro (fun c1 => ?_) (fun c1 => ?_))
    · skip
      iterate 2 refine hK _ _ _ _ _ _ (?_ : K _ _ _ _ _ _)
      refine hK _ _ _ _ _ _ (r_callV rfl (fun _ => rfl) (by assumption) (b0 rfl rfl rfl) (kX1_holds (f := k) (by omega) hk0 (?_ : K _ _ _ _ _ _)))
      refine hK _ _ _ _ _ _ (And.intro (fun c2 => ?_) (fun c2 => ?_))
      · skip
        iterate 4 refine hK _ _ _ _ _ _ (?_ : K _ _ _ _ _ _)
        have e2 : s k = false := b2i_0.mp c2
        rw [cF_f (p := (fun i => decide (ht i = t) && s i)) (by simp [e2])] at ihk
        rw [nI_add k 1]
        first | exact ihk | exact hW _ _ _ _ _ _ _ (by simp) ihk
      · skip
        iterate 5 refine hK _ _ _ _ _ _ (?_ : K _ _ _ _ _ _)
        have e1 : ht k = t := (nI_eq (by have := ht_lt k (by omega); omega) (by omega)).mp c1
        have e2 : s k = true := Bool.of_not_eq_false (fun e => c2 (b2i_0.mpr e))
        rw [nI_add k 1, cF_t (p := (fun i => decide (ht i = t) && s i)) (by omega) (by simp [e1, e2])]
        first | exact ihk | exact hW _ _ _ _ _ _ _ (by simp) ihk
    · skip
      iterate 4 refine hK _ _ _ _ _ _ (?_ : K _ _ _ _ _ _)
      have e1 : ¬ ht k = t := fun e => c1 (by rw [e])
      rw [cF_f (p := (fun i => decide (ht i = t) && s i)) (by simp [e1])] at ihk
      rw [nI_add k 1]
      first | exact ihk | exact hW _ _ _ _ _ _ _ (by simp) ihk

end FS
end
