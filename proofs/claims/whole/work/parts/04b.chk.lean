/-! the methods' texts, checked against the tables -/
section Chk
set_option maxRecDepth 100000 in
theorem ini_RX6 : eW (.initialized RX6) := ⟨List.mem_of_getElem? (i := 31) rfl, rfl⟩
set_option maxRecDepth 100000 in
theorem cne_RX6 : RX6 ≠ "java/lang/invoke/MethodHandle" ∧ RX6 ≠ "java/lang/invoke/VarHandle" := by decide +kernel
set_option maxRecDepth 100000 in
theorem pln_RX6 : plainName RX6 = true := by decide +kernel
set_option maxRecDepth 100000 in
theorem ini_RX0 : eW (.initialized RX0) := ⟨List.mem_of_getElem? (i := 34) rfl, rfl⟩
set_option maxRecDepth 100000 in
theorem cne_RX0 : RX0 ≠ "java/lang/invoke/MethodHandle" ∧ RX0 ≠ "java/lang/invoke/VarHandle" := by decide +kernel
set_option maxRecDepth 100000 in
theorem pln_RX0 : plainName RX0 = true := by decide +kernel
set_option maxRecDepth 100000 in
theorem ini_RX1 : eW (.initialized RX1) := ⟨List.mem_of_getElem? (i := 32) rfl, rfl⟩
set_option maxRecDepth 100000 in
theorem cne_RX1 : RX1 ≠ "java/lang/invoke/MethodHandle" ∧ RX1 ≠ "java/lang/invoke/VarHandle" := by decide +kernel
set_option maxRecDepth 100000 in
theorem pln_RX1 : plainName RX1 = true := by decide +kernel
set_option maxRecDepth 100000 in
theorem ini_RX2 : eW (.initialized RX2) := ⟨List.mem_of_getElem? (i := 36) rfl, rfl⟩
set_option maxRecDepth 100000 in
theorem cne_RX2 : RX2 ≠ "java/lang/invoke/MethodHandle" ∧ RX2 ≠ "java/lang/invoke/VarHandle" := by decide +kernel
set_option maxRecDepth 100000 in
theorem pln_RX2 : plainName RX2 = true := by decide +kernel
set_option maxRecDepth 100000 in
theorem ini_RX3 : eW (.initialized RX3) := ⟨List.mem_of_getElem? (i := 45) rfl, rfl⟩
set_option maxRecDepth 100000 in
theorem cne_RX3 : RX3 ≠ "java/lang/invoke/MethodHandle" ∧ RX3 ≠ "java/lang/invoke/VarHandle" := by decide +kernel
set_option maxRecDepth 100000 in
theorem pln_RX3 : plainName RX3 = true := by decide +kernel
set_option maxRecDepth 100000 in
theorem ini_RX4 : eW (.initialized RX4) := ⟨List.mem_of_getElem? (i := 33) rfl, rfl⟩
set_option maxRecDepth 100000 in
theorem cne_RX4 : RX4 ≠ "java/lang/invoke/MethodHandle" ∧ RX4 ≠ "java/lang/invoke/VarHandle" := by decide +kernel
set_option maxRecDepth 100000 in
theorem pln_RX4 : plainName RX4 = true := by decide +kernel
set_option maxRecDepth 100000 in
theorem ini_RX5 : eW (.initialized RX5) := ⟨List.mem_of_getElem? (i := 47) rfl, rfl⟩
set_option maxRecDepth 100000 in
theorem cne_RX5 : RX5 ≠ "java/lang/invoke/MethodHandle" ∧ RX5 ≠ "java/lang/invoke/VarHandle" := by decide +kernel
set_option maxRecDepth 100000 in
theorem pln_RX5 : plainName RX5 = true := by decide +kernel
set_option maxRecDepth 100000 in
theorem ini_RL : eW (.initialized RL) := ⟨List.mem_of_getElem? (i := 30) rfl, rfl⟩
set_option maxRecDepth 100000 in
theorem cne_RL : RL ≠ "java/lang/invoke/MethodHandle" ∧ RL ≠ "java/lang/invoke/VarHandle" := by decide +kernel
set_option maxRecDepth 100000 in
theorem pln_RL : plainName RL = true := by decide +kernel
set_option maxRecDepth 100000 in
theorem ini_RX7 : eW (.initialized RX7) := ⟨List.mem_of_getElem? (i := 37) rfl, rfl⟩
set_option maxRecDepth 100000 in
theorem cne_RX7 : RX7 ≠ "java/lang/invoke/MethodHandle" ∧ RX7 ≠ "java/lang/invoke/VarHandle" := by decide +kernel
set_option maxRecDepth 100000 in
theorem pln_RX7 : plainName RX7 = true := by decide +kernel
set_option maxRecDepth 100000 in
theorem ini_RJ6 : eW (.initialized RJ6) := ⟨List.mem_of_getElem? (i := 35) rfl, rfl⟩
set_option maxRecDepth 100000 in
theorem cne_RJ6 : RJ6 ≠ "java/lang/invoke/MethodHandle" ∧ RJ6 ≠ "java/lang/invoke/VarHandle" := by decide +kernel
set_option maxRecDepth 100000 in
theorem pln_RJ6 : plainName RJ6 = true := by decide +kernel
set_option maxRecDepth 100000 in
theorem ini_RJ13 : eW (.initialized RJ13) := ⟨List.mem_of_getElem? (i := 43) rfl, rfl⟩
set_option maxRecDepth 100000 in
theorem cne_RJ13 : RJ13 ≠ "java/lang/invoke/MethodHandle" ∧ RJ13 ≠ "java/lang/invoke/VarHandle" := by decide +kernel
set_option maxRecDepth 100000 in
theorem pln_RJ13 : plainName RJ13 = true := by decide +kernel
set_option maxRecDepth 100000 in
theorem eFl {P : List (List eE)} {p : eE → Prop} (h : ∀ c ∈ P, ∀ e ∈ c, p e) : ∀ e ∈ P.flatten, p e := fun e he => by
  obtain ⟨c, hc, he⟩ := List.mem_flatten.mp he
  exact h c hc e he
set_option maxRecDepth 100000 in
theorem eAll {P : List (List eE)} {f : eE → Bool} (h : ∀ c ∈ P, c.all f = true) : ∀ e ∈ P.flatten, f e = true := fun e he => by
  obtain ⟨c, hc, he⟩ := List.mem_flatten.mp he
  exact List.all_eq_true.mp (h c hc) e he
abbrev fc {α : Type} {p : α → Prop} {a : α} {l : List α} (h1 : p a) (h2 : ∀ x ∈ l, p x) : ∀ x ∈ a :: l, p x := List.forall_mem_cons.mpr ⟨h1, h2⟩
set_option maxRecDepth 100000 in
theorem fn {α : Type} {p : α → Prop} : ∀ x ∈ ([] : List α), p x := fun _ h => nomatch h
set_option maxRecDepth 100000 in
theorem mthX0_init : eMeth MX0_init := ⟨⟨List.mem_of_getElem? (i := 80) rfl, rfl⟩, ini_RX0, cne_RX0, pln_RX0, Nat.le_of_ble_eq_true rfl⟩
set_option maxRecDepth 100000 in
theorem insX0_init : eW (.instanceMethod yX0_init) := ⟨List.mem_of_getElem? (i := 79) rfl, rfl⟩
set_option maxRecDepth 100000 in
theorem ariX0_init : eAri MX0_init 0 := by unfold eAri; decide +kernel
set_option maxRecDepth 100000 in
theorem mthX0_numberSlots : eMeth MX0_numberSlots := ⟨⟨List.mem_of_getElem? (i := 85) rfl, rfl⟩, ini_RX0, cne_RX0, pln_RX0, Nat.le_of_ble_eq_true rfl⟩
set_option maxRecDepth 100000 in
theorem insX0_numberSlots : eW (.instanceMethod yX0_numberSlots) := ⟨List.mem_of_getElem? (i := 84) rfl, rfl⟩
set_option maxRecDepth 100000 in
theorem selX0_numberSlots : eW (.selects RX0 yX0_numberSlots yX0_numberSlots) := ⟨List.mem_of_getElem? (i := 0) rfl, rfl⟩
set_option maxRecDepth 100000 in
theorem ariX0_numberSlots : eAri MX0_numberSlots 0 := by unfold eAri; decide +kernel
set_option maxRecDepth 100000 in
theorem mthX0_bitsOfBorder : eMeth MX0_bitsOfBorder := ⟨⟨List.mem_of_getElem? (i := 98) rfl, rfl⟩, ini_RX0, cne_RX0, pln_RX0, Nat.le_of_ble_eq_true rfl⟩
set_option maxRecDepth 100000 in
theorem insX0_bitsOfBorder : eW (.instanceMethod yX0_bitsOfBorder) := ⟨List.mem_of_getElem? (i := 97) rfl, rfl⟩
set_option maxRecDepth 100000 in
theorem selX0_bitsOfBorder : eW (.selects RX0 yX0_bitsOfBorder yX0_bitsOfBorder) := ⟨List.mem_of_getElem? (i := 1) rfl, rfl⟩
set_option maxRecDepth 100000 in
theorem ariX0_bitsOfBorder : eAri MX0_bitsOfBorder 1 := by unfold eAri; decide +kernel
set_option maxRecDepth 100000 in
theorem mthX0_makeBorder : eMeth MX0_makeBorder := ⟨⟨List.mem_of_getElem? (i := 168) rfl, rfl⟩, ini_RX0, cne_RX0, pln_RX0, Nat.le_of_ble_eq_true rfl⟩
set_option maxRecDepth 100000 in
theorem staX0_makeBorder : eW (.static yX0_makeBorder) := ⟨List.mem_of_getElem? (i := 167) rfl, rfl⟩
set_option maxRecDepth 100000 in
theorem ariX0_makeBorder : eAri MX0_makeBorder 2 := by unfold eAri; decide +kernel
set_option maxRecDepth 100000 in
theorem mthX0_toggleBorder : eMeth MX0_toggleBorder := ⟨⟨List.mem_of_getElem? (i := 179) rfl, rfl⟩, ini_RX0, cne_RX0, pln_RX0, Nat.le_of_ble_eq_true rfl⟩
set_option maxRecDepth 100000 in
theorem staX0_toggleBorder : eW (.static yX0_toggleBorder) := ⟨List.mem_of_getElem? (i := 178) rfl, rfl⟩
set_option maxRecDepth 100000 in
theorem ariX0_toggleBorder : eAri MX0_toggleBorder 2 := by unfold eAri; decide +kernel
set_option maxRecDepth 100000 in
theorem mthX0_countFree : eMeth MX0_countFree := ⟨⟨List.mem_of_getElem? (i := 673) rfl, rfl⟩, ini_RX0, cne_RX0, pln_RX0, Nat.le_of_ble_eq_true rfl⟩
set_option maxRecDepth 100000 in
theorem insX0_countFree : eW (.instanceMethod yX0_countFree) := ⟨List.mem_of_getElem? (i := 671) rfl, rfl⟩
set_option maxRecDepth 100000 in
theorem selX0_countFree : eW (.selects RX0 yX0_countFree yX0_countFree) := ⟨List.mem_of_getElem? (i := 672) rfl, rfl⟩
set_option maxRecDepth 100000 in
theorem ariX0_countFree : eAri MX0_countFree 2 := by unfold eAri; decide +kernel
set_option maxRecDepth 100000 in
theorem mthX0_keepsIfFree : eMeth MX0_keepsIfFree := ⟨⟨List.mem_of_getElem? (i := 677) rfl, rfl⟩, ini_RX0, cne_RX0, pln_RX0, Nat.le_of_ble_eq_true rfl⟩
set_option maxRecDepth 100000 in
theorem insX0_keepsIfFree : eW (.instanceMethod yX0_keepsIfFree) := ⟨List.mem_of_getElem? (i := 676) rfl, rfl⟩
set_option maxRecDepth 100000 in
theorem selX0_keepsIfFree : eW (.selects RX0 yX0_keepsIfFree yX0_keepsIfFree) := ⟨List.mem_of_getElem? (i := 5) rfl, rfl⟩
set_option maxRecDepth 100000 in
theorem ariX0_keepsIfFree : eAri MX0_keepsIfFree 1 := by unfold eAri; decide +kernel
set_option maxRecDepth 100000 in
theorem mthX0_isSumOfKept : eMeth MX0_isSumOfKept := ⟨⟨List.mem_of_getElem? (i := 736) rfl, rfl⟩, ini_RX0, cne_RX0, pln_RX0, Nat.le_of_ble_eq_true rfl⟩
set_option maxRecDepth 100000 in
theorem insX0_isSumOfKept : eW (.instanceMethod yX0_isSumOfKept) := ⟨List.mem_of_getElem? (i := 735) rfl, rfl⟩
set_option maxRecDepth 100000 in
theorem selX0_isSumOfKept : eW (.selects RX0 yX0_isSumOfKept yX0_isSumOfKept) := ⟨List.mem_of_getElem? (i := 6) rfl, rfl⟩
set_option maxRecDepth 100000 in
theorem ariX0_isSumOfKept : eAri MX0_isSumOfKept 1 := by unfold eAri; decide +kernel
set_option maxRecDepth 100000 in
theorem mthX0_countHoles : eMeth MX0_countHoles := ⟨⟨List.mem_of_getElem? (i := 688) rfl, rfl⟩, ini_RX0, cne_RX0, pln_RX0, Nat.le_of_ble_eq_true rfl⟩
set_option maxRecDepth 100000 in
theorem insX0_countHoles : eW (.instanceMethod yX0_countHoles) := ⟨List.mem_of_getElem? (i := 686) rfl, rfl⟩
set_option maxRecDepth 100000 in
theorem selX0_countHoles : eW (.selects RX0 yX0_countHoles yX0_countHoles) := ⟨List.mem_of_getElem? (i := 687) rfl, rfl⟩
set_option maxRecDepth 100000 in
theorem ariX0_countHoles : eAri MX0_countHoles 2 := by unfold eAri; decide +kernel
set_option maxRecDepth 100000 in
theorem mthX0_isFilling : eMeth MX0_isFilling := ⟨⟨List.mem_of_getElem? (i := 731) rfl, rfl⟩, ini_RX0, cne_RX0, pln_RX0, Nat.le_of_ble_eq_true rfl⟩
set_option maxRecDepth 100000 in
theorem insX0_isFilling : eW (.instanceMethod yX0_isFilling) := ⟨List.mem_of_getElem? (i := 729) rfl, rfl⟩
set_option maxRecDepth 100000 in
theorem selX0_isFilling : eW (.selects RX0 yX0_isFilling yX0_isFilling) := ⟨List.mem_of_getElem? (i := 730) rfl, rfl⟩
set_option maxRecDepth 100000 in
theorem ariX0_isFilling : eAri MX0_isFilling 2 := by unfold eAri; decide +kernel
set_option maxRecDepth 100000 in
theorem mthX1_init : eMeth MX1_init := ⟨⟨List.mem_of_getElem? (i := 61) rfl, rfl⟩, ini_RX1, cne_RX1, pln_RX1, Nat.le_of_ble_eq_true rfl⟩
set_option maxRecDepth 100000 in
theorem insX1_init : eW (.instanceMethod yX1_init) := ⟨List.mem_of_getElem? (i := 60) rfl, rfl⟩
set_option maxRecDepth 100000 in
theorem ariX1_init : eAri MX1_init 0 := by unfold eAri; decide +kernel
set_option maxRecDepth 100000 in
theorem mthX1_holds : eMeth MX1_holds := ⟨⟨List.mem_of_getElem? (i := 176) rfl, rfl⟩, ini_RX1, cne_RX1, pln_RX1, Nat.le_of_ble_eq_true rfl⟩
set_option maxRecDepth 100000 in
theorem insX1_holds : eW (.instanceMethod yX1_holds) := ⟨List.mem_of_getElem? (i := 174) rfl, rfl⟩
set_option maxRecDepth 100000 in
theorem selX1_holds : eW (.selects RX1 yX1_holds yX1_holds) := ⟨List.mem_of_getElem? (i := 175) rfl, rfl⟩
set_option maxRecDepth 100000 in
theorem ariX1_holds : eAri MX1_holds 1 := by unfold eAri; decide +kernel
set_option maxRecDepth 100000 in
theorem mthX1_add : eMeth MX1_add := ⟨⟨List.mem_of_getElem? (i := 193) rfl, rfl⟩, ini_RX1, cne_RX1, pln_RX1, Nat.le_of_ble_eq_true rfl⟩
set_option maxRecDepth 100000 in
theorem insX1_add : eW (.instanceMethod yX1_add) := ⟨List.mem_of_getElem? (i := 191) rfl, rfl⟩
set_option maxRecDepth 100000 in
theorem selX1_add : eW (.selects RX1 yX1_add yX1_add) := ⟨List.mem_of_getElem? (i := 192) rfl, rfl⟩
set_option maxRecDepth 100000 in
theorem ariX1_add : eAri MX1_add 1 := by unfold eAri; decide +kernel
set_option maxRecDepth 100000 in
theorem mthX1_remove : eMeth MX1_remove := ⟨⟨List.mem_of_getElem? (i := 188) rfl, rfl⟩, ini_RX1, cne_RX1, pln_RX1, Nat.le_of_ble_eq_true rfl⟩
set_option maxRecDepth 100000 in
theorem insX1_remove : eW (.instanceMethod yX1_remove) := ⟨List.mem_of_getElem? (i := 186) rfl, rfl⟩
set_option maxRecDepth 100000 in
theorem selX1_remove : eW (.selects RX1 yX1_remove yX1_remove) := ⟨List.mem_of_getElem? (i := 187) rfl, rfl⟩
set_option maxRecDepth 100000 in
theorem ariX1_remove : eAri MX1_remove 1 := by unfold eAri; decide +kernel
set_option maxRecDepth 100000 in
theorem mthX1_toggle : eMeth MX1_toggle := ⟨⟨List.mem_of_getElem? (i := 183) rfl, rfl⟩, ini_RX1, cne_RX1, pln_RX1, Nat.le_of_ble_eq_true rfl⟩
set_option maxRecDepth 100000 in
theorem insX1_toggle : eW (.instanceMethod yX1_toggle) := ⟨List.mem_of_getElem? (i := 181) rfl, rfl⟩
set_option maxRecDepth 100000 in
theorem selX1_toggle : eW (.selects RX1 yX1_toggle yX1_toggle) := ⟨List.mem_of_getElem? (i := 182) rfl, rfl⟩
set_option maxRecDepth 100000 in
theorem ariX1_toggle : eAri MX1_toggle 1 := by unfold eAri; decide +kernel
set_option maxRecDepth 100000 in
theorem mthX1_addParts : eMeth MX1_addParts := ⟨⟨List.mem_of_getElem? (i := 342) rfl, rfl⟩, ini_RX1, cne_RX1, pln_RX1, Nat.le_of_ble_eq_true rfl⟩
set_option maxRecDepth 100000 in
theorem insX1_addParts : eW (.instanceMethod yX1_addParts) := ⟨List.mem_of_getElem? (i := 340) rfl, rfl⟩
set_option maxRecDepth 100000 in
theorem selX1_addParts : eW (.selects RX1 yX1_addParts yX1_addParts) := ⟨List.mem_of_getElem? (i := 341) rfl, rfl⟩
set_option maxRecDepth 100000 in
theorem ariX1_addParts : eAri MX1_addParts 1 := by unfold eAri; decide +kernel
set_option maxRecDepth 100000 in
theorem mthX1_removeWithAllOver : eMeth MX1_removeWithAllOver := ⟨⟨List.mem_of_getElem? (i := 373) rfl, rfl⟩, ini_RX1, cne_RX1, pln_RX1, Nat.le_of_ble_eq_true rfl⟩
set_option maxRecDepth 100000 in
theorem insX1_removeWithAllOver : eW (.instanceMethod yX1_removeWithAllOver) := ⟨List.mem_of_getElem? (i := 371) rfl, rfl⟩
set_option maxRecDepth 100000 in
theorem selX1_removeWithAllOver : eW (.selects RX1 yX1_removeWithAllOver yX1_removeWithAllOver) := ⟨List.mem_of_getElem? (i := 372) rfl, rfl⟩
set_option maxRecDepth 100000 in
theorem ariX1_removeWithAllOver : eAri MX1_removeWithAllOver 1 := by unfold eAri; decide +kernel
set_option maxRecDepth 100000 in
theorem mthX1_empty : eMeth MX1_empty := ⟨⟨List.mem_of_getElem? (i := 172) rfl, rfl⟩, ini_RX1, cne_RX1, pln_RX1, Nat.le_of_ble_eq_true rfl⟩
set_option maxRecDepth 100000 in
theorem insX1_empty : eW (.instanceMethod yX1_empty) := ⟨List.mem_of_getElem? (i := 170) rfl, rfl⟩
set_option maxRecDepth 100000 in
theorem selX1_empty : eW (.selects RX1 yX1_empty yX1_empty) := ⟨List.mem_of_getElem? (i := 171) rfl, rfl⟩
set_option maxRecDepth 100000 in
theorem ariX1_empty : eAri MX1_empty 0 := by unfold eAri; decide +kernel
set_option maxRecDepth 100000 in
theorem mthX1_become : eMeth MX1_become := ⟨⟨List.mem_of_getElem? (i := 201) rfl, rfl⟩, ini_RX1, cne_RX1, pln_RX1, Nat.le_of_ble_eq_true rfl⟩
set_option maxRecDepth 100000 in
theorem insX1_become : eW (.instanceMethod yX1_become) := ⟨List.mem_of_getElem? (i := 199) rfl, rfl⟩
set_option maxRecDepth 100000 in
theorem selX1_become : eW (.selects RX1 yX1_become yX1_become) := ⟨List.mem_of_getElem? (i := 200) rfl, rfl⟩
set_option maxRecDepth 100000 in
theorem ariX1_become : eAri MX1_become 1 := by unfold eAri; decide +kernel
set_option maxRecDepth 100000 in
theorem mthX1_becomeUnion : eMeth MX1_becomeUnion := ⟨⟨List.mem_of_getElem? (i := 398) rfl, rfl⟩, ini_RX1, cne_RX1, pln_RX1, Nat.le_of_ble_eq_true rfl⟩
set_option maxRecDepth 100000 in
theorem insX1_becomeUnion : eW (.instanceMethod yX1_becomeUnion) := ⟨List.mem_of_getElem? (i := 396) rfl, rfl⟩
set_option maxRecDepth 100000 in
theorem selX1_becomeUnion : eW (.selects RX1 yX1_becomeUnion yX1_becomeUnion) := ⟨List.mem_of_getElem? (i := 397) rfl, rfl⟩
set_option maxRecDepth 100000 in
theorem ariX1_becomeUnion : eAri MX1_becomeUnion 2 := by unfold eAri; decide +kernel
set_option maxRecDepth 100000 in
theorem mthX1_becomeMeeting : eMeth MX1_becomeMeeting := ⟨⟨List.mem_of_getElem? (i := 409) rfl, rfl⟩, ini_RX1, cne_RX1, pln_RX1, Nat.le_of_ble_eq_true rfl⟩
set_option maxRecDepth 100000 in
theorem insX1_becomeMeeting : eW (.instanceMethod yX1_becomeMeeting) := ⟨List.mem_of_getElem? (i := 407) rfl, rfl⟩
set_option maxRecDepth 100000 in
theorem selX1_becomeMeeting : eW (.selects RX1 yX1_becomeMeeting yX1_becomeMeeting) := ⟨List.mem_of_getElem? (i := 408) rfl, rfl⟩
set_option maxRecDepth 100000 in
theorem ariX1_becomeMeeting : eAri MX1_becomeMeeting 2 := by unfold eAri; decide +kernel
set_option maxRecDepth 100000 in
theorem mthX1_isEmpty : eMeth MX1_isEmpty := ⟨⟨List.mem_of_getElem? (i := 227) rfl, rfl⟩, ini_RX1, cne_RX1, pln_RX1, Nat.le_of_ble_eq_true rfl⟩
set_option maxRecDepth 100000 in
theorem insX1_isEmpty : eW (.instanceMethod yX1_isEmpty) := ⟨List.mem_of_getElem? (i := 225) rfl, rfl⟩
set_option maxRecDepth 100000 in
theorem selX1_isEmpty : eW (.selects RX1 yX1_isEmpty yX1_isEmpty) := ⟨List.mem_of_getElem? (i := 226) rfl, rfl⟩
set_option maxRecDepth 100000 in
theorem ariX1_isEmpty : eAri MX1_isEmpty 0 := by unfold eAri; decide +kernel
set_option maxRecDepth 100000 in
theorem mthX1_isLike : eMeth MX1_isLike := ⟨⟨List.mem_of_getElem? (i := 621) rfl, rfl⟩, ini_RX1, cne_RX1, pln_RX1, Nat.le_of_ble_eq_true rfl⟩
set_option maxRecDepth 100000 in
theorem insX1_isLike : eW (.instanceMethod yX1_isLike) := ⟨List.mem_of_getElem? (i := 619) rfl, rfl⟩
set_option maxRecDepth 100000 in
theorem selX1_isLike : eW (.selects RX1 yX1_isLike yX1_isLike) := ⟨List.mem_of_getElem? (i := 620) rfl, rfl⟩
set_option maxRecDepth 100000 in
theorem ariX1_isLike : eAri MX1_isLike 1 := by unfold eAri; decide +kernel
set_option maxRecDepth 100000 in
theorem mthX1_holdsAll : eMeth MX1_holdsAll := ⟨⟨List.mem_of_getElem? (i := 632) rfl, rfl⟩, ini_RX1, cne_RX1, pln_RX1, Nat.le_of_ble_eq_true rfl⟩
set_option maxRecDepth 100000 in
theorem insX1_holdsAll : eW (.instanceMethod yX1_holdsAll) := ⟨List.mem_of_getElem? (i := 630) rfl, rfl⟩
set_option maxRecDepth 100000 in
theorem selX1_holdsAll : eW (.selects RX1 yX1_holdsAll yX1_holdsAll) := ⟨List.mem_of_getElem? (i := 631) rfl, rfl⟩
set_option maxRecDepth 100000 in
theorem ariX1_holdsAll : eAri MX1_holdsAll 1 := by unfold eAri; decide +kernel
set_option maxRecDepth 100000 in
theorem mthX1_count : eMeth MX1_count := ⟨⟨List.mem_of_getElem? (i := 205) rfl, rfl⟩, ini_RX1, cne_RX1, pln_RX1, Nat.le_of_ble_eq_true rfl⟩
set_option maxRecDepth 100000 in
theorem insX1_count : eW (.instanceMethod yX1_count) := ⟨List.mem_of_getElem? (i := 203) rfl, rfl⟩
set_option maxRecDepth 100000 in
theorem selX1_count : eW (.selects RX1 yX1_count yX1_count) := ⟨List.mem_of_getElem? (i := 204) rfl, rfl⟩
set_option maxRecDepth 100000 in
theorem ariX1_count : eAri MX1_count 0 := by unfold eAri; decide +kernel
set_option maxRecDepth 100000 in
theorem mthX1_countBeyond : eMeth MX1_countBeyond := ⟨⟨List.mem_of_getElem? (i := 526) rfl, rfl⟩, ini_RX1, cne_RX1, pln_RX1, Nat.le_of_ble_eq_true rfl⟩
set_option maxRecDepth 100000 in
theorem insX1_countBeyond : eW (.instanceMethod yX1_countBeyond) := ⟨List.mem_of_getElem? (i := 524) rfl, rfl⟩
set_option maxRecDepth 100000 in
theorem selX1_countBeyond : eW (.selects RX1 yX1_countBeyond yX1_countBeyond) := ⟨List.mem_of_getElem? (i := 525) rfl, rfl⟩
set_option maxRecDepth 100000 in
theorem ariX1_countBeyond : eAri MX1_countBeyond 1 := by unfold eAri; decide +kernel
set_option maxRecDepth 100000 in
theorem mthX1_countAt : eMeth MX1_countAt := ⟨⟨List.mem_of_getElem? (i := 567) rfl, rfl⟩, ini_RX1, cne_RX1, pln_RX1, Nat.le_of_ble_eq_true rfl⟩
set_option maxRecDepth 100000 in
theorem insX1_countAt : eW (.instanceMethod yX1_countAt) := ⟨List.mem_of_getElem? (i := 565) rfl, rfl⟩
set_option maxRecDepth 100000 in
theorem selX1_countAt : eW (.selects RX1 yX1_countAt yX1_countAt) := ⟨List.mem_of_getElem? (i := 566) rfl, rfl⟩
set_option maxRecDepth 100000 in
theorem ariX1_countAt : eAri MX1_countAt 1 := by unfold eAri; decide +kernel
set_option maxRecDepth 100000 in
theorem mthX1_signedCount : eMeth MX1_signedCount := ⟨⟨List.mem_of_getElem? (i := 702) rfl, rfl⟩, ini_RX1, cne_RX1, pln_RX1, Nat.le_of_ble_eq_true rfl⟩
set_option maxRecDepth 100000 in
theorem insX1_signedCount : eW (.instanceMethod yX1_signedCount) := ⟨List.mem_of_getElem? (i := 700) rfl, rfl⟩
set_option maxRecDepth 100000 in
theorem selX1_signedCount : eW (.selects RX1 yX1_signedCount yX1_signedCount) := ⟨List.mem_of_getElem? (i := 701) rfl, rfl⟩
set_option maxRecDepth 100000 in
theorem ariX1_signedCount : eAri MX1_signedCount 0 := by unfold eAri; decide +kernel
set_option maxRecDepth 100000 in
theorem mthX1_heightSum : eMeth MX1_heightSum := ⟨⟨List.mem_of_getElem? (i := 748) rfl, rfl⟩, ini_RX1, cne_RX1, pln_RX1, Nat.le_of_ble_eq_true rfl⟩
set_option maxRecDepth 100000 in
theorem insX1_heightSum : eW (.instanceMethod yX1_heightSum) := ⟨List.mem_of_getElem? (i := 746) rfl, rfl⟩
set_option maxRecDepth 100000 in
theorem selX1_heightSum : eW (.selects RX1 yX1_heightSum yX1_heightSum) := ⟨List.mem_of_getElem? (i := 747) rfl, rfl⟩
set_option maxRecDepth 100000 in
theorem ariX1_heightSum : eAri MX1_heightSum 0 := by unfold eAri; decide +kernel
set_option maxRecDepth 100000 in
theorem mthX1_cornerSet : eMeth MX1_cornerSet := ⟨⟨List.mem_of_getElem? (i := 505) rfl, rfl⟩, ini_RX1, cne_RX1, pln_RX1, Nat.le_of_ble_eq_true rfl⟩
set_option maxRecDepth 100000 in
theorem insX1_cornerSet : eW (.instanceMethod yX1_cornerSet) := ⟨List.mem_of_getElem? (i := 503) rfl, rfl⟩
set_option maxRecDepth 100000 in
theorem selX1_cornerSet : eW (.selects RX1 yX1_cornerSet yX1_cornerSet) := ⟨List.mem_of_getElem? (i := 504) rfl, rfl⟩
set_option maxRecDepth 100000 in
theorem ariX1_cornerSet : eAri MX1_cornerSet 0 := by unfold eAri; decide +kernel
set_option maxRecDepth 100000 in
theorem mthX1_faceAt : eMeth MX1_faceAt := ⟨⟨List.mem_of_getElem? (i := 609) rfl, rfl⟩, ini_RX1, cne_RX1, pln_RX1, Nat.le_of_ble_eq_true rfl⟩
set_option maxRecDepth 100000 in
theorem insX1_faceAt : eW (.instanceMethod yX1_faceAt) := ⟨List.mem_of_getElem? (i := 607) rfl, rfl⟩
set_option maxRecDepth 100000 in
theorem selX1_faceAt : eW (.selects RX1 yX1_faceAt yX1_faceAt) := ⟨List.mem_of_getElem? (i := 608) rfl, rfl⟩
set_option maxRecDepth 100000 in
theorem ariX1_faceAt : eAri MX1_faceAt 1 := by unfold eAri; decide +kernel
set_option maxRecDepth 100000 in
theorem mthX1_countOver : eMeth MX1_countOver := ⟨⟨List.mem_of_getElem? (i := 537) rfl, rfl⟩, ini_RX1, cne_RX1, pln_RX1, Nat.le_of_ble_eq_true rfl⟩
set_option maxRecDepth 100000 in
theorem insX1_countOver : eW (.instanceMethod yX1_countOver) := ⟨List.mem_of_getElem? (i := 535) rfl, rfl⟩
set_option maxRecDepth 100000 in
theorem selX1_countOver : eW (.selects RX1 yX1_countOver yX1_countOver) := ⟨List.mem_of_getElem? (i := 536) rfl, rfl⟩
set_option maxRecDepth 100000 in
theorem ariX1_countOver : eAri MX1_countOver 1 := by unfold eAri; decide +kernel
set_option maxRecDepth 100000 in
theorem mthX1_firstOver : eMeth MX1_firstOver := ⟨⟨List.mem_of_getElem? (i := 542) rfl, rfl⟩, ini_RX1, cne_RX1, pln_RX1, Nat.le_of_ble_eq_true rfl⟩
set_option maxRecDepth 100000 in
theorem insX1_firstOver : eW (.instanceMethod yX1_firstOver) := ⟨List.mem_of_getElem? (i := 540) rfl, rfl⟩
set_option maxRecDepth 100000 in
theorem selX1_firstOver : eW (.selects RX1 yX1_firstOver yX1_firstOver) := ⟨List.mem_of_getElem? (i := 541) rfl, rfl⟩
set_option maxRecDepth 100000 in
theorem ariX1_firstOver : eAri MX1_firstOver 1 := by unfold eAri; decide +kernel
set_option maxRecDepth 100000 in
theorem mthX2_init : eMeth MX2_init := ⟨⟨List.mem_of_getElem? (i := 117) rfl, rfl⟩, ini_RX2, cne_RX2, pln_RX2, Nat.le_of_ble_eq_true rfl⟩
set_option maxRecDepth 100000 in
theorem insX2_init : eW (.instanceMethod yX2_init) := ⟨List.mem_of_getElem? (i := 116) rfl, rfl⟩
set_option maxRecDepth 100000 in
theorem ariX2_init : eAri MX2_init 0 := by unfold eAri; decide +kernel
set_option maxRecDepth 100000 in
theorem mthX2_tell : eMeth MX2_tell := ⟨⟨List.mem_of_getElem? (i := 779) rfl, rfl⟩, ini_RX2, cne_RX2, pln_RX2, Nat.le_of_ble_eq_true rfl⟩
set_option maxRecDepth 100000 in
theorem insX2_tell : eW (.instanceMethod yX2_tell) := ⟨List.mem_of_getElem? (i := 777) rfl, rfl⟩
set_option maxRecDepth 100000 in
theorem selX2_tell : eW (.selects RX2 yX2_tell yX2_tell) := ⟨List.mem_of_getElem? (i := 778) rfl, rfl⟩
set_option maxRecDepth 100000 in
theorem ariX2_tell : eAri MX2_tell 2 := by unfold eAri; decide +kernel
set_option maxRecDepth 100000 in
theorem mthX2_at : eMeth MX2_at := ⟨⟨List.mem_of_getElem? (i := 835) rfl, rfl⟩, ini_RX2, cne_RX2, pln_RX2, Nat.le_of_ble_eq_true rfl⟩
set_option maxRecDepth 100000 in
theorem insX2_at : eW (.instanceMethod yX2_at) := ⟨List.mem_of_getElem? (i := 833) rfl, rfl⟩
set_option maxRecDepth 100000 in
theorem selX2_at : eW (.selects RX2 yX2_at yX2_at) := ⟨List.mem_of_getElem? (i := 834) rfl, rfl⟩
set_option maxRecDepth 100000 in
theorem ariX2_at : eAri MX2_at 1 := by unfold eAri; decide +kernel
set_option maxRecDepth 100000 in
theorem mthX2_areNone : eMeth MX2_areNone := ⟨⟨List.mem_of_getElem? (i := 826) rfl, rfl⟩, ini_RX2, cne_RX2, pln_RX2, Nat.le_of_ble_eq_true rfl⟩
set_option maxRecDepth 100000 in
theorem insX2_areNone : eW (.instanceMethod yX2_areNone) := ⟨List.mem_of_getElem? (i := 824) rfl, rfl⟩
set_option maxRecDepth 100000 in
theorem selX2_areNone : eW (.selects RX2 yX2_areNone yX2_areNone) := ⟨List.mem_of_getElem? (i := 825) rfl, rfl⟩
set_option maxRecDepth 100000 in
theorem ariX2_areNone : eAri MX2_areNone 0 := by unfold eAri; decide +kernel
set_option maxRecDepth 100000 in
theorem mthX2_signedSum : eMeth MX2_signedSum := ⟨⟨List.mem_of_getElem? (i := 787) rfl, rfl⟩, ini_RX2, cne_RX2, pln_RX2, Nat.le_of_ble_eq_true rfl⟩
set_option maxRecDepth 100000 in
theorem insX2_signedSum : eW (.instanceMethod yX2_signedSum) := ⟨List.mem_of_getElem? (i := 785) rfl, rfl⟩
set_option maxRecDepth 100000 in
theorem selX2_signedSum : eW (.selects RX2 yX2_signedSum yX2_signedSum) := ⟨List.mem_of_getElem? (i := 786) rfl, rfl⟩
set_option maxRecDepth 100000 in
theorem ariX2_signedSum : eAri MX2_signedSum 0 := by unfold eAri; decide +kernel
set_option maxRecDepth 100000 in
theorem mthX2_differAt : eMeth MX2_differAt := ⟨⟨List.mem_of_getElem? (i := 864) rfl, rfl⟩, ini_RX2, cne_RX2, pln_RX2, Nat.le_of_ble_eq_true rfl⟩
set_option maxRecDepth 100000 in
theorem insX2_differAt : eW (.instanceMethod yX2_differAt) := ⟨List.mem_of_getElem? (i := 862) rfl, rfl⟩
set_option maxRecDepth 100000 in
theorem selX2_differAt : eW (.selects RX2 yX2_differAt yX2_differAt) := ⟨List.mem_of_getElem? (i := 863) rfl, rfl⟩
set_option maxRecDepth 100000 in
theorem ariX2_differAt : eAri MX2_differAt 3 := by unfold eAri; decide +kernel
set_option maxRecDepth 100000 in
theorem mthX2_areLike : eMeth MX2_areLike := ⟨⟨List.mem_of_getElem? (i := 860) rfl, rfl⟩, ini_RX2, cne_RX2, pln_RX2, Nat.le_of_ble_eq_true rfl⟩
set_option maxRecDepth 100000 in
theorem insX2_areLike : eW (.instanceMethod yX2_areLike) := ⟨List.mem_of_getElem? (i := 858) rfl, rfl⟩
set_option maxRecDepth 100000 in
theorem selX2_areLike : eW (.selects RX2 yX2_areLike yX2_areLike) := ⟨List.mem_of_getElem? (i := 859) rfl, rfl⟩
set_option maxRecDepth 100000 in
theorem ariX2_areLike : eAri MX2_areLike 1 := by unfold eAri; decide +kernel
set_option maxRecDepth 100000 in
theorem mthX3_makeLow : eMeth MX3_makeLow := ⟨⟨List.mem_of_getElem? (i := 431) rfl, rfl⟩, ini_RX3, cne_RX3, pln_RX3, Nat.le_of_ble_eq_true rfl⟩
set_option maxRecDepth 100000 in
theorem staX3_makeLow : eW (.static yX3_makeLow) := ⟨List.mem_of_getElem? (i := 430) rfl, rfl⟩
set_option maxRecDepth 100000 in
theorem ariX3_makeLow : eAri MX3_makeLow 3 := by unfold eAri; decide +kernel
set_option maxRecDepth 100000 in
theorem mthX3_makeAbout : eMeth MX3_makeAbout := ⟨⟨List.mem_of_getElem? (i := 445) rfl, rfl⟩, ini_RX3, cne_RX3, pln_RX3, Nat.le_of_ble_eq_true rfl⟩
set_option maxRecDepth 100000 in
theorem staX3_makeAbout : eW (.static yX3_makeAbout) := ⟨List.mem_of_getElem? (i := 444) rfl, rfl⟩
set_option maxRecDepth 100000 in
theorem ariX3_makeAbout : eAri MX3_makeAbout 4 := by unfold eAri; decide +kernel
set_option maxRecDepth 100000 in
theorem mthX3_makeCone : eMeth MX3_makeCone := ⟨⟨List.mem_of_getElem? (i := 479) rfl, rfl⟩, ini_RX3, cne_RX3, pln_RX3, Nat.le_of_ble_eq_true rfl⟩
set_option maxRecDepth 100000 in
theorem staX3_makeCone : eW (.static yX3_makeCone) := ⟨List.mem_of_getElem? (i := 478) rfl, rfl⟩
set_option maxRecDepth 100000 in
theorem ariX3_makeCone : eAri MX3_makeCone 3 := by unfold eAri; decide +kernel
set_option maxRecDepth 100000 in
theorem mthX3_makeLift : eMeth MX3_makeLift := ⟨⟨List.mem_of_getElem? (i := 494) rfl, rfl⟩, ini_RX3, cne_RX3, pln_RX3, Nat.le_of_ble_eq_true rfl⟩
set_option maxRecDepth 100000 in
theorem staX3_makeLift : eW (.static yX3_makeLift) := ⟨List.mem_of_getElem? (i := 493) rfl, rfl⟩
set_option maxRecDepth 100000 in
theorem ariX3_makeLift : eAri MX3_makeLift 4 := by unfold eAri; decide +kernel
set_option maxRecDepth 100000 in
theorem mthX3_addJoined : eMeth MX3_addJoined := ⟨⟨List.mem_of_getElem? (i := 483) rfl, rfl⟩, ini_RX3, cne_RX3, pln_RX3, Nat.le_of_ble_eq_true rfl⟩
set_option maxRecDepth 100000 in
theorem staX3_addJoined : eW (.static yX3_addJoined) := ⟨List.mem_of_getElem? (i := 482) rfl, rfl⟩
set_option maxRecDepth 100000 in
theorem ariX3_addJoined : eAri MX3_addJoined 3 := by unfold eAri; decide +kernel
set_option maxRecDepth 100000 in
theorem mthX3_makeOther : eMeth MX3_makeOther := ⟨⟨List.mem_of_getElem? (i := 509) rfl, rfl⟩, ini_RX3, cne_RX3, pln_RX3, Nat.le_of_ble_eq_true rfl⟩
set_option maxRecDepth 100000 in
theorem staX3_makeOther : eW (.static yX3_makeOther) := ⟨List.mem_of_getElem? (i := 508) rfl, rfl⟩
set_option maxRecDepth 100000 in
theorem ariX3_makeOther : eAri MX3_makeOther 3 := by unfold eAri; decide +kernel
set_option maxRecDepth 100000 in
theorem mthX3_makeExchanged : eMeth MX3_makeExchanged := ⟨⟨List.mem_of_getElem? (i := 519) rfl, rfl⟩, ini_RX3, cne_RX3, pln_RX3, Nat.le_of_ble_eq_true rfl⟩
set_option maxRecDepth 100000 in
theorem staX3_makeExchanged : eW (.static yX3_makeExchanged) := ⟨List.mem_of_getElem? (i := 518) rfl, rfl⟩
set_option maxRecDepth 100000 in
theorem ariX3_makeExchanged : eAri MX3_makeExchanged 4 := by unfold eAri; decide +kernel
set_option maxRecDepth 100000 in
theorem mthX3_exchanged : eMeth MX3_exchanged := ⟨⟨List.mem_of_getElem? (i := 522) rfl, rfl⟩, ini_RX3, cne_RX3, pln_RX3, Nat.le_of_ble_eq_true rfl⟩
set_option maxRecDepth 100000 in
theorem staX3_exchanged : eW (.static yX3_exchanged) := ⟨List.mem_of_getElem? (i := 521) rfl, rfl⟩
set_option maxRecDepth 100000 in
theorem ariX3_exchanged : eAri MX3_exchanged 3 := by unfold eAri; decide +kernel
set_option maxRecDepth 100000 in
theorem mthX3_makeGreatest : eMeth MX3_makeGreatest := ⟨⟨List.mem_of_getElem? (i := 592) rfl, rfl⟩, ini_RX3, cne_RX3, pln_RX3, Nat.le_of_ble_eq_true rfl⟩
set_option maxRecDepth 100000 in
theorem staX3_makeGreatest : eW (.static yX3_makeGreatest) := ⟨List.mem_of_getElem? (i := 591) rfl, rfl⟩
set_option maxRecDepth 100000 in
theorem ariX3_makeGreatest : eAri MX3_makeGreatest 2 := by unfold eAri; decide +kernel
set_option maxRecDepth 100000 in
theorem mthX3_liesInAnother : eMeth MX3_liesInAnother := ⟨⟨List.mem_of_getElem? (i := 595) rfl, rfl⟩, ini_RX3, cne_RX3, pln_RX3, Nat.le_of_ble_eq_true rfl⟩
set_option maxRecDepth 100000 in
theorem staX3_liesInAnother : eW (.static yX3_liesInAnother) := ⟨List.mem_of_getElem? (i := 594) rfl, rfl⟩
set_option maxRecDepth 100000 in
theorem ariX3_liesInAnother : eAri MX3_liesInAnother 2 := by unfold eAri; decide +kernel
set_option maxRecDepth 100000 in
theorem mthX4_init : eMeth MX4_init := ⟨⟨List.mem_of_getElem? (i := 74) rfl, rfl⟩, ini_RX4, cne_RX4, pln_RX4, Nat.le_of_ble_eq_true rfl⟩
set_option maxRecDepth 100000 in
theorem insX4_init : eW (.instanceMethod yX4_init) := ⟨List.mem_of_getElem? (i := 73) rfl, rfl⟩
set_option maxRecDepth 100000 in
theorem ariX4_init : eAri MX4_init 0 := by unfold eAri; decide +kernel
set_option maxRecDepth 100000 in
theorem mthX4_borders : eMeth MX4_borders := ⟨⟨List.mem_of_getElem? (i := 145) rfl, rfl⟩, ini_RX4, cne_RX4, pln_RX4, Nat.le_of_ble_eq_true rfl⟩
set_option maxRecDepth 100000 in
theorem insX4_borders : eW (.instanceMethod yX4_borders) := ⟨List.mem_of_getElem? (i := 143) rfl, rfl⟩
set_option maxRecDepth 100000 in
theorem selX4_borders : eW (.selects RX4 yX4_borders yX4_borders) := ⟨List.mem_of_getElem? (i := 144) rfl, rfl⟩
set_option maxRecDepth 100000 in
theorem ariX4_borders : eAri MX4_borders 0 := by unfold eAri; decide +kernel
set_option maxRecDepth 100000 in
theorem mthX4_tellsRow : eMeth MX4_tellsRow := ⟨⟨List.mem_of_getElem? (i := 791) rfl, rfl⟩, ini_RX4, cne_RX4, pln_RX4, Nat.le_of_ble_eq_true rfl⟩
set_option maxRecDepth 100000 in
theorem insX4_tellsRow : eW (.instanceMethod yX4_tellsRow) := ⟨List.mem_of_getElem? (i := 789) rfl, rfl⟩
set_option maxRecDepth 100000 in
theorem selX4_tellsRow : eW (.selects RX4 yX4_tellsRow yX4_tellsRow) := ⟨List.mem_of_getElem? (i := 790) rfl, rfl⟩
set_option maxRecDepth 100000 in
theorem ariX4_tellsRow : eAri MX4_tellsRow 2 := by unfold eAri; decide +kernel
set_option maxRecDepth 100000 in
theorem mthX4_tellsFilling : eMeth MX4_tellsFilling := ⟨⟨List.mem_of_getElem? (i := 797) rfl, rfl⟩, ini_RX4, cne_RX4, pln_RX4, Nat.le_of_ble_eq_true rfl⟩
set_option maxRecDepth 100000 in
theorem insX4_tellsFilling : eW (.instanceMethod yX4_tellsFilling) := ⟨List.mem_of_getElem? (i := 796) rfl, rfl⟩
set_option maxRecDepth 100000 in
theorem selX4_tellsFilling : eW (.selects RX4 yX4_tellsFilling yX4_tellsFilling) := ⟨List.mem_of_getElem? (i := 7) rfl, rfl⟩
set_option maxRecDepth 100000 in
theorem ariX4_tellsFilling : eAri MX4_tellsFilling 3 := by unfold eAri; decide +kernel
set_option maxRecDepth 100000 in
theorem mthX4_tellsPieces : eMeth MX4_tellsPieces := ⟨⟨List.mem_of_getElem? (i := 766) rfl, rfl⟩, ini_RX4, cne_RX4, pln_RX4, Nat.le_of_ble_eq_true rfl⟩
set_option maxRecDepth 100000 in
theorem insX4_tellsPieces : eW (.instanceMethod yX4_tellsPieces) := ⟨List.mem_of_getElem? (i := 764) rfl, rfl⟩
set_option maxRecDepth 100000 in
theorem selX4_tellsPieces : eW (.selects RX4 yX4_tellsPieces yX4_tellsPieces) := ⟨List.mem_of_getElem? (i := 765) rfl, rfl⟩
set_option maxRecDepth 100000 in
theorem ariX4_tellsPieces : eAri MX4_tellsPieces 1 := by unfold eAri; decide +kernel
set_option maxRecDepth 100000 in
theorem mthX4_tellsSignedCount : eMeth MX4_tellsSignedCount := ⟨⟨List.mem_of_getElem? (i := 775) rfl, rfl⟩, ini_RX4, cne_RX4, pln_RX4, Nat.le_of_ble_eq_true rfl⟩
set_option maxRecDepth 100000 in
theorem insX4_tellsSignedCount : eW (.instanceMethod yX4_tellsSignedCount) := ⟨List.mem_of_getElem? (i := 773) rfl, rfl⟩
set_option maxRecDepth 100000 in
theorem selX4_tellsSignedCount : eW (.selects RX4 yX4_tellsSignedCount yX4_tellsSignedCount) := ⟨List.mem_of_getElem? (i := 774) rfl, rfl⟩
set_option maxRecDepth 100000 in
theorem ariX4_tellsSignedCount : eAri MX4_tellsSignedCount 1 := by unfold eAri; decide +kernel
set_option maxRecDepth 100000 in
theorem mthX4_tellsCone : eMeth MX4_tellsCone := ⟨⟨List.mem_of_getElem? (i := 815) rfl, rfl⟩, ini_RX4, cne_RX4, pln_RX4, Nat.le_of_ble_eq_true rfl⟩
set_option maxRecDepth 100000 in
theorem insX4_tellsCone : eW (.instanceMethod yX4_tellsCone) := ⟨List.mem_of_getElem? (i := 813) rfl, rfl⟩
set_option maxRecDepth 100000 in
theorem selX4_tellsCone : eW (.selects RX4 yX4_tellsCone yX4_tellsCone) := ⟨List.mem_of_getElem? (i := 814) rfl, rfl⟩
set_option maxRecDepth 100000 in
theorem ariX4_tellsCone : eAri MX4_tellsCone 1 := by unfold eAri; decide +kernel
set_option maxRecDepth 100000 in
theorem mthX4_tellsAbout : eMeth MX4_tellsAbout := ⟨⟨List.mem_of_getElem? (i := 876) rfl, rfl⟩, ini_RX4, cne_RX4, pln_RX4, Nat.le_of_ble_eq_true rfl⟩
set_option maxRecDepth 100000 in
theorem insX4_tellsAbout : eW (.instanceMethod yX4_tellsAbout) := ⟨List.mem_of_getElem? (i := 874) rfl, rfl⟩
set_option maxRecDepth 100000 in
theorem selX4_tellsAbout : eW (.selects RX4 yX4_tellsAbout yX4_tellsAbout) := ⟨List.mem_of_getElem? (i := 875) rfl, rfl⟩
set_option maxRecDepth 100000 in
theorem ariX4_tellsAbout : eAri MX4_tellsAbout 2 := by unfold eAri; decide +kernel
set_option maxRecDepth 100000 in
theorem mthX4_isOneWithoutHoles : eMeth MX4_isOneWithoutHoles := ⟨⟨List.mem_of_getElem? (i := 822) rfl, rfl⟩, ini_RX4, cne_RX4, pln_RX4, Nat.le_of_ble_eq_true rfl⟩
set_option maxRecDepth 100000 in
theorem insX4_isOneWithoutHoles : eW (.instanceMethod yX4_isOneWithoutHoles) := ⟨List.mem_of_getElem? (i := 821) rfl, rfl⟩
set_option maxRecDepth 100000 in
theorem selX4_isOneWithoutHoles : eW (.selects RX4 yX4_isOneWithoutHoles yX4_isOneWithoutHoles) := ⟨List.mem_of_getElem? (i := 8) rfl, rfl⟩
set_option maxRecDepth 100000 in
theorem ariX4_isOneWithoutHoles : eAri MX4_isOneWithoutHoles 1 := by unfold eAri; decide +kernel
set_option maxRecDepth 100000 in
theorem mthX4_tellsLift : eMeth MX4_tellsLift := ⟨⟨List.mem_of_getElem? (i := 830) rfl, rfl⟩, ini_RX4, cne_RX4, pln_RX4, Nat.le_of_ble_eq_true rfl⟩
set_option maxRecDepth 100000 in
theorem insX4_tellsLift : eW (.instanceMethod yX4_tellsLift) := ⟨List.mem_of_getElem? (i := 828) rfl, rfl⟩
set_option maxRecDepth 100000 in
theorem selX4_tellsLift : eW (.selects RX4 yX4_tellsLift yX4_tellsLift) := ⟨List.mem_of_getElem? (i := 829) rfl, rfl⟩
set_option maxRecDepth 100000 in
theorem ariX4_tellsLift : eAri MX4_tellsLift 1 := by unfold eAri; decide +kernel
set_option maxRecDepth 100000 in
theorem mthX4_tellsTouching : eMeth MX4_tellsTouching := ⟨⟨List.mem_of_getElem? (i := 907) rfl, rfl⟩, ini_RX4, cne_RX4, pln_RX4, Nat.le_of_ble_eq_true rfl⟩
set_option maxRecDepth 100000 in
theorem insX4_tellsTouching : eW (.instanceMethod yX4_tellsTouching) := ⟨List.mem_of_getElem? (i := 905) rfl, rfl⟩
set_option maxRecDepth 100000 in
theorem selX4_tellsTouching : eW (.selects RX4 yX4_tellsTouching yX4_tellsTouching) := ⟨List.mem_of_getElem? (i := 906) rfl, rfl⟩
set_option maxRecDepth 100000 in
theorem ariX4_tellsTouching : eAri MX4_tellsTouching 2 := by unfold eAri; decide +kernel
set_option maxRecDepth 100000 in
theorem mthX4_tellsFold : eMeth MX4_tellsFold := ⟨⟨List.mem_of_getElem? (i := 881) rfl, rfl⟩, ini_RX4, cne_RX4, pln_RX4, Nat.le_of_ble_eq_true rfl⟩
set_option maxRecDepth 100000 in
theorem insX4_tellsFold : eW (.instanceMethod yX4_tellsFold) := ⟨List.mem_of_getElem? (i := 879) rfl, rfl⟩
set_option maxRecDepth 100000 in
theorem selX4_tellsFold : eW (.selects RX4 yX4_tellsFold yX4_tellsFold) := ⟨List.mem_of_getElem? (i := 880) rfl, rfl⟩
set_option maxRecDepth 100000 in
theorem ariX4_tellsFold : eAri MX4_tellsFold 2 := by unfold eAri; decide +kernel
set_option maxRecDepth 100000 in
theorem mthX4_tellsTaking : eMeth MX4_tellsTaking := ⟨⟨List.mem_of_getElem? (i := 889) rfl, rfl⟩, ini_RX4, cne_RX4, pln_RX4, Nat.le_of_ble_eq_true rfl⟩
set_option maxRecDepth 100000 in
theorem insX4_tellsTaking : eW (.instanceMethod yX4_tellsTaking) := ⟨List.mem_of_getElem? (i := 887) rfl, rfl⟩
set_option maxRecDepth 100000 in
theorem selX4_tellsTaking : eW (.selects RX4 yX4_tellsTaking yX4_tellsTaking) := ⟨List.mem_of_getElem? (i := 888) rfl, rfl⟩
set_option maxRecDepth 100000 in
theorem ariX4_tellsTaking : eAri MX4_tellsTaking 2 := by unfold eAri; decide +kernel
set_option maxRecDepth 100000 in
theorem mthX4_tellsSums : eMeth MX4_tellsSums := ⟨⟨List.mem_of_getElem? (i := 901) rfl, rfl⟩, ini_RX4, cne_RX4, pln_RX4, Nat.le_of_ble_eq_true rfl⟩
set_option maxRecDepth 100000 in
theorem insX4_tellsSums : eW (.instanceMethod yX4_tellsSums) := ⟨List.mem_of_getElem? (i := 899) rfl, rfl⟩
set_option maxRecDepth 100000 in
theorem selX4_tellsSums : eW (.selects RX4 yX4_tellsSums yX4_tellsSums) := ⟨List.mem_of_getElem? (i := 900) rfl, rfl⟩
set_option maxRecDepth 100000 in
theorem ariX4_tellsSums : eAri MX4_tellsSums 2 := by unfold eAri; decide +kernel
set_option maxRecDepth 100000 in
theorem mthX4_tellsOther : eMeth MX4_tellsOther := ⟨⟨List.mem_of_getElem? (i := 839) rfl, rfl⟩, ini_RX4, cne_RX4, pln_RX4, Nat.le_of_ble_eq_true rfl⟩
set_option maxRecDepth 100000 in
theorem insX4_tellsOther : eW (.instanceMethod yX4_tellsOther) := ⟨List.mem_of_getElem? (i := 837) rfl, rfl⟩
set_option maxRecDepth 100000 in
theorem selX4_tellsOther : eW (.selects RX4 yX4_tellsOther yX4_tellsOther) := ⟨List.mem_of_getElem? (i := 838) rfl, rfl⟩
set_option maxRecDepth 100000 in
theorem ariX4_tellsOther : eAri MX4_tellsOther 2 := by unfold eAri; decide +kernel
set_option maxRecDepth 100000 in
theorem mthX4_isRim : eMeth MX4_isRim := ⟨⟨List.mem_of_getElem? (i := 846) rfl, rfl⟩, ini_RX4, cne_RX4, pln_RX4, Nat.le_of_ble_eq_true rfl⟩
set_option maxRecDepth 100000 in
theorem staX4_isRim : eW (.static yX4_isRim) := ⟨List.mem_of_getElem? (i := 845) rfl, rfl⟩
set_option maxRecDepth 100000 in
theorem ariX4_isRim : eAri MX4_isRim 2 := by unfold eAri; decide +kernel
set_option maxRecDepth 100000 in
theorem mthX4_areOpposed : eMeth MX4_areOpposed := ⟨⟨List.mem_of_getElem? (i := 851) rfl, rfl⟩, ini_RX4, cne_RX4, pln_RX4, Nat.le_of_ble_eq_true rfl⟩
set_option maxRecDepth 100000 in
theorem insX4_areOpposed : eW (.instanceMethod yX4_areOpposed) := ⟨List.mem_of_getElem? (i := 850) rfl, rfl⟩
set_option maxRecDepth 100000 in
theorem selX4_areOpposed : eW (.selects RX4 yX4_areOpposed yX4_areOpposed) := ⟨List.mem_of_getElem? (i := 9) rfl, rfl⟩
set_option maxRecDepth 100000 in
theorem ariX4_areOpposed : eAri MX4_areOpposed 2 := by unfold eAri; decide +kernel
set_option maxRecDepth 100000 in
theorem mthX4_tellsExchange : eMeth MX4_tellsExchange := ⟨⟨List.mem_of_getElem? (i := 855) rfl, rfl⟩, ini_RX4, cne_RX4, pln_RX4, Nat.le_of_ble_eq_true rfl⟩
set_option maxRecDepth 100000 in
theorem insX4_tellsExchange : eW (.instanceMethod yX4_tellsExchange) := ⟨List.mem_of_getElem? (i := 853) rfl, rfl⟩
set_option maxRecDepth 100000 in
theorem selX4_tellsExchange : eW (.selects RX4 yX4_tellsExchange yX4_tellsExchange) := ⟨List.mem_of_getElem? (i := 854) rfl, rfl⟩
set_option maxRecDepth 100000 in
theorem ariX4_tellsExchange : eAri MX4_tellsExchange 3 := by unfold eAri; decide +kernel
set_option maxRecDepth 100000 in
theorem mthX5_countPieces : eMeth MX5_countPieces := ⟨⟨List.mem_of_getElem? (i := 643) rfl, rfl⟩, ini_RX5, cne_RX5, pln_RX5, Nat.le_of_ble_eq_true rfl⟩
set_option maxRecDepth 100000 in
theorem staX5_countPieces : eW (.static yX5_countPieces) := ⟨List.mem_of_getElem? (i := 642) rfl, rfl⟩
set_option maxRecDepth 100000 in
theorem ariX5_countPieces : eAri MX5_countPieces 1 := by unfold eAri; decide +kernel
set_option maxRecDepth 100000 in
theorem mthX5_pieceFrom : eMeth MX5_pieceFrom := ⟨⟨List.mem_of_getElem? (i := 650) rfl, rfl⟩, ini_RX5, cne_RX5, pln_RX5, Nat.le_of_ble_eq_true rfl⟩
set_option maxRecDepth 100000 in
theorem staX5_pieceFrom : eW (.static yX5_pieceFrom) := ⟨List.mem_of_getElem? (i := 649) rfl, rfl⟩
set_option maxRecDepth 100000 in
theorem ariX5_pieceFrom : eAri MX5_pieceFrom 2 := by unfold eAri; decide +kernel
set_option maxRecDepth 100000 in
theorem mthX5_neighbours : eMeth MX5_neighbours := ⟨⟨List.mem_of_getElem? (i := 653) rfl, rfl⟩, ini_RX5, cne_RX5, pln_RX5, Nat.le_of_ble_eq_true rfl⟩
set_option maxRecDepth 100000 in
theorem staX5_neighbours : eW (.static yX5_neighbours) := ⟨List.mem_of_getElem? (i := 652) rfl, rfl⟩
set_option maxRecDepth 100000 in
theorem ariX5_neighbours : eAri MX5_neighbours 2 := by unfold eAri; decide +kernel
set_option maxRecDepth 100000 in
theorem mthX5_areEven : eMeth MX5_areEven := ⟨⟨List.mem_of_getElem? (i := 803) rfl, rfl⟩, ini_RX5, cne_RX5, pln_RX5, Nat.le_of_ble_eq_true rfl⟩
set_option maxRecDepth 100000 in
theorem staX5_areEven : eW (.static yX5_areEven) := ⟨List.mem_of_getElem? (i := 802) rfl, rfl⟩
set_option maxRecDepth 100000 in
theorem ariX5_areEven : eAri MX5_areEven 2 := by unfold eAri; decide +kernel
set_option maxRecDepth 100000 in
theorem mthX6_init : eMeth MX6_init := ⟨⟨List.mem_of_getElem? (i := 52) rfl, rfl⟩, ini_RX6, cne_RX6, pln_RX6, Nat.le_of_ble_eq_true rfl⟩
set_option maxRecDepth 100000 in
theorem insX6_init : eW (.instanceMethod yX6_init) := ⟨List.mem_of_getElem? (i := 51) rfl, rfl⟩
set_option maxRecDepth 100000 in
theorem ariX6_init : eAri MX6_init 0 := by unfold eAri; decide +kernel
set_option maxRecDepth 100000 in
theorem mthX6_put : eMeth MX6_put := ⟨⟨List.mem_of_getElem? (i := 246) rfl, rfl⟩, ini_RX6, cne_RX6, pln_RX6, Nat.le_of_ble_eq_true rfl⟩
set_option maxRecDepth 100000 in
theorem insX6_put : eW (.instanceMethod yX6_put) := ⟨List.mem_of_getElem? (i := 244) rfl, rfl⟩
set_option maxRecDepth 100000 in
theorem selX6_put : eW (.selects RX6 yX6_put yX6_put) := ⟨List.mem_of_getElem? (i := 245) rfl, rfl⟩
set_option maxRecDepth 100000 in
theorem ariX6_put : eAri MX6_put 2 := by unfold eAri; decide +kernel
set_option maxRecDepth 100000 in
theorem mthX6_take : eMeth MX6_take := ⟨⟨List.mem_of_getElem? (i := 350) rfl, rfl⟩, ini_RX6, cne_RX6, pln_RX6, Nat.le_of_ble_eq_true rfl⟩
set_option maxRecDepth 100000 in
theorem insX6_take : eW (.instanceMethod yX6_take) := ⟨List.mem_of_getElem? (i := 348) rfl, rfl⟩
set_option maxRecDepth 100000 in
theorem selX6_take : eW (.selects RX6 yX6_take yX6_take) := ⟨List.mem_of_getElem? (i := 349) rfl, rfl⟩
set_option maxRecDepth 100000 in
theorem ariX6_take : eAri MX6_take 2 := by unfold eAri; decide +kernel
set_option maxRecDepth 100000 in
theorem mthX6_clear : eMeth MX6_clear := ⟨⟨List.mem_of_getElem? (i := 380) rfl, rfl⟩, ini_RX6, cne_RX6, pln_RX6, Nat.le_of_ble_eq_true rfl⟩
set_option maxRecDepth 100000 in
theorem insX6_clear : eW (.instanceMethod yX6_clear) := ⟨List.mem_of_getElem? (i := 378) rfl, rfl⟩
set_option maxRecDepth 100000 in
theorem selX6_clear : eW (.selects RX6 yX6_clear yX6_clear) := ⟨List.mem_of_getElem? (i := 379) rfl, rfl⟩
set_option maxRecDepth 100000 in
theorem ariX6_clear : eAri MX6_clear 1 := by unfold eAri; decide +kernel
set_option maxRecDepth 100000 in
theorem mthX6_copy : eMeth MX6_copy := ⟨⟨List.mem_of_getElem? (i := 387) rfl, rfl⟩, ini_RX6, cne_RX6, pln_RX6, Nat.le_of_ble_eq_true rfl⟩
set_option maxRecDepth 100000 in
theorem insX6_copy : eW (.instanceMethod yX6_copy) := ⟨List.mem_of_getElem? (i := 385) rfl, rfl⟩
set_option maxRecDepth 100000 in
theorem selX6_copy : eW (.selects RX6 yX6_copy yX6_copy) := ⟨List.mem_of_getElem? (i := 386) rfl, rfl⟩
set_option maxRecDepth 100000 in
theorem ariX6_copy : eAri MX6_copy 2 := by unfold eAri; decide +kernel
set_option maxRecDepth 100000 in
theorem mthX6_unite : eMeth MX6_unite := ⟨⟨List.mem_of_getElem? (i := 394) rfl, rfl⟩, ini_RX6, cne_RX6, pln_RX6, Nat.le_of_ble_eq_true rfl⟩
set_option maxRecDepth 100000 in
theorem insX6_unite : eW (.instanceMethod yX6_unite) := ⟨List.mem_of_getElem? (i := 392) rfl, rfl⟩
set_option maxRecDepth 100000 in
theorem selX6_unite : eW (.selects RX6 yX6_unite yX6_unite) := ⟨List.mem_of_getElem? (i := 393) rfl, rfl⟩
set_option maxRecDepth 100000 in
theorem ariX6_unite : eAri MX6_unite 3 := by unfold eAri; decide +kernel
set_option maxRecDepth 100000 in
theorem mthX6_meet : eMeth MX6_meet := ⟨⟨List.mem_of_getElem? (i := 405) rfl, rfl⟩, ini_RX6, cne_RX6, pln_RX6, Nat.le_of_ble_eq_true rfl⟩
set_option maxRecDepth 100000 in
theorem insX6_meet : eW (.instanceMethod yX6_meet) := ⟨List.mem_of_getElem? (i := 403) rfl, rfl⟩
set_option maxRecDepth 100000 in
theorem selX6_meet : eW (.selects RX6 yX6_meet yX6_meet) := ⟨List.mem_of_getElem? (i := 404) rfl, rfl⟩
set_option maxRecDepth 100000 in
theorem ariX6_meet : eAri MX6_meet 3 := by unfold eAri; decide +kernel
set_option maxRecDepth 100000 in
theorem mthX6_full : eMeth MX6_full := ⟨⟨List.mem_of_getElem? (i := 416) rfl, rfl⟩, ini_RX6, cne_RX6, pln_RX6, Nat.le_of_ble_eq_true rfl⟩
set_option maxRecDepth 100000 in
theorem insX6_full : eW (.instanceMethod yX6_full) := ⟨List.mem_of_getElem? (i := 414) rfl, rfl⟩
set_option maxRecDepth 100000 in
theorem selX6_full : eW (.selects RX6 yX6_full yX6_full) := ⟨List.mem_of_getElem? (i := 415) rfl, rfl⟩
set_option maxRecDepth 100000 in
theorem ariX6_full : eAri MX6_full 3 := by unfold eAri; decide +kernel
set_option maxRecDepth 100000 in
theorem mthX6_low : eMeth MX6_low := ⟨⟨List.mem_of_getElem? (i := 424) rfl, rfl⟩, ini_RX6, cne_RX6, pln_RX6, Nat.le_of_ble_eq_true rfl⟩
set_option maxRecDepth 100000 in
theorem insX6_low : eW (.instanceMethod yX6_low) := ⟨List.mem_of_getElem? (i := 422) rfl, rfl⟩
set_option maxRecDepth 100000 in
theorem selX6_low : eW (.selects RX6 yX6_low yX6_low) := ⟨List.mem_of_getElem? (i := 423) rfl, rfl⟩
set_option maxRecDepth 100000 in
theorem ariX6_low : eAri MX6_low 3 := by unfold eAri; decide +kernel
set_option maxRecDepth 100000 in
theorem mthX6_about : eMeth MX6_about := ⟨⟨List.mem_of_getElem? (i := 442) rfl, rfl⟩, ini_RX6, cne_RX6, pln_RX6, Nat.le_of_ble_eq_true rfl⟩
set_option maxRecDepth 100000 in
theorem insX6_about : eW (.instanceMethod yX6_about) := ⟨List.mem_of_getElem? (i := 440) rfl, rfl⟩
set_option maxRecDepth 100000 in
theorem selX6_about : eW (.selects RX6 yX6_about yX6_about) := ⟨List.mem_of_getElem? (i := 441) rfl, rfl⟩
set_option maxRecDepth 100000 in
theorem ariX6_about : eAri MX6_about 4 := by unfold eAri; decide +kernel
set_option maxRecDepth 100000 in
theorem mthX6_cone : eMeth MX6_cone := ⟨⟨List.mem_of_getElem? (i := 453) rfl, rfl⟩, ini_RX6, cne_RX6, pln_RX6, Nat.le_of_ble_eq_true rfl⟩
set_option maxRecDepth 100000 in
theorem insX6_cone : eW (.instanceMethod yX6_cone) := ⟨List.mem_of_getElem? (i := 451) rfl, rfl⟩
set_option maxRecDepth 100000 in
theorem selX6_cone : eW (.selects RX6 yX6_cone yX6_cone) := ⟨List.mem_of_getElem? (i := 452) rfl, rfl⟩
set_option maxRecDepth 100000 in
theorem ariX6_cone : eAri MX6_cone 3 := by unfold eAri; decide +kernel
set_option maxRecDepth 100000 in
theorem mthX6_lift : eMeth MX6_lift := ⟨⟨List.mem_of_getElem? (i := 490) rfl, rfl⟩, ini_RX6, cne_RX6, pln_RX6, Nat.le_of_ble_eq_true rfl⟩
set_option maxRecDepth 100000 in
theorem insX6_lift : eW (.instanceMethod yX6_lift) := ⟨List.mem_of_getElem? (i := 488) rfl, rfl⟩
set_option maxRecDepth 100000 in
theorem selX6_lift : eW (.selects RX6 yX6_lift yX6_lift) := ⟨List.mem_of_getElem? (i := 489) rfl, rfl⟩
set_option maxRecDepth 100000 in
theorem ariX6_lift : eAri MX6_lift 4 := by unfold eAri; decide +kernel
set_option maxRecDepth 100000 in
theorem mthX6_other : eMeth MX6_other := ⟨⟨List.mem_of_getElem? (i := 501) rfl, rfl⟩, ini_RX6, cne_RX6, pln_RX6, Nat.le_of_ble_eq_true rfl⟩
set_option maxRecDepth 100000 in
theorem insX6_other : eW (.instanceMethod yX6_other) := ⟨List.mem_of_getElem? (i := 499) rfl, rfl⟩
set_option maxRecDepth 100000 in
theorem selX6_other : eW (.selects RX6 yX6_other yX6_other) := ⟨List.mem_of_getElem? (i := 500) rfl, rfl⟩
set_option maxRecDepth 100000 in
theorem ariX6_other : eAri MX6_other 3 := by unfold eAri; decide +kernel
set_option maxRecDepth 100000 in
theorem mthX6_exchange : eMeth MX6_exchange := ⟨⟨List.mem_of_getElem? (i := 516) rfl, rfl⟩, ini_RX6, cne_RX6, pln_RX6, Nat.le_of_ble_eq_true rfl⟩
set_option maxRecDepth 100000 in
theorem insX6_exchange : eW (.instanceMethod yX6_exchange) := ⟨List.mem_of_getElem? (i := 514) rfl, rfl⟩
set_option maxRecDepth 100000 in
theorem selX6_exchange : eW (.selects RX6 yX6_exchange yX6_exchange) := ⟨List.mem_of_getElem? (i := 515) rfl, rfl⟩
set_option maxRecDepth 100000 in
theorem ariX6_exchange : eAri MX6_exchange 4 := by unfold eAri; decide +kernel
set_option maxRecDepth 100000 in
theorem mthX6_fold : eMeth MX6_fold := ⟨⟨List.mem_of_getElem? (i := 533) rfl, rfl⟩, ini_RX6, cne_RX6, pln_RX6, Nat.le_of_ble_eq_true rfl⟩
set_option maxRecDepth 100000 in
theorem insX6_fold : eW (.instanceMethod yX6_fold) := ⟨List.mem_of_getElem? (i := 531) rfl, rfl⟩
set_option maxRecDepth 100000 in
theorem selX6_fold : eW (.selects RX6 yX6_fold yX6_fold) := ⟨List.mem_of_getElem? (i := 532) rfl, rfl⟩
set_option maxRecDepth 100000 in
theorem ariX6_fold : eAri MX6_fold 2 := by unfold eAri; decide +kernel
set_option maxRecDepth 100000 in
theorem mthX6_has : eMeth MX6_has := ⟨⟨List.mem_of_getElem? (i := 549) rfl, rfl⟩, ini_RX6, cne_RX6, pln_RX6, Nat.le_of_ble_eq_true rfl⟩
set_option maxRecDepth 100000 in
theorem insX6_has : eW (.instanceMethod yX6_has) := ⟨List.mem_of_getElem? (i := 547) rfl, rfl⟩
set_option maxRecDepth 100000 in
theorem selX6_has : eW (.selects RX6 yX6_has yX6_has) := ⟨List.mem_of_getElem? (i := 548) rfl, rfl⟩
set_option maxRecDepth 100000 in
theorem ariX6_has : eAri MX6_has 2 := by unfold eAri; decide +kernel
set_option maxRecDepth 100000 in
theorem mthX6_size : eMeth MX6_size := ⟨⟨List.mem_of_getElem? (i := 556) rfl, rfl⟩, ini_RX6, cne_RX6, pln_RX6, Nat.le_of_ble_eq_true rfl⟩
set_option maxRecDepth 100000 in
theorem insX6_size : eW (.instanceMethod yX6_size) := ⟨List.mem_of_getElem? (i := 554) rfl, rfl⟩
set_option maxRecDepth 100000 in
theorem selX6_size : eW (.selects RX6 yX6_size yX6_size) := ⟨List.mem_of_getElem? (i := 555) rfl, rfl⟩
set_option maxRecDepth 100000 in
theorem ariX6_size : eAri MX6_size 1 := by unfold eAri; decide +kernel
set_option maxRecDepth 100000 in
theorem mthX6_faces : eMeth MX6_faces := ⟨⟨List.mem_of_getElem? (i := 563) rfl, rfl⟩, ini_RX6, cne_RX6, pln_RX6, Nat.le_of_ble_eq_true rfl⟩
set_option maxRecDepth 100000 in
theorem insX6_faces : eW (.instanceMethod yX6_faces) := ⟨List.mem_of_getElem? (i := 561) rfl, rfl⟩
set_option maxRecDepth 100000 in
theorem selX6_faces : eW (.selects RX6 yX6_faces yX6_faces) := ⟨List.mem_of_getElem? (i := 562) rfl, rfl⟩
set_option maxRecDepth 100000 in
theorem ariX6_faces : eAri MX6_faces 2 := by unfold eAri; decide +kernel
set_option maxRecDepth 100000 in
theorem mthX6_corners : eMeth MX6_corners := ⟨⟨List.mem_of_getElem? (i := 575) rfl, rfl⟩, ini_RX6, cne_RX6, pln_RX6, Nat.le_of_ble_eq_true rfl⟩
set_option maxRecDepth 100000 in
theorem insX6_corners : eW (.instanceMethod yX6_corners) := ⟨List.mem_of_getElem? (i := 573) rfl, rfl⟩
set_option maxRecDepth 100000 in
theorem selX6_corners : eW (.selects RX6 yX6_corners yX6_corners) := ⟨List.mem_of_getElem? (i := 574) rfl, rfl⟩
set_option maxRecDepth 100000 in
theorem ariX6_corners : eAri MX6_corners 1 := by unfold eAri; decide +kernel
set_option maxRecDepth 100000 in
theorem mthX6_over : eMeth MX6_over := ⟨⟨List.mem_of_getElem? (i := 582) rfl, rfl⟩, ini_RX6, cne_RX6, pln_RX6, Nat.le_of_ble_eq_true rfl⟩
set_option maxRecDepth 100000 in
theorem insX6_over : eW (.instanceMethod yX6_over) := ⟨List.mem_of_getElem? (i := 580) rfl, rfl⟩
set_option maxRecDepth 100000 in
theorem selX6_over : eW (.selects RX6 yX6_over yX6_over) := ⟨List.mem_of_getElem? (i := 581) rfl, rfl⟩
set_option maxRecDepth 100000 in
theorem ariX6_over : eAri MX6_over 2 := by unfold eAri; decide +kernel
set_option maxRecDepth 100000 in
theorem mthX6_greatest : eMeth MX6_greatest := ⟨⟨List.mem_of_getElem? (i := 589) rfl, rfl⟩, ini_RX6, cne_RX6, pln_RX6, Nat.le_of_ble_eq_true rfl⟩
set_option maxRecDepth 100000 in
theorem insX6_greatest : eW (.instanceMethod yX6_greatest) := ⟨List.mem_of_getElem? (i := 587) rfl, rfl⟩
set_option maxRecDepth 100000 in
theorem selX6_greatest : eW (.selects RX6 yX6_greatest yX6_greatest) := ⟨List.mem_of_getElem? (i := 588) rfl, rfl⟩
set_option maxRecDepth 100000 in
theorem ariX6_greatest : eAri MX6_greatest 1 := by unfold eAri; decide +kernel
set_option maxRecDepth 100000 in
theorem mthX6_greatestAt : eMeth MX6_greatestAt := ⟨⟨List.mem_of_getElem? (i := 602) rfl, rfl⟩, ini_RX6, cne_RX6, pln_RX6, Nat.le_of_ble_eq_true rfl⟩
set_option maxRecDepth 100000 in
theorem insX6_greatestAt : eW (.instanceMethod yX6_greatestAt) := ⟨List.mem_of_getElem? (i := 600) rfl, rfl⟩
set_option maxRecDepth 100000 in
theorem selX6_greatestAt : eW (.selects RX6 yX6_greatestAt yX6_greatestAt) := ⟨List.mem_of_getElem? (i := 601) rfl, rfl⟩
set_option maxRecDepth 100000 in
theorem ariX6_greatestAt : eAri MX6_greatestAt 2 := by unfold eAri; decide +kernel
set_option maxRecDepth 100000 in
theorem mthX6_isSame : eMeth MX6_isSame := ⟨⟨List.mem_of_getElem? (i := 617) rfl, rfl⟩, ini_RX6, cne_RX6, pln_RX6, Nat.le_of_ble_eq_true rfl⟩
set_option maxRecDepth 100000 in
theorem insX6_isSame : eW (.instanceMethod yX6_isSame) := ⟨List.mem_of_getElem? (i := 615) rfl, rfl⟩
set_option maxRecDepth 100000 in
theorem selX6_isSame : eW (.selects RX6 yX6_isSame yX6_isSame) := ⟨List.mem_of_getElem? (i := 616) rfl, rfl⟩
set_option maxRecDepth 100000 in
theorem ariX6_isSame : eAri MX6_isSame 2 := by unfold eAri; decide +kernel
set_option maxRecDepth 100000 in
theorem mthX6_contains : eMeth MX6_contains := ⟨⟨List.mem_of_getElem? (i := 628) rfl, rfl⟩, ini_RX6, cne_RX6, pln_RX6, Nat.le_of_ble_eq_true rfl⟩
set_option maxRecDepth 100000 in
theorem insX6_contains : eW (.instanceMethod yX6_contains) := ⟨List.mem_of_getElem? (i := 626) rfl, rfl⟩
set_option maxRecDepth 100000 in
theorem selX6_contains : eW (.selects RX6 yX6_contains yX6_contains) := ⟨List.mem_of_getElem? (i := 627) rfl, rfl⟩
set_option maxRecDepth 100000 in
theorem ariX6_contains : eAri MX6_contains 2 := by unfold eAri; decide +kernel
set_option maxRecDepth 100000 in
theorem mthX6_pieces : eMeth MX6_pieces := ⟨⟨List.mem_of_getElem? (i := 640) rfl, rfl⟩, ini_RX6, cne_RX6, pln_RX6, Nat.le_of_ble_eq_true rfl⟩
set_option maxRecDepth 100000 in
theorem insX6_pieces : eW (.instanceMethod yX6_pieces) := ⟨List.mem_of_getElem? (i := 638) rfl, rfl⟩
set_option maxRecDepth 100000 in
theorem selX6_pieces : eW (.selects RX6 yX6_pieces yX6_pieces) := ⟨List.mem_of_getElem? (i := 639) rfl, rfl⟩
set_option maxRecDepth 100000 in
theorem ariX6_pieces : eAri MX6_pieces 1 := by unfold eAri; decide +kernel
set_option maxRecDepth 100000 in
theorem mthX6_areJoined : eMeth MX6_areJoined := ⟨⟨List.mem_of_getElem? (i := 661) rfl, rfl⟩, ini_RX6, cne_RX6, pln_RX6, Nat.le_of_ble_eq_true rfl⟩
set_option maxRecDepth 100000 in
theorem insX6_areJoined : eW (.instanceMethod yX6_areJoined) := ⟨List.mem_of_getElem? (i := 659) rfl, rfl⟩
set_option maxRecDepth 100000 in
theorem selX6_areJoined : eW (.selects RX6 yX6_areJoined yX6_areJoined) := ⟨List.mem_of_getElem? (i := 660) rfl, rfl⟩
set_option maxRecDepth 100000 in
theorem ariX6_areJoined : eAri MX6_areJoined 3 := by unfold eAri; decide +kernel
set_option maxRecDepth 100000 in
theorem mthX6_free : eMeth MX6_free := ⟨⟨List.mem_of_getElem? (i := 669) rfl, rfl⟩, ini_RX6, cne_RX6, pln_RX6, Nat.le_of_ble_eq_true rfl⟩
set_option maxRecDepth 100000 in
theorem insX6_free : eW (.instanceMethod yX6_free) := ⟨List.mem_of_getElem? (i := 667) rfl, rfl⟩
set_option maxRecDepth 100000 in
theorem selX6_free : eW (.selects RX6 yX6_free yX6_free) := ⟨List.mem_of_getElem? (i := 668) rfl, rfl⟩
set_option maxRecDepth 100000 in
theorem ariX6_free : eAri MX6_free 2 := by unfold eAri; decide +kernel
set_option maxRecDepth 100000 in
theorem mthX6_holes : eMeth MX6_holes := ⟨⟨List.mem_of_getElem? (i := 684) rfl, rfl⟩, ini_RX6, cne_RX6, pln_RX6, Nat.le_of_ble_eq_true rfl⟩
set_option maxRecDepth 100000 in
theorem insX6_holes : eW (.instanceMethod yX6_holes) := ⟨List.mem_of_getElem? (i := 682) rfl, rfl⟩
set_option maxRecDepth 100000 in
theorem selX6_holes : eW (.selects RX6 yX6_holes yX6_holes) := ⟨List.mem_of_getElem? (i := 683) rfl, rfl⟩
set_option maxRecDepth 100000 in
theorem ariX6_holes : eAri MX6_holes 2 := by unfold eAri; decide +kernel
set_option maxRecDepth 100000 in
theorem mthX6_signed : eMeth MX6_signed := ⟨⟨List.mem_of_getElem? (i := 698) rfl, rfl⟩, ini_RX6, cne_RX6, pln_RX6, Nat.le_of_ble_eq_true rfl⟩
set_option maxRecDepth 100000 in
theorem insX6_signed : eW (.instanceMethod yX6_signed) := ⟨List.mem_of_getElem? (i := 696) rfl, rfl⟩
set_option maxRecDepth 100000 in
theorem selX6_signed : eW (.selects RX6 yX6_signed yX6_signed) := ⟨List.mem_of_getElem? (i := 697) rfl, rfl⟩
set_option maxRecDepth 100000 in
theorem ariX6_signed : eAri MX6_signed 1 := by unfold eAri; decide +kernel
set_option maxRecDepth 100000 in
theorem mthX6_flip : eMeth MX6_flip := ⟨⟨List.mem_of_getElem? (i := 709) rfl, rfl⟩, ini_RX6, cne_RX6, pln_RX6, Nat.le_of_ble_eq_true rfl⟩
set_option maxRecDepth 100000 in
theorem insX6_flip : eW (.instanceMethod yX6_flip) := ⟨List.mem_of_getElem? (i := 707) rfl, rfl⟩
set_option maxRecDepth 100000 in
theorem selX6_flip : eW (.selects RX6 yX6_flip yX6_flip) := ⟨List.mem_of_getElem? (i := 708) rfl, rfl⟩
set_option maxRecDepth 100000 in
theorem ariX6_flip : eAri MX6_flip 1 := by unfold eAri; decide +kernel
set_option maxRecDepth 100000 in
theorem mthX6_border : eMeth MX6_border := ⟨⟨List.mem_of_getElem? (i := 165) rfl, rfl⟩, ini_RX6, cne_RX6, pln_RX6, Nat.le_of_ble_eq_true rfl⟩
set_option maxRecDepth 100000 in
theorem insX6_border : eW (.instanceMethod yX6_border) := ⟨List.mem_of_getElem? (i := 163) rfl, rfl⟩
set_option maxRecDepth 100000 in
theorem selX6_border : eW (.selects RX6 yX6_border yX6_border) := ⟨List.mem_of_getElem? (i := 164) rfl, rfl⟩
set_option maxRecDepth 100000 in
theorem ariX6_border : eAri MX6_border 0 := by unfold eAri; decide +kernel
set_option maxRecDepth 100000 in
theorem mthX6_drop : eMeth MX6_drop := ⟨⟨List.mem_of_getElem? (i := 215) rfl, rfl⟩, ini_RX6, cne_RX6, pln_RX6, Nat.le_of_ble_eq_true rfl⟩
set_option maxRecDepth 100000 in
theorem insX6_drop : eW (.instanceMethod yX6_drop) := ⟨List.mem_of_getElem? (i := 213) rfl, rfl⟩
set_option maxRecDepth 100000 in
theorem selX6_drop : eW (.selects RX6 yX6_drop yX6_drop) := ⟨List.mem_of_getElem? (i := 214) rfl, rfl⟩
set_option maxRecDepth 100000 in
theorem ariX6_drop : eAri MX6_drop 0 := by unfold eAri; decide +kernel
set_option maxRecDepth 100000 in
theorem mthX6_rowAt : eMeth MX6_rowAt := ⟨⟨List.mem_of_getElem? (i := 719) rfl, rfl⟩, ini_RX6, cne_RX6, pln_RX6, Nat.le_of_ble_eq_true rfl⟩
set_option maxRecDepth 100000 in
theorem insX6_rowAt : eW (.instanceMethod yX6_rowAt) := ⟨List.mem_of_getElem? (i := 717) rfl, rfl⟩
set_option maxRecDepth 100000 in
theorem selX6_rowAt : eW (.selects RX6 yX6_rowAt yX6_rowAt) := ⟨List.mem_of_getElem? (i := 718) rfl, rfl⟩
set_option maxRecDepth 100000 in
theorem ariX6_rowAt : eAri MX6_rowAt 1 := by unfold eAri; decide +kernel
set_option maxRecDepth 100000 in
theorem mthX6_isRound : eMeth MX6_isRound := ⟨⟨List.mem_of_getElem? (i := 223) rfl, rfl⟩, ini_RX6, cne_RX6, pln_RX6, Nat.le_of_ble_eq_true rfl⟩
set_option maxRecDepth 100000 in
theorem insX6_isRound : eW (.instanceMethod yX6_isRound) := ⟨List.mem_of_getElem? (i := 221) rfl, rfl⟩
set_option maxRecDepth 100000 in
theorem selX6_isRound : eW (.selects RX6 yX6_isRound yX6_isRound) := ⟨List.mem_of_getElem? (i := 222) rfl, rfl⟩
set_option maxRecDepth 100000 in
theorem ariX6_isRound : eAri MX6_isRound 0 := by unfold eAri; decide +kernel
set_option maxRecDepth 100000 in
theorem mthX6_fills : eMeth MX6_fills := ⟨⟨List.mem_of_getElem? (i := 726) rfl, rfl⟩, ini_RX6, cne_RX6, pln_RX6, Nat.le_of_ble_eq_true rfl⟩
set_option maxRecDepth 100000 in
theorem insX6_fills : eW (.instanceMethod yX6_fills) := ⟨List.mem_of_getElem? (i := 724) rfl, rfl⟩
set_option maxRecDepth 100000 in
theorem selX6_fills : eW (.selects RX6 yX6_fills yX6_fills) := ⟨List.mem_of_getElem? (i := 725) rfl, rfl⟩
set_option maxRecDepth 100000 in
theorem ariX6_fills : eAri MX6_fills 1 := by unfold eAri; decide +kernel
set_option maxRecDepth 100000 in
theorem mthX6_mean : eMeth MX6_mean := ⟨⟨List.mem_of_getElem? (i := 743) rfl, rfl⟩, ini_RX6, cne_RX6, pln_RX6, Nat.le_of_ble_eq_true rfl⟩
set_option maxRecDepth 100000 in
theorem insX6_mean : eW (.instanceMethod yX6_mean) := ⟨List.mem_of_getElem? (i := 741) rfl, rfl⟩
set_option maxRecDepth 100000 in
theorem selX6_mean : eW (.selects RX6 yX6_mean yX6_mean) := ⟨List.mem_of_getElem? (i := 742) rfl, rfl⟩
set_option maxRecDepth 100000 in
theorem ariX6_mean : eAri MX6_mean 1 := by unfold eAri; decide +kernel
set_option maxRecDepth 100000 in
theorem mthX6_share : eMeth MX6_share := ⟨⟨List.mem_of_getElem? (i := 755) rfl, rfl⟩, ini_RX6, cne_RX6, pln_RX6, Nat.le_of_ble_eq_true rfl⟩
set_option maxRecDepth 100000 in
theorem insX6_share : eW (.instanceMethod yX6_share) := ⟨List.mem_of_getElem? (i := 753) rfl, rfl⟩
set_option maxRecDepth 100000 in
theorem selX6_share : eW (.selects RX6 yX6_share yX6_share) := ⟨List.mem_of_getElem? (i := 754) rfl, rfl⟩
set_option maxRecDepth 100000 in
theorem ariX6_share : eAri MX6_share 1 := by unfold eAri; decide +kernel
set_option maxRecDepth 100000 in
theorem mthX6_checksum : eMeth MX6_checksum := ⟨⟨List.mem_of_getElem? (i := 231) rfl, rfl⟩, ini_RX6, cne_RX6, pln_RX6, Nat.le_of_ble_eq_true rfl⟩
set_option maxRecDepth 100000 in
theorem insX6_checksum : eW (.instanceMethod yX6_checksum) := ⟨List.mem_of_getElem? (i := 229) rfl, rfl⟩
set_option maxRecDepth 100000 in
theorem selX6_checksum : eW (.selects RX6 yX6_checksum yX6_checksum) := ⟨List.mem_of_getElem? (i := 230) rfl, rfl⟩
set_option maxRecDepth 100000 in
theorem ariX6_checksum : eAri MX6_checksum 0 := by unfold eAri; decide +kernel
set_option maxRecDepth 100000 in
theorem mthX6_isSound : eMeth MX6_isSound := ⟨⟨List.mem_of_getElem? (i := 762) rfl, rfl⟩, ini_RX6, cne_RX6, pln_RX6, Nat.le_of_ble_eq_true rfl⟩
set_option maxRecDepth 100000 in
theorem insX6_isSound : eW (.instanceMethod yX6_isSound) := ⟨List.mem_of_getElem? (i := 760) rfl, rfl⟩
set_option maxRecDepth 100000 in
theorem selX6_isSound : eW (.selects RX6 yX6_isSound yX6_isSound) := ⟨List.mem_of_getElem? (i := 761) rfl, rfl⟩
set_option maxRecDepth 100000 in
theorem ariX6_isSound : eAri MX6_isSound 1 := by unfold eAri; decide +kernel
set_option maxRecDepth 100000 in
theorem mthX6_isTrue : eMeth MX6_isTrue := ⟨⟨List.mem_of_getElem? (i := 811) rfl, rfl⟩, ini_RX6, cne_RX6, pln_RX6, Nat.le_of_ble_eq_true rfl⟩
set_option maxRecDepth 100000 in
theorem insX6_isTrue : eW (.instanceMethod yX6_isTrue) := ⟨List.mem_of_getElem? (i := 809) rfl, rfl⟩
set_option maxRecDepth 100000 in
theorem selX6_isTrue : eW (.selects RX6 yX6_isTrue yX6_isTrue) := ⟨List.mem_of_getElem? (i := 810) rfl, rfl⟩
set_option maxRecDepth 100000 in
theorem ariX6_isTrue : eAri MX6_isTrue 3 := by unfold eAri; decide +kernel
set_option maxRecDepth 100000 in
theorem mthX6_faceIsTrue : eMeth MX6_faceIsTrue := ⟨⟨List.mem_of_getElem? (i := 872) rfl, rfl⟩, ini_RX6, cne_RX6, pln_RX6, Nat.le_of_ble_eq_true rfl⟩
set_option maxRecDepth 100000 in
theorem insX6_faceIsTrue : eW (.instanceMethod yX6_faceIsTrue) := ⟨List.mem_of_getElem? (i := 870) rfl, rfl⟩
set_option maxRecDepth 100000 in
theorem selX6_faceIsTrue : eW (.selects RX6 yX6_faceIsTrue yX6_faceIsTrue) := ⟨List.mem_of_getElem? (i := 871) rfl, rfl⟩
set_option maxRecDepth 100000 in
theorem ariX6_faceIsTrue : eAri MX6_faceIsTrue 2 := by unfold eAri; decide +kernel
set_option maxRecDepth 100000 in
theorem mthX6_pairIsTrue : eMeth MX6_pairIsTrue := ⟨⟨List.mem_of_getElem? (i := 897) rfl, rfl⟩, ini_RX6, cne_RX6, pln_RX6, Nat.le_of_ble_eq_true rfl⟩
set_option maxRecDepth 100000 in
theorem insX6_pairIsTrue : eW (.instanceMethod yX6_pairIsTrue) := ⟨List.mem_of_getElem? (i := 895) rfl, rfl⟩
set_option maxRecDepth 100000 in
theorem selX6_pairIsTrue : eW (.selects RX6 yX6_pairIsTrue yX6_pairIsTrue) := ⟨List.mem_of_getElem? (i := 896) rfl, rfl⟩
set_option maxRecDepth 100000 in
theorem ariX6_pairIsTrue : eAri MX6_pairIsTrue 2 := by unfold eAri; decide +kernel
set_option maxRecDepth 100000 in
theorem mthX6_shapeAt : eMeth MX6_shapeAt := ⟨⟨List.mem_of_getElem? (i := 250) rfl, rfl⟩, ini_RX6, cne_RX6, pln_RX6, Nat.le_of_ble_eq_true rfl⟩
set_option maxRecDepth 100000 in
theorem insX6_shapeAt : eW (.instanceMethod yX6_shapeAt) := ⟨List.mem_of_getElem? (i := 249) rfl, rfl⟩
set_option maxRecDepth 100000 in
theorem selX6_shapeAt : eW (.selects RX6 yX6_shapeAt yX6_shapeAt) := ⟨List.mem_of_getElem? (i := 3) rfl, rfl⟩
set_option maxRecDepth 100000 in
theorem ariX6_shapeAt : eAri MX6_shapeAt 1 := by unfold eAri; decide +kernel
set_option maxRecDepth 100000 in
theorem mthX6_giveMade : eMeth MX6_giveMade := ⟨⟨List.mem_of_getElem? (i := 197) rfl, rfl⟩, ini_RX6, cne_RX6, pln_RX6, Nat.le_of_ble_eq_true rfl⟩
set_option maxRecDepth 100000 in
theorem insX6_giveMade : eW (.instanceMethod yX6_giveMade) := ⟨List.mem_of_getElem? (i := 196) rfl, rfl⟩
set_option maxRecDepth 100000 in
theorem selX6_giveMade : eW (.selects RX6 yX6_giveMade yX6_giveMade) := ⟨List.mem_of_getElem? (i := 2) rfl, rfl⟩
set_option maxRecDepth 100000 in
theorem ariX6_giveMade : eAri MX6_giveMade 1 := by unfold eAri; decide +kernel
set_option maxRecDepth 100000 in
theorem mthX6_emptied : eMeth MX6_emptied := ⟨⟨List.mem_of_getElem? (i := 218) rfl, rfl⟩, ini_RX6, cne_RX6, pln_RX6, Nat.le_of_ble_eq_true rfl⟩
set_option maxRecDepth 100000 in
theorem staX6_emptied : eW (.static yX6_emptied) := ⟨List.mem_of_getElem? (i := 217) rfl, rfl⟩
set_option maxRecDepth 100000 in
theorem ariX6_emptied : eAri MX6_emptied 1 := by unfold eAri; decide +kernel
set_option maxRecDepth 100000 in
theorem mthX6_checkFace : eMeth MX6_checkFace := ⟨⟨List.mem_of_getElem? (i := 322) rfl, rfl⟩, ini_RX6, cne_RX6, pln_RX6, Nat.le_of_ble_eq_true rfl⟩
set_option maxRecDepth 100000 in
theorem staX6_checkFace : eW (.static yX6_checkFace) := ⟨List.mem_of_getElem? (i := 321) rfl, rfl⟩
set_option maxRecDepth 100000 in
theorem ariX6_checkFace : eAri MX6_checkFace 1 := by unfold eAri; decide +kernel
set_option maxRecDepth 100000 in
theorem mthX6_checkCorner : eMeth MX6_checkCorner := ⟨⟨List.mem_of_getElem? (i := 456) rfl, rfl⟩, ini_RX6, cne_RX6, pln_RX6, Nat.le_of_ble_eq_true rfl⟩
set_option maxRecDepth 100000 in
theorem staX6_checkCorner : eW (.static yX6_checkCorner) := ⟨List.mem_of_getElem? (i := 455) rfl, rfl⟩
set_option maxRecDepth 100000 in
theorem ariX6_checkCorner : eAri MX6_checkCorner 1 := by unfold eAri; decide +kernel
set_option maxRecDepth 100000 in
theorem mthX6_checkHeight : eMeth MX6_checkHeight := ⟨⟨List.mem_of_getElem? (i := 427) rfl, rfl⟩, ini_RX6, cne_RX6, pln_RX6, Nat.le_of_ble_eq_true rfl⟩
set_option maxRecDepth 100000 in
theorem staX6_checkHeight : eW (.static yX6_checkHeight) := ⟨List.mem_of_getElem? (i := 426) rfl, rfl⟩
set_option maxRecDepth 100000 in
theorem ariX6_checkHeight : eAri MX6_checkHeight 2 := by unfold eAri; decide +kernel
set_option maxRecDepth 100000 in
theorem mthX6_checkHeld : eMeth MX6_checkHeld := ⟨⟨List.mem_of_getElem? (i := 353) rfl, rfl⟩, ini_RX6, cne_RX6, pln_RX6, Nat.le_of_ble_eq_true rfl⟩
set_option maxRecDepth 100000 in
theorem staX6_checkHeld : eW (.static yX6_checkHeld) := ⟨List.mem_of_getElem? (i := 352) rfl, rfl⟩
set_option maxRecDepth 100000 in
theorem ariX6_checkHeld : eAri MX6_checkHeld 2 := by unfold eAri; decide +kernel
set_option maxRecDepth 100000 in
theorem mthX6_checkNew : eMeth MX6_checkNew := ⟨⟨List.mem_of_getElem? (i := 460) rfl, rfl⟩, ini_RX6, cne_RX6, pln_RX6, Nat.le_of_ble_eq_true rfl⟩
set_option maxRecDepth 100000 in
theorem staX6_checkNew : eW (.static yX6_checkNew) := ⟨List.mem_of_getElem? (i := 459) rfl, rfl⟩
set_option maxRecDepth 100000 in
theorem ariX6_checkNew : eAri MX6_checkNew 2 := by unfold eAri; decide +kernel
set_option maxRecDepth 100000 in
theorem mthX6_checkedFaceAt : eMeth MX6_checkedFaceAt := ⟨⟨List.mem_of_getElem? (i := 605) rfl, rfl⟩, ini_RX6, cne_RX6, pln_RX6, Nat.le_of_ble_eq_true rfl⟩
set_option maxRecDepth 100000 in
theorem staX6_checkedFaceAt : eW (.static yX6_checkedFaceAt) := ⟨List.mem_of_getElem? (i := 604) rfl, rfl⟩
set_option maxRecDepth 100000 in
theorem ariX6_checkedFaceAt : eAri MX6_checkedFaceAt 2 := by unfold eAri; decide +kernel
set_option maxRecDepth 100000 in
theorem mthX6_checksumOn : eMeth MX6_checksumOn := ⟨⟨List.mem_of_getElem? (i := 235) rfl, rfl⟩, ini_RX6, cne_RX6, pln_RX6, Nat.le_of_ble_eq_true rfl⟩
set_option maxRecDepth 100000 in
theorem staX6_checksumOn : eW (.static yX6_checksumOn) := ⟨List.mem_of_getElem? (i := 234) rfl, rfl⟩
set_option maxRecDepth 100000 in
theorem ariX6_checksumOn : eAri MX6_checksumOn 2 := by unfold eAri; decide +kernel
set_option maxRecDepth 100000 in
theorem mthX6_heightOf : eMeth MX6_heightOf := ⟨⟨List.mem_of_getElem? (i := 88) rfl, rfl⟩, ini_RX6, cne_RX6, pln_RX6, Nat.le_of_ble_eq_true rfl⟩
set_option maxRecDepth 100000 in
theorem staX6_heightOf : eW (.static yX6_heightOf) := ⟨List.mem_of_getElem? (i := 87) rfl, rfl⟩
set_option maxRecDepth 100000 in
theorem ariX6_heightOf : eAri MX6_heightOf 1 := by unfold eAri; decide +kernel
set_option maxRecDepth 100000 in
theorem mthX6_leastCorner : eMeth MX6_leastCorner := ⟨⟨List.mem_of_getElem? (i := 647) rfl, rfl⟩, ini_RX6, cne_RX6, pln_RX6, Nat.le_of_ble_eq_true rfl⟩
set_option maxRecDepth 100000 in
theorem staX6_leastCorner : eW (.static yX6_leastCorner) := ⟨List.mem_of_getElem? (i := 646) rfl, rfl⟩
set_option maxRecDepth 100000 in
theorem ariX6_leastCorner : eAri MX6_leastCorner 1 := by unfold eAri; decide +kernel
set_option maxRecDepth 100000 in
theorem mthX7_init : eMeth MX7_init := ⟨⟨List.mem_of_getElem? (i := 912) rfl, rfl⟩, ini_RX7, cne_RX7, pln_RX7, Nat.le_of_ble_eq_true rfl⟩
set_option maxRecDepth 100000 in
theorem insX7_init : eW (.instanceMethod yX7_init) := ⟨List.mem_of_getElem? (i := 911) rfl, rfl⟩
set_option maxRecDepth 100000 in
theorem ariX7_init : eAri MX7_init 0 := by unfold eAri; decide +kernel
set_option maxRecDepth 100000 in
theorem mthX7_thrown : eMeth MX7_thrown := ⟨⟨List.mem_of_getElem? (i := 943) rfl, rfl⟩, ini_RX7, cne_RX7, pln_RX7, Nat.le_of_ble_eq_true rfl⟩
set_option maxRecDepth 100000 in
theorem insX7_thrown : eW (.instanceMethod yX7_thrown) := ⟨List.mem_of_getElem? (i := 941) rfl, rfl⟩
set_option maxRecDepth 100000 in
theorem selX7_thrown : eW (.selects RX7 yX7_thrown yX7_thrown) := ⟨List.mem_of_getElem? (i := 942) rfl, rfl⟩
set_option maxRecDepth 100000 in
theorem ariX7_thrown : eAri MX7_thrown 0 := by unfold eAri; decide +kernel
set_option maxRecDepth 100000 in
theorem mthX7_isWrong : eMeth MX7_isWrong := ⟨⟨List.mem_of_getElem? (i := 960) rfl, rfl⟩, ini_RX7, cne_RX7, pln_RX7, Nat.le_of_ble_eq_true rfl⟩
set_option maxRecDepth 100000 in
theorem insX7_isWrong : eW (.instanceMethod yX7_isWrong) := ⟨List.mem_of_getElem? (i := 959) rfl, rfl⟩
set_option maxRecDepth 100000 in
theorem selX7_isWrong : eW (.selects RX7 yX7_isWrong yX7_isWrong) := ⟨List.mem_of_getElem? (i := 10) rfl, rfl⟩
set_option maxRecDepth 100000 in
theorem ariX7_isWrong : eAri MX7_isWrong 1 := by unfold eAri; decide +kernel
set_option maxRecDepth 100000 in
theorem mthX7_isIn : eMeth MX7_isIn := ⟨⟨List.mem_of_getElem? (i := 953) rfl, rfl⟩, ini_RX7, cne_RX7, pln_RX7, Nat.le_of_ble_eq_true rfl⟩
set_option maxRecDepth 100000 in
theorem staX7_isIn : eW (.static yX7_isIn) := ⟨List.mem_of_getElem? (i := 952) rfl, rfl⟩
set_option maxRecDepth 100000 in
theorem ariX7_isIn : eAri MX7_isIn 3 := by unfold eAri; decide +kernel
set_option maxRecDepth 100000 in
theorem mthX7_isPlace : eMeth MX7_isPlace := ⟨⟨List.mem_of_getElem? (i := 950) rfl, rfl⟩, ini_RX7, cne_RX7, pln_RX7, Nat.le_of_ble_eq_true rfl⟩
set_option maxRecDepth 100000 in
theorem staX7_isPlace : eW (.static yX7_isPlace) := ⟨List.mem_of_getElem? (i := 949) rfl, rfl⟩
set_option maxRecDepth 100000 in
theorem ariX7_isPlace : eAri MX7_isPlace 1 := by unfold eAri; decide +kernel
set_option maxRecDepth 100000 in
theorem mthX7_isFace : eMeth MX7_isFace := ⟨⟨List.mem_of_getElem? (i := 956) rfl, rfl⟩, ini_RX7, cne_RX7, pln_RX7, Nat.le_of_ble_eq_true rfl⟩
set_option maxRecDepth 100000 in
theorem staX7_isFace : eW (.static yX7_isFace) := ⟨List.mem_of_getElem? (i := 955) rfl, rfl⟩
set_option maxRecDepth 100000 in
theorem ariX7_isFace : eAri MX7_isFace 1 := by unfold eAri; decide +kernel
set_option maxRecDepth 100000 in
theorem mthX7_isCorner : eMeth MX7_isCorner := ⟨⟨List.mem_of_getElem? (i := 1031) rfl, rfl⟩, ini_RX7, cne_RX7, pln_RX7, Nat.le_of_ble_eq_true rfl⟩
set_option maxRecDepth 100000 in
theorem staX7_isCorner : eW (.static yX7_isCorner) := ⟨List.mem_of_getElem? (i := 1030) rfl, rfl⟩
set_option maxRecDepth 100000 in
theorem ariX7_isCorner : eAri MX7_isCorner 1 := by unfold eAri; decide +kernel
set_option maxRecDepth 100000 in
theorem mthX7_isHeight : eMeth MX7_isHeight := ⟨⟨List.mem_of_getElem? (i := 1014) rfl, rfl⟩, ini_RX7, cne_RX7, pln_RX7, Nat.le_of_ble_eq_true rfl⟩
set_option maxRecDepth 100000 in
theorem staX7_isHeight : eW (.static yX7_isHeight) := ⟨List.mem_of_getElem? (i := 1013) rfl, rfl⟩
set_option maxRecDepth 100000 in
theorem ariX7_isHeight : eAri MX7_isHeight 1 := by unfold eAri; decide +kernel
set_option maxRecDepth 100000 in
theorem mthX7_isThere : eMeth MX7_isThere := ⟨⟨List.mem_of_getElem? (i := 967) rfl, rfl⟩, ini_RX7, cne_RX7, pln_RX7, Nat.le_of_ble_eq_true rfl⟩
set_option maxRecDepth 100000 in
theorem insX7_isThere : eW (.instanceMethod yX7_isThere) := ⟨List.mem_of_getElem? (i := 966) rfl, rfl⟩
set_option maxRecDepth 100000 in
theorem selX7_isThere : eW (.selects RX7 yX7_isThere yX7_isThere) := ⟨List.mem_of_getElem? (i := 11) rfl, rfl⟩
set_option maxRecDepth 100000 in
theorem ariX7_isThere : eAri MX7_isThere 2 := by unfold eAri; decide +kernel
set_option maxRecDepth 100000 in
theorem mthX7_cornersOf : eMeth MX7_cornersOf := ⟨⟨List.mem_of_getElem? (i := 1020) rfl, rfl⟩, ini_RX7, cne_RX7, pln_RX7, Nat.le_of_ble_eq_true rfl⟩
set_option maxRecDepth 100000 in
theorem staX7_cornersOf : eW (.static yX7_cornersOf) := ⟨List.mem_of_getElem? (i := 1019) rfl, rfl⟩
set_option maxRecDepth 100000 in
theorem ariX7_cornersOf : eAri MX7_cornersOf 1 := by unfold eAri; decide +kernel
set_option maxRecDepth 100000 in
theorem mthX7_height : eMeth MX7_height := ⟨⟨List.mem_of_getElem? (i := 1017) rfl, rfl⟩, ini_RX7, cne_RX7, pln_RX7, Nat.le_of_ble_eq_true rfl⟩
set_option maxRecDepth 100000 in
theorem staX7_height : eW (.static yX7_height) := ⟨List.mem_of_getElem? (i := 1016) rfl, rfl⟩
set_option maxRecDepth 100000 in
theorem ariX7_height : eAri MX7_height 1 := by unfold eAri; decide +kernel
set_option maxRecDepth 100000 in
theorem mthX7_isPart : eMeth MX7_isPart := ⟨⟨List.mem_of_getElem? (i := 963) rfl, rfl⟩, ini_RX7, cne_RX7, pln_RX7, Nat.le_of_ble_eq_true rfl⟩
set_option maxRecDepth 100000 in
theorem staX7_isPart : eW (.static yX7_isPart) := ⟨List.mem_of_getElem? (i := 962) rfl, rfl⟩
set_option maxRecDepth 100000 in
theorem ariX7_isPart : eAri MX7_isPart 2 := by unfold eAri; decide +kernel
set_option maxRecDepth 100000 in
theorem mthX7_sizeOf : eMeth MX7_sizeOf := ⟨⟨List.mem_of_getElem? (i := 987) rfl, rfl⟩, ini_RX7, cne_RX7, pln_RX7, Nat.le_of_ble_eq_true rfl⟩
set_option maxRecDepth 100000 in
theorem insX7_sizeOf : eW (.instanceMethod yX7_sizeOf) := ⟨List.mem_of_getElem? (i := 986) rfl, rfl⟩
set_option maxRecDepth 100000 in
theorem selX7_sizeOf : eW (.selects RX7 yX7_sizeOf yX7_sizeOf) := ⟨List.mem_of_getElem? (i := 14) rfl, rfl⟩
set_option maxRecDepth 100000 in
theorem ariX7_sizeOf : eAri MX7_sizeOf 1 := by unfold eAri; decide +kernel
set_option maxRecDepth 100000 in
theorem mthX7_cornersAt : eMeth MX7_cornersAt := ⟨⟨List.mem_of_getElem? (i := 1035) rfl, rfl⟩, ini_RX7, cne_RX7, pln_RX7, Nat.le_of_ble_eq_true rfl⟩
set_option maxRecDepth 100000 in
theorem insX7_cornersAt : eW (.instanceMethod yX7_cornersAt) := ⟨List.mem_of_getElem? (i := 1034) rfl, rfl⟩
set_option maxRecDepth 100000 in
theorem selX7_cornersAt : eW (.selects RX7 yX7_cornersAt yX7_cornersAt) := ⟨List.mem_of_getElem? (i := 16) rfl, rfl⟩
set_option maxRecDepth 100000 in
theorem ariX7_cornersAt : eAri MX7_cornersAt 1 := by unfold eAri; decide +kernel
set_option maxRecDepth 100000 in
theorem mthX7_overAt : eMeth MX7_overAt := ⟨⟨List.mem_of_getElem? (i := 1062) rfl, rfl⟩, ini_RX7, cne_RX7, pln_RX7, Nat.le_of_ble_eq_true rfl⟩
set_option maxRecDepth 100000 in
theorem insX7_overAt : eW (.instanceMethod yX7_overAt) := ⟨List.mem_of_getElem? (i := 1061) rfl, rfl⟩
set_option maxRecDepth 100000 in
theorem selX7_overAt : eW (.selects RX7 yX7_overAt yX7_overAt) := ⟨List.mem_of_getElem? (i := 18) rfl, rfl⟩
set_option maxRecDepth 100000 in
theorem ariX7_overAt : eAri MX7_overAt 2 := by unfold eAri; decide +kernel
set_option maxRecDepth 100000 in
theorem mthX7_isGreatest : eMeth MX7_isGreatest := ⟨⟨List.mem_of_getElem? (i := 1098) rfl, rfl⟩, ini_RX7, cne_RX7, pln_RX7, Nat.le_of_ble_eq_true rfl⟩
set_option maxRecDepth 100000 in
theorem insX7_isGreatest : eW (.instanceMethod yX7_isGreatest) := ⟨List.mem_of_getElem? (i := 1097) rfl, rfl⟩
set_option maxRecDepth 100000 in
theorem selX7_isGreatest : eW (.selects RX7 yX7_isGreatest yX7_isGreatest) := ⟨List.mem_of_getElem? (i := 21) rfl, rfl⟩
set_option maxRecDepth 100000 in
theorem ariX7_isGreatest : eAri MX7_isGreatest 2 := by unfold eAri; decide +kernel
set_option maxRecDepth 100000 in
theorem mthX7_keep : eMeth MX7_keep := ⟨⟨List.mem_of_getElem? (i := 995) rfl, rfl⟩, ini_RX7, cne_RX7, pln_RX7, Nat.le_of_ble_eq_true rfl⟩
set_option maxRecDepth 100000 in
theorem insX7_keep : eW (.instanceMethod yX7_keep) := ⟨List.mem_of_getElem? (i := 994) rfl, rfl⟩
set_option maxRecDepth 100000 in
theorem selX7_keep : eW (.selects RX7 yX7_keep yX7_keep) := ⟨List.mem_of_getElem? (i := 15) rfl, rfl⟩
set_option maxRecDepth 100000 in
theorem ariX7_keep : eAri MX7_keep 1 := by unfold eAri; decide +kernel
set_option maxRecDepth 100000 in
theorem mthX7_missing : eMeth MX7_missing := ⟨⟨List.mem_of_getElem? (i := 975) rfl, rfl⟩, ini_RX7, cne_RX7, pln_RX7, Nat.le_of_ble_eq_true rfl⟩
set_option maxRecDepth 100000 in
theorem insX7_missing : eW (.instanceMethod yX7_missing) := ⟨List.mem_of_getElem? (i := 974) rfl, rfl⟩
set_option maxRecDepth 100000 in
theorem selX7_missing : eW (.selects RX7 yX7_missing yX7_missing) := ⟨List.mem_of_getElem? (i := 12) rfl, rfl⟩
set_option maxRecDepth 100000 in
theorem ariX7_missing : eAri MX7_missing 2 := by unfold eAri; decide +kernel
set_option maxRecDepth 100000 in
theorem mthX7_put : eMeth MX7_put := ⟨⟨List.mem_of_getElem? (i := 947) rfl, rfl⟩, ini_RX7, cne_RX7, pln_RX7, Nat.le_of_ble_eq_true rfl⟩
set_option maxRecDepth 100000 in
theorem insX7_put : eW (.instanceMethod yX7_put) := ⟨List.mem_of_getElem? (i := 945) rfl, rfl⟩
set_option maxRecDepth 100000 in
theorem selX7_put : eW (.selects RX7 yX7_put yX7_put) := ⟨List.mem_of_getElem? (i := 946) rfl, rfl⟩
set_option maxRecDepth 100000 in
theorem ariX7_put : eAri MX7_put 2 := by unfold eAri; decide +kernel
set_option maxRecDepth 100000 in
theorem mthX7_takeOut : eMeth MX7_takeOut := ⟨⟨List.mem_of_getElem? (i := 979) rfl, rfl⟩, ini_RX7, cne_RX7, pln_RX7, Nat.le_of_ble_eq_true rfl⟩
set_option maxRecDepth 100000 in
theorem insX7_takeOut : eW (.instanceMethod yX7_takeOut) := ⟨List.mem_of_getElem? (i := 978) rfl, rfl⟩
set_option maxRecDepth 100000 in
theorem selX7_takeOut : eW (.selects RX7 yX7_takeOut yX7_takeOut) := ⟨List.mem_of_getElem? (i := 13) rfl, rfl⟩
set_option maxRecDepth 100000 in
theorem ariX7_takeOut : eAri MX7_takeOut 2 := by unfold eAri; decide +kernel
set_option maxRecDepth 100000 in
theorem mthX7_take : eMeth MX7_take := ⟨⟨List.mem_of_getElem? (i := 971) rfl, rfl⟩, ini_RX7, cne_RX7, pln_RX7, Nat.le_of_ble_eq_true rfl⟩
set_option maxRecDepth 100000 in
theorem insX7_take : eW (.instanceMethod yX7_take) := ⟨List.mem_of_getElem? (i := 969) rfl, rfl⟩
set_option maxRecDepth 100000 in
theorem selX7_take : eW (.selects RX7 yX7_take yX7_take) := ⟨List.mem_of_getElem? (i := 970) rfl, rfl⟩
set_option maxRecDepth 100000 in
theorem ariX7_take : eAri MX7_take 2 := by unfold eAri; decide +kernel
set_option maxRecDepth 100000 in
theorem mthX7_clear : eMeth MX7_clear := ⟨⟨List.mem_of_getElem? (i := 983) rfl, rfl⟩, ini_RX7, cne_RX7, pln_RX7, Nat.le_of_ble_eq_true rfl⟩
set_option maxRecDepth 100000 in
theorem insX7_clear : eW (.instanceMethod yX7_clear) := ⟨List.mem_of_getElem? (i := 981) rfl, rfl⟩
set_option maxRecDepth 100000 in
theorem selX7_clear : eW (.selects RX7 yX7_clear yX7_clear) := ⟨List.mem_of_getElem? (i := 982) rfl, rfl⟩
set_option maxRecDepth 100000 in
theorem ariX7_clear : eAri MX7_clear 1 := by unfold eAri; decide +kernel
set_option maxRecDepth 100000 in
theorem mthX7_copy : eMeth MX7_copy := ⟨⟨List.mem_of_getElem? (i := 991) rfl, rfl⟩, ini_RX7, cne_RX7, pln_RX7, Nat.le_of_ble_eq_true rfl⟩
set_option maxRecDepth 100000 in
theorem insX7_copy : eW (.instanceMethod yX7_copy) := ⟨List.mem_of_getElem? (i := 989) rfl, rfl⟩
set_option maxRecDepth 100000 in
theorem selX7_copy : eW (.selects RX7 yX7_copy yX7_copy) := ⟨List.mem_of_getElem? (i := 990) rfl, rfl⟩
set_option maxRecDepth 100000 in
theorem ariX7_copy : eAri MX7_copy 2 := by unfold eAri; decide +kernel
set_option maxRecDepth 100000 in
theorem mthX7_unite : eMeth MX7_unite := ⟨⟨List.mem_of_getElem? (i := 999) rfl, rfl⟩, ini_RX7, cne_RX7, pln_RX7, Nat.le_of_ble_eq_true rfl⟩
set_option maxRecDepth 100000 in
theorem insX7_unite : eW (.instanceMethod yX7_unite) := ⟨List.mem_of_getElem? (i := 997) rfl, rfl⟩
set_option maxRecDepth 100000 in
theorem selX7_unite : eW (.selects RX7 yX7_unite yX7_unite) := ⟨List.mem_of_getElem? (i := 998) rfl, rfl⟩
set_option maxRecDepth 100000 in
theorem ariX7_unite : eAri MX7_unite 3 := by unfold eAri; decide +kernel
set_option maxRecDepth 100000 in
theorem mthX7_meet : eMeth MX7_meet := ⟨⟨List.mem_of_getElem? (i := 1003) rfl, rfl⟩, ini_RX7, cne_RX7, pln_RX7, Nat.le_of_ble_eq_true rfl⟩
set_option maxRecDepth 100000 in
theorem insX7_meet : eW (.instanceMethod yX7_meet) := ⟨List.mem_of_getElem? (i := 1001) rfl, rfl⟩
set_option maxRecDepth 100000 in
theorem selX7_meet : eW (.selects RX7 yX7_meet yX7_meet) := ⟨List.mem_of_getElem? (i := 1002) rfl, rfl⟩
set_option maxRecDepth 100000 in
theorem ariX7_meet : eAri MX7_meet 3 := by unfold eAri; decide +kernel
set_option maxRecDepth 100000 in
theorem mthX7_full : eMeth MX7_full := ⟨⟨List.mem_of_getElem? (i := 1007) rfl, rfl⟩, ini_RX7, cne_RX7, pln_RX7, Nat.le_of_ble_eq_true rfl⟩
set_option maxRecDepth 100000 in
theorem insX7_full : eW (.instanceMethod yX7_full) := ⟨List.mem_of_getElem? (i := 1005) rfl, rfl⟩
set_option maxRecDepth 100000 in
theorem selX7_full : eW (.selects RX7 yX7_full yX7_full) := ⟨List.mem_of_getElem? (i := 1006) rfl, rfl⟩
set_option maxRecDepth 100000 in
theorem ariX7_full : eAri MX7_full 3 := by unfold eAri; decide +kernel
set_option maxRecDepth 100000 in
theorem mthX7_low : eMeth MX7_low := ⟨⟨List.mem_of_getElem? (i := 1011) rfl, rfl⟩, ini_RX7, cne_RX7, pln_RX7, Nat.le_of_ble_eq_true rfl⟩
set_option maxRecDepth 100000 in
theorem insX7_low : eW (.instanceMethod yX7_low) := ⟨List.mem_of_getElem? (i := 1009) rfl, rfl⟩
set_option maxRecDepth 100000 in
theorem selX7_low : eW (.selects RX7 yX7_low yX7_low) := ⟨List.mem_of_getElem? (i := 1010) rfl, rfl⟩
set_option maxRecDepth 100000 in
theorem ariX7_low : eAri MX7_low 3 := by unfold eAri; decide +kernel
set_option maxRecDepth 100000 in
theorem mthX7_about : eMeth MX7_about := ⟨⟨List.mem_of_getElem? (i := 1024) rfl, rfl⟩, ini_RX7, cne_RX7, pln_RX7, Nat.le_of_ble_eq_true rfl⟩
set_option maxRecDepth 100000 in
theorem insX7_about : eW (.instanceMethod yX7_about) := ⟨List.mem_of_getElem? (i := 1022) rfl, rfl⟩
set_option maxRecDepth 100000 in
theorem selX7_about : eW (.selects RX7 yX7_about yX7_about) := ⟨List.mem_of_getElem? (i := 1023) rfl, rfl⟩
set_option maxRecDepth 100000 in
theorem ariX7_about : eAri MX7_about 4 := by unfold eAri; decide +kernel
set_option maxRecDepth 100000 in
theorem mthX7_cone : eMeth MX7_cone := ⟨⟨List.mem_of_getElem? (i := 1028) rfl, rfl⟩, ini_RX7, cne_RX7, pln_RX7, Nat.le_of_ble_eq_true rfl⟩
set_option maxRecDepth 100000 in
theorem insX7_cone : eW (.instanceMethod yX7_cone) := ⟨List.mem_of_getElem? (i := 1026) rfl, rfl⟩
set_option maxRecDepth 100000 in
theorem selX7_cone : eW (.selects RX7 yX7_cone yX7_cone) := ⟨List.mem_of_getElem? (i := 1027) rfl, rfl⟩
set_option maxRecDepth 100000 in
theorem ariX7_cone : eAri MX7_cone 3 := by unfold eAri; decide +kernel
set_option maxRecDepth 100000 in
theorem mthX7_isLifted : eMeth MX7_isLifted := ⟨⟨List.mem_of_getElem? (i := 1039) rfl, rfl⟩, ini_RX7, cne_RX7, pln_RX7, Nat.le_of_ble_eq_true rfl⟩
set_option maxRecDepth 100000 in
theorem insX7_isLifted : eW (.instanceMethod yX7_isLifted) := ⟨List.mem_of_getElem? (i := 1038) rfl, rfl⟩
set_option maxRecDepth 100000 in
theorem selX7_isLifted : eW (.selects RX7 yX7_isLifted yX7_isLifted) := ⟨List.mem_of_getElem? (i := 17) rfl, rfl⟩
set_option maxRecDepth 100000 in
theorem ariX7_isLifted : eAri MX7_isLifted 3 := by unfold eAri; decide +kernel
set_option maxRecDepth 100000 in
theorem mthX7_lift : eMeth MX7_lift := ⟨⟨List.mem_of_getElem? (i := 1043) rfl, rfl⟩, ini_RX7, cne_RX7, pln_RX7, Nat.le_of_ble_eq_true rfl⟩
set_option maxRecDepth 100000 in
theorem insX7_lift : eW (.instanceMethod yX7_lift) := ⟨List.mem_of_getElem? (i := 1041) rfl, rfl⟩
set_option maxRecDepth 100000 in
theorem selX7_lift : eW (.selects RX7 yX7_lift yX7_lift) := ⟨List.mem_of_getElem? (i := 1042) rfl, rfl⟩
set_option maxRecDepth 100000 in
theorem ariX7_lift : eAri MX7_lift 4 := by unfold eAri; decide +kernel
set_option maxRecDepth 100000 in
theorem mthX7_other : eMeth MX7_other := ⟨⟨List.mem_of_getElem? (i := 1047) rfl, rfl⟩, ini_RX7, cne_RX7, pln_RX7, Nat.le_of_ble_eq_true rfl⟩
set_option maxRecDepth 100000 in
theorem insX7_other : eW (.instanceMethod yX7_other) := ⟨List.mem_of_getElem? (i := 1045) rfl, rfl⟩
set_option maxRecDepth 100000 in
theorem selX7_other : eW (.selects RX7 yX7_other yX7_other) := ⟨List.mem_of_getElem? (i := 1046) rfl, rfl⟩
set_option maxRecDepth 100000 in
theorem ariX7_other : eAri MX7_other 3 := by unfold eAri; decide +kernel
set_option maxRecDepth 100000 in
theorem mthX7_exchanged : eMeth MX7_exchanged := ⟨⟨List.mem_of_getElem? (i := 1054) rfl, rfl⟩, ini_RX7, cne_RX7, pln_RX7, Nat.le_of_ble_eq_true rfl⟩
set_option maxRecDepth 100000 in
theorem staX7_exchanged : eW (.static yX7_exchanged) := ⟨List.mem_of_getElem? (i := 1053) rfl, rfl⟩
set_option maxRecDepth 100000 in
theorem ariX7_exchanged : eAri MX7_exchanged 3 := by unfold eAri; decide +kernel
set_option maxRecDepth 100000 in
theorem mthX7_exchange : eMeth MX7_exchange := ⟨⟨List.mem_of_getElem? (i := 1051) rfl, rfl⟩, ini_RX7, cne_RX7, pln_RX7, Nat.le_of_ble_eq_true rfl⟩
set_option maxRecDepth 100000 in
theorem insX7_exchange : eW (.instanceMethod yX7_exchange) := ⟨List.mem_of_getElem? (i := 1049) rfl, rfl⟩
set_option maxRecDepth 100000 in
theorem selX7_exchange : eW (.selects RX7 yX7_exchange yX7_exchange) := ⟨List.mem_of_getElem? (i := 1050) rfl, rfl⟩
set_option maxRecDepth 100000 in
theorem ariX7_exchange : eAri MX7_exchange 4 := by unfold eAri; decide +kernel
set_option maxRecDepth 100000 in
theorem mthX7_fold : eMeth MX7_fold := ⟨⟨List.mem_of_getElem? (i := 1058) rfl, rfl⟩, ini_RX7, cne_RX7, pln_RX7, Nat.le_of_ble_eq_true rfl⟩
set_option maxRecDepth 100000 in
theorem insX7_fold : eW (.instanceMethod yX7_fold) := ⟨List.mem_of_getElem? (i := 1056) rfl, rfl⟩
set_option maxRecDepth 100000 in
theorem selX7_fold : eW (.selects RX7 yX7_fold yX7_fold) := ⟨List.mem_of_getElem? (i := 1057) rfl, rfl⟩
set_option maxRecDepth 100000 in
theorem ariX7_fold : eAri MX7_fold 2 := by unfold eAri; decide +kernel
set_option maxRecDepth 100000 in
theorem mthX7_has : eMeth MX7_has := ⟨⟨List.mem_of_getElem? (i := 1066) rfl, rfl⟩, ini_RX7, cne_RX7, pln_RX7, Nat.le_of_ble_eq_true rfl⟩
set_option maxRecDepth 100000 in
theorem insX7_has : eW (.instanceMethod yX7_has) := ⟨List.mem_of_getElem? (i := 1064) rfl, rfl⟩
set_option maxRecDepth 100000 in
theorem selX7_has : eW (.selects RX7 yX7_has yX7_has) := ⟨List.mem_of_getElem? (i := 1065) rfl, rfl⟩
set_option maxRecDepth 100000 in
theorem ariX7_has : eAri MX7_has 2 := by unfold eAri; decide +kernel
set_option maxRecDepth 100000 in
theorem mthX7_size : eMeth MX7_size := ⟨⟨List.mem_of_getElem? (i := 1070) rfl, rfl⟩, ini_RX7, cne_RX7, pln_RX7, Nat.le_of_ble_eq_true rfl⟩
set_option maxRecDepth 100000 in
theorem insX7_size : eW (.instanceMethod yX7_size) := ⟨List.mem_of_getElem? (i := 1068) rfl, rfl⟩
set_option maxRecDepth 100000 in
theorem selX7_size : eW (.selects RX7 yX7_size yX7_size) := ⟨List.mem_of_getElem? (i := 1069) rfl, rfl⟩
set_option maxRecDepth 100000 in
theorem ariX7_size : eAri MX7_size 1 := by unfold eAri; decide +kernel
set_option maxRecDepth 100000 in
theorem mthX7_facesOf : eMeth MX7_facesOf := ⟨⟨List.mem_of_getElem? (i := 1078) rfl, rfl⟩, ini_RX7, cne_RX7, pln_RX7, Nat.le_of_ble_eq_true rfl⟩
set_option maxRecDepth 100000 in
theorem insX7_facesOf : eW (.instanceMethod yX7_facesOf) := ⟨List.mem_of_getElem? (i := 1077) rfl, rfl⟩
set_option maxRecDepth 100000 in
theorem selX7_facesOf : eW (.selects RX7 yX7_facesOf yX7_facesOf) := ⟨List.mem_of_getElem? (i := 19) rfl, rfl⟩
set_option maxRecDepth 100000 in
theorem ariX7_facesOf : eAri MX7_facesOf 2 := by unfold eAri; decide +kernel
set_option maxRecDepth 100000 in
theorem mthX7_faces : eMeth MX7_faces := ⟨⟨List.mem_of_getElem? (i := 1074) rfl, rfl⟩, ini_RX7, cne_RX7, pln_RX7, Nat.le_of_ble_eq_true rfl⟩
set_option maxRecDepth 100000 in
theorem insX7_faces : eW (.instanceMethod yX7_faces) := ⟨List.mem_of_getElem? (i := 1072) rfl, rfl⟩
set_option maxRecDepth 100000 in
theorem selX7_faces : eW (.selects RX7 yX7_faces yX7_faces) := ⟨List.mem_of_getElem? (i := 1073) rfl, rfl⟩
set_option maxRecDepth 100000 in
theorem ariX7_faces : eAri MX7_faces 2 := by unfold eAri; decide +kernel
set_option maxRecDepth 100000 in
theorem mthX7_corners : eMeth MX7_corners := ⟨⟨List.mem_of_getElem? (i := 1082) rfl, rfl⟩, ini_RX7, cne_RX7, pln_RX7, Nat.le_of_ble_eq_true rfl⟩
set_option maxRecDepth 100000 in
theorem insX7_corners : eW (.instanceMethod yX7_corners) := ⟨List.mem_of_getElem? (i := 1080) rfl, rfl⟩
set_option maxRecDepth 100000 in
theorem selX7_corners : eW (.selects RX7 yX7_corners yX7_corners) := ⟨List.mem_of_getElem? (i := 1081) rfl, rfl⟩
set_option maxRecDepth 100000 in
theorem ariX7_corners : eAri MX7_corners 1 := by unfold eAri; decide +kernel
set_option maxRecDepth 100000 in
theorem mthX7_over : eMeth MX7_over := ⟨⟨List.mem_of_getElem? (i := 1086) rfl, rfl⟩, ini_RX7, cne_RX7, pln_RX7, Nat.le_of_ble_eq_true rfl⟩
set_option maxRecDepth 100000 in
theorem insX7_over : eW (.instanceMethod yX7_over) := ⟨List.mem_of_getElem? (i := 1084) rfl, rfl⟩
set_option maxRecDepth 100000 in
theorem selX7_over : eW (.selects RX7 yX7_over yX7_over) := ⟨List.mem_of_getElem? (i := 1085) rfl, rfl⟩
set_option maxRecDepth 100000 in
theorem ariX7_over : eAri MX7_over 2 := by unfold eAri; decide +kernel
set_option maxRecDepth 100000 in
theorem mthX7_greatestOf : eMeth MX7_greatestOf := ⟨⟨List.mem_of_getElem? (i := 1094) rfl, rfl⟩, ini_RX7, cne_RX7, pln_RX7, Nat.le_of_ble_eq_true rfl⟩
set_option maxRecDepth 100000 in
theorem insX7_greatestOf : eW (.instanceMethod yX7_greatestOf) := ⟨List.mem_of_getElem? (i := 1093) rfl, rfl⟩
set_option maxRecDepth 100000 in
theorem selX7_greatestOf : eW (.selects RX7 yX7_greatestOf yX7_greatestOf) := ⟨List.mem_of_getElem? (i := 20) rfl, rfl⟩
set_option maxRecDepth 100000 in
theorem ariX7_greatestOf : eAri MX7_greatestOf 1 := by unfold eAri; decide +kernel
set_option maxRecDepth 100000 in
theorem mthX7_greatest : eMeth MX7_greatest := ⟨⟨List.mem_of_getElem? (i := 1090) rfl, rfl⟩, ini_RX7, cne_RX7, pln_RX7, Nat.le_of_ble_eq_true rfl⟩
set_option maxRecDepth 100000 in
theorem insX7_greatest : eW (.instanceMethod yX7_greatest) := ⟨List.mem_of_getElem? (i := 1088) rfl, rfl⟩
set_option maxRecDepth 100000 in
theorem selX7_greatest : eW (.selects RX7 yX7_greatest yX7_greatest) := ⟨List.mem_of_getElem? (i := 1089) rfl, rfl⟩
set_option maxRecDepth 100000 in
theorem ariX7_greatest : eAri MX7_greatest 1 := by unfold eAri; decide +kernel
set_option maxRecDepth 100000 in
theorem mthX7_greatestAt : eMeth MX7_greatestAt := ⟨⟨List.mem_of_getElem? (i := 1102) rfl, rfl⟩, ini_RX7, cne_RX7, pln_RX7, Nat.le_of_ble_eq_true rfl⟩
set_option maxRecDepth 100000 in
theorem insX7_greatestAt : eW (.instanceMethod yX7_greatestAt) := ⟨List.mem_of_getElem? (i := 1100) rfl, rfl⟩
set_option maxRecDepth 100000 in
theorem selX7_greatestAt : eW (.selects RX7 yX7_greatestAt yX7_greatestAt) := ⟨List.mem_of_getElem? (i := 1101) rfl, rfl⟩
set_option maxRecDepth 100000 in
theorem ariX7_greatestAt : eAri MX7_greatestAt 2 := by unfold eAri; decide +kernel
set_option maxRecDepth 100000 in
theorem mthX7_isOf : eMeth MX7_isOf := ⟨⟨List.mem_of_getElem? (i := 1110) rfl, rfl⟩, ini_RX7, cne_RX7, pln_RX7, Nat.le_of_ble_eq_true rfl⟩
set_option maxRecDepth 100000 in
theorem insX7_isOf : eW (.instanceMethod yX7_isOf) := ⟨List.mem_of_getElem? (i := 1109) rfl, rfl⟩
set_option maxRecDepth 100000 in
theorem selX7_isOf : eW (.selects RX7 yX7_isOf yX7_isOf) := ⟨List.mem_of_getElem? (i := 22) rfl, rfl⟩
set_option maxRecDepth 100000 in
theorem ariX7_isOf : eAri MX7_isOf 2 := by unfold eAri; decide +kernel
set_option maxRecDepth 100000 in
theorem mthX7_isSame : eMeth MX7_isSame := ⟨⟨List.mem_of_getElem? (i := 1106) rfl, rfl⟩, ini_RX7, cne_RX7, pln_RX7, Nat.le_of_ble_eq_true rfl⟩
set_option maxRecDepth 100000 in
theorem insX7_isSame : eW (.instanceMethod yX7_isSame) := ⟨List.mem_of_getElem? (i := 1104) rfl, rfl⟩
set_option maxRecDepth 100000 in
theorem selX7_isSame : eW (.selects RX7 yX7_isSame yX7_isSame) := ⟨List.mem_of_getElem? (i := 1105) rfl, rfl⟩
set_option maxRecDepth 100000 in
theorem ariX7_isSame : eAri MX7_isSame 2 := by unfold eAri; decide +kernel
set_option maxRecDepth 100000 in
theorem mthX7_contains : eMeth MX7_contains := ⟨⟨List.mem_of_getElem? (i := 1114) rfl, rfl⟩, ini_RX7, cne_RX7, pln_RX7, Nat.le_of_ble_eq_true rfl⟩
set_option maxRecDepth 100000 in
theorem insX7_contains : eW (.instanceMethod yX7_contains) := ⟨List.mem_of_getElem? (i := 1112) rfl, rfl⟩
set_option maxRecDepth 100000 in
theorem selX7_contains : eW (.selects RX7 yX7_contains yX7_contains) := ⟨List.mem_of_getElem? (i := 1113) rfl, rfl⟩
set_option maxRecDepth 100000 in
theorem ariX7_contains : eAri MX7_contains 2 := by unfold eAri; decide +kernel
set_option maxRecDepth 100000 in
theorem mthX7_walk : eMeth MX7_walk := ⟨⟨List.mem_of_getElem? (i := 1122) rfl, rfl⟩, ini_RX7, cne_RX7, pln_RX7, Nat.le_of_ble_eq_true rfl⟩
set_option maxRecDepth 100000 in
theorem insX7_walk : eW (.instanceMethod yX7_walk) := ⟨List.mem_of_getElem? (i := 1121) rfl, rfl⟩
set_option maxRecDepth 100000 in
theorem selX7_walk : eW (.selects RX7 yX7_walk yX7_walk) := ⟨List.mem_of_getElem? (i := 23) rfl, rfl⟩
set_option maxRecDepth 100000 in
theorem ariX7_walk : eAri MX7_walk 1 := by unfold eAri; decide +kernel
set_option maxRecDepth 100000 in
theorem mthX7_join : eMeth MX7_join := ⟨⟨List.mem_of_getElem? (i := 1126) rfl, rfl⟩, ini_RX7, cne_RX7, pln_RX7, Nat.le_of_ble_eq_true rfl⟩
set_option maxRecDepth 100000 in
theorem insX7_join : eW (.instanceMethod yX7_join) := ⟨List.mem_of_getElem? (i := 1125) rfl, rfl⟩
set_option maxRecDepth 100000 in
theorem selX7_join : eW (.selects RX7 yX7_join yX7_join) := ⟨List.mem_of_getElem? (i := 24) rfl, rfl⟩
set_option maxRecDepth 100000 in
theorem ariX7_join : eAri MX7_join 1 := by unfold eAri; decide +kernel
set_option maxRecDepth 100000 in
theorem mthX7_pieces : eMeth MX7_pieces := ⟨⟨List.mem_of_getElem? (i := 1118) rfl, rfl⟩, ini_RX7, cne_RX7, pln_RX7, Nat.le_of_ble_eq_true rfl⟩
set_option maxRecDepth 100000 in
theorem insX7_pieces : eW (.instanceMethod yX7_pieces) := ⟨List.mem_of_getElem? (i := 1116) rfl, rfl⟩
set_option maxRecDepth 100000 in
theorem selX7_pieces : eW (.selects RX7 yX7_pieces yX7_pieces) := ⟨List.mem_of_getElem? (i := 1117) rfl, rfl⟩
set_option maxRecDepth 100000 in
theorem ariX7_pieces : eAri MX7_pieces 1 := by unfold eAri; decide +kernel
set_option maxRecDepth 100000 in
theorem mthX7_areJoined : eMeth MX7_areJoined := ⟨⟨List.mem_of_getElem? (i := 1130) rfl, rfl⟩, ini_RX7, cne_RX7, pln_RX7, Nat.le_of_ble_eq_true rfl⟩
set_option maxRecDepth 100000 in
theorem insX7_areJoined : eW (.instanceMethod yX7_areJoined) := ⟨List.mem_of_getElem? (i := 1128) rfl, rfl⟩
set_option maxRecDepth 100000 in
theorem selX7_areJoined : eW (.selects RX7 yX7_areJoined yX7_areJoined) := ⟨List.mem_of_getElem? (i := 1129) rfl, rfl⟩
set_option maxRecDepth 100000 in
theorem ariX7_areJoined : eAri MX7_areJoined 3 := by unfold eAri; decide +kernel
set_option maxRecDepth 100000 in
theorem mthX7_bit : eMeth MX7_bit := ⟨⟨List.mem_of_getElem? (i := 1144) rfl, rfl⟩, ini_RX7, cne_RX7, pln_RX7, Nat.le_of_ble_eq_true rfl⟩
set_option maxRecDepth 100000 in
theorem staX7_bit : eW (.static yX7_bit) := ⟨List.mem_of_getElem? (i := 1143) rfl, rfl⟩
set_option maxRecDepth 100000 in
theorem ariX7_bit : eAri MX7_bit 1 := by unfold eAri; decide +kernel
set_option maxRecDepth 100000 in
theorem mthX7_borderBits : eMeth MX7_borderBits := ⟨⟨List.mem_of_getElem? (i := 1141) rfl, rfl⟩, ini_RX7, cne_RX7, pln_RX7, Nat.le_of_ble_eq_true rfl⟩
set_option maxRecDepth 100000 in
theorem staX7_borderBits : eW (.static yX7_borderBits) := ⟨List.mem_of_getElem? (i := 1140) rfl, rfl⟩
set_option maxRecDepth 100000 in
theorem ariX7_borderBits : eAri MX7_borderBits 1 := by unfold eAri; decide +kernel
set_option maxRecDepth 100000 in
theorem mthX7_left : eMeth MX7_left := ⟨⟨List.mem_of_getElem? (i := 1148) rfl, rfl⟩, ini_RX7, cne_RX7, pln_RX7, Nat.le_of_ble_eq_true rfl⟩
set_option maxRecDepth 100000 in
theorem insX7_left : eW (.instanceMethod yX7_left) := ⟨List.mem_of_getElem? (i := 1147) rfl, rfl⟩
set_option maxRecDepth 100000 in
theorem selX7_left : eW (.selects RX7 yX7_left yX7_left) := ⟨List.mem_of_getElem? (i := 26) rfl, rfl⟩
set_option maxRecDepth 100000 in
theorem ariX7_left : eAri MX7_left 1 := by unfold eAri; decide +kernel
set_option maxRecDepth 100000 in
theorem mthX7_rank : eMeth MX7_rank := ⟨⟨List.mem_of_getElem? (i := 1138) rfl, rfl⟩, ini_RX7, cne_RX7, pln_RX7, Nat.le_of_ble_eq_true rfl⟩
set_option maxRecDepth 100000 in
theorem insX7_rank : eW (.instanceMethod yX7_rank) := ⟨List.mem_of_getElem? (i := 1137) rfl, rfl⟩
set_option maxRecDepth 100000 in
theorem selX7_rank : eW (.selects RX7 yX7_rank yX7_rank) := ⟨List.mem_of_getElem? (i := 25) rfl, rfl⟩
set_option maxRecDepth 100000 in
theorem ariX7_rank : eAri MX7_rank 2 := by unfold eAri; decide +kernel
set_option maxRecDepth 100000 in
theorem mthX7_free : eMeth MX7_free := ⟨⟨List.mem_of_getElem? (i := 1134) rfl, rfl⟩, ini_RX7, cne_RX7, pln_RX7, Nat.le_of_ble_eq_true rfl⟩
set_option maxRecDepth 100000 in
theorem insX7_free : eW (.instanceMethod yX7_free) := ⟨List.mem_of_getElem? (i := 1132) rfl, rfl⟩
set_option maxRecDepth 100000 in
theorem selX7_free : eW (.selects RX7 yX7_free yX7_free) := ⟨List.mem_of_getElem? (i := 1133) rfl, rfl⟩
set_option maxRecDepth 100000 in
theorem ariX7_free : eAri MX7_free 2 := by unfold eAri; decide +kernel
set_option maxRecDepth 100000 in
theorem mthX7_holes : eMeth MX7_holes := ⟨⟨List.mem_of_getElem? (i := 1152) rfl, rfl⟩, ini_RX7, cne_RX7, pln_RX7, Nat.le_of_ble_eq_true rfl⟩
set_option maxRecDepth 100000 in
theorem insX7_holes : eW (.instanceMethod yX7_holes) := ⟨List.mem_of_getElem? (i := 1150) rfl, rfl⟩
set_option maxRecDepth 100000 in
theorem selX7_holes : eW (.selects RX7 yX7_holes yX7_holes) := ⟨List.mem_of_getElem? (i := 1151) rfl, rfl⟩
set_option maxRecDepth 100000 in
theorem ariX7_holes : eAri MX7_holes 2 := by unfold eAri; decide +kernel
set_option maxRecDepth 100000 in
theorem mthX7_signed : eMeth MX7_signed := ⟨⟨List.mem_of_getElem? (i := 1156) rfl, rfl⟩, ini_RX7, cne_RX7, pln_RX7, Nat.le_of_ble_eq_true rfl⟩
set_option maxRecDepth 100000 in
theorem insX7_signed : eW (.instanceMethod yX7_signed) := ⟨List.mem_of_getElem? (i := 1154) rfl, rfl⟩
set_option maxRecDepth 100000 in
theorem selX7_signed : eW (.selects RX7 yX7_signed yX7_signed) := ⟨List.mem_of_getElem? (i := 1155) rfl, rfl⟩
set_option maxRecDepth 100000 in
theorem ariX7_signed : eAri MX7_signed 1 := by unfold eAri; decide +kernel
set_option maxRecDepth 100000 in
theorem mthX7_rowMany : eMeth MX7_rowMany := ⟨⟨List.mem_of_getElem? (i := 1164) rfl, rfl⟩, ini_RX7, cne_RX7, pln_RX7, Nat.le_of_ble_eq_true rfl⟩
set_option maxRecDepth 100000 in
theorem insX7_rowMany : eW (.instanceMethod yX7_rowMany) := ⟨List.mem_of_getElem? (i := 1163) rfl, rfl⟩
set_option maxRecDepth 100000 in
theorem selX7_rowMany : eW (.selects RX7 yX7_rowMany yX7_rowMany) := ⟨List.mem_of_getElem? (i := 27) rfl, rfl⟩
set_option maxRecDepth 100000 in
theorem ariX7_rowMany : eAri MX7_rowMany 0 := by unfold eAri; decide +kernel
set_option maxRecDepth 100000 in
theorem mthX7_rowHeight : eMeth MX7_rowHeight := ⟨⟨List.mem_of_getElem? (i := 1168) rfl, rfl⟩, ini_RX7, cne_RX7, pln_RX7, Nat.le_of_ble_eq_true rfl⟩
set_option maxRecDepth 100000 in
theorem insX7_rowHeight : eW (.instanceMethod yX7_rowHeight) := ⟨List.mem_of_getElem? (i := 1167) rfl, rfl⟩
set_option maxRecDepth 100000 in
theorem selX7_rowHeight : eW (.selects RX7 yX7_rowHeight yX7_rowHeight) := ⟨List.mem_of_getElem? (i := 28) rfl, rfl⟩
set_option maxRecDepth 100000 in
theorem ariX7_rowHeight : eAri MX7_rowHeight 0 := by unfold eAri; decide +kernel
set_option maxRecDepth 100000 in
theorem mthX7_flip : eMeth MX7_flip := ⟨⟨List.mem_of_getElem? (i := 1160) rfl, rfl⟩, ini_RX7, cne_RX7, pln_RX7, Nat.le_of_ble_eq_true rfl⟩
set_option maxRecDepth 100000 in
theorem insX7_flip : eW (.instanceMethod yX7_flip) := ⟨List.mem_of_getElem? (i := 1158) rfl, rfl⟩
set_option maxRecDepth 100000 in
theorem selX7_flip : eW (.selects RX7 yX7_flip yX7_flip) := ⟨List.mem_of_getElem? (i := 1159) rfl, rfl⟩
set_option maxRecDepth 100000 in
theorem ariX7_flip : eAri MX7_flip 1 := by unfold eAri; decide +kernel
set_option maxRecDepth 100000 in
theorem mthX7_findBorder : eMeth MX7_findBorder := ⟨⟨List.mem_of_getElem? (i := 1176) rfl, rfl⟩, ini_RX7, cne_RX7, pln_RX7, Nat.le_of_ble_eq_true rfl⟩
set_option maxRecDepth 100000 in
theorem insX7_findBorder : eW (.instanceMethod yX7_findBorder) := ⟨List.mem_of_getElem? (i := 1175) rfl, rfl⟩
set_option maxRecDepth 100000 in
theorem selX7_findBorder : eW (.selects RX7 yX7_findBorder yX7_findBorder) := ⟨List.mem_of_getElem? (i := 29) rfl, rfl⟩
set_option maxRecDepth 100000 in
theorem ariX7_findBorder : eAri MX7_findBorder 0 := by unfold eAri; decide +kernel
set_option maxRecDepth 100000 in
theorem mthX7_border : eMeth MX7_border := ⟨⟨List.mem_of_getElem? (i := 1172) rfl, rfl⟩, ini_RX7, cne_RX7, pln_RX7, Nat.le_of_ble_eq_true rfl⟩
set_option maxRecDepth 100000 in
theorem insX7_border : eW (.instanceMethod yX7_border) := ⟨List.mem_of_getElem? (i := 1170) rfl, rfl⟩
set_option maxRecDepth 100000 in
theorem selX7_border : eW (.selects RX7 yX7_border yX7_border) := ⟨List.mem_of_getElem? (i := 1171) rfl, rfl⟩
set_option maxRecDepth 100000 in
theorem ariX7_border : eAri MX7_border 0 := by unfold eAri; decide +kernel
set_option maxRecDepth 100000 in
theorem mthX7_drop : eMeth MX7_drop := ⟨⟨List.mem_of_getElem? (i := 1180) rfl, rfl⟩, ini_RX7, cne_RX7, pln_RX7, Nat.le_of_ble_eq_true rfl⟩
set_option maxRecDepth 100000 in
theorem insX7_drop : eW (.instanceMethod yX7_drop) := ⟨List.mem_of_getElem? (i := 1178) rfl, rfl⟩
set_option maxRecDepth 100000 in
theorem selX7_drop : eW (.selects RX7 yX7_drop yX7_drop) := ⟨List.mem_of_getElem? (i := 1179) rfl, rfl⟩
set_option maxRecDepth 100000 in
theorem ariX7_drop : eAri MX7_drop 0 := by unfold eAri; decide +kernel
set_option maxRecDepth 100000 in
theorem mthX7_rowAt : eMeth MX7_rowAt := ⟨⟨List.mem_of_getElem? (i := 1184) rfl, rfl⟩, ini_RX7, cne_RX7, pln_RX7, Nat.le_of_ble_eq_true rfl⟩
set_option maxRecDepth 100000 in
theorem insX7_rowAt : eW (.instanceMethod yX7_rowAt) := ⟨List.mem_of_getElem? (i := 1182) rfl, rfl⟩
set_option maxRecDepth 100000 in
theorem selX7_rowAt : eW (.selects RX7 yX7_rowAt yX7_rowAt) := ⟨List.mem_of_getElem? (i := 1183) rfl, rfl⟩
set_option maxRecDepth 100000 in
theorem ariX7_rowAt : eAri MX7_rowAt 1 := by unfold eAri; decide +kernel
set_option maxRecDepth 100000 in
theorem mthX7_isRound : eMeth MX7_isRound := ⟨⟨List.mem_of_getElem? (i := 1188) rfl, rfl⟩, ini_RX7, cne_RX7, pln_RX7, Nat.le_of_ble_eq_true rfl⟩
set_option maxRecDepth 100000 in
theorem insX7_isRound : eW (.instanceMethod yX7_isRound) := ⟨List.mem_of_getElem? (i := 1186) rfl, rfl⟩
set_option maxRecDepth 100000 in
theorem selX7_isRound : eW (.selects RX7 yX7_isRound yX7_isRound) := ⟨List.mem_of_getElem? (i := 1187) rfl, rfl⟩
set_option maxRecDepth 100000 in
theorem ariX7_isRound : eAri MX7_isRound 0 := by unfold eAri; decide +kernel
set_option maxRecDepth 100000 in
theorem mthX7_fills : eMeth MX7_fills := ⟨⟨List.mem_of_getElem? (i := 1192) rfl, rfl⟩, ini_RX7, cne_RX7, pln_RX7, Nat.le_of_ble_eq_true rfl⟩
set_option maxRecDepth 100000 in
theorem insX7_fills : eW (.instanceMethod yX7_fills) := ⟨List.mem_of_getElem? (i := 1190) rfl, rfl⟩
set_option maxRecDepth 100000 in
theorem selX7_fills : eW (.selects RX7 yX7_fills yX7_fills) := ⟨List.mem_of_getElem? (i := 1191) rfl, rfl⟩
set_option maxRecDepth 100000 in
theorem ariX7_fills : eAri MX7_fills 1 := by unfold eAri; decide +kernel
set_option maxRecDepth 100000 in
theorem mthX7_mean : eMeth MX7_mean := ⟨⟨List.mem_of_getElem? (i := 1196) rfl, rfl⟩, ini_RX7, cne_RX7, pln_RX7, Nat.le_of_ble_eq_true rfl⟩
set_option maxRecDepth 100000 in
theorem insX7_mean : eW (.instanceMethod yX7_mean) := ⟨List.mem_of_getElem? (i := 1194) rfl, rfl⟩
set_option maxRecDepth 100000 in
theorem selX7_mean : eW (.selects RX7 yX7_mean yX7_mean) := ⟨List.mem_of_getElem? (i := 1195) rfl, rfl⟩
set_option maxRecDepth 100000 in
theorem ariX7_mean : eAri MX7_mean 1 := by unfold eAri; decide +kernel
set_option maxRecDepth 100000 in
theorem mthX7_share : eMeth MX7_share := ⟨⟨List.mem_of_getElem? (i := 1200) rfl, rfl⟩, ini_RX7, cne_RX7, pln_RX7, Nat.le_of_ble_eq_true rfl⟩
set_option maxRecDepth 100000 in
theorem insX7_share : eW (.instanceMethod yX7_share) := ⟨List.mem_of_getElem? (i := 1198) rfl, rfl⟩
set_option maxRecDepth 100000 in
theorem selX7_share : eW (.selects RX7 yX7_share yX7_share) := ⟨List.mem_of_getElem? (i := 1199) rfl, rfl⟩
set_option maxRecDepth 100000 in
theorem ariX7_share : eAri MX7_share 1 := by unfold eAri; decide +kernel
set_option maxRecDepth 100000 in
theorem mthX7_checksum : eMeth MX7_checksum := ⟨⟨List.mem_of_getElem? (i := 1204) rfl, rfl⟩, ini_RX7, cne_RX7, pln_RX7, Nat.le_of_ble_eq_true rfl⟩
set_option maxRecDepth 100000 in
theorem insX7_checksum : eW (.instanceMethod yX7_checksum) := ⟨List.mem_of_getElem? (i := 1202) rfl, rfl⟩
set_option maxRecDepth 100000 in
theorem selX7_checksum : eW (.selects RX7 yX7_checksum yX7_checksum) := ⟨List.mem_of_getElem? (i := 1203) rfl, rfl⟩
set_option maxRecDepth 100000 in
theorem ariX7_checksum : eAri MX7_checksum 0 := by unfold eAri; decide +kernel
set_option maxRecDepth 100000 in
theorem mthX7_isSound : eMeth MX7_isSound := ⟨⟨List.mem_of_getElem? (i := 1210) rfl, rfl⟩, ini_RX7, cne_RX7, pln_RX7, Nat.le_of_ble_eq_true rfl⟩
set_option maxRecDepth 100000 in
theorem insX7_isSound : eW (.instanceMethod yX7_isSound) := ⟨List.mem_of_getElem? (i := 1208) rfl, rfl⟩
set_option maxRecDepth 100000 in
theorem selX7_isSound : eW (.selects RX7 yX7_isSound yX7_isSound) := ⟨List.mem_of_getElem? (i := 1209) rfl, rfl⟩
set_option maxRecDepth 100000 in
theorem ariX7_isSound : eAri MX7_isSound 1 := by unfold eAri; decide +kernel
set_option maxRecDepth 100000 in
theorem mthX7_isTrue : eMeth MX7_isTrue := ⟨⟨List.mem_of_getElem? (i := 1214) rfl, rfl⟩, ini_RX7, cne_RX7, pln_RX7, Nat.le_of_ble_eq_true rfl⟩
set_option maxRecDepth 100000 in
theorem insX7_isTrue : eW (.instanceMethod yX7_isTrue) := ⟨List.mem_of_getElem? (i := 1212) rfl, rfl⟩
set_option maxRecDepth 100000 in
theorem selX7_isTrue : eW (.selects RX7 yX7_isTrue yX7_isTrue) := ⟨List.mem_of_getElem? (i := 1213) rfl, rfl⟩
set_option maxRecDepth 100000 in
theorem ariX7_isTrue : eAri MX7_isTrue 3 := by unfold eAri; decide +kernel
set_option maxRecDepth 100000 in
theorem mthX7_faceIsTrue : eMeth MX7_faceIsTrue := ⟨⟨List.mem_of_getElem? (i := 1218) rfl, rfl⟩, ini_RX7, cne_RX7, pln_RX7, Nat.le_of_ble_eq_true rfl⟩
set_option maxRecDepth 100000 in
theorem insX7_faceIsTrue : eW (.instanceMethod yX7_faceIsTrue) := ⟨List.mem_of_getElem? (i := 1216) rfl, rfl⟩
set_option maxRecDepth 100000 in
theorem selX7_faceIsTrue : eW (.selects RX7 yX7_faceIsTrue yX7_faceIsTrue) := ⟨List.mem_of_getElem? (i := 1217) rfl, rfl⟩
set_option maxRecDepth 100000 in
theorem ariX7_faceIsTrue : eAri MX7_faceIsTrue 2 := by unfold eAri; decide +kernel
set_option maxRecDepth 100000 in
theorem mthX7_pairIsTrue : eMeth MX7_pairIsTrue := ⟨⟨List.mem_of_getElem? (i := 1222) rfl, rfl⟩, ini_RX7, cne_RX7, pln_RX7, Nat.le_of_ble_eq_true rfl⟩
set_option maxRecDepth 100000 in
theorem insX7_pairIsTrue : eW (.instanceMethod yX7_pairIsTrue) := ⟨List.mem_of_getElem? (i := 1220) rfl, rfl⟩
set_option maxRecDepth 100000 in
theorem selX7_pairIsTrue : eW (.selects RX7 yX7_pairIsTrue yX7_pairIsTrue) := ⟨List.mem_of_getElem? (i := 1221) rfl, rfl⟩
set_option maxRecDepth 100000 in
theorem ariX7_pairIsTrue : eAri MX7_pairIsTrue 2 := by unfold eAri; decide +kernel
set_option maxRecDepth 100000 in
theorem mthJ6_bitCount_0f7a4 : eMeth MJ6_bitCount_0f7a4 := ⟨⟨List.mem_of_getElem? (i := 91) rfl, rfl⟩, ini_RJ6, cne_RJ6, pln_RJ6, Nat.le_of_ble_eq_true rfl⟩
set_option maxRecDepth 100000 in
theorem staJ6_bitCount_0f7a4 : eW (.static yJ6_bitCount_0f7a4) := ⟨List.mem_of_getElem? (i := 90) rfl, rfl⟩
set_option maxRecDepth 100000 in
theorem ariJ6_bitCount_0f7a4 : eAri MJ6_bitCount_0f7a4 1 := by unfold eAri; decide +kernel
set_option maxRecDepth 100000 in
theorem mthJ13_bitCount_95d88 : eMeth MJ13_bitCount_95d88 := ⟨⟨List.mem_of_getElem? (i := 208) rfl, rfl⟩, ini_RJ13, cne_RJ13, pln_RJ13, Nat.le_of_ble_eq_true rfl⟩
set_option maxRecDepth 100000 in
theorem staJ13_bitCount_95d88 : eW (.static yJ13_bitCount_95d88) := ⟨List.mem_of_getElem? (i := 207) rfl, rfl⟩
set_option maxRecDepth 100000 in
theorem ariJ13_bitCount_95d88 : eAri MJ13_bitCount_95d88 1 := by unfold eAri; decide +kernel
set_option maxRecDepth 100000 in
theorem mthL_put : eMeth ML_put := ⟨⟨List.mem_of_getElem? (i := 240) rfl, rfl⟩, ini_RL, cne_RL, pln_RL, Nat.le_of_ble_eq_true rfl⟩
set_option maxRecDepth 100000 in
theorem staL_put : eW (.static yL_put) := ⟨List.mem_of_getElem? (i := 239) rfl, rfl⟩
set_option maxRecDepth 100000 in
theorem ariL_put : eAri ML_put 4 := by unfold eAri; decide +kernel
set_option maxRecDepth 100000 in
theorem mthL_take : eMeth ML_take := ⟨⟨List.mem_of_getElem? (i := 345) rfl, rfl⟩, ini_RL, cne_RL, pln_RL, Nat.le_of_ble_eq_true rfl⟩
set_option maxRecDepth 100000 in
theorem staL_take : eW (.static yL_take) := ⟨List.mem_of_getElem? (i := 344) rfl, rfl⟩
set_option maxRecDepth 100000 in
theorem ariL_take : eAri ML_take 4 := by unfold eAri; decide +kernel
set_option maxRecDepth 100000 in
theorem mthL_clear : eMeth ML_clear := ⟨⟨List.mem_of_getElem? (i := 376) rfl, rfl⟩, ini_RL, cne_RL, pln_RL, Nat.le_of_ble_eq_true rfl⟩
set_option maxRecDepth 100000 in
theorem staL_clear : eW (.static yL_clear) := ⟨List.mem_of_getElem? (i := 375) rfl, rfl⟩
set_option maxRecDepth 100000 in
theorem ariL_clear : eAri ML_clear 3 := by unfold eAri; decide +kernel
set_option maxRecDepth 100000 in
theorem mthL_copy : eMeth ML_copy := ⟨⟨List.mem_of_getElem? (i := 383) rfl, rfl⟩, ini_RL, cne_RL, pln_RL, Nat.le_of_ble_eq_true rfl⟩
set_option maxRecDepth 100000 in
theorem staL_copy : eW (.static yL_copy) := ⟨List.mem_of_getElem? (i := 382) rfl, rfl⟩
set_option maxRecDepth 100000 in
theorem ariL_copy : eAri ML_copy 4 := by unfold eAri; decide +kernel
set_option maxRecDepth 100000 in
theorem mthL_unite : eMeth ML_unite := ⟨⟨List.mem_of_getElem? (i := 390) rfl, rfl⟩, ini_RL, cne_RL, pln_RL, Nat.le_of_ble_eq_true rfl⟩
set_option maxRecDepth 100000 in
theorem staL_unite : eW (.static yL_unite) := ⟨List.mem_of_getElem? (i := 389) rfl, rfl⟩
set_option maxRecDepth 100000 in
theorem ariL_unite : eAri ML_unite 5 := by unfold eAri; decide +kernel
set_option maxRecDepth 100000 in
theorem mthL_meet : eMeth ML_meet := ⟨⟨List.mem_of_getElem? (i := 401) rfl, rfl⟩, ini_RL, cne_RL, pln_RL, Nat.le_of_ble_eq_true rfl⟩
set_option maxRecDepth 100000 in
theorem staL_meet : eW (.static yL_meet) := ⟨List.mem_of_getElem? (i := 400) rfl, rfl⟩
set_option maxRecDepth 100000 in
theorem ariL_meet : eAri ML_meet 5 := by unfold eAri; decide +kernel
set_option maxRecDepth 100000 in
theorem mthL_full : eMeth ML_full := ⟨⟨List.mem_of_getElem? (i := 412) rfl, rfl⟩, ini_RL, cne_RL, pln_RL, Nat.le_of_ble_eq_true rfl⟩
set_option maxRecDepth 100000 in
theorem staL_full : eW (.static yL_full) := ⟨List.mem_of_getElem? (i := 411) rfl, rfl⟩
set_option maxRecDepth 100000 in
theorem ariL_full : eAri ML_full 5 := by unfold eAri; decide +kernel
set_option maxRecDepth 100000 in
theorem mthL_low : eMeth ML_low := ⟨⟨List.mem_of_getElem? (i := 420) rfl, rfl⟩, ini_RL, cne_RL, pln_RL, Nat.le_of_ble_eq_true rfl⟩
set_option maxRecDepth 100000 in
theorem staL_low : eW (.static yL_low) := ⟨List.mem_of_getElem? (i := 419) rfl, rfl⟩
set_option maxRecDepth 100000 in
theorem ariL_low : eAri ML_low 5 := by unfold eAri; decide +kernel
set_option maxRecDepth 100000 in
theorem mthL_about : eMeth ML_about := ⟨⟨List.mem_of_getElem? (i := 438) rfl, rfl⟩, ini_RL, cne_RL, pln_RL, Nat.le_of_ble_eq_true rfl⟩
set_option maxRecDepth 100000 in
theorem staL_about : eW (.static yL_about) := ⟨List.mem_of_getElem? (i := 437) rfl, rfl⟩
set_option maxRecDepth 100000 in
theorem ariL_about : eAri ML_about 6 := by unfold eAri; decide +kernel
set_option maxRecDepth 100000 in
theorem mthL_cone : eMeth ML_cone := ⟨⟨List.mem_of_getElem? (i := 448) rfl, rfl⟩, ini_RL, cne_RL, pln_RL, Nat.le_of_ble_eq_true rfl⟩
set_option maxRecDepth 100000 in
theorem staL_cone : eW (.static yL_cone) := ⟨List.mem_of_getElem? (i := 447) rfl, rfl⟩
set_option maxRecDepth 100000 in
theorem ariL_cone : eAri ML_cone 5 := by unfold eAri; decide +kernel
set_option maxRecDepth 100000 in
theorem mthL_lift : eMeth ML_lift := ⟨⟨List.mem_of_getElem? (i := 486) rfl, rfl⟩, ini_RL, cne_RL, pln_RL, Nat.le_of_ble_eq_true rfl⟩
set_option maxRecDepth 100000 in
theorem staL_lift : eW (.static yL_lift) := ⟨List.mem_of_getElem? (i := 485) rfl, rfl⟩
set_option maxRecDepth 100000 in
theorem ariL_lift : eAri ML_lift 6 := by unfold eAri; decide +kernel
set_option maxRecDepth 100000 in
theorem mthL_other : eMeth ML_other := ⟨⟨List.mem_of_getElem? (i := 497) rfl, rfl⟩, ini_RL, cne_RL, pln_RL, Nat.le_of_ble_eq_true rfl⟩
set_option maxRecDepth 100000 in
theorem staL_other : eW (.static yL_other) := ⟨List.mem_of_getElem? (i := 496) rfl, rfl⟩
set_option maxRecDepth 100000 in
theorem ariL_other : eAri ML_other 5 := by unfold eAri; decide +kernel
set_option maxRecDepth 100000 in
theorem mthL_exchange : eMeth ML_exchange := ⟨⟨List.mem_of_getElem? (i := 512) rfl, rfl⟩, ini_RL, cne_RL, pln_RL, Nat.le_of_ble_eq_true rfl⟩
set_option maxRecDepth 100000 in
theorem staL_exchange : eW (.static yL_exchange) := ⟨List.mem_of_getElem? (i := 511) rfl, rfl⟩
set_option maxRecDepth 100000 in
theorem ariL_exchange : eAri ML_exchange 6 := by unfold eAri; decide +kernel
set_option maxRecDepth 100000 in
theorem mthL_fold : eMeth ML_fold := ⟨⟨List.mem_of_getElem? (i := 529) rfl, rfl⟩, ini_RL, cne_RL, pln_RL, Nat.le_of_ble_eq_true rfl⟩
set_option maxRecDepth 100000 in
theorem staL_fold : eW (.static yL_fold) := ⟨List.mem_of_getElem? (i := 528) rfl, rfl⟩
set_option maxRecDepth 100000 in
theorem ariL_fold : eAri ML_fold 4 := by unfold eAri; decide +kernel
set_option maxRecDepth 100000 in
theorem mthL_has : eMeth ML_has := ⟨⟨List.mem_of_getElem? (i := 545) rfl, rfl⟩, ini_RL, cne_RL, pln_RL, Nat.le_of_ble_eq_true rfl⟩
set_option maxRecDepth 100000 in
theorem staL_has : eW (.static yL_has) := ⟨List.mem_of_getElem? (i := 544) rfl, rfl⟩
set_option maxRecDepth 100000 in
theorem ariL_has : eAri ML_has 4 := by unfold eAri; decide +kernel
set_option maxRecDepth 100000 in
theorem mthL_size : eMeth ML_size := ⟨⟨List.mem_of_getElem? (i := 552) rfl, rfl⟩, ini_RL, cne_RL, pln_RL, Nat.le_of_ble_eq_true rfl⟩
set_option maxRecDepth 100000 in
theorem staL_size : eW (.static yL_size) := ⟨List.mem_of_getElem? (i := 551) rfl, rfl⟩
set_option maxRecDepth 100000 in
theorem ariL_size : eAri ML_size 3 := by unfold eAri; decide +kernel
set_option maxRecDepth 100000 in
theorem mthL_faces : eMeth ML_faces := ⟨⟨List.mem_of_getElem? (i := 559) rfl, rfl⟩, ini_RL, cne_RL, pln_RL, Nat.le_of_ble_eq_true rfl⟩
set_option maxRecDepth 100000 in
theorem staL_faces : eW (.static yL_faces) := ⟨List.mem_of_getElem? (i := 558) rfl, rfl⟩
set_option maxRecDepth 100000 in
theorem ariL_faces : eAri ML_faces 4 := by unfold eAri; decide +kernel
set_option maxRecDepth 100000 in
theorem mthL_corners : eMeth ML_corners := ⟨⟨List.mem_of_getElem? (i := 571) rfl, rfl⟩, ini_RL, cne_RL, pln_RL, Nat.le_of_ble_eq_true rfl⟩
set_option maxRecDepth 100000 in
theorem staL_corners : eW (.static yL_corners) := ⟨List.mem_of_getElem? (i := 570) rfl, rfl⟩
set_option maxRecDepth 100000 in
theorem ariL_corners : eAri ML_corners 3 := by unfold eAri; decide +kernel
set_option maxRecDepth 100000 in
theorem mthL_over : eMeth ML_over := ⟨⟨List.mem_of_getElem? (i := 578) rfl, rfl⟩, ini_RL, cne_RL, pln_RL, Nat.le_of_ble_eq_true rfl⟩
set_option maxRecDepth 100000 in
theorem staL_over : eW (.static yL_over) := ⟨List.mem_of_getElem? (i := 577) rfl, rfl⟩
set_option maxRecDepth 100000 in
theorem ariL_over : eAri ML_over 4 := by unfold eAri; decide +kernel
set_option maxRecDepth 100000 in
theorem mthL_greatest : eMeth ML_greatest := ⟨⟨List.mem_of_getElem? (i := 585) rfl, rfl⟩, ini_RL, cne_RL, pln_RL, Nat.le_of_ble_eq_true rfl⟩
set_option maxRecDepth 100000 in
theorem staL_greatest : eW (.static yL_greatest) := ⟨List.mem_of_getElem? (i := 584) rfl, rfl⟩
set_option maxRecDepth 100000 in
theorem ariL_greatest : eAri ML_greatest 3 := by unfold eAri; decide +kernel
set_option maxRecDepth 100000 in
theorem mthL_greatestAt : eMeth ML_greatestAt := ⟨⟨List.mem_of_getElem? (i := 598) rfl, rfl⟩, ini_RL, cne_RL, pln_RL, Nat.le_of_ble_eq_true rfl⟩
set_option maxRecDepth 100000 in
theorem staL_greatestAt : eW (.static yL_greatestAt) := ⟨List.mem_of_getElem? (i := 597) rfl, rfl⟩
set_option maxRecDepth 100000 in
theorem ariL_greatestAt : eAri ML_greatestAt 4 := by unfold eAri; decide +kernel
set_option maxRecDepth 100000 in
theorem mthL_isSame : eMeth ML_isSame := ⟨⟨List.mem_of_getElem? (i := 613) rfl, rfl⟩, ini_RL, cne_RL, pln_RL, Nat.le_of_ble_eq_true rfl⟩
set_option maxRecDepth 100000 in
theorem staL_isSame : eW (.static yL_isSame) := ⟨List.mem_of_getElem? (i := 612) rfl, rfl⟩
set_option maxRecDepth 100000 in
theorem ariL_isSame : eAri ML_isSame 4 := by unfold eAri; decide +kernel
set_option maxRecDepth 100000 in
theorem mthL_contains : eMeth ML_contains := ⟨⟨List.mem_of_getElem? (i := 624) rfl, rfl⟩, ini_RL, cne_RL, pln_RL, Nat.le_of_ble_eq_true rfl⟩
set_option maxRecDepth 100000 in
theorem staL_contains : eW (.static yL_contains) := ⟨List.mem_of_getElem? (i := 623) rfl, rfl⟩
set_option maxRecDepth 100000 in
theorem ariL_contains : eAri ML_contains 4 := by unfold eAri; decide +kernel
set_option maxRecDepth 100000 in
theorem mthL_pieces : eMeth ML_pieces := ⟨⟨List.mem_of_getElem? (i := 636) rfl, rfl⟩, ini_RL, cne_RL, pln_RL, Nat.le_of_ble_eq_true rfl⟩
set_option maxRecDepth 100000 in
theorem staL_pieces : eW (.static yL_pieces) := ⟨List.mem_of_getElem? (i := 635) rfl, rfl⟩
set_option maxRecDepth 100000 in
theorem ariL_pieces : eAri ML_pieces 3 := by unfold eAri; decide +kernel
set_option maxRecDepth 100000 in
theorem mthL_areJoined : eMeth ML_areJoined := ⟨⟨List.mem_of_getElem? (i := 657) rfl, rfl⟩, ini_RL, cne_RL, pln_RL, Nat.le_of_ble_eq_true rfl⟩
set_option maxRecDepth 100000 in
theorem staL_areJoined : eW (.static yL_areJoined) := ⟨List.mem_of_getElem? (i := 656) rfl, rfl⟩
set_option maxRecDepth 100000 in
theorem ariL_areJoined : eAri ML_areJoined 5 := by unfold eAri; decide +kernel
set_option maxRecDepth 100000 in
theorem mthL_free : eMeth ML_free := ⟨⟨List.mem_of_getElem? (i := 665) rfl, rfl⟩, ini_RL, cne_RL, pln_RL, Nat.le_of_ble_eq_true rfl⟩
set_option maxRecDepth 100000 in
theorem staL_free : eW (.static yL_free) := ⟨List.mem_of_getElem? (i := 664) rfl, rfl⟩
set_option maxRecDepth 100000 in
theorem ariL_free : eAri ML_free 4 := by unfold eAri; decide +kernel
set_option maxRecDepth 100000 in
theorem mthL_holes : eMeth ML_holes := ⟨⟨List.mem_of_getElem? (i := 680) rfl, rfl⟩, ini_RL, cne_RL, pln_RL, Nat.le_of_ble_eq_true rfl⟩
set_option maxRecDepth 100000 in
theorem staL_holes : eW (.static yL_holes) := ⟨List.mem_of_getElem? (i := 679) rfl, rfl⟩
set_option maxRecDepth 100000 in
theorem ariL_holes : eAri ML_holes 4 := by unfold eAri; decide +kernel
set_option maxRecDepth 100000 in
theorem mthL_signed : eMeth ML_signed := ⟨⟨List.mem_of_getElem? (i := 694) rfl, rfl⟩, ini_RL, cne_RL, pln_RL, Nat.le_of_ble_eq_true rfl⟩
set_option maxRecDepth 100000 in
theorem staL_signed : eW (.static yL_signed) := ⟨List.mem_of_getElem? (i := 693) rfl, rfl⟩
set_option maxRecDepth 100000 in
theorem ariL_signed : eAri ML_signed 3 := by unfold eAri; decide +kernel
set_option maxRecDepth 100000 in
theorem mthL_flip : eMeth ML_flip := ⟨⟨List.mem_of_getElem? (i := 705) rfl, rfl⟩, ini_RL, cne_RL, pln_RL, Nat.le_of_ble_eq_true rfl⟩
set_option maxRecDepth 100000 in
theorem staL_flip : eW (.static yL_flip) := ⟨List.mem_of_getElem? (i := 704) rfl, rfl⟩
set_option maxRecDepth 100000 in
theorem ariL_flip : eAri ML_flip 3 := by unfold eAri; decide +kernel
set_option maxRecDepth 100000 in
theorem mthL_rowAt : eMeth ML_rowAt := ⟨⟨List.mem_of_getElem? (i := 715) rfl, rfl⟩, ini_RL, cne_RL, pln_RL, Nat.le_of_ble_eq_true rfl⟩
set_option maxRecDepth 100000 in
theorem staL_rowAt : eW (.static yL_rowAt) := ⟨List.mem_of_getElem? (i := 714) rfl, rfl⟩
set_option maxRecDepth 100000 in
theorem ariL_rowAt : eAri ML_rowAt 3 := by unfold eAri; decide +kernel
set_option maxRecDepth 100000 in
theorem mthL_fills : eMeth ML_fills := ⟨⟨List.mem_of_getElem? (i := 722) rfl, rfl⟩, ini_RL, cne_RL, pln_RL, Nat.le_of_ble_eq_true rfl⟩
set_option maxRecDepth 100000 in
theorem staL_fills : eW (.static yL_fills) := ⟨List.mem_of_getElem? (i := 721) rfl, rfl⟩
set_option maxRecDepth 100000 in
theorem ariL_fills : eAri ML_fills 3 := by unfold eAri; decide +kernel
set_option maxRecDepth 100000 in
theorem mthL_mean : eMeth ML_mean := ⟨⟨List.mem_of_getElem? (i := 739) rfl, rfl⟩, ini_RL, cne_RL, pln_RL, Nat.le_of_ble_eq_true rfl⟩
set_option maxRecDepth 100000 in
theorem staL_mean : eW (.static yL_mean) := ⟨List.mem_of_getElem? (i := 738) rfl, rfl⟩
set_option maxRecDepth 100000 in
theorem ariL_mean : eAri ML_mean 3 := by unfold eAri; decide +kernel
set_option maxRecDepth 100000 in
theorem mthL_share : eMeth ML_share := ⟨⟨List.mem_of_getElem? (i := 751) rfl, rfl⟩, ini_RL, cne_RL, pln_RL, Nat.le_of_ble_eq_true rfl⟩
set_option maxRecDepth 100000 in
theorem staL_share : eW (.static yL_share) := ⟨List.mem_of_getElem? (i := 750) rfl, rfl⟩
set_option maxRecDepth 100000 in
theorem ariL_share : eAri ML_share 3 := by unfold eAri; decide +kernel
set_option maxRecDepth 100000 in
theorem mthL_isSound : eMeth ML_isSound := ⟨⟨List.mem_of_getElem? (i := 758) rfl, rfl⟩, ini_RL, cne_RL, pln_RL, Nat.le_of_ble_eq_true rfl⟩
set_option maxRecDepth 100000 in
theorem staL_isSound : eW (.static yL_isSound) := ⟨List.mem_of_getElem? (i := 757) rfl, rfl⟩
set_option maxRecDepth 100000 in
theorem ariL_isSound : eAri ML_isSound 3 := by unfold eAri; decide +kernel
set_option maxRecDepth 100000 in
theorem mthL_isTrue : eMeth ML_isTrue := ⟨⟨List.mem_of_getElem? (i := 807) rfl, rfl⟩, ini_RL, cne_RL, pln_RL, Nat.le_of_ble_eq_true rfl⟩
set_option maxRecDepth 100000 in
theorem staL_isTrue : eW (.static yL_isTrue) := ⟨List.mem_of_getElem? (i := 806) rfl, rfl⟩
set_option maxRecDepth 100000 in
theorem ariL_isTrue : eAri ML_isTrue 5 := by unfold eAri; decide +kernel
set_option maxRecDepth 100000 in
theorem mthL_faceIsTrue : eMeth ML_faceIsTrue := ⟨⟨List.mem_of_getElem? (i := 868) rfl, rfl⟩, ini_RL, cne_RL, pln_RL, Nat.le_of_ble_eq_true rfl⟩
set_option maxRecDepth 100000 in
theorem staL_faceIsTrue : eW (.static yL_faceIsTrue) := ⟨List.mem_of_getElem? (i := 867) rfl, rfl⟩
set_option maxRecDepth 100000 in
theorem ariL_faceIsTrue : eAri ML_faceIsTrue 4 := by unfold eAri; decide +kernel
set_option maxRecDepth 100000 in
theorem mthL_pairIsTrue : eMeth ML_pairIsTrue := ⟨⟨List.mem_of_getElem? (i := 893) rfl, rfl⟩, ini_RL, cne_RL, pln_RL, Nat.le_of_ble_eq_true rfl⟩
set_option maxRecDepth 100000 in
theorem staL_pairIsTrue : eW (.static yL_pairIsTrue) := ⟨List.mem_of_getElem? (i := 892) rfl, rfl⟩
set_option maxRecDepth 100000 in
theorem ariL_pairIsTrue : eAri ML_pairIsTrue 4 := by unfold eAri; decide +kernel
end Chk
