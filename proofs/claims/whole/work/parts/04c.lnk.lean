section Lnk
set_option maxRecDepth 100000 in
theorem at_RX6_110 : ∀ w ∈ eThW RX6 110 1, eW w ∨ eX w := by
  intro w hw
  have h : (eThW RX6 110 1).all (fun w => decide (w ∈ lw_tbl) && (goodWord w || eNgw w)) = true := by decide +kernel
  have h2 := List.all_eq_true.mp h w hw
  simp only [Bool.and_eq_true, Bool.or_eq_true, decide_eq_true_eq] at h2
  exact h2.2.elim (fun h3 => Or.inl ⟨h2.1, h3⟩) (fun h3 => Or.inr ⟨h2.1, h3⟩)
set_option maxRecDepth 100000 in
theorem at_RX6_124 : ∀ w ∈ eThW RX6 124 2, eW w ∨ eX w := by
  intro w hw
  have h : (eThW RX6 124 2).all (fun w => decide (w ∈ lw_tbl) && (goodWord w || eNgw w)) = true := by decide +kernel
  have h2 := List.all_eq_true.mp h w hw
  simp only [Bool.and_eq_true, Bool.or_eq_true, decide_eq_true_eq] at h2
  exact h2.2.elim (fun h3 => Or.inl ⟨h2.1, h3⟩) (fun h3 => Or.inr ⟨h2.1, h3⟩)
set_option maxRecDepth 100000 in
theorem at_RX6_211 : ∀ w ∈ eThW RX6 211 3, eW w ∨ eX w := by
  intro w hw
  have h : (eThW RX6 211 3).all (fun w => decide (w ∈ lw_tbl) && (goodWord w || eNgw w)) = true := by decide +kernel
  have h2 := List.all_eq_true.mp h w hw
  simp only [Bool.and_eq_true, Bool.or_eq_true, decide_eq_true_eq] at h2
  exact h2.2.elim (fun h3 => Or.inl ⟨h2.1, h3⟩) (fun h3 => Or.inr ⟨h2.1, h3⟩)
set_option maxRecDepth 100000 in
theorem at_RX6_263 : ∀ w ∈ eThW RX6 263 0, eW w ∨ eX w := by
  intro w hw
  have h : (eThW RX6 263 0).all (fun w => decide (w ∈ lw_tbl) && (goodWord w || eNgw w)) = true := by decide +kernel
  have h2 := List.all_eq_true.mp h w hw
  simp only [Bool.and_eq_true, Bool.or_eq_true, decide_eq_true_eq] at h2
  exact h2.2.elim (fun h3 => Or.inl ⟨h2.1, h3⟩) (fun h3 => Or.inr ⟨h2.1, h3⟩)
set_option maxRecDepth 100000 in
theorem cksX0_init : ∀ e ∈ (mPr MX0_init).flatten, eChk MX0_init e = true := List.all_eq_true.mp (by decide +kernel)
set_option maxRecDepth 100000 in
theorem lksX0_init : ∀ e ∈ (mPr MX0_init).flatten, eLink MT MX0_init e := eFl (fc (fc trivial (fc (⟨⟨List.mem_of_getElem? (i := 81) rfl, rfl⟩, ⟨List.mem_of_getElem? (i := 54) rfl, rfl⟩, ⟨List.mem_of_getElem? (i := 55) rfl, rfl⟩⟩) (fc trivial (fc trivial (fc (⟨⟨List.mem_of_getElem? (i := 109) rfl, rfl⟩, rfl, Nat.le_of_ble_eq_true rfl⟩) (fc (⟨_, _, _, rfl, Nat.le_of_ble_eq_true rfl, ⟨List.mem_of_getElem? (i := 99) rfl, rfl⟩, by decide +kernel⟩) (fc trivial (fc trivial (fn))))))))) (fc (fc (⟨⟨List.mem_of_getElem? (i := 110) rfl, rfl⟩, rfl, Nat.le_of_ble_eq_true rfl⟩) (fc (⟨_, _, _, rfl, Nat.le_of_ble_eq_true rfl, ⟨List.mem_of_getElem? (i := 100) rfl, rfl⟩, by decide +kernel⟩) (fc trivial (fc trivial (fc (⟨⟨List.mem_of_getElem? (i := 110) rfl, rfl⟩, rfl, Nat.le_of_ble_eq_true rfl⟩) (fc (⟨_, _, _, rfl, Nat.le_of_ble_eq_true rfl, ⟨List.mem_of_getElem? (i := 101) rfl, rfl⟩, by decide +kernel⟩) (fc trivial (fc (⟨mthX0_numberSlots, rfl, ⟨_, rfl, ariX0_numberSlots⟩, ⟨_, rfl, rfl⟩, ⟨List.mem_of_getElem? (i := 82) rfl, rfl⟩, insX0_numberSlots, selX0_numberSlots⟩) (fn))))))))) (fc (fc trivial (fc trivial (fc trivial (fc trivial (fc trivial (fc trivial (fc (⟨_, _, _, rfl, Nat.le_of_ble_eq_true rfl, ⟨List.mem_of_getElem? (i := 100) rfl, rfl⟩⟩) (fc trivial (fc trivial (fn)))))))))) (fc (fc trivial (fc (⟨mthX0_bitsOfBorder, rfl, ⟨_, rfl, ariX0_bitsOfBorder⟩, ⟨_, rfl, rfl⟩, ⟨List.mem_of_getElem? (i := 95) rfl, rfl⟩, insX0_bitsOfBorder, selX0_bitsOfBorder⟩) (fc trivial (fc trivial (fc trivial (fc trivial (fn))))))) (fn)))))
set_option maxRecDepth 100000 in
theorem mokX0_init : eMok MT MX0_init := ⟨cksX0_init, lksX0_init, fn⟩
set_option maxRecDepth 100000 in
theorem cksX0_numberSlots : ∀ e ∈ (mPr MX0_numberSlots).flatten, eChk MX0_numberSlots e = true := List.all_eq_true.mp (by decide +kernel)
set_option maxRecDepth 100000 in
theorem lksX0_numberSlots : ∀ e ∈ (mPr MX0_numberSlots).flatten, eLink MT MX0_numberSlots e := eFl (fc (fc trivial (fc trivial (fc trivial (fc trivial (fc trivial (fc trivial (fc trivial (fc trivial (fc trivial (fc trivial (fc trivial (fc trivial (fn))))))))))))) (fc (fc trivial (fc (⟨mthX6_heightOf, ariX6_heightOf, staX6_heightOf, rfl, ⟨List.mem_of_getElem? (i := 86) rfl, rfl⟩⟩) (fc trivial (fc trivial (fc trivial (fc (⟨_, _, _, rfl, Nat.le_of_ble_eq_true rfl, ⟨List.mem_of_getElem? (i := 99) rfl, rfl⟩⟩) (fc trivial (fc trivial (fn))))))))) (fc (fc trivial (fc trivial (fc trivial (fc trivial (fc trivial (fc trivial (fn))))))) (fc (fc trivial (fn)) (fn)))))
set_option maxRecDepth 100000 in
theorem mokX0_numberSlots : eMok MT MX0_numberSlots := ⟨cksX0_numberSlots, lksX0_numberSlots, fn⟩
set_option maxRecDepth 100000 in
theorem cksX0_bitsOfBorder : ∀ e ∈ (mPr MX0_bitsOfBorder).flatten, eChk MX0_bitsOfBorder e = true := List.all_eq_true.mp (by decide +kernel)
set_option maxRecDepth 100000 in
theorem lksX0_bitsOfBorder : ∀ e ∈ (mPr MX0_bitsOfBorder).flatten, eLink MT MX0_bitsOfBorder e := eFl (fc (fc trivial (fc trivial (fc trivial (fc trivial (fc trivial (fc trivial (fc trivial (fc trivial (fc trivial (fc trivial (fn))))))))))) (fc (fc trivial (fc trivial (fc trivial (fc trivial (fc trivial (fc trivial (fc trivial (fc trivial (fc trivial (fc trivial (fc trivial (fn)))))))))))) (fc (fc trivial (fc trivial (fc trivial (fc trivial (fc trivial (fc trivial (fc (⟨_, _, _, rfl, Nat.le_of_ble_eq_true rfl, ⟨List.mem_of_getElem? (i := 99) rfl, rfl⟩⟩) (fc trivial (fn))))))))) (fc (fc trivial (fc trivial (fc trivial (fc trivial (fc trivial (fc trivial (fc trivial (fc trivial (fn))))))))) (fn)))))
set_option maxRecDepth 100000 in
theorem mokX0_bitsOfBorder : eMok MT MX0_bitsOfBorder := ⟨cksX0_bitsOfBorder, lksX0_bitsOfBorder, fn⟩
set_option maxRecDepth 100000 in
theorem cksX0_makeBorder : ∀ e ∈ (mPr MX0_makeBorder).flatten, eChk MX0_makeBorder e = true := List.all_eq_true.mp (by decide +kernel)
set_option maxRecDepth 100000 in
theorem lksX0_makeBorder : ∀ e ∈ (mPr MX0_makeBorder).flatten, eLink MT MX0_makeBorder e := eFl (fc (fc trivial (fc (⟨mthX1_empty, rfl, ⟨_, rfl, ariX1_empty⟩, ⟨_, rfl, rfl⟩, ⟨List.mem_of_getElem? (i := 169) rfl, rfl⟩, insX1_empty, selX1_empty⟩) (fc trivial (fc trivial (fc trivial (fc trivial (fc trivial (fc trivial (fc trivial (fc (⟨mthX1_holds, rfl, ⟨_, rfl, ariX1_holds⟩, ⟨_, rfl, rfl⟩, ⟨List.mem_of_getElem? (i := 173) rfl, rfl⟩, insX1_holds, selX1_holds⟩) (fn))))))))))) (fc (fc trivial (fc trivial (fc trivial (fc (⟨mthX0_toggleBorder, ariX0_toggleBorder, staX0_toggleBorder, rfl, ⟨List.mem_of_getElem? (i := 177) rfl, rfl⟩⟩) (fc trivial (fc trivial (fc trivial (fn)))))))) (fn)))
set_option maxRecDepth 100000 in
theorem mokX0_makeBorder : eMok MT MX0_makeBorder := ⟨cksX0_makeBorder, lksX0_makeBorder, fn⟩
set_option maxRecDepth 100000 in
theorem cksX0_toggleBorder : ∀ e ∈ (mPr MX0_toggleBorder).flatten, eChk MX0_toggleBorder e = true := List.all_eq_true.mp (by decide +kernel)
set_option maxRecDepth 100000 in
theorem lksX0_toggleBorder : ∀ e ∈ (mPr MX0_toggleBorder).flatten, eLink MT MX0_toggleBorder e := eFl (fc (fc trivial (fc trivial (fc trivial (fc trivial (fc trivial (fc trivial (fc trivial (fc trivial (fc trivial (fc trivial (fc trivial (fc trivial (fc trivial (fn)))))))))))))) (fc (fc trivial (fc trivial (fc trivial (fc trivial (fc trivial (fc trivial (fc trivial (fc (⟨mthX1_toggle, rfl, ⟨_, rfl, ariX1_toggle⟩, ⟨_, rfl, rfl⟩, ⟨List.mem_of_getElem? (i := 180) rfl, rfl⟩, insX1_toggle, selX1_toggle⟩) (fc trivial (fn)))))))))) (fc (fc trivial (fc trivial (fn))) (fn))))
set_option maxRecDepth 100000 in
theorem mokX0_toggleBorder : eMok MT MX0_toggleBorder := ⟨cksX0_toggleBorder, lksX0_toggleBorder, fn⟩
set_option maxRecDepth 100000 in
theorem cksX0_countFree : ∀ e ∈ (mPr MX0_countFree).flatten, eChk MX0_countFree e = true := List.all_eq_true.mp (by decide +kernel)
set_option maxRecDepth 100000 in
theorem lksX0_countFree : ∀ e ∈ (mPr MX0_countFree).flatten, eLink MT MX0_countFree e := eFl (fc (fc trivial (fc trivial (fc trivial (fc trivial (fc trivial (fc trivial (fc (⟨_, _, _, rfl, Nat.le_of_ble_eq_true rfl, ⟨List.mem_of_getElem? (i := 101) rfl, rfl⟩⟩) (fc trivial (fc trivial (fc trivial (fc trivial (fn)))))))))))) (fc (fc trivial (fc trivial (fc trivial (fc trivial (fc trivial (fc trivial (fc trivial (fc trivial (fc trivial (fn)))))))))) (fc (fc trivial (fc trivial (fc trivial (fc trivial (fc trivial (fc trivial (fc (⟨mthX6_heightOf, ariX6_heightOf, staX6_heightOf, rfl, ⟨List.mem_of_getElem? (i := 86) rfl, rfl⟩⟩) (fn)))))))) (fc (fc trivial (fc trivial (fc trivial (fc trivial (fc (⟨mthX1_holds, rfl, ⟨_, rfl, ariX1_holds⟩, ⟨_, rfl, rfl⟩, ⟨List.mem_of_getElem? (i := 173) rfl, rfl⟩, insX1_holds, selX1_holds⟩) (fc trivial (fc trivial (fc trivial (fn))))))))) (fc (fc (⟨_, _, _, rfl, Nat.le_of_ble_eq_true rfl, ⟨List.mem_of_getElem? (i := 100) rfl, rfl⟩⟩) (fc trivial (fc trivial (fc (⟨mthX0_keepsIfFree, rfl, ⟨_, rfl, ariX0_keepsIfFree⟩, ⟨_, rfl, rfl⟩, ⟨List.mem_of_getElem? (i := 674) rfl, rfl⟩, insX0_keepsIfFree, selX0_keepsIfFree⟩) (fc trivial (fc trivial (fc trivial (fn)))))))) (fc (fc trivial (fc trivial (fc trivial (fn)))) (fn)))))))
set_option maxRecDepth 100000 in
theorem mokX0_countFree : eMok MT MX0_countFree := ⟨cksX0_countFree, lksX0_countFree, fn⟩
set_option maxRecDepth 100000 in
theorem cksX0_keepsIfFree : ∀ e ∈ (mPr MX0_keepsIfFree).flatten, eChk MX0_keepsIfFree e = true := List.all_eq_true.mp (by decide +kernel)
set_option maxRecDepth 100000 in
theorem lksX0_keepsIfFree : ∀ e ∈ (mPr MX0_keepsIfFree).flatten, eLink MT MX0_keepsIfFree e := eFl (fc (fc trivial (fc trivial (fc trivial (fc trivial (fc trivial (fc trivial (fc trivial (fc trivial (fc trivial (fc trivial (fc trivial (fn)))))))))))) (fc (fc trivial (fc trivial (fc trivial (fc trivial (fc trivial (fc trivial (fc trivial (fc trivial (fc trivial (fc (⟨_, _, _, rfl, Nat.le_of_ble_eq_true rfl, ⟨List.mem_of_getElem? (i := 101) rfl, rfl⟩⟩) (fn))))))))))) (fc (fc trivial (fc trivial (fc trivial (fc trivial (fc trivial (fc trivial (fc (⟨_, _, _, rfl, Nat.le_of_ble_eq_true rfl, ⟨List.mem_of_getElem? (i := 101) rfl, rfl⟩⟩) (fc trivial (fc trivial (fn)))))))))) (fc (fc trivial (fc trivial (fc trivial (fc trivial (fc trivial (fc (⟨_, _, _, rfl, Nat.le_of_ble_eq_true rfl, ⟨List.mem_of_getElem? (i := 101) rfl, rfl⟩⟩) (fc trivial (fc trivial (fc trivial (fc trivial (fc trivial (fn)))))))))))) (fc (fc trivial (fc trivial (fc trivial (fn)))) (fn))))))
set_option maxRecDepth 100000 in
theorem mokX0_keepsIfFree : eMok MT MX0_keepsIfFree := ⟨cksX0_keepsIfFree, lksX0_keepsIfFree, fn⟩
set_option maxRecDepth 100000 in
theorem cksX0_isSumOfKept : ∀ e ∈ (mPr MX0_isSumOfKept).flatten, eChk MX0_isSumOfKept e = true := List.all_eq_true.mp (by decide +kernel)
set_option maxRecDepth 100000 in
theorem lksX0_isSumOfKept : ∀ e ∈ (mPr MX0_isSumOfKept).flatten, eLink MT MX0_isSumOfKept e := eFl (fc (fc trivial (fc trivial (fc trivial (fc trivial (fc trivial (fc trivial (fc trivial (fc trivial (fc trivial (fc trivial (fn))))))))))) (fc (fc trivial (fc trivial (fc trivial (fc trivial (fc trivial (fc trivial (fc trivial (fc (⟨_, _, _, rfl, Nat.le_of_ble_eq_true rfl, ⟨List.mem_of_getElem? (i := 101) rfl, rfl⟩⟩) (fc trivial (fc trivial (fc trivial (fn)))))))))))) (fc (fc trivial (fc trivial (fc trivial (fc trivial (fc trivial (fc trivial (fc trivial (fc trivial (fc trivial (fn)))))))))) (fc (fc trivial (fc trivial (fn))) (fn)))))
set_option maxRecDepth 100000 in
theorem mokX0_isSumOfKept : eMok MT MX0_isSumOfKept := ⟨cksX0_isSumOfKept, lksX0_isSumOfKept, fn⟩
set_option maxRecDepth 100000 in
theorem cksX0_countHoles : ∀ e ∈ (mPr MX0_countHoles).flatten, eChk MX0_countHoles e = true := List.all_eq_true.mp (by decide +kernel)
set_option maxRecDepth 100000 in
theorem lksX0_countHoles : ∀ e ∈ (mPr MX0_countHoles).flatten, eLink MT MX0_countHoles e := eFl (fc (fc trivial (fc (⟨mthX1_isEmpty, rfl, ⟨_, rfl, ariX1_isEmpty⟩, ⟨_, rfl, rfl⟩, ⟨List.mem_of_getElem? (i := 689) rfl, rfl⟩, insX1_isEmpty, selX1_isEmpty⟩) (fc trivial (fc trivial (fc trivial (fc trivial (fc trivial (fc trivial (fc trivial (fn)))))))))) (fc (fc trivial (fc trivial (fc trivial (fc (⟨mthX0_countFree, rfl, ⟨_, rfl, ariX0_countFree⟩, ⟨_, rfl, rfl⟩, ⟨List.mem_of_getElem? (i := 690) rfl, rfl⟩, insX0_countFree, selX0_countFree⟩) (fc trivial (fc trivial (fc trivial (fc (⟨mthX1_countAt, rfl, ⟨_, rfl, ariX1_countAt⟩, ⟨_, rfl, rfl⟩, ⟨List.mem_of_getElem? (i := 691) rfl, rfl⟩, insX1_countAt, selX1_countAt⟩) (fc trivial (fc trivial (fc trivial (fn)))))))))))) (fc (fc trivial (fc trivial (fc trivial (fc trivial (fc (⟨mthX0_countFree, rfl, ⟨_, rfl, ariX0_countFree⟩, ⟨_, rfl, rfl⟩, ⟨List.mem_of_getElem? (i := 690) rfl, rfl⟩, insX0_countFree, selX0_countFree⟩) (fc trivial (fc trivial (fn)))))))) (fn))))
set_option maxRecDepth 100000 in
theorem mokX0_countHoles : eMok MT MX0_countHoles := ⟨cksX0_countHoles, lksX0_countHoles, fn⟩
set_option maxRecDepth 100000 in
theorem cksX0_isFilling : ∀ e ∈ (mPr MX0_isFilling).flatten, eChk MX0_isFilling e = true := List.all_eq_true.mp (by decide +kernel)
set_option maxRecDepth 100000 in
theorem lksX0_isFilling : ∀ e ∈ (mPr MX0_isFilling).flatten, eLink MT MX0_isFilling e := eFl (fc (fc trivial (fc (⟨mthX1_isEmpty, rfl, ⟨_, rfl, ariX1_isEmpty⟩, ⟨_, rfl, rfl⟩, ⟨List.mem_of_getElem? (i := 689) rfl, rfl⟩, insX1_isEmpty, selX1_isEmpty⟩) (fc trivial (fc trivial (fc trivial (fc trivial (fc trivial (fc trivial (fc trivial (fc (⟨mthX1_faceAt, rfl, ⟨_, rfl, ariX1_faceAt⟩, ⟨_, rfl, rfl⟩, ⟨List.mem_of_getElem? (i := 732) rfl, rfl⟩, insX1_faceAt, selX1_faceAt⟩) (fn))))))))))) (fc (fc (⟨mthX6_heightOf, ariX6_heightOf, staX6_heightOf, rfl, ⟨List.mem_of_getElem? (i := 86) rfl, rfl⟩⟩) (fc trivial (fc trivial (fc (⟨mthX0_countFree, rfl, ⟨_, rfl, ariX0_countFree⟩, ⟨_, rfl, rfl⟩, ⟨List.mem_of_getElem? (i := 690) rfl, rfl⟩, insX0_countFree, selX0_countFree⟩) (fc trivial (fc trivial (fc trivial (fc trivial (fc trivial (fc trivial (fn))))))))))) (fc (fc trivial (fc trivial (fc trivial (fc trivial (fc (⟨mthX1_holds, rfl, ⟨_, rfl, ariX1_holds⟩, ⟨_, rfl, rfl⟩, ⟨List.mem_of_getElem? (i := 173) rfl, rfl⟩, insX1_holds, selX1_holds⟩) (fc trivial (fc trivial (fc trivial (fn))))))))) (fc (fc trivial (fc (⟨_, _, _, rfl, Nat.le_of_ble_eq_true rfl, ⟨List.mem_of_getElem? (i := 99) rfl, rfl⟩⟩) (fc trivial (fc trivial (fc trivial (fc trivial (fc trivial (fc trivial (fc trivial (fn)))))))))) (fc (fc trivial (fc trivial (fc (⟨mthX0_isSumOfKept, rfl, ⟨_, rfl, ariX0_isSumOfKept⟩, ⟨_, rfl, rfl⟩, ⟨List.mem_of_getElem? (i := 733) rfl, rfl⟩, insX0_isSumOfKept, selX0_isSumOfKept⟩) (fc trivial (fn))))) (fn))))))
set_option maxRecDepth 100000 in
theorem mokX0_isFilling : eMok MT MX0_isFilling := ⟨cksX0_isFilling, lksX0_isFilling, fn⟩
set_option maxRecDepth 100000 in
theorem cksX1_init : ∀ e ∈ (mPr MX1_init).flatten, eChk MX1_init e = true := List.all_eq_true.mp (by decide +kernel)
set_option maxRecDepth 100000 in
theorem lksX1_init : ∀ e ∈ (mPr MX1_init).flatten, eLink MT MX1_init e := eFl (fc (fc trivial (fc (⟨⟨List.mem_of_getElem? (i := 62) rfl, rfl⟩, ⟨List.mem_of_getElem? (i := 54) rfl, rfl⟩, ⟨List.mem_of_getElem? (i := 55) rfl, rfl⟩⟩) (fc trivial (fn)))) (fn))
set_option maxRecDepth 100000 in
theorem mokX1_init : eMok MT MX1_init := ⟨cksX1_init, lksX1_init, fn⟩
set_option maxRecDepth 100000 in
theorem cksX1_holds : ∀ e ∈ (mPr MX1_holds).flatten, eChk MX1_holds e = true := List.all_eq_true.mp (by decide +kernel)
set_option maxRecDepth 100000 in
theorem lksX1_holds : ∀ e ∈ (mPr MX1_holds).flatten, eLink MT MX1_holds e := eFl (fc (fc trivial (fc trivial (fc trivial (fc trivial (fc (⟨_, _, _, rfl, Nat.le_of_ble_eq_true rfl, ⟨List.mem_of_getElem? (i := 63) rfl, rfl⟩⟩) (fc trivial (fc trivial (fc (⟨_, _, _, rfl, Nat.le_of_ble_eq_true rfl, ⟨List.mem_of_getElem? (i := 64) rfl, rfl⟩⟩) (fn))))))))) (fc (fc trivial (fc trivial (fc trivial (fc trivial (fc trivial (fc trivial (fc trivial (fc trivial (fc trivial (fc trivial (fc trivial (fn)))))))))))) (fc (fc trivial (fc trivial (fn))) (fn))))
set_option maxRecDepth 100000 in
theorem mokX1_holds : eMok MT MX1_holds := ⟨cksX1_holds, lksX1_holds, fn⟩
set_option maxRecDepth 100000 in
theorem cksX1_add : ∀ e ∈ (mPr MX1_add).flatten, eChk MX1_add e = true := List.all_eq_true.mp (by decide +kernel)
set_option maxRecDepth 100000 in
theorem lksX1_add : ∀ e ∈ (mPr MX1_add).flatten, eLink MT MX1_add e := eFl (fc (fc trivial (fc trivial (fc trivial (fc trivial (fc trivial (fc (⟨_, _, _, rfl, Nat.le_of_ble_eq_true rfl, ⟨List.mem_of_getElem? (i := 63) rfl, rfl⟩⟩) (fc trivial (fc trivial (fc trivial (fc trivial (fc (⟨_, _, _, rfl, Nat.le_of_ble_eq_true rfl, ⟨List.mem_of_getElem? (i := 63) rfl, rfl⟩, by decide +kernel⟩) (fn)))))))))))) (fc (fc trivial (fc trivial (fc trivial (fc (⟨_, _, _, rfl, Nat.le_of_ble_eq_true rfl, ⟨List.mem_of_getElem? (i := 64) rfl, rfl⟩⟩) (fc trivial (fc trivial (fc trivial (fc trivial (fc (⟨_, _, _, rfl, Nat.le_of_ble_eq_true rfl, ⟨List.mem_of_getElem? (i := 64) rfl, rfl⟩, by decide +kernel⟩) (fn)))))))))) (fc (fc trivial (fn)) (fn))))
set_option maxRecDepth 100000 in
theorem mokX1_add : eMok MT MX1_add := ⟨cksX1_add, lksX1_add, fn⟩
set_option maxRecDepth 100000 in
theorem cksX1_remove : ∀ e ∈ (mPr MX1_remove).flatten, eChk MX1_remove e = true := List.all_eq_true.mp (by decide +kernel)
set_option maxRecDepth 100000 in
theorem lksX1_remove : ∀ e ∈ (mPr MX1_remove).flatten, eLink MT MX1_remove e := eFl (fc (fc trivial (fc trivial (fc trivial (fc trivial (fc trivial (fc (⟨_, _, _, rfl, Nat.le_of_ble_eq_true rfl, ⟨List.mem_of_getElem? (i := 63) rfl, rfl⟩⟩) (fc trivial (fc trivial (fc trivial (fc (⟨List.mem_of_getElem? (i := 189) rfl, rfl⟩) (fn))))))))))) (fc (fc trivial (fc trivial (fc (⟨_, _, _, rfl, Nat.le_of_ble_eq_true rfl, ⟨List.mem_of_getElem? (i := 63) rfl, rfl⟩, by decide +kernel⟩) (fc trivial (fc trivial (fc trivial (fc (⟨_, _, _, rfl, Nat.le_of_ble_eq_true rfl, ⟨List.mem_of_getElem? (i := 64) rfl, rfl⟩⟩) (fc trivial (fc trivial (fn)))))))))) (fc (fc trivial (fc (⟨List.mem_of_getElem? (i := 189) rfl, rfl⟩) (fc trivial (fc trivial (fc (⟨_, _, _, rfl, Nat.le_of_ble_eq_true rfl, ⟨List.mem_of_getElem? (i := 64) rfl, rfl⟩, by decide +kernel⟩) (fc trivial (fn))))))) (fn))))
set_option maxRecDepth 100000 in
theorem mokX1_remove : eMok MT MX1_remove := ⟨cksX1_remove, lksX1_remove, fn⟩
set_option maxRecDepth 100000 in
theorem cksX1_toggle : ∀ e ∈ (mPr MX1_toggle).flatten, eChk MX1_toggle e = true := List.all_eq_true.mp (by decide +kernel)
set_option maxRecDepth 100000 in
theorem lksX1_toggle : ∀ e ∈ (mPr MX1_toggle).flatten, eLink MT MX1_toggle e := eFl (fc (fc trivial (fc trivial (fc (⟨mthX1_holds, rfl, ⟨_, rfl, ariX1_holds⟩, ⟨_, rfl, rfl⟩, ⟨List.mem_of_getElem? (i := 184) rfl, rfl⟩, insX1_holds, selX1_holds⟩) (fc trivial (fc trivial (fc trivial (fc (⟨mthX1_remove, rfl, ⟨_, rfl, ariX1_remove⟩, ⟨_, rfl, rfl⟩, ⟨List.mem_of_getElem? (i := 185) rfl, rfl⟩, insX1_remove, selX1_remove⟩) (fc trivial (fn))))))))) (fc (fc trivial (fc trivial (fc (⟨mthX1_add, rfl, ⟨_, rfl, ariX1_add⟩, ⟨_, rfl, rfl⟩, ⟨List.mem_of_getElem? (i := 190) rfl, rfl⟩, insX1_add, selX1_add⟩) (fc trivial (fn))))) (fn)))
set_option maxRecDepth 100000 in
theorem mokX1_toggle : eMok MT MX1_toggle := ⟨cksX1_toggle, lksX1_toggle, fn⟩
set_option maxRecDepth 100000 in
theorem cksX1_addParts : ∀ e ∈ (mPr MX1_addParts).flatten, eChk MX1_addParts e = true := List.all_eq_true.mp (by decide +kernel)
set_option maxRecDepth 100000 in
theorem lksX1_addParts : ∀ e ∈ (mPr MX1_addParts).flatten, eLink MT MX1_addParts e := eFl (fc (fc trivial (fc trivial (fc trivial (fc trivial (fc trivial (fc trivial (fc trivial (fc trivial (fc trivial (fc trivial (fc trivial (fc trivial (fn))))))))))))) (fc (fc (⟨mthX1_add, rfl, ⟨_, rfl, ariX1_add⟩, ⟨_, rfl, rfl⟩, ⟨List.mem_of_getElem? (i := 190) rfl, rfl⟩, insX1_add, selX1_add⟩) (fc trivial (fc trivial (fc trivial (fn))))) (fn)))
set_option maxRecDepth 100000 in
theorem mokX1_addParts : eMok MT MX1_addParts := ⟨cksX1_addParts, lksX1_addParts, fn⟩
set_option maxRecDepth 100000 in
theorem cksX1_removeWithAllOver : ∀ e ∈ (mPr MX1_removeWithAllOver).flatten, eChk MX1_removeWithAllOver e = true := List.all_eq_true.mp (by decide +kernel)
set_option maxRecDepth 100000 in
theorem lksX1_removeWithAllOver : ∀ e ∈ (mPr MX1_removeWithAllOver).flatten, eLink MT MX1_removeWithAllOver e := eFl (fc (fc trivial (fc trivial (fc trivial (fc trivial (fc trivial (fc trivial (fc trivial (fc trivial (fc trivial (fc trivial (fc trivial (fn)))))))))))) (fc (fc trivial (fc (⟨mthX1_remove, rfl, ⟨_, rfl, ariX1_remove⟩, ⟨_, rfl, rfl⟩, ⟨List.mem_of_getElem? (i := 185) rfl, rfl⟩, insX1_remove, selX1_remove⟩) (fc trivial (fc trivial (fc trivial (fn)))))) (fn)))
set_option maxRecDepth 100000 in
theorem mokX1_removeWithAllOver : eMok MT MX1_removeWithAllOver := ⟨cksX1_removeWithAllOver, lksX1_removeWithAllOver, fn⟩
set_option maxRecDepth 100000 in
theorem cksX1_empty : ∀ e ∈ (mPr MX1_empty).flatten, eChk MX1_empty e = true := List.all_eq_true.mp (by decide +kernel)
set_option maxRecDepth 100000 in
theorem lksX1_empty : ∀ e ∈ (mPr MX1_empty).flatten, eLink MT MX1_empty e := eFl (fc (fc trivial (fc trivial (fc (⟨_, _, _, rfl, Nat.le_of_ble_eq_true rfl, ⟨List.mem_of_getElem? (i := 63) rfl, rfl⟩, by decide +kernel⟩) (fc trivial (fc trivial (fc (⟨_, _, _, rfl, Nat.le_of_ble_eq_true rfl, ⟨List.mem_of_getElem? (i := 64) rfl, rfl⟩, by decide +kernel⟩) (fc trivial (fn)))))))) (fn))
set_option maxRecDepth 100000 in
theorem mokX1_empty : eMok MT MX1_empty := ⟨cksX1_empty, lksX1_empty, fn⟩
set_option maxRecDepth 100000 in
theorem cksX1_become : ∀ e ∈ (mPr MX1_become).flatten, eChk MX1_become e = true := List.all_eq_true.mp (by decide +kernel)
set_option maxRecDepth 100000 in
theorem lksX1_become : ∀ e ∈ (mPr MX1_become).flatten, eLink MT MX1_become e := eFl (fc (fc trivial (fc trivial (fc (⟨_, _, _, rfl, Nat.le_of_ble_eq_true rfl, ⟨List.mem_of_getElem? (i := 63) rfl, rfl⟩⟩) (fc (⟨_, _, _, rfl, Nat.le_of_ble_eq_true rfl, ⟨List.mem_of_getElem? (i := 63) rfl, rfl⟩, by decide +kernel⟩) (fc trivial (fc trivial (fc (⟨_, _, _, rfl, Nat.le_of_ble_eq_true rfl, ⟨List.mem_of_getElem? (i := 64) rfl, rfl⟩⟩) (fc (⟨_, _, _, rfl, Nat.le_of_ble_eq_true rfl, ⟨List.mem_of_getElem? (i := 64) rfl, rfl⟩, by decide +kernel⟩) (fn))))))))) (fc (fc trivial (fn)) (fn)))
set_option maxRecDepth 100000 in
theorem mokX1_become : eMok MT MX1_become := ⟨cksX1_become, lksX1_become, fn⟩
set_option maxRecDepth 100000 in
theorem cksX1_becomeUnion : ∀ e ∈ (mPr MX1_becomeUnion).flatten, eChk MX1_becomeUnion e = true := List.all_eq_true.mp (by decide +kernel)
set_option maxRecDepth 100000 in
theorem lksX1_becomeUnion : ∀ e ∈ (mPr MX1_becomeUnion).flatten, eLink MT MX1_becomeUnion e := eFl (fc (fc trivial (fc trivial (fc (⟨_, _, _, rfl, Nat.le_of_ble_eq_true rfl, ⟨List.mem_of_getElem? (i := 63) rfl, rfl⟩⟩) (fc trivial (fc (⟨_, _, _, rfl, Nat.le_of_ble_eq_true rfl, ⟨List.mem_of_getElem? (i := 63) rfl, rfl⟩⟩) (fc trivial (fc (⟨_, _, _, rfl, Nat.le_of_ble_eq_true rfl, ⟨List.mem_of_getElem? (i := 63) rfl, rfl⟩, by decide +kernel⟩) (fc trivial (fc trivial (fc (⟨_, _, _, rfl, Nat.le_of_ble_eq_true rfl, ⟨List.mem_of_getElem? (i := 64) rfl, rfl⟩⟩) (fn))))))))))) (fc (fc trivial (fc (⟨_, _, _, rfl, Nat.le_of_ble_eq_true rfl, ⟨List.mem_of_getElem? (i := 64) rfl, rfl⟩⟩) (fc trivial (fc (⟨_, _, _, rfl, Nat.le_of_ble_eq_true rfl, ⟨List.mem_of_getElem? (i := 64) rfl, rfl⟩, by decide +kernel⟩) (fc trivial (fn)))))) (fn)))
set_option maxRecDepth 100000 in
theorem mokX1_becomeUnion : eMok MT MX1_becomeUnion := ⟨cksX1_becomeUnion, lksX1_becomeUnion, fn⟩
set_option maxRecDepth 100000 in
theorem cksX1_becomeMeeting : ∀ e ∈ (mPr MX1_becomeMeeting).flatten, eChk MX1_becomeMeeting e = true := List.all_eq_true.mp (by decide +kernel)
set_option maxRecDepth 100000 in
theorem lksX1_becomeMeeting : ∀ e ∈ (mPr MX1_becomeMeeting).flatten, eLink MT MX1_becomeMeeting e := eFl (fc (fc trivial (fc trivial (fc (⟨_, _, _, rfl, Nat.le_of_ble_eq_true rfl, ⟨List.mem_of_getElem? (i := 63) rfl, rfl⟩⟩) (fc trivial (fc (⟨_, _, _, rfl, Nat.le_of_ble_eq_true rfl, ⟨List.mem_of_getElem? (i := 63) rfl, rfl⟩⟩) (fc trivial (fc (⟨_, _, _, rfl, Nat.le_of_ble_eq_true rfl, ⟨List.mem_of_getElem? (i := 63) rfl, rfl⟩, by decide +kernel⟩) (fc trivial (fc trivial (fc (⟨_, _, _, rfl, Nat.le_of_ble_eq_true rfl, ⟨List.mem_of_getElem? (i := 64) rfl, rfl⟩⟩) (fn))))))))))) (fc (fc trivial (fc (⟨_, _, _, rfl, Nat.le_of_ble_eq_true rfl, ⟨List.mem_of_getElem? (i := 64) rfl, rfl⟩⟩) (fc trivial (fc (⟨_, _, _, rfl, Nat.le_of_ble_eq_true rfl, ⟨List.mem_of_getElem? (i := 64) rfl, rfl⟩, by decide +kernel⟩) (fc trivial (fn)))))) (fn)))
set_option maxRecDepth 100000 in
theorem mokX1_becomeMeeting : eMok MT MX1_becomeMeeting := ⟨cksX1_becomeMeeting, lksX1_becomeMeeting, fn⟩
set_option maxRecDepth 100000 in
theorem cksX1_isEmpty : ∀ e ∈ (mPr MX1_isEmpty).flatten, eChk MX1_isEmpty e = true := List.all_eq_true.mp (by decide +kernel)
set_option maxRecDepth 100000 in
theorem lksX1_isEmpty : ∀ e ∈ (mPr MX1_isEmpty).flatten, eLink MT MX1_isEmpty e := eFl (fc (fc trivial (fc (⟨_, _, _, rfl, Nat.le_of_ble_eq_true rfl, ⟨List.mem_of_getElem? (i := 63) rfl, rfl⟩⟩) (fc trivial (fc (⟨_, _, _, rfl, Nat.le_of_ble_eq_true rfl, ⟨List.mem_of_getElem? (i := 64) rfl, rfl⟩⟩) (fc trivial (fc trivial (fc trivial (fc trivial (fc trivial (fc trivial (fn))))))))))) (fc (fc trivial (fc trivial (fn))) (fn)))
set_option maxRecDepth 100000 in
theorem mokX1_isEmpty : eMok MT MX1_isEmpty := ⟨cksX1_isEmpty, lksX1_isEmpty, fn⟩
set_option maxRecDepth 100000 in
theorem cksX1_isLike : ∀ e ∈ (mPr MX1_isLike).flatten, eChk MX1_isLike e = true := List.all_eq_true.mp (by decide +kernel)
set_option maxRecDepth 100000 in
theorem lksX1_isLike : ∀ e ∈ (mPr MX1_isLike).flatten, eLink MT MX1_isLike e := eFl (fc (fc trivial (fc (⟨_, _, _, rfl, Nat.le_of_ble_eq_true rfl, ⟨List.mem_of_getElem? (i := 63) rfl, rfl⟩⟩) (fc trivial (fc (⟨_, _, _, rfl, Nat.le_of_ble_eq_true rfl, ⟨List.mem_of_getElem? (i := 63) rfl, rfl⟩⟩) (fc trivial (fc trivial (fc trivial (fc (⟨_, _, _, rfl, Nat.le_of_ble_eq_true rfl, ⟨List.mem_of_getElem? (i := 64) rfl, rfl⟩⟩) (fn))))))))) (fc (fc trivial (fc (⟨_, _, _, rfl, Nat.le_of_ble_eq_true rfl, ⟨List.mem_of_getElem? (i := 64) rfl, rfl⟩⟩) (fc trivial (fc trivial (fc trivial (fc trivial (fc trivial (fc trivial (fn))))))))) (fn)))
set_option maxRecDepth 100000 in
theorem mokX1_isLike : eMok MT MX1_isLike := ⟨cksX1_isLike, lksX1_isLike, fn⟩
set_option maxRecDepth 100000 in
theorem cksX1_holdsAll : ∀ e ∈ (mPr MX1_holdsAll).flatten, eChk MX1_holdsAll e = true := List.all_eq_true.mp (by decide +kernel)
set_option maxRecDepth 100000 in
theorem lksX1_holdsAll : ∀ e ∈ (mPr MX1_holdsAll).flatten, eLink MT MX1_holdsAll e := eFl (fc (fc trivial (fc trivial (fc (⟨mthX1_countBeyond, rfl, ⟨_, rfl, ariX1_countBeyond⟩, ⟨_, rfl, rfl⟩, ⟨List.mem_of_getElem? (i := 633) rfl, rfl⟩, insX1_countBeyond, selX1_countBeyond⟩) (fc trivial (fc trivial (fc trivial (fc trivial (fc trivial (fn))))))))) (fn))
set_option maxRecDepth 100000 in
theorem mokX1_holdsAll : eMok MT MX1_holdsAll := ⟨cksX1_holdsAll, lksX1_holdsAll, fn⟩
set_option maxRecDepth 100000 in
theorem cksX1_count : ∀ e ∈ (mPr MX1_count).flatten, eChk MX1_count e = true := List.all_eq_true.mp (by decide +kernel)
set_option maxRecDepth 100000 in
theorem lksX1_count : ∀ e ∈ (mPr MX1_count).flatten, eLink MT MX1_count e := eFl (fc (fc trivial (fc (⟨_, _, _, rfl, Nat.le_of_ble_eq_true rfl, ⟨List.mem_of_getElem? (i := 63) rfl, rfl⟩⟩) (fc (⟨mthJ13_bitCount_95d88, ariJ13_bitCount_95d88, staJ13_bitCount_95d88, rfl, ⟨List.mem_of_getElem? (i := 206) rfl, rfl⟩⟩) (fc trivial (fc (⟨_, _, _, rfl, Nat.le_of_ble_eq_true rfl, ⟨List.mem_of_getElem? (i := 64) rfl, rfl⟩⟩) (fc (⟨mthJ13_bitCount_95d88, ariJ13_bitCount_95d88, staJ13_bitCount_95d88, rfl, ⟨List.mem_of_getElem? (i := 206) rfl, rfl⟩⟩) (fc trivial (fc trivial (fn))))))))) (fn))
set_option maxRecDepth 100000 in
theorem mokX1_count : eMok MT MX1_count := ⟨cksX1_count, lksX1_count, fn⟩
set_option maxRecDepth 100000 in
theorem cksX1_countBeyond : ∀ e ∈ (mPr MX1_countBeyond).flatten, eChk MX1_countBeyond e = true := List.all_eq_true.mp (by decide +kernel)
set_option maxRecDepth 100000 in
theorem lksX1_countBeyond : ∀ e ∈ (mPr MX1_countBeyond).flatten, eLink MT MX1_countBeyond e := eFl (fc (fc trivial (fc (⟨_, _, _, rfl, Nat.le_of_ble_eq_true rfl, ⟨List.mem_of_getElem? (i := 63) rfl, rfl⟩⟩) (fc trivial (fc (⟨_, _, _, rfl, Nat.le_of_ble_eq_true rfl, ⟨List.mem_of_getElem? (i := 63) rfl, rfl⟩⟩) (fc (⟨List.mem_of_getElem? (i := 189) rfl, rfl⟩) (fc trivial (fc trivial (fc (⟨mthJ13_bitCount_95d88, ariJ13_bitCount_95d88, staJ13_bitCount_95d88, rfl, ⟨List.mem_of_getElem? (i := 206) rfl, rfl⟩⟩) (fn))))))))) (fc (fc trivial (fc (⟨_, _, _, rfl, Nat.le_of_ble_eq_true rfl, ⟨List.mem_of_getElem? (i := 64) rfl, rfl⟩⟩) (fc trivial (fc (⟨_, _, _, rfl, Nat.le_of_ble_eq_true rfl, ⟨List.mem_of_getElem? (i := 64) rfl, rfl⟩⟩) (fc (⟨List.mem_of_getElem? (i := 189) rfl, rfl⟩) (fc trivial (fc trivial (fc (⟨mthJ13_bitCount_95d88, ariJ13_bitCount_95d88, staJ13_bitCount_95d88, rfl, ⟨List.mem_of_getElem? (i := 206) rfl, rfl⟩⟩) (fn))))))))) (fc (fc trivial (fc trivial (fn))) (fn))))
set_option maxRecDepth 100000 in
theorem mokX1_countBeyond : eMok MT MX1_countBeyond := ⟨cksX1_countBeyond, lksX1_countBeyond, fn⟩
set_option maxRecDepth 100000 in
theorem cksX1_countAt : ∀ e ∈ (mPr MX1_countAt).flatten, eChk MX1_countAt e = true := List.all_eq_true.mp (by decide +kernel)
set_option maxRecDepth 100000 in
theorem lksX1_countAt : ∀ e ∈ (mPr MX1_countAt).flatten, eLink MT MX1_countAt e := eFl (fc (fc trivial (fc trivial (fc trivial (fc trivial (fc trivial (fc trivial (fc trivial (fc trivial (fc (⟨mthX6_heightOf, ariX6_heightOf, staX6_heightOf, rfl, ⟨List.mem_of_getElem? (i := 568) rfl, rfl⟩⟩) (fc trivial (fc trivial (fn)))))))))))) (fc (fc trivial (fc trivial (fc (⟨mthX1_holds, rfl, ⟨_, rfl, ariX1_holds⟩, ⟨_, rfl, rfl⟩, ⟨List.mem_of_getElem? (i := 184) rfl, rfl⟩, insX1_holds, selX1_holds⟩) (fc trivial (fc trivial (fc trivial (fn))))))) (fc (fc trivial (fc trivial (fc trivial (fn)))) (fn))))
set_option maxRecDepth 100000 in
theorem mokX1_countAt : eMok MT MX1_countAt := ⟨cksX1_countAt, lksX1_countAt, fn⟩
set_option maxRecDepth 100000 in
theorem cksX1_signedCount : ∀ e ∈ (mPr MX1_signedCount).flatten, eChk MX1_signedCount e = true := List.all_eq_true.mp (by decide +kernel)
set_option maxRecDepth 100000 in
theorem lksX1_signedCount : ∀ e ∈ (mPr MX1_signedCount).flatten, eLink MT MX1_signedCount e := eFl (fc (fc trivial (fc trivial (fc trivial (fc trivial (fc trivial (fc trivial (fc trivial (fc trivial (fc trivial (fc (⟨mthX1_holds, rfl, ⟨_, rfl, ariX1_holds⟩, ⟨_, rfl, rfl⟩, ⟨List.mem_of_getElem? (i := 184) rfl, rfl⟩, insX1_holds, selX1_holds⟩) (fc trivial (fn)))))))))))) (fc (fc trivial (fc trivial (fc (⟨mthX6_heightOf, ariX6_heightOf, staX6_heightOf, rfl, ⟨List.mem_of_getElem? (i := 568) rfl, rfl⟩⟩) (fc trivial (fc trivial (fc trivial (fc trivial (fc trivial (fn))))))))) (fc (fc trivial (fc trivial (fc trivial (fc trivial (fc trivial (fc trivial (fc trivial (fn)))))))) (fn))))
set_option maxRecDepth 100000 in
theorem mokX1_signedCount : eMok MT MX1_signedCount := ⟨cksX1_signedCount, lksX1_signedCount, fn⟩
set_option maxRecDepth 100000 in
theorem cksX1_heightSum : ∀ e ∈ (mPr MX1_heightSum).flatten, eChk MX1_heightSum e = true := List.all_eq_true.mp (by decide +kernel)
set_option maxRecDepth 100000 in
theorem lksX1_heightSum : ∀ e ∈ (mPr MX1_heightSum).flatten, eLink MT MX1_heightSum e := eFl (fc (fc trivial (fc trivial (fc trivial (fc trivial (fc trivial (fc trivial (fc trivial (fc trivial (fc trivial (fc (⟨mthX1_holds, rfl, ⟨_, rfl, ariX1_holds⟩, ⟨_, rfl, rfl⟩, ⟨List.mem_of_getElem? (i := 184) rfl, rfl⟩, insX1_holds, selX1_holds⟩) (fc trivial (fn)))))))))))) (fc (fc trivial (fc trivial (fc (⟨mthX6_heightOf, ariX6_heightOf, staX6_heightOf, rfl, ⟨List.mem_of_getElem? (i := 568) rfl, rfl⟩⟩) (fc trivial (fc trivial (fc trivial (fc trivial (fc trivial (fn))))))))) (fc (fc trivial (fn)) (fn))))
set_option maxRecDepth 100000 in
theorem mokX1_heightSum : eMok MT MX1_heightSum := ⟨cksX1_heightSum, lksX1_heightSum, fn⟩
set_option maxRecDepth 100000 in
theorem cksX1_cornerSet : ∀ e ∈ (mPr MX1_cornerSet).flatten, eChk MX1_cornerSet e = true := List.all_eq_true.mp (by decide +kernel)
set_option maxRecDepth 100000 in
theorem lksX1_cornerSet : ∀ e ∈ (mPr MX1_cornerSet).flatten, eLink MT MX1_cornerSet e := eFl (fc (fc trivial (fc trivial (fc trivial (fc trivial (fc trivial (fc trivial (fc trivial (fc trivial (fc trivial (fc (⟨mthX1_holds, rfl, ⟨_, rfl, ariX1_holds⟩, ⟨_, rfl, rfl⟩, ⟨List.mem_of_getElem? (i := 184) rfl, rfl⟩, insX1_holds, selX1_holds⟩) (fc trivial (fn)))))))))))) (fc (fc trivial (fc trivial (fc trivial (fc trivial (fc trivial (fc trivial (fc trivial (fc trivial (fn))))))))) (fn)))
set_option maxRecDepth 100000 in
theorem mokX1_cornerSet : eMok MT MX1_cornerSet := ⟨cksX1_cornerSet, lksX1_cornerSet, fn⟩
set_option maxRecDepth 100000 in
theorem cksX1_faceAt : ∀ e ∈ (mPr MX1_faceAt).flatten, eChk MX1_faceAt e = true := List.all_eq_true.mp (by decide +kernel)
set_option maxRecDepth 100000 in
theorem lksX1_faceAt : ∀ e ∈ (mPr MX1_faceAt).flatten, eLink MT MX1_faceAt e := eFl (fc (fc trivial (fc trivial (fc trivial (fc trivial (fc trivial (fc trivial (fc trivial (fc trivial (fc trivial (fc (⟨mthX1_holds, rfl, ⟨_, rfl, ariX1_holds⟩, ⟨_, rfl, rfl⟩, ⟨List.mem_of_getElem? (i := 184) rfl, rfl⟩, insX1_holds, selX1_holds⟩) (fc trivial (fn)))))))))))) (fc (fc trivial (fc trivial (fc trivial (fc trivial (fc trivial (fc trivial (fc trivial (fc trivial (fn))))))))) (fc (fc trivial (fc trivial (fn))) (fn))))
set_option maxRecDepth 100000 in
theorem mokX1_faceAt : eMok MT MX1_faceAt := ⟨cksX1_faceAt, lksX1_faceAt, fn⟩
set_option maxRecDepth 100000 in
theorem cksX1_countOver : ∀ e ∈ (mPr MX1_countOver).flatten, eChk MX1_countOver e = true := List.all_eq_true.mp (by decide +kernel)
set_option maxRecDepth 100000 in
theorem lksX1_countOver : ∀ e ∈ (mPr MX1_countOver).flatten, eLink MT MX1_countOver e := eFl (fc (fc trivial (fc trivial (fc trivial (fc trivial (fc trivial (fc trivial (fc trivial (fc trivial (fc trivial (fc trivial (fc trivial (fc trivial (fc trivial (fn)))))))))))))) (fc (fc trivial (fc trivial (fc trivial (fc (⟨mthX1_holds, rfl, ⟨_, rfl, ariX1_holds⟩, ⟨_, rfl, rfl⟩, ⟨List.mem_of_getElem? (i := 184) rfl, rfl⟩, insX1_holds, selX1_holds⟩) (fc trivial (fc trivial (fc trivial (fn)))))))) (fc (fc trivial (fc trivial (fc trivial (fn)))) (fn))))
set_option maxRecDepth 100000 in
theorem mokX1_countOver : eMok MT MX1_countOver := ⟨cksX1_countOver, lksX1_countOver, fn⟩
set_option maxRecDepth 100000 in
theorem cksX1_firstOver : ∀ e ∈ (mPr MX1_firstOver).flatten, eChk MX1_firstOver e = true := List.all_eq_true.mp (by decide +kernel)
set_option maxRecDepth 100000 in
theorem lksX1_firstOver : ∀ e ∈ (mPr MX1_firstOver).flatten, eLink MT MX1_firstOver e := eFl (fc (fc trivial (fc trivial (fc trivial (fc trivial (fc trivial (fc trivial (fc trivial (fc trivial (fc trivial (fc trivial (fc trivial (fc trivial (fn))))))))))))) (fc (fc trivial (fc trivial (fc (⟨mthX1_holds, rfl, ⟨_, rfl, ariX1_holds⟩, ⟨_, rfl, rfl⟩, ⟨List.mem_of_getElem? (i := 184) rfl, rfl⟩, insX1_holds, selX1_holds⟩) (fc trivial (fc trivial (fc trivial (fc trivial (fc trivial (fn))))))))) (fc (fc trivial (fc trivial (fn))) (fn))))
set_option maxRecDepth 100000 in
theorem mokX1_firstOver : eMok MT MX1_firstOver := ⟨cksX1_firstOver, lksX1_firstOver, fn⟩
set_option maxRecDepth 100000 in
theorem cksX2_init : ∀ e ∈ (mPr MX2_init).flatten, eChk MX2_init e = true := List.all_eq_true.mp (by decide +kernel)
set_option maxRecDepth 100000 in
theorem lksX2_init : ∀ e ∈ (mPr MX2_init).flatten, eLink MT MX2_init e := eFl (fc (fc trivial (fc (⟨⟨List.mem_of_getElem? (i := 118) rfl, rfl⟩, ⟨List.mem_of_getElem? (i := 54) rfl, rfl⟩, ⟨List.mem_of_getElem? (i := 55) rfl, rfl⟩⟩) (fc trivial (fc trivial (fc (⟨⟨List.mem_of_getElem? (i := 109) rfl, rfl⟩, rfl, Nat.le_of_ble_eq_true rfl⟩) (fc (⟨_, _, _, rfl, Nat.le_of_ble_eq_true rfl, ⟨List.mem_of_getElem? (i := 119) rfl, rfl⟩, by decide +kernel⟩) (fc trivial (fn)))))))) (fn))
set_option maxRecDepth 100000 in
theorem mokX2_init : eMok MT MX2_init := ⟨cksX2_init, lksX2_init, fn⟩
set_option maxRecDepth 100000 in
theorem cksX2_tell : ∀ e ∈ (mPr MX2_tell).flatten, eChk MX2_tell e = true := List.all_eq_true.mp (by decide +kernel)
set_option maxRecDepth 100000 in
theorem lksX2_tell : ∀ e ∈ (mPr MX2_tell).flatten, eLink MT MX2_tell e := eFl (fc (fc trivial (fc trivial (fc trivial (fc trivial (fc trivial (fc trivial (fc trivial (fc trivial (fc trivial (fc trivial (fn))))))))))) (fc (fc trivial (fc trivial (fc (⟨mthX0_countFree, rfl, ⟨_, rfl, ariX0_countFree⟩, ⟨_, rfl, rfl⟩, ⟨List.mem_of_getElem? (i := 780) rfl, rfl⟩, insX0_countFree, selX0_countFree⟩) (fc trivial (fc trivial (fc (⟨_, _, _, rfl, Nat.le_of_ble_eq_true rfl, ⟨List.mem_of_getElem? (i := 119) rfl, rfl⟩⟩) (fc trivial (fc trivial (fc (⟨mthX1_isEmpty, rfl, ⟨_, rfl, ariX1_isEmpty⟩, ⟨_, rfl, rfl⟩, ⟨List.mem_of_getElem? (i := 781) rfl, rfl⟩, insX1_isEmpty, selX1_isEmpty⟩) (fn)))))))))) (fc (fc trivial (fc trivial (fc trivial (fc trivial (fc trivial (fc (⟨mthX1_countAt, rfl, ⟨_, rfl, ariX1_countAt⟩, ⟨_, rfl, rfl⟩, ⟨List.mem_of_getElem? (i := 782) rfl, rfl⟩, insX1_countAt, selX1_countAt⟩) (fc trivial (fc trivial (fn))))))))) (fc (fc trivial (fc trivial (fc trivial (fc trivial (fc trivial (fc trivial (fc trivial (fc trivial (fn))))))))) (fn)))))
set_option maxRecDepth 100000 in
theorem mokX2_tell : eMok MT MX2_tell := ⟨cksX2_tell, lksX2_tell, fn⟩
set_option maxRecDepth 100000 in
theorem cksX2_at : ∀ e ∈ (mPr MX2_at).flatten, eChk MX2_at e = true := List.all_eq_true.mp (by decide +kernel)
set_option maxRecDepth 100000 in
theorem lksX2_at : ∀ e ∈ (mPr MX2_at).flatten, eLink MT MX2_at e := eFl (fc (fc trivial (fc trivial (fc trivial (fc trivial (fc trivial (fc trivial (fc (⟨_, _, _, rfl, Nat.le_of_ble_eq_true rfl, ⟨List.mem_of_getElem? (i := 119) rfl, rfl⟩⟩) (fc trivial (fc trivial (fn)))))))))) (fc (fc trivial (fc trivial (fc trivial (fn)))) (fn)))
set_option maxRecDepth 100000 in
theorem mokX2_at : eMok MT MX2_at := ⟨cksX2_at, lksX2_at, fn⟩
set_option maxRecDepth 100000 in
theorem cksX2_areNone : ∀ e ∈ (mPr MX2_areNone).flatten, eChk MX2_areNone e = true := List.all_eq_true.mp (by decide +kernel)
set_option maxRecDepth 100000 in
theorem lksX2_areNone : ∀ e ∈ (mPr MX2_areNone).flatten, eLink MT MX2_areNone e := eFl (fc (fc trivial (fc trivial (fc trivial (fc trivial (fc trivial (fc trivial (fc (⟨_, _, _, rfl, Nat.le_of_ble_eq_true rfl, ⟨List.mem_of_getElem? (i := 119) rfl, rfl⟩⟩) (fc trivial (fc trivial (fc trivial (fn))))))))))) (fc (fc trivial (fc trivial (fc trivial (fc trivial (fc trivial (fc trivial (fn))))))) (fn)))
set_option maxRecDepth 100000 in
theorem mokX2_areNone : eMok MT MX2_areNone := ⟨cksX2_areNone, lksX2_areNone, fn⟩
set_option maxRecDepth 100000 in
theorem cksX2_signedSum : ∀ e ∈ (mPr MX2_signedSum).flatten, eChk MX2_signedSum e = true := List.all_eq_true.mp (by decide +kernel)
set_option maxRecDepth 100000 in
theorem lksX2_signedSum : ∀ e ∈ (mPr MX2_signedSum).flatten, eLink MT MX2_signedSum e := eFl (fc (fc trivial (fc trivial (fc trivial (fc trivial (fc trivial (fc trivial (fc trivial (fc trivial (fc trivial (fc trivial (fc trivial (fc trivial (fn))))))))))))) (fc (fc trivial (fc (⟨_, _, _, rfl, Nat.le_of_ble_eq_true rfl, ⟨List.mem_of_getElem? (i := 119) rfl, rfl⟩⟩) (fc trivial (fc trivial (fc trivial (fc trivial (fc (⟨_, _, _, rfl, Nat.le_of_ble_eq_true rfl, ⟨List.mem_of_getElem? (i := 119) rfl, rfl⟩⟩) (fc trivial (fc trivial (fn)))))))))) (fc (fc trivial (fc trivial (fc trivial (fc trivial (fc trivial (fc trivial (fc trivial (fn)))))))) (fn))))
set_option maxRecDepth 100000 in
theorem mokX2_signedSum : eMok MT MX2_signedSum := ⟨cksX2_signedSum, lksX2_signedSum, fn⟩
set_option maxRecDepth 100000 in
theorem cksX2_differAt : ∀ e ∈ (mPr MX2_differAt).flatten, eChk MX2_differAt e = true := List.all_eq_true.mp (by decide +kernel)
set_option maxRecDepth 100000 in
theorem lksX2_differAt : ∀ e ∈ (mPr MX2_differAt).flatten, eLink MT MX2_differAt e := eFl (fc (fc trivial (fc trivial (fc trivial (fc trivial (fc trivial (fc trivial (fc trivial (fc trivial (fn))))))))) (fc (fc trivial (fc trivial (fc (⟨mthX2_at, rfl, ⟨_, rfl, ariX2_at⟩, ⟨_, rfl, rfl⟩, ⟨List.mem_of_getElem? (i := 865) rfl, rfl⟩, insX2_at, selX2_at⟩) (fc trivial (fc trivial (fc trivial (fc trivial (fc trivial (fc (⟨mthX2_at, rfl, ⟨_, rfl, ariX2_at⟩, ⟨_, rfl, rfl⟩, ⟨List.mem_of_getElem? (i := 865) rfl, rfl⟩, insX2_at, selX2_at⟩) (fn)))))))))) (fc (fc trivial (fc trivial (fc (⟨_, _, _, rfl, Nat.le_of_ble_eq_true rfl, ⟨List.mem_of_getElem? (i := 119) rfl, rfl⟩⟩) (fc trivial (fc trivial (fc trivial (fc trivial (fc trivial (fn))))))))) (fc (fc trivial (fc trivial (fc trivial (fc trivial (fc trivial (fn)))))) (fn)))))
set_option maxRecDepth 100000 in
theorem mokX2_differAt : eMok MT MX2_differAt := ⟨cksX2_differAt, lksX2_differAt, fn⟩
set_option maxRecDepth 100000 in
theorem cksX2_areLike : ∀ e ∈ (mPr MX2_areLike).flatten, eChk MX2_areLike e = true := List.all_eq_true.mp (by decide +kernel)
set_option maxRecDepth 100000 in
theorem lksX2_areLike : ∀ e ∈ (mPr MX2_areLike).flatten, eLink MT MX2_areLike e := eFl (fc (fc trivial (fc trivial (fc trivial (fc trivial (fc (⟨mthX2_differAt, rfl, ⟨_, rfl, ariX2_differAt⟩, ⟨_, rfl, rfl⟩, ⟨List.mem_of_getElem? (i := 861) rfl, rfl⟩, insX2_differAt, selX2_differAt⟩) (fc trivial (fn))))))) (fn))
set_option maxRecDepth 100000 in
theorem mokX2_areLike : eMok MT MX2_areLike := ⟨cksX2_areLike, lksX2_areLike, fn⟩
set_option maxRecDepth 100000 in
theorem cksX3_makeLow : ∀ e ∈ (mPr MX3_makeLow).flatten, eChk MX3_makeLow e = true := List.all_eq_true.mp (by decide +kernel)
set_option maxRecDepth 100000 in
theorem lksX3_makeLow : ∀ e ∈ (mPr MX3_makeLow).flatten, eLink MT MX3_makeLow e := eFl (fc (fc trivial (fc (⟨mthX1_empty, rfl, ⟨_, rfl, ariX1_empty⟩, ⟨_, rfl, rfl⟩, ⟨List.mem_of_getElem? (i := 432) rfl, rfl⟩, insX1_empty, selX1_empty⟩) (fc trivial (fc trivial (fc trivial (fc trivial (fc trivial (fc trivial (fc trivial (fc (⟨mthX1_holds, rfl, ⟨_, rfl, ariX1_holds⟩, ⟨_, rfl, rfl⟩, ⟨List.mem_of_getElem? (i := 433) rfl, rfl⟩, insX1_holds, selX1_holds⟩) (fn))))))))))) (fc (fc trivial (fc trivial (fc (⟨mthX6_heightOf, ariX6_heightOf, staX6_heightOf, rfl, ⟨List.mem_of_getElem? (i := 434) rfl, rfl⟩⟩) (fc trivial (fc trivial (fc trivial (fc trivial (fc (⟨mthX1_add, rfl, ⟨_, rfl, ariX1_add⟩, ⟨_, rfl, rfl⟩, ⟨List.mem_of_getElem? (i := 435) rfl, rfl⟩, insX1_add, selX1_add⟩) (fn))))))))) (fc (fc trivial (fc trivial (fc trivial (fn)))) (fn))))
set_option maxRecDepth 100000 in
theorem mokX3_makeLow : eMok MT MX3_makeLow := ⟨cksX3_makeLow, lksX3_makeLow, fn⟩
set_option maxRecDepth 100000 in
theorem cksX3_makeAbout : ∀ e ∈ (mPr MX3_makeAbout).flatten, eChk MX3_makeAbout e = true := List.all_eq_true.mp (by decide +kernel)
set_option maxRecDepth 100000 in
theorem lksX3_makeAbout : ∀ e ∈ (mPr MX3_makeAbout).flatten, eLink MT MX3_makeAbout e := eFl (fc (fc trivial (fc (⟨mthX1_empty, rfl, ⟨_, rfl, ariX1_empty⟩, ⟨_, rfl, rfl⟩, ⟨List.mem_of_getElem? (i := 432) rfl, rfl⟩, insX1_empty, selX1_empty⟩) (fc trivial (fc trivial (fc trivial (fc trivial (fc trivial (fc trivial (fc trivial (fn)))))))))) (fc (fc trivial (fc trivial (fc trivial (fc trivial (fc trivial (fc trivial (fc trivial (fc trivial (fn))))))))) (fc (fc trivial (fc trivial (fc trivial (fc trivial (fc (⟨mthX1_holds, rfl, ⟨_, rfl, ariX1_holds⟩, ⟨_, rfl, rfl⟩, ⟨List.mem_of_getElem? (i := 433) rfl, rfl⟩, insX1_holds, selX1_holds⟩) (fc trivial (fc trivial (fc trivial (fn))))))))) (fc (fc trivial (fc trivial (fc (⟨mthX1_holds, rfl, ⟨_, rfl, ariX1_holds⟩, ⟨_, rfl, rfl⟩, ⟨List.mem_of_getElem? (i := 433) rfl, rfl⟩, insX1_holds, selX1_holds⟩) (fc trivial (fc trivial (fc trivial (fc (⟨mthX1_add, rfl, ⟨_, rfl, ariX1_add⟩, ⟨_, rfl, rfl⟩, ⟨List.mem_of_getElem? (i := 435) rfl, rfl⟩, insX1_add, selX1_add⟩) (fc trivial (fn))))))))) (fc (fc trivial (fc trivial (fn))) (fn))))))
set_option maxRecDepth 100000 in
theorem mokX3_makeAbout : eMok MT MX3_makeAbout := ⟨cksX3_makeAbout, lksX3_makeAbout, fn⟩
set_option maxRecDepth 100000 in
theorem cksX3_makeCone : ∀ e ∈ (mPr MX3_makeCone).flatten, eChk MX3_makeCone e = true := List.all_eq_true.mp (by decide +kernel)
set_option maxRecDepth 100000 in
theorem lksX3_makeCone : ∀ e ∈ (mPr MX3_makeCone).flatten, eLink MT MX3_makeCone e := eFl (fc (fc trivial (fc trivial (fc (⟨mthX1_become, rfl, ⟨_, rfl, ariX1_become⟩, ⟨_, rfl, rfl⟩, ⟨List.mem_of_getElem? (i := 480) rfl, rfl⟩, insX1_become, selX1_become⟩) (fc trivial (fc trivial (fc trivial (fc (⟨mthX3_addJoined, ariX3_addJoined, staX3_addJoined, rfl, ⟨List.mem_of_getElem? (i := 481) rfl, rfl⟩⟩) (fc trivial (fn))))))))) (fn))
set_option maxRecDepth 100000 in
theorem mokX3_makeCone : eMok MT MX3_makeCone := ⟨cksX3_makeCone, lksX3_makeCone, fn⟩
set_option maxRecDepth 100000 in
theorem cksX3_makeLift : ∀ e ∈ (mPr MX3_makeLift).flatten, eChk MX3_makeLift e = true := List.all_eq_true.mp (by decide +kernel)
set_option maxRecDepth 100000 in
theorem lksX3_makeLift : ∀ e ∈ (mPr MX3_makeLift).flatten, eLink MT MX3_makeLift e := eFl (fc (fc trivial (fc trivial (fc (⟨mthX1_become, rfl, ⟨_, rfl, ariX1_become⟩, ⟨_, rfl, rfl⟩, ⟨List.mem_of_getElem? (i := 480) rfl, rfl⟩, insX1_become, selX1_become⟩) (fc trivial (fc trivial (fc trivial (fc (⟨mthX3_addJoined, ariX3_addJoined, staX3_addJoined, rfl, ⟨List.mem_of_getElem? (i := 481) rfl, rfl⟩⟩) (fc trivial (fc trivial (fc trivial (fc (⟨mthX3_addJoined, ariX3_addJoined, staX3_addJoined, rfl, ⟨List.mem_of_getElem? (i := 481) rfl, rfl⟩⟩) (fn)))))))))))) (fc (fc trivial (fn)) (fn)))
set_option maxRecDepth 100000 in
theorem mokX3_makeLift : eMok MT MX3_makeLift := ⟨cksX3_makeLift, lksX3_makeLift, fn⟩
set_option maxRecDepth 100000 in
theorem cksX3_addJoined : ∀ e ∈ (mPr MX3_addJoined).flatten, eChk MX3_addJoined e = true := List.all_eq_true.mp (by decide +kernel)
set_option maxRecDepth 100000 in
theorem lksX3_addJoined : ∀ e ∈ (mPr MX3_addJoined).flatten, eLink MT MX3_addJoined e := eFl (fc (fc trivial (fc trivial (fc (⟨mthX1_add, rfl, ⟨_, rfl, ariX1_add⟩, ⟨_, rfl, rfl⟩, ⟨List.mem_of_getElem? (i := 435) rfl, rfl⟩, insX1_add, selX1_add⟩) (fc trivial (fc trivial (fc trivial (fc trivial (fc trivial (fc trivial (fc trivial (fc (⟨mthX1_holds, rfl, ⟨_, rfl, ariX1_holds⟩, ⟨_, rfl, rfl⟩, ⟨List.mem_of_getElem? (i := 433) rfl, rfl⟩, insX1_holds, selX1_holds⟩) (fn)))))))))))) (fc (fc trivial (fc trivial (fc trivial (fc trivial (fc trivial (fc (⟨mthX1_add, rfl, ⟨_, rfl, ariX1_add⟩, ⟨_, rfl, rfl⟩, ⟨List.mem_of_getElem? (i := 435) rfl, rfl⟩, insX1_add, selX1_add⟩) (fc trivial (fc trivial (fn))))))))) (fc (fc trivial (fn)) (fn))))
set_option maxRecDepth 100000 in
theorem mokX3_addJoined : eMok MT MX3_addJoined := ⟨cksX3_addJoined, lksX3_addJoined, fn⟩
set_option maxRecDepth 100000 in
theorem cksX3_makeOther : ∀ e ∈ (mPr MX3_makeOther).flatten, eChk MX3_makeOther e = true := List.all_eq_true.mp (by decide +kernel)
set_option maxRecDepth 100000 in
theorem lksX3_makeOther : ∀ e ∈ (mPr MX3_makeOther).flatten, eLink MT MX3_makeOther e := eFl (fc (fc trivial (fc (⟨mthX1_empty, rfl, ⟨_, rfl, ariX1_empty⟩, ⟨_, rfl, rfl⟩, ⟨List.mem_of_getElem? (i := 432) rfl, rfl⟩, insX1_empty, selX1_empty⟩) (fc trivial (fc trivial (fc trivial (fc trivial (fc trivial (fc trivial (fc trivial (fc trivial (fc trivial (fc trivial (fn))))))))))))) (fc (fc trivial (fc trivial (fc trivial (fc trivial (fc (⟨mthX1_holds, rfl, ⟨_, rfl, ariX1_holds⟩, ⟨_, rfl, rfl⟩, ⟨List.mem_of_getElem? (i := 433) rfl, rfl⟩, insX1_holds, selX1_holds⟩) (fc trivial (fc trivial (fc trivial (fc (⟨mthX1_add, rfl, ⟨_, rfl, ariX1_add⟩, ⟨_, rfl, rfl⟩, ⟨List.mem_of_getElem? (i := 435) rfl, rfl⟩, insX1_add, selX1_add⟩) (fn)))))))))) (fc (fc trivial (fc trivial (fc trivial (fn)))) (fn))))
set_option maxRecDepth 100000 in
theorem mokX3_makeOther : eMok MT MX3_makeOther := ⟨cksX3_makeOther, lksX3_makeOther, fn⟩
set_option maxRecDepth 100000 in
theorem cksX3_makeExchanged : ∀ e ∈ (mPr MX3_makeExchanged).flatten, eChk MX3_makeExchanged e = true := List.all_eq_true.mp (by decide +kernel)
set_option maxRecDepth 100000 in
theorem lksX3_makeExchanged : ∀ e ∈ (mPr MX3_makeExchanged).flatten, eLink MT MX3_makeExchanged e := eFl (fc (fc trivial (fc (⟨mthX1_empty, rfl, ⟨_, rfl, ariX1_empty⟩, ⟨_, rfl, rfl⟩, ⟨List.mem_of_getElem? (i := 432) rfl, rfl⟩, insX1_empty, selX1_empty⟩) (fc trivial (fc trivial (fc trivial (fc trivial (fc trivial (fc trivial (fc trivial (fn)))))))))) (fc (fc (⟨mthX1_holds, rfl, ⟨_, rfl, ariX1_holds⟩, ⟨_, rfl, rfl⟩, ⟨List.mem_of_getElem? (i := 433) rfl, rfl⟩, insX1_holds, selX1_holds⟩) (fc trivial (fc trivial (fc trivial (fc trivial (fc trivial (fc (⟨mthX3_exchanged, ariX3_exchanged, staX3_exchanged, rfl, ⟨List.mem_of_getElem? (i := 520) rfl, rfl⟩⟩) (fc (⟨mthX1_add, rfl, ⟨_, rfl, ariX1_add⟩, ⟨_, rfl, rfl⟩, ⟨List.mem_of_getElem? (i := 435) rfl, rfl⟩, insX1_add, selX1_add⟩) (fn))))))))) (fc (fc trivial (fc trivial (fc trivial (fn)))) (fn))))
set_option maxRecDepth 100000 in
theorem mokX3_makeExchanged : eMok MT MX3_makeExchanged := ⟨cksX3_makeExchanged, lksX3_makeExchanged, fn⟩
set_option maxRecDepth 100000 in
theorem cksX3_exchanged : ∀ e ∈ (mPr MX3_exchanged).flatten, eChk MX3_exchanged e = true := List.all_eq_true.mp (by decide +kernel)
set_option maxRecDepth 100000 in
theorem lksX3_exchanged : ∀ e ∈ (mPr MX3_exchanged).flatten, eLink MT MX3_exchanged e := eFl (fc (fc trivial (fc trivial (fc trivial (fc trivial (fc trivial (fc trivial (fc trivial (fc trivial (fc trivial (fc trivial (fc trivial (fc trivial (fn))))))))))))) (fc (fc trivial (fc trivial (fc trivial (fc trivial (fc trivial (fc trivial (fc trivial (fc trivial (fc trivial (fc trivial (fn))))))))))) (fc (fc trivial (fc trivial (fc trivial (fc trivial (fc trivial (fc trivial (fc trivial (fc trivial (fc trivial (fc trivial (fc trivial (fc trivial (fn))))))))))))) (fc (fc trivial (fn)) (fn)))))
set_option maxRecDepth 100000 in
theorem mokX3_exchanged : eMok MT MX3_exchanged := ⟨cksX3_exchanged, lksX3_exchanged, fn⟩
set_option maxRecDepth 100000 in
theorem cksX3_makeGreatest : ∀ e ∈ (mPr MX3_makeGreatest).flatten, eChk MX3_makeGreatest e = true := List.all_eq_true.mp (by decide +kernel)
set_option maxRecDepth 100000 in
theorem lksX3_makeGreatest : ∀ e ∈ (mPr MX3_makeGreatest).flatten, eLink MT MX3_makeGreatest e := eFl (fc (fc trivial (fc (⟨mthX1_empty, rfl, ⟨_, rfl, ariX1_empty⟩, ⟨_, rfl, rfl⟩, ⟨List.mem_of_getElem? (i := 432) rfl, rfl⟩, insX1_empty, selX1_empty⟩) (fc trivial (fc trivial (fc trivial (fc trivial (fc trivial (fc trivial (fc trivial (fc (⟨mthX1_holds, rfl, ⟨_, rfl, ariX1_holds⟩, ⟨_, rfl, rfl⟩, ⟨List.mem_of_getElem? (i := 433) rfl, rfl⟩, insX1_holds, selX1_holds⟩) (fn))))))))))) (fc (fc trivial (fc trivial (fc trivial (fc (⟨mthX3_liesInAnother, ariX3_liesInAnother, staX3_liesInAnother, rfl, ⟨List.mem_of_getElem? (i := 593) rfl, rfl⟩⟩) (fc trivial (fc trivial (fc trivial (fc (⟨mthX1_add, rfl, ⟨_, rfl, ariX1_add⟩, ⟨_, rfl, rfl⟩, ⟨List.mem_of_getElem? (i := 435) rfl, rfl⟩, insX1_add, selX1_add⟩) (fn))))))))) (fc (fc trivial (fc trivial (fc trivial (fn)))) (fn))))
set_option maxRecDepth 100000 in
theorem mokX3_makeGreatest : eMok MT MX3_makeGreatest := ⟨cksX3_makeGreatest, lksX3_makeGreatest, fn⟩
set_option maxRecDepth 100000 in
theorem cksX3_liesInAnother : ∀ e ∈ (mPr MX3_liesInAnother).flatten, eChk MX3_liesInAnother e = true := List.all_eq_true.mp (by decide +kernel)
set_option maxRecDepth 100000 in
theorem lksX3_liesInAnother : ∀ e ∈ (mPr MX3_liesInAnother).flatten, eLink MT MX3_liesInAnother e := eFl (fc (fc trivial (fc trivial (fc trivial (fc trivial (fc trivial (fc trivial (fc trivial (fc trivial (fc trivial (fc trivial (fc trivial (fc trivial (fc trivial (fn)))))))))))))) (fc (fc trivial (fc trivial (fc trivial (fc (⟨mthX1_holds, rfl, ⟨_, rfl, ariX1_holds⟩, ⟨_, rfl, rfl⟩, ⟨List.mem_of_getElem? (i := 433) rfl, rfl⟩, insX1_holds, selX1_holds⟩) (fc trivial (fc trivial (fc trivial (fc trivial (fn))))))))) (fc (fc trivial (fc trivial (fc trivial (fn)))) (fn))))
set_option maxRecDepth 100000 in
theorem mokX3_liesInAnother : eMok MT MX3_liesInAnother := ⟨cksX3_liesInAnother, lksX3_liesInAnother, fn⟩
set_option maxRecDepth 100000 in
theorem cksX4_init : ∀ e ∈ (mPr MX4_init).flatten, eChk MX4_init e = true := List.all_eq_true.mp (by decide +kernel)
set_option maxRecDepth 100000 in
theorem lksX4_init : ∀ e ∈ (mPr MX4_init).flatten, eLink MT MX4_init e := eFl (fc (fc trivial (fc (⟨⟨List.mem_of_getElem? (i := 75) rfl, rfl⟩, ⟨List.mem_of_getElem? (i := 54) rfl, rfl⟩, ⟨List.mem_of_getElem? (i := 55) rfl, rfl⟩⟩) (fc trivial (fc (⟨_, _, _, rfl, ⟨List.mem_of_getElem? (i := 76) rfl, rfl⟩, ⟨List.mem_of_getElem? (i := 77) rfl, rfl⟩, ⟨List.mem_of_getElem? (i := 34) rfl, rfl⟩⟩) (fc trivial (fc (⟨mthX0_init, rfl, rfl, rfl, ⟨_, rfl, ariX0_init⟩, insX0_init, ⟨List.mem_of_getElem? (i := 78) rfl, rfl⟩⟩) (fc (⟨_, _, _, rfl, Nat.le_of_ble_eq_true rfl, ⟨List.mem_of_getElem? (i := 123) rfl, rfl⟩, by decide +kernel⟩) (fc trivial (fn))))))))) (fc (fc (⟨_, _, _, rfl, ⟨List.mem_of_getElem? (i := 111) rfl, rfl⟩, ⟨List.mem_of_getElem? (i := 58) rfl, rfl⟩, ⟨List.mem_of_getElem? (i := 32) rfl, rfl⟩⟩) (fc trivial (fc (⟨mthX1_init, rfl, rfl, rfl, ⟨_, rfl, ariX1_init⟩, insX1_init, ⟨List.mem_of_getElem? (i := 112) rfl, rfl⟩⟩) (fc (⟨_, _, _, rfl, Nat.le_of_ble_eq_true rfl, ⟨List.mem_of_getElem? (i := 124) rfl, rfl⟩, by decide +kernel⟩) (fc trivial (fc (⟨_, _, _, rfl, ⟨List.mem_of_getElem? (i := 111) rfl, rfl⟩, ⟨List.mem_of_getElem? (i := 58) rfl, rfl⟩, ⟨List.mem_of_getElem? (i := 32) rfl, rfl⟩⟩) (fc trivial (fc (⟨mthX1_init, rfl, rfl, rfl, ⟨_, rfl, ariX1_init⟩, insX1_init, ⟨List.mem_of_getElem? (i := 112) rfl, rfl⟩⟩) (fn))))))))) (fc (fc (⟨_, _, _, rfl, Nat.le_of_ble_eq_true rfl, ⟨List.mem_of_getElem? (i := 125) rfl, rfl⟩, by decide +kernel⟩) (fc trivial (fc (⟨_, _, _, rfl, ⟨List.mem_of_getElem? (i := 113) rfl, rfl⟩, ⟨List.mem_of_getElem? (i := 114) rfl, rfl⟩, ⟨List.mem_of_getElem? (i := 36) rfl, rfl⟩⟩) (fc trivial (fc (⟨mthX2_init, rfl, rfl, rfl, ⟨_, rfl, ariX2_init⟩, insX2_init, ⟨List.mem_of_getElem? (i := 115) rfl, rfl⟩⟩) (fc (⟨_, _, _, rfl, Nat.le_of_ble_eq_true rfl, ⟨List.mem_of_getElem? (i := 126) rfl, rfl⟩, by decide +kernel⟩) (fn))))))) (fc (fc trivial (fc (⟨_, _, _, rfl, ⟨List.mem_of_getElem? (i := 113) rfl, rfl⟩, ⟨List.mem_of_getElem? (i := 114) rfl, rfl⟩, ⟨List.mem_of_getElem? (i := 36) rfl, rfl⟩⟩) (fc trivial (fc (⟨mthX2_init, rfl, rfl, rfl, ⟨_, rfl, ariX2_init⟩, insX2_init, ⟨List.mem_of_getElem? (i := 115) rfl, rfl⟩⟩) (fc (⟨_, _, _, rfl, Nat.le_of_ble_eq_true rfl, ⟨List.mem_of_getElem? (i := 127) rfl, rfl⟩, by decide +kernel⟩) (fc trivial (fc (⟨_, _, _, rfl, ⟨List.mem_of_getElem? (i := 113) rfl, rfl⟩, ⟨List.mem_of_getElem? (i := 114) rfl, rfl⟩, ⟨List.mem_of_getElem? (i := 36) rfl, rfl⟩⟩) (fc trivial (fn))))))))) (fc (fc (⟨mthX2_init, rfl, rfl, rfl, ⟨_, rfl, ariX2_init⟩, insX2_init, ⟨List.mem_of_getElem? (i := 115) rfl, rfl⟩⟩) (fc (⟨_, _, _, rfl, Nat.le_of_ble_eq_true rfl, ⟨List.mem_of_getElem? (i := 128) rfl, rfl⟩, by decide +kernel⟩) (fc trivial (fn)))) (fn))))))
set_option maxRecDepth 100000 in
theorem mokX4_init : eMok MT MX4_init := ⟨cksX4_init, lksX4_init, fn⟩
set_option maxRecDepth 100000 in
theorem cksX4_borders : ∀ e ∈ (mPr MX4_borders).flatten, eChk MX4_borders e = true := List.all_eq_true.mp (by decide +kernel)
set_option maxRecDepth 100000 in
theorem lksX4_borders : ∀ e ∈ (mPr MX4_borders).flatten, eLink MT MX4_borders e := eFl (fc (fc trivial (fc (⟨_, _, _, rfl, Nat.le_of_ble_eq_true rfl, ⟨List.mem_of_getElem? (i := 123) rfl, rfl⟩⟩) (fc trivial (fn)))) (fn))
set_option maxRecDepth 100000 in
theorem mokX4_borders : eMok MT MX4_borders := ⟨cksX4_borders, lksX4_borders, fn⟩
set_option maxRecDepth 100000 in
theorem cksX4_tellsRow : ∀ e ∈ (mPr MX4_tellsRow).flatten, eChk MX4_tellsRow e = true := List.all_eq_true.mp (by decide +kernel)
set_option maxRecDepth 100000 in
theorem lksX4_tellsRow : ∀ e ∈ (mPr MX4_tellsRow).flatten, eLink MT MX4_tellsRow e := eFl (fc (fc trivial (fc trivial (fc (⟨_, _, _, rfl, Nat.le_of_ble_eq_true rfl, ⟨List.mem_of_getElem? (i := 124) rfl, rfl⟩⟩) (fc (⟨mthX0_makeBorder, ariX0_makeBorder, staX0_makeBorder, rfl, ⟨List.mem_of_getElem? (i := 792) rfl, rfl⟩⟩) (fc trivial (fc (⟨_, _, _, rfl, Nat.le_of_ble_eq_true rfl, ⟨List.mem_of_getElem? (i := 124) rfl, rfl⟩⟩) (fc (⟨mthX1_isEmpty, rfl, ⟨_, rfl, ariX1_isEmpty⟩, ⟨_, rfl, rfl⟩, ⟨List.mem_of_getElem? (i := 767) rfl, rfl⟩, insX1_isEmpty, selX1_isEmpty⟩) (fc trivial (fn))))))))) (fc (fc trivial (fc (⟨_, _, _, rfl, Nat.le_of_ble_eq_true rfl, ⟨List.mem_of_getElem? (i := 124) rfl, rfl⟩⟩) (fc trivial (fc (⟨_, _, _, rfl, Nat.le_of_ble_eq_true rfl, ⟨List.mem_of_getElem? (i := 125) rfl, rfl⟩⟩) (fc (⟨mthX0_makeBorder, ariX0_makeBorder, staX0_makeBorder, rfl, ⟨List.mem_of_getElem? (i := 792) rfl, rfl⟩⟩) (fc trivial (fc (⟨_, _, _, rfl, Nat.le_of_ble_eq_true rfl, ⟨List.mem_of_getElem? (i := 125) rfl, rfl⟩⟩) (fc (⟨mthX1_isEmpty, rfl, ⟨_, rfl, ariX1_isEmpty⟩, ⟨_, rfl, rfl⟩, ⟨List.mem_of_getElem? (i := 767) rfl, rfl⟩, insX1_isEmpty, selX1_isEmpty⟩) (fn))))))))) (fc (fc trivial (fc trivial (fc trivial (fc trivial (fc trivial (fc (⟨mthX1_holdsAll, rfl, ⟨_, rfl, ariX1_holdsAll⟩, ⟨_, rfl, rfl⟩, ⟨List.mem_of_getElem? (i := 793) rfl, rfl⟩, insX1_holdsAll, selX1_holdsAll⟩) (fc trivial (fc trivial (fn))))))))) (fc (fc trivial (fc trivial (fc trivial (fc (⟨mthX4_tellsFilling, rfl, ⟨_, rfl, ariX4_tellsFilling⟩, ⟨_, rfl, rfl⟩, ⟨List.mem_of_getElem? (i := 794) rfl, rfl⟩, insX4_tellsFilling, selX4_tellsFilling⟩) (fc trivial (fc trivial (fc trivial (fc trivial (fc trivial (fn)))))))))) (fn)))))
set_option maxRecDepth 100000 in
theorem mokX4_tellsRow : eMok MT MX4_tellsRow := ⟨cksX4_tellsRow, lksX4_tellsRow, fn⟩
set_option maxRecDepth 100000 in
theorem cksX4_tellsFilling : ∀ e ∈ (mPr MX4_tellsFilling).flatten, eChk MX4_tellsFilling e = true := List.all_eq_true.mp (by decide +kernel)
set_option maxRecDepth 100000 in
theorem lksX4_tellsFilling : ∀ e ∈ (mPr MX4_tellsFilling).flatten, eLink MT MX4_tellsFilling e := eFl (fc (fc trivial (fc (⟨_, _, _, rfl, Nat.le_of_ble_eq_true rfl, ⟨List.mem_of_getElem? (i := 123) rfl, rfl⟩⟩) (fc trivial (fc trivial (fc (⟨mthX0_isFilling, rfl, ⟨_, rfl, ariX0_isFilling⟩, ⟨_, rfl, rfl⟩, ⟨List.mem_of_getElem? (i := 798) rfl, rfl⟩, insX0_isFilling, selX0_isFilling⟩) (fc trivial (fc trivial (fc trivial (fn))))))))) (fc (fc trivial (fc trivial (fc trivial (fc trivial (fc trivial (fc (⟨mthX1_isEmpty, rfl, ⟨_, rfl, ariX1_isEmpty⟩, ⟨_, rfl, rfl⟩, ⟨List.mem_of_getElem? (i := 767) rfl, rfl⟩, insX1_isEmpty, selX1_isEmpty⟩) (fc trivial (fc trivial (fc trivial (fn)))))))))) (fc (fc trivial (fc trivial (fc (⟨mthX1_faceAt, rfl, ⟨_, rfl, ariX1_faceAt⟩, ⟨_, rfl, rfl⟩, ⟨List.mem_of_getElem? (i := 799) rfl, rfl⟩, insX1_faceAt, selX1_faceAt⟩) (fc (⟨mthX6_heightOf, ariX6_heightOf, staX6_heightOf, rfl, ⟨List.mem_of_getElem? (i := 800) rfl, rfl⟩⟩) (fc trivial (fc trivial (fc trivial (fc trivial (fn))))))))) (fc (fc trivial (fc trivial (fc (⟨mthX5_areEven, ariX5_areEven, staX5_areEven, rfl, ⟨List.mem_of_getElem? (i := 801) rfl, rfl⟩⟩) (fc trivial (fc trivial (fc trivial (fc trivial (fc trivial (fc trivial (fn)))))))))) (fc (fc trivial (fc trivial (fc trivial (fc trivial (fc (⟨_, _, _, rfl, Nat.le_of_ble_eq_true rfl, ⟨List.mem_of_getElem? (i := 123) rfl, rfl⟩⟩) (fc trivial (fc trivial (fc (⟨mthX0_countHoles, rfl, ⟨_, rfl, ariX0_countHoles⟩, ⟨_, rfl, rfl⟩, ⟨List.mem_of_getElem? (i := 771) rfl, rfl⟩, insX0_countHoles, selX0_countHoles⟩) (fn))))))))) (fc (fc trivial (fc trivial (fc trivial (fc trivial (fc trivial (fn)))))) (fn)))))))
set_option maxRecDepth 100000 in
theorem mokX4_tellsFilling : eMok MT MX4_tellsFilling := ⟨cksX4_tellsFilling, lksX4_tellsFilling, fn⟩
set_option maxRecDepth 100000 in
theorem cksX4_tellsPieces : ∀ e ∈ (mPr MX4_tellsPieces).flatten, eChk MX4_tellsPieces e = true := List.all_eq_true.mp (by decide +kernel)
set_option maxRecDepth 100000 in
theorem lksX4_tellsPieces : ∀ e ∈ (mPr MX4_tellsPieces).flatten, eLink MT MX4_tellsPieces e := eFl (fc (fc trivial (fc (⟨mthX1_isEmpty, rfl, ⟨_, rfl, ariX1_isEmpty⟩, ⟨_, rfl, rfl⟩, ⟨List.mem_of_getElem? (i := 767) rfl, rfl⟩, insX1_isEmpty, selX1_isEmpty⟩) (fc trivial (fc trivial (fc trivial (fc trivial (fc (⟨mthX5_countPieces, ariX5_countPieces, staX5_countPieces, rfl, ⟨List.mem_of_getElem? (i := 768) rfl, rfl⟩⟩) (fc trivial (fc trivial (fc trivial (fn))))))))))) (fc (fc trivial (fc (⟨mthX1_countAt, rfl, ⟨_, rfl, ariX1_countAt⟩, ⟨_, rfl, rfl⟩, ⟨List.mem_of_getElem? (i := 769) rfl, rfl⟩, insX1_countAt, selX1_countAt⟩) (fc trivial (fc (⟨_, _, _, rfl, Nat.le_of_ble_eq_true rfl, ⟨List.mem_of_getElem? (i := 123) rfl, rfl⟩⟩) (fc trivial (fc trivial (fc (⟨mthX0_countFree, rfl, ⟨_, rfl, ariX0_countFree⟩, ⟨_, rfl, rfl⟩, ⟨List.mem_of_getElem? (i := 770) rfl, rfl⟩, insX0_countFree, selX0_countFree⟩) (fc trivial (fc trivial (fn)))))))))) (fc (fc trivial (fc trivial (fc (⟨_, _, _, rfl, Nat.le_of_ble_eq_true rfl, ⟨List.mem_of_getElem? (i := 123) rfl, rfl⟩⟩) (fc trivial (fc trivial (fc (⟨mthX0_countHoles, rfl, ⟨_, rfl, ariX0_countHoles⟩, ⟨_, rfl, rfl⟩, ⟨List.mem_of_getElem? (i := 771) rfl, rfl⟩, insX0_countHoles, selX0_countHoles⟩) (fc trivial (fc trivial (fc trivial (fn)))))))))) (fc (fc trivial (fc trivial (fc trivial (fc trivial (fn))))) (fn)))))
set_option maxRecDepth 100000 in
theorem mokX4_tellsPieces : eMok MT MX4_tellsPieces := ⟨cksX4_tellsPieces, lksX4_tellsPieces, fn⟩
set_option maxRecDepth 100000 in
theorem cksX4_tellsSignedCount : ∀ e ∈ (mPr MX4_tellsSignedCount).flatten, eChk MX4_tellsSignedCount e = true := List.all_eq_true.mp (by decide +kernel)
set_option maxRecDepth 100000 in
theorem lksX4_tellsSignedCount : ∀ e ∈ (mPr MX4_tellsSignedCount).flatten, eLink MT MX4_tellsSignedCount e := eFl (fc (fc trivial (fc (⟨mthX1_isEmpty, rfl, ⟨_, rfl, ariX1_isEmpty⟩, ⟨_, rfl, rfl⟩, ⟨List.mem_of_getElem? (i := 767) rfl, rfl⟩, insX1_isEmpty, selX1_isEmpty⟩) (fc trivial (fc trivial (fc trivial (fc trivial (fc (⟨_, _, _, rfl, Nat.le_of_ble_eq_true rfl, ⟨List.mem_of_getElem? (i := 126) rfl, rfl⟩⟩) (fc trivial (fc trivial (fc (⟨_, _, _, rfl, Nat.le_of_ble_eq_true rfl, ⟨List.mem_of_getElem? (i := 123) rfl, rfl⟩⟩) (fn))))))))))) (fc (fc (⟨mthX2_tell, rfl, ⟨_, rfl, ariX2_tell⟩, ⟨_, rfl, rfl⟩, ⟨List.mem_of_getElem? (i := 776) rfl, rfl⟩, insX2_tell, selX2_tell⟩) (fc trivial (fc (⟨mthX1_signedCount, rfl, ⟨_, rfl, ariX1_signedCount⟩, ⟨_, rfl, rfl⟩, ⟨List.mem_of_getElem? (i := 783) rfl, rfl⟩, insX1_signedCount, selX1_signedCount⟩) (fc trivial (fc (⟨_, _, _, rfl, Nat.le_of_ble_eq_true rfl, ⟨List.mem_of_getElem? (i := 126) rfl, rfl⟩⟩) (fc (⟨mthX2_signedSum, rfl, ⟨_, rfl, ariX2_signedSum⟩, ⟨_, rfl, rfl⟩, ⟨List.mem_of_getElem? (i := 784) rfl, rfl⟩, insX2_signedSum, selX2_signedSum⟩) (fn))))))) (fc (fc trivial (fc trivial (fc trivial (fc trivial (fc trivial (fc trivial (fc trivial (fn)))))))) (fn))))
set_option maxRecDepth 100000 in
theorem mokX4_tellsSignedCount : eMok MT MX4_tellsSignedCount := ⟨cksX4_tellsSignedCount, lksX4_tellsSignedCount, fn⟩
set_option maxRecDepth 100000 in
theorem cksX4_tellsCone : ∀ e ∈ (mPr MX4_tellsCone).flatten, eChk MX4_tellsCone e = true := List.all_eq_true.mp (by decide +kernel)
set_option maxRecDepth 100000 in
theorem lksX4_tellsCone : ∀ e ∈ (mPr MX4_tellsCone).flatten, eLink MT MX4_tellsCone e := eFl (fc (fc trivial (fc trivial (fc (⟨mthX1_cornerSet, rfl, ⟨_, rfl, ariX1_cornerSet⟩, ⟨_, rfl, rfl⟩, ⟨List.mem_of_getElem? (i := 816) rfl, rfl⟩, insX1_cornerSet, selX1_cornerSet⟩) (fc trivial (fc trivial (fc trivial (fc (⟨mthX6_leastCorner, ariX6_leastCorner, staX6_leastCorner, rfl, ⟨List.mem_of_getElem? (i := 817) rfl, rfl⟩⟩) (fc trivial (fc trivial (fc trivial (fn))))))))))) (fc (fc trivial (fc trivial (fc trivial (fc trivial (fc trivial (fc (⟨_, _, _, rfl, Nat.le_of_ble_eq_true rfl, ⟨List.mem_of_getElem? (i := 124) rfl, rfl⟩⟩) (fc (⟨mthX3_makeCone, ariX3_makeCone, staX3_makeCone, rfl, ⟨List.mem_of_getElem? (i := 818) rfl, rfl⟩⟩) (fc trivial (fc trivial (fc (⟨_, _, _, rfl, Nat.le_of_ble_eq_true rfl, ⟨List.mem_of_getElem? (i := 124) rfl, rfl⟩⟩) (fn))))))))))) (fc (fc (⟨mthX4_isOneWithoutHoles, rfl, ⟨_, rfl, ariX4_isOneWithoutHoles⟩, ⟨_, rfl, rfl⟩, ⟨List.mem_of_getElem? (i := 819) rfl, rfl⟩, insX4_isOneWithoutHoles, selX4_isOneWithoutHoles⟩) (fc trivial (fn))) (fn))))
set_option maxRecDepth 100000 in
theorem mokX4_tellsCone : eMok MT MX4_tellsCone := ⟨cksX4_tellsCone, lksX4_tellsCone, fn⟩
set_option maxRecDepth 100000 in
theorem cksX4_tellsAbout : ∀ e ∈ (mPr MX4_tellsAbout).flatten, eChk MX4_tellsAbout e = true := List.all_eq_true.mp (by decide +kernel)
set_option maxRecDepth 100000 in
theorem lksX4_tellsAbout : ∀ e ∈ (mPr MX4_tellsAbout).flatten, eLink MT MX4_tellsAbout e := eFl (fc (fc trivial (fc trivial (fc trivial (fc trivial (fc (⟨_, _, _, rfl, Nat.le_of_ble_eq_true rfl, ⟨List.mem_of_getElem? (i := 124) rfl, rfl⟩⟩) (fc (⟨mthX3_makeAbout, ariX3_makeAbout, staX3_makeAbout, rfl, ⟨List.mem_of_getElem? (i := 877) rfl, rfl⟩⟩) (fc trivial (fc trivial (fc (⟨_, _, _, rfl, Nat.le_of_ble_eq_true rfl, ⟨List.mem_of_getElem? (i := 124) rfl, rfl⟩⟩) (fc (⟨mthX4_isOneWithoutHoles, rfl, ⟨_, rfl, ariX4_isOneWithoutHoles⟩, ⟨_, rfl, rfl⟩, ⟨List.mem_of_getElem? (i := 819) rfl, rfl⟩, insX4_isOneWithoutHoles, selX4_isOneWithoutHoles⟩) (fn))))))))))) (fc (fc trivial (fn)) (fn)))
set_option maxRecDepth 100000 in
theorem mokX4_tellsAbout : eMok MT MX4_tellsAbout := ⟨cksX4_tellsAbout, lksX4_tellsAbout, fn⟩
set_option maxRecDepth 100000 in
theorem cksX4_isOneWithoutHoles : ∀ e ∈ (mPr MX4_isOneWithoutHoles).flatten, eChk MX4_isOneWithoutHoles e = true := List.all_eq_true.mp (by decide +kernel)
set_option maxRecDepth 100000 in
theorem lksX4_isOneWithoutHoles : ∀ e ∈ (mPr MX4_isOneWithoutHoles).flatten, eLink MT MX4_isOneWithoutHoles e := eFl (fc (fc trivial (fc (⟨_, _, _, rfl, Nat.le_of_ble_eq_true rfl, ⟨List.mem_of_getElem? (i := 127) rfl, rfl⟩⟩) (fc trivial (fc trivial (fc (⟨_, _, _, rfl, Nat.le_of_ble_eq_true rfl, ⟨List.mem_of_getElem? (i := 123) rfl, rfl⟩⟩) (fc (⟨mthX2_tell, rfl, ⟨_, rfl, ariX2_tell⟩, ⟨_, rfl, rfl⟩, ⟨List.mem_of_getElem? (i := 776) rfl, rfl⟩, insX2_tell, selX2_tell⟩) (fc trivial (fc (⟨_, _, _, rfl, Nat.le_of_ble_eq_true rfl, ⟨List.mem_of_getElem? (i := 127) rfl, rfl⟩⟩) (fn))))))))) (fc (fc (⟨mthX2_areNone, rfl, ⟨_, rfl, ariX2_areNone⟩, ⟨_, rfl, rfl⟩, ⟨List.mem_of_getElem? (i := 823) rfl, rfl⟩, insX2_areNone, selX2_areNone⟩) (fc trivial (fc trivial (fc (⟨mthX5_countPieces, ariX5_countPieces, staX5_countPieces, rfl, ⟨List.mem_of_getElem? (i := 768) rfl, rfl⟩⟩) (fc trivial (fc trivial (fc trivial (fc trivial (fn))))))))) (fc (fc trivial (fc trivial (fn))) (fn))))
set_option maxRecDepth 100000 in
theorem mokX4_isOneWithoutHoles : eMok MT MX4_isOneWithoutHoles := ⟨cksX4_isOneWithoutHoles, lksX4_isOneWithoutHoles, fn⟩
set_option maxRecDepth 100000 in
theorem cksX4_tellsLift : ∀ e ∈ (mPr MX4_tellsLift).flatten, eChk MX4_tellsLift e = true := List.all_eq_true.mp (by decide +kernel)
set_option maxRecDepth 100000 in
theorem lksX4_tellsLift : ∀ e ∈ (mPr MX4_tellsLift).flatten, eLink MT MX4_tellsLift e := eFl (fc (fc trivial (fc trivial (fc (⟨mthX1_cornerSet, rfl, ⟨_, rfl, ariX1_cornerSet⟩, ⟨_, rfl, rfl⟩, ⟨List.mem_of_getElem? (i := 816) rfl, rfl⟩, insX1_cornerSet, selX1_cornerSet⟩) (fc trivial (fc trivial (fc trivial (fc trivial (fc trivial (fc (⟨mthX6_leastCorner, ariX6_leastCorner, staX6_leastCorner, rfl, ⟨List.mem_of_getElem? (i := 817) rfl, rfl⟩⟩) (fc trivial (fc trivial (fn)))))))))))) (fc (fc trivial (fc trivial (fc trivial (fc trivial (fc (⟨mthX6_leastCorner, ariX6_leastCorner, staX6_leastCorner, rfl, ⟨List.mem_of_getElem? (i := 817) rfl, rfl⟩⟩) (fc trivial (fc trivial (fc (⟨mthX1_isEmpty, rfl, ⟨_, rfl, ariX1_isEmpty⟩, ⟨_, rfl, rfl⟩, ⟨List.mem_of_getElem? (i := 767) rfl, rfl⟩, insX1_isEmpty, selX1_isEmpty⟩) (fc trivial (fn)))))))))) (fc (fc trivial (fc trivial (fc trivial (fc trivial (fc trivial (fc trivial (fc trivial (fc trivial (fc (⟨_, _, _, rfl, Nat.le_of_ble_eq_true rfl, ⟨List.mem_of_getElem? (i := 124) rfl, rfl⟩⟩) (fc (⟨mthX3_makeLift, ariX3_makeLift, staX3_makeLift, rfl, ⟨List.mem_of_getElem? (i := 831) rfl, rfl⟩⟩) (fn))))))))))) (fc (fc trivial (fc (⟨_, _, _, rfl, Nat.le_of_ble_eq_true rfl, ⟨List.mem_of_getElem? (i := 126) rfl, rfl⟩⟩) (fc trivial (fc trivial (fc (⟨_, _, _, rfl, Nat.le_of_ble_eq_true rfl, ⟨List.mem_of_getElem? (i := 123) rfl, rfl⟩⟩) (fc (⟨mthX2_tell, rfl, ⟨_, rfl, ariX2_tell⟩, ⟨_, rfl, rfl⟩, ⟨List.mem_of_getElem? (i := 776) rfl, rfl⟩, insX2_tell, selX2_tell⟩) (fc trivial (fc (⟨_, _, _, rfl, Nat.le_of_ble_eq_true rfl, ⟨List.mem_of_getElem? (i := 127) rfl, rfl⟩⟩) (fn))))))))) (fc (fc trivial (fc (⟨_, _, _, rfl, Nat.le_of_ble_eq_true rfl, ⟨List.mem_of_getElem? (i := 124) rfl, rfl⟩⟩) (fc trivial (fc (⟨_, _, _, rfl, Nat.le_of_ble_eq_true rfl, ⟨List.mem_of_getElem? (i := 123) rfl, rfl⟩⟩) (fc (⟨mthX2_tell, rfl, ⟨_, rfl, ariX2_tell⟩, ⟨_, rfl, rfl⟩, ⟨List.mem_of_getElem? (i := 776) rfl, rfl⟩, insX2_tell, selX2_tell⟩) (fc trivial (fc trivial (fn)))))))) (fc (fc trivial (fc trivial (fc trivial (fc trivial (fc (⟨_, _, _, rfl, Nat.le_of_ble_eq_true rfl, ⟨List.mem_of_getElem? (i := 127) rfl, rfl⟩⟩) (fc trivial (fc (⟨mthX2_at, rfl, ⟨_, rfl, ariX2_at⟩, ⟨_, rfl, rfl⟩, ⟨List.mem_of_getElem? (i := 832) rfl, rfl⟩, insX2_at, selX2_at⟩) (fn)))))))) (fc (fc trivial (fc (⟨_, _, _, rfl, Nat.le_of_ble_eq_true rfl, ⟨List.mem_of_getElem? (i := 126) rfl, rfl⟩⟩) (fc trivial (fc trivial (fc trivial (fc (⟨mthX2_at, rfl, ⟨_, rfl, ariX2_at⟩, ⟨_, rfl, rfl⟩, ⟨List.mem_of_getElem? (i := 832) rfl, rfl⟩, insX2_at, selX2_at⟩) (fc trivial (fc trivial (fc trivial (fn)))))))))) (fc (fc trivial (fc trivial (fc trivial (fc trivial (fn))))) (fn)))))))))
set_option maxRecDepth 100000 in
theorem mokX4_tellsLift : eMok MT MX4_tellsLift := ⟨cksX4_tellsLift, lksX4_tellsLift, fn⟩
set_option maxRecDepth 100000 in
theorem cksX4_tellsTouching : ∀ e ∈ (mPr MX4_tellsTouching).flatten, eChk MX4_tellsTouching e = true := List.all_eq_true.mp (by decide +kernel)
set_option maxRecDepth 100000 in
theorem lksX4_tellsTouching : ∀ e ∈ (mPr MX4_tellsTouching).flatten, eLink MT MX4_tellsTouching e := eFl (fc (fc trivial (fc (⟨_, _, _, rfl, Nat.le_of_ble_eq_true rfl, ⟨List.mem_of_getElem? (i := 124) rfl, rfl⟩⟩) (fc trivial (fc trivial (fc (⟨mthX1_becomeMeeting, rfl, ⟨_, rfl, ariX1_becomeMeeting⟩, ⟨_, rfl, rfl⟩, ⟨List.mem_of_getElem? (i := 902) rfl, rfl⟩, insX1_becomeMeeting, selX1_becomeMeeting⟩) (fc trivial (fc (⟨_, _, _, rfl, Nat.le_of_ble_eq_true rfl, ⟨List.mem_of_getElem? (i := 124) rfl, rfl⟩⟩) (fc (⟨mthX1_count, rfl, ⟨_, rfl, ariX1_count⟩, ⟨_, rfl, rfl⟩, ⟨List.mem_of_getElem? (i := 847) rfl, rfl⟩, insX1_count, selX1_count⟩) (fn))))))))) (fc (fc trivial (fc trivial (fc trivial (fc trivial (fc trivial (fc (⟨_, _, _, rfl, Nat.le_of_ble_eq_true rfl, ⟨List.mem_of_getElem? (i := 124) rfl, rfl⟩⟩) (fc trivial (fc trivial (fc (⟨mthX1_becomeUnion, rfl, ⟨_, rfl, ariX1_becomeUnion⟩, ⟨_, rfl, rfl⟩, ⟨List.mem_of_getElem? (i := 903) rfl, rfl⟩, insX1_becomeUnion, selX1_becomeUnion⟩) (fc trivial (fn))))))))))) (fc (fc (⟨_, _, _, rfl, Nat.le_of_ble_eq_true rfl, ⟨List.mem_of_getElem? (i := 126) rfl, rfl⟩⟩) (fc trivial (fc trivial (fc (⟨_, _, _, rfl, Nat.le_of_ble_eq_true rfl, ⟨List.mem_of_getElem? (i := 123) rfl, rfl⟩⟩) (fc (⟨mthX2_tell, rfl, ⟨_, rfl, ariX2_tell⟩, ⟨_, rfl, rfl⟩, ⟨List.mem_of_getElem? (i := 776) rfl, rfl⟩, insX2_tell, selX2_tell⟩) (fc trivial (fc (⟨_, _, _, rfl, Nat.le_of_ble_eq_true rfl, ⟨List.mem_of_getElem? (i := 128) rfl, rfl⟩⟩) (fc trivial (fn))))))))) (fc (fc trivial (fc (⟨_, _, _, rfl, Nat.le_of_ble_eq_true rfl, ⟨List.mem_of_getElem? (i := 123) rfl, rfl⟩⟩) (fc (⟨mthX2_tell, rfl, ⟨_, rfl, ariX2_tell⟩, ⟨_, rfl, rfl⟩, ⟨List.mem_of_getElem? (i := 776) rfl, rfl⟩, insX2_tell, selX2_tell⟩) (fc trivial (fc (⟨_, _, _, rfl, Nat.le_of_ble_eq_true rfl, ⟨List.mem_of_getElem? (i := 127) rfl, rfl⟩⟩) (fc trivial (fc (⟨_, _, _, rfl, Nat.le_of_ble_eq_true rfl, ⟨List.mem_of_getElem? (i := 124) rfl, rfl⟩⟩) (fc trivial (fn))))))))) (fc (fc (⟨_, _, _, rfl, Nat.le_of_ble_eq_true rfl, ⟨List.mem_of_getElem? (i := 123) rfl, rfl⟩⟩) (fc (⟨mthX2_tell, rfl, ⟨_, rfl, ariX2_tell⟩, ⟨_, rfl, rfl⟩, ⟨List.mem_of_getElem? (i := 776) rfl, rfl⟩, insX2_tell, selX2_tell⟩) (fc trivial (fc trivial (fc trivial (fc trivial (fc trivial (fc trivial (fc (⟨_, _, _, rfl, Nat.le_of_ble_eq_true rfl, ⟨List.mem_of_getElem? (i := 127) rfl, rfl⟩⟩) (fn)))))))))) (fc (fc trivial (fc (⟨mthX2_at, rfl, ⟨_, rfl, ariX2_at⟩, ⟨_, rfl, rfl⟩, ⟨List.mem_of_getElem? (i := 832) rfl, rfl⟩, insX2_at, selX2_at⟩) (fc trivial (fc (⟨_, _, _, rfl, Nat.le_of_ble_eq_true rfl, ⟨List.mem_of_getElem? (i := 126) rfl, rfl⟩⟩) (fc trivial (fc (⟨mthX2_at, rfl, ⟨_, rfl, ariX2_at⟩, ⟨_, rfl, rfl⟩, ⟨List.mem_of_getElem? (i := 832) rfl, rfl⟩, insX2_at, selX2_at⟩) (fc trivial (fc (⟨_, _, _, rfl, Nat.le_of_ble_eq_true rfl, ⟨List.mem_of_getElem? (i := 128) rfl, rfl⟩⟩) (fn))))))))) (fc (fc trivial (fc (⟨mthX2_at, rfl, ⟨_, rfl, ariX2_at⟩, ⟨_, rfl, rfl⟩, ⟨List.mem_of_getElem? (i := 832) rfl, rfl⟩, insX2_at, selX2_at⟩) (fc trivial (fc trivial (fc trivial (fc trivial (fc trivial (fc trivial (fn))))))))) (fc (fc trivial (fc trivial (fn))) (fn)))))))))
set_option maxRecDepth 100000 in
theorem mokX4_tellsTouching : eMok MT MX4_tellsTouching := ⟨cksX4_tellsTouching, lksX4_tellsTouching, fn⟩
set_option maxRecDepth 100000 in
theorem cksX4_tellsFold : ∀ e ∈ (mPr MX4_tellsFold).flatten, eChk MX4_tellsFold e = true := List.all_eq_true.mp (by decide +kernel)
set_option maxRecDepth 100000 in
theorem lksX4_tellsFold : ∀ e ∈ (mPr MX4_tellsFold).flatten, eLink MT MX4_tellsFold e := eFl (fc (fc trivial (fc trivial (fc (⟨mthX1_countOver, rfl, ⟨_, rfl, ariX1_countOver⟩, ⟨_, rfl, rfl⟩, ⟨List.mem_of_getElem? (i := 882) rfl, rfl⟩, insX1_countOver, selX1_countOver⟩) (fc trivial (fc trivial (fc trivial (fc trivial (fc trivial (fc (⟨_, _, _, rfl, Nat.le_of_ble_eq_true rfl, ⟨List.mem_of_getElem? (i := 124) rfl, rfl⟩⟩) (fc trivial (fn))))))))))) (fc (fc (⟨mthX1_become, rfl, ⟨_, rfl, ariX1_become⟩, ⟨_, rfl, rfl⟩, ⟨List.mem_of_getElem? (i := 883) rfl, rfl⟩, insX1_become, selX1_become⟩) (fc trivial (fc (⟨_, _, _, rfl, Nat.le_of_ble_eq_true rfl, ⟨List.mem_of_getElem? (i := 124) rfl, rfl⟩⟩) (fc trivial (fc trivial (fc (⟨mthX1_firstOver, rfl, ⟨_, rfl, ariX1_firstOver⟩, ⟨_, rfl, rfl⟩, ⟨List.mem_of_getElem? (i := 884) rfl, rfl⟩, insX1_firstOver, selX1_firstOver⟩) (fc (⟨mthX1_remove, rfl, ⟨_, rfl, ariX1_remove⟩, ⟨_, rfl, rfl⟩, ⟨List.mem_of_getElem? (i := 885) rfl, rfl⟩, insX1_remove, selX1_remove⟩) (fc trivial (fn))))))))) (fc (fc (⟨_, _, _, rfl, Nat.le_of_ble_eq_true rfl, ⟨List.mem_of_getElem? (i := 124) rfl, rfl⟩⟩) (fc trivial (fc (⟨mthX1_remove, rfl, ⟨_, rfl, ariX1_remove⟩, ⟨_, rfl, rfl⟩, ⟨List.mem_of_getElem? (i := 885) rfl, rfl⟩, insX1_remove, selX1_remove⟩) (fc trivial (fc (⟨_, _, _, rfl, Nat.le_of_ble_eq_true rfl, ⟨List.mem_of_getElem? (i := 126) rfl, rfl⟩⟩) (fc trivial (fc trivial (fc (⟨_, _, _, rfl, Nat.le_of_ble_eq_true rfl, ⟨List.mem_of_getElem? (i := 123) rfl, rfl⟩⟩) (fn))))))))) (fc (fc (⟨mthX2_tell, rfl, ⟨_, rfl, ariX2_tell⟩, ⟨_, rfl, rfl⟩, ⟨List.mem_of_getElem? (i := 776) rfl, rfl⟩, insX2_tell, selX2_tell⟩) (fc trivial (fc (⟨_, _, _, rfl, Nat.le_of_ble_eq_true rfl, ⟨List.mem_of_getElem? (i := 127) rfl, rfl⟩⟩) (fc trivial (fc (⟨_, _, _, rfl, Nat.le_of_ble_eq_true rfl, ⟨List.mem_of_getElem? (i := 124) rfl, rfl⟩⟩) (fc trivial (fc (⟨_, _, _, rfl, Nat.le_of_ble_eq_true rfl, ⟨List.mem_of_getElem? (i := 123) rfl, rfl⟩⟩) (fc (⟨mthX2_tell, rfl, ⟨_, rfl, ariX2_tell⟩, ⟨_, rfl, rfl⟩, ⟨List.mem_of_getElem? (i := 776) rfl, rfl⟩, insX2_tell, selX2_tell⟩) (fn))))))))) (fc (fc trivial (fc (⟨_, _, _, rfl, Nat.le_of_ble_eq_true rfl, ⟨List.mem_of_getElem? (i := 127) rfl, rfl⟩⟩) (fc trivial (fc (⟨_, _, _, rfl, Nat.le_of_ble_eq_true rfl, ⟨List.mem_of_getElem? (i := 126) rfl, rfl⟩⟩) (fc (⟨mthX2_areLike, rfl, ⟨_, rfl, ariX2_areLike⟩, ⟨_, rfl, rfl⟩, ⟨List.mem_of_getElem? (i := 857) rfl, rfl⟩, insX2_areLike, selX2_areLike⟩) (fc trivial (fn))))))) (fn))))))
set_option maxRecDepth 100000 in
theorem mokX4_tellsFold : eMok MT MX4_tellsFold := ⟨cksX4_tellsFold, lksX4_tellsFold, fn⟩
set_option maxRecDepth 100000 in
theorem cksX4_tellsTaking : ∀ e ∈ (mPr MX4_tellsTaking).flatten, eChk MX4_tellsTaking e = true := List.all_eq_true.mp (by decide +kernel)
set_option maxRecDepth 100000 in
theorem lksX4_tellsTaking : ∀ e ∈ (mPr MX4_tellsTaking).flatten, eLink MT MX4_tellsTaking e := eFl (fc (fc trivial (fc trivial (fc (⟨mthX1_countOver, rfl, ⟨_, rfl, ariX1_countOver⟩, ⟨_, rfl, rfl⟩, ⟨List.mem_of_getElem? (i := 882) rfl, rfl⟩, insX1_countOver, selX1_countOver⟩) (fc trivial (fc trivial (fc (⟨mthX1_count, rfl, ⟨_, rfl, ariX1_count⟩, ⟨_, rfl, rfl⟩, ⟨List.mem_of_getElem? (i := 847) rfl, rfl⟩, insX1_count, selX1_count⟩) (fc trivial (fc trivial (fn))))))))) (fc (fc trivial (fc trivial (fc trivial (fc (⟨_, _, _, rfl, Nat.le_of_ble_eq_true rfl, ⟨List.mem_of_getElem? (i := 124) rfl, rfl⟩⟩) (fc trivial (fc (⟨mthX1_become, rfl, ⟨_, rfl, ariX1_become⟩, ⟨_, rfl, rfl⟩, ⟨List.mem_of_getElem? (i := 883) rfl, rfl⟩, insX1_become, selX1_become⟩) (fc trivial (fc (⟨_, _, _, rfl, Nat.le_of_ble_eq_true rfl, ⟨List.mem_of_getElem? (i := 124) rfl, rfl⟩⟩) (fc trivial (fc (⟨mthX1_remove, rfl, ⟨_, rfl, ariX1_remove⟩, ⟨_, rfl, rfl⟩, ⟨List.mem_of_getElem? (i := 885) rfl, rfl⟩, insX1_remove, selX1_remove⟩) (fn))))))))))) (fc (fc trivial (fc (⟨_, _, _, rfl, Nat.le_of_ble_eq_true rfl, ⟨List.mem_of_getElem? (i := 126) rfl, rfl⟩⟩) (fc trivial (fc trivial (fc (⟨_, _, _, rfl, Nat.le_of_ble_eq_true rfl, ⟨List.mem_of_getElem? (i := 123) rfl, rfl⟩⟩) (fc (⟨mthX2_tell, rfl, ⟨_, rfl, ariX2_tell⟩, ⟨_, rfl, rfl⟩, ⟨List.mem_of_getElem? (i := 776) rfl, rfl⟩, insX2_tell, selX2_tell⟩) (fc trivial (fc (⟨_, _, _, rfl, Nat.le_of_ble_eq_true rfl, ⟨List.mem_of_getElem? (i := 127) rfl, rfl⟩⟩) (fn))))))))) (fc (fc trivial (fc (⟨_, _, _, rfl, Nat.le_of_ble_eq_true rfl, ⟨List.mem_of_getElem? (i := 124) rfl, rfl⟩⟩) (fc trivial (fc (⟨_, _, _, rfl, Nat.le_of_ble_eq_true rfl, ⟨List.mem_of_getElem? (i := 123) rfl, rfl⟩⟩) (fc (⟨mthX2_tell, rfl, ⟨_, rfl, ariX2_tell⟩, ⟨_, rfl, rfl⟩, ⟨List.mem_of_getElem? (i := 776) rfl, rfl⟩, insX2_tell, selX2_tell⟩) (fc trivial (fc (⟨mthX6_heightOf, ariX6_heightOf, staX6_heightOf, rfl, ⟨List.mem_of_getElem? (i := 800) rfl, rfl⟩⟩) (fn)))))))) (fc (fc trivial (fc trivial (fc (⟨_, _, _, rfl, Nat.le_of_ble_eq_true rfl, ⟨List.mem_of_getElem? (i := 127) rfl, rfl⟩⟩) (fc trivial (fc trivial (fc trivial (fc (⟨_, _, _, rfl, Nat.le_of_ble_eq_true rfl, ⟨List.mem_of_getElem? (i := 126) rfl, rfl⟩⟩) (fc (⟨mthX2_differAt, rfl, ⟨_, rfl, ariX2_differAt⟩, ⟨_, rfl, rfl⟩, ⟨List.mem_of_getElem? (i := 890) rfl, rfl⟩, insX2_differAt, selX2_differAt⟩) (fc trivial (fn)))))))))) (fc (fc trivial (fc trivial (fc trivial (fc (⟨_, _, _, rfl, Nat.le_of_ble_eq_true rfl, ⟨List.mem_of_getElem? (i := 127) rfl, rfl⟩⟩) (fc trivial (fc trivial (fc trivial (fc trivial (fc trivial (fc (⟨_, _, _, rfl, Nat.le_of_ble_eq_true rfl, ⟨List.mem_of_getElem? (i := 126) rfl, rfl⟩⟩) (fn))))))))))) (fc (fc (⟨mthX2_differAt, rfl, ⟨_, rfl, ariX2_differAt⟩, ⟨_, rfl, rfl⟩, ⟨List.mem_of_getElem? (i := 890) rfl, rfl⟩, insX2_differAt, selX2_differAt⟩) (fc trivial (fc trivial (fc trivial (fc trivial (fc trivial (fn))))))) (fn))))))))
set_option maxRecDepth 100000 in
theorem mokX4_tellsTaking : eMok MT MX4_tellsTaking := ⟨cksX4_tellsTaking, lksX4_tellsTaking, fn⟩
set_option maxRecDepth 100000 in
theorem cksX4_tellsSums : ∀ e ∈ (mPr MX4_tellsSums).flatten, eChk MX4_tellsSums e = true := List.all_eq_true.mp (by decide +kernel)
set_option maxRecDepth 100000 in
theorem lksX4_tellsSums : ∀ e ∈ (mPr MX4_tellsSums).flatten, eLink MT MX4_tellsSums e := eFl (fc (fc trivial (fc (⟨_, _, _, rfl, Nat.le_of_ble_eq_true rfl, ⟨List.mem_of_getElem? (i := 124) rfl, rfl⟩⟩) (fc trivial (fc trivial (fc (⟨mthX1_becomeMeeting, rfl, ⟨_, rfl, ariX1_becomeMeeting⟩, ⟨_, rfl, rfl⟩, ⟨List.mem_of_getElem? (i := 902) rfl, rfl⟩, insX1_becomeMeeting, selX1_becomeMeeting⟩) (fc trivial (fc (⟨_, _, _, rfl, Nat.le_of_ble_eq_true rfl, ⟨List.mem_of_getElem? (i := 125) rfl, rfl⟩⟩) (fc trivial (fc trivial (fc (⟨mthX1_becomeUnion, rfl, ⟨_, rfl, ariX1_becomeUnion⟩, ⟨_, rfl, rfl⟩, ⟨List.mem_of_getElem? (i := 903) rfl, rfl⟩, insX1_becomeUnion, selX1_becomeUnion⟩) (fn))))))))))) (fc (fc trivial (fc trivial (fc trivial (fc trivial (fc trivial (fc trivial (fc trivial (fc (⟨mthX1_countAt, rfl, ⟨_, rfl, ariX1_countAt⟩, ⟨_, rfl, rfl⟩, ⟨List.mem_of_getElem? (i := 769) rfl, rfl⟩, insX1_countAt, selX1_countAt⟩) (fc trivial (fn)))))))))) (fc (fc trivial (fc (⟨mthX1_countAt, rfl, ⟨_, rfl, ariX1_countAt⟩, ⟨_, rfl, rfl⟩, ⟨List.mem_of_getElem? (i := 769) rfl, rfl⟩, insX1_countAt, selX1_countAt⟩) (fc trivial (fc trivial (fc trivial (fc (⟨_, _, _, rfl, Nat.le_of_ble_eq_true rfl, ⟨List.mem_of_getElem? (i := 124) rfl, rfl⟩⟩) (fc trivial (fc (⟨mthX1_countAt, rfl, ⟨_, rfl, ariX1_countAt⟩, ⟨_, rfl, rfl⟩, ⟨List.mem_of_getElem? (i := 769) rfl, rfl⟩, insX1_countAt, selX1_countAt⟩) (fc trivial (fn)))))))))) (fc (fc (⟨_, _, _, rfl, Nat.le_of_ble_eq_true rfl, ⟨List.mem_of_getElem? (i := 125) rfl, rfl⟩⟩) (fc trivial (fc (⟨mthX1_countAt, rfl, ⟨_, rfl, ariX1_countAt⟩, ⟨_, rfl, rfl⟩, ⟨List.mem_of_getElem? (i := 769) rfl, rfl⟩, insX1_countAt, selX1_countAt⟩) (fc trivial (fc trivial (fc trivial (fc trivial (fc trivial (fc trivial (fn)))))))))) (fc (fc trivial (fc trivial (fc trivial (fn)))) (fn))))))
set_option maxRecDepth 100000 in
theorem mokX4_tellsSums : eMok MT MX4_tellsSums := ⟨cksX4_tellsSums, lksX4_tellsSums, fn⟩
set_option maxRecDepth 100000 in
theorem cksX4_tellsOther : ∀ e ∈ (mPr MX4_tellsOther).flatten, eChk MX4_tellsOther e = true := List.all_eq_true.mp (by decide +kernel)
set_option maxRecDepth 100000 in
theorem lksX4_tellsOther : ∀ e ∈ (mPr MX4_tellsOther).flatten, eLink MT MX4_tellsOther e := eFl (fc (fc trivial (fc (⟨mthJ6_bitCount_0f7a4, ariJ6_bitCount_0f7a4, staJ6_bitCount_0f7a4, rfl, ⟨List.mem_of_getElem? (i := 840) rfl, rfl⟩⟩) (fc trivial (fc trivial (fc trivial (fc trivial (fc trivial (fc trivial (fc (⟨mthX1_holds, rfl, ⟨_, rfl, ariX1_holds⟩, ⟨_, rfl, rfl⟩, ⟨List.mem_of_getElem? (i := 841) rfl, rfl⟩, insX1_holds, selX1_holds⟩) (fc trivial (fn))))))))))) (fc (fc trivial (fc trivial (fc trivial (fc trivial (fc trivial (fc (⟨_, _, _, rfl, Nat.le_of_ble_eq_true rfl, ⟨List.mem_of_getElem? (i := 124) rfl, rfl⟩⟩) (fc (⟨mthX3_makeOther, ariX3_makeOther, staX3_makeOther, rfl, ⟨List.mem_of_getElem? (i := 842) rfl, rfl⟩⟩) (fc trivial (fc (⟨_, _, _, rfl, Nat.le_of_ble_eq_true rfl, ⟨List.mem_of_getElem? (i := 124) rfl, rfl⟩⟩) (fn)))))))))) (fc (fc trivial (fc trivial (fc (⟨_, _, _, rfl, Nat.le_of_ble_eq_true rfl, ⟨List.mem_of_getElem? (i := 125) rfl, rfl⟩⟩) (fc (⟨mthX3_makeOther, ariX3_makeOther, staX3_makeOther, rfl, ⟨List.mem_of_getElem? (i := 842) rfl, rfl⟩⟩) (fc trivial (fc (⟨_, _, _, rfl, Nat.le_of_ble_eq_true rfl, ⟨List.mem_of_getElem? (i := 125) rfl, rfl⟩⟩) (fc trivial (fc (⟨mthX1_isLike, rfl, ⟨_, rfl, ariX1_isLike⟩, ⟨_, rfl, rfl⟩, ⟨List.mem_of_getElem? (i := 843) rfl, rfl⟩, insX1_isLike, selX1_isLike⟩) (fn))))))))) (fc (fc trivial (fc trivial (fc (⟨mthX1_isEmpty, rfl, ⟨_, rfl, ariX1_isEmpty⟩, ⟨_, rfl, rfl⟩, ⟨List.mem_of_getElem? (i := 767) rfl, rfl⟩, insX1_isEmpty, selX1_isEmpty⟩) (fc trivial (fc trivial (fc trivial (fc (⟨mthX4_isRim, ariX4_isRim, staX4_isRim, rfl, ⟨List.mem_of_getElem? (i := 844) rfl, rfl⟩⟩) (fn)))))))) (fc (fc trivial (fc trivial (fc trivial (fc trivial (fc (⟨mthX4_areOpposed, rfl, ⟨_, rfl, ariX4_areOpposed⟩, ⟨_, rfl, rfl⟩, ⟨List.mem_of_getElem? (i := 848) rfl, rfl⟩, insX4_areOpposed, selX4_areOpposed⟩) (fc trivial (fc trivial (fc trivial (fn))))))))) (fc (fc trivial (fc trivial (fn))) (fn)))))))
set_option maxRecDepth 100000 in
theorem mokX4_tellsOther : eMok MT MX4_tellsOther := ⟨cksX4_tellsOther, lksX4_tellsOther, fn⟩
set_option maxRecDepth 100000 in
theorem cksX4_isRim : ∀ e ∈ (mPr MX4_isRim).flatten, eChk MX4_isRim e = true := List.all_eq_true.mp (by decide +kernel)
set_option maxRecDepth 100000 in
theorem lksX4_isRim : ∀ e ∈ (mPr MX4_isRim).flatten, eLink MT MX4_isRim e := eFl (fc (fc trivial (fc (⟨mthX1_count, rfl, ⟨_, rfl, ariX1_count⟩, ⟨_, rfl, rfl⟩, ⟨List.mem_of_getElem? (i := 847) rfl, rfl⟩, insX1_count, selX1_count⟩) (fc trivial (fc trivial (fc trivial (fc trivial (fc trivial (fc trivial (fc trivial (fc trivial (fn))))))))))) (fc (fc trivial (fc trivial (fn))) (fn)))
set_option maxRecDepth 100000 in
theorem mokX4_isRim : eMok MT MX4_isRim := ⟨cksX4_isRim, lksX4_isRim, fn⟩
set_option maxRecDepth 100000 in
theorem cksX4_areOpposed : ∀ e ∈ (mPr MX4_areOpposed).flatten, eChk MX4_areOpposed e = true := List.all_eq_true.mp (by decide +kernel)
set_option maxRecDepth 100000 in
theorem lksX4_areOpposed : ∀ e ∈ (mPr MX4_areOpposed).flatten, eLink MT MX4_areOpposed e := eFl (fc (fc trivial (fc (⟨_, _, _, rfl, Nat.le_of_ble_eq_true rfl, ⟨List.mem_of_getElem? (i := 126) rfl, rfl⟩⟩) (fc trivial (fc trivial (fc (⟨_, _, _, rfl, Nat.le_of_ble_eq_true rfl, ⟨List.mem_of_getElem? (i := 123) rfl, rfl⟩⟩) (fc (⟨mthX2_tell, rfl, ⟨_, rfl, ariX2_tell⟩, ⟨_, rfl, rfl⟩, ⟨List.mem_of_getElem? (i := 776) rfl, rfl⟩, insX2_tell, selX2_tell⟩) (fc trivial (fc (⟨_, _, _, rfl, Nat.le_of_ble_eq_true rfl, ⟨List.mem_of_getElem? (i := 127) rfl, rfl⟩⟩) (fn))))))))) (fc (fc trivial (fc (⟨_, _, _, rfl, Nat.le_of_ble_eq_true rfl, ⟨List.mem_of_getElem? (i := 124) rfl, rfl⟩⟩) (fc trivial (fc (⟨_, _, _, rfl, Nat.le_of_ble_eq_true rfl, ⟨List.mem_of_getElem? (i := 123) rfl, rfl⟩⟩) (fc (⟨mthX2_tell, rfl, ⟨_, rfl, ariX2_tell⟩, ⟨_, rfl, rfl⟩, ⟨List.mem_of_getElem? (i := 776) rfl, rfl⟩, insX2_tell, selX2_tell⟩) (fc trivial (fc trivial (fc trivial (fc trivial (fc trivial (fn))))))))))) (fc (fc trivial (fc trivial (fc trivial (fc trivial (fc trivial (fc trivial (fc trivial (fc trivial (fn))))))))) (fc (fc trivial (fc trivial (fc trivial (fc trivial (fc trivial (fc trivial (fc trivial (fc trivial (fn))))))))) (fc (fc (⟨_, _, _, rfl, Nat.le_of_ble_eq_true rfl, ⟨List.mem_of_getElem? (i := 127) rfl, rfl⟩⟩) (fc trivial (fc trivial (fc trivial (fc (⟨mthX2_at, rfl, ⟨_, rfl, ariX2_at⟩, ⟨_, rfl, rfl⟩, ⟨List.mem_of_getElem? (i := 832) rfl, rfl⟩, insX2_at, selX2_at⟩) (fc trivial (fc trivial (fc (⟨_, _, _, rfl, Nat.le_of_ble_eq_true rfl, ⟨List.mem_of_getElem? (i := 126) rfl, rfl⟩⟩) (fn))))))))) (fc (fc trivial (fc (⟨mthX2_at, rfl, ⟨_, rfl, ariX2_at⟩, ⟨_, rfl, rfl⟩, ⟨List.mem_of_getElem? (i := 832) rfl, rfl⟩, insX2_at, selX2_at⟩) (fc trivial (fc trivial (fc trivial (fc trivial (fc trivial (fn)))))))) (fc (fc (⟨_, _, _, rfl, Nat.le_of_ble_eq_true rfl, ⟨List.mem_of_getElem? (i := 127) rfl, rfl⟩⟩) (fc trivial (fc (⟨mthX2_at, rfl, ⟨_, rfl, ariX2_at⟩, ⟨_, rfl, rfl⟩, ⟨List.mem_of_getElem? (i := 832) rfl, rfl⟩, insX2_at, selX2_at⟩) (fc trivial (fc trivial (fc trivial (fc trivial (fn)))))))) (fc (fc trivial (fc trivial (fc trivial (fn)))) (fn)))))))))
set_option maxRecDepth 100000 in
theorem mokX4_areOpposed : eMok MT MX4_areOpposed := ⟨cksX4_areOpposed, lksX4_areOpposed, fn⟩
set_option maxRecDepth 100000 in
theorem cksX4_tellsExchange : ∀ e ∈ (mPr MX4_tellsExchange).flatten, eChk MX4_tellsExchange e = true := List.all_eq_true.mp (by decide +kernel)
set_option maxRecDepth 100000 in
theorem lksX4_tellsExchange : ∀ e ∈ (mPr MX4_tellsExchange).flatten, eLink MT MX4_tellsExchange e := eFl (fc (fc trivial (fc trivial (fc trivial (fc trivial (fc (⟨_, _, _, rfl, Nat.le_of_ble_eq_true rfl, ⟨List.mem_of_getElem? (i := 124) rfl, rfl⟩⟩) (fc (⟨mthX3_makeExchanged, ariX3_makeExchanged, staX3_makeExchanged, rfl, ⟨List.mem_of_getElem? (i := 856) rfl, rfl⟩⟩) (fc trivial (fc trivial (fc trivial (fc trivial (fn))))))))))) (fc (fc trivial (fc trivial (fc (⟨_, _, _, rfl, Nat.le_of_ble_eq_true rfl, ⟨List.mem_of_getElem? (i := 124) rfl, rfl⟩⟩) (fc trivial (fc (⟨mthX1_countAt, rfl, ⟨_, rfl, ariX1_countAt⟩, ⟨_, rfl, rfl⟩, ⟨List.mem_of_getElem? (i := 769) rfl, rfl⟩, insX1_countAt, selX1_countAt⟩) (fc trivial (fc trivial (fn)))))))) (fc (fc (⟨mthX1_countAt, rfl, ⟨_, rfl, ariX1_countAt⟩, ⟨_, rfl, rfl⟩, ⟨List.mem_of_getElem? (i := 769) rfl, rfl⟩, insX1_countAt, selX1_countAt⟩) (fc trivial (fc trivial (fc trivial (fc trivial (fc trivial (fc trivial (fc (⟨_, _, _, rfl, Nat.le_of_ble_eq_true rfl, ⟨List.mem_of_getElem? (i := 126) rfl, rfl⟩⟩) (fn))))))))) (fc (fc trivial (fc trivial (fc (⟨_, _, _, rfl, Nat.le_of_ble_eq_true rfl, ⟨List.mem_of_getElem? (i := 123) rfl, rfl⟩⟩) (fc (⟨mthX2_tell, rfl, ⟨_, rfl, ariX2_tell⟩, ⟨_, rfl, rfl⟩, ⟨List.mem_of_getElem? (i := 776) rfl, rfl⟩, insX2_tell, selX2_tell⟩) (fc trivial (fc (⟨_, _, _, rfl, Nat.le_of_ble_eq_true rfl, ⟨List.mem_of_getElem? (i := 127) rfl, rfl⟩⟩) (fc trivial (fc (⟨_, _, _, rfl, Nat.le_of_ble_eq_true rfl, ⟨List.mem_of_getElem? (i := 124) rfl, rfl⟩⟩) (fn))))))))) (fc (fc trivial (fc (⟨_, _, _, rfl, Nat.le_of_ble_eq_true rfl, ⟨List.mem_of_getElem? (i := 123) rfl, rfl⟩⟩) (fc (⟨mthX2_tell, rfl, ⟨_, rfl, ariX2_tell⟩, ⟨_, rfl, rfl⟩, ⟨List.mem_of_getElem? (i := 776) rfl, rfl⟩, insX2_tell, selX2_tell⟩) (fc trivial (fc (⟨_, _, _, rfl, Nat.le_of_ble_eq_true rfl, ⟨List.mem_of_getElem? (i := 127) rfl, rfl⟩⟩) (fc trivial (fc (⟨_, _, _, rfl, Nat.le_of_ble_eq_true rfl, ⟨List.mem_of_getElem? (i := 126) rfl, rfl⟩⟩) (fn)))))))) (fc (fc (⟨mthX2_areLike, rfl, ⟨_, rfl, ariX2_areLike⟩, ⟨_, rfl, rfl⟩, ⟨List.mem_of_getElem? (i := 857) rfl, rfl⟩, insX2_areLike, selX2_areLike⟩) (fc trivial (fc trivial (fc (⟨_, _, _, rfl, Nat.le_of_ble_eq_true rfl, ⟨List.mem_of_getElem? (i := 124) rfl, rfl⟩⟩) (fc (⟨mthX5_countPieces, ariX5_countPieces, staX5_countPieces, rfl, ⟨List.mem_of_getElem? (i := 768) rfl, rfl⟩⟩) (fc trivial (fc (⟨mthX5_countPieces, ariX5_countPieces, staX5_countPieces, rfl, ⟨List.mem_of_getElem? (i := 768) rfl, rfl⟩⟩) (fn)))))))) (fc (fc trivial (fc trivial (fc trivial (fc trivial (fc trivial (fn)))))) (fn))))))))
set_option maxRecDepth 100000 in
theorem mokX4_tellsExchange : eMok MT MX4_tellsExchange := ⟨cksX4_tellsExchange, lksX4_tellsExchange, fn⟩
set_option maxRecDepth 100000 in
theorem cksX5_countPieces : ∀ e ∈ (mPr MX5_countPieces).flatten, eChk MX5_countPieces e = true := List.all_eq_true.mp (by decide +kernel)
set_option maxRecDepth 100000 in
theorem lksX5_countPieces : ∀ e ∈ (mPr MX5_countPieces).flatten, eLink MT MX5_countPieces e := eFl (fc (fc trivial (fc (⟨mthX1_cornerSet, rfl, ⟨_, rfl, ariX1_cornerSet⟩, ⟨_, rfl, rfl⟩, ⟨List.mem_of_getElem? (i := 644) rfl, rfl⟩, insX1_cornerSet, selX1_cornerSet⟩) (fc trivial (fc trivial (fc trivial (fc trivial (fc trivial (fc trivial (fc trivial (fc trivial (fc trivial (fn)))))))))))) (fc (fc trivial (fc trivial (fc trivial (fc trivial (fc (⟨mthX6_leastCorner, ariX6_leastCorner, staX6_leastCorner, rfl, ⟨List.mem_of_getElem? (i := 645) rfl, rfl⟩⟩) (fc (⟨mthX5_pieceFrom, ariX5_pieceFrom, staX5_pieceFrom, rfl, ⟨List.mem_of_getElem? (i := 648) rfl, rfl⟩⟩) (fc trivial (fc trivial (fc trivial (fc trivial (fn))))))))))) (fc (fc trivial (fc trivial (fc trivial (fc trivial (fc trivial (fn)))))) (fn))))
set_option maxRecDepth 100000 in
theorem mokX5_countPieces : eMok MT MX5_countPieces := ⟨cksX5_countPieces, lksX5_countPieces, fn⟩
set_option maxRecDepth 100000 in
theorem cksX5_pieceFrom : ∀ e ∈ (mPr MX5_pieceFrom).flatten, eChk MX5_pieceFrom e = true := List.all_eq_true.mp (by decide +kernel)
set_option maxRecDepth 100000 in
theorem lksX5_pieceFrom : ∀ e ∈ (mPr MX5_pieceFrom).flatten, eLink MT MX5_pieceFrom e := eFl (fc (fc trivial (fc trivial (fc trivial (fc trivial (fc trivial (fc trivial (fc trivial (fc trivial (fc trivial (fc trivial (fc trivial (fn)))))))))))) (fc (fc trivial (fc trivial (fc trivial (fc trivial (fc trivial (fc trivial (fc (⟨mthX6_leastCorner, ariX6_leastCorner, staX6_leastCorner, rfl, ⟨List.mem_of_getElem? (i := 645) rfl, rfl⟩⟩) (fc trivial (fc trivial (fc trivial (fn))))))))))) (fc (fc trivial (fc trivial (fc trivial (fc trivial (fc trivial (fc (⟨mthX5_neighbours, ariX5_neighbours, staX5_neighbours, rfl, ⟨List.mem_of_getElem? (i := 651) rfl, rfl⟩⟩) (fc trivial (fc trivial (fc trivial (fc trivial (fn))))))))))) (fc (fc trivial (fc trivial (fn))) (fn)))))
set_option maxRecDepth 100000 in
theorem mokX5_pieceFrom : eMok MT MX5_pieceFrom := ⟨cksX5_pieceFrom, lksX5_pieceFrom, fn⟩
set_option maxRecDepth 100000 in
theorem cksX5_neighbours : ∀ e ∈ (mPr MX5_neighbours).flatten, eChk MX5_neighbours e = true := List.all_eq_true.mp (by decide +kernel)
set_option maxRecDepth 100000 in
theorem lksX5_neighbours : ∀ e ∈ (mPr MX5_neighbours).flatten, eLink MT MX5_neighbours e := eFl (fc (fc trivial (fc trivial (fc trivial (fc trivial (fc trivial (fc trivial (fc trivial (fc trivial (fc trivial (fc trivial (fc trivial (fc trivial (fn))))))))))))) (fc (fc trivial (fc trivial (fc trivial (fc (⟨mthX1_holds, rfl, ⟨_, rfl, ariX1_holds⟩, ⟨_, rfl, rfl⟩, ⟨List.mem_of_getElem? (i := 654) rfl, rfl⟩, insX1_holds, selX1_holds⟩) (fc trivial (fc trivial (fc trivial (fc trivial (fc trivial (fc trivial (fn))))))))))) (fc (fc trivial (fc trivial (fc trivial (fn)))) (fn))))
set_option maxRecDepth 100000 in
theorem mokX5_neighbours : eMok MT MX5_neighbours := ⟨cksX5_neighbours, lksX5_neighbours, fn⟩
set_option maxRecDepth 100000 in
theorem cksX5_areEven : ∀ e ∈ (mPr MX5_areEven).flatten, eChk MX5_areEven e = true := List.all_eq_true.mp (by decide +kernel)
set_option maxRecDepth 100000 in
theorem lksX5_areEven : ∀ e ∈ (mPr MX5_areEven).flatten, eLink MT MX5_areEven e := eFl (fc (fc trivial (fc (⟨mthX1_cornerSet, rfl, ⟨_, rfl, ariX1_cornerSet⟩, ⟨_, rfl, rfl⟩, ⟨List.mem_of_getElem? (i := 644) rfl, rfl⟩, insX1_cornerSet, selX1_cornerSet⟩) (fc trivial (fc trivial (fc (⟨mthX1_cornerSet, rfl, ⟨_, rfl, ariX1_cornerSet⟩, ⟨_, rfl, rfl⟩, ⟨List.mem_of_getElem? (i := 644) rfl, rfl⟩, insX1_cornerSet, selX1_cornerSet⟩) (fc trivial (fc trivial (fc trivial (fc trivial (fc trivial (fn))))))))))) (fc (fc trivial (fc trivial (fc trivial (fc trivial (fc trivial (fc (⟨mthX6_leastCorner, ariX6_leastCorner, staX6_leastCorner, rfl, ⟨List.mem_of_getElem? (i := 645) rfl, rfl⟩⟩) (fc (⟨mthX5_pieceFrom, ariX5_pieceFrom, staX5_pieceFrom, rfl, ⟨List.mem_of_getElem? (i := 648) rfl, rfl⟩⟩) (fn)))))))) (fc (fc trivial (fc trivial (fc trivial (fc trivial (fc (⟨mthJ6_bitCount_0f7a4, ariJ6_bitCount_0f7a4, staJ6_bitCount_0f7a4, rfl, ⟨List.mem_of_getElem? (i := 804) rfl, rfl⟩⟩) (fc trivial (fc trivial (fc trivial (fc trivial (fc trivial (fn))))))))))) (fc (fc trivial (fc trivial (fc trivial (fc trivial (fc trivial (fc trivial (fc trivial (fc trivial (fc trivial (fc trivial (fn))))))))))) (fn)))))
set_option maxRecDepth 100000 in
theorem mokX5_areEven : eMok MT MX5_areEven := ⟨cksX5_areEven, lksX5_areEven, fn⟩
set_option maxRecDepth 100000 in
theorem cksX6_init : ∀ e ∈ (mPr MX6_init).flatten, eChk MX6_init e = true := List.all_eq_true.mp (by decide +kernel)
set_option maxRecDepth 100000 in
theorem lksX6_init : ∀ e ∈ (mPr MX6_init).flatten, eLink MT MX6_init e := eFl (fc (fc trivial (fc (⟨⟨List.mem_of_getElem? (i := 53) rfl, rfl⟩, ⟨List.mem_of_getElem? (i := 54) rfl, rfl⟩, ⟨List.mem_of_getElem? (i := 55) rfl, rfl⟩⟩) (fc trivial (fc trivial (fc (⟨List.mem_of_getElem? (i := 56) rfl, rfl⟩) (fc (⟨_, _, _, rfl, Nat.le_of_ble_eq_true rfl, ⟨List.mem_of_getElem? (i := 146) rfl, rfl⟩, by decide +kernel⟩) (fc trivial (fc trivial (fc trivial (fn)))))))))) (fc (fc trivial (fc trivial (fc trivial (fc (⟨_, _, _, rfl, Nat.le_of_ble_eq_true rfl, ⟨List.mem_of_getElem? (i := 146) rfl, rfl⟩⟩) (fc trivial (fc (⟨_, _, _, rfl, ⟨List.mem_of_getElem? (i := 56) rfl, rfl⟩, ⟨List.mem_of_getElem? (i := 58) rfl, rfl⟩, ⟨List.mem_of_getElem? (i := 32) rfl, rfl⟩⟩) (fc trivial (fc (⟨mthX1_init, rfl, rfl, rfl, ⟨_, rfl, ariX1_init⟩, insX1_init, ⟨List.mem_of_getElem? (i := 59) rfl, rfl⟩⟩) (fn))))))))) (fc (fc trivial (fc trivial (fc trivial (fc trivial (fc (⟨_, _, _, rfl, ⟨List.mem_of_getElem? (i := 56) rfl, rfl⟩, ⟨List.mem_of_getElem? (i := 58) rfl, rfl⟩, ⟨List.mem_of_getElem? (i := 32) rfl, rfl⟩⟩) (fc trivial (fc (⟨mthX1_init, rfl, rfl, rfl, ⟨_, rfl, ariX1_init⟩, insX1_init, ⟨List.mem_of_getElem? (i := 59) rfl, rfl⟩⟩) (fn)))))))) (fc (fc (⟨_, _, _, rfl, Nat.le_of_ble_eq_true rfl, ⟨List.mem_of_getElem? (i := 147) rfl, rfl⟩, by decide +kernel⟩) (fc trivial (fc (⟨_, _, _, rfl, ⟨List.mem_of_getElem? (i := 56) rfl, rfl⟩, ⟨List.mem_of_getElem? (i := 58) rfl, rfl⟩, ⟨List.mem_of_getElem? (i := 32) rfl, rfl⟩⟩) (fc trivial (fc (⟨mthX1_init, rfl, rfl, rfl, ⟨_, rfl, ariX1_init⟩, insX1_init, ⟨List.mem_of_getElem? (i := 59) rfl, rfl⟩⟩) (fc (⟨_, _, _, rfl, Nat.le_of_ble_eq_true rfl, ⟨List.mem_of_getElem? (i := 148) rfl, rfl⟩, by decide +kernel⟩) (fc trivial (fc (⟨_, _, _, rfl, ⟨List.mem_of_getElem? (i := 70) rfl, rfl⟩, ⟨List.mem_of_getElem? (i := 71) rfl, rfl⟩, ⟨List.mem_of_getElem? (i := 33) rfl, rfl⟩⟩) (fn))))))))) (fc (fc trivial (fc (⟨mthX4_init, rfl, rfl, rfl, ⟨_, rfl, ariX4_init⟩, insX4_init, ⟨List.mem_of_getElem? (i := 72) rfl, rfl⟩⟩) (fc (⟨_, _, _, rfl, Nat.le_of_ble_eq_true rfl, ⟨List.mem_of_getElem? (i := 150) rfl, rfl⟩, by decide +kernel⟩) (fc trivial (fc trivial (fc (⟨_, _, _, rfl, Nat.le_of_ble_eq_true rfl, ⟨List.mem_of_getElem? (i := 150) rfl, rfl⟩⟩) (fc (⟨mthX4_borders, rfl, ⟨_, rfl, ariX4_borders⟩, ⟨_, rfl, rfl⟩, ⟨List.mem_of_getElem? (i := 142) rfl, rfl⟩, insX4_borders, selX4_borders⟩) (fn)))))))) (fc (fc (⟨_, _, _, rfl, Nat.le_of_ble_eq_true rfl, ⟨List.mem_of_getElem? (i := 149) rfl, rfl⟩, by decide +kernel⟩) (fc trivial (fn))) (fn)))))))
set_option maxRecDepth 100000 in
theorem mokX6_init : eMok MT MX6_init := ⟨cksX6_init, lksX6_init, fn⟩
set_option maxRecDepth 100000 in
theorem cksX6_put : ∀ e ∈ (mPr MX6_put).flatten, eChk MX6_put e = true := List.all_eq_true.mp (by decide +kernel)
set_option maxRecDepth 100000 in
theorem lksX6_put : ∀ e ∈ (mPr MX6_put).flatten, eLink MT MX6_put e := eFl (fc (fc trivial (fc trivial (fc (⟨mthX6_shapeAt, rfl, ⟨_, rfl, ariX6_shapeAt⟩, ⟨_, rfl, rfl⟩, ⟨List.mem_of_getElem? (i := 247) rfl, rfl⟩, insX6_shapeAt, selX6_shapeAt⟩) (fc trivial (fc trivial (fc (⟨mthX6_checkFace, ariX6_checkFace, staX6_checkFace, rfl, ⟨List.mem_of_getElem? (i := 320) rfl, rfl⟩⟩) (fc trivial (fc (⟨mthX1_count, rfl, ⟨_, rfl, ariX1_count⟩, ⟨_, rfl, rfl⟩, ⟨List.mem_of_getElem? (i := 202) rfl, rfl⟩, insX1_count, selX1_count⟩) (fc trivial (fn)))))))))) (fc (fc trivial (fc trivial (fc (⟨mthX1_addParts, rfl, ⟨_, rfl, ariX1_addParts⟩, ⟨_, rfl, rfl⟩, ⟨List.mem_of_getElem? (i := 339) rfl, rfl⟩, insX1_addParts, selX1_addParts⟩) (fc trivial (fc (⟨mthX1_count, rfl, ⟨_, rfl, ariX1_count⟩, ⟨_, rfl, rfl⟩, ⟨List.mem_of_getElem? (i := 202) rfl, rfl⟩, insX1_count, selX1_count⟩) (fc trivial (fc trivial (fc trivial (fn))))))))) (fn)))
set_option maxRecDepth 100000 in
theorem mokX6_put : eMok MT MX6_put := ⟨cksX6_put, lksX6_put, fn⟩
set_option maxRecDepth 100000 in
theorem cksX6_take : ∀ e ∈ (mPr MX6_take).flatten, eChk MX6_take e = true := List.all_eq_true.mp (by decide +kernel)
set_option maxRecDepth 100000 in
theorem lksX6_take : ∀ e ∈ (mPr MX6_take).flatten, eLink MT MX6_take e := eFl (fc (fc trivial (fc trivial (fc (⟨mthX6_shapeAt, rfl, ⟨_, rfl, ariX6_shapeAt⟩, ⟨_, rfl, rfl⟩, ⟨List.mem_of_getElem? (i := 247) rfl, rfl⟩, insX6_shapeAt, selX6_shapeAt⟩) (fc trivial (fc trivial (fc (⟨mthX6_checkFace, ariX6_checkFace, staX6_checkFace, rfl, ⟨List.mem_of_getElem? (i := 320) rfl, rfl⟩⟩) (fc trivial (fc trivial (fc (⟨mthX6_checkHeld, ariX6_checkHeld, staX6_checkHeld, rfl, ⟨List.mem_of_getElem? (i := 351) rfl, rfl⟩⟩) (fc trivial (fn))))))))))) (fc (fc (⟨mthX1_count, rfl, ⟨_, rfl, ariX1_count⟩, ⟨_, rfl, rfl⟩, ⟨List.mem_of_getElem? (i := 202) rfl, rfl⟩, insX1_count, selX1_count⟩) (fc trivial (fc trivial (fc trivial (fc (⟨mthX1_removeWithAllOver, rfl, ⟨_, rfl, ariX1_removeWithAllOver⟩, ⟨_, rfl, rfl⟩, ⟨List.mem_of_getElem? (i := 370) rfl, rfl⟩, insX1_removeWithAllOver, selX1_removeWithAllOver⟩) (fc trivial (fc trivial (fc (⟨mthX1_count, rfl, ⟨_, rfl, ariX1_count⟩, ⟨_, rfl, rfl⟩, ⟨List.mem_of_getElem? (i := 202) rfl, rfl⟩, insX1_count, selX1_count⟩) (fn))))))))) (fc (fc trivial (fc trivial (fn))) (fn))))
set_option maxRecDepth 100000 in
theorem mokX6_take : eMok MT MX6_take := ⟨cksX6_take, lksX6_take, fn⟩
set_option maxRecDepth 100000 in
theorem cksX6_clear : ∀ e ∈ (mPr MX6_clear).flatten, eChk MX6_clear e = true := List.all_eq_true.mp (by decide +kernel)
set_option maxRecDepth 100000 in
theorem lksX6_clear : ∀ e ∈ (mPr MX6_clear).flatten, eLink MT MX6_clear e := eFl (fc (fc trivial (fc trivial (fc (⟨mthX6_shapeAt, rfl, ⟨_, rfl, ariX6_shapeAt⟩, ⟨_, rfl, rfl⟩, ⟨List.mem_of_getElem? (i := 247) rfl, rfl⟩, insX6_shapeAt, selX6_shapeAt⟩) (fc (⟨mthX6_emptied, ariX6_emptied, staX6_emptied, rfl, ⟨List.mem_of_getElem? (i := 216) rfl, rfl⟩⟩) (fc trivial (fn)))))) (fn))
set_option maxRecDepth 100000 in
theorem mokX6_clear : eMok MT MX6_clear := ⟨cksX6_clear, lksX6_clear, fn⟩
set_option maxRecDepth 100000 in
theorem cksX6_copy : ∀ e ∈ (mPr MX6_copy).flatten, eChk MX6_copy e = true := List.all_eq_true.mp (by decide +kernel)
set_option maxRecDepth 100000 in
theorem lksX6_copy : ∀ e ∈ (mPr MX6_copy).flatten, eLink MT MX6_copy e := eFl (fc (fc trivial (fc trivial (fc (⟨mthX6_shapeAt, rfl, ⟨_, rfl, ariX6_shapeAt⟩, ⟨_, rfl, rfl⟩, ⟨List.mem_of_getElem? (i := 247) rfl, rfl⟩, insX6_shapeAt, selX6_shapeAt⟩) (fc trivial (fc trivial (fc trivial (fc (⟨mthX6_shapeAt, rfl, ⟨_, rfl, ariX6_shapeAt⟩, ⟨_, rfl, rfl⟩, ⟨List.mem_of_getElem? (i := 247) rfl, rfl⟩, insX6_shapeAt, selX6_shapeAt⟩) (fc trivial (fc trivial (fc trivial (fn))))))))))) (fc (fc (⟨mthX1_become, rfl, ⟨_, rfl, ariX1_become⟩, ⟨_, rfl, rfl⟩, ⟨List.mem_of_getElem? (i := 198) rfl, rfl⟩, insX1_become, selX1_become⟩) (fc trivial (fc (⟨mthX1_count, rfl, ⟨_, rfl, ariX1_count⟩, ⟨_, rfl, rfl⟩, ⟨List.mem_of_getElem? (i := 202) rfl, rfl⟩, insX1_count, selX1_count⟩) (fc trivial (fn))))) (fn)))
set_option maxRecDepth 100000 in
theorem mokX6_copy : eMok MT MX6_copy := ⟨cksX6_copy, lksX6_copy, fn⟩
set_option maxRecDepth 100000 in
theorem cksX6_unite : ∀ e ∈ (mPr MX6_unite).flatten, eChk MX6_unite e = true := List.all_eq_true.mp (by decide +kernel)
set_option maxRecDepth 100000 in
theorem lksX6_unite : ∀ e ∈ (mPr MX6_unite).flatten, eLink MT MX6_unite e := eFl (fc (fc trivial (fc trivial (fc (⟨mthX6_shapeAt, rfl, ⟨_, rfl, ariX6_shapeAt⟩, ⟨_, rfl, rfl⟩, ⟨List.mem_of_getElem? (i := 247) rfl, rfl⟩, insX6_shapeAt, selX6_shapeAt⟩) (fc trivial (fc trivial (fc trivial (fc (⟨mthX6_shapeAt, rfl, ⟨_, rfl, ariX6_shapeAt⟩, ⟨_, rfl, rfl⟩, ⟨List.mem_of_getElem? (i := 247) rfl, rfl⟩, insX6_shapeAt, selX6_shapeAt⟩) (fc trivial (fc trivial (fc trivial (fn))))))))))) (fc (fc (⟨mthX6_shapeAt, rfl, ⟨_, rfl, ariX6_shapeAt⟩, ⟨_, rfl, rfl⟩, ⟨List.mem_of_getElem? (i := 247) rfl, rfl⟩, insX6_shapeAt, selX6_shapeAt⟩) (fc trivial (fc trivial (fc (⟨_, _, _, rfl, Nat.le_of_ble_eq_true rfl, ⟨List.mem_of_getElem? (i := 148) rfl, rfl⟩⟩) (fc trivial (fc trivial (fc (⟨mthX1_becomeUnion, rfl, ⟨_, rfl, ariX1_becomeUnion⟩, ⟨_, rfl, rfl⟩, ⟨List.mem_of_getElem? (i := 395) rfl, rfl⟩, insX1_becomeUnion, selX1_becomeUnion⟩) (fn)))))))) (fc (fc trivial (fc trivial (fc (⟨mthX6_giveMade, rfl, ⟨_, rfl, ariX6_giveMade⟩, ⟨_, rfl, rfl⟩, ⟨List.mem_of_getElem? (i := 194) rfl, rfl⟩, insX6_giveMade, selX6_giveMade⟩) (fc trivial (fn))))) (fn))))
set_option maxRecDepth 100000 in
theorem mokX6_unite : eMok MT MX6_unite := ⟨cksX6_unite, lksX6_unite, fn⟩
set_option maxRecDepth 100000 in
theorem cksX6_meet : ∀ e ∈ (mPr MX6_meet).flatten, eChk MX6_meet e = true := List.all_eq_true.mp (by decide +kernel)
set_option maxRecDepth 100000 in
theorem lksX6_meet : ∀ e ∈ (mPr MX6_meet).flatten, eLink MT MX6_meet e := eFl (fc (fc trivial (fc trivial (fc (⟨mthX6_shapeAt, rfl, ⟨_, rfl, ariX6_shapeAt⟩, ⟨_, rfl, rfl⟩, ⟨List.mem_of_getElem? (i := 247) rfl, rfl⟩, insX6_shapeAt, selX6_shapeAt⟩) (fc trivial (fc trivial (fc trivial (fc (⟨mthX6_shapeAt, rfl, ⟨_, rfl, ariX6_shapeAt⟩, ⟨_, rfl, rfl⟩, ⟨List.mem_of_getElem? (i := 247) rfl, rfl⟩, insX6_shapeAt, selX6_shapeAt⟩) (fc trivial (fc trivial (fc trivial (fn))))))))))) (fc (fc (⟨mthX6_shapeAt, rfl, ⟨_, rfl, ariX6_shapeAt⟩, ⟨_, rfl, rfl⟩, ⟨List.mem_of_getElem? (i := 247) rfl, rfl⟩, insX6_shapeAt, selX6_shapeAt⟩) (fc trivial (fc trivial (fc (⟨_, _, _, rfl, Nat.le_of_ble_eq_true rfl, ⟨List.mem_of_getElem? (i := 148) rfl, rfl⟩⟩) (fc trivial (fc trivial (fc (⟨mthX1_becomeMeeting, rfl, ⟨_, rfl, ariX1_becomeMeeting⟩, ⟨_, rfl, rfl⟩, ⟨List.mem_of_getElem? (i := 406) rfl, rfl⟩, insX1_becomeMeeting, selX1_becomeMeeting⟩) (fn)))))))) (fc (fc trivial (fc trivial (fc (⟨mthX6_giveMade, rfl, ⟨_, rfl, ariX6_giveMade⟩, ⟨_, rfl, rfl⟩, ⟨List.mem_of_getElem? (i := 194) rfl, rfl⟩, insX6_giveMade, selX6_giveMade⟩) (fc trivial (fn))))) (fn))))
set_option maxRecDepth 100000 in
theorem mokX6_meet : eMok MT MX6_meet := ⟨cksX6_meet, lksX6_meet, fn⟩
set_option maxRecDepth 100000 in
theorem cksX6_full : ∀ e ∈ (mPr MX6_full).flatten, eChk MX6_full e = true := List.all_eq_true.mp (by decide +kernel)
set_option maxRecDepth 100000 in
theorem lksX6_full : ∀ e ∈ (mPr MX6_full).flatten, eLink MT MX6_full e := eFl (fc (fc trivial (fc trivial (fc (⟨mthX6_shapeAt, rfl, ⟨_, rfl, ariX6_shapeAt⟩, ⟨_, rfl, rfl⟩, ⟨List.mem_of_getElem? (i := 247) rfl, rfl⟩, insX6_shapeAt, selX6_shapeAt⟩) (fc trivial (fc trivial (fc (⟨mthX6_checkFace, ariX6_checkFace, staX6_checkFace, rfl, ⟨List.mem_of_getElem? (i := 320) rfl, rfl⟩⟩) (fc trivial (fc (⟨mthX1_empty, rfl, ⟨_, rfl, ariX1_empty⟩, ⟨_, rfl, rfl⟩, ⟨List.mem_of_getElem? (i := 219) rfl, rfl⟩, insX1_empty, selX1_empty⟩) (fn))))))))) (fc (fc trivial (fc trivial (fc (⟨mthX1_addParts, rfl, ⟨_, rfl, ariX1_addParts⟩, ⟨_, rfl, rfl⟩, ⟨List.mem_of_getElem? (i := 339) rfl, rfl⟩, insX1_addParts, selX1_addParts⟩) (fc trivial (fc trivial (fc trivial (fc trivial (fc (⟨mthX1_remove, rfl, ⟨_, rfl, ariX1_remove⟩, ⟨_, rfl, rfl⟩, ⟨List.mem_of_getElem? (i := 417) rfl, rfl⟩, insX1_remove, selX1_remove⟩) (fn))))))))) (fc (fc trivial (fc (⟨mthX1_count, rfl, ⟨_, rfl, ariX1_count⟩, ⟨_, rfl, rfl⟩, ⟨List.mem_of_getElem? (i := 202) rfl, rfl⟩, insX1_count, selX1_count⟩) (fc trivial (fn)))) (fn))))
set_option maxRecDepth 100000 in
theorem mokX6_full : eMok MT MX6_full := ⟨cksX6_full, lksX6_full, fn⟩
set_option maxRecDepth 100000 in
theorem cksX6_low : ∀ e ∈ (mPr MX6_low).flatten, eChk MX6_low e = true := List.all_eq_true.mp (by decide +kernel)
set_option maxRecDepth 100000 in
theorem lksX6_low : ∀ e ∈ (mPr MX6_low).flatten, eLink MT MX6_low e := eFl (fc (fc trivial (fc trivial (fc (⟨mthX6_shapeAt, rfl, ⟨_, rfl, ariX6_shapeAt⟩, ⟨_, rfl, rfl⟩, ⟨List.mem_of_getElem? (i := 247) rfl, rfl⟩, insX6_shapeAt, selX6_shapeAt⟩) (fc trivial (fc trivial (fc trivial (fc (⟨mthX6_shapeAt, rfl, ⟨_, rfl, ariX6_shapeAt⟩, ⟨_, rfl, rfl⟩, ⟨List.mem_of_getElem? (i := 247) rfl, rfl⟩, insX6_shapeAt, selX6_shapeAt⟩) (fc trivial (fc trivial (fc trivial (fn))))))))))) (fc (fc (⟨mthX6_checkHeight, ariX6_checkHeight, staX6_checkHeight, rfl, ⟨List.mem_of_getElem? (i := 425) rfl, rfl⟩⟩) (fc trivial (fc trivial (fc trivial (fc (⟨_, _, _, rfl, Nat.le_of_ble_eq_true rfl, ⟨List.mem_of_getElem? (i := 148) rfl, rfl⟩⟩) (fc (⟨mthX3_makeLow, ariX3_makeLow, staX3_makeLow, rfl, ⟨List.mem_of_getElem? (i := 429) rfl, rfl⟩⟩) (fc trivial (fc trivial (fn))))))))) (fc (fc (⟨mthX6_giveMade, rfl, ⟨_, rfl, ariX6_giveMade⟩, ⟨_, rfl, rfl⟩, ⟨List.mem_of_getElem? (i := 194) rfl, rfl⟩, insX6_giveMade, selX6_giveMade⟩) (fc trivial (fn))) (fn))))
set_option maxRecDepth 100000 in
theorem mokX6_low : eMok MT MX6_low := ⟨cksX6_low, lksX6_low, fn⟩
set_option maxRecDepth 100000 in
theorem cksX6_about : ∀ e ∈ (mPr MX6_about).flatten, eChk MX6_about e = true := List.all_eq_true.mp (by decide +kernel)
set_option maxRecDepth 100000 in
theorem lksX6_about : ∀ e ∈ (mPr MX6_about).flatten, eLink MT MX6_about e := eFl (fc (fc trivial (fc trivial (fc (⟨mthX6_shapeAt, rfl, ⟨_, rfl, ariX6_shapeAt⟩, ⟨_, rfl, rfl⟩, ⟨List.mem_of_getElem? (i := 247) rfl, rfl⟩, insX6_shapeAt, selX6_shapeAt⟩) (fc trivial (fc trivial (fc trivial (fc (⟨mthX6_shapeAt, rfl, ⟨_, rfl, ariX6_shapeAt⟩, ⟨_, rfl, rfl⟩, ⟨List.mem_of_getElem? (i := 247) rfl, rfl⟩, insX6_shapeAt, selX6_shapeAt⟩) (fc trivial (fc trivial (fn)))))))))) (fc (fc (⟨mthX6_checkFace, ariX6_checkFace, staX6_checkFace, rfl, ⟨List.mem_of_getElem? (i := 320) rfl, rfl⟩⟩) (fc trivial (fc trivial (fc (⟨mthX6_checkHeld, ariX6_checkHeld, staX6_checkHeld, rfl, ⟨List.mem_of_getElem? (i := 351) rfl, rfl⟩⟩) (fc trivial (fc trivial (fc trivial (fc trivial (fc (⟨_, _, _, rfl, Nat.le_of_ble_eq_true rfl, ⟨List.mem_of_getElem? (i := 148) rfl, rfl⟩⟩) (fn)))))))))) (fc (fc (⟨mthX3_makeAbout, ariX3_makeAbout, staX3_makeAbout, rfl, ⟨List.mem_of_getElem? (i := 443) rfl, rfl⟩⟩) (fc trivial (fc trivial (fc (⟨mthX6_giveMade, rfl, ⟨_, rfl, ariX6_giveMade⟩, ⟨_, rfl, rfl⟩, ⟨List.mem_of_getElem? (i := 194) rfl, rfl⟩, insX6_giveMade, selX6_giveMade⟩) (fc trivial (fn)))))) (fn))))
set_option maxRecDepth 100000 in
theorem mokX6_about : eMok MT MX6_about := ⟨cksX6_about, lksX6_about, fn⟩
set_option maxRecDepth 100000 in
theorem cksX6_cone : ∀ e ∈ (mPr MX6_cone).flatten, eChk MX6_cone e = true := List.all_eq_true.mp (by decide +kernel)
set_option maxRecDepth 100000 in
theorem lksX6_cone : ∀ e ∈ (mPr MX6_cone).flatten, eLink MT MX6_cone e := eFl (fc (fc trivial (fc trivial (fc (⟨mthX6_shapeAt, rfl, ⟨_, rfl, ariX6_shapeAt⟩, ⟨_, rfl, rfl⟩, ⟨List.mem_of_getElem? (i := 247) rfl, rfl⟩, insX6_shapeAt, selX6_shapeAt⟩) (fc trivial (fc trivial (fc trivial (fc (⟨mthX6_shapeAt, rfl, ⟨_, rfl, ariX6_shapeAt⟩, ⟨_, rfl, rfl⟩, ⟨List.mem_of_getElem? (i := 247) rfl, rfl⟩, insX6_shapeAt, selX6_shapeAt⟩) (fc trivial (fc trivial (fc (⟨mthX6_checkCorner, ariX6_checkCorner, staX6_checkCorner, rfl, ⟨List.mem_of_getElem? (i := 454) rfl, rfl⟩⟩) (fn))))))))))) (fc (fc trivial (fc trivial (fc (⟨mthX6_checkNew, ariX6_checkNew, staX6_checkNew, rfl, ⟨List.mem_of_getElem? (i := 458) rfl, rfl⟩⟩) (fc trivial (fc trivial (fc trivial (fc trivial (fc trivial (fc (⟨_, _, _, rfl, Nat.le_of_ble_eq_true rfl, ⟨List.mem_of_getElem? (i := 148) rfl, rfl⟩⟩) (fn)))))))))) (fc (fc (⟨mthX3_makeCone, ariX3_makeCone, staX3_makeCone, rfl, ⟨List.mem_of_getElem? (i := 477) rfl, rfl⟩⟩) (fc trivial (fc trivial (fc (⟨mthX6_giveMade, rfl, ⟨_, rfl, ariX6_giveMade⟩, ⟨_, rfl, rfl⟩, ⟨List.mem_of_getElem? (i := 194) rfl, rfl⟩, insX6_giveMade, selX6_giveMade⟩) (fc trivial (fn)))))) (fn))))
set_option maxRecDepth 100000 in
theorem mokX6_cone : eMok MT MX6_cone := ⟨cksX6_cone, lksX6_cone, fn⟩
set_option maxRecDepth 100000 in
theorem cksX6_lift : ∀ e ∈ (mPr MX6_lift).flatten, eChk MX6_lift e = true := List.all_eq_true.mp (by decide +kernel)
set_option maxRecDepth 100000 in
theorem lksX6_lift : ∀ e ∈ (mPr MX6_lift).flatten, eLink MT MX6_lift e := eFl (fc (fc trivial (fc trivial (fc (⟨mthX6_shapeAt, rfl, ⟨_, rfl, ariX6_shapeAt⟩, ⟨_, rfl, rfl⟩, ⟨List.mem_of_getElem? (i := 247) rfl, rfl⟩, insX6_shapeAt, selX6_shapeAt⟩) (fc trivial (fc trivial (fc trivial (fc (⟨mthX6_shapeAt, rfl, ⟨_, rfl, ariX6_shapeAt⟩, ⟨_, rfl, rfl⟩, ⟨List.mem_of_getElem? (i := 247) rfl, rfl⟩, insX6_shapeAt, selX6_shapeAt⟩) (fc trivial (fc trivial (fn)))))))))) (fc (fc (⟨mthX6_checkCorner, ariX6_checkCorner, staX6_checkCorner, rfl, ⟨List.mem_of_getElem? (i := 454) rfl, rfl⟩⟩) (fc trivial (fc (⟨mthX6_checkCorner, ariX6_checkCorner, staX6_checkCorner, rfl, ⟨List.mem_of_getElem? (i := 454) rfl, rfl⟩⟩) (fc trivial (fc trivial (fc trivial (fc (⟨⟨List.mem_of_getElem? (i := 323) rfl, rfl⟩, ⟨List.mem_of_getElem? (i := 42) rfl, rfl⟩, 108, 110, _, List.mem_of_getElem? (i := 461) rfl, at_RX6_110, by decide +kernel, Or.inl ⟨by decide +kernel, by decide +kernel, by decide +kernel⟩⟩) (fn)))))))) (fc (fc trivial (fc trivial (fc (⟨mthX6_checkNew, ariX6_checkNew, staX6_checkNew, rfl, ⟨List.mem_of_getElem? (i := 458) rfl, rfl⟩⟩) (fc trivial (fc trivial (fc (⟨mthX6_checkNew, ariX6_checkNew, staX6_checkNew, rfl, ⟨List.mem_of_getElem? (i := 458) rfl, rfl⟩⟩) (fn))))))) (fc (fc trivial (fc trivial (fc trivial (fc trivial (fc trivial (fc trivial (fc trivial (fc trivial (fc (⟨_, _, _, rfl, Nat.le_of_ble_eq_true rfl, ⟨List.mem_of_getElem? (i := 148) rfl, rfl⟩⟩) (fc (⟨mthX3_makeLift, ariX3_makeLift, staX3_makeLift, rfl, ⟨List.mem_of_getElem? (i := 492) rfl, rfl⟩⟩) (fn))))))))))) (fc (fc trivial (fc trivial (fc (⟨mthX6_giveMade, rfl, ⟨_, rfl, ariX6_giveMade⟩, ⟨_, rfl, rfl⟩, ⟨List.mem_of_getElem? (i := 194) rfl, rfl⟩, insX6_giveMade, selX6_giveMade⟩) (fc trivial (fn))))) (fn))))))
set_option maxRecDepth 100000 in
theorem mokX6_lift : eMok MT MX6_lift := ⟨cksX6_lift, lksX6_lift, fn⟩
set_option maxRecDepth 100000 in
theorem cksX6_other : ∀ e ∈ (mPr MX6_other).flatten, eChk MX6_other e = true := List.all_eq_true.mp (by decide +kernel)
set_option maxRecDepth 100000 in
theorem lksX6_other : ∀ e ∈ (mPr MX6_other).flatten, eLink MT MX6_other e := eFl (fc (fc trivial (fc trivial (fc (⟨mthX6_shapeAt, rfl, ⟨_, rfl, ariX6_shapeAt⟩, ⟨_, rfl, rfl⟩, ⟨List.mem_of_getElem? (i := 247) rfl, rfl⟩, insX6_shapeAt, selX6_shapeAt⟩) (fc trivial (fc trivial (fc trivial (fc (⟨mthX6_shapeAt, rfl, ⟨_, rfl, ariX6_shapeAt⟩, ⟨_, rfl, rfl⟩, ⟨List.mem_of_getElem? (i := 247) rfl, rfl⟩, insX6_shapeAt, selX6_shapeAt⟩) (fc trivial (fc trivial (fc (⟨mthX6_checkFace, ariX6_checkFace, staX6_checkFace, rfl, ⟨List.mem_of_getElem? (i := 320) rfl, rfl⟩⟩) (fn))))))))))) (fc (fc trivial (fc (⟨mthX1_cornerSet, rfl, ⟨_, rfl, ariX1_cornerSet⟩, ⟨_, rfl, rfl⟩, ⟨List.mem_of_getElem? (i := 502) rfl, rfl⟩, insX1_cornerSet, selX1_cornerSet⟩) (fc trivial (fc trivial (fc trivial (fc trivial (fc trivial (fc (⟨⟨List.mem_of_getElem? (i := 461) rfl, rfl⟩, ⟨List.mem_of_getElem? (i := 46) rfl, rfl⟩, 122, 124, _, List.mem_of_getElem? (i := 476) rfl, at_RX6_124, by decide +kernel, Or.inl ⟨by decide +kernel, by decide +kernel, by decide +kernel⟩⟩) (fn))))))))) (fc (fc trivial (fc trivial (fc trivial (fc (⟨_, _, _, rfl, Nat.le_of_ble_eq_true rfl, ⟨List.mem_of_getElem? (i := 148) rfl, rfl⟩⟩) (fc (⟨mthX3_makeOther, ariX3_makeOther, staX3_makeOther, rfl, ⟨List.mem_of_getElem? (i := 507) rfl, rfl⟩⟩) (fn)))))) (fc (fc trivial (fc trivial (fc (⟨mthX6_giveMade, rfl, ⟨_, rfl, ariX6_giveMade⟩, ⟨_, rfl, rfl⟩, ⟨List.mem_of_getElem? (i := 194) rfl, rfl⟩, insX6_giveMade, selX6_giveMade⟩) (fc trivial (fn))))) (fn)))))
set_option maxRecDepth 100000 in
theorem mokX6_other : eMok MT MX6_other := ⟨cksX6_other, lksX6_other, fn⟩
set_option maxRecDepth 100000 in
theorem cksX6_exchange : ∀ e ∈ (mPr MX6_exchange).flatten, eChk MX6_exchange e = true := List.all_eq_true.mp (by decide +kernel)
set_option maxRecDepth 100000 in
theorem lksX6_exchange : ∀ e ∈ (mPr MX6_exchange).flatten, eLink MT MX6_exchange e := eFl (fc (fc trivial (fc trivial (fc (⟨mthX6_shapeAt, rfl, ⟨_, rfl, ariX6_shapeAt⟩, ⟨_, rfl, rfl⟩, ⟨List.mem_of_getElem? (i := 247) rfl, rfl⟩, insX6_shapeAt, selX6_shapeAt⟩) (fc trivial (fc trivial (fc trivial (fc (⟨mthX6_shapeAt, rfl, ⟨_, rfl, ariX6_shapeAt⟩, ⟨_, rfl, rfl⟩, ⟨List.mem_of_getElem? (i := 247) rfl, rfl⟩, insX6_shapeAt, selX6_shapeAt⟩) (fc trivial (fc trivial (fn)))))))))) (fc (fc (⟨mthX6_checkCorner, ariX6_checkCorner, staX6_checkCorner, rfl, ⟨List.mem_of_getElem? (i := 454) rfl, rfl⟩⟩) (fc trivial (fc (⟨mthX6_checkCorner, ariX6_checkCorner, staX6_checkCorner, rfl, ⟨List.mem_of_getElem? (i := 454) rfl, rfl⟩⟩) (fc trivial (fc trivial (fc trivial (fc trivial (fc (⟨_, _, _, rfl, Nat.le_of_ble_eq_true rfl, ⟨List.mem_of_getElem? (i := 148) rfl, rfl⟩⟩) (fc (⟨mthX3_makeExchanged, ariX3_makeExchanged, staX3_makeExchanged, rfl, ⟨List.mem_of_getElem? (i := 517) rfl, rfl⟩⟩) (fn)))))))))) (fc (fc trivial (fc (⟨_, _, _, rfl, Nat.le_of_ble_eq_true rfl, ⟨List.mem_of_getElem? (i := 148) rfl, rfl⟩⟩) (fc trivial (fc (⟨mthX1_countBeyond, rfl, ⟨_, rfl, ariX1_countBeyond⟩, ⟨_, rfl, rfl⟩, ⟨List.mem_of_getElem? (i := 523) rfl, rfl⟩, insX1_countBeyond, selX1_countBeyond⟩) (fc trivial (fc trivial (fc trivial (fn)))))))) (fc (fc (⟨_, _, _, rfl, Nat.le_of_ble_eq_true rfl, ⟨List.mem_of_getElem? (i := 148) rfl, rfl⟩⟩) (fc (⟨mthX1_become, rfl, ⟨_, rfl, ariX1_become⟩, ⟨_, rfl, rfl⟩, ⟨List.mem_of_getElem? (i := 198) rfl, rfl⟩, insX1_become, selX1_become⟩) (fc trivial (fc trivial (fn))))) (fn)))))
set_option maxRecDepth 100000 in
theorem mokX6_exchange : eMok MT MX6_exchange := ⟨cksX6_exchange, lksX6_exchange, fn⟩
set_option maxRecDepth 100000 in
theorem cksX6_fold : ∀ e ∈ (mPr MX6_fold).flatten, eChk MX6_fold e = true := List.all_eq_true.mp (by decide +kernel)
set_option maxRecDepth 100000 in
theorem lksX6_fold : ∀ e ∈ (mPr MX6_fold).flatten, eLink MT MX6_fold e := eFl (fc (fc trivial (fc trivial (fc (⟨mthX6_shapeAt, rfl, ⟨_, rfl, ariX6_shapeAt⟩, ⟨_, rfl, rfl⟩, ⟨List.mem_of_getElem? (i := 247) rfl, rfl⟩, insX6_shapeAt, selX6_shapeAt⟩) (fc trivial (fc trivial (fc (⟨mthX6_checkFace, ariX6_checkFace, staX6_checkFace, rfl, ⟨List.mem_of_getElem? (i := 320) rfl, rfl⟩⟩) (fc trivial (fc trivial (fc (⟨mthX6_checkHeld, ariX6_checkHeld, staX6_checkHeld, rfl, ⟨List.mem_of_getElem? (i := 351) rfl, rfl⟩⟩) (fc trivial (fn))))))))))) (fc (fc trivial (fc (⟨mthX1_countOver, rfl, ⟨_, rfl, ariX1_countOver⟩, ⟨_, rfl, rfl⟩, ⟨List.mem_of_getElem? (i := 534) rfl, rfl⟩, insX1_countOver, selX1_countOver⟩) (fc trivial (fc trivial (fc (⟨⟨List.mem_of_getElem? (i := 461) rfl, rfl⟩, ⟨List.mem_of_getElem? (i := 46) rfl, rfl⟩, 138, 124, _, List.mem_of_getElem? (i := 508) rfl, at_RX6_124, by decide +kernel, Or.inl ⟨by decide +kernel, by decide +kernel, by decide +kernel⟩⟩) (fn)))))) (fc (fc trivial (fc trivial (fc (⟨mthX1_firstOver, rfl, ⟨_, rfl, ariX1_firstOver⟩, ⟨_, rfl, rfl⟩, ⟨List.mem_of_getElem? (i := 539) rfl, rfl⟩, insX1_firstOver, selX1_firstOver⟩) (fc trivial (fc trivial (fc trivial (fc (⟨mthX1_remove, rfl, ⟨_, rfl, ariX1_remove⟩, ⟨_, rfl, rfl⟩, ⟨List.mem_of_getElem? (i := 417) rfl, rfl⟩, insX1_remove, selX1_remove⟩) (fc trivial (fc trivial (fn)))))))))) (fc (fc (⟨mthX1_remove, rfl, ⟨_, rfl, ariX1_remove⟩, ⟨_, rfl, rfl⟩, ⟨List.mem_of_getElem? (i := 417) rfl, rfl⟩, insX1_remove, selX1_remove⟩) (fc trivial (fc trivial (fn)))) (fn)))))
set_option maxRecDepth 100000 in
theorem mokX6_fold : eMok MT MX6_fold := ⟨cksX6_fold, lksX6_fold, fn⟩
set_option maxRecDepth 100000 in
theorem cksX6_has : ∀ e ∈ (mPr MX6_has).flatten, eChk MX6_has e = true := List.all_eq_true.mp (by decide +kernel)
set_option maxRecDepth 100000 in
theorem lksX6_has : ∀ e ∈ (mPr MX6_has).flatten, eLink MT MX6_has e := eFl (fc (fc trivial (fc trivial (fc (⟨mthX6_shapeAt, rfl, ⟨_, rfl, ariX6_shapeAt⟩, ⟨_, rfl, rfl⟩, ⟨List.mem_of_getElem? (i := 247) rfl, rfl⟩, insX6_shapeAt, selX6_shapeAt⟩) (fc trivial (fc trivial (fc (⟨mthX6_checkFace, ariX6_checkFace, staX6_checkFace, rfl, ⟨List.mem_of_getElem? (i := 320) rfl, rfl⟩⟩) (fc trivial (fc trivial (fc (⟨mthX1_holds, rfl, ⟨_, rfl, ariX1_holds⟩, ⟨_, rfl, rfl⟩, ⟨List.mem_of_getElem? (i := 237) rfl, rfl⟩, insX1_holds, selX1_holds⟩) (fc trivial (fn))))))))))) (fn))
set_option maxRecDepth 100000 in
theorem mokX6_has : eMok MT MX6_has := ⟨cksX6_has, lksX6_has, fn⟩
set_option maxRecDepth 100000 in
theorem cksX6_size : ∀ e ∈ (mPr MX6_size).flatten, eChk MX6_size e = true := List.all_eq_true.mp (by decide +kernel)
set_option maxRecDepth 100000 in
theorem lksX6_size : ∀ e ∈ (mPr MX6_size).flatten, eLink MT MX6_size e := eFl (fc (fc trivial (fc trivial (fc (⟨mthX6_shapeAt, rfl, ⟨_, rfl, ariX6_shapeAt⟩, ⟨_, rfl, rfl⟩, ⟨List.mem_of_getElem? (i := 247) rfl, rfl⟩, insX6_shapeAt, selX6_shapeAt⟩) (fc (⟨mthX1_count, rfl, ⟨_, rfl, ariX1_count⟩, ⟨_, rfl, rfl⟩, ⟨List.mem_of_getElem? (i := 202) rfl, rfl⟩, insX1_count, selX1_count⟩) (fc trivial (fn)))))) (fn))
set_option maxRecDepth 100000 in
theorem mokX6_size : eMok MT MX6_size := ⟨cksX6_size, lksX6_size, fn⟩
set_option maxRecDepth 100000 in
theorem cksX6_faces : ∀ e ∈ (mPr MX6_faces).flatten, eChk MX6_faces e = true := List.all_eq_true.mp (by decide +kernel)
set_option maxRecDepth 100000 in
theorem lksX6_faces : ∀ e ∈ (mPr MX6_faces).flatten, eLink MT MX6_faces e := eFl (fc (fc trivial (fc trivial (fc (⟨mthX6_shapeAt, rfl, ⟨_, rfl, ariX6_shapeAt⟩, ⟨_, rfl, rfl⟩, ⟨List.mem_of_getElem? (i := 247) rfl, rfl⟩, insX6_shapeAt, selX6_shapeAt⟩) (fc trivial (fc trivial (fc trivial (fc (⟨mthX6_checkHeight, ariX6_checkHeight, staX6_checkHeight, rfl, ⟨List.mem_of_getElem? (i := 425) rfl, rfl⟩⟩) (fc trivial (fc trivial (fc (⟨mthX1_countAt, rfl, ⟨_, rfl, ariX1_countAt⟩, ⟨_, rfl, rfl⟩, ⟨List.mem_of_getElem? (i := 564) rfl, rfl⟩, insX1_countAt, selX1_countAt⟩) (fn))))))))))) (fc (fc trivial (fn)) (fn)))
set_option maxRecDepth 100000 in
theorem mokX6_faces : eMok MT MX6_faces := ⟨cksX6_faces, lksX6_faces, fn⟩
set_option maxRecDepth 100000 in
theorem cksX6_corners : ∀ e ∈ (mPr MX6_corners).flatten, eChk MX6_corners e = true := List.all_eq_true.mp (by decide +kernel)
set_option maxRecDepth 100000 in
theorem lksX6_corners : ∀ e ∈ (mPr MX6_corners).flatten, eLink MT MX6_corners e := eFl (fc (fc trivial (fc trivial (fc (⟨mthX6_shapeAt, rfl, ⟨_, rfl, ariX6_shapeAt⟩, ⟨_, rfl, rfl⟩, ⟨List.mem_of_getElem? (i := 247) rfl, rfl⟩, insX6_shapeAt, selX6_shapeAt⟩) (fc (⟨mthX1_cornerSet, rfl, ⟨_, rfl, ariX1_cornerSet⟩, ⟨_, rfl, rfl⟩, ⟨List.mem_of_getElem? (i := 502) rfl, rfl⟩, insX1_cornerSet, selX1_cornerSet⟩) (fc trivial (fn)))))) (fn))
set_option maxRecDepth 100000 in
theorem mokX6_corners : eMok MT MX6_corners := ⟨cksX6_corners, lksX6_corners, fn⟩
set_option maxRecDepth 100000 in
theorem cksX6_over : ∀ e ∈ (mPr MX6_over).flatten, eChk MX6_over e = true := List.all_eq_true.mp (by decide +kernel)
set_option maxRecDepth 100000 in
theorem lksX6_over : ∀ e ∈ (mPr MX6_over).flatten, eLink MT MX6_over e := eFl (fc (fc trivial (fc trivial (fc (⟨mthX6_shapeAt, rfl, ⟨_, rfl, ariX6_shapeAt⟩, ⟨_, rfl, rfl⟩, ⟨List.mem_of_getElem? (i := 247) rfl, rfl⟩, insX6_shapeAt, selX6_shapeAt⟩) (fc trivial (fc trivial (fc (⟨mthX6_checkFace, ariX6_checkFace, staX6_checkFace, rfl, ⟨List.mem_of_getElem? (i := 320) rfl, rfl⟩⟩) (fc trivial (fc trivial (fc (⟨mthX6_checkHeld, ariX6_checkHeld, staX6_checkHeld, rfl, ⟨List.mem_of_getElem? (i := 351) rfl, rfl⟩⟩) (fc trivial (fn))))))))))) (fc (fc trivial (fc (⟨mthX1_countOver, rfl, ⟨_, rfl, ariX1_countOver⟩, ⟨_, rfl, rfl⟩, ⟨List.mem_of_getElem? (i := 534) rfl, rfl⟩, insX1_countOver, selX1_countOver⟩) (fc trivial (fn)))) (fn)))
set_option maxRecDepth 100000 in
theorem mokX6_over : eMok MT MX6_over := ⟨cksX6_over, lksX6_over, fn⟩
set_option maxRecDepth 100000 in
theorem cksX6_greatest : ∀ e ∈ (mPr MX6_greatest).flatten, eChk MX6_greatest e = true := List.all_eq_true.mp (by decide +kernel)
set_option maxRecDepth 100000 in
theorem lksX6_greatest : ∀ e ∈ (mPr MX6_greatest).flatten, eLink MT MX6_greatest e := eFl (fc (fc trivial (fc trivial (fc (⟨mthX6_shapeAt, rfl, ⟨_, rfl, ariX6_shapeAt⟩, ⟨_, rfl, rfl⟩, ⟨List.mem_of_getElem? (i := 247) rfl, rfl⟩, insX6_shapeAt, selX6_shapeAt⟩) (fc trivial (fc (⟨_, _, _, rfl, Nat.le_of_ble_eq_true rfl, ⟨List.mem_of_getElem? (i := 148) rfl, rfl⟩⟩) (fc (⟨mthX3_makeGreatest, ariX3_makeGreatest, staX3_makeGreatest, rfl, ⟨List.mem_of_getElem? (i := 590) rfl, rfl⟩⟩) (fc trivial (fc (⟨_, _, _, rfl, Nat.le_of_ble_eq_true rfl, ⟨List.mem_of_getElem? (i := 148) rfl, rfl⟩⟩) (fn))))))))) (fc (fc (⟨mthX1_count, rfl, ⟨_, rfl, ariX1_count⟩, ⟨_, rfl, rfl⟩, ⟨List.mem_of_getElem? (i := 202) rfl, rfl⟩, insX1_count, selX1_count⟩) (fc trivial (fn))) (fn)))
set_option maxRecDepth 100000 in
theorem mokX6_greatest : eMok MT MX6_greatest := ⟨cksX6_greatest, lksX6_greatest, fn⟩
set_option maxRecDepth 100000 in
theorem cksX6_greatestAt : ∀ e ∈ (mPr MX6_greatestAt).flatten, eChk MX6_greatestAt e = true := List.all_eq_true.mp (by decide +kernel)
set_option maxRecDepth 100000 in
theorem lksX6_greatestAt : ∀ e ∈ (mPr MX6_greatestAt).flatten, eLink MT MX6_greatestAt e := eFl (fc (fc trivial (fc trivial (fc (⟨mthX6_shapeAt, rfl, ⟨_, rfl, ariX6_shapeAt⟩, ⟨_, rfl, rfl⟩, ⟨List.mem_of_getElem? (i := 247) rfl, rfl⟩, insX6_shapeAt, selX6_shapeAt⟩) (fc trivial (fc (⟨_, _, _, rfl, Nat.le_of_ble_eq_true rfl, ⟨List.mem_of_getElem? (i := 148) rfl, rfl⟩⟩) (fc (⟨mthX3_makeGreatest, ariX3_makeGreatest, staX3_makeGreatest, rfl, ⟨List.mem_of_getElem? (i := 590) rfl, rfl⟩⟩) (fc trivial (fc (⟨_, _, _, rfl, Nat.le_of_ble_eq_true rfl, ⟨List.mem_of_getElem? (i := 148) rfl, rfl⟩⟩) (fn))))))))) (fc (fc trivial (fc (⟨mthX6_checkedFaceAt, ariX6_checkedFaceAt, staX6_checkedFaceAt, rfl, ⟨List.mem_of_getElem? (i := 603) rfl, rfl⟩⟩) (fc trivial (fn)))) (fn)))
set_option maxRecDepth 100000 in
theorem mokX6_greatestAt : eMok MT MX6_greatestAt := ⟨cksX6_greatestAt, lksX6_greatestAt, fn⟩
set_option maxRecDepth 100000 in
theorem cksX6_isSame : ∀ e ∈ (mPr MX6_isSame).flatten, eChk MX6_isSame e = true := List.all_eq_true.mp (by decide +kernel)
set_option maxRecDepth 100000 in
theorem lksX6_isSame : ∀ e ∈ (mPr MX6_isSame).flatten, eLink MT MX6_isSame e := eFl (fc (fc trivial (fc trivial (fc (⟨mthX6_shapeAt, rfl, ⟨_, rfl, ariX6_shapeAt⟩, ⟨_, rfl, rfl⟩, ⟨List.mem_of_getElem? (i := 247) rfl, rfl⟩, insX6_shapeAt, selX6_shapeAt⟩) (fc trivial (fc trivial (fc trivial (fc (⟨mthX6_shapeAt, rfl, ⟨_, rfl, ariX6_shapeAt⟩, ⟨_, rfl, rfl⟩, ⟨List.mem_of_getElem? (i := 247) rfl, rfl⟩, insX6_shapeAt, selX6_shapeAt⟩) (fc trivial (fc trivial (fc trivial (fn))))))))))) (fc (fc (⟨mthX1_isLike, rfl, ⟨_, rfl, ariX1_isLike⟩, ⟨_, rfl, rfl⟩, ⟨List.mem_of_getElem? (i := 618) rfl, rfl⟩, insX1_isLike, selX1_isLike⟩) (fc trivial (fn))) (fn)))
set_option maxRecDepth 100000 in
theorem mokX6_isSame : eMok MT MX6_isSame := ⟨cksX6_isSame, lksX6_isSame, fn⟩
set_option maxRecDepth 100000 in
theorem cksX6_contains : ∀ e ∈ (mPr MX6_contains).flatten, eChk MX6_contains e = true := List.all_eq_true.mp (by decide +kernel)
set_option maxRecDepth 100000 in
theorem lksX6_contains : ∀ e ∈ (mPr MX6_contains).flatten, eLink MT MX6_contains e := eFl (fc (fc trivial (fc trivial (fc (⟨mthX6_shapeAt, rfl, ⟨_, rfl, ariX6_shapeAt⟩, ⟨_, rfl, rfl⟩, ⟨List.mem_of_getElem? (i := 247) rfl, rfl⟩, insX6_shapeAt, selX6_shapeAt⟩) (fc trivial (fc trivial (fc trivial (fc (⟨mthX6_shapeAt, rfl, ⟨_, rfl, ariX6_shapeAt⟩, ⟨_, rfl, rfl⟩, ⟨List.mem_of_getElem? (i := 247) rfl, rfl⟩, insX6_shapeAt, selX6_shapeAt⟩) (fc trivial (fc trivial (fc trivial (fn))))))))))) (fc (fc (⟨mthX1_holdsAll, rfl, ⟨_, rfl, ariX1_holdsAll⟩, ⟨_, rfl, rfl⟩, ⟨List.mem_of_getElem? (i := 629) rfl, rfl⟩, insX1_holdsAll, selX1_holdsAll⟩) (fc trivial (fn))) (fn)))
set_option maxRecDepth 100000 in
theorem mokX6_contains : eMok MT MX6_contains := ⟨cksX6_contains, lksX6_contains, fn⟩
set_option maxRecDepth 100000 in
theorem cksX6_pieces : ∀ e ∈ (mPr MX6_pieces).flatten, eChk MX6_pieces e = true := List.all_eq_true.mp (by decide +kernel)
set_option maxRecDepth 100000 in
theorem lksX6_pieces : ∀ e ∈ (mPr MX6_pieces).flatten, eLink MT MX6_pieces e := eFl (fc (fc trivial (fc trivial (fc (⟨mthX6_shapeAt, rfl, ⟨_, rfl, ariX6_shapeAt⟩, ⟨_, rfl, rfl⟩, ⟨List.mem_of_getElem? (i := 247) rfl, rfl⟩, insX6_shapeAt, selX6_shapeAt⟩) (fc (⟨mthX5_countPieces, ariX5_countPieces, staX5_countPieces, rfl, ⟨List.mem_of_getElem? (i := 641) rfl, rfl⟩⟩) (fc trivial (fn)))))) (fn))
set_option maxRecDepth 100000 in
theorem mokX6_pieces : eMok MT MX6_pieces := ⟨cksX6_pieces, lksX6_pieces, fn⟩
set_option maxRecDepth 100000 in
theorem cksX6_areJoined : ∀ e ∈ (mPr MX6_areJoined).flatten, eChk MX6_areJoined e = true := List.all_eq_true.mp (by decide +kernel)
set_option maxRecDepth 100000 in
theorem lksX6_areJoined : ∀ e ∈ (mPr MX6_areJoined).flatten, eLink MT MX6_areJoined e := eFl (fc (fc trivial (fc trivial (fc (⟨mthX6_shapeAt, rfl, ⟨_, rfl, ariX6_shapeAt⟩, ⟨_, rfl, rfl⟩, ⟨List.mem_of_getElem? (i := 247) rfl, rfl⟩, insX6_shapeAt, selX6_shapeAt⟩) (fc trivial (fc trivial (fc (⟨mthX6_checkCorner, ariX6_checkCorner, staX6_checkCorner, rfl, ⟨List.mem_of_getElem? (i := 454) rfl, rfl⟩⟩) (fc trivial (fc (⟨mthX6_checkCorner, ariX6_checkCorner, staX6_checkCorner, rfl, ⟨List.mem_of_getElem? (i := 454) rfl, rfl⟩⟩) (fc trivial (fn)))))))))) (fc (fc trivial (fc trivial (fc trivial (fc (⟨mthX6_checkHeld, ariX6_checkHeld, staX6_checkHeld, rfl, ⟨List.mem_of_getElem? (i := 351) rfl, rfl⟩⟩) (fc trivial (fc trivial (fc trivial (fc trivial (fc (⟨mthX6_checkHeld, ariX6_checkHeld, staX6_checkHeld, rfl, ⟨List.mem_of_getElem? (i := 351) rfl, rfl⟩⟩) (fc trivial (fn))))))))))) (fc (fc trivial (fc trivial (fc trivial (fc (⟨mthX5_pieceFrom, ariX5_pieceFrom, staX5_pieceFrom, rfl, ⟨List.mem_of_getElem? (i := 662) rfl, rfl⟩⟩) (fc trivial (fc trivial (fc trivial (fc trivial (fc trivial (fc trivial (fc trivial (fn)))))))))))) (fc (fc trivial (fc trivial (fn))) (fn)))))
set_option maxRecDepth 100000 in
theorem mokX6_areJoined : eMok MT MX6_areJoined := ⟨cksX6_areJoined, lksX6_areJoined, fn⟩
set_option maxRecDepth 100000 in
theorem cksX6_free : ∀ e ∈ (mPr MX6_free).flatten, eChk MX6_free e = true := List.all_eq_true.mp (by decide +kernel)
set_option maxRecDepth 100000 in
theorem lksX6_free : ∀ e ∈ (mPr MX6_free).flatten, eLink MT MX6_free e := eFl (fc (fc trivial (fc trivial (fc (⟨mthX6_shapeAt, rfl, ⟨_, rfl, ariX6_shapeAt⟩, ⟨_, rfl, rfl⟩, ⟨List.mem_of_getElem? (i := 247) rfl, rfl⟩, insX6_shapeAt, selX6_shapeAt⟩) (fc trivial (fc trivial (fc trivial (fc (⟨mthX6_checkHeight, ariX6_checkHeight, staX6_checkHeight, rfl, ⟨List.mem_of_getElem? (i := 425) rfl, rfl⟩⟩) (fc trivial (fc (⟨_, _, _, rfl, Nat.le_of_ble_eq_true rfl, ⟨List.mem_of_getElem? (i := 149) rfl, rfl⟩⟩) (fc trivial (fn))))))))))) (fc (fc trivial (fc (⟨mthX0_countFree, rfl, ⟨_, rfl, ariX0_countFree⟩, ⟨_, rfl, rfl⟩, ⟨List.mem_of_getElem? (i := 670) rfl, rfl⟩, insX0_countFree, selX0_countFree⟩) (fc trivial (fn)))) (fn)))
set_option maxRecDepth 100000 in
theorem mokX6_free : eMok MT MX6_free := ⟨cksX6_free, lksX6_free, fn⟩
set_option maxRecDepth 100000 in
theorem cksX6_holes : ∀ e ∈ (mPr MX6_holes).flatten, eChk MX6_holes e = true := List.all_eq_true.mp (by decide +kernel)
set_option maxRecDepth 100000 in
theorem lksX6_holes : ∀ e ∈ (mPr MX6_holes).flatten, eLink MT MX6_holes e := eFl (fc (fc trivial (fc trivial (fc (⟨mthX6_shapeAt, rfl, ⟨_, rfl, ariX6_shapeAt⟩, ⟨_, rfl, rfl⟩, ⟨List.mem_of_getElem? (i := 247) rfl, rfl⟩, insX6_shapeAt, selX6_shapeAt⟩) (fc trivial (fc trivial (fc trivial (fc (⟨mthX6_checkHeight, ariX6_checkHeight, staX6_checkHeight, rfl, ⟨List.mem_of_getElem? (i := 425) rfl, rfl⟩⟩) (fc trivial (fc (⟨_, _, _, rfl, Nat.le_of_ble_eq_true rfl, ⟨List.mem_of_getElem? (i := 149) rfl, rfl⟩⟩) (fc trivial (fn))))))))))) (fc (fc trivial (fc (⟨mthX0_countHoles, rfl, ⟨_, rfl, ariX0_countHoles⟩, ⟨_, rfl, rfl⟩, ⟨List.mem_of_getElem? (i := 685) rfl, rfl⟩, insX0_countHoles, selX0_countHoles⟩) (fc trivial (fn)))) (fn)))
set_option maxRecDepth 100000 in
theorem mokX6_holes : eMok MT MX6_holes := ⟨cksX6_holes, lksX6_holes, fn⟩
set_option maxRecDepth 100000 in
theorem cksX6_signed : ∀ e ∈ (mPr MX6_signed).flatten, eChk MX6_signed e = true := List.all_eq_true.mp (by decide +kernel)
set_option maxRecDepth 100000 in
theorem lksX6_signed : ∀ e ∈ (mPr MX6_signed).flatten, eLink MT MX6_signed e := eFl (fc (fc trivial (fc trivial (fc (⟨mthX6_shapeAt, rfl, ⟨_, rfl, ariX6_shapeAt⟩, ⟨_, rfl, rfl⟩, ⟨List.mem_of_getElem? (i := 247) rfl, rfl⟩, insX6_shapeAt, selX6_shapeAt⟩) (fc (⟨mthX1_signedCount, rfl, ⟨_, rfl, ariX1_signedCount⟩, ⟨_, rfl, rfl⟩, ⟨List.mem_of_getElem? (i := 699) rfl, rfl⟩, insX1_signedCount, selX1_signedCount⟩) (fc trivial (fn)))))) (fn))
set_option maxRecDepth 100000 in
theorem mokX6_signed : eMok MT MX6_signed := ⟨cksX6_signed, lksX6_signed, fn⟩
set_option maxRecDepth 100000 in
theorem cksX6_flip : ∀ e ∈ (mPr MX6_flip).flatten, eChk MX6_flip e = true := List.all_eq_true.mp (by decide +kernel)
set_option maxRecDepth 100000 in
theorem lksX6_flip : ∀ e ∈ (mPr MX6_flip).flatten, eLink MT MX6_flip e := eFl (fc (fc trivial (fc (⟨mthX6_checkFace, ariX6_checkFace, staX6_checkFace, rfl, ⟨List.mem_of_getElem? (i := 320) rfl, rfl⟩⟩) (fc trivial (fc (⟨_, _, _, rfl, Nat.le_of_ble_eq_true rfl, ⟨List.mem_of_getElem? (i := 147) rfl, rfl⟩⟩) (fc (⟨mthX1_isEmpty, rfl, ⟨_, rfl, ariX1_isEmpty⟩, ⟨_, rfl, rfl⟩, ⟨List.mem_of_getElem? (i := 224) rfl, rfl⟩, insX1_isEmpty, selX1_isEmpty⟩) (fc trivial (fc trivial (fc (⟨_, _, _, rfl, Nat.le_of_ble_eq_true rfl, ⟨List.mem_of_getElem? (i := 147) rfl, rfl⟩⟩) (fn))))))))) (fc (fc trivial (fc (⟨mthX1_faceAt, rfl, ⟨_, rfl, ariX1_faceAt⟩, ⟨_, rfl, rfl⟩, ⟨List.mem_of_getElem? (i := 606) rfl, rfl⟩, insX1_faceAt, selX1_faceAt⟩) (fc (⟨mthX6_heightOf, ariX6_heightOf, staX6_heightOf, rfl, ⟨List.mem_of_getElem? (i := 710) rfl, rfl⟩⟩) (fc trivial (fc (⟨mthX6_heightOf, ariX6_heightOf, staX6_heightOf, rfl, ⟨List.mem_of_getElem? (i := 710) rfl, rfl⟩⟩) (fc trivial (fn))))))) (fc (fc (⟨⟨List.mem_of_getElem? (i := 461) rfl, rfl⟩, ⟨List.mem_of_getElem? (i := 46) rfl, rfl⟩, 193, 124, _, List.mem_of_getElem? (i := 681) rfl, at_RX6_124, by decide +kernel, Or.inl ⟨by decide +kernel, by decide +kernel, by decide +kernel⟩⟩) (fc trivial (fc (⟨_, _, _, rfl, Nat.le_of_ble_eq_true rfl, ⟨List.mem_of_getElem? (i := 147) rfl, rfl⟩⟩) (fc trivial (fc (⟨mthX1_toggle, rfl, ⟨_, rfl, ariX1_toggle⟩, ⟨_, rfl, rfl⟩, ⟨List.mem_of_getElem? (i := 712) rfl, rfl⟩, insX1_toggle, selX1_toggle⟩) (fn)))))) (fc (fc trivial (fc (⟨_, _, _, rfl, Nat.le_of_ble_eq_true rfl, ⟨List.mem_of_getElem? (i := 147) rfl, rfl⟩⟩) (fc (⟨mthX1_count, rfl, ⟨_, rfl, ariX1_count⟩, ⟨_, rfl, rfl⟩, ⟨List.mem_of_getElem? (i := 202) rfl, rfl⟩, insX1_count, selX1_count⟩) (fc trivial (fn))))) (fn)))))
set_option maxRecDepth 100000 in
theorem mokX6_flip : eMok MT MX6_flip := ⟨cksX6_flip, lksX6_flip, fn⟩
set_option maxRecDepth 100000 in
theorem cksX6_border : ∀ e ∈ (mPr MX6_border).flatten, eChk MX6_border e = true := List.all_eq_true.mp (by decide +kernel)
set_option maxRecDepth 100000 in
theorem lksX6_border : ∀ e ∈ (mPr MX6_border).flatten, eLink MT MX6_border e := eFl (fc (fc trivial (fc (⟨_, _, _, rfl, Nat.le_of_ble_eq_true rfl, ⟨List.mem_of_getElem? (i := 147) rfl, rfl⟩⟩) (fc trivial (fc (⟨_, _, _, rfl, Nat.le_of_ble_eq_true rfl, ⟨List.mem_of_getElem? (i := 148) rfl, rfl⟩⟩) (fc (⟨mthX0_makeBorder, ariX0_makeBorder, staX0_makeBorder, rfl, ⟨List.mem_of_getElem? (i := 166) rfl, rfl⟩⟩) (fc trivial (fc trivial (fc (⟨_, _, _, rfl, Nat.le_of_ble_eq_true rfl, ⟨List.mem_of_getElem? (i := 147) rfl, rfl⟩⟩) (fn))))))))) (fc (fc (⟨mthX6_giveMade, rfl, ⟨_, rfl, ariX6_giveMade⟩, ⟨_, rfl, rfl⟩, ⟨List.mem_of_getElem? (i := 194) rfl, rfl⟩, insX6_giveMade, selX6_giveMade⟩) (fc trivial (fn))) (fn)))
set_option maxRecDepth 100000 in
theorem mokX6_border : eMok MT MX6_border := ⟨cksX6_border, lksX6_border, fn⟩
set_option maxRecDepth 100000 in
theorem cksX6_drop : ∀ e ∈ (mPr MX6_drop).flatten, eChk MX6_drop e = true := List.all_eq_true.mp (by decide +kernel)
set_option maxRecDepth 100000 in
theorem lksX6_drop : ∀ e ∈ (mPr MX6_drop).flatten, eLink MT MX6_drop e := eFl (fc (fc trivial (fc (⟨_, _, _, rfl, Nat.le_of_ble_eq_true rfl, ⟨List.mem_of_getElem? (i := 147) rfl, rfl⟩⟩) (fc (⟨mthX6_emptied, ariX6_emptied, staX6_emptied, rfl, ⟨List.mem_of_getElem? (i := 216) rfl, rfl⟩⟩) (fc trivial (fn))))) (fn))
set_option maxRecDepth 100000 in
theorem mokX6_drop : eMok MT MX6_drop := ⟨cksX6_drop, lksX6_drop, fn⟩
set_option maxRecDepth 100000 in
theorem cksX6_rowAt : ∀ e ∈ (mPr MX6_rowAt).flatten, eChk MX6_rowAt e = true := List.all_eq_true.mp (by decide +kernel)
set_option maxRecDepth 100000 in
theorem lksX6_rowAt : ∀ e ∈ (mPr MX6_rowAt).flatten, eLink MT MX6_rowAt e := eFl (fc (fc trivial (fc (⟨_, _, _, rfl, Nat.le_of_ble_eq_true rfl, ⟨List.mem_of_getElem? (i := 147) rfl, rfl⟩⟩) (fc trivial (fc (⟨mthX6_checkedFaceAt, ariX6_checkedFaceAt, staX6_checkedFaceAt, rfl, ⟨List.mem_of_getElem? (i := 603) rfl, rfl⟩⟩) (fc trivial (fn)))))) (fn))
set_option maxRecDepth 100000 in
theorem mokX6_rowAt : eMok MT MX6_rowAt := ⟨cksX6_rowAt, lksX6_rowAt, fn⟩
set_option maxRecDepth 100000 in
theorem cksX6_isRound : ∀ e ∈ (mPr MX6_isRound).flatten, eChk MX6_isRound e = true := List.all_eq_true.mp (by decide +kernel)
set_option maxRecDepth 100000 in
theorem lksX6_isRound : ∀ e ∈ (mPr MX6_isRound).flatten, eLink MT MX6_isRound e := eFl (fc (fc trivial (fc (⟨_, _, _, rfl, Nat.le_of_ble_eq_true rfl, ⟨List.mem_of_getElem? (i := 147) rfl, rfl⟩⟩) (fc trivial (fc (⟨_, _, _, rfl, Nat.le_of_ble_eq_true rfl, ⟨List.mem_of_getElem? (i := 148) rfl, rfl⟩⟩) (fc (⟨mthX0_makeBorder, ariX0_makeBorder, staX0_makeBorder, rfl, ⟨List.mem_of_getElem? (i := 166) rfl, rfl⟩⟩) (fc trivial (fc (⟨_, _, _, rfl, Nat.le_of_ble_eq_true rfl, ⟨List.mem_of_getElem? (i := 148) rfl, rfl⟩⟩) (fc (⟨mthX1_isEmpty, rfl, ⟨_, rfl, ariX1_isEmpty⟩, ⟨_, rfl, rfl⟩, ⟨List.mem_of_getElem? (i := 224) rfl, rfl⟩, insX1_isEmpty, selX1_isEmpty⟩) (fn))))))))) (fc (fc trivial (fn)) (fn)))
set_option maxRecDepth 100000 in
theorem mokX6_isRound : eMok MT MX6_isRound := ⟨cksX6_isRound, lksX6_isRound, fn⟩
set_option maxRecDepth 100000 in
theorem cksX6_fills : ∀ e ∈ (mPr MX6_fills).flatten, eChk MX6_fills e = true := List.all_eq_true.mp (by decide +kernel)
set_option maxRecDepth 100000 in
theorem lksX6_fills : ∀ e ∈ (mPr MX6_fills).flatten, eLink MT MX6_fills e := eFl (fc (fc trivial (fc trivial (fc (⟨mthX6_shapeAt, rfl, ⟨_, rfl, ariX6_shapeAt⟩, ⟨_, rfl, rfl⟩, ⟨List.mem_of_getElem? (i := 247) rfl, rfl⟩, insX6_shapeAt, selX6_shapeAt⟩) (fc trivial (fc trivial (fc trivial (fc (⟨_, _, _, rfl, Nat.le_of_ble_eq_true rfl, ⟨List.mem_of_getElem? (i := 147) rfl, rfl⟩⟩) (fc (⟨mthX1_holdsAll, rfl, ⟨_, rfl, ariX1_holdsAll⟩, ⟨_, rfl, rfl⟩, ⟨List.mem_of_getElem? (i := 629) rfl, rfl⟩, insX1_holdsAll, selX1_holdsAll⟩) (fc trivial (fn)))))))))) (fc (fc (⟨⟨List.mem_of_getElem? (i := 461) rfl, rfl⟩, ⟨List.mem_of_getElem? (i := 46) rfl, rfl⟩, 201, 124, _, List.mem_of_getElem? (i := 697) rfl, at_RX6_124, by decide +kernel, Or.inl ⟨by decide +kernel, by decide +kernel, by decide +kernel⟩⟩) (fc trivial (fc (⟨_, _, _, rfl, Nat.le_of_ble_eq_true rfl, ⟨List.mem_of_getElem? (i := 149) rfl, rfl⟩⟩) (fc trivial (fn))))) (fc (fc (⟨_, _, _, rfl, Nat.le_of_ble_eq_true rfl, ⟨List.mem_of_getElem? (i := 147) rfl, rfl⟩⟩) (fc trivial (fc (⟨mthX0_isFilling, rfl, ⟨_, rfl, ariX0_isFilling⟩, ⟨_, rfl, rfl⟩, ⟨List.mem_of_getElem? (i := 728) rfl, rfl⟩, insX0_isFilling, selX0_isFilling⟩) (fc trivial (fn))))) (fn))))
set_option maxRecDepth 100000 in
theorem mokX6_fills : eMok MT MX6_fills := ⟨cksX6_fills, lksX6_fills, fn⟩
set_option maxRecDepth 100000 in
theorem cksX6_mean : ∀ e ∈ (mPr MX6_mean).flatten, eChk MX6_mean e = true := List.all_eq_true.mp (by decide +kernel)
set_option maxRecDepth 100000 in
theorem lksX6_mean : ∀ e ∈ (mPr MX6_mean).flatten, eLink MT MX6_mean e := eFl (fc (fc trivial (fc trivial (fc (⟨mthX6_shapeAt, rfl, ⟨_, rfl, ariX6_shapeAt⟩, ⟨_, rfl, rfl⟩, ⟨List.mem_of_getElem? (i := 247) rfl, rfl⟩, insX6_shapeAt, selX6_shapeAt⟩) (fc trivial (fc trivial (fc (⟨mthX1_count, rfl, ⟨_, rfl, ariX1_count⟩, ⟨_, rfl, rfl⟩, ⟨List.mem_of_getElem? (i := 202) rfl, rfl⟩, insX1_count, selX1_count⟩) (fc trivial (fc trivial (fc trivial (fc (⟨⟨List.mem_of_getElem? (i := 354) rfl, rfl⟩, ⟨List.mem_of_getElem? (i := 44) rfl, rfl⟩, 209, 211, _, List.mem_of_getElem? (i := 714) rfl, at_RX6_211, by decide +kernel, Or.inl ⟨by decide +kernel, by decide +kernel, by decide +kernel⟩⟩) (fn))))))))))) (fc (fc trivial (fc (⟨mthX1_heightSum, rfl, ⟨_, rfl, ariX1_heightSum⟩, ⟨_, rfl, rfl⟩, ⟨List.mem_of_getElem? (i := 745) rfl, rfl⟩, insX1_heightSum, selX1_heightSum⟩) (fc trivial (fc trivial (fc trivial (fn)))))) (fc (fc trivial (fc trivial (fn))) (fn))))
set_option maxRecDepth 100000 in
theorem mokX6_mean : eMok MT MX6_mean := ⟨cksX6_mean, lksX6_mean, fn⟩
set_option maxRecDepth 100000 in
theorem cksX6_share : ∀ e ∈ (mPr MX6_share).flatten, eChk MX6_share e = true := List.all_eq_true.mp (by decide +kernel)
set_option maxRecDepth 100000 in
theorem lksX6_share : ∀ e ∈ (mPr MX6_share).flatten, eLink MT MX6_share e := eFl (fc (fc trivial (fc trivial (fc (⟨mthX6_shapeAt, rfl, ⟨_, rfl, ariX6_shapeAt⟩, ⟨_, rfl, rfl⟩, ⟨List.mem_of_getElem? (i := 247) rfl, rfl⟩, insX6_shapeAt, selX6_shapeAt⟩) (fc trivial (fc trivial (fc (⟨mthX1_count, rfl, ⟨_, rfl, ariX1_count⟩, ⟨_, rfl, rfl⟩, ⟨List.mem_of_getElem? (i := 202) rfl, rfl⟩, insX1_count, selX1_count⟩) (fc trivial (fc trivial (fc trivial (fc trivial (fn))))))))))) (fc (fc trivial (fc trivial (fc trivial (fc (⟨_, _, _, rfl, Nat.le_of_ble_eq_true rfl, ⟨List.mem_of_getElem? (i := 148) rfl, rfl⟩⟩) (fc (⟨mthX3_makeGreatest, ariX3_makeGreatest, staX3_makeGreatest, rfl, ⟨List.mem_of_getElem? (i := 590) rfl, rfl⟩⟩) (fc trivial (fc (⟨_, _, _, rfl, Nat.le_of_ble_eq_true rfl, ⟨List.mem_of_getElem? (i := 148) rfl, rfl⟩⟩) (fc (⟨mthX1_count, rfl, ⟨_, rfl, ariX1_count⟩, ⟨_, rfl, rfl⟩, ⟨List.mem_of_getElem? (i := 202) rfl, rfl⟩, insX1_count, selX1_count⟩) (fn))))))))) (fc (fc trivial (fc trivial (fc trivial (fc trivial (fc trivial (fn)))))) (fn))))
set_option maxRecDepth 100000 in
theorem mokX6_share : eMok MT MX6_share := ⟨cksX6_share, lksX6_share, fn⟩
set_option maxRecDepth 100000 in
theorem cksX6_checksum : ∀ e ∈ (mPr MX6_checksum).flatten, eChk MX6_checksum e = true := List.all_eq_true.mp (by decide +kernel)
set_option maxRecDepth 100000 in
theorem lksX6_checksum : ∀ e ∈ (mPr MX6_checksum).flatten, eLink MT MX6_checksum e := eFl (fc (fc (⟨List.mem_of_getElem? (i := 232) rfl, rfl⟩) (fc trivial (fc trivial (fc trivial (fc trivial (fc trivial (fc trivial (fc trivial (fc trivial (fc (⟨_, _, _, rfl, Nat.le_of_ble_eq_true rfl, ⟨List.mem_of_getElem? (i := 146) rfl, rfl⟩⟩) (fn))))))))))) (fc (fc trivial (fc trivial (fc (⟨mthX6_checksumOn, ariX6_checksumOn, staX6_checksumOn, rfl, ⟨List.mem_of_getElem? (i := 233) rfl, rfl⟩⟩) (fc trivial (fc trivial (fc trivial (fc trivial (fc trivial (fc (⟨_, _, _, rfl, Nat.le_of_ble_eq_true rfl, ⟨List.mem_of_getElem? (i := 147) rfl, rfl⟩⟩) (fn)))))))))) (fc (fc (⟨mthX6_checksumOn, ariX6_checksumOn, staX6_checksumOn, rfl, ⟨List.mem_of_getElem? (i := 233) rfl, rfl⟩⟩) (fc trivial (fn))) (fn))))
set_option maxRecDepth 100000 in
theorem mokX6_checksum : eMok MT MX6_checksum := ⟨cksX6_checksum, lksX6_checksum, fn⟩
set_option maxRecDepth 100000 in
theorem cksX6_isSound : ∀ e ∈ (mPr MX6_isSound).flatten, eChk MX6_isSound e = true := List.all_eq_true.mp (by decide +kernel)
set_option maxRecDepth 100000 in
theorem lksX6_isSound : ∀ e ∈ (mPr MX6_isSound).flatten, eLink MT MX6_isSound e := eFl (fc (fc trivial (fc trivial (fc (⟨mthX6_shapeAt, rfl, ⟨_, rfl, ariX6_shapeAt⟩, ⟨_, rfl, rfl⟩, ⟨List.mem_of_getElem? (i := 247) rfl, rfl⟩, insX6_shapeAt, selX6_shapeAt⟩) (fc trivial (fc trivial (fc (⟨_, _, _, rfl, Nat.le_of_ble_eq_true rfl, ⟨List.mem_of_getElem? (i := 150) rfl, rfl⟩⟩) (fc trivial (fc (⟨mthX4_tellsPieces, rfl, ⟨_, rfl, ariX4_tellsPieces⟩, ⟨_, rfl, rfl⟩, ⟨List.mem_of_getElem? (i := 763) rfl, rfl⟩, insX4_tellsPieces, selX4_tellsPieces⟩) (fc trivial (fn)))))))))) (fc (fc trivial (fc (⟨_, _, _, rfl, Nat.le_of_ble_eq_true rfl, ⟨List.mem_of_getElem? (i := 150) rfl, rfl⟩⟩) (fc trivial (fc (⟨mthX4_tellsSignedCount, rfl, ⟨_, rfl, ariX4_tellsSignedCount⟩, ⟨_, rfl, rfl⟩, ⟨List.mem_of_getElem? (i := 772) rfl, rfl⟩, insX4_tellsSignedCount, selX4_tellsSignedCount⟩) (fc trivial (fc trivial (fc (⟨_, _, _, rfl, Nat.le_of_ble_eq_true rfl, ⟨List.mem_of_getElem? (i := 150) rfl, rfl⟩⟩) (fn)))))))) (fc (fc trivial (fc (⟨_, _, _, rfl, Nat.le_of_ble_eq_true rfl, ⟨List.mem_of_getElem? (i := 147) rfl, rfl⟩⟩) (fc trivial (fc (⟨mthX4_tellsRow, rfl, ⟨_, rfl, ariX4_tellsRow⟩, ⟨_, rfl, rfl⟩, ⟨List.mem_of_getElem? (i := 788) rfl, rfl⟩, insX4_tellsRow, selX4_tellsRow⟩) (fc trivial (fc trivial (fc trivial (fc trivial (fn))))))))) (fc (fc trivial (fn)) (fn)))))
set_option maxRecDepth 100000 in
theorem mokX6_isSound : eMok MT MX6_isSound := ⟨cksX6_isSound, lksX6_isSound, fn⟩
set_option maxRecDepth 100000 in
theorem cksX6_isTrue : ∀ e ∈ (mPr MX6_isTrue).flatten, eChk MX6_isTrue e = true := List.all_eq_true.mp (by decide +kernel)
set_option maxRecDepth 100000 in
theorem lksX6_isTrue : ∀ e ∈ (mPr MX6_isTrue).flatten, eLink MT MX6_isTrue e := eFl (fc (fc trivial (fc trivial (fc (⟨mthX6_shapeAt, rfl, ⟨_, rfl, ariX6_shapeAt⟩, ⟨_, rfl, rfl⟩, ⟨List.mem_of_getElem? (i := 247) rfl, rfl⟩, insX6_shapeAt, selX6_shapeAt⟩) (fc trivial (fc trivial (fc (⟨mthX6_checkCorner, ariX6_checkCorner, staX6_checkCorner, rfl, ⟨List.mem_of_getElem? (i := 454) rfl, rfl⟩⟩) (fc trivial (fc (⟨mthX6_checkCorner, ariX6_checkCorner, staX6_checkCorner, rfl, ⟨List.mem_of_getElem? (i := 454) rfl, rfl⟩⟩) (fc trivial (fn)))))))))) (fc (fc (⟨_, _, _, rfl, Nat.le_of_ble_eq_true rfl, ⟨List.mem_of_getElem? (i := 150) rfl, rfl⟩⟩) (fc trivial (fc (⟨mthX4_tellsCone, rfl, ⟨_, rfl, ariX4_tellsCone⟩, ⟨_, rfl, rfl⟩, ⟨List.mem_of_getElem? (i := 812) rfl, rfl⟩, insX4_tellsCone, selX4_tellsCone⟩) (fc trivial (fc trivial (fc (⟨_, _, _, rfl, Nat.le_of_ble_eq_true rfl, ⟨List.mem_of_getElem? (i := 150) rfl, rfl⟩⟩) (fc trivial (fn)))))))) (fc (fc (⟨mthX4_tellsLift, rfl, ⟨_, rfl, ariX4_tellsLift⟩, ⟨_, rfl, rfl⟩, ⟨List.mem_of_getElem? (i := 827) rfl, rfl⟩, insX4_tellsLift, selX4_tellsLift⟩) (fc trivial (fc trivial (fc (⟨_, _, _, rfl, Nat.le_of_ble_eq_true rfl, ⟨List.mem_of_getElem? (i := 150) rfl, rfl⟩⟩) (fc trivial (fc trivial (fc (⟨mthX4_tellsOther, rfl, ⟨_, rfl, ariX4_tellsOther⟩, ⟨_, rfl, rfl⟩, ⟨List.mem_of_getElem? (i := 836) rfl, rfl⟩, insX4_tellsOther, selX4_tellsOther⟩) (fn)))))))) (fc (fc trivial (fc trivial (fc (⟨_, _, _, rfl, Nat.le_of_ble_eq_true rfl, ⟨List.mem_of_getElem? (i := 150) rfl, rfl⟩⟩) (fc trivial (fc trivial (fc (⟨mthX1_cornerSet, rfl, ⟨_, rfl, ariX1_cornerSet⟩, ⟨_, rfl, rfl⟩, ⟨List.mem_of_getElem? (i := 502) rfl, rfl⟩, insX1_cornerSet, selX1_cornerSet⟩) (fn))))))) (fc (fc (⟨mthX4_tellsOther, rfl, ⟨_, rfl, ariX4_tellsOther⟩, ⟨_, rfl, rfl⟩, ⟨List.mem_of_getElem? (i := 836) rfl, rfl⟩, insX4_tellsOther, selX4_tellsOther⟩) (fc trivial (fc trivial (fc (⟨_, _, _, rfl, Nat.le_of_ble_eq_true rfl, ⟨List.mem_of_getElem? (i := 150) rfl, rfl⟩⟩) (fc trivial (fc trivial (fc trivial (fc (⟨mthX4_tellsExchange, rfl, ⟨_, rfl, ariX4_tellsExchange⟩, ⟨_, rfl, rfl⟩, ⟨List.mem_of_getElem? (i := 852) rfl, rfl⟩, insX4_tellsExchange, selX4_tellsExchange⟩) (fn))))))))) (fc (fc trivial (fc trivial (fc trivial (fc trivial (fc trivial (fn)))))) (fn)))))))
set_option maxRecDepth 100000 in
theorem mokX6_isTrue : eMok MT MX6_isTrue := ⟨cksX6_isTrue, lksX6_isTrue, fn⟩
set_option maxRecDepth 100000 in
theorem cksX6_faceIsTrue : ∀ e ∈ (mPr MX6_faceIsTrue).flatten, eChk MX6_faceIsTrue e = true := List.all_eq_true.mp (by decide +kernel)
set_option maxRecDepth 100000 in
theorem lksX6_faceIsTrue : ∀ e ∈ (mPr MX6_faceIsTrue).flatten, eLink MT MX6_faceIsTrue e := eFl (fc (fc trivial (fc trivial (fc (⟨mthX6_shapeAt, rfl, ⟨_, rfl, ariX6_shapeAt⟩, ⟨_, rfl, rfl⟩, ⟨List.mem_of_getElem? (i := 247) rfl, rfl⟩, insX6_shapeAt, selX6_shapeAt⟩) (fc trivial (fc trivial (fc (⟨mthX6_checkFace, ariX6_checkFace, staX6_checkFace, rfl, ⟨List.mem_of_getElem? (i := 320) rfl, rfl⟩⟩) (fc trivial (fc trivial (fc (⟨mthX6_checkHeld, ariX6_checkHeld, staX6_checkHeld, rfl, ⟨List.mem_of_getElem? (i := 351) rfl, rfl⟩⟩) (fc trivial (fn))))))))))) (fc (fc (⟨_, _, _, rfl, Nat.le_of_ble_eq_true rfl, ⟨List.mem_of_getElem? (i := 150) rfl, rfl⟩⟩) (fc trivial (fc trivial (fc (⟨mthX4_tellsAbout, rfl, ⟨_, rfl, ariX4_tellsAbout⟩, ⟨_, rfl, rfl⟩, ⟨List.mem_of_getElem? (i := 873) rfl, rfl⟩, insX4_tellsAbout, selX4_tellsAbout⟩) (fc trivial (fc trivial (fc (⟨_, _, _, rfl, Nat.le_of_ble_eq_true rfl, ⟨List.mem_of_getElem? (i := 150) rfl, rfl⟩⟩) (fc trivial (fn))))))))) (fc (fc trivial (fc (⟨mthX4_tellsFold, rfl, ⟨_, rfl, ariX4_tellsFold⟩, ⟨_, rfl, rfl⟩, ⟨List.mem_of_getElem? (i := 878) rfl, rfl⟩, insX4_tellsFold, selX4_tellsFold⟩) (fc trivial (fc trivial (fc (⟨_, _, _, rfl, Nat.le_of_ble_eq_true rfl, ⟨List.mem_of_getElem? (i := 150) rfl, rfl⟩⟩) (fc trivial (fc trivial (fc (⟨mthX4_tellsTaking, rfl, ⟨_, rfl, ariX4_tellsTaking⟩, ⟨_, rfl, rfl⟩, ⟨List.mem_of_getElem? (i := 886) rfl, rfl⟩, insX4_tellsTaking, selX4_tellsTaking⟩) (fn))))))))) (fc (fc trivial (fc trivial (fc trivial (fc trivial (fc trivial (fn)))))) (fn)))))
set_option maxRecDepth 100000 in
theorem mokX6_faceIsTrue : eMok MT MX6_faceIsTrue := ⟨cksX6_faceIsTrue, lksX6_faceIsTrue, fn⟩
set_option maxRecDepth 100000 in
theorem cksX6_pairIsTrue : ∀ e ∈ (mPr MX6_pairIsTrue).flatten, eChk MX6_pairIsTrue e = true := List.all_eq_true.mp (by decide +kernel)
set_option maxRecDepth 100000 in
theorem lksX6_pairIsTrue : ∀ e ∈ (mPr MX6_pairIsTrue).flatten, eLink MT MX6_pairIsTrue e := eFl (fc (fc trivial (fc trivial (fc (⟨mthX6_shapeAt, rfl, ⟨_, rfl, ariX6_shapeAt⟩, ⟨_, rfl, rfl⟩, ⟨List.mem_of_getElem? (i := 247) rfl, rfl⟩, insX6_shapeAt, selX6_shapeAt⟩) (fc trivial (fc trivial (fc trivial (fc (⟨mthX6_shapeAt, rfl, ⟨_, rfl, ariX6_shapeAt⟩, ⟨_, rfl, rfl⟩, ⟨List.mem_of_getElem? (i := 247) rfl, rfl⟩, insX6_shapeAt, selX6_shapeAt⟩) (fc trivial (fc trivial (fc (⟨_, _, _, rfl, Nat.le_of_ble_eq_true rfl, ⟨List.mem_of_getElem? (i := 150) rfl, rfl⟩⟩) (fn))))))))))) (fc (fc trivial (fc trivial (fc (⟨mthX4_tellsSums, rfl, ⟨_, rfl, ariX4_tellsSums⟩, ⟨_, rfl, rfl⟩, ⟨List.mem_of_getElem? (i := 898) rfl, rfl⟩, insX4_tellsSums, selX4_tellsSums⟩) (fc trivial (fc trivial (fc (⟨_, _, _, rfl, Nat.le_of_ble_eq_true rfl, ⟨List.mem_of_getElem? (i := 150) rfl, rfl⟩⟩) (fc trivial (fc trivial (fn))))))))) (fc (fc (⟨mthX4_tellsTouching, rfl, ⟨_, rfl, ariX4_tellsTouching⟩, ⟨_, rfl, rfl⟩, ⟨List.mem_of_getElem? (i := 904) rfl, rfl⟩, insX4_tellsTouching, selX4_tellsTouching⟩) (fc trivial (fc trivial (fc trivial (fc trivial (fc trivial (fn))))))) (fn))))
set_option maxRecDepth 100000 in
theorem mokX6_pairIsTrue : eMok MT MX6_pairIsTrue := ⟨cksX6_pairIsTrue, lksX6_pairIsTrue, fn⟩
set_option maxRecDepth 100000 in
theorem cksX6_shapeAt : ∀ e ∈ (mPr MX6_shapeAt).flatten, eChk MX6_shapeAt e = true := List.all_eq_true.mp (by decide +kernel)
set_option maxRecDepth 100000 in
theorem lksX6_shapeAt : ∀ e ∈ (mPr MX6_shapeAt).flatten, eLink MT MX6_shapeAt e := eFl (fc (fc trivial (fc trivial (fc trivial (fc trivial (fc trivial (fc (⟨⟨List.mem_of_getElem? (i := 251) rfl, rfl⟩, ⟨List.mem_of_getElem? (i := 41) rfl, rfl⟩, 261, 263, _, List.mem_of_getElem? (i := 263) rfl, at_RX6_263, by decide +kernel, Or.inr ⟨by decide +kernel, by decide +kernel, by decide +kernel⟩⟩) (fn))))))) (fc (fc trivial (fc (⟨_, _, _, rfl, Nat.le_of_ble_eq_true rfl, ⟨List.mem_of_getElem? (i := 146) rfl, rfl⟩⟩) (fc trivial (fc trivial (fc trivial (fn)))))) (fn)))
set_option maxRecDepth 100000 in
theorem mokX6_shapeAt : eMok MT MX6_shapeAt := ⟨cksX6_shapeAt, lksX6_shapeAt, fn⟩
set_option maxRecDepth 100000 in
theorem cksX6_giveMade : ∀ e ∈ (mPr MX6_giveMade).flatten, eChk MX6_giveMade e = true := List.all_eq_true.mp (by decide +kernel)
set_option maxRecDepth 100000 in
theorem lksX6_giveMade : ∀ e ∈ (mPr MX6_giveMade).flatten, eLink MT MX6_giveMade e := eFl (fc (fc trivial (fc trivial (fc (⟨_, _, _, rfl, Nat.le_of_ble_eq_true rfl, ⟨List.mem_of_getElem? (i := 148) rfl, rfl⟩⟩) (fc (⟨mthX1_become, rfl, ⟨_, rfl, ariX1_become⟩, ⟨_, rfl, rfl⟩, ⟨List.mem_of_getElem? (i := 198) rfl, rfl⟩, insX1_become, selX1_become⟩) (fc trivial (fc (⟨mthX1_count, rfl, ⟨_, rfl, ariX1_count⟩, ⟨_, rfl, rfl⟩, ⟨List.mem_of_getElem? (i := 202) rfl, rfl⟩, insX1_count, selX1_count⟩) (fc trivial (fn)))))))) (fn))
set_option maxRecDepth 100000 in
theorem mokX6_giveMade : eMok MT MX6_giveMade := ⟨cksX6_giveMade, lksX6_giveMade, fn⟩
set_option maxRecDepth 100000 in
theorem cksX6_emptied : ∀ e ∈ (mPr MX6_emptied).flatten, eChk MX6_emptied e = true := List.all_eq_true.mp (by decide +kernel)
set_option maxRecDepth 100000 in
theorem lksX6_emptied : ∀ e ∈ (mPr MX6_emptied).flatten, eLink MT MX6_emptied e := eFl (fc (fc trivial (fc (⟨mthX1_count, rfl, ⟨_, rfl, ariX1_count⟩, ⟨_, rfl, rfl⟩, ⟨List.mem_of_getElem? (i := 202) rfl, rfl⟩, insX1_count, selX1_count⟩) (fc trivial (fc trivial (fc (⟨mthX1_empty, rfl, ⟨_, rfl, ariX1_empty⟩, ⟨_, rfl, rfl⟩, ⟨List.mem_of_getElem? (i := 219) rfl, rfl⟩, insX1_empty, selX1_empty⟩) (fc trivial (fc trivial (fn)))))))) (fn))
set_option maxRecDepth 100000 in
theorem mokX6_emptied : eMok MT MX6_emptied := ⟨cksX6_emptied, lksX6_emptied, fn⟩
set_option maxRecDepth 100000 in
theorem cksX6_checkFace : ∀ e ∈ (mPr MX6_checkFace).flatten, eChk MX6_checkFace e = true := List.all_eq_true.mp (by decide +kernel)
set_option maxRecDepth 100000 in
theorem lksX6_checkFace : ∀ e ∈ (mPr MX6_checkFace).flatten, eLink MT MX6_checkFace e := eFl (fc (fc trivial (fc trivial (fc trivial (fc trivial (fc trivial (fc trivial (fc (⟨⟨List.mem_of_getElem? (i := 323) rfl, rfl⟩, ⟨List.mem_of_getElem? (i := 42) rfl, rfl⟩, 264, 110, _, List.mem_of_getElem? (i := 302) rfl, at_RX6_110, by decide +kernel, Or.inr ⟨by decide +kernel, by decide +kernel, by decide +kernel⟩⟩) (fn)))))))) (fc (fc trivial (fn)) (fn)))
set_option maxRecDepth 100000 in
theorem mokX6_checkFace : eMok MT MX6_checkFace := ⟨cksX6_checkFace, lksX6_checkFace, fn⟩
set_option maxRecDepth 100000 in
theorem cksX6_checkCorner : ∀ e ∈ (mPr MX6_checkCorner).flatten, eChk MX6_checkCorner e = true := List.all_eq_true.mp (by decide +kernel)
set_option maxRecDepth 100000 in
theorem lksX6_checkCorner : ∀ e ∈ (mPr MX6_checkCorner).flatten, eLink MT MX6_checkCorner e := eFl (fc (fc trivial (fc trivial (fc trivial (fc trivial (fc trivial (fc (⟨⟨List.mem_of_getElem? (i := 323) rfl, rfl⟩, ⟨List.mem_of_getElem? (i := 42) rfl, rfl⟩, 266, 110, _, List.mem_of_getElem? (i := 427) rfl, at_RX6_110, by decide +kernel, Or.inr ⟨by decide +kernel, by decide +kernel, by decide +kernel⟩⟩) (fn))))))) (fc (fc trivial (fn)) (fn)))
set_option maxRecDepth 100000 in
theorem mokX6_checkCorner : eMok MT MX6_checkCorner := ⟨cksX6_checkCorner, lksX6_checkCorner, fn⟩
set_option maxRecDepth 100000 in
theorem cksX6_checkHeight : ∀ e ∈ (mPr MX6_checkHeight).flatten, eChk MX6_checkHeight e = true := List.all_eq_true.mp (by decide +kernel)
set_option maxRecDepth 100000 in
theorem lksX6_checkHeight : ∀ e ∈ (mPr MX6_checkHeight).flatten, eLink MT MX6_checkHeight e := eFl (fc (fc trivial (fc trivial (fc trivial (fc trivial (fc trivial (fc trivial (fc (⟨⟨List.mem_of_getElem? (i := 323) rfl, rfl⟩, ⟨List.mem_of_getElem? (i := 42) rfl, rfl⟩, 268, 110, _, List.mem_of_getElem? (i := 398) rfl, at_RX6_110, by decide +kernel, Or.inr ⟨by decide +kernel, by decide +kernel, by decide +kernel⟩⟩) (fn)))))))) (fc (fc trivial (fn)) (fn)))
set_option maxRecDepth 100000 in
theorem mokX6_checkHeight : eMok MT MX6_checkHeight := ⟨cksX6_checkHeight, lksX6_checkHeight, fn⟩
set_option maxRecDepth 100000 in
theorem cksX6_checkHeld : ∀ e ∈ (mPr MX6_checkHeld).flatten, eChk MX6_checkHeld e = true := List.all_eq_true.mp (by decide +kernel)
set_option maxRecDepth 100000 in
theorem lksX6_checkHeld : ∀ e ∈ (mPr MX6_checkHeld).flatten, eLink MT MX6_checkHeld e := eFl (fc (fc trivial (fc trivial (fc (⟨mthX1_holds, rfl, ⟨_, rfl, ariX1_holds⟩, ⟨_, rfl, rfl⟩, ⟨List.mem_of_getElem? (i := 237) rfl, rfl⟩, insX1_holds, selX1_holds⟩) (fc trivial (fc (⟨⟨List.mem_of_getElem? (i := 354) rfl, rfl⟩, ⟨List.mem_of_getElem? (i := 44) rfl, rfl⟩, 270, 211, _, List.mem_of_getElem? (i := 333) rfl, at_RX6_211, by decide +kernel, Or.inr ⟨by decide +kernel, by decide +kernel, by decide +kernel⟩⟩) (fn)))))) (fc (fc trivial (fn)) (fn)))
set_option maxRecDepth 100000 in
theorem mokX6_checkHeld : eMok MT MX6_checkHeld := ⟨cksX6_checkHeld, lksX6_checkHeld, fn⟩
set_option maxRecDepth 100000 in
theorem cksX6_checkNew : ∀ e ∈ (mPr MX6_checkNew).flatten, eChk MX6_checkNew e = true := List.all_eq_true.mp (by decide +kernel)
set_option maxRecDepth 100000 in
theorem lksX6_checkNew : ∀ e ∈ (mPr MX6_checkNew).flatten, eLink MT MX6_checkNew e := eFl (fc (fc trivial (fc trivial (fc trivial (fc trivial (fc (⟨mthX1_holds, rfl, ⟨_, rfl, ariX1_holds⟩, ⟨_, rfl, rfl⟩, ⟨List.mem_of_getElem? (i := 237) rfl, rfl⟩, insX1_holds, selX1_holds⟩) (fc trivial (fc (⟨⟨List.mem_of_getElem? (i := 461) rfl, rfl⟩, ⟨List.mem_of_getElem? (i := 46) rfl, rfl⟩, 272, 124, _, List.mem_of_getElem? (i := 440) rfl, at_RX6_124, by decide +kernel, Or.inr ⟨by decide +kernel, by decide +kernel, by decide +kernel⟩⟩) (fn)))))))) (fc (fc trivial (fn)) (fn)))
set_option maxRecDepth 100000 in
theorem mokX6_checkNew : eMok MT MX6_checkNew := ⟨cksX6_checkNew, lksX6_checkNew, fn⟩
set_option maxRecDepth 100000 in
theorem cksX6_checkedFaceAt : ∀ e ∈ (mPr MX6_checkedFaceAt).flatten, eChk MX6_checkedFaceAt e = true := List.all_eq_true.mp (by decide +kernel)
set_option maxRecDepth 100000 in
theorem lksX6_checkedFaceAt : ∀ e ∈ (mPr MX6_checkedFaceAt).flatten, eLink MT MX6_checkedFaceAt e := eFl (fc (fc trivial (fc trivial (fc (⟨mthX1_faceAt, rfl, ⟨_, rfl, ariX1_faceAt⟩, ⟨_, rfl, rfl⟩, ⟨List.mem_of_getElem? (i := 606) rfl, rfl⟩, insX1_faceAt, selX1_faceAt⟩) (fc trivial (fc trivial (fc trivial (fc (⟨⟨List.mem_of_getElem? (i := 251) rfl, rfl⟩, ⟨List.mem_of_getElem? (i := 41) rfl, rfl⟩, 274, 263, _, List.mem_of_getElem? (i := 580) rfl, at_RX6_263, by decide +kernel, Or.inr ⟨by decide +kernel, by decide +kernel, by decide +kernel⟩⟩) (fn)))))))) (fc (fc trivial (fc trivial (fn))) (fn)))
set_option maxRecDepth 100000 in
theorem mokX6_checkedFaceAt : eMok MT MX6_checkedFaceAt := ⟨cksX6_checkedFaceAt, lksX6_checkedFaceAt, fn⟩
set_option maxRecDepth 100000 in
theorem cksX6_checksumOn : ∀ e ∈ (mPr MX6_checksumOn).flatten, eChk MX6_checksumOn e = true := List.all_eq_true.mp (by decide +kernel)
set_option maxRecDepth 100000 in
theorem lksX6_checksumOn : ∀ e ∈ (mPr MX6_checksumOn).flatten, eLink MT MX6_checksumOn e := eFl (fc (fc trivial (fc (⟨List.mem_of_getElem? (i := 236) rfl, rfl⟩) (fc trivial (fc trivial (fc (⟨mthX1_count, rfl, ⟨_, rfl, ariX1_count⟩, ⟨_, rfl, rfl⟩, ⟨List.mem_of_getElem? (i := 202) rfl, rfl⟩, insX1_count, selX1_count⟩) (fc trivial (fc trivial (fc trivial (fc trivial (fc trivial (fc trivial (fn)))))))))))) (fc (fc trivial (fc trivial (fc trivial (fc trivial (fc (⟨mthX1_holds, rfl, ⟨_, rfl, ariX1_holds⟩, ⟨_, rfl, rfl⟩, ⟨List.mem_of_getElem? (i := 237) rfl, rfl⟩, insX1_holds, selX1_holds⟩) (fc trivial (fc trivial (fn)))))))) (fc (fc (⟨List.mem_of_getElem? (i := 236) rfl, rfl⟩) (fc trivial (fc trivial (fc trivial (fc trivial (fc trivial (fc trivial (fc trivial (fc trivial (fn)))))))))) (fc (fc trivial (fn)) (fn)))))
set_option maxRecDepth 100000 in
theorem mokX6_checksumOn : eMok MT MX6_checksumOn := ⟨cksX6_checksumOn, lksX6_checksumOn, fn⟩
set_option maxRecDepth 100000 in
theorem cksX6_heightOf : ∀ e ∈ (mPr MX6_heightOf).flatten, eChk MX6_heightOf e = true := List.all_eq_true.mp (by decide +kernel)
set_option maxRecDepth 100000 in
theorem lksX6_heightOf : ∀ e ∈ (mPr MX6_heightOf).flatten, eLink MT MX6_heightOf e := eFl (fc (fc trivial (fc (⟨mthJ6_bitCount_0f7a4, ariJ6_bitCount_0f7a4, staJ6_bitCount_0f7a4, rfl, ⟨List.mem_of_getElem? (i := 89) rfl, rfl⟩⟩) (fc trivial (fc trivial (fc trivial (fn)))))) (fn))
set_option maxRecDepth 100000 in
theorem mokX6_heightOf : eMok MT MX6_heightOf := ⟨cksX6_heightOf, lksX6_heightOf, fn⟩
set_option maxRecDepth 100000 in
theorem cksX6_leastCorner : ∀ e ∈ (mPr MX6_leastCorner).flatten, eChk MX6_leastCorner e = true := List.all_eq_true.mp (by decide +kernel)
set_option maxRecDepth 100000 in
theorem lksX6_leastCorner : ∀ e ∈ (mPr MX6_leastCorner).flatten, eLink MT MX6_leastCorner e := eFl (fc (fc trivial (fc trivial (fc trivial (fc trivial (fc trivial (fn)))))) (fn))
set_option maxRecDepth 100000 in
theorem mokX6_leastCorner : eMok MT MX6_leastCorner := ⟨cksX6_leastCorner, lksX6_leastCorner, fn⟩
set_option maxRecDepth 100000 in
theorem cksX7_init : ∀ e ∈ (mPr MX7_init).flatten, eChk MX7_init e = true := List.all_eq_true.mp (by decide +kernel)
set_option maxRecDepth 100000 in
theorem lksX7_init : ∀ e ∈ (mPr MX7_init).flatten, eLink MT MX7_init e := eFl (fc (fc trivial (fc (⟨⟨List.mem_of_getElem? (i := 913) rfl, rfl⟩, ⟨List.mem_of_getElem? (i := 54) rfl, rfl⟩, ⟨List.mem_of_getElem? (i := 55) rfl, rfl⟩⟩) (fc trivial (fc trivial (fc (⟨⟨List.mem_of_getElem? (i := 939) rfl, rfl⟩, rfl, Nat.le_of_ble_eq_true rfl⟩) (fc (⟨_, _, _, rfl, Nat.le_of_ble_eq_true rfl, ⟨List.mem_of_getElem? (i := 914) rfl, rfl⟩, by decide +kernel⟩) (fc trivial (fc trivial (fn))))))))) (fc (fc (⟨⟨List.mem_of_getElem? (i := 939) rfl, rfl⟩, rfl, Nat.le_of_ble_eq_true rfl⟩) (fc (⟨_, _, _, rfl, Nat.le_of_ble_eq_true rfl, ⟨List.mem_of_getElem? (i := 915) rfl, rfl⟩, by decide +kernel⟩) (fc trivial (fc trivial (fc (⟨⟨List.mem_of_getElem? (i := 939) rfl, rfl⟩, rfl, Nat.le_of_ble_eq_true rfl⟩) (fc (⟨_, _, _, rfl, Nat.le_of_ble_eq_true rfl, ⟨List.mem_of_getElem? (i := 916) rfl, rfl⟩, by decide +kernel⟩) (fc trivial (fn)))))))) (fc (fc trivial (fc (⟨⟨List.mem_of_getElem? (i := 939) rfl, rfl⟩, rfl, Nat.le_of_ble_eq_true rfl⟩) (fc (⟨_, _, _, rfl, Nat.le_of_ble_eq_true rfl, ⟨List.mem_of_getElem? (i := 917) rfl, rfl⟩, by decide +kernel⟩) (fc trivial (fc trivial (fc (⟨⟨List.mem_of_getElem? (i := 109) rfl, rfl⟩, rfl, Nat.le_of_ble_eq_true rfl⟩) (fc (⟨_, _, _, rfl, Nat.le_of_ble_eq_true rfl, ⟨List.mem_of_getElem? (i := 918) rfl, rfl⟩, by decide +kernel⟩) (fn)))))))) (fc (fc trivial (fc trivial (fc (⟨⟨List.mem_of_getElem? (i := 110) rfl, rfl⟩, rfl, Nat.le_of_ble_eq_true rfl⟩) (fc (⟨_, _, _, rfl, Nat.le_of_ble_eq_true rfl, ⟨List.mem_of_getElem? (i := 919) rfl, rfl⟩, by decide +kernel⟩) (fc trivial (fn)))))) (fn)))))
set_option maxRecDepth 100000 in
theorem mokX7_init : eMok MT MX7_init := ⟨cksX7_init, lksX7_init, fn⟩
set_option maxRecDepth 100000 in
theorem cksX7_thrown : ∀ e ∈ (mPr MX7_thrown).flatten, eChk MX7_thrown e = true := List.all_eq_true.mp (by decide +kernel)
set_option maxRecDepth 100000 in
theorem lksX7_thrown : ∀ e ∈ (mPr MX7_thrown).flatten, eLink MT MX7_thrown e := eFl (fc (fc trivial (fc (⟨_, _, _, rfl, Nat.le_of_ble_eq_true rfl, ⟨List.mem_of_getElem? (i := 921) rfl, rfl⟩⟩) (fc trivial (fn)))) (fn))
set_option maxRecDepth 100000 in
theorem mokX7_thrown : eMok MT MX7_thrown := ⟨cksX7_thrown, lksX7_thrown, fn⟩
set_option maxRecDepth 100000 in
theorem cksX7_isWrong : ∀ e ∈ (mPr MX7_isWrong).flatten, eChk MX7_isWrong e = true := List.all_eq_true.mp (by decide +kernel)
set_option maxRecDepth 100000 in
theorem lksX7_isWrong : ∀ e ∈ (mPr MX7_isWrong).flatten, eLink MT MX7_isWrong e := eFl (fc (fc trivial (fc trivial (fc (⟨_, _, _, rfl, Nat.le_of_ble_eq_true rfl, ⟨List.mem_of_getElem? (i := 921) rfl, rfl⟩, by decide +kernel⟩) (fc trivial (fc trivial (fc trivial (fc trivial (fc trivial (fc trivial (fn)))))))))) (fn))
set_option maxRecDepth 100000 in
theorem mokX7_isWrong : eMok MT MX7_isWrong := ⟨cksX7_isWrong, lksX7_isWrong, fn⟩
set_option maxRecDepth 100000 in
theorem cksX7_isIn : ∀ e ∈ (mPr MX7_isIn).flatten, eChk MX7_isIn e = true := List.all_eq_true.mp (by decide +kernel)
set_option maxRecDepth 100000 in
theorem lksX7_isIn : ∀ e ∈ (mPr MX7_isIn).flatten, eLink MT MX7_isIn e := eFl (fc (fc trivial (fc trivial (fc trivial (fc trivial (fc trivial (fc trivial (fc trivial (fc trivial (fc trivial (fc trivial (fn))))))))))) (fn))
set_option maxRecDepth 100000 in
theorem mokX7_isIn : eMok MT MX7_isIn := ⟨cksX7_isIn, lksX7_isIn, fn⟩
set_option maxRecDepth 100000 in
theorem cksX7_isPlace : ∀ e ∈ (mPr MX7_isPlace).flatten, eChk MX7_isPlace e = true := List.all_eq_true.mp (by decide +kernel)
set_option maxRecDepth 100000 in
theorem lksX7_isPlace : ∀ e ∈ (mPr MX7_isPlace).flatten, eLink MT MX7_isPlace e := eFl (fc (fc trivial (fc trivial (fc trivial (fc (⟨mthX7_isIn, ariX7_isIn, staX7_isIn, rfl, ⟨List.mem_of_getElem? (i := 951) rfl, rfl⟩⟩) (fc trivial (fn)))))) (fn))
set_option maxRecDepth 100000 in
theorem mokX7_isPlace : eMok MT MX7_isPlace := ⟨cksX7_isPlace, lksX7_isPlace, fn⟩
set_option maxRecDepth 100000 in
theorem cksX7_isFace : ∀ e ∈ (mPr MX7_isFace).flatten, eChk MX7_isFace e = true := List.all_eq_true.mp (by decide +kernel)
set_option maxRecDepth 100000 in
theorem lksX7_isFace : ∀ e ∈ (mPr MX7_isFace).flatten, eLink MT MX7_isFace e := eFl (fc (fc trivial (fc trivial (fc trivial (fc (⟨mthX7_isIn, ariX7_isIn, staX7_isIn, rfl, ⟨List.mem_of_getElem? (i := 951) rfl, rfl⟩⟩) (fc trivial (fn)))))) (fn))
set_option maxRecDepth 100000 in
theorem mokX7_isFace : eMok MT MX7_isFace := ⟨cksX7_isFace, lksX7_isFace, fn⟩
set_option maxRecDepth 100000 in
theorem cksX7_isCorner : ∀ e ∈ (mPr MX7_isCorner).flatten, eChk MX7_isCorner e = true := List.all_eq_true.mp (by decide +kernel)
set_option maxRecDepth 100000 in
theorem lksX7_isCorner : ∀ e ∈ (mPr MX7_isCorner).flatten, eLink MT MX7_isCorner e := eFl (fc (fc trivial (fc trivial (fc trivial (fc (⟨mthX7_isIn, ariX7_isIn, staX7_isIn, rfl, ⟨List.mem_of_getElem? (i := 951) rfl, rfl⟩⟩) (fc trivial (fn)))))) (fn))
set_option maxRecDepth 100000 in
theorem mokX7_isCorner : eMok MT MX7_isCorner := ⟨cksX7_isCorner, lksX7_isCorner, fn⟩
set_option maxRecDepth 100000 in
theorem cksX7_isHeight : ∀ e ∈ (mPr MX7_isHeight).flatten, eChk MX7_isHeight e = true := List.all_eq_true.mp (by decide +kernel)
set_option maxRecDepth 100000 in
theorem lksX7_isHeight : ∀ e ∈ (mPr MX7_isHeight).flatten, eLink MT MX7_isHeight e := eFl (fc (fc trivial (fc trivial (fc trivial (fc (⟨mthX7_isIn, ariX7_isIn, staX7_isIn, rfl, ⟨List.mem_of_getElem? (i := 951) rfl, rfl⟩⟩) (fc trivial (fn)))))) (fn))
set_option maxRecDepth 100000 in
theorem mokX7_isHeight : eMok MT MX7_isHeight := ⟨cksX7_isHeight, lksX7_isHeight, fn⟩
set_option maxRecDepth 100000 in
theorem cksX7_isThere : ∀ e ∈ (mPr MX7_isThere).flatten, eChk MX7_isThere e = true := List.all_eq_true.mp (by decide +kernel)
set_option maxRecDepth 100000 in
theorem lksX7_isThere : ∀ e ∈ (mPr MX7_isThere).flatten, eLink MT MX7_isThere e := eFl (fc (fc trivial (fc (⟨_, _, _, rfl, Nat.le_of_ble_eq_true rfl, ⟨List.mem_of_getElem? (i := 914) rfl, rfl⟩⟩) (fc trivial (fc trivial (fc trivial (fc trivial (fc trivial (fc trivial (fc trivial (fn)))))))))) (fn))
set_option maxRecDepth 100000 in
theorem mokX7_isThere : eMok MT MX7_isThere := ⟨cksX7_isThere, lksX7_isThere, fn⟩
set_option maxRecDepth 100000 in
theorem cksX7_cornersOf : ∀ e ∈ (mPr MX7_cornersOf).flatten, eChk MX7_cornersOf e = true := List.all_eq_true.mp (by decide +kernel)
set_option maxRecDepth 100000 in
theorem lksX7_cornersOf : ∀ e ∈ (mPr MX7_cornersOf).flatten, eLink MT MX7_cornersOf e := eFl (fc (fc trivial (fc trivial (fc trivial (fc trivial (fc trivial (fc trivial (fc trivial (fc trivial (fc trivial (fc trivial (fc trivial (fc trivial (fc trivial (fn)))))))))))))) (fc (fc trivial (fc trivial (fc trivial (fc trivial (fc trivial (fc trivial (fn))))))) (fn)))
set_option maxRecDepth 100000 in
theorem mokX7_cornersOf : eMok MT MX7_cornersOf := ⟨cksX7_cornersOf, lksX7_cornersOf, fn⟩
set_option maxRecDepth 100000 in
theorem cksX7_height : ∀ e ∈ (mPr MX7_height).flatten, eChk MX7_height e = true := List.all_eq_true.mp (by decide +kernel)
set_option maxRecDepth 100000 in
theorem lksX7_height : ∀ e ∈ (mPr MX7_height).flatten, eLink MT MX7_height e := eFl (fc (fc trivial (fc (⟨mthX7_cornersOf, ariX7_cornersOf, staX7_cornersOf, rfl, ⟨List.mem_of_getElem? (i := 1018) rfl, rfl⟩⟩) (fc trivial (fc trivial (fc trivial (fn)))))) (fn))
set_option maxRecDepth 100000 in
theorem mokX7_height : eMok MT MX7_height := ⟨cksX7_height, lksX7_height, fn⟩
set_option maxRecDepth 100000 in
theorem cksX7_isPart : ∀ e ∈ (mPr MX7_isPart).flatten, eChk MX7_isPart e = true := List.all_eq_true.mp (by decide +kernel)
set_option maxRecDepth 100000 in
theorem lksX7_isPart : ∀ e ∈ (mPr MX7_isPart).flatten, eLink MT MX7_isPart e := eFl (fc (fc trivial (fc trivial (fc trivial (fc trivial (fc trivial (fc trivial (fc trivial (fc trivial (fc trivial (fn)))))))))) (fn))
set_option maxRecDepth 100000 in
theorem mokX7_isPart : eMok MT MX7_isPart := ⟨cksX7_isPart, lksX7_isPart, fn⟩
set_option maxRecDepth 100000 in
theorem cksX7_sizeOf : ∀ e ∈ (mPr MX7_sizeOf).flatten, eChk MX7_sizeOf e = true := List.all_eq_true.mp (by decide +kernel)
set_option maxRecDepth 100000 in
theorem lksX7_sizeOf : ∀ e ∈ (mPr MX7_sizeOf).flatten, eLink MT MX7_sizeOf e := eFl (fc (fc trivial (fc trivial (fc trivial (fc trivial (fc trivial (fc trivial (fc trivial (fc trivial (fc trivial (fc trivial (fc trivial (fc (⟨mthX7_isThere, rfl, ⟨_, rfl, ariX7_isThere⟩, ⟨_, rfl, rfl⟩, ⟨List.mem_of_getElem? (i := 964) rfl, rfl⟩, insX7_isThere, selX7_isThere⟩) (fn))))))))))))) (fc (fc trivial (fc trivial (fc trivial (fc trivial (fc trivial (fc trivial (fc trivial (fc trivial (fn))))))))) (fc (fc trivial (fc trivial (fn))) (fn))))
set_option maxRecDepth 100000 in
theorem mokX7_sizeOf : eMok MT MX7_sizeOf := ⟨cksX7_sizeOf, lksX7_sizeOf, fn⟩
set_option maxRecDepth 100000 in
theorem cksX7_cornersAt : ∀ e ∈ (mPr MX7_cornersAt).flatten, eChk MX7_cornersAt e = true := List.all_eq_true.mp (by decide +kernel)
set_option maxRecDepth 100000 in
theorem lksX7_cornersAt : ∀ e ∈ (mPr MX7_cornersAt).flatten, eLink MT MX7_cornersAt e := eFl (fc (fc trivial (fc trivial (fc trivial (fc trivial (fc trivial (fc trivial (fc trivial (fc trivial (fc trivial (fc trivial (fc trivial (fc (⟨mthX7_isThere, rfl, ⟨_, rfl, ariX7_isThere⟩, ⟨_, rfl, rfl⟩, ⟨List.mem_of_getElem? (i := 964) rfl, rfl⟩, insX7_isThere, selX7_isThere⟩) (fn))))))))))))) (fc (fc trivial (fc trivial (fc trivial (fc trivial (fc trivial (fc trivial (fc trivial (fc trivial (fn))))))))) (fc (fc trivial (fc trivial (fn))) (fn))))
set_option maxRecDepth 100000 in
theorem mokX7_cornersAt : eMok MT MX7_cornersAt := ⟨cksX7_cornersAt, lksX7_cornersAt, fn⟩
set_option maxRecDepth 100000 in
theorem cksX7_overAt : ∀ e ∈ (mPr MX7_overAt).flatten, eChk MX7_overAt e = true := List.all_eq_true.mp (by decide +kernel)
set_option maxRecDepth 100000 in
theorem lksX7_overAt : ∀ e ∈ (mPr MX7_overAt).flatten, eLink MT MX7_overAt e := eFl (fc (fc trivial (fc trivial (fc trivial (fc trivial (fc trivial (fc trivial (fc trivial (fc trivial (fc trivial (fn)))))))))) (fc (fc trivial (fc trivial (fc trivial (fc trivial (fc (⟨mthX7_isPart, ariX7_isPart, staX7_isPart, rfl, ⟨List.mem_of_getElem? (i := 961) rfl, rfl⟩⟩) (fc trivial (fc trivial (fc trivial (fc trivial (fn)))))))))) (fc (fc (⟨mthX7_isThere, rfl, ⟨_, rfl, ariX7_isThere⟩, ⟨_, rfl, rfl⟩, ⟨List.mem_of_getElem? (i := 964) rfl, rfl⟩, insX7_isThere, selX7_isThere⟩) (fc trivial (fc trivial (fc trivial (fc trivial (fc trivial (fc trivial (fc trivial (fn))))))))) (fc (fc trivial (fc trivial (fc trivial (fn)))) (fn)))))
set_option maxRecDepth 100000 in
theorem mokX7_overAt : eMok MT MX7_overAt := ⟨cksX7_overAt, lksX7_overAt, fn⟩
set_option maxRecDepth 100000 in
theorem cksX7_isGreatest : ∀ e ∈ (mPr MX7_isGreatest).flatten, eChk MX7_isGreatest e = true := List.all_eq_true.mp (by decide +kernel)
set_option maxRecDepth 100000 in
theorem lksX7_isGreatest : ∀ e ∈ (mPr MX7_isGreatest).flatten, eLink MT MX7_isGreatest e := eFl (fc (fc trivial (fc trivial (fc trivial (fc (⟨mthX7_isThere, rfl, ⟨_, rfl, ariX7_isThere⟩, ⟨_, rfl, rfl⟩, ⟨List.mem_of_getElem? (i := 964) rfl, rfl⟩, insX7_isThere, selX7_isThere⟩) (fc trivial (fc trivial (fc trivial (fc trivial (fc (⟨mthX7_overAt, rfl, ⟨_, rfl, ariX7_overAt⟩, ⟨_, rfl, rfl⟩, ⟨List.mem_of_getElem? (i := 1059) rfl, rfl⟩, insX7_overAt, selX7_overAt⟩) (fc trivial (fn))))))))))) (fc (fc trivial (fc trivial (fc trivial (fc trivial (fn))))) (fn)))
set_option maxRecDepth 100000 in
theorem mokX7_isGreatest : eMok MT MX7_isGreatest := ⟨cksX7_isGreatest, lksX7_isGreatest, fn⟩
set_option maxRecDepth 100000 in
theorem cksX7_keep : ∀ e ∈ (mPr MX7_keep).flatten, eChk MX7_keep e = true := List.all_eq_true.mp (by decide +kernel)
set_option maxRecDepth 100000 in
theorem lksX7_keep : ∀ e ∈ (mPr MX7_keep).flatten, eLink MT MX7_keep e := eFl (fc (fc trivial (fc trivial (fc trivial (fc trivial (fc trivial (fc trivial (fc (⟨_, _, _, rfl, Nat.le_of_ble_eq_true rfl, ⟨List.mem_of_getElem? (i := 914) rfl, rfl⟩⟩) (fc trivial (fn))))))))) (fc (fc trivial (fc trivial (fc trivial (fc trivial (fc trivial (fc (⟨_, _, _, rfl, Nat.le_of_ble_eq_true rfl, ⟨List.mem_of_getElem? (i := 915) rfl, rfl⟩⟩) (fc trivial (fc trivial (fc trivial (fc trivial (fc trivial (fn)))))))))))) (fc (fc trivial (fc trivial (fc (⟨mthX7_sizeOf, rfl, ⟨_, rfl, ariX7_sizeOf⟩, ⟨_, rfl, rfl⟩, ⟨List.mem_of_getElem? (i := 984) rfl, rfl⟩, insX7_sizeOf, selX7_sizeOf⟩) (fc trivial (fn))))) (fn))))
set_option maxRecDepth 100000 in
theorem mokX7_keep : eMok MT MX7_keep := ⟨cksX7_keep, lksX7_keep, fn⟩
set_option maxRecDepth 100000 in
theorem cksX7_missing : ∀ e ∈ (mPr MX7_missing).flatten, eChk MX7_missing e = true := List.all_eq_true.mp (by decide +kernel)
set_option maxRecDepth 100000 in
theorem lksX7_missing : ∀ e ∈ (mPr MX7_missing).flatten, eLink MT MX7_missing e := eFl (fc (fc trivial (fc (⟨mthX7_isPlace, ariX7_isPlace, staX7_isPlace, rfl, ⟨List.mem_of_getElem? (i := 948) rfl, rfl⟩⟩) (fc trivial (fc trivial (fc trivial (fc trivial (fc (⟨mthX7_isFace, ariX7_isFace, staX7_isFace, rfl, ⟨List.mem_of_getElem? (i := 954) rfl, rfl⟩⟩) (fc trivial (fn))))))))) (fc (fc trivial (fc trivial (fc trivial (fc trivial (fc trivial (fc (⟨mthX7_isThere, rfl, ⟨_, rfl, ariX7_isThere⟩, ⟨_, rfl, rfl⟩, ⟨List.mem_of_getElem? (i := 964) rfl, rfl⟩, insX7_isThere, selX7_isThere⟩) (fc trivial (fc trivial (fn))))))))) (fc (fc trivial (fc trivial (fc trivial (fn)))) (fn))))
set_option maxRecDepth 100000 in
theorem mokX7_missing : eMok MT MX7_missing := ⟨cksX7_missing, lksX7_missing, fn⟩
set_option maxRecDepth 100000 in
theorem cksX7_put : ∀ e ∈ (mPr MX7_put).flatten, eChk MX7_put e = true := List.all_eq_true.mp (by decide +kernel)
set_option maxRecDepth 100000 in
theorem lksX7_put : ∀ e ∈ (mPr MX7_put).flatten, eLink MT MX7_put e := eFl (fc (fc trivial (fc trivial (fc (⟨mthX7_isPlace, ariX7_isPlace, staX7_isPlace, rfl, ⟨List.mem_of_getElem? (i := 948) rfl, rfl⟩⟩) (fc trivial (fc trivial (fc trivial (fc trivial (fc (⟨mthX7_isFace, ariX7_isFace, staX7_isFace, rfl, ⟨List.mem_of_getElem? (i := 954) rfl, rfl⟩⟩) (fn))))))))) (fc (fc trivial (fc trivial (fc trivial (fc trivial (fc (⟨mthX7_isWrong, rfl, ⟨_, rfl, ariX7_isWrong⟩, ⟨_, rfl, rfl⟩, ⟨List.mem_of_getElem? (i := 957) rfl, rfl⟩, insX7_isWrong, selX7_isWrong⟩) (fc trivial (fc trivial (fc trivial (fn))))))))) (fc (fc trivial (fc trivial (fc trivial (fc trivial (fc trivial (fc trivial (fc trivial (fc trivial (fc trivial (fn)))))))))) (fc (fc (⟨mthX7_isPart, ariX7_isPart, staX7_isPart, rfl, ⟨List.mem_of_getElem? (i := 961) rfl, rfl⟩⟩) (fc trivial (fc trivial (fc trivial (fc trivial (fc (⟨mthX7_isThere, rfl, ⟨_, rfl, ariX7_isThere⟩, ⟨_, rfl, rfl⟩, ⟨List.mem_of_getElem? (i := 964) rfl, rfl⟩, insX7_isThere, selX7_isThere⟩) (fc trivial (fn)))))))) (fc (fc trivial (fc trivial (fc (⟨_, _, _, rfl, Nat.le_of_ble_eq_true rfl, ⟨List.mem_of_getElem? (i := 914) rfl, rfl⟩⟩) (fc trivial (fc trivial (fc trivial (fc trivial (fc trivial (fc trivial (fn)))))))))) (fc (fc trivial (fc trivial (fc trivial (fc trivial (fc trivial (fc trivial (fn))))))) (fn)))))))
set_option maxRecDepth 100000 in
theorem mokX7_put : eMok MT MX7_put := ⟨cksX7_put, lksX7_put, fn⟩
set_option maxRecDepth 100000 in
theorem cksX7_takeOut : ∀ e ∈ (mPr MX7_takeOut).flatten, eChk MX7_takeOut e = true := List.all_eq_true.mp (by decide +kernel)
set_option maxRecDepth 100000 in
theorem lksX7_takeOut : ∀ e ∈ (mPr MX7_takeOut).flatten, eLink MT MX7_takeOut e := eFl (fc (fc trivial (fc trivial (fc trivial (fc trivial (fc trivial (fc trivial (fc trivial (fc trivial (fc trivial (fn)))))))))) (fc (fc (⟨mthX7_isPart, ariX7_isPart, staX7_isPart, rfl, ⟨List.mem_of_getElem? (i := 961) rfl, rfl⟩⟩) (fc trivial (fc trivial (fc trivial (fc trivial (fc (⟨mthX7_isThere, rfl, ⟨_, rfl, ariX7_isThere⟩, ⟨_, rfl, rfl⟩, ⟨List.mem_of_getElem? (i := 964) rfl, rfl⟩, insX7_isThere, selX7_isThere⟩) (fc trivial (fn)))))))) (fc (fc trivial (fc trivial (fc (⟨_, _, _, rfl, Nat.le_of_ble_eq_true rfl, ⟨List.mem_of_getElem? (i := 914) rfl, rfl⟩⟩) (fc trivial (fc trivial (fc trivial (fc trivial (fc trivial (fc trivial (fn)))))))))) (fc (fc trivial (fc trivial (fc trivial (fc trivial (fc trivial (fc trivial (fn))))))) (fn)))))
set_option maxRecDepth 100000 in
theorem mokX7_takeOut : eMok MT MX7_takeOut := ⟨cksX7_takeOut, lksX7_takeOut, fn⟩
set_option maxRecDepth 100000 in
theorem cksX7_take : ∀ e ∈ (mPr MX7_take).flatten, eChk MX7_take e = true := List.all_eq_true.mp (by decide +kernel)
set_option maxRecDepth 100000 in
theorem lksX7_take : ∀ e ∈ (mPr MX7_take).flatten, eLink MT MX7_take e := eFl (fc (fc trivial (fc trivial (fc trivial (fc trivial (fc (⟨mthX7_missing, rfl, ⟨_, rfl, ariX7_missing⟩, ⟨_, rfl, rfl⟩, ⟨List.mem_of_getElem? (i := 972) rfl, rfl⟩, insX7_missing, selX7_missing⟩) (fc (⟨mthX7_isWrong, rfl, ⟨_, rfl, ariX7_isWrong⟩, ⟨_, rfl, rfl⟩, ⟨List.mem_of_getElem? (i := 957) rfl, rfl⟩, insX7_isWrong, selX7_isWrong⟩) (fc trivial (fc trivial (fc trivial (fc trivial (fn))))))))))) (fc (fc trivial (fc trivial (fc (⟨mthX7_takeOut, rfl, ⟨_, rfl, ariX7_takeOut⟩, ⟨_, rfl, rfl⟩, ⟨List.mem_of_getElem? (i := 976) rfl, rfl⟩, insX7_takeOut, selX7_takeOut⟩) (fc trivial (fn))))) (fn)))
set_option maxRecDepth 100000 in
theorem mokX7_take : eMok MT MX7_take := ⟨cksX7_take, lksX7_take, fn⟩
set_option maxRecDepth 100000 in
theorem cksX7_clear : ∀ e ∈ (mPr MX7_clear).flatten, eChk MX7_clear e = true := List.all_eq_true.mp (by decide +kernel)
set_option maxRecDepth 100000 in
theorem lksX7_clear : ∀ e ∈ (mPr MX7_clear).flatten, eLink MT MX7_clear e := eFl (fc (fc trivial (fc trivial (fc (⟨mthX7_isPlace, ariX7_isPlace, staX7_isPlace, rfl, ⟨List.mem_of_getElem? (i := 948) rfl, rfl⟩⟩) (fc trivial (fc trivial (fc trivial (fc trivial (fc (⟨mthX7_isWrong, rfl, ⟨_, rfl, ariX7_isWrong⟩, ⟨_, rfl, rfl⟩, ⟨List.mem_of_getElem? (i := 957) rfl, rfl⟩, insX7_isWrong, selX7_isWrong⟩) (fn))))))))) (fc (fc trivial (fc trivial (fc trivial (fc trivial (fc trivial (fc (⟨mthX7_sizeOf, rfl, ⟨_, rfl, ariX7_sizeOf⟩, ⟨_, rfl, rfl⟩, ⟨List.mem_of_getElem? (i := 984) rfl, rfl⟩, insX7_sizeOf, selX7_sizeOf⟩) (fc trivial (fc trivial (fc trivial (fc trivial (fc trivial (fn)))))))))))) (fc (fc trivial (fc trivial (fc (⟨_, _, _, rfl, Nat.le_of_ble_eq_true rfl, ⟨List.mem_of_getElem? (i := 914) rfl, rfl⟩⟩) (fc trivial (fc trivial (fc trivial (fc trivial (fc trivial (fc trivial (fn)))))))))) (fc (fc trivial (fc trivial (fc trivial (fc trivial (fc trivial (fn)))))) (fn)))))
set_option maxRecDepth 100000 in
theorem mokX7_clear : eMok MT MX7_clear := ⟨cksX7_clear, lksX7_clear, fn⟩
set_option maxRecDepth 100000 in
theorem cksX7_copy : ∀ e ∈ (mPr MX7_copy).flatten, eChk MX7_copy e = true := List.all_eq_true.mp (by decide +kernel)
set_option maxRecDepth 100000 in
theorem lksX7_copy : ∀ e ∈ (mPr MX7_copy).flatten, eLink MT MX7_copy e := eFl (fc (fc trivial (fc trivial (fc (⟨mthX7_isPlace, ariX7_isPlace, staX7_isPlace, rfl, ⟨List.mem_of_getElem? (i := 948) rfl, rfl⟩⟩) (fc trivial (fc trivial (fc (⟨mthX7_isPlace, ariX7_isPlace, staX7_isPlace, rfl, ⟨List.mem_of_getElem? (i := 948) rfl, rfl⟩⟩) (fc trivial (fc trivial (fn))))))))) (fc (fc trivial (fc trivial (fc (⟨mthX7_isWrong, rfl, ⟨_, rfl, ariX7_isWrong⟩, ⟨_, rfl, rfl⟩, ⟨List.mem_of_getElem? (i := 957) rfl, rfl⟩, insX7_isWrong, selX7_isWrong⟩) (fc trivial (fc trivial (fc trivial (fc trivial (fc trivial (fc trivial (fc trivial (fn))))))))))) (fc (fc trivial (fc trivial (fc (⟨_, _, _, rfl, Nat.le_of_ble_eq_true rfl, ⟨List.mem_of_getElem? (i := 915) rfl, rfl⟩⟩) (fc trivial (fc trivial (fc trivial (fc trivial (fc (⟨mthX7_isThere, rfl, ⟨_, rfl, ariX7_isThere⟩, ⟨_, rfl, rfl⟩, ⟨List.mem_of_getElem? (i := 964) rfl, rfl⟩, insX7_isThere, selX7_isThere⟩) (fn))))))))) (fc (fc trivial (fc trivial (fc trivial (fc trivial (fc trivial (fc (⟨mthX7_keep, rfl, ⟨_, rfl, ariX7_keep⟩, ⟨_, rfl, rfl⟩, ⟨List.mem_of_getElem? (i := 992) rfl, rfl⟩, insX7_keep, selX7_keep⟩) (fc trivial (fn)))))))) (fn)))))
set_option maxRecDepth 100000 in
theorem mokX7_copy : eMok MT MX7_copy := ⟨cksX7_copy, lksX7_copy, fn⟩
set_option maxRecDepth 100000 in
theorem cksX7_unite : ∀ e ∈ (mPr MX7_unite).flatten, eChk MX7_unite e = true := List.all_eq_true.mp (by decide +kernel)
set_option maxRecDepth 100000 in
theorem lksX7_unite : ∀ e ∈ (mPr MX7_unite).flatten, eLink MT MX7_unite e := eFl (fc (fc trivial (fc trivial (fc (⟨mthX7_isPlace, ariX7_isPlace, staX7_isPlace, rfl, ⟨List.mem_of_getElem? (i := 948) rfl, rfl⟩⟩) (fc trivial (fc trivial (fc (⟨mthX7_isPlace, ariX7_isPlace, staX7_isPlace, rfl, ⟨List.mem_of_getElem? (i := 948) rfl, rfl⟩⟩) (fc trivial (fc trivial (fn))))))))) (fc (fc (⟨mthX7_isPlace, ariX7_isPlace, staX7_isPlace, rfl, ⟨List.mem_of_getElem? (i := 948) rfl, rfl⟩⟩) (fc trivial (fc trivial (fc trivial (fc trivial (fc (⟨mthX7_isWrong, rfl, ⟨_, rfl, ariX7_isWrong⟩, ⟨_, rfl, rfl⟩, ⟨List.mem_of_getElem? (i := 957) rfl, rfl⟩, insX7_isWrong, selX7_isWrong⟩) (fc trivial (fn)))))))) (fc (fc trivial (fc trivial (fc trivial (fc trivial (fc trivial (fc trivial (fc trivial (fc trivial (fc (⟨_, _, _, rfl, Nat.le_of_ble_eq_true rfl, ⟨List.mem_of_getElem? (i := 915) rfl, rfl⟩⟩) (fn)))))))))) (fc (fc trivial (fc trivial (fc trivial (fc trivial (fc (⟨mthX7_isThere, rfl, ⟨_, rfl, ariX7_isThere⟩, ⟨_, rfl, rfl⟩, ⟨List.mem_of_getElem? (i := 964) rfl, rfl⟩, insX7_isThere, selX7_isThere⟩) (fc trivial (fc trivial (fc trivial (fn))))))))) (fc (fc trivial (fc (⟨mthX7_isThere, rfl, ⟨_, rfl, ariX7_isThere⟩, ⟨_, rfl, rfl⟩, ⟨List.mem_of_getElem? (i := 964) rfl, rfl⟩, insX7_isThere, selX7_isThere⟩) (fc trivial (fc trivial (fc trivial (fc trivial (fc trivial (fc trivial (fn))))))))) (fc (fc trivial (fc trivial (fc trivial (fc (⟨mthX7_keep, rfl, ⟨_, rfl, ariX7_keep⟩, ⟨_, rfl, rfl⟩, ⟨List.mem_of_getElem? (i := 992) rfl, rfl⟩, insX7_keep, selX7_keep⟩) (fc trivial (fn)))))) (fn)))))))
set_option maxRecDepth 100000 in
theorem mokX7_unite : eMok MT MX7_unite := ⟨cksX7_unite, lksX7_unite, fn⟩
set_option maxRecDepth 100000 in
theorem cksX7_meet : ∀ e ∈ (mPr MX7_meet).flatten, eChk MX7_meet e = true := List.all_eq_true.mp (by decide +kernel)
set_option maxRecDepth 100000 in
theorem lksX7_meet : ∀ e ∈ (mPr MX7_meet).flatten, eLink MT MX7_meet e := eFl (fc (fc trivial (fc trivial (fc (⟨mthX7_isPlace, ariX7_isPlace, staX7_isPlace, rfl, ⟨List.mem_of_getElem? (i := 948) rfl, rfl⟩⟩) (fc trivial (fc trivial (fc (⟨mthX7_isPlace, ariX7_isPlace, staX7_isPlace, rfl, ⟨List.mem_of_getElem? (i := 948) rfl, rfl⟩⟩) (fc trivial (fc trivial (fn))))))))) (fc (fc (⟨mthX7_isPlace, ariX7_isPlace, staX7_isPlace, rfl, ⟨List.mem_of_getElem? (i := 948) rfl, rfl⟩⟩) (fc trivial (fc trivial (fc trivial (fc trivial (fc (⟨mthX7_isWrong, rfl, ⟨_, rfl, ariX7_isWrong⟩, ⟨_, rfl, rfl⟩, ⟨List.mem_of_getElem? (i := 957) rfl, rfl⟩, insX7_isWrong, selX7_isWrong⟩) (fc trivial (fn)))))))) (fc (fc trivial (fc trivial (fc trivial (fc trivial (fc trivial (fc trivial (fc trivial (fc trivial (fc (⟨_, _, _, rfl, Nat.le_of_ble_eq_true rfl, ⟨List.mem_of_getElem? (i := 915) rfl, rfl⟩⟩) (fn)))))))))) (fc (fc trivial (fc trivial (fc trivial (fc trivial (fc (⟨mthX7_isThere, rfl, ⟨_, rfl, ariX7_isThere⟩, ⟨_, rfl, rfl⟩, ⟨List.mem_of_getElem? (i := 964) rfl, rfl⟩, insX7_isThere, selX7_isThere⟩) (fc trivial (fc trivial (fc trivial (fn))))))))) (fc (fc trivial (fc (⟨mthX7_isThere, rfl, ⟨_, rfl, ariX7_isThere⟩, ⟨_, rfl, rfl⟩, ⟨List.mem_of_getElem? (i := 964) rfl, rfl⟩, insX7_isThere, selX7_isThere⟩) (fc trivial (fc trivial (fc trivial (fc trivial (fc trivial (fc trivial (fn))))))))) (fc (fc trivial (fc trivial (fc trivial (fc (⟨mthX7_keep, rfl, ⟨_, rfl, ariX7_keep⟩, ⟨_, rfl, rfl⟩, ⟨List.mem_of_getElem? (i := 992) rfl, rfl⟩, insX7_keep, selX7_keep⟩) (fc trivial (fn)))))) (fn)))))))
set_option maxRecDepth 100000 in
theorem mokX7_meet : eMok MT MX7_meet := ⟨cksX7_meet, lksX7_meet, fn⟩
set_option maxRecDepth 100000 in
theorem cksX7_full : ∀ e ∈ (mPr MX7_full).flatten, eChk MX7_full e = true := List.all_eq_true.mp (by decide +kernel)
set_option maxRecDepth 100000 in
theorem lksX7_full : ∀ e ∈ (mPr MX7_full).flatten, eLink MT MX7_full e := eFl (fc (fc trivial (fc trivial (fc (⟨mthX7_isPlace, ariX7_isPlace, staX7_isPlace, rfl, ⟨List.mem_of_getElem? (i := 948) rfl, rfl⟩⟩) (fc trivial (fc trivial (fc trivial (fc trivial (fc (⟨mthX7_isFace, ariX7_isFace, staX7_isFace, rfl, ⟨List.mem_of_getElem? (i := 954) rfl, rfl⟩⟩) (fn))))))))) (fc (fc trivial (fc trivial (fc trivial (fc trivial (fc (⟨mthX7_isWrong, rfl, ⟨_, rfl, ariX7_isWrong⟩, ⟨_, rfl, rfl⟩, ⟨List.mem_of_getElem? (i := 957) rfl, rfl⟩, insX7_isWrong, selX7_isWrong⟩) (fc trivial (fc trivial (fc trivial (fn))))))))) (fc (fc trivial (fc trivial (fc trivial (fc trivial (fc trivial (fc trivial (fc (⟨_, _, _, rfl, Nat.le_of_ble_eq_true rfl, ⟨List.mem_of_getElem? (i := 915) rfl, rfl⟩⟩) (fc trivial (fn))))))))) (fc (fc trivial (fc trivial (fc (⟨mthX7_isPart, ariX7_isPart, staX7_isPart, rfl, ⟨List.mem_of_getElem? (i := 961) rfl, rfl⟩⟩) (fc trivial (fc trivial (fc trivial (fc trivial (fn)))))))) (fc (fc trivial (fc trivial (fc trivial (fc trivial (fc trivial (fc trivial (fc trivial (fc trivial (fn))))))))) (fc (fc trivial (fc trivial (fc (⟨mthX7_keep, rfl, ⟨_, rfl, ariX7_keep⟩, ⟨_, rfl, rfl⟩, ⟨List.mem_of_getElem? (i := 992) rfl, rfl⟩, insX7_keep, selX7_keep⟩) (fc trivial (fn))))) (fn)))))))
set_option maxRecDepth 100000 in
theorem mokX7_full : eMok MT MX7_full := ⟨cksX7_full, lksX7_full, fn⟩
set_option maxRecDepth 100000 in
theorem cksX7_low : ∀ e ∈ (mPr MX7_low).flatten, eChk MX7_low e = true := List.all_eq_true.mp (by decide +kernel)
set_option maxRecDepth 100000 in
theorem lksX7_low : ∀ e ∈ (mPr MX7_low).flatten, eLink MT MX7_low e := eFl (fc (fc trivial (fc trivial (fc (⟨mthX7_isPlace, ariX7_isPlace, staX7_isPlace, rfl, ⟨List.mem_of_getElem? (i := 948) rfl, rfl⟩⟩) (fc trivial (fc trivial (fc (⟨mthX7_isPlace, ariX7_isPlace, staX7_isPlace, rfl, ⟨List.mem_of_getElem? (i := 948) rfl, rfl⟩⟩) (fc trivial (fc trivial (fn))))))))) (fc (fc trivial (fc trivial (fc (⟨mthX7_isHeight, ariX7_isHeight, staX7_isHeight, rfl, ⟨List.mem_of_getElem? (i := 1012) rfl, rfl⟩⟩) (fc trivial (fc trivial (fc trivial (fc trivial (fc (⟨mthX7_isWrong, rfl, ⟨_, rfl, ariX7_isWrong⟩, ⟨_, rfl, rfl⟩, ⟨List.mem_of_getElem? (i := 957) rfl, rfl⟩, insX7_isWrong, selX7_isWrong⟩) (fn))))))))) (fc (fc trivial (fc trivial (fc trivial (fc trivial (fc trivial (fc trivial (fc trivial (fc trivial (fn))))))))) (fc (fc trivial (fc (⟨_, _, _, rfl, Nat.le_of_ble_eq_true rfl, ⟨List.mem_of_getElem? (i := 915) rfl, rfl⟩⟩) (fc trivial (fc trivial (fc trivial (fc trivial (fc (⟨mthX7_isThere, rfl, ⟨_, rfl, ariX7_isThere⟩, ⟨_, rfl, rfl⟩, ⟨List.mem_of_getElem? (i := 964) rfl, rfl⟩, insX7_isThere, selX7_isThere⟩) (fc trivial (fn))))))))) (fc (fc trivial (fc (⟨mthX7_height, ariX7_height, staX7_height, rfl, ⟨List.mem_of_getElem? (i := 1015) rfl, rfl⟩⟩) (fc trivial (fc trivial (fc trivial (fc trivial (fc trivial (fn)))))))) (fc (fc trivial (fc trivial (fc trivial (fc trivial (fc trivial (fc (⟨mthX7_keep, rfl, ⟨_, rfl, ariX7_keep⟩, ⟨_, rfl, rfl⟩, ⟨List.mem_of_getElem? (i := 992) rfl, rfl⟩, insX7_keep, selX7_keep⟩) (fc trivial (fn)))))))) (fn)))))))
set_option maxRecDepth 100000 in
theorem mokX7_low : eMok MT MX7_low := ⟨cksX7_low, lksX7_low, fn⟩
set_option maxRecDepth 100000 in
theorem cksX7_about : ∀ e ∈ (mPr MX7_about).flatten, eChk MX7_about e = true := List.all_eq_true.mp (by decide +kernel)
set_option maxRecDepth 100000 in
theorem lksX7_about : ∀ e ∈ (mPr MX7_about).flatten, eLink MT MX7_about e := eFl (fc (fc trivial (fc trivial (fc (⟨mthX7_isPlace, ariX7_isPlace, staX7_isPlace, rfl, ⟨List.mem_of_getElem? (i := 948) rfl, rfl⟩⟩) (fc trivial (fc trivial (fc trivial (fc trivial (fc trivial (fc trivial (fn)))))))))) (fc (fc (⟨mthX7_missing, rfl, ⟨_, rfl, ariX7_missing⟩, ⟨_, rfl, rfl⟩, ⟨List.mem_of_getElem? (i := 972) rfl, rfl⟩, insX7_missing, selX7_missing⟩) (fc (⟨mthX7_isWrong, rfl, ⟨_, rfl, ariX7_isWrong⟩, ⟨_, rfl, rfl⟩, ⟨List.mem_of_getElem? (i := 957) rfl, rfl⟩, insX7_isWrong, selX7_isWrong⟩) (fc trivial (fc trivial (fc trivial (fc trivial (fc trivial (fc trivial (fn))))))))) (fc (fc trivial (fc trivial (fc trivial (fc (⟨_, _, _, rfl, Nat.le_of_ble_eq_true rfl, ⟨List.mem_of_getElem? (i := 915) rfl, rfl⟩⟩) (fc trivial (fc trivial (fc trivial (fc trivial (fn))))))))) (fc (fc trivial (fc trivial (fc (⟨mthX7_isThere, rfl, ⟨_, rfl, ariX7_isThere⟩, ⟨_, rfl, rfl⟩, ⟨List.mem_of_getElem? (i := 964) rfl, rfl⟩, insX7_isThere, selX7_isThere⟩) (fc trivial (fc trivial (fc trivial (fc trivial (fc trivial (fc trivial (fn)))))))))) (fc (fc trivial (fc trivial (fc trivial (fc trivial (fc trivial (fc trivial (fc trivial (fc trivial (fn))))))))) (fc (fc trivial (fc (⟨mthX7_keep, rfl, ⟨_, rfl, ariX7_keep⟩, ⟨_, rfl, rfl⟩, ⟨List.mem_of_getElem? (i := 992) rfl, rfl⟩, insX7_keep, selX7_keep⟩) (fc trivial (fn)))) (fn)))))))
set_option maxRecDepth 100000 in
theorem mokX7_about : eMok MT MX7_about := ⟨cksX7_about, lksX7_about, fn⟩
set_option maxRecDepth 100000 in
theorem cksX7_cone : ∀ e ∈ (mPr MX7_cone).flatten, eChk MX7_cone e = true := List.all_eq_true.mp (by decide +kernel)
set_option maxRecDepth 100000 in
theorem lksX7_cone : ∀ e ∈ (mPr MX7_cone).flatten, eLink MT MX7_cone e := eFl (fc (fc trivial (fc trivial (fc (⟨mthX7_isPlace, ariX7_isPlace, staX7_isPlace, rfl, ⟨List.mem_of_getElem? (i := 948) rfl, rfl⟩⟩) (fc trivial (fc trivial (fc (⟨mthX7_isPlace, ariX7_isPlace, staX7_isPlace, rfl, ⟨List.mem_of_getElem? (i := 948) rfl, rfl⟩⟩) (fc trivial (fc trivial (fn))))))))) (fc (fc trivial (fc trivial (fc (⟨mthX7_isCorner, ariX7_isCorner, staX7_isCorner, rfl, ⟨List.mem_of_getElem? (i := 1029) rfl, rfl⟩⟩) (fc trivial (fc trivial (fc trivial (fc trivial (fc trivial (fn))))))))) (fc (fc (⟨mthX7_cornersAt, rfl, ⟨_, rfl, ariX7_cornersAt⟩, ⟨_, rfl, rfl⟩, ⟨List.mem_of_getElem? (i := 1032) rfl, rfl⟩, insX7_cornersAt, selX7_cornersAt⟩) (fc trivial (fc trivial (fc trivial (fc trivial (fc trivial (fc trivial (fc trivial (fc trivial (fc trivial (fn))))))))))) (fc (fc (⟨mthX7_isWrong, rfl, ⟨_, rfl, ariX7_isWrong⟩, ⟨_, rfl, rfl⟩, ⟨List.mem_of_getElem? (i := 957) rfl, rfl⟩, insX7_isWrong, selX7_isWrong⟩) (fc trivial (fc trivial (fc trivial (fc trivial (fc trivial (fc trivial (fc trivial (fn))))))))) (fc (fc trivial (fc trivial (fc (⟨_, _, _, rfl, Nat.le_of_ble_eq_true rfl, ⟨List.mem_of_getElem? (i := 915) rfl, rfl⟩⟩) (fc trivial (fc trivial (fc trivial (fc trivial (fc trivial (fc trivial (fc trivial (fn))))))))))) (fc (fc (⟨mthX7_isLifted, rfl, ⟨_, rfl, ariX7_isLifted⟩, ⟨_, rfl, rfl⟩, ⟨List.mem_of_getElem? (i := 1036) rfl, rfl⟩, insX7_isLifted, selX7_isLifted⟩) (fc trivial (fc trivial (fc trivial (fc trivial (fc trivial (fc (⟨mthX7_keep, rfl, ⟨_, rfl, ariX7_keep⟩, ⟨_, rfl, rfl⟩, ⟨List.mem_of_getElem? (i := 992) rfl, rfl⟩, insX7_keep, selX7_keep⟩) (fc trivial (fn))))))))) (fn)))))))
set_option maxRecDepth 100000 in
theorem mokX7_cone : eMok MT MX7_cone := ⟨cksX7_cone, lksX7_cone, fn⟩
set_option maxRecDepth 100000 in
theorem cksX7_isLifted : ∀ e ∈ (mPr MX7_isLifted).flatten, eChk MX7_isLifted e = true := List.all_eq_true.mp (by decide +kernel)
set_option maxRecDepth 100000 in
theorem lksX7_isLifted : ∀ e ∈ (mPr MX7_isLifted).flatten, eLink MT MX7_isLifted e := eFl (fc (fc trivial (fc trivial (fc trivial (fc trivial (fc trivial (fc trivial (fc trivial (fc trivial (fc trivial (fc trivial (fc trivial (fn)))))))))))) (fc (fc (⟨mthX7_isThere, rfl, ⟨_, rfl, ariX7_isThere⟩, ⟨_, rfl, rfl⟩, ⟨List.mem_of_getElem? (i := 964) rfl, rfl⟩, insX7_isThere, selX7_isThere⟩) (fc trivial (fc trivial (fc trivial (fc trivial (fc trivial (fn))))))) (fn)))
set_option maxRecDepth 100000 in
theorem mokX7_isLifted : eMok MT MX7_isLifted := ⟨cksX7_isLifted, lksX7_isLifted, fn⟩
set_option maxRecDepth 100000 in
theorem cksX7_lift : ∀ e ∈ (mPr MX7_lift).flatten, eChk MX7_lift e = true := List.all_eq_true.mp (by decide +kernel)
set_option maxRecDepth 100000 in
theorem lksX7_lift : ∀ e ∈ (mPr MX7_lift).flatten, eLink MT MX7_lift e := eFl (fc (fc trivial (fc (⟨mthX7_isCorner, ariX7_isCorner, staX7_isCorner, rfl, ⟨List.mem_of_getElem? (i := 1029) rfl, rfl⟩⟩) (fc trivial (fc trivial (fc (⟨mthX7_isCorner, ariX7_isCorner, staX7_isCorner, rfl, ⟨List.mem_of_getElem? (i := 1029) rfl, rfl⟩⟩) (fc trivial (fc trivial (fc trivial (fn))))))))) (fc (fc trivial (fc trivial (fc trivial (fc trivial (fc trivial (fc trivial (fc trivial (fc (⟨mthX7_isPlace, ariX7_isPlace, staX7_isPlace, rfl, ⟨List.mem_of_getElem? (i := 948) rfl, rfl⟩⟩) (fc trivial (fn)))))))))) (fc (fc trivial (fc (⟨mthX7_isPlace, ariX7_isPlace, staX7_isPlace, rfl, ⟨List.mem_of_getElem? (i := 948) rfl, rfl⟩⟩) (fc trivial (fc trivial (fc trivial (fc trivial (fn))))))) (fc (fc trivial (fc trivial (fc trivial (fc trivial (fc trivial (fc (⟨mthX7_cornersAt, rfl, ⟨_, rfl, ariX7_cornersAt⟩, ⟨_, rfl, rfl⟩, ⟨List.mem_of_getElem? (i := 1032) rfl, rfl⟩, insX7_cornersAt, selX7_cornersAt⟩) (fc trivial (fc trivial (fc trivial (fc trivial (fn))))))))))) (fc (fc trivial (fc trivial (fc trivial (fc trivial (fc trivial (fc trivial (fc trivial (fc trivial (fc (⟨mthX7_isWrong, rfl, ⟨_, rfl, ariX7_isWrong⟩, ⟨_, rfl, rfl⟩, ⟨List.mem_of_getElem? (i := 957) rfl, rfl⟩, insX7_isWrong, selX7_isWrong⟩) (fc trivial (fn))))))))))) (fc (fc trivial (fc trivial (fc trivial (fc trivial (fc trivial (fc trivial (fc trivial (fc trivial (fc trivial (fc trivial (fc trivial (fc trivial (fn))))))))))))) (fc (fc trivial (fc trivial (fc trivial (fc trivial (fc (⟨_, _, _, rfl, Nat.le_of_ble_eq_true rfl, ⟨List.mem_of_getElem? (i := 915) rfl, rfl⟩⟩) (fc trivial (fc trivial (fn)))))))) (fc (fc trivial (fc trivial (fc trivial (fc (⟨mthX7_isPart, ariX7_isPart, staX7_isPart, rfl, ⟨List.mem_of_getElem? (i := 961) rfl, rfl⟩⟩) (fc trivial (fc trivial (fc trivial (fc trivial (fn))))))))) (fc (fc trivial (fc trivial (fc (⟨mthX7_isPart, ariX7_isPart, staX7_isPart, rfl, ⟨List.mem_of_getElem? (i := 961) rfl, rfl⟩⟩) (fc trivial (fc trivial (fc trivial (fc trivial (fn)))))))) (fc (fc (⟨mthX7_isLifted, rfl, ⟨_, rfl, ariX7_isLifted⟩, ⟨_, rfl, rfl⟩, ⟨List.mem_of_getElem? (i := 1036) rfl, rfl⟩, insX7_isLifted, selX7_isLifted⟩) (fc trivial (fc trivial (fc trivial (fc trivial (fc trivial (fc trivial (fn)))))))) (fc (fc trivial (fc trivial (fc trivial (fc (⟨mthX7_keep, rfl, ⟨_, rfl, ariX7_keep⟩, ⟨_, rfl, rfl⟩, ⟨List.mem_of_getElem? (i := 992) rfl, rfl⟩, insX7_keep, selX7_keep⟩) (fc trivial (fn)))))) (fn))))))))))))
set_option maxRecDepth 100000 in
theorem mokX7_lift : eMok MT MX7_lift := ⟨cksX7_lift, lksX7_lift, fn⟩
set_option maxRecDepth 100000 in
theorem cksX7_other : ∀ e ∈ (mPr MX7_other).flatten, eChk MX7_other e = true := List.all_eq_true.mp (by decide +kernel)
set_option maxRecDepth 100000 in
theorem lksX7_other : ∀ e ∈ (mPr MX7_other).flatten, eLink MT MX7_other e := eFl (fc (fc trivial (fc trivial (fc (⟨mthX7_isPlace, ariX7_isPlace, staX7_isPlace, rfl, ⟨List.mem_of_getElem? (i := 948) rfl, rfl⟩⟩) (fc trivial (fc trivial (fc (⟨mthX7_isPlace, ariX7_isPlace, staX7_isPlace, rfl, ⟨List.mem_of_getElem? (i := 948) rfl, rfl⟩⟩) (fc trivial (fc trivial (fn))))))))) (fc (fc trivial (fc trivial (fc (⟨mthX7_isFace, ariX7_isFace, staX7_isFace, rfl, ⟨List.mem_of_getElem? (i := 954) rfl, rfl⟩⟩) (fc trivial (fc trivial (fc trivial (fc trivial (fc trivial (fn))))))))) (fc (fc (⟨mthX7_cornersAt, rfl, ⟨_, rfl, ariX7_cornersAt⟩, ⟨_, rfl, rfl⟩, ⟨List.mem_of_getElem? (i := 1032) rfl, rfl⟩, insX7_cornersAt, selX7_cornersAt⟩) (fc trivial (fc (⟨mthX7_isPart, ariX7_isPart, staX7_isPart, rfl, ⟨List.mem_of_getElem? (i := 961) rfl, rfl⟩⟩) (fc trivial (fc trivial (fc trivial (fc trivial (fc (⟨mthX7_isWrong, rfl, ⟨_, rfl, ariX7_isWrong⟩, ⟨_, rfl, rfl⟩, ⟨List.mem_of_getElem? (i := 957) rfl, rfl⟩, insX7_isWrong, selX7_isWrong⟩) (fn))))))))) (fc (fc trivial (fc trivial (fc trivial (fc trivial (fc trivial (fc trivial (fc trivial (fc trivial (fn))))))))) (fc (fc trivial (fc (⟨_, _, _, rfl, Nat.le_of_ble_eq_true rfl, ⟨List.mem_of_getElem? (i := 915) rfl, rfl⟩⟩) (fc trivial (fc trivial (fc trivial (fc (⟨mthX7_isPart, ariX7_isPart, staX7_isPart, rfl, ⟨List.mem_of_getElem? (i := 961) rfl, rfl⟩⟩) (fc trivial (fn)))))))) (fc (fc trivial (fc trivial (fc trivial (fc trivial (fc trivial (fc trivial (fc trivial (fc trivial (fc (⟨mthX7_isThere, rfl, ⟨_, rfl, ariX7_isThere⟩, ⟨_, rfl, rfl⟩, ⟨List.mem_of_getElem? (i := 964) rfl, rfl⟩, insX7_isThere, selX7_isThere⟩) (fn)))))))))) (fc (fc trivial (fc trivial (fc trivial (fc trivial (fc trivial (fc trivial (fc trivial (fc trivial (fn))))))))) (fc (fc trivial (fc (⟨mthX7_keep, rfl, ⟨_, rfl, ariX7_keep⟩, ⟨_, rfl, rfl⟩, ⟨List.mem_of_getElem? (i := 992) rfl, rfl⟩, insX7_keep, selX7_keep⟩) (fc trivial (fn)))) (fn)))))))))
set_option maxRecDepth 100000 in
theorem mokX7_other : eMok MT MX7_other := ⟨cksX7_other, lksX7_other, fn⟩
set_option maxRecDepth 100000 in
theorem cksX7_exchanged : ∀ e ∈ (mPr MX7_exchanged).flatten, eChk MX7_exchanged e = true := List.all_eq_true.mp (by decide +kernel)
set_option maxRecDepth 100000 in
theorem lksX7_exchanged : ∀ e ∈ (mPr MX7_exchanged).flatten, eLink MT MX7_exchanged e := eFl (fc (fc trivial (fc trivial (fc trivial (fc trivial (fc trivial (fc trivial (fc trivial (fc trivial (fc trivial (fc trivial (fc trivial (fc trivial (fc trivial (fc trivial (fc trivial (fc trivial (fn))))))))))))))))) (fc (fc trivial (fc trivial (fc trivial (fc trivial (fc trivial (fc trivial (fc trivial (fc trivial (fc trivial (fc trivial (fc trivial (fc trivial (fc trivial (fc trivial (fn))))))))))))))) (fn)))
set_option maxRecDepth 100000 in
theorem mokX7_exchanged : eMok MT MX7_exchanged := ⟨cksX7_exchanged, lksX7_exchanged, fn⟩
set_option maxRecDepth 100000 in
theorem cksX7_exchange : ∀ e ∈ (mPr MX7_exchange).flatten, eChk MX7_exchange e = true := List.all_eq_true.mp (by decide +kernel)
set_option maxRecDepth 100000 in
theorem lksX7_exchange : ∀ e ∈ (mPr MX7_exchange).flatten, eLink MT MX7_exchange e := eFl (fc (fc trivial (fc trivial (fc (⟨mthX7_isPlace, ariX7_isPlace, staX7_isPlace, rfl, ⟨List.mem_of_getElem? (i := 948) rfl, rfl⟩⟩) (fc trivial (fc trivial (fc (⟨mthX7_isPlace, ariX7_isPlace, staX7_isPlace, rfl, ⟨List.mem_of_getElem? (i := 948) rfl, rfl⟩⟩) (fc trivial (fn)))))))) (fc (fc trivial (fc trivial (fc trivial (fc (⟨mthX7_isCorner, ariX7_isCorner, staX7_isCorner, rfl, ⟨List.mem_of_getElem? (i := 1029) rfl, rfl⟩⟩) (fc trivial (fc trivial (fc (⟨mthX7_isCorner, ariX7_isCorner, staX7_isCorner, rfl, ⟨List.mem_of_getElem? (i := 1029) rfl, rfl⟩⟩) (fc trivial (fn))))))))) (fc (fc trivial (fc trivial (fc trivial (fc (⟨mthX7_isWrong, rfl, ⟨_, rfl, ariX7_isWrong⟩, ⟨_, rfl, rfl⟩, ⟨List.mem_of_getElem? (i := 957) rfl, rfl⟩, insX7_isWrong, selX7_isWrong⟩) (fc trivial (fc trivial (fc trivial (fc trivial (fn))))))))) (fc (fc trivial (fc trivial (fc trivial (fc trivial (fc trivial (fc trivial (fc trivial (fc (⟨_, _, _, rfl, Nat.le_of_ble_eq_true rfl, ⟨List.mem_of_getElem? (i := 915) rfl, rfl⟩⟩) (fn))))))))) (fc (fc trivial (fc trivial (fc trivial (fc trivial (fc trivial (fc trivial (fc (⟨mthX7_exchanged, ariX7_exchanged, staX7_exchanged, rfl, ⟨List.mem_of_getElem? (i := 1052) rfl, rfl⟩⟩) (fc (⟨mthX7_isThere, rfl, ⟨_, rfl, ariX7_isThere⟩, ⟨_, rfl, rfl⟩, ⟨List.mem_of_getElem? (i := 964) rfl, rfl⟩, insX7_isThere, selX7_isThere⟩) (fc trivial (fn)))))))))) (fc (fc trivial (fc trivial (fc (⟨_, _, _, rfl, Nat.le_of_ble_eq_true rfl, ⟨List.mem_of_getElem? (i := 915) rfl, rfl⟩⟩) (fc trivial (fc trivial (fc trivial (fc trivial (fc trivial (fc trivial (fn)))))))))) (fc (fc (⟨mthX7_isThere, rfl, ⟨_, rfl, ariX7_isThere⟩, ⟨_, rfl, rfl⟩, ⟨List.mem_of_getElem? (i := 964) rfl, rfl⟩, insX7_isThere, selX7_isThere⟩) (fc trivial (fc trivial (fc trivial (fc trivial (fc trivial (fc trivial (fc trivial (fn))))))))) (fc (fc trivial (fc trivial (fc trivial (fc (⟨mthX7_keep, rfl, ⟨_, rfl, ariX7_keep⟩, ⟨_, rfl, rfl⟩, ⟨List.mem_of_getElem? (i := 992) rfl, rfl⟩, insX7_keep, selX7_keep⟩) (fc trivial (fc trivial (fc trivial (fn)))))))) (fn)))))))))
set_option maxRecDepth 100000 in
theorem mokX7_exchange : eMok MT MX7_exchange := ⟨cksX7_exchange, lksX7_exchange, fn⟩
set_option maxRecDepth 100000 in
theorem cksX7_fold : ∀ e ∈ (mPr MX7_fold).flatten, eChk MX7_fold e = true := List.all_eq_true.mp (by decide +kernel)
set_option maxRecDepth 100000 in
theorem lksX7_fold : ∀ e ∈ (mPr MX7_fold).flatten, eLink MT MX7_fold e := eFl (fc (fc trivial (fc trivial (fc trivial (fc (⟨mthX7_missing, rfl, ⟨_, rfl, ariX7_missing⟩, ⟨_, rfl, rfl⟩, ⟨List.mem_of_getElem? (i := 972) rfl, rfl⟩, insX7_missing, selX7_missing⟩) (fc trivial (fc trivial (fc trivial (fc trivial (fc trivial (fc trivial (fn))))))))))) (fc (fc trivial (fc trivial (fc trivial (fc (⟨mthX7_overAt, rfl, ⟨_, rfl, ariX7_overAt⟩, ⟨_, rfl, rfl⟩, ⟨List.mem_of_getElem? (i := 1059) rfl, rfl⟩, insX7_overAt, selX7_overAt⟩) (fc trivial (fc trivial (fc trivial (fc trivial (fc trivial (fc (⟨mthX7_isWrong, rfl, ⟨_, rfl, ariX7_isWrong⟩, ⟨_, rfl, rfl⟩, ⟨List.mem_of_getElem? (i := 957) rfl, rfl⟩, insX7_isWrong, selX7_isWrong⟩) (fn))))))))))) (fc (fc trivial (fc trivial (fc trivial (fc trivial (fc trivial (fc trivial (fc trivial (fc trivial (fc trivial (fn)))))))))) (fc (fc trivial (fc trivial (fc trivial (fc trivial (fc trivial (fc trivial (fc (⟨mthX7_isPart, ariX7_isPart, staX7_isPart, rfl, ⟨List.mem_of_getElem? (i := 961) rfl, rfl⟩⟩) (fn)))))))) (fc (fc trivial (fc trivial (fc trivial (fc trivial (fc (⟨mthX7_isThere, rfl, ⟨_, rfl, ariX7_isThere⟩, ⟨_, rfl, rfl⟩, ⟨List.mem_of_getElem? (i := 964) rfl, rfl⟩, insX7_isThere, selX7_isThere⟩) (fc trivial (fc trivial (fn)))))))) (fc (fc trivial (fc trivial (fc trivial (fc trivial (fc trivial (fc trivial (fc trivial (fc trivial (fn))))))))) (fc (fc (⟨mthX7_takeOut, rfl, ⟨_, rfl, ariX7_takeOut⟩, ⟨_, rfl, rfl⟩, ⟨List.mem_of_getElem? (i := 976) rfl, rfl⟩, insX7_takeOut, selX7_takeOut⟩) (fc trivial (fc trivial (fc trivial (fn))))) (fn))))))))
set_option maxRecDepth 100000 in
theorem mokX7_fold : eMok MT MX7_fold := ⟨cksX7_fold, lksX7_fold, fn⟩
set_option maxRecDepth 100000 in
theorem cksX7_has : ∀ e ∈ (mPr MX7_has).flatten, eChk MX7_has e = true := List.all_eq_true.mp (by decide +kernel)
set_option maxRecDepth 100000 in
theorem lksX7_has : ∀ e ∈ (mPr MX7_has).flatten, eLink MT MX7_has e := eFl (fc (fc trivial (fc trivial (fc (⟨mthX7_isPlace, ariX7_isPlace, staX7_isPlace, rfl, ⟨List.mem_of_getElem? (i := 948) rfl, rfl⟩⟩) (fc trivial (fc trivial (fc trivial (fc trivial (fc (⟨mthX7_isFace, ariX7_isFace, staX7_isFace, rfl, ⟨List.mem_of_getElem? (i := 954) rfl, rfl⟩⟩) (fn))))))))) (fc (fc trivial (fc trivial (fc trivial (fc trivial (fc (⟨mthX7_isWrong, rfl, ⟨_, rfl, ariX7_isWrong⟩, ⟨_, rfl, rfl⟩, ⟨List.mem_of_getElem? (i := 957) rfl, rfl⟩, insX7_isWrong, selX7_isWrong⟩) (fc trivial (fc trivial (fc trivial (fn))))))))) (fc (fc trivial (fc (⟨mthX7_isThere, rfl, ⟨_, rfl, ariX7_isThere⟩, ⟨_, rfl, rfl⟩, ⟨List.mem_of_getElem? (i := 964) rfl, rfl⟩, insX7_isThere, selX7_isThere⟩) (fc trivial (fc trivial (fc trivial (fc trivial (fc trivial (fn)))))))) (fn))))
set_option maxRecDepth 100000 in
theorem mokX7_has : eMok MT MX7_has := ⟨cksX7_has, lksX7_has, fn⟩
set_option maxRecDepth 100000 in
theorem cksX7_size : ∀ e ∈ (mPr MX7_size).flatten, eChk MX7_size e = true := List.all_eq_true.mp (by decide +kernel)
set_option maxRecDepth 100000 in
theorem lksX7_size : ∀ e ∈ (mPr MX7_size).flatten, eLink MT MX7_size e := eFl (fc (fc trivial (fc trivial (fc (⟨mthX7_isPlace, ariX7_isPlace, staX7_isPlace, rfl, ⟨List.mem_of_getElem? (i := 948) rfl, rfl⟩⟩) (fc trivial (fc trivial (fc trivial (fc trivial (fc (⟨mthX7_isWrong, rfl, ⟨_, rfl, ariX7_isWrong⟩, ⟨_, rfl, rfl⟩, ⟨List.mem_of_getElem? (i := 957) rfl, rfl⟩, insX7_isWrong, selX7_isWrong⟩) (fn))))))))) (fc (fc trivial (fc trivial (fc trivial (fc trivial (fc trivial (fc (⟨mthX7_sizeOf, rfl, ⟨_, rfl, ariX7_sizeOf⟩, ⟨_, rfl, rfl⟩, ⟨List.mem_of_getElem? (i := 984) rfl, rfl⟩, insX7_sizeOf, selX7_sizeOf⟩) (fc trivial (fn)))))))) (fn)))
set_option maxRecDepth 100000 in
theorem mokX7_size : eMok MT MX7_size := ⟨cksX7_size, lksX7_size, fn⟩
set_option maxRecDepth 100000 in
theorem cksX7_facesOf : ∀ e ∈ (mPr MX7_facesOf).flatten, eChk MX7_facesOf e = true := List.all_eq_true.mp (by decide +kernel)
set_option maxRecDepth 100000 in
theorem lksX7_facesOf : ∀ e ∈ (mPr MX7_facesOf).flatten, eLink MT MX7_facesOf e := eFl (fc (fc trivial (fc trivial (fc trivial (fc trivial (fc trivial (fc trivial (fc trivial (fc trivial (fc trivial (fc trivial (fn))))))))))) (fc (fc trivial (fc (⟨mthX7_isThere, rfl, ⟨_, rfl, ariX7_isThere⟩, ⟨_, rfl, rfl⟩, ⟨List.mem_of_getElem? (i := 964) rfl, rfl⟩, insX7_isThere, selX7_isThere⟩) (fc trivial (fc trivial (fc (⟨mthX7_height, ariX7_height, staX7_height, rfl, ⟨List.mem_of_getElem? (i := 1015) rfl, rfl⟩⟩) (fc trivial (fc trivial (fn)))))))) (fc (fc trivial (fc trivial (fc trivial (fc trivial (fc trivial (fc trivial (fc trivial (fc trivial (fc trivial (fn)))))))))) (fn))))
set_option maxRecDepth 100000 in
theorem mokX7_facesOf : eMok MT MX7_facesOf := ⟨cksX7_facesOf, lksX7_facesOf, fn⟩
set_option maxRecDepth 100000 in
theorem cksX7_faces : ∀ e ∈ (mPr MX7_faces).flatten, eChk MX7_faces e = true := List.all_eq_true.mp (by decide +kernel)
set_option maxRecDepth 100000 in
theorem lksX7_faces : ∀ e ∈ (mPr MX7_faces).flatten, eLink MT MX7_faces e := eFl (fc (fc trivial (fc trivial (fc (⟨mthX7_isPlace, ariX7_isPlace, staX7_isPlace, rfl, ⟨List.mem_of_getElem? (i := 948) rfl, rfl⟩⟩) (fc trivial (fc trivial (fc trivial (fc trivial (fc (⟨mthX7_isHeight, ariX7_isHeight, staX7_isHeight, rfl, ⟨List.mem_of_getElem? (i := 1012) rfl, rfl⟩⟩) (fn))))))))) (fc (fc trivial (fc trivial (fc trivial (fc trivial (fc (⟨mthX7_isWrong, rfl, ⟨_, rfl, ariX7_isWrong⟩, ⟨_, rfl, rfl⟩, ⟨List.mem_of_getElem? (i := 957) rfl, rfl⟩, insX7_isWrong, selX7_isWrong⟩) (fc trivial (fc trivial (fc trivial (fn))))))))) (fc (fc trivial (fc trivial (fc trivial (fc (⟨mthX7_facesOf, rfl, ⟨_, rfl, ariX7_facesOf⟩, ⟨_, rfl, rfl⟩, ⟨List.mem_of_getElem? (i := 1075) rfl, rfl⟩, insX7_facesOf, selX7_facesOf⟩) (fc trivial (fn)))))) (fn))))
set_option maxRecDepth 100000 in
theorem mokX7_faces : eMok MT MX7_faces := ⟨cksX7_faces, lksX7_faces, fn⟩
set_option maxRecDepth 100000 in
theorem cksX7_corners : ∀ e ∈ (mPr MX7_corners).flatten, eChk MX7_corners e = true := List.all_eq_true.mp (by decide +kernel)
set_option maxRecDepth 100000 in
theorem lksX7_corners : ∀ e ∈ (mPr MX7_corners).flatten, eLink MT MX7_corners e := eFl (fc (fc trivial (fc trivial (fc (⟨mthX7_isPlace, ariX7_isPlace, staX7_isPlace, rfl, ⟨List.mem_of_getElem? (i := 948) rfl, rfl⟩⟩) (fc trivial (fc trivial (fc trivial (fc trivial (fc (⟨mthX7_isWrong, rfl, ⟨_, rfl, ariX7_isWrong⟩, ⟨_, rfl, rfl⟩, ⟨List.mem_of_getElem? (i := 957) rfl, rfl⟩, insX7_isWrong, selX7_isWrong⟩) (fn))))))))) (fc (fc trivial (fc trivial (fc trivial (fc trivial (fc trivial (fc (⟨mthX7_cornersAt, rfl, ⟨_, rfl, ariX7_cornersAt⟩, ⟨_, rfl, rfl⟩, ⟨List.mem_of_getElem? (i := 1032) rfl, rfl⟩, insX7_cornersAt, selX7_cornersAt⟩) (fc trivial (fn)))))))) (fn)))
set_option maxRecDepth 100000 in
theorem mokX7_corners : eMok MT MX7_corners := ⟨cksX7_corners, lksX7_corners, fn⟩
set_option maxRecDepth 100000 in
theorem cksX7_over : ∀ e ∈ (mPr MX7_over).flatten, eChk MX7_over e = true := List.all_eq_true.mp (by decide +kernel)
set_option maxRecDepth 100000 in
theorem lksX7_over : ∀ e ∈ (mPr MX7_over).flatten, eLink MT MX7_over e := eFl (fc (fc trivial (fc trivial (fc trivial (fc trivial (fc (⟨mthX7_missing, rfl, ⟨_, rfl, ariX7_missing⟩, ⟨_, rfl, rfl⟩, ⟨List.mem_of_getElem? (i := 972) rfl, rfl⟩, insX7_missing, selX7_missing⟩) (fc (⟨mthX7_isWrong, rfl, ⟨_, rfl, ariX7_isWrong⟩, ⟨_, rfl, rfl⟩, ⟨List.mem_of_getElem? (i := 957) rfl, rfl⟩, insX7_isWrong, selX7_isWrong⟩) (fc trivial (fc trivial (fc trivial (fn)))))))))) (fc (fc trivial (fc trivial (fc trivial (fc (⟨mthX7_overAt, rfl, ⟨_, rfl, ariX7_overAt⟩, ⟨_, rfl, rfl⟩, ⟨List.mem_of_getElem? (i := 1059) rfl, rfl⟩, insX7_overAt, selX7_overAt⟩) (fc trivial (fn)))))) (fn)))
set_option maxRecDepth 100000 in
theorem mokX7_over : eMok MT MX7_over := ⟨cksX7_over, lksX7_over, fn⟩
set_option maxRecDepth 100000 in
theorem cksX7_greatestOf : ∀ e ∈ (mPr MX7_greatestOf).flatten, eChk MX7_greatestOf e = true := List.all_eq_true.mp (by decide +kernel)
set_option maxRecDepth 100000 in
theorem lksX7_greatestOf : ∀ e ∈ (mPr MX7_greatestOf).flatten, eLink MT MX7_greatestOf e := eFl (fc (fc trivial (fc trivial (fc trivial (fc trivial (fc trivial (fc trivial (fc trivial (fc trivial (fc trivial (fc trivial (fc trivial (fc (⟨mthX7_isGreatest, rfl, ⟨_, rfl, ariX7_isGreatest⟩, ⟨_, rfl, rfl⟩, ⟨List.mem_of_getElem? (i := 1095) rfl, rfl⟩, insX7_isGreatest, selX7_isGreatest⟩) (fn))))))))))))) (fc (fc trivial (fc trivial (fc trivial (fc trivial (fc trivial (fc trivial (fc trivial (fc trivial (fn))))))))) (fc (fc trivial (fc trivial (fn))) (fn))))
set_option maxRecDepth 100000 in
theorem mokX7_greatestOf : eMok MT MX7_greatestOf := ⟨cksX7_greatestOf, lksX7_greatestOf, fn⟩
set_option maxRecDepth 100000 in
theorem cksX7_greatest : ∀ e ∈ (mPr MX7_greatest).flatten, eChk MX7_greatest e = true := List.all_eq_true.mp (by decide +kernel)
set_option maxRecDepth 100000 in
theorem lksX7_greatest : ∀ e ∈ (mPr MX7_greatest).flatten, eLink MT MX7_greatest e := eFl (fc (fc trivial (fc trivial (fc (⟨mthX7_isPlace, ariX7_isPlace, staX7_isPlace, rfl, ⟨List.mem_of_getElem? (i := 948) rfl, rfl⟩⟩) (fc trivial (fc trivial (fc trivial (fc trivial (fc (⟨mthX7_isWrong, rfl, ⟨_, rfl, ariX7_isWrong⟩, ⟨_, rfl, rfl⟩, ⟨List.mem_of_getElem? (i := 957) rfl, rfl⟩, insX7_isWrong, selX7_isWrong⟩) (fn))))))))) (fc (fc trivial (fc trivial (fc trivial (fc trivial (fc trivial (fc (⟨mthX7_greatestOf, rfl, ⟨_, rfl, ariX7_greatestOf⟩, ⟨_, rfl, rfl⟩, ⟨List.mem_of_getElem? (i := 1091) rfl, rfl⟩, insX7_greatestOf, selX7_greatestOf⟩) (fc trivial (fn)))))))) (fn)))
set_option maxRecDepth 100000 in
theorem mokX7_greatest : eMok MT MX7_greatest := ⟨cksX7_greatest, lksX7_greatest, fn⟩
set_option maxRecDepth 100000 in
theorem cksX7_greatestAt : ∀ e ∈ (mPr MX7_greatestAt).flatten, eChk MX7_greatestAt e = true := List.all_eq_true.mp (by decide +kernel)
set_option maxRecDepth 100000 in
theorem lksX7_greatestAt : ∀ e ∈ (mPr MX7_greatestAt).flatten, eLink MT MX7_greatestAt e := eFl (fc (fc trivial (fc trivial (fc (⟨mthX7_isPlace, ariX7_isPlace, staX7_isPlace, rfl, ⟨List.mem_of_getElem? (i := 948) rfl, rfl⟩⟩) (fc trivial (fc trivial (fc trivial (fc trivial (fc trivial (fc (⟨mthX7_greatestOf, rfl, ⟨_, rfl, ariX7_greatestOf⟩, ⟨_, rfl, rfl⟩, ⟨List.mem_of_getElem? (i := 1091) rfl, rfl⟩, insX7_greatestOf, selX7_greatestOf⟩) (fc trivial (fn))))))))))) (fc (fc trivial (fc (⟨mthX7_isIn, ariX7_isIn, staX7_isIn, rfl, ⟨List.mem_of_getElem? (i := 951) rfl, rfl⟩⟩) (fc trivial (fc trivial (fc trivial (fc trivial (fc (⟨mthX7_isWrong, rfl, ⟨_, rfl, ariX7_isWrong⟩, ⟨_, rfl, rfl⟩, ⟨List.mem_of_getElem? (i := 957) rfl, rfl⟩, insX7_isWrong, selX7_isWrong⟩) (fc trivial (fn))))))))) (fc (fc trivial (fc trivial (fc trivial (fc trivial (fc trivial (fc trivial (fc trivial (fc trivial (fc trivial (fn)))))))))) (fc (fc trivial (fc trivial (fc trivial (fc trivial (fc (⟨mthX7_isGreatest, rfl, ⟨_, rfl, ariX7_isGreatest⟩, ⟨_, rfl, rfl⟩, ⟨List.mem_of_getElem? (i := 1095) rfl, rfl⟩, insX7_isGreatest, selX7_isGreatest⟩) (fc trivial (fc trivial (fc trivial (fc trivial (fn)))))))))) (fc (fc trivial (fc trivial (fc trivial (fc trivial (fc trivial (fn)))))) (fn))))))
set_option maxRecDepth 100000 in
theorem mokX7_greatestAt : eMok MT MX7_greatestAt := ⟨cksX7_greatestAt, lksX7_greatestAt, fn⟩
set_option maxRecDepth 100000 in
theorem cksX7_isOf : ∀ e ∈ (mPr MX7_isOf).flatten, eChk MX7_isOf e = true := List.all_eq_true.mp (by decide +kernel)
set_option maxRecDepth 100000 in
theorem lksX7_isOf : ∀ e ∈ (mPr MX7_isOf).flatten, eLink MT MX7_isOf e := eFl (fc (fc trivial (fc trivial (fc trivial (fc trivial (fc trivial (fc trivial (fc trivial (fc trivial (fc trivial (fc trivial (fn))))))))))) (fc (fc trivial (fc (⟨mthX7_isThere, rfl, ⟨_, rfl, ariX7_isThere⟩, ⟨_, rfl, rfl⟩, ⟨List.mem_of_getElem? (i := 964) rfl, rfl⟩, insX7_isThere, selX7_isThere⟩) (fc trivial (fc trivial (fc trivial (fc trivial (fc (⟨mthX7_isThere, rfl, ⟨_, rfl, ariX7_isThere⟩, ⟨_, rfl, rfl⟩, ⟨List.mem_of_getElem? (i := 964) rfl, rfl⟩, insX7_isThere, selX7_isThere⟩) (fc trivial (fn))))))))) (fc (fc trivial (fc trivial (fc trivial (fc trivial (fc trivial (fc trivial (fc trivial (fc trivial (fn))))))))) (fc (fc trivial (fn)) (fn)))))
set_option maxRecDepth 100000 in
theorem mokX7_isOf : eMok MT MX7_isOf := ⟨cksX7_isOf, lksX7_isOf, fn⟩
set_option maxRecDepth 100000 in
theorem cksX7_isSame : ∀ e ∈ (mPr MX7_isSame).flatten, eChk MX7_isSame e = true := List.all_eq_true.mp (by decide +kernel)
set_option maxRecDepth 100000 in
theorem lksX7_isSame : ∀ e ∈ (mPr MX7_isSame).flatten, eLink MT MX7_isSame e := eFl (fc (fc trivial (fc trivial (fc (⟨mthX7_isPlace, ariX7_isPlace, staX7_isPlace, rfl, ⟨List.mem_of_getElem? (i := 948) rfl, rfl⟩⟩) (fc trivial (fc trivial (fc (⟨mthX7_isPlace, ariX7_isPlace, staX7_isPlace, rfl, ⟨List.mem_of_getElem? (i := 948) rfl, rfl⟩⟩) (fc trivial (fc trivial (fn))))))))) (fc (fc trivial (fc trivial (fc (⟨mthX7_isWrong, rfl, ⟨_, rfl, ariX7_isWrong⟩, ⟨_, rfl, rfl⟩, ⟨List.mem_of_getElem? (i := 957) rfl, rfl⟩, insX7_isWrong, selX7_isWrong⟩) (fc trivial (fc trivial (fc trivial (fc trivial (fc (⟨mthX7_isOf, rfl, ⟨_, rfl, ariX7_isOf⟩, ⟨_, rfl, rfl⟩, ⟨List.mem_of_getElem? (i := 1107) rfl, rfl⟩, insX7_isOf, selX7_isOf⟩) (fn))))))))) (fc (fc trivial (fc trivial (fc trivial (fc trivial (fc (⟨mthX7_isOf, rfl, ⟨_, rfl, ariX7_isOf⟩, ⟨_, rfl, rfl⟩, ⟨List.mem_of_getElem? (i := 1107) rfl, rfl⟩, insX7_isOf, selX7_isOf⟩) (fc trivial (fc trivial (fc trivial (fn))))))))) (fc (fc trivial (fc trivial (fn))) (fn)))))
set_option maxRecDepth 100000 in
theorem mokX7_isSame : eMok MT MX7_isSame := ⟨cksX7_isSame, lksX7_isSame, fn⟩
set_option maxRecDepth 100000 in
theorem cksX7_contains : ∀ e ∈ (mPr MX7_contains).flatten, eChk MX7_contains e = true := List.all_eq_true.mp (by decide +kernel)
set_option maxRecDepth 100000 in
theorem lksX7_contains : ∀ e ∈ (mPr MX7_contains).flatten, eLink MT MX7_contains e := eFl (fc (fc trivial (fc trivial (fc (⟨mthX7_isPlace, ariX7_isPlace, staX7_isPlace, rfl, ⟨List.mem_of_getElem? (i := 948) rfl, rfl⟩⟩) (fc trivial (fc trivial (fc (⟨mthX7_isPlace, ariX7_isPlace, staX7_isPlace, rfl, ⟨List.mem_of_getElem? (i := 948) rfl, rfl⟩⟩) (fc trivial (fc trivial (fn))))))))) (fc (fc trivial (fc trivial (fc (⟨mthX7_isWrong, rfl, ⟨_, rfl, ariX7_isWrong⟩, ⟨_, rfl, rfl⟩, ⟨List.mem_of_getElem? (i := 957) rfl, rfl⟩, insX7_isWrong, selX7_isWrong⟩) (fc trivial (fc trivial (fc trivial (fc trivial (fc (⟨mthX7_isOf, rfl, ⟨_, rfl, ariX7_isOf⟩, ⟨_, rfl, rfl⟩, ⟨List.mem_of_getElem? (i := 1107) rfl, rfl⟩, insX7_isOf, selX7_isOf⟩) (fn))))))))) (fc (fc trivial (fc trivial (fc trivial (fc trivial (fc trivial (fn)))))) (fn))))
set_option maxRecDepth 100000 in
theorem mokX7_contains : eMok MT MX7_contains := ⟨cksX7_contains, lksX7_contains, fn⟩
set_option maxRecDepth 100000 in
theorem cksX7_walk : ∀ e ∈ (mPr MX7_walk).flatten, eChk MX7_walk e = true := List.all_eq_true.mp (by decide +kernel)
set_option maxRecDepth 100000 in
theorem lksX7_walk : ∀ e ∈ (mPr MX7_walk).flatten, eLink MT MX7_walk e := eFl (fc (fc trivial (fc trivial (fc trivial (fc trivial (fc trivial (fc trivial (fc (⟨_, _, _, rfl, Nat.le_of_ble_eq_true rfl, ⟨List.mem_of_getElem? (i := 918) rfl, rfl⟩⟩) (fc trivial (fc trivial (fc trivial (fc trivial (fn)))))))))))) (fc (fc trivial (fc trivial (fc (⟨mthX7_isThere, rfl, ⟨_, rfl, ariX7_isThere⟩, ⟨_, rfl, rfl⟩, ⟨List.mem_of_getElem? (i := 964) rfl, rfl⟩, insX7_isThere, selX7_isThere⟩) (fc trivial (fc trivial (fc trivial (fc trivial (fc trivial (fc trivial (fn)))))))))) (fc (fc trivial (fc trivial (fc trivial (fc trivial (fc trivial (fc trivial (fc trivial (fc trivial (fc trivial (fc trivial (fn))))))))))) (fc (fc trivial (fc trivial (fc trivial (fc trivial (fc (⟨mthX7_isThere, rfl, ⟨_, rfl, ariX7_isThere⟩, ⟨_, rfl, rfl⟩, ⟨List.mem_of_getElem? (i := 964) rfl, rfl⟩, insX7_isThere, selX7_isThere⟩) (fc trivial (fc trivial (fc (⟨mthX7_height, ariX7_height, staX7_height, rfl, ⟨List.mem_of_getElem? (i := 1015) rfl, rfl⟩⟩) (fn))))))))) (fc (fc trivial (fc trivial (fc trivial (fc trivial (fc (⟨mthX7_join, rfl, ⟨_, rfl, ariX7_join⟩, ⟨_, rfl, rfl⟩, ⟨List.mem_of_getElem? (i := 1123) rfl, rfl⟩, insX7_join, selX7_join⟩) (fc trivial (fc trivial (fn)))))))) (fc (fc trivial (fc trivial (fc trivial (fn)))) (fn)))))))
set_option maxRecDepth 100000 in
theorem mokX7_walk : eMok MT MX7_walk := ⟨cksX7_walk, lksX7_walk, fn⟩
set_option maxRecDepth 100000 in
theorem cksX7_join : ∀ e ∈ (mPr MX7_join).flatten, eChk MX7_join e = true := List.all_eq_true.mp (by decide +kernel)
set_option maxRecDepth 100000 in
theorem lksX7_join : ∀ e ∈ (mPr MX7_join).flatten, eLink MT MX7_join e := eFl (fc (fc trivial (fc trivial (fc trivial (fc trivial (fc trivial (fc trivial (fc trivial (fc trivial (fc trivial (fc trivial (fc trivial (fc trivial (fn))))))))))))) (fc (fc trivial (fc trivial (fc trivial (fc (⟨_, _, _, rfl, Nat.le_of_ble_eq_true rfl, ⟨List.mem_of_getElem? (i := 918) rfl, rfl⟩⟩) (fc trivial (fc trivial (fc trivial (fc trivial (fc trivial (fc (⟨_, _, _, rfl, Nat.le_of_ble_eq_true rfl, ⟨List.mem_of_getElem? (i := 918) rfl, rfl⟩⟩) (fn))))))))))) (fc (fc trivial (fc trivial (fc trivial (fc trivial (fc trivial (fc trivial (fc trivial (fc trivial (fn))))))))) (fc (fc trivial (fc trivial (fc trivial (fc trivial (fc trivial (fc (⟨_, _, _, rfl, Nat.le_of_ble_eq_true rfl, ⟨List.mem_of_getElem? (i := 918) rfl, rfl⟩⟩) (fc trivial (fc trivial (fc trivial (fc trivial (fc trivial (fn)))))))))))) (fc (fc trivial (fc trivial (fc trivial (fc trivial (fc trivial (fc trivial (fc (⟨_, _, _, rfl, Nat.le_of_ble_eq_true rfl, ⟨List.mem_of_getElem? (i := 918) rfl, rfl⟩⟩) (fc trivial (fc trivial (fc trivial (fn))))))))))) (fc (fc trivial (fc trivial (fc trivial (fn)))) (fn)))))))
set_option maxRecDepth 100000 in
theorem mokX7_join : eMok MT MX7_join := ⟨cksX7_join, lksX7_join, fn⟩
set_option maxRecDepth 100000 in
theorem cksX7_pieces : ∀ e ∈ (mPr MX7_pieces).flatten, eChk MX7_pieces e = true := List.all_eq_true.mp (by decide +kernel)
set_option maxRecDepth 100000 in
theorem lksX7_pieces : ∀ e ∈ (mPr MX7_pieces).flatten, eLink MT MX7_pieces e := eFl (fc (fc trivial (fc trivial (fc (⟨mthX7_isPlace, ariX7_isPlace, staX7_isPlace, rfl, ⟨List.mem_of_getElem? (i := 948) rfl, rfl⟩⟩) (fc trivial (fc trivial (fc trivial (fc trivial (fc (⟨mthX7_isWrong, rfl, ⟨_, rfl, ariX7_isWrong⟩, ⟨_, rfl, rfl⟩, ⟨List.mem_of_getElem? (i := 957) rfl, rfl⟩, insX7_isWrong, selX7_isWrong⟩) (fn))))))))) (fc (fc trivial (fc trivial (fc trivial (fc trivial (fc trivial (fc (⟨mthX7_walk, rfl, ⟨_, rfl, ariX7_walk⟩, ⟨_, rfl, rfl⟩, ⟨List.mem_of_getElem? (i := 1119) rfl, rfl⟩, insX7_walk, selX7_walk⟩) (fc trivial (fc trivial (fc trivial (fc trivial (fc trivial (fc trivial (fn))))))))))))) (fc (fc trivial (fc trivial (fc trivial (fc (⟨_, _, _, rfl, Nat.le_of_ble_eq_true rfl, ⟨List.mem_of_getElem? (i := 918) rfl, rfl⟩⟩) (fc trivial (fc trivial (fc trivial (fc trivial (fc trivial (fn)))))))))) (fc (fc trivial (fc trivial (fc trivial (fc trivial (fc trivial (fc trivial (fc trivial (fc trivial (fn))))))))) (fn)))))
set_option maxRecDepth 100000 in
theorem mokX7_pieces : eMok MT MX7_pieces := ⟨cksX7_pieces, lksX7_pieces, fn⟩
set_option maxRecDepth 100000 in
theorem cksX7_areJoined : ∀ e ∈ (mPr MX7_areJoined).flatten, eChk MX7_areJoined e = true := List.all_eq_true.mp (by decide +kernel)
set_option maxRecDepth 100000 in
theorem lksX7_areJoined : ∀ e ∈ (mPr MX7_areJoined).flatten, eLink MT MX7_areJoined e := eFl (fc (fc trivial (fc trivial (fc (⟨mthX7_isPlace, ariX7_isPlace, staX7_isPlace, rfl, ⟨List.mem_of_getElem? (i := 948) rfl, rfl⟩⟩) (fc trivial (fc trivial (fc trivial (fc trivial (fc (⟨mthX7_isCorner, ariX7_isCorner, staX7_isCorner, rfl, ⟨List.mem_of_getElem? (i := 1029) rfl, rfl⟩⟩) (fn))))))))) (fc (fc trivial (fc trivial (fc (⟨mthX7_isCorner, ariX7_isCorner, staX7_isCorner, rfl, ⟨List.mem_of_getElem? (i := 1029) rfl, rfl⟩⟩) (fc trivial (fc trivial (fc trivial (fc trivial (fc trivial (fn))))))))) (fc (fc trivial (fc trivial (fc trivial (fc (⟨mthX7_isThere, rfl, ⟨_, rfl, ariX7_isThere⟩, ⟨_, rfl, rfl⟩, ⟨List.mem_of_getElem? (i := 964) rfl, rfl⟩, insX7_isThere, selX7_isThere⟩) (fc trivial (fc trivial (fc trivial (fc trivial (fc trivial (fc trivial (fc (⟨mthX7_isThere, rfl, ⟨_, rfl, ariX7_isThere⟩, ⟨_, rfl, rfl⟩, ⟨List.mem_of_getElem? (i := 964) rfl, rfl⟩, insX7_isThere, selX7_isThere⟩) (fn)))))))))))) (fc (fc trivial (fc trivial (fc trivial (fc trivial (fc (⟨mthX7_isWrong, rfl, ⟨_, rfl, ariX7_isWrong⟩, ⟨_, rfl, rfl⟩, ⟨List.mem_of_getElem? (i := 957) rfl, rfl⟩, insX7_isWrong, selX7_isWrong⟩) (fc trivial (fc trivial (fn)))))))) (fc (fc trivial (fc trivial (fc trivial (fc (⟨mthX7_walk, rfl, ⟨_, rfl, ariX7_walk⟩, ⟨_, rfl, rfl⟩, ⟨List.mem_of_getElem? (i := 1119) rfl, rfl⟩, insX7_walk, selX7_walk⟩) (fc trivial (fc (⟨_, _, _, rfl, Nat.le_of_ble_eq_true rfl, ⟨List.mem_of_getElem? (i := 918) rfl, rfl⟩⟩) (fc trivial (fc trivial (fc trivial (fc (⟨_, _, _, rfl, Nat.le_of_ble_eq_true rfl, ⟨List.mem_of_getElem? (i := 918) rfl, rfl⟩⟩) (fn))))))))))) (fc (fc trivial (fc trivial (fc trivial (fc trivial (fc trivial (fc trivial (fc trivial (fn)))))))) (fn)))))))
set_option maxRecDepth 100000 in
theorem mokX7_areJoined : eMok MT MX7_areJoined := ⟨cksX7_areJoined, lksX7_areJoined, fn⟩
set_option maxRecDepth 100000 in
theorem cksX7_bit : ∀ e ∈ (mPr MX7_bit).flatten, eChk MX7_bit e = true := List.all_eq_true.mp (by decide +kernel)
set_option maxRecDepth 100000 in
theorem lksX7_bit : ∀ e ∈ (mPr MX7_bit).flatten, eLink MT MX7_bit e := eFl (fc (fc trivial (fc trivial (fc trivial (fc trivial (fc trivial (fc trivial (fc trivial (fc trivial (fc trivial (fc (⟨mthX7_height, ariX7_height, staX7_height, rfl, ⟨List.mem_of_getElem? (i := 1015) rfl, rfl⟩⟩) (fc trivial (fc (⟨mthX7_height, ariX7_height, staX7_height, rfl, ⟨List.mem_of_getElem? (i := 1015) rfl, rfl⟩⟩) (fn))))))))))))) (fc (fc trivial (fc trivial (fc trivial (fc trivial (fc trivial (fc trivial (fc trivial (fc trivial (fn))))))))) (fc (fc trivial (fc trivial (fn))) (fn))))
set_option maxRecDepth 100000 in
theorem mokX7_bit : eMok MT MX7_bit := ⟨cksX7_bit, lksX7_bit, fn⟩
set_option maxRecDepth 100000 in
theorem cksX7_borderBits : ∀ e ∈ (mPr MX7_borderBits).flatten, eChk MX7_borderBits e = true := List.all_eq_true.mp (by decide +kernel)
set_option maxRecDepth 100000 in
theorem lksX7_borderBits : ∀ e ∈ (mPr MX7_borderBits).flatten, eLink MT MX7_borderBits e := eFl (fc (fc trivial (fc trivial (fc trivial (fc trivial (fc trivial (fc trivial (fc trivial (fc trivial (fc trivial (fc trivial (fc trivial (fc trivial (fc trivial (fn)))))))))))))) (fc (fc trivial (fc trivial (fc trivial (fc trivial (fc trivial (fc trivial (fc trivial (fc (⟨mthX7_bit, ariX7_bit, staX7_bit, rfl, ⟨List.mem_of_getElem? (i := 1142) rfl, rfl⟩⟩) (fc trivial (fc trivial (fn))))))))))) (fc (fc trivial (fc trivial (fc trivial (fc trivial (fc trivial (fc trivial (fn))))))) (fn))))
set_option maxRecDepth 100000 in
theorem mokX7_borderBits : eMok MT MX7_borderBits := ⟨cksX7_borderBits, lksX7_borderBits, fn⟩
set_option maxRecDepth 100000 in
theorem cksX7_left : ∀ e ∈ (mPr MX7_left).flatten, eChk MX7_left e = true := List.all_eq_true.mp (by decide +kernel)
set_option maxRecDepth 100000 in
theorem lksX7_left : ∀ e ∈ (mPr MX7_left).flatten, eLink MT MX7_left e := eFl (fc (fc trivial (fc trivial (fc trivial (fc trivial (fc trivial (fc trivial (fc (⟨_, _, _, rfl, Nat.le_of_ble_eq_true rfl, ⟨List.mem_of_getElem? (i := 920) rfl, rfl⟩⟩) (fc trivial (fc trivial (fc trivial (fn))))))))))) (fc (fc (⟨_, _, _, rfl, Nat.le_of_ble_eq_true rfl, ⟨List.mem_of_getElem? (i := 919) rfl, rfl⟩⟩) (fc trivial (fc trivial (fc trivial (fc trivial (fc trivial (fc trivial (fc trivial (fc trivial (fc (⟨_, _, _, rfl, Nat.le_of_ble_eq_true rfl, ⟨List.mem_of_getElem? (i := 919) rfl, rfl⟩⟩) (fn))))))))))) (fc (fc trivial (fc trivial (fc trivial (fc trivial (fc trivial (fc trivial (fc trivial (fc trivial (fn))))))))) (fc (fc trivial (fc trivial (fn))) (fn)))))
set_option maxRecDepth 100000 in
theorem mokX7_left : eMok MT MX7_left := ⟨cksX7_left, lksX7_left, fn⟩
set_option maxRecDepth 100000 in
theorem cksX7_rank : ∀ e ∈ (mPr MX7_rank).flatten, eChk MX7_rank e = true := List.all_eq_true.mp (by decide +kernel)
set_option maxRecDepth 100000 in
theorem lksX7_rank : ∀ e ∈ (mPr MX7_rank).flatten, eLink MT MX7_rank e := eFl (fc (fc trivial (fc trivial (fc (⟨_, _, _, rfl, Nat.le_of_ble_eq_true rfl, ⟨List.mem_of_getElem? (i := 920) rfl, rfl⟩, by decide +kernel⟩) (fc trivial (fc trivial (fc trivial (fc trivial (fc trivial (fc trivial (fc trivial (fn))))))))))) (fc (fc trivial (fc trivial (fc trivial (fc trivial (fc (⟨mthX7_isThere, rfl, ⟨_, rfl, ariX7_isThere⟩, ⟨_, rfl, rfl⟩, ⟨List.mem_of_getElem? (i := 964) rfl, rfl⟩, insX7_isThere, selX7_isThere⟩) (fc trivial (fc trivial (fc (⟨mthX7_height, ariX7_height, staX7_height, rfl, ⟨List.mem_of_getElem? (i := 1015) rfl, rfl⟩⟩) (fn))))))))) (fc (fc trivial (fc trivial (fc trivial (fc trivial (fc trivial (fc (⟨mthX7_borderBits, ariX7_borderBits, staX7_borderBits, rfl, ⟨List.mem_of_getElem? (i := 1139) rfl, rfl⟩⟩) (fc (⟨mthX7_left, rfl, ⟨_, rfl, ariX7_left⟩, ⟨_, rfl, rfl⟩, ⟨List.mem_of_getElem? (i := 1145) rfl, rfl⟩, insX7_left, selX7_left⟩) (fn)))))))) (fc (fc trivial (fc trivial (fc trivial (fc trivial (fc trivial (fc trivial (fc trivial (fc (⟨_, _, _, rfl, Nat.le_of_ble_eq_true rfl, ⟨List.mem_of_getElem? (i := 919) rfl, rfl⟩⟩) (fn))))))))) (fc (fc trivial (fc (⟨_, _, _, rfl, Nat.le_of_ble_eq_true rfl, ⟨List.mem_of_getElem? (i := 920) rfl, rfl⟩⟩) (fc trivial (fc trivial (fc trivial (fc trivial (fc (⟨_, _, _, rfl, Nat.le_of_ble_eq_true rfl, ⟨List.mem_of_getElem? (i := 920) rfl, rfl⟩⟩) (fc trivial (fc trivial (fc (⟨_, _, _, rfl, Nat.le_of_ble_eq_true rfl, ⟨List.mem_of_getElem? (i := 920) rfl, rfl⟩, by decide +kernel⟩) (fn))))))))))) (fc (fc trivial (fc trivial (fc trivial (fc (⟨_, _, _, rfl, Nat.le_of_ble_eq_true rfl, ⟨List.mem_of_getElem? (i := 920) rfl, rfl⟩⟩) (fc trivial (fn)))))) (fn)))))))
set_option maxRecDepth 100000 in
theorem mokX7_rank : eMok MT MX7_rank := ⟨cksX7_rank, lksX7_rank, fn⟩
set_option maxRecDepth 100000 in
theorem cksX7_free : ∀ e ∈ (mPr MX7_free).flatten, eChk MX7_free e = true := List.all_eq_true.mp (by decide +kernel)
set_option maxRecDepth 100000 in
theorem lksX7_free : ∀ e ∈ (mPr MX7_free).flatten, eLink MT MX7_free e := eFl (fc (fc trivial (fc trivial (fc (⟨mthX7_isPlace, ariX7_isPlace, staX7_isPlace, rfl, ⟨List.mem_of_getElem? (i := 948) rfl, rfl⟩⟩) (fc trivial (fc trivial (fc trivial (fc trivial (fc trivial (fc trivial (fn)))))))))) (fc (fc (⟨mthX7_isIn, ariX7_isIn, staX7_isIn, rfl, ⟨List.mem_of_getElem? (i := 951) rfl, rfl⟩⟩) (fc trivial (fc trivial (fc trivial (fc trivial (fc (⟨mthX7_isWrong, rfl, ⟨_, rfl, ariX7_isWrong⟩, ⟨_, rfl, rfl⟩, ⟨List.mem_of_getElem? (i := 957) rfl, rfl⟩, insX7_isWrong, selX7_isWrong⟩) (fc trivial (fn)))))))) (fc (fc trivial (fc trivial (fc trivial (fc trivial (fc trivial (fc (⟨mthX7_rank, rfl, ⟨_, rfl, ariX7_rank⟩, ⟨_, rfl, rfl⟩, ⟨List.mem_of_getElem? (i := 1135) rfl, rfl⟩, insX7_rank, selX7_rank⟩) (fc trivial (fn)))))))) (fn))))
set_option maxRecDepth 100000 in
theorem mokX7_free : eMok MT MX7_free := ⟨cksX7_free, lksX7_free, fn⟩
set_option maxRecDepth 100000 in
theorem cksX7_holes : ∀ e ∈ (mPr MX7_holes).flatten, eChk MX7_holes e = true := List.all_eq_true.mp (by decide +kernel)
set_option maxRecDepth 100000 in
theorem lksX7_holes : ∀ e ∈ (mPr MX7_holes).flatten, eLink MT MX7_holes e := eFl (fc (fc trivial (fc trivial (fc (⟨mthX7_isPlace, ariX7_isPlace, staX7_isPlace, rfl, ⟨List.mem_of_getElem? (i := 948) rfl, rfl⟩⟩) (fc trivial (fc trivial (fc trivial (fc trivial (fc (⟨mthX7_isHeight, ariX7_isHeight, staX7_isHeight, rfl, ⟨List.mem_of_getElem? (i := 1012) rfl, rfl⟩⟩) (fn))))))))) (fc (fc trivial (fc trivial (fc trivial (fc trivial (fc (⟨mthX7_isWrong, rfl, ⟨_, rfl, ariX7_isWrong⟩, ⟨_, rfl, rfl⟩, ⟨List.mem_of_getElem? (i := 957) rfl, rfl⟩, insX7_isWrong, selX7_isWrong⟩) (fc trivial (fc trivial (fc trivial (fn))))))))) (fc (fc (⟨mthX7_sizeOf, rfl, ⟨_, rfl, ariX7_sizeOf⟩, ⟨_, rfl, rfl⟩, ⟨List.mem_of_getElem? (i := 984) rfl, rfl⟩, insX7_sizeOf, selX7_sizeOf⟩) (fc trivial (fc trivial (fc trivial (fc trivial (fc trivial (fc trivial (fc trivial (fn))))))))) (fc (fc trivial (fc trivial (fc trivial (fc (⟨mthX7_rank, rfl, ⟨_, rfl, ariX7_rank⟩, ⟨_, rfl, rfl⟩, ⟨List.mem_of_getElem? (i := 1135) rfl, rfl⟩, insX7_rank, selX7_rank⟩) (fc trivial (fc trivial (fc trivial (fc trivial (fc (⟨mthX7_facesOf, rfl, ⟨_, rfl, ariX7_facesOf⟩, ⟨_, rfl, rfl⟩, ⟨List.mem_of_getElem? (i := 1075) rfl, rfl⟩, insX7_facesOf, selX7_facesOf⟩) (fc trivial (fc trivial (fc trivial (fn))))))))))))) (fc (fc trivial (fc trivial (fc trivial (fc trivial (fc (⟨mthX7_rank, rfl, ⟨_, rfl, ariX7_rank⟩, ⟨_, rfl, rfl⟩, ⟨List.mem_of_getElem? (i := 1135) rfl, rfl⟩, insX7_rank, selX7_rank⟩) (fc trivial (fc trivial (fn)))))))) (fn))))))
set_option maxRecDepth 100000 in
theorem mokX7_holes : eMok MT MX7_holes := ⟨cksX7_holes, lksX7_holes, fn⟩
set_option maxRecDepth 100000 in
theorem cksX7_signed : ∀ e ∈ (mPr MX7_signed).flatten, eChk MX7_signed e = true := List.all_eq_true.mp (by decide +kernel)
set_option maxRecDepth 100000 in
theorem lksX7_signed : ∀ e ∈ (mPr MX7_signed).flatten, eLink MT MX7_signed e := eFl (fc (fc trivial (fc trivial (fc (⟨mthX7_isPlace, ariX7_isPlace, staX7_isPlace, rfl, ⟨List.mem_of_getElem? (i := 948) rfl, rfl⟩⟩) (fc trivial (fc trivial (fc trivial (fc trivial (fc (⟨mthX7_isWrong, rfl, ⟨_, rfl, ariX7_isWrong⟩, ⟨_, rfl, rfl⟩, ⟨List.mem_of_getElem? (i := 957) rfl, rfl⟩, insX7_isWrong, selX7_isWrong⟩) (fn))))))))) (fc (fc trivial (fc trivial (fc trivial (fc trivial (fc trivial (fc trivial (fc trivial (fc trivial (fc trivial (fc trivial (fc trivial (fn)))))))))))) (fc (fc trivial (fc trivial (fc trivial (fc trivial (fc trivial (fc trivial (fc trivial (fc (⟨mthX7_facesOf, rfl, ⟨_, rfl, ariX7_facesOf⟩, ⟨_, rfl, rfl⟩, ⟨List.mem_of_getElem? (i := 1075) rfl, rfl⟩, insX7_facesOf, selX7_facesOf⟩) (fc trivial (fc trivial (fn))))))))))) (fc (fc trivial (fc trivial (fc (⟨mthX7_facesOf, rfl, ⟨_, rfl, ariX7_facesOf⟩, ⟨_, rfl, rfl⟩, ⟨List.mem_of_getElem? (i := 1075) rfl, rfl⟩, insX7_facesOf, selX7_facesOf⟩) (fc trivial (fc trivial (fc trivial (fc trivial (fc trivial (fc trivial (fc trivial (fn))))))))))) (fn)))))
set_option maxRecDepth 100000 in
theorem mokX7_signed : eMok MT MX7_signed := ⟨cksX7_signed, lksX7_signed, fn⟩
set_option maxRecDepth 100000 in
theorem cksX7_rowMany : ∀ e ∈ (mPr MX7_rowMany).flatten, eChk MX7_rowMany e = true := List.all_eq_true.mp (by decide +kernel)
set_option maxRecDepth 100000 in
theorem lksX7_rowMany : ∀ e ∈ (mPr MX7_rowMany).flatten, eLink MT MX7_rowMany e := eFl (fc (fc trivial (fc trivial (fc trivial (fc trivial (fc trivial (fc trivial (fc trivial (fc trivial (fc trivial (fc (⟨_, _, _, rfl, Nat.le_of_ble_eq_true rfl, ⟨List.mem_of_getElem? (i := 916) rfl, rfl⟩⟩) (fn))))))))))) (fc (fc trivial (fc trivial (fc trivial (fc trivial (fc trivial (fc trivial (fc trivial (fc trivial (fc trivial (fc trivial (fn))))))))))) (fc (fc trivial (fc trivial (fn))) (fn))))
set_option maxRecDepth 100000 in
theorem mokX7_rowMany : eMok MT MX7_rowMany := ⟨cksX7_rowMany, lksX7_rowMany, fn⟩
set_option maxRecDepth 100000 in
theorem cksX7_rowHeight : ∀ e ∈ (mPr MX7_rowHeight).flatten, eChk MX7_rowHeight e = true := List.all_eq_true.mp (by decide +kernel)
set_option maxRecDepth 100000 in
theorem lksX7_rowHeight : ∀ e ∈ (mPr MX7_rowHeight).flatten, eLink MT MX7_rowHeight e := eFl (fc (fc trivial (fc trivial (fc trivial (fc trivial (fc trivial (fc trivial (fc trivial (fc trivial (fc (⟨_, _, _, rfl, Nat.le_of_ble_eq_true rfl, ⟨List.mem_of_getElem? (i := 916) rfl, rfl⟩⟩) (fc trivial (fn))))))))))) (fc (fc trivial (fc trivial (fc trivial (fc (⟨mthX7_height, ariX7_height, staX7_height, rfl, ⟨List.mem_of_getElem? (i := 1015) rfl, rfl⟩⟩) (fc trivial (fc trivial (fc trivial (fc trivial (fn))))))))) (fc (fc trivial (fc trivial (fc trivial (fn)))) (fn))))
set_option maxRecDepth 100000 in
theorem mokX7_rowHeight : eMok MT MX7_rowHeight := ⟨cksX7_rowHeight, lksX7_rowHeight, fn⟩
set_option maxRecDepth 100000 in
theorem cksX7_flip : ∀ e ∈ (mPr MX7_flip).flatten, eChk MX7_flip e = true := List.all_eq_true.mp (by decide +kernel)
set_option maxRecDepth 100000 in
theorem lksX7_flip : ∀ e ∈ (mPr MX7_flip).flatten, eLink MT MX7_flip e := eFl (fc (fc trivial (fc trivial (fc (⟨mthX7_isFace, ariX7_isFace, staX7_isFace, rfl, ⟨List.mem_of_getElem? (i := 954) rfl, rfl⟩⟩) (fc trivial (fc trivial (fc trivial (fc trivial (fc (⟨mthX7_rowMany, rfl, ⟨_, rfl, ariX7_rowMany⟩, ⟨_, rfl, rfl⟩, ⟨List.mem_of_getElem? (i := 1161) rfl, rfl⟩, insX7_rowMany, selX7_rowMany⟩) (fn))))))))) (fc (fc trivial (fc trivial (fc (⟨mthX7_rowHeight, rfl, ⟨_, rfl, ariX7_rowHeight⟩, ⟨_, rfl, rfl⟩, ⟨List.mem_of_getElem? (i := 1165) rfl, rfl⟩, insX7_rowHeight, selX7_rowHeight⟩) (fc trivial (fc (⟨mthX7_height, ariX7_height, staX7_height, rfl, ⟨List.mem_of_getElem? (i := 1015) rfl, rfl⟩⟩) (fc trivial (fc trivial (fc trivial (fn))))))))) (fc (fc trivial (fc (⟨mthX7_isWrong, rfl, ⟨_, rfl, ariX7_isWrong⟩, ⟨_, rfl, rfl⟩, ⟨List.mem_of_getElem? (i := 957) rfl, rfl⟩, insX7_isWrong, selX7_isWrong⟩) (fc trivial (fc trivial (fc trivial (fc trivial (fc (⟨_, _, _, rfl, Nat.le_of_ble_eq_true rfl, ⟨List.mem_of_getElem? (i := 916) rfl, rfl⟩⟩) (fc trivial (fn))))))))) (fc (fc trivial (fc (⟨_, _, _, rfl, Nat.le_of_ble_eq_true rfl, ⟨List.mem_of_getElem? (i := 916) rfl, rfl⟩⟩) (fc trivial (fc trivial (fc trivial (fc trivial (fc trivial (fc trivial (fc trivial (fc trivial (fn))))))))))) (fc (fc (⟨mthX7_rowMany, rfl, ⟨_, rfl, ariX7_rowMany⟩, ⟨_, rfl, rfl⟩, ⟨List.mem_of_getElem? (i := 1161) rfl, rfl⟩, insX7_rowMany, selX7_rowMany⟩) (fc trivial (fn))) (fn))))))
set_option maxRecDepth 100000 in
theorem mokX7_flip : eMok MT MX7_flip := ⟨cksX7_flip, lksX7_flip, fn⟩
set_option maxRecDepth 100000 in
theorem cksX7_findBorder : ∀ e ∈ (mPr MX7_findBorder).flatten, eChk MX7_findBorder e = true := List.all_eq_true.mp (by decide +kernel)
set_option maxRecDepth 100000 in
theorem lksX7_findBorder : ∀ e ∈ (mPr MX7_findBorder).flatten, eLink MT MX7_findBorder e := eFl (fc (fc trivial (fc trivial (fc trivial (fc trivial (fc trivial (fc trivial (fc (⟨_, _, _, rfl, Nat.le_of_ble_eq_true rfl, ⟨List.mem_of_getElem? (i := 917) rfl, rfl⟩⟩) (fc trivial (fc trivial (fc trivial (fn))))))))))) (fc (fc trivial (fc trivial (fc trivial (fc trivial (fc trivial (fc trivial (fc (⟨_, _, _, rfl, Nat.le_of_ble_eq_true rfl, ⟨List.mem_of_getElem? (i := 917) rfl, rfl⟩⟩) (fc trivial (fc trivial (fc trivial (fc trivial (fn)))))))))))) (fc (fc trivial (fc trivial (fc trivial (fc trivial (fc trivial (fc trivial (fc (⟨_, _, _, rfl, Nat.le_of_ble_eq_true rfl, ⟨List.mem_of_getElem? (i := 916) rfl, rfl⟩⟩) (fc trivial (fc trivial (fc trivial (fc trivial (fc trivial (fn))))))))))))) (fc (fc trivial (fc trivial (fc trivial (fc trivial (fc trivial (fc trivial (fc trivial (fc trivial (fc trivial (fn)))))))))) (fc (fc trivial (fc trivial (fc trivial (fn)))) (fn))))))
set_option maxRecDepth 100000 in
theorem mokX7_findBorder : eMok MT MX7_findBorder := ⟨cksX7_findBorder, lksX7_findBorder, fn⟩
set_option maxRecDepth 100000 in
theorem cksX7_border : ∀ e ∈ (mPr MX7_border).flatten, eChk MX7_border e = true := List.all_eq_true.mp (by decide +kernel)
set_option maxRecDepth 100000 in
theorem lksX7_border : ∀ e ∈ (mPr MX7_border).flatten, eLink MT MX7_border e := eFl (fc (fc trivial (fc (⟨mthX7_findBorder, rfl, ⟨_, rfl, ariX7_findBorder⟩, ⟨_, rfl, rfl⟩, ⟨List.mem_of_getElem? (i := 1173) rfl, rfl⟩, insX7_findBorder, selX7_findBorder⟩) (fc trivial (fc trivial (fc trivial (fc trivial (fc trivial (fc trivial (fc (⟨_, _, _, rfl, Nat.le_of_ble_eq_true rfl, ⟨List.mem_of_getElem? (i := 916) rfl, rfl⟩⟩) (fn)))))))))) (fc (fc trivial (fc trivial (fc (⟨_, _, _, rfl, Nat.le_of_ble_eq_true rfl, ⟨List.mem_of_getElem? (i := 917) rfl, rfl⟩⟩) (fc trivial (fc trivial (fc trivial (fc trivial (fc trivial (fc trivial (fn)))))))))) (fc (fc (⟨mthX7_rowMany, rfl, ⟨_, rfl, ariX7_rowMany⟩, ⟨_, rfl, rfl⟩, ⟨List.mem_of_getElem? (i := 1161) rfl, rfl⟩, insX7_rowMany, selX7_rowMany⟩) (fc trivial (fn))) (fn))))
set_option maxRecDepth 100000 in
theorem mokX7_border : eMok MT MX7_border := ⟨cksX7_border, lksX7_border, fn⟩
set_option maxRecDepth 100000 in
theorem cksX7_drop : ∀ e ∈ (mPr MX7_drop).flatten, eChk MX7_drop e = true := List.all_eq_true.mp (by decide +kernel)
set_option maxRecDepth 100000 in
theorem lksX7_drop : ∀ e ∈ (mPr MX7_drop).flatten, eLink MT MX7_drop e := eFl (fc (fc trivial (fc (⟨mthX7_rowMany, rfl, ⟨_, rfl, ariX7_rowMany⟩, ⟨_, rfl, rfl⟩, ⟨List.mem_of_getElem? (i := 1161) rfl, rfl⟩, insX7_rowMany, selX7_rowMany⟩) (fc trivial (fc trivial (fc trivial (fc trivial (fc trivial (fc trivial (fc trivial (fc (⟨_, _, _, rfl, Nat.le_of_ble_eq_true rfl, ⟨List.mem_of_getElem? (i := 916) rfl, rfl⟩⟩) (fn))))))))))) (fc (fc trivial (fc trivial (fc trivial (fc trivial (fc trivial (fc trivial (fc trivial (fn)))))))) (fn)))
set_option maxRecDepth 100000 in
theorem mokX7_drop : eMok MT MX7_drop := ⟨cksX7_drop, lksX7_drop, fn⟩
set_option maxRecDepth 100000 in
theorem cksX7_rowAt : ∀ e ∈ (mPr MX7_rowAt).flatten, eChk MX7_rowAt e = true := List.all_eq_true.mp (by decide +kernel)
set_option maxRecDepth 100000 in
theorem lksX7_rowAt : ∀ e ∈ (mPr MX7_rowAt).flatten, eLink MT MX7_rowAt e := eFl (fc (fc trivial (fc trivial (fc trivial (fc trivial (fc (⟨mthX7_rowMany, rfl, ⟨_, rfl, ariX7_rowMany⟩, ⟨_, rfl, rfl⟩, ⟨List.mem_of_getElem? (i := 1161) rfl, rfl⟩, insX7_rowMany, selX7_rowMany⟩) (fc trivial (fc trivial (fc (⟨mthX7_isIn, ariX7_isIn, staX7_isIn, rfl, ⟨List.mem_of_getElem? (i := 951) rfl, rfl⟩⟩) (fc trivial (fc trivial (fn))))))))))) (fc (fc trivial (fc trivial (fc (⟨mthX7_isWrong, rfl, ⟨_, rfl, ariX7_isWrong⟩, ⟨_, rfl, rfl⟩, ⟨List.mem_of_getElem? (i := 957) rfl, rfl⟩, insX7_isWrong, selX7_isWrong⟩) (fc trivial (fc trivial (fc trivial (fc trivial (fc trivial (fc trivial (fc trivial (fn))))))))))) (fc (fc trivial (fc trivial (fc trivial (fc trivial (fc trivial (fc (⟨_, _, _, rfl, Nat.le_of_ble_eq_true rfl, ⟨List.mem_of_getElem? (i := 916) rfl, rfl⟩⟩) (fc trivial (fc trivial (fc trivial (fn)))))))))) (fc (fc trivial (fc trivial (fc trivial (fc trivial (fc trivial (fc trivial (fc trivial (fc trivial (fn))))))))) (fn)))))
set_option maxRecDepth 100000 in
theorem mokX7_rowAt : eMok MT MX7_rowAt := ⟨cksX7_rowAt, lksX7_rowAt, fn⟩
set_option maxRecDepth 100000 in
theorem cksX7_isRound : ∀ e ∈ (mPr MX7_isRound).flatten, eChk MX7_isRound e = true := List.all_eq_true.mp (by decide +kernel)
set_option maxRecDepth 100000 in
theorem lksX7_isRound : ∀ e ∈ (mPr MX7_isRound).flatten, eLink MT MX7_isRound e := eFl (fc (fc trivial (fc (⟨mthX7_findBorder, rfl, ⟨_, rfl, ariX7_findBorder⟩, ⟨_, rfl, rfl⟩, ⟨List.mem_of_getElem? (i := 1173) rfl, rfl⟩, insX7_findBorder, selX7_findBorder⟩) (fc trivial (fc trivial (fc trivial (fc trivial (fc trivial (fc trivial (fc trivial (fc trivial (fn))))))))))) (fc (fc trivial (fc (⟨_, _, _, rfl, Nat.le_of_ble_eq_true rfl, ⟨List.mem_of_getElem? (i := 917) rfl, rfl⟩⟩) (fc trivial (fc trivial (fc trivial (fc trivial (fc trivial (fc trivial (fc trivial (fc trivial (fn))))))))))) (fc (fc trivial (fc trivial (fc trivial (fc trivial (fn))))) (fn))))
set_option maxRecDepth 100000 in
theorem mokX7_isRound : eMok MT MX7_isRound := ⟨cksX7_isRound, lksX7_isRound, fn⟩
set_option maxRecDepth 100000 in
theorem cksX7_fills : ∀ e ∈ (mPr MX7_fills).flatten, eChk MX7_fills e = true := List.all_eq_true.mp (by decide +kernel)
set_option maxRecDepth 100000 in
theorem lksX7_fills : ∀ e ∈ (mPr MX7_fills).flatten, eLink MT MX7_fills e := eFl (fc (fc trivial (fc (⟨mthX7_isPlace, ariX7_isPlace, staX7_isPlace, rfl, ⟨List.mem_of_getElem? (i := 948) rfl, rfl⟩⟩) (fc trivial (fc trivial (fc trivial (fc trivial (fc trivial (fc trivial (fc trivial (fc trivial (fn))))))))))) (fc (fc trivial (fc (⟨mthX7_isPlace, ariX7_isPlace, staX7_isPlace, rfl, ⟨List.mem_of_getElem? (i := 948) rfl, rfl⟩⟩) (fc trivial (fc trivial (fc trivial (fc (⟨_, _, _, rfl, Nat.le_of_ble_eq_true rfl, ⟨List.mem_of_getElem? (i := 916) rfl, rfl⟩⟩) (fc trivial (fn)))))))) (fc (fc trivial (fc trivial (fc trivial (fc trivial (fc trivial (fc (⟨mthX7_isThere, rfl, ⟨_, rfl, ariX7_isThere⟩, ⟨_, rfl, rfl⟩, ⟨List.mem_of_getElem? (i := 964) rfl, rfl⟩, insX7_isThere, selX7_isThere⟩) (fc trivial (fc trivial (fc trivial (fn)))))))))) (fc (fc trivial (fc trivial (fc trivial (fc trivial (fc trivial (fc (⟨_, _, _, rfl, Nat.le_of_ble_eq_true rfl, ⟨List.mem_of_getElem? (i := 916) rfl, rfl⟩⟩) (fc trivial (fc trivial (fc trivial (fn)))))))))) (fc (fc trivial (fc (⟨mthX7_bit, ariX7_bit, staX7_bit, rfl, ⟨List.mem_of_getElem? (i := 1142) rfl, rfl⟩⟩) (fc trivial (fc trivial (fc trivial (fc trivial (fc trivial (fc trivial (fn))))))))) (fc (fc trivial (fc trivial (fc (⟨mthX7_isPlace, ariX7_isPlace, staX7_isPlace, rfl, ⟨List.mem_of_getElem? (i := 948) rfl, rfl⟩⟩) (fc trivial (fc trivial (fc trivial (fc trivial (fc trivial (fn))))))))) (fc (fc trivial (fc trivial (fc trivial (fc (⟨mthX7_isWrong, rfl, ⟨_, rfl, ariX7_isWrong⟩, ⟨_, rfl, rfl⟩, ⟨List.mem_of_getElem? (i := 957) rfl, rfl⟩, insX7_isWrong, selX7_isWrong⟩) (fc trivial (fc trivial (fc trivial (fc trivial (fc trivial (fn)))))))))) (fc (fc trivial (fc (⟨mthX7_rowHeight, rfl, ⟨_, rfl, ariX7_rowHeight⟩, ⟨_, rfl, rfl⟩, ⟨List.mem_of_getElem? (i := 1165) rfl, rfl⟩, insX7_rowHeight, selX7_rowHeight⟩) (fc trivial (fc trivial (fc (⟨mthX7_rank, rfl, ⟨_, rfl, ariX7_rank⟩, ⟨_, rfl, rfl⟩, ⟨List.mem_of_getElem? (i := 1135) rfl, rfl⟩, insX7_rank, selX7_rank⟩) (fc trivial (fc trivial (fc trivial (fc (⟨mthX7_left, rfl, ⟨_, rfl, ariX7_left⟩, ⟨_, rfl, rfl⟩, ⟨List.mem_of_getElem? (i := 1145) rfl, rfl⟩, insX7_left, selX7_left⟩) (fc trivial (fn))))))))))) (fc (fc trivial (fc trivial (fc trivial (fc trivial (fc trivial (fc trivial (fn))))))) (fn))))))))))
set_option maxRecDepth 100000 in
theorem mokX7_fills : eMok MT MX7_fills := ⟨cksX7_fills, lksX7_fills, fn⟩
set_option maxRecDepth 100000 in
theorem cksX7_mean : ∀ e ∈ (mPr MX7_mean).flatten, eChk MX7_mean e = true := List.all_eq_true.mp (by decide +kernel)
set_option maxRecDepth 100000 in
theorem lksX7_mean : ∀ e ∈ (mPr MX7_mean).flatten, eLink MT MX7_mean e := eFl (fc (fc trivial (fc trivial (fc (⟨mthX7_isPlace, ariX7_isPlace, staX7_isPlace, rfl, ⟨List.mem_of_getElem? (i := 948) rfl, rfl⟩⟩) (fc trivial (fc trivial (fc trivial (fc trivial (fc trivial (fc (⟨mthX7_sizeOf, rfl, ⟨_, rfl, ariX7_sizeOf⟩, ⟨_, rfl, rfl⟩, ⟨List.mem_of_getElem? (i := 984) rfl, rfl⟩, insX7_sizeOf, selX7_sizeOf⟩) (fn)))))))))) (fc (fc trivial (fc trivial (fc trivial (fc trivial (fc (⟨mthX7_isWrong, rfl, ⟨_, rfl, ariX7_isWrong⟩, ⟨_, rfl, rfl⟩, ⟨List.mem_of_getElem? (i := 957) rfl, rfl⟩, insX7_isWrong, selX7_isWrong⟩) (fc trivial (fc trivial (fn)))))))) (fc (fc trivial (fc trivial (fc trivial (fc trivial (fc trivial (fc trivial (fc trivial (fc trivial (fc trivial (fc trivial (fc trivial (fc trivial (fn))))))))))))) (fc (fc (⟨mthX7_isThere, rfl, ⟨_, rfl, ariX7_isThere⟩, ⟨_, rfl, rfl⟩, ⟨List.mem_of_getElem? (i := 964) rfl, rfl⟩, insX7_isThere, selX7_isThere⟩) (fc trivial (fc trivial (fc (⟨mthX7_height, ariX7_height, staX7_height, rfl, ⟨List.mem_of_getElem? (i := 1015) rfl, rfl⟩⟩) (fc trivial (fc trivial (fc trivial (fc trivial (fn))))))))) (fc (fc trivial (fc trivial (fc trivial (fc trivial (fc trivial (fc trivial (fc (⟨mthX7_sizeOf, rfl, ⟨_, rfl, ariX7_sizeOf⟩, ⟨_, rfl, rfl⟩, ⟨List.mem_of_getElem? (i := 984) rfl, rfl⟩, insX7_sizeOf, selX7_sizeOf⟩) (fc trivial (fc trivial (fc trivial (fn))))))))))) (fn))))))
set_option maxRecDepth 100000 in
theorem mokX7_mean : eMok MT MX7_mean := ⟨cksX7_mean, lksX7_mean, fn⟩
set_option maxRecDepth 100000 in
theorem cksX7_share : ∀ e ∈ (mPr MX7_share).flatten, eChk MX7_share e = true := List.all_eq_true.mp (by decide +kernel)
set_option maxRecDepth 100000 in
theorem lksX7_share : ∀ e ∈ (mPr MX7_share).flatten, eLink MT MX7_share e := eFl (fc (fc trivial (fc trivial (fc (⟨mthX7_isPlace, ariX7_isPlace, staX7_isPlace, rfl, ⟨List.mem_of_getElem? (i := 948) rfl, rfl⟩⟩) (fc trivial (fc trivial (fc trivial (fc trivial (fc (⟨mthX7_isWrong, rfl, ⟨_, rfl, ariX7_isWrong⟩, ⟨_, rfl, rfl⟩, ⟨List.mem_of_getElem? (i := 957) rfl, rfl⟩, insX7_isWrong, selX7_isWrong⟩) (fn))))))))) (fc (fc trivial (fc trivial (fc trivial (fc (⟨mthX7_sizeOf, rfl, ⟨_, rfl, ariX7_sizeOf⟩, ⟨_, rfl, rfl⟩, ⟨List.mem_of_getElem? (i := 984) rfl, rfl⟩, insX7_sizeOf, selX7_sizeOf⟩) (fc trivial (fc trivial (fc trivial (fc trivial (fc trivial (fc (⟨mthX7_greatestOf, rfl, ⟨_, rfl, ariX7_greatestOf⟩, ⟨_, rfl, rfl⟩, ⟨List.mem_of_getElem? (i := 1091) rfl, rfl⟩, insX7_greatestOf, selX7_greatestOf⟩) (fn))))))))))) (fc (fc trivial (fc trivial (fc trivial (fc (⟨mthX7_sizeOf, rfl, ⟨_, rfl, ariX7_sizeOf⟩, ⟨_, rfl, rfl⟩, ⟨List.mem_of_getElem? (i := 984) rfl, rfl⟩, insX7_sizeOf, selX7_sizeOf⟩) (fc trivial (fc trivial (fc trivial (fn)))))))) (fn))))
set_option maxRecDepth 100000 in
theorem mokX7_share : eMok MT MX7_share := ⟨cksX7_share, lksX7_share, fn⟩
set_option maxRecDepth 100000 in
theorem cksX7_checksum : ∀ e ∈ (mPr MX7_checksum).flatten, eChk MX7_checksum e = true := List.all_eq_true.mp (by decide +kernel)
set_option maxRecDepth 100000 in
theorem lksX7_checksum : ∀ e ∈ (mPr MX7_checksum).flatten, eLink MT MX7_checksum e := eFl (fc (fc (⟨List.mem_of_getElem? (i := 1205) rfl, rfl⟩) (fc trivial (fc trivial (fc trivial (fc trivial (fc trivial (fc trivial (fc (⟨List.mem_of_getElem? (i := 1206) rfl, rfl⟩) (fc trivial (fn)))))))))) (fc (fc trivial (fc trivial (fc trivial (fc (⟨mthX7_sizeOf, rfl, ⟨_, rfl, ariX7_sizeOf⟩, ⟨_, rfl, rfl⟩, ⟨List.mem_of_getElem? (i := 984) rfl, rfl⟩, insX7_sizeOf, selX7_sizeOf⟩) (fc trivial (fc trivial (fc trivial (fc trivial (fc trivial (fc trivial (fc trivial (fn)))))))))))) (fc (fc trivial (fc trivial (fc trivial (fc trivial (fc (⟨mthX7_isThere, rfl, ⟨_, rfl, ariX7_isThere⟩, ⟨_, rfl, rfl⟩, ⟨List.mem_of_getElem? (i := 964) rfl, rfl⟩, insX7_isThere, selX7_isThere⟩) (fc trivial (fc (⟨List.mem_of_getElem? (i := 1206) rfl, rfl⟩) (fn)))))))) (fc (fc trivial (fc trivial (fc trivial (fc trivial (fc trivial (fc trivial (fc trivial (fc trivial (fc trivial (fc trivial (fn))))))))))) (fc (fc trivial (fc trivial (fc (⟨List.mem_of_getElem? (i := 1206) rfl, rfl⟩) (fc trivial (fc trivial (fc trivial (fc (⟨mthX7_rowMany, rfl, ⟨_, rfl, ariX7_rowMany⟩, ⟨_, rfl, rfl⟩, ⟨List.mem_of_getElem? (i := 1161) rfl, rfl⟩, insX7_rowMany, selX7_rowMany⟩) (fn)))))))) (fc (fc trivial (fc trivial (fc trivial (fc trivial (fc trivial (fc trivial (fc trivial (fc trivial (fc trivial (fc (⟨_, _, _, rfl, Nat.le_of_ble_eq_true rfl, ⟨List.mem_of_getElem? (i := 916) rfl, rfl⟩⟩) (fn))))))))))) (fc (fc trivial (fc trivial (fc trivial (fc (⟨List.mem_of_getElem? (i := 1206) rfl, rfl⟩) (fc trivial (fc trivial (fc trivial (fc trivial (fc trivial (fc trivial (fn))))))))))) (fc (fc trivial (fc trivial (fc trivial (fc trivial (fc trivial (fc trivial (fn))))))) (fn)))))))))
set_option maxRecDepth 100000 in
theorem mokX7_checksum : eMok MT MX7_checksum := ⟨cksX7_checksum, lksX7_checksum, fn⟩
set_option maxRecDepth 100000 in
theorem cksX7_isSound : ∀ e ∈ (mPr MX7_isSound).flatten, eChk MX7_isSound e = true := List.all_eq_true.mp (by decide +kernel)
set_option maxRecDepth 100000 in
theorem lksX7_isSound : ∀ e ∈ (mPr MX7_isSound).flatten, eLink MT MX7_isSound e := eFl (fc (fc trivial (fc trivial (fc (⟨mthX7_isPlace, ariX7_isPlace, staX7_isPlace, rfl, ⟨List.mem_of_getElem? (i := 948) rfl, rfl⟩⟩) (fc trivial (fc trivial (fc trivial (fc trivial (fc (⟨mthX7_isWrong, rfl, ⟨_, rfl, ariX7_isWrong⟩, ⟨_, rfl, rfl⟩, ⟨List.mem_of_getElem? (i := 957) rfl, rfl⟩, insX7_isWrong, selX7_isWrong⟩) (fn))))))))) (fc (fc trivial (fc trivial (fc trivial (fc trivial (fc trivial (fn)))))) (fn)))
set_option maxRecDepth 100000 in
theorem mokX7_isSound : eMok MT MX7_isSound := ⟨cksX7_isSound, lksX7_isSound, fn⟩
set_option maxRecDepth 100000 in
theorem cksX7_isTrue : ∀ e ∈ (mPr MX7_isTrue).flatten, eChk MX7_isTrue e = true := List.all_eq_true.mp (by decide +kernel)
set_option maxRecDepth 100000 in
theorem lksX7_isTrue : ∀ e ∈ (mPr MX7_isTrue).flatten, eLink MT MX7_isTrue e := eFl (fc (fc trivial (fc trivial (fc (⟨mthX7_isPlace, ariX7_isPlace, staX7_isPlace, rfl, ⟨List.mem_of_getElem? (i := 948) rfl, rfl⟩⟩) (fc trivial (fc trivial (fc trivial (fc trivial (fc (⟨mthX7_isCorner, ariX7_isCorner, staX7_isCorner, rfl, ⟨List.mem_of_getElem? (i := 1029) rfl, rfl⟩⟩) (fn))))))))) (fc (fc trivial (fc trivial (fc (⟨mthX7_isCorner, ariX7_isCorner, staX7_isCorner, rfl, ⟨List.mem_of_getElem? (i := 1029) rfl, rfl⟩⟩) (fc trivial (fc trivial (fc trivial (fc trivial (fc (⟨mthX7_isWrong, rfl, ⟨_, rfl, ariX7_isWrong⟩, ⟨_, rfl, rfl⟩, ⟨List.mem_of_getElem? (i := 957) rfl, rfl⟩, insX7_isWrong, selX7_isWrong⟩) (fn))))))))) (fc (fc trivial (fc trivial (fc trivial (fc trivial (fc trivial (fn)))))) (fn))))
set_option maxRecDepth 100000 in
theorem mokX7_isTrue : eMok MT MX7_isTrue := ⟨cksX7_isTrue, lksX7_isTrue, fn⟩
set_option maxRecDepth 100000 in
theorem cksX7_faceIsTrue : ∀ e ∈ (mPr MX7_faceIsTrue).flatten, eChk MX7_faceIsTrue e = true := List.all_eq_true.mp (by decide +kernel)
set_option maxRecDepth 100000 in
theorem lksX7_faceIsTrue : ∀ e ∈ (mPr MX7_faceIsTrue).flatten, eLink MT MX7_faceIsTrue e := eFl (fc (fc trivial (fc trivial (fc trivial (fc trivial (fc (⟨mthX7_missing, rfl, ⟨_, rfl, ariX7_missing⟩, ⟨_, rfl, rfl⟩, ⟨List.mem_of_getElem? (i := 972) rfl, rfl⟩, insX7_missing, selX7_missing⟩) (fc (⟨mthX7_isWrong, rfl, ⟨_, rfl, ariX7_isWrong⟩, ⟨_, rfl, rfl⟩, ⟨List.mem_of_getElem? (i := 957) rfl, rfl⟩, insX7_isWrong, selX7_isWrong⟩) (fc trivial (fc trivial (fc trivial (fn)))))))))) (fc (fc trivial (fc trivial (fn))) (fn)))
set_option maxRecDepth 100000 in
theorem mokX7_faceIsTrue : eMok MT MX7_faceIsTrue := ⟨cksX7_faceIsTrue, lksX7_faceIsTrue, fn⟩
set_option maxRecDepth 100000 in
theorem cksX7_pairIsTrue : ∀ e ∈ (mPr MX7_pairIsTrue).flatten, eChk MX7_pairIsTrue e = true := List.all_eq_true.mp (by decide +kernel)
set_option maxRecDepth 100000 in
theorem lksX7_pairIsTrue : ∀ e ∈ (mPr MX7_pairIsTrue).flatten, eLink MT MX7_pairIsTrue e := eFl (fc (fc trivial (fc trivial (fc (⟨mthX7_isPlace, ariX7_isPlace, staX7_isPlace, rfl, ⟨List.mem_of_getElem? (i := 948) rfl, rfl⟩⟩) (fc trivial (fc trivial (fc (⟨mthX7_isPlace, ariX7_isPlace, staX7_isPlace, rfl, ⟨List.mem_of_getElem? (i := 948) rfl, rfl⟩⟩) (fc trivial (fc trivial (fn))))))))) (fc (fc trivial (fc trivial (fc (⟨mthX7_isWrong, rfl, ⟨_, rfl, ariX7_isWrong⟩, ⟨_, rfl, rfl⟩, ⟨List.mem_of_getElem? (i := 957) rfl, rfl⟩, insX7_isWrong, selX7_isWrong⟩) (fc trivial (fc trivial (fc trivial (fc trivial (fc trivial (fn))))))))) (fn)))
set_option maxRecDepth 100000 in
theorem mokX7_pairIsTrue : eMok MT MX7_pairIsTrue := ⟨cksX7_pairIsTrue, lksX7_pairIsTrue, fn⟩
set_option maxRecDepth 100000 in
theorem cksJ6_bitCount_0f7a4 : ∀ e ∈ (mPr MJ6_bitCount_0f7a4).flatten, eChk MJ6_bitCount_0f7a4 e = true := List.all_eq_true.mp (by decide +kernel)
set_option maxRecDepth 100000 in
theorem lksJ6_bitCount_0f7a4 : ∀ e ∈ (mPr MJ6_bitCount_0f7a4).flatten, eLink MT MJ6_bitCount_0f7a4 e := eFl (fc (fc trivial (fc trivial (fc trivial (fc trivial (fc (⟨List.mem_of_getElem? (i := 92) rfl, rfl⟩) (fc trivial (fc trivial (fc trivial (fc trivial (fc (⟨List.mem_of_getElem? (i := 93) rfl, rfl⟩) (fc trivial (fc trivial (fn))))))))))))) (fc (fc trivial (fc trivial (fc (⟨List.mem_of_getElem? (i := 93) rfl, rfl⟩) (fc trivial (fc trivial (fc trivial (fc trivial (fc trivial (fc trivial (fc trivial (fc trivial (fc (⟨List.mem_of_getElem? (i := 94) rfl, rfl⟩) (fn))))))))))))) (fc (fc trivial (fc trivial (fc trivial (fc trivial (fc trivial (fc trivial (fc trivial (fc trivial (fc trivial (fc trivial (fc trivial (fc trivial (fc trivial (fc trivial (fn))))))))))))))) (fc (fc trivial (fc trivial (fc trivial (fc trivial (fn))))) (fn)))))
set_option maxRecDepth 100000 in
theorem mokJ6_bitCount_0f7a4 : eMok MT MJ6_bitCount_0f7a4 := ⟨cksJ6_bitCount_0f7a4, lksJ6_bitCount_0f7a4, fn⟩
set_option maxRecDepth 100000 in
theorem cksJ13_bitCount_95d88 : ∀ e ∈ (mPr MJ13_bitCount_95d88).flatten, eChk MJ13_bitCount_95d88 e = true := List.all_eq_true.mp (by decide +kernel)
set_option maxRecDepth 100000 in
theorem lksJ13_bitCount_95d88 : ∀ e ∈ (mPr MJ13_bitCount_95d88).flatten, eLink MT MJ13_bitCount_95d88 e := eFl (fc (fc trivial (fc trivial (fc trivial (fc trivial (fc (⟨List.mem_of_getElem? (i := 209) rfl, rfl⟩) (fc trivial (fc trivial (fc trivial (fc trivial (fc (⟨List.mem_of_getElem? (i := 210) rfl, rfl⟩) (fc trivial (fc trivial (fn))))))))))))) (fc (fc trivial (fc trivial (fc (⟨List.mem_of_getElem? (i := 210) rfl, rfl⟩) (fc trivial (fc trivial (fc trivial (fc trivial (fc trivial (fc trivial (fc trivial (fc trivial (fc (⟨List.mem_of_getElem? (i := 211) rfl, rfl⟩) (fn))))))))))))) (fc (fc trivial (fc trivial (fc trivial (fc trivial (fc trivial (fc trivial (fc trivial (fc trivial (fc trivial (fc trivial (fc trivial (fc trivial (fc trivial (fc trivial (fn))))))))))))))) (fc (fc trivial (fc trivial (fc trivial (fc trivial (fc trivial (fc trivial (fc trivial (fc trivial (fc trivial (fc trivial (fc trivial (fn)))))))))))) (fn)))))
set_option maxRecDepth 100000 in
theorem mokJ13_bitCount_95d88 : eMok MT MJ13_bitCount_95d88 := ⟨cksJ13_bitCount_95d88, lksJ13_bitCount_95d88, fn⟩
set_option maxRecDepth 100000 in
theorem cksL_put : ∀ e ∈ (mPr ML_put).flatten, eChk ML_put e = true := List.all_eq_true.mp (by decide +kernel)
set_option maxRecDepth 100000 in
theorem lksL_put : ∀ e ∈ (mPr ML_put).flatten, eLink MT ML_put e := eFl (fc (fc trivial (fc trivial (fc trivial (fc trivial (fc trivial (fc (⟨mthX6_put, rfl, ⟨_, rfl, ariX6_put⟩, ⟨_, rfl, rfl⟩, ⟨List.mem_of_getElem? (i := 243) rfl, rfl⟩, insX6_put, selX6_put⟩) (fc trivial (fc trivial (fc trivial (fc trivial (fc trivial (fn)))))))))))) (fc (fc trivial (fc trivial (fc trivial (fc trivial (fc trivial (fc trivial (fn))))))) (fn)))
set_option maxRecDepth 100000 in
theorem mokL_put : eMok MT ML_put := ⟨cksL_put, lksL_put, fc ⟨by decide, by decide, ⟨List.mem_of_getElem? (i := 241) rfl, rfl⟩⟩ (fc ⟨by decide, by decide, ⟨List.mem_of_getElem? (i := 242) rfl, rfl⟩⟩ (fn))⟩
set_option maxRecDepth 100000 in
theorem cksL_take : ∀ e ∈ (mPr ML_take).flatten, eChk ML_take e = true := List.all_eq_true.mp (by decide +kernel)
set_option maxRecDepth 100000 in
theorem lksL_take : ∀ e ∈ (mPr ML_take).flatten, eLink MT ML_take e := eFl (fc (fc trivial (fc trivial (fc trivial (fc trivial (fc trivial (fc (⟨mthX6_take, rfl, ⟨_, rfl, ariX6_take⟩, ⟨_, rfl, rfl⟩, ⟨List.mem_of_getElem? (i := 347) rfl, rfl⟩, insX6_take, selX6_take⟩) (fc trivial (fc trivial (fc trivial (fc trivial (fc trivial (fn)))))))))))) (fc (fc trivial (fc trivial (fc trivial (fc trivial (fc trivial (fc trivial (fc trivial (fc trivial (fc trivial (fn)))))))))) (fn)))
set_option maxRecDepth 100000 in
theorem mokL_take : eMok MT ML_take := ⟨cksL_take, lksL_take, fc ⟨by decide, by decide, ⟨List.mem_of_getElem? (i := 241) rfl, rfl⟩⟩ (fc ⟨by decide, by decide, ⟨List.mem_of_getElem? (i := 242) rfl, rfl⟩⟩ (fc ⟨by decide, by decide, ⟨List.mem_of_getElem? (i := 346) rfl, rfl⟩⟩ (fn)))⟩
set_option maxRecDepth 100000 in
theorem cksL_clear : ∀ e ∈ (mPr ML_clear).flatten, eChk ML_clear e = true := List.all_eq_true.mp (by decide +kernel)
set_option maxRecDepth 100000 in
theorem lksL_clear : ∀ e ∈ (mPr ML_clear).flatten, eLink MT ML_clear e := eFl (fc (fc trivial (fc trivial (fc trivial (fc trivial (fc (⟨mthX6_clear, rfl, ⟨_, rfl, ariX6_clear⟩, ⟨_, rfl, rfl⟩, ⟨List.mem_of_getElem? (i := 377) rfl, rfl⟩, insX6_clear, selX6_clear⟩) (fc trivial (fc trivial (fc trivial (fc trivial (fc trivial (fc trivial (fc trivial (fn))))))))))))) (fc (fc trivial (fn)) (fn)))
set_option maxRecDepth 100000 in
theorem mokL_clear : eMok MT ML_clear := ⟨cksL_clear, lksL_clear, fc ⟨by decide, by decide, ⟨List.mem_of_getElem? (i := 241) rfl, rfl⟩⟩ (fn)⟩
set_option maxRecDepth 100000 in
theorem cksL_copy : ∀ e ∈ (mPr ML_copy).flatten, eChk ML_copy e = true := List.all_eq_true.mp (by decide +kernel)
set_option maxRecDepth 100000 in
theorem lksL_copy : ∀ e ∈ (mPr ML_copy).flatten, eLink MT ML_copy e := eFl (fc (fc trivial (fc trivial (fc trivial (fc trivial (fc trivial (fc (⟨mthX6_copy, rfl, ⟨_, rfl, ariX6_copy⟩, ⟨_, rfl, rfl⟩, ⟨List.mem_of_getElem? (i := 384) rfl, rfl⟩, insX6_copy, selX6_copy⟩) (fc trivial (fc trivial (fc trivial (fc trivial (fc trivial (fn)))))))))))) (fc (fc trivial (fc trivial (fc trivial (fn)))) (fn)))
set_option maxRecDepth 100000 in
theorem mokL_copy : eMok MT ML_copy := ⟨cksL_copy, lksL_copy, fc ⟨by decide, by decide, ⟨List.mem_of_getElem? (i := 241) rfl, rfl⟩⟩ (fn)⟩
set_option maxRecDepth 100000 in
theorem cksL_unite : ∀ e ∈ (mPr ML_unite).flatten, eChk ML_unite e = true := List.all_eq_true.mp (by decide +kernel)
set_option maxRecDepth 100000 in
theorem lksL_unite : ∀ e ∈ (mPr ML_unite).flatten, eLink MT ML_unite e := eFl (fc (fc trivial (fc trivial (fc trivial (fc trivial (fc trivial (fc trivial (fc (⟨mthX6_unite, rfl, ⟨_, rfl, ariX6_unite⟩, ⟨_, rfl, rfl⟩, ⟨List.mem_of_getElem? (i := 391) rfl, rfl⟩, insX6_unite, selX6_unite⟩) (fc trivial (fc trivial (fc trivial (fc trivial (fn)))))))))))) (fc (fc trivial (fc trivial (fc trivial (fc trivial (fn))))) (fn)))
set_option maxRecDepth 100000 in
theorem mokL_unite : eMok MT ML_unite := ⟨cksL_unite, lksL_unite, fc ⟨by decide, by decide, ⟨List.mem_of_getElem? (i := 241) rfl, rfl⟩⟩ (fn)⟩
set_option maxRecDepth 100000 in
theorem cksL_meet : ∀ e ∈ (mPr ML_meet).flatten, eChk ML_meet e = true := List.all_eq_true.mp (by decide +kernel)
set_option maxRecDepth 100000 in
theorem lksL_meet : ∀ e ∈ (mPr ML_meet).flatten, eLink MT ML_meet e := eFl (fc (fc trivial (fc trivial (fc trivial (fc trivial (fc trivial (fc trivial (fc (⟨mthX6_meet, rfl, ⟨_, rfl, ariX6_meet⟩, ⟨_, rfl, rfl⟩, ⟨List.mem_of_getElem? (i := 402) rfl, rfl⟩, insX6_meet, selX6_meet⟩) (fc trivial (fc trivial (fc trivial (fc trivial (fn)))))))))))) (fc (fc trivial (fc trivial (fc trivial (fc trivial (fn))))) (fn)))
set_option maxRecDepth 100000 in
theorem mokL_meet : eMok MT ML_meet := ⟨cksL_meet, lksL_meet, fc ⟨by decide, by decide, ⟨List.mem_of_getElem? (i := 241) rfl, rfl⟩⟩ (fn)⟩
set_option maxRecDepth 100000 in
theorem cksL_full : ∀ e ∈ (mPr ML_full).flatten, eChk ML_full e = true := List.all_eq_true.mp (by decide +kernel)
set_option maxRecDepth 100000 in
theorem lksL_full : ∀ e ∈ (mPr ML_full).flatten, eLink MT ML_full e := eFl (fc (fc trivial (fc trivial (fc trivial (fc trivial (fc trivial (fc trivial (fc (⟨mthX6_full, rfl, ⟨_, rfl, ariX6_full⟩, ⟨_, rfl, rfl⟩, ⟨List.mem_of_getElem? (i := 413) rfl, rfl⟩, insX6_full, selX6_full⟩) (fc trivial (fc trivial (fc trivial (fc trivial (fn)))))))))))) (fc (fc trivial (fc trivial (fc trivial (fc trivial (fc trivial (fc trivial (fc trivial (fn)))))))) (fn)))
set_option maxRecDepth 100000 in
theorem mokL_full : eMok MT ML_full := ⟨cksL_full, lksL_full, fc ⟨by decide, by decide, ⟨List.mem_of_getElem? (i := 241) rfl, rfl⟩⟩ (fc ⟨by decide, by decide, ⟨List.mem_of_getElem? (i := 242) rfl, rfl⟩⟩ (fn))⟩
set_option maxRecDepth 100000 in
theorem cksL_low : ∀ e ∈ (mPr ML_low).flatten, eChk ML_low e = true := List.all_eq_true.mp (by decide +kernel)
set_option maxRecDepth 100000 in
theorem lksL_low : ∀ e ∈ (mPr ML_low).flatten, eLink MT ML_low e := eFl (fc (fc trivial (fc trivial (fc trivial (fc trivial (fc trivial (fc trivial (fc (⟨mthX6_low, rfl, ⟨_, rfl, ariX6_low⟩, ⟨_, rfl, rfl⟩, ⟨List.mem_of_getElem? (i := 421) rfl, rfl⟩, insX6_low, selX6_low⟩) (fc trivial (fc trivial (fc trivial (fc trivial (fn)))))))))))) (fc (fc trivial (fc trivial (fc trivial (fc trivial (fc trivial (fc trivial (fc trivial (fn)))))))) (fn)))
set_option maxRecDepth 100000 in
theorem mokL_low : eMok MT ML_low := ⟨cksL_low, lksL_low, fc ⟨by decide, by decide, ⟨List.mem_of_getElem? (i := 241) rfl, rfl⟩⟩ (fc ⟨by decide, by decide, ⟨List.mem_of_getElem? (i := 242) rfl, rfl⟩⟩ (fn))⟩
set_option maxRecDepth 100000 in
theorem cksL_about : ∀ e ∈ (mPr ML_about).flatten, eChk ML_about e = true := List.all_eq_true.mp (by decide +kernel)
set_option maxRecDepth 100000 in
theorem lksL_about : ∀ e ∈ (mPr ML_about).flatten, eLink MT ML_about e := eFl (fc (fc trivial (fc trivial (fc trivial (fc trivial (fc trivial (fc trivial (fc trivial (fc (⟨mthX6_about, rfl, ⟨_, rfl, ariX6_about⟩, ⟨_, rfl, rfl⟩, ⟨List.mem_of_getElem? (i := 439) rfl, rfl⟩, insX6_about, selX6_about⟩) (fc trivial (fc trivial (fc trivial (fn)))))))))))) (fc (fc trivial (fc trivial (fc trivial (fc trivial (fc trivial (fc trivial (fc trivial (fc trivial (fc trivial (fc trivial (fc trivial (fn)))))))))))) (fn)))
set_option maxRecDepth 100000 in
theorem mokL_about : eMok MT ML_about := ⟨cksL_about, lksL_about, fc ⟨by decide, by decide, ⟨List.mem_of_getElem? (i := 241) rfl, rfl⟩⟩ (fc ⟨by decide, by decide, ⟨List.mem_of_getElem? (i := 242) rfl, rfl⟩⟩ (fc ⟨by decide, by decide, ⟨List.mem_of_getElem? (i := 346) rfl, rfl⟩⟩ (fn)))⟩
set_option maxRecDepth 100000 in
theorem cksL_cone : ∀ e ∈ (mPr ML_cone).flatten, eChk ML_cone e = true := List.all_eq_true.mp (by decide +kernel)
set_option maxRecDepth 100000 in
theorem lksL_cone : ∀ e ∈ (mPr ML_cone).flatten, eLink MT ML_cone e := eFl (fc (fc trivial (fc trivial (fc trivial (fc trivial (fc trivial (fc trivial (fc (⟨mthX6_cone, rfl, ⟨_, rfl, ariX6_cone⟩, ⟨_, rfl, rfl⟩, ⟨List.mem_of_getElem? (i := 450) rfl, rfl⟩, insX6_cone, selX6_cone⟩) (fc trivial (fc trivial (fc trivial (fc trivial (fn)))))))))))) (fc (fc trivial (fc trivial (fc trivial (fc trivial (fc trivial (fc trivial (fc trivial (fc trivial (fc trivial (fc trivial (fn))))))))))) (fn)))
set_option maxRecDepth 100000 in
theorem mokL_cone : eMok MT ML_cone := ⟨cksL_cone, lksL_cone, fc ⟨by decide, by decide, ⟨List.mem_of_getElem? (i := 241) rfl, rfl⟩⟩ (fc ⟨by decide, by decide, ⟨List.mem_of_getElem? (i := 242) rfl, rfl⟩⟩ (fc ⟨by decide, by decide, ⟨List.mem_of_getElem? (i := 449) rfl, rfl⟩⟩ (fn)))⟩
set_option maxRecDepth 100000 in
theorem cksL_lift : ∀ e ∈ (mPr ML_lift).flatten, eChk ML_lift e = true := List.all_eq_true.mp (by decide +kernel)
set_option maxRecDepth 100000 in
theorem lksL_lift : ∀ e ∈ (mPr ML_lift).flatten, eLink MT ML_lift e := eFl (fc (fc trivial (fc trivial (fc trivial (fc trivial (fc trivial (fc trivial (fc trivial (fc (⟨mthX6_lift, rfl, ⟨_, rfl, ariX6_lift⟩, ⟨_, rfl, rfl⟩, ⟨List.mem_of_getElem? (i := 487) rfl, rfl⟩, insX6_lift, selX6_lift⟩) (fc trivial (fc trivial (fc trivial (fn)))))))))))) (fc (fc trivial (fc trivial (fc trivial (fc trivial (fc trivial (fc trivial (fc trivial (fc trivial (fc trivial (fc trivial (fc trivial (fn)))))))))))) (fn)))
set_option maxRecDepth 100000 in
theorem mokL_lift : eMok MT ML_lift := ⟨cksL_lift, lksL_lift, fc ⟨by decide, by decide, ⟨List.mem_of_getElem? (i := 241) rfl, rfl⟩⟩ (fc ⟨by decide, by decide, ⟨List.mem_of_getElem? (i := 242) rfl, rfl⟩⟩ (fc ⟨by decide, by decide, ⟨List.mem_of_getElem? (i := 449) rfl, rfl⟩⟩ (fn)))⟩
set_option maxRecDepth 100000 in
theorem cksL_other : ∀ e ∈ (mPr ML_other).flatten, eChk ML_other e = true := List.all_eq_true.mp (by decide +kernel)
set_option maxRecDepth 100000 in
theorem lksL_other : ∀ e ∈ (mPr ML_other).flatten, eLink MT ML_other e := eFl (fc (fc trivial (fc trivial (fc trivial (fc trivial (fc trivial (fc trivial (fc (⟨mthX6_other, rfl, ⟨_, rfl, ariX6_other⟩, ⟨_, rfl, rfl⟩, ⟨List.mem_of_getElem? (i := 498) rfl, rfl⟩, insX6_other, selX6_other⟩) (fc trivial (fc trivial (fc trivial (fc trivial (fn)))))))))))) (fc (fc trivial (fc trivial (fc trivial (fc trivial (fc trivial (fc trivial (fc trivial (fc trivial (fc trivial (fc trivial (fn))))))))))) (fn)))
set_option maxRecDepth 100000 in
theorem mokL_other : eMok MT ML_other := ⟨cksL_other, lksL_other, fc ⟨by decide, by decide, ⟨List.mem_of_getElem? (i := 241) rfl, rfl⟩⟩ (fc ⟨by decide, by decide, ⟨List.mem_of_getElem? (i := 242) rfl, rfl⟩⟩ (fc ⟨by decide, by decide, ⟨List.mem_of_getElem? (i := 449) rfl, rfl⟩⟩ (fn)))⟩
set_option maxRecDepth 100000 in
theorem cksL_exchange : ∀ e ∈ (mPr ML_exchange).flatten, eChk ML_exchange e = true := List.all_eq_true.mp (by decide +kernel)
set_option maxRecDepth 100000 in
theorem lksL_exchange : ∀ e ∈ (mPr ML_exchange).flatten, eLink MT ML_exchange e := eFl (fc (fc trivial (fc trivial (fc trivial (fc trivial (fc trivial (fc trivial (fc trivial (fc (⟨mthX6_exchange, rfl, ⟨_, rfl, ariX6_exchange⟩, ⟨_, rfl, rfl⟩, ⟨List.mem_of_getElem? (i := 513) rfl, rfl⟩, insX6_exchange, selX6_exchange⟩) (fc trivial (fc trivial (fc trivial (fn)))))))))))) (fc (fc trivial (fc trivial (fc trivial (fc trivial (fc trivial (fc trivial (fc trivial (fc trivial (fn))))))))) (fn)))
set_option maxRecDepth 100000 in
theorem mokL_exchange : eMok MT ML_exchange := ⟨cksL_exchange, lksL_exchange, fc ⟨by decide, by decide, ⟨List.mem_of_getElem? (i := 241) rfl, rfl⟩⟩ (fc ⟨by decide, by decide, ⟨List.mem_of_getElem? (i := 242) rfl, rfl⟩⟩ (fn))⟩
set_option maxRecDepth 100000 in
theorem cksL_fold : ∀ e ∈ (mPr ML_fold).flatten, eChk ML_fold e = true := List.all_eq_true.mp (by decide +kernel)
set_option maxRecDepth 100000 in
theorem lksL_fold : ∀ e ∈ (mPr ML_fold).flatten, eLink MT ML_fold e := eFl (fc (fc trivial (fc trivial (fc trivial (fc trivial (fc trivial (fc (⟨mthX6_fold, rfl, ⟨_, rfl, ariX6_fold⟩, ⟨_, rfl, rfl⟩, ⟨List.mem_of_getElem? (i := 530) rfl, rfl⟩, insX6_fold, selX6_fold⟩) (fc trivial (fc trivial (fc trivial (fc trivial (fc trivial (fn)))))))))))) (fc (fc trivial (fc trivial (fc trivial (fc trivial (fc trivial (fc trivial (fc trivial (fc trivial (fc trivial (fc trivial (fc trivial (fc trivial (fn))))))))))))) (fn)))
set_option maxRecDepth 100000 in
theorem mokL_fold : eMok MT ML_fold := ⟨cksL_fold, lksL_fold, fc ⟨by decide, by decide, ⟨List.mem_of_getElem? (i := 241) rfl, rfl⟩⟩ (fc ⟨by decide, by decide, ⟨List.mem_of_getElem? (i := 242) rfl, rfl⟩⟩ (fc ⟨by decide, by decide, ⟨List.mem_of_getElem? (i := 346) rfl, rfl⟩⟩ (fc ⟨by decide, by decide, ⟨List.mem_of_getElem? (i := 449) rfl, rfl⟩⟩ (fn))))⟩
set_option maxRecDepth 100000 in
theorem cksL_has : ∀ e ∈ (mPr ML_has).flatten, eChk ML_has e = true := List.all_eq_true.mp (by decide +kernel)
set_option maxRecDepth 100000 in
theorem lksL_has : ∀ e ∈ (mPr ML_has).flatten, eLink MT ML_has e := eFl (fc (fc trivial (fc trivial (fc trivial (fc trivial (fc trivial (fc (⟨mthX6_has, rfl, ⟨_, rfl, ariX6_has⟩, ⟨_, rfl, rfl⟩, ⟨List.mem_of_getElem? (i := 546) rfl, rfl⟩, insX6_has, selX6_has⟩) (fc trivial (fc trivial (fc trivial (fc trivial (fn))))))))))) (fc (fc trivial (fc trivial (fc trivial (fc trivial (fc trivial (fc trivial (fc trivial (fc trivial (fc trivial (fc trivial (fn))))))))))) (fn)))
set_option maxRecDepth 100000 in
theorem mokL_has : eMok MT ML_has := ⟨cksL_has, lksL_has, fc ⟨by decide, by decide, ⟨List.mem_of_getElem? (i := 241) rfl, rfl⟩⟩ (fc ⟨by decide, by decide, ⟨List.mem_of_getElem? (i := 242) rfl, rfl⟩⟩ (fn))⟩
set_option maxRecDepth 100000 in
theorem cksL_size : ∀ e ∈ (mPr ML_size).flatten, eChk ML_size e = true := List.all_eq_true.mp (by decide +kernel)
set_option maxRecDepth 100000 in
theorem lksL_size : ∀ e ∈ (mPr ML_size).flatten, eLink MT ML_size e := eFl (fc (fc trivial (fc trivial (fc trivial (fc trivial (fc (⟨mthX6_size, rfl, ⟨_, rfl, ariX6_size⟩, ⟨_, rfl, rfl⟩, ⟨List.mem_of_getElem? (i := 553) rfl, rfl⟩, insX6_size, selX6_size⟩) (fc trivial (fc trivial (fc trivial (fc trivial (fc trivial (fc trivial (fc trivial (fn))))))))))))) (fc (fc trivial (fn)) (fn)))
set_option maxRecDepth 100000 in
theorem mokL_size : eMok MT ML_size := ⟨cksL_size, lksL_size, fc ⟨by decide, by decide, ⟨List.mem_of_getElem? (i := 241) rfl, rfl⟩⟩ (fn)⟩
set_option maxRecDepth 100000 in
theorem cksL_faces : ∀ e ∈ (mPr ML_faces).flatten, eChk ML_faces e = true := List.all_eq_true.mp (by decide +kernel)
set_option maxRecDepth 100000 in
theorem lksL_faces : ∀ e ∈ (mPr ML_faces).flatten, eLink MT ML_faces e := eFl (fc (fc trivial (fc trivial (fc trivial (fc trivial (fc trivial (fc (⟨mthX6_faces, rfl, ⟨_, rfl, ariX6_faces⟩, ⟨_, rfl, rfl⟩, ⟨List.mem_of_getElem? (i := 560) rfl, rfl⟩, insX6_faces, selX6_faces⟩) (fc trivial (fc trivial (fc trivial (fc trivial (fc trivial (fn)))))))))))) (fc (fc trivial (fc trivial (fc trivial (fc trivial (fc trivial (fc trivial (fn))))))) (fn)))
set_option maxRecDepth 100000 in
theorem mokL_faces : eMok MT ML_faces := ⟨cksL_faces, lksL_faces, fc ⟨by decide, by decide, ⟨List.mem_of_getElem? (i := 241) rfl, rfl⟩⟩ (fc ⟨by decide, by decide, ⟨List.mem_of_getElem? (i := 242) rfl, rfl⟩⟩ (fn))⟩
set_option maxRecDepth 100000 in
theorem cksL_corners : ∀ e ∈ (mPr ML_corners).flatten, eChk ML_corners e = true := List.all_eq_true.mp (by decide +kernel)
set_option maxRecDepth 100000 in
theorem lksL_corners : ∀ e ∈ (mPr ML_corners).flatten, eLink MT ML_corners e := eFl (fc (fc trivial (fc trivial (fc trivial (fc trivial (fc (⟨mthX6_corners, rfl, ⟨_, rfl, ariX6_corners⟩, ⟨_, rfl, rfl⟩, ⟨List.mem_of_getElem? (i := 572) rfl, rfl⟩, insX6_corners, selX6_corners⟩) (fc trivial (fc trivial (fc trivial (fc trivial (fc trivial (fc trivial (fc trivial (fn))))))))))))) (fc (fc trivial (fn)) (fn)))
set_option maxRecDepth 100000 in
theorem mokL_corners : eMok MT ML_corners := ⟨cksL_corners, lksL_corners, fc ⟨by decide, by decide, ⟨List.mem_of_getElem? (i := 241) rfl, rfl⟩⟩ (fn)⟩
set_option maxRecDepth 100000 in
theorem cksL_over : ∀ e ∈ (mPr ML_over).flatten, eChk ML_over e = true := List.all_eq_true.mp (by decide +kernel)
set_option maxRecDepth 100000 in
theorem lksL_over : ∀ e ∈ (mPr ML_over).flatten, eLink MT ML_over e := eFl (fc (fc trivial (fc trivial (fc trivial (fc trivial (fc trivial (fc (⟨mthX6_over, rfl, ⟨_, rfl, ariX6_over⟩, ⟨_, rfl, rfl⟩, ⟨List.mem_of_getElem? (i := 579) rfl, rfl⟩, insX6_over, selX6_over⟩) (fc trivial (fc trivial (fc trivial (fc trivial (fc trivial (fn)))))))))))) (fc (fc trivial (fc trivial (fc trivial (fc trivial (fc trivial (fc trivial (fc trivial (fc trivial (fc trivial (fn)))))))))) (fn)))
set_option maxRecDepth 100000 in
theorem mokL_over : eMok MT ML_over := ⟨cksL_over, lksL_over, fc ⟨by decide, by decide, ⟨List.mem_of_getElem? (i := 241) rfl, rfl⟩⟩ (fc ⟨by decide, by decide, ⟨List.mem_of_getElem? (i := 242) rfl, rfl⟩⟩ (fc ⟨by decide, by decide, ⟨List.mem_of_getElem? (i := 346) rfl, rfl⟩⟩ (fn)))⟩
set_option maxRecDepth 100000 in
theorem cksL_greatest : ∀ e ∈ (mPr ML_greatest).flatten, eChk ML_greatest e = true := List.all_eq_true.mp (by decide +kernel)
set_option maxRecDepth 100000 in
theorem lksL_greatest : ∀ e ∈ (mPr ML_greatest).flatten, eLink MT ML_greatest e := eFl (fc (fc trivial (fc trivial (fc trivial (fc trivial (fc (⟨mthX6_greatest, rfl, ⟨_, rfl, ariX6_greatest⟩, ⟨_, rfl, rfl⟩, ⟨List.mem_of_getElem? (i := 586) rfl, rfl⟩, insX6_greatest, selX6_greatest⟩) (fc trivial (fc trivial (fc trivial (fc trivial (fc trivial (fc trivial (fc trivial (fn))))))))))))) (fc (fc trivial (fn)) (fn)))
set_option maxRecDepth 100000 in
theorem mokL_greatest : eMok MT ML_greatest := ⟨cksL_greatest, lksL_greatest, fc ⟨by decide, by decide, ⟨List.mem_of_getElem? (i := 241) rfl, rfl⟩⟩ (fn)⟩
set_option maxRecDepth 100000 in
theorem cksL_greatestAt : ∀ e ∈ (mPr ML_greatestAt).flatten, eChk ML_greatestAt e = true := List.all_eq_true.mp (by decide +kernel)
set_option maxRecDepth 100000 in
theorem lksL_greatestAt : ∀ e ∈ (mPr ML_greatestAt).flatten, eLink MT ML_greatestAt e := eFl (fc (fc trivial (fc trivial (fc trivial (fc trivial (fc trivial (fc (⟨mthX6_greatestAt, rfl, ⟨_, rfl, ariX6_greatestAt⟩, ⟨_, rfl, rfl⟩, ⟨List.mem_of_getElem? (i := 599) rfl, rfl⟩, insX6_greatestAt, selX6_greatestAt⟩) (fc trivial (fc trivial (fc trivial (fc trivial (fc trivial (fn)))))))))))) (fc (fc trivial (fc trivial (fc trivial (fn)))) (fn)))
set_option maxRecDepth 100000 in
theorem mokL_greatestAt : eMok MT ML_greatestAt := ⟨cksL_greatestAt, lksL_greatestAt, fc ⟨by decide, by decide, ⟨List.mem_of_getElem? (i := 241) rfl, rfl⟩⟩ (fn)⟩
set_option maxRecDepth 100000 in
theorem cksL_isSame : ∀ e ∈ (mPr ML_isSame).flatten, eChk ML_isSame e = true := List.all_eq_true.mp (by decide +kernel)
set_option maxRecDepth 100000 in
theorem lksL_isSame : ∀ e ∈ (mPr ML_isSame).flatten, eLink MT ML_isSame e := eFl (fc (fc trivial (fc trivial (fc trivial (fc trivial (fc trivial (fc (⟨mthX6_isSame, rfl, ⟨_, rfl, ariX6_isSame⟩, ⟨_, rfl, rfl⟩, ⟨List.mem_of_getElem? (i := 614) rfl, rfl⟩, insX6_isSame, selX6_isSame⟩) (fc trivial (fc trivial (fc trivial (fc trivial (fn))))))))))) (fc (fc trivial (fc trivial (fc trivial (fc trivial (fc trivial (fc trivial (fc trivial (fn)))))))) (fn)))
set_option maxRecDepth 100000 in
theorem mokL_isSame : eMok MT ML_isSame := ⟨cksL_isSame, lksL_isSame, fc ⟨by decide, by decide, ⟨List.mem_of_getElem? (i := 241) rfl, rfl⟩⟩ (fn)⟩
set_option maxRecDepth 100000 in
theorem cksL_contains : ∀ e ∈ (mPr ML_contains).flatten, eChk ML_contains e = true := List.all_eq_true.mp (by decide +kernel)
set_option maxRecDepth 100000 in
theorem lksL_contains : ∀ e ∈ (mPr ML_contains).flatten, eLink MT ML_contains e := eFl (fc (fc trivial (fc trivial (fc trivial (fc trivial (fc trivial (fc (⟨mthX6_contains, rfl, ⟨_, rfl, ariX6_contains⟩, ⟨_, rfl, rfl⟩, ⟨List.mem_of_getElem? (i := 625) rfl, rfl⟩, insX6_contains, selX6_contains⟩) (fc trivial (fc trivial (fc trivial (fc trivial (fn))))))))))) (fc (fc trivial (fc trivial (fc trivial (fc trivial (fc trivial (fc trivial (fc trivial (fn)))))))) (fn)))
set_option maxRecDepth 100000 in
theorem mokL_contains : eMok MT ML_contains := ⟨cksL_contains, lksL_contains, fc ⟨by decide, by decide, ⟨List.mem_of_getElem? (i := 241) rfl, rfl⟩⟩ (fn)⟩
set_option maxRecDepth 100000 in
theorem cksL_pieces : ∀ e ∈ (mPr ML_pieces).flatten, eChk ML_pieces e = true := List.all_eq_true.mp (by decide +kernel)
set_option maxRecDepth 100000 in
theorem lksL_pieces : ∀ e ∈ (mPr ML_pieces).flatten, eLink MT ML_pieces e := eFl (fc (fc trivial (fc trivial (fc trivial (fc trivial (fc (⟨mthX6_pieces, rfl, ⟨_, rfl, ariX6_pieces⟩, ⟨_, rfl, rfl⟩, ⟨List.mem_of_getElem? (i := 637) rfl, rfl⟩, insX6_pieces, selX6_pieces⟩) (fc trivial (fc trivial (fc trivial (fc trivial (fc trivial (fc trivial (fc trivial (fn))))))))))))) (fc (fc trivial (fn)) (fn)))
set_option maxRecDepth 100000 in
theorem mokL_pieces : eMok MT ML_pieces := ⟨cksL_pieces, lksL_pieces, fc ⟨by decide, by decide, ⟨List.mem_of_getElem? (i := 241) rfl, rfl⟩⟩ (fn)⟩
set_option maxRecDepth 100000 in
theorem cksL_areJoined : ∀ e ∈ (mPr ML_areJoined).flatten, eChk ML_areJoined e = true := List.all_eq_true.mp (by decide +kernel)
set_option maxRecDepth 100000 in
theorem lksL_areJoined : ∀ e ∈ (mPr ML_areJoined).flatten, eLink MT ML_areJoined e := eFl (fc (fc trivial (fc trivial (fc trivial (fc trivial (fc trivial (fc trivial (fc (⟨mthX6_areJoined, rfl, ⟨_, rfl, ariX6_areJoined⟩, ⟨_, rfl, rfl⟩, ⟨List.mem_of_getElem? (i := 658) rfl, rfl⟩, insX6_areJoined, selX6_areJoined⟩) (fc trivial (fc trivial (fc trivial (fn))))))))))) (fc (fc trivial (fc trivial (fc trivial (fc trivial (fc trivial (fc trivial (fc trivial (fc trivial (fc trivial (fc trivial (fn))))))))))) (fc (fc trivial (fc trivial (fc trivial (fc trivial (fn))))) (fn))))
set_option maxRecDepth 100000 in
theorem mokL_areJoined : eMok MT ML_areJoined := ⟨cksL_areJoined, lksL_areJoined, fc ⟨by decide, by decide, ⟨List.mem_of_getElem? (i := 241) rfl, rfl⟩⟩ (fc ⟨by decide, by decide, ⟨List.mem_of_getElem? (i := 242) rfl, rfl⟩⟩ (fc ⟨by decide, by decide, ⟨List.mem_of_getElem? (i := 346) rfl, rfl⟩⟩ (fn)))⟩
set_option maxRecDepth 100000 in
theorem cksL_free : ∀ e ∈ (mPr ML_free).flatten, eChk ML_free e = true := List.all_eq_true.mp (by decide +kernel)
set_option maxRecDepth 100000 in
theorem lksL_free : ∀ e ∈ (mPr ML_free).flatten, eLink MT ML_free e := eFl (fc (fc trivial (fc trivial (fc trivial (fc trivial (fc trivial (fc (⟨mthX6_free, rfl, ⟨_, rfl, ariX6_free⟩, ⟨_, rfl, rfl⟩, ⟨List.mem_of_getElem? (i := 666) rfl, rfl⟩, insX6_free, selX6_free⟩) (fc trivial (fc trivial (fc trivial (fc trivial (fc trivial (fn)))))))))))) (fc (fc trivial (fc trivial (fc trivial (fc trivial (fc trivial (fc trivial (fn))))))) (fn)))
set_option maxRecDepth 100000 in
theorem mokL_free : eMok MT ML_free := ⟨cksL_free, lksL_free, fc ⟨by decide, by decide, ⟨List.mem_of_getElem? (i := 241) rfl, rfl⟩⟩ (fc ⟨by decide, by decide, ⟨List.mem_of_getElem? (i := 242) rfl, rfl⟩⟩ (fn))⟩
set_option maxRecDepth 100000 in
theorem cksL_holes : ∀ e ∈ (mPr ML_holes).flatten, eChk ML_holes e = true := List.all_eq_true.mp (by decide +kernel)
set_option maxRecDepth 100000 in
theorem lksL_holes : ∀ e ∈ (mPr ML_holes).flatten, eLink MT ML_holes e := eFl (fc (fc trivial (fc trivial (fc trivial (fc trivial (fc trivial (fc (⟨mthX6_holes, rfl, ⟨_, rfl, ariX6_holes⟩, ⟨_, rfl, rfl⟩, ⟨List.mem_of_getElem? (i := 681) rfl, rfl⟩, insX6_holes, selX6_holes⟩) (fc trivial (fc trivial (fc trivial (fc trivial (fc trivial (fn)))))))))))) (fc (fc trivial (fc trivial (fc trivial (fc trivial (fc trivial (fc trivial (fn))))))) (fn)))
set_option maxRecDepth 100000 in
theorem mokL_holes : eMok MT ML_holes := ⟨cksL_holes, lksL_holes, fc ⟨by decide, by decide, ⟨List.mem_of_getElem? (i := 241) rfl, rfl⟩⟩ (fc ⟨by decide, by decide, ⟨List.mem_of_getElem? (i := 242) rfl, rfl⟩⟩ (fn))⟩
set_option maxRecDepth 100000 in
theorem cksL_signed : ∀ e ∈ (mPr ML_signed).flatten, eChk ML_signed e = true := List.all_eq_true.mp (by decide +kernel)
set_option maxRecDepth 100000 in
theorem lksL_signed : ∀ e ∈ (mPr ML_signed).flatten, eLink MT ML_signed e := eFl (fc (fc trivial (fc trivial (fc trivial (fc trivial (fc (⟨mthX6_signed, rfl, ⟨_, rfl, ariX6_signed⟩, ⟨_, rfl, rfl⟩, ⟨List.mem_of_getElem? (i := 695) rfl, rfl⟩, insX6_signed, selX6_signed⟩) (fc trivial (fc trivial (fc trivial (fc trivial (fc trivial (fc trivial (fc trivial (fn))))))))))))) (fc (fc trivial (fn)) (fn)))
set_option maxRecDepth 100000 in
theorem mokL_signed : eMok MT ML_signed := ⟨cksL_signed, lksL_signed, fc ⟨by decide, by decide, ⟨List.mem_of_getElem? (i := 241) rfl, rfl⟩⟩ (fn)⟩
set_option maxRecDepth 100000 in
theorem cksL_flip : ∀ e ∈ (mPr ML_flip).flatten, eChk ML_flip e = true := List.all_eq_true.mp (by decide +kernel)
set_option maxRecDepth 100000 in
theorem lksL_flip : ∀ e ∈ (mPr ML_flip).flatten, eLink MT ML_flip e := eFl (fc (fc trivial (fc trivial (fc trivial (fc trivial (fc (⟨mthX6_flip, rfl, ⟨_, rfl, ariX6_flip⟩, ⟨_, rfl, rfl⟩, ⟨List.mem_of_getElem? (i := 706) rfl, rfl⟩, insX6_flip, selX6_flip⟩) (fc trivial (fc trivial (fc trivial (fc trivial (fc trivial (fc trivial (fc trivial (fn))))))))))))) (fc (fc trivial (fc trivial (fc trivial (fc trivial (fn))))) (fn)))
set_option maxRecDepth 100000 in
theorem mokL_flip : eMok MT ML_flip := ⟨cksL_flip, lksL_flip, fc ⟨by decide, by decide, ⟨List.mem_of_getElem? (i := 242) rfl, rfl⟩⟩ (fc ⟨by decide, by decide, ⟨List.mem_of_getElem? (i := 449) rfl, rfl⟩⟩ (fn))⟩
set_option maxRecDepth 100000 in
theorem cksL_rowAt : ∀ e ∈ (mPr ML_rowAt).flatten, eChk ML_rowAt e = true := List.all_eq_true.mp (by decide +kernel)
set_option maxRecDepth 100000 in
theorem lksL_rowAt : ∀ e ∈ (mPr ML_rowAt).flatten, eLink MT ML_rowAt e := eFl (fc (fc trivial (fc trivial (fc trivial (fc trivial (fc (⟨mthX6_rowAt, rfl, ⟨_, rfl, ariX6_rowAt⟩, ⟨_, rfl, rfl⟩, ⟨List.mem_of_getElem? (i := 716) rfl, rfl⟩, insX6_rowAt, selX6_rowAt⟩) (fc trivial (fc trivial (fc trivial (fc trivial (fc trivial (fc trivial (fc trivial (fn))))))))))))) (fc (fc trivial (fn)) (fn)))
set_option maxRecDepth 100000 in
theorem mokL_rowAt : eMok MT ML_rowAt := ⟨cksL_rowAt, lksL_rowAt, fc ⟨by decide, by decide, ⟨List.mem_of_getElem? (i := 241) rfl, rfl⟩⟩ (fn)⟩
set_option maxRecDepth 100000 in
theorem cksL_fills : ∀ e ∈ (mPr ML_fills).flatten, eChk ML_fills e = true := List.all_eq_true.mp (by decide +kernel)
set_option maxRecDepth 100000 in
theorem lksL_fills : ∀ e ∈ (mPr ML_fills).flatten, eLink MT ML_fills e := eFl (fc (fc trivial (fc trivial (fc trivial (fc trivial (fc (⟨mthX6_fills, rfl, ⟨_, rfl, ariX6_fills⟩, ⟨_, rfl, rfl⟩, ⟨List.mem_of_getElem? (i := 723) rfl, rfl⟩, insX6_fills, selX6_fills⟩) (fc trivial (fc trivial (fc trivial (fc trivial (fc trivial (fn))))))))))) (fc (fc trivial (fc trivial (fc trivial (fc trivial (fc trivial (fc trivial (fc trivial (fc trivial (fc trivial (fn)))))))))) (fn)))
set_option maxRecDepth 100000 in
theorem mokL_fills : eMok MT ML_fills := ⟨cksL_fills, lksL_fills, fc ⟨by decide, by decide, ⟨List.mem_of_getElem? (i := 241) rfl, rfl⟩⟩ (fc ⟨by decide, by decide, ⟨List.mem_of_getElem? (i := 449) rfl, rfl⟩⟩ (fn))⟩
set_option maxRecDepth 100000 in
theorem cksL_mean : ∀ e ∈ (mPr ML_mean).flatten, eChk ML_mean e = true := List.all_eq_true.mp (by decide +kernel)
set_option maxRecDepth 100000 in
theorem lksL_mean : ∀ e ∈ (mPr ML_mean).flatten, eLink MT ML_mean e := eFl (fc (fc trivial (fc trivial (fc trivial (fc trivial (fc (⟨mthX6_mean, rfl, ⟨_, rfl, ariX6_mean⟩, ⟨_, rfl, rfl⟩, ⟨List.mem_of_getElem? (i := 740) rfl, rfl⟩, insX6_mean, selX6_mean⟩) (fc trivial (fc trivial (fc trivial (fc trivial (fc trivial (fc trivial (fc trivial (fn))))))))))))) (fc (fc trivial (fc trivial (fc trivial (fn)))) (fn)))
set_option maxRecDepth 100000 in
theorem mokL_mean : eMok MT ML_mean := ⟨cksL_mean, lksL_mean, fc ⟨by decide, by decide, ⟨List.mem_of_getElem? (i := 241) rfl, rfl⟩⟩ (fc ⟨by decide, by decide, ⟨List.mem_of_getElem? (i := 346) rfl, rfl⟩⟩ (fn))⟩
set_option maxRecDepth 100000 in
theorem cksL_share : ∀ e ∈ (mPr ML_share).flatten, eChk ML_share e = true := List.all_eq_true.mp (by decide +kernel)
set_option maxRecDepth 100000 in
theorem lksL_share : ∀ e ∈ (mPr ML_share).flatten, eLink MT ML_share e := eFl (fc (fc trivial (fc trivial (fc trivial (fc trivial (fc (⟨mthX6_share, rfl, ⟨_, rfl, ariX6_share⟩, ⟨_, rfl, rfl⟩, ⟨List.mem_of_getElem? (i := 752) rfl, rfl⟩, insX6_share, selX6_share⟩) (fc trivial (fc trivial (fc trivial (fc trivial (fc trivial (fc trivial (fc trivial (fn))))))))))))) (fc (fc trivial (fn)) (fn)))
set_option maxRecDepth 100000 in
theorem mokL_share : eMok MT ML_share := ⟨cksL_share, lksL_share, fc ⟨by decide, by decide, ⟨List.mem_of_getElem? (i := 241) rfl, rfl⟩⟩ (fn)⟩
set_option maxRecDepth 100000 in
theorem cksL_isSound : ∀ e ∈ (mPr ML_isSound).flatten, eChk ML_isSound e = true := List.all_eq_true.mp (by decide +kernel)
set_option maxRecDepth 100000 in
theorem lksL_isSound : ∀ e ∈ (mPr ML_isSound).flatten, eLink MT ML_isSound e := eFl (fc (fc trivial (fc trivial (fc trivial (fc trivial (fc (⟨mthX6_isSound, rfl, ⟨_, rfl, ariX6_isSound⟩, ⟨_, rfl, rfl⟩, ⟨List.mem_of_getElem? (i := 759) rfl, rfl⟩, insX6_isSound, selX6_isSound⟩) (fc trivial (fc trivial (fc trivial (fc trivial (fc trivial (fn))))))))))) (fc (fc trivial (fc trivial (fc trivial (fc trivial (fc trivial (fc trivial (fn))))))) (fn)))
set_option maxRecDepth 100000 in
theorem mokL_isSound : eMok MT ML_isSound := ⟨cksL_isSound, lksL_isSound, fc ⟨by decide, by decide, ⟨List.mem_of_getElem? (i := 241) rfl, rfl⟩⟩ (fn)⟩
set_option maxRecDepth 100000 in
theorem cksL_isTrue : ∀ e ∈ (mPr ML_isTrue).flatten, eChk ML_isTrue e = true := List.all_eq_true.mp (by decide +kernel)
set_option maxRecDepth 100000 in
theorem lksL_isTrue : ∀ e ∈ (mPr ML_isTrue).flatten, eLink MT ML_isTrue e := eFl (fc (fc trivial (fc trivial (fc trivial (fc trivial (fc trivial (fc trivial (fc (⟨mthX6_isTrue, rfl, ⟨_, rfl, ariX6_isTrue⟩, ⟨_, rfl, rfl⟩, ⟨List.mem_of_getElem? (i := 808) rfl, rfl⟩, insX6_isTrue, selX6_isTrue⟩) (fc trivial (fc trivial (fc trivial (fn))))))))))) (fc (fc trivial (fc trivial (fc trivial (fc trivial (fc trivial (fc trivial (fc trivial (fc trivial (fc trivial (fc trivial (fc trivial (fn)))))))))))) (fn)))
set_option maxRecDepth 100000 in
theorem mokL_isTrue : eMok MT ML_isTrue := ⟨cksL_isTrue, lksL_isTrue, fc ⟨by decide, by decide, ⟨List.mem_of_getElem? (i := 241) rfl, rfl⟩⟩ (fc ⟨by decide, by decide, ⟨List.mem_of_getElem? (i := 242) rfl, rfl⟩⟩ (fn))⟩
set_option maxRecDepth 100000 in
theorem cksL_faceIsTrue : ∀ e ∈ (mPr ML_faceIsTrue).flatten, eChk ML_faceIsTrue e = true := List.all_eq_true.mp (by decide +kernel)
set_option maxRecDepth 100000 in
theorem lksL_faceIsTrue : ∀ e ∈ (mPr ML_faceIsTrue).flatten, eLink MT ML_faceIsTrue e := eFl (fc (fc trivial (fc trivial (fc trivial (fc trivial (fc trivial (fc (⟨mthX6_faceIsTrue, rfl, ⟨_, rfl, ariX6_faceIsTrue⟩, ⟨_, rfl, rfl⟩, ⟨List.mem_of_getElem? (i := 869) rfl, rfl⟩, insX6_faceIsTrue, selX6_faceIsTrue⟩) (fc trivial (fc trivial (fc trivial (fc trivial (fn))))))))))) (fc (fc trivial (fc trivial (fc trivial (fc trivial (fc trivial (fc trivial (fc trivial (fc trivial (fc trivial (fc trivial (fc trivial (fn)))))))))))) (fc (fc trivial (fc trivial (fn))) (fn))))
set_option maxRecDepth 100000 in
theorem mokL_faceIsTrue : eMok MT ML_faceIsTrue := ⟨cksL_faceIsTrue, lksL_faceIsTrue, fc ⟨by decide, by decide, ⟨List.mem_of_getElem? (i := 241) rfl, rfl⟩⟩ (fc ⟨by decide, by decide, ⟨List.mem_of_getElem? (i := 242) rfl, rfl⟩⟩ (fc ⟨by decide, by decide, ⟨List.mem_of_getElem? (i := 346) rfl, rfl⟩⟩ (fn)))⟩
set_option maxRecDepth 100000 in
theorem cksL_pairIsTrue : ∀ e ∈ (mPr ML_pairIsTrue).flatten, eChk ML_pairIsTrue e = true := List.all_eq_true.mp (by decide +kernel)
set_option maxRecDepth 100000 in
theorem lksL_pairIsTrue : ∀ e ∈ (mPr ML_pairIsTrue).flatten, eLink MT ML_pairIsTrue e := eFl (fc (fc trivial (fc trivial (fc trivial (fc trivial (fc trivial (fc (⟨mthX6_pairIsTrue, rfl, ⟨_, rfl, ariX6_pairIsTrue⟩, ⟨_, rfl, rfl⟩, ⟨List.mem_of_getElem? (i := 894) rfl, rfl⟩, insX6_pairIsTrue, selX6_pairIsTrue⟩) (fc trivial (fc trivial (fc trivial (fc trivial (fn))))))))))) (fc (fc trivial (fc trivial (fc trivial (fc trivial (fc trivial (fc trivial (fc trivial (fn)))))))) (fn)))
set_option maxRecDepth 100000 in
theorem mokL_pairIsTrue : eMok MT ML_pairIsTrue := ⟨cksL_pairIsTrue, lksL_pairIsTrue, fc ⟨by decide, by decide, ⟨List.mem_of_getElem? (i := 241) rfl, rfl⟩⟩ (fn)⟩
end Lnk
