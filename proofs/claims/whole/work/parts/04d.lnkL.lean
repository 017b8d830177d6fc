section LnkL
set_option maxRecDepth 100000 in
theorem ckL_law_0 : (((mPr ML_law)[0]?).getD []).all (eChk ML_law) = true := by decide +kernel
set_option maxRecDepth 100000 in
theorem lkL_law_0 : ∀ e ∈ ((mPr ML_law)[0]?).getD [], eLink MT ML_law e := fc (⟨_, _, _, rfl, ⟨List.mem_of_getElem? (i := 48) rfl, rfl⟩, ⟨List.mem_of_getElem? (i := 49) rfl, rfl⟩, ⟨List.mem_of_getElem? (i := 31) rfl, rfl⟩⟩) (fc trivial (fc (⟨mthX6_init, rfl, rfl, rfl, ⟨_, rfl, ariX6_init⟩, insX6_init, ⟨List.mem_of_getElem? (i := 50) rfl, rfl⟩⟩) (fc trivial (fc (⟨_, _, _, rfl, ⟨List.mem_of_getElem? (i := 908) rfl, rfl⟩, ⟨List.mem_of_getElem? (i := 909) rfl, rfl⟩, ⟨List.mem_of_getElem? (i := 37) rfl, rfl⟩⟩) (fc trivial (fc (⟨mthX7_init, rfl, rfl, rfl, ⟨_, rfl, ariX7_init⟩, insX7_init, ⟨List.mem_of_getElem? (i := 910) rfl, rfl⟩⟩) (fc trivial (fn))))))))
set_option maxRecDepth 100000 in
theorem ckL_law_1 : (((mPr ML_law)[1]?).getD []).all (eChk ML_law) = true := by decide +kernel
set_option maxRecDepth 100000 in
theorem lkL_law_1 : ∀ e ∈ ((mPr ML_law)[1]?).getD [], eLink MT ML_law e := fc trivial (fc (⟨⟨List.mem_of_getElem? (i := 110) rfl, rfl⟩, rfl, Nat.le_of_ble_eq_true rfl⟩) (fc trivial (fc trivial (fc (⟨⟨List.mem_of_getElem? (i := 1223) rfl, rfl⟩, rfl, Nat.le_of_ble_eq_true rfl⟩) (fc trivial (fc trivial (fc trivial (fc trivial (fc trivial (fc trivial (fn)))))))))))
set_option maxRecDepth 100000 in
theorem ckL_law_2 : (((mPr ML_law)[2]?).getD []).all (eChk ML_law) = true := by decide +kernel
set_option maxRecDepth 100000 in
theorem lkL_law_2 : ∀ e ∈ ((mPr ML_law)[2]?).getD [], eLink MT ML_law e := fc trivial (fc trivial (fc trivial (fc trivial (fc trivial (fc trivial (fc trivial (fc trivial (fc (⟨by decide +kernel, by decide +kernel⟩) (fn)))))))))
set_option maxRecDepth 100000 in
theorem ckL_law_3 : (((mPr ML_law)[3]?).getD []).all (eChk ML_law) = true := by decide +kernel
set_option maxRecDepth 100000 in
theorem lkL_law_3 : ∀ e ∈ ((mPr ML_law)[3]?).getD [], eLink MT ML_law e := fn
set_option maxRecDepth 100000 in
theorem ckL_law_4 : (((mPr ML_law)[4]?).getD []).all (eChk ML_law) = true := by decide +kernel
set_option maxRecDepth 100000 in
theorem lkL_law_4 : ∀ e ∈ ((mPr ML_law)[4]?).getD [], eLink MT ML_law e := fn
set_option maxRecDepth 100000 in
theorem ckL_law_5 : (((mPr ML_law)[5]?).getD []).all (eChk ML_law) = true := by decide +kernel
set_option maxRecDepth 100000 in
theorem lkL_law_5 : ∀ e ∈ ((mPr ML_law)[5]?).getD [], eLink MT ML_law e := fn
set_option maxRecDepth 100000 in
theorem ckL_law_6 : (((mPr ML_law)[6]?).getD []).all (eChk ML_law) = true := by decide +kernel
set_option maxRecDepth 100000 in
theorem lkL_law_6 : ∀ e ∈ ((mPr ML_law)[6]?).getD [], eLink MT ML_law e := fn
set_option maxRecDepth 100000 in
theorem ckL_law_7 : (((mPr ML_law)[7]?).getD []).all (eChk ML_law) = true := by decide +kernel
set_option maxRecDepth 100000 in
theorem lkL_law_7 : ∀ e ∈ ((mPr ML_law)[7]?).getD [], eLink MT ML_law e := fn
set_option maxRecDepth 100000 in
theorem ckL_law_8 : (((mPr ML_law)[8]?).getD []).all (eChk ML_law) = true := by decide +kernel
set_option maxRecDepth 100000 in
theorem lkL_law_8 : ∀ e ∈ ((mPr ML_law)[8]?).getD [], eLink MT ML_law e := fn
set_option maxRecDepth 100000 in
theorem ckL_law_9 : (((mPr ML_law)[9]?).getD []).all (eChk ML_law) = true := by decide +kernel
set_option maxRecDepth 100000 in
theorem lkL_law_9 : ∀ e ∈ ((mPr ML_law)[9]?).getD [], eLink MT ML_law e := fn
set_option maxRecDepth 100000 in
theorem ckL_law_10 : (((mPr ML_law)[10]?).getD []).all (eChk ML_law) = true := by decide +kernel
set_option maxRecDepth 100000 in
theorem lkL_law_10 : ∀ e ∈ ((mPr ML_law)[10]?).getD [], eLink MT ML_law e := fn
set_option maxRecDepth 100000 in
theorem ckL_law_11 : (((mPr ML_law)[11]?).getD []).all (eChk ML_law) = true := by decide +kernel
set_option maxRecDepth 100000 in
theorem lkL_law_11 : ∀ e ∈ ((mPr ML_law)[11]?).getD [], eLink MT ML_law e := fn
set_option maxRecDepth 100000 in
theorem ckL_law_12 : (((mPr ML_law)[12]?).getD []).all (eChk ML_law) = true := by decide +kernel
set_option maxRecDepth 100000 in
theorem lkL_law_12 : ∀ e ∈ ((mPr ML_law)[12]?).getD [], eLink MT ML_law e := fn
set_option maxRecDepth 100000 in
theorem ckL_law_13 : (((mPr ML_law)[13]?).getD []).all (eChk ML_law) = true := by decide +kernel
set_option maxRecDepth 100000 in
theorem lkL_law_13 : ∀ e ∈ ((mPr ML_law)[13]?).getD [], eLink MT ML_law e := fn
set_option maxRecDepth 100000 in
theorem ckL_law_14 : (((mPr ML_law)[14]?).getD []).all (eChk ML_law) = true := by decide +kernel
set_option maxRecDepth 100000 in
theorem lkL_law_14 : ∀ e ∈ ((mPr ML_law)[14]?).getD [], eLink MT ML_law e := fc trivial (fc trivial (fc trivial (fc trivial (fc trivial (fc trivial (fc trivial (fc trivial (fc trivial (fc trivial (fc trivial (fc trivial (fc (⟨mthL_put, ariL_put, staL_put, (fun h => nomatch h), ⟨List.mem_of_getElem? (i := 238) rfl, rfl⟩⟩) (fn)))))))))))))
set_option maxRecDepth 100000 in
theorem ckL_law_15 : (((mPr ML_law)[15]?).getD []).all (eChk ML_law) = true := by decide +kernel
set_option maxRecDepth 100000 in
theorem lkL_law_15 : ∀ e ∈ ((mPr ML_law)[15]?).getD [], eLink MT ML_law e := fc trivial (fc trivial (fc trivial (fc trivial (fc trivial (fc trivial (fc trivial (fc trivial (fc trivial (fc trivial (fc trivial (fc trivial (fn))))))))))))
set_option maxRecDepth 100000 in
theorem ckL_law_16 : (((mPr ML_law)[16]?).getD []).all (eChk ML_law) = true := by decide +kernel
set_option maxRecDepth 100000 in
theorem lkL_law_16 : ∀ e ∈ ((mPr ML_law)[16]?).getD [], eLink MT ML_law e := fc (⟨mthX7_put, rfl, ⟨_, rfl, ariX7_put⟩, ⟨_, rfl, rfl⟩, ⟨List.mem_of_getElem? (i := 944) rfl, rfl⟩, insX7_put, selX7_put⟩) (fc trivial (fc trivial (fc (⟨mthX7_thrown, rfl, ⟨_, rfl, ariX7_thrown⟩, ⟨_, rfl, rfl⟩, ⟨List.mem_of_getElem? (i := 940) rfl, rfl⟩, insX7_thrown, selX7_thrown⟩) (fc trivial (fc trivial (fc trivial (fc trivial (fn))))))))
set_option maxRecDepth 100000 in
theorem ckL_law_17 : (((mPr ML_law)[17]?).getD []).all (eChk ML_law) = true := by decide +kernel
set_option maxRecDepth 100000 in
theorem lkL_law_17 : ∀ e ∈ ((mPr ML_law)[17]?).getD [], eLink MT ML_law e := fc trivial (fc trivial (fc trivial (fc trivial (fc trivial (fc trivial (fc trivial (fc trivial (fc trivial (fc trivial (fn))))))))))
set_option maxRecDepth 100000 in
theorem ckL_law_18 : (((mPr ML_law)[18]?).getD []).all (eChk ML_law) = true := by decide +kernel
set_option maxRecDepth 100000 in
theorem lkL_law_18 : ∀ e ∈ ((mPr ML_law)[18]?).getD [], eLink MT ML_law e := fc trivial (fc trivial (fc trivial (fc trivial (fc trivial (fc trivial (fc trivial (fc trivial (fc trivial (fc trivial (fc trivial (fc trivial (fn))))))))))))
set_option maxRecDepth 100000 in
theorem ckL_law_19 : (((mPr ML_law)[19]?).getD []).all (eChk ML_law) = true := by decide +kernel
set_option maxRecDepth 100000 in
theorem lkL_law_19 : ∀ e ∈ ((mPr ML_law)[19]?).getD [], eLink MT ML_law e := fc trivial (fc trivial (fc (⟨mthL_take, ariL_take, staL_take, (fun h => nomatch h), ⟨List.mem_of_getElem? (i := 343) rfl, rfl⟩⟩) (fc trivial (fc trivial (fc trivial (fc trivial (fc trivial (fc trivial (fc trivial (fc trivial (fc trivial (fn))))))))))))
set_option maxRecDepth 100000 in
theorem ckL_law_20 : (((mPr ML_law)[20]?).getD []).all (eChk ML_law) = true := by decide +kernel
set_option maxRecDepth 100000 in
theorem lkL_law_20 : ∀ e ∈ ((mPr ML_law)[20]?).getD [], eLink MT ML_law e := fc trivial (fc trivial (fc trivial (fc (⟨mthX7_take, rfl, ⟨_, rfl, ariX7_take⟩, ⟨_, rfl, rfl⟩, ⟨List.mem_of_getElem? (i := 968) rfl, rfl⟩, insX7_take, selX7_take⟩) (fc trivial (fc trivial (fc (⟨mthX7_thrown, rfl, ⟨_, rfl, ariX7_thrown⟩, ⟨_, rfl, rfl⟩, ⟨List.mem_of_getElem? (i := 940) rfl, rfl⟩, insX7_thrown, selX7_thrown⟩) (fc trivial (fc trivial (fn)))))))))
set_option maxRecDepth 100000 in
theorem ckL_law_21 : (((mPr ML_law)[21]?).getD []).all (eChk ML_law) = true := by decide +kernel
set_option maxRecDepth 100000 in
theorem lkL_law_21 : ∀ e ∈ ((mPr ML_law)[21]?).getD [], eLink MT ML_law e := fc trivial (fc trivial (fc trivial (fc trivial (fc trivial (fc trivial (fc trivial (fc trivial (fc trivial (fc trivial (fn))))))))))
set_option maxRecDepth 100000 in
theorem ckL_law_22 : (((mPr ML_law)[22]?).getD []).all (eChk ML_law) = true := by decide +kernel
set_option maxRecDepth 100000 in
theorem lkL_law_22 : ∀ e ∈ ((mPr ML_law)[22]?).getD [], eLink MT ML_law e := fc trivial (fc trivial (fc trivial (fc trivial (fc trivial (fc trivial (fc trivial (fc trivial (fc trivial (fc trivial (fc trivial (fn)))))))))))
set_option maxRecDepth 100000 in
theorem ckL_law_23 : (((mPr ML_law)[23]?).getD []).all (eChk ML_law) = true := by decide +kernel
set_option maxRecDepth 100000 in
theorem lkL_law_23 : ∀ e ∈ ((mPr ML_law)[23]?).getD [], eLink MT ML_law e := fc (⟨mthL_clear, ariL_clear, staL_clear, (fun h => nomatch h), ⟨List.mem_of_getElem? (i := 374) rfl, rfl⟩⟩) (fc trivial (fc trivial (fc trivial (fc trivial (fc trivial (fc trivial (fc trivial (fc (⟨mthX7_clear, rfl, ⟨_, rfl, ariX7_clear⟩, ⟨_, rfl, rfl⟩, ⟨List.mem_of_getElem? (i := 980) rfl, rfl⟩, insX7_clear, selX7_clear⟩) (fc trivial (fn))))))))))
set_option maxRecDepth 100000 in
theorem ckL_law_24 : (((mPr ML_law)[24]?).getD []).all (eChk ML_law) = true := by decide +kernel
set_option maxRecDepth 100000 in
theorem lkL_law_24 : ∀ e ∈ ((mPr ML_law)[24]?).getD [], eLink MT ML_law e := fc trivial (fc (⟨mthX7_thrown, rfl, ⟨_, rfl, ariX7_thrown⟩, ⟨_, rfl, rfl⟩, ⟨List.mem_of_getElem? (i := 940) rfl, rfl⟩, insX7_thrown, selX7_thrown⟩) (fc trivial (fc trivial (fc trivial (fc trivial (fc trivial (fc trivial (fn))))))))
set_option maxRecDepth 100000 in
theorem ckL_law_25 : (((mPr ML_law)[25]?).getD []).all (eChk ML_law) = true := by decide +kernel
set_option maxRecDepth 100000 in
theorem lkL_law_25 : ∀ e ∈ ((mPr ML_law)[25]?).getD [], eLink MT ML_law e := fc trivial (fc trivial (fc trivial (fc trivial (fc trivial (fc trivial (fc trivial (fc trivial (fc trivial (fc trivial (fn))))))))))
set_option maxRecDepth 100000 in
theorem ckL_law_26 : (((mPr ML_law)[26]?).getD []).all (eChk ML_law) = true := by decide +kernel
set_option maxRecDepth 100000 in
theorem lkL_law_26 : ∀ e ∈ ((mPr ML_law)[26]?).getD [], eLink MT ML_law e := fc trivial (fc trivial (fc trivial (fc trivial (fc trivial (fc trivial (fc trivial (fc trivial (fc trivial (fc trivial (fc trivial (fc trivial (fc (⟨mthL_copy, ariL_copy, staL_copy, (fun h => nomatch h), ⟨List.mem_of_getElem? (i := 381) rfl, rfl⟩⟩) (fn)))))))))))))
set_option maxRecDepth 100000 in
theorem ckL_law_27 : (((mPr ML_law)[27]?).getD []).all (eChk ML_law) = true := by decide +kernel
set_option maxRecDepth 100000 in
theorem lkL_law_27 : ∀ e ∈ ((mPr ML_law)[27]?).getD [], eLink MT ML_law e := fc trivial (fc trivial (fc trivial (fc trivial (fc trivial (fc trivial (fc trivial (fc trivial (fc trivial (fc trivial (fc trivial (fc trivial (fn))))))))))))
set_option maxRecDepth 100000 in
theorem ckL_law_28 : (((mPr ML_law)[28]?).getD []).all (eChk ML_law) = true := by decide +kernel
set_option maxRecDepth 100000 in
theorem lkL_law_28 : ∀ e ∈ ((mPr ML_law)[28]?).getD [], eLink MT ML_law e := fc (⟨mthX7_copy, rfl, ⟨_, rfl, ariX7_copy⟩, ⟨_, rfl, rfl⟩, ⟨List.mem_of_getElem? (i := 988) rfl, rfl⟩, insX7_copy, selX7_copy⟩) (fc trivial (fc trivial (fc (⟨mthX7_thrown, rfl, ⟨_, rfl, ariX7_thrown⟩, ⟨_, rfl, rfl⟩, ⟨List.mem_of_getElem? (i := 940) rfl, rfl⟩, insX7_thrown, selX7_thrown⟩) (fc trivial (fc trivial (fc trivial (fc trivial (fn))))))))
set_option maxRecDepth 100000 in
theorem ckL_law_29 : (((mPr ML_law)[29]?).getD []).all (eChk ML_law) = true := by decide +kernel
set_option maxRecDepth 100000 in
theorem lkL_law_29 : ∀ e ∈ ((mPr ML_law)[29]?).getD [], eLink MT ML_law e := fc trivial (fc trivial (fc trivial (fc trivial (fc trivial (fc trivial (fc trivial (fc trivial (fc trivial (fc trivial (fn))))))))))
set_option maxRecDepth 100000 in
theorem ckL_law_30 : (((mPr ML_law)[30]?).getD []).all (eChk ML_law) = true := by decide +kernel
set_option maxRecDepth 100000 in
theorem lkL_law_30 : ∀ e ∈ ((mPr ML_law)[30]?).getD [], eLink MT ML_law e := fc trivial (fc trivial (fc trivial (fc trivial (fc trivial (fc trivial (fc trivial (fc trivial (fc trivial (fc trivial (fc trivial (fc trivial (fn))))))))))))
set_option maxRecDepth 100000 in
theorem ckL_law_31 : (((mPr ML_law)[31]?).getD []).all (eChk ML_law) = true := by decide +kernel
set_option maxRecDepth 100000 in
theorem lkL_law_31 : ∀ e ∈ ((mPr ML_law)[31]?).getD [], eLink MT ML_law e := fc trivial (fc trivial (fc trivial (fc trivial (fc trivial (fc trivial (fc trivial (fc (⟨mthL_unite, ariL_unite, staL_unite, (fun h => nomatch h), ⟨List.mem_of_getElem? (i := 388) rfl, rfl⟩⟩) (fc trivial (fc trivial (fc trivial (fc trivial (fn))))))))))))
set_option maxRecDepth 100000 in
theorem ckL_law_32 : (((mPr ML_law)[32]?).getD []).all (eChk ML_law) = true := by decide +kernel
set_option maxRecDepth 100000 in
theorem lkL_law_32 : ∀ e ∈ ((mPr ML_law)[32]?).getD [], eLink MT ML_law e := fc trivial (fc trivial (fc trivial (fc trivial (fc trivial (fc trivial (fc trivial (fc trivial (fc trivial (fc trivial (fc trivial (fc trivial (fc trivial (fn)))))))))))))
set_option maxRecDepth 100000 in
theorem ckL_law_33 : (((mPr ML_law)[33]?).getD []).all (eChk ML_law) = true := by decide +kernel
set_option maxRecDepth 100000 in
theorem lkL_law_33 : ∀ e ∈ ((mPr ML_law)[33]?).getD [], eLink MT ML_law e := fc (⟨mthX7_unite, rfl, ⟨_, rfl, ariX7_unite⟩, ⟨_, rfl, rfl⟩, ⟨List.mem_of_getElem? (i := 996) rfl, rfl⟩, insX7_unite, selX7_unite⟩) (fc trivial (fc trivial (fc (⟨mthX7_thrown, rfl, ⟨_, rfl, ariX7_thrown⟩, ⟨_, rfl, rfl⟩, ⟨List.mem_of_getElem? (i := 940) rfl, rfl⟩, insX7_thrown, selX7_thrown⟩) (fc trivial (fc trivial (fc trivial (fc trivial (fn))))))))
set_option maxRecDepth 100000 in
theorem ckL_law_34 : (((mPr ML_law)[34]?).getD []).all (eChk ML_law) = true := by decide +kernel
set_option maxRecDepth 100000 in
theorem lkL_law_34 : ∀ e ∈ ((mPr ML_law)[34]?).getD [], eLink MT ML_law e := fc trivial (fc trivial (fc trivial (fc trivial (fc trivial (fc trivial (fc trivial (fc trivial (fc trivial (fc trivial (fn))))))))))
set_option maxRecDepth 100000 in
theorem ckL_law_35 : (((mPr ML_law)[35]?).getD []).all (eChk ML_law) = true := by decide +kernel
set_option maxRecDepth 100000 in
theorem lkL_law_35 : ∀ e ∈ ((mPr ML_law)[35]?).getD [], eLink MT ML_law e := fc trivial (fc trivial (fc trivial (fc trivial (fc trivial (fc trivial (fc trivial (fc trivial (fc trivial (fc trivial (fc trivial (fc trivial (fn))))))))))))
set_option maxRecDepth 100000 in
theorem ckL_law_36 : (((mPr ML_law)[36]?).getD []).all (eChk ML_law) = true := by decide +kernel
set_option maxRecDepth 100000 in
theorem lkL_law_36 : ∀ e ∈ ((mPr ML_law)[36]?).getD [], eLink MT ML_law e := fc trivial (fc trivial (fc trivial (fc trivial (fc trivial (fc trivial (fc trivial (fc (⟨mthL_meet, ariL_meet, staL_meet, (fun h => nomatch h), ⟨List.mem_of_getElem? (i := 399) rfl, rfl⟩⟩) (fc trivial (fc trivial (fc trivial (fc trivial (fn))))))))))))
set_option maxRecDepth 100000 in
theorem ckL_law_37 : (((mPr ML_law)[37]?).getD []).all (eChk ML_law) = true := by decide +kernel
set_option maxRecDepth 100000 in
theorem lkL_law_37 : ∀ e ∈ ((mPr ML_law)[37]?).getD [], eLink MT ML_law e := fc trivial (fc trivial (fc trivial (fc trivial (fc trivial (fc trivial (fc trivial (fc trivial (fc trivial (fc trivial (fc trivial (fc trivial (fc trivial (fn)))))))))))))
set_option maxRecDepth 100000 in
theorem ckL_law_38 : (((mPr ML_law)[38]?).getD []).all (eChk ML_law) = true := by decide +kernel
set_option maxRecDepth 100000 in
theorem lkL_law_38 : ∀ e ∈ ((mPr ML_law)[38]?).getD [], eLink MT ML_law e := fc (⟨mthX7_meet, rfl, ⟨_, rfl, ariX7_meet⟩, ⟨_, rfl, rfl⟩, ⟨List.mem_of_getElem? (i := 1000) rfl, rfl⟩, insX7_meet, selX7_meet⟩) (fc trivial (fc trivial (fc (⟨mthX7_thrown, rfl, ⟨_, rfl, ariX7_thrown⟩, ⟨_, rfl, rfl⟩, ⟨List.mem_of_getElem? (i := 940) rfl, rfl⟩, insX7_thrown, selX7_thrown⟩) (fc trivial (fc trivial (fc trivial (fc trivial (fn))))))))
set_option maxRecDepth 100000 in
theorem ckL_law_39 : (((mPr ML_law)[39]?).getD []).all (eChk ML_law) = true := by decide +kernel
set_option maxRecDepth 100000 in
theorem lkL_law_39 : ∀ e ∈ ((mPr ML_law)[39]?).getD [], eLink MT ML_law e := fc trivial (fc trivial (fc trivial (fc trivial (fc trivial (fc trivial (fc trivial (fc trivial (fc trivial (fc trivial (fn))))))))))
set_option maxRecDepth 100000 in
theorem ckL_law_40 : (((mPr ML_law)[40]?).getD []).all (eChk ML_law) = true := by decide +kernel
set_option maxRecDepth 100000 in
theorem lkL_law_40 : ∀ e ∈ ((mPr ML_law)[40]?).getD [], eLink MT ML_law e := fc trivial (fc trivial (fc trivial (fc trivial (fc trivial (fc trivial (fc trivial (fc trivial (fc trivial (fc trivial (fc trivial (fc trivial (fn))))))))))))
set_option maxRecDepth 100000 in
theorem ckL_law_41 : (((mPr ML_law)[41]?).getD []).all (eChk ML_law) = true := by decide +kernel
set_option maxRecDepth 100000 in
theorem lkL_law_41 : ∀ e ∈ ((mPr ML_law)[41]?).getD [], eLink MT ML_law e := fc trivial (fc trivial (fc trivial (fc trivial (fc trivial (fc trivial (fc trivial (fc trivial (fc trivial (fc trivial (fc trivial (fn)))))))))))
set_option maxRecDepth 100000 in
theorem ckL_law_42 : (((mPr ML_law)[42]?).getD []).all (eChk ML_law) = true := by decide +kernel
set_option maxRecDepth 100000 in
theorem lkL_law_42 : ∀ e ∈ ((mPr ML_law)[42]?).getD [], eLink MT ML_law e := fc (⟨mthL_full, ariL_full, staL_full, (fun h => nomatch h), ⟨List.mem_of_getElem? (i := 410) rfl, rfl⟩⟩) (fc trivial (fc trivial (fc trivial (fc trivial (fc trivial (fc trivial (fc trivial (fc trivial (fc trivial (fc trivial (fn)))))))))))
set_option maxRecDepth 100000 in
theorem ckL_law_43 : (((mPr ML_law)[43]?).getD []).all (eChk ML_law) = true := by decide +kernel
set_option maxRecDepth 100000 in
theorem lkL_law_43 : ∀ e ∈ ((mPr ML_law)[43]?).getD [], eLink MT ML_law e := fc trivial (fc trivial (fc trivial (fc trivial (fc trivial (fc trivial (fc trivial (fc trivial (fc trivial (fc trivial (fc trivial (fn)))))))))))
set_option maxRecDepth 100000 in
theorem ckL_law_44 : (((mPr ML_law)[44]?).getD []).all (eChk ML_law) = true := by decide +kernel
set_option maxRecDepth 100000 in
theorem lkL_law_44 : ∀ e ∈ ((mPr ML_law)[44]?).getD [], eLink MT ML_law e := fc (⟨mthX7_full, rfl, ⟨_, rfl, ariX7_full⟩, ⟨_, rfl, rfl⟩, ⟨List.mem_of_getElem? (i := 1004) rfl, rfl⟩, insX7_full, selX7_full⟩) (fc trivial (fc trivial (fc (⟨mthX7_thrown, rfl, ⟨_, rfl, ariX7_thrown⟩, ⟨_, rfl, rfl⟩, ⟨List.mem_of_getElem? (i := 940) rfl, rfl⟩, insX7_thrown, selX7_thrown⟩) (fc trivial (fc trivial (fc trivial (fc trivial (fn))))))))
set_option maxRecDepth 100000 in
theorem ckL_law_45 : (((mPr ML_law)[45]?).getD []).all (eChk ML_law) = true := by decide +kernel
set_option maxRecDepth 100000 in
theorem lkL_law_45 : ∀ e ∈ ((mPr ML_law)[45]?).getD [], eLink MT ML_law e := fc trivial (fc trivial (fc trivial (fc trivial (fc trivial (fc trivial (fc trivial (fc trivial (fc trivial (fc trivial (fn))))))))))
set_option maxRecDepth 100000 in
theorem ckL_law_46 : (((mPr ML_law)[46]?).getD []).all (eChk ML_law) = true := by decide +kernel
set_option maxRecDepth 100000 in
theorem lkL_law_46 : ∀ e ∈ ((mPr ML_law)[46]?).getD [], eLink MT ML_law e := fc trivial (fc trivial (fc trivial (fc trivial (fc trivial (fc trivial (fc trivial (fc trivial (fc trivial (fc trivial (fc trivial (fc trivial (fn))))))))))))
set_option maxRecDepth 100000 in
theorem ckL_law_47 : (((mPr ML_law)[47]?).getD []).all (eChk ML_law) = true := by decide +kernel
set_option maxRecDepth 100000 in
theorem lkL_law_47 : ∀ e ∈ ((mPr ML_law)[47]?).getD [], eLink MT ML_law e := fc trivial (fc trivial (fc trivial (fc trivial (fc trivial (fc trivial (fc trivial (fc (⟨mthL_low, ariL_low, staL_low, (fun h => nomatch h), ⟨List.mem_of_getElem? (i := 418) rfl, rfl⟩⟩) (fc trivial (fc trivial (fc trivial (fc trivial (fn))))))))))))
set_option maxRecDepth 100000 in
theorem ckL_law_48 : (((mPr ML_law)[48]?).getD []).all (eChk ML_law) = true := by decide +kernel
set_option maxRecDepth 100000 in
theorem lkL_law_48 : ∀ e ∈ ((mPr ML_law)[48]?).getD [], eLink MT ML_law e := fc trivial (fc trivial (fc trivial (fc trivial (fc trivial (fc trivial (fc trivial (fc trivial (fc trivial (fc trivial (fc trivial (fc trivial (fc trivial (fn)))))))))))))
set_option maxRecDepth 100000 in
theorem ckL_law_49 : (((mPr ML_law)[49]?).getD []).all (eChk ML_law) = true := by decide +kernel
set_option maxRecDepth 100000 in
theorem lkL_law_49 : ∀ e ∈ ((mPr ML_law)[49]?).getD [], eLink MT ML_law e := fc (⟨mthX7_low, rfl, ⟨_, rfl, ariX7_low⟩, ⟨_, rfl, rfl⟩, ⟨List.mem_of_getElem? (i := 1008) rfl, rfl⟩, insX7_low, selX7_low⟩) (fc trivial (fc trivial (fc (⟨mthX7_thrown, rfl, ⟨_, rfl, ariX7_thrown⟩, ⟨_, rfl, rfl⟩, ⟨List.mem_of_getElem? (i := 940) rfl, rfl⟩, insX7_thrown, selX7_thrown⟩) (fc trivial (fc trivial (fc trivial (fc trivial (fn))))))))
set_option maxRecDepth 100000 in
theorem ckL_law_50 : (((mPr ML_law)[50]?).getD []).all (eChk ML_law) = true := by decide +kernel
set_option maxRecDepth 100000 in
theorem lkL_law_50 : ∀ e ∈ ((mPr ML_law)[50]?).getD [], eLink MT ML_law e := fc trivial (fc trivial (fc trivial (fc trivial (fc trivial (fc trivial (fc trivial (fc trivial (fc trivial (fc trivial (fn))))))))))
set_option maxRecDepth 100000 in
theorem ckL_law_51 : (((mPr ML_law)[51]?).getD []).all (eChk ML_law) = true := by decide +kernel
set_option maxRecDepth 100000 in
theorem lkL_law_51 : ∀ e ∈ ((mPr ML_law)[51]?).getD [], eLink MT ML_law e := fc trivial (fc trivial (fc trivial (fc trivial (fc trivial (fc trivial (fc trivial (fc trivial (fc trivial (fc trivial (fc trivial (fc trivial (fn))))))))))))
set_option maxRecDepth 100000 in
theorem ckL_law_52 : (((mPr ML_law)[52]?).getD []).all (eChk ML_law) = true := by decide +kernel
set_option maxRecDepth 100000 in
theorem lkL_law_52 : ∀ e ∈ ((mPr ML_law)[52]?).getD [], eLink MT ML_law e := fc trivial (fc trivial (fc trivial (fc trivial (fc trivial (fc trivial (fc trivial (fc trivial (fc trivial (fc trivial (fc trivial (fn)))))))))))
set_option maxRecDepth 100000 in
theorem ckL_law_53 : (((mPr ML_law)[53]?).getD []).all (eChk ML_law) = true := by decide +kernel
set_option maxRecDepth 100000 in
theorem lkL_law_53 : ∀ e ∈ ((mPr ML_law)[53]?).getD [], eLink MT ML_law e := fc trivial (fc trivial (fc trivial (fc trivial (fc trivial (fc (⟨mthL_about, ariL_about, staL_about, (fun h => nomatch h), ⟨List.mem_of_getElem? (i := 436) rfl, rfl⟩⟩) (fc trivial (fc trivial (fc trivial (fc trivial (fc trivial (fn)))))))))))
set_option maxRecDepth 100000 in
theorem ckL_law_54 : (((mPr ML_law)[54]?).getD []).all (eChk ML_law) = true := by decide +kernel
set_option maxRecDepth 100000 in
theorem lkL_law_54 : ∀ e ∈ ((mPr ML_law)[54]?).getD [], eLink MT ML_law e := fc trivial (fc trivial (fc trivial (fc trivial (fc trivial (fc trivial (fc trivial (fc trivial (fc trivial (fc trivial (fc trivial (fc trivial (fc trivial (fn)))))))))))))
set_option maxRecDepth 100000 in
theorem ckL_law_55 : (((mPr ML_law)[55]?).getD []).all (eChk ML_law) = true := by decide +kernel
set_option maxRecDepth 100000 in
theorem lkL_law_55 : ∀ e ∈ ((mPr ML_law)[55]?).getD [], eLink MT ML_law e := fc trivial (fc trivial (fc trivial (fc trivial (fc trivial (fc trivial (fc trivial (fc trivial (fc (⟨mthX7_about, rfl, ⟨_, rfl, ariX7_about⟩, ⟨_, rfl, rfl⟩, ⟨List.mem_of_getElem? (i := 1021) rfl, rfl⟩, insX7_about, selX7_about⟩) (fc trivial (fn))))))))))
set_option maxRecDepth 100000 in
theorem ckL_law_56 : (((mPr ML_law)[56]?).getD []).all (eChk ML_law) = true := by decide +kernel
set_option maxRecDepth 100000 in
theorem lkL_law_56 : ∀ e ∈ ((mPr ML_law)[56]?).getD [], eLink MT ML_law e := fc trivial (fc (⟨mthX7_thrown, rfl, ⟨_, rfl, ariX7_thrown⟩, ⟨_, rfl, rfl⟩, ⟨List.mem_of_getElem? (i := 940) rfl, rfl⟩, insX7_thrown, selX7_thrown⟩) (fc trivial (fc trivial (fc trivial (fc trivial (fc trivial (fc trivial (fn))))))))
set_option maxRecDepth 100000 in
theorem ckL_law_57 : (((mPr ML_law)[57]?).getD []).all (eChk ML_law) = true := by decide +kernel
set_option maxRecDepth 100000 in
theorem lkL_law_57 : ∀ e ∈ ((mPr ML_law)[57]?).getD [], eLink MT ML_law e := fc trivial (fc trivial (fc trivial (fc trivial (fc trivial (fc trivial (fc trivial (fc trivial (fc trivial (fc trivial (fn))))))))))
set_option maxRecDepth 100000 in
theorem ckL_law_58 : (((mPr ML_law)[58]?).getD []).all (eChk ML_law) = true := by decide +kernel
set_option maxRecDepth 100000 in
theorem lkL_law_58 : ∀ e ∈ ((mPr ML_law)[58]?).getD [], eLink MT ML_law e := fc trivial (fc trivial (fc trivial (fc trivial (fc trivial (fc trivial (fc trivial (fc trivial (fc trivial (fc trivial (fc trivial (fc trivial (fc trivial (fn)))))))))))))
set_option maxRecDepth 100000 in
theorem ckL_law_59 : (((mPr ML_law)[59]?).getD []).all (eChk ML_law) = true := by decide +kernel
set_option maxRecDepth 100000 in
theorem lkL_law_59 : ∀ e ∈ ((mPr ML_law)[59]?).getD [], eLink MT ML_law e := fc trivial (fc trivial (fc trivial (fc trivial (fc (⟨mthL_cone, ariL_cone, staL_cone, (fun h => nomatch h), ⟨List.mem_of_getElem? (i := 446) rfl, rfl⟩⟩) (fc trivial (fc trivial (fc trivial (fc trivial (fc trivial (fc trivial (fc trivial (fn))))))))))))
set_option maxRecDepth 100000 in
theorem ckL_law_60 : (((mPr ML_law)[60]?).getD []).all (eChk ML_law) = true := by decide +kernel
set_option maxRecDepth 100000 in
theorem lkL_law_60 : ∀ e ∈ ((mPr ML_law)[60]?).getD [], eLink MT ML_law e := fc trivial (fc trivial (fc trivial (fc trivial (fc trivial (fc trivial (fc trivial (fc trivial (fc trivial (fc trivial (fc (⟨mthX7_cone, rfl, ⟨_, rfl, ariX7_cone⟩, ⟨_, rfl, rfl⟩, ⟨List.mem_of_getElem? (i := 1025) rfl, rfl⟩, insX7_cone, selX7_cone⟩) (fc trivial (fn))))))))))))
set_option maxRecDepth 100000 in
theorem ckL_law_61 : (((mPr ML_law)[61]?).getD []).all (eChk ML_law) = true := by decide +kernel
set_option maxRecDepth 100000 in
theorem lkL_law_61 : ∀ e ∈ ((mPr ML_law)[61]?).getD [], eLink MT ML_law e := fc trivial (fc (⟨mthX7_thrown, rfl, ⟨_, rfl, ariX7_thrown⟩, ⟨_, rfl, rfl⟩, ⟨List.mem_of_getElem? (i := 940) rfl, rfl⟩, insX7_thrown, selX7_thrown⟩) (fc trivial (fc trivial (fc trivial (fc trivial (fc trivial (fc trivial (fn))))))))
set_option maxRecDepth 100000 in
theorem ckL_law_62 : (((mPr ML_law)[62]?).getD []).all (eChk ML_law) = true := by decide +kernel
set_option maxRecDepth 100000 in
theorem lkL_law_62 : ∀ e ∈ ((mPr ML_law)[62]?).getD [], eLink MT ML_law e := fc trivial (fc trivial (fc trivial (fc trivial (fc trivial (fc trivial (fc trivial (fc trivial (fc trivial (fc trivial (fn))))))))))
set_option maxRecDepth 100000 in
theorem ckL_law_63 : (((mPr ML_law)[63]?).getD []).all (eChk ML_law) = true := by decide +kernel
set_option maxRecDepth 100000 in
theorem lkL_law_63 : ∀ e ∈ ((mPr ML_law)[63]?).getD [], eLink MT ML_law e := fc trivial (fc trivial (fc trivial (fc trivial (fc trivial (fc trivial (fc trivial (fc trivial (fc trivial (fc trivial (fc trivial (fc trivial (fc trivial (fn)))))))))))))
set_option maxRecDepth 100000 in
theorem ckL_law_64 : (((mPr ML_law)[64]?).getD []).all (eChk ML_law) = true := by decide +kernel
set_option maxRecDepth 100000 in
theorem lkL_law_64 : ∀ e ∈ ((mPr ML_law)[64]?).getD [], eLink MT ML_law e := fc trivial (fc trivial (fc trivial (fc trivial (fc trivial (fc trivial (fc trivial (fc trivial (fc trivial (fc (⟨mthL_lift, ariL_lift, staL_lift, (fun h => nomatch h), ⟨List.mem_of_getElem? (i := 484) rfl, rfl⟩⟩) (fc trivial (fc trivial (fn))))))))))))
set_option maxRecDepth 100000 in
theorem ckL_law_65 : (((mPr ML_law)[65]?).getD []).all (eChk ML_law) = true := by decide +kernel
set_option maxRecDepth 100000 in
theorem lkL_law_65 : ∀ e ∈ ((mPr ML_law)[65]?).getD [], eLink MT ML_law e := fc trivial (fc trivial (fc trivial (fc trivial (fc trivial (fc trivial (fc trivial (fc trivial (fc trivial (fc trivial (fc trivial (fc trivial (fc trivial (fn)))))))))))))
set_option maxRecDepth 100000 in
theorem ckL_law_66 : (((mPr ML_law)[66]?).getD []).all (eChk ML_law) = true := by decide +kernel
set_option maxRecDepth 100000 in
theorem lkL_law_66 : ∀ e ∈ ((mPr ML_law)[66]?).getD [], eLink MT ML_law e := fc trivial (fc trivial (fc trivial (fc trivial (fc trivial (fc trivial (fc trivial (fc (⟨mthX7_lift, rfl, ⟨_, rfl, ariX7_lift⟩, ⟨_, rfl, rfl⟩, ⟨List.mem_of_getElem? (i := 1040) rfl, rfl⟩, insX7_lift, selX7_lift⟩) (fc trivial (fc trivial (fc (⟨mthX7_thrown, rfl, ⟨_, rfl, ariX7_thrown⟩, ⟨_, rfl, rfl⟩, ⟨List.mem_of_getElem? (i := 940) rfl, rfl⟩, insX7_thrown, selX7_thrown⟩) (fn)))))))))))
set_option maxRecDepth 100000 in
theorem ckL_law_67 : (((mPr ML_law)[67]?).getD []).all (eChk ML_law) = true := by decide +kernel
set_option maxRecDepth 100000 in
theorem lkL_law_67 : ∀ e ∈ ((mPr ML_law)[67]?).getD [], eLink MT ML_law e := fc trivial (fc trivial (fc trivial (fc trivial (fc trivial (fc trivial (fc trivial (fc trivial (fc trivial (fn)))))))))
set_option maxRecDepth 100000 in
theorem ckL_law_68 : (((mPr ML_law)[68]?).getD []).all (eChk ML_law) = true := by decide +kernel
set_option maxRecDepth 100000 in
theorem lkL_law_68 : ∀ e ∈ ((mPr ML_law)[68]?).getD [], eLink MT ML_law e := fc trivial (fc trivial (fc trivial (fc trivial (fc trivial (fc trivial (fc trivial (fc trivial (fc trivial (fc trivial (fn))))))))))
set_option maxRecDepth 100000 in
theorem ckL_law_69 : (((mPr ML_law)[69]?).getD []).all (eChk ML_law) = true := by decide +kernel
set_option maxRecDepth 100000 in
theorem lkL_law_69 : ∀ e ∈ ((mPr ML_law)[69]?).getD [], eLink MT ML_law e := fc trivial (fc trivial (fc trivial (fc trivial (fc trivial (fc trivial (fc trivial (fc trivial (fc trivial (fc trivial (fc trivial (fc trivial (fc trivial (fc trivial (fn))))))))))))))
set_option maxRecDepth 100000 in
theorem ckL_law_70 : (((mPr ML_law)[70]?).getD []).all (eChk ML_law) = true := by decide +kernel
set_option maxRecDepth 100000 in
theorem lkL_law_70 : ∀ e ∈ ((mPr ML_law)[70]?).getD [], eLink MT ML_law e := fc (⟨mthL_other, ariL_other, staL_other, (fun h => nomatch h), ⟨List.mem_of_getElem? (i := 495) rfl, rfl⟩⟩) (fc trivial (fc trivial (fc trivial (fc trivial (fc trivial (fc trivial (fc trivial (fc trivial (fc trivial (fc trivial (fn)))))))))))
set_option maxRecDepth 100000 in
theorem ckL_law_71 : (((mPr ML_law)[71]?).getD []).all (eChk ML_law) = true := by decide +kernel
set_option maxRecDepth 100000 in
theorem lkL_law_71 : ∀ e ∈ ((mPr ML_law)[71]?).getD [], eLink MT ML_law e := fc trivial (fc trivial (fc trivial (fc trivial (fc trivial (fc trivial (fc trivial (fc (⟨mthX7_other, rfl, ⟨_, rfl, ariX7_other⟩, ⟨_, rfl, rfl⟩, ⟨List.mem_of_getElem? (i := 1044) rfl, rfl⟩, insX7_other, selX7_other⟩) (fc trivial (fc trivial (fc (⟨mthX7_thrown, rfl, ⟨_, rfl, ariX7_thrown⟩, ⟨_, rfl, rfl⟩, ⟨List.mem_of_getElem? (i := 940) rfl, rfl⟩, insX7_thrown, selX7_thrown⟩) (fn)))))))))))
set_option maxRecDepth 100000 in
theorem ckL_law_72 : (((mPr ML_law)[72]?).getD []).all (eChk ML_law) = true := by decide +kernel
set_option maxRecDepth 100000 in
theorem lkL_law_72 : ∀ e ∈ ((mPr ML_law)[72]?).getD [], eLink MT ML_law e := fc trivial (fc trivial (fc trivial (fc trivial (fc trivial (fc trivial (fc trivial (fc trivial (fc trivial (fn)))))))))
set_option maxRecDepth 100000 in
theorem ckL_law_73 : (((mPr ML_law)[73]?).getD []).all (eChk ML_law) = true := by decide +kernel
set_option maxRecDepth 100000 in
theorem lkL_law_73 : ∀ e ∈ ((mPr ML_law)[73]?).getD [], eLink MT ML_law e := fc trivial (fc trivial (fc trivial (fc trivial (fc trivial (fc trivial (fc trivial (fc trivial (fc trivial (fc trivial (fn))))))))))
set_option maxRecDepth 100000 in
theorem ckL_law_74 : (((mPr ML_law)[74]?).getD []).all (eChk ML_law) = true := by decide +kernel
set_option maxRecDepth 100000 in
theorem lkL_law_74 : ∀ e ∈ ((mPr ML_law)[74]?).getD [], eLink MT ML_law e := fc trivial (fc trivial (fc trivial (fc trivial (fc trivial (fc trivial (fc trivial (fc trivial (fc trivial (fc trivial (fc trivial (fc trivial (fc trivial (fc trivial (fn))))))))))))))
set_option maxRecDepth 100000 in
theorem ckL_law_75 : (((mPr ML_law)[75]?).getD []).all (eChk ML_law) = true := by decide +kernel
set_option maxRecDepth 100000 in
theorem lkL_law_75 : ∀ e ∈ ((mPr ML_law)[75]?).getD [], eLink MT ML_law e := fc trivial (fc trivial (fc trivial (fc trivial (fc trivial (fc (⟨mthL_exchange, ariL_exchange, staL_exchange, (fun h => nomatch h), ⟨List.mem_of_getElem? (i := 510) rfl, rfl⟩⟩) (fc trivial (fc trivial (fc trivial (fc trivial (fc trivial (fn)))))))))))
set_option maxRecDepth 100000 in
theorem ckL_law_76 : (((mPr ML_law)[76]?).getD []).all (eChk ML_law) = true := by decide +kernel
set_option maxRecDepth 100000 in
theorem lkL_law_76 : ∀ e ∈ ((mPr ML_law)[76]?).getD [], eLink MT ML_law e := fc trivial (fc trivial (fc trivial (fc trivial (fc trivial (fc trivial (fc trivial (fc trivial (fc trivial (fc trivial (fc trivial (fc trivial (fc trivial (fc trivial (fn))))))))))))))
set_option maxRecDepth 100000 in
theorem ckL_law_77 : (((mPr ML_law)[77]?).getD []).all (eChk ML_law) = true := by decide +kernel
set_option maxRecDepth 100000 in
theorem lkL_law_77 : ∀ e ∈ ((mPr ML_law)[77]?).getD [], eLink MT ML_law e := fc trivial (fc trivial (fc trivial (fc (⟨mthX7_exchange, rfl, ⟨_, rfl, ariX7_exchange⟩, ⟨_, rfl, rfl⟩, ⟨List.mem_of_getElem? (i := 1048) rfl, rfl⟩, insX7_exchange, selX7_exchange⟩) (fc trivial (fc trivial (fc (⟨mthX7_thrown, rfl, ⟨_, rfl, ariX7_thrown⟩, ⟨_, rfl, rfl⟩, ⟨List.mem_of_getElem? (i := 940) rfl, rfl⟩, insX7_thrown, selX7_thrown⟩) (fc trivial (fc trivial (fn)))))))))
set_option maxRecDepth 100000 in
theorem ckL_law_78 : (((mPr ML_law)[78]?).getD []).all (eChk ML_law) = true := by decide +kernel
set_option maxRecDepth 100000 in
theorem lkL_law_78 : ∀ e ∈ ((mPr ML_law)[78]?).getD [], eLink MT ML_law e := fc trivial (fc trivial (fc trivial (fc trivial (fc trivial (fc trivial (fc trivial (fc trivial (fc trivial (fc trivial (fn))))))))))
set_option maxRecDepth 100000 in
theorem ckL_law_79 : (((mPr ML_law)[79]?).getD []).all (eChk ML_law) = true := by decide +kernel
set_option maxRecDepth 100000 in
theorem lkL_law_79 : ∀ e ∈ ((mPr ML_law)[79]?).getD [], eLink MT ML_law e := fc trivial (fc trivial (fc trivial (fc trivial (fc trivial (fc trivial (fc trivial (fc trivial (fc trivial (fc trivial (fc trivial (fn)))))))))))
set_option maxRecDepth 100000 in
theorem ckL_law_80 : (((mPr ML_law)[80]?).getD []).all (eChk ML_law) = true := by decide +kernel
set_option maxRecDepth 100000 in
theorem lkL_law_80 : ∀ e ∈ ((mPr ML_law)[80]?).getD [], eLink MT ML_law e := fc trivial (fc trivial (fc trivial (fc trivial (fc trivial (fc (⟨mthL_fold, ariL_fold, staL_fold, (fun h => nomatch h), ⟨List.mem_of_getElem? (i := 527) rfl, rfl⟩⟩) (fc trivial (fc trivial (fc trivial (fc trivial (fc trivial (fn)))))))))))
set_option maxRecDepth 100000 in
theorem ckL_law_81 : (((mPr ML_law)[81]?).getD []).all (eChk ML_law) = true := by decide +kernel
set_option maxRecDepth 100000 in
theorem lkL_law_81 : ∀ e ∈ ((mPr ML_law)[81]?).getD [], eLink MT ML_law e := fc trivial (fc trivial (fc trivial (fc trivial (fc trivial (fc trivial (fc trivial (fc (⟨mthX7_fold, rfl, ⟨_, rfl, ariX7_fold⟩, ⟨_, rfl, rfl⟩, ⟨List.mem_of_getElem? (i := 1055) rfl, rfl⟩, insX7_fold, selX7_fold⟩) (fc trivial (fc trivial (fc (⟨mthX7_thrown, rfl, ⟨_, rfl, ariX7_thrown⟩, ⟨_, rfl, rfl⟩, ⟨List.mem_of_getElem? (i := 940) rfl, rfl⟩, insX7_thrown, selX7_thrown⟩) (fn)))))))))))
set_option maxRecDepth 100000 in
theorem ckL_law_82 : (((mPr ML_law)[82]?).getD []).all (eChk ML_law) = true := by decide +kernel
set_option maxRecDepth 100000 in
theorem lkL_law_82 : ∀ e ∈ ((mPr ML_law)[82]?).getD [], eLink MT ML_law e := fc trivial (fc trivial (fc trivial (fc trivial (fc trivial (fc trivial (fc trivial (fc trivial (fc trivial (fn)))))))))
set_option maxRecDepth 100000 in
theorem ckL_law_83 : (((mPr ML_law)[83]?).getD []).all (eChk ML_law) = true := by decide +kernel
set_option maxRecDepth 100000 in
theorem lkL_law_83 : ∀ e ∈ ((mPr ML_law)[83]?).getD [], eLink MT ML_law e := fc trivial (fc trivial (fc trivial (fc trivial (fc trivial (fc trivial (fc trivial (fc trivial (fc trivial (fc trivial (fn))))))))))
set_option maxRecDepth 100000 in
theorem ckL_law_84 : (((mPr ML_law)[84]?).getD []).all (eChk ML_law) = true := by decide +kernel
set_option maxRecDepth 100000 in
theorem lkL_law_84 : ∀ e ∈ ((mPr ML_law)[84]?).getD [], eLink MT ML_law e := fc trivial (fc trivial (fc trivial (fc trivial (fc trivial (fc trivial (fc trivial (fc trivial (fc trivial (fc (⟨mthL_has, ariL_has, staL_has, (fun h => nomatch h), ⟨List.mem_of_getElem? (i := 543) rfl, rfl⟩⟩) (fc trivial (fc trivial (fn))))))))))))
set_option maxRecDepth 100000 in
theorem ckL_law_85 : (((mPr ML_law)[85]?).getD []).all (eChk ML_law) = true := by decide +kernel
set_option maxRecDepth 100000 in
theorem lkL_law_85 : ∀ e ∈ ((mPr ML_law)[85]?).getD [], eLink MT ML_law e := fc trivial (fc trivial (fc trivial (fc trivial (fc trivial (fc trivial (fc trivial (fc trivial (fc trivial (fc trivial (fc (⟨mthX7_has, rfl, ⟨_, rfl, ariX7_has⟩, ⟨_, rfl, rfl⟩, ⟨List.mem_of_getElem? (i := 1063) rfl, rfl⟩, insX7_has, selX7_has⟩) (fc trivial (fn))))))))))))
set_option maxRecDepth 100000 in
theorem ckL_law_86 : (((mPr ML_law)[86]?).getD []).all (eChk ML_law) = true := by decide +kernel
set_option maxRecDepth 100000 in
theorem lkL_law_86 : ∀ e ∈ ((mPr ML_law)[86]?).getD [], eLink MT ML_law e := fc trivial (fc (⟨mthX7_thrown, rfl, ⟨_, rfl, ariX7_thrown⟩, ⟨_, rfl, rfl⟩, ⟨List.mem_of_getElem? (i := 940) rfl, rfl⟩, insX7_thrown, selX7_thrown⟩) (fc trivial (fc trivial (fc trivial (fc trivial (fc trivial (fc trivial (fn))))))))
set_option maxRecDepth 100000 in
theorem ckL_law_87 : (((mPr ML_law)[87]?).getD []).all (eChk ML_law) = true := by decide +kernel
set_option maxRecDepth 100000 in
theorem lkL_law_87 : ∀ e ∈ ((mPr ML_law)[87]?).getD [], eLink MT ML_law e := fc trivial (fc trivial (fc trivial (fc trivial (fc trivial (fc trivial (fc trivial (fc trivial (fc trivial (fc trivial (fn))))))))))
set_option maxRecDepth 100000 in
theorem ckL_law_88 : (((mPr ML_law)[88]?).getD []).all (eChk ML_law) = true := by decide +kernel
set_option maxRecDepth 100000 in
theorem lkL_law_88 : ∀ e ∈ ((mPr ML_law)[88]?).getD [], eLink MT ML_law e := fc trivial (fc trivial (fc trivial (fc trivial (fc trivial (fc trivial (fc trivial (fc trivial (fc trivial (fc trivial (fc (⟨mthL_size, ariL_size, staL_size, (fun h => nomatch h), ⟨List.mem_of_getElem? (i := 550) rfl, rfl⟩⟩) (fn)))))))))))
set_option maxRecDepth 100000 in
theorem ckL_law_89 : (((mPr ML_law)[89]?).getD []).all (eChk ML_law) = true := by decide +kernel
set_option maxRecDepth 100000 in
theorem lkL_law_89 : ∀ e ∈ ((mPr ML_law)[89]?).getD [], eLink MT ML_law e := fc trivial (fc trivial (fc trivial (fc trivial (fc trivial (fc trivial (fc trivial (fc (⟨mthX7_size, rfl, ⟨_, rfl, ariX7_size⟩, ⟨_, rfl, rfl⟩, ⟨List.mem_of_getElem? (i := 1067) rfl, rfl⟩, insX7_size, selX7_size⟩) (fc trivial (fn)))))))))
set_option maxRecDepth 100000 in
theorem ckL_law_90 : (((mPr ML_law)[90]?).getD []).all (eChk ML_law) = true := by decide +kernel
set_option maxRecDepth 100000 in
theorem lkL_law_90 : ∀ e ∈ ((mPr ML_law)[90]?).getD [], eLink MT ML_law e := fc trivial (fc (⟨mthX7_thrown, rfl, ⟨_, rfl, ariX7_thrown⟩, ⟨_, rfl, rfl⟩, ⟨List.mem_of_getElem? (i := 940) rfl, rfl⟩, insX7_thrown, selX7_thrown⟩) (fc trivial (fc trivial (fc trivial (fc trivial (fc trivial (fc trivial (fn))))))))
set_option maxRecDepth 100000 in
theorem ckL_law_91 : (((mPr ML_law)[91]?).getD []).all (eChk ML_law) = true := by decide +kernel
set_option maxRecDepth 100000 in
theorem lkL_law_91 : ∀ e ∈ ((mPr ML_law)[91]?).getD [], eLink MT ML_law e := fc trivial (fc trivial (fc trivial (fc trivial (fc trivial (fc trivial (fc trivial (fc trivial (fc trivial (fc trivial (fc trivial (fn)))))))))))
set_option maxRecDepth 100000 in
theorem ckL_law_92 : (((mPr ML_law)[92]?).getD []).all (eChk ML_law) = true := by decide +kernel
set_option maxRecDepth 100000 in
theorem lkL_law_92 : ∀ e ∈ ((mPr ML_law)[92]?).getD [], eLink MT ML_law e := fc trivial (fc trivial (fc trivial (fc trivial (fc trivial (fc trivial (fc trivial (fc trivial (fc trivial (fc trivial (fc trivial (fc (⟨mthL_faces, ariL_faces, staL_faces, (fun h => nomatch h), ⟨List.mem_of_getElem? (i := 557) rfl, rfl⟩⟩) (fn))))))))))))
set_option maxRecDepth 100000 in
theorem ckL_law_93 : (((mPr ML_law)[93]?).getD []).all (eChk ML_law) = true := by decide +kernel
set_option maxRecDepth 100000 in
theorem lkL_law_93 : ∀ e ∈ ((mPr ML_law)[93]?).getD [], eLink MT ML_law e := fc trivial (fc trivial (fc trivial (fc trivial (fc trivial (fc trivial (fc trivial (fc trivial (fc trivial (fc trivial (fc trivial (fc trivial (fc (⟨mthX7_faces, rfl, ⟨_, rfl, ariX7_faces⟩, ⟨_, rfl, rfl⟩, ⟨List.mem_of_getElem? (i := 1071) rfl, rfl⟩, insX7_faces, selX7_faces⟩) (fn)))))))))))))
set_option maxRecDepth 100000 in
theorem ckL_law_94 : (((mPr ML_law)[94]?).getD []).all (eChk ML_law) = true := by decide +kernel
set_option maxRecDepth 100000 in
theorem lkL_law_94 : ∀ e ∈ ((mPr ML_law)[94]?).getD [], eLink MT ML_law e := fc trivial (fc trivial (fc (⟨mthX7_thrown, rfl, ⟨_, rfl, ariX7_thrown⟩, ⟨_, rfl, rfl⟩, ⟨List.mem_of_getElem? (i := 940) rfl, rfl⟩, insX7_thrown, selX7_thrown⟩) (fc trivial (fc trivial (fc trivial (fc trivial (fc trivial (fn))))))))
set_option maxRecDepth 100000 in
theorem ckL_law_95 : (((mPr ML_law)[95]?).getD []).all (eChk ML_law) = true := by decide +kernel
set_option maxRecDepth 100000 in
theorem lkL_law_95 : ∀ e ∈ ((mPr ML_law)[95]?).getD [], eLink MT ML_law e := fc trivial (fc trivial (fc trivial (fc trivial (fc trivial (fc trivial (fc trivial (fc trivial (fc trivial (fc trivial (fn))))))))))
set_option maxRecDepth 100000 in
theorem ckL_law_96 : (((mPr ML_law)[96]?).getD []).all (eChk ML_law) = true := by decide +kernel
set_option maxRecDepth 100000 in
theorem lkL_law_96 : ∀ e ∈ ((mPr ML_law)[96]?).getD [], eLink MT ML_law e := fc trivial (fc trivial (fc trivial (fc trivial (fc trivial (fc trivial (fc trivial (fc trivial (fc (⟨mthL_corners, ariL_corners, staL_corners, (fun h => nomatch h), ⟨List.mem_of_getElem? (i := 569) rfl, rfl⟩⟩) (fc trivial (fn))))))))))
set_option maxRecDepth 100000 in
theorem ckL_law_97 : (((mPr ML_law)[97]?).getD []).all (eChk ML_law) = true := by decide +kernel
set_option maxRecDepth 100000 in
theorem lkL_law_97 : ∀ e ∈ ((mPr ML_law)[97]?).getD [], eLink MT ML_law e := fc trivial (fc trivial (fc trivial (fc trivial (fc trivial (fc trivial (fc (⟨mthX7_corners, rfl, ⟨_, rfl, ariX7_corners⟩, ⟨_, rfl, rfl⟩, ⟨List.mem_of_getElem? (i := 1079) rfl, rfl⟩, insX7_corners, selX7_corners⟩) (fc trivial (fc trivial (fc (⟨mthX7_thrown, rfl, ⟨_, rfl, ariX7_thrown⟩, ⟨_, rfl, rfl⟩, ⟨List.mem_of_getElem? (i := 940) rfl, rfl⟩, insX7_thrown, selX7_thrown⟩) (fn))))))))))
set_option maxRecDepth 100000 in
theorem ckL_law_98 : (((mPr ML_law)[98]?).getD []).all (eChk ML_law) = true := by decide +kernel
set_option maxRecDepth 100000 in
theorem lkL_law_98 : ∀ e ∈ ((mPr ML_law)[98]?).getD [], eLink MT ML_law e := fc trivial (fc trivial (fc trivial (fc trivial (fc trivial (fc trivial (fc trivial (fc trivial (fc trivial (fc trivial (fn))))))))))
set_option maxRecDepth 100000 in
theorem ckL_law_99 : (((mPr ML_law)[99]?).getD []).all (eChk ML_law) = true := by decide +kernel
set_option maxRecDepth 100000 in
theorem lkL_law_99 : ∀ e ∈ ((mPr ML_law)[99]?).getD [], eLink MT ML_law e := fc trivial (fc trivial (fc trivial (fc trivial (fc trivial (fc trivial (fc trivial (fc trivial (fc trivial (fc trivial (fn))))))))))
set_option maxRecDepth 100000 in
theorem ckL_law_100 : (((mPr ML_law)[100]?).getD []).all (eChk ML_law) = true := by decide +kernel
set_option maxRecDepth 100000 in
theorem lkL_law_100 : ∀ e ∈ ((mPr ML_law)[100]?).getD [], eLink MT ML_law e := fc trivial (fc trivial (fc trivial (fc trivial (fc trivial (fc trivial (fc trivial (fc trivial (fc (⟨mthL_over, ariL_over, staL_over, (fun h => nomatch h), ⟨List.mem_of_getElem? (i := 576) rfl, rfl⟩⟩) (fc trivial (fc trivial (fc trivial (fn))))))))))))
set_option maxRecDepth 100000 in
theorem ckL_law_101 : (((mPr ML_law)[101]?).getD []).all (eChk ML_law) = true := by decide +kernel
set_option maxRecDepth 100000 in
theorem lkL_law_101 : ∀ e ∈ ((mPr ML_law)[101]?).getD [], eLink MT ML_law e := fc trivial (fc trivial (fc trivial (fc trivial (fc trivial (fc trivial (fc trivial (fc trivial (fc trivial (fc (⟨mthX7_over, rfl, ⟨_, rfl, ariX7_over⟩, ⟨_, rfl, rfl⟩, ⟨List.mem_of_getElem? (i := 1083) rfl, rfl⟩, insX7_over, selX7_over⟩) (fc trivial (fn)))))))))))
set_option maxRecDepth 100000 in
theorem ckL_law_102 : (((mPr ML_law)[102]?).getD []).all (eChk ML_law) = true := by decide +kernel
set_option maxRecDepth 100000 in
theorem lkL_law_102 : ∀ e ∈ ((mPr ML_law)[102]?).getD [], eLink MT ML_law e := fc trivial (fc (⟨mthX7_thrown, rfl, ⟨_, rfl, ariX7_thrown⟩, ⟨_, rfl, rfl⟩, ⟨List.mem_of_getElem? (i := 940) rfl, rfl⟩, insX7_thrown, selX7_thrown⟩) (fc trivial (fc trivial (fc trivial (fc trivial (fc trivial (fc trivial (fn))))))))
set_option maxRecDepth 100000 in
theorem ckL_law_103 : (((mPr ML_law)[103]?).getD []).all (eChk ML_law) = true := by decide +kernel
set_option maxRecDepth 100000 in
theorem lkL_law_103 : ∀ e ∈ ((mPr ML_law)[103]?).getD [], eLink MT ML_law e := fc trivial (fc trivial (fc trivial (fc trivial (fc trivial (fc trivial (fc trivial (fc trivial (fc trivial (fc trivial (fc trivial (fn)))))))))))
set_option maxRecDepth 100000 in
theorem ckL_law_104 : (((mPr ML_law)[104]?).getD []).all (eChk ML_law) = true := by decide +kernel
set_option maxRecDepth 100000 in
theorem lkL_law_104 : ∀ e ∈ ((mPr ML_law)[104]?).getD [], eLink MT ML_law e := fc trivial (fc trivial (fc trivial (fc trivial (fc trivial (fc trivial (fc (⟨mthL_greatest, ariL_greatest, staL_greatest, (fun h => nomatch h), ⟨List.mem_of_getElem? (i := 583) rfl, rfl⟩⟩) (fc trivial (fc trivial (fc trivial (fc trivial (fn)))))))))))
set_option maxRecDepth 100000 in
theorem ckL_law_105 : (((mPr ML_law)[105]?).getD []).all (eChk ML_law) = true := by decide +kernel
set_option maxRecDepth 100000 in
theorem lkL_law_105 : ∀ e ∈ ((mPr ML_law)[105]?).getD [], eLink MT ML_law e := fc trivial (fc trivial (fc trivial (fc (⟨mthX7_greatest, rfl, ⟨_, rfl, ariX7_greatest⟩, ⟨_, rfl, rfl⟩, ⟨List.mem_of_getElem? (i := 1087) rfl, rfl⟩, insX7_greatest, selX7_greatest⟩) (fc trivial (fc trivial (fc (⟨mthX7_thrown, rfl, ⟨_, rfl, ariX7_thrown⟩, ⟨_, rfl, rfl⟩, ⟨List.mem_of_getElem? (i := 940) rfl, rfl⟩, insX7_thrown, selX7_thrown⟩) (fc trivial (fc trivial (fn)))))))))
set_option maxRecDepth 100000 in
theorem ckL_law_106 : (((mPr ML_law)[106]?).getD []).all (eChk ML_law) = true := by decide +kernel
set_option maxRecDepth 100000 in
theorem lkL_law_106 : ∀ e ∈ ((mPr ML_law)[106]?).getD [], eLink MT ML_law e := fc trivial (fc trivial (fc trivial (fc trivial (fc trivial (fc trivial (fc trivial (fc trivial (fc trivial (fc trivial (fc trivial (fn)))))))))))
set_option maxRecDepth 100000 in
theorem ckL_law_107 : (((mPr ML_law)[107]?).getD []).all (eChk ML_law) = true := by decide +kernel
set_option maxRecDepth 100000 in
theorem lkL_law_107 : ∀ e ∈ ((mPr ML_law)[107]?).getD [], eLink MT ML_law e := fc trivial (fc trivial (fc trivial (fc trivial (fc trivial (fc trivial (fc trivial (fc trivial (fc trivial (fc trivial (fc trivial (fn)))))))))))
set_option maxRecDepth 100000 in
theorem ckL_law_108 : (((mPr ML_law)[108]?).getD []).all (eChk ML_law) = true := by decide +kernel
set_option maxRecDepth 100000 in
theorem lkL_law_108 : ∀ e ∈ ((mPr ML_law)[108]?).getD [], eLink MT ML_law e := fc trivial (fc trivial (fc trivial (fc trivial (fc (⟨mthL_greatestAt, ariL_greatestAt, staL_greatestAt, (fun h => nomatch h), ⟨List.mem_of_getElem? (i := 596) rfl, rfl⟩⟩) (fc trivial (fc trivial (fc trivial (fc trivial (fc trivial (fc trivial (fn)))))))))))
set_option maxRecDepth 100000 in
theorem ckL_law_109 : (((mPr ML_law)[109]?).getD []).all (eChk ML_law) = true := by decide +kernel
set_option maxRecDepth 100000 in
theorem lkL_law_109 : ∀ e ∈ ((mPr ML_law)[109]?).getD [], eLink MT ML_law e := fc trivial (fc trivial (fc trivial (fc trivial (fc trivial (fc trivial (fc (⟨mthX7_greatestAt, rfl, ⟨_, rfl, ariX7_greatestAt⟩, ⟨_, rfl, rfl⟩, ⟨List.mem_of_getElem? (i := 1099) rfl, rfl⟩, insX7_greatestAt, selX7_greatestAt⟩) (fc trivial (fc trivial (fc (⟨mthX7_thrown, rfl, ⟨_, rfl, ariX7_thrown⟩, ⟨_, rfl, rfl⟩, ⟨List.mem_of_getElem? (i := 940) rfl, rfl⟩, insX7_thrown, selX7_thrown⟩) (fn))))))))))
set_option maxRecDepth 100000 in
theorem ckL_law_110 : (((mPr ML_law)[110]?).getD []).all (eChk ML_law) = true := by decide +kernel
set_option maxRecDepth 100000 in
theorem lkL_law_110 : ∀ e ∈ ((mPr ML_law)[110]?).getD [], eLink MT ML_law e := fc trivial (fc trivial (fc trivial (fc trivial (fc trivial (fc trivial (fc trivial (fc trivial (fc trivial (fc trivial (fn))))))))))
set_option maxRecDepth 100000 in
theorem ckL_law_111 : (((mPr ML_law)[111]?).getD []).all (eChk ML_law) = true := by decide +kernel
set_option maxRecDepth 100000 in
theorem lkL_law_111 : ∀ e ∈ ((mPr ML_law)[111]?).getD [], eLink MT ML_law e := fc trivial (fc trivial (fc trivial (fc trivial (fc trivial (fc trivial (fc trivial (fc trivial (fc trivial (fc trivial (fn))))))))))
set_option maxRecDepth 100000 in
theorem ckL_law_112 : (((mPr ML_law)[112]?).getD []).all (eChk ML_law) = true := by decide +kernel
set_option maxRecDepth 100000 in
theorem lkL_law_112 : ∀ e ∈ ((mPr ML_law)[112]?).getD [], eLink MT ML_law e := fc trivial (fc trivial (fc trivial (fc trivial (fc trivial (fc trivial (fc trivial (fc trivial (fc (⟨mthL_isSame, ariL_isSame, staL_isSame, (fun h => nomatch h), ⟨List.mem_of_getElem? (i := 611) rfl, rfl⟩⟩) (fc trivial (fc trivial (fc trivial (fn))))))))))))
set_option maxRecDepth 100000 in
theorem ckL_law_113 : (((mPr ML_law)[113]?).getD []).all (eChk ML_law) = true := by decide +kernel
set_option maxRecDepth 100000 in
theorem lkL_law_113 : ∀ e ∈ ((mPr ML_law)[113]?).getD [], eLink MT ML_law e := fc trivial (fc trivial (fc trivial (fc trivial (fc trivial (fc trivial (fc trivial (fc trivial (fc trivial (fc (⟨mthX7_isSame, rfl, ⟨_, rfl, ariX7_isSame⟩, ⟨_, rfl, rfl⟩, ⟨List.mem_of_getElem? (i := 1103) rfl, rfl⟩, insX7_isSame, selX7_isSame⟩) (fc trivial (fn)))))))))))
set_option maxRecDepth 100000 in
theorem ckL_law_114 : (((mPr ML_law)[114]?).getD []).all (eChk ML_law) = true := by decide +kernel
set_option maxRecDepth 100000 in
theorem lkL_law_114 : ∀ e ∈ ((mPr ML_law)[114]?).getD [], eLink MT ML_law e := fc trivial (fc (⟨mthX7_thrown, rfl, ⟨_, rfl, ariX7_thrown⟩, ⟨_, rfl, rfl⟩, ⟨List.mem_of_getElem? (i := 940) rfl, rfl⟩, insX7_thrown, selX7_thrown⟩) (fc trivial (fc trivial (fc trivial (fc trivial (fc trivial (fc trivial (fn))))))))
set_option maxRecDepth 100000 in
theorem ckL_law_115 : (((mPr ML_law)[115]?).getD []).all (eChk ML_law) = true := by decide +kernel
set_option maxRecDepth 100000 in
theorem lkL_law_115 : ∀ e ∈ ((mPr ML_law)[115]?).getD [], eLink MT ML_law e := fc trivial (fc trivial (fc trivial (fc trivial (fc trivial (fc trivial (fc trivial (fc trivial (fc trivial (fc trivial (fn))))))))))
set_option maxRecDepth 100000 in
theorem ckL_law_116 : (((mPr ML_law)[116]?).getD []).all (eChk ML_law) = true := by decide +kernel
set_option maxRecDepth 100000 in
theorem lkL_law_116 : ∀ e ∈ ((mPr ML_law)[116]?).getD [], eLink MT ML_law e := fc trivial (fc trivial (fc trivial (fc trivial (fc trivial (fc trivial (fc trivial (fc trivial (fc trivial (fc trivial (fc trivial (fn)))))))))))
set_option maxRecDepth 100000 in
theorem ckL_law_117 : (((mPr ML_law)[117]?).getD []).all (eChk ML_law) = true := by decide +kernel
set_option maxRecDepth 100000 in
theorem lkL_law_117 : ∀ e ∈ ((mPr ML_law)[117]?).getD [], eLink MT ML_law e := fc trivial (fc trivial (fc trivial (fc trivial (fc (⟨mthL_contains, ariL_contains, staL_contains, (fun h => nomatch h), ⟨List.mem_of_getElem? (i := 622) rfl, rfl⟩⟩) (fc trivial (fc trivial (fc trivial (fc trivial (fc trivial (fc trivial (fc trivial (fn))))))))))))
set_option maxRecDepth 100000 in
theorem ckL_law_118 : (((mPr ML_law)[118]?).getD []).all (eChk ML_law) = true := by decide +kernel
set_option maxRecDepth 100000 in
theorem lkL_law_118 : ∀ e ∈ ((mPr ML_law)[118]?).getD [], eLink MT ML_law e := fc trivial (fc trivial (fc trivial (fc trivial (fc trivial (fc (⟨mthX7_contains, rfl, ⟨_, rfl, ariX7_contains⟩, ⟨_, rfl, rfl⟩, ⟨List.mem_of_getElem? (i := 1111) rfl, rfl⟩, insX7_contains, selX7_contains⟩) (fc trivial (fc trivial (fc (⟨mthX7_thrown, rfl, ⟨_, rfl, ariX7_thrown⟩, ⟨_, rfl, rfl⟩, ⟨List.mem_of_getElem? (i := 940) rfl, rfl⟩, insX7_thrown, selX7_thrown⟩) (fc trivial (fn))))))))))
set_option maxRecDepth 100000 in
theorem ckL_law_119 : (((mPr ML_law)[119]?).getD []).all (eChk ML_law) = true := by decide +kernel
set_option maxRecDepth 100000 in
theorem lkL_law_119 : ∀ e ∈ ((mPr ML_law)[119]?).getD [], eLink MT ML_law e := fc trivial (fc trivial (fc trivial (fc trivial (fc trivial (fc trivial (fc trivial (fc trivial (fc trivial (fn)))))))))
set_option maxRecDepth 100000 in
theorem ckL_law_120 : (((mPr ML_law)[120]?).getD []).all (eChk ML_law) = true := by decide +kernel
set_option maxRecDepth 100000 in
theorem lkL_law_120 : ∀ e ∈ ((mPr ML_law)[120]?).getD [], eLink MT ML_law e := fc trivial (fc trivial (fc trivial (fc trivial (fc trivial (fc trivial (fc trivial (fc trivial (fc trivial (fn)))))))))
set_option maxRecDepth 100000 in
theorem ckL_law_121 : (((mPr ML_law)[121]?).getD []).all (eChk ML_law) = true := by decide +kernel
set_option maxRecDepth 100000 in
theorem lkL_law_121 : ∀ e ∈ ((mPr ML_law)[121]?).getD [], eLink MT ML_law e := fc trivial (fc trivial (fc trivial (fc trivial (fc trivial (fc trivial (fc trivial (fc (⟨mthL_pieces, ariL_pieces, staL_pieces, (fun h => nomatch h), ⟨List.mem_of_getElem? (i := 634) rfl, rfl⟩⟩) (fc trivial (fc trivial (fc trivial (fn)))))))))))
set_option maxRecDepth 100000 in
theorem ckL_law_122 : (((mPr ML_law)[122]?).getD []).all (eChk ML_law) = true := by decide +kernel
set_option maxRecDepth 100000 in
theorem lkL_law_122 : ∀ e ∈ ((mPr ML_law)[122]?).getD [], eLink MT ML_law e := fc trivial (fc trivial (fc trivial (fc trivial (fc (⟨mthX7_pieces, rfl, ⟨_, rfl, ariX7_pieces⟩, ⟨_, rfl, rfl⟩, ⟨List.mem_of_getElem? (i := 1115) rfl, rfl⟩, insX7_pieces, selX7_pieces⟩) (fc trivial (fc trivial (fc (⟨mthX7_thrown, rfl, ⟨_, rfl, ariX7_thrown⟩, ⟨_, rfl, rfl⟩, ⟨List.mem_of_getElem? (i := 940) rfl, rfl⟩, insX7_thrown, selX7_thrown⟩) (fc trivial (fn)))))))))
set_option maxRecDepth 100000 in
theorem ckL_law_123 : (((mPr ML_law)[123]?).getD []).all (eChk ML_law) = true := by decide +kernel
set_option maxRecDepth 100000 in
theorem lkL_law_123 : ∀ e ∈ ((mPr ML_law)[123]?).getD [], eLink MT ML_law e := fc trivial (fc trivial (fc trivial (fc trivial (fc trivial (fc trivial (fc trivial (fc trivial (fc trivial (fc trivial (fn))))))))))
set_option maxRecDepth 100000 in
theorem ckL_law_124 : (((mPr ML_law)[124]?).getD []).all (eChk ML_law) = true := by decide +kernel
set_option maxRecDepth 100000 in
theorem lkL_law_124 : ∀ e ∈ ((mPr ML_law)[124]?).getD [], eLink MT ML_law e := fc trivial (fc trivial (fc trivial (fc trivial (fc trivial (fc trivial (fc trivial (fc trivial (fc trivial (fc trivial (fc trivial (fn)))))))))))
set_option maxRecDepth 100000 in
theorem ckL_law_125 : (((mPr ML_law)[125]?).getD []).all (eChk ML_law) = true := by decide +kernel
set_option maxRecDepth 100000 in
theorem lkL_law_125 : ∀ e ∈ ((mPr ML_law)[125]?).getD [], eLink MT ML_law e := fc trivial (fc trivial (fc trivial (fc trivial (fc trivial (fc trivial (fc trivial (fc trivial (fc trivial (fc trivial (fc trivial (fc (⟨mthL_areJoined, ariL_areJoined, staL_areJoined, (fun h => nomatch h), ⟨List.mem_of_getElem? (i := 655) rfl, rfl⟩⟩) (fn))))))))))))
set_option maxRecDepth 100000 in
theorem ckL_law_126 : (((mPr ML_law)[126]?).getD []).all (eChk ML_law) = true := by decide +kernel
set_option maxRecDepth 100000 in
theorem lkL_law_126 : ∀ e ∈ ((mPr ML_law)[126]?).getD [], eLink MT ML_law e := fc trivial (fc trivial (fc trivial (fc trivial (fc trivial (fc trivial (fc trivial (fc trivial (fc trivial (fc trivial (fc trivial (fc trivial (fc trivial (fn)))))))))))))
set_option maxRecDepth 100000 in
theorem ckL_law_127 : (((mPr ML_law)[127]?).getD []).all (eChk ML_law) = true := by decide +kernel
set_option maxRecDepth 100000 in
theorem lkL_law_127 : ∀ e ∈ ((mPr ML_law)[127]?).getD [], eLink MT ML_law e := fc trivial (fc trivial (fc trivial (fc trivial (fc (⟨mthX7_areJoined, rfl, ⟨_, rfl, ariX7_areJoined⟩, ⟨_, rfl, rfl⟩, ⟨List.mem_of_getElem? (i := 1127) rfl, rfl⟩, insX7_areJoined, selX7_areJoined⟩) (fc trivial (fc trivial (fc (⟨mthX7_thrown, rfl, ⟨_, rfl, ariX7_thrown⟩, ⟨_, rfl, rfl⟩, ⟨List.mem_of_getElem? (i := 940) rfl, rfl⟩, insX7_thrown, selX7_thrown⟩) (fc trivial (fn)))))))))
set_option maxRecDepth 100000 in
theorem ckL_law_128 : (((mPr ML_law)[128]?).getD []).all (eChk ML_law) = true := by decide +kernel
set_option maxRecDepth 100000 in
theorem lkL_law_128 : ∀ e ∈ ((mPr ML_law)[128]?).getD [], eLink MT ML_law e := fc trivial (fc trivial (fc trivial (fc trivial (fc trivial (fc trivial (fc trivial (fc trivial (fc trivial (fc trivial (fn))))))))))
set_option maxRecDepth 100000 in
theorem ckL_law_129 : (((mPr ML_law)[129]?).getD []).all (eChk ML_law) = true := by decide +kernel
set_option maxRecDepth 100000 in
theorem lkL_law_129 : ∀ e ∈ ((mPr ML_law)[129]?).getD [], eLink MT ML_law e := fc trivial (fc trivial (fc trivial (fc trivial (fc trivial (fc trivial (fc trivial (fc trivial (fn))))))))
set_option maxRecDepth 100000 in
theorem ckL_law_130 : (((mPr ML_law)[130]?).getD []).all (eChk ML_law) = true := by decide +kernel
set_option maxRecDepth 100000 in
theorem lkL_law_130 : ∀ e ∈ ((mPr ML_law)[130]?).getD [], eLink MT ML_law e := fc trivial (fc trivial (fc trivial (fc trivial (fc trivial (fc trivial (fc trivial (fc trivial (fc trivial (fc trivial (fc trivial (fc trivial (fc (⟨mthL_free, ariL_free, staL_free, (fun h => nomatch h), ⟨List.mem_of_getElem? (i := 663) rfl, rfl⟩⟩) (fn)))))))))))))
set_option maxRecDepth 100000 in
theorem ckL_law_131 : (((mPr ML_law)[131]?).getD []).all (eChk ML_law) = true := by decide +kernel
set_option maxRecDepth 100000 in
theorem lkL_law_131 : ∀ e ∈ ((mPr ML_law)[131]?).getD [], eLink MT ML_law e := fc trivial (fc trivial (fc trivial (fc trivial (fc trivial (fc trivial (fc trivial (fc trivial (fc trivial (fc trivial (fc trivial (fc trivial (fn))))))))))))
set_option maxRecDepth 100000 in
theorem ckL_law_132 : (((mPr ML_law)[132]?).getD []).all (eChk ML_law) = true := by decide +kernel
set_option maxRecDepth 100000 in
theorem lkL_law_132 : ∀ e ∈ ((mPr ML_law)[132]?).getD [], eLink MT ML_law e := fc (⟨mthX7_free, rfl, ⟨_, rfl, ariX7_free⟩, ⟨_, rfl, rfl⟩, ⟨List.mem_of_getElem? (i := 1131) rfl, rfl⟩, insX7_free, selX7_free⟩) (fc trivial (fc trivial (fc (⟨mthX7_thrown, rfl, ⟨_, rfl, ariX7_thrown⟩, ⟨_, rfl, rfl⟩, ⟨List.mem_of_getElem? (i := 940) rfl, rfl⟩, insX7_thrown, selX7_thrown⟩) (fc trivial (fc trivial (fc trivial (fc trivial (fn))))))))
set_option maxRecDepth 100000 in
theorem ckL_law_133 : (((mPr ML_law)[133]?).getD []).all (eChk ML_law) = true := by decide +kernel
set_option maxRecDepth 100000 in
theorem lkL_law_133 : ∀ e ∈ ((mPr ML_law)[133]?).getD [], eLink MT ML_law e := fc trivial (fc trivial (fc trivial (fc trivial (fc trivial (fc trivial (fc trivial (fc trivial (fc trivial (fc trivial (fn))))))))))
set_option maxRecDepth 100000 in
theorem ckL_law_134 : (((mPr ML_law)[134]?).getD []).all (eChk ML_law) = true := by decide +kernel
set_option maxRecDepth 100000 in
theorem lkL_law_134 : ∀ e ∈ ((mPr ML_law)[134]?).getD [], eLink MT ML_law e := fc trivial (fc trivial (fc trivial (fc trivial (fc trivial (fc trivial (fc trivial (fc trivial (fc trivial (fc trivial (fc trivial (fc trivial (fn))))))))))))
set_option maxRecDepth 100000 in
theorem ckL_law_135 : (((mPr ML_law)[135]?).getD []).all (eChk ML_law) = true := by decide +kernel
set_option maxRecDepth 100000 in
theorem lkL_law_135 : ∀ e ∈ ((mPr ML_law)[135]?).getD [], eLink MT ML_law e := fc trivial (fc trivial (fc (⟨mthL_holes, ariL_holes, staL_holes, (fun h => nomatch h), ⟨List.mem_of_getElem? (i := 678) rfl, rfl⟩⟩) (fc trivial (fc trivial (fc trivial (fc trivial (fc trivial (fc trivial (fc trivial (fc trivial (fc trivial (fn))))))))))))
set_option maxRecDepth 100000 in
theorem ckL_law_136 : (((mPr ML_law)[136]?).getD []).all (eChk ML_law) = true := by decide +kernel
set_option maxRecDepth 100000 in
theorem lkL_law_136 : ∀ e ∈ ((mPr ML_law)[136]?).getD [], eLink MT ML_law e := fc trivial (fc trivial (fc trivial (fc (⟨mthX7_holes, rfl, ⟨_, rfl, ariX7_holes⟩, ⟨_, rfl, rfl⟩, ⟨List.mem_of_getElem? (i := 1149) rfl, rfl⟩, insX7_holes, selX7_holes⟩) (fc trivial (fc trivial (fc (⟨mthX7_thrown, rfl, ⟨_, rfl, ariX7_thrown⟩, ⟨_, rfl, rfl⟩, ⟨List.mem_of_getElem? (i := 940) rfl, rfl⟩, insX7_thrown, selX7_thrown⟩) (fc trivial (fc trivial (fn)))))))))
set_option maxRecDepth 100000 in
theorem ckL_law_137 : (((mPr ML_law)[137]?).getD []).all (eChk ML_law) = true := by decide +kernel
set_option maxRecDepth 100000 in
theorem lkL_law_137 : ∀ e ∈ ((mPr ML_law)[137]?).getD [], eLink MT ML_law e := fc trivial (fc trivial (fc trivial (fc trivial (fc trivial (fc trivial (fc trivial (fc trivial (fc trivial (fc trivial (fn))))))))))
set_option maxRecDepth 100000 in
theorem ckL_law_138 : (((mPr ML_law)[138]?).getD []).all (eChk ML_law) = true := by decide +kernel
set_option maxRecDepth 100000 in
theorem lkL_law_138 : ∀ e ∈ ((mPr ML_law)[138]?).getD [], eLink MT ML_law e := fc trivial (fc trivial (fc trivial (fc trivial (fc trivial (fc trivial (fc trivial (fc trivial (fc trivial (fc trivial (fc trivial (fn)))))))))))
set_option maxRecDepth 100000 in
theorem ckL_law_139 : (((mPr ML_law)[139]?).getD []).all (eChk ML_law) = true := by decide +kernel
set_option maxRecDepth 100000 in
theorem lkL_law_139 : ∀ e ∈ ((mPr ML_law)[139]?).getD [], eLink MT ML_law e := fc (⟨mthL_signed, ariL_signed, staL_signed, (fun h => nomatch h), ⟨List.mem_of_getElem? (i := 692) rfl, rfl⟩⟩) (fc trivial (fc trivial (fc trivial (fc trivial (fc trivial (fc trivial (fc trivial (fc (⟨mthX7_signed, rfl, ⟨_, rfl, ariX7_signed⟩, ⟨_, rfl, rfl⟩, ⟨List.mem_of_getElem? (i := 1153) rfl, rfl⟩, insX7_signed, selX7_signed⟩) (fc trivial (fn))))))))))
set_option maxRecDepth 100000 in
theorem ckL_law_140 : (((mPr ML_law)[140]?).getD []).all (eChk ML_law) = true := by decide +kernel
set_option maxRecDepth 100000 in
theorem lkL_law_140 : ∀ e ∈ ((mPr ML_law)[140]?).getD [], eLink MT ML_law e := fc trivial (fc (⟨mthX7_thrown, rfl, ⟨_, rfl, ariX7_thrown⟩, ⟨_, rfl, rfl⟩, ⟨List.mem_of_getElem? (i := 940) rfl, rfl⟩, insX7_thrown, selX7_thrown⟩) (fc trivial (fc trivial (fc trivial (fc trivial (fc trivial (fc trivial (fn))))))))
set_option maxRecDepth 100000 in
theorem ckL_law_141 : (((mPr ML_law)[141]?).getD []).all (eChk ML_law) = true := by decide +kernel
set_option maxRecDepth 100000 in
theorem lkL_law_141 : ∀ e ∈ ((mPr ML_law)[141]?).getD [], eLink MT ML_law e := fc trivial (fc trivial (fc trivial (fc trivial (fc trivial (fc trivial (fc trivial (fc trivial (fc trivial (fc trivial (fn))))))))))
set_option maxRecDepth 100000 in
theorem ckL_law_142 : (((mPr ML_law)[142]?).getD []).all (eChk ML_law) = true := by decide +kernel
set_option maxRecDepth 100000 in
theorem lkL_law_142 : ∀ e ∈ ((mPr ML_law)[142]?).getD [], eLink MT ML_law e := fc trivial (fc trivial (fc trivial (fc trivial (fc trivial (fc trivial (fc trivial (fc (⟨mthL_flip, ariL_flip, staL_flip, (fun h => nomatch h), ⟨List.mem_of_getElem? (i := 703) rfl, rfl⟩⟩) (fc trivial (fc trivial (fc trivial (fc trivial (fn))))))))))))
set_option maxRecDepth 100000 in
theorem ckL_law_143 : (((mPr ML_law)[143]?).getD []).all (eChk ML_law) = true := by decide +kernel
set_option maxRecDepth 100000 in
theorem lkL_law_143 : ∀ e ∈ ((mPr ML_law)[143]?).getD [], eLink MT ML_law e := fc trivial (fc trivial (fc trivial (fc (⟨mthX7_flip, rfl, ⟨_, rfl, ariX7_flip⟩, ⟨_, rfl, rfl⟩, ⟨List.mem_of_getElem? (i := 1157) rfl, rfl⟩, insX7_flip, selX7_flip⟩) (fc trivial (fc trivial (fc (⟨mthX7_thrown, rfl, ⟨_, rfl, ariX7_thrown⟩, ⟨_, rfl, rfl⟩, ⟨List.mem_of_getElem? (i := 940) rfl, rfl⟩, insX7_thrown, selX7_thrown⟩) (fc trivial (fc trivial (fn)))))))))
set_option maxRecDepth 100000 in
theorem ckL_law_144 : (((mPr ML_law)[144]?).getD []).all (eChk ML_law) = true := by decide +kernel
set_option maxRecDepth 100000 in
theorem lkL_law_144 : ∀ e ∈ ((mPr ML_law)[144]?).getD [], eLink MT ML_law e := fc trivial (fc trivial (fc trivial (fc trivial (fc trivial (fc trivial (fc trivial (fc trivial (fc trivial (fc trivial (fn))))))))))
set_option maxRecDepth 100000 in
theorem ckL_law_145 : (((mPr ML_law)[145]?).getD []).all (eChk ML_law) = true := by decide +kernel
set_option maxRecDepth 100000 in
theorem lkL_law_145 : ∀ e ∈ ((mPr ML_law)[145]?).getD [], eLink MT ML_law e := fc trivial (fc trivial (fc trivial (fc trivial (fc trivial (fc (⟨mthX6_border, rfl, ⟨_, rfl, ariX6_border⟩, ⟨_, rfl, rfl⟩, ⟨List.mem_of_getElem? (i := 162) rfl, rfl⟩, insX6_border, selX6_border⟩) (fc trivial (fc (⟨mthX7_border, rfl, ⟨_, rfl, ariX7_border⟩, ⟨_, rfl, rfl⟩, ⟨List.mem_of_getElem? (i := 1169) rfl, rfl⟩, insX7_border, selX7_border⟩) (fn))))))))
set_option maxRecDepth 100000 in
theorem ckL_law_146 : (((mPr ML_law)[146]?).getD []).all (eChk ML_law) = true := by decide +kernel
set_option maxRecDepth 100000 in
theorem lkL_law_146 : ∀ e ∈ ((mPr ML_law)[146]?).getD [], eLink MT ML_law e := fc trivial (fc trivial (fc trivial (fc trivial (fc (⟨mthX6_drop, rfl, ⟨_, rfl, ariX6_drop⟩, ⟨_, rfl, rfl⟩, ⟨List.mem_of_getElem? (i := 212) rfl, rfl⟩, insX6_drop, selX6_drop⟩) (fc trivial (fc (⟨mthX7_drop, rfl, ⟨_, rfl, ariX7_drop⟩, ⟨_, rfl, rfl⟩, ⟨List.mem_of_getElem? (i := 1177) rfl, rfl⟩, insX7_drop, selX7_drop⟩) (fc trivial (fn))))))))
set_option maxRecDepth 100000 in
theorem ckL_law_147 : (((mPr ML_law)[147]?).getD []).all (eChk ML_law) = true := by decide +kernel
set_option maxRecDepth 100000 in
theorem lkL_law_147 : ∀ e ∈ ((mPr ML_law)[147]?).getD [], eLink MT ML_law e := fc trivial (fc trivial (fc trivial (fc trivial (fc trivial (fc trivial (fc trivial (fc trivial (fc trivial (fc (⟨mthL_rowAt, ariL_rowAt, staL_rowAt, (fun h => nomatch h), ⟨List.mem_of_getElem? (i := 713) rfl, rfl⟩⟩) (fc trivial (fc trivial (fn))))))))))))
set_option maxRecDepth 100000 in
theorem ckL_law_148 : (((mPr ML_law)[148]?).getD []).all (eChk ML_law) = true := by decide +kernel
set_option maxRecDepth 100000 in
theorem lkL_law_148 : ∀ e ∈ ((mPr ML_law)[148]?).getD [], eLink MT ML_law e := fc trivial (fc trivial (fc trivial (fc trivial (fc trivial (fc (⟨mthX7_rowAt, rfl, ⟨_, rfl, ariX7_rowAt⟩, ⟨_, rfl, rfl⟩, ⟨List.mem_of_getElem? (i := 1181) rfl, rfl⟩, insX7_rowAt, selX7_rowAt⟩) (fc trivial (fc trivial (fc (⟨mthX7_thrown, rfl, ⟨_, rfl, ariX7_thrown⟩, ⟨_, rfl, rfl⟩, ⟨List.mem_of_getElem? (i := 940) rfl, rfl⟩, insX7_thrown, selX7_thrown⟩) (fc trivial (fn))))))))))
set_option maxRecDepth 100000 in
theorem ckL_law_149 : (((mPr ML_law)[149]?).getD []).all (eChk ML_law) = true := by decide +kernel
set_option maxRecDepth 100000 in
theorem lkL_law_149 : ∀ e ∈ ((mPr ML_law)[149]?).getD [], eLink MT ML_law e := fc trivial (fc trivial (fc trivial (fc trivial (fc trivial (fc trivial (fc trivial (fc trivial (fc trivial (fn)))))))))
set_option maxRecDepth 100000 in
theorem ckL_law_150 : (((mPr ML_law)[150]?).getD []).all (eChk ML_law) = true := by decide +kernel
set_option maxRecDepth 100000 in
theorem lkL_law_150 : ∀ e ∈ ((mPr ML_law)[150]?).getD [], eLink MT ML_law e := fc trivial (fc trivial (fc trivial (fc trivial (fc trivial (fc trivial (fc trivial (fc (⟨mthX6_isRound, rfl, ⟨_, rfl, ariX6_isRound⟩, ⟨_, rfl, rfl⟩, ⟨List.mem_of_getElem? (i := 220) rfl, rfl⟩, insX6_isRound, selX6_isRound⟩) (fc trivial (fc (⟨mthX7_isRound, rfl, ⟨_, rfl, ariX7_isRound⟩, ⟨_, rfl, rfl⟩, ⟨List.mem_of_getElem? (i := 1185) rfl, rfl⟩, insX7_isRound, selX7_isRound⟩) (fn))))))))))
set_option maxRecDepth 100000 in
theorem ckL_law_151 : (((mPr ML_law)[151]?).getD []).all (eChk ML_law) = true := by decide +kernel
set_option maxRecDepth 100000 in
theorem lkL_law_151 : ∀ e ∈ ((mPr ML_law)[151]?).getD [], eLink MT ML_law e := fc trivial (fc trivial (fc trivial (fc trivial (fc trivial (fc trivial (fc trivial (fc trivial (fc trivial (fc trivial (fc (⟨mthL_fills, ariL_fills, staL_fills, (fun h => nomatch h), ⟨List.mem_of_getElem? (i := 720) rfl, rfl⟩⟩) (fn)))))))))))
set_option maxRecDepth 100000 in
theorem ckL_law_152 : (((mPr ML_law)[152]?).getD []).all (eChk ML_law) = true := by decide +kernel
set_option maxRecDepth 100000 in
theorem lkL_law_152 : ∀ e ∈ ((mPr ML_law)[152]?).getD [], eLink MT ML_law e := fc trivial (fc trivial (fc trivial (fc trivial (fc trivial (fc trivial (fc trivial (fc (⟨mthX7_fills, rfl, ⟨_, rfl, ariX7_fills⟩, ⟨_, rfl, rfl⟩, ⟨List.mem_of_getElem? (i := 1189) rfl, rfl⟩, insX7_fills, selX7_fills⟩) (fc trivial (fn)))))))))
set_option maxRecDepth 100000 in
theorem ckL_law_153 : (((mPr ML_law)[153]?).getD []).all (eChk ML_law) = true := by decide +kernel
set_option maxRecDepth 100000 in
theorem lkL_law_153 : ∀ e ∈ ((mPr ML_law)[153]?).getD [], eLink MT ML_law e := fc trivial (fc (⟨mthX7_thrown, rfl, ⟨_, rfl, ariX7_thrown⟩, ⟨_, rfl, rfl⟩, ⟨List.mem_of_getElem? (i := 940) rfl, rfl⟩, insX7_thrown, selX7_thrown⟩) (fc trivial (fc trivial (fc trivial (fc trivial (fc trivial (fc trivial (fn))))))))
set_option maxRecDepth 100000 in
theorem ckL_law_154 : (((mPr ML_law)[154]?).getD []).all (eChk ML_law) = true := by decide +kernel
set_option maxRecDepth 100000 in
theorem lkL_law_154 : ∀ e ∈ ((mPr ML_law)[154]?).getD [], eLink MT ML_law e := fc trivial (fc trivial (fc trivial (fc trivial (fc trivial (fc trivial (fc trivial (fc trivial (fc trivial (fc trivial (fn))))))))))
set_option maxRecDepth 100000 in
theorem ckL_law_155 : (((mPr ML_law)[155]?).getD []).all (eChk ML_law) = true := by decide +kernel
set_option maxRecDepth 100000 in
theorem lkL_law_155 : ∀ e ∈ ((mPr ML_law)[155]?).getD [], eLink MT ML_law e := fc trivial (fc trivial (fc trivial (fc trivial (fc trivial (fc trivial (fc trivial (fc trivial (fc trivial (fc trivial (fc (⟨mthL_mean, ariL_mean, staL_mean, (fun h => nomatch h), ⟨List.mem_of_getElem? (i := 737) rfl, rfl⟩⟩) (fn)))))))))))
set_option maxRecDepth 100000 in
theorem ckL_law_156 : (((mPr ML_law)[156]?).getD []).all (eChk ML_law) = true := by decide +kernel
set_option maxRecDepth 100000 in
theorem lkL_law_156 : ∀ e ∈ ((mPr ML_law)[156]?).getD [], eLink MT ML_law e := fc trivial (fc trivial (fc trivial (fc trivial (fc trivial (fc trivial (fc trivial (fc (⟨mthX7_mean, rfl, ⟨_, rfl, ariX7_mean⟩, ⟨_, rfl, rfl⟩, ⟨List.mem_of_getElem? (i := 1193) rfl, rfl⟩, insX7_mean, selX7_mean⟩) (fc trivial (fn)))))))))
set_option maxRecDepth 100000 in
theorem ckL_law_157 : (((mPr ML_law)[157]?).getD []).all (eChk ML_law) = true := by decide +kernel
set_option maxRecDepth 100000 in
theorem lkL_law_157 : ∀ e ∈ ((mPr ML_law)[157]?).getD [], eLink MT ML_law e := fc trivial (fc (⟨mthX7_thrown, rfl, ⟨_, rfl, ariX7_thrown⟩, ⟨_, rfl, rfl⟩, ⟨List.mem_of_getElem? (i := 940) rfl, rfl⟩, insX7_thrown, selX7_thrown⟩) (fc trivial (fc trivial (fc trivial (fc trivial (fc trivial (fc trivial (fn))))))))
set_option maxRecDepth 100000 in
theorem ckL_law_158 : (((mPr ML_law)[158]?).getD []).all (eChk ML_law) = true := by decide +kernel
set_option maxRecDepth 100000 in
theorem lkL_law_158 : ∀ e ∈ ((mPr ML_law)[158]?).getD [], eLink MT ML_law e := fc trivial (fc trivial (fc trivial (fc trivial (fc trivial (fc trivial (fc trivial (fc trivial (fc trivial (fc trivial (fn))))))))))
set_option maxRecDepth 100000 in
theorem ckL_law_159 : (((mPr ML_law)[159]?).getD []).all (eChk ML_law) = true := by decide +kernel
set_option maxRecDepth 100000 in
theorem lkL_law_159 : ∀ e ∈ ((mPr ML_law)[159]?).getD [], eLink MT ML_law e := fc trivial (fc trivial (fc trivial (fc trivial (fc trivial (fc trivial (fc trivial (fc trivial (fc trivial (fc trivial (fn))))))))))
set_option maxRecDepth 100000 in
theorem ckL_law_160 : (((mPr ML_law)[160]?).getD []).all (eChk ML_law) = true := by decide +kernel
set_option maxRecDepth 100000 in
theorem lkL_law_160 : ∀ e ∈ ((mPr ML_law)[160]?).getD [], eLink MT ML_law e := fc trivial (fc trivial (fc trivial (fc trivial (fc trivial (fc trivial (fc trivial (fc trivial (fc (⟨mthL_share, ariL_share, staL_share, (fun h => nomatch h), ⟨List.mem_of_getElem? (i := 749) rfl, rfl⟩⟩) (fc trivial (fn))))))))))
set_option maxRecDepth 100000 in
theorem ckL_law_161 : (((mPr ML_law)[161]?).getD []).all (eChk ML_law) = true := by decide +kernel
set_option maxRecDepth 100000 in
theorem lkL_law_161 : ∀ e ∈ ((mPr ML_law)[161]?).getD [], eLink MT ML_law e := fc trivial (fc trivial (fc trivial (fc trivial (fc trivial (fc trivial (fc (⟨mthX7_share, rfl, ⟨_, rfl, ariX7_share⟩, ⟨_, rfl, rfl⟩, ⟨List.mem_of_getElem? (i := 1197) rfl, rfl⟩, insX7_share, selX7_share⟩) (fc trivial (fc trivial (fc (⟨mthX7_thrown, rfl, ⟨_, rfl, ariX7_thrown⟩, ⟨_, rfl, rfl⟩, ⟨List.mem_of_getElem? (i := 940) rfl, rfl⟩, insX7_thrown, selX7_thrown⟩) (fn))))))))))
set_option maxRecDepth 100000 in
theorem ckL_law_162 : (((mPr ML_law)[162]?).getD []).all (eChk ML_law) = true := by decide +kernel
set_option maxRecDepth 100000 in
theorem lkL_law_162 : ∀ e ∈ ((mPr ML_law)[162]?).getD [], eLink MT ML_law e := fc trivial (fc trivial (fc trivial (fc trivial (fc trivial (fc trivial (fc trivial (fc trivial (fn))))))))
set_option maxRecDepth 100000 in
theorem ckL_law_163 : (((mPr ML_law)[163]?).getD []).all (eChk ML_law) = true := by decide +kernel
set_option maxRecDepth 100000 in
theorem lkL_law_163 : ∀ e ∈ ((mPr ML_law)[163]?).getD [], eLink MT ML_law e := fc trivial (fc trivial (fc trivial (fc trivial (fc trivial (fc trivial (fc trivial (fc trivial (fc trivial (fc trivial (fc trivial (fn)))))))))))
set_option maxRecDepth 100000 in
theorem ckL_law_164 : (((mPr ML_law)[164]?).getD []).all (eChk ML_law) = true := by decide +kernel
set_option maxRecDepth 100000 in
theorem lkL_law_164 : ∀ e ∈ ((mPr ML_law)[164]?).getD [], eLink MT ML_law e := fc trivial (fc trivial (fc trivial (fc trivial (fc trivial (fc trivial (fc trivial (fc trivial (fc trivial (fn)))))))))
set_option maxRecDepth 100000 in
theorem ckL_law_165 : (((mPr ML_law)[165]?).getD []).all (eChk ML_law) = true := by decide +kernel
set_option maxRecDepth 100000 in
theorem lkL_law_165 : ∀ e ∈ ((mPr ML_law)[165]?).getD [], eLink MT ML_law e := fc trivial (fc (⟨mthX6_checksum, rfl, ⟨_, rfl, ariX6_checksum⟩, ⟨_, rfl, rfl⟩, ⟨List.mem_of_getElem? (i := 228) rfl, rfl⟩, insX6_checksum, selX6_checksum⟩) (fc trivial (fc (⟨mthX7_checksum, rfl, ⟨_, rfl, ariX7_checksum⟩, ⟨_, rfl, rfl⟩, ⟨List.mem_of_getElem? (i := 1201) rfl, rfl⟩, insX7_checksum, selX7_checksum⟩) (fc trivial (fc trivial (fc trivial (fc trivial (fc trivial (fn)))))))))
set_option maxRecDepth 100000 in
theorem ckL_law_166 : (((mPr ML_law)[166]?).getD []).all (eChk ML_law) = true := by decide +kernel
set_option maxRecDepth 100000 in
theorem lkL_law_166 : ∀ e ∈ ((mPr ML_law)[166]?).getD [], eLink MT ML_law e := fc trivial (fc trivial (fc trivial (fc trivial (fc trivial (fc trivial (fc (⟨mthL_isSound, ariL_isSound, staL_isSound, (fun h => nomatch h), ⟨List.mem_of_getElem? (i := 756) rfl, rfl⟩⟩) (fc trivial (fc trivial (fc trivial (fc trivial (fn)))))))))))
set_option maxRecDepth 100000 in
theorem ckL_law_167 : (((mPr ML_law)[167]?).getD []).all (eChk ML_law) = true := by decide +kernel
set_option maxRecDepth 100000 in
theorem lkL_law_167 : ∀ e ∈ ((mPr ML_law)[167]?).getD [], eLink MT ML_law e := fc trivial (fc trivial (fc trivial (fc (⟨mthX7_isSound, rfl, ⟨_, rfl, ariX7_isSound⟩, ⟨_, rfl, rfl⟩, ⟨List.mem_of_getElem? (i := 1207) rfl, rfl⟩, insX7_isSound, selX7_isSound⟩) (fc trivial (fc trivial (fc (⟨mthX7_thrown, rfl, ⟨_, rfl, ariX7_thrown⟩, ⟨_, rfl, rfl⟩, ⟨List.mem_of_getElem? (i := 940) rfl, rfl⟩, insX7_thrown, selX7_thrown⟩) (fc trivial (fc trivial (fn)))))))))
set_option maxRecDepth 100000 in
theorem ckL_law_168 : (((mPr ML_law)[168]?).getD []).all (eChk ML_law) = true := by decide +kernel
set_option maxRecDepth 100000 in
theorem lkL_law_168 : ∀ e ∈ ((mPr ML_law)[168]?).getD [], eLink MT ML_law e := fc trivial (fc trivial (fc trivial (fc trivial (fc trivial (fc trivial (fc trivial (fc trivial (fc trivial (fn)))))))))
set_option maxRecDepth 100000 in
theorem ckL_law_169 : (((mPr ML_law)[169]?).getD []).all (eChk ML_law) = true := by decide +kernel
set_option maxRecDepth 100000 in
theorem lkL_law_169 : ∀ e ∈ ((mPr ML_law)[169]?).getD [], eLink MT ML_law e := fc trivial (fc trivial (fc trivial (fc trivial (fc trivial (fc trivial (fc trivial (fc trivial (fc trivial (fc trivial (fn))))))))))
set_option maxRecDepth 100000 in
theorem ckL_law_170 : (((mPr ML_law)[170]?).getD []).all (eChk ML_law) = true := by decide +kernel
set_option maxRecDepth 100000 in
theorem lkL_law_170 : ∀ e ∈ ((mPr ML_law)[170]?).getD [], eLink MT ML_law e := fc trivial (fc trivial (fc trivial (fc trivial (fc trivial (fc trivial (fc trivial (fc trivial (fc trivial (fc trivial (fc trivial (fc trivial (fc trivial (fn)))))))))))))
set_option maxRecDepth 100000 in
theorem ckL_law_171 : (((mPr ML_law)[171]?).getD []).all (eChk ML_law) = true := by decide +kernel
set_option maxRecDepth 100000 in
theorem lkL_law_171 : ∀ e ∈ ((mPr ML_law)[171]?).getD [], eLink MT ML_law e := fc trivial (fc trivial (fc (⟨mthL_isTrue, ariL_isTrue, staL_isTrue, (fun h => nomatch h), ⟨List.mem_of_getElem? (i := 805) rfl, rfl⟩⟩) (fc trivial (fc trivial (fc trivial (fc trivial (fc trivial (fc trivial (fc trivial (fc trivial (fc trivial (fn))))))))))))
set_option maxRecDepth 100000 in
theorem ckL_law_172 : (((mPr ML_law)[172]?).getD []).all (eChk ML_law) = true := by decide +kernel
set_option maxRecDepth 100000 in
theorem lkL_law_172 : ∀ e ∈ ((mPr ML_law)[172]?).getD [], eLink MT ML_law e := fc trivial (fc trivial (fc trivial (fc trivial (fc trivial (fc trivial (fc trivial (fc trivial (fc (⟨mthX7_isTrue, rfl, ⟨_, rfl, ariX7_isTrue⟩, ⟨_, rfl, rfl⟩, ⟨List.mem_of_getElem? (i := 1211) rfl, rfl⟩, insX7_isTrue, selX7_isTrue⟩) (fc trivial (fc trivial (fn)))))))))))
set_option maxRecDepth 100000 in
theorem ckL_law_173 : (((mPr ML_law)[173]?).getD []).all (eChk ML_law) = true := by decide +kernel
set_option maxRecDepth 100000 in
theorem lkL_law_173 : ∀ e ∈ ((mPr ML_law)[173]?).getD [], eLink MT ML_law e := fc (⟨mthX7_thrown, rfl, ⟨_, rfl, ariX7_thrown⟩, ⟨_, rfl, rfl⟩, ⟨List.mem_of_getElem? (i := 940) rfl, rfl⟩, insX7_thrown, selX7_thrown⟩) (fc trivial (fc trivial (fc trivial (fc trivial (fc trivial (fc trivial (fc trivial (fn))))))))
set_option maxRecDepth 100000 in
theorem ckL_law_174 : (((mPr ML_law)[174]?).getD []).all (eChk ML_law) = true := by decide +kernel
set_option maxRecDepth 100000 in
theorem lkL_law_174 : ∀ e ∈ ((mPr ML_law)[174]?).getD [], eLink MT ML_law e := fc trivial (fc trivial (fc trivial (fc trivial (fc trivial (fc trivial (fc trivial (fc trivial (fc trivial (fn)))))))))
set_option maxRecDepth 100000 in
theorem ckL_law_175 : (((mPr ML_law)[175]?).getD []).all (eChk ML_law) = true := by decide +kernel
set_option maxRecDepth 100000 in
theorem lkL_law_175 : ∀ e ∈ ((mPr ML_law)[175]?).getD [], eLink MT ML_law e := fc trivial (fc trivial (fc trivial (fc trivial (fc trivial (fc trivial (fc trivial (fc trivial (fc trivial (fc trivial (fc trivial (fc trivial (fn))))))))))))
set_option maxRecDepth 100000 in
theorem ckL_law_176 : (((mPr ML_law)[176]?).getD []).all (eChk ML_law) = true := by decide +kernel
set_option maxRecDepth 100000 in
theorem lkL_law_176 : ∀ e ∈ ((mPr ML_law)[176]?).getD [], eLink MT ML_law e := fc trivial (fc trivial (fc trivial (fc (⟨mthL_faceIsTrue, ariL_faceIsTrue, staL_faceIsTrue, (fun h => nomatch h), ⟨List.mem_of_getElem? (i := 866) rfl, rfl⟩⟩) (fc trivial (fc trivial (fc trivial (fc trivial (fc trivial (fc trivial (fc trivial (fc trivial (fn))))))))))))
set_option maxRecDepth 100000 in
theorem ckL_law_177 : (((mPr ML_law)[177]?).getD []).all (eChk ML_law) = true := by decide +kernel
set_option maxRecDepth 100000 in
theorem lkL_law_177 : ∀ e ∈ ((mPr ML_law)[177]?).getD [], eLink MT ML_law e := fc trivial (fc trivial (fc trivial (fc trivial (fc (⟨mthX7_faceIsTrue, rfl, ⟨_, rfl, ariX7_faceIsTrue⟩, ⟨_, rfl, rfl⟩, ⟨List.mem_of_getElem? (i := 1215) rfl, rfl⟩, insX7_faceIsTrue, selX7_faceIsTrue⟩) (fc trivial (fc trivial (fc (⟨mthX7_thrown, rfl, ⟨_, rfl, ariX7_thrown⟩, ⟨_, rfl, rfl⟩, ⟨List.mem_of_getElem? (i := 940) rfl, rfl⟩, insX7_thrown, selX7_thrown⟩) (fc trivial (fn)))))))))
set_option maxRecDepth 100000 in
theorem ckL_law_178 : (((mPr ML_law)[178]?).getD []).all (eChk ML_law) = true := by decide +kernel
set_option maxRecDepth 100000 in
theorem lkL_law_178 : ∀ e ∈ ((mPr ML_law)[178]?).getD [], eLink MT ML_law e := fc trivial (fc trivial (fc trivial (fc trivial (fc trivial (fc trivial (fc trivial (fc trivial (fc trivial (fc trivial (fn))))))))))
set_option maxRecDepth 100000 in
theorem ckL_law_179 : (((mPr ML_law)[179]?).getD []).all (eChk ML_law) = true := by decide +kernel
set_option maxRecDepth 100000 in
theorem lkL_law_179 : ∀ e ∈ ((mPr ML_law)[179]?).getD [], eLink MT ML_law e := fc trivial (fc trivial (fc trivial (fc trivial (fc trivial (fc trivial (fc trivial (fc trivial (fn))))))))
set_option maxRecDepth 100000 in
theorem ckL_law_180 : (((mPr ML_law)[180]?).getD []).all (eChk ML_law) = true := by decide +kernel
set_option maxRecDepth 100000 in
theorem lkL_law_180 : ∀ e ∈ ((mPr ML_law)[180]?).getD [], eLink MT ML_law e := fc trivial (fc trivial (fc trivial (fc trivial (fc trivial (fc trivial (fc trivial (fc trivial (fc trivial (fc trivial (fc trivial (fc trivial (fc (⟨mthL_pairIsTrue, ariL_pairIsTrue, staL_pairIsTrue, (fun h => nomatch h), ⟨List.mem_of_getElem? (i := 891) rfl, rfl⟩⟩) (fn)))))))))))))
set_option maxRecDepth 100000 in
theorem ckL_law_181 : (((mPr ML_law)[181]?).getD []).all (eChk ML_law) = true := by decide +kernel
set_option maxRecDepth 100000 in
theorem lkL_law_181 : ∀ e ∈ ((mPr ML_law)[181]?).getD [], eLink MT ML_law e := fc trivial (fc trivial (fc trivial (fc trivial (fc trivial (fc trivial (fc trivial (fc trivial (fc trivial (fc trivial (fc trivial (fc trivial (fn))))))))))))
set_option maxRecDepth 100000 in
theorem ckL_law_182 : (((mPr ML_law)[182]?).getD []).all (eChk ML_law) = true := by decide +kernel
set_option maxRecDepth 100000 in
theorem lkL_law_182 : ∀ e ∈ ((mPr ML_law)[182]?).getD [], eLink MT ML_law e := fc (⟨mthX7_pairIsTrue, rfl, ⟨_, rfl, ariX7_pairIsTrue⟩, ⟨_, rfl, rfl⟩, ⟨List.mem_of_getElem? (i := 1219) rfl, rfl⟩, insX7_pairIsTrue, selX7_pairIsTrue⟩) (fc trivial (fc trivial (fc (⟨mthX7_thrown, rfl, ⟨_, rfl, ariX7_thrown⟩, ⟨_, rfl, rfl⟩, ⟨List.mem_of_getElem? (i := 940) rfl, rfl⟩, insX7_thrown, selX7_thrown⟩) (fc trivial (fc trivial (fc trivial (fc trivial (fn))))))))
set_option maxRecDepth 100000 in
theorem ckL_law_183 : (((mPr ML_law)[183]?).getD []).all (eChk ML_law) = true := by decide +kernel
set_option maxRecDepth 100000 in
theorem lkL_law_183 : ∀ e ∈ ((mPr ML_law)[183]?).getD [], eLink MT ML_law e := fc trivial (fc trivial (fc trivial (fc trivial (fc trivial (fc trivial (fc trivial (fc trivial (fc trivial (fn)))))))))
set_option maxRecDepth 100000 in
theorem ckL_law_184 : (((mPr ML_law)[184]?).getD []).all (eChk ML_law) = true := by decide +kernel
set_option maxRecDepth 100000 in
theorem lkL_law_184 : ∀ e ∈ ((mPr ML_law)[184]?).getD [], eLink MT ML_law e := fc trivial (fc trivial (fc trivial (fc trivial (fc trivial (fc trivial (fc trivial (fc trivial (fn))))))))
set_option maxRecDepth 100000 in
theorem ckL_law_185 : (((mPr ML_law)[185]?).getD []).all (eChk ML_law) = true := by decide +kernel
set_option maxRecDepth 100000 in
theorem lkL_law_185 : ∀ e ∈ ((mPr ML_law)[185]?).getD [], eLink MT ML_law e := fc trivial (fc trivial (fn))
set_option maxRecDepth 100000 in
theorem cksL_law : ∀ e ∈ (mPr ML_law).flatten, eChk ML_law e = true := eAll (fc ckL_law_0 (fc ckL_law_1 (fc ckL_law_2 (fc ckL_law_3 (fc ckL_law_4 (fc ckL_law_5 (fc ckL_law_6 (fc ckL_law_7 (fc ckL_law_8 (fc ckL_law_9 (fc ckL_law_10 (fc ckL_law_11 (fc ckL_law_12 (fc ckL_law_13 (fc ckL_law_14 (fc ckL_law_15 (fc ckL_law_16 (fc ckL_law_17 (fc ckL_law_18 (fc ckL_law_19 (fc ckL_law_20 (fc ckL_law_21 (fc ckL_law_22 (fc ckL_law_23 (fc ckL_law_24 (fc ckL_law_25 (fc ckL_law_26 (fc ckL_law_27 (fc ckL_law_28 (fc ckL_law_29 (fc ckL_law_30 (fc ckL_law_31 (fc ckL_law_32 (fc ckL_law_33 (fc ckL_law_34 (fc ckL_law_35 (fc ckL_law_36 (fc ckL_law_37 (fc ckL_law_38 (fc ckL_law_39 (fc ckL_law_40 (fc ckL_law_41 (fc ckL_law_42 (fc ckL_law_43 (fc ckL_law_44 (fc ckL_law_45 (fc ckL_law_46 (fc ckL_law_47 (fc ckL_law_48 (fc ckL_law_49 (fc ckL_law_50 (fc ckL_law_51 (fc ckL_law_52 (fc ckL_law_53 (fc ckL_law_54 (fc ckL_law_55 (fc ckL_law_56 (fc ckL_law_57 (fc ckL_law_58 (fc ckL_law_59 (fc ckL_law_60 (fc ckL_law_61 (fc ckL_law_62 (fc ckL_law_63 (fc ckL_law_64 (fc ckL_law_65 (fc ckL_law_66 (fc ckL_law_67 (fc ckL_law_68 (fc ckL_law_69 (fc ckL_law_70 (fc ckL_law_71 (fc ckL_law_72 (fc ckL_law_73 (fc ckL_law_74 (fc ckL_law_75 (fc ckL_law_76 (fc ckL_law_77 (fc ckL_law_78 (fc ckL_law_79 (fc ckL_law_80 (fc ckL_law_81 (fc ckL_law_82 (fc ckL_law_83 (fc ckL_law_84 (fc ckL_law_85 (fc ckL_law_86 (fc ckL_law_87 (fc ckL_law_88 (fc ckL_law_89 (fc ckL_law_90 (fc ckL_law_91 (fc ckL_law_92 (fc ckL_law_93 (fc ckL_law_94 (fc ckL_law_95 (fc ckL_law_96 (fc ckL_law_97 (fc ckL_law_98 (fc ckL_law_99 (fc ckL_law_100 (fc ckL_law_101 (fc ckL_law_102 (fc ckL_law_103 (fc ckL_law_104 (fc ckL_law_105 (fc ckL_law_106 (fc ckL_law_107 (fc ckL_law_108 (fc ckL_law_109 (fc ckL_law_110 (fc ckL_law_111 (fc ckL_law_112 (fc ckL_law_113 (fc ckL_law_114 (fc ckL_law_115 (fc ckL_law_116 (fc ckL_law_117 (fc ckL_law_118 (fc ckL_law_119 (fc ckL_law_120 (fc ckL_law_121 (fc ckL_law_122 (fc ckL_law_123 (fc ckL_law_124 (fc ckL_law_125 (fc ckL_law_126 (fc ckL_law_127 (fc ckL_law_128 (fc ckL_law_129 (fc ckL_law_130 (fc ckL_law_131 (fc ckL_law_132 (fc ckL_law_133 (fc ckL_law_134 (fc ckL_law_135 (fc ckL_law_136 (fc ckL_law_137 (fc ckL_law_138 (fc ckL_law_139 (fc ckL_law_140 (fc ckL_law_141 (fc ckL_law_142 (fc ckL_law_143 (fc ckL_law_144 (fc ckL_law_145 (fc ckL_law_146 (fc ckL_law_147 (fc ckL_law_148 (fc ckL_law_149 (fc ckL_law_150 (fc ckL_law_151 (fc ckL_law_152 (fc ckL_law_153 (fc ckL_law_154 (fc ckL_law_155 (fc ckL_law_156 (fc ckL_law_157 (fc ckL_law_158 (fc ckL_law_159 (fc ckL_law_160 (fc ckL_law_161 (fc ckL_law_162 (fc ckL_law_163 (fc ckL_law_164 (fc ckL_law_165 (fc ckL_law_166 (fc ckL_law_167 (fc ckL_law_168 (fc ckL_law_169 (fc ckL_law_170 (fc ckL_law_171 (fc ckL_law_172 (fc ckL_law_173 (fc ckL_law_174 (fc ckL_law_175 (fc ckL_law_176 (fc ckL_law_177 (fc ckL_law_178 (fc ckL_law_179 (fc ckL_law_180 (fc ckL_law_181 (fc ckL_law_182 (fc ckL_law_183 (fc ckL_law_184 (fc ckL_law_185 (fn)))))))))))))))))))))))))))))))))))))))))))))))))))))))))))))))))))))))))))))))))))))))))))))))))))))))))))))))))))))))))))))))))))))))))))))))))))))))))))))))))))))))))))))))))))))))))))
set_option maxRecDepth 100000 in
theorem lksL_law : ∀ e ∈ (mPr ML_law).flatten, eLink MT ML_law e := eFl (fc lkL_law_0 (fc lkL_law_1 (fc lkL_law_2 (fc lkL_law_3 (fc lkL_law_4 (fc lkL_law_5 (fc lkL_law_6 (fc lkL_law_7 (fc lkL_law_8 (fc lkL_law_9 (fc lkL_law_10 (fc lkL_law_11 (fc lkL_law_12 (fc lkL_law_13 (fc lkL_law_14 (fc lkL_law_15 (fc lkL_law_16 (fc lkL_law_17 (fc lkL_law_18 (fc lkL_law_19 (fc lkL_law_20 (fc lkL_law_21 (fc lkL_law_22 (fc lkL_law_23 (fc lkL_law_24 (fc lkL_law_25 (fc lkL_law_26 (fc lkL_law_27 (fc lkL_law_28 (fc lkL_law_29 (fc lkL_law_30 (fc lkL_law_31 (fc lkL_law_32 (fc lkL_law_33 (fc lkL_law_34 (fc lkL_law_35 (fc lkL_law_36 (fc lkL_law_37 (fc lkL_law_38 (fc lkL_law_39 (fc lkL_law_40 (fc lkL_law_41 (fc lkL_law_42 (fc lkL_law_43 (fc lkL_law_44 (fc lkL_law_45 (fc lkL_law_46 (fc lkL_law_47 (fc lkL_law_48 (fc lkL_law_49 (fc lkL_law_50 (fc lkL_law_51 (fc lkL_law_52 (fc lkL_law_53 (fc lkL_law_54 (fc lkL_law_55 (fc lkL_law_56 (fc lkL_law_57 (fc lkL_law_58 (fc lkL_law_59 (fc lkL_law_60 (fc lkL_law_61 (fc lkL_law_62 (fc lkL_law_63 (fc lkL_law_64 (fc lkL_law_65 (fc lkL_law_66 (fc lkL_law_67 (fc lkL_law_68 (fc lkL_law_69 (fc lkL_law_70 (fc lkL_law_71 (fc lkL_law_72 (fc lkL_law_73 (fc lkL_law_74 (fc lkL_law_75 (fc lkL_law_76 (fc lkL_law_77 (fc lkL_law_78 (fc lkL_law_79 (fc lkL_law_80 (fc lkL_law_81 (fc lkL_law_82 (fc lkL_law_83 (fc lkL_law_84 (fc lkL_law_85 (fc lkL_law_86 (fc lkL_law_87 (fc lkL_law_88 (fc lkL_law_89 (fc lkL_law_90 (fc lkL_law_91 (fc lkL_law_92 (fc lkL_law_93 (fc lkL_law_94 (fc lkL_law_95 (fc lkL_law_96 (fc lkL_law_97 (fc lkL_law_98 (fc lkL_law_99 (fc lkL_law_100 (fc lkL_law_101 (fc lkL_law_102 (fc lkL_law_103 (fc lkL_law_104 (fc lkL_law_105 (fc lkL_law_106 (fc lkL_law_107 (fc lkL_law_108 (fc lkL_law_109 (fc lkL_law_110 (fc lkL_law_111 (fc lkL_law_112 (fc lkL_law_113 (fc lkL_law_114 (fc lkL_law_115 (fc lkL_law_116 (fc lkL_law_117 (fc lkL_law_118 (fc lkL_law_119 (fc lkL_law_120 (fc lkL_law_121 (fc lkL_law_122 (fc lkL_law_123 (fc lkL_law_124 (fc lkL_law_125 (fc lkL_law_126 (fc lkL_law_127 (fc lkL_law_128 (fc lkL_law_129 (fc lkL_law_130 (fc lkL_law_131 (fc lkL_law_132 (fc lkL_law_133 (fc lkL_law_134 (fc lkL_law_135 (fc lkL_law_136 (fc lkL_law_137 (fc lkL_law_138 (fc lkL_law_139 (fc lkL_law_140 (fc lkL_law_141 (fc lkL_law_142 (fc lkL_law_143 (fc lkL_law_144 (fc lkL_law_145 (fc lkL_law_146 (fc lkL_law_147 (fc lkL_law_148 (fc lkL_law_149 (fc lkL_law_150 (fc lkL_law_151 (fc lkL_law_152 (fc lkL_law_153 (fc lkL_law_154 (fc lkL_law_155 (fc lkL_law_156 (fc lkL_law_157 (fc lkL_law_158 (fc lkL_law_159 (fc lkL_law_160 (fc lkL_law_161 (fc lkL_law_162 (fc lkL_law_163 (fc lkL_law_164 (fc lkL_law_165 (fc lkL_law_166 (fc lkL_law_167 (fc lkL_law_168 (fc lkL_law_169 (fc lkL_law_170 (fc lkL_law_171 (fc lkL_law_172 (fc lkL_law_173 (fc lkL_law_174 (fc lkL_law_175 (fc lkL_law_176 (fc lkL_law_177 (fc lkL_law_178 (fc lkL_law_179 (fc lkL_law_180 (fc lkL_law_181 (fc lkL_law_182 (fc lkL_law_183 (fc lkL_law_184 (fc lkL_law_185 (fn)))))))))))))))))))))))))))))))))))))))))))))))))))))))))))))))))))))))))))))))))))))))))))))))))))))))))))))))))))))))))))))))))))))))))))))))))))))))))))))))))))))))))))))))))))))))))))
end LnkL
