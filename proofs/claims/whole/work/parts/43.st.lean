/-! what the start gives to the engine -/
section ST
theorem mt_all {rows : List (List eM)} {z : eM} {P : eM → Prop} (h : ∀ r ∈ rows, ∀ M ∈ r, P M) (hz : P z) (m : Nat) : P ((((rows[m / 16]?).getD [])[m % 16]?).getD z) := by
  cases hr : rows[m / 16]? with
  | none => simpa using hz
  | some r =>
    show P ((r[m % 16]?).getD z)
    cases hm : r[m % 16]? with
    | none => exact hz
    | some M => exact h r (List.mem_of_getElem? hr) M (List.mem_of_getElem? hm)
theorem mok_none : eMeth M_none → eMok MT M_none := fun h => absurd h.2.1.1 (by decide +kernel)
theorem mok_r0 : ∀ M ∈ [MX0_init, MX0_numberSlots, MX0_bitsOfBorder, MX0_makeBorder, MX0_toggleBorder, MX0_countFree, MX0_keepsIfFree, MX0_isSumOfKept, MX0_countHoles, MX0_isFilling, MX1_init, MX1_holds, MX1_add, MX1_remove, MX1_toggle, MX1_addParts], eMeth M → eMok MT M := fc (fun _ => mokX0_init) (fc (fun _ => mokX0_numberSlots) (fc (fun _ => mokX0_bitsOfBorder) (fc (fun _ => mokX0_makeBorder) (fc (fun _ => mokX0_toggleBorder) (fc (fun _ => mokX0_countFree) (fc (fun _ => mokX0_keepsIfFree) (fc (fun _ => mokX0_isSumOfKept) (fc (fun _ => mokX0_countHoles) (fc (fun _ => mokX0_isFilling) (fc (fun _ => mokX1_init) (fc (fun _ => mokX1_holds) (fc (fun _ => mokX1_add) (fc (fun _ => mokX1_remove) (fc (fun _ => mokX1_toggle) (fc (fun _ => mokX1_addParts) fn)))))))))))))))
theorem mok_r1 : ∀ M ∈ [MX1_removeWithAllOver, MX1_empty, MX1_become, MX1_becomeUnion, MX1_becomeMeeting, MX1_isEmpty, MX1_isLike, MX1_holdsAll, MX1_count, MX1_countBeyond, MX1_countAt, MX1_signedCount, MX1_heightSum, MX1_cornerSet, MX1_faceAt, MX1_countOver], eMeth M → eMok MT M := fc (fun _ => mokX1_removeWithAllOver) (fc (fun _ => mokX1_empty) (fc (fun _ => mokX1_become) (fc (fun _ => mokX1_becomeUnion) (fc (fun _ => mokX1_becomeMeeting) (fc (fun _ => mokX1_isEmpty) (fc (fun _ => mokX1_isLike) (fc (fun _ => mokX1_holdsAll) (fc (fun _ => mokX1_count) (fc (fun _ => mokX1_countBeyond) (fc (fun _ => mokX1_countAt) (fc (fun _ => mokX1_signedCount) (fc (fun _ => mokX1_heightSum) (fc (fun _ => mokX1_cornerSet) (fc (fun _ => mokX1_faceAt) (fc (fun _ => mokX1_countOver) fn)))))))))))))))
theorem mok_r2 : ∀ M ∈ [MX1_firstOver, MX2_init, MX2_tell, MX2_at, MX2_areNone, MX2_signedSum, MX2_differAt, MX2_areLike, MX3_makeLow, MX3_makeAbout, MX3_makeCone, MX3_makeLift, MX3_addJoined, MX3_makeOther, MX3_makeExchanged, MX3_exchanged], eMeth M → eMok MT M := fc (fun _ => mokX1_firstOver) (fc (fun _ => mokX2_init) (fc (fun _ => mokX2_tell) (fc (fun _ => mokX2_at) (fc (fun _ => mokX2_areNone) (fc (fun _ => mokX2_signedSum) (fc (fun _ => mokX2_differAt) (fc (fun _ => mokX2_areLike) (fc (fun _ => mokX3_makeLow) (fc (fun _ => mokX3_makeAbout) (fc (fun _ => mokX3_makeCone) (fc (fun _ => mokX3_makeLift) (fc (fun _ => mokX3_addJoined) (fc (fun _ => mokX3_makeOther) (fc (fun _ => mokX3_makeExchanged) (fc (fun _ => mokX3_exchanged) fn)))))))))))))))
theorem mok_r3 : ∀ M ∈ [MX3_makeGreatest, MX3_liesInAnother, MX4_init, MX4_borders, MX4_tellsRow, MX4_tellsFilling, MX4_tellsPieces, MX4_tellsSignedCount, MX4_tellsCone, MX4_tellsAbout, MX4_isOneWithoutHoles, MX4_tellsLift, MX4_tellsTouching, MX4_tellsFold, MX4_tellsTaking, MX4_tellsSums], eMeth M → eMok MT M := fc (fun _ => mokX3_makeGreatest) (fc (fun _ => mokX3_liesInAnother) (fc (fun _ => mokX4_init) (fc (fun _ => mokX4_borders) (fc (fun _ => mokX4_tellsRow) (fc (fun _ => mokX4_tellsFilling) (fc (fun _ => mokX4_tellsPieces) (fc (fun _ => mokX4_tellsSignedCount) (fc (fun _ => mokX4_tellsCone) (fc (fun _ => mokX4_tellsAbout) (fc (fun _ => mokX4_isOneWithoutHoles) (fc (fun _ => mokX4_tellsLift) (fc (fun _ => mokX4_tellsTouching) (fc (fun _ => mokX4_tellsFold) (fc (fun _ => mokX4_tellsTaking) (fc (fun _ => mokX4_tellsSums) fn)))))))))))))))
theorem mok_r4 : ∀ M ∈ [MX4_tellsOther, MX4_isRim, MX4_areOpposed, MX4_tellsExchange, MX5_countPieces, MX5_pieceFrom, MX5_neighbours, MX5_areEven, MX6_init, MX6_put, MX6_take, MX6_clear, MX6_copy, MX6_unite, MX6_meet, MX6_full], eMeth M → eMok MT M := fc (fun _ => mokX4_tellsOther) (fc (fun _ => mokX4_isRim) (fc (fun _ => mokX4_areOpposed) (fc (fun _ => mokX4_tellsExchange) (fc (fun _ => mokX5_countPieces) (fc (fun _ => mokX5_pieceFrom) (fc (fun _ => mokX5_neighbours) (fc (fun _ => mokX5_areEven) (fc (fun _ => mokX6_init) (fc (fun _ => mokX6_put) (fc (fun _ => mokX6_take) (fc (fun _ => mokX6_clear) (fc (fun _ => mokX6_copy) (fc (fun _ => mokX6_unite) (fc (fun _ => mokX6_meet) (fc (fun _ => mokX6_full) fn)))))))))))))))
theorem mok_r5 : ∀ M ∈ [MX6_low, MX6_about, MX6_cone, MX6_lift, MX6_other, MX6_exchange, MX6_fold, MX6_has, MX6_size, MX6_faces, MX6_corners, MX6_over, MX6_greatest, MX6_greatestAt, MX6_isSame, MX6_contains], eMeth M → eMok MT M := fc (fun _ => mokX6_low) (fc (fun _ => mokX6_about) (fc (fun _ => mokX6_cone) (fc (fun _ => mokX6_lift) (fc (fun _ => mokX6_other) (fc (fun _ => mokX6_exchange) (fc (fun _ => mokX6_fold) (fc (fun _ => mokX6_has) (fc (fun _ => mokX6_size) (fc (fun _ => mokX6_faces) (fc (fun _ => mokX6_corners) (fc (fun _ => mokX6_over) (fc (fun _ => mokX6_greatest) (fc (fun _ => mokX6_greatestAt) (fc (fun _ => mokX6_isSame) (fc (fun _ => mokX6_contains) fn)))))))))))))))
theorem mok_r6 : ∀ M ∈ [MX6_pieces, MX6_areJoined, MX6_free, MX6_holes, MX6_signed, MX6_flip, MX6_border, MX6_drop, MX6_rowAt, MX6_isRound, MX6_fills, MX6_mean, MX6_share, MX6_checksum, MX6_isSound, MX6_isTrue], eMeth M → eMok MT M := fc (fun _ => mokX6_pieces) (fc (fun _ => mokX6_areJoined) (fc (fun _ => mokX6_free) (fc (fun _ => mokX6_holes) (fc (fun _ => mokX6_signed) (fc (fun _ => mokX6_flip) (fc (fun _ => mokX6_border) (fc (fun _ => mokX6_drop) (fc (fun _ => mokX6_rowAt) (fc (fun _ => mokX6_isRound) (fc (fun _ => mokX6_fills) (fc (fun _ => mokX6_mean) (fc (fun _ => mokX6_share) (fc (fun _ => mokX6_checksum) (fc (fun _ => mokX6_isSound) (fc (fun _ => mokX6_isTrue) fn)))))))))))))))
theorem mok_r7 : ∀ M ∈ [MX6_faceIsTrue, MX6_pairIsTrue, MX6_shapeAt, MX6_giveMade, MX6_emptied, MX6_checkFace, MX6_checkCorner, MX6_checkHeight, MX6_checkHeld, MX6_checkNew, MX6_checkedFaceAt, MX6_checksumOn, MX6_heightOf, MX6_leastCorner, MX7_init, MX7_thrown], eMeth M → eMok MT M := fc (fun _ => mokX6_faceIsTrue) (fc (fun _ => mokX6_pairIsTrue) (fc (fun _ => mokX6_shapeAt) (fc (fun _ => mokX6_giveMade) (fc (fun _ => mokX6_emptied) (fc (fun _ => mokX6_checkFace) (fc (fun _ => mokX6_checkCorner) (fc (fun _ => mokX6_checkHeight) (fc (fun _ => mokX6_checkHeld) (fc (fun _ => mokX6_checkNew) (fc (fun _ => mokX6_checkedFaceAt) (fc (fun _ => mokX6_checksumOn) (fc (fun _ => mokX6_heightOf) (fc (fun _ => mokX6_leastCorner) (fc (fun _ => mokX7_init) (fc (fun _ => mokX7_thrown) fn)))))))))))))))
theorem mok_r8 : ∀ M ∈ [MX7_isWrong, MX7_isIn, MX7_isPlace, MX7_isFace, MX7_isCorner, MX7_isHeight, MX7_isThere, MX7_cornersOf, MX7_height, MX7_isPart, MX7_sizeOf, MX7_cornersAt, MX7_overAt, MX7_isGreatest, MX7_keep, MX7_missing], eMeth M → eMok MT M := fc (fun _ => mokX7_isWrong) (fc (fun _ => mokX7_isIn) (fc (fun _ => mokX7_isPlace) (fc (fun _ => mokX7_isFace) (fc (fun _ => mokX7_isCorner) (fc (fun _ => mokX7_isHeight) (fc (fun _ => mokX7_isThere) (fc (fun _ => mokX7_cornersOf) (fc (fun _ => mokX7_height) (fc (fun _ => mokX7_isPart) (fc (fun _ => mokX7_sizeOf) (fc (fun _ => mokX7_cornersAt) (fc (fun _ => mokX7_overAt) (fc (fun _ => mokX7_isGreatest) (fc (fun _ => mokX7_keep) (fc (fun _ => mokX7_missing) fn)))))))))))))))
theorem mok_r9 : ∀ M ∈ [MX7_put, MX7_takeOut, MX7_take, MX7_clear, MX7_copy, MX7_unite, MX7_meet, MX7_full, MX7_low, MX7_about, MX7_cone, MX7_isLifted, MX7_lift, MX7_other, MX7_exchanged, MX7_exchange], eMeth M → eMok MT M := fc (fun _ => mokX7_put) (fc (fun _ => mokX7_takeOut) (fc (fun _ => mokX7_take) (fc (fun _ => mokX7_clear) (fc (fun _ => mokX7_copy) (fc (fun _ => mokX7_unite) (fc (fun _ => mokX7_meet) (fc (fun _ => mokX7_full) (fc (fun _ => mokX7_low) (fc (fun _ => mokX7_about) (fc (fun _ => mokX7_cone) (fc (fun _ => mokX7_isLifted) (fc (fun _ => mokX7_lift) (fc (fun _ => mokX7_other) (fc (fun _ => mokX7_exchanged) (fc (fun _ => mokX7_exchange) fn)))))))))))))))
theorem mok_r10 : ∀ M ∈ [MX7_fold, MX7_has, MX7_size, MX7_facesOf, MX7_faces, MX7_corners, MX7_over, MX7_greatestOf, MX7_greatest, MX7_greatestAt, MX7_isOf, MX7_isSame, MX7_contains, MX7_walk, MX7_join, MX7_pieces], eMeth M → eMok MT M := fc (fun _ => mokX7_fold) (fc (fun _ => mokX7_has) (fc (fun _ => mokX7_size) (fc (fun _ => mokX7_facesOf) (fc (fun _ => mokX7_faces) (fc (fun _ => mokX7_corners) (fc (fun _ => mokX7_over) (fc (fun _ => mokX7_greatestOf) (fc (fun _ => mokX7_greatest) (fc (fun _ => mokX7_greatestAt) (fc (fun _ => mokX7_isOf) (fc (fun _ => mokX7_isSame) (fc (fun _ => mokX7_contains) (fc (fun _ => mokX7_walk) (fc (fun _ => mokX7_join) (fc (fun _ => mokX7_pieces) fn)))))))))))))))
theorem mok_r11 : ∀ M ∈ [MX7_areJoined, MX7_bit, MX7_borderBits, MX7_left, MX7_rank, MX7_free, MX7_holes, MX7_signed, MX7_rowMany, MX7_rowHeight, MX7_flip, MX7_findBorder, MX7_border, MX7_drop, MX7_rowAt, MX7_isRound], eMeth M → eMok MT M := fc (fun _ => mokX7_areJoined) (fc (fun _ => mokX7_bit) (fc (fun _ => mokX7_borderBits) (fc (fun _ => mokX7_left) (fc (fun _ => mokX7_rank) (fc (fun _ => mokX7_free) (fc (fun _ => mokX7_holes) (fc (fun _ => mokX7_signed) (fc (fun _ => mokX7_rowMany) (fc (fun _ => mokX7_rowHeight) (fc (fun _ => mokX7_flip) (fc (fun _ => mokX7_findBorder) (fc (fun _ => mokX7_border) (fc (fun _ => mokX7_drop) (fc (fun _ => mokX7_rowAt) (fc (fun _ => mokX7_isRound) fn)))))))))))))))
theorem mok_r12 : ∀ M ∈ [MX7_fills, MX7_mean, MX7_share, MX7_checksum, MX7_isSound, MX7_isTrue, MX7_faceIsTrue, MX7_pairIsTrue, MJ6_bitCount_0f7a4, MJ13_bitCount_95d88, ML_put, ML_take, ML_clear, ML_copy, ML_unite, ML_meet], eMeth M → eMok MT M := fc (fun _ => mokX7_fills) (fc (fun _ => mokX7_mean) (fc (fun _ => mokX7_share) (fc (fun _ => mokX7_checksum) (fc (fun _ => mokX7_isSound) (fc (fun _ => mokX7_isTrue) (fc (fun _ => mokX7_faceIsTrue) (fc (fun _ => mokX7_pairIsTrue) (fc (fun _ => mokJ6_bitCount_0f7a4) (fc (fun _ => mokJ13_bitCount_95d88) (fc (fun _ => mokL_put) (fc (fun _ => mokL_take) (fc (fun _ => mokL_clear) (fc (fun _ => mokL_copy) (fc (fun _ => mokL_unite) (fc (fun _ => mokL_meet) fn)))))))))))))))
theorem mok_r13 : ∀ M ∈ [ML_full, ML_low, ML_about, ML_cone, ML_lift, ML_other, ML_exchange, ML_fold, ML_has, ML_size, ML_faces, ML_corners, ML_over, ML_greatest, ML_greatestAt, ML_isSame], eMeth M → eMok MT M := fc (fun _ => mokL_full) (fc (fun _ => mokL_low) (fc (fun _ => mokL_about) (fc (fun _ => mokL_cone) (fc (fun _ => mokL_lift) (fc (fun _ => mokL_other) (fc (fun _ => mokL_exchange) (fc (fun _ => mokL_fold) (fc (fun _ => mokL_has) (fc (fun _ => mokL_size) (fc (fun _ => mokL_faces) (fc (fun _ => mokL_corners) (fc (fun _ => mokL_over) (fc (fun _ => mokL_greatest) (fc (fun _ => mokL_greatestAt) (fc (fun _ => mokL_isSame) fn)))))))))))))))
theorem mok_r14 : ∀ M ∈ [ML_contains, ML_pieces, ML_areJoined, ML_free, ML_holes, ML_signed, ML_flip, ML_rowAt, ML_fills, ML_mean, ML_share, ML_isSound, ML_isTrue, ML_faceIsTrue, ML_pairIsTrue], eMeth M → eMok MT M := fc (fun _ => mokL_contains) (fc (fun _ => mokL_pieces) (fc (fun _ => mokL_areJoined) (fc (fun _ => mokL_free) (fc (fun _ => mokL_holes) (fc (fun _ => mokL_signed) (fc (fun _ => mokL_flip) (fc (fun _ => mokL_rowAt) (fc (fun _ => mokL_fills) (fc (fun _ => mokL_mean) (fc (fun _ => mokL_share) (fc (fun _ => mokL_isSound) (fc (fun _ => mokL_isTrue) (fc (fun _ => mokL_faceIsTrue) (fc (fun _ => mokL_pairIsTrue) fn))))))))))))))
set_option maxRecDepth 100000 in
theorem mok_all (m : Nat) : eMeth (MT m) → eMok MT (MT m) := mt_all (rows := [[MX0_init, MX0_numberSlots, MX0_bitsOfBorder, MX0_makeBorder, MX0_toggleBorder, MX0_countFree, MX0_keepsIfFree, MX0_isSumOfKept, MX0_countHoles, MX0_isFilling, MX1_init, MX1_holds, MX1_add, MX1_remove, MX1_toggle, MX1_addParts],
  [MX1_removeWithAllOver, MX1_empty, MX1_become, MX1_becomeUnion, MX1_becomeMeeting, MX1_isEmpty, MX1_isLike, MX1_holdsAll, MX1_count, MX1_countBeyond, MX1_countAt, MX1_signedCount, MX1_heightSum, MX1_cornerSet, MX1_faceAt, MX1_countOver],
  [MX1_firstOver, MX2_init, MX2_tell, MX2_at, MX2_areNone, MX2_signedSum, MX2_differAt, MX2_areLike, MX3_makeLow, MX3_makeAbout, MX3_makeCone, MX3_makeLift, MX3_addJoined, MX3_makeOther, MX3_makeExchanged, MX3_exchanged],
  [MX3_makeGreatest, MX3_liesInAnother, MX4_init, MX4_borders, MX4_tellsRow, MX4_tellsFilling, MX4_tellsPieces, MX4_tellsSignedCount, MX4_tellsCone, MX4_tellsAbout, MX4_isOneWithoutHoles, MX4_tellsLift, MX4_tellsTouching, MX4_tellsFold, MX4_tellsTaking, MX4_tellsSums],
  [MX4_tellsOther, MX4_isRim, MX4_areOpposed, MX4_tellsExchange, MX5_countPieces, MX5_pieceFrom, MX5_neighbours, MX5_areEven, MX6_init, MX6_put, MX6_take, MX6_clear, MX6_copy, MX6_unite, MX6_meet, MX6_full],
  [MX6_low, MX6_about, MX6_cone, MX6_lift, MX6_other, MX6_exchange, MX6_fold, MX6_has, MX6_size, MX6_faces, MX6_corners, MX6_over, MX6_greatest, MX6_greatestAt, MX6_isSame, MX6_contains],
  [MX6_pieces, MX6_areJoined, MX6_free, MX6_holes, MX6_signed, MX6_flip, MX6_border, MX6_drop, MX6_rowAt, MX6_isRound, MX6_fills, MX6_mean, MX6_share, MX6_checksum, MX6_isSound, MX6_isTrue],
  [MX6_faceIsTrue, MX6_pairIsTrue, MX6_shapeAt, MX6_giveMade, MX6_emptied, MX6_checkFace, MX6_checkCorner, MX6_checkHeight, MX6_checkHeld, MX6_checkNew, MX6_checkedFaceAt, MX6_checksumOn, MX6_heightOf, MX6_leastCorner, MX7_init, MX7_thrown],
  [MX7_isWrong, MX7_isIn, MX7_isPlace, MX7_isFace, MX7_isCorner, MX7_isHeight, MX7_isThere, MX7_cornersOf, MX7_height, MX7_isPart, MX7_sizeOf, MX7_cornersAt, MX7_overAt, MX7_isGreatest, MX7_keep, MX7_missing],
  [MX7_put, MX7_takeOut, MX7_take, MX7_clear, MX7_copy, MX7_unite, MX7_meet, MX7_full, MX7_low, MX7_about, MX7_cone, MX7_isLifted, MX7_lift, MX7_other, MX7_exchanged, MX7_exchange],
  [MX7_fold, MX7_has, MX7_size, MX7_facesOf, MX7_faces, MX7_corners, MX7_over, MX7_greatestOf, MX7_greatest, MX7_greatestAt, MX7_isOf, MX7_isSame, MX7_contains, MX7_walk, MX7_join, MX7_pieces],
  [MX7_areJoined, MX7_bit, MX7_borderBits, MX7_left, MX7_rank, MX7_free, MX7_holes, MX7_signed, MX7_rowMany, MX7_rowHeight, MX7_flip, MX7_findBorder, MX7_border, MX7_drop, MX7_rowAt, MX7_isRound],
  [MX7_fills, MX7_mean, MX7_share, MX7_checksum, MX7_isSound, MX7_isTrue, MX7_faceIsTrue, MX7_pairIsTrue, MJ6_bitCount_0f7a4, MJ13_bitCount_95d88, ML_put, ML_take, ML_clear, ML_copy, ML_unite, ML_meet],
  [ML_full, ML_low, ML_about, ML_cone, ML_lift, ML_other, ML_exchange, ML_fold, ML_has, ML_size, ML_faces, ML_corners, ML_over, ML_greatest, ML_greatestAt, ML_isSame],
  [ML_contains, ML_pieces, ML_areJoined, ML_free, ML_holes, ML_signed, ML_flip, ML_rowAt, ML_fills, ML_mean, ML_share, ML_isSound, ML_isTrue, ML_faceIsTrue, ML_pairIsTrue]]) (P := fun M => eMeth M → eMok MT M) (fc (mok_r0) (fc (mok_r1) (fc (mok_r2) (fc (mok_r3) (fc (mok_r4) (fc (mok_r5) (fc (mok_r6) (fc (mok_r7) (fc (mok_r8) (fc (mok_r9) (fc (mok_r10) (fc (mok_r11) (fc (mok_r12) (fc (mok_r13) (fc (mok_r14) fn))))))))))))))) mok_none m
theorem mok_law : eMok MT ML_law := ⟨cksL_law, lksL_law, fun _ h => nomatch h⟩
theorem ecX0 : ∀ w ∈ u_ws RX0 TX0 3, w ∈ lw_tbl ∧ goodWord w = true := by decide +kernel
theorem ecX1 : ∀ w ∈ u_ws RX1 TX1 2, w ∈ lw_tbl ∧ goodWord w = true := by decide +kernel
theorem ecX2 : ∀ w ∈ u_ws RX2 TX2 1, w ∈ lw_tbl ∧ goodWord w = true := by decide +kernel
theorem ecX4 : ∀ w ∈ u_ws RX4 TX4 6, w ∈ lw_tbl ∧ goodWord w = true := by decide +kernel
theorem ecX6 : ∀ w ∈ u_ws RX6 TX6 5, w ∈ lw_tbl ∧ goodWord w = true := by decide +kernel
theorem ecX7 : ∀ w ∈ u_ws RX7 TX7 8, w ∈ lw_tbl ∧ goodWord w = true := by decide +kernel
theorem ec_all : ∀ q ∈ vwCl, eCls q := fc ⟨ecX0, nmX0⟩ (fc ⟨ecX1, nmX1⟩ (fc ⟨ecX2, nmX2⟩ (fc ⟨ecX4, nmX4⟩ (fc ⟨ecX6, nmX6⟩ (fc ⟨ecX7, nmX7⟩ fn)))))
theorem ex_all : ∀ E, E ≤ 3 → eX (.castable (exN E) (exN E))
  | 0, _ => ⟨by decide +kernel, rfl⟩
  | 1, _ => ⟨by decide +kernel, rfl⟩
  | 2, _ => ⟨by decide +kernel, rfl⟩
  | 3, _ => ⟨by decide +kernel, rfl⟩
  | n + 4, h => absurd h (by omega)
def strL : List (String × Nat) := [("Holeworks", 261), ("Holeworks", 264), ("Holeworks", 270), ("Holeworks", 268), ("Holeworks", 266), ("Holeworks", 272), ("Holeworks", 108), ("Holeworks", 122), ("Holeworks", 138), ("Holeworks", 274), ("Holeworks", 193), ("Holeworks", 201), ("Holeworks", 209)]
def strW (w : Cond) : Bool := match w with
  | .stringRef own k _ => decide ((own, k) ∈ strL)
  | _ => true
theorem str_in : ∀ w ∈ tables_1, strW w = true := by decide +kernel
theorem str_tb : ∀ w ∈ tables_1, w ∈ lw_tbl := fun w h => List.mem_append_right _ h
theorem str_ex : ∀ q ∈ strL, Cond.exactly (.string q.1 q.2) "java/lang/String" ∈ flatC (Jvm.Cond.and given_1 narrow_1) := by decide +kernel
theorem nc_all : ∀ E, E ≤ 3 → ∀ n, n ≤ 3 → E ≠ n → Cond.not (.castable (exN E) (exN n)) ∈ flatC (Jvm.Cond.and given_1 narrow_1) := by decide +kernel
theorem zq_1 : Cond.isRef (.static Bundle.tN "UNASSIGNED_STACK" Bundle.steD) ∈ flatC (Jvm.Cond.and given_1 narrow_1) := by decide +kernel
theorem zq_2 : Cond.isRef (.static Bundle.tN "SUPPRESSED_SENTINEL" Bundle.listD) ∈ flatC (Jvm.Cond.and given_1 narrow_1) := by decide +kernel
theorem st_arr {args : Array Value} {s : State} {ty : FieldType} (h : (Cond.arrayClass ty).before args s = true) : ∃ c, ArrOfT s c ty ∧ s.vm.findClass ("[" ++ ty.toString) = some c := by
  obtain ⟨cA, kA, comp, h1, h2, h3⟩ := Cond.arrayClass_spec h
  exact ⟨cA, fun n z => ⟨(fun k h => by cases h), kA, h2, comp, h3⟩, h1⟩
theorem st_arq {args : Array Value} {s : State} {C : String} (h : (Cond.arrayOver (.object C)).before args s = true) : ∃ c, ArrOfT s c (.object C) ∧ va_RA s c (.object C) := by
  obtain ⟨comp, c, k, h1, -, h2, h3, h4⟩ := Cond.arrayOver_spec h
  exact ⟨c, fun n z => ⟨(fun k h => by cases h), k, h2, comp, h3⟩, k, comp, h2, h3, h1, h4⟩
theorem st_EV {s : State} {b L : Nat} {xs : Nat → Int32} (hts : ∀ w ∈ lw_tbl, w.before #[Value.ref b] s = true) (hX : va_X b L xs s s.heap) (hbl : b < s.heap.size) (hgv : (Jvm.Cond.and given_1 narrow_1).before #[Value.ref b] s = true) : ∃ (D : va_G) (dA : Nat → ClassId), eEV (L, xs) D dA s.heap.size b s := by
  have hfl := flat_of_before _ hgv
  have hA : ∀ a : Nat, a < s.heap.size → ¬ (fun q : Nat => s.heap.size ≤ q) a := fun a h => Nat.not_le.mpr h
  obtain ⟨c0, i0, k0⟩ := u_known (C := RX0) (T := TX0) (N := 3) (n := 3) hts (fun w hw => (ecX0 w hw).1) (hts (.instantiable RX0 3) (by decide +kernel))
  obtain ⟨c1, i1, k1⟩ := u_known (C := RX1) (T := TX1) (N := 2) (n := 2) hts (fun w hw => (ecX1 w hw).1) (hts (.instantiable RX1 2) (by decide +kernel))
  obtain ⟨c2, i2, k2⟩ := u_known (C := RX2) (T := TX2) (N := 1) (n := 1) hts (fun w hw => (ecX2 w hw).1) (hts (.instantiable RX2 1) (by decide +kernel))
  obtain ⟨c3, i3, k3⟩ := u_known (C := RX4) (T := TX4) (N := 6) (n := 6) hts (fun w hw => (ecX4 w hw).1) (hts (.instantiable RX4 6) (by decide +kernel))
  obtain ⟨c4, i4, k4⟩ := u_known (C := RX6) (T := TX6) (N := 5) (n := 5) hts (fun w hw => (ecX6 w hw).1) (hts (.instantiable RX6 5) (by decide +kernel))
  obtain ⟨c5, i5, k5⟩ := u_known (C := RX7) (T := TX7) (N := 8) (n := 8) hts (fun w hw => (ecX7 w hw).1) (hts (.instantiable RX7 8) (by decide +kernel))
  obtain ⟨dC, dI, hK⟩ : ∃ (dC : Nat → ClassId) (dI : Nat → Nat → Nat), ∀ (k : Nat) (q : vw_C), vwCl[k]? = some q → u_Kn s q.1 q.2.1 q.2.2 (dC k) (dI k) := by
    refine ⟨fun k => match k with | 0 => c0 | 1 => c1 | 2 => c2 | 3 => c3 | 4 => c4 | _ => c5, fun k => match k with | 0 => i0 | 1 => i1 | 2 => i2 | 3 => i3 | 4 => i4 | _ => i5, ?_⟩
    intro k q hq
    match k, hq with
    | 0, hq => cases hq; exact k0
    | 1, hq => cases hq; exact k1
    | 2, hq => cases hq; exact k2
    | 3, hq => cases hq; exact k3
    | 4, hq => cases hq; exact k4
    | 5, hq => cases hq; exact k5
    | k + 6, hq => simp [vwCl] at hq
  obtain ⟨a0, g0, f0⟩ := st_arr (hts (.arrayClass .int) (by decide +kernel))
  obtain ⟨a1, g1, f1⟩ := st_arr (hts (.arrayClass .boolean) (by decide +kernel))
  obtain ⟨a2, g2, f2⟩ := st_arr (hts (.arrayClass .long) (by decide +kernel))
  obtain ⟨a3, g3, f3⟩ := st_arr (hts (.arrayClass .double) (by decide +kernel))
  obtain ⟨a4, g4, f4⟩ := st_arq (hts (.arrayOver (.object RX1)) (by decide +kernel))
  refine ⟨(dC, dI), fun t => match t with | 0 => a0 | 1 => a1 | 2 => a2 | 3 => a3 | _ => a4, fun w hw => va_Nw.of (eNg_good hw.2) (hts w hw.1), fun own k tx hm => ?_, ?_, ?_, va_AO.of (hts (.arrayOver (.object RX1)) (by decide +kernel)), ⟨hK, fun k q h => by simp at h⟩, fun t ht => ?_, hX, hbl, Nat.le_refl _, fun E n h1 h2 h3 => va_Nc.of (hfl _ (nc_all E h1 n h2 h3))⟩
  · have h1 : strW (Cond.stringRef own k tx) = true := str_in _ hm
    have h2 : (own, k) ∈ strL := of_decide_eq_true h1
    have h3 := hfl _ (str_ex (own, k) h2)
    obtain ⟨a, c, cell, kk, h4, -⟩ := Cond.exactly_spec h3
    exact ⟨a, vk_R.of (hts _ (str_tb _ hm)) h4⟩
  · exact vx_Zqof (hts _ (by decide +kernel)) (hts (.initialized Bundle.tN) (by decide +kernel)) (hfl _ zq_1) hA
  · exact vx_Zqof (hts _ (by decide +kernel)) (hts (.initialized Bundle.tN) (by decide +kernel)) (hfl _ zq_2) hA
  · match t, ht with
    | 0, _ => exact ⟨g0, f0⟩
    | 1, _ => exact ⟨g1, f1⟩
    | 2, _ => exact ⟨g2, f2⟩
    | 3, _ => exact ⟨g3, f3⟩
    | 4, _ => exact ⟨g4, f4⟩
    | t + 5, h => exact absurd h (by omega)
end ST
