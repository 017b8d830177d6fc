section FS
theorem fs_lo (s : Nat → Bool) {f : Nat} (hf : f < 128) (c : ¬ nI 64 ≤ nI f) : lg_cmp (((enW s).toUInt64 >>> ((nI f).toInt64.toUInt64 &&& Int64.toUInt64 63)).toInt64 &&& lN 1) (lN 0) = 0 ↔ s f = false := by
  have h64 : f < 64 := Nat.lt_of_not_le fun h => c (nI_le h (by omega))
  rw [enW_get s hf, Nat.mod_eq_of_lt h64]
theorem fs_up (s : Nat → Bool) {f : Nat} (hf : f < 128) (c : nI 64 ≤ nI f) : lg_cmp (((enW (sh64 s)).toUInt64 >>> ((nI f).toInt64.toUInt64 &&& Int64.toUInt64 63)).toInt64 &&& lN 1) (lN 0) = 0 ↔ s f = false := by
  have h64 : 64 ≤ f := Nat.le_of_not_lt fun h => nI_ge h (by omega) c
  rw [enW_get (sh64 s) hf]
  show s (f % 64 + 64) = false ↔ _
  rw [show f % 64 + 64 = f by omega]
set_option maxRecDepth 10000 in
/-- FaceSet.holds -/
theorem kX1_holds {S : Nat × (Nat → Int32)} {d : Nat} {h : eH} {Q : eQ} {k : Nat} {s : Nat → Bool} {f : Nat} (hf : f < 128) (hk : h.2[k]? = some (fsS s)) (hQ : Q (.inl (some (.int (b2i (s f))))) h) : okCall S MT (d + 1) nX1_holds [.ref (k + 1), .int (nI f)] h Q := by
  refine okc (M := MX1_holds) rfl rfl fun K hK hW => ?_
  show K 0 [(0, .ref (k + 1)), (1, .int (nI f))] [] h 0 0
  iterate 2 refine hK _ _ _ _ _ _ (?_ : K _ _ _ _ _ _)
  refine hK _ _ _ _ _ _ (And.intro (fun c1 => ?_) (fun c1 => ?_))
  · skip
    iterate 1 refine hK _ _ _ _ _ _ (?_ : K _ _ _ _ _ _)
    refine hK _ _ _ _ _ _ (r_get rfl (by assumption) rfl (?_ : K _ _ _ _ _ _))
    iterate 8 refine hK _ _ _ _ _ _ (?_ : K _ _ _ _ _ _)
    refine hK _ _ _ _ _ _ (And.intro (fun c2 => ?_) (fun c2 => ?_))
    · skip
      iterate 1 refine hK _ _ _ _ _ _ (?_ : K _ _ _ _ _ _)
      exact hK _ _ _ _ _ _ (r_iret rfl rfl rfl rfl (b2i_f ((fs_up s hf c1).mp c2) ▸ hQ))
    · skip
      iterate 2 refine hK _ _ _ _ _ _ (?_ : K _ _ _ _ _ _)
      exact hK _ _ _ _ _ _ (r_iret rfl rfl rfl rfl (b2i_t (Bool.of_not_eq_false (fun e => c2 ((fs_up s hf c1).mpr e))) ▸ hQ))
  · skip
    iterate 1 refine hK _ _ _ _ _ _ (?_ : K _ _ _ _ _ _)
    refine hK _ _ _ _ _ _ (r_get rfl (by assumption) rfl (?_ : K _ _ _ _ _ _))
    iterate 9 refine hK _ _ _ _ _ _ (?_ : K _ _ _ _ _ _)
    refine hK _ _ _ _ _ _ (And.intro (fun c3 => ?_) (fun c3 => ?_))
    · skip
      iterate 1 refine hK _ _ _ _ _ _ (?_ : K _ _ _ _ _ _)
      exact hK _ _ _ _ _ _ (r_iret rfl rfl rfl rfl (b2i_f ((fs_lo s hf c1).mp c3) ▸ hQ))
    · skip
      iterate 2 refine hK _ _ _ _ _ _ (?_ : K _ _ _ _ _ _)
      exact hK _ _ _ _ _ _ (r_iret rfl rfl rfl rfl (b2i_t (Bool.of_not_eq_false (fun e => c3 ((fs_lo s hf c1).mpr e))) ▸ hQ))

def sIns (s : Nat → Bool) (f : Nat) : Nat → Bool := fun i => s i || i == f
def sDel (s : Nat → Bool) (f : Nat) : Nat → Bool := fun i => s i && !(i == f)
theorem fs_cong {s t : Nat → Bool} (h : ∀ i, i < 128 → s i = t i) : fsS s = fsS t := by
  show (Sum.inr (1, [.long (enW s), .long (enW (sh64 s))]) : va_E) = Sum.inr (1, [.long (enW t), .long (enW (sh64 t))])
  rw [enW_cong (f := s) (g := t) (fun i hi => h i (by omega)), enW_cong (f := sh64 s) (g := sh64 t) (fun i hi => h (i + 64) (by omega))]
theorem fs_ins_lo (s : Nat → Bool) {f : Nat} (hf : f < 128) (c : ¬ nI 64 ≤ nI f) : (.inr (1, [.long (enW s ||| (lN 1 <<< ((nI f).toInt64 &&& 63))), .long (enW (sh64 s))]) : va_E) = fsS (sIns s f) := by
  have h64 : f < 64 := Nat.lt_of_not_le fun h => c (nI_le h (by omega))
  rw [enW_bit hf, enW_or, Nat.mod_eq_of_lt h64]
  show (Sum.inr (1, [Value.long _, Value.long (enW (sh64 s))]) : va_E) = Sum.inr (1, [.long (enW (sIns s f)), .long (enW (sh64 (sIns s f)))])
  rw [enW_cong (f := sh64 (sIns s f)) (g := sh64 s) (fun i _ => by
    show (s (i + 64) || (i + 64) == f) = s (i + 64)
    rw [show ((i + 64) == f) = false by simp; omega, Bool.or_false])]
  rfl
theorem fs_ins_up (s : Nat → Bool) {f : Nat} (hf : f < 128) (c : nI 64 ≤ nI f) : (.inr (1, [.long (enW s), .long (enW (sh64 s) ||| (lN 1 <<< ((nI f).toInt64 &&& 63)))]) : va_E) = fsS (sIns s f) := by
  have h64 : 64 ≤ f := Nat.le_of_not_lt fun h => nI_ge h (by omega) c
  rw [enW_bit hf, enW_or]
  show (Sum.inr (1, [Value.long (enW s), Value.long _]) : va_E) = Sum.inr (1, [.long (enW (sIns s f)), .long (enW (sh64 (sIns s f)))])
  rw [enW_cong (f := sIns s f) (g := s) (fun i hi => by
    show (s i || i == f) = s i
    rw [show (i == f) = false by simp; omega, Bool.or_false]), enW_cong (f := sh64 (sIns s f)) (g := fun i => sh64 s i || i == f % 64) (fun i hi => by
    show (s (i + 64) || (i + 64) == f) = (s (i + 64) || i == f % 64)
    congr 1
    rw [Bool.eq_iff_iff, beq_iff_eq, beq_iff_eq]; omega)]
theorem fs_del_lo (s : Nat → Bool) {f : Nat} (hf : f < 128) (c : ¬ nI 64 ≤ nI f) : (.inr (1, [.long (enW s &&& ((lN 1 <<< ((nI f).toInt64 &&& 63)) ^^^ (-1))), .long (enW (sh64 s))]) : va_E) = fsS (sDel s f) := by
  have h64 : f < 64 := Nat.lt_of_not_le fun h => c (nI_le h (by omega))
  rw [enW_bit hf, enW_not, enW_and, Nat.mod_eq_of_lt h64]
  show (Sum.inr (1, [Value.long _, Value.long (enW (sh64 s))]) : va_E) = Sum.inr (1, [.long (enW (sDel s f)), .long (enW (sh64 (sDel s f)))])
  rw [enW_cong (f := sh64 (sDel s f)) (g := sh64 s) (fun i _ => by
    show (s (i + 64) && !((i + 64) == f)) = s (i + 64)
    rw [show ((i + 64) == f) = false by simp; omega, Bool.not_false, Bool.and_true])]
  rfl
theorem fs_del_up (s : Nat → Bool) {f : Nat} (hf : f < 128) (c : nI 64 ≤ nI f) : (.inr (1, [.long (enW s), .long (enW (sh64 s) &&& ((lN 1 <<< ((nI f).toInt64 &&& 63)) ^^^ (-1)))]) : va_E) = fsS (sDel s f) := by
  have h64 : 64 ≤ f := Nat.le_of_not_lt fun h => nI_ge h (by omega) c
  rw [enW_bit hf, enW_not, enW_and]
  show (Sum.inr (1, [Value.long (enW s), Value.long _]) : va_E) = Sum.inr (1, [.long (enW (sDel s f)), .long (enW (sh64 (sDel s f)))])
  rw [enW_cong (f := sDel s f) (g := s) (fun i hi => by
    show (s i && !(i == f)) = s i
    rw [show (i == f) = false by simp; omega, Bool.not_false, Bool.and_true]), enW_cong (f := sh64 (sDel s f)) (g := fun i => sh64 s i && !(i == f % 64)) (fun i hi => by
    show (s (i + 64) && !((i + 64) == f)) = (s (i + 64) && !(i == f % 64))
    congr 2
    rw [Bool.eq_iff_iff, beq_iff_eq, beq_iff_eq]; omega)]
theorem hS {Q : eQ} {o : eO} {b : Bool} {l : List va_E} {k : Nat} {x y : va_E} (e : x = y) (h : Q o (b, l.set k y)) : Q o (b, l.set k x) := by rw [e]; exact h
set_option maxRecDepth 10000 in
/-- FaceSet.add -/
theorem kX1_add {S : Nat × (Nat → Int32)} {d : Nat} {h : eH} {Q : eQ} {k : Nat} {s : Nat → Bool} {f : Nat} (hf : f < 128) (hk : h.2[k]? = some (fsS s)) (hQ : Q (.inl none) (h.1, h.2.set k (fsS (sIns s f)))) : okCall S MT (d + 1) nX1_add [.ref (k + 1), .int (nI f)] h Q := by
  refine okc (M := MX1_add) rfl rfl fun K hK hW => ?_
  show K 0 [(0, .ref (k + 1)), (1, .int (nI f))] [] h 0 0
  iterate 2 refine hK _ _ _ _ _ _ (?_ : K _ _ _ _ _ _)
  refine hK _ _ _ _ _ _ (And.intro (fun c1 => ?_) (fun c1 => ?_))
  · skip
    iterate 2 refine hK _ _ _ _ _ _ (?_ : K _ _ _ _ _ _)
    refine hK _ _ _ _ _ _ (r_get rfl (by assumption) rfl (?_ : K _ _ _ _ _ _))
    iterate 4 refine hK _ _ _ _ _ _ (?_ : K _ _ _ _ _ _)
    refine hK _ _ _ _ _ _ (r_put rfl rfl (by assumption) rfl (?_ : K _ _ _ _ _ _))
    exact hK _ _ _ _ _ _ (r_vret rfl rfl rfl (hS (fs_ins_up s hf c1) hQ))
  · skip
    iterate 2 refine hK _ _ _ _ _ _ (?_ : K _ _ _ _ _ _)
    refine hK _ _ _ _ _ _ (r_get rfl (by assumption) rfl (?_ : K _ _ _ _ _ _))
    iterate 4 refine hK _ _ _ _ _ _ (?_ : K _ _ _ _ _ _)
    refine hK _ _ _ _ _ _ (r_put rfl rfl (by assumption) rfl (?_ : K _ _ _ _ _ _))
    iterate 1 refine hK _ _ _ _ _ _ (?_ : K _ _ _ _ _ _)
    exact hK _ _ _ _ _ _ (r_vret rfl rfl rfl (hS (fs_ins_lo s hf c1) hQ))

set_option maxRecDepth 10000 in
/-- FaceSet.remove -/
theorem kX1_remove {S : Nat × (Nat → Int32)} {d : Nat} {h : eH} {Q : eQ} {k : Nat} {s : Nat → Bool} {f : Nat} (hf : f < 128) (hk : h.2[k]? = some (fsS s)) (hQ : Q (.inl none) (h.1, h.2.set k (fsS (sDel s f)))) : okCall S MT (d + 1) nX1_remove [.ref (k + 1), .int (nI f)] h Q := by
  refine okc (M := MX1_remove) rfl rfl fun K hK hW => ?_
  show K 0 [(0, .ref (k + 1)), (1, .int (nI f))] [] h 0 0
  iterate 2 refine hK _ _ _ _ _ _ (?_ : K _ _ _ _ _ _)
  refine hK _ _ _ _ _ _ (And.intro (fun c1 => ?_) (fun c1 => ?_))
  · skip
    iterate 2 refine hK _ _ _ _ _ _ (?_ : K _ _ _ _ _ _)
    refine hK _ _ _ _ _ _ (r_get rfl (by assumption) rfl (?_ : K _ _ _ _ _ _))
    iterate 6 refine hK _ _ _ _ _ _ (?_ : K _ _ _ _ _ _)
    refine hK _ _ _ _ _ _ (r_put rfl rfl (by assumption) rfl (?_ : K _ _ _ _ _ _))
    exact hK _ _ _ _ _ _ (r_vret rfl rfl rfl (hS (fs_del_up s hf c1) hQ))
  · skip
    iterate 2 refine hK _ _ _ _ _ _ (?_ : K _ _ _ _ _ _)
    refine hK _ _ _ _ _ _ (r_get rfl (by assumption) rfl (?_ : K _ _ _ _ _ _))
    iterate 6 refine hK _ _ _ _ _ _ (?_ : K _ _ _ _ _ _)
    refine hK _ _ _ _ _ _ (r_put rfl rfl (by assumption) rfl (?_ : K _ _ _ _ _ _))
    iterate 1 refine hK _ _ _ _ _ _ (?_ : K _ _ _ _ _ _)
    exact hK _ _ _ _ _ _ (r_vret rfl rfl rfl (hS (fs_del_lo s hf c1) hQ))

end FS
