section FS
theorem fs_lo (s : Nat → Bool) {f : Nat} (hf : f < 128) (c : ¬ nI 64 ≤ nI f) : lg_cmp (((enW s).toUInt64 >>> ((nI f).toInt64.toUInt64 &&& Int64.toUInt64 63)).toInt64 &&& lN 1) (lN 0) = 0 ↔ s f = false := by
  have h64 : f < 64 := Nat.lt_of_not_le fun h => c (nI_le h (by omega))
  rw [enW_get s hf, Nat.mod_eq_of_lt h64]
theorem fs_up (s : Nat → Bool) {f : Nat} (hf : f < 128) (c : nI 64 ≤ nI f) : lg_cmp (((enW (sh64 s)).toUInt64 >>> ((nI f).toInt64.toUInt64 &&& Int64.toUInt64 63)).toInt64 &&& lN 1) (lN 0) = 0 ↔ s f = false := by
  have h64 : 64 ≤ f := Nat.le_of_not_lt fun h => nI_ge h (by omega) c
  rw [enW_get (sh64 s) hf]
  show s (f % 64 + 64) = false ↔ _
  rw [show f % 64 + 64 = f by omega]
set_option maxRecDepth 10000 in
/-- FaceSet.holds -/
theorem kX1_holds {S : Nat × (Nat → Int32)} {d : Nat} {h : eH} {Q : eQ} {k : Nat} {s : Nat → Bool} {f : Nat} (hf : f < 128) (hk : h.2[k]? = some (fsS s)) (hQ : Q (.inl (some (.int (b2i (s f))))) h) : okCall S MT (d + 1) nX1_holds [.ref (k + 1), .int (nI f)] h Q := by
  refine okc (M := MX1_holds) rfl rfl fun K hK hW => ?_
  show K 0 [(0, .ref (k + 1)), (1, .int (nI f))] [] h 0 0
  iterate 2 refine hK _ _ _ _ _ _ (?_ : K _ _ _ _ _ _)
  refine hK _ _ _ _ _ _ (And.intro (fun c1 => ?_) (fun c1 => ?_))
  · skip
    iterate 1 refine hK _ _ _ _ _ _ (?_ : K _ _ _ _ _ _)
    refine hK _ _ _ _ _ _ (r_get rfl (by assumption) rfl (?_ : K _ _ _ _ _ _))
    iterate 8 refine hK _ _ _ _ _ _ (?_ : K _ _ _ _ _ _)
    refine hK _ _ _ _ _ _ (And.intro (fun c2 => ?_) (fun c2 => ?_))
    · skip
      iterate 1 refine hK _ _ _ _ _ _ (?_ : K _ _ _ _ _ _)
      exact hK _ _ _ _ _ _ (r_iret rfl rfl rfl rfl (b2i_f ((fs_up s hf c1).mp c2) ▸ hQ))
    · skip
      iterate 2 refine hK _ _ _ _ _ _ (?_ : K _ _ _ _ _ _)
      exact hK _ _ _ _ _ _ (r_iret rfl rfl rfl rfl (b2i_t (Bool.of_not_eq_false (fun e => c2 ((fs_up s hf c1).mpr e))) ▸ hQ))
  · skip
    iterate 1 refine hK _ _ _ _ _ _ (?_ : K _ _ _ _ _ _)
    refine hK _ _ _ _ _ _ (r_get rfl (by assumption) rfl (?_ : K _ _ _ _ _ _))
    iterate 9 refine hK _ _ _ _ _ _ (?_ : K _ _ _ _ _ _)
    refine hK _ _ _ _ _ _ (And.intro (fun c3 => ?_) (fun c3 => ?_))
    · skip
      iterate 1 refine hK _ _ _ _ _ _ (?_ : K _ _ _ _ _ _)
      exact hK _ _ _ _ _ _ (r_iret rfl rfl rfl rfl (b2i_f ((fs_lo s hf c1).mp c3) ▸ hQ))
    · skip
      iterate 2 refine hK _ _ _ _ _ _ (?_ : K _ _ _ _ _ _)
      exact hK _ _ _ _ _ _ (r_iret rfl rfl rfl rfl (b2i_t (Bool.of_not_eq_false (fun e => c3 ((fs_lo s hf c1).mpr e))) ▸ hQ))

def sIns (s : Nat → Bool) (f : Nat) : Nat → Bool := fun i => s i || i == f
def sDel (s : Nat → Bool) (f : Nat) : Nat → Bool := fun i => s i && !(i == f)
theorem fs_cong {s t : Nat → Bool} (h : ∀ i, i < 128 → s i = t i) : fsS s = fsS t := by
  show (Sum.inr (1, [.long (enW s), .long (enW (sh64 s))]) : va_E) = Sum.inr (1, [.long (enW t), .long (enW (sh64 t))])
  rw [enW_cong (f := s) (g := t) (fun i hi => h i (by omega)), enW_cong (f := sh64 s) (g := sh64 t) (fun i hi => h (i + 64) (by omega))]
theorem fs_ins_lo (s : Nat → Bool) {f : Nat} (hf : f < 128) (c : ¬ nI 64 ≤ nI f) : (.inr (1, [.long (enW s ||| (lN 1 <<< ((nI f).toInt64 &&& 63))), .long (enW (sh64 s))]) : va_E) = fsS (sIns s f) := by
  have h64 : f < 64 := Nat.lt_of_not_le fun h => c (nI_le h (by omega))
  rw [enW_bit hf, enW_or, Nat.mod_eq_of_lt h64]
  show (Sum.inr (1, [Value.long _, Value.long (enW (sh64 s))]) : va_E) = Sum.inr (1, [.long (enW (sIns s f)), .long (enW (sh64 (sIns s f)))])
  rw [enW_cong (f := sh64 (sIns s f)) (g := sh64 s) (fun i _ => by
    show (s (i + 64) || (i + 64) == f) = s (i + 64)
    rw [show ((i + 64) == f) = false by simp; omega, Bool.or_false])]
  rfl
theorem fs_ins_up (s : Nat → Bool) {f : Nat} (hf : f < 128) (c : nI 64 ≤ nI f) : (.inr (1, [.long (enW s), .long (enW (sh64 s) ||| (lN 1 <<< ((nI f).toInt64 &&& 63)))]) : va_E) = fsS (sIns s f) := by
  have h64 : 64 ≤ f := Nat.le_of_not_lt fun h => nI_ge h (by omega) c
  rw [enW_bit hf, enW_or]
  show (Sum.inr (1, [Value.long (enW s), Value.long _]) : va_E) = Sum.inr (1, [.long (enW (sIns s f)), .long (enW (sh64 (sIns s f)))])
  rw [enW_cong (f := sIns s f) (g := s) (fun i hi => by
    show (s i || i == f) = s i
    rw [show (i == f) = false by simp; omega, Bool.or_false]), enW_cong (f := sh64 (sIns s f)) (g := fun i => sh64 s i || i == f % 64) (fun i hi => by
    show (s (i + 64) || (i + 64) == f) = (s (i + 64) || i == f % 64)
    congr 1
    rw [Bool.eq_iff_iff, beq_iff_eq, beq_iff_eq]; omega)]
theorem fs_del_lo (s : Nat → Bool) {f : Nat} (hf : f < 128) (c : ¬ nI 64 ≤ nI f) : (.inr (1, [.long (enW s &&& ((lN 1 <<< ((nI f).toInt64 &&& 63)) ^^^ (-1))), .long (enW (sh64 s))]) : va_E) = fsS (sDel s f) := by
  have h64 : f < 64 := Nat.lt_of_not_le fun h => c (nI_le h (by omega))
  rw [enW_bit hf, enW_not, enW_and, Nat.mod_eq_of_lt h64]
  show (Sum.inr (1, [Value.long _, Value.long (enW (sh64 s))]) : va_E) = Sum.inr (1, [.long (enW (sDel s f)), .long (enW (sh64 (sDel s f)))])
  rw [enW_cong (f := sh64 (sDel s f)) (g := sh64 s) (fun i _ => by
    show (s (i + 64) && !((i + 64) == f)) = s (i + 64)
    rw [show ((i + 64) == f) = false by simp; omega, Bool.not_false, Bool.and_true])]
  rfl
theorem fs_del_up (s : Nat → Bool) {f : Nat} (hf : f < 128) (c : nI 64 ≤ nI f) : (.inr (1, [.long (enW s), .long (enW (sh64 s) &&& ((lN 1 <<< ((nI f).toInt64 &&& 63)) ^^^ (-1)))]) : va_E) = fsS (sDel s f) := by
  have h64 : 64 ≤ f := Nat.le_of_not_lt fun h => nI_ge h (by omega) c
  rw [enW_bit hf, enW_not, enW_and]
  show (Sum.inr (1, [Value.long (enW s), Value.long _]) : va_E) = Sum.inr (1, [.long (enW (sDel s f)), .long (enW (sh64 (sDel s f)))])
  rw [enW_cong (f := sDel s f) (g := s) (fun i hi => by
    show (s i && !(i == f)) = s i
    rw [show (i == f) = false by simp; omega, Bool.not_false, Bool.and_true]), enW_cong (f := sh64 (sDel s f)) (g := fun i => sh64 s i && !(i == f % 64)) (fun i hi => by
    show (s (i + 64) && !((i + 64) == f)) = (s (i + 64) && !(i == f % 64))
    congr 2
    rw [Bool.eq_iff_iff, beq_iff_eq, beq_iff_eq]; omega)]
theorem hS {Q : eQ} {o : eO} {b : Bool} {l : List va_E} {k : Nat} {x y : va_E} (e : x = y) (h : Q o (b, l.set k y)) : Q o (b, l.set k x) := by rw [e]; exact h
set_option maxRecDepth 10000 in
/-- FaceSet.add -/
theorem kX1_add {S : Nat × (Nat → Int32)} {d : Nat} {h : eH} {Q : eQ} {k : Nat} {s : Nat → Bool} {f : Nat} (hf : f < 128) (hk : h.2[k]? = some (fsS s)) (hQ : Q (.inl none) (h.1, h.2.set k (fsS (sIns s f)))) : okCall S MT (d + 1) nX1_add [.ref (k + 1), .int (nI f)] h Q := by
  refine okc (M := MX1_add) rfl rfl fun K hK hW => ?_
  show K 0 [(0, .ref (k + 1)), (1, .int (nI f))] [] h 0 0
  iterate 2 refine hK _ _ _ _ _ _ (?_ : K _ _ _ _ _ _)
  refine hK _ _ _ _ _ _ (And.intro (fun c1 => ?_) (fun c1 => ?_))
  · skip
    iterate 2 refine hK _ _ _ _ _ _ (?_ : K _ _ _ _ _ _)
    refine hK _ _ _ _ _ _ (r_get rfl (by assumption) rfl (?_ : K _ _ _ _ _ _))
    iterate 4 refine hK _ _ _ _ _ _ (?_ : K _ _ _ _ _ _)
    refine hK _ _ _ _ _ _ (r_put rfl rfl (by assumption) rfl (?_ : K _ _ _ _ _ _))
    exact hK _ _ _ _ _ _ (r_vret rfl rfl rfl (hS (fs_ins_up s hf c1) hQ))
  · skip
    iterate 2 refine hK _ _ _ _ _ _ (?_ : K _ _ _ _ _ _)
    refine hK _ _ _ _ _ _ (r_get rfl (by assumption) rfl (?_ : K _ _ _ _ _ _))
    iterate 4 refine hK _ _ _ _ _ _ (?_ : K _ _ _ _ _ _)
    refine hK _ _ _ _ _ _ (r_put rfl rfl (by assumption) rfl (?_ : K _ _ _ _ _ _))
    iterate 1 refine hK _ _ _ _ _ _ (?_ : K _ _ _ _ _ _)
    exact hK _ _ _ _ _ _ (r_vret rfl rfl rfl (hS (fs_ins_lo s hf c1) hQ))

set_option maxRecDepth 10000 in
/-- FaceSet.remove -/
theorem kX1_remove {S : Nat × (Nat → Int32)} {d : Nat} {h : eH} {Q : eQ} {k : Nat} {s : Nat → Bool} {f : Nat} (hf : f < 128) (hk : h.2[k]? = some (fsS s)) (hQ : Q (.inl none) (h.1, h.2.set k (fsS (sDel s f)))) : okCall S MT (d + 1) nX1_remove [.ref (k + 1), .int (nI f)] h Q := by
  refine okc (M := MX1_remove) rfl rfl fun K hK hW => ?_
  show K 0 [(0, .ref (k + 1)), (1, .int (nI f))] [] h 0 0
  iterate 2 refine hK _ _ _ _ _ _ (?_ : K _ _ _ _ _ _)
  refine hK _ _ _ _ _ _ (And.intro (fun c1 => ?_) (fun c1 => ?_))
  · skip
    iterate 2 refine hK _ _ _ _ _ _ (?_ : K _ _ _ _ _ _)
    refine hK _ _ _ _ _ _ (r_get rfl (by assumption) rfl (?_ : K _ _ _ _ _ _))
    iterate 6 refine hK _ _ _ _ _ _ (?_ : K _ _ _ _ _ _)
    refine hK _ _ _ _ _ _ (r_put rfl rfl (by assumption) rfl (?_ : K _ _ _ _ _ _))
    exact hK _ _ _ _ _ _ (r_vret rfl rfl rfl (hS (fs_del_up s hf c1) hQ))
  · skip
    iterate 2 refine hK _ _ _ _ _ _ (?_ : K _ _ _ _ _ _)
    refine hK _ _ _ _ _ _ (r_get rfl (by assumption) rfl (?_ : K _ _ _ _ _ _))
    iterate 6 refine hK _ _ _ _ _ _ (?_ : K _ _ _ _ _ _)
    refine hK _ _ _ _ _ _ (r_put rfl rfl (by assumption) rfl (?_ : K _ _ _ _ _ _))
    iterate 1 refine hK _ _ _ _ _ _ (?_ : K _ _ _ _ _ _)
    exact hK _ _ _ _ _ _ (r_vret rfl rfl rfl (hS (fs_del_lo s hf c1) hQ))

theorem fb_128 (s : Nat → Bool) : fb_ct s 64 + fb_ct (sh64 s) 64 = fb_ct s 128 := by
  have h := fb_ct_split s 64 64
  rw [show fb_ct s 128 = fb_ct s (64 + 64) from rfl, h, fb_ct_cong (p := sh64 s) (q := fun k => s (64 + k)) (fun i _ => by show s (i + 64) = s (64 + i); rw [Nat.add_comm])]
def ht (f : Nat) : Nat := pc f - 1
theorem ht_ok : ∀ f, f < 128 → 1 ≤ f → nI (pc f) - nI 1 = nI (ht f) := by decide +kernel
theorem ht_lt : ∀ f, f < 128 → ht f < 7 := by decide +kernel
/-- of the faces from 1 on -/
def cF (p : Nat → Bool) (n : Nat) : Nat := fb_ct (fun i => decide (0 < i) && p i) n
theorem cF_1 (p : Nat → Bool) : cF p 1 = 0 := rfl
theorem cF_t {p : Nat → Bool} {n : Nat} (h0 : 0 < n) (h : p n = true) : nI (cF p n) + nI 1 = nI (cF p (n + 1)) := by
  rw [nI_add]
  show _ = nI (fb_ct _ n + if (decide (0 < n) && p n) then 1 else 0)
  rw [decide_eq_true h0, h]; rfl
theorem cF_f {p : Nat → Bool} {n : Nat} (h : p n = false) : cF p (n + 1) = cF p n := by
  show fb_ct _ n + (if (decide (0 < n) && p n) then 1 else 0) = _
  rw [h, Bool.and_false]; rfl
set_option maxRecDepth 10000 in
/-- Integer.bitCount of a face -/
theorem kJ6_bitCount_0f7a4 {S : Nat × (Nat → Int32)} {d : Nat} {h : eH} {Q : eQ} {f : Nat} (hf : f < 128) (hQ : Q (.inl (some (.int (nI (pc f))))) h) : okCall S MT (d + 1) nJ6_bitCount_0f7a4 [.int (nI f)] h Q := by
  refine okc (M := MJ6_bitCount_0f7a4) rfl rfl fun K hK hW => ?_
  show K 0 [(0, .int (nI f))] [] h 0 0
  iterate 41 refine hK _ _ _ _ _ _ (?_ : K _ _ _ _ _ _)
  exact hK _ _ _ _ _ _ (r_iret rfl rfl rfl rfl (show Q (.inl (some (.int (popI (nI f))))) h by rw [popI_ok f hf]; exact hQ))

set_option maxRecDepth 10000 in
/-- Long.bitCount -/
theorem kJ13_bitCount_95d88 {S : Nat × (Nat → Int32)} {d : Nat} {h : eH} {Q : eQ} {s : Nat → Bool} (hQ : Q (.inl (some (.int (nI (fb_ct s 64))))) h) : okCall S MT (d + 1) nJ13_bitCount_95d88 [.long (enW s)] h Q := by
  refine okc (M := MJ13_bitCount_95d88) rfl rfl fun K hK hW => ?_
  show K 0 [(0, .long (enW s))] [] h 0 0
  iterate 48 refine hK _ _ _ _ _ _ (?_ : K _ _ _ _ _ _)
  exact hK _ _ _ _ _ _ (r_iret rfl rfl rfl rfl (show Q (.inl (some (.int (popL (enW s))))) h by rw [popL_ok]; exact hQ))

set_option maxRecDepth 10000 in
/-- Holeworks.heightOf -/
theorem kX6_heightOf {S : Nat × (Nat → Int32)} {d : Nat} {h : eH} {Q : eQ} {f : Nat} (hf : f < 128) (hf1 : 1 ≤ f) (hQ : Q (.inl (some (.int (nI (ht f))))) h) : okCall S MT (d + 2) nX6_heightOf [.int (nI f)] h Q := by
  refine okc (M := MX6_heightOf) rfl rfl fun K hK hW => ?_
  show K 0 [(0, .int (nI f))] [] h 0 0
  iterate 1 refine hK _ _ _ _ _ _ (?_ : K _ _ _ _ _ _)
  refine hK _ _ _ _ _ _ (r_callS rfl (fun _ => rfl) (b0 rfl rfl rfl) (kJ6_bitCount_0f7a4 hf (?_ : K _ _ _ _ _ _)))
  iterate 2 refine hK _ _ _ _ _ _ (?_ : K _ _ _ _ _ _)
  exact hK _ _ _ _ _ _ (r_iret rfl rfl rfl rfl (by rw [ht_ok f hf hf1]; exact hQ))

set_option maxRecDepth 10000 in
/-- FaceSet.count -/
theorem kX1_count {S : Nat × (Nat → Int32)} {d : Nat} {h : eH} {Q : eQ} {k : Nat} {s : Nat → Bool} (hk : h.2[k]? = some (fsS s)) (hQ : Q (.inl (some (.int (nI (fb_ct s 128))))) h) : okCall S MT (d + 2) nX1_count [.ref (k + 1)] h Q := by
  refine okc (M := MX1_count) rfl rfl fun K hK hW => ?_
  show K 0 [(0, .ref (k + 1))] [] h 0 0
  iterate 1 refine hK _ _ _ _ _ _ (?_ : K _ _ _ _ _ _)
  refine hK _ _ _ _ _ _ (r_get rfl (by assumption) rfl (?_ : K _ _ _ _ _ _))
  refine hK _ _ _ _ _ _ (r_callS rfl (fun _ => rfl) (b0 rfl rfl rfl) (kJ13_bitCount_95d88 (?_ : K _ _ _ _ _ _)))
  iterate 1 refine hK _ _ _ _ _ _ (?_ : K _ _ _ _ _ _)
  refine hK _ _ _ _ _ _ (r_get rfl (by assumption) rfl (?_ : K _ _ _ _ _ _))
  refine hK _ _ _ _ _ _ (r_callS rfl (fun _ => rfl) (b0 rfl rfl rfl) (kJ13_bitCount_95d88 (?_ : K _ _ _ _ _ _)))
  iterate 1 refine hK _ _ _ _ _ _ (?_ : K _ _ _ _ _ _)
  exact hK _ _ _ _ _ _ (r_iret rfl rfl rfl rfl (by rw [nI_add, fb_128]; exact hQ))

set_option maxRecDepth 10000 in
/-- FaceSet.countAt -/
theorem kX1_countAt {S : Nat × (Nat → Int32)} {d : Nat} {h : eH} {Q : eQ} {q t : Nat} {s : Nat → Bool} (ht7 : t < 128) (hk0 : h.2[q]? = some (fsS s)) (hQ : Q (.inl (some (.int (nI (cF (fun i => decide (ht i = t) && s i) 128))))) h) : okCall S MT (d + 3) nX1_countAt [.ref (q + 1), .int (nI t)] h Q := by
  refine okc (M := MX1_countAt) rfl rfl fun K hK hW => ?_
  show K 0 [(0, .ref (q + 1)), (1, .int (nI t))] [] h 0 0
  iterate 6 refine hK _ _ _ _ _ _ (?_ : K _ _ _ _ _ _)
  refine hW _ _ [(3, .int (nI (1))), (2, .int (nI (cF (fun i => decide (ht i = t) && s i) (1)))), (0, .ref (q + 1)), (1, .int (nI t))] _ _ _ _ (by simp [cF_1]) ?_
  refine up (P := fun k => K 7 [(3, .int (nI (k))), (2, .int (nI (cF (fun i => decide (ht i = t) && s i) (k)))), (0, .ref (q + 1)), (1, .int (nI t))] [.int (nI 127), .int (nI (k))] h 0 0) 128 1 ?_ ?_ (by decide)
  · skip
    refine hK _ _ _ _ _ _ (And.intro (fun _ => ?_) (fun c9 => absurd (nI_lt (by decide) (by decide)) c9))
    iterate 1 refine hK _ _ _ _ _ _ (?_ : K _ _ _ _ _ _)
    exact hK _ _ _ _ _ _ (r_iret rfl rfl rfl rfl hQ)
  · intro k h0k hk ihk
    refine hK _ _ _ _ _ _ (And.intro (fun c9 => absurd c9 (nI_nlt (by omega) (by omega))) (fun _ => ?_))
    iterate 1 refine hK _ _ _ _ _ _ (?_ : K _ _ _ _ _ _)
    refine hK _ _ _ _ _ _ (r_callN rfl (fun _ => rfl) (b0 rfl rfl rfl) (kX6_heightOf (f := k) (by omega) (by omega) (?_ : K _ _ _ _ _ _)))
    iterate 1 refine hK _ _ _ _ _ _ (?_ : K _ _ _ _ _ _)
    refine hK _ _ _ _ _ _ (And.intro (fun c1 => ?_) (fun c1 => ?_))
    · skip
      iterate 2 refine hK _ _ _ _ _ _ (?_ : K _ _ _ _ _ _)
      refine hK _ _ _ _ _ _ (r_callV rfl (fun _ => rfl) (by assumption) (b0 rfl rfl rfl) (kX1_holds (f := k) (by omega) hk0 (?_ : K _ _ _ _ _ _)))
      refine hK _ _ _ _ _ _ (And.intro (fun c2 => ?_) (fun c2 => ?_))
      · skip
        iterate 4 refine hK _ _ _ _ _ _ (?_ : K _ _ _ _ _ _)
        have e2 : s k = false := b2i_0.mp c2
        rw [cF_f (p := (fun i => decide (ht i = t) && s i)) (by simp [e2])] at ihk
        rw [nI_add k 1]
        first | exact ihk | exact hW _ _ _ _ _ _ _ (by simp) ihk
      · skip
        iterate 5 refine hK _ _ _ _ _ _ (?_ : K _ _ _ _ _ _)
        have e1 : ht k = t := (nI_eq (by have := ht_lt k (by omega); omega) (by omega)).mp c1
        have e2 : s k = true := Bool.of_not_eq_false (fun e => c2 (b2i_0.mpr e))
        rw [nI_add k 1, cF_t (p := (fun i => decide (ht i = t) && s i)) (by omega) (by simp [e1, e2])]
        first | exact ihk | exact hW _ _ _ _ _ _ _ (by simp) ihk
    · skip
      iterate 4 refine hK _ _ _ _ _ _ (?_ : K _ _ _ _ _ _)
      have e1 : ¬ ht k = t := fun e => c1 (by rw [e])
      rw [cF_f (p := (fun i => decide (ht i = t) && s i)) (by simp [e1])] at ihk
      rw [nI_add k 1]
      first | exact ihk | exact hW _ _ _ _ _ _ _ (by simp) ihk

end FS
