section CO
/-! constructors -/
section R7
variable {S : Nat × (Nat → Int32)} {T : Nat → eM} {C : eC} {M : eM} {d : Nat} {Q : eQ} {K : eK} {pc n a b c : Nat} {ls : eL} {st r : List Value} {h : eH} {kc ks : Nat}
theorem r_new {x : Nat} (hat : eAt (mPr M) pc = some (.new x, n, a, b, 0)) (hf : h.1 = true) (h1 : Nat.ble (kc + 1) (mCo M).1 = true) (h2 : Nat.ble (ks + (eNew a).length) (mCo M).2 = true) (kk : K n ls (.ref (h.2.length + 1) :: st) (h.1, h.2 ++ [.inr (a, eNew a)]) (kc + 1) (ks + (eNew a).length)) : eStep S T C M d Q K pc ls st h kc ks := by
  unfold eStep; rw [hat]; exact ⟨⟨hf, Nat.le_of_ble_eq_true h1, Nat.le_of_ble_eq_true h2⟩, kk⟩
theorem r_newa {j : Nat} {i : Instr} {x : ArrayType} (hi : i = .newarray x) (hat : eAt (mPr M) pc = some (i, n, a, b, c)) (hf : h.1 = true) (hj : j ≤ 1000) (h1 : Nat.ble (kc + 1) (mCo M).1 = true) (h2 : Nat.ble (ks + j) (mCo M).2 = true) (kk : K n ls (.ref (h.2.length + 1) :: r) (h.1, h.2 ++ [eArr a j]) (kc + 1) (ks + j)) : eStep S T C M d Q K pc ls (.int (nI j) :: r) h kc ks := by
  subst hi
  unfold eStep; rw [hat]
  have e : (nI j).toNatClampNeg = j := nI_clamp (by omega)
  show (h.1 = true ∧ ¬ nI j < 0 ∧ (nI j).toNatClampNeg ≤ 1000 ∧ kc + 1 ≤ (mCo M).1 ∧ ks + (nI j).toNatClampNeg ≤ (mCo M).2) ∧ K n ls (.ref (h.2.length + 1) :: r) (h.1, h.2 ++ [eArr a (nI j).toNatClampNeg]) (kc + 1) (ks + (nI j).toNatClampNeg)
  rw [e]
  exact ⟨⟨hf, nI_pos (by omega), hj, Nat.le_of_ble_eq_true h1, Nat.le_of_ble_eq_true h2⟩, kk⟩
theorem r_newq {j x : Nat} (hat : eAt (mPr M) pc = some (.anewarray x, n, a, b, c)) (hf : h.1 = true) (hj : j ≤ 1000) (h1 : Nat.ble (kc + 1) (mCo M).1 = true) (h2 : Nat.ble (ks + j) (mCo M).2 = true) (kk : K n ls (.ref (h.2.length + 1) :: r) (h.1, h.2 ++ [eArr 4 j]) (kc + 1) (ks + j)) : eStep S T C M d Q K pc ls (.int (nI j) :: r) h kc ks := by
  unfold eStep; rw [hat]
  have e : (nI j).toNatClampNeg = j := nI_clamp (by omega)
  show (h.1 = true ∧ ¬ nI j < 0 ∧ (nI j).toNatClampNeg ≤ 1000 ∧ kc + 1 ≤ (mCo M).1 ∧ ks + (nI j).toNatClampNeg ≤ (mCo M).2) ∧ K n ls (.ref (h.2.length + 1) :: r) (h.1, h.2 ++ [eArr 4 (nI j).toNatClampNeg]) (kc + 1) (ks + (nI j).toNatClampNeg)
  rw [e]
  exact ⟨⟨hf, nI_pos (by omega), hj, Nat.le_of_ble_eq_true h1, Nat.le_of_ble_eq_true h2⟩, kk⟩
theorem r_aast {q z N : Nat} {f : Nat → Option Nat} {fs : List Value} {j : Int32} {o : va_E} (hat : eAt (mPr M) pc = some (.aastore, n, a, b, c)) (hk : h.2[q]? = some (.inl (4, N, .inr (.inr (.inr (.inr f)))))) (hj : vp_in j N) (hz : h.2[z]? = some (.inr (1, fs))) (ho : (.inl (4, N, .inr (.inr (.inr (.inr (va_up f j.toNatClampNeg (some (z + 1))))))) : va_E) = o) (kk : K n ls r (h.1, h.2.set q o) kc ks) : eStep S T C M d Q K pc ls (.ref (z + 1) :: .int j :: .ref (q + 1) :: r) h kc ks := by
  subst ho
  unfold eStep; rw [hat]; exact ⟨N, f, fs, hk, hj, hz, kk⟩
end R7
theorem fs_00 : (.inr (1, [.long 0, .long 0]) : va_E) = fsS no9 := by
  have e1 : enW no9 = 0 := by decide +kernel
  have e2 : enW (sh64 no9) = 0 := by decide +kernel
  show _ = (.inr (1, [.long (enW no9), .long (enW (sh64 no9))]) : va_E)
  first | rw [e1, e2] | rw [e1]
def nsF (t f : Nat) : Nat → Int32 := fun j => if 1 ≤ j ∧ j < 128 ∧ (ht j < t ∨ (ht j = t ∧ j < f)) then nI (sl j) else 0
def slC (t f : Nat) : Nat := fb_ct (fun g => decide (0 < g) && ht g == t) f
theorem nsF_0 : nsF 0 1 = fun _ => 0 := by
  funext j
  exact if_neg (by omega)
theorem nsF_n {t : Nat} : nsF t 128 = nsF (t + 1) 1 := by
  funext j
  unfold nsF
  by_cases h : 1 ≤ j ∧ j < 128 ∧ (ht j < t ∨ (ht j = t ∧ j < 128))
  · rw [if_pos h, if_pos ⟨h.1, h.2.1, by omega⟩]
  · rw [if_neg h, if_neg (fun h2 => h ⟨h2.1, h2.2.1, by omega⟩)]
theorem nsF_t {t k : Nat} (h1 : 1 ≤ k) (hk : k < 128) (h : ht k = t) : upd (nsF t k) (nI k).toNatClampNeg (nI (slC t k)) = nsF t (k + 1) := by
  rw [nI_clamp (by omega)]
  funext j
  show (if j = k then nI (slC t k) else nsF t k j) = _
  unfold nsF
  by_cases e : j = k
  · subst e
    subst h
    rw [if_pos rfl, if_pos ⟨h1, hk, Or.inr ⟨rfl, Nat.lt_succ_self j⟩⟩]
    rfl
  · rw [if_neg e]
    by_cases h2 : 1 ≤ j ∧ j < 128 ∧ (ht j < t ∨ (ht j = t ∧ j < k))
    · rw [if_pos h2, if_pos ⟨h2.1, h2.2.1, by omega⟩]
    · rw [if_neg h2, if_neg (fun h3 => h2 ⟨h3.1, h3.2.1, by omega⟩)]
theorem nsF_f {t k : Nat} (h : ht k ≠ t) : nsF t (k + 1) = nsF t k := by
  funext j
  unfold nsF
  by_cases e : j = k
  · subst e
    by_cases h2 : 1 ≤ j ∧ j < 128 ∧ (ht j < t ∨ (ht j = t ∧ j < j + 1))
    · rw [if_pos h2, if_pos ⟨h2.1, h2.2.1, by omega⟩]
    · rw [if_neg h2, if_neg (fun h3 => h2 ⟨h3.1, h3.2.1, by omega⟩)]
  · by_cases h2 : 1 ≤ j ∧ j < 128 ∧ (ht j < t ∨ (ht j = t ∧ j < k))
    · rw [if_pos h2, if_pos ⟨h2.1, h2.2.1, by omega⟩]
    · rw [if_neg h2, if_neg (fun h3 => h2 ⟨h3.1, h3.2.1, by omega⟩)]
theorem nsF_7 : nsF 7 1 = slF := by
  funext j
  unfold nsF slF
  by_cases h : j < 128
  · rw [decide_eq_true h]
    by_cases h0 : j = 0
    · subst h0; rw [if_neg (by omega)]; rfl
    · rw [if_pos ⟨by omega, h, Or.inl (ht_7 h)⟩]; rfl
  · rw [decide_eq_false h, if_neg (by omega)]; rfl
theorem slC_t {t k : Nat} (h0 : 0 < k) (h : ht k = t) : slC t (k + 1) = slC t k + 1 := by
  show _ + (if (decide (0 < k) && ht k == t) then 1 else 0) = _
  rw [decide_eq_true h0, h, beq_self_eq_true]; rfl
theorem slC_f {t k : Nat} (h : ht k ≠ t) : slC t (k + 1) = slC t k := by
  show _ + (if (decide (0 < k) && ht k == t) then 1 else 0) = _
  rw [beq_eq_false_iff_ne.mpr h, Bool.and_false]; rfl
set_option maxRecDepth 10000 in
/-- Borders.numberSlots -/
theorem kX0_numberSlots {S : Nat × (Nat → Int32)} {d : Nat} {h : eH} {Q : eQ} {q a b c : Nat} (hB : h.2[q]? = some (boO a b c)) (hA : h.2[a]? = some (.inl (0, 128, .inl (fun _ => 0)))) (haq : a ≠ q) (hQ : Q (.inl none) (h.1, h.2.set a slA)) : okCall S MT (d + 3) nX0_numberSlots [.ref (q + 1)] h Q := by
  refine okc (M := MX0_numberSlots) rfl rfl fun K hK hW => ?_
  show K 0 [(0, .ref (q + 1))] [] h 0 0
  iterate 2 refine hK _ _ _ _ _ _ (?_ : K _ _ _ _ _ _)
  have e0 : (h.1, h.2.set a (.inl (0, 128, .inl (nsF 0 1)))) = h := by rw [nsF_0, gq hA]
  rw [← e0]
  refine hW _ _ [(1, .int (nI (0))), (0, .ref (q + 1))] _ _ _ _ (by simp) ?_
  refine up (P := fun m => K 2 [(1, .int (nI (m))), (0, .ref (q + 1))] [] (h.1, h.2.set a (.inl (0, 128, .inl (nsF (m) 1)))) 0 0) 7 0 ?_ ?_ (by decide)
  · skip
    iterate 2 refine hK _ _ _ _ _ _ (?_ : K _ _ _ _ _ _)
    refine hK _ _ _ _ _ _ (And.intro (fun _ => ?_) (fun c9 => absurd (nI_le (Nat.le_refl 7) (by decide)) c9))
    have e1 : ((h.1, h.2.set a (.inl (0, 128, .inl (nsF 7 1)))) : eH) = (h.1, h.2.set a slA) := by rw [nsF_7]
    rw [e1]
    exact hK _ _ _ _ _ _ (r_vret rfl rfl rfl hQ)
  · intro m h0m hm ihm
    iterate 2 refine hK _ _ _ _ _ _ (?_ : K _ _ _ _ _ _)
    refine hK _ _ _ _ _ _ (And.intro (fun c9 => absurd c9 (nI_ge (by omega) (by decide))) (fun _ => ?_))
    iterate 4 refine hK _ _ _ _ _ _ (?_ : K _ _ _ _ _ _)
    refine hW _ _ [(3, .int (nI (1))), (2, .int (nI (slC m (1)))), (0, .ref (q + 1)), (1, .int (nI m))] _ _ _ _ (by simp [show slC m 1 = 0 from rfl]) ?_
    refine up (P := fun k => K 12 [(3, .int (nI (k))), (2, .int (nI (slC m (k)))), (0, .ref (q + 1)), (1, .int (nI m))] [] (h.1, h.2.set a (.inl (0, 128, .inl (nsF m (k))))) 0 0) 128 1 ?_ ?_ (by decide)
    · skip
      iterate 2 refine hK _ _ _ _ _ _ (?_ : K _ _ _ _ _ _)
      refine hK _ _ _ _ _ _ (And.intro (fun _ => ?_) (fun c9 => absurd (nI_lt (show 127 < 128 by decide) (by decide)) c9))
      iterate 2 refine hK _ _ _ _ _ _ (?_ : K _ _ _ _ _ _)
      rw [nsF_n, nI_add m 1]
      first | exact ihm | exact hW _ _ _ _ _ _ _ (by simp) ihm
    · intro k h0k hk ihk
      iterate 2 refine hK _ _ _ _ _ _ (?_ : K _ _ _ _ _ _)
      refine hK _ _ _ _ _ _ (And.intro (fun c9 => absurd c9 (nI_nlt (show k ≤ 127 by omega) (by decide))) (fun _ => ?_))
      iterate 1 refine hK _ _ _ _ _ _ (?_ : K _ _ _ _ _ _)
      refine hK _ _ _ _ _ _ (r_callN rfl (fun _ => rfl) (b0 rfl rfl rfl) (kX6_heightOf (f := k) (by omega) (by omega) (?_ : K _ _ _ _ _ _)))
      iterate 1 refine hK _ _ _ _ _ _ (?_ : K _ _ _ _ _ _)
      refine hK _ _ _ _ _ _ (And.intro (fun c1 => ?_) (fun c1 => ?_))
      · skip
        have heq : ht k = m := (nI_eq (by have := ht_7 (show k < 128 by omega); omega) (by omega)).mp c1
        iterate 1 refine hK _ _ _ _ _ _ (?_ : K _ _ _ _ _ _)
        refine hK _ _ _ _ _ _ (r_get rfl (gn haq hB) rfl (?_ : K _ _ _ _ _ _))
        iterate 2 refine hK _ _ _ _ _ _ (?_ : K _ _ _ _ _ _)
        refine hK _ _ _ _ _ _ (r_iast' rfl (N := 128) (f := nsF m k) (gs hA) (vp_in_nI (by omega) (by decide)) (show (.inl (0, 128, .inl _) : va_E) = .inl (0, 128, .inl (nsF m (k + 1))) by rw [nsF_t (by omega) (by omega) heq]) (?_ : K _ _ _ _ _ _))
        dsimp only
        rw [List.set_set]
        iterate 3 refine hK _ _ _ _ _ _ (?_ : K _ _ _ _ _ _)
        have e1 := slC_t (t := m) (show 0 < k by omega) heq
        rw [e1] at ihk
        rw [nI_add k 1, nI_add (slC m k) 1]
        first | exact ihk | exact hW _ _ _ _ _ _ _ (by simp) ihk
      · skip
        have hne : ht k ≠ m := fun c9 => c1 (by rw [c9])
        iterate 2 refine hK _ _ _ _ _ _ (?_ : K _ _ _ _ _ _)
        have e1 := slC_f (t := m) hne
        rw [e1, nsF_f hne] at ihk
        rw [nI_add k 1]
        first | exact ihk | exact hW _ _ _ _ _ _ _ (by simp) ihk

def bby (i : Nat) : Nat → Nat
  | 0 => 0
  | k + 1 => bby i k ||| (bif i.testBit k && !(i - 2 ^ k == 0) then 2 ^ sl (i - 2 ^ k) else 0)
theorem bby_t {i k : Nat} (h1 : i.testBit k = true) (h2 : i - 2 ^ k ≠ 0) : bby i (k + 1) = bby i k ||| 2 ^ sl (i - 2 ^ k) := by
  show _ ||| (bif i.testBit k && !(i - 2 ^ k == 0) then _ else 0) = _
  rw [h1, beq_eq_false_iff_ne.mpr h2]; rfl
theorem bby_f {i k : Nat} (h : i.testBit k = false ∨ i - 2 ^ k = 0) : bby i (k + 1) = bby i k := by
  show _ ||| (bif i.testBit k && !(i - 2 ^ k == 0) then _ else 0) = _
  rcases h with h | h
  · rw [h]; exact Nat.or_zero _
  · rw [h, show ((0 : Nat) == 0) = true from rfl, Bool.not_true, Bool.and_false]; exact Nat.or_zero _
theorem bby_ok : ∀ i, i < 128 → bby i 7 = bif decide (2 ≤ pc i) then bb i else 0 := by decide +kernel
theorem bdF_y {i : Nat} (h : i < 128) : lN (bby i 7) = bdF i := by
  rw [bby_ok i h]
  unfold bdF
  rw [decide_eq_true h, Bool.true_and]
  cases decide (2 ≤ pc i) <;> rfl
theorem bic_i {i k : Nat} (hi : i < 128) (hk : k < 7) : nI i &&& ((nI 1 <<< (nI k &&& 31)) ^^^ (-1)) = nI (bif i.testBit k then i - 2 ^ k else i) := by
  rw [sh1 k hk, nI_bic i hi _ (pw_128 k hk), bic_pw k hk i hi]
theorem bz_c {i k : Nat} (hi : i < 128) (c : nI (bif i.testBit k then i - 2 ^ k else i) = nI i) : i.testBit k = false := by
  cases hb : i.testBit k with
  | false => rfl
  | true =>
    rw [hb] at c
    have h1 : i - 2 ^ k = i := (nI_eq (Nat.lt_of_le_of_lt (Nat.sub_le _ _) (by omega)) (by omega)).mp c
    have := bit_le hb
    have := Nat.two_pow_pos k
    omega
theorem bz_t {i k : Nat} (c : ¬ nI (bif i.testBit k then i - 2 ^ k else i) = nI i) : i.testBit k = true := by
  cases hb : i.testBit k with
  | true => rfl
  | false => rw [hb] at c; exact absurd rfl c
set_option maxRecDepth 10000 in
/-- Borders.bitsOfBorder -/
theorem kX0_bitsOfBorder {S : Nat × (Nat → Int32)} {d : Nat} {h : eH} {Q : eQ} {q a b c : Nat} (hB : h.2[q]? = some (boO a b c)) (hA : h.2[a]? = some slA) {i : Nat} (hi : i < 128) (hQ : Q (.inl (some (.long (bdF i)))) h) : okCall S MT (d + 1) nX0_bitsOfBorder [.ref (q + 1), .int (nI i)] h Q := by
  refine okc (M := MX0_bitsOfBorder) rfl rfl fun K hK hW => ?_
  show K 0 [(0, .ref (q + 1)), (1, .int (nI i))] [] h 0 0
  iterate 4 refine hK _ _ _ _ _ _ (?_ : K _ _ _ _ _ _)
  refine hW _ _ [(4, .int (nI (0))), (2, .long (lN (bby i (0)))), (0, .ref (q + 1)), (1, .int (nI i))] _ _ _ _ (by simp [show bby i 0 = 0 from rfl]) ?_
  refine up (P := fun k => K 5 [(4, .int (nI (k))), (2, .long (lN (bby i (k)))), (0, .ref (q + 1)), (1, .int (nI i))] [] h 0 0) 7 0 ?_ ?_ (by decide)
  · skip
    iterate 2 refine hK _ _ _ _ _ _ (?_ : K _ _ _ _ _ _)
    refine hK _ _ _ _ _ _ (And.intro (fun _ => ?_) (fun c9 => absurd (nI_le (Nat.le_refl 7) (by decide)) c9))
    iterate 1 refine hK _ _ _ _ _ _ (?_ : K _ _ _ _ _ _)
    rw [bdF_y hi]
    exact hK _ _ _ _ _ _ (r_lret rfl rfl rfl hQ)
  · intro k h0k hk ihk
    iterate 2 refine hK _ _ _ _ _ _ (?_ : K _ _ _ _ _ _)
    refine hK _ _ _ _ _ _ (And.intro (fun c9 => absurd c9 (nI_ge (by omega) (by decide))) (fun _ => ?_))
    iterate 10 refine hK _ _ _ _ _ _ (?_ : K _ _ _ _ _ _)
    refine hK _ _ _ _ _ _ (And.intro (fun c1 => ?_) (fun c1 => ?_))
    · skip
      rw [bic_i hi hk] at c1
      have hb := bz_c hi c1
      iterate 2 refine hK _ _ _ _ _ _ (?_ : K _ _ _ _ _ _)
      rw [bby_f (Or.inl hb)] at ihk
      rw [nI_add k 1]
      first | exact ihk | exact hW _ _ _ _ _ _ _ (by simp) ihk
    · skip
      rw [bic_i hi hk] at c1
      have hb := bz_t c1
      have hlt : i - 2 ^ k < 128 := Nat.lt_of_le_of_lt (Nat.sub_le _ _) hi
      rw [bic_i hi hk, hb]
      iterate 2 refine hK _ _ _ _ _ _ (?_ : K _ _ _ _ _ _)
      refine hK _ _ _ _ _ _ (And.intro (fun c2 => ?_) (fun c2 => ?_))
      · skip
        have hz : i - 2 ^ k = 0 := by
          by_cases c9 : i - 2 ^ k = 0
          · exact c9
          · exact absurd c2 (nI_nlt (show 1 ≤ i - 2 ^ k by omega) (Nat.lt_of_le_of_lt (Nat.sub_le _ _) (by omega)))
        iterate 2 refine hK _ _ _ _ _ _ (?_ : K _ _ _ _ _ _)
        rw [bby_f (Or.inr hz)] at ihk
        rw [nI_add k 1]
        first | exact ihk | exact hW _ _ _ _ _ _ _ (by simp) ihk
      · skip
        have hz : i - 2 ^ k ≠ 0 := fun c9 => c2 (by show nI (i - 2 ^ k) < nI 1; rw [c9]; exact nI_lt (by decide) (by decide))
        iterate 2 refine hK _ _ _ _ _ _ (?_ : K _ _ _ _ _ _)
        refine hK _ _ _ _ _ _ (And.intro (fun c9 => absurd c9 (nI_nlt (show i - 2 ^ k ≤ 127 by omega) (by decide))) (fun _ => ?_))
        iterate 3 refine hK _ _ _ _ _ _ (?_ : K _ _ _ _ _ _)
        refine hK _ _ _ _ _ _ (r_get rfl hB rfl (?_ : K _ _ _ _ _ _))
        iterate 1 refine hK _ _ _ _ _ _ (?_ : K _ _ _ _ _ _)
        refine hK _ _ _ _ _ _ (r_iald' (v := nI (sl (i - 2 ^ k))) rfl (N := 128) (f := slF) hA (vp_in_nI hlt (by decide)) (slF_at hlt) (?_ : K _ _ _ _ _ _))
        iterate 5 refine hK _ _ _ _ _ _ (?_ : K _ _ _ _ _ _)
        rw [bby_t hb hz] at ihk
        rw [wb_shl 1 (Nat.lt_trans (sl_lt _ hlt) (by decide)), Nat.one_mul, fb_orL, nI_add k 1]
        first | exact ihk | exact hW _ _ _ _ _ _ _ (by simp) ihk

def brF (k : Nat) : Nat → Int64 := fun j => if 1 ≤ j ∧ j < k then bdF j else 0
theorem brF_1 : brF 1 = fun _ => 0 := by funext j; exact if_neg (by omega)
theorem brF_s {k : Nat} (h1 : 1 ≤ k) (hk : k < 128) : vp_updL (brF k) (nI k).toNatClampNeg (bdF k) = brF (k + 1) := by
  rw [nI_clamp (by omega)]
  funext j
  show (if j = k then bdF k else brF k j) = _
  unfold brF
  by_cases e : j = k
  · subst e; rw [if_pos rfl, if_pos ⟨h1, Nat.lt_succ_self j⟩]
  · rw [if_neg e]
    by_cases h2 : 1 ≤ j ∧ j < k
    · rw [if_pos h2, if_pos ⟨h2.1, by omega⟩]
    · rw [if_neg h2, if_neg (fun h3 => h2 ⟨h3.1, by omega⟩)]
theorem brF_e : brF 128 = bdF := by
  funext j
  unfold brF
  by_cases h : 1 ≤ j ∧ j < 128
  · rw [if_pos h]
  · rw [if_neg h]
    unfold bdF
    by_cases h0 : j = 0
    · subst h0; rfl
    · rw [decide_eq_false (show ¬ j < 128 by omega)]; rfl
set_option maxRecDepth 10000 in
/-- Borders() -/
theorem kX0_init {S : Nat × (Nat → Int32)} {d : Nat} {Q : eQ} {x0 x1 x2 x3 x4 x5 x6 x7 x8 x9 x10 : va_E} (hQ : Q (.inl none) (true, [x0, x1, x2, x3, x4, x5, x6, x7, x8, x9, x10, boO 12 13 14, slA, bdA, kpA (fun _ => 0)])) : okCall S MT (d + 5) nX0_init [.ref 12] (true, [x0, x1, x2, x3, x4, x5, x6, x7, x8, x9, x10, .inr (0, [.null, .null, .null])]) Q := by
  refine okc (M := MX0_init) rfl rfl fun K hK hW => ?_
  show K 0 [(0, .ref 12)] [] (true, [x0, x1, x2, x3, x4, x5, x6, x7, x8, x9, x10, .inr (0, [.null, .null, .null])]) 0 0
  iterate 1 refine hK _ _ _ _ _ _ (?_ : K _ _ _ _ _ _)
  refine hK _ _ _ _ _ _ (r_obj rfl rfl (by omega) (?_ : K _ _ _ _ _ _))
  iterate 2 refine hK _ _ _ _ _ _ (?_ : K _ _ _ _ _ _)
  refine hK _ _ _ _ _ _ (r_newa (j := 128) rfl rfl rfl (by decide) rfl rfl (?_ : K _ _ _ _ _ _))
  show K _ _ _ (true, [x0, x1, x2, x3, x4, x5, x6, x7, x8, x9, x10, .inr (0, [.null, .null, .null]), .inl (0, 128, .inl (fun _ => 0))]) _ _
  refine hK _ _ _ _ _ _ (r_put rfl rfl rfl rfl (?_ : K _ _ _ _ _ _))
  show K _ _ _ (true, [x0, x1, x2, x3, x4, x5, x6, x7, x8, x9, x10, .inr (0, [.ref 13, .null, .null]), .inl (0, 128, .inl (fun _ => 0))]) _ _
  iterate 2 refine hK _ _ _ _ _ _ (?_ : K _ _ _ _ _ _)
  refine hK _ _ _ _ _ _ (r_newa (j := 128) rfl rfl rfl (by decide) rfl rfl (?_ : K _ _ _ _ _ _))
  show K _ _ _ (true, [x0, x1, x2, x3, x4, x5, x6, x7, x8, x9, x10, .inr (0, [.ref 13, .null, .null]), .inl (0, 128, .inl (fun _ => 0)), .inl (2, 128, .inr (.inl (fun _ => 0)))]) _ _
  refine hK _ _ _ _ _ _ (r_put rfl rfl rfl rfl (?_ : K _ _ _ _ _ _))
  show K _ _ _ (true, [x0, x1, x2, x3, x4, x5, x6, x7, x8, x9, x10, .inr (0, [.ref 13, .ref 14, .null]), .inl (0, 128, .inl (fun _ => 0)), .inl (2, 128, .inr (.inl (fun _ => 0)))]) _ _
  iterate 2 refine hK _ _ _ _ _ _ (?_ : K _ _ _ _ _ _)
  refine hK _ _ _ _ _ _ (r_newa (j := 35) rfl rfl rfl (by decide) rfl rfl (?_ : K _ _ _ _ _ _))
  show K _ _ _ (true, [x0, x1, x2, x3, x4, x5, x6, x7, x8, x9, x10, .inr (0, [.ref 13, .ref 14, .null]), .inl (0, 128, .inl (fun _ => 0)), .inl (2, 128, .inr (.inl (fun _ => 0))), .inl (2, 35, .inr (.inl (fun _ => 0)))]) _ _
  refine hK _ _ _ _ _ _ (r_put rfl rfl rfl rfl (?_ : K _ _ _ _ _ _))
  show K _ _ _ (true, [x0, x1, x2, x3, x4, x5, x6, x7, x8, x9, x10, boO 12 13 14, .inl (0, 128, .inl (fun _ => 0)), .inl (2, 128, .inr (.inl (fun _ => 0))), .inl (2, 35, .inr (.inl (fun _ => 0)))]) _ _
  iterate 1 refine hK _ _ _ _ _ _ (?_ : K _ _ _ _ _ _)
  refine hK _ _ _ _ _ _ (r_callV rfl (fun _ => rfl) rfl (b0 rfl rfl rfl) (kX0_numberSlots (q := 11) (a := 12) (b := 13) (c := 14) rfl rfl (by decide) (?_ : K _ _ _ _ _ _)))
  show K _ _ _ (true, [x0, x1, x2, x3, x4, x5, x6, x7, x8, x9, x10, boO 12 13 14, slA, .inl (2, 128, .inr (.inl (fun _ => 0))), .inl (2, 35, .inr (.inl (fun _ => 0)))]) _ _
  iterate 2 refine hK _ _ _ _ _ _ (?_ : K _ _ _ _ _ _)
  have e0 := brF_1
  have e1 : ((true, [x0, x1, x2, x3, x4, x5, x6, x7, x8, x9, x10, boO 12 13 14, slA, .inl (2, 128, .inr (.inl (brF 1))), .inl (2, 35, .inr (.inl (fun _ => 0)))]) : eH) = (true, [x0, x1, x2, x3, x4, x5, x6, x7, x8, x9, x10, boO 12 13 14, slA, .inl (2, 128, .inr (.inl (fun _ => 0))), .inl (2, 35, .inr (.inl (fun _ => 0)))]) := by rw [e0]
  rw [← e1]
  show K _ _ _ _ 3 291
  refine hW _ _ [(1, .int (nI (1))), (0, .ref 12)] _ _ _ _ (by simp) ?_
  refine up (P := fun k => K 36 [(1, .int (nI (k))), (0, .ref 12)] [] (true, [x0, x1, x2, x3, x4, x5, x6, x7, x8, x9, x10, boO 12 13 14, slA, .inl (2, 128, .inr (.inl (brF (k)))), .inl (2, 35, .inr (.inl (fun _ => 0)))]) 3 291) 128 1 ?_ ?_ (by decide)
  · skip
    iterate 2 refine hK _ _ _ _ _ _ (?_ : K _ _ _ _ _ _)
    refine hK _ _ _ _ _ _ (And.intro (fun _ => ?_) (fun c9 => absurd (nI_lt (show 127 < 128 by decide) (by decide)) c9))
    have e2 : ((true, [x0, x1, x2, x3, x4, x5, x6, x7, x8, x9, x10, boO 12 13 14, slA, .inl (2, 128, .inr (.inl (brF 128))), .inl (2, 35, .inr (.inl (fun _ => 0)))]) : eH) = (true, [x0, x1, x2, x3, x4, x5, x6, x7, x8, x9, x10, boO 12 13 14, slA, bdA, kpA (fun _ => 0)]) := by rw [brF_e]; rfl
    rw [e2]
    exact hK _ _ _ _ _ _ (r_vret rfl rfl rfl hQ)
  · intro k h0k hk ihk
    iterate 2 refine hK _ _ _ _ _ _ (?_ : K _ _ _ _ _ _)
    refine hK _ _ _ _ _ _ (And.intro (fun c9 => absurd c9 (nI_nlt (show k ≤ 127 by omega) (by decide))) (fun _ => ?_))
    iterate 1 refine hK _ _ _ _ _ _ (?_ : K _ _ _ _ _ _)
    refine hK _ _ _ _ _ _ (r_get rfl rfl rfl (?_ : K _ _ _ _ _ _))
    iterate 3 refine hK _ _ _ _ _ _ (?_ : K _ _ _ _ _ _)
    refine hK _ _ _ _ _ _ (r_callV rfl (fun _ => rfl) rfl (b0 rfl rfl rfl) (kX0_bitsOfBorder (q := 11) (a := 12) (b := 13) (c := 14) (i := k) rfl rfl (by omega) (?_ : K _ _ _ _ _ _)))
    refine hK _ _ _ _ _ _ (r_last' rfl (N := 128) (f := brF k) rfl (vp_in_nI (by omega) (by decide)) (show (.inl (2, 128, .inr (.inl _)) : va_E) = .inl (2, 128, .inr (.inl (brF (k + 1)))) by rw [brF_s (by omega) (by omega)]) (?_ : K _ _ _ _ _ _))
    show K _ _ _ (true, [x0, x1, x2, x3, x4, x5, x6, x7, x8, x9, x10, boO 12 13 14, slA, .inl (2, 128, .inr (.inl (brF (k + 1)))), .inl (2, 35, .inr (.inl (fun _ => 0)))]) _ _
    iterate 2 refine hK _ _ _ _ _ _ (?_ : K _ _ _ _ _ _)
    rw [nI_add k 1]
    show K _ _ _ _ 3 291
    first | exact ihk | exact hW _ _ _ _ _ _ _ (by simp) ihk

theorem kX2_initG {S : Nat × (Nat → Int32)} {d : Nat} {Q : eQ} {L : List va_E} {q : Nat} (hq : L[q]? = some (.inr (2, eNew 2))) (hQ : Q (.inl none) (true, (L ++ [(.inl (0, 7, .inl (fun _ => 0)) : va_E)]).set q (hrO L.length))) : okCall S MT (d + 2) nX2_init [.ref (q + 1)] (true, L) Q := by
  have hq2 : (L ++ [(.inl (0, 7, .inl (fun _ => 0)) : va_E)])[q]? = some (.inr (2, eNew 2)) := (List.getElem?_append_left (List.getElem?_eq_some_iff.mp hq).1).trans hq
  refine okc (M := MX2_init) rfl rfl fun K hK hW => ?_
  show K 0 [(0, .ref (q + 1))] [] (true, L) 0 0
  iterate 1 refine hK _ _ _ _ _ _ (?_ : K _ _ _ _ _ _)
  refine hK _ _ _ _ _ _ (r_obj rfl rfl (by omega) (?_ : K _ _ _ _ _ _))
  iterate 2 refine hK _ _ _ _ _ _ (?_ : K _ _ _ _ _ _)
  refine hK _ _ _ _ _ _ (r_newa (j := 7) rfl rfl rfl (by decide) rfl rfl (?_ : K _ _ _ _ _ _))
  refine hK _ _ _ _ _ _ (r_put rfl rfl hq2 rfl (?_ : K _ _ _ _ _ _))
  exact hK _ _ _ _ _ _ (r_vret rfl rfl rfl hQ)
set_option maxRecDepth 10000 in
/-- Theorem() -/
theorem kX4_init {S : Nat × (Nat → Int32)} {d : Nat} {Q : eQ} {x0 x1 x2 x3 x4 x5 x6 x7 x8 x9 : va_E} (hQ : Q (.inl none) (true, [x0, x1, x2, x3, x4, x5, x6, x7, x8, x9, thO, boO 12 13 14, slA, bdA, kpA (fun _ => 0), .inr (1, [.long 0, .long 0]), .inr (1, [.long 0, .long 0]), hrO 18, .inl (0, 7, .inl (fun _ => 0)), hrO 20, .inl (0, 7, .inl (fun _ => 0)), hrO 22, .inl (0, 7, .inl (fun _ => 0))])) : okCall S MT (d + 6) nX4_init [.ref 11] (true, [x0, x1, x2, x3, x4, x5, x6, x7, x8, x9, .inr (3, [.null, .null, .null, .null, .null, .null])]) Q := by
  refine okc (M := MX4_init) rfl rfl fun K hK hW => ?_
  show K 0 [(0, .ref 11)] [] (true, [x0, x1, x2, x3, x4, x5, x6, x7, x8, x9, .inr (3, [.null, .null, .null, .null, .null, .null])]) 0 0
  iterate 1 refine hK _ _ _ _ _ _ (?_ : K _ _ _ _ _ _)
  refine hK _ _ _ _ _ _ (r_obj rfl rfl (by omega) (?_ : K _ _ _ _ _ _))
  iterate 1 refine hK _ _ _ _ _ _ (?_ : K _ _ _ _ _ _)
  refine hK _ _ _ _ _ _ (r_new rfl rfl rfl rfl (?_ : K _ _ _ _ _ _))
  show K _ _ _ (true, [x0, x1, x2, x3, x4, x5, x6, x7, x8, x9, .inr (3, [.null, .null, .null, .null, .null, .null]), .inr (0, [.null, .null, .null])]) _ _
  iterate 1 refine hK _ _ _ _ _ _ (?_ : K _ _ _ _ _ _)
  refine hK _ _ _ _ _ _ (r_callI rfl rfl (fun _ => rfl) (b0 rfl rfl rfl) (kX0_init (?_ : K _ _ _ _ _ _)))
  show K _ _ _ (true, [x0, x1, x2, x3, x4, x5, x6, x7, x8, x9, .inr (3, [.null, .null, .null, .null, .null, .null]), boO 12 13 14, slA, bdA, kpA (fun _ => 0)]) _ _
  refine hK _ _ _ _ _ _ (r_put rfl rfl rfl rfl (?_ : K _ _ _ _ _ _))
  show K _ _ _ (true, [x0, x1, x2, x3, x4, x5, x6, x7, x8, x9, .inr (3, [.ref 12, .null, .null, .null, .null, .null]), boO 12 13 14, slA, bdA, kpA (fun _ => 0)]) _ _
  iterate 1 refine hK _ _ _ _ _ _ (?_ : K _ _ _ _ _ _)
  refine hK _ _ _ _ _ _ (r_new rfl rfl rfl rfl (?_ : K _ _ _ _ _ _))
  show K _ _ _ (true, [x0, x1, x2, x3, x4, x5, x6, x7, x8, x9, .inr (3, [.ref 12, .null, .null, .null, .null, .null]), boO 12 13 14, slA, bdA, kpA (fun _ => 0), .inr (1, [.long 0, .long 0])]) _ _
  iterate 1 refine hK _ _ _ _ _ _ (?_ : K _ _ _ _ _ _)
  refine hK _ _ _ _ _ _ (r_callI rfl rfl (fun _ => rfl) (b0 rfl rfl rfl) (kX1_init (k := 15) (?_ : K _ _ _ _ _ _)))
  refine hK _ _ _ _ _ _ (r_put rfl rfl rfl rfl (?_ : K _ _ _ _ _ _))
  show K _ _ _ (true, [x0, x1, x2, x3, x4, x5, x6, x7, x8, x9, .inr (3, [.ref 12, .ref 16, .null, .null, .null, .null]), boO 12 13 14, slA, bdA, kpA (fun _ => 0), .inr (1, [.long 0, .long 0])]) _ _
  iterate 1 refine hK _ _ _ _ _ _ (?_ : K _ _ _ _ _ _)
  refine hK _ _ _ _ _ _ (r_new rfl rfl rfl rfl (?_ : K _ _ _ _ _ _))
  show K _ _ _ (true, [x0, x1, x2, x3, x4, x5, x6, x7, x8, x9, .inr (3, [.ref 12, .ref 16, .null, .null, .null, .null]), boO 12 13 14, slA, bdA, kpA (fun _ => 0), .inr (1, [.long 0, .long 0]), .inr (1, [.long 0, .long 0])]) _ _
  iterate 1 refine hK _ _ _ _ _ _ (?_ : K _ _ _ _ _ _)
  refine hK _ _ _ _ _ _ (r_callI rfl rfl (fun _ => rfl) (b0 rfl rfl rfl) (kX1_init (k := 16) (?_ : K _ _ _ _ _ _)))
  refine hK _ _ _ _ _ _ (r_put rfl rfl rfl rfl (?_ : K _ _ _ _ _ _))
  show K _ _ _ (true, [x0, x1, x2, x3, x4, x5, x6, x7, x8, x9, .inr (3, [.ref 12, .ref 16, .ref 17, .null, .null, .null]), boO 12 13 14, slA, bdA, kpA (fun _ => 0), .inr (1, [.long 0, .long 0]), .inr (1, [.long 0, .long 0])]) _ _
  iterate 1 refine hK _ _ _ _ _ _ (?_ : K _ _ _ _ _ _)
  refine hK _ _ _ _ _ _ (r_new rfl rfl rfl rfl (?_ : K _ _ _ _ _ _))
  show K _ _ _ (true, [x0, x1, x2, x3, x4, x5, x6, x7, x8, x9, .inr (3, [.ref 12, .ref 16, .ref 17, .null, .null, .null]), boO 12 13 14, slA, bdA, kpA (fun _ => 0), .inr (1, [.long 0, .long 0]), .inr (1, [.long 0, .long 0]), .inr (2, [.null])]) _ _
  iterate 1 refine hK _ _ _ _ _ _ (?_ : K _ _ _ _ _ _)
  refine hK _ _ _ _ _ _ (r_callI rfl rfl (fun _ => rfl) (b0 rfl rfl rfl) (kX2_initG (q := 17) rfl (?_ : K _ _ _ _ _ _)))
  show K _ _ _ (true, [x0, x1, x2, x3, x4, x5, x6, x7, x8, x9, .inr (3, [.ref 12, .ref 16, .ref 17, .null, .null, .null]), boO 12 13 14, slA, bdA, kpA (fun _ => 0), .inr (1, [.long 0, .long 0]), .inr (1, [.long 0, .long 0]), hrO 18, .inl (0, 7, .inl (fun _ => 0))]) _ _
  refine hK _ _ _ _ _ _ (r_put rfl rfl rfl rfl (?_ : K _ _ _ _ _ _))
  show K _ _ _ (true, [x0, x1, x2, x3, x4, x5, x6, x7, x8, x9, .inr (3, [.ref 12, .ref 16, .ref 17, .ref 18, .null, .null]), boO 12 13 14, slA, bdA, kpA (fun _ => 0), .inr (1, [.long 0, .long 0]), .inr (1, [.long 0, .long 0]), hrO 18, .inl (0, 7, .inl (fun _ => 0))]) _ _
  iterate 1 refine hK _ _ _ _ _ _ (?_ : K _ _ _ _ _ _)
  refine hK _ _ _ _ _ _ (r_new rfl rfl rfl rfl (?_ : K _ _ _ _ _ _))
  show K _ _ _ (true, [x0, x1, x2, x3, x4, x5, x6, x7, x8, x9, .inr (3, [.ref 12, .ref 16, .ref 17, .ref 18, .null, .null]), boO 12 13 14, slA, bdA, kpA (fun _ => 0), .inr (1, [.long 0, .long 0]), .inr (1, [.long 0, .long 0]), hrO 18, .inl (0, 7, .inl (fun _ => 0)), .inr (2, [.null])]) _ _
  iterate 1 refine hK _ _ _ _ _ _ (?_ : K _ _ _ _ _ _)
  refine hK _ _ _ _ _ _ (r_callI rfl rfl (fun _ => rfl) (b0 rfl rfl rfl) (kX2_initG (q := 19) rfl (?_ : K _ _ _ _ _ _)))
  show K _ _ _ (true, [x0, x1, x2, x3, x4, x5, x6, x7, x8, x9, .inr (3, [.ref 12, .ref 16, .ref 17, .ref 18, .null, .null]), boO 12 13 14, slA, bdA, kpA (fun _ => 0), .inr (1, [.long 0, .long 0]), .inr (1, [.long 0, .long 0]), hrO 18, .inl (0, 7, .inl (fun _ => 0)), hrO 20, .inl (0, 7, .inl (fun _ => 0))]) _ _
  refine hK _ _ _ _ _ _ (r_put rfl rfl rfl rfl (?_ : K _ _ _ _ _ _))
  show K _ _ _ (true, [x0, x1, x2, x3, x4, x5, x6, x7, x8, x9, .inr (3, [.ref 12, .ref 16, .ref 17, .ref 18, .ref 20, .null]), boO 12 13 14, slA, bdA, kpA (fun _ => 0), .inr (1, [.long 0, .long 0]), .inr (1, [.long 0, .long 0]), hrO 18, .inl (0, 7, .inl (fun _ => 0)), hrO 20, .inl (0, 7, .inl (fun _ => 0))]) _ _
  iterate 1 refine hK _ _ _ _ _ _ (?_ : K _ _ _ _ _ _)
  refine hK _ _ _ _ _ _ (r_new rfl rfl rfl rfl (?_ : K _ _ _ _ _ _))
  show K _ _ _ (true, [x0, x1, x2, x3, x4, x5, x6, x7, x8, x9, .inr (3, [.ref 12, .ref 16, .ref 17, .ref 18, .ref 20, .null]), boO 12 13 14, slA, bdA, kpA (fun _ => 0), .inr (1, [.long 0, .long 0]), .inr (1, [.long 0, .long 0]), hrO 18, .inl (0, 7, .inl (fun _ => 0)), hrO 20, .inl (0, 7, .inl (fun _ => 0)), .inr (2, [.null])]) _ _
  iterate 1 refine hK _ _ _ _ _ _ (?_ : K _ _ _ _ _ _)
  refine hK _ _ _ _ _ _ (r_callI rfl rfl (fun _ => rfl) (b0 rfl rfl rfl) (kX2_initG (q := 21) rfl (?_ : K _ _ _ _ _ _)))
  show K _ _ _ (true, [x0, x1, x2, x3, x4, x5, x6, x7, x8, x9, .inr (3, [.ref 12, .ref 16, .ref 17, .ref 18, .ref 20, .null]), boO 12 13 14, slA, bdA, kpA (fun _ => 0), .inr (1, [.long 0, .long 0]), .inr (1, [.long 0, .long 0]), hrO 18, .inl (0, 7, .inl (fun _ => 0)), hrO 20, .inl (0, 7, .inl (fun _ => 0)), hrO 22, .inl (0, 7, .inl (fun _ => 0))]) _ _
  refine hK _ _ _ _ _ _ (r_put rfl rfl rfl rfl (?_ : K _ _ _ _ _ _))
  show K _ _ _ (true, [x0, x1, x2, x3, x4, x5, x6, x7, x8, x9, thO, boO 12 13 14, slA, bdA, kpA (fun _ => 0), .inr (1, [.long 0, .long 0]), .inr (1, [.long 0, .long 0]), hrO 18, .inl (0, 7, .inl (fun _ => 0)), hrO 20, .inl (0, 7, .inl (fun _ => 0)), hrO 22, .inl (0, 7, .inl (fun _ => 0))]) _ _
  exact hK _ _ _ _ _ _ (r_vret rfl rfl rfl hQ)

set_option maxRecDepth 10000 in
/-- Theorem.borders -/
theorem kX4_borders {S : Nat × (Nat → Int32)} {d : Nat} {h : eH} {Q : eQ} {q bq : Nat} {fs : List Value} (hk : h.2[q]? = some (.inr (3, .ref bq :: fs))) (hQ : Q (.inl (some (.ref bq))) h) : okCall S MT (d + 1) nX4_borders [.ref (q + 1)] h Q := by
  refine okc (M := MX4_borders) rfl rfl fun K hK hW => ?_
  show K 0 [(0, .ref (q + 1))] [] h 0 0
  iterate 1 refine hK _ _ _ _ _ _ (?_ : K _ _ _ _ _ _)
  refine hK _ _ _ _ _ _ (r_get rfl hk rfl (?_ : K _ _ _ _ _ _))
  exact hK _ _ _ _ _ _ (r_aret rfl rfl rfl hQ)

def shK (k : Nat) : Nat → Option Nat := fun i => if i < k then some (i + 3) else none
theorem shK_s {k : Nat} (hk : k < 2 ^ 31) : va_up (shK k) (nI k).toNatClampNeg (some (2 + k + 1)) = shK (k + 1) := by
  rw [nI_clamp hk]
  funext i
  show (if i = k then some (2 + k + 1) else shK k i) = _
  unfold shK
  by_cases e : i = k
  · subst e; rw [if_pos rfl, if_pos (Nat.lt_succ_self i)]; congr 1; omega
  · rw [if_neg e]
    by_cases h2 : i < k
    · rw [if_pos h2, if_pos (by omega)]
    · rw [if_neg h2, if_neg (by omega)]
theorem shK_0 : shK 0 = fun _ => none := by funext i; exact if_neg (Nat.not_lt_zero i)
theorem shK_6 : shK 6 = shF := by
  funext i
  unfold shK shF
  by_cases h : i < 6
  · rw [if_pos h, decide_eq_true h]; rfl
  · rw [if_neg h, decide_eq_false h]; rfl
set_option maxRecDepth 10000 in
/-- Holeworks() -/
theorem kX6_init {S : Nat × (Nat → Int32)} {d : Nat} {Q : eQ} (hQ : Q (.inl none) (true, wl (fun _ => no9) no9 no9 no9 no9 (fun _ => 0) (fun _ => 0) (fun _ => 0) (fun _ => 0) [])) : okCall S MT (d + 7) nX6_init [.ref 1] (true, [.inr (4, [.null, .null, .null, .null, .null])]) Q := by
  refine okc (M := MX6_init) rfl rfl fun K hK hW => ?_
  show K 0 [(0, .ref 1)] [] (true, [.inr (4, [.null, .null, .null, .null, .null])]) 0 0
  iterate 1 refine hK _ _ _ _ _ _ (?_ : K _ _ _ _ _ _)
  refine hK _ _ _ _ _ _ (r_obj rfl rfl (by omega) (?_ : K _ _ _ _ _ _))
  iterate 2 refine hK _ _ _ _ _ _ (?_ : K _ _ _ _ _ _)
  refine hK _ _ _ _ _ _ (r_newq (j := 6) rfl rfl (by decide) rfl rfl (?_ : K _ _ _ _ _ _))
  show K _ _ _ (true, [.inr (4, [.null, .null, .null, .null, .null]), .inl (4, 6, .inr (.inr (.inr (.inr (fun _ => none)))))]) _ _
  refine hK _ _ _ _ _ _ (r_put rfl rfl rfl rfl (?_ : K _ _ _ _ _ _))
  show K _ _ _ (true, [.inr (4, [.ref 2, .null, .null, .null, .null]), .inl (4, 6, .inr (.inr (.inr (.inr (fun _ => none)))))]) _ _
  iterate 2 refine hK _ _ _ _ _ _ (?_ : K _ _ _ _ _ _)
  rw [show ((true, [.inr (4, [.ref 2, .null, .null, .null, .null]), .inl (4, 6, .inr (.inr (.inr (.inr (fun _ => none)))))]) : eH) = (true, [.inr (4, [.ref 2, .null, .null, .null, .null]), .inl (4, 6, .inr (.inr (.inr (.inr (shK 0)))))]) by rw [shK_0]]
  iterate 2 refine hK _ _ _ _ _ _ (?_ : K _ _ _ _ _ _)
  refine hK _ _ _ _ _ _ (And.intro (fun c9 => absurd c9 (nI_ge (show 0 < 6 by decide) (by decide))) (fun _ => ?_))
  iterate 1 refine hK _ _ _ _ _ _ (?_ : K _ _ _ _ _ _)
  refine hK _ _ _ _ _ _ (r_get rfl rfl rfl (?_ : K _ _ _ _ _ _))
  iterate 1 refine hK _ _ _ _ _ _ (?_ : K _ _ _ _ _ _)
  refine hK _ _ _ _ _ _ (r_new rfl rfl rfl rfl (?_ : K _ _ _ _ _ _))
  show K _ _ _ (true, [.inr (4, [.ref 2, .null, .null, .null, .null]), .inl (4, 6, .inr (.inr (.inr (.inr (shK 0))))), .inr (1, [.long 0, .long 0])]) _ _
  iterate 1 refine hK _ _ _ _ _ _ (?_ : K _ _ _ _ _ _)
  refine hK _ _ _ _ _ _ (r_callI rfl rfl (fun _ => rfl) (b0 rfl rfl rfl) (kX1_init (k := 2) (?_ : K _ _ _ _ _ _)))
  refine hK _ _ _ _ _ _ (r_aast rfl (q := 1) (z := 2) (f := shK 0) rfl (vp_in_nI (show 0 < 6 by decide) (by decide)) rfl (show (.inl (4, 6, .inr (.inr (.inr (.inr (va_up (shK 0) (nI 0).toNatClampNeg (some (2 + 0 + 1))))))) : va_E) = .inl (4, 6, .inr (.inr (.inr (.inr (shK 1))))) by rw [shK_s (k := 0) (by decide)]) (?_ : K _ _ _ _ _ _))
  show K _ _ _ (true, [.inr (4, [.ref 2, .null, .null, .null, .null]), .inl (4, 6, .inr (.inr (.inr (.inr (shK 1))))), .inr (1, [.long 0, .long 0])]) _ _
  iterate 2 refine hK _ _ _ _ _ _ (?_ : K _ _ _ _ _ _)
  show K 15 [(1, .int (nI 0 + nI 1)), (0, .ref 1)] _ _ _ _
  rw [nI_add 0 1]
  show K 15 [(1, .int (nI 1)), (0, .ref 1)] _ _ _ _
  iterate 2 refine hK _ _ _ _ _ _ (?_ : K _ _ _ _ _ _)
  refine hK _ _ _ _ _ _ (And.intro (fun c9 => absurd c9 (nI_ge (show 1 < 6 by decide) (by decide))) (fun _ => ?_))
  iterate 1 refine hK _ _ _ _ _ _ (?_ : K _ _ _ _ _ _)
  refine hK _ _ _ _ _ _ (r_get rfl rfl rfl (?_ : K _ _ _ _ _ _))
  iterate 1 refine hK _ _ _ _ _ _ (?_ : K _ _ _ _ _ _)
  refine hK _ _ _ _ _ _ (r_new rfl rfl rfl rfl (?_ : K _ _ _ _ _ _))
  show K _ _ _ (true, [.inr (4, [.ref 2, .null, .null, .null, .null]), .inl (4, 6, .inr (.inr (.inr (.inr (shK 1))))), .inr (1, [.long 0, .long 0]), .inr (1, [.long 0, .long 0])]) _ _
  iterate 1 refine hK _ _ _ _ _ _ (?_ : K _ _ _ _ _ _)
  refine hK _ _ _ _ _ _ (r_callI rfl rfl (fun _ => rfl) (b0 rfl rfl rfl) (kX1_init (k := 3) (?_ : K _ _ _ _ _ _)))
  refine hK _ _ _ _ _ _ (r_aast rfl (q := 1) (z := 3) (f := shK 1) rfl (vp_in_nI (show 1 < 6 by decide) (by decide)) rfl (show (.inl (4, 6, .inr (.inr (.inr (.inr (va_up (shK 1) (nI 1).toNatClampNeg (some (2 + 1 + 1))))))) : va_E) = .inl (4, 6, .inr (.inr (.inr (.inr (shK 2))))) by rw [shK_s (k := 1) (by decide)]) (?_ : K _ _ _ _ _ _))
  show K _ _ _ (true, [.inr (4, [.ref 2, .null, .null, .null, .null]), .inl (4, 6, .inr (.inr (.inr (.inr (shK 2))))), .inr (1, [.long 0, .long 0]), .inr (1, [.long 0, .long 0])]) _ _
  iterate 2 refine hK _ _ _ _ _ _ (?_ : K _ _ _ _ _ _)
  show K 15 [(1, .int (nI 1 + nI 1)), (0, .ref 1)] _ _ _ _
  rw [nI_add 1 1]
  show K 15 [(1, .int (nI 2)), (0, .ref 1)] _ _ _ _
  iterate 2 refine hK _ _ _ _ _ _ (?_ : K _ _ _ _ _ _)
  refine hK _ _ _ _ _ _ (And.intro (fun c9 => absurd c9 (nI_ge (show 2 < 6 by decide) (by decide))) (fun _ => ?_))
  iterate 1 refine hK _ _ _ _ _ _ (?_ : K _ _ _ _ _ _)
  refine hK _ _ _ _ _ _ (r_get rfl rfl rfl (?_ : K _ _ _ _ _ _))
  iterate 1 refine hK _ _ _ _ _ _ (?_ : K _ _ _ _ _ _)
  refine hK _ _ _ _ _ _ (r_new rfl rfl rfl rfl (?_ : K _ _ _ _ _ _))
  show K _ _ _ (true, [.inr (4, [.ref 2, .null, .null, .null, .null]), .inl (4, 6, .inr (.inr (.inr (.inr (shK 2))))), .inr (1, [.long 0, .long 0]), .inr (1, [.long 0, .long 0]), .inr (1, [.long 0, .long 0])]) _ _
  iterate 1 refine hK _ _ _ _ _ _ (?_ : K _ _ _ _ _ _)
  refine hK _ _ _ _ _ _ (r_callI rfl rfl (fun _ => rfl) (b0 rfl rfl rfl) (kX1_init (k := 4) (?_ : K _ _ _ _ _ _)))
  refine hK _ _ _ _ _ _ (r_aast rfl (q := 1) (z := 4) (f := shK 2) rfl (vp_in_nI (show 2 < 6 by decide) (by decide)) rfl (show (.inl (4, 6, .inr (.inr (.inr (.inr (va_up (shK 2) (nI 2).toNatClampNeg (some (2 + 2 + 1))))))) : va_E) = .inl (4, 6, .inr (.inr (.inr (.inr (shK 3))))) by rw [shK_s (k := 2) (by decide)]) (?_ : K _ _ _ _ _ _))
  show K _ _ _ (true, [.inr (4, [.ref 2, .null, .null, .null, .null]), .inl (4, 6, .inr (.inr (.inr (.inr (shK 3))))), .inr (1, [.long 0, .long 0]), .inr (1, [.long 0, .long 0]), .inr (1, [.long 0, .long 0])]) _ _
  iterate 2 refine hK _ _ _ _ _ _ (?_ : K _ _ _ _ _ _)
  show K 15 [(1, .int (nI 2 + nI 1)), (0, .ref 1)] _ _ _ _
  rw [nI_add 2 1]
  show K 15 [(1, .int (nI 3)), (0, .ref 1)] _ _ _ _
  iterate 2 refine hK _ _ _ _ _ _ (?_ : K _ _ _ _ _ _)
  refine hK _ _ _ _ _ _ (And.intro (fun c9 => absurd c9 (nI_ge (show 3 < 6 by decide) (by decide))) (fun _ => ?_))
  iterate 1 refine hK _ _ _ _ _ _ (?_ : K _ _ _ _ _ _)
  refine hK _ _ _ _ _ _ (r_get rfl rfl rfl (?_ : K _ _ _ _ _ _))
  iterate 1 refine hK _ _ _ _ _ _ (?_ : K _ _ _ _ _ _)
  refine hK _ _ _ _ _ _ (r_new rfl rfl rfl rfl (?_ : K _ _ _ _ _ _))
  show K _ _ _ (true, [.inr (4, [.ref 2, .null, .null, .null, .null]), .inl (4, 6, .inr (.inr (.inr (.inr (shK 3))))), .inr (1, [.long 0, .long 0]), .inr (1, [.long 0, .long 0]), .inr (1, [.long 0, .long 0]), .inr (1, [.long 0, .long 0])]) _ _
  iterate 1 refine hK _ _ _ _ _ _ (?_ : K _ _ _ _ _ _)
  refine hK _ _ _ _ _ _ (r_callI rfl rfl (fun _ => rfl) (b0 rfl rfl rfl) (kX1_init (k := 5) (?_ : K _ _ _ _ _ _)))
  refine hK _ _ _ _ _ _ (r_aast rfl (q := 1) (z := 5) (f := shK 3) rfl (vp_in_nI (show 3 < 6 by decide) (by decide)) rfl (show (.inl (4, 6, .inr (.inr (.inr (.inr (va_up (shK 3) (nI 3).toNatClampNeg (some (2 + 3 + 1))))))) : va_E) = .inl (4, 6, .inr (.inr (.inr (.inr (shK 4))))) by rw [shK_s (k := 3) (by decide)]) (?_ : K _ _ _ _ _ _))
  show K _ _ _ (true, [.inr (4, [.ref 2, .null, .null, .null, .null]), .inl (4, 6, .inr (.inr (.inr (.inr (shK 4))))), .inr (1, [.long 0, .long 0]), .inr (1, [.long 0, .long 0]), .inr (1, [.long 0, .long 0]), .inr (1, [.long 0, .long 0])]) _ _
  iterate 2 refine hK _ _ _ _ _ _ (?_ : K _ _ _ _ _ _)
  show K 15 [(1, .int (nI 3 + nI 1)), (0, .ref 1)] _ _ _ _
  rw [nI_add 3 1]
  show K 15 [(1, .int (nI 4)), (0, .ref 1)] _ _ _ _
  iterate 2 refine hK _ _ _ _ _ _ (?_ : K _ _ _ _ _ _)
  refine hK _ _ _ _ _ _ (And.intro (fun c9 => absurd c9 (nI_ge (show 4 < 6 by decide) (by decide))) (fun _ => ?_))
  iterate 1 refine hK _ _ _ _ _ _ (?_ : K _ _ _ _ _ _)
  refine hK _ _ _ _ _ _ (r_get rfl rfl rfl (?_ : K _ _ _ _ _ _))
  iterate 1 refine hK _ _ _ _ _ _ (?_ : K _ _ _ _ _ _)
  refine hK _ _ _ _ _ _ (r_new rfl rfl rfl rfl (?_ : K _ _ _ _ _ _))
  show K _ _ _ (true, [.inr (4, [.ref 2, .null, .null, .null, .null]), .inl (4, 6, .inr (.inr (.inr (.inr (shK 4))))), .inr (1, [.long 0, .long 0]), .inr (1, [.long 0, .long 0]), .inr (1, [.long 0, .long 0]), .inr (1, [.long 0, .long 0]), .inr (1, [.long 0, .long 0])]) _ _
  iterate 1 refine hK _ _ _ _ _ _ (?_ : K _ _ _ _ _ _)
  refine hK _ _ _ _ _ _ (r_callI rfl rfl (fun _ => rfl) (b0 rfl rfl rfl) (kX1_init (k := 6) (?_ : K _ _ _ _ _ _)))
  refine hK _ _ _ _ _ _ (r_aast rfl (q := 1) (z := 6) (f := shK 4) rfl (vp_in_nI (show 4 < 6 by decide) (by decide)) rfl (show (.inl (4, 6, .inr (.inr (.inr (.inr (va_up (shK 4) (nI 4).toNatClampNeg (some (2 + 4 + 1))))))) : va_E) = .inl (4, 6, .inr (.inr (.inr (.inr (shK 5))))) by rw [shK_s (k := 4) (by decide)]) (?_ : K _ _ _ _ _ _))
  show K _ _ _ (true, [.inr (4, [.ref 2, .null, .null, .null, .null]), .inl (4, 6, .inr (.inr (.inr (.inr (shK 5))))), .inr (1, [.long 0, .long 0]), .inr (1, [.long 0, .long 0]), .inr (1, [.long 0, .long 0]), .inr (1, [.long 0, .long 0]), .inr (1, [.long 0, .long 0])]) _ _
  iterate 2 refine hK _ _ _ _ _ _ (?_ : K _ _ _ _ _ _)
  show K 15 [(1, .int (nI 4 + nI 1)), (0, .ref 1)] _ _ _ _
  rw [nI_add 4 1]
  show K 15 [(1, .int (nI 5)), (0, .ref 1)] _ _ _ _
  iterate 2 refine hK _ _ _ _ _ _ (?_ : K _ _ _ _ _ _)
  refine hK _ _ _ _ _ _ (And.intro (fun c9 => absurd c9 (nI_ge (show 5 < 6 by decide) (by decide))) (fun _ => ?_))
  iterate 1 refine hK _ _ _ _ _ _ (?_ : K _ _ _ _ _ _)
  refine hK _ _ _ _ _ _ (r_get rfl rfl rfl (?_ : K _ _ _ _ _ _))
  iterate 1 refine hK _ _ _ _ _ _ (?_ : K _ _ _ _ _ _)
  refine hK _ _ _ _ _ _ (r_new rfl rfl rfl rfl (?_ : K _ _ _ _ _ _))
  show K _ _ _ (true, [.inr (4, [.ref 2, .null, .null, .null, .null]), .inl (4, 6, .inr (.inr (.inr (.inr (shK 5))))), .inr (1, [.long 0, .long 0]), .inr (1, [.long 0, .long 0]), .inr (1, [.long 0, .long 0]), .inr (1, [.long 0, .long 0]), .inr (1, [.long 0, .long 0]), .inr (1, [.long 0, .long 0])]) _ _
  iterate 1 refine hK _ _ _ _ _ _ (?_ : K _ _ _ _ _ _)
  refine hK _ _ _ _ _ _ (r_callI rfl rfl (fun _ => rfl) (b0 rfl rfl rfl) (kX1_init (k := 7) (?_ : K _ _ _ _ _ _)))
  refine hK _ _ _ _ _ _ (r_aast rfl (q := 1) (z := 7) (f := shK 5) rfl (vp_in_nI (show 5 < 6 by decide) (by decide)) rfl (show (.inl (4, 6, .inr (.inr (.inr (.inr (va_up (shK 5) (nI 5).toNatClampNeg (some (2 + 5 + 1))))))) : va_E) = .inl (4, 6, .inr (.inr (.inr (.inr (shK 6))))) by rw [shK_s (k := 5) (by decide)]) (?_ : K _ _ _ _ _ _))
  show K _ _ _ (true, [.inr (4, [.ref 2, .null, .null, .null, .null]), .inl (4, 6, .inr (.inr (.inr (.inr (shK 6))))), .inr (1, [.long 0, .long 0]), .inr (1, [.long 0, .long 0]), .inr (1, [.long 0, .long 0]), .inr (1, [.long 0, .long 0]), .inr (1, [.long 0, .long 0]), .inr (1, [.long 0, .long 0])]) _ _
  iterate 2 refine hK _ _ _ _ _ _ (?_ : K _ _ _ _ _ _)
  show K 15 [(1, .int (nI 5 + nI 1)), (0, .ref 1)] _ _ _ _
  rw [nI_add 5 1]
  show K 15 [(1, .int (nI 6)), (0, .ref 1)] _ _ _ _
  iterate 2 refine hK _ _ _ _ _ _ (?_ : K _ _ _ _ _ _)
  refine hK _ _ _ _ _ _ (And.intro (fun _ => ?_) (fun c9 => absurd (nI_le (Nat.le_refl 6) (by decide)) c9))
  rw [show ((true, [.inr (4, [.ref 2, .null, .null, .null, .null]), .inl (4, 6, .inr (.inr (.inr (.inr (shK 6))))), .inr (1, [.long 0, .long 0]), .inr (1, [.long 0, .long 0]), .inr (1, [.long 0, .long 0]), .inr (1, [.long 0, .long 0]), .inr (1, [.long 0, .long 0]), .inr (1, [.long 0, .long 0])]) : eH) = (true, [.inr (4, [.ref 2, .null, .null, .null, .null]), shA, .inr (1, [.long 0, .long 0]), .inr (1, [.long 0, .long 0]), .inr (1, [.long 0, .long 0]), .inr (1, [.long 0, .long 0]), .inr (1, [.long 0, .long 0]), .inr (1, [.long 0, .long 0])]) by rw [shK_6]]
  iterate 1 refine hK _ _ _ _ _ _ (?_ : K _ _ _ _ _ _)
  refine hK _ _ _ _ _ _ (r_new rfl rfl rfl rfl (?_ : K _ _ _ _ _ _))
  show K _ _ _ (true, [.inr (4, [.ref 2, .null, .null, .null, .null]), shA, .inr (1, [.long 0, .long 0]), .inr (1, [.long 0, .long 0]), .inr (1, [.long 0, .long 0]), .inr (1, [.long 0, .long 0]), .inr (1, [.long 0, .long 0]), .inr (1, [.long 0, .long 0]), .inr (1, [.long 0, .long 0])]) _ _
  iterate 1 refine hK _ _ _ _ _ _ (?_ : K _ _ _ _ _ _)
  refine hK _ _ _ _ _ _ (r_callI rfl rfl (fun _ => rfl) (b0 rfl rfl rfl) (kX1_init (k := 8) (?_ : K _ _ _ _ _ _)))
  refine hK _ _ _ _ _ _ (r_put rfl rfl rfl rfl (?_ : K _ _ _ _ _ _))
  show K _ _ _ (true, [.inr (4, [.ref 2, .ref 9, .null, .null, .null]), shA, .inr (1, [.long 0, .long 0]), .inr (1, [.long 0, .long 0]), .inr (1, [.long 0, .long 0]), .inr (1, [.long 0, .long 0]), .inr (1, [.long 0, .long 0]), .inr (1, [.long 0, .long 0]), .inr (1, [.long 0, .long 0])]) _ _
  iterate 1 refine hK _ _ _ _ _ _ (?_ : K _ _ _ _ _ _)
  refine hK _ _ _ _ _ _ (r_new rfl rfl rfl rfl (?_ : K _ _ _ _ _ _))
  show K _ _ _ (true, [.inr (4, [.ref 2, .ref 9, .null, .null, .null]), shA, .inr (1, [.long 0, .long 0]), .inr (1, [.long 0, .long 0]), .inr (1, [.long 0, .long 0]), .inr (1, [.long 0, .long 0]), .inr (1, [.long 0, .long 0]), .inr (1, [.long 0, .long 0]), .inr (1, [.long 0, .long 0]), .inr (1, [.long 0, .long 0])]) _ _
  iterate 1 refine hK _ _ _ _ _ _ (?_ : K _ _ _ _ _ _)
  refine hK _ _ _ _ _ _ (r_callI rfl rfl (fun _ => rfl) (b0 rfl rfl rfl) (kX1_init (k := 9) (?_ : K _ _ _ _ _ _)))
  refine hK _ _ _ _ _ _ (r_put rfl rfl rfl rfl (?_ : K _ _ _ _ _ _))
  show K _ _ _ (true, [.inr (4, [.ref 2, .ref 9, .ref 10, .null, .null]), shA, .inr (1, [.long 0, .long 0]), .inr (1, [.long 0, .long 0]), .inr (1, [.long 0, .long 0]), .inr (1, [.long 0, .long 0]), .inr (1, [.long 0, .long 0]), .inr (1, [.long 0, .long 0]), .inr (1, [.long 0, .long 0]), .inr (1, [.long 0, .long 0])]) _ _
  iterate 1 refine hK _ _ _ _ _ _ (?_ : K _ _ _ _ _ _)
  refine hK _ _ _ _ _ _ (r_new rfl rfl rfl rfl (?_ : K _ _ _ _ _ _))
  show K _ _ _ (true, [.inr (4, [.ref 2, .ref 9, .ref 10, .null, .null]), shA, .inr (1, [.long 0, .long 0]), .inr (1, [.long 0, .long 0]), .inr (1, [.long 0, .long 0]), .inr (1, [.long 0, .long 0]), .inr (1, [.long 0, .long 0]), .inr (1, [.long 0, .long 0]), .inr (1, [.long 0, .long 0]), .inr (1, [.long 0, .long 0]), .inr (3, [.null, .null, .null, .null, .null, .null])]) _ _
  iterate 1 refine hK _ _ _ _ _ _ (?_ : K _ _ _ _ _ _)
  refine hK _ _ _ _ _ _ (r_callI rfl rfl (fun _ => rfl) (b0 rfl rfl rfl) (kX4_init (?_ : K _ _ _ _ _ _)))
  show K _ _ _ (true, [.inr (4, [.ref 2, .ref 9, .ref 10, .null, .null]), shA, .inr (1, [.long 0, .long 0]), .inr (1, [.long 0, .long 0]), .inr (1, [.long 0, .long 0]), .inr (1, [.long 0, .long 0]), .inr (1, [.long 0, .long 0]), .inr (1, [.long 0, .long 0]), .inr (1, [.long 0, .long 0]), .inr (1, [.long 0, .long 0]), thO, boO 12 13 14, slA, bdA, kpA (fun _ => 0), .inr (1, [.long 0, .long 0]), .inr (1, [.long 0, .long 0]), hrO 18, .inl (0, 7, .inl (fun _ => 0)), hrO 20, .inl (0, 7, .inl (fun _ => 0)), hrO 22, .inl (0, 7, .inl (fun _ => 0))]) _ _
  refine hK _ _ _ _ _ _ (r_put rfl rfl rfl rfl (?_ : K _ _ _ _ _ _))
  show K _ _ _ (true, [.inr (4, [.ref 2, .ref 9, .ref 10, .null, .ref 11]), shA, .inr (1, [.long 0, .long 0]), .inr (1, [.long 0, .long 0]), .inr (1, [.long 0, .long 0]), .inr (1, [.long 0, .long 0]), .inr (1, [.long 0, .long 0]), .inr (1, [.long 0, .long 0]), .inr (1, [.long 0, .long 0]), .inr (1, [.long 0, .long 0]), thO, boO 12 13 14, slA, bdA, kpA (fun _ => 0), .inr (1, [.long 0, .long 0]), .inr (1, [.long 0, .long 0]), hrO 18, .inl (0, 7, .inl (fun _ => 0)), hrO 20, .inl (0, 7, .inl (fun _ => 0)), hrO 22, .inl (0, 7, .inl (fun _ => 0))]) _ _
  iterate 2 refine hK _ _ _ _ _ _ (?_ : K _ _ _ _ _ _)
  refine hK _ _ _ _ _ _ (r_get rfl rfl rfl (?_ : K _ _ _ _ _ _))
  refine hK _ _ _ _ _ _ (r_callV rfl (fun _ => rfl) rfl (b0 rfl rfl rfl) (kX4_borders (q := 10) (bq := 12) rfl (?_ : K _ _ _ _ _ _)))
  refine hK _ _ _ _ _ _ (r_put rfl rfl rfl rfl (?_ : K _ _ _ _ _ _))
  show K _ _ _ (true, [hwO, shA, .inr (1, [.long 0, .long 0]), .inr (1, [.long 0, .long 0]), .inr (1, [.long 0, .long 0]), .inr (1, [.long 0, .long 0]), .inr (1, [.long 0, .long 0]), .inr (1, [.long 0, .long 0]), .inr (1, [.long 0, .long 0]), .inr (1, [.long 0, .long 0]), thO, boO 12 13 14, slA, bdA, kpA (fun _ => 0), .inr (1, [.long 0, .long 0]), .inr (1, [.long 0, .long 0]), hrO 18, .inl (0, 7, .inl (fun _ => 0)), hrO 20, .inl (0, 7, .inl (fun _ => 0)), hrO 22, .inl (0, 7, .inl (fun _ => 0))]) _ _
  exact hK _ _ _ _ _ _ (r_vret rfl rfl rfl (by rw [show ((true, [hwO, shA, .inr (1, [.long 0, .long 0]), .inr (1, [.long 0, .long 0]), .inr (1, [.long 0, .long 0]), .inr (1, [.long 0, .long 0]), .inr (1, [.long 0, .long 0]), .inr (1, [.long 0, .long 0]), .inr (1, [.long 0, .long 0]), .inr (1, [.long 0, .long 0]), thO, boO 12 13 14, slA, bdA, kpA (fun _ => 0), .inr (1, [.long 0, .long 0]), .inr (1, [.long 0, .long 0]), hrO 18, .inl (0, 7, .inl (fun _ => 0)), hrO 20, .inl (0, 7, .inl (fun _ => 0)), hrO 22, .inl (0, 7, .inl (fun _ => 0))]) : eH) = (true, wl (fun _ => no9) no9 no9 no9 no9 (fun _ => 0) (fun _ => 0) (fun _ => 0) (fun _ => 0) []) by rw [fs_00]; rfl]; exact hQ))

set_option maxRecDepth 10000 in
/-- Model() -/
theorem kX7_init {S : Nat × (Nat → Int32)} {d : Nat} {Q : eQ} {X : Nat → va_E} (hQ : Q (.inl none) (true, mW X (fun _ => 0) (fun _ => 0) (fun _ => 0) (fun _ => 0) (fun _ => 0) (fun _ => 0) 0 0 [])) : okCall S MT (d + 2) nX7_init [.ref 24] (true, [(X 0), (X 1), (X 2), (X 3), (X 4), (X 5), (X 6), (X 7), (X 8), (X 9), (X 10), (X 11), (X 12), (X 13), (X 14), (X 15), (X 16), (X 17), (X 18), (X 19), (X 20), (X 21), (X 22), .inr (5, [.null, .null, .null, .null, .null, .null, .int 0, .int 0])]) Q := by
  refine okc (M := MX7_init) rfl rfl fun K hK hW => ?_
  show K 0 [(0, .ref 24)] [] (true, [(X 0), (X 1), (X 2), (X 3), (X 4), (X 5), (X 6), (X 7), (X 8), (X 9), (X 10), (X 11), (X 12), (X 13), (X 14), (X 15), (X 16), (X 17), (X 18), (X 19), (X 20), (X 21), (X 22), .inr (5, [.null, .null, .null, .null, .null, .null, .int 0, .int 0])]) 0 0
  iterate 1 refine hK _ _ _ _ _ _ (?_ : K _ _ _ _ _ _)
  refine hK _ _ _ _ _ _ (r_obj rfl rfl (by omega) (?_ : K _ _ _ _ _ _))
  iterate 2 refine hK _ _ _ _ _ _ (?_ : K _ _ _ _ _ _)
  refine hK _ _ _ _ _ _ (r_newa (j := 768) rfl rfl rfl (by decide) rfl rfl (?_ : K _ _ _ _ _ _))
  show K _ _ _ (true, [(X 0), (X 1), (X 2), (X 3), (X 4), (X 5), (X 6), (X 7), (X 8), (X 9), (X 10), (X 11), (X 12), (X 13), (X 14), (X 15), (X 16), (X 17), (X 18), (X 19), (X 20), (X 21), (X 22), .inr (5, [.null, .null, .null, .null, .null, .null, .int 0, .int 0]), zA 768 (fun _ => 0)]) _ _
  refine hK _ _ _ _ _ _ (r_put rfl rfl rfl rfl (?_ : K _ _ _ _ _ _))
  show K _ _ _ (true, [(X 0), (X 1), (X 2), (X 3), (X 4), (X 5), (X 6), (X 7), (X 8), (X 9), (X 10), (X 11), (X 12), (X 13), (X 14), (X 15), (X 16), (X 17), (X 18), (X 19), (X 20), (X 21), (X 22), .inr (5, [.ref 25, .null, .null, .null, .null, .null, .int 0, .int 0]), zA 768 (fun _ => 0)]) _ _
  iterate 2 refine hK _ _ _ _ _ _ (?_ : K _ _ _ _ _ _)
  refine hK _ _ _ _ _ _ (r_newa (j := 128) rfl rfl rfl (by decide) rfl rfl (?_ : K _ _ _ _ _ _))
  show K _ _ _ (true, [(X 0), (X 1), (X 2), (X 3), (X 4), (X 5), (X 6), (X 7), (X 8), (X 9), (X 10), (X 11), (X 12), (X 13), (X 14), (X 15), (X 16), (X 17), (X 18), (X 19), (X 20), (X 21), (X 22), .inr (5, [.ref 25, .null, .null, .null, .null, .null, .int 0, .int 0]), zA 768 (fun _ => 0), zA 128 (fun _ => 0)]) _ _
  refine hK _ _ _ _ _ _ (r_put rfl rfl rfl rfl (?_ : K _ _ _ _ _ _))
  show K _ _ _ (true, [(X 0), (X 1), (X 2), (X 3), (X 4), (X 5), (X 6), (X 7), (X 8), (X 9), (X 10), (X 11), (X 12), (X 13), (X 14), (X 15), (X 16), (X 17), (X 18), (X 19), (X 20), (X 21), (X 22), .inr (5, [.ref 25, .ref 26, .null, .null, .null, .null, .int 0, .int 0]), zA 768 (fun _ => 0), zA 128 (fun _ => 0)]) _ _
  iterate 2 refine hK _ _ _ _ _ _ (?_ : K _ _ _ _ _ _)
  refine hK _ _ _ _ _ _ (r_newa (j := 128) rfl rfl rfl (by decide) rfl rfl (?_ : K _ _ _ _ _ _))
  show K _ _ _ (true, [(X 0), (X 1), (X 2), (X 3), (X 4), (X 5), (X 6), (X 7), (X 8), (X 9), (X 10), (X 11), (X 12), (X 13), (X 14), (X 15), (X 16), (X 17), (X 18), (X 19), (X 20), (X 21), (X 22), .inr (5, [.ref 25, .ref 26, .null, .null, .null, .null, .int 0, .int 0]), zA 768 (fun _ => 0), zA 128 (fun _ => 0), zA 128 (fun _ => 0)]) _ _
  refine hK _ _ _ _ _ _ (r_put rfl rfl rfl rfl (?_ : K _ _ _ _ _ _))
  show K _ _ _ (true, [(X 0), (X 1), (X 2), (X 3), (X 4), (X 5), (X 6), (X 7), (X 8), (X 9), (X 10), (X 11), (X 12), (X 13), (X 14), (X 15), (X 16), (X 17), (X 18), (X 19), (X 20), (X 21), (X 22), .inr (5, [.ref 25, .ref 26, .ref 27, .null, .null, .null, .int 0, .int 0]), zA 768 (fun _ => 0), zA 128 (fun _ => 0), zA 128 (fun _ => 0)]) _ _
  iterate 2 refine hK _ _ _ _ _ _ (?_ : K _ _ _ _ _ _)
  refine hK _ _ _ _ _ _ (r_newa (j := 128) rfl rfl rfl (by decide) rfl rfl (?_ : K _ _ _ _ _ _))
  show K _ _ _ (true, [(X 0), (X 1), (X 2), (X 3), (X 4), (X 5), (X 6), (X 7), (X 8), (X 9), (X 10), (X 11), (X 12), (X 13), (X 14), (X 15), (X 16), (X 17), (X 18), (X 19), (X 20), (X 21), (X 22), .inr (5, [.ref 25, .ref 26, .ref 27, .null, .null, .null, .int 0, .int 0]), zA 768 (fun _ => 0), zA 128 (fun _ => 0), zA 128 (fun _ => 0), zA 128 (fun _ => 0)]) _ _
  refine hK _ _ _ _ _ _ (r_put rfl rfl rfl rfl (?_ : K _ _ _ _ _ _))
  show K _ _ _ (true, [(X 0), (X 1), (X 2), (X 3), (X 4), (X 5), (X 6), (X 7), (X 8), (X 9), (X 10), (X 11), (X 12), (X 13), (X 14), (X 15), (X 16), (X 17), (X 18), (X 19), (X 20), (X 21), (X 22), .inr (5, [.ref 25, .ref 26, .ref 27, .ref 28, .null, .null, .int 0, .int 0]), zA 768 (fun _ => 0), zA 128 (fun _ => 0), zA 128 (fun _ => 0), zA 128 (fun _ => 0)]) _ _
  iterate 2 refine hK _ _ _ _ _ _ (?_ : K _ _ _ _ _ _)
  refine hK _ _ _ _ _ _ (r_newa (j := 7) rfl rfl rfl (by decide) rfl rfl (?_ : K _ _ _ _ _ _))
  show K _ _ _ (true, [(X 0), (X 1), (X 2), (X 3), (X 4), (X 5), (X 6), (X 7), (X 8), (X 9), (X 10), (X 11), (X 12), (X 13), (X 14), (X 15), (X 16), (X 17), (X 18), (X 19), (X 20), (X 21), (X 22), .inr (5, [.ref 25, .ref 26, .ref 27, .ref 28, .null, .null, .int 0, .int 0]), zA 768 (fun _ => 0), zA 128 (fun _ => 0), zA 128 (fun _ => 0), zA 128 (fun _ => 0), .inl (0, 7, .inl (fun _ => 0))]) _ _
  refine hK _ _ _ _ _ _ (r_put rfl rfl rfl rfl (?_ : K _ _ _ _ _ _))
  show K _ _ _ (true, [(X 0), (X 1), (X 2), (X 3), (X 4), (X 5), (X 6), (X 7), (X 8), (X 9), (X 10), (X 11), (X 12), (X 13), (X 14), (X 15), (X 16), (X 17), (X 18), (X 19), (X 20), (X 21), (X 22), .inr (5, [.ref 25, .ref 26, .ref 27, .ref 28, .ref 29, .null, .int 0, .int 0]), zA 768 (fun _ => 0), zA 128 (fun _ => 0), zA 128 (fun _ => 0), zA 128 (fun _ => 0), .inl (0, 7, .inl (fun _ => 0))]) _ _
  iterate 2 refine hK _ _ _ _ _ _ (?_ : K _ _ _ _ _ _)
  refine hK _ _ _ _ _ _ (r_newa (j := 36) rfl rfl rfl (by decide) rfl rfl (?_ : K _ _ _ _ _ _))
  show K _ _ _ (true, [(X 0), (X 1), (X 2), (X 3), (X 4), (X 5), (X 6), (X 7), (X 8), (X 9), (X 10), (X 11), (X 12), (X 13), (X 14), (X 15), (X 16), (X 17), (X 18), (X 19), (X 20), (X 21), (X 22), .inr (5, [.ref 25, .ref 26, .ref 27, .ref 28, .ref 29, .null, .int 0, .int 0]), zA 768 (fun _ => 0), zA 128 (fun _ => 0), zA 128 (fun _ => 0), zA 128 (fun _ => 0), .inl (0, 7, .inl (fun _ => 0)), ilA 36 (fun _ => 0)]) _ _
  refine hK _ _ _ _ _ _ (r_put rfl rfl rfl rfl (?_ : K _ _ _ _ _ _))
  show K _ _ _ (true, [(X 0), (X 1), (X 2), (X 3), (X 4), (X 5), (X 6), (X 7), (X 8), (X 9), (X 10), (X 11), (X 12), (X 13), (X 14), (X 15), (X 16), (X 17), (X 18), (X 19), (X 20), (X 21), (X 22), .inr (5, [.ref 25, .ref 26, .ref 27, .ref 28, .ref 29, .ref 30, .int 0, .int 0]), zA 768 (fun _ => 0), zA 128 (fun _ => 0), zA 128 (fun _ => 0), zA 128 (fun _ => 0), .inl (0, 7, .inl (fun _ => 0)), ilA 36 (fun _ => 0)]) _ _
  exact hK _ _ _ _ _ _ (r_vret rfl rfl rfl hQ)

end CO
