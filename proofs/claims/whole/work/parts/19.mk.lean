section MK
theorem okW {S : Nat × (Nat → Int32)} {d m : Nat} {as as1 : List Value} {h : eH} {Q : eQ} (e : as = as1) (hk : okCall S MT d m as1 h Q) : okCall S MT d m as h Q := by
  rw [e]; exact hk
/-- below k, for each face of p its g put in -/
def sFold (b p : Nat → Bool) (g : Nat → Nat) : Nat → (Nat → Bool)
  | 0 => b
  | k + 1 => bif decide (0 < k) && p k then sIns (sFold b p g k) (g k) else sFold b p g k
theorem sF_t {b p : Nat → Bool} {g : Nat → Nat} {k : Nat} (h0 : 0 < k) (h : p k = true) : sFold b p g (k + 1) = sIns (sFold b p g k) (g k) := by
  show (bif decide (0 < k) && p k then _ else _) = _
  rw [decide_eq_true h0, h]; rfl
theorem sF_f {b p : Nat → Bool} {g : Nat → Nat} {k : Nat} (h : p k = false) : sFold b p g (k + 1) = sFold b p g k := by
  show (bif decide (0 < k) && p k then _ else _) = _
  rw [h, Bool.and_false]; rfl
theorem sF_mem {b p : Nat → Bool} {g : Nat → Nat} : ∀ {n i : Nat}, sFold b p g n i = true ↔ b i = true ∨ ∃ j, 0 < j ∧ j < n ∧ p j = true ∧ g j = i
  | 0, i => ⟨Or.inl, fun h => h.elim id (fun ⟨j, _, h, _⟩ => absurd h (Nat.not_lt_zero j))⟩
  | n + 1, i => by
    have ih := sF_mem (b := b) (p := p) (g := g) (n := n) (i := i)
    by_cases hp : (decide (0 < n) && p n) = true
    · rw [Bool.and_eq_true, decide_eq_true_eq] at hp
      rw [sF_t hp.1 hp.2]
      show (sFold b p g n i || i == g n) = true ↔ _
      rw [Bool.or_eq_true, ih, beq_iff_eq]
      constructor
      · rintro ((h | ⟨j, h1, h2, h3, h4⟩) | h)
        · exact Or.inl h
        · exact Or.inr ⟨j, h1, by omega, h3, h4⟩
        · exact Or.inr ⟨n, hp.1, by omega, hp.2, h.symm⟩
      · rintro (h | ⟨j, h1, h2, h3, h4⟩)
        · exact Or.inl (Or.inl h)
        · by_cases hj : j = n
          · subst hj; exact Or.inr h4.symm
          · exact Or.inl (Or.inr ⟨j, h1, by omega, h3, h4⟩)
    · have e : sFold b p g (n + 1) = sFold b p g n := by
        show (bif decide (0 < n) && p n then _ else _) = _
        rw [Bool.eq_false_iff.mpr hp]; rfl
      rw [e, ih]
      constructor
      · rintro (h | ⟨j, h1, h2, h3, h4⟩)
        · exact Or.inl h
        · exact Or.inr ⟨j, h1, by omega, h3, h4⟩
      · rintro (h | ⟨j, h1, h2, h3, h4⟩)
        · exact Or.inl h
        · refine Or.inr ⟨j, h1, ?_, h3, h4⟩
          have : j ≠ n := fun e => hp (by subst e; simp [h1, h3])
          omega
abbrev no9 : Nat → Bool := fun _ => false
theorem or_128 {a b : Nat} (ha : a < 128) (hb : b < 128) : a ||| b < 128 := Nat.or_lt_two_pow (n := 7) ha hb
theorem xor_128 {a b : Nat} (ha : a < 128) (hb : b < 128) : a ^^^ b < 128 := Nat.xor_lt_two_pow (n := 7) ha hb
theorem sh1 : ∀ a, a < 7 → nI 1 <<< (nI a &&& 31) = nI (2 ^ a) := by decide +kernel
theorem pw_128 : ∀ a, a < 7 → 2 ^ a < 128 := by decide
theorem nI_z {a : Nat} (h : a < 2 ^ 31) : nI a = 0 ↔ a = 0 := nI_eq h (by decide)
theorem bit_z {f a : Nat} (hf : f < 128) (ha : a < 7) : nI f &&& nI (2 ^ a) = 0 ↔ f.testBit a = false := by
  have := Nat.and_le_left (n := f) (m := 2 ^ a)
  rw [nx_and, nI_z (by omega), fb_bit_nat]
set_option maxRecDepth 10000 in
/-- Making.makeLow -/
theorem kX3_makeLow {S : Nat × (Nat → Int32)} {d : Nat} {h : eH} {Q : eQ} {q m : Nat} {s u : Nat → Bool} (hqm : m ≠ q) (hq0 : h.2[q]? = some (fsS s)) (hm0 : h.2[m]? = some (fsS u)) {t : Nat} (ht7 : t < 128) (hQ : Q (.inl none) (h.1, h.2.set m (fsS (sFold no9 (fun i => s i && decide (ht i ≤ t)) (fun i => i) 128)))) : okCall S MT (d + 3) nX3_makeLow [.ref (q + 1), .int (nI t), .ref (m + 1)] h Q := by
  refine okc (M := MX3_makeLow) rfl rfl fun K hK hW => ?_
  show K 0 [(0, .ref (q + 1)), (1, .int (nI t)), (2, .ref (m + 1))] [] h 0 0
  iterate 1 refine hK _ _ _ _ _ _ (?_ : K _ _ _ _ _ _)
  refine hK _ _ _ _ _ _ (r_callV rfl (fun _ => rfl) hm0 (b0 rfl rfl rfl) (kX1_empty hm0 (?_ : K _ _ _ _ _ _)))
  iterate 4 refine hK _ _ _ _ _ _ (?_ : K _ _ _ _ _ _)
  have e0 : (h.1, (h.2.set m (fsS (fun _ => false)))) = (h.1, h.2.set m (fsS (sFold no9 (fun i => s i && decide (ht i ≤ t)) (fun i => i) 1))) := rfl
  rw [e0]
  refine hW _ _ [(3, .int (nI (1))), (0, .ref (q + 1)), (1, .int (nI t)), (2, .ref (m + 1))] _ _ _ _ (by simp) ?_
  refine up (P := fun k => K 9 [(3, .int (nI (k))), (0, .ref (q + 1)), (1, .int (nI t)), (2, .ref (m + 1))] [.int (nI 127), .int (nI (k))] (h.1, h.2.set m (fsS (sFold no9 (fun i => s i && decide (ht i ≤ t)) (fun i => i) (k)))) 0 0) 128 1 ?_ ?_ (by decide)
  · skip
    refine hK _ _ _ _ _ _ (And.intro (fun _ => ?_) (fun c9 => absurd (nI_lt (by decide) (by decide)) c9))
    exact hK _ _ _ _ _ _ (r_vret rfl rfl rfl hQ)
  · intro k h0k hk ihk
    refine hK _ _ _ _ _ _ (And.intro (fun c9 => absurd c9 (nI_nlt (by omega) (by omega))) (fun _ => ?_))
    iterate 2 refine hK _ _ _ _ _ _ (?_ : K _ _ _ _ _ _)
    refine hK _ _ _ _ _ _ (r_callV rfl (fun _ => rfl) (gn hqm hq0) (b0 rfl rfl rfl) (kX1_holds (f := k) (by omega) (gn hqm hq0) (?_ : K _ _ _ _ _ _)))
    refine hK _ _ _ _ _ _ (And.intro (fun c1 => ?_) (fun c1 => ?_))
    · skip
      iterate 4 refine hK _ _ _ _ _ _ (?_ : K _ _ _ _ _ _)
      rw [nI_add k 1]
      rw [sF_f (by simp [b2i_0.mp c1])] at ihk
      first | exact ihk | exact hW _ _ _ _ _ _ _ (by simp) ihk
    · skip
      iterate 1 refine hK _ _ _ _ _ _ (?_ : K _ _ _ _ _ _)
      refine hK _ _ _ _ _ _ (r_callN rfl (fun _ => rfl) (b0 rfl rfl rfl) (kX6_heightOf (f := k) (by omega) (by omega) (?_ : K _ _ _ _ _ _)))
      iterate 1 refine hK _ _ _ _ _ _ (?_ : K _ _ _ _ _ _)
      refine hK _ _ _ _ _ _ (And.intro (fun c2 => ?_) (fun c2 => ?_))
      · skip
        iterate 4 refine hK _ _ _ _ _ _ (?_ : K _ _ _ _ _ _)
        have e2 : ¬ ht k ≤ t := fun e => nI_nlt e (by omega) c2
        rw [nI_add k 1]
        rw [sF_f (by simp [e2])] at ihk
        first | exact ihk | exact hW _ _ _ _ _ _ _ (by simp) ihk
      · skip
        iterate 2 refine hK _ _ _ _ _ _ (?_ : K _ _ _ _ _ _)
        refine hK _ _ _ _ _ _ (r_callV rfl (fun _ => rfl) (gs hm0) (b0 rfl rfl rfl) (kX1_add (f := k) (by omega) (gs hm0) (?_ : K _ _ _ _ _ _)))
        iterate 4 refine hK _ _ _ _ _ _ (?_ : K _ _ _ _ _ _)
        have e2 : ht k ≤ t := Nat.le_of_not_lt fun e => c2 (nI_lt e (by have := ht_lt k (by omega); omega))
        have e1 : s k = true := Bool.of_not_eq_false (fun e => c1 (b2i_0.mpr e))
        rw [nI_add k 1]
        dsimp only
        rw [List.set_set]
        rw [sF_t (by omega) (by simp [e1, e2])] at ihk
        first | exact ihk | exact hW _ _ _ _ _ _ _ (by simp) ihk

set_option maxRecDepth 10000 in
/-- Making.makeAbout -/
theorem kX3_makeAbout {S : Nat × (Nat → Int32)} {d : Nat} {h : eH} {Q : eQ} {q m : Nat} {s u : Nat → Bool} (hqm : m ≠ q) (hq0 : h.2[q]? = some (fsS s)) (hm0 : h.2[m]? = some (fsS u)) {c : Nat} {b : Bool} (hc : c < 128) (hQ : Q (.inl none) (h.1, h.2.set m (fsS (sFold no9 (fun i => (!b || i &&& c == 0) && (s i && s (i ||| c))) (fun i => i) 128)))) : okCall S MT (d + 2) nX3_makeAbout [.ref (q + 1), .int (nI c), .int (b2i b), .ref (m + 1)] h Q := by
  refine okc (M := MX3_makeAbout) rfl rfl fun K hK hW => ?_
  show K 0 [(0, .ref (q + 1)), (1, .int (nI c)), (2, .int (b2i b)), (3, .ref (m + 1))] [] h 0 0
  iterate 1 refine hK _ _ _ _ _ _ (?_ : K _ _ _ _ _ _)
  refine hK _ _ _ _ _ _ (r_callV rfl (fun _ => rfl) hm0 (b0 rfl rfl rfl) (kX1_empty hm0 (?_ : K _ _ _ _ _ _)))
  iterate 4 refine hK _ _ _ _ _ _ (?_ : K _ _ _ _ _ _)
  have e0 : (h.1, (h.2.set m (fsS (fun _ => false)))) = (h.1, h.2.set m (fsS (sFold no9 (fun i => (!b || i &&& c == 0) && (s i && s (i ||| c))) (fun i => i) 1))) := rfl
  rw [e0]
  refine hW _ _ [(4, .int (nI (1))), (0, .ref (q + 1)), (1, .int (nI c)), (2, .int (b2i b)), (3, .ref (m + 1))] _ _ _ _ (by simp) ?_
  refine up (P := fun k => K 11 [(4, .int (nI (k))), (0, .ref (q + 1)), (1, .int (nI c)), (2, .int (b2i b)), (3, .ref (m + 1))] [.int (nI 127), .int (nI (k))] (h.1, h.2.set m (fsS (sFold no9 (fun i => (!b || i &&& c == 0) && (s i && s (i ||| c))) (fun i => i) (k)))) 0 0) 128 1 ?_ ?_ (by decide)
  · skip
    refine hK _ _ _ _ _ _ (And.intro (fun _ => ?_) (fun c9 => absurd (nI_lt (by decide) (by decide)) c9))
    exact hK _ _ _ _ _ _ (r_vret rfl rfl rfl hQ)
  · intro k h0k hk ihk
    refine hK _ _ _ _ _ _ (And.intro (fun c9 => absurd c9 (nI_nlt (by omega) (by omega))) (fun _ => ?_))
    iterate 1 refine hK _ _ _ _ _ _ (?_ : K _ _ _ _ _ _)
    refine hK _ _ _ _ _ _ (And.intro (fun c1 => ?_) (fun c1 => ?_))
    · skip
      iterate 4 refine hK _ _ _ _ _ _ (?_ : K _ _ _ _ _ _)
      refine hK _ _ _ _ _ _ (And.intro (fun c9 => absurd c9 (by decide +kernel)) (fun _ => ?_))
      iterate 2 refine hK _ _ _ _ _ _ (?_ : K _ _ _ _ _ _)
      refine hK _ _ _ _ _ _ (r_callV rfl (fun _ => rfl) (gn hqm hq0) (b0 rfl rfl rfl) (kX1_holds (f := k) (by omega) (gn hqm hq0) (?_ : K _ _ _ _ _ _)))
      refine hK _ _ _ _ _ _ (And.intro (fun c2 => ?_) (fun c2 => ?_))
      · skip
        iterate 4 refine hK _ _ _ _ _ _ (?_ : K _ _ _ _ _ _)
        have ew : (!b || k &&& c == 0) = true := by rw [b2i_0.mp c1]; rfl
        rw [nI_add k 1]
        rw [sF_f (by simp [b2i_0.mp c2])] at ihk
        first | exact ihk | exact hW _ _ _ _ _ _ _ (by simp) ihk
      · skip
        iterate 4 refine hK _ _ _ _ _ _ (?_ : K _ _ _ _ _ _)
        refine hK _ _ _ _ _ _ (r_callV rfl (fun _ => rfl) (gn hqm hq0) (b0 rfl rfl rfl) (okW (by rw [nx_or]) (kX1_holds (f := k ||| c) (or_128 (by omega) hc) (gn hqm hq0) (?_ : K _ _ _ _ _ _))))
        refine hK _ _ _ _ _ _ (And.intro (fun c3 => ?_) (fun c3 => ?_))
        · skip
          iterate 4 refine hK _ _ _ _ _ _ (?_ : K _ _ _ _ _ _)
          have ew : (!b || k &&& c == 0) = true := by rw [b2i_0.mp c1]; rfl
          rw [nI_add k 1]
          rw [sF_f (by simp [b2i_0.mp c3])] at ihk
          first | exact ihk | exact hW _ _ _ _ _ _ _ (by simp) ihk
        · skip
          iterate 2 refine hK _ _ _ _ _ _ (?_ : K _ _ _ _ _ _)
          refine hK _ _ _ _ _ _ (r_callV rfl (fun _ => rfl) (gs hm0) (b0 rfl rfl rfl) (kX1_add (f := k) (by omega) (gs hm0) (?_ : K _ _ _ _ _ _)))
          iterate 4 refine hK _ _ _ _ _ _ (?_ : K _ _ _ _ _ _)
          have ew : (!b || k &&& c == 0) = true := by rw [b2i_0.mp c1]; rfl
          have e3 : s k = true := Bool.of_not_eq_false (fun e => c2 (b2i_0.mpr e))
          have e4 : s (k ||| c) = true := Bool.of_not_eq_false (fun e => c3 (b2i_0.mpr e))
          rw [nI_add k 1]
          dsimp only
          rw [List.set_set]
          rw [sF_t (by omega) (by simp only [ew, e3, e4, Bool.and_self])] at ihk
          first | exact ihk | exact hW _ _ _ _ _ _ _ (by simp) ihk
    · skip
      iterate 3 refine hK _ _ _ _ _ _ (?_ : K _ _ _ _ _ _)
      refine hK _ _ _ _ _ _ (And.intro (fun c4 => ?_) (fun c4 => ?_))
      · skip
        iterate 4 refine hK _ _ _ _ _ _ (?_ : K _ _ _ _ _ _)
        refine hK _ _ _ _ _ _ (And.intro (fun c9 => absurd c9 (by decide +kernel)) (fun _ => ?_))
        iterate 2 refine hK _ _ _ _ _ _ (?_ : K _ _ _ _ _ _)
        refine hK _ _ _ _ _ _ (r_callV rfl (fun _ => rfl) (gn hqm hq0) (b0 rfl rfl rfl) (kX1_holds (f := k) (by omega) (gn hqm hq0) (?_ : K _ _ _ _ _ _)))
        refine hK _ _ _ _ _ _ (And.intro (fun c5 => ?_) (fun c5 => ?_))
        · skip
          iterate 4 refine hK _ _ _ _ _ _ (?_ : K _ _ _ _ _ _)
          have ew : (!b || k &&& c == 0) = true := by
            have ez : k &&& c = 0 := (nI_z (a := k &&& c) (by have := Nat.and_le_left (n := k) (m := c); omega)).mp ((nx_and k c).symm.trans c4)
            rw [ez]; simp
          rw [nI_add k 1]
          rw [sF_f (by simp [b2i_0.mp c5])] at ihk
          first | exact ihk | exact hW _ _ _ _ _ _ _ (by simp) ihk
        · skip
          iterate 4 refine hK _ _ _ _ _ _ (?_ : K _ _ _ _ _ _)
          refine hK _ _ _ _ _ _ (r_callV rfl (fun _ => rfl) (gn hqm hq0) (b0 rfl rfl rfl) (okW (by rw [nx_or]) (kX1_holds (f := k ||| c) (or_128 (by omega) hc) (gn hqm hq0) (?_ : K _ _ _ _ _ _))))
          refine hK _ _ _ _ _ _ (And.intro (fun c6 => ?_) (fun c6 => ?_))
          · skip
            iterate 4 refine hK _ _ _ _ _ _ (?_ : K _ _ _ _ _ _)
            have ew : (!b || k &&& c == 0) = true := by
              have ez : k &&& c = 0 := (nI_z (a := k &&& c) (by have := Nat.and_le_left (n := k) (m := c); omega)).mp ((nx_and k c).symm.trans c4)
              rw [ez]; simp
            rw [nI_add k 1]
            rw [sF_f (by simp [b2i_0.mp c6])] at ihk
            first | exact ihk | exact hW _ _ _ _ _ _ _ (by simp) ihk
          · skip
            iterate 2 refine hK _ _ _ _ _ _ (?_ : K _ _ _ _ _ _)
            refine hK _ _ _ _ _ _ (r_callV rfl (fun _ => rfl) (gs hm0) (b0 rfl rfl rfl) (kX1_add (f := k) (by omega) (gs hm0) (?_ : K _ _ _ _ _ _)))
            iterate 4 refine hK _ _ _ _ _ _ (?_ : K _ _ _ _ _ _)
            have ew : (!b || k &&& c == 0) = true := by
              have ez : k &&& c = 0 := (nI_z (a := k &&& c) (by have := Nat.and_le_left (n := k) (m := c); omega)).mp ((nx_and k c).symm.trans c4)
              rw [ez]; simp
            have e3 : s k = true := Bool.of_not_eq_false (fun e => c5 (b2i_0.mpr e))
            have e4 : s (k ||| c) = true := Bool.of_not_eq_false (fun e => c6 (b2i_0.mpr e))
            rw [nI_add k 1]
            dsimp only
            rw [List.set_set]
            rw [sF_t (by omega) (by simp only [ew, e3, e4, Bool.and_self])] at ihk
            first | exact ihk | exact hW _ _ _ _ _ _ _ (by simp) ihk
      · skip
        iterate 3 refine hK _ _ _ _ _ _ (?_ : K _ _ _ _ _ _)
        refine hK _ _ _ _ _ _ (And.intro (fun _ => ?_) (fun c9 => absurd (rfl) c9))
        iterate 4 refine hK _ _ _ _ _ _ (?_ : K _ _ _ _ _ _)
        have ew : (!b || k &&& c == 0) = false := by
          have eb : b = true := Bool.of_not_eq_false (fun e => c1 (b2i_0.mpr e))
          have ec : ¬ k &&& c = 0 := fun e => c4 (by rw [nx_and, e]; rfl)
          simp [eb, ec]
        rw [nI_add k 1]
        rw [sF_f (by simp [ew])] at ihk
        first | exact ihk | exact hW _ _ _ _ _ _ _ (by simp) ihk

set_option maxRecDepth 10000 in
/-- Making.addJoined -/
theorem kX3_addJoined {S : Nat × (Nat → Int32)} {d : Nat} {h : eH} {Q : eQ} {q m : Nat} {s u : Nat → Bool} (hqm : m ≠ q) (hq0 : h.2[q]? = some (fsS s)) (hm0 : h.2[m]? = some (fsS u)) {c : Nat} (hc : c < 128) (hQ : Q (.inl none) (h.1, h.2.set m (fsS (sFold (sIns u c) s (fun i => i ||| c) 128)))) : okCall S MT (d + 2) nX3_addJoined [.ref (q + 1), .int (nI c), .ref (m + 1)] h Q := by
  refine okc (M := MX3_addJoined) rfl rfl fun K hK hW => ?_
  show K 0 [(0, .ref (q + 1)), (1, .int (nI c)), (2, .ref (m + 1))] [] h 0 0
  iterate 2 refine hK _ _ _ _ _ _ (?_ : K _ _ _ _ _ _)
  refine hK _ _ _ _ _ _ (r_callV rfl (fun _ => rfl) hm0 (b0 rfl rfl rfl) (kX1_add hc hm0 (?_ : K _ _ _ _ _ _)))
  iterate 4 refine hK _ _ _ _ _ _ (?_ : K _ _ _ _ _ _)
  have e0 : (h.1, h.2.set m (fsS (sIns u c))) = (h.1, h.2.set m (fsS (sFold (sIns u c) s (fun i => i ||| c) 1))) := rfl
  rw [e0]
  refine hW _ _ [(3, .int (nI (1))), (0, .ref (q + 1)), (1, .int (nI c)), (2, .ref (m + 1))] _ _ _ _ (by simp) ?_
  refine up (P := fun k => K 10 [(3, .int (nI (k))), (0, .ref (q + 1)), (1, .int (nI c)), (2, .ref (m + 1))] [.int (nI 127), .int (nI (k))] (h.1, h.2.set m (fsS (sFold (sIns u c) s (fun i => i ||| c) (k)))) 0 0) 128 1 ?_ ?_ (by decide)
  · skip
    refine hK _ _ _ _ _ _ (And.intro (fun _ => ?_) (fun c9 => absurd (nI_lt (by decide) (by decide)) c9))
    exact hK _ _ _ _ _ _ (r_vret rfl rfl rfl hQ)
  · intro k h0k hk ihk
    refine hK _ _ _ _ _ _ (And.intro (fun c9 => absurd c9 (nI_nlt (by omega) (by omega))) (fun _ => ?_))
    iterate 2 refine hK _ _ _ _ _ _ (?_ : K _ _ _ _ _ _)
    refine hK _ _ _ _ _ _ (r_callV rfl (fun _ => rfl) (gn hqm hq0) (b0 rfl rfl rfl) (kX1_holds (f := k) (by omega) (gn hqm hq0) (?_ : K _ _ _ _ _ _)))
    refine hK _ _ _ _ _ _ (And.intro (fun c1 => ?_) (fun c1 => ?_))
    · skip
      iterate 4 refine hK _ _ _ _ _ _ (?_ : K _ _ _ _ _ _)
      rw [nI_add k 1]
      rw [sF_f (b2i_0.mp c1)] at ihk
      first | exact ihk | exact hW _ _ _ _ _ _ _ (by simp) ihk
    · skip
      iterate 4 refine hK _ _ _ _ _ _ (?_ : K _ _ _ _ _ _)
      refine hK _ _ _ _ _ _ (r_callV rfl (fun _ => rfl) (gs hm0) (b0 rfl rfl rfl) (okW (by rw [nx_or]) (kX1_add (f := k ||| c) (or_128 (by omega) hc) (gs hm0) (?_ : K _ _ _ _ _ _))))
      iterate 4 refine hK _ _ _ _ _ _ (?_ : K _ _ _ _ _ _)
      rw [nI_add k 1]
      dsimp only
      rw [List.set_set]
      rw [sF_t (by omega) (Bool.of_not_eq_false (fun e => c1 (b2i_0.mpr e)))] at ihk
      first | exact ihk | exact hW _ _ _ _ _ _ _ (by simp) ihk

def coneS (s : Nat → Bool) (c : Nat) : Nat → Bool := sFold (sIns s c) s (fun i => i ||| c) 128
def liftS (s : Nat → Bool) (c e : Nat) : Nat → Bool := sFold (sIns (coneS s c) e) s (fun i => i ||| e) 128
set_option maxRecDepth 10000 in
/-- Making.makeCone -/
theorem kX3_makeCone {S : Nat × (Nat → Int32)} {d : Nat} {h : eH} {Q : eQ} {q m : Nat} {s u : Nat → Bool} (hqm : m ≠ q) (hq0 : h.2[q]? = some (fsS s)) (hm0 : h.2[m]? = some (fsS u)) {c : Nat} (hc : c < 128) (hQ : Q (.inl none) (h.1, h.2.set m (fsS (coneS s c)))) : okCall S MT (d + 3) nX3_makeCone [.ref (q + 1), .int (nI c), .ref (m + 1)] h Q := by
  refine okc (M := MX3_makeCone) rfl rfl fun K hK hW => ?_
  show K 0 [(0, .ref (q + 1)), (1, .int (nI c)), (2, .ref (m + 1))] [] h 0 0
  iterate 2 refine hK _ _ _ _ _ _ (?_ : K _ _ _ _ _ _)
  refine hK _ _ _ _ _ _ (r_callV rfl (fun _ => rfl) hm0 (b0 rfl rfl rfl) (kX1_become hqm hm0 hq0 (?_ : K _ _ _ _ _ _)))
  iterate 3 refine hK _ _ _ _ _ _ (?_ : K _ _ _ _ _ _)
  refine hK _ _ _ _ _ _ (r_callS rfl (fun _ => rfl) (b0 rfl rfl rfl) (kX3_addJoined hqm (gn hqm hq0) (gs hm0) hc (?_ : K _ _ _ _ _ _)))
  exact hK _ _ _ _ _ _ (r_vret rfl rfl rfl (by dsimp only; rw [List.set_set]; exact hQ))

set_option maxRecDepth 10000 in
/-- Making.makeLift -/
theorem kX3_makeLift {S : Nat × (Nat → Int32)} {d : Nat} {h : eH} {Q : eQ} {q m : Nat} {s u : Nat → Bool} (hqm : m ≠ q) (hq0 : h.2[q]? = some (fsS s)) (hm0 : h.2[m]? = some (fsS u)) {c e : Nat} (hc : c < 128) (he : e < 128) (hQ : Q (.inl none) (h.1, h.2.set m (fsS (liftS s c e)))) : okCall S MT (d + 3) nX3_makeLift [.ref (q + 1), .int (nI c), .int (nI e), .ref (m + 1)] h Q := by
  refine okc (M := MX3_makeLift) rfl rfl fun K hK hW => ?_
  show K 0 [(0, .ref (q + 1)), (1, .int (nI c)), (2, .int (nI e)), (3, .ref (m + 1))] [] h 0 0
  iterate 2 refine hK _ _ _ _ _ _ (?_ : K _ _ _ _ _ _)
  refine hK _ _ _ _ _ _ (r_callV rfl (fun _ => rfl) hm0 (b0 rfl rfl rfl) (kX1_become hqm hm0 hq0 (?_ : K _ _ _ _ _ _)))
  iterate 3 refine hK _ _ _ _ _ _ (?_ : K _ _ _ _ _ _)
  refine hK _ _ _ _ _ _ (r_callS rfl (fun _ => rfl) (b0 rfl rfl rfl) (kX3_addJoined hqm (gn hqm hq0) (gs hm0) hc (?_ : K _ _ _ _ _ _)))
  iterate 3 refine hK _ _ _ _ _ _ (?_ : K _ _ _ _ _ _)
  refine hK _ _ _ _ _ _ (r_callS rfl (fun _ => rfl) (b0 rfl rfl rfl) (kX3_addJoined hqm (gn hqm (gn hqm hq0)) (gs (gs hm0)) he (?_ : K _ _ _ _ _ _)))
  exact hK _ _ _ _ _ _ (r_vret rfl rfl rfl (by dsimp only; rw [List.set_set, List.set_set]; exact hQ))

set_option maxRecDepth 10000 in
/-- Making.makeOther -/
theorem kX3_makeOther {S : Nat × (Nat → Int32)} {d : Nat} {h : eH} {Q : eQ} {q m : Nat} {s u : Nat → Bool} (hqm : m ≠ q) (hq0 : h.2[q]? = some (fsS s)) (hm0 : h.2[m]? = some (fsS u)) {c : Nat} (hc1 : 1 ≤ c) (hc : c < 128) (hQ : Q (.inl none) (h.1, h.2.set m (fsS (sFold no9 (fun i => isP i c && !s (c ^^^ i)) (fun i => i) c)))) : okCall S MT (d + 2) nX3_makeOther [.ref (q + 1), .int (nI c), .ref (m + 1)] h Q := by
  refine okc (M := MX3_makeOther) rfl rfl fun K hK hW => ?_
  show K 0 [(0, .ref (q + 1)), (1, .int (nI c)), (2, .ref (m + 1))] [] h 0 0
  iterate 1 refine hK _ _ _ _ _ _ (?_ : K _ _ _ _ _ _)
  refine hK _ _ _ _ _ _ (r_callV rfl (fun _ => rfl) hm0 (b0 rfl rfl rfl) (kX1_empty hm0 (?_ : K _ _ _ _ _ _)))
  iterate 4 refine hK _ _ _ _ _ _ (?_ : K _ _ _ _ _ _)
  have e0 : (h.1, (h.2.set m (fsS (fun _ => false)))) = (h.1, h.2.set m (fsS (sFold no9 (fun i => isP i c && !s (c ^^^ i)) (fun i => i) 1))) := rfl
  rw [e0]
  refine hW _ _ [(3, .int (nI (1))), (0, .ref (q + 1)), (1, .int (nI c)), (2, .ref (m + 1))] _ _ _ _ (by simp) ?_
  refine up (P := fun k => K 8 [(3, .int (nI (k))), (0, .ref (q + 1)), (1, .int (nI c)), (2, .ref (m + 1))] [.int (nI c), .int (nI (k))] (h.1, h.2.set m (fsS (sFold no9 (fun i => isP i c && !s (c ^^^ i)) (fun i => i) (k)))) 0 0) c 1 ?_ ?_ hc1
  · skip
    refine hK _ _ _ _ _ _ (And.intro (fun _ => ?_) (fun c9 => absurd (nI_le (Nat.le_refl c) (by omega)) c9))
    exact hK _ _ _ _ _ _ (r_vret rfl rfl rfl hQ)
  · intro k h0k hk ihk
    refine hK _ _ _ _ _ _ (And.intro (fun c9 => absurd c9 (nI_ge (by omega) (by omega))) (fun _ => ?_))
    iterate 4 refine hK _ _ _ _ _ _ (?_ : K _ _ _ _ _ _)
    refine hK _ _ _ _ _ _ (And.intro (fun c1 => ?_) (fun c1 => ?_))
    · skip
      iterate 4 refine hK _ _ _ _ _ _ (?_ : K _ _ _ _ _ _)
      refine hK _ _ _ _ _ _ (r_callV rfl (fun _ => rfl) (gn hqm hq0) (b0 rfl rfl rfl) (okW (by rw [nx_xor]) (kX1_holds (f := c ^^^ k) (xor_128 hc (by omega)) (gn hqm hq0) (?_ : K _ _ _ _ _ _))))
      refine hK _ _ _ _ _ _ (And.intro (fun c2 => ?_) (fun c2 => ?_))
      · skip
        iterate 2 refine hK _ _ _ _ _ _ (?_ : K _ _ _ _ _ _)
        refine hK _ _ _ _ _ _ (r_callV rfl (fun _ => rfl) (gs hm0) (b0 rfl rfl rfl) (kX1_add (f := k) (by omega) (gs hm0) (?_ : K _ _ _ _ _ _)))
        iterate 4 refine hK _ _ _ _ _ _ (?_ : K _ _ _ _ _ _)
        have e1 : isP k c = true := (isP_I (by omega)).mp c1
        have e2 : s (c ^^^ k) = false := b2i_0.mp c2
        rw [nI_add k 1]
        dsimp only
        rw [List.set_set]
        rw [sF_t (by omega) (by simp [e1, e2])] at ihk
        first | exact ihk | exact hW _ _ _ _ _ _ _ (by simp) ihk
      · skip
        iterate 4 refine hK _ _ _ _ _ _ (?_ : K _ _ _ _ _ _)
        have e1 : isP k c = true := (isP_I (by omega)).mp c1
        have e2 : s (c ^^^ k) = true := Bool.of_not_eq_false (fun e => c2 (b2i_0.mpr e))
        rw [nI_add k 1]
        rw [sF_f (by simp [e2])] at ihk
        first | exact ihk | exact hW _ _ _ _ _ _ _ (by simp) ihk
    · skip
      iterate 4 refine hK _ _ _ _ _ _ (?_ : K _ _ _ _ _ _)
      have e1 : isP k c = false := Bool.eq_false_iff.mpr (fun e => c1 ((isP_I (by omega)).mpr e))
      rw [nI_add k 1]
      rw [sF_f (by simp [e1])] at ihk
      first | exact ihk | exact hW _ _ _ _ _ _ _ (by simp) ihk

def exch (f a b : Nat) : Nat := bif f.testBit a == f.testBit b then f else f ^^^ (2 ^ a ||| 2 ^ b)
set_option maxRecDepth 10000 in
/-- Making.exchanged -/
theorem kX3_exchanged {S : Nat × (Nat → Int32)} {d : Nat} {h : eH} {Q : eQ} {f a b : Nat} (hf : f < 128) (ha : a < 7) (hb : b < 7) (hQ : Q (.inl (some (.int (nI (exch f a b))))) h) : okCall S MT (d + 1) nX3_exchanged [.int (nI f), .int (nI a), .int (nI b)] h Q := by
  refine okc (M := MX3_exchanged) rfl rfl fun K hK hW => ?_
  show K 0 [(0, .int (nI f)), (1, .int (nI a)), (2, .int (nI b))] [] h 0 0
  iterate 5 refine hK _ _ _ _ _ _ (?_ : K _ _ _ _ _ _)
  refine hK _ _ _ _ _ _ (And.intro (fun c1 => ?_) (fun c1 => ?_))
  · skip
    iterate 7 refine hK _ _ _ _ _ _ (?_ : K _ _ _ _ _ _)
    refine hK _ _ _ _ _ _ (And.intro (fun c2 => ?_) (fun c2 => ?_))
    · skip
      iterate 4 refine hK _ _ _ _ _ _ (?_ : K _ _ _ _ _ _)
      refine hK _ _ _ _ _ _ (And.intro (fun _ => ?_) (fun c9 => absurd (rfl) c9))
      iterate 2 refine hK _ _ _ _ _ _ (?_ : K _ _ _ _ _ _)
      have ea : f.testBit a = false := (bit_z hf ha).mp (sh1 a ha ▸ c1)
      have eb : f.testBit b = false := (bit_z hf hb).mp (sh1 b hb ▸ c2)
      have ex : exch f a b = f := by unfold exch; rw [ea, eb]; rfl
      rw [ex] at hQ
      exact hK _ _ _ _ _ _ (r_iret rfl rfl rfl rfl hQ)
    · skip
      iterate 5 refine hK _ _ _ _ _ _ (?_ : K _ _ _ _ _ _)
      refine hK _ _ _ _ _ _ (And.intro (fun c9 => absurd c9 (by decide +kernel)) (fun _ => ?_))
      iterate 9 refine hK _ _ _ _ _ _ (?_ : K _ _ _ _ _ _)
      have ea : f.testBit a = false := (bit_z hf ha).mp (sh1 a ha ▸ c1)
      have eb : f.testBit b = true := Bool.of_not_eq_false (fun e => c2 (sh1 b hb ▸ (bit_z hf hb).mpr e))
      have ex : exch f a b = f ^^^ (2 ^ a ||| 2 ^ b) := by unfold exch; rw [ea, eb]; rfl
      rw [ex] at hQ
      exact hK _ _ _ _ _ _ (r_iret rfl rfl rfl rfl (by rw [sh1 a ha, sh1 b hb, nx_or, nx_xor]; exact hQ))
  · skip
    iterate 8 refine hK _ _ _ _ _ _ (?_ : K _ _ _ _ _ _)
    refine hK _ _ _ _ _ _ (And.intro (fun c3 => ?_) (fun c3 => ?_))
    · skip
      iterate 4 refine hK _ _ _ _ _ _ (?_ : K _ _ _ _ _ _)
      refine hK _ _ _ _ _ _ (And.intro (fun c9 => absurd c9 (by decide +kernel)) (fun _ => ?_))
      iterate 9 refine hK _ _ _ _ _ _ (?_ : K _ _ _ _ _ _)
      have ea : f.testBit a = true := Bool.of_not_eq_false (fun e => c1 (sh1 a ha ▸ (bit_z hf ha).mpr e))
      have eb : f.testBit b = false := (bit_z hf hb).mp (sh1 b hb ▸ c3)
      have ex : exch f a b = f ^^^ (2 ^ a ||| 2 ^ b) := by unfold exch; rw [ea, eb]; rfl
      rw [ex] at hQ
      exact hK _ _ _ _ _ _ (r_iret rfl rfl rfl rfl (by rw [sh1 a ha, sh1 b hb, nx_or, nx_xor]; exact hQ))
    · skip
      iterate 5 refine hK _ _ _ _ _ _ (?_ : K _ _ _ _ _ _)
      refine hK _ _ _ _ _ _ (And.intro (fun _ => ?_) (fun c9 => absurd (rfl) c9))
      iterate 2 refine hK _ _ _ _ _ _ (?_ : K _ _ _ _ _ _)
      have ea : f.testBit a = true := Bool.of_not_eq_false (fun e => c1 (sh1 a ha ▸ (bit_z hf ha).mpr e))
      have eb : f.testBit b = true := Bool.of_not_eq_false (fun e => c3 (sh1 b hb ▸ (bit_z hf hb).mpr e))
      have ex : exch f a b = f := by unfold exch; rw [ea, eb]; rfl
      rw [ex] at hQ
      exact hK _ _ _ _ _ _ (r_iret rfl rfl rfl rfl hQ)

theorem exch_lt {f a b : Nat} (hf : f < 128) (ha : a < 7) (hb : b < 7) : exch f a b < 128 := by
  unfold exch
  cases f.testBit a == f.testBit b
  · exact xor_128 hf (or_128 (pw_128 a ha) (pw_128 b hb))
  · exact hf
set_option maxRecDepth 10000 in
/-- Making.makeExchanged -/
theorem kX3_makeExchanged {S : Nat × (Nat → Int32)} {d : Nat} {h : eH} {Q : eQ} {q m : Nat} {s u : Nat → Bool} (hqm : m ≠ q) (hq0 : h.2[q]? = some (fsS s)) (hm0 : h.2[m]? = some (fsS u)) {a b : Nat} (ha : a < 7) (hb : b < 7) (hQ : Q (.inl none) (h.1, h.2.set m (fsS (sFold no9 s (fun i => exch i a b) 128)))) : okCall S MT (d + 2) nX3_makeExchanged [.ref (q + 1), .int (nI a), .int (nI b), .ref (m + 1)] h Q := by
  refine okc (M := MX3_makeExchanged) rfl rfl fun K hK hW => ?_
  show K 0 [(0, .ref (q + 1)), (1, .int (nI a)), (2, .int (nI b)), (3, .ref (m + 1))] [] h 0 0
  iterate 1 refine hK _ _ _ _ _ _ (?_ : K _ _ _ _ _ _)
  refine hK _ _ _ _ _ _ (r_callV rfl (fun _ => rfl) hm0 (b0 rfl rfl rfl) (kX1_empty hm0 (?_ : K _ _ _ _ _ _)))
  iterate 4 refine hK _ _ _ _ _ _ (?_ : K _ _ _ _ _ _)
  have e0 : (h.1, (h.2.set m (fsS (fun _ => false)))) = (h.1, h.2.set m (fsS (sFold no9 s (fun i => exch i a b) 1))) := rfl
  rw [e0]
  refine hW _ _ [(4, .int (nI (1))), (0, .ref (q + 1)), (1, .int (nI a)), (2, .int (nI b)), (3, .ref (m + 1))] _ _ _ _ (by simp) ?_
  refine up (P := fun k => K 11 [(4, .int (nI (k))), (0, .ref (q + 1)), (1, .int (nI a)), (2, .int (nI b)), (3, .ref (m + 1))] [.int (nI 127), .int (nI (k))] (h.1, h.2.set m (fsS (sFold no9 s (fun i => exch i a b) (k)))) 0 0) 128 1 ?_ ?_ (by decide)
  · skip
    refine hK _ _ _ _ _ _ (And.intro (fun _ => ?_) (fun c9 => absurd (nI_lt (by decide) (by decide)) c9))
    exact hK _ _ _ _ _ _ (r_vret rfl rfl rfl hQ)
  · intro k h0k hk ihk
    refine hK _ _ _ _ _ _ (And.intro (fun c9 => absurd c9 (nI_nlt (by omega) (by omega))) (fun _ => ?_))
    iterate 2 refine hK _ _ _ _ _ _ (?_ : K _ _ _ _ _ _)
    refine hK _ _ _ _ _ _ (r_callV rfl (fun _ => rfl) (gn hqm hq0) (b0 rfl rfl rfl) (kX1_holds (f := k) (by omega) (gn hqm hq0) (?_ : K _ _ _ _ _ _)))
    refine hK _ _ _ _ _ _ (And.intro (fun c1 => ?_) (fun c1 => ?_))
    · skip
      iterate 4 refine hK _ _ _ _ _ _ (?_ : K _ _ _ _ _ _)
      rw [nI_add k 1]
      rw [sF_f (b2i_0.mp c1)] at ihk
      first | exact ihk | exact hW _ _ _ _ _ _ _ (by simp) ihk
    · skip
      iterate 4 refine hK _ _ _ _ _ _ (?_ : K _ _ _ _ _ _)
      refine hK _ _ _ _ _ _ (r_callS rfl (fun _ => rfl) (b0 rfl rfl rfl) (kX3_exchanged (f := k) (by omega) ha hb (?_ : K _ _ _ _ _ _)))
      refine hK _ _ _ _ _ _ (r_callV rfl (fun _ => rfl) (gs hm0) (b0 rfl rfl rfl) (kX1_add (f := exch k a b) (exch_lt (by omega) ha hb) (gs hm0) (?_ : K _ _ _ _ _ _)))
      iterate 4 refine hK _ _ _ _ _ _ (?_ : K _ _ _ _ _ _)
      rw [nI_add k 1]
      dsimp only
      rw [List.set_set]
      rw [sF_t (by omega) (Bool.of_not_eq_false (fun e => c1 (b2i_0.mpr e)))] at ihk
      first | exact ihk | exact hW _ _ _ _ _ _ _ (by simp) ihk

abbrev lieP (s : Nat → Bool) (f : Nat) : Nat → Bool := fun c => !(f ||| 2 ^ c == f) && s (f ||| 2 ^ c)
def liesIn (s : Nat → Bool) (f : Nat) : Bool := !decide (fb_ct (lieP s f) 7 = 0)
theorem or_I {f k : Nat} (hf : f < 128) (hk : k < 7) : nI f ||| nI (2 ^ k) = nI f ↔ f ||| 2 ^ k = f := by
  have := or_128 hf (pw_128 k hk)
  rw [nx_or, nI_eq (by omega) (by omega)]
set_option maxRecDepth 10000 in
/-- Making.liesInAnother -/
theorem kX3_liesInAnother {S : Nat × (Nat → Int32)} {d : Nat} {h : eH} {Q : eQ} {q f : Nat} {s : Nat → Bool} (hf : f < 128) (hq0 : h.2[q]? = some (fsS s)) (hQ : Q (.inl (some (.int (b2i (liesIn s f))))) h) : okCall S MT (d + 2) nX3_liesInAnother [.ref (q + 1), .int (nI f)] h Q := by
  refine okc (M := MX3_liesInAnother) rfl rfl fun K hK hW => ?_
  show K 0 [(0, .ref (q + 1)), (1, .int (nI f))] [] h 0 0
  iterate 4 refine hK _ _ _ _ _ _ (?_ : K _ _ _ _ _ _)
  refine hW _ _ [(2, .int (nI (0))), (0, .ref (q + 1)), (1, .int (nI f))] _ _ _ _ (by simp) ?_
  refine up (P := fun k => fb_ct (lieP s f) (k) = 0 → K 5 [(2, .int (nI (k))), (0, .ref (q + 1)), (1, .int (nI f))] [.int (nI 7), .int (nI (k))] h 0 0) 7 0 ?_ ?_ (by decide) rfl
  · skip
    intro hh
    refine hK _ _ _ _ _ _ (And.intro (fun _ => ?_) (fun c9 => absurd (nI_le (Nat.le_refl 7) (by decide)) c9))
    iterate 1 refine hK _ _ _ _ _ _ (?_ : K _ _ _ _ _ _)
    have e3 : liesIn s f = false := by unfold liesIn; rw [hh]; rfl
    rw [e3] at hQ
    exact hK _ _ _ _ _ _ (r_iret rfl rfl rfl rfl hQ)
  · intro k h0k hk ihk hh
    refine hK _ _ _ _ _ _ (And.intro (fun c9 => absurd c9 (nI_ge (by omega) (by decide))) (fun _ => ?_))
    iterate 8 refine hK _ _ _ _ _ _ (?_ : K _ _ _ _ _ _)
    refine hK _ _ _ _ _ _ (And.intro (fun c1 => ?_) (fun c1 => ?_))
    · skip
      iterate 4 refine hK _ _ _ _ _ _ (?_ : K _ _ _ _ _ _)
      have e1 : f ||| 2 ^ k = f := (or_I hf hk).mp (sh1 k hk ▸ c1)
      have hh2 : fb_ct (lieP s f) (k + 1) = 0 := by rw [fb_ct_succ, hh]; simp [lieP, e1]
      rw [nI_add k 1]
      
      first | exact (ihk hh2) | exact hW _ _ _ _ _ _ _ (by simp) (ihk hh2)
    · skip
      iterate 2 refine hK _ _ _ _ _ _ (?_ : K _ _ _ _ _ _)
      refine hK _ _ _ _ _ _ (r_callV rfl (fun _ => rfl) (by assumption) (b0 rfl rfl rfl) (okW (by rw [sh1 k hk, nx_or]) (kX1_holds (f := f ||| 2 ^ k) (or_128 hf (pw_128 k hk)) hq0 (?_ : K _ _ _ _ _ _))))
      refine hK _ _ _ _ _ _ (And.intro (fun c2 => ?_) (fun c2 => ?_))
      · skip
        iterate 4 refine hK _ _ _ _ _ _ (?_ : K _ _ _ _ _ _)
        have e2 : s (f ||| 2 ^ k) = false := b2i_0.mp c2
        have hh2 : fb_ct (lieP s f) (k + 1) = 0 := by rw [fb_ct_succ, hh]; simp [lieP, e2]
        rw [nI_add k 1]
        
        first | exact (ihk hh2) | exact hW _ _ _ _ _ _ _ (by simp) (ihk hh2)
      · skip
        iterate 1 refine hK _ _ _ _ _ _ (?_ : K _ _ _ _ _ _)
        have e1 : ¬ f ||| 2 ^ k = f := fun e => c1 (by rw [sh1 k hk]; exact (or_I hf hk).mpr e)
        have e2 : s (f ||| 2 ^ k) = true := Bool.of_not_eq_false (fun e => c2 (b2i_0.mpr e))
        have e3 : liesIn s f = true := by
          unfold liesIn
          have h9 : lieP s f k = true := by simp [lieP, e1, e2]
          rw [decide_eq_false (fun e => by have := fb_ct_zero.mp e k hk; rw [h9] at this; cases this)]; rfl
        rw [e3] at hQ
        exact hK _ _ _ _ _ _ (r_iret rfl rfl rfl rfl hQ)

set_option maxRecDepth 10000 in
/-- Making.makeGreatest -/
theorem kX3_makeGreatest {S : Nat × (Nat → Int32)} {d : Nat} {h : eH} {Q : eQ} {q m : Nat} {s u : Nat → Bool} (hqm : m ≠ q) (hq0 : h.2[q]? = some (fsS s)) (hm0 : h.2[m]? = some (fsS u)) (hQ : Q (.inl none) (h.1, h.2.set m (fsS (sFold no9 (fun i => s i && !liesIn s i) (fun i => i) 128)))) : okCall S MT (d + 3) nX3_makeGreatest [.ref (q + 1), .ref (m + 1)] h Q := by
  refine okc (M := MX3_makeGreatest) rfl rfl fun K hK hW => ?_
  show K 0 [(0, .ref (q + 1)), (1, .ref (m + 1))] [] h 0 0
  iterate 1 refine hK _ _ _ _ _ _ (?_ : K _ _ _ _ _ _)
  refine hK _ _ _ _ _ _ (r_callV rfl (fun _ => rfl) hm0 (b0 rfl rfl rfl) (kX1_empty hm0 (?_ : K _ _ _ _ _ _)))
  iterate 4 refine hK _ _ _ _ _ _ (?_ : K _ _ _ _ _ _)
  have e0 : (h.1, (h.2.set m (fsS (fun _ => false)))) = (h.1, h.2.set m (fsS (sFold no9 (fun i => s i && !liesIn s i) (fun i => i) 1))) := rfl
  rw [e0]
  refine hW _ _ [(2, .int (nI (1))), (0, .ref (q + 1)), (1, .ref (m + 1))] _ _ _ _ (by simp) ?_
  refine up (P := fun k => K 9 [(2, .int (nI (k))), (0, .ref (q + 1)), (1, .ref (m + 1))] [.int (nI 127), .int (nI (k))] (h.1, h.2.set m (fsS (sFold no9 (fun i => s i && !liesIn s i) (fun i => i) (k)))) 0 0) 128 1 ?_ ?_ (by decide)
  · skip
    refine hK _ _ _ _ _ _ (And.intro (fun _ => ?_) (fun c9 => absurd (nI_lt (by decide) (by decide)) c9))
    exact hK _ _ _ _ _ _ (r_vret rfl rfl rfl hQ)
  · intro k h0k hk ihk
    refine hK _ _ _ _ _ _ (And.intro (fun c9 => absurd c9 (nI_nlt (by omega) (by omega))) (fun _ => ?_))
    iterate 2 refine hK _ _ _ _ _ _ (?_ : K _ _ _ _ _ _)
    refine hK _ _ _ _ _ _ (r_callV rfl (fun _ => rfl) (gn hqm hq0) (b0 rfl rfl rfl) (kX1_holds (f := k) (by omega) (gn hqm hq0) (?_ : K _ _ _ _ _ _)))
    refine hK _ _ _ _ _ _ (And.intro (fun c1 => ?_) (fun c1 => ?_))
    · skip
      iterate 4 refine hK _ _ _ _ _ _ (?_ : K _ _ _ _ _ _)
      rw [nI_add k 1]
      rw [sF_f (by simp [b2i_0.mp c1])] at ihk
      first | exact ihk | exact hW _ _ _ _ _ _ _ (by simp) ihk
    · skip
      iterate 2 refine hK _ _ _ _ _ _ (?_ : K _ _ _ _ _ _)
      refine hK _ _ _ _ _ _ (r_callS rfl (fun _ => rfl) (b0 rfl rfl rfl) (kX3_liesInAnother (f := k) (by omega) (gn hqm hq0) (?_ : K _ _ _ _ _ _)))
      refine hK _ _ _ _ _ _ (And.intro (fun c2 => ?_) (fun c2 => ?_))
      · skip
        iterate 2 refine hK _ _ _ _ _ _ (?_ : K _ _ _ _ _ _)
        refine hK _ _ _ _ _ _ (r_callV rfl (fun _ => rfl) (gs hm0) (b0 rfl rfl rfl) (kX1_add (f := k) (by omega) (gs hm0) (?_ : K _ _ _ _ _ _)))
        iterate 4 refine hK _ _ _ _ _ _ (?_ : K _ _ _ _ _ _)
        have e1 : s k = true := Bool.of_not_eq_false (fun e => c1 (b2i_0.mpr e))
        have e2 : liesIn s k = false := b2i_0.mp c2
        rw [nI_add k 1]
        dsimp only
        rw [List.set_set]
        rw [sF_t (by omega) (by simp [e1, e2])] at ihk
        first | exact ihk | exact hW _ _ _ _ _ _ _ (by simp) ihk
      · skip
        iterate 4 refine hK _ _ _ _ _ _ (?_ : K _ _ _ _ _ _)
        have e1 : s k = true := Bool.of_not_eq_false (fun e => c1 (b2i_0.mpr e))
        have e2 : liesIn s k = true := Bool.of_not_eq_false (fun e => c2 (b2i_0.mpr e))
        rw [nI_add k 1]
        rw [sF_f (by simp [e2])] at ihk
        first | exact ihk | exact hW _ _ _ _ _ _ _ (by simp) ihk

end MK
