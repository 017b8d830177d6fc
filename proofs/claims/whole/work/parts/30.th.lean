section TH
section W4
variable {S : Nat × (Nat → Int32)} {d : Nat} {Q : eQ} {b : Bool} {P : Nat → Nat → Bool} {R u v w : Nat → Bool} {kb : Nat → Nat} {f g e : Nat → Int32} {T : List va_E} {z : Nat} {s : Nat → Bool}
theorem w_tell0 (hz : (wl P R u v w kb f g e T)[z]? = some (fsS s)) (h1 : 14 ≠ z) (h2 : 18 ≠ z) (hs : Shp s) (hQ : ∀ kb2 f2, (∀ j, j < 7 → f2 j = nZ (hol s j)) → Q (.inl none) (b, wl P R u v w kb2 f2 g e T)) : okCall S MT (d + 5) nX2_tell [.ref 18, .ref (z + 1), .ref 12] (b, wl P R u v w kb f g e T) Q :=
  kX2_tell (q := 11) (a := 12) (b := 13) (c := 14) (w := 17) (v := 18) (f := f) (h := (b, wl P R u v w kb f g e T)) rfl rfl rfl rfl (by decide) h1 (by decide) rfl hz (by decide) (by decide) (by decide) h2 (by decide) (by decide) hs fun kb2 f2 h => hQ kb2 f2 h
theorem w_tell1 (hz : (wl P R u v w kb f g e T)[z]? = some (fsS s)) (h1 : 14 ≠ z) (h2 : 20 ≠ z) (hs : Shp s) (hQ : ∀ kb2 f2, (∀ j, j < 7 → f2 j = nZ (hol s j)) → Q (.inl none) (b, wl P R u v w kb2 f f2 e T)) : okCall S MT (d + 5) nX2_tell [.ref 20, .ref (z + 1), .ref 12] (b, wl P R u v w kb f g e T) Q :=
  kX2_tell (q := 11) (a := 12) (b := 13) (c := 14) (w := 19) (v := 20) (f := g) (h := (b, wl P R u v w kb f g e T)) rfl rfl rfl rfl (by decide) h1 (by decide) rfl hz (by decide) (by decide) (by decide) h2 (by decide) (by decide) hs fun kb2 f2 h => hQ kb2 f2 h
theorem w_tell2 (hz : (wl P R u v w kb f g e T)[z]? = some (fsS s)) (h1 : 14 ≠ z) (h2 : 22 ≠ z) (hs : Shp s) (hQ : ∀ kb2 f2, (∀ j, j < 7 → f2 j = nZ (hol s j)) → Q (.inl none) (b, wl P R u v w kb2 f g f2 T)) : okCall S MT (d + 5) nX2_tell [.ref 22, .ref (z + 1), .ref 12] (b, wl P R u v w kb f g e T) Q :=
  kX2_tell (q := 11) (a := 12) (b := 13) (c := 14) (w := 21) (v := 22) (f := e) (h := (b, wl P R u v w kb f g e T)) rfl rfl rfl rfl (by decide) h1 (by decide) rfl hz (by decide) (by decide) (by decide) h2 (by decide) (by decide) hs fun kb2 f2 h => hQ kb2 f2 h
theorem w_free {t : Nat} (hz : (wl P R u v w kb f g e T)[z]? = some (fsS s)) (h1 : 14 ≠ z) (ht7 : t ≤ 7) (hQ : ∀ kb2, Q (.inl (some (.int (nI (Rr s t))))) (b, wl P R u v w kb2 f g e T)) : okCall S MT (d + 3) nX0_countFree [.ref 12, .ref (z + 1), .int (nI t)] (b, wl P R u v w kb f g e T) Q :=
  kX0_countFree (q := 11) (a := 12) (b := 13) (c := 14) (h := (b, wl P R u v w kb f g e T)) rfl rfl (by decide) h1 (by decide) rfl hz ht7 fun kb2 _ _ => hQ kb2
theorem w_holes {t : Nat} (hz : (wl P R u v w kb f g e T)[z]? = some (fsS s)) (h1 : 14 ≠ z) (hs : Shp s) (ht7 : t < 7) (hQ : ∀ kb2, Q (.inl (some (.int (nZ (hol s t))))) (b, wl P R u v w kb2 f g e T)) : okCall S MT (d + 5) nX0_countHoles [.ref 12, .ref (z + 1), .int (nI t)] (b, wl P R u v w kb f g e T) Q :=
  kX0_countHoles (q := 11) (a := 12) (b := 13) (c := 14) (h := (b, wl P R u v w kb f g e T)) rfl rfl (by decide) h1 (by decide) rfl hz hs ht7 fun kb2 => hQ kb2
theorem w_fill {n : Nat} (hz : (wl P R u v w kb f g e T)[z]? = some (fsS s)) (h1 : 14 ≠ z) (hR : RowI R n) (hQ : ∀ kb2, Q (.inl (some (.int (b2i (fil R s n))))) (b, wl P R u v w kb2 f g e T)) : okCall S MT (d + 4) nX0_isFilling [.ref 12, .ref 9, .ref (z + 1)] (b, wl P R u v w kb f g e T) Q :=
  kX0_isFilling (q := 11) (a := 12) (b := 13) (c := 14) (y := 8) (h := (b, wl P R u v w kb f g e T)) rfl rfl (by decide) h1 (by decide) rfl hz rfl (by decide) (by decide) rfl hR.2.1 hR.2.2.1 hR.2.2.2 fun kb2 => hQ kb2
end W4
theorem dct {n : Nat} : b2i (decide (n = 0)) = 0 ↔ n ≠ 0 := by rw [b2i_0, decide_eq_false_iff_not]
theorem dct_t {n : Nat} (h : n = 0) : ¬ b2i (decide (n = 0)) = 0 := fun c => dct.mp c h
theorem dct_f {n : Nat} (h : ¬ b2i (decide (n = 0)) = 0) : n = 0 := Decidable.byContradiction fun c => h (dct.mpr c)
theorem low1_lt : ∀ c, c < 128 → low1 c < 128 := by decide +kernel
theorem nI1_0 : ¬ nI 1 = 0 := by decide +kernel
theorem nI_sub (a b c : Nat) (h : a = b + c) : nI a - nI b = nI c := by
  subst h
  rw [nZ_nI, nZ_nI, nZ_nI, nZ_sub]
  congr 1; omega
theorem rim_I : ∀ m, m < 8 → 2 ≤ m → (nI 1 <<< (nI m &&& 31)) - nI 2 = nI (2 ^ m - 2) := by decide +kernel
theorem rim_b : ∀ m, m < 8 → 2 ^ m - 2 < 2147483648 := by decide +kernel
set_option maxRecDepth 10000 in
/-- Theorem.isRim -/
theorem kX4_isRim {S : Nat × (Nat → Int32)} {d : Nat} {Q : eQ} {b : Bool} {P : Nat → Nat → Bool} {R u v w : Nat → Bool} {kb : Nat → Nat} {f g e : Nat → Int32} {T : List va_E} {p m : Nat} (hp : p < 6) (hm : m < 8) (hm2 : 2 ≤ m) (hQ : Q (.inl (some (.int (b2i (decide (fb_ct (P p) 128 = 2 ^ m - 2)))))) (b, wl P R u v w kb f g e T)) : okCall S MT (d + 3) nX4_isRim [.ref (2 + p + 1), .int (nI m)] (b, wl P R u v w kb f g e T) Q := by
  refine okc (M := MX4_isRim) rfl rfl fun K hK hW => ?_
  show K 0 [(0, .ref (2 + p + 1)), (1, .int (nI m))] [] (b, wl P R u v w kb f g e T) 0 0
  iterate 1 refine hK _ _ _ _ _ _ (?_ : K _ _ _ _ _ _)
  refine hK _ _ _ _ _ _ (r_callV rfl (fun _ => rfl) (wl_P hp) (b0 rfl rfl rfl) (kX1_count (wl_P hp) (?_ : K _ _ _ _ _ _)))
  iterate 5 refine hK _ _ _ _ _ _ (?_ : K _ _ _ _ _ _)
  rw [rim_I m hm hm2]
  refine hK _ _ _ _ _ _ (And.intro (fun c1 => ?_) (fun c1 => ?_))
  · skip
    iterate 2 refine hK _ _ _ _ _ _ (?_ : K _ _ _ _ _ _)
    exact hK _ _ _ _ _ _ (r_iret rfl rfl rfl rfl (by have h9 := hQ; rw [decide_eq_true ((nI_eq (Nat.lt_of_le_of_lt (fb_ct_le _ _) (by decide)) (rim_b m hm)).mp c1)] at h9; exact h9))
  · skip
    iterate 1 refine hK _ _ _ _ _ _ (?_ : K _ _ _ _ _ _)
    exact hK _ _ _ _ _ _ (r_iret rfl rfl rfl rfl (by have h9 := hQ; rw [decide_eq_false (fun c => c1 (by rw [c]))] at h9; exact h9))

set_option maxRecDepth 10000 in
/-- Theorem.isOneWithoutHoles of the set that was made -/
theorem kX4_isOneWithoutHoles {S : Nat × (Nat → Int32)} {d : Nat} {Q : eQ} {b : Bool} {P : Nat → Nat → Bool} {R u v w : Nat → Bool} {kb : Nat → Nat} {f g e : Nat → Int32} {T : List va_E} (hs : Shp v) (h1 : ∀ t, hol v t = 0) (h2 : npc v = 1) (hQ : ∀ u v w kb f g e, Q (.inl (some (.int (nI 1)))) (b, wl P R u v w kb f g e T)) : okCall S MT (d + 6) nX4_isOneWithoutHoles [.ref 11, .ref 16] (b, wl P R u v w kb f g e T) Q := by
  refine okc (M := MX4_isOneWithoutHoles) rfl rfl fun K hK hW => ?_
  show K 0 [(0, .ref 11), (1, .ref 16)] [] (b, wl P R u v w kb f g e T) 0 0
  iterate 1 refine hK _ _ _ _ _ _ (?_ : K _ _ _ _ _ _)
  refine hK _ _ _ _ _ _ (r_get rfl rfl rfl (?_ : K _ _ _ _ _ _))
  iterate 2 refine hK _ _ _ _ _ _ (?_ : K _ _ _ _ _ _)
  refine hK _ _ _ _ _ _ (r_get rfl rfl rfl (?_ : K _ _ _ _ _ _))
  refine hK _ _ _ _ _ _ (r_callV rfl (fun _ => rfl) rfl (b0 rfl rfl rfl) (w_tell1 rfl (by decide) (by decide) hs fun kb2 f2 hf2 => (?_ : K _ _ _ _ _ _)))
  iterate 1 refine hK _ _ _ _ _ _ (?_ : K _ _ _ _ _ _)
  refine hK _ _ _ _ _ _ (r_get rfl rfl rfl (?_ : K _ _ _ _ _ _))
  refine hK _ _ _ _ _ _ (r_callV rfl (fun _ => rfl) rfl (b0 rfl rfl rfl) (kX2_areNone (f := f2) rfl rfl fun b1 hb1 => (?_ : K _ _ _ _ _ _)))
  refine hK _ _ _ _ _ _ (And.intro (fun c9 => absurd c9 (b2i_n (hb1.mpr fun j hj => by rw [hf2 j hj, h1]; rfl))) (fun _ => ?_))
  iterate 1 refine hK _ _ _ _ _ _ (?_ : K _ _ _ _ _ _)
  refine hK _ _ _ _ _ _ (r_callS rfl (fun _ => rfl) (b0 rfl rfl rfl) (kX5_countPieces hs rfl (?_ : K _ _ _ _ _ _)))
  iterate 1 refine hK _ _ _ _ _ _ (?_ : K _ _ _ _ _ _)
  refine hK _ _ _ _ _ _ (And.intro (fun _ => ?_) (fun c9 => absurd (by rw [h2]) c9))
  iterate 2 refine hK _ _ _ _ _ _ (?_ : K _ _ _ _ _ _)
  exact hK _ _ _ _ _ _ (r_iret rfl rfl rfl rfl (hQ _ _ _ _ _ _ _))

set_option maxRecDepth 10000 in
/-- Theorem.tellsPieces -/
theorem kX4_tellsPieces {S : Nat × (Nat → Int32)} {d : Nat} {Q : eQ} {b : Bool} {P : Nat → Nat → Bool} {R u v w : Nat → Bool} {kb : Nat → Nat} {f g e : Nat → Int32} {T : List va_E} {p : Nat} (hp : p < 6) (hs : Shp (P p)) (hQ : ∀ u v w kb f g e, Q (.inl (some (.int (nI 1)))) (b, wl P R u v w kb f g e T)) : okCall S MT (d + 6) nX4_tellsPieces [.ref 11, .ref (2 + p + 1)] (b, wl P R u v w kb f g e T) Q := by
  refine okc (M := MX4_tellsPieces) rfl rfl fun K hK hW => ?_
  show K 0 [(0, .ref 11), (1, .ref (2 + p + 1))] [] (b, wl P R u v w kb f g e T) 0 0
  iterate 1 refine hK _ _ _ _ _ _ (?_ : K _ _ _ _ _ _)
  refine hK _ _ _ _ _ _ (r_callV rfl (fun _ => rfl) (wl_P hp) (b0 rfl rfl rfl) (kX1_isEmpty (wl_P hp) (?_ : K _ _ _ _ _ _)))
  refine hK _ _ _ _ _ _ (And.intro (fun c1 => ?_) (fun c1 => ?_))
  · skip
    iterate 1 refine hK _ _ _ _ _ _ (?_ : K _ _ _ _ _ _)
    refine hK _ _ _ _ _ _ (r_callS rfl (fun _ => rfl) (b0 rfl rfl rfl) (kX5_countPieces hs (wl_P hp) (?_ : K _ _ _ _ _ _)))
    iterate 4 refine hK _ _ _ _ _ _ (?_ : K _ _ _ _ _ _)
    refine hK _ _ _ _ _ _ (r_callV rfl (fun _ => rfl) (wl_P hp) (b0 rfl rfl rfl) (kX1_countAt (t := 0) (by decide) (wl_P hp) (?_ : K _ _ _ _ _ _)))
    iterate 1 refine hK _ _ _ _ _ _ (?_ : K _ _ _ _ _ _)
    refine hK _ _ _ _ _ _ (r_get rfl rfl rfl (?_ : K _ _ _ _ _ _))
    iterate 2 refine hK _ _ _ _ _ _ (?_ : K _ _ _ _ _ _)
    refine hK _ _ _ _ _ _ (r_callV rfl (fun _ => rfl) rfl (b0 rfl rfl rfl) (w_free (wl_P hp) (by omega) (by decide) fun kb2 => (?_ : K _ _ _ _ _ _)))
    iterate 1 refine hK _ _ _ _ _ _ (?_ : K _ _ _ _ _ _)
    refine hK _ _ _ _ _ _ (And.intro (fun _ => ?_) (fun c9 => absurd ((nI_sub _ _ _ (npc_1 hs)).symm) c9))
    iterate 2 refine hK _ _ _ _ _ _ (?_ : K _ _ _ _ _ _)
    refine hK _ _ _ _ _ _ (r_get rfl rfl rfl (?_ : K _ _ _ _ _ _))
    iterate 2 refine hK _ _ _ _ _ _ (?_ : K _ _ _ _ _ _)
    refine hK _ _ _ _ _ _ (r_callV rfl (fun _ => rfl) rfl (b0 rfl rfl rfl) (w_holes (t := 0) (wl_P hp) (by omega) hs (by decide) fun kb3 => (?_ : K _ _ _ _ _ _)))
    iterate 2 refine hK _ _ _ _ _ _ (?_ : K _ _ _ _ _ _)
    refine hK _ _ _ _ _ _ (And.intro (fun _ => ?_) (fun c9 => absurd (by rw [nZ_nI, nZ_nI, nZ_add, npc_2 hs (dct.mp c1)]; rfl) c9))
    iterate 2 refine hK _ _ _ _ _ _ (?_ : K _ _ _ _ _ _)
    exact hK _ _ _ _ _ _ (r_iret rfl rfl rfl rfl (hQ _ _ _ _ _ _ _))
  · skip
    iterate 1 refine hK _ _ _ _ _ _ (?_ : K _ _ _ _ _ _)
    exact hK _ _ _ _ _ _ (r_iret rfl rfl rfl rfl (hQ _ _ _ _ _ _ _))

set_option maxRecDepth 10000 in
/-- Theorem.tellsSignedCount -/
theorem kX4_tellsSignedCount {S : Nat × (Nat → Int32)} {d : Nat} {Q : eQ} {b : Bool} {P : Nat → Nat → Bool} {R u v w : Nat → Bool} {kb : Nat → Nat} {f g e : Nat → Int32} {T : List va_E} {p : Nat} (hp : p < 6) (hs : Shp (P p)) (hQ : ∀ u v w kb f g e, Q (.inl (some (.int (nI 1)))) (b, wl P R u v w kb f g e T)) : okCall S MT (d + 6) nX4_tellsSignedCount [.ref 11, .ref (2 + p + 1)] (b, wl P R u v w kb f g e T) Q := by
  refine okc (M := MX4_tellsSignedCount) rfl rfl fun K hK hW => ?_
  show K 0 [(0, .ref 11), (1, .ref (2 + p + 1))] [] (b, wl P R u v w kb f g e T) 0 0
  iterate 1 refine hK _ _ _ _ _ _ (?_ : K _ _ _ _ _ _)
  refine hK _ _ _ _ _ _ (r_callV rfl (fun _ => rfl) (wl_P hp) (b0 rfl rfl rfl) (kX1_isEmpty (wl_P hp) (?_ : K _ _ _ _ _ _)))
  refine hK _ _ _ _ _ _ (And.intro (fun c1 => ?_) (fun c1 => ?_))
  · skip
    iterate 1 refine hK _ _ _ _ _ _ (?_ : K _ _ _ _ _ _)
    refine hK _ _ _ _ _ _ (r_get rfl rfl rfl (?_ : K _ _ _ _ _ _))
    iterate 2 refine hK _ _ _ _ _ _ (?_ : K _ _ _ _ _ _)
    refine hK _ _ _ _ _ _ (r_get rfl rfl rfl (?_ : K _ _ _ _ _ _))
    refine hK _ _ _ _ _ _ (r_callV rfl (fun _ => rfl) rfl (b0 rfl rfl rfl) (w_tell0 (wl_P hp) (by omega) (by omega) hs fun kb2 f2 hf2 => (?_ : K _ _ _ _ _ _)))
    iterate 1 refine hK _ _ _ _ _ _ (?_ : K _ _ _ _ _ _)
    refine hK _ _ _ _ _ _ (r_callV rfl (fun _ => rfl) (wl_P hp) (b0 rfl rfl rfl) (kX1_signedCount (wl_P hp) (?_ : K _ _ _ _ _ _)))
    iterate 1 refine hK _ _ _ _ _ _ (?_ : K _ _ _ _ _ _)
    refine hK _ _ _ _ _ _ (r_get rfl rfl rfl (?_ : K _ _ _ _ _ _))
    refine hK _ _ _ _ _ _ (r_callV rfl (fun _ => rfl) rfl (b0 rfl rfl rfl) (kX2_signedSum (f := f2) rfl rfl (g := hol (P p)) hf2 (?_ : K _ _ _ _ _ _)))
    iterate 2 refine hK _ _ _ _ _ _ (?_ : K _ _ _ _ _ _)
    refine hK _ _ _ _ _ _ (And.intro (fun _ => ?_) (fun c9 => absurd (by rw [nZ_nI, nZ_add, sg_eu hs (dct.mp c1)]; rfl) c9))
    iterate 2 refine hK _ _ _ _ _ _ (?_ : K _ _ _ _ _ _)
    exact hK _ _ _ _ _ _ (r_iret rfl rfl rfl rfl (hQ _ _ _ _ _ _ _))
  · skip
    iterate 1 refine hK _ _ _ _ _ _ (?_ : K _ _ _ _ _ _)
    exact hK _ _ _ _ _ _ (r_iret rfl rfl rfl rfl (hQ _ _ _ _ _ _ _))

theorem row_ht {R : Nat → Bool} {n f0 : Nat} (h : RowI R n) (h1 : f0 < 128) (h2 : R f0 = true) : ht f0 + 1 = n := by
  have h3 := h.2.2.2 f0 h1 h2
  have h4 := h.2.1
  unfold ht
  omega
theorem b2i_e {a b : Bool} : b2i a = b2i b ↔ a = b := by cases a <;> cases b <;> decide +kernel
theorem hol_nz {s : Nat → Bool} (hs : Shp s) {t : Nat} : nZ (hol s t) = 0 ↔ hol s t = 0 := by
  have h1 := hol_b hs t
  have h2 := nZ_inj (a := hol s t) (b := 0) (by omega) (by omega) (by decide) (by decide)
  exact h2
set_option maxRecDepth 10000 in
/-- Theorem.tellsFilling -/
theorem kX4_tellsFilling {S : Nat × (Nat → Int32)} {d : Nat} {Q : eQ} {b : Bool} {P : Nat → Nat → Bool} {R u v w : Nat → Bool} {kb : Nat → Nat} {f g e : Nat → Int32} {T : List va_E} {p : Nat} (hp : p < 6) (hs : Shp (P p)) {n : Nat} (hR : RowI R n) (hsub : ∀ i, i < 128 → R i = true → P p i = true) (hQ : ∀ u v w kb f g e, Q (.inl (some (.int (nI 1)))) (b, wl P R u v w kb f g e T)) : okCall S MT (d + 6) nX4_tellsFilling [.ref 11, .ref 9, .int (b2i (decide (fb_ct (bdS R) 128 = 0))), .ref (2 + p + 1)] (b, wl P R u v w kb f g e T) Q := by
  refine okc (M := MX4_tellsFilling) rfl rfl fun K hK hW => ?_
  show K 0 [(0, .ref 11), (1, .ref 9), (2, .int (b2i (decide (fb_ct (bdS R) 128 = 0)))), (3, .ref (2 + p + 1))] [] (b, wl P R u v w kb f g e T) 0 0
  iterate 1 refine hK _ _ _ _ _ _ (?_ : K _ _ _ _ _ _)
  refine hK _ _ _ _ _ _ (r_get rfl rfl rfl (?_ : K _ _ _ _ _ _))
  iterate 2 refine hK _ _ _ _ _ _ (?_ : K _ _ _ _ _ _)
  refine hK _ _ _ _ _ _ (r_callV rfl (fun _ => rfl) rfl (b0 rfl rfl rfl) (w_fill (n := n) (wl_P hp) (by omega) hR fun kb2 => (?_ : K _ _ _ _ _ _)))
  iterate 2 refine hK _ _ _ _ _ _ (?_ : K _ _ _ _ _ _)
  refine hK _ _ _ _ _ _ (And.intro (fun c1 => ?_) (fun c1 => ?_))
  · skip
    iterate 1 refine hK _ _ _ _ _ _ (?_ : K _ _ _ _ _ _)
    refine hK _ _ _ _ _ _ (r_callV rfl (fun _ => rfl) rfl (b0 rfl rfl rfl) (kX1_isEmpty (s := R) rfl (?_ : K _ _ _ _ _ _)))
    refine hK _ _ _ _ _ _ (And.intro (fun c2 => ?_) (fun c2 => ?_))
    · skip
      have hne := dct.mp c2
      obtain ⟨f0, hf1, hf2, hf3, hf0⟩ := row_first hR.2.2.2 hR.2.1 hne
      have hf5 := row_ht hR hf1 hf3
      have hf6 : ht f0 < 7 := by have := hR.2.2.1; omega
      iterate 2 refine hK _ _ _ _ _ _ (?_ : K _ _ _ _ _ _)
      refine hK _ _ _ _ _ _ (r_callV rfl (fun _ => rfl) rfl (b0 rfl rfl rfl) (kX1_faceAt (s := R) (idx := nI 0) rfl (?_ : K _ _ _ _ _ _)))
      refine hK _ _ _ _ _ _ (r_callN rfl (fun _ => rfl) (b0 rfl rfl rfl) (okW (by rw [hf0]) (kX6_heightOf (f := f0) hf1 hf2 (?_ : K _ _ _ _ _ _))))
      iterate 2 refine hK _ _ _ _ _ _ (?_ : K _ _ _ _ _ _)
      refine hK _ _ _ _ _ _ (And.intro (fun c3 => ?_) (fun c3 => ?_))
      · skip
        have h30 : ht f0 = 0 := (nI_z (by omega)).mp c3
        have hn1 : n = 1 := by omega
        subst hn1
        iterate 3 refine hK _ _ _ _ _ _ (?_ : K _ _ _ _ _ _)
        refine hK _ _ _ _ _ _ (r_callS rfl (fun _ => rfl) (b0 rfl rfl rfl) (kX5_areEven hs hR.2.2.2 rfl (wl_P hp) fun b1 hb1 => (?_ : K _ _ _ _ _ _)))
        refine hK _ _ _ _ _ _ (And.intro (fun _ => ?_) (fun c9 => absurd (b2i_e.mpr (fil_even hs hR hsub hb1)) c9))
        iterate 2 refine hK _ _ _ _ _ _ (?_ : K _ _ _ _ _ _)
        exact hK _ _ _ _ _ _ (r_iret rfl rfl rfl rfl (hQ _ _ _ _ _ _ _))
      · skip
        have h30 : ht f0 ≠ 0 := fun c => c3 (by rw [c]; rfl)
        iterate 1 refine hK _ _ _ _ _ _ (?_ : K _ _ _ _ _ _)
        refine hK _ _ _ _ _ _ (And.intro (fun c5 => ?_) (fun c5 => ?_))
        · skip
          iterate 1 refine hK _ _ _ _ _ _ (?_ : K _ _ _ _ _ _)
          refine hK _ _ _ _ _ _ (And.intro (fun c6 => ?_) (fun c6 => ?_))
          · skip
            iterate 2 refine hK _ _ _ _ _ _ (?_ : K _ _ _ _ _ _)
            exact hK _ _ _ _ _ _ (r_iret rfl rfl rfl rfl (hQ _ _ _ _ _ _ _))
          · skip
            iterate 1 refine hK _ _ _ _ _ _ (?_ : K _ _ _ _ _ _)
            refine hK _ _ _ _ _ _ (r_get rfl rfl rfl (?_ : K _ _ _ _ _ _))
            iterate 2 refine hK _ _ _ _ _ _ (?_ : K _ _ _ _ _ _)
            refine hK _ _ _ _ _ _ (r_callV rfl (fun _ => rfl) rfl (b0 rfl rfl rfl) (w_holes (wl_P hp) (by omega) hs hf6 fun kb3 => (?_ : K _ _ _ _ _ _)))
            refine hK _ _ _ _ _ _ (And.intro (fun c9 => absurd c9 (fun c => by
              obtain ⟨m, rfl⟩ : ∃ m, n = m + 2 := ⟨n - 2, by omega⟩
              have h9 : hol (P p) (ht f0) = 0 := (hol_nz hs).mp c
              rw [show ht f0 = m + 1 by omega] at h9
              have h8 := fil_hol hs hR hsub hne (dct_f c6) h9
              rw [b2i_0.mp c5] at h8
              cases h8)) (fun _ => ?_))
            iterate 2 refine hK _ _ _ _ _ _ (?_ : K _ _ _ _ _ _)
            exact hK _ _ _ _ _ _ (r_iret rfl rfl rfl rfl (hQ _ _ _ _ _ _ _))
        · skip
          iterate 2 refine hK _ _ _ _ _ _ (?_ : K _ _ _ _ _ _)
          exact hK _ _ _ _ _ _ (r_iret rfl rfl rfl rfl (hQ _ _ _ _ _ _ _))
    · skip
      have he0 := dct_f c2
      have he1 : fil R (P p) n = true := fil_0 he0
      iterate 1 refine hK _ _ _ _ _ _ (?_ : K _ _ _ _ _ _)
      exact hK _ _ _ _ _ _ (r_iret rfl (b2i_nar _) rfl rfl (by rw [he1]; exact hQ _ _ _ _ _ _ _))
  · skip
    iterate 1 refine hK _ _ _ _ _ _ (?_ : K _ _ _ _ _ _)
    refine hK _ _ _ _ _ _ (And.intro (fun c9 => absurd c9 (dct_t (fil_round (Bool.of_not_eq_false fun c => c1 (b2i_0.mpr c))))) (fun _ => ?_))
    iterate 1 refine hK _ _ _ _ _ _ (?_ : K _ _ _ _ _ _)
    refine hK _ _ _ _ _ _ (r_callV rfl (fun _ => rfl) rfl (b0 rfl rfl rfl) (kX1_isEmpty (s := R) rfl (?_ : K _ _ _ _ _ _)))
    refine hK _ _ _ _ _ _ (And.intro (fun c2 => ?_) (fun c2 => ?_))
    · skip
      have hne := dct.mp c2
      obtain ⟨f0, hf1, hf2, hf3, hf0⟩ := row_first hR.2.2.2 hR.2.1 hne
      have hf5 := row_ht hR hf1 hf3
      have hf6 : ht f0 < 7 := by have := hR.2.2.1; omega
      iterate 2 refine hK _ _ _ _ _ _ (?_ : K _ _ _ _ _ _)
      refine hK _ _ _ _ _ _ (r_callV rfl (fun _ => rfl) rfl (b0 rfl rfl rfl) (kX1_faceAt (s := R) (idx := nI 0) rfl (?_ : K _ _ _ _ _ _)))
      refine hK _ _ _ _ _ _ (r_callN rfl (fun _ => rfl) (b0 rfl rfl rfl) (okW (by rw [hf0]) (kX6_heightOf (f := f0) hf1 hf2 (?_ : K _ _ _ _ _ _))))
      iterate 2 refine hK _ _ _ _ _ _ (?_ : K _ _ _ _ _ _)
      refine hK _ _ _ _ _ _ (And.intro (fun c3 => ?_) (fun c3 => ?_))
      · skip
        have h30 : ht f0 = 0 := (nI_z (by omega)).mp c3
        have hn1 : n = 1 := by omega
        subst hn1
        iterate 3 refine hK _ _ _ _ _ _ (?_ : K _ _ _ _ _ _)
        refine hK _ _ _ _ _ _ (r_callS rfl (fun _ => rfl) (b0 rfl rfl rfl) (kX5_areEven hs hR.2.2.2 rfl (wl_P hp) fun b1 hb1 => (?_ : K _ _ _ _ _ _)))
        refine hK _ _ _ _ _ _ (And.intro (fun _ => ?_) (fun c9 => absurd (b2i_e.mpr (fil_even hs hR hsub hb1)) c9))
        iterate 2 refine hK _ _ _ _ _ _ (?_ : K _ _ _ _ _ _)
        exact hK _ _ _ _ _ _ (r_iret rfl rfl rfl rfl (hQ _ _ _ _ _ _ _))
      · skip
        have h30 : ht f0 ≠ 0 := fun c => c3 (by rw [c]; rfl)
        iterate 1 refine hK _ _ _ _ _ _ (?_ : K _ _ _ _ _ _)
        refine hK _ _ _ _ _ _ (And.intro (fun c5 => ?_) (fun c5 => ?_))
        · skip
          iterate 1 refine hK _ _ _ _ _ _ (?_ : K _ _ _ _ _ _)
          refine hK _ _ _ _ _ _ (And.intro (fun c6 => ?_) (fun c6 => ?_))
          · skip
            iterate 2 refine hK _ _ _ _ _ _ (?_ : K _ _ _ _ _ _)
            exact hK _ _ _ _ _ _ (r_iret rfl rfl rfl rfl (hQ _ _ _ _ _ _ _))
          · skip
            iterate 1 refine hK _ _ _ _ _ _ (?_ : K _ _ _ _ _ _)
            refine hK _ _ _ _ _ _ (r_get rfl rfl rfl (?_ : K _ _ _ _ _ _))
            iterate 2 refine hK _ _ _ _ _ _ (?_ : K _ _ _ _ _ _)
            refine hK _ _ _ _ _ _ (r_callV rfl (fun _ => rfl) rfl (b0 rfl rfl rfl) (w_holes (wl_P hp) (by omega) hs hf6 fun kb3 => (?_ : K _ _ _ _ _ _)))
            refine hK _ _ _ _ _ _ (And.intro (fun c9 => absurd c9 (fun c => by
              obtain ⟨m, rfl⟩ : ∃ m, n = m + 2 := ⟨n - 2, by omega⟩
              have h9 : hol (P p) (ht f0) = 0 := (hol_nz hs).mp c
              rw [show ht f0 = m + 1 by omega] at h9
              have h8 := fil_hol hs hR hsub hne (dct_f c6) h9
              rw [b2i_0.mp c5] at h8
              cases h8)) (fun _ => ?_))
            iterate 2 refine hK _ _ _ _ _ _ (?_ : K _ _ _ _ _ _)
            exact hK _ _ _ _ _ _ (r_iret rfl rfl rfl rfl (hQ _ _ _ _ _ _ _))
        · skip
          iterate 2 refine hK _ _ _ _ _ _ (?_ : K _ _ _ _ _ _)
          exact hK _ _ _ _ _ _ (r_iret rfl rfl rfl rfl (hQ _ _ _ _ _ _ _))
    · skip
      have he0 := dct_f c2
      have he1 : fil R (P p) n = true := fil_0 he0
      iterate 1 refine hK _ _ _ _ _ _ (?_ : K _ _ _ _ _ _)
      exact hK _ _ _ _ _ _ (r_iret rfl (b2i_nar _) rfl rfl (by rw [he1]; exact hQ _ _ _ _ _ _ _))

set_option maxRecDepth 10000 in
/-- Theorem.tellsRow -/
theorem kX4_tellsRow {S : Nat × (Nat → Int32)} {d : Nat} {Q : eQ} {b : Bool} {P : Nat → Nat → Bool} {R u v w : Nat → Bool} {kb : Nat → Nat} {f g e : Nat → Int32} {T : List va_E} {p : Nat} (hp : p < 6) (hs : Shp (P p)) {n : Nat} (hR : RowI R n) (hQ : ∀ u v w kb f g e, Q (.inl (some (.int (nI 1)))) (b, wl P R u v w kb f g e T)) : okCall S MT (d + 7) nX4_tellsRow [.ref 11, .ref 9, .ref (2 + p + 1)] (b, wl P R u v w kb f g e T) Q := by
  refine okc (M := MX4_tellsRow) rfl rfl fun K hK hW => ?_
  show K 0 [(0, .ref 11), (1, .ref 9), (2, .ref (2 + p + 1))] [] (b, wl P R u v w kb f g e T) 0 0
  iterate 2 refine hK _ _ _ _ _ _ (?_ : K _ _ _ _ _ _)
  refine hK _ _ _ _ _ _ (r_get rfl rfl rfl (?_ : K _ _ _ _ _ _))
  refine hK _ _ _ _ _ _ (r_callS rfl (fun _ => rfl) (b0 rfl rfl rfl) (kX0_makeBorder (m := 15) (r := R) (by decide) rfl rfl (?_ : K _ _ _ _ _ _)))
  show K _ _ _ (b, wl P R u (bdS R) w kb f g e T) _ _
  iterate 1 refine hK _ _ _ _ _ _ (?_ : K _ _ _ _ _ _)
  refine hK _ _ _ _ _ _ (r_get rfl rfl rfl (?_ : K _ _ _ _ _ _))
  refine hK _ _ _ _ _ _ (r_callV rfl (fun _ => rfl) rfl (b0 rfl rfl rfl) (kX1_isEmpty (s := bdS R) rfl (?_ : K _ _ _ _ _ _)))
  iterate 2 refine hK _ _ _ _ _ _ (?_ : K _ _ _ _ _ _)
  refine hK _ _ _ _ _ _ (r_get rfl rfl rfl (?_ : K _ _ _ _ _ _))
  iterate 1 refine hK _ _ _ _ _ _ (?_ : K _ _ _ _ _ _)
  refine hK _ _ _ _ _ _ (r_get rfl rfl rfl (?_ : K _ _ _ _ _ _))
  refine hK _ _ _ _ _ _ (r_callS rfl (fun _ => rfl) (b0 rfl rfl rfl) (kX0_makeBorder (q := 15) (m := 16) (r := bdS R) (by decide) rfl rfl (?_ : K _ _ _ _ _ _)))
  show K _ _ _ (b, wl P R u (bdS R) (bdS (bdS R)) kb f g e T) _ _
  iterate 1 refine hK _ _ _ _ _ _ (?_ : K _ _ _ _ _ _)
  refine hK _ _ _ _ _ _ (r_get rfl rfl rfl (?_ : K _ _ _ _ _ _))
  refine hK _ _ _ _ _ _ (r_callV rfl (fun _ => rfl) rfl (b0 rfl rfl rfl) (kX1_isEmpty (s := bdS (bdS R)) rfl (?_ : K _ _ _ _ _ _)))
  refine hK _ _ _ _ _ _ (And.intro (fun c9 => absurd c9 (dct_t (bdS_bdS ⟨n, hR⟩))) (fun _ => ?_))
  iterate 2 refine hK _ _ _ _ _ _ (?_ : K _ _ _ _ _ _)
  refine hK _ _ _ _ _ _ (r_callV rfl (fun _ => rfl) (wl_P hp) (b0 rfl rfl rfl) (kX1_holdsAll (t := R) (wl_P hp) rfl (?_ : K _ _ _ _ _ _)))
  refine hK _ _ _ _ _ _ (And.intro (fun c3 => ?_) (fun c3 => ?_))
  · skip
    iterate 2 refine hK _ _ _ _ _ _ (?_ : K _ _ _ _ _ _)
    exact hK _ _ _ _ _ _ (r_iret rfl rfl rfl rfl (hQ _ _ _ _ _ _ _))
  · skip
    iterate 4 refine hK _ _ _ _ _ _ (?_ : K _ _ _ _ _ _)
    refine hK _ _ _ _ _ _ (r_callV rfl (fun _ => rfl) rfl (b0 rfl rfl rfl) (kX4_tellsFilling hp hs hR (fun i hi h9 => by
        have h8 := fb_ct_zero.mp (dct_f c3) i hi
        rw [h9, Bool.true_and] at h8
        cases h7 : P p i with
        | true => rfl
        | false => rw [h7] at h8; cases h8) fun _ _ _ _ _ _ _ => (?_ : K _ _ _ _ _ _)))
    refine hK _ _ _ _ _ _ (And.intro (fun c9 => absurd c9 (nI1_0)) (fun _ => ?_))
    iterate 2 refine hK _ _ _ _ _ _ (?_ : K _ _ _ _ _ _)
    exact hK _ _ _ _ _ _ (r_iret rfl rfl rfl rfl (hQ _ _ _ _ _ _ _))

theorem cs_bic {s : Nat → Bool} (hs : Shp s) {c : Nat} (hc : c < 7) (h : (bic 127 (orF s 128)).testBit c = true) : s (2 ^ c) = false := by
  rw [bic_bit (by decide), orF_s hs hc, Bool.and_eq_true] at h
  cases h9 : s (2 ^ c) with
  | false => rfl
  | true => rw [h9] at h; cases h.2
set_option maxRecDepth 10000 in
/-- Theorem.tellsCone -/
theorem kX4_tellsCone {S : Nat × (Nat → Int32)} {d : Nat} {Q : eQ} {b : Bool} {P : Nat → Nat → Bool} {R u v w : Nat → Bool} {kb : Nat → Nat} {f g e : Nat → Int32} {T : List va_E} {p : Nat} (hp : p < 6) (hs : Shp (P p)) (hQ : ∀ u v w kb f g e, Q (.inl (some (.int (nI 1)))) (b, wl P R u v w kb f g e T)) : okCall S MT (d + 7) nX4_tellsCone [.ref 11, .ref (2 + p + 1)] (b, wl P R u v w kb f g e T) Q := by
  refine okc (M := MX4_tellsCone) rfl rfl fun K hK hW => ?_
  show K 0 [(0, .ref 11), (1, .ref (2 + p + 1))] [] (b, wl P R u v w kb f g e T) 0 0
  iterate 2 refine hK _ _ _ _ _ _ (?_ : K _ _ _ _ _ _)
  refine hK _ _ _ _ _ _ (r_callV rfl (fun _ => rfl) (wl_P hp) (b0 rfl rfl rfl) (kX1_cornerSet (wl_P hp) (?_ : K _ _ _ _ _ _)))
  iterate 3 refine hK _ _ _ _ _ _ (?_ : K _ _ _ _ _ _)
  refine hK _ _ _ _ _ _ (r_callN rfl (fun _ => rfl) (b0 rfl rfl rfl) (okW (by rw [nI_bic 127 (by decide) _ (orF_lt _ 128 (Nat.le_refl _))]) (kX6_leastCorner (bic_lt (by decide)) (?_ : K _ _ _ _ _ _))))
  iterate 2 refine hK _ _ _ _ _ _ (?_ : K _ _ _ _ _ _)
  refine hK _ _ _ _ _ _ (And.intro (fun c1 => ?_) (fun c1 => ?_))
  · skip
    iterate 1 refine hK _ _ _ _ _ _ (?_ : K _ _ _ _ _ _)
    exact hK _ _ _ _ _ _ (r_iret rfl rfl rfl rfl (hQ _ _ _ _ _ _ _))
  · skip
    obtain ⟨c0, hc0, hc1, hc2, -⟩ := low1_ex (bic 127 (orF (P p) 128)) (bic_lt (by decide)) (fun c => c1 (by rw [c]; exact congrArg nI low1_z))
    iterate 3 refine hK _ _ _ _ _ _ (?_ : K _ _ _ _ _ _)
    refine hK _ _ _ _ _ _ (r_get rfl rfl rfl (?_ : K _ _ _ _ _ _))
    refine hK _ _ _ _ _ _ (r_callS rfl (fun _ => rfl) (b0 rfl rfl rfl) (okW (by rw [hc1]) (kX3_makeCone (q := 2 + p) (m := 15) (by omega) (wl_P hp) rfl (pw_128 c0 hc0) (?_ : K _ _ _ _ _ _))))
    show K _ _ _ (b, wl P R u (coneS (P p) (2 ^ c0)) w kb f g e T) _ _
    iterate 2 refine hK _ _ _ _ _ _ (?_ : K _ _ _ _ _ _)
    refine hK _ _ _ _ _ _ (r_get rfl rfl rfl (?_ : K _ _ _ _ _ _))
    refine hK _ _ _ _ _ _ (r_callV rfl (fun _ => rfl) rfl (b0 rfl rfl rfl) (kX4_isOneWithoutHoles (cone_S hs hc0) (cone_ok hs hc0).1 (cone_ok hs hc0).2 fun _ _ _ _ _ _ _ => (?_ : K _ _ _ _ _ _)))
    exact hK _ _ _ _ _ _ (r_iret rfl rfl rfl rfl (hQ _ _ _ _ _ _ _))

set_option maxRecDepth 10000 in
/-- Theorem.tellsAbout -/
theorem kX4_tellsAbout {S : Nat × (Nat → Int32)} {d : Nat} {Q : eQ} {b : Bool} {P : Nat → Nat → Bool} {R u v w : Nat → Bool} {kb : Nat → Nat} {f g e : Nat → Int32} {T : List va_E} {p : Nat} (hp : p < 6) (hs : Shp (P p)) {c : Nat} (hc : c < 128) (hc0 : c ≠ 0) (hsc : P p c = true) (hQ : ∀ u v w kb f g e, Q (.inl (some (.int (nI 1)))) (b, wl P R u v w kb f g e T)) : okCall S MT (d + 7) nX4_tellsAbout [.ref 11, .ref (2 + p + 1), .int (nI c)] (b, wl P R u v w kb f g e T) Q := by
  refine okc (M := MX4_tellsAbout) rfl rfl fun K hK hW => ?_
  show K 0 [(0, .ref 11), (1, .ref (2 + p + 1)), (2, .int (nI c))] [] (b, wl P R u v w kb f g e T) 0 0
  iterate 4 refine hK _ _ _ _ _ _ (?_ : K _ _ _ _ _ _)
  refine hK _ _ _ _ _ _ (r_get rfl rfl rfl (?_ : K _ _ _ _ _ _))
  refine hK _ _ _ _ _ _ (r_callS rfl (fun _ => rfl) (b0 rfl rfl rfl) (kX3_makeAbout (q := 2 + p) (m := 15) (c := c) (b := false) (by omega) (wl_P hp) rfl hc (?_ : K _ _ _ _ _ _)))
  show K _ _ _ (b, wl P R u (abS (P p) c false) w kb f g e T) _ _
  iterate 2 refine hK _ _ _ _ _ _ (?_ : K _ _ _ _ _ _)
  refine hK _ _ _ _ _ _ (r_get rfl rfl rfl (?_ : K _ _ _ _ _ _))
  refine hK _ _ _ _ _ _ (r_callV rfl (fun _ => rfl) rfl (b0 rfl rfl rfl) (kX4_isOneWithoutHoles (ab_S hs hc hc0) (ab_ok hs hc hc0 hsc).1 (ab_ok hs hc hc0 hsc).2 fun _ _ _ _ _ _ _ => (?_ : K _ _ _ _ _ _)))
  exact hK _ _ _ _ _ _ (r_iret rfl rfl rfl rfl (hQ _ _ _ _ _ _ _))

set_option maxRecDepth 10000 in
/-- Theorem.tellsLift -/
theorem kX4_tellsLift {S : Nat × (Nat → Int32)} {d : Nat} {Q : eQ} {b : Bool} {P : Nat → Nat → Bool} {R u v w : Nat → Bool} {kb : Nat → Nat} {f g e : Nat → Int32} {T : List va_E} {p : Nat} (hp : p < 6) (hs : Shp (P p)) (hQ : ∀ u v w kb f g e, Q (.inl (some (.int (nI 1)))) (b, wl P R u v w kb f g e T)) : okCall S MT (d + 6) nX4_tellsLift [.ref 11, .ref (2 + p + 1)] (b, wl P R u v w kb f g e T) Q := by
  refine okc (M := MX4_tellsLift) rfl rfl fun K hK hW => ?_
  show K 0 [(0, .ref 11), (1, .ref (2 + p + 1))] [] (b, wl P R u v w kb f g e T) 0 0
  iterate 2 refine hK _ _ _ _ _ _ (?_ : K _ _ _ _ _ _)
  refine hK _ _ _ _ _ _ (r_callV rfl (fun _ => rfl) (wl_P hp) (b0 rfl rfl rfl) (kX1_cornerSet (wl_P hp) (?_ : K _ _ _ _ _ _)))
  iterate 3 refine hK _ _ _ _ _ _ (?_ : K _ _ _ _ _ _)
  rw [nI_bic 127 (by decide) _ (orF_lt _ 128 (Nat.le_refl _))]
  iterate 2 refine hK _ _ _ _ _ _ (?_ : K _ _ _ _ _ _)
  refine hK _ _ _ _ _ _ (r_callN rfl (fun _ => rfl) (b0 rfl rfl rfl) (kX6_leastCorner (bic_lt (by decide)) (?_ : K _ _ _ _ _ _)))
  iterate 6 refine hK _ _ _ _ _ _ (?_ : K _ _ _ _ _ _)
  refine hK _ _ _ _ _ _ (r_callN rfl (fun _ => rfl) (b0 rfl rfl rfl) (okW (by rw [nI_bic _ (bic_lt (by decide)) _ (low1_lt _ (bic_lt (by decide)))]) (kX6_leastCorner (bic_lt (bic_lt (by decide))) (?_ : K _ _ _ _ _ _))))
  iterate 2 refine hK _ _ _ _ _ _ (?_ : K _ _ _ _ _ _)
  refine hK _ _ _ _ _ _ (r_callV rfl (fun _ => rfl) (wl_P hp) (b0 rfl rfl rfl) (kX1_isEmpty (wl_P hp) (?_ : K _ _ _ _ _ _)))
  refine hK _ _ _ _ _ _ (And.intro (fun c1 => ?_) (fun c1 => ?_))
  · skip
    have hne := dct.mp c1
    iterate 1 refine hK _ _ _ _ _ _ (?_ : K _ _ _ _ _ _)
    refine hK _ _ _ _ _ _ (And.intro (fun c2 => ?_) (fun c2 => ?_))
    · skip
      iterate 1 refine hK _ _ _ _ _ _ (?_ : K _ _ _ _ _ _)
      exact hK _ _ _ _ _ _ (r_iret rfl rfl rfl rfl (hQ _ _ _ _ _ _ _))
    · skip
      obtain ⟨bq, hbq, hb1, hb2, -⟩ := low1_ex (bic (bic 127 (orF (P p) 128)) (low1 (bic 127 (orF (P p) 128)))) (bic_lt (bic_lt (by decide))) (fun c => c2 (by rw [c]; exact congrArg nI low1_z))
      rw [bic_bit (bic_lt (by decide)), Bool.and_eq_true] at hb2
      obtain ⟨a0, ha0, ha1, ha2, -⟩ := low1_ex (bic 127 (orF (P p) 128)) (bic_lt (by decide)) (fun c => by rw [c, Nat.zero_testBit] at hb2; cases hb2.1)
      have hab : a0 ≠ bq := fun c => by
        subst c
        rw [ha1, Nat.testBit_two_pow_self] at hb2
        cases hb2.2
      rw [hb1, ha1]
      iterate 4 refine hK _ _ _ _ _ _ (?_ : K _ _ _ _ _ _)
      refine hK _ _ _ _ _ _ (r_get rfl rfl rfl (?_ : K _ _ _ _ _ _))
      refine hK _ _ _ _ _ _ (r_callS rfl (fun _ => rfl) (b0 rfl rfl rfl) (kX3_makeLift (q := 2 + p) (m := 15) (by omega) (wl_P hp) rfl (pw_128 a0 ha0) (pw_128 bq hbq) (?_ : K _ _ _ _ _ _)))
      show K _ _ _ (b, wl P R u (liftS (P p) (2 ^ a0) (2 ^ bq)) w kb f g e T) _ _
      iterate 1 refine hK _ _ _ _ _ _ (?_ : K _ _ _ _ _ _)
      refine hK _ _ _ _ _ _ (r_get rfl rfl rfl (?_ : K _ _ _ _ _ _))
      iterate 2 refine hK _ _ _ _ _ _ (?_ : K _ _ _ _ _ _)
      refine hK _ _ _ _ _ _ (r_get rfl rfl rfl (?_ : K _ _ _ _ _ _))
      refine hK _ _ _ _ _ _ (r_callV rfl (fun _ => rfl) rfl (b0 rfl rfl rfl) (w_tell0 (wl_P hp) (by omega) (by omega) hs fun kb2 f2 hf2 => (?_ : K _ _ _ _ _ _)))
      iterate 1 refine hK _ _ _ _ _ _ (?_ : K _ _ _ _ _ _)
      refine hK _ _ _ _ _ _ (r_get rfl rfl rfl (?_ : K _ _ _ _ _ _))
      iterate 1 refine hK _ _ _ _ _ _ (?_ : K _ _ _ _ _ _)
      refine hK _ _ _ _ _ _ (r_get rfl rfl rfl (?_ : K _ _ _ _ _ _))
      iterate 1 refine hK _ _ _ _ _ _ (?_ : K _ _ _ _ _ _)
      refine hK _ _ _ _ _ _ (r_get rfl rfl rfl (?_ : K _ _ _ _ _ _))
      refine hK _ _ _ _ _ _ (r_callV rfl (fun _ => rfl) rfl (b0 rfl rfl rfl) (w_tell1 (s := liftS (P p) (2 ^ a0) (2 ^ bq)) rfl (by decide) (by decide) (lift_S hs ha0 hbq) fun kb3 g2 hg2 => (?_ : K _ _ _ _ _ _)))
      iterate 2 refine hK _ _ _ _ _ _ (?_ : K _ _ _ _ _ _)
      have hla := lift_at hs hne ha0 hbq hab (cs_bic hs ha0 ha2) (cs_bic hs hbq hb2.1) hf2 hg2
      refine hW _ _ [(5, .int (nI (0))), (0, .ref 11)] _ _ _ _ (by simp) ?_
      refine up (P := fun k => K 80 [(5, .int (nI (k))), (0, .ref 11)] [] (b, wl P R u (liftS (P p) (2 ^ a0) (2 ^ bq)) w kb3 f2 g2 e T) 0 0) 8 0 ?_ ?_ (by decide)
      · skip
        iterate 2 refine hK _ _ _ _ _ _ (?_ : K _ _ _ _ _ _)
        refine hK _ _ _ _ _ _ (And.intro (fun _ => ?_) (fun c9 => absurd (nI_lt (by decide) (by decide)) c9))
        iterate 1 refine hK _ _ _ _ _ _ (?_ : K _ _ _ _ _ _)
        exact hK _ _ _ _ _ _ (r_iret rfl rfl rfl rfl (hQ _ _ _ _ _ _ _))
      · intro k h0k hk ihk
        iterate 2 refine hK _ _ _ _ _ _ (?_ : K _ _ _ _ _ _)
        refine hK _ _ _ _ _ _ (And.intro (fun c9 => absurd c9 (nI_nlt (by omega) (by decide))) (fun _ => ?_))
        iterate 1 refine hK _ _ _ _ _ _ (?_ : K _ _ _ _ _ _)
        refine hK _ _ _ _ _ _ (r_get rfl rfl rfl (?_ : K _ _ _ _ _ _))
        iterate 1 refine hK _ _ _ _ _ _ (?_ : K _ _ _ _ _ _)
        refine hK _ _ _ _ _ _ (r_callV rfl (fun _ => rfl) rfl (b0 rfl rfl rfl) (kX2_at (f := g2) rfl rfl (?_ : K _ _ _ _ _ _)))
        iterate 1 refine hK _ _ _ _ _ _ (?_ : K _ _ _ _ _ _)
        refine hK _ _ _ _ _ _ (r_get rfl rfl rfl (?_ : K _ _ _ _ _ _))
        iterate 3 refine hK _ _ _ _ _ _ (?_ : K _ _ _ _ _ _)
        refine hK _ _ _ _ _ _ (r_callV rfl (fun _ => rfl) rfl (b0 rfl rfl rfl) (kX2_at (f := f2) rfl rfl (?_ : K _ _ _ _ _ _)))
        refine hK _ _ _ _ _ _ (And.intro (fun _ => ?_) (fun c9 => absurd (hla k (by omega)) c9))
        iterate 2 refine hK _ _ _ _ _ _ (?_ : K _ _ _ _ _ _)
        rw [nI_add k 1]
        first | exact ihk | exact hW _ _ _ _ _ _ _ (by simp) ihk
  · skip
    iterate 1 refine hK _ _ _ _ _ _ (?_ : K _ _ _ _ _ _)
    exact hK _ _ _ _ _ _ (r_iret rfl rfl rfl rfl (hQ _ _ _ _ _ _ _))

set_option maxRecDepth 10000 in
/-- Theorem.tellsTouching -/
theorem kX4_tellsTouching {S : Nat × (Nat → Int32)} {d : Nat} {Q : eQ} {b : Bool} {P : Nat → Nat → Bool} {R u v w : Nat → Bool} {kb : Nat → Nat} {f g e : Nat → Int32} {T : List va_E} {p q : Nat} (hp : p < 6) (hq : q < 6) (hs : Shp (P p)) (ht : Shp (P q)) (hQ : ∀ u v w kb f g e, Q (.inl (some (.int (nI 1)))) (b, wl P R u v w kb f g e T)) : okCall S MT (d + 6) nX4_tellsTouching [.ref 11, .ref (2 + p + 1), .ref (2 + q + 1)] (b, wl P R u v w kb f g e T) Q := by
  refine okc (M := MX4_tellsTouching) rfl rfl fun K hK hW => ?_
  show K 0 [(0, .ref 11), (1, .ref (2 + p + 1)), (2, .ref (2 + q + 1))] [] (b, wl P R u v w kb f g e T) 0 0
  iterate 1 refine hK _ _ _ _ _ _ (?_ : K _ _ _ _ _ _)
  refine hK _ _ _ _ _ _ (r_get rfl rfl rfl (?_ : K _ _ _ _ _ _))
  iterate 2 refine hK _ _ _ _ _ _ (?_ : K _ _ _ _ _ _)
  refine hK _ _ _ _ _ _ (r_callV rfl (fun _ => rfl) rfl (b0 rfl rfl rfl) (kX1_becomeMeeting (k := 15) (by omega) (by omega) rfl (wl_P hp) (wl_P hq) (?_ : K _ _ _ _ _ _)))
  show K _ _ _ (b, wl P R u (fun i => P p i && P q i) w kb f g e T) _ _
  iterate 1 refine hK _ _ _ _ _ _ (?_ : K _ _ _ _ _ _)
  refine hK _ _ _ _ _ _ (r_get rfl rfl rfl (?_ : K _ _ _ _ _ _))
  refine hK _ _ _ _ _ _ (r_callV rfl (fun _ => rfl) rfl (b0 rfl rfl rfl) (kX1_count (s := fun i => P p i && P q i) rfl (?_ : K _ _ _ _ _ _)))
  iterate 1 refine hK _ _ _ _ _ _ (?_ : K _ _ _ _ _ _)
  refine hK _ _ _ _ _ _ (And.intro (fun c1 => ?_) (fun c1 => ?_))
  · skip
    have h1 : fb_ct (fun i => P p i && P q i) 128 = 1 := (nI_eq (Nat.lt_of_le_of_lt (fb_ct_le _ _) (by decide)) (by decide)).mp c1
    iterate 1 refine hK _ _ _ _ _ _ (?_ : K _ _ _ _ _ _)
    refine hK _ _ _ _ _ _ (r_get rfl rfl rfl (?_ : K _ _ _ _ _ _))
    iterate 2 refine hK _ _ _ _ _ _ (?_ : K _ _ _ _ _ _)
    refine hK _ _ _ _ _ _ (r_callV rfl (fun _ => rfl) rfl (b0 rfl rfl rfl) (kX1_becomeUnion (k := 15) (by omega) (by omega) rfl (wl_P hp) (wl_P hq) (?_ : K _ _ _ _ _ _)))
    show K _ _ _ (b, wl P R u (fun i => P p i || P q i) w kb f g e T) _ _
    iterate 1 refine hK _ _ _ _ _ _ (?_ : K _ _ _ _ _ _)
    refine hK _ _ _ _ _ _ (r_get rfl rfl rfl (?_ : K _ _ _ _ _ _))
    iterate 2 refine hK _ _ _ _ _ _ (?_ : K _ _ _ _ _ _)
    refine hK _ _ _ _ _ _ (r_get rfl rfl rfl (?_ : K _ _ _ _ _ _))
    refine hK _ _ _ _ _ _ (r_callV rfl (fun _ => rfl) rfl (b0 rfl rfl rfl) (w_tell0 (wl_P hp) (by omega) (by omega) hs fun kb2 f2 hf2 => (?_ : K _ _ _ _ _ _)))
    iterate 1 refine hK _ _ _ _ _ _ (?_ : K _ _ _ _ _ _)
    refine hK _ _ _ _ _ _ (r_get rfl rfl rfl (?_ : K _ _ _ _ _ _))
    iterate 2 refine hK _ _ _ _ _ _ (?_ : K _ _ _ _ _ _)
    refine hK _ _ _ _ _ _ (r_get rfl rfl rfl (?_ : K _ _ _ _ _ _))
    refine hK _ _ _ _ _ _ (r_callV rfl (fun _ => rfl) rfl (b0 rfl rfl rfl) (w_tell2 (wl_P hq) (by omega) (by omega) ht fun kb3 e2 he2 => (?_ : K _ _ _ _ _ _)))
    iterate 1 refine hK _ _ _ _ _ _ (?_ : K _ _ _ _ _ _)
    refine hK _ _ _ _ _ _ (r_get rfl rfl rfl (?_ : K _ _ _ _ _ _))
    iterate 1 refine hK _ _ _ _ _ _ (?_ : K _ _ _ _ _ _)
    refine hK _ _ _ _ _ _ (r_get rfl rfl rfl (?_ : K _ _ _ _ _ _))
    iterate 1 refine hK _ _ _ _ _ _ (?_ : K _ _ _ _ _ _)
    refine hK _ _ _ _ _ _ (r_get rfl rfl rfl (?_ : K _ _ _ _ _ _))
    refine hK _ _ _ _ _ _ (r_callV rfl (fun _ => rfl) rfl (b0 rfl rfl rfl) (w_tell1 (s := fun i => P p i || P q i) rfl (by decide) (by decide) (or_S hs ht) fun kb4 g2 hg2 => (?_ : K _ _ _ _ _ _)))
    iterate 2 refine hK _ _ _ _ _ _ (?_ : K _ _ _ _ _ _)
    refine hW _ _ [(3, .int (nI (0))), (0, .ref 11)] _ _ _ _ (by simp) ?_
    refine up (P := fun k => K 72 [(3, .int (nI (k))), (0, .ref 11)] [] (b, wl P R u (fun i => P p i || P q i) w kb4 f2 g2 e2 T) 0 0) 7 0 ?_ ?_ (by decide)
    · skip
      iterate 2 refine hK _ _ _ _ _ _ (?_ : K _ _ _ _ _ _)
      refine hK _ _ _ _ _ _ (And.intro (fun _ => ?_) (fun c9 => absurd (nI_le (Nat.le_refl 7) (by decide)) c9))
      iterate 1 refine hK _ _ _ _ _ _ (?_ : K _ _ _ _ _ _)
      exact hK _ _ _ _ _ _ (r_iret rfl rfl rfl rfl (hQ _ _ _ _ _ _ _))
    · intro k h0k hk ihk
      iterate 2 refine hK _ _ _ _ _ _ (?_ : K _ _ _ _ _ _)
      refine hK _ _ _ _ _ _ (And.intro (fun c9 => absurd c9 (nI_ge (by omega) (by decide))) (fun _ => ?_))
      iterate 1 refine hK _ _ _ _ _ _ (?_ : K _ _ _ _ _ _)
      refine hK _ _ _ _ _ _ (r_get rfl rfl rfl (?_ : K _ _ _ _ _ _))
      iterate 1 refine hK _ _ _ _ _ _ (?_ : K _ _ _ _ _ _)
      refine hK _ _ _ _ _ _ (r_callV rfl (fun _ => rfl) rfl (b0 rfl rfl rfl) (kX2_at (f := g2) rfl rfl (?_ : K _ _ _ _ _ _)))
      iterate 1 refine hK _ _ _ _ _ _ (?_ : K _ _ _ _ _ _)
      refine hK _ _ _ _ _ _ (r_get rfl rfl rfl (?_ : K _ _ _ _ _ _))
      iterate 1 refine hK _ _ _ _ _ _ (?_ : K _ _ _ _ _ _)
      refine hK _ _ _ _ _ _ (r_callV rfl (fun _ => rfl) rfl (b0 rfl rfl rfl) (kX2_at (f := f2) rfl rfl (?_ : K _ _ _ _ _ _)))
      iterate 1 refine hK _ _ _ _ _ _ (?_ : K _ _ _ _ _ _)
      refine hK _ _ _ _ _ _ (r_get rfl rfl rfl (?_ : K _ _ _ _ _ _))
      iterate 1 refine hK _ _ _ _ _ _ (?_ : K _ _ _ _ _ _)
      refine hK _ _ _ _ _ _ (r_callV rfl (fun _ => rfl) rfl (b0 rfl rfl rfl) (kX2_at (f := e2) rfl rfl (?_ : K _ _ _ _ _ _)))
      iterate 1 refine hK _ _ _ _ _ _ (?_ : K _ _ _ _ _ _)
      refine hK _ _ _ _ _ _ (And.intro (fun _ => ?_) (fun c9 => absurd (by rw [hAt_in g2 hk, hAt_in f2 hk, hAt_in e2 hk, hf2 k hk, hg2 k hk, he2 k hk, nZ_add, tou_ok hs ht h1]) c9))
      iterate 2 refine hK _ _ _ _ _ _ (?_ : K _ _ _ _ _ _)
      rw [nI_add k 1]
      first | exact ihk | exact hW _ _ _ _ _ _ _ (by simp) ihk
  · skip
    iterate 1 refine hK _ _ _ _ _ _ (?_ : K _ _ _ _ _ _)
    exact hK _ _ _ _ _ _ (r_iret rfl rfl rfl rfl (hQ _ _ _ _ _ _ _))

set_option maxRecDepth 10000 in
/-- Theorem.tellsFold -/
theorem kX4_tellsFold {S : Nat × (Nat → Int32)} {d : Nat} {Q : eQ} {b : Bool} {P : Nat → Nat → Bool} {R u v w : Nat → Bool} {kb : Nat → Nat} {f g e : Nat → Int32} {T : List va_E} {p : Nat} (hp : p < 6) (hs : Shp (P p)) {c : Nat} (hc : c < 128) (hc0 : c ≠ 0) (hsc : P p c = true) (hQ : ∀ u v w kb f g e, Q (.inl (some (.int (nI 1)))) (b, wl P R u v w kb f g e T)) : okCall S MT (d + 6) nX4_tellsFold [.ref 11, .ref (2 + p + 1), .int (nI c)] (b, wl P R u v w kb f g e T) Q := by
  refine okc (M := MX4_tellsFold) rfl rfl fun K hK hW => ?_
  show K 0 [(0, .ref 11), (1, .ref (2 + p + 1)), (2, .int (nI c))] [] (b, wl P R u v w kb f g e T) 0 0
  iterate 2 refine hK _ _ _ _ _ _ (?_ : K _ _ _ _ _ _)
  refine hK _ _ _ _ _ _ (r_callV rfl (fun _ => rfl) (wl_P hp) (b0 rfl rfl rfl) (kX1_countOver hc (wl_P hp) (?_ : K _ _ _ _ _ _)))
  iterate 1 refine hK _ _ _ _ _ _ (?_ : K _ _ _ _ _ _)
  refine hK _ _ _ _ _ _ (And.intro (fun c1 => ?_) (fun c1 => ?_))
  · skip
    have h1 : fb_ct (ovP (P p) c) 128 = 1 := (nI_eq (Nat.lt_of_le_of_lt (fb_ct_le _ _) (by decide)) (by decide)).mp c1
    obtain ⟨g0, hg0, hg1, hg2, hg3, hg4, hg5⟩ := fold_ex h1
    iterate 1 refine hK _ _ _ _ _ _ (?_ : K _ _ _ _ _ _)
    refine hK _ _ _ _ _ _ (r_get rfl rfl rfl (?_ : K _ _ _ _ _ _))
    iterate 1 refine hK _ _ _ _ _ _ (?_ : K _ _ _ _ _ _)
    refine hK _ _ _ _ _ _ (r_callV rfl (fun _ => rfl) rfl (b0 rfl rfl rfl) (kX1_become (k := 15) (by omega) rfl (wl_P hp) (?_ : K _ _ _ _ _ _)))
    show K _ _ _ (b, wl P R u (P p) w kb f g e T) _ _
    iterate 1 refine hK _ _ _ _ _ _ (?_ : K _ _ _ _ _ _)
    refine hK _ _ _ _ _ _ (r_get rfl rfl rfl (?_ : K _ _ _ _ _ _))
    iterate 2 refine hK _ _ _ _ _ _ (?_ : K _ _ _ _ _ _)
    refine hK _ _ _ _ _ _ (r_callV rfl (fun _ => rfl) (wl_P hp) (b0 rfl rfl rfl) (kX1_firstOver hc (wl_P hp) (?_ : K _ _ _ _ _ _)))
    refine hK _ _ _ _ _ _ (r_callV rfl (fun _ => rfl) rfl (b0 rfl rfl rfl) (okW (by rw [hg0]) (kX1_remove (k := 15) (s := P p) hg2 rfl (?_ : K _ _ _ _ _ _))))
    show K _ _ _ (b, wl P R u (sDel (P p) g0) w kb f g e T) _ _
    iterate 1 refine hK _ _ _ _ _ _ (?_ : K _ _ _ _ _ _)
    refine hK _ _ _ _ _ _ (r_get rfl rfl rfl (?_ : K _ _ _ _ _ _))
    iterate 1 refine hK _ _ _ _ _ _ (?_ : K _ _ _ _ _ _)
    refine hK _ _ _ _ _ _ (r_callV rfl (fun _ => rfl) rfl (b0 rfl rfl rfl) (kX1_remove (k := 15) (s := sDel (P p) g0) hc rfl (?_ : K _ _ _ _ _ _)))
    show K _ _ _ (b, wl P R u (sDel (sDel (P p) g0) c) w kb f g e T) _ _
    iterate 1 refine hK _ _ _ _ _ _ (?_ : K _ _ _ _ _ _)
    refine hK _ _ _ _ _ _ (r_get rfl rfl rfl (?_ : K _ _ _ _ _ _))
    iterate 2 refine hK _ _ _ _ _ _ (?_ : K _ _ _ _ _ _)
    refine hK _ _ _ _ _ _ (r_get rfl rfl rfl (?_ : K _ _ _ _ _ _))
    refine hK _ _ _ _ _ _ (r_callV rfl (fun _ => rfl) rfl (b0 rfl rfl rfl) (w_tell0 (wl_P hp) (by omega) (by omega) hs fun kb2 f2 hf2 => (?_ : K _ _ _ _ _ _)))
    iterate 1 refine hK _ _ _ _ _ _ (?_ : K _ _ _ _ _ _)
    refine hK _ _ _ _ _ _ (r_get rfl rfl rfl (?_ : K _ _ _ _ _ _))
    iterate 1 refine hK _ _ _ _ _ _ (?_ : K _ _ _ _ _ _)
    refine hK _ _ _ _ _ _ (r_get rfl rfl rfl (?_ : K _ _ _ _ _ _))
    iterate 1 refine hK _ _ _ _ _ _ (?_ : K _ _ _ _ _ _)
    refine hK _ _ _ _ _ _ (r_get rfl rfl rfl (?_ : K _ _ _ _ _ _))
    refine hK _ _ _ _ _ _ (r_callV rfl (fun _ => rfl) rfl (b0 rfl rfl rfl) (w_tell1 (s := sDel (sDel (P p) g0) c) rfl (by decide) (by decide) (fold_S hs hc0 hg3 hg5) fun kb3 g2 hg2b => (?_ : K _ _ _ _ _ _)))
    iterate 1 refine hK _ _ _ _ _ _ (?_ : K _ _ _ _ _ _)
    refine hK _ _ _ _ _ _ (r_get rfl rfl rfl (?_ : K _ _ _ _ _ _))
    iterate 1 refine hK _ _ _ _ _ _ (?_ : K _ _ _ _ _ _)
    refine hK _ _ _ _ _ _ (r_get rfl rfl rfl (?_ : K _ _ _ _ _ _))
    refine hK _ _ _ _ _ _ (r_callV rfl (fun _ => rfl) rfl (b0 rfl rfl rfl) (kX2_areLike (f := g2) (g := f2) rfl rfl rfl rfl fun b1 hb1 => (?_ : K _ _ _ _ _ _)))
    have h9 : b1 = true := hb1.mpr fun j hj => by rw [hg2b j hj, hf2 j hj, fold_ok hs hc hc0 hsc hg2 hg1 hg3 hg4 hg5]
    subst h9
    exact hK _ _ _ _ _ _ (r_iret rfl rfl rfl rfl (hQ _ _ _ _ _ _ _))
  · skip
    iterate 1 refine hK _ _ _ _ _ _ (?_ : K _ _ _ _ _ _)
    exact hK _ _ _ _ _ _ (r_iret rfl rfl rfl rfl (hQ _ _ _ _ _ _ _))

theorem dfV_h {A B : Nat → Bool} {f g : Nat → Int32} {t : Nat} {x : Int} {y : Int32} (hy : nZ x = y) (hf : ∀ j, j < 7 → f j = nZ (hol A j)) (hg : ∀ j, j < 7 → g j = nZ (hol B j)) (h : ∀ j, hol B j = hol A j + (if j = t then x else 0)) : ∀ j, j < 7 → g j = dfV f t y j := fun j hj => by
  subst hy
  rw [hg j hj, h j]
  unfold dfV
  by_cases e : j = t
  · rw [if_pos e, if_pos e, hf j hj, nZ_add]
  · rw [if_neg e, if_neg e, hf j hj, Int.add_zero]
theorem if_e9 {p q : Prop} [Decidable p] [Decidable q] (h : p ↔ q) {z : Int} : (z + if p then 1 else 0) = z + if q then 1 else 0 := by
  by_cases c : p
  · rw [if_pos c, if_pos (h.mp c)]
  · rw [if_neg c, if_neg fun d => c (h.mpr d)]
theorem ht_7 {f : Nat} (hf : f < 128) : ht f < 7 := by
  have := pc_8 f hf
  unfold ht; omega
set_option maxRecDepth 10000 in
/-- Theorem.tellsTaking -/
theorem kX4_tellsTaking {S : Nat × (Nat → Int32)} {d : Nat} {Q : eQ} {b : Bool} {P : Nat → Nat → Bool} {R u v w : Nat → Bool} {kb : Nat → Nat} {f g e : Nat → Int32} {T : List va_E} {p : Nat} (hp : p < 6) (hs : Shp (P p)) {c : Nat} (hc : c < 128) (hc0 : c ≠ 0) (hsc : P p c = true) (hQ : ∀ u v w kb f g e, Q (.inl (some (.int (nI 1)))) (b, wl P R u v w kb f g e T)) : okCall S MT (d + 6) nX4_tellsTaking [.ref 11, .ref (2 + p + 1), .int (nI c)] (b, wl P R u v w kb f g e T) Q := by
  refine okc (M := MX4_tellsTaking) rfl rfl fun K hK hW => ?_
  show K 0 [(0, .ref 11), (1, .ref (2 + p + 1)), (2, .int (nI c))] [] (b, wl P R u v w kb f g e T) 0 0
  iterate 2 refine hK _ _ _ _ _ _ (?_ : K _ _ _ _ _ _)
  refine hK _ _ _ _ _ _ (r_callV rfl (fun _ => rfl) (wl_P hp) (b0 rfl rfl rfl) (kX1_countOver hc (wl_P hp) (?_ : K _ _ _ _ _ _)))
  refine hK _ _ _ _ _ _ (And.intro (fun c1 => ?_) (fun c1 => ?_))
  · skip
    have h1 : fb_ct (ovP (P p) c) 128 = 0 := (nI_z (Nat.lt_of_le_of_lt (fb_ct_le _ _) (by decide))).mp c1
    iterate 1 refine hK _ _ _ _ _ _ (?_ : K _ _ _ _ _ _)
    refine hK _ _ _ _ _ _ (r_callV rfl (fun _ => rfl) (wl_P hp) (b0 rfl rfl rfl) (kX1_count (wl_P hp) (?_ : K _ _ _ _ _ _)))
    iterate 1 refine hK _ _ _ _ _ _ (?_ : K _ _ _ _ _ _)
    refine hK _ _ _ _ _ _ (And.intro (fun c2 => ?_) (fun c2 => ?_))
    · skip
      iterate 1 refine hK _ _ _ _ _ _ (?_ : K _ _ _ _ _ _)
      exact hK _ _ _ _ _ _ (r_iret rfl rfl rfl rfl (hQ _ _ _ _ _ _ _))
    · skip
      have h2 : fb_ct (P p) 128 ≠ 1 := fun c => c2 (by rw [c])
      iterate 1 refine hK _ _ _ _ _ _ (?_ : K _ _ _ _ _ _)
      refine hK _ _ _ _ _ _ (r_get rfl rfl rfl (?_ : K _ _ _ _ _ _))
      iterate 1 refine hK _ _ _ _ _ _ (?_ : K _ _ _ _ _ _)
      refine hK _ _ _ _ _ _ (r_callV rfl (fun _ => rfl) rfl (b0 rfl rfl rfl) (kX1_become (k := 15) (by omega) rfl (wl_P hp) (?_ : K _ _ _ _ _ _)))
      show K _ _ _ (b, wl P R u (P p) w kb f g e T) _ _
      iterate 1 refine hK _ _ _ _ _ _ (?_ : K _ _ _ _ _ _)
      refine hK _ _ _ _ _ _ (r_get rfl rfl rfl (?_ : K _ _ _ _ _ _))
      iterate 1 refine hK _ _ _ _ _ _ (?_ : K _ _ _ _ _ _)
      refine hK _ _ _ _ _ _ (r_callV rfl (fun _ => rfl) rfl (b0 rfl rfl rfl) (kX1_remove (k := 15) (s := P p) hc rfl (?_ : K _ _ _ _ _ _)))
      show K _ _ _ (b, wl P R u (sDel (P p) c) w kb f g e T) _ _
      iterate 1 refine hK _ _ _ _ _ _ (?_ : K _ _ _ _ _ _)
      refine hK _ _ _ _ _ _ (r_get rfl rfl rfl (?_ : K _ _ _ _ _ _))
      iterate 2 refine hK _ _ _ _ _ _ (?_ : K _ _ _ _ _ _)
      refine hK _ _ _ _ _ _ (r_get rfl rfl rfl (?_ : K _ _ _ _ _ _))
      refine hK _ _ _ _ _ _ (r_callV rfl (fun _ => rfl) rfl (b0 rfl rfl rfl) (w_tell0 (wl_P hp) (by omega) (by omega) hs fun kb2 f2 hf2 => (?_ : K _ _ _ _ _ _)))
      iterate 1 refine hK _ _ _ _ _ _ (?_ : K _ _ _ _ _ _)
      refine hK _ _ _ _ _ _ (r_get rfl rfl rfl (?_ : K _ _ _ _ _ _))
      iterate 1 refine hK _ _ _ _ _ _ (?_ : K _ _ _ _ _ _)
      refine hK _ _ _ _ _ _ (r_get rfl rfl rfl (?_ : K _ _ _ _ _ _))
      iterate 1 refine hK _ _ _ _ _ _ (?_ : K _ _ _ _ _ _)
      refine hK _ _ _ _ _ _ (r_get rfl rfl rfl (?_ : K _ _ _ _ _ _))
      refine hK _ _ _ _ _ _ (r_callV rfl (fun _ => rfl) rfl (b0 rfl rfl rfl) (w_tell1 (s := sDel (P p) c) rfl (by decide) (by decide) (take_S hs h1) fun kb3 g2 hg2 => (?_ : K _ _ _ _ _ _)))
      iterate 1 refine hK _ _ _ _ _ _ (?_ : K _ _ _ _ _ _)
      refine hK _ _ _ _ _ _ (r_callN rfl (fun _ => rfl) (b0 rfl rfl rfl) (kX6_heightOf (f := c) hc (Nat.pos_of_ne_zero hc0) (?_ : K _ _ _ _ _ _)))
      iterate 2 refine hK _ _ _ _ _ _ (?_ : K _ _ _ _ _ _)
      refine hK _ _ _ _ _ _ (r_get rfl rfl rfl (?_ : K _ _ _ _ _ _))
      iterate 3 refine hK _ _ _ _ _ _ (?_ : K _ _ _ _ _ _)
      refine hK _ _ _ _ _ _ (r_get rfl rfl rfl (?_ : K _ _ _ _ _ _))
      refine hK _ _ _ _ _ _ (r_callV rfl (fun _ => rfl) rfl (b0 rfl rfl rfl) (kX2_differAt (f := g2) (g := f2) (t := ht c) (x := -1) rfl rfl rfl rfl (ht_7 hc) fun b1 hb1 => (?_ : K _ _ _ _ _ _)))
      refine hK _ _ _ _ _ _ (And.intro (fun c3 => ?_) (fun c3 => ?_))
      · skip
        have h3 := take_ok hs hc hc0 hsc h1 h2
        have h4 : 1 ≤ ht c ∧ ∀ t, hol (sDel (P p) c) t = hol (P p) t + (if t + 1 = ht c then 1 else 0) := by
          rcases h3 with h3 | h3
          · have h5 : b1 = true := hb1.mpr (dfV_h (x := -1) (by decide +kernel) hf2 hg2 h3)
            rw [h5] at c3
            exact absurd c3 (by decide +kernel)
          · exact h3
        iterate 1 refine hK _ _ _ _ _ _ (?_ : K _ _ _ _ _ _)
        refine hK _ _ _ _ _ _ (And.intro (fun c9 => absurd c9 (nI_ge (show 0 < ht c from h4.1) (by have := ht_7 hc; omega))) (fun _ => ?_))
        iterate 1 refine hK _ _ _ _ _ _ (?_ : K _ _ _ _ _ _)
        refine hK _ _ _ _ _ _ (r_get rfl rfl rfl (?_ : K _ _ _ _ _ _))
        iterate 5 refine hK _ _ _ _ _ _ (?_ : K _ _ _ _ _ _)
        refine hK _ _ _ _ _ _ (r_get rfl rfl rfl (?_ : K _ _ _ _ _ _))
        refine hK _ _ _ _ _ _ (r_callV rfl (fun _ => rfl) rfl (b0 rfl rfl rfl) (okW (by rw [show nI (ht c) - nI 1 = nI (ht c - 1) from nI_sub _ _ _ (by omega)]) (kX2_differAt (f := g2) (g := f2) (t := ht c - 1) (x := nI 1) rfl rfl rfl rfl (by have := ht_7 hc; omega) fun b2 hb2 => (?_ : K _ _ _ _ _ _))))
        refine hK _ _ _ _ _ _ (And.intro (fun c9 => absurd c9 (b2i_n (hb2.mpr (dfV_h (x := 1) (y := nI 1) (by decide +kernel) hf2 hg2 fun j => by rw [h4.2 j]; exact if_e9 (show j + 1 = ht c ↔ j = ht c - 1 by omega))))) (fun _ => ?_))
        iterate 2 refine hK _ _ _ _ _ _ (?_ : K _ _ _ _ _ _)
        exact hK _ _ _ _ _ _ (r_iret rfl rfl rfl rfl (hQ _ _ _ _ _ _ _))
      · skip
        iterate 2 refine hK _ _ _ _ _ _ (?_ : K _ _ _ _ _ _)
        exact hK _ _ _ _ _ _ (r_iret rfl rfl rfl rfl (hQ _ _ _ _ _ _ _))
  · skip
    iterate 1 refine hK _ _ _ _ _ _ (?_ : K _ _ _ _ _ _)
    exact hK _ _ _ _ _ _ (r_iret rfl rfl rfl rfl (hQ _ _ _ _ _ _ _))

set_option maxRecDepth 10000 in
/-- Theorem.tellsSums -/
theorem kX4_tellsSums {S : Nat × (Nat → Int32)} {d : Nat} {Q : eQ} {b : Bool} {P : Nat → Nat → Bool} {R u v w : Nat → Bool} {kb : Nat → Nat} {f g e : Nat → Int32} {T : List va_E} {p q : Nat} (hp : p < 6) (hq : q < 6) (hQ : ∀ u v w kb f g e, Q (.inl (some (.int (nI 1)))) (b, wl P R u v w kb f g e T)) : okCall S MT (d + 5) nX4_tellsSums [.ref 11, .ref (2 + p + 1), .ref (2 + q + 1)] (b, wl P R u v w kb f g e T) Q := by
  refine okc (M := MX4_tellsSums) rfl rfl fun K hK hW => ?_
  show K 0 [(0, .ref 11), (1, .ref (2 + p + 1)), (2, .ref (2 + q + 1))] [] (b, wl P R u v w kb f g e T) 0 0
  iterate 1 refine hK _ _ _ _ _ _ (?_ : K _ _ _ _ _ _)
  refine hK _ _ _ _ _ _ (r_get rfl rfl rfl (?_ : K _ _ _ _ _ _))
  iterate 2 refine hK _ _ _ _ _ _ (?_ : K _ _ _ _ _ _)
  refine hK _ _ _ _ _ _ (r_callV rfl (fun _ => rfl) rfl (b0 rfl rfl rfl) (kX1_becomeMeeting (k := 15) (by omega) (by omega) rfl (wl_P hp) (wl_P hq) (?_ : K _ _ _ _ _ _)))
  show K _ _ _ (b, wl P R u (fun i => P p i && P q i) w kb f g e T) _ _
  iterate 1 refine hK _ _ _ _ _ _ (?_ : K _ _ _ _ _ _)
  refine hK _ _ _ _ _ _ (r_get rfl rfl rfl (?_ : K _ _ _ _ _ _))
  iterate 2 refine hK _ _ _ _ _ _ (?_ : K _ _ _ _ _ _)
  refine hK _ _ _ _ _ _ (r_callV rfl (fun _ => rfl) rfl (b0 rfl rfl rfl) (kX1_becomeUnion (k := 16) (by omega) (by omega) rfl (wl_P hp) (wl_P hq) (?_ : K _ _ _ _ _ _)))
  show K _ _ _ (b, wl P R u (fun i => P p i && P q i) (fun i => P p i || P q i) kb f g e T) _ _
  iterate 2 refine hK _ _ _ _ _ _ (?_ : K _ _ _ _ _ _)
  refine hW _ _ [(3, .int (nI (0))), (0, .ref 11), (1, .ref (2 + p + 1)), (2, .ref (2 + q + 1))] _ _ _ _ (by simp) ?_
  refine up (P := fun k => K 20 [(3, .int (nI (k))), (0, .ref 11), (1, .ref (2 + p + 1)), (2, .ref (2 + q + 1))] [] (b, wl P R u (fun i => P p i && P q i) (fun i => P p i || P q i) kb f g e T) 0 0) 7 0 ?_ ?_ (by decide)
  · skip
    iterate 2 refine hK _ _ _ _ _ _ (?_ : K _ _ _ _ _ _)
    refine hK _ _ _ _ _ _ (And.intro (fun _ => ?_) (fun c9 => absurd (nI_le (Nat.le_refl 7) (by decide)) c9))
    iterate 1 refine hK _ _ _ _ _ _ (?_ : K _ _ _ _ _ _)
    exact hK _ _ _ _ _ _ (r_iret rfl rfl rfl rfl (hQ _ _ _ _ _ _ _))
  · intro k h0k hk ihk
    iterate 2 refine hK _ _ _ _ _ _ (?_ : K _ _ _ _ _ _)
    refine hK _ _ _ _ _ _ (And.intro (fun c9 => absurd c9 (nI_ge (by omega) (by decide))) (fun _ => ?_))
    iterate 2 refine hK _ _ _ _ _ _ (?_ : K _ _ _ _ _ _)
    refine hK _ _ _ _ _ _ (r_callV rfl (fun _ => rfl) (wl_P hp) (b0 rfl rfl rfl) (kX1_countAt (t := k) (by omega) (wl_P hp) (?_ : K _ _ _ _ _ _)))
    iterate 2 refine hK _ _ _ _ _ _ (?_ : K _ _ _ _ _ _)
    refine hK _ _ _ _ _ _ (r_callV rfl (fun _ => rfl) (wl_P hq) (b0 rfl rfl rfl) (kX1_countAt (t := k) (by omega) (wl_P hq) (?_ : K _ _ _ _ _ _)))
    iterate 3 refine hK _ _ _ _ _ _ (?_ : K _ _ _ _ _ _)
    refine hK _ _ _ _ _ _ (r_get rfl rfl rfl (?_ : K _ _ _ _ _ _))
    iterate 1 refine hK _ _ _ _ _ _ (?_ : K _ _ _ _ _ _)
    refine hK _ _ _ _ _ _ (r_callV rfl (fun _ => rfl) rfl (b0 rfl rfl rfl) (kX1_countAt (t := k) (s := fun i => P p i && P q i) (by omega) rfl (?_ : K _ _ _ _ _ _)))
    iterate 1 refine hK _ _ _ _ _ _ (?_ : K _ _ _ _ _ _)
    refine hK _ _ _ _ _ _ (r_get rfl rfl rfl (?_ : K _ _ _ _ _ _))
    iterate 1 refine hK _ _ _ _ _ _ (?_ : K _ _ _ _ _ _)
    refine hK _ _ _ _ _ _ (r_callV rfl (fun _ => rfl) rfl (b0 rfl rfl rfl) (kX1_countAt (t := k) (s := fun i => P p i || P q i) (by omega) rfl (?_ : K _ _ _ _ _ _)))
    iterate 2 refine hK _ _ _ _ _ _ (?_ : K _ _ _ _ _ _)
    refine hK _ _ _ _ _ _ (And.intro (fun _ => ?_) (fun c9 => absurd (by rw [nI_add, nI_add]; exact congrArg nI (sums_ok (P p) (P q) k)) c9))
    iterate 2 refine hK _ _ _ _ _ _ (?_ : K _ _ _ _ _ _)
    rw [nI_add k 1]
    first | exact ihk | exact hW _ _ _ _ _ _ _ (by simp) ihk

theorem opp_t : ∀ m, m < 8 → 2 ≤ m → ∀ k, k < 7 → (nI k ≤ nI m - nI 3 ↔ k + 3 ≤ m) := by decide +kernel
theorem opp_i : ∀ m, m < 8 → ∀ k, k < 7 → k + 3 ≤ m → nI m - nI 3 - nI k = nI (m - 3 - k) := by decide +kernel
set_option maxRecDepth 10000 in
/-- Theorem.areOpposed -/
theorem kX4_areOpposed {S : Nat × (Nat → Int32)} {d : Nat} {Q : eQ} {b : Bool} {P : Nat → Nat → Bool} {R u v w : Nat → Bool} {kb : Nat → Nat} {f g e : Nat → Int32} {T : List va_E} {p : Nat} (hp : p < 6) (hs : Shp (P p)) {c : Nat} (hc : c < 128) (hc2 : 2 ≤ pc c) (hsc : ∀ i, i < 128 → P p i = true → isP i c = true) (hc0 : P p c = false) (hne : fb_ct (P p) 128 ≠ 0) (hne2 : fb_ct (otS (P p) c) 128 ≠ 0) (hv : v = otS (P p) c) (hQ : ∀ u v w kb f g e, Q (.inl (some (.int (nI 1)))) (b, wl P R u v w kb f g e T)) : okCall S MT (d + 6) nX4_areOpposed [.ref 11, .ref (2 + p + 1), .int (nI (pc c))] (b, wl P R u v w kb f g e T) Q := by
  refine okc (M := MX4_areOpposed) rfl rfl fun K hK hW => ?_
  show K 0 [(0, .ref 11), (1, .ref (2 + p + 1)), (2, .int (nI (pc c)))] [] (b, wl P R u v w kb f g e T) 0 0
  iterate 1 refine hK _ _ _ _ _ _ (?_ : K _ _ _ _ _ _)
  refine hK _ _ _ _ _ _ (r_get rfl rfl rfl (?_ : K _ _ _ _ _ _))
  iterate 2 refine hK _ _ _ _ _ _ (?_ : K _ _ _ _ _ _)
  refine hK _ _ _ _ _ _ (r_get rfl rfl rfl (?_ : K _ _ _ _ _ _))
  refine hK _ _ _ _ _ _ (r_callV rfl (fun _ => rfl) rfl (b0 rfl rfl rfl) (w_tell0 (wl_P hp) (by omega) (by omega) hs fun kb2 f2 hf2 => (?_ : K _ _ _ _ _ _)))
  iterate 1 refine hK _ _ _ _ _ _ (?_ : K _ _ _ _ _ _)
  refine hK _ _ _ _ _ _ (r_get rfl rfl rfl (?_ : K _ _ _ _ _ _))
  iterate 1 refine hK _ _ _ _ _ _ (?_ : K _ _ _ _ _ _)
  refine hK _ _ _ _ _ _ (r_get rfl rfl rfl (?_ : K _ _ _ _ _ _))
  iterate 1 refine hK _ _ _ _ _ _ (?_ : K _ _ _ _ _ _)
  refine hK _ _ _ _ _ _ (r_get rfl rfl rfl (?_ : K _ _ _ _ _ _))
  refine hK _ _ _ _ _ _ (r_callV rfl (fun _ => rfl) rfl (b0 rfl rfl rfl) (w_tell1 (s := v) rfl (by decide) (by decide) (hv ▸ ot_S hs hc) fun kb3 g2 hg2 => (?_ : K _ _ _ _ _ _)))
  iterate 6 refine hK _ _ _ _ _ _ (?_ : K _ _ _ _ _ _)
  have h8 := pc_8 c hc
  obtain ⟨ho1, ho2⟩ := ot_hol hs hc hc2 hsc hc0 hne hne2
  rw [← hv] at ho1 ho2
  refine hW _ _ [(4, .int (nI (0))), (3, .int (nI (pc c) - nI 3)), (0, .ref 11)] _ _ _ _ (by simp) ?_
  refine up (P := fun k => K 34 [(4, .int (nI (k))), (3, .int (nI (pc c) - nI 3)), (0, .ref 11)] [] (b, wl P R u v w kb3 f2 g2 e T) 0 0) 7 0 ?_ ?_ (by decide)
  · skip
    iterate 2 refine hK _ _ _ _ _ _ (?_ : K _ _ _ _ _ _)
    refine hK _ _ _ _ _ _ (And.intro (fun _ => ?_) (fun c9 => absurd (nI_le (Nat.le_refl 7) (by decide)) c9))
    iterate 1 refine hK _ _ _ _ _ _ (?_ : K _ _ _ _ _ _)
    exact hK _ _ _ _ _ _ (r_iret rfl rfl rfl rfl (hQ _ _ _ _ _ _ _))
  · intro k h0k hk ihk
    iterate 2 refine hK _ _ _ _ _ _ (?_ : K _ _ _ _ _ _)
    refine hK _ _ _ _ _ _ (And.intro (fun c9 => absurd c9 (nI_ge (by omega) (by decide))) (fun _ => ?_))
    iterate 2 refine hK _ _ _ _ _ _ (?_ : K _ _ _ _ _ _)
    refine hK _ _ _ _ _ _ (And.intro (fun c1 => ?_) (fun c1 => ?_))
    · skip
      have hk3 := (opp_t (pc c) (by omega) hc2 k hk).mp c1
      iterate 3 refine hK _ _ _ _ _ _ (?_ : K _ _ _ _ _ _)
      refine hK _ _ _ _ _ _ (And.intro (fun _ => ?_) (fun c9 => absurd (rfl) c9))
      iterate 1 refine hK _ _ _ _ _ _ (?_ : K _ _ _ _ _ _)
      refine hK _ _ _ _ _ _ (r_get rfl rfl rfl (?_ : K _ _ _ _ _ _))
      iterate 3 refine hK _ _ _ _ _ _ (?_ : K _ _ _ _ _ _)
      refine hK _ _ _ _ _ _ (r_callV rfl (fun _ => rfl) rfl (b0 rfl rfl rfl) (kX2_at (f := g2) rfl rfl (?_ : K _ _ _ _ _ _)))
      iterate 2 refine hK _ _ _ _ _ _ (?_ : K _ _ _ _ _ _)
      refine hK _ _ _ _ _ _ (r_get rfl rfl rfl (?_ : K _ _ _ _ _ _))
      iterate 1 refine hK _ _ _ _ _ _ (?_ : K _ _ _ _ _ _)
      refine hK _ _ _ _ _ _ (r_callV rfl (fun _ => rfl) rfl (b0 rfl rfl rfl) (kX2_at (f := f2) rfl rfl (?_ : K _ _ _ _ _ _)))
      iterate 1 refine hK _ _ _ _ _ _ (?_ : K _ _ _ _ _ _)
      refine hK _ _ _ _ _ _ (And.intro (fun _ => ?_) (fun c9 => absurd (by rw [opp_i (pc c) (by omega) k hk hk3, hAt_in g2 (by omega), hAt_in f2 hk, hf2 k hk, hg2 _ (by omega), ho1 k hk3]) c9))
      iterate 1 refine hK _ _ _ _ _ _ (?_ : K _ _ _ _ _ _)
      refine hK _ _ _ _ _ _ (And.intro (fun _ => ?_) (fun c9 => absurd (rfl) c9))
      iterate 2 refine hK _ _ _ _ _ _ (?_ : K _ _ _ _ _ _)
      rw [nI_add k 1]
      first | exact ihk | exact hW _ _ _ _ _ _ _ (by simp) ihk
    · skip
      have hk3 : pc c < k + 3 := Nat.lt_of_not_le fun h => c1 ((opp_t (pc c) (by omega) hc2 k hk).mpr h)
      iterate 4 refine hK _ _ _ _ _ _ (?_ : K _ _ _ _ _ _)
      refine hK _ _ _ _ _ _ (And.intro (fun c9 => absurd c9 (nI1_0)) (fun _ => ?_))
      iterate 4 refine hK _ _ _ _ _ _ (?_ : K _ _ _ _ _ _)
      refine hK _ _ _ _ _ _ (r_get rfl rfl rfl (?_ : K _ _ _ _ _ _))
      iterate 1 refine hK _ _ _ _ _ _ (?_ : K _ _ _ _ _ _)
      refine hK _ _ _ _ _ _ (r_callV rfl (fun _ => rfl) rfl (b0 rfl rfl rfl) (kX2_at (f := f2) rfl rfl (?_ : K _ _ _ _ _ _)))
      iterate 1 refine hK _ _ _ _ _ _ (?_ : K _ _ _ _ _ _)
      refine hK _ _ _ _ _ _ (And.intro (fun _ => ?_) (fun c9 => absurd (by rw [hAt_in f2 hk, hf2 k hk, (ho2 k hk3).1]; rfl) c9))
      iterate 1 refine hK _ _ _ _ _ _ (?_ : K _ _ _ _ _ _)
      refine hK _ _ _ _ _ _ (And.intro (fun c9 => absurd c9 (nI1_0)) (fun _ => ?_))
      iterate 1 refine hK _ _ _ _ _ _ (?_ : K _ _ _ _ _ _)
      refine hK _ _ _ _ _ _ (r_get rfl rfl rfl (?_ : K _ _ _ _ _ _))
      iterate 1 refine hK _ _ _ _ _ _ (?_ : K _ _ _ _ _ _)
      refine hK _ _ _ _ _ _ (r_callV rfl (fun _ => rfl) rfl (b0 rfl rfl rfl) (kX2_at (f := g2) rfl rfl (?_ : K _ _ _ _ _ _)))
      refine hK _ _ _ _ _ _ (And.intro (fun _ => ?_) (fun c9 => absurd (by rw [hAt_in g2 hk, hg2 k hk, (ho2 k hk3).2]; rfl) c9))
      iterate 2 refine hK _ _ _ _ _ _ (?_ : K _ _ _ _ _ _)
      rw [nI_add k 1]
      first | exact ihk | exact hW _ _ _ _ _ _ _ (by simp) ihk

set_option maxRecDepth 10000 in
/-- Theorem.tellsOther -/
theorem kX4_tellsOther {S : Nat × (Nat → Int32)} {d : Nat} {Q : eQ} {b : Bool} {P : Nat → Nat → Bool} {R u v w : Nat → Bool} {kb : Nat → Nat} {f g e : Nat → Int32} {T : List va_E} {p : Nat} (hp : p < 6) (hs : Shp (P p)) {c : Nat} (hc : c < 128) (hsc : ∀ i, i < 128 → P p i = true → isP i c = true) (hQ : ∀ u v w kb f g e, Q (.inl (some (.int (nI 1)))) (b, wl P R u v w kb f g e T)) : okCall S MT (d + 7) nX4_tellsOther [.ref 11, .ref (2 + p + 1), .int (nI c)] (b, wl P R u v w kb f g e T) Q := by
  refine okc (M := MX4_tellsOther) rfl rfl fun K hK hW => ?_
  show K 0 [(0, .ref 11), (1, .ref (2 + p + 1)), (2, .int (nI c))] [] (b, wl P R u v w kb f g e T) 0 0
  iterate 1 refine hK _ _ _ _ _ _ (?_ : K _ _ _ _ _ _)
  refine hK _ _ _ _ _ _ (r_callS rfl (fun _ => rfl) (b0 rfl rfl rfl) (kJ6_bitCount_0f7a4 hc (?_ : K _ _ _ _ _ _)))
  iterate 3 refine hK _ _ _ _ _ _ (?_ : K _ _ _ _ _ _)
  refine hK _ _ _ _ _ _ (And.intro (fun c1 => ?_) (fun c1 => ?_))
  · skip
    iterate 1 refine hK _ _ _ _ _ _ (?_ : K _ _ _ _ _ _)
    exact hK _ _ _ _ _ _ (r_iret rfl rfl rfl rfl (hQ _ _ _ _ _ _ _))
  · skip
    have hc2 : 2 ≤ pc c := Nat.le_of_not_lt fun h => c1 (nI_lt h (by decide))
    have hcn : c ≠ 0 := fun h => by rw [h, pc_00] at hc2; omega
    have h8 := pc_8 c hc
    iterate 2 refine hK _ _ _ _ _ _ (?_ : K _ _ _ _ _ _)
    refine hK _ _ _ _ _ _ (r_callV rfl (fun _ => rfl) (wl_P hp) (b0 rfl rfl rfl) (kX1_holds hc (wl_P hp) (?_ : K _ _ _ _ _ _)))
    refine hK _ _ _ _ _ _ (And.intro (fun c2 => ?_) (fun c2 => ?_))
    · skip
      have hc0 := b2i_0.mp c2
      iterate 3 refine hK _ _ _ _ _ _ (?_ : K _ _ _ _ _ _)
      refine hK _ _ _ _ _ _ (r_get rfl rfl rfl (?_ : K _ _ _ _ _ _))
      refine hK _ _ _ _ _ _ (r_callS rfl (fun _ => rfl) (b0 rfl rfl rfl) (kX3_makeOther (q := 2 + p) (m := 15) (c := c) (by omega) (wl_P hp) rfl (by omega) hc (?_ : K _ _ _ _ _ _)))
      show K _ _ _ (b, wl P R u (otS (P p) c) w kb f g e T) _ _
      iterate 1 refine hK _ _ _ _ _ _ (?_ : K _ _ _ _ _ _)
      refine hK _ _ _ _ _ _ (r_get rfl rfl rfl (?_ : K _ _ _ _ _ _))
      iterate 2 refine hK _ _ _ _ _ _ (?_ : K _ _ _ _ _ _)
      refine hK _ _ _ _ _ _ (r_get rfl rfl rfl (?_ : K _ _ _ _ _ _))
      refine hK _ _ _ _ _ _ (r_callS rfl (fun _ => rfl) (b0 rfl rfl rfl) (kX3_makeOther (q := 15) (m := 16) (s := otS (P p) c) (c := c) (by omega) rfl rfl (by omega) hc (?_ : K _ _ _ _ _ _)))
      show K _ _ _ (b, wl P R u (otS (P p) c) (otS (otS (P p) c) c) kb f g e T) _ _
      iterate 1 refine hK _ _ _ _ _ _ (?_ : K _ _ _ _ _ _)
      refine hK _ _ _ _ _ _ (r_get rfl rfl rfl (?_ : K _ _ _ _ _ _))
      iterate 1 refine hK _ _ _ _ _ _ (?_ : K _ _ _ _ _ _)
      refine hK _ _ _ _ _ _ (r_callV rfl (fun _ => rfl) rfl (b0 rfl rfl rfl) (kX1_isLike (s := otS (otS (P p) c) c) rfl (wl_P hp) (?_ : K _ _ _ _ _ _)))
      refine hK _ _ _ _ _ _ (And.intro (fun c9 => absurd c9 (b2i_n (ot_ot hs hc hsc hc0))) (fun _ => ?_))
      iterate 1 refine hK _ _ _ _ _ _ (?_ : K _ _ _ _ _ _)
      refine hK _ _ _ _ _ _ (r_callV rfl (fun _ => rfl) (wl_P hp) (b0 rfl rfl rfl) (kX1_isEmpty (wl_P hp) (?_ : K _ _ _ _ _ _)))
      refine hK _ _ _ _ _ _ (And.intro (fun c3 => ?_) (fun c3 => ?_))
      · skip
        have hne := dct.mp c3
        iterate 2 refine hK _ _ _ _ _ _ (?_ : K _ _ _ _ _ _)
        refine hK _ _ _ _ _ _ (r_callS rfl (fun _ => rfl) (b0 rfl rfl rfl) (kX4_isRim hp (by omega) hc2 (?_ : K _ _ _ _ _ _)))
        refine hK _ _ _ _ _ _ (And.intro (fun c4 => ?_) (fun c4 => ?_))
        · skip
          have hnr : fb_ct (P p) 128 ≠ 2 ^ pc c - 2 := of_decide_eq_false (b2i_0.mp c4)
          iterate 3 refine hK _ _ _ _ _ _ (?_ : K _ _ _ _ _ _)
          refine hK _ _ _ _ _ _ (r_callV rfl (fun _ => rfl) rfl (b0 rfl rfl rfl) (kX4_areOpposed hp hs hc hc2 hsc hc0 hne (ot_ne hs hc hcn hsc hc0 hnr) rfl fun _ _ _ _ _ _ _ => (?_ : K _ _ _ _ _ _)))
          refine hK _ _ _ _ _ _ (And.intro (fun c9 => absurd c9 (nI1_0)) (fun _ => ?_))
          iterate 2 refine hK _ _ _ _ _ _ (?_ : K _ _ _ _ _ _)
          exact hK _ _ _ _ _ _ (r_iret rfl rfl rfl rfl (hQ _ _ _ _ _ _ _))
        · skip
          iterate 2 refine hK _ _ _ _ _ _ (?_ : K _ _ _ _ _ _)
          exact hK _ _ _ _ _ _ (r_iret rfl rfl rfl rfl (hQ _ _ _ _ _ _ _))
      · skip
        iterate 2 refine hK _ _ _ _ _ _ (?_ : K _ _ _ _ _ _)
        exact hK _ _ _ _ _ _ (r_iret rfl rfl rfl rfl (hQ _ _ _ _ _ _ _))
    · skip
      iterate 1 refine hK _ _ _ _ _ _ (?_ : K _ _ _ _ _ _)
      exact hK _ _ _ _ _ _ (r_iret rfl rfl rfl rfl (hQ _ _ _ _ _ _ _))

set_option maxRecDepth 10000 in
/-- Theorem.tellsExchange -/
theorem kX4_tellsExchange {S : Nat × (Nat → Int32)} {d : Nat} {Q : eQ} {b : Bool} {P : Nat → Nat → Bool} {R u v w : Nat → Bool} {kb : Nat → Nat} {f g e : Nat → Int32} {T : List va_E} {p : Nat} (hp : p < 6) (hs : Shp (P p)) {a0 bq : Nat} (ha : a0 < 7) (hb : bq < 7) (hQ : ∀ u v w kb f g e, Q (.inl (some (.int (nI 1)))) (b, wl P R u v w kb f g e T)) : okCall S MT (d + 6) nX4_tellsExchange [.ref 11, .ref (2 + p + 1), .int (nI a0), .int (nI bq)] (b, wl P R u v w kb f g e T) Q := by
  refine okc (M := MX4_tellsExchange) rfl rfl fun K hK hW => ?_
  show K 0 [(0, .ref 11), (1, .ref (2 + p + 1)), (2, .int (nI a0)), (3, .int (nI bq))] [] (b, wl P R u v w kb f g e T) 0 0
  iterate 4 refine hK _ _ _ _ _ _ (?_ : K _ _ _ _ _ _)
  refine hK _ _ _ _ _ _ (r_get rfl rfl rfl (?_ : K _ _ _ _ _ _))
  refine hK _ _ _ _ _ _ (r_callS rfl (fun _ => rfl) (b0 rfl rfl rfl) (kX3_makeExchanged (q := 2 + p) (m := 15) (by omega) (wl_P hp) rfl ha hb (?_ : K _ _ _ _ _ _)))
  show K _ _ _ (b, wl P R u (xcS (P p) a0 bq) w kb f g e T) _ _
  iterate 2 refine hK _ _ _ _ _ _ (?_ : K _ _ _ _ _ _)
  refine hW _ _ [(4, .int (nI (0))), (0, .ref 11), (1, .ref (2 + p + 1))] _ _ _ _ (by simp) ?_
  refine up (P := fun k => K 13 [(4, .int (nI (k))), (0, .ref 11), (1, .ref (2 + p + 1))] [] (b, wl P R u (xcS (P p) a0 bq) w kb f g e T) 0 0) 7 0 ?_ ?_ (by decide)
  · skip
    iterate 2 refine hK _ _ _ _ _ _ (?_ : K _ _ _ _ _ _)
    refine hK _ _ _ _ _ _ (And.intro (fun _ => ?_) (fun c9 => absurd (nI_le (Nat.le_refl 7) (by decide)) c9))
    iterate 1 refine hK _ _ _ _ _ _ (?_ : K _ _ _ _ _ _)
    refine hK _ _ _ _ _ _ (r_get rfl rfl rfl (?_ : K _ _ _ _ _ _))
    iterate 2 refine hK _ _ _ _ _ _ (?_ : K _ _ _ _ _ _)
    refine hK _ _ _ _ _ _ (r_get rfl rfl rfl (?_ : K _ _ _ _ _ _))
    refine hK _ _ _ _ _ _ (r_callV rfl (fun _ => rfl) rfl (b0 rfl rfl rfl) (w_tell0 (wl_P hp) (by omega) (by omega) hs fun kb2 f2 hf2 => (?_ : K _ _ _ _ _ _)))
    iterate 1 refine hK _ _ _ _ _ _ (?_ : K _ _ _ _ _ _)
    refine hK _ _ _ _ _ _ (r_get rfl rfl rfl (?_ : K _ _ _ _ _ _))
    iterate 1 refine hK _ _ _ _ _ _ (?_ : K _ _ _ _ _ _)
    refine hK _ _ _ _ _ _ (r_get rfl rfl rfl (?_ : K _ _ _ _ _ _))
    iterate 1 refine hK _ _ _ _ _ _ (?_ : K _ _ _ _ _ _)
    refine hK _ _ _ _ _ _ (r_get rfl rfl rfl (?_ : K _ _ _ _ _ _))
    refine hK _ _ _ _ _ _ (r_callV rfl (fun _ => rfl) rfl (b0 rfl rfl rfl) (w_tell1 (s := xcS (P p) a0 bq) rfl (by decide) (by decide) (ex_S hs ha hb) fun kb3 g2 hg2 => (?_ : K _ _ _ _ _ _)))
    iterate 1 refine hK _ _ _ _ _ _ (?_ : K _ _ _ _ _ _)
    refine hK _ _ _ _ _ _ (r_get rfl rfl rfl (?_ : K _ _ _ _ _ _))
    iterate 1 refine hK _ _ _ _ _ _ (?_ : K _ _ _ _ _ _)
    refine hK _ _ _ _ _ _ (r_get rfl rfl rfl (?_ : K _ _ _ _ _ _))
    refine hK _ _ _ _ _ _ (r_callV rfl (fun _ => rfl) rfl (b0 rfl rfl rfl) (kX2_areLike (f := g2) (g := f2) rfl rfl rfl rfl fun b1 hb1 => (?_ : K _ _ _ _ _ _)))
    refine hK _ _ _ _ _ _ (And.intro (fun c9 => absurd c9 (b2i_n (hb1.mpr fun j hj => by rw [hg2 j hj, hf2 j hj, ex_hol hs ha hb]))) (fun _ => ?_))
    iterate 1 refine hK _ _ _ _ _ _ (?_ : K _ _ _ _ _ _)
    refine hK _ _ _ _ _ _ (r_get rfl rfl rfl (?_ : K _ _ _ _ _ _))
    refine hK _ _ _ _ _ _ (r_callS rfl (fun _ => rfl) (b0 rfl rfl rfl) (kX5_countPieces (ex_S hs ha hb) rfl (?_ : K _ _ _ _ _ _)))
    iterate 1 refine hK _ _ _ _ _ _ (?_ : K _ _ _ _ _ _)
    refine hK _ _ _ _ _ _ (r_callS rfl (fun _ => rfl) (b0 rfl rfl rfl) (kX5_countPieces hs (wl_P hp) (?_ : K _ _ _ _ _ _)))
    refine hK _ _ _ _ _ _ (And.intro (fun _ => ?_) (fun c9 => absurd (by rw [ex_npc hs ha hb]) c9))
    iterate 2 refine hK _ _ _ _ _ _ (?_ : K _ _ _ _ _ _)
    exact hK _ _ _ _ _ _ (r_iret rfl rfl rfl rfl (hQ _ _ _ _ _ _ _))
  · intro k h0k hk ihk
    iterate 2 refine hK _ _ _ _ _ _ (?_ : K _ _ _ _ _ _)
    refine hK _ _ _ _ _ _ (And.intro (fun c9 => absurd c9 (nI_ge (by omega) (by decide))) (fun _ => ?_))
    iterate 1 refine hK _ _ _ _ _ _ (?_ : K _ _ _ _ _ _)
    refine hK _ _ _ _ _ _ (r_get rfl rfl rfl (?_ : K _ _ _ _ _ _))
    iterate 1 refine hK _ _ _ _ _ _ (?_ : K _ _ _ _ _ _)
    refine hK _ _ _ _ _ _ (r_callV rfl (fun _ => rfl) rfl (b0 rfl rfl rfl) (kX1_countAt (t := k) (s := xcS (P p) a0 bq) (by omega) rfl (?_ : K _ _ _ _ _ _)))
    iterate 2 refine hK _ _ _ _ _ _ (?_ : K _ _ _ _ _ _)
    refine hK _ _ _ _ _ _ (r_callV rfl (fun _ => rfl) (wl_P hp) (b0 rfl rfl rfl) (kX1_countAt (t := k) (by omega) (wl_P hp) (?_ : K _ _ _ _ _ _)))
    refine hK _ _ _ _ _ _ (And.intro (fun _ => ?_) (fun c9 => absurd (congrArg nI (ex_cnt hs ha hb k)) c9))
    iterate 2 refine hK _ _ _ _ _ _ (?_ : K _ _ _ _ _ _)
    rw [nI_add k 1]
    first | exact ihk | exact hW _ _ _ _ _ _ _ (by simp) ihk

end TH
