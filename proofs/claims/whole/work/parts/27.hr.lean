section HR
abbrev hrO (v : Nat) : va_E := .inr (2, [.ref (v + 1)])
abbrev iaA (f : Nat → Int32) : va_E := .inl (0, 7, .inl f)
def tlF (f : Nat → Int32) (g : Nat → Int) (k : Nat) : Nat → Int32 := fun j => if j < k then nZ (g j) else f j
theorem tlF_0 (f : Nat → Int32) (g : Nat → Int) : tlF f g 0 = f := by funext j; exact if_neg (Nat.not_lt_zero j)
theorem tlF_s (f : Nat → Int32) (g : Nat → Int) {k : Nat} (hk : k < 2 ^ 31) : (.inl (0, 7, .inl (upd (tlF f g k) (nI k).toNatClampNeg (nZ (g k)))) : va_E) = iaA (tlF f g (k + 1)) := by
  have e : upd (tlF f g k) (nI k).toNatClampNeg (nZ (g k)) = tlF f g (k + 1) := by
    funext j
    rw [nI_clamp hk]
    show (if j = k then nZ (g k) else if j < k then nZ (g j) else f j) = if j < k + 1 then nZ (g j) else f j
    by_cases e : j = k
    · subst e; rw [if_pos rfl, if_pos (Nat.lt_succ_self j)]
    · rw [if_neg e]
      by_cases h : j < k
      · rw [if_pos h, if_pos (by omega)]
      · rw [if_neg h, if_neg (by omega)]
  rw [e]
theorem tlF_e (f : Nat → Int32) (g : Nat → Int) : ∀ j, j < 7 → tlF f g 7 j = nZ (g j) := fun j hj => if_pos hj
def hAt (f : Nat → Int32) (x : Int32) : Int32 := if x < 0 then nI 0 else if nI 7 ≤ x then nI 0 else f x.toNatClampNeg
theorem hAt_in (f : Nat → Int32) {k : Nat} (h : k < 7) : hAt f (nI k) = f k := by
  unfold hAt
  rw [if_neg (nI_pos (by omega)), if_neg (nI_ge h (by decide)), nI_clamp (by omega)]
theorem hAt_7 (f : Nat → Int32) : hAt f (nI 7) = nI 0 := by
  unfold hAt
  rw [if_neg (nI_pos (by decide)), if_pos (nI_le (Nat.le_refl 7) (by decide))]
theorem hAt_n (f : Nat → Int32) : hAt f (nI 0 - nI 1) = nI 0 := by
  unfold hAt
  rw [if_pos (by decide +kernel)]
theorem in_7 {x : Int32} (h1 : ¬ x < 0) (h2 : ¬ nI 7 ≤ x) : vp_in x 7 := by
  obtain ⟨j, hj, rfl⟩ := nI_of h1
  have : ¬ 7 ≤ j := fun e => h2 (nI_le e hj)
  exact vp_in_nI (by omega) (by decide)
set_option maxRecDepth 10000 in
/-- HoleRow.tell -/
theorem kX2_tell {S : Nat × (Nat → Int32)} {d : Nat} {h : eH} {Q : eQ} {q a b c : Nat} {kb : Nat → Nat} (hB : h.2[q]? = some (boO a b c)) (hC : h.2[c]? = some (kpA kb)) {w v : Nat} {f : Nat → Int32} (hw0 : h.2[w]? = some (hrO v)) (hv0 : h.2[v]? = some (iaA f)) {z : Nat} {s : Nat → Bool} (hcq : c ≠ q) (hcz : c ≠ z) (hcb : c ≠ b) (hbd : h.2[b]? = some bdA) (hz0 : h.2[z]? = some (fsS s)) (hcw : c ≠ w) (hcv : c ≠ v) (hvq : v ≠ q) (hvz : v ≠ z) (hvb : v ≠ b) (hvw : v ≠ w) (hs : Shp s) (hQ : ∀ kb2 f2, (∀ j, j < 7 → f2 j = nZ (hol s j)) → Q (.inl none) (h.1, (h.2.set c (kpA kb2)).set v (iaA f2))) : okCall S MT (d + 5) nX2_tell [.ref (w + 1), .ref (z + 1), .ref (q + 1)] h Q := by
  refine okc (M := MX2_tell) rfl rfl fun K hK hW => ?_
  show K 0 [(0, .ref (w + 1)), (1, .ref (z + 1)), (2, .ref (q + 1))] [] h 0 0
  iterate 6 refine hK _ _ _ _ _ _ (?_ : K _ _ _ _ _ _)
  have e0 : (h.1, (h.2.set c (kpA kb)).set v (iaA (tlF f (hol s) 0))) = h := by rw [tlF_0, gq hC, gq hv0]
  rw [← e0]
  refine hW _ _ [(4, .int (nI 0)), (3, .int (nI 1)), (0, .ref (w + 1)), (1, .ref (z + 1)), (2, .ref (q + 1))] _ _ _ _ (by simp) ?_
  refine up (P := fun k => ∀ (kb2 : Nat → Nat), True → K 9 [(4, .int (nI (k))), (3, .int (loF s (k))), (0, .ref (w + 1)), (1, .ref (z + 1)), (2, .ref (q + 1))] [.int (nI 7), .int (nI (k))] (h.1, (h.2.set c (kpA kb2)).set v (iaA (tlF f (hol s) (k)))) 0 0) 7 0 ?_ ?_ (by decide) kb trivial
  · skip
    intro kb2 hh
    refine hK _ _ _ _ _ _ (And.intro (fun _ => ?_) (fun c9 => absurd (nI_le (Nat.le_refl 7) (by decide)) c9))
    exact hK _ _ _ _ _ _ (r_vret rfl rfl rfl (hQ kb2 _ (tlF_e f (hol s))))
  · intro k h0k hk ihk kb2 hh
    refine hK _ _ _ _ _ _ (And.intro (fun c9 => absurd c9 (nI_ge (by omega) (by decide))) (fun _ => ?_))
    iterate 5 refine hK _ _ _ _ _ _ (?_ : K _ _ _ _ _ _)
    refine hK _ _ _ _ _ _ (r_callV rfl (fun _ => rfl) (gn hvq (gn hcq hB)) (b0 rfl rfl rfl) (okW (by rw [nI_add k 1]) (kX0_countFree (a := a) (b := b) (c := c) (t := k + 1) (gn hvq (gn hcq hB)) (gn hcv.symm (gs hC)) hcq hcz hcb (gn hvb (gn hcb hbd)) (gn hvz (gn hcz hz0)) (by omega) fun kb3 _ _ => (?_ : K _ _ _ _ _ _))))
    iterate 2 refine hK _ _ _ _ _ _ (?_ : K _ _ _ _ _ _)
    refine hK _ _ _ _ _ _ (r_get rfl (gn hcw (gn hvw (gn hcw hw0))) rfl (?_ : K _ _ _ _ _ _))
    iterate 2 refine hK _ _ _ _ _ _ (?_ : K _ _ _ _ _ _)
    refine hK _ _ _ _ _ _ (r_callV rfl (fun _ => rfl) (gn hcz (gn hvz (gn hcz hz0))) (b0 rfl rfl rfl) (kX1_isEmpty (gn hcz (gn hvz (gn hcz hz0))) (?_ : K _ _ _ _ _ _)))
    refine hK _ _ _ _ _ _ (And.intro (fun c1 => ?_) (fun c1 => ?_))
    · skip
      have e0 : ¬ fb_ct s 128 = 0 := of_decide_eq_false (b2i_0.mp c1)
      iterate 2 refine hK _ _ _ _ _ _ (?_ : K _ _ _ _ _ _)
      refine hK _ _ _ _ _ _ (r_callV rfl (fun _ => rfl) (gn hcz (gn hvz (gn hcz hz0))) (b0 rfl rfl rfl) (kX1_countAt (t := k) (by omega) (gn hcz (gn hvz (gn hcz hz0))) (?_ : K _ _ _ _ _ _)))
      iterate 4 refine hK _ _ _ _ _ _ (?_ : K _ _ _ _ _ _)
      have e1 : nI (cnt s k) - loF s k - nI (Rr s (k + 1)) = nZ (hol s k) := hb_ok hs k e0
      refine hK _ _ _ _ _ _ (r_iast' rfl (gn hcv (gs (gn hcv hv0))) (vp_in_nI (by omega) (by decide)) (Eq.trans (congrArg (fun y => (.inl (0, 7, .inl (upd (tlF f (hol s) k) (nI k).toNatClampNeg y)) : va_E)) e1) (tlF_s f (hol s) (by omega))) (?_ : K _ _ _ _ _ _))
      iterate 6 refine hK _ _ _ _ _ _ (?_ : K _ _ _ _ _ _)
      dsimp only
      rw [nI_add k 1, sC hcv.symm, List.set_set, List.set_set, ← loF_s s k]
      first | exact (ihk kb3 trivial) | exact hW _ _ _ _ _ _ _ (by simp) (ihk kb3 trivial)
    · skip
      have e0 : fb_ct s 128 = 0 := of_decide_eq_true (Bool.of_not_eq_false (fun e => c1 (b2i_0.mpr e)))
      iterate 2 refine hK _ _ _ _ _ _ (?_ : K _ _ _ _ _ _)
      have e1 : nI 0 = nZ (hol s k) := (holZ_0 k e0).symm
      refine hK _ _ _ _ _ _ (r_iast' rfl (gn hcv (gs (gn hcv hv0))) (vp_in_nI (by omega) (by decide)) (Eq.trans (congrArg (fun y => (.inl (0, 7, .inl (upd (tlF f (hol s) k) (nI k).toNatClampNeg y)) : va_E)) e1) (tlF_s f (hol s) (by omega))) (?_ : K _ _ _ _ _ _))
      iterate 6 refine hK _ _ _ _ _ _ (?_ : K _ _ _ _ _ _)
      dsimp only
      rw [nI_add k 1, sC hcv.symm, List.set_set, List.set_set, ← loF_s s k]
      first | exact (ihk kb3 trivial) | exact hW _ _ _ _ _ _ _ (by simp) (ihk kb3 trivial)

set_option maxRecDepth 10000 in
/-- HoleRow.at -/
theorem kX2_at {S : Nat × (Nat → Int32)} {d : Nat} {h : eH} {Q : eQ} {w v : Nat} {f : Nat → Int32} (hw0 : h.2[w]? = some (hrO v)) (hv0 : h.2[v]? = some (iaA f)) {x : Int32} (hQ : Q (.inl (some (.int (hAt f x)))) h) : okCall S MT (d + 1) nX2_at [.ref (w + 1), .int x] h Q := by
  refine okc (M := MX2_at) rfl rfl fun K hK hW => ?_
  show K 0 [(0, .ref (w + 1)), (1, .int x)] [] h 0 0
  iterate 1 refine hK _ _ _ _ _ _ (?_ : K _ _ _ _ _ _)
  refine hK _ _ _ _ _ _ (And.intro (fun c1 => ?_) (fun c1 => ?_))
  · skip
    iterate 1 refine hK _ _ _ _ _ _ (?_ : K _ _ _ _ _ _)
    have e1 : hAt f x = nI 0 := by unfold hAt; rw [if_pos c1]
    rw [e1] at hQ
    exact hK _ _ _ _ _ _ (r_iret rfl rfl rfl rfl hQ)
  · skip
    iterate 2 refine hK _ _ _ _ _ _ (?_ : K _ _ _ _ _ _)
    refine hK _ _ _ _ _ _ (And.intro (fun c2 => ?_) (fun c2 => ?_))
    · skip
      iterate 1 refine hK _ _ _ _ _ _ (?_ : K _ _ _ _ _ _)
      have e1 : hAt f x = nI 0 := by unfold hAt; rw [if_neg c1, if_pos c2]
      rw [e1] at hQ
      exact hK _ _ _ _ _ _ (r_iret rfl rfl rfl rfl hQ)
    · skip
      iterate 1 refine hK _ _ _ _ _ _ (?_ : K _ _ _ _ _ _)
      refine hK _ _ _ _ _ _ (r_get rfl (by assumption) rfl (?_ : K _ _ _ _ _ _))
      iterate 1 refine hK _ _ _ _ _ _ (?_ : K _ _ _ _ _ _)
      refine hK _ _ _ _ _ _ (r_iald' rfl hv0 (in_7 c1 c2) rfl (?_ : K _ _ _ _ _ _))
      iterate 1 refine hK _ _ _ _ _ _ (?_ : K _ _ _ _ _ _)
      have e1 : hAt f x = f x.toNatClampNeg := by unfold hAt; rw [if_neg c1, if_neg c2]
      rw [e1] at hQ
      exact hK _ _ _ _ _ _ (r_iret rfl rfl rfl rfl hQ)

set_option maxRecDepth 10000 in
/-- HoleRow.areNone -/
theorem kX2_areNone {S : Nat × (Nat → Int32)} {d : Nat} {h : eH} {Q : eQ} {w v : Nat} {f : Nat → Int32} (hw0 : h.2[w]? = some (hrO v)) (hv0 : h.2[v]? = some (iaA f)) (hQ : ∀ b : Bool, (b = true ↔ ∀ j, j < 7 → f j = 0) → Q (.inl (some (.int (b2i b)))) h) : okCall S MT (d + 1) nX2_areNone [.ref (w + 1)] h Q := by
  refine okc (M := MX2_areNone) rfl rfl fun K hK hW => ?_
  show K 0 [(0, .ref (w + 1))] [] h 0 0
  iterate 4 refine hK _ _ _ _ _ _ (?_ : K _ _ _ _ _ _)
  refine hW _ _ [(1, .int (nI (0))), (0, .ref (w + 1))] _ _ _ _ (by simp) ?_
  refine up (P := fun k => (∀ j, j < (k) → f j = 0) → K 5 [(1, .int (nI (k))), (0, .ref (w + 1))] [.int (nI 7), .int (nI (k))] h 0 0) 7 0 ?_ ?_ (by decide) (fun j hj => absurd hj (Nat.not_lt_zero j))
  · skip
    intro hh
    refine hK _ _ _ _ _ _ (And.intro (fun _ => ?_) (fun c9 => absurd (nI_le (Nat.le_refl 7) (by decide)) c9))
    iterate 1 refine hK _ _ _ _ _ _ (?_ : K _ _ _ _ _ _)
    exact hK _ _ _ _ _ _ (r_iret rfl rfl rfl rfl (hQ true ⟨fun _ => hh, fun _ => rfl⟩))
  · intro k h0k hk ihk hh
    refine hK _ _ _ _ _ _ (And.intro (fun c9 => absurd c9 (nI_ge (by omega) (by decide))) (fun _ => ?_))
    iterate 1 refine hK _ _ _ _ _ _ (?_ : K _ _ _ _ _ _)
    refine hK _ _ _ _ _ _ (r_get rfl (by assumption) rfl (?_ : K _ _ _ _ _ _))
    iterate 1 refine hK _ _ _ _ _ _ (?_ : K _ _ _ _ _ _)
    refine hK _ _ _ _ _ _ (r_iald' rfl hv0 (vp_in_nI (by omega) (by decide)) (show f (nI k).toNatClampNeg = f k by rw [nI_clamp (by omega)]) (?_ : K _ _ _ _ _ _))
    refine hK _ _ _ _ _ _ (And.intro (fun c1 => ?_) (fun c1 => ?_))
    · skip
      iterate 4 refine hK _ _ _ _ _ _ (?_ : K _ _ _ _ _ _)
      have hh2 : ∀ j, j < k + 1 → f j = 0 := fun j hj => by
        by_cases e : j = k
        · subst e; exact c1
        · exact hh j (by omega)
      rw [nI_add k 1]
      first | exact (ihk hh2) | exact hW _ _ _ _ _ _ _ (by simp) (ihk hh2)
    · skip
      iterate 1 refine hK _ _ _ _ _ _ (?_ : K _ _ _ _ _ _)
      exact hK _ _ _ _ _ _ (r_iret rfl rfl rfl rfl (hQ false ⟨fun e => (by cases e), fun e => absurd (e k hk) c1⟩))

def dfV (g : Nat → Int32) (t : Nat) (x : Int32) (j : Nat) : Int32 := if j = t then g j + x else g j
set_option maxRecDepth 10000 in
/-- HoleRow.differAt -/
theorem kX2_differAt {S : Nat × (Nat → Int32)} {d : Nat} {h : eH} {Q : eQ} {w v : Nat} {f : Nat → Int32} (hw0 : h.2[w]? = some (hrO v)) (hv0 : h.2[v]? = some (iaA f)) {w2 v2 : Nat} {g : Nat → Int32} (hw2 : h.2[w2]? = some (hrO v2)) (hv2 : h.2[v2]? = some (iaA g)) {t : Nat} {x : Int32} (ht7 : t < 7) (hQ : ∀ b : Bool, (b = true ↔ ∀ j, j < 7 → f j = dfV g t x j) → Q (.inl (some (.int (b2i b)))) h) : okCall S MT (d + 2) nX2_differAt [.ref (w + 1), .int (nI t), .int x, .ref (w2 + 1)] h Q := by
  refine okc (M := MX2_differAt) rfl rfl fun K hK hW => ?_
  show K 0 [(0, .ref (w + 1)), (1, .int (nI t)), (2, .int x), (3, .ref (w2 + 1))] [] h 0 0
  iterate 4 refine hK _ _ _ _ _ _ (?_ : K _ _ _ _ _ _)
  refine hW _ _ [(4, .int (nI (0))), (0, .ref (w + 1)), (1, .int (nI t)), (2, .int x), (3, .ref (w2 + 1))] _ _ _ _ (by simp) ?_
  refine up (P := fun k => (∀ j, j < (k) → f j = dfV g t x j) → K 7 [(4, .int (nI (k))), (0, .ref (w + 1)), (1, .int (nI t)), (2, .int x), (3, .ref (w2 + 1))] [.int (nI 7), .int (nI (k))] h 0 0) 7 0 ?_ ?_ (by decide) (fun j hj => absurd hj (Nat.not_lt_zero j))
  · skip
    intro hh
    refine hK _ _ _ _ _ _ (And.intro (fun _ => ?_) (fun c9 => absurd (nI_le (Nat.le_refl 7) (by decide)) c9))
    iterate 1 refine hK _ _ _ _ _ _ (?_ : K _ _ _ _ _ _)
    exact hK _ _ _ _ _ _ (r_iret rfl rfl rfl rfl (hQ true ⟨fun _ => hh, fun _ => rfl⟩))
  · intro k h0k hk ihk hh
    refine hK _ _ _ _ _ _ (And.intro (fun c9 => absurd c9 (nI_ge (by omega) (by decide))) (fun _ => ?_))
    iterate 2 refine hK _ _ _ _ _ _ (?_ : K _ _ _ _ _ _)
    refine hK _ _ _ _ _ _ (And.intro (fun c1 => ?_) (fun c1 => ?_))
    · skip
      iterate 2 refine hK _ _ _ _ _ _ (?_ : K _ _ _ _ _ _)
      refine hK _ _ _ _ _ _ (r_callV rfl (fun _ => rfl) hw2 (b0 rfl rfl rfl) (kX2_at (f := g) hw2 hv2 (?_ : K _ _ _ _ _ _)))
      iterate 5 refine hK _ _ _ _ _ _ (?_ : K _ _ _ _ _ _)
      refine hK _ _ _ _ _ _ (r_get rfl (by assumption) rfl (?_ : K _ _ _ _ _ _))
      iterate 1 refine hK _ _ _ _ _ _ (?_ : K _ _ _ _ _ _)
      rw [hAt_in g hk]
      have e1 : g k + x = dfV g t x k := by unfold dfV; rw [if_pos ((nI_eq (by omega) (by omega)).mp c1)]
      rw [e1]
      refine hK _ _ _ _ _ _ (r_iald' rfl hv0 (vp_in_nI (by omega) (by decide)) (show f (nI k).toNatClampNeg = f k by rw [nI_clamp (by omega)]) (?_ : K _ _ _ _ _ _))
      iterate 1 refine hK _ _ _ _ _ _ (?_ : K _ _ _ _ _ _)
      refine hK _ _ _ _ _ _ (And.intro (fun c2 => ?_) (fun c2 => ?_))
      · skip
        iterate 4 refine hK _ _ _ _ _ _ (?_ : K _ _ _ _ _ _)
        have hh2 : ∀ j, j < k + 1 → f j = dfV g t x j := fun j hj => by
          by_cases e : j = k
          · subst e; exact c2
          · exact hh j (by omega)
        rw [nI_add k 1]
        first | exact (ihk hh2) | exact hW _ _ _ _ _ _ _ (by simp) (ihk hh2)
      · skip
        iterate 1 refine hK _ _ _ _ _ _ (?_ : K _ _ _ _ _ _)
        exact hK _ _ _ _ _ _ (r_iret rfl rfl rfl rfl (hQ false ⟨fun e => (by cases e), fun e => absurd (e k hk) c2⟩))
    · skip
      iterate 2 refine hK _ _ _ _ _ _ (?_ : K _ _ _ _ _ _)
      refine hK _ _ _ _ _ _ (r_callV rfl (fun _ => rfl) hw2 (b0 rfl rfl rfl) (kX2_at (f := g) hw2 hv2 (?_ : K _ _ _ _ _ _)))
      iterate 2 refine hK _ _ _ _ _ _ (?_ : K _ _ _ _ _ _)
      refine hK _ _ _ _ _ _ (r_get rfl (by assumption) rfl (?_ : K _ _ _ _ _ _))
      iterate 1 refine hK _ _ _ _ _ _ (?_ : K _ _ _ _ _ _)
      rw [hAt_in g hk]
      have e1 : g k = dfV g t x k := by unfold dfV; rw [if_neg (fun e => c1 (by rw [e]))]
      rw [e1]
      refine hK _ _ _ _ _ _ (r_iald' rfl hv0 (vp_in_nI (by omega) (by decide)) (show f (nI k).toNatClampNeg = f k by rw [nI_clamp (by omega)]) (?_ : K _ _ _ _ _ _))
      iterate 1 refine hK _ _ _ _ _ _ (?_ : K _ _ _ _ _ _)
      refine hK _ _ _ _ _ _ (And.intro (fun c3 => ?_) (fun c3 => ?_))
      · skip
        iterate 4 refine hK _ _ _ _ _ _ (?_ : K _ _ _ _ _ _)
        have hh2 : ∀ j, j < k + 1 → f j = dfV g t x j := fun j hj => by
          by_cases e : j = k
          · subst e; exact c3
          · exact hh j (by omega)
        rw [nI_add k 1]
        first | exact (ihk hh2) | exact hW _ _ _ _ _ _ _ (by simp) (ihk hh2)
      · skip
        iterate 1 refine hK _ _ _ _ _ _ (?_ : K _ _ _ _ _ _)
        exact hK _ _ _ _ _ _ (r_iret rfl rfl rfl rfl (hQ false ⟨fun e => (by cases e), fun e => absurd (e k hk) c3⟩))

set_option maxRecDepth 10000 in
/-- HoleRow.areLike -/
theorem kX2_areLike {S : Nat × (Nat → Int32)} {d : Nat} {h : eH} {Q : eQ} {w v : Nat} {f : Nat → Int32} (hw0 : h.2[w]? = some (hrO v)) (hv0 : h.2[v]? = some (iaA f)) {w2 v2 : Nat} {g : Nat → Int32} (hw2 : h.2[w2]? = some (hrO v2)) (hv2 : h.2[v2]? = some (iaA g)) (hQ : ∀ b : Bool, (b = true ↔ ∀ j, j < 7 → f j = g j) → Q (.inl (some (.int (b2i b)))) h) : okCall S MT (d + 3) nX2_areLike [.ref (w + 1), .ref (w2 + 1)] h Q := by
  refine okc (M := MX2_areLike) rfl rfl fun K hK hW => ?_
  show K 0 [(0, .ref (w + 1)), (1, .ref (w2 + 1))] [] h 0 0
  iterate 4 refine hK _ _ _ _ _ _ (?_ : K _ _ _ _ _ _)
  refine hK _ _ _ _ _ _ (r_callV rfl (fun _ => rfl) hw0 (b0 rfl rfl rfl) (kX2_differAt (t := 0) (x := nI 0) (f := f) (g := g) hw0 hv0 hw2 hv2 (by decide) fun b hb => (?_ : K _ _ _ _ _ _)))
  have e : ∀ j, dfV g 0 (nI 0) j = g j := fun j => by
    unfold dfV
    rw [show g j + nI 0 = g j from Int32.add_zero (g j)]
    split <;> rfl
  exact hK _ _ _ _ _ _ (r_iret rfl (b2i_nar b) rfl rfl (hQ b ⟨fun h1 j hj => by rw [hb.mp h1 j hj, e], fun h1 => hb.mpr fun j hj => by rw [h1 j hj, e]⟩))

def alt (g : Nat → Int) : Nat → Int
  | 0 => 0
  | k + 1 => alt g k + (if k % 2 = 0 then g k else - g k)
theorem nZ_neg (a : Int) : - nZ a = nZ (-a) := (Int32.ofInt_neg a).symm
set_option maxRecDepth 10000 in
/-- HoleRow.signedSum -/
theorem kX2_signedSum {S : Nat × (Nat → Int32)} {d : Nat} {h : eH} {Q : eQ} {w v : Nat} {f : Nat → Int32} (hw0 : h.2[w]? = some (hrO v)) (hv0 : h.2[v]? = some (iaA f)) {g : Nat → Int} (hg : ∀ j, j < 7 → f j = nZ (g j)) (hQ : Q (.inl (some (.int (nZ (alt g 7))))) h) : okCall S MT (d + 1) nX2_signedSum [.ref (w + 1)] h Q := by
  refine okc (M := MX2_signedSum) rfl rfl fun K hK hW => ?_
  show K 0 [(0, .ref (w + 1))] [] h 0 0
  iterate 6 refine hK _ _ _ _ _ _ (?_ : K _ _ _ _ _ _)
  refine hW _ _ [(2, .int (nI (0))), (1, .int (nZ (alt g (0)))), (0, .ref (w + 1))] _ _ _ _ (by simp [show alt g 0 = 0 from rfl, show nZ 0 = nI 0 from rfl]) ?_
  refine up (P := fun k => K 7 [(2, .int (nI (k))), (1, .int (nZ (alt g (k)))), (0, .ref (w + 1))] [.int (nI 7), .int (nI (k))] h 0 0) 7 0 ?_ ?_ (by decide)
  · skip
    refine hK _ _ _ _ _ _ (And.intro (fun _ => ?_) (fun c9 => absurd (nI_le (Nat.le_refl 7) (by decide)) c9))
    iterate 1 refine hK _ _ _ _ _ _ (?_ : K _ _ _ _ _ _)
    exact hK _ _ _ _ _ _ (r_iret rfl rfl rfl rfl hQ)
  · intro k h0k hk ihk
    refine hK _ _ _ _ _ _ (And.intro (fun c9 => absurd c9 (nI_ge (by omega) (by decide))) (fun _ => ?_))
    iterate 3 refine hK _ _ _ _ _ _ (?_ : K _ _ _ _ _ _)
    refine hK _ _ _ _ _ _ (r_irem rfl (by decide) (?_ : K _ _ _ _ _ _))
    refine hK _ _ _ _ _ _ (And.intro (fun c1 => ?_) (fun c1 => ?_))
    · skip
      iterate 1 refine hK _ _ _ _ _ _ (?_ : K _ _ _ _ _ _)
      refine hK _ _ _ _ _ _ (r_get rfl (by assumption) rfl (?_ : K _ _ _ _ _ _))
      iterate 1 refine hK _ _ _ _ _ _ (?_ : K _ _ _ _ _ _)
      refine hK _ _ _ _ _ _ (r_iald' rfl hv0 (vp_in_nI (by omega) (by decide)) (show f (nI k).toNatClampNeg = f k by rw [nI_clamp (by omega)]) (?_ : K _ _ _ _ _ _))
      iterate 7 refine hK _ _ _ _ _ _ (?_ : K _ _ _ _ _ _)
      have e1 : alt g (k + 1) = alt g k + g k := by show alt g k + (if k % 2 = 0 then g k else - g k) = _; rw [if_pos ((pc_par k (by omega)).mp c1)]
      rw [e1] at ihk
      rw [nI_add k 1, hg k hk, nZ_add]
      first | exact ihk | exact hW _ _ _ _ _ _ _ (by simp) ihk
    · skip
      iterate 1 refine hK _ _ _ _ _ _ (?_ : K _ _ _ _ _ _)
      refine hK _ _ _ _ _ _ (r_get rfl (by assumption) rfl (?_ : K _ _ _ _ _ _))
      iterate 1 refine hK _ _ _ _ _ _ (?_ : K _ _ _ _ _ _)
      refine hK _ _ _ _ _ _ (r_iald' rfl hv0 (vp_in_nI (by omega) (by decide)) (show f (nI k).toNatClampNeg = f k by rw [nI_clamp (by omega)]) (?_ : K _ _ _ _ _ _))
      iterate 7 refine hK _ _ _ _ _ _ (?_ : K _ _ _ _ _ _)
      have e1 : alt g (k + 1) = alt g k + - g k := by show alt g k + (if k % 2 = 0 then g k else - g k) = _; rw [if_neg (fun e => c1 ((pc_par k (by omega)).mpr e))]
      rw [e1] at ihk
      rw [nI_add k 1, hg k hk, nZ_neg, nZ_add]
      first | exact ihk | exact hW _ _ _ _ _ _ _ (by simp) ihk

end HR
