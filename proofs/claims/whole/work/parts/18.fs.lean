section FS3
def nZ (z : Int) : Int32 := Int32.ofInt z
theorem nZ_add (a b : Int) : nZ a + nZ b = nZ (a + b) := (Int32.ofInt_add a b).symm
theorem nZ_nI (n : Nat) : nI n = nZ n := Int32.toInt_inj.mp (by show (Int32.ofNat n).toInt = (Int32.ofInt n).toInt; rw [Int32.toInt_ofNat', Int32.toInt_ofInt])
theorem ht_par : ∀ k, k < 128 → (nI (ht k) - nI (ht k) / nI 2 * nI 2 = 0 ↔ ht k % 2 = 0) := by decide +kernel
def sgn1 (k : Nat) : Int := bif ht k % 2 == 0 then 1 else -1
/-- the sum of the faces' signs -/
def sgF (s : Nat → Bool) (n : Nat) : Int := fb_si (fun i => bif decide (0 < i) && s i then sgn1 i else 0) n
theorem sg_t {s : Nat → Bool} {k : Nat} (h0 : 0 < k) (h : s k = true) : sgF s (k + 1) = sgF s k + sgn1 k := by
  show fb_si _ k + (bif decide (0 < k) && s k then sgn1 k else 0) = _
  rw [decide_eq_true h0, h]; rfl
theorem sg_f {s : Nat → Bool} {k : Nat} (h : s k = false) : sgF s (k + 1) = sgF s k := by
  show fb_si _ k + (bif decide (0 < k) && s k then sgn1 k else 0) = _
  rw [h, Bool.and_false]; exact Int.add_zero _
set_option maxRecDepth 10000 in
/-- FaceSet.signedCount -/
theorem kX1_signedCount {S : Nat × (Nat → Int32)} {d : Nat} {h : eH} {Q : eQ} {q : Nat} {s : Nat → Bool} (hk0 : h.2[q]? = some (fsS s)) (hQ : Q (.inl (some (.int (nZ (sgF s 128))))) h) : okCall S MT (d + 3) nX1_signedCount [.ref (q + 1)] h Q := by
  refine okc (M := MX1_signedCount) rfl rfl fun K hK hW => ?_
  show K 0 [(0, .ref (q + 1))] [] h 0 0
  iterate 6 refine hK _ _ _ _ _ _ (?_ : K _ _ _ _ _ _)
  refine hW _ _ [(2, .int (nI (1))), (1, .int (nZ (sgF s (1)))), (0, .ref (q + 1))] _ _ _ _ (by simp [show sgF s 1 = 0 from rfl, show nZ 0 = nI 0 from rfl]) ?_
  refine up (P := fun k => K 7 [(2, .int (nI (k))), (1, .int (nZ (sgF s (k)))), (0, .ref (q + 1))] [.int (nI 127), .int (nI (k))] h 0 0) 128 1 ?_ ?_ (by decide)
  · skip
    refine hK _ _ _ _ _ _ (And.intro (fun _ => ?_) (fun c9 => absurd (nI_lt (by decide) (by decide)) c9))
    iterate 1 refine hK _ _ _ _ _ _ (?_ : K _ _ _ _ _ _)
    exact hK _ _ _ _ _ _ (r_iret rfl rfl rfl rfl hQ)
  · intro k h0k hk ihk
    refine hK _ _ _ _ _ _ (And.intro (fun c9 => absurd c9 (nI_nlt (by omega) (by omega))) (fun _ => ?_))
    iterate 2 refine hK _ _ _ _ _ _ (?_ : K _ _ _ _ _ _)
    refine hK _ _ _ _ _ _ (r_callV rfl (fun _ => rfl) (by assumption) (b0 rfl rfl rfl) (kX1_holds (f := k) (by omega) hk0 (?_ : K _ _ _ _ _ _)))
    refine hK _ _ _ _ _ _ (And.intro (fun c1 => ?_) (fun c1 => ?_))
    · skip
      iterate 4 refine hK _ _ _ _ _ _ (?_ : K _ _ _ _ _ _)
      rw [nI_add k 1]
      rw [sg_f (b2i_0.mp c1)] at ihk
      first | exact ihk | exact hW _ _ _ _ _ _ _ (by simp) ihk
    · skip
      iterate 2 refine hK _ _ _ _ _ _ (?_ : K _ _ _ _ _ _)
      refine hK _ _ _ _ _ _ (r_callN rfl (fun _ => rfl) (b0 rfl rfl rfl) (kX6_heightOf (f := k) (by omega) (by omega) (?_ : K _ _ _ _ _ _)))
      iterate 1 refine hK _ _ _ _ _ _ (?_ : K _ _ _ _ _ _)
      refine hK _ _ _ _ _ _ (r_irem rfl (by decide) (?_ : K _ _ _ _ _ _))
      refine hK _ _ _ _ _ _ (And.intro (fun c2 => ?_) (fun c2 => ?_))
      · skip
        iterate 8 refine hK _ _ _ _ _ _ (?_ : K _ _ _ _ _ _)
        have e2 : s k = true := Bool.of_not_eq_false (fun e => c1 (b2i_0.mpr e))
        rw [nI_add k 1]
        rw [sg_t (by omega) e2] at ihk
        have e3 : sgn1 k = 1 := by unfold sgn1; rw [(ht_par k (by omega)).mp c2]; rfl
        rw [e3] at ihk
        rw [show nI 1 = nZ 1 by decide +kernel, nZ_add, ← show nI 1 = nZ 1 by decide +kernel]
        first | exact ihk | exact hW _ _ _ _ _ _ _ (by simp) ihk
      · skip
        iterate 7 refine hK _ _ _ _ _ _ (?_ : K _ _ _ _ _ _)
        have e2 : s k = true := Bool.of_not_eq_false (fun e => c1 (b2i_0.mpr e))
        rw [nI_add k 1]
        rw [sg_t (by omega) e2] at ihk
        have e3 : sgn1 k = -1 := by unfold sgn1; rw [show (ht k % 2 == 0) = false from beq_eq_false_iff_ne.mpr (fun e => c2 ((ht_par k (by omega)).mpr e))]; rfl
        rw [e3] at ihk
        rw [show (-1 : Int32) = nZ (-1) by decide +kernel, nZ_add]
        first | exact ihk | exact hW _ _ _ _ _ _ _ (by simp) ihk

def hsF (s : Nat → Bool) (n : Nat) : Nat := fb_sm (fun i => bif decide (0 < i) && s i then ht i else 0) n
theorem hs_t {s : Nat → Bool} {k : Nat} (h0 : 0 < k) (h : s k = true) : hsF s (k + 1) = hsF s k + ht k := by
  show fb_sm _ k + (bif decide (0 < k) && s k then ht k else 0) = _
  rw [decide_eq_true h0, h]; rfl
theorem hs_f {s : Nat → Bool} {k : Nat} (h : s k = false) : hsF s (k + 1) = hsF s k := by
  show fb_sm _ k + (bif decide (0 < k) && s k then ht k else 0) = _
  rw [h, Bool.and_false]; rfl
set_option maxRecDepth 10000 in
/-- FaceSet.heightSum -/
theorem kX1_heightSum {S : Nat × (Nat → Int32)} {d : Nat} {h : eH} {Q : eQ} {q : Nat} {s : Nat → Bool} (hk0 : h.2[q]? = some (fsS s)) (hQ : Q (.inl (some (.int (nI (hsF s 128))))) h) : okCall S MT (d + 3) nX1_heightSum [.ref (q + 1)] h Q := by
  refine okc (M := MX1_heightSum) rfl rfl fun K hK hW => ?_
  show K 0 [(0, .ref (q + 1))] [] h 0 0
  iterate 6 refine hK _ _ _ _ _ _ (?_ : K _ _ _ _ _ _)
  refine hW _ _ [(2, .int (nI (1))), (1, .int (nI (hsF s (1)))), (0, .ref (q + 1))] _ _ _ _ (by simp [show hsF s 1 = 0 from rfl]) ?_
  refine up (P := fun k => K 7 [(2, .int (nI (k))), (1, .int (nI (hsF s (k)))), (0, .ref (q + 1))] [.int (nI 127), .int (nI (k))] h 0 0) 128 1 ?_ ?_ (by decide)
  · skip
    refine hK _ _ _ _ _ _ (And.intro (fun _ => ?_) (fun c9 => absurd (nI_lt (by decide) (by decide)) c9))
    iterate 1 refine hK _ _ _ _ _ _ (?_ : K _ _ _ _ _ _)
    exact hK _ _ _ _ _ _ (r_iret rfl rfl rfl rfl hQ)
  · intro k h0k hk ihk
    refine hK _ _ _ _ _ _ (And.intro (fun c9 => absurd c9 (nI_nlt (by omega) (by omega))) (fun _ => ?_))
    iterate 2 refine hK _ _ _ _ _ _ (?_ : K _ _ _ _ _ _)
    refine hK _ _ _ _ _ _ (r_callV rfl (fun _ => rfl) (by assumption) (b0 rfl rfl rfl) (kX1_holds (f := k) (by omega) hk0 (?_ : K _ _ _ _ _ _)))
    refine hK _ _ _ _ _ _ (And.intro (fun c1 => ?_) (fun c1 => ?_))
    · skip
      iterate 4 refine hK _ _ _ _ _ _ (?_ : K _ _ _ _ _ _)
      rw [nI_add k 1]
      rw [hs_f (b2i_0.mp c1)] at ihk
      first | exact ihk | exact hW _ _ _ _ _ _ _ (by simp) ihk
    · skip
      iterate 2 refine hK _ _ _ _ _ _ (?_ : K _ _ _ _ _ _)
      refine hK _ _ _ _ _ _ (r_callN rfl (fun _ => rfl) (b0 rfl rfl rfl) (kX6_heightOf (f := k) (by omega) (by omega) (?_ : K _ _ _ _ _ _)))
      iterate 6 refine hK _ _ _ _ _ _ (?_ : K _ _ _ _ _ _)
      have e2 : s k = true := Bool.of_not_eq_false (fun e => c1 (b2i_0.mpr e))
      rw [hs_t (by omega) e2] at ihk
      rw [nI_add k 1, nI_add]
      first | exact ihk | exact hW _ _ _ _ _ _ _ (by simp) ihk

theorem nx_or (a b : Nat) : nI a ||| nI b = nI (a ||| b) := by
  apply b_ext
  intro i hi
  rw [b_or]
  show ((BitVec.ofNat 32 a).getLsbD i || (BitVec.ofNat 32 b).getLsbD i) = (BitVec.ofNat 32 (a ||| b)).getLsbD i
  simp [BitVec.getLsbD_ofNat, hi, Nat.testBit_or]
/-- all corners of the faces below n -/
def orF (s : Nat → Bool) : Nat → Nat
  | 0 => 0
  | n + 1 => bif decide (0 < n) && s n then orF s n ||| n else orF s n
theorem or_t {s : Nat → Bool} {k : Nat} (h0 : 0 < k) (h : s k = true) : orF s (k + 1) = orF s k ||| k := by
  show (bif decide (0 < k) && s k then _ else _) = _
  rw [decide_eq_true h0, h]; rfl
theorem or_f {s : Nat → Bool} {k : Nat} (h : s k = false) : orF s (k + 1) = orF s k := by
  show (bif decide (0 < k) && s k then _ else _) = _
  rw [h, Bool.and_false]; rfl
set_option maxRecDepth 10000 in
/-- FaceSet.cornerSet -/
theorem kX1_cornerSet {S : Nat × (Nat → Int32)} {d : Nat} {h : eH} {Q : eQ} {q : Nat} {s : Nat → Bool} (hk0 : h.2[q]? = some (fsS s)) (hQ : Q (.inl (some (.int (nI (orF s 128))))) h) : okCall S MT (d + 2) nX1_cornerSet [.ref (q + 1)] h Q := by
  refine okc (M := MX1_cornerSet) rfl rfl fun K hK hW => ?_
  show K 0 [(0, .ref (q + 1))] [] h 0 0
  iterate 6 refine hK _ _ _ _ _ _ (?_ : K _ _ _ _ _ _)
  refine hW _ _ [(2, .int (nI (1))), (1, .int (nI (orF s (1)))), (0, .ref (q + 1))] _ _ _ _ (by simp [show orF s 1 = 0 from rfl]) ?_
  refine up (P := fun k => K 7 [(2, .int (nI (k))), (1, .int (nI (orF s (k)))), (0, .ref (q + 1))] [.int (nI 127), .int (nI (k))] h 0 0) 128 1 ?_ ?_ (by decide)
  · skip
    refine hK _ _ _ _ _ _ (And.intro (fun _ => ?_) (fun c9 => absurd (nI_lt (by decide) (by decide)) c9))
    iterate 1 refine hK _ _ _ _ _ _ (?_ : K _ _ _ _ _ _)
    exact hK _ _ _ _ _ _ (r_iret rfl rfl rfl rfl hQ)
  · intro k h0k hk ihk
    refine hK _ _ _ _ _ _ (And.intro (fun c9 => absurd c9 (nI_nlt (by omega) (by omega))) (fun _ => ?_))
    iterate 2 refine hK _ _ _ _ _ _ (?_ : K _ _ _ _ _ _)
    refine hK _ _ _ _ _ _ (r_callV rfl (fun _ => rfl) (by assumption) (b0 rfl rfl rfl) (kX1_holds (f := k) (by omega) hk0 (?_ : K _ _ _ _ _ _)))
    refine hK _ _ _ _ _ _ (And.intro (fun c1 => ?_) (fun c1 => ?_))
    · skip
      iterate 4 refine hK _ _ _ _ _ _ (?_ : K _ _ _ _ _ _)
      rw [nI_add k 1]
      rw [or_f (b2i_0.mp c1)] at ihk
      first | exact ihk | exact hW _ _ _ _ _ _ _ (by simp) ihk
    · skip
      iterate 8 refine hK _ _ _ _ _ _ (?_ : K _ _ _ _ _ _)
      have e2 : s k = true := Bool.of_not_eq_false (fun e => c1 (b2i_0.mpr e))
      rw [or_t (by omega) e2] at ihk
      rw [nI_add k 1, nx_or]
      first | exact ihk | exact hW _ _ _ _ _ _ _ (by simp) ihk

/-- the first place below n, 0 if there is none -/
def ff (p : Nat → Bool) : Nat → Nat
  | 0 => 0
  | n + 1 => bif ff p n == 0 then (bif p n then n else 0) else ff p n
theorem ff_no {p : Nat → Bool} {k : Nat} (h : ff p k = 0) (hp : p k = false) : ff p (k + 1) = 0 := by
  show (bif ff p k == 0 then (bif p k then k else 0) else ff p k) = 0
  rw [h, hp]; rfl
theorem ff_hit {p : Nat → Bool} {k : Nat} (h : ff p k = 0) (hp : p k = true) (h0 : 0 < k) : ∀ n, k < n → ff p n = k
  | n + 1, hn => by
    show (bif ff p n == 0 then (bif p n then n else 0) else ff p n) = k
    by_cases e : n = k
    · subst e; rw [h, hp]; rfl
    · rw [ff_hit h hp h0 n (by omega)]
      have : (k == 0) = false := by simp; omega
      rw [this]; rfl
/-- the face at an index -/
abbrev fAt (s : Nat → Bool) (idx : Int32) : Nat → Bool := fun f => decide (0 < f) && (s f && decide (nI (cF s f) = idx))
set_option maxRecDepth 10000 in
/-- FaceSet.faceAt -/
theorem kX1_faceAt {S : Nat × (Nat → Int32)} {d : Nat} {h : eH} {Q : eQ} {q : Nat} {idx : Int32} {s : Nat → Bool} (hk0 : h.2[q]? = some (fsS s)) (hQ : Q (.inl (some (.int (nI (ff (fAt s idx) 128))))) h) : okCall S MT (d + 2) nX1_faceAt [.ref (q + 1), .int idx] h Q := by
  refine okc (M := MX1_faceAt) rfl rfl fun K hK hW => ?_
  show K 0 [(0, .ref (q + 1)), (1, .int idx)] [] h 0 0
  iterate 6 refine hK _ _ _ _ _ _ (?_ : K _ _ _ _ _ _)
  refine hW _ _ [(3, .int (nI (1))), (2, .int (nI (cF s (1)))), (0, .ref (q + 1)), (1, .int idx)] _ _ _ _ (by simp [cF_1]) ?_
  refine up (P := fun k => ff (fAt s idx) (k) = 0 → K 7 [(3, .int (nI (k))), (2, .int (nI (cF s (k)))), (0, .ref (q + 1)), (1, .int idx)] [.int (nI 127), .int (nI (k))] h 0 0) 128 1 ?_ ?_ (by decide) rfl
  · skip
    intro hh
    refine hK _ _ _ _ _ _ (And.intro (fun _ => ?_) (fun c9 => absurd (nI_lt (by decide) (by decide)) c9))
    iterate 1 refine hK _ _ _ _ _ _ (?_ : K _ _ _ _ _ _)
    exact hK _ _ _ _ _ _ (r_iret rfl rfl rfl rfl (by rw [hh] at hQ; exact hQ))
  · intro k h0k hk ihk hh
    refine hK _ _ _ _ _ _ (And.intro (fun c9 => absurd c9 (nI_nlt (by omega) (by omega))) (fun _ => ?_))
    iterate 2 refine hK _ _ _ _ _ _ (?_ : K _ _ _ _ _ _)
    refine hK _ _ _ _ _ _ (r_callV rfl (fun _ => rfl) (by assumption) (b0 rfl rfl rfl) (kX1_holds (f := k) (by omega) hk0 (?_ : K _ _ _ _ _ _)))
    refine hK _ _ _ _ _ _ (And.intro (fun c1 => ?_) (fun c1 => ?_))
    · skip
      iterate 4 refine hK _ _ _ _ _ _ (?_ : K _ _ _ _ _ _)
      have e2 : s k = false := b2i_0.mp c1
      have hh2 : ff (fAt s idx) (k + 1) = 0 := ff_no hh (by simp [fAt, e2])
      rw [cF_f (p := s) e2] at ihk
      rw [nI_add k 1]
      first | exact (ihk hh2) | exact hW _ _ _ _ _ _ _ (by simp) (ihk hh2)
    · skip
      iterate 2 refine hK _ _ _ _ _ _ (?_ : K _ _ _ _ _ _)
      refine hK _ _ _ _ _ _ (And.intro (fun c2 => ?_) (fun c2 => ?_))
      · skip
        iterate 1 refine hK _ _ _ _ _ _ (?_ : K _ _ _ _ _ _)
        have e2 : s k = true := Bool.of_not_eq_false (fun e => c1 (b2i_0.mpr e))
        exact hK _ _ _ _ _ _ (r_iret rfl rfl rfl rfl (by rw [ff_hit hh (by simp [fAt, e2, c2]; omega) (by omega) 128 (by omega)] at hQ; exact hQ))
      · skip
        iterate 5 refine hK _ _ _ _ _ _ (?_ : K _ _ _ _ _ _)
        have e2 : s k = true := Bool.of_not_eq_false (fun e => c1 (b2i_0.mpr e))
        have hh2 : ff (fAt s idx) (k + 1) = 0 := ff_no hh (by simp [fAt, c2])
        rw [nI_add k 1, cF_t (p := s) (by omega) e2]
        first | exact (ihk hh2) | exact hW _ _ _ _ _ _ _ (by simp) (ihk hh2)

abbrev ovP (s : Nat → Bool) (f : Nat) : Nat → Bool := fun i => decide (f < i) && (isP f i && s i)
theorem ov_0 (s : Nat → Bool) (f : Nat) : fb_ct (ovP s f) (f + 1) = 0 := fb_ct_zero.mpr fun i hi => by simp [ovP]; omega
theorem ff_0 {p : Nat → Bool} : ∀ {n : Nat}, (∀ i, i < n → p i = false) → ff p n = 0
  | 0, _ => rfl
  | n + 1, h => ff_no (ff_0 fun i hi => h i (by omega)) (h n (by omega))
set_option maxRecDepth 10000 in
/-- FaceSet.countOver -/
theorem kX1_countOver {S : Nat × (Nat → Int32)} {d : Nat} {h : eH} {Q : eQ} {q f : Nat} {s : Nat → Bool} (hf : f < 128) (hk0 : h.2[q]? = some (fsS s)) (hQ : Q (.inl (some (.int (nI (fb_ct (ovP s f) 128))))) h) : okCall S MT (d + 2) nX1_countOver [.ref (q + 1), .int (nI f)] h Q := by
  refine okc (M := MX1_countOver) rfl rfl fun K hK hW => ?_
  show K 0 [(0, .ref (q + 1)), (1, .int (nI f))] [] h 0 0
  iterate 8 refine hK _ _ _ _ _ _ (?_ : K _ _ _ _ _ _)
  rw [nI_add f 1]
  refine hW _ _ [(3, .int (nI (f + 1))), (2, .int (nI (fb_ct (ovP s f) (f + 1)))), (0, .ref (q + 1)), (1, .int (nI f))] _ _ _ _ (by simp [ov_0]) ?_
  refine up (P := fun k => K 9 [(3, .int (nI (k))), (2, .int (nI (fb_ct (ovP s f) (k)))), (0, .ref (q + 1)), (1, .int (nI f))] [.int (nI 127), .int (nI (k))] h 0 0) 128 (f + 1) ?_ ?_ (by omega)
  · skip
    refine hK _ _ _ _ _ _ (And.intro (fun _ => ?_) (fun c9 => absurd (nI_lt (by decide) (by decide)) c9))
    iterate 1 refine hK _ _ _ _ _ _ (?_ : K _ _ _ _ _ _)
    exact hK _ _ _ _ _ _ (r_iret rfl rfl rfl rfl hQ)
  · intro k h0k hk ihk
    refine hK _ _ _ _ _ _ (And.intro (fun c9 => absurd c9 (nI_nlt (by omega) (by omega))) (fun _ => ?_))
    iterate 4 refine hK _ _ _ _ _ _ (?_ : K _ _ _ _ _ _)
    refine hK _ _ _ _ _ _ (And.intro (fun c1 => ?_) (fun c1 => ?_))
    · skip
      iterate 2 refine hK _ _ _ _ _ _ (?_ : K _ _ _ _ _ _)
      refine hK _ _ _ _ _ _ (r_callV rfl (fun _ => rfl) (by assumption) (b0 rfl rfl rfl) (kX1_holds (f := k) (by omega) hk0 (?_ : K _ _ _ _ _ _)))
      refine hK _ _ _ _ _ _ (And.intro (fun c2 => ?_) (fun c2 => ?_))
      · skip
        iterate 4 refine hK _ _ _ _ _ _ (?_ : K _ _ _ _ _ _)
        have e1 : isP f k = true := (isP_I2 (by omega)).mp c1
        have e2 : s k = false := b2i_0.mp c2
        rw [show fb_ct (ovP s f) (k + 1) = fb_ct (ovP s f) k by rw [fb_ct_succ]; simp [ovP, e2]] at ihk
        rw [nI_add k 1]
        first | exact ihk | exact hW _ _ _ _ _ _ _ (by simp) ihk
      · skip
        iterate 5 refine hK _ _ _ _ _ _ (?_ : K _ _ _ _ _ _)
        have e1 : isP f k = true := (isP_I2 (by omega)).mp c1
        have e2 : s k = true := Bool.of_not_eq_false (fun e => c2 (b2i_0.mpr e))
        rw [show fb_ct (ovP s f) (k + 1) = fb_ct (ovP s f) k + 1 by rw [fb_ct_succ]; simp [ovP, e1, e2]; omega] at ihk
        rw [nI_add k 1, nI_add _ 1]
        first | exact ihk | exact hW _ _ _ _ _ _ _ (by simp) ihk
    · skip
      iterate 4 refine hK _ _ _ _ _ _ (?_ : K _ _ _ _ _ _)
      have e1 : isP f k = false := Bool.eq_false_iff.mpr (fun e => c1 ((isP_I2 (by omega)).mpr e))
      rw [show fb_ct (ovP s f) (k + 1) = fb_ct (ovP s f) k by rw [fb_ct_succ]; simp [ovP, e1]] at ihk
      rw [nI_add k 1]
      first | exact ihk | exact hW _ _ _ _ _ _ _ (by simp) ihk

set_option maxRecDepth 10000 in
/-- FaceSet.firstOver -/
theorem kX1_firstOver {S : Nat × (Nat → Int32)} {d : Nat} {h : eH} {Q : eQ} {q f : Nat} {s : Nat → Bool} (hf : f < 128) (hk0 : h.2[q]? = some (fsS s)) (hQ : Q (.inl (some (.int (nI (ff (ovP s f) 128))))) h) : okCall S MT (d + 2) nX1_firstOver [.ref (q + 1), .int (nI f)] h Q := by
  refine okc (M := MX1_firstOver) rfl rfl fun K hK hW => ?_
  show K 0 [(0, .ref (q + 1)), (1, .int (nI f))] [] h 0 0
  iterate 6 refine hK _ _ _ _ _ _ (?_ : K _ _ _ _ _ _)
  rw [nI_add f 1]
  refine hW _ _ [(2, .int (nI (f + 1))), (0, .ref (q + 1)), (1, .int (nI f))] _ _ _ _ (by simp) ?_
  refine up (P := fun k => ff (ovP s f) (k) = 0 → K 7 [(2, .int (nI (k))), (0, .ref (q + 1)), (1, .int (nI f))] [.int (nI 127), .int (nI (k))] h 0 0) 128 (f + 1) ?_ ?_ (by omega) (ff_0 fun i hi => by simp [ovP]; omega)
  · skip
    intro hh
    refine hK _ _ _ _ _ _ (And.intro (fun _ => ?_) (fun c9 => absurd (nI_lt (by decide) (by decide)) c9))
    iterate 1 refine hK _ _ _ _ _ _ (?_ : K _ _ _ _ _ _)
    exact hK _ _ _ _ _ _ (r_iret rfl rfl rfl rfl (by rw [hh] at hQ; exact hQ))
  · intro k h0k hk ihk hh
    refine hK _ _ _ _ _ _ (And.intro (fun c9 => absurd c9 (nI_nlt (by omega) (by omega))) (fun _ => ?_))
    iterate 4 refine hK _ _ _ _ _ _ (?_ : K _ _ _ _ _ _)
    refine hK _ _ _ _ _ _ (And.intro (fun c1 => ?_) (fun c1 => ?_))
    · skip
      iterate 2 refine hK _ _ _ _ _ _ (?_ : K _ _ _ _ _ _)
      refine hK _ _ _ _ _ _ (r_callV rfl (fun _ => rfl) (by assumption) (b0 rfl rfl rfl) (kX1_holds (f := k) (by omega) hk0 (?_ : K _ _ _ _ _ _)))
      refine hK _ _ _ _ _ _ (And.intro (fun c2 => ?_) (fun c2 => ?_))
      · skip
        iterate 4 refine hK _ _ _ _ _ _ (?_ : K _ _ _ _ _ _)
        have e2 : s k = false := b2i_0.mp c2
        have hh2 : ff (ovP s f) (k + 1) = 0 := ff_no hh (by simp [ovP, e2])
        rw [nI_add k 1]
        first | exact (ihk hh2) | exact hW _ _ _ _ _ _ _ (by simp) (ihk hh2)
      · skip
        iterate 1 refine hK _ _ _ _ _ _ (?_ : K _ _ _ _ _ _)
        have e1 : isP f k = true := (isP_I2 (by omega)).mp c1
        have e2 : s k = true := Bool.of_not_eq_false (fun e => c2 (b2i_0.mpr e))
        exact hK _ _ _ _ _ _ (r_iret rfl rfl rfl rfl (by rw [ff_hit hh (by simp [ovP, e1, e2]; omega) (by omega) 128 (by omega)] at hQ; exact hQ))
    · skip
      iterate 4 refine hK _ _ _ _ _ _ (?_ : K _ _ _ _ _ _)
      have e1 : isP f k = false := Bool.eq_false_iff.mpr (fun e => c1 ((isP_I2 (by omega)).mpr e))
      have hh2 : ff (ovP s f) (k + 1) = 0 := ff_no hh (by simp [ovP, e1])
      rw [nI_add k 1]
      first | exact (ihk hh2) | exact hW _ _ _ _ _ _ _ (by simp) (ihk hh2)

/-- the lowest corner of some -/
def low1 (c : Nat) : Nat := (Int32.toInt (nI c &&& (-nI c))).toNat
theorem low1_ok : ∀ c, c < 128 → nI c &&& (-nI c) = nI (low1 c) := by decide +kernel
set_option maxRecDepth 10000 in
/-- Holeworks.leastCorner -/
theorem kX6_leastCorner {S : Nat × (Nat → Int32)} {d : Nat} {h : eH} {Q : eQ} {f : Nat} (hf : f < 128) (hQ : Q (.inl (some (.int (nI (low1 f))))) h) : okCall S MT (d + 1) nX6_leastCorner [.int (nI f)] h Q := by
  refine okc (M := MX6_leastCorner) rfl rfl fun K hK hW => ?_
  show K 0 [(0, .int (nI f))] [] h 0 0
  iterate 4 refine hK _ _ _ _ _ _ (?_ : K _ _ _ _ _ _)
  exact hK _ _ _ _ _ _ (r_iret rfl rfl rfl rfl (by rw [low1_ok f hf]; exact hQ))

set_option maxRecDepth 10000 in
/-- FaceSet() -/
theorem kX1_init {S : Nat × (Nat → Int32)} {d : Nat} {h : eH} {Q : eQ} {k : Nat} (hQ : Q (.inl none) h) : okCall S MT (d + 1) nX1_init [.ref (k + 1)] h Q := by
  refine okc (M := MX1_init) rfl rfl fun K hK hW => ?_
  show K 0 [(0, .ref (k + 1))] [] h 0 0
  iterate 1 refine hK _ _ _ _ _ _ (?_ : K _ _ _ _ _ _)
  refine hK _ _ _ _ _ _ (r_obj rfl rfl (by omega) (?_ : K _ _ _ _ _ _))
  exact hK _ _ _ _ _ _ (r_vret rfl rfl rfl hQ)

end FS3
