section HW
/-! what a call answers: a throw of a kind, or a value, the shapes and the row then -/
abbrev Oc : Type := Nat ⊕ (Value × (Nat → Nat → Bool) × (Nat → Bool))
def rng (a n : Nat) (x : Int32) : Option Nat := if (a : Int) ≤ x.toInt ∧ x.toInt < n then some x.toInt.toNat else none
theorem rng_no {a n : Nat} {x : Int32} (h : ¬ ((a : Int) ≤ x.toInt ∧ x.toInt < n)) : rng a n x = none := if_neg h
theorem rng_ok {a n : Nat} {x : Int32} (hn : n < 2 ^ 31) (h : (a : Int) ≤ x.toInt ∧ x.toInt < n) : ∃ k, a ≤ k ∧ k < n ∧ x = nI k ∧ rng a n x = some k :=
  ⟨x.toInt.toNat, by omega, by omega, Int32.toInt_inj.mp (by rw [nI_toInt (by omega)]; omega), if_pos h⟩
theorem rng_I {a n k : Nat} (hn : n < 2 ^ 31) (h1 : a ≤ k) (h2 : k < n) : rng a n (nI k) = some k := by
  unfold rng
  rw [nI_toInt (by omega), if_pos (by omega)]
  rfl
theorem rng_s {a n k : Nat} {x : Int32} (hn : n < 2 ^ 31) (h : rng a n x = some k) : a ≤ k ∧ k < n ∧ x = nI k := by
  by_cases hc : (a : Int) ≤ x.toInt ∧ x.toInt < n
  · obtain ⟨j, h1, h2, h3, h4⟩ := rng_ok hn hc
    rw [h4] at h
    cases h
    exact ⟨h1, h2, h3⟩
  · rw [rng_no hc] at h; cases h
theorem rng_lo {a n : Nat} {x : Int32} (ha : a < 2 ^ 31) (h : x < nI a) : rng a n x = none := rng_no (by rw [Int32.lt_iff_toInt_lt, nI_toInt ha] at h; omega)
theorem rng_ne {a n : Nat} {x : Int32} (h : x < 0) : rng a n x = none := rng_no (by rw [Int32.lt_iff_toInt_lt] at h; have : (0 : Int32).toInt = 0 := by decide
                                                                                    omega)
theorem rng_hi {a n : Nat} {x : Int32} (hn : n < 2 ^ 31) (h : ¬ x < nI n) : rng a n x = none := rng_no (by rw [Int32.lt_iff_toInt_lt, nI_toInt hn] at h; omega)
theorem rng_hi1 {a n : Nat} {x : Int32} (hn : n < 2 ^ 31) (h : ¬ x ≤ nI n) : rng a (n + 1) x = none := rng_no (by rw [Int32.le_iff_toInt_le, nI_toInt hn] at h; omega)
theorem rng_i0 {n : Nat} {x : Int32} (hn : n < 2 ^ 31) (h1 : ¬ x < 0) (h2 : x < nI n) : ∃ k, 0 ≤ k ∧ k < n ∧ x = nI k ∧ rng 0 n x = some k := rng_ok hn (by
  rw [Int32.lt_iff_toInt_lt] at h1
  rw [Int32.lt_iff_toInt_lt, nI_toInt hn] at h2
  have : (0 : Int32).toInt = 0 := by decide
  omega)
theorem rng_i1 {a n : Nat} {x : Int32} (ha : a < 2 ^ 31) (hn : n < 2 ^ 31) (h1 : ¬ x < nI a) (h2 : x < nI n) : ∃ k, a ≤ k ∧ k < n ∧ x = nI k ∧ rng a n x = some k := rng_ok hn (by
  rw [Int32.lt_iff_toInt_lt, nI_toInt ha] at h1
  rw [Int32.lt_iff_toInt_lt, nI_toInt hn] at h2
  omega)
theorem rng_i2 {a n : Nat} {x : Int32} (ha : a < 2 ^ 31) (hn : n + 1 < 2 ^ 31) (h1 : ¬ x < nI a) (h2 : x ≤ nI n) : ∃ k, a ≤ k ∧ k < n + 1 ∧ x = nI k ∧ rng a (n + 1) x = some k := rng_ok hn (by
  rw [Int32.lt_iff_toInt_lt, nI_toInt ha] at h1
  rw [Int32.le_iff_toInt_le, nI_toInt (by omega)] at h2
  omega)
def oR (E a n : Nat) (x : Int32) (k : Nat → Oc) : Oc := match rng a n x with
  | none => .inl E
  | some j => k j
def oB (E : Nat) (c : Bool) (k : Oc) : Oc := bif c then k else .inl E
theorem oR_n {E a n : Nat} {x : Int32} {k : Nat → Oc} (h : rng a n x = none) : oR E a n x k = .inl E := by unfold oR; rw [h]
theorem oR_s {E a n j : Nat} {x : Int32} {k : Nat → Oc} (h : rng a n x = some j) : oR E a n x k = k j := by unfold oR; rw [h]
theorem oB_t {E : Nat} {c : Bool} {k : Oc} (h : c = true) : oB E c k = k := by rw [h]; rfl
theorem oB_f {E : Nat} {c : Bool} {k : Oc} (h : c = false) : oB E c k = .inl E := by rw [h]; rfl
/-- what the class's call must find behind it -/
def oQ (o : Oc) (Q : eQ) (P : Nat → Nat → Bool) (R : Nat → Bool) (b : Bool) (T : List va_E) : Prop := match o with
  | .inl E => ∀ u v w kb f g e, Q (.inr E) (false, wl P R u v w kb f g e T)
  | .inr (r, P2, R2) => ∀ u v w kb f g e, Q (.inl (some r)) (b, wl P2 R2 u v w kb f g e T)
section Oq
variable {Q : eQ} {b : Bool} {P P2 : Nat → Nat → Bool} {R R2 u v w : Nat → Bool} {kb : Nat → Nat} {f g e : Nat → Int32} {T : List va_E} {E a n j : Nat} {x : Int32} {k : Nat → Oc} {c : Bool} {o : Oc} {r : Value}
theorem oq_n (h : rng a n x = none) (hQ : oQ (oR E a n x k) Q P R b T) : Q (.inr E) (false, wl P R u v w kb f g e T) := by
  rw [oR_n h] at hQ; exact hQ _ _ _ _ _ _ _
theorem oq_s (h : rng a n x = some j) (hQ : oQ (oR E a n x k) Q P R b T) : oQ (k j) Q P R b T := by rw [oR_s h] at hQ; exact hQ
theorem ob_t (h : c = true) (hQ : oQ (oB E c o) Q P R b T) : oQ o Q P R b T := by rw [oB_t h] at hQ; exact hQ
theorem ob_f (h : c = false) (hQ : oQ (oB E c o) Q P R b T) : Q (.inr E) (false, wl P R u v w kb f g e T) := by
  rw [oB_f h] at hQ; exact hQ _ _ _ _ _ _ _
theorem oi (hQ : oQ (.inr (r, P2, R2)) Q P R b T) : Q (.inl (some r)) (b, wl P2 R2 u v w kb f g e T) := hQ _ _ _ _ _ _ _
end Oq
noncomputable def fdZ (s : Nat → Bool) (idx : Int32) : Bool := @decide (ff (fAt s idx) 128 = 0) (Classical.propDecidable _)
theorem ffB {s : Nat → Bool} {idx : Int32} (h : ff (fAt s idx) 128 = 0) : (!fdZ s idx) = false := by
  have : fdZ s idx = true := by unfold fdZ; exact @decide_eq_true _ (Classical.propDecidable _) h
  rw [this]; rfl
theorem ffB2 {s : Nat → Bool} {idx : Int32} (h : ff (fAt s idx) 128 ≠ 0) : (!fdZ s idx) = true := by
  have : fdZ s idx = false := by unfold fdZ; exact @decide_eq_false _ (Classical.propDecidable _) h
  rw [this]; rfl
theorem thrK {M : eM} {Q : eQ} {pc : Nat} {ls : eL} {K : eK} {E : Nat} {h : eH} {kc ks : Nat} (h1 : eHnd (mHh M) pc E = none) (h2 : mHh M = []) (hq : Q (.inr E) h) : eThrK M Q pc ls K E h kc ks := by
  unfold eThrK; rw [h1]; exact ⟨h2, hq⟩
theorem shF_at {p : Nat} (hp : p < 6) : shF (nI p).toNatClampNeg = some (2 + p + 1) := by
  rw [nI_clamp (by omega)]
  unfold shF
  rw [decide_eq_true hp]
  show some (p + 3) = some (2 + p + 1)
  congr 1; omega
set_option maxRecDepth 10000 in
/-- Holeworks.shapeAt -/
theorem kX6_shapeAt {S : Nat × (Nat → Int32)} {d : Nat} {Q : eQ} {b : Bool} {P : Nat → Nat → Bool} {R u v w : Nat → Bool} {kb : Nat → Nat} {f g e : Nat → Int32} {T : List va_E} {x : Int32} (h0 : rng 0 6 x = none → Q (.inr 0) (false, wl P R u v w kb f g e T)) (hQ : ∀ p, p < 6 → x = nI p → rng 0 6 x = some p → Q (.inl (some (.ref (2 + p + 1)))) (b, wl P R u v w kb f g e T)) : okCall S MT (d + 6) nX6_shapeAt [.ref 1, .int x] (b, wl P R u v w kb f g e T) Q := by
  refine okc (M := MX6_shapeAt) rfl rfl fun K hK hW => ?_
  show K 0 [(0, .ref 1), (1, .int x)] [] (b, wl P R u v w kb f g e T) 0 0
  iterate 1 refine hK _ _ _ _ _ _ (?_ : K _ _ _ _ _ _)
  refine hK _ _ _ _ _ _ (And.intro (fun c1 => ?_) (fun c1 => ?_))
  · skip
    exact hK _ _ _ _ _ _ (r_thr rfl (by omega) rfl rfl rfl rfl (h0 (rng_ne c1)))
  · skip
    iterate 2 refine hK _ _ _ _ _ _ (?_ : K _ _ _ _ _ _)
    refine hK _ _ _ _ _ _ (And.intro (fun c2 => ?_) (fun c2 => ?_))
    · skip
      obtain ⟨p, hp0, hp, rfl, h9⟩ := rng_i0 (n := 6) (by decide) c1 c2
      iterate 1 refine hK _ _ _ _ _ _ (?_ : K _ _ _ _ _ _)
      refine hK _ _ _ _ _ _ (r_get rfl rfl rfl (?_ : K _ _ _ _ _ _))
      iterate 1 refine hK _ _ _ _ _ _ (?_ : K _ _ _ _ _ _)
      refine hK _ _ _ _ _ _ (r_aald rfl (f := shF) (N := 6) rfl (vp_in_nI hp (by decide)) (shF_at hp) (?_ : K _ _ _ _ _ _))
      exact hK _ _ _ _ _ _ (r_aret rfl rfl rfl (hQ p hp rfl h9))
    · skip
      exact hK _ _ _ _ _ _ (r_thr rfl (by omega) rfl rfl rfl rfl (h0 (rng_hi (by decide) c2)))

set_option maxRecDepth 10000 in
/-- Holeworks.checkFace -/
theorem kX6_checkFace {S : Nat × (Nat → Int32)} {d : Nat} {h : eH} {Q : eQ} {x : Int32} (h0 : rng 1 128 x = none → Q (.inr 1) (false, h.2)) (hQ : ∀ i, 1 ≤ i → i < 128 → x = nI i → rng 1 128 x = some i → Q (.inl none) h) : okCall S MT (d + 6) nX6_checkFace [.int x] h Q := by
  refine okc (M := MX6_checkFace) rfl rfl fun K hK hW => ?_
  show K 0 [(0, .int x)] [] h 0 0
  iterate 2 refine hK _ _ _ _ _ _ (?_ : K _ _ _ _ _ _)
  refine hK _ _ _ _ _ _ (And.intro (fun c1 => ?_) (fun c1 => ?_))
  · skip
    exact hK _ _ _ _ _ _ (r_thr rfl (by omega) rfl rfl rfl rfl (h0 (rng_lo (by decide) c1)))
  · skip
    iterate 2 refine hK _ _ _ _ _ _ (?_ : K _ _ _ _ _ _)
    refine hK _ _ _ _ _ _ (And.intro (fun c2 => ?_) (fun c2 => ?_))
    · skip
      obtain ⟨i, hi1, hi2, hi3, h9⟩ := rng_i2 (a := 1) (n := 127) (by decide) (by decide) c1 c2
      exact hK _ _ _ _ _ _ (r_vret rfl rfl rfl (hQ i hi1 hi2 hi3 h9))
    · skip
      exact hK _ _ _ _ _ _ (r_thr rfl (by omega) rfl rfl rfl rfl (h0 (rng_hi1 (by decide) c2)))

set_option maxRecDepth 10000 in
/-- Holeworks.checkCorner -/
theorem kX6_checkCorner {S : Nat × (Nat → Int32)} {d : Nat} {h : eH} {Q : eQ} {x : Int32} (h0 : rng 0 7 x = none → Q (.inr 1) (false, h.2)) (hQ : ∀ i, i < 7 → x = nI i → rng 0 7 x = some i → Q (.inl none) h) : okCall S MT (d + 6) nX6_checkCorner [.int x] h Q := by
  refine okc (M := MX6_checkCorner) rfl rfl fun K hK hW => ?_
  show K 0 [(0, .int x)] [] h 0 0
  iterate 1 refine hK _ _ _ _ _ _ (?_ : K _ _ _ _ _ _)
  refine hK _ _ _ _ _ _ (And.intro (fun c1 => ?_) (fun c1 => ?_))
  · skip
    exact hK _ _ _ _ _ _ (r_thr rfl (by omega) rfl rfl rfl rfl (h0 (rng_ne c1)))
  · skip
    iterate 2 refine hK _ _ _ _ _ _ (?_ : K _ _ _ _ _ _)
    refine hK _ _ _ _ _ _ (And.intro (fun c2 => ?_) (fun c2 => ?_))
    · skip
      obtain ⟨i, hi1, hi2, hi3, h9⟩ := rng_i0 (n := 7) (by decide) c1 c2
      exact hK _ _ _ _ _ _ (r_vret rfl rfl rfl (hQ i hi2 hi3 h9))
    · skip
      exact hK _ _ _ _ _ _ (r_thr rfl (by omega) rfl rfl rfl rfl (h0 (rng_hi (by decide) c2)))

set_option maxRecDepth 10000 in
/-- Holeworks.checkHeight -/
theorem kX6_checkHeight {S : Nat × (Nat → Int32)} {d : Nat} {h : eH} {Q : eQ} {x : Int32} {l : Nat} (hl : l < 2 ^ 31) (h0 : rng l 7 x = none → Q (.inr 1) (false, h.2)) (hQ : ∀ i, l ≤ i → i < 7 → x = nI i → rng l 7 x = some i → Q (.inl none) h) : okCall S MT (d + 6) nX6_checkHeight [.int x, .int (nI l)] h Q := by
  refine okc (M := MX6_checkHeight) rfl rfl fun K hK hW => ?_
  show K 0 [(0, .int x), (1, .int (nI l))] [] h 0 0
  iterate 2 refine hK _ _ _ _ _ _ (?_ : K _ _ _ _ _ _)
  refine hK _ _ _ _ _ _ (And.intro (fun c1 => ?_) (fun c1 => ?_))
  · skip
    exact hK _ _ _ _ _ _ (r_thr rfl (by omega) rfl rfl rfl rfl (h0 (rng_lo hl c1)))
  · skip
    iterate 2 refine hK _ _ _ _ _ _ (?_ : K _ _ _ _ _ _)
    refine hK _ _ _ _ _ _ (And.intro (fun c2 => ?_) (fun c2 => ?_))
    · skip
      obtain ⟨i, hi1, hi2, hi3, h9⟩ := rng_i1 (a := l) (n := 7) hl (by decide) c1 c2
      exact hK _ _ _ _ _ _ (r_vret rfl rfl rfl (hQ i hi1 hi2 hi3 h9))
    · skip
      exact hK _ _ _ _ _ _ (r_thr rfl (by omega) rfl rfl rfl rfl (h0 (rng_hi (by decide) c2)))

set_option maxRecDepth 10000 in
/-- Holeworks.checkHeld -/
theorem kX6_checkHeld {S : Nat × (Nat → Int32)} {d : Nat} {h : eH} {Q : eQ} {q i : Nat} {s : Nat → Bool} (hi : i < 128) (hk : h.2[q]? = some (fsS s)) (h0 : s i = false → Q (.inr 3) (false, h.2)) (hQ : s i = true → Q (.inl none) h) : okCall S MT (d + 6) nX6_checkHeld [.ref (q + 1), .int (nI i)] h Q := by
  refine okc (M := MX6_checkHeld) rfl rfl fun K hK hW => ?_
  show K 0 [(0, .ref (q + 1)), (1, .int (nI i))] [] h 0 0
  iterate 2 refine hK _ _ _ _ _ _ (?_ : K _ _ _ _ _ _)
  refine hK _ _ _ _ _ _ (r_callV rfl (fun _ => rfl) (by assumption) (b0 rfl rfl rfl) (kX1_holds hi hk (?_ : K _ _ _ _ _ _)))
  refine hK _ _ _ _ _ _ (And.intro (fun c1 => ?_) (fun c1 => ?_))
  · skip
    exact hK _ _ _ _ _ _ (r_thr rfl (by omega) rfl rfl rfl rfl (h0 (b2i_0.mp c1)))
  · skip
    exact hK _ _ _ _ _ _ (r_vret rfl rfl rfl (hQ (Bool.of_not_eq_false fun c => c1 (b2i_0.mpr c))))

set_option maxRecDepth 10000 in
/-- Holeworks.checkNew -/
theorem kX6_checkNew {S : Nat × (Nat → Int32)} {d : Nat} {h : eH} {Q : eQ} {q i : Nat} {s : Nat → Bool} (hi : i < 7) (hk : h.2[q]? = some (fsS s)) (h0 : s (2 ^ i) = true → Q (.inr 2) (false, h.2)) (hQ : s (2 ^ i) = false → Q (.inl none) h) : okCall S MT (d + 6) nX6_checkNew [.ref (q + 1), .int (nI i)] h Q := by
  refine okc (M := MX6_checkNew) rfl rfl fun K hK hW => ?_
  show K 0 [(0, .ref (q + 1)), (1, .int (nI i))] [] h 0 0
  iterate 4 refine hK _ _ _ _ _ _ (?_ : K _ _ _ _ _ _)
  refine hK _ _ _ _ _ _ (r_callV rfl (fun _ => rfl) (by assumption) (b0 rfl rfl rfl) (okW (by rw [sh1 i hi]) (kX1_holds (pw_128 i hi) hk (?_ : K _ _ _ _ _ _))))
  refine hK _ _ _ _ _ _ (And.intro (fun c1 => ?_) (fun c1 => ?_))
  · skip
    exact hK _ _ _ _ _ _ (r_vret rfl rfl rfl (hQ (b2i_0.mp c1)))
  · skip
    exact hK _ _ _ _ _ _ (r_thr rfl (by omega) rfl rfl rfl rfl (h0 (Bool.of_not_eq_false fun c => c1 (b2i_0.mpr c))))

theorem ff_128 (p : Nat → Bool) : ff p 128 < 2147483648 := by
  by_cases h : ff p 128 = 0
  · rw [h]; decide
  · have := (ff_lt h).1; omega
set_option maxRecDepth 10000 in
/-- Holeworks.checkedFaceAt -/
theorem kX6_checkedFaceAt {S : Nat × (Nat → Int32)} {d : Nat} {h : eH} {Q : eQ} {q : Nat} {idx : Int32} {s : Nat → Bool} (hk : h.2[q]? = some (fsS s)) (h0 : ff (fAt s idx) 128 = 0 → Q (.inr 0) (false, h.2)) (hQ : ff (fAt s idx) 128 ≠ 0 → Q (.inl (some (.int (nI (ff (fAt s idx) 128))))) h) : okCall S MT (d + 6) nX6_checkedFaceAt [.ref (q + 1), .int idx] h Q := by
  refine okc (M := MX6_checkedFaceAt) rfl rfl fun K hK hW => ?_
  show K 0 [(0, .ref (q + 1)), (1, .int idx)] [] h 0 0
  iterate 2 refine hK _ _ _ _ _ _ (?_ : K _ _ _ _ _ _)
  refine hK _ _ _ _ _ _ (r_callV rfl (fun _ => rfl) (by assumption) (b0 rfl rfl rfl) (kX1_faceAt hk (?_ : K _ _ _ _ _ _)))
  iterate 2 refine hK _ _ _ _ _ _ (?_ : K _ _ _ _ _ _)
  refine hK _ _ _ _ _ _ (And.intro (fun c1 => ?_) (fun c1 => ?_))
  · skip
    exact hK _ _ _ _ _ _ (r_thr rfl (by omega) rfl rfl rfl rfl (h0 ((nI_z (ff_128 _)).mp c1)))
  · skip
    iterate 1 refine hK _ _ _ _ _ _ (?_ : K _ _ _ _ _ _)
    exact hK _ _ _ _ _ _ (r_iret rfl rfl rfl rfl (hQ fun c => c1 (by rw [c]; rfl)))

set_option maxRecDepth 10000 in
/-- Holeworks.emptied -/
theorem kX6_emptied {S : Nat × (Nat → Int32)} {d : Nat} {h : eH} {Q : eQ} {q : Nat} {s : Nat → Bool} (hk : h.2[q]? = some (fsS s)) (hQ : Q (.inl (some (.int (nI (fb_ct s 128))))) (h.1, h.2.set q (fsS no9))) : okCall S MT (d + 3) nX6_emptied [.ref (q + 1)] h Q := by
  refine okc (M := MX6_emptied) rfl rfl fun K hK hW => ?_
  show K 0 [(0, .ref (q + 1))] [] h 0 0
  iterate 1 refine hK _ _ _ _ _ _ (?_ : K _ _ _ _ _ _)
  refine hK _ _ _ _ _ _ (r_callV rfl (fun _ => rfl) (by assumption) (b0 rfl rfl rfl) (kX1_count hk (?_ : K _ _ _ _ _ _)))
  iterate 2 refine hK _ _ _ _ _ _ (?_ : K _ _ _ _ _ _)
  refine hK _ _ _ _ _ _ (r_callV rfl (fun _ => rfl) (by assumption) (b0 rfl rfl rfl) (kX1_empty hk (?_ : K _ _ _ _ _ _)))
  iterate 1 refine hK _ _ _ _ _ _ (?_ : K _ _ _ _ _ _)
  exact hK _ _ _ _ _ _ (r_iret rfl rfl rfl rfl hQ)

set_option maxRecDepth 10000 in
/-- Holeworks.giveMade -/
theorem kX6_giveMade {S : Nat × (Nat → Int32)} {d : Nat} {h : eH} {Q : eQ} {q : Nat} {s t : Nat → Bool} (hw : h.2[0]? = some hwO) (hq9 : q ≠ 9) (hk : h.2[q]? = some (fsS s)) (hm : h.2[9]? = some (fsS t)) (hQ : Q (.inl (some (.int (nI (fb_ct t 128))))) (h.1, h.2.set q (fsS t))) : okCall S MT (d + 3) nX6_giveMade [.ref 1, .ref (q + 1)] h Q := by
  refine okc (M := MX6_giveMade) rfl rfl fun K hK hW => ?_
  show K 0 [(0, .ref 1), (1, .ref (q + 1))] [] h 0 0
  iterate 2 refine hK _ _ _ _ _ _ (?_ : K _ _ _ _ _ _)
  refine hK _ _ _ _ _ _ (r_get rfl hw rfl (?_ : K _ _ _ _ _ _))
  refine hK _ _ _ _ _ _ (r_callV rfl (fun _ => rfl) hk (b0 rfl rfl rfl) (kX1_become hq9 hk hm (?_ : K _ _ _ _ _ _)))
  iterate 1 refine hK _ _ _ _ _ _ (?_ : K _ _ _ _ _ _)
  refine hK _ _ _ _ _ _ (r_callV rfl (fun _ => rfl) (gs hk) (b0 rfl rfl rfl) (kX1_count (s := t) (gs hk) (?_ : K _ _ _ _ _ _)))
  exact hK _ _ _ _ _ _ (r_iret rfl rfl rfl rfl hQ)

def grS (s : Nat → Bool) : Nat → Bool := sFold no9 (fun i => s i && !liesIn s i) (fun i => i) 128
def loS (s : Nat → Bool) (k : Nat) : Nat → Bool := sFold no9 (fun i => s i && decide (ht i ≤ k)) (fun i => i) 128
def fuS (i : Nat) (r : Bool) : Nat → Bool := bif r then sDel (sPar no9 i (i + 1)) i else sPar no9 i (i + 1)
def ovN (s : Nat → Bool) (i : Nat) : Nat := fb_ct (ovP s i) 128
def rn (R : Nat → Bool) : Nat := pc (ff (fAt R (nI 0)) 128)
def rh (R : Nat → Bool) : Nat := ht (ff (fAt R (nI 0)) 128)
def o_put (P : Nat → Nat → Bool) (R : Nat → Bool) (x : Int32) (y : Int32) : Oc := oR 0 0 6 x fun p => oR 1 1 128 y fun i => .inr (.int (nI (fb_ct (sPar (P p) i (i + 1)) 128) - nI (fb_ct (P p) 128)), setP P p (sPar (P p) i (i + 1)), R)
def o_take (P : Nat → Nat → Bool) (R : Nat → Bool) (x : Int32) (y : Int32) : Oc := oR 0 0 6 x fun p => oR 1 1 128 y fun i => oB 3 (P p i) (.inr (.int (nI (fb_ct (P p) 128) - nI (fb_ct (sOvr (P p) i 128) 128)), setP P p (sOvr (P p) i 128), R))
def o_clear (P : Nat → Nat → Bool) (R : Nat → Bool) (x : Int32) : Oc := oR 0 0 6 x fun p => .inr (.int (nI (fb_ct (P p) 128)), setP P p no9, R)
def o_copy (P : Nat → Nat → Bool) (R : Nat → Bool) (x : Int32) (y : Int32) : Oc := oR 0 0 6 x fun p => oR 0 0 6 y fun t => .inr (.int (nI (fb_ct (P p) 128)), setP P t (P p), R)
def o_unite (P : Nat → Nat → Bool) (R : Nat → Bool) (x : Int32) (y : Int32) (z : Int32) : Oc := oR 0 0 6 x fun p => oR 0 0 6 y fun q => oR 0 0 6 z fun t => .inr (.int (nI (fb_ct (fun i => P p i || P q i) 128)), setP P t (fun i => P p i || P q i), R)
def o_meet (P : Nat → Nat → Bool) (R : Nat → Bool) (x : Int32) (y : Int32) (z : Int32) : Oc := oR 0 0 6 x fun p => oR 0 0 6 y fun q => oR 0 0 6 z fun t => .inr (.int (nI (fb_ct (fun i => P p i && P q i) 128)), setP P t (fun i => P p i && P q i), R)
def o_full (P : Nat → Nat → Bool) (R : Nat → Bool) (x : Int32) (r : Bool) (z : Int32) : Oc := oR 0 0 6 z fun t => oR 1 1 128 x fun i => .inr (.int (nI (fb_ct (fuS i r) 128)), setP P t (fuS i r), R)
def o_low (P : Nat → Nat → Bool) (R : Nat → Bool) (x : Int32) (y : Int32) (z : Int32) : Oc := oR 0 0 6 x fun p => oR 0 0 6 z fun t => oR 1 0 7 y fun k => .inr (.int (nI (fb_ct (loS (P p) k) 128)), setP P t (loS (P p) k), R)
def o_about (P : Nat → Nat → Bool) (R : Nat → Bool) (x : Int32) (y : Int32) (r : Bool) (z : Int32) : Oc := oR 0 0 6 x fun p => oR 0 0 6 z fun t => oR 1 1 128 y fun i => oB 3 (P p i) (.inr (.int (nI (fb_ct (abS (P p) i r) 128)), setP P t (abS (P p) i r), R))
def o_cone (P : Nat → Nat → Bool) (R : Nat → Bool) (x : Int32) (y : Int32) (z : Int32) : Oc := oR 0 0 6 x fun p => oR 0 0 6 z fun t => oR 1 0 7 y fun c => oB 2 (!P p (2 ^ c)) (.inr (.int (nI (fb_ct (coneS (P p) (2 ^ c)) 128)), setP P t (coneS (P p) (2 ^ c)), R))
def o_lift (P : Nat → Nat → Bool) (R : Nat → Bool) (x : Int32) (y : Int32) (z : Int32) (s : Int32) : Oc := oR 0 0 6 x fun p => oR 0 0 6 s fun t => oR 1 0 7 y fun c => oR 1 0 7 z fun d => oB 1 (!(c == d)) (oB 2 (!P p (2 ^ c)) (oB 2 (!P p (2 ^ d)) (.inr (.int (nI (fb_ct (liftS (P p) (2 ^ c) (2 ^ d)) 128)), setP P t (liftS (P p) (2 ^ c) (2 ^ d)), R))))
def o_other (P : Nat → Nat → Bool) (R : Nat → Bool) (x : Int32) (y : Int32) (z : Int32) : Oc := oR 0 0 6 x fun p => oR 0 0 6 z fun t => oR 1 1 128 y fun i => oB 2 (bic (orF (P p) 128) i == 0) (.inr (.int (nI (fb_ct (otS (P p) i) 128)), setP P t (otS (P p) i), R))
def o_exchange (P : Nat → Nat → Bool) (R : Nat → Bool) (x : Int32) (y : Int32) (z : Int32) (s : Int32) : Oc := oR 0 0 6 x fun p => oR 0 0 6 s fun t => oR 1 0 7 y fun c => oR 1 0 7 z fun d => .inr (.int (nI (fb_ct (fun i => xcS (P p) c d i && !P p i) 128)), setP P t (xcS (P p) c d), R)
def o_fold (P : Nat → Nat → Bool) (R : Nat → Bool) (x : Int32) (y : Int32) : Oc := oR 0 0 6 x fun p => oR 1 1 128 y fun i => oB 3 (P p i) (oB 2 (ovN (P p) i == 1) (.inr (.int (nI (ff (ovP (P p) i) 128)), setP P p (sDel (sDel (P p) i) (ff (ovP (P p) i) 128)), R)))
def o_has (P : Nat → Nat → Bool) (R : Nat → Bool) (x : Int32) (y : Int32) : Oc := oR 0 0 6 x fun p => oR 1 1 128 y fun i => .inr (.int (b2i (P p i)), P, R)
def o_size (P : Nat → Nat → Bool) (R : Nat → Bool) (x : Int32) : Oc := oR 0 0 6 x fun p => .inr (.int (nI (fb_ct (P p) 128)), P, R)
def o_faces (P : Nat → Nat → Bool) (R : Nat → Bool) (x : Int32) (y : Int32) : Oc := oR 0 0 6 x fun p => oR 1 0 7 y fun k => .inr (.int (nI (cnt (P p) k)), P, R)
def o_corners (P : Nat → Nat → Bool) (R : Nat → Bool) (x : Int32) : Oc := oR 0 0 6 x fun p => .inr (.int (nI (orF (P p) 128)), P, R)
def o_over (P : Nat → Nat → Bool) (R : Nat → Bool) (x : Int32) (y : Int32) : Oc := oR 0 0 6 x fun p => oR 1 1 128 y fun i => oB 3 (P p i) (.inr (.int (nI (ovN (P p) i)), P, R))
def o_greatest (P : Nat → Nat → Bool) (R : Nat → Bool) (x : Int32) : Oc := oR 0 0 6 x fun p => .inr (.int (nI (fb_ct (grS (P p)) 128)), P, R)
noncomputable def o_greatestAt (P : Nat → Nat → Bool) (R : Nat → Bool) (x : Int32) (y : Int32) : Oc := oR 0 0 6 x fun p => oB 0 (!fdZ (grS (P p)) y) (.inr (.int (nI (ff (fAt (grS (P p)) y) 128)), P, R))
def o_isSame (P : Nat → Nat → Bool) (R : Nat → Bool) (x : Int32) (y : Int32) : Oc := oR 0 0 6 x fun p => oR 0 0 6 y fun q => .inr (.int (b2i (sEq (P p) (P q))), P, R)
def o_contains (P : Nat → Nat → Bool) (R : Nat → Bool) (x : Int32) (y : Int32) : Oc := oR 0 0 6 x fun p => oR 0 0 6 y fun q => .inr (.int (b2i (decide (fb_ct (fun i => P q i && !P p i) 128 = 0))), P, R)
noncomputable def o_pieces (P : Nat → Nat → Bool) (R : Nat → Bool) (x : Int32) : Oc := oR 0 0 6 x fun p => .inr (.int (nI (npc (P p))), P, R)
noncomputable def o_areJoined (P : Nat → Nat → Bool) (R : Nat → Bool) (x : Int32) (y : Int32) (z : Int32) : Oc := oR 0 0 6 x fun p => oR 1 0 7 y fun c => oR 1 0 7 z fun d => oB 3 (P p (2 ^ c)) (oB 3 (P p (2 ^ d)) (.inr (.int (b2i (JB (P p) c d)), P, R)))
def o_free (P : Nat → Nat → Bool) (R : Nat → Bool) (x : Int32) (y : Int32) : Oc := oR 0 0 6 x fun p => oR 1 1 7 y fun k => .inr (.int (nI (Rr (P p) k)), P, R)
def o_holes (P : Nat → Nat → Bool) (R : Nat → Bool) (x : Int32) (y : Int32) : Oc := oR 0 0 6 x fun p => oR 1 0 7 y fun k => .inr (.int (nZ (hol (P p) k)), P, R)
def o_signed (P : Nat → Nat → Bool) (R : Nat → Bool) (x : Int32) : Oc := oR 0 0 6 x fun p => .inr (.int (nZ (sgF (P p) 128)), P, R)
def o_flip (P : Nat → Nat → Bool) (R : Nat → Bool) (x : Int32) : Oc := oR 1 1 128 x fun i => oB 2 (decide (fb_ct R 128 = 0) || rh R == ht i) (.inr (.int (nI (fb_ct (sTog R i) 128)), P, sTog R i))
noncomputable def o_rowAt (P : Nat → Nat → Bool) (R : Nat → Bool) (x : Int32) : Oc := oB 0 (!fdZ R x) (.inr (.int (nI (ff (fAt R x) 128)), P, R))
def o_fills (P : Nat → Nat → Bool) (R : Nat → Bool) (x : Int32) : Oc := oR 0 0 6 x fun p => oB 2 (decide (fb_ct (fun i => R i && !P p i) 128 = 0)) (.inr (.int (b2i (fil R (P p) (rn R))), P, R))
def o_mean (P : Nat → Nat → Bool) (R : Nat → Bool) (x : Int32) : Oc := oR 0 0 6 x fun p => oB 3 (!decide (fb_ct (P p) 128 = 0)) (.inr (.double (FP.ddiv (FP.i2d (nI (hsF (P p) 128))) (FP.i2d (nI (fb_ct (P p) 128)))), P, R))
def o_share (P : Nat → Nat → Bool) (R : Nat → Bool) (x : Int32) : Oc := oR 0 0 6 x fun p => .inr (.float (bif decide (fb_ct (P p) 128 = 0) then FP.fconst0 else FP.fdiv (FP.i2f (nI (fb_ct (grS (P p)) 128))) (FP.i2f (nI (fb_ct (P p) 128)))), P, R)
def o_isSound (P : Nat → Nat → Bool) (R : Nat → Bool) (x : Int32) : Oc := oR 0 0 6 x fun p => .inr (.int (nI 1), P, R)
def o_isTrue (P : Nat → Nat → Bool) (R : Nat → Bool) (x : Int32) (y : Int32) (z : Int32) : Oc := oR 0 0 6 x fun p => oR 1 0 7 y fun c => oR 1 0 7 z fun d => .inr (.int (nI 1), P, R)
def o_faceIsTrue (P : Nat → Nat → Bool) (R : Nat → Bool) (x : Int32) (y : Int32) : Oc := oR 0 0 6 x fun p => oR 1 1 128 y fun i => oB 3 (P p i) (.inr (.int (nI 1), P, R))
def o_pairIsTrue (P : Nat → Nat → Bool) (R : Nat → Bool) (x : Int32) (y : Int32) : Oc := oR 0 0 6 x fun p => oR 0 0 6 y fun q => .inr (.int (nI 1), P, R)
def IvC (P : Nat → Nat → Bool) (R : Nat → Bool) : Prop := (∀ p, p < 6 → Shp (P p)) ∧ ∃ n, RowI R n
theorem setP_self (P : Nat → Nat → Bool) (p : Nat) : setP P p (P p) = P := by
  funext i
  by_cases h : i = p
  · subst h; exact setP_s P i _
  · exact setP_n P _ h
theorem setP_2 (P : Nat → Nat → Bool) (p : Nat) (s t : Nat → Bool) : setP (setP P p s) p t = setP P p t := by
  funext i
  by_cases h : i = p
  · subst h; rw [setP_s, setP_s]
  · rw [setP_n _ _ h, setP_n _ _ h, setP_n _ _ h]
set_option maxRecDepth 10000 in
/-- Holeworks.put -/
theorem kX6_put {S : Nat × (Nat → Int32)} {d : Nat} {Q : eQ} {b : Bool} {P : Nat → Nat → Bool} {R u v w : Nat → Bool} {kb : Nat → Nat} {f g e : Nat → Int32} {T : List va_E} {x : Int32} {y : Int32} (hQ : oQ (o_put P R x y) Q P R b T) : okCall S MT (d + 7) nX6_put [.ref 1, .int x, .int y] (b, wl P R u v w kb f g e T) Q := by
  refine okc (M := MX6_put) rfl rfl fun K hK hW => ?_
  show K 0 [(0, .ref 1), (1, .int x), (2, .int y)] [] (b, wl P R u v w kb f g e T) 0 0
  unfold o_put at hQ
  iterate 2 refine hK _ _ _ _ _ _ (?_ : K _ _ _ _ _ _)
  refine hK _ _ _ _ _ _ (r_callV rfl (fun _ => rfl) rfl (b0 rfl rfl rfl) (kX6_shapeAt (fun h9 => thrK rfl rfl (oq_n h9 hQ)) fun p hp hx h9 => (?_ : K _ _ _ _ _ _)))
  subst hx
  have hQ1 := oq_s h9 hQ
  iterate 2 refine hK _ _ _ _ _ _ (?_ : K _ _ _ _ _ _)
  refine hK _ _ _ _ _ _ (r_callS rfl (fun _ => rfl) (b0 rfl rfl rfl) (kX6_checkFace (fun h9 => thrK rfl rfl (oq_n h9 hQ1)) fun i hi1 hi hx h9 => (?_ : K _ _ _ _ _ _)))
  subst hx
  have hQ2 := oq_s h9 hQ1
  iterate 1 refine hK _ _ _ _ _ _ (?_ : K _ _ _ _ _ _)
  refine hK _ _ _ _ _ _ (r_callV rfl (fun _ => rfl) (wl_P hp) (b0 rfl rfl rfl) (kX1_count (wl_P hp) (?_ : K _ _ _ _ _ _)))
  iterate 3 refine hK _ _ _ _ _ _ (?_ : K _ _ _ _ _ _)
  refine hK _ _ _ _ _ _ (r_callV rfl (fun _ => rfl) (wl_P hp) (b0 rfl rfl rfl) (kX1_addParts hi hi1 (wl_P hp) (?_ : K _ _ _ _ _ _)))
  rw [wl_sP _ hp]
  iterate 1 refine hK _ _ _ _ _ _ (?_ : K _ _ _ _ _ _)
  refine hK _ _ _ _ _ _ (r_callV rfl (fun _ => rfl) (wl_P hp) (b0 rfl rfl rfl) (kX1_count (s := sPar (P p) i (i + 1)) (by rw [wl_P hp, setP_s]) (?_ : K _ _ _ _ _ _)))
  iterate 2 refine hK _ _ _ _ _ _ (?_ : K _ _ _ _ _ _)
  exact hK _ _ _ _ _ _ (r_iret rfl rfl rfl rfl (oi hQ2))

set_option maxRecDepth 10000 in
/-- Holeworks.take -/
theorem kX6_take {S : Nat × (Nat → Int32)} {d : Nat} {Q : eQ} {b : Bool} {P : Nat → Nat → Bool} {R u v w : Nat → Bool} {kb : Nat → Nat} {f g e : Nat → Int32} {T : List va_E} {x : Int32} {y : Int32} (hQ : oQ (o_take P R x y) Q P R b T) : okCall S MT (d + 7) nX6_take [.ref 1, .int x, .int y] (b, wl P R u v w kb f g e T) Q := by
  refine okc (M := MX6_take) rfl rfl fun K hK hW => ?_
  show K 0 [(0, .ref 1), (1, .int x), (2, .int y)] [] (b, wl P R u v w kb f g e T) 0 0
  unfold o_take at hQ
  iterate 2 refine hK _ _ _ _ _ _ (?_ : K _ _ _ _ _ _)
  refine hK _ _ _ _ _ _ (r_callV rfl (fun _ => rfl) rfl (b0 rfl rfl rfl) (kX6_shapeAt (fun h9 => thrK rfl rfl (oq_n h9 hQ)) fun p hp hx h9 => (?_ : K _ _ _ _ _ _)))
  subst hx
  have hQ1 := oq_s h9 hQ
  iterate 2 refine hK _ _ _ _ _ _ (?_ : K _ _ _ _ _ _)
  refine hK _ _ _ _ _ _ (r_callS rfl (fun _ => rfl) (b0 rfl rfl rfl) (kX6_checkFace (fun h9 => thrK rfl rfl (oq_n h9 hQ1)) fun i hi1 hi hx h9 => (?_ : K _ _ _ _ _ _)))
  subst hx
  have hQ2 := oq_s h9 hQ1
  iterate 2 refine hK _ _ _ _ _ _ (?_ : K _ _ _ _ _ _)
  refine hK _ _ _ _ _ _ (r_callS rfl (fun _ => rfl) (b0 rfl rfl rfl) (kX6_checkHeld hi (wl_P hp) (fun h9 => thrK rfl rfl (ob_f h9 hQ2)) fun hh => (?_ : K _ _ _ _ _ _)))
  have hQ3 := ob_t hh hQ2
  iterate 1 refine hK _ _ _ _ _ _ (?_ : K _ _ _ _ _ _)
  refine hK _ _ _ _ _ _ (r_callV rfl (fun _ => rfl) (wl_P hp) (b0 rfl rfl rfl) (kX1_count (wl_P hp) (?_ : K _ _ _ _ _ _)))
  iterate 3 refine hK _ _ _ _ _ _ (?_ : K _ _ _ _ _ _)
  refine hK _ _ _ _ _ _ (r_callV rfl (fun _ => rfl) (wl_P hp) (b0 rfl rfl rfl) (kX1_removeWithAllOver hi (wl_P hp) (?_ : K _ _ _ _ _ _)))
  rw [wl_sP _ hp]
  iterate 2 refine hK _ _ _ _ _ _ (?_ : K _ _ _ _ _ _)
  refine hK _ _ _ _ _ _ (r_callV rfl (fun _ => rfl) (wl_P hp) (b0 rfl rfl rfl) (kX1_count (s := sOvr (P p) i 128) (by rw [wl_P hp, setP_s]) (?_ : K _ _ _ _ _ _)))
  iterate 1 refine hK _ _ _ _ _ _ (?_ : K _ _ _ _ _ _)
  exact hK _ _ _ _ _ _ (r_iret rfl rfl rfl rfl (oi hQ3))

set_option maxRecDepth 10000 in
/-- Holeworks.clear -/
theorem kX6_clear {S : Nat × (Nat → Int32)} {d : Nat} {Q : eQ} {b : Bool} {P : Nat → Nat → Bool} {R u v w : Nat → Bool} {kb : Nat → Nat} {f g e : Nat → Int32} {T : List va_E} {x : Int32} (hQ : oQ (o_clear P R x) Q P R b T) : okCall S MT (d + 7) nX6_clear [.ref 1, .int x] (b, wl P R u v w kb f g e T) Q := by
  refine okc (M := MX6_clear) rfl rfl fun K hK hW => ?_
  show K 0 [(0, .ref 1), (1, .int x)] [] (b, wl P R u v w kb f g e T) 0 0
  unfold o_clear at hQ
  iterate 2 refine hK _ _ _ _ _ _ (?_ : K _ _ _ _ _ _)
  refine hK _ _ _ _ _ _ (r_callV rfl (fun _ => rfl) rfl (b0 rfl rfl rfl) (kX6_shapeAt (fun h9 => thrK rfl rfl (oq_n h9 hQ)) fun p hp hx h9 => (?_ : K _ _ _ _ _ _)))
  subst hx
  have hQ1 := oq_s h9 hQ
  refine hK _ _ _ _ _ _ (r_callS rfl (fun _ => rfl) (b0 rfl rfl rfl) (kX6_emptied (wl_P hp) (?_ : K _ _ _ _ _ _)))
  rw [wl_sP _ hp]
  exact hK _ _ _ _ _ _ (r_iret rfl rfl rfl rfl (oi hQ1))

theorem wl_eq {P P2 : Nat → Nat → Bool} {R u v w : Nat → Bool} {kb : Nat → Nat} {f g e : Nat → Int32} {T : List va_E} {Q : eQ} {o : eO} {b : Bool} (h : P = P2) (hq : Q o (b, wl P R u v w kb f g e T)) : Q o (b, wl P2 R u v w kb f g e T) := h ▸ hq
theorem kX6_become {S : Nat × (Nat → Int32)} {d : Nat} {Q : eQ} {b : Bool} {P : Nat → Nat → Bool} {R u v w : Nat → Bool} {kb : Nat → Nat} {f g e : Nat → Int32} {T : List va_E} {p t : Nat} (hp : p < 6) (ht : t < 6) (hQ : Q (.inl none) (b, wl (setP P t (P p)) R u v w kb f g e T)) : okCall S MT (d + 1) nX1_become [.ref (2 + t + 1), .ref (2 + p + 1)] (b, wl P R u v w kb f g e T) Q := by
  by_cases e : t = p
  · subst e
    rw [setP_self] at hQ
    exact kX1_become_self (wl_P hp) hQ
  · refine kX1_become (by omega) (wl_P ht) (wl_P hp) ?_
    show Q _ (b, (wl P R u v w kb f g _ T).set (2 + t) (fsS (P p)))
    rw [wl_sP _ ht]; exact hQ
set_option maxRecDepth 10000 in
/-- Holeworks.copy -/
theorem kX6_copy {S : Nat × (Nat → Int32)} {d : Nat} {Q : eQ} {b : Bool} {P : Nat → Nat → Bool} {R u v w : Nat → Bool} {kb : Nat → Nat} {f g e : Nat → Int32} {T : List va_E} {x : Int32} {y : Int32} (hQ : oQ (o_copy P R x y) Q P R b T) : okCall S MT (d + 7) nX6_copy [.ref 1, .int x, .int y] (b, wl P R u v w kb f g e T) Q := by
  refine okc (M := MX6_copy) rfl rfl fun K hK hW => ?_
  show K 0 [(0, .ref 1), (1, .int x), (2, .int y)] [] (b, wl P R u v w kb f g e T) 0 0
  unfold o_copy at hQ
  iterate 2 refine hK _ _ _ _ _ _ (?_ : K _ _ _ _ _ _)
  refine hK _ _ _ _ _ _ (r_callV rfl (fun _ => rfl) rfl (b0 rfl rfl rfl) (kX6_shapeAt (fun h9 => thrK rfl rfl (oq_n h9 hQ)) fun p hp hx h9 => (?_ : K _ _ _ _ _ _)))
  subst hx
  have hQ1 := oq_s h9 hQ
  iterate 3 refine hK _ _ _ _ _ _ (?_ : K _ _ _ _ _ _)
  refine hK _ _ _ _ _ _ (r_callV rfl (fun _ => rfl) rfl (b0 rfl rfl rfl) (kX6_shapeAt (fun h9 => thrK rfl rfl (oq_n h9 hQ1)) fun t ht hx h9 => (?_ : K _ _ _ _ _ _)))
  subst hx
  have hQ2 := oq_s h9 hQ1
  iterate 3 refine hK _ _ _ _ _ _ (?_ : K _ _ _ _ _ _)
  refine hK _ _ _ _ _ _ (r_callV rfl (fun _ => rfl) (wl_P ht) (b0 rfl rfl rfl) (kX6_become hp ht (?_ : K _ _ _ _ _ _)))
  iterate 1 refine hK _ _ _ _ _ _ (?_ : K _ _ _ _ _ _)
  refine hK _ _ _ _ _ _ (r_callV rfl (fun _ => rfl) (wl_P ht) (b0 rfl rfl rfl) (kX1_count (s := P p) (by rw [wl_P ht, setP_s]) (?_ : K _ _ _ _ _ _)))
  exact hK _ _ _ _ _ _ (r_iret rfl rfl rfl rfl (oi hQ2))

set_option maxRecDepth 10000 in
/-- Holeworks.unite -/
theorem kX6_unite {S : Nat × (Nat → Int32)} {d : Nat} {Q : eQ} {b : Bool} {P : Nat → Nat → Bool} {R u v w : Nat → Bool} {kb : Nat → Nat} {f g e : Nat → Int32} {T : List va_E} {x : Int32} {y : Int32} {z : Int32} (hQ : oQ (o_unite P R x y z) Q P R b T) : okCall S MT (d + 7) nX6_unite [.ref 1, .int x, .int y, .int z] (b, wl P R u v w kb f g e T) Q := by
  refine okc (M := MX6_unite) rfl rfl fun K hK hW => ?_
  show K 0 [(0, .ref 1), (1, .int x), (2, .int y), (3, .int z)] [] (b, wl P R u v w kb f g e T) 0 0
  unfold o_unite at hQ
  iterate 2 refine hK _ _ _ _ _ _ (?_ : K _ _ _ _ _ _)
  refine hK _ _ _ _ _ _ (r_callV rfl (fun _ => rfl) rfl (b0 rfl rfl rfl) (kX6_shapeAt (fun h9 => thrK rfl rfl (oq_n h9 hQ)) fun p hp hx h9 => (?_ : K _ _ _ _ _ _)))
  subst hx
  have hQ1 := oq_s h9 hQ
  iterate 3 refine hK _ _ _ _ _ _ (?_ : K _ _ _ _ _ _)
  refine hK _ _ _ _ _ _ (r_callV rfl (fun _ => rfl) rfl (b0 rfl rfl rfl) (kX6_shapeAt (fun h9 => thrK rfl rfl (oq_n h9 hQ1)) fun q hq hx h9 => (?_ : K _ _ _ _ _ _)))
  subst hx
  have hQ2 := oq_s h9 hQ1
  iterate 3 refine hK _ _ _ _ _ _ (?_ : K _ _ _ _ _ _)
  refine hK _ _ _ _ _ _ (r_callV rfl (fun _ => rfl) rfl (b0 rfl rfl rfl) (kX6_shapeAt (fun h9 => thrK rfl rfl (oq_n h9 hQ2)) fun t ht hx h9 => (?_ : K _ _ _ _ _ _)))
  subst hx
  have hQ3 := oq_s h9 hQ2
  iterate 2 refine hK _ _ _ _ _ _ (?_ : K _ _ _ _ _ _)
  refine hK _ _ _ _ _ _ (r_get rfl rfl rfl (?_ : K _ _ _ _ _ _))
  iterate 2 refine hK _ _ _ _ _ _ (?_ : K _ _ _ _ _ _)
  refine hK _ _ _ _ _ _ (r_callV rfl (fun _ => rfl) rfl (b0 rfl rfl rfl) (kX1_becomeUnion (k := 9) (by omega) (by omega) rfl (wl_P hp) (wl_P hq) (?_ : K _ _ _ _ _ _)))
  show K _ _ _ (b, wl P R (fun i => P p i || P q i) v w kb f g e T) _ _
  iterate 2 refine hK _ _ _ _ _ _ (?_ : K _ _ _ _ _ _)
  refine hK _ _ _ _ _ _ (r_callV rfl (fun _ => rfl) rfl (b0 rfl rfl rfl) (kX6_giveMade (s := P t) (t := (fun i => P p i || P q i)) rfl (by omega) (wl_P ht) rfl (?_ : K _ _ _ _ _ _)))
  rw [wl_sP _ ht]
  exact hK _ _ _ _ _ _ (r_iret rfl rfl rfl rfl (oi hQ3))

set_option maxRecDepth 10000 in
/-- Holeworks.meet -/
theorem kX6_meet {S : Nat × (Nat → Int32)} {d : Nat} {Q : eQ} {b : Bool} {P : Nat → Nat → Bool} {R u v w : Nat → Bool} {kb : Nat → Nat} {f g e : Nat → Int32} {T : List va_E} {x : Int32} {y : Int32} {z : Int32} (hQ : oQ (o_meet P R x y z) Q P R b T) : okCall S MT (d + 7) nX6_meet [.ref 1, .int x, .int y, .int z] (b, wl P R u v w kb f g e T) Q := by
  refine okc (M := MX6_meet) rfl rfl fun K hK hW => ?_
  show K 0 [(0, .ref 1), (1, .int x), (2, .int y), (3, .int z)] [] (b, wl P R u v w kb f g e T) 0 0
  unfold o_meet at hQ
  iterate 2 refine hK _ _ _ _ _ _ (?_ : K _ _ _ _ _ _)
  refine hK _ _ _ _ _ _ (r_callV rfl (fun _ => rfl) rfl (b0 rfl rfl rfl) (kX6_shapeAt (fun h9 => thrK rfl rfl (oq_n h9 hQ)) fun p hp hx h9 => (?_ : K _ _ _ _ _ _)))
  subst hx
  have hQ1 := oq_s h9 hQ
  iterate 3 refine hK _ _ _ _ _ _ (?_ : K _ _ _ _ _ _)
  refine hK _ _ _ _ _ _ (r_callV rfl (fun _ => rfl) rfl (b0 rfl rfl rfl) (kX6_shapeAt (fun h9 => thrK rfl rfl (oq_n h9 hQ1)) fun q hq hx h9 => (?_ : K _ _ _ _ _ _)))
  subst hx
  have hQ2 := oq_s h9 hQ1
  iterate 3 refine hK _ _ _ _ _ _ (?_ : K _ _ _ _ _ _)
  refine hK _ _ _ _ _ _ (r_callV rfl (fun _ => rfl) rfl (b0 rfl rfl rfl) (kX6_shapeAt (fun h9 => thrK rfl rfl (oq_n h9 hQ2)) fun t ht hx h9 => (?_ : K _ _ _ _ _ _)))
  subst hx
  have hQ3 := oq_s h9 hQ2
  iterate 2 refine hK _ _ _ _ _ _ (?_ : K _ _ _ _ _ _)
  refine hK _ _ _ _ _ _ (r_get rfl rfl rfl (?_ : K _ _ _ _ _ _))
  iterate 2 refine hK _ _ _ _ _ _ (?_ : K _ _ _ _ _ _)
  refine hK _ _ _ _ _ _ (r_callV rfl (fun _ => rfl) rfl (b0 rfl rfl rfl) (kX1_becomeMeeting (k := 9) (by omega) (by omega) rfl (wl_P hp) (wl_P hq) (?_ : K _ _ _ _ _ _)))
  show K _ _ _ (b, wl P R (fun i => P p i && P q i) v w kb f g e T) _ _
  iterate 2 refine hK _ _ _ _ _ _ (?_ : K _ _ _ _ _ _)
  refine hK _ _ _ _ _ _ (r_callV rfl (fun _ => rfl) rfl (b0 rfl rfl rfl) (kX6_giveMade (s := P t) (t := (fun i => P p i && P q i)) rfl (by omega) (wl_P ht) rfl (?_ : K _ _ _ _ _ _)))
  rw [wl_sP _ ht]
  exact hK _ _ _ _ _ _ (r_iret rfl rfl rfl rfl (oi hQ3))

set_option maxRecDepth 10000 in
/-- Holeworks.full -/
theorem kX6_full {S : Nat × (Nat → Int32)} {d : Nat} {Q : eQ} {b : Bool} {P : Nat → Nat → Bool} {R u v w : Nat → Bool} {kb : Nat → Nat} {f g e : Nat → Int32} {T : List va_E} {x : Int32} {r : Bool} {z : Int32} (hQ : oQ (o_full P R x r z) Q P R b T) : okCall S MT (d + 7) nX6_full [.ref 1, .int x, .int (b2i r), .int z] (b, wl P R u v w kb f g e T) Q := by
  refine okc (M := MX6_full) rfl rfl fun K hK hW => ?_
  show K 0 [(0, .ref 1), (1, .int x), (2, .int (b2i r)), (3, .int z)] [] (b, wl P R u v w kb f g e T) 0 0
  unfold o_full at hQ
  iterate 2 refine hK _ _ _ _ _ _ (?_ : K _ _ _ _ _ _)
  refine hK _ _ _ _ _ _ (r_callV rfl (fun _ => rfl) rfl (b0 rfl rfl rfl) (kX6_shapeAt (fun h9 => thrK rfl rfl (oq_n h9 hQ)) fun t ht hx h9 => (?_ : K _ _ _ _ _ _)))
  subst hx
  have hQ1 := oq_s h9 hQ
  iterate 2 refine hK _ _ _ _ _ _ (?_ : K _ _ _ _ _ _)
  refine hK _ _ _ _ _ _ (r_callS rfl (fun _ => rfl) (b0 rfl rfl rfl) (kX6_checkFace (fun h9 => thrK rfl rfl (oq_n h9 hQ1)) fun i hi1 hi hx h9 => (?_ : K _ _ _ _ _ _)))
  subst hx
  have hQ2 := oq_s h9 hQ1
  iterate 1 refine hK _ _ _ _ _ _ (?_ : K _ _ _ _ _ _)
  refine hK _ _ _ _ _ _ (r_callV rfl (fun _ => rfl) (wl_P ht) (b0 rfl rfl rfl) (kX1_empty (wl_P ht) (?_ : K _ _ _ _ _ _)))
  rw [wl_sP _ ht]
  iterate 2 refine hK _ _ _ _ _ _ (?_ : K _ _ _ _ _ _)
  refine hK _ _ _ _ _ _ (r_callV rfl (fun _ => rfl) (wl_P ht) (b0 rfl rfl rfl) (kX1_addParts (s := no9) hi hi1 (by rw [wl_P ht, setP_s]) (?_ : K _ _ _ _ _ _)))
  rw [wl_sP _ ht, setP_2]
  iterate 1 refine hK _ _ _ _ _ _ (?_ : K _ _ _ _ _ _)
  refine hK _ _ _ _ _ _ (And.intro (fun c1 => ?_) (fun c1 => ?_))
  · skip
    have er := b2i_0.mp c1
    subst er
    iterate 1 refine hK _ _ _ _ _ _ (?_ : K _ _ _ _ _ _)
    refine hK _ _ _ _ _ _ (r_callV rfl (fun _ => rfl) (wl_P ht) (b0 rfl rfl rfl) (kX1_count (s := fuS i false) (by rw [wl_P ht, setP_s]; rfl) (?_ : K _ _ _ _ _ _)))
    exact hK _ _ _ _ _ _ (r_iret rfl rfl rfl rfl (oi hQ2))
  · skip
    have er : r = true := Bool.of_not_eq_false fun c => c1 (b2i_0.mpr c)
    subst er
    iterate 2 refine hK _ _ _ _ _ _ (?_ : K _ _ _ _ _ _)
    refine hK _ _ _ _ _ _ (r_callV rfl (fun _ => rfl) (wl_P ht) (b0 rfl rfl rfl) (kX1_remove (s := sPar no9 i (i + 1)) hi (by rw [wl_P ht, setP_s]) (?_ : K _ _ _ _ _ _)))
    rw [wl_sP _ ht, setP_2]
    iterate 1 refine hK _ _ _ _ _ _ (?_ : K _ _ _ _ _ _)
    refine hK _ _ _ _ _ _ (r_callV rfl (fun _ => rfl) (wl_P ht) (b0 rfl rfl rfl) (kX1_count (s := fuS i true) (by rw [wl_P ht, setP_s]; rfl) (?_ : K _ _ _ _ _ _)))
    exact hK _ _ _ _ _ _ (r_iret rfl rfl rfl rfl (oi hQ2))

set_option maxRecDepth 10000 in
/-- Holeworks.low -/
theorem kX6_low {S : Nat × (Nat → Int32)} {d : Nat} {Q : eQ} {b : Bool} {P : Nat → Nat → Bool} {R u v w : Nat → Bool} {kb : Nat → Nat} {f g e : Nat → Int32} {T : List va_E} {x : Int32} {y : Int32} {z : Int32} (hQ : oQ (o_low P R x y z) Q P R b T) : okCall S MT (d + 7) nX6_low [.ref 1, .int x, .int y, .int z] (b, wl P R u v w kb f g e T) Q := by
  refine okc (M := MX6_low) rfl rfl fun K hK hW => ?_
  show K 0 [(0, .ref 1), (1, .int x), (2, .int y), (3, .int z)] [] (b, wl P R u v w kb f g e T) 0 0
  unfold o_low at hQ
  iterate 2 refine hK _ _ _ _ _ _ (?_ : K _ _ _ _ _ _)
  refine hK _ _ _ _ _ _ (r_callV rfl (fun _ => rfl) rfl (b0 rfl rfl rfl) (kX6_shapeAt (fun h9 => thrK rfl rfl (oq_n h9 hQ)) fun p hp hx h9 => (?_ : K _ _ _ _ _ _)))
  subst hx
  have hQ1 := oq_s h9 hQ
  iterate 3 refine hK _ _ _ _ _ _ (?_ : K _ _ _ _ _ _)
  refine hK _ _ _ _ _ _ (r_callV rfl (fun _ => rfl) rfl (b0 rfl rfl rfl) (kX6_shapeAt (fun h9 => thrK rfl rfl (oq_n h9 hQ1)) fun t ht hx h9 => (?_ : K _ _ _ _ _ _)))
  subst hx
  have hQ2 := oq_s h9 hQ1
  iterate 3 refine hK _ _ _ _ _ _ (?_ : K _ _ _ _ _ _)
  refine hK _ _ _ _ _ _ (r_callS rfl (fun _ => rfl) (b0 rfl rfl rfl) (kX6_checkHeight (l := 0) (by decide) (fun h9 => thrK rfl rfl (oq_n h9 hQ2)) fun k hk0 hk hx h9 => (?_ : K _ _ _ _ _ _)))
  subst hx
  have hQ3 := oq_s h9 hQ2
  iterate 3 refine hK _ _ _ _ _ _ (?_ : K _ _ _ _ _ _)
  refine hK _ _ _ _ _ _ (r_get rfl rfl rfl (?_ : K _ _ _ _ _ _))
  refine hK _ _ _ _ _ _ (r_callS rfl (fun _ => rfl) (b0 rfl rfl rfl) (kX3_makeLow (q := 2 + p) (m := 9) (by omega) (wl_P hp) rfl (by omega) (?_ : K _ _ _ _ _ _)))
  show K _ _ _ (b, wl P R (loS (P p) k) v w kb f g e T) _ _
  iterate 2 refine hK _ _ _ _ _ _ (?_ : K _ _ _ _ _ _)
  refine hK _ _ _ _ _ _ (r_callV rfl (fun _ => rfl) rfl (b0 rfl rfl rfl) (kX6_giveMade (s := P t) (t := loS (P p) k) rfl (by omega) (wl_P ht) rfl (?_ : K _ _ _ _ _ _)))
  rw [wl_sP _ ht]
  exact hK _ _ _ _ _ _ (r_iret rfl rfl rfl rfl (oi hQ3))

set_option maxRecDepth 10000 in
/-- Holeworks.about -/
theorem kX6_about {S : Nat × (Nat → Int32)} {d : Nat} {Q : eQ} {b : Bool} {P : Nat → Nat → Bool} {R u v w : Nat → Bool} {kb : Nat → Nat} {f g e : Nat → Int32} {T : List va_E} {x : Int32} {y : Int32} {r : Bool} {z : Int32} (hQ : oQ (o_about P R x y r z) Q P R b T) : okCall S MT (d + 7) nX6_about [.ref 1, .int x, .int y, .int (b2i r), .int z] (b, wl P R u v w kb f g e T) Q := by
  refine okc (M := MX6_about) rfl rfl fun K hK hW => ?_
  show K 0 [(0, .ref 1), (1, .int x), (2, .int y), (3, .int (b2i r)), (4, .int z)] [] (b, wl P R u v w kb f g e T) 0 0
  unfold o_about at hQ
  iterate 2 refine hK _ _ _ _ _ _ (?_ : K _ _ _ _ _ _)
  refine hK _ _ _ _ _ _ (r_callV rfl (fun _ => rfl) rfl (b0 rfl rfl rfl) (kX6_shapeAt (fun h9 => thrK rfl rfl (oq_n h9 hQ)) fun p hp hx h9 => (?_ : K _ _ _ _ _ _)))
  subst hx
  have hQ1 := oq_s h9 hQ
  iterate 3 refine hK _ _ _ _ _ _ (?_ : K _ _ _ _ _ _)
  refine hK _ _ _ _ _ _ (r_callV rfl (fun _ => rfl) rfl (b0 rfl rfl rfl) (kX6_shapeAt (fun h9 => thrK rfl rfl (oq_n h9 hQ1)) fun t ht hx h9 => (?_ : K _ _ _ _ _ _)))
  subst hx
  have hQ2 := oq_s h9 hQ1
  iterate 2 refine hK _ _ _ _ _ _ (?_ : K _ _ _ _ _ _)
  refine hK _ _ _ _ _ _ (r_callS rfl (fun _ => rfl) (b0 rfl rfl rfl) (kX6_checkFace (fun h9 => thrK rfl rfl (oq_n h9 hQ2)) fun i hi1 hi hx h9 => (?_ : K _ _ _ _ _ _)))
  subst hx
  have hQ3 := oq_s h9 hQ2
  iterate 2 refine hK _ _ _ _ _ _ (?_ : K _ _ _ _ _ _)
  refine hK _ _ _ _ _ _ (r_callS rfl (fun _ => rfl) (b0 rfl rfl rfl) (kX6_checkHeld hi (wl_P hp) (fun h9 => thrK rfl rfl (ob_f h9 hQ3)) fun hh => (?_ : K _ _ _ _ _ _)))
  have hQ4 := ob_t hh hQ3
  iterate 4 refine hK _ _ _ _ _ _ (?_ : K _ _ _ _ _ _)
  refine hK _ _ _ _ _ _ (r_get rfl rfl rfl (?_ : K _ _ _ _ _ _))
  refine hK _ _ _ _ _ _ (r_callS rfl (fun _ => rfl) (b0 rfl rfl rfl) (kX3_makeAbout (q := 2 + p) (m := 9) (c := i) (b := r) (by omega) (wl_P hp) rfl hi (?_ : K _ _ _ _ _ _)))
  show K _ _ _ (b, wl P R (abS (P p) i r) v w kb f g e T) _ _
  iterate 2 refine hK _ _ _ _ _ _ (?_ : K _ _ _ _ _ _)
  refine hK _ _ _ _ _ _ (r_callV rfl (fun _ => rfl) rfl (b0 rfl rfl rfl) (kX6_giveMade (s := P t) (t := abS (P p) i r) rfl (by omega) (wl_P ht) rfl (?_ : K _ _ _ _ _ _)))
  rw [wl_sP _ ht]
  exact hK _ _ _ _ _ _ (r_iret rfl rfl rfl rfl (oi hQ4))

set_option maxRecDepth 10000 in
/-- Holeworks.cone -/
theorem kX6_cone {S : Nat × (Nat → Int32)} {d : Nat} {Q : eQ} {b : Bool} {P : Nat → Nat → Bool} {R u v w : Nat → Bool} {kb : Nat → Nat} {f g e : Nat → Int32} {T : List va_E} {x : Int32} {y : Int32} {z : Int32} (hQ : oQ (o_cone P R x y z) Q P R b T) : okCall S MT (d + 7) nX6_cone [.ref 1, .int x, .int y, .int z] (b, wl P R u v w kb f g e T) Q := by
  refine okc (M := MX6_cone) rfl rfl fun K hK hW => ?_
  show K 0 [(0, .ref 1), (1, .int x), (2, .int y), (3, .int z)] [] (b, wl P R u v w kb f g e T) 0 0
  unfold o_cone at hQ
  iterate 2 refine hK _ _ _ _ _ _ (?_ : K _ _ _ _ _ _)
  refine hK _ _ _ _ _ _ (r_callV rfl (fun _ => rfl) rfl (b0 rfl rfl rfl) (kX6_shapeAt (fun h9 => thrK rfl rfl (oq_n h9 hQ)) fun p hp hx h9 => (?_ : K _ _ _ _ _ _)))
  subst hx
  have hQ1 := oq_s h9 hQ
  iterate 3 refine hK _ _ _ _ _ _ (?_ : K _ _ _ _ _ _)
  refine hK _ _ _ _ _ _ (r_callV rfl (fun _ => rfl) rfl (b0 rfl rfl rfl) (kX6_shapeAt (fun h9 => thrK rfl rfl (oq_n h9 hQ1)) fun t ht hx h9 => (?_ : K _ _ _ _ _ _)))
  subst hx
  have hQ2 := oq_s h9 hQ1
  iterate 2 refine hK _ _ _ _ _ _ (?_ : K _ _ _ _ _ _)
  refine hK _ _ _ _ _ _ (r_callS rfl (fun _ => rfl) (b0 rfl rfl rfl) (kX6_checkCorner (fun h9 => thrK rfl rfl (oq_n h9 hQ2)) fun c hc hx h9 => (?_ : K _ _ _ _ _ _)))
  subst hx
  have hQ3 := oq_s h9 hQ2
  iterate 2 refine hK _ _ _ _ _ _ (?_ : K _ _ _ _ _ _)
  refine hK _ _ _ _ _ _ (r_callS rfl (fun _ => rfl) (b0 rfl rfl rfl) (kX6_checkNew hc (wl_P hp) (fun h9 => thrK rfl rfl (ob_f (by rw [h9]; rfl) hQ3)) fun hh => (?_ : K _ _ _ _ _ _)))
  have hQ4 := ob_t (by rw [hh]; rfl) hQ3
  iterate 5 refine hK _ _ _ _ _ _ (?_ : K _ _ _ _ _ _)
  refine hK _ _ _ _ _ _ (r_get rfl rfl rfl (?_ : K _ _ _ _ _ _))
  refine hK _ _ _ _ _ _ (r_callS rfl (fun _ => rfl) (b0 rfl rfl rfl) (okW (by rw [sh1 c hc]) (kX3_makeCone (q := 2 + p) (m := 9) (by omega) (wl_P hp) rfl (pw_128 c hc) (?_ : K _ _ _ _ _ _))))
  show K _ _ _ (b, wl P R (coneS (P p) (2 ^ c)) v w kb f g e T) _ _
  iterate 2 refine hK _ _ _ _ _ _ (?_ : K _ _ _ _ _ _)
  refine hK _ _ _ _ _ _ (r_callV rfl (fun _ => rfl) rfl (b0 rfl rfl rfl) (kX6_giveMade (s := P t) (t := coneS (P p) (2 ^ c)) rfl (by omega) (wl_P ht) rfl (?_ : K _ _ _ _ _ _)))
  rw [wl_sP _ ht]
  exact hK _ _ _ _ _ _ (r_iret rfl rfl rfl rfl (oi hQ4))

set_option maxRecDepth 10000 in
/-- Holeworks.lift -/
theorem kX6_lift {S : Nat × (Nat → Int32)} {d : Nat} {Q : eQ} {b : Bool} {P : Nat → Nat → Bool} {R u v w : Nat → Bool} {kb : Nat → Nat} {f g e : Nat → Int32} {T : List va_E} {x : Int32} {y : Int32} {z : Int32} {s : Int32} (hQ : oQ (o_lift P R x y z s) Q P R b T) : okCall S MT (d + 7) nX6_lift [.ref 1, .int x, .int y, .int z, .int s] (b, wl P R u v w kb f g e T) Q := by
  refine okc (M := MX6_lift) rfl rfl fun K hK hW => ?_
  show K 0 [(0, .ref 1), (1, .int x), (2, .int y), (3, .int z), (4, .int s)] [] (b, wl P R u v w kb f g e T) 0 0
  unfold o_lift at hQ
  iterate 2 refine hK _ _ _ _ _ _ (?_ : K _ _ _ _ _ _)
  refine hK _ _ _ _ _ _ (r_callV rfl (fun _ => rfl) rfl (b0 rfl rfl rfl) (kX6_shapeAt (fun h9 => thrK rfl rfl (oq_n h9 hQ)) fun p hp hx h9 => (?_ : K _ _ _ _ _ _)))
  subst hx
  have hQ1 := oq_s h9 hQ
  iterate 3 refine hK _ _ _ _ _ _ (?_ : K _ _ _ _ _ _)
  refine hK _ _ _ _ _ _ (r_callV rfl (fun _ => rfl) rfl (b0 rfl rfl rfl) (kX6_shapeAt (fun h9 => thrK rfl rfl (oq_n h9 hQ1)) fun t ht hx h9 => (?_ : K _ _ _ _ _ _)))
  subst hx
  have hQ2 := oq_s h9 hQ1
  iterate 2 refine hK _ _ _ _ _ _ (?_ : K _ _ _ _ _ _)
  refine hK _ _ _ _ _ _ (r_callS rfl (fun _ => rfl) (b0 rfl rfl rfl) (kX6_checkCorner (fun h9 => thrK rfl rfl (oq_n h9 hQ2)) fun c hc hx h9 => (?_ : K _ _ _ _ _ _)))
  subst hx
  have hQ3 := oq_s h9 hQ2
  iterate 1 refine hK _ _ _ _ _ _ (?_ : K _ _ _ _ _ _)
  refine hK _ _ _ _ _ _ (r_callS rfl (fun _ => rfl) (b0 rfl rfl rfl) (kX6_checkCorner (fun h9 => thrK rfl rfl (oq_n h9 hQ3)) fun d hd hx h9 => (?_ : K _ _ _ _ _ _)))
  subst hx
  have hQ4 := oq_s h9 hQ3
  iterate 2 refine hK _ _ _ _ _ _ (?_ : K _ _ _ _ _ _)
  refine hK _ _ _ _ _ _ (And.intro (fun c1 => ?_) (fun c1 => ?_))
  · skip
    have hcd : c = d := (nI_eq (by omega) (by omega)).mp c1
    subst hcd
    exact hK _ _ _ _ _ _ (r_thr rfl (by omega) rfl rfl rfl rfl (ob_f (by rw [beq_self_eq_true]; rfl) hQ4))
  · skip
    have hcd : c ≠ d := fun c9 => c1 (by rw [c9])
    have hQ5 := ob_t (by rw [beq_eq_false_iff_ne.mpr hcd]; rfl) hQ4
    iterate 2 refine hK _ _ _ _ _ _ (?_ : K _ _ _ _ _ _)
    refine hK _ _ _ _ _ _ (r_callS rfl (fun _ => rfl) (b0 rfl rfl rfl) (kX6_checkNew hc (wl_P hp) (fun h9 => thrK rfl rfl (ob_f (by rw [h9]; rfl) hQ5)) fun hh => (?_ : K _ _ _ _ _ _)))
    have hQ6 := ob_t (by rw [hh]; rfl) hQ5
    iterate 2 refine hK _ _ _ _ _ _ (?_ : K _ _ _ _ _ _)
    refine hK _ _ _ _ _ _ (r_callS rfl (fun _ => rfl) (b0 rfl rfl rfl) (kX6_checkNew hd (wl_P hp) (fun h9 => thrK rfl rfl (ob_f (by rw [h9]; rfl) hQ6)) fun hh2 => (?_ : K _ _ _ _ _ _)))
    have hQ7 := ob_t (by rw [hh2]; rfl) hQ6
    iterate 8 refine hK _ _ _ _ _ _ (?_ : K _ _ _ _ _ _)
    refine hK _ _ _ _ _ _ (r_get rfl rfl rfl (?_ : K _ _ _ _ _ _))
    refine hK _ _ _ _ _ _ (r_callS rfl (fun _ => rfl) (b0 rfl rfl rfl) (okW (by rw [sh1 c hc, sh1 d hd]) (kX3_makeLift (q := 2 + p) (m := 9) (by omega) (wl_P hp) rfl (pw_128 c hc) (pw_128 d hd) (?_ : K _ _ _ _ _ _))))
    show K _ _ _ (b, wl P R (liftS (P p) (2 ^ c) (2 ^ d)) v w kb f g e T) _ _
    iterate 2 refine hK _ _ _ _ _ _ (?_ : K _ _ _ _ _ _)
    refine hK _ _ _ _ _ _ (r_callV rfl (fun _ => rfl) rfl (b0 rfl rfl rfl) (kX6_giveMade (s := P t) (t := liftS (P p) (2 ^ c) (2 ^ d)) rfl (by omega) (wl_P ht) rfl (?_ : K _ _ _ _ _ _)))
    rw [wl_sP _ ht]
    exact hK _ _ _ _ _ _ (r_iret rfl rfl rfl rfl (oi hQ7))

set_option maxRecDepth 10000 in
/-- Holeworks.other -/
theorem kX6_other {S : Nat × (Nat → Int32)} {d : Nat} {Q : eQ} {b : Bool} {P : Nat → Nat → Bool} {R u v w : Nat → Bool} {kb : Nat → Nat} {f g e : Nat → Int32} {T : List va_E} {x : Int32} {y : Int32} {z : Int32} (hQ : oQ (o_other P R x y z) Q P R b T) : okCall S MT (d + 7) nX6_other [.ref 1, .int x, .int y, .int z] (b, wl P R u v w kb f g e T) Q := by
  refine okc (M := MX6_other) rfl rfl fun K hK hW => ?_
  show K 0 [(0, .ref 1), (1, .int x), (2, .int y), (3, .int z)] [] (b, wl P R u v w kb f g e T) 0 0
  unfold o_other at hQ
  iterate 2 refine hK _ _ _ _ _ _ (?_ : K _ _ _ _ _ _)
  refine hK _ _ _ _ _ _ (r_callV rfl (fun _ => rfl) rfl (b0 rfl rfl rfl) (kX6_shapeAt (fun h9 => thrK rfl rfl (oq_n h9 hQ)) fun p hp hx h9 => (?_ : K _ _ _ _ _ _)))
  subst hx
  have hQ1 := oq_s h9 hQ
  iterate 3 refine hK _ _ _ _ _ _ (?_ : K _ _ _ _ _ _)
  refine hK _ _ _ _ _ _ (r_callV rfl (fun _ => rfl) rfl (b0 rfl rfl rfl) (kX6_shapeAt (fun h9 => thrK rfl rfl (oq_n h9 hQ1)) fun t ht hx h9 => (?_ : K _ _ _ _ _ _)))
  subst hx
  have hQ2 := oq_s h9 hQ1
  iterate 2 refine hK _ _ _ _ _ _ (?_ : K _ _ _ _ _ _)
  refine hK _ _ _ _ _ _ (r_callS rfl (fun _ => rfl) (b0 rfl rfl rfl) (kX6_checkFace (fun h9 => thrK rfl rfl (oq_n h9 hQ2)) fun i hi1 hi hx h9 => (?_ : K _ _ _ _ _ _)))
  subst hx
  have hQ3 := oq_s h9 hQ2
  iterate 1 refine hK _ _ _ _ _ _ (?_ : K _ _ _ _ _ _)
  refine hK _ _ _ _ _ _ (r_callV rfl (fun _ => rfl) (wl_P hp) (b0 rfl rfl rfl) (kX1_cornerSet (wl_P hp) (?_ : K _ _ _ _ _ _)))
  iterate 4 refine hK _ _ _ _ _ _ (?_ : K _ _ _ _ _ _)
  refine hK _ _ _ _ _ _ (And.intro (fun c1 => ?_) (fun c1 => ?_))
  · skip
    have hh : bic (orF (P p) 128) i = 0 := by
      rw [nI_bic _ (orF_lt _ 128 (Nat.le_refl _)) _ hi] at c1
      exact (nI_z (Nat.lt_trans (bic_lt (orF_lt _ 128 (Nat.le_refl _))) (by decide))).mp c1
    have hQ4 := ob_t (by rw [hh]; rfl) hQ3
    iterate 3 refine hK _ _ _ _ _ _ (?_ : K _ _ _ _ _ _)
    refine hK _ _ _ _ _ _ (r_get rfl rfl rfl (?_ : K _ _ _ _ _ _))
    refine hK _ _ _ _ _ _ (r_callS rfl (fun _ => rfl) (b0 rfl rfl rfl) (kX3_makeOther (q := 2 + p) (m := 9) (c := i) (by omega) (wl_P hp) rfl hi1 hi (?_ : K _ _ _ _ _ _)))
    show K _ _ _ (b, wl P R (otS (P p) i) v w kb f g e T) _ _
    iterate 2 refine hK _ _ _ _ _ _ (?_ : K _ _ _ _ _ _)
    refine hK _ _ _ _ _ _ (r_callV rfl (fun _ => rfl) rfl (b0 rfl rfl rfl) (kX6_giveMade (s := P t) (t := otS (P p) i) rfl (by omega) (wl_P ht) rfl (?_ : K _ _ _ _ _ _)))
    rw [wl_sP _ ht]
    exact hK _ _ _ _ _ _ (r_iret rfl rfl rfl rfl (oi hQ4))
  · skip
    have hh : bic (orF (P p) 128) i ≠ 0 := fun c9 => c1 (by rw [nI_bic _ (orF_lt _ 128 (Nat.le_refl _)) _ hi, c9]; rfl)
    exact hK _ _ _ _ _ _ (r_thr rfl (by omega) rfl rfl rfl rfl (ob_f (by rw [beq_eq_false_iff_ne.mpr hh]) hQ3))

set_option maxRecDepth 10000 in
/-- Holeworks.exchange -/
theorem kX6_exchange {S : Nat × (Nat → Int32)} {d : Nat} {Q : eQ} {b : Bool} {P : Nat → Nat → Bool} {R u v w : Nat → Bool} {kb : Nat → Nat} {f g e : Nat → Int32} {T : List va_E} {x : Int32} {y : Int32} {z : Int32} {s : Int32} (hQ : oQ (o_exchange P R x y z s) Q P R b T) : okCall S MT (d + 7) nX6_exchange [.ref 1, .int x, .int y, .int z, .int s] (b, wl P R u v w kb f g e T) Q := by
  refine okc (M := MX6_exchange) rfl rfl fun K hK hW => ?_
  show K 0 [(0, .ref 1), (1, .int x), (2, .int y), (3, .int z), (4, .int s)] [] (b, wl P R u v w kb f g e T) 0 0
  unfold o_exchange at hQ
  iterate 2 refine hK _ _ _ _ _ _ (?_ : K _ _ _ _ _ _)
  refine hK _ _ _ _ _ _ (r_callV rfl (fun _ => rfl) rfl (b0 rfl rfl rfl) (kX6_shapeAt (fun h9 => thrK rfl rfl (oq_n h9 hQ)) fun p hp hx h9 => (?_ : K _ _ _ _ _ _)))
  subst hx
  have hQ1 := oq_s h9 hQ
  iterate 3 refine hK _ _ _ _ _ _ (?_ : K _ _ _ _ _ _)
  refine hK _ _ _ _ _ _ (r_callV rfl (fun _ => rfl) rfl (b0 rfl rfl rfl) (kX6_shapeAt (fun h9 => thrK rfl rfl (oq_n h9 hQ1)) fun t ht hx h9 => (?_ : K _ _ _ _ _ _)))
  subst hx
  have hQ2 := oq_s h9 hQ1
  iterate 2 refine hK _ _ _ _ _ _ (?_ : K _ _ _ _ _ _)
  refine hK _ _ _ _ _ _ (r_callS rfl (fun _ => rfl) (b0 rfl rfl rfl) (kX6_checkCorner (fun h9 => thrK rfl rfl (oq_n h9 hQ2)) fun c hc hx h9 => (?_ : K _ _ _ _ _ _)))
  subst hx
  have hQ3 := oq_s h9 hQ2
  iterate 1 refine hK _ _ _ _ _ _ (?_ : K _ _ _ _ _ _)
  refine hK _ _ _ _ _ _ (r_callS rfl (fun _ => rfl) (b0 rfl rfl rfl) (kX6_checkCorner (fun h9 => thrK rfl rfl (oq_n h9 hQ3)) fun d hd hx h9 => (?_ : K _ _ _ _ _ _)))
  subst hx
  have hQ4 := oq_s h9 hQ3
  iterate 4 refine hK _ _ _ _ _ _ (?_ : K _ _ _ _ _ _)
  refine hK _ _ _ _ _ _ (r_get rfl rfl rfl (?_ : K _ _ _ _ _ _))
  refine hK _ _ _ _ _ _ (r_callS rfl (fun _ => rfl) (b0 rfl rfl rfl) (kX3_makeExchanged (q := 2 + p) (m := 9) (by omega) (wl_P hp) rfl hc hd (?_ : K _ _ _ _ _ _)))
  show K _ _ _ (b, wl P R (xcS (P p) c d) v w kb f g e T) _ _
  iterate 1 refine hK _ _ _ _ _ _ (?_ : K _ _ _ _ _ _)
  refine hK _ _ _ _ _ _ (r_get rfl rfl rfl (?_ : K _ _ _ _ _ _))
  iterate 1 refine hK _ _ _ _ _ _ (?_ : K _ _ _ _ _ _)
  refine hK _ _ _ _ _ _ (r_callV rfl (fun _ => rfl) rfl (b0 rfl rfl rfl) (kX1_countBeyond (s := xcS (P p) c d) rfl (wl_P hp) (?_ : K _ _ _ _ _ _)))
  iterate 3 refine hK _ _ _ _ _ _ (?_ : K _ _ _ _ _ _)
  refine hK _ _ _ _ _ _ (r_get rfl rfl rfl (?_ : K _ _ _ _ _ _))
  refine hK _ _ _ _ _ _ (r_callV rfl (fun _ => rfl) (wl_P ht) (b0 rfl rfl rfl) (kX1_become (by omega) (wl_P ht) (t := xcS (P p) c d) rfl (?_ : K _ _ _ _ _ _)))
  rw [wl_sP _ ht]
  iterate 1 refine hK _ _ _ _ _ _ (?_ : K _ _ _ _ _ _)
  exact hK _ _ _ _ _ _ (r_iret rfl rfl rfl rfl (oi hQ4))

set_option maxRecDepth 10000 in
/-- Holeworks.fold -/
theorem kX6_fold {S : Nat × (Nat → Int32)} {d : Nat} {Q : eQ} {b : Bool} {P : Nat → Nat → Bool} {R u v w : Nat → Bool} {kb : Nat → Nat} {f g e : Nat → Int32} {T : List va_E} {x : Int32} {y : Int32} (hQ : oQ (o_fold P R x y) Q P R b T) : okCall S MT (d + 7) nX6_fold [.ref 1, .int x, .int y] (b, wl P R u v w kb f g e T) Q := by
  refine okc (M := MX6_fold) rfl rfl fun K hK hW => ?_
  show K 0 [(0, .ref 1), (1, .int x), (2, .int y)] [] (b, wl P R u v w kb f g e T) 0 0
  unfold o_fold at hQ
  iterate 2 refine hK _ _ _ _ _ _ (?_ : K _ _ _ _ _ _)
  refine hK _ _ _ _ _ _ (r_callV rfl (fun _ => rfl) rfl (b0 rfl rfl rfl) (kX6_shapeAt (fun h9 => thrK rfl rfl (oq_n h9 hQ)) fun p hp hx h9 => (?_ : K _ _ _ _ _ _)))
  subst hx
  have hQ1 := oq_s h9 hQ
  iterate 2 refine hK _ _ _ _ _ _ (?_ : K _ _ _ _ _ _)
  refine hK _ _ _ _ _ _ (r_callS rfl (fun _ => rfl) (b0 rfl rfl rfl) (kX6_checkFace (fun h9 => thrK rfl rfl (oq_n h9 hQ1)) fun i hi1 hi hx h9 => (?_ : K _ _ _ _ _ _)))
  subst hx
  have hQ2 := oq_s h9 hQ1
  iterate 2 refine hK _ _ _ _ _ _ (?_ : K _ _ _ _ _ _)
  refine hK _ _ _ _ _ _ (r_callS rfl (fun _ => rfl) (b0 rfl rfl rfl) (kX6_checkHeld hi (wl_P hp) (fun h9 => thrK rfl rfl (ob_f h9 hQ2)) fun hh => (?_ : K _ _ _ _ _ _)))
  have hQ3 := ob_t hh hQ2
  iterate 2 refine hK _ _ _ _ _ _ (?_ : K _ _ _ _ _ _)
  refine hK _ _ _ _ _ _ (r_callV rfl (fun _ => rfl) (wl_P hp) (b0 rfl rfl rfl) (kX1_countOver hi (wl_P hp) (?_ : K _ _ _ _ _ _)))
  iterate 1 refine hK _ _ _ _ _ _ (?_ : K _ _ _ _ _ _)
  refine hK _ _ _ _ _ _ (And.intro (fun c1 => ?_) (fun c1 => ?_))
  · skip
    have h1 : ovN (P p) i = 1 := (nI_eq (Nat.lt_of_le_of_lt (fb_ct_le _ _) (by decide)) (by decide)).mp c1
    have hQ4 := ob_t (by rw [h1]; rfl) hQ3
    obtain ⟨g0, hg0, hg1, hg2, hg3, hg4, hg5⟩ := fold_ex h1
    iterate 2 refine hK _ _ _ _ _ _ (?_ : K _ _ _ _ _ _)
    refine hK _ _ _ _ _ _ (r_callV rfl (fun _ => rfl) (wl_P hp) (b0 rfl rfl rfl) (kX1_firstOver hi (wl_P hp) (?_ : K _ _ _ _ _ _)))
    rw [hg0]
    rw [hg0] at hQ4
    iterate 3 refine hK _ _ _ _ _ _ (?_ : K _ _ _ _ _ _)
    refine hK _ _ _ _ _ _ (r_callV rfl (fun _ => rfl) (wl_P hp) (b0 rfl rfl rfl) (kX1_remove hi (wl_P hp) (?_ : K _ _ _ _ _ _)))
    rw [wl_sP _ hp]
    iterate 2 refine hK _ _ _ _ _ _ (?_ : K _ _ _ _ _ _)
    refine hK _ _ _ _ _ _ (r_callV rfl (fun _ => rfl) (wl_P hp) (b0 rfl rfl rfl) (kX1_remove (s := sDel (P p) i) hg2 (by rw [wl_P hp, setP_s]) (?_ : K _ _ _ _ _ _)))
    rw [wl_sP _ hp, setP_2]
    iterate 1 refine hK _ _ _ _ _ _ (?_ : K _ _ _ _ _ _)
    exact hK _ _ _ _ _ _ (r_iret rfl rfl rfl rfl (oi hQ4))
  · skip
    have h1 : ovN (P p) i ≠ 1 := fun c9 => c1 (by show nI (ovN (P p) i) = nI 1; rw [c9])
    exact hK _ _ _ _ _ _ (r_thr rfl (by omega) rfl rfl rfl rfl (ob_f (beq_eq_false_iff_ne.mpr h1) hQ3))

set_option maxRecDepth 10000 in
/-- Holeworks.has -/
theorem kX6_has {S : Nat × (Nat → Int32)} {d : Nat} {Q : eQ} {b : Bool} {P : Nat → Nat → Bool} {R u v w : Nat → Bool} {kb : Nat → Nat} {f g e : Nat → Int32} {T : List va_E} {x : Int32} {y : Int32} (hQ : oQ (o_has P R x y) Q P R b T) : okCall S MT (d + 7) nX6_has [.ref 1, .int x, .int y] (b, wl P R u v w kb f g e T) Q := by
  refine okc (M := MX6_has) rfl rfl fun K hK hW => ?_
  show K 0 [(0, .ref 1), (1, .int x), (2, .int y)] [] (b, wl P R u v w kb f g e T) 0 0
  unfold o_has at hQ
  iterate 2 refine hK _ _ _ _ _ _ (?_ : K _ _ _ _ _ _)
  refine hK _ _ _ _ _ _ (r_callV rfl (fun _ => rfl) rfl (b0 rfl rfl rfl) (kX6_shapeAt (fun h9 => thrK rfl rfl (oq_n h9 hQ)) fun p hp hx h9 => (?_ : K _ _ _ _ _ _)))
  subst hx
  have hQ1 := oq_s h9 hQ
  iterate 2 refine hK _ _ _ _ _ _ (?_ : K _ _ _ _ _ _)
  refine hK _ _ _ _ _ _ (r_callS rfl (fun _ => rfl) (b0 rfl rfl rfl) (kX6_checkFace (fun h9 => thrK rfl rfl (oq_n h9 hQ1)) fun i hi1 hi hx h9 => (?_ : K _ _ _ _ _ _)))
  subst hx
  have hQ2 := oq_s h9 hQ1
  iterate 2 refine hK _ _ _ _ _ _ (?_ : K _ _ _ _ _ _)
  refine hK _ _ _ _ _ _ (r_callV rfl (fun _ => rfl) (wl_P hp) (b0 rfl rfl rfl) (kX1_holds hi (wl_P hp) (?_ : K _ _ _ _ _ _)))
  exact hK _ _ _ _ _ _ (r_iret rfl (b2i_nar _) rfl rfl (oi hQ2))

set_option maxRecDepth 10000 in
/-- Holeworks.size -/
theorem kX6_size {S : Nat × (Nat → Int32)} {d : Nat} {Q : eQ} {b : Bool} {P : Nat → Nat → Bool} {R u v w : Nat → Bool} {kb : Nat → Nat} {f g e : Nat → Int32} {T : List va_E} {x : Int32} (hQ : oQ (o_size P R x) Q P R b T) : okCall S MT (d + 7) nX6_size [.ref 1, .int x] (b, wl P R u v w kb f g e T) Q := by
  refine okc (M := MX6_size) rfl rfl fun K hK hW => ?_
  show K 0 [(0, .ref 1), (1, .int x)] [] (b, wl P R u v w kb f g e T) 0 0
  unfold o_size at hQ
  iterate 2 refine hK _ _ _ _ _ _ (?_ : K _ _ _ _ _ _)
  refine hK _ _ _ _ _ _ (r_callV rfl (fun _ => rfl) rfl (b0 rfl rfl rfl) (kX6_shapeAt (fun h9 => thrK rfl rfl (oq_n h9 hQ)) fun p hp hx h9 => (?_ : K _ _ _ _ _ _)))
  subst hx
  have hQ1 := oq_s h9 hQ
  refine hK _ _ _ _ _ _ (r_callV rfl (fun _ => rfl) (wl_P hp) (b0 rfl rfl rfl) (kX1_count (wl_P hp) (?_ : K _ _ _ _ _ _)))
  exact hK _ _ _ _ _ _ (r_iret rfl rfl rfl rfl (oi hQ1))

set_option maxRecDepth 10000 in
/-- Holeworks.faces -/
theorem kX6_faces {S : Nat × (Nat → Int32)} {d : Nat} {Q : eQ} {b : Bool} {P : Nat → Nat → Bool} {R u v w : Nat → Bool} {kb : Nat → Nat} {f g e : Nat → Int32} {T : List va_E} {x : Int32} {y : Int32} (hQ : oQ (o_faces P R x y) Q P R b T) : okCall S MT (d + 7) nX6_faces [.ref 1, .int x, .int y] (b, wl P R u v w kb f g e T) Q := by
  refine okc (M := MX6_faces) rfl rfl fun K hK hW => ?_
  show K 0 [(0, .ref 1), (1, .int x), (2, .int y)] [] (b, wl P R u v w kb f g e T) 0 0
  unfold o_faces at hQ
  iterate 2 refine hK _ _ _ _ _ _ (?_ : K _ _ _ _ _ _)
  refine hK _ _ _ _ _ _ (r_callV rfl (fun _ => rfl) rfl (b0 rfl rfl rfl) (kX6_shapeAt (fun h9 => thrK rfl rfl (oq_n h9 hQ)) fun p hp hx h9 => (?_ : K _ _ _ _ _ _)))
  subst hx
  have hQ1 := oq_s h9 hQ
  iterate 3 refine hK _ _ _ _ _ _ (?_ : K _ _ _ _ _ _)
  refine hK _ _ _ _ _ _ (r_callS rfl (fun _ => rfl) (b0 rfl rfl rfl) (kX6_checkHeight (l := 0) (by decide) (fun h9 => thrK rfl rfl (oq_n h9 hQ1)) fun k hk0 hk hx h9 => (?_ : K _ _ _ _ _ _)))
  subst hx
  have hQ2 := oq_s h9 hQ1
  iterate 2 refine hK _ _ _ _ _ _ (?_ : K _ _ _ _ _ _)
  refine hK _ _ _ _ _ _ (r_callV rfl (fun _ => rfl) (wl_P hp) (b0 rfl rfl rfl) (kX1_countAt (by omega) (wl_P hp) (?_ : K _ _ _ _ _ _)))
  exact hK _ _ _ _ _ _ (r_iret rfl rfl rfl rfl (oi hQ2))

set_option maxRecDepth 10000 in
/-- Holeworks.corners -/
theorem kX6_corners {S : Nat × (Nat → Int32)} {d : Nat} {Q : eQ} {b : Bool} {P : Nat → Nat → Bool} {R u v w : Nat → Bool} {kb : Nat → Nat} {f g e : Nat → Int32} {T : List va_E} {x : Int32} (hQ : oQ (o_corners P R x) Q P R b T) : okCall S MT (d + 7) nX6_corners [.ref 1, .int x] (b, wl P R u v w kb f g e T) Q := by
  refine okc (M := MX6_corners) rfl rfl fun K hK hW => ?_
  show K 0 [(0, .ref 1), (1, .int x)] [] (b, wl P R u v w kb f g e T) 0 0
  unfold o_corners at hQ
  iterate 2 refine hK _ _ _ _ _ _ (?_ : K _ _ _ _ _ _)
  refine hK _ _ _ _ _ _ (r_callV rfl (fun _ => rfl) rfl (b0 rfl rfl rfl) (kX6_shapeAt (fun h9 => thrK rfl rfl (oq_n h9 hQ)) fun p hp hx h9 => (?_ : K _ _ _ _ _ _)))
  subst hx
  have hQ1 := oq_s h9 hQ
  refine hK _ _ _ _ _ _ (r_callV rfl (fun _ => rfl) (wl_P hp) (b0 rfl rfl rfl) (kX1_cornerSet (wl_P hp) (?_ : K _ _ _ _ _ _)))
  exact hK _ _ _ _ _ _ (r_iret rfl rfl rfl rfl (oi hQ1))

set_option maxRecDepth 10000 in
/-- Holeworks.over -/
theorem kX6_over {S : Nat × (Nat → Int32)} {d : Nat} {Q : eQ} {b : Bool} {P : Nat → Nat → Bool} {R u v w : Nat → Bool} {kb : Nat → Nat} {f g e : Nat → Int32} {T : List va_E} {x : Int32} {y : Int32} (hQ : oQ (o_over P R x y) Q P R b T) : okCall S MT (d + 7) nX6_over [.ref 1, .int x, .int y] (b, wl P R u v w kb f g e T) Q := by
  refine okc (M := MX6_over) rfl rfl fun K hK hW => ?_
  show K 0 [(0, .ref 1), (1, .int x), (2, .int y)] [] (b, wl P R u v w kb f g e T) 0 0
  unfold o_over at hQ
  iterate 2 refine hK _ _ _ _ _ _ (?_ : K _ _ _ _ _ _)
  refine hK _ _ _ _ _ _ (r_callV rfl (fun _ => rfl) rfl (b0 rfl rfl rfl) (kX6_shapeAt (fun h9 => thrK rfl rfl (oq_n h9 hQ)) fun p hp hx h9 => (?_ : K _ _ _ _ _ _)))
  subst hx
  have hQ1 := oq_s h9 hQ
  iterate 2 refine hK _ _ _ _ _ _ (?_ : K _ _ _ _ _ _)
  refine hK _ _ _ _ _ _ (r_callS rfl (fun _ => rfl) (b0 rfl rfl rfl) (kX6_checkFace (fun h9 => thrK rfl rfl (oq_n h9 hQ1)) fun i hi1 hi hx h9 => (?_ : K _ _ _ _ _ _)))
  subst hx
  have hQ2 := oq_s h9 hQ1
  iterate 2 refine hK _ _ _ _ _ _ (?_ : K _ _ _ _ _ _)
  refine hK _ _ _ _ _ _ (r_callS rfl (fun _ => rfl) (b0 rfl rfl rfl) (kX6_checkHeld hi (wl_P hp) (fun h9 => thrK rfl rfl (ob_f h9 hQ2)) fun hh => (?_ : K _ _ _ _ _ _)))
  have hQ3 := ob_t hh hQ2
  iterate 2 refine hK _ _ _ _ _ _ (?_ : K _ _ _ _ _ _)
  refine hK _ _ _ _ _ _ (r_callV rfl (fun _ => rfl) (wl_P hp) (b0 rfl rfl rfl) (kX1_countOver hi (wl_P hp) (?_ : K _ _ _ _ _ _)))
  exact hK _ _ _ _ _ _ (r_iret rfl rfl rfl rfl (oi hQ3))

set_option maxRecDepth 10000 in
/-- Holeworks.greatest -/
theorem kX6_greatest {S : Nat × (Nat → Int32)} {d : Nat} {Q : eQ} {b : Bool} {P : Nat → Nat → Bool} {R u v w : Nat → Bool} {kb : Nat → Nat} {f g e : Nat → Int32} {T : List va_E} {x : Int32} (hQ : oQ (o_greatest P R x) Q P R b T) : okCall S MT (d + 7) nX6_greatest [.ref 1, .int x] (b, wl P R u v w kb f g e T) Q := by
  refine okc (M := MX6_greatest) rfl rfl fun K hK hW => ?_
  show K 0 [(0, .ref 1), (1, .int x)] [] (b, wl P R u v w kb f g e T) 0 0
  unfold o_greatest at hQ
  iterate 2 refine hK _ _ _ _ _ _ (?_ : K _ _ _ _ _ _)
  refine hK _ _ _ _ _ _ (r_callV rfl (fun _ => rfl) rfl (b0 rfl rfl rfl) (kX6_shapeAt (fun h9 => thrK rfl rfl (oq_n h9 hQ)) fun p hp hx h9 => (?_ : K _ _ _ _ _ _)))
  subst hx
  have hQ1 := oq_s h9 hQ
  iterate 1 refine hK _ _ _ _ _ _ (?_ : K _ _ _ _ _ _)
  refine hK _ _ _ _ _ _ (r_get rfl rfl rfl (?_ : K _ _ _ _ _ _))
  refine hK _ _ _ _ _ _ (r_callS rfl (fun _ => rfl) (b0 rfl rfl rfl) (kX3_makeGreatest (q := 2 + p) (m := 9) (by omega) (wl_P hp) rfl (?_ : K _ _ _ _ _ _)))
  show K _ _ _ (b, wl P R (grS (P p)) v w kb f g e T) _ _
  iterate 1 refine hK _ _ _ _ _ _ (?_ : K _ _ _ _ _ _)
  refine hK _ _ _ _ _ _ (r_get rfl rfl rfl (?_ : K _ _ _ _ _ _))
  refine hK _ _ _ _ _ _ (r_callV rfl (fun _ => rfl) rfl (b0 rfl rfl rfl) (kX1_count (s := grS (P p)) rfl (?_ : K _ _ _ _ _ _)))
  exact hK _ _ _ _ _ _ (r_iret rfl rfl rfl rfl (oi hQ1))

set_option maxRecDepth 10000 in
/-- Holeworks.greatestAt -/
theorem kX6_greatestAt {S : Nat × (Nat → Int32)} {d : Nat} {Q : eQ} {b : Bool} {P : Nat → Nat → Bool} {R u v w : Nat → Bool} {kb : Nat → Nat} {f g e : Nat → Int32} {T : List va_E} {x : Int32} {y : Int32} (hQ : oQ (o_greatestAt P R x y) Q P R b T) : okCall S MT (d + 7) nX6_greatestAt [.ref 1, .int x, .int y] (b, wl P R u v w kb f g e T) Q := by
  refine okc (M := MX6_greatestAt) rfl rfl fun K hK hW => ?_
  show K 0 [(0, .ref 1), (1, .int x), (2, .int y)] [] (b, wl P R u v w kb f g e T) 0 0
  unfold o_greatestAt at hQ
  iterate 2 refine hK _ _ _ _ _ _ (?_ : K _ _ _ _ _ _)
  refine hK _ _ _ _ _ _ (r_callV rfl (fun _ => rfl) rfl (b0 rfl rfl rfl) (kX6_shapeAt (fun h9 => thrK rfl rfl (oq_n h9 hQ)) fun p hp hx h9 => (?_ : K _ _ _ _ _ _)))
  subst hx
  have hQ1 := oq_s h9 hQ
  iterate 1 refine hK _ _ _ _ _ _ (?_ : K _ _ _ _ _ _)
  refine hK _ _ _ _ _ _ (r_get rfl rfl rfl (?_ : K _ _ _ _ _ _))
  refine hK _ _ _ _ _ _ (r_callS rfl (fun _ => rfl) (b0 rfl rfl rfl) (kX3_makeGreatest (q := 2 + p) (m := 9) (by omega) (wl_P hp) rfl (?_ : K _ _ _ _ _ _)))
  show K _ _ _ (b, wl P R (grS (P p)) v w kb f g e T) _ _
  iterate 1 refine hK _ _ _ _ _ _ (?_ : K _ _ _ _ _ _)
  refine hK _ _ _ _ _ _ (r_get rfl rfl rfl (?_ : K _ _ _ _ _ _))
  iterate 1 refine hK _ _ _ _ _ _ (?_ : K _ _ _ _ _ _)
  refine hK _ _ _ _ _ _ (r_callS rfl (fun _ => rfl) (b0 rfl rfl rfl) (kX6_checkedFaceAt (s := grS (P p)) rfl (fun h9 => thrK rfl rfl (ob_f (ffB h9) hQ1)) fun hh => (?_ : K _ _ _ _ _ _)))
  have hQ2 := ob_t (ffB2 hh) hQ1
  exact hK _ _ _ _ _ _ (r_iret rfl rfl rfl rfl (oi hQ2))

set_option maxRecDepth 10000 in
/-- Holeworks.isSame -/
theorem kX6_isSame {S : Nat × (Nat → Int32)} {d : Nat} {Q : eQ} {b : Bool} {P : Nat → Nat → Bool} {R u v w : Nat → Bool} {kb : Nat → Nat} {f g e : Nat → Int32} {T : List va_E} {x : Int32} {y : Int32} (hQ : oQ (o_isSame P R x y) Q P R b T) : okCall S MT (d + 7) nX6_isSame [.ref 1, .int x, .int y] (b, wl P R u v w kb f g e T) Q := by
  refine okc (M := MX6_isSame) rfl rfl fun K hK hW => ?_
  show K 0 [(0, .ref 1), (1, .int x), (2, .int y)] [] (b, wl P R u v w kb f g e T) 0 0
  unfold o_isSame at hQ
  iterate 2 refine hK _ _ _ _ _ _ (?_ : K _ _ _ _ _ _)
  refine hK _ _ _ _ _ _ (r_callV rfl (fun _ => rfl) rfl (b0 rfl rfl rfl) (kX6_shapeAt (fun h9 => thrK rfl rfl (oq_n h9 hQ)) fun p hp hx h9 => (?_ : K _ _ _ _ _ _)))
  subst hx
  have hQ1 := oq_s h9 hQ
  iterate 3 refine hK _ _ _ _ _ _ (?_ : K _ _ _ _ _ _)
  refine hK _ _ _ _ _ _ (r_callV rfl (fun _ => rfl) rfl (b0 rfl rfl rfl) (kX6_shapeAt (fun h9 => thrK rfl rfl (oq_n h9 hQ1)) fun q hq hx h9 => (?_ : K _ _ _ _ _ _)))
  subst hx
  have hQ2 := oq_s h9 hQ1
  iterate 3 refine hK _ _ _ _ _ _ (?_ : K _ _ _ _ _ _)
  refine hK _ _ _ _ _ _ (r_callV rfl (fun _ => rfl) (wl_P hp) (b0 rfl rfl rfl) (kX1_isLike (wl_P hp) (wl_P hq) (?_ : K _ _ _ _ _ _)))
  exact hK _ _ _ _ _ _ (r_iret rfl (b2i_nar _) rfl rfl (oi hQ2))

set_option maxRecDepth 10000 in
/-- Holeworks.contains -/
theorem kX6_contains {S : Nat × (Nat → Int32)} {d : Nat} {Q : eQ} {b : Bool} {P : Nat → Nat → Bool} {R u v w : Nat → Bool} {kb : Nat → Nat} {f g e : Nat → Int32} {T : List va_E} {x : Int32} {y : Int32} (hQ : oQ (o_contains P R x y) Q P R b T) : okCall S MT (d + 7) nX6_contains [.ref 1, .int x, .int y] (b, wl P R u v w kb f g e T) Q := by
  refine okc (M := MX6_contains) rfl rfl fun K hK hW => ?_
  show K 0 [(0, .ref 1), (1, .int x), (2, .int y)] [] (b, wl P R u v w kb f g e T) 0 0
  unfold o_contains at hQ
  iterate 2 refine hK _ _ _ _ _ _ (?_ : K _ _ _ _ _ _)
  refine hK _ _ _ _ _ _ (r_callV rfl (fun _ => rfl) rfl (b0 rfl rfl rfl) (kX6_shapeAt (fun h9 => thrK rfl rfl (oq_n h9 hQ)) fun p hp hx h9 => (?_ : K _ _ _ _ _ _)))
  subst hx
  have hQ1 := oq_s h9 hQ
  iterate 3 refine hK _ _ _ _ _ _ (?_ : K _ _ _ _ _ _)
  refine hK _ _ _ _ _ _ (r_callV rfl (fun _ => rfl) rfl (b0 rfl rfl rfl) (kX6_shapeAt (fun h9 => thrK rfl rfl (oq_n h9 hQ1)) fun q hq hx h9 => (?_ : K _ _ _ _ _ _)))
  subst hx
  have hQ2 := oq_s h9 hQ1
  iterate 3 refine hK _ _ _ _ _ _ (?_ : K _ _ _ _ _ _)
  refine hK _ _ _ _ _ _ (r_callV rfl (fun _ => rfl) (wl_P hp) (b0 rfl rfl rfl) (kX1_holdsAll (wl_P hp) (wl_P hq) (?_ : K _ _ _ _ _ _)))
  exact hK _ _ _ _ _ _ (r_iret rfl (b2i_nar _) rfl rfl (oi hQ2))

set_option maxRecDepth 10000 in
/-- Holeworks.pieces -/
theorem kX6_pieces {S : Nat × (Nat → Int32)} {d : Nat} {Q : eQ} {b : Bool} {P : Nat → Nat → Bool} {R u v w : Nat → Bool} {kb : Nat → Nat} {f g e : Nat → Int32} {T : List va_E} (hI : IvC P R) {x : Int32} (hQ : oQ (o_pieces P R x) Q P R b T) : okCall S MT (d + 7) nX6_pieces [.ref 1, .int x] (b, wl P R u v w kb f g e T) Q := by
  refine okc (M := MX6_pieces) rfl rfl fun K hK hW => ?_
  show K 0 [(0, .ref 1), (1, .int x)] [] (b, wl P R u v w kb f g e T) 0 0
  unfold o_pieces at hQ
  iterate 2 refine hK _ _ _ _ _ _ (?_ : K _ _ _ _ _ _)
  refine hK _ _ _ _ _ _ (r_callV rfl (fun _ => rfl) rfl (b0 rfl rfl rfl) (kX6_shapeAt (fun h9 => thrK rfl rfl (oq_n h9 hQ)) fun p hp hx h9 => (?_ : K _ _ _ _ _ _)))
  subst hx
  have hQ1 := oq_s h9 hQ
  refine hK _ _ _ _ _ _ (r_callS rfl (fun _ => rfl) (b0 rfl rfl rfl) (kX5_countPieces (hI.1 p hp) (wl_P hp) (?_ : K _ _ _ _ _ _)))
  exact hK _ _ _ _ _ _ (r_iret rfl rfl rfl rfl (oi hQ1))

theorem jb_bit {s : Nat → Bool} {a m c : Nat} (hc : c < 7) (hm : m < 128) (h : isPc s a m) : nI m &&& nI (2 ^ c) = 0 ↔ JB s a c = false := by
  rw [nx_and, nI_z (Nat.lt_of_le_of_lt Nat.and_le_left (by omega)), fb_bit_nat]
  unfold JB
  rw [decide_eq_false_iff_not, ← Bool.not_eq_true, h c]
  exact ⟨fun h1 h2 => h1 ⟨hc, h2⟩, fun h1 h2 => h1 h2.2⟩
set_option maxRecDepth 10000 in
/-- Holeworks.areJoined -/
theorem kX6_areJoined {S : Nat × (Nat → Int32)} {d : Nat} {Q : eQ} {b : Bool} {P : Nat → Nat → Bool} {R u v w : Nat → Bool} {kb : Nat → Nat} {f g e : Nat → Int32} {T : List va_E} {x : Int32} {y : Int32} {z : Int32} (hQ : oQ (o_areJoined P R x y z) Q P R b T) : okCall S MT (d + 7) nX6_areJoined [.ref 1, .int x, .int y, .int z] (b, wl P R u v w kb f g e T) Q := by
  refine okc (M := MX6_areJoined) rfl rfl fun K hK hW => ?_
  show K 0 [(0, .ref 1), (1, .int x), (2, .int y), (3, .int z)] [] (b, wl P R u v w kb f g e T) 0 0
  unfold o_areJoined at hQ
  iterate 2 refine hK _ _ _ _ _ _ (?_ : K _ _ _ _ _ _)
  refine hK _ _ _ _ _ _ (r_callV rfl (fun _ => rfl) rfl (b0 rfl rfl rfl) (kX6_shapeAt (fun h9 => thrK rfl rfl (oq_n h9 hQ)) fun p hp hx h9 => (?_ : K _ _ _ _ _ _)))
  subst hx
  have hQ1 := oq_s h9 hQ
  iterate 2 refine hK _ _ _ _ _ _ (?_ : K _ _ _ _ _ _)
  refine hK _ _ _ _ _ _ (r_callS rfl (fun _ => rfl) (b0 rfl rfl rfl) (kX6_checkCorner (fun h9 => thrK rfl rfl (oq_n h9 hQ1)) fun c hc hx h9 => (?_ : K _ _ _ _ _ _)))
  subst hx
  have hQ2 := oq_s h9 hQ1
  iterate 1 refine hK _ _ _ _ _ _ (?_ : K _ _ _ _ _ _)
  refine hK _ _ _ _ _ _ (r_callS rfl (fun _ => rfl) (b0 rfl rfl rfl) (kX6_checkCorner (fun h9 => thrK rfl rfl (oq_n h9 hQ2)) fun d hd hx h9 => (?_ : K _ _ _ _ _ _)))
  subst hx
  have hQ3 := oq_s h9 hQ2
  iterate 4 refine hK _ _ _ _ _ _ (?_ : K _ _ _ _ _ _)
  refine hK _ _ _ _ _ _ (r_callS rfl (fun _ => rfl) (b0 rfl rfl rfl) (okW (by rw [sh1 c hc]) (kX6_checkHeld (pw_128 c hc) (wl_P hp) (fun h9 => thrK rfl rfl (ob_f h9 hQ3)) fun hh => (?_ : K _ _ _ _ _ _))))
  have hQ4 := ob_t hh hQ3
  iterate 4 refine hK _ _ _ _ _ _ (?_ : K _ _ _ _ _ _)
  refine hK _ _ _ _ _ _ (r_callS rfl (fun _ => rfl) (b0 rfl rfl rfl) (okW (by rw [sh1 d hd]) (kX6_checkHeld (pw_128 d hd) (wl_P hp) (fun h9 => thrK rfl rfl (ob_f h9 hQ4)) fun hh => (?_ : K _ _ _ _ _ _))))
  have hQ5 := ob_t hh hQ4
  iterate 4 refine hK _ _ _ _ _ _ (?_ : K _ _ _ _ _ _)
  refine hK _ _ _ _ _ _ (r_callS rfl (fun _ => rfl) (b0 rfl rfl rfl) (okW (by rw [sh1 c hc]) (kX5_pieceFrom hc (wl_P hp) fun m hm hpm => (?_ : K _ _ _ _ _ _))))
  iterate 4 refine hK _ _ _ _ _ _ (?_ : K _ _ _ _ _ _)
  refine hK _ _ _ _ _ _ (And.intro (fun c1 => ?_) (fun c1 => ?_))
  · skip
    rw [sh1 d hd] at c1
    rw [(jb_bit hd hm hpm).mp c1] at hQ5
    iterate 1 refine hK _ _ _ _ _ _ (?_ : K _ _ _ _ _ _)
    exact hK _ _ _ _ _ _ (r_iret rfl rfl rfl rfl (oi hQ5))
  · skip
    rw [sh1 d hd] at c1
    rw [show JB (P p) c d = true from Bool.of_not_eq_false fun c9 => c1 ((jb_bit hd hm hpm).mpr c9)] at hQ5
    iterate 2 refine hK _ _ _ _ _ _ (?_ : K _ _ _ _ _ _)
    exact hK _ _ _ _ _ _ (r_iret rfl rfl rfl rfl (oi hQ5))

set_option maxRecDepth 10000 in
/-- Holeworks.free -/
theorem kX6_free {S : Nat × (Nat → Int32)} {d : Nat} {Q : eQ} {b : Bool} {P : Nat → Nat → Bool} {R u v w : Nat → Bool} {kb : Nat → Nat} {f g e : Nat → Int32} {T : List va_E} {x : Int32} {y : Int32} (hQ : oQ (o_free P R x y) Q P R b T) : okCall S MT (d + 7) nX6_free [.ref 1, .int x, .int y] (b, wl P R u v w kb f g e T) Q := by
  refine okc (M := MX6_free) rfl rfl fun K hK hW => ?_
  show K 0 [(0, .ref 1), (1, .int x), (2, .int y)] [] (b, wl P R u v w kb f g e T) 0 0
  unfold o_free at hQ
  iterate 2 refine hK _ _ _ _ _ _ (?_ : K _ _ _ _ _ _)
  refine hK _ _ _ _ _ _ (r_callV rfl (fun _ => rfl) rfl (b0 rfl rfl rfl) (kX6_shapeAt (fun h9 => thrK rfl rfl (oq_n h9 hQ)) fun p hp hx h9 => (?_ : K _ _ _ _ _ _)))
  subst hx
  have hQ1 := oq_s h9 hQ
  iterate 3 refine hK _ _ _ _ _ _ (?_ : K _ _ _ _ _ _)
  refine hK _ _ _ _ _ _ (r_callS rfl (fun _ => rfl) (b0 rfl rfl rfl) (kX6_checkHeight (l := 1) (by decide) (fun h9 => thrK rfl rfl (oq_n h9 hQ1)) fun k hk0 hk hx h9 => (?_ : K _ _ _ _ _ _)))
  subst hx
  have hQ2 := oq_s h9 hQ1
  iterate 1 refine hK _ _ _ _ _ _ (?_ : K _ _ _ _ _ _)
  refine hK _ _ _ _ _ _ (r_get rfl rfl rfl (?_ : K _ _ _ _ _ _))
  iterate 2 refine hK _ _ _ _ _ _ (?_ : K _ _ _ _ _ _)
  refine hK _ _ _ _ _ _ (r_callV rfl (fun _ => rfl) rfl (b0 rfl rfl rfl) (w_free (wl_P hp) (by omega) (by omega) fun kb2 => (?_ : K _ _ _ _ _ _)))
  exact hK _ _ _ _ _ _ (r_iret rfl rfl rfl rfl (oi hQ2))

set_option maxRecDepth 10000 in
/-- Holeworks.holes -/
theorem kX6_holes {S : Nat × (Nat → Int32)} {d : Nat} {Q : eQ} {b : Bool} {P : Nat → Nat → Bool} {R u v w : Nat → Bool} {kb : Nat → Nat} {f g e : Nat → Int32} {T : List va_E} (hI : IvC P R) {x : Int32} {y : Int32} (hQ : oQ (o_holes P R x y) Q P R b T) : okCall S MT (d + 7) nX6_holes [.ref 1, .int x, .int y] (b, wl P R u v w kb f g e T) Q := by
  refine okc (M := MX6_holes) rfl rfl fun K hK hW => ?_
  show K 0 [(0, .ref 1), (1, .int x), (2, .int y)] [] (b, wl P R u v w kb f g e T) 0 0
  unfold o_holes at hQ
  iterate 2 refine hK _ _ _ _ _ _ (?_ : K _ _ _ _ _ _)
  refine hK _ _ _ _ _ _ (r_callV rfl (fun _ => rfl) rfl (b0 rfl rfl rfl) (kX6_shapeAt (fun h9 => thrK rfl rfl (oq_n h9 hQ)) fun p hp hx h9 => (?_ : K _ _ _ _ _ _)))
  subst hx
  have hQ1 := oq_s h9 hQ
  iterate 3 refine hK _ _ _ _ _ _ (?_ : K _ _ _ _ _ _)
  refine hK _ _ _ _ _ _ (r_callS rfl (fun _ => rfl) (b0 rfl rfl rfl) (kX6_checkHeight (l := 0) (by decide) (fun h9 => thrK rfl rfl (oq_n h9 hQ1)) fun k hk0 hk hx h9 => (?_ : K _ _ _ _ _ _)))
  subst hx
  have hQ2 := oq_s h9 hQ1
  iterate 1 refine hK _ _ _ _ _ _ (?_ : K _ _ _ _ _ _)
  refine hK _ _ _ _ _ _ (r_get rfl rfl rfl (?_ : K _ _ _ _ _ _))
  iterate 2 refine hK _ _ _ _ _ _ (?_ : K _ _ _ _ _ _)
  refine hK _ _ _ _ _ _ (r_callV rfl (fun _ => rfl) rfl (b0 rfl rfl rfl) (w_holes (wl_P hp) (by omega) (hI.1 p hp) hk fun kb2 => (?_ : K _ _ _ _ _ _)))
  exact hK _ _ _ _ _ _ (r_iret rfl rfl rfl rfl (oi hQ2))

set_option maxRecDepth 10000 in
/-- Holeworks.signed -/
theorem kX6_signed {S : Nat × (Nat → Int32)} {d : Nat} {Q : eQ} {b : Bool} {P : Nat → Nat → Bool} {R u v w : Nat → Bool} {kb : Nat → Nat} {f g e : Nat → Int32} {T : List va_E} {x : Int32} (hQ : oQ (o_signed P R x) Q P R b T) : okCall S MT (d + 7) nX6_signed [.ref 1, .int x] (b, wl P R u v w kb f g e T) Q := by
  refine okc (M := MX6_signed) rfl rfl fun K hK hW => ?_
  show K 0 [(0, .ref 1), (1, .int x)] [] (b, wl P R u v w kb f g e T) 0 0
  unfold o_signed at hQ
  iterate 2 refine hK _ _ _ _ _ _ (?_ : K _ _ _ _ _ _)
  refine hK _ _ _ _ _ _ (r_callV rfl (fun _ => rfl) rfl (b0 rfl rfl rfl) (kX6_shapeAt (fun h9 => thrK rfl rfl (oq_n h9 hQ)) fun p hp hx h9 => (?_ : K _ _ _ _ _ _)))
  subst hx
  have hQ1 := oq_s h9 hQ
  refine hK _ _ _ _ _ _ (r_callV rfl (fun _ => rfl) (wl_P hp) (b0 rfl rfl rfl) (kX1_signedCount (wl_P hp) (?_ : K _ _ _ _ _ _)))
  exact hK _ _ _ _ _ _ (r_iret rfl rfl rfl rfl (oi hQ1))

set_option maxRecDepth 10000 in
/-- Holeworks.flip -/
theorem kX6_flip {S : Nat × (Nat → Int32)} {d : Nat} {Q : eQ} {b : Bool} {P : Nat → Nat → Bool} {R u v w : Nat → Bool} {kb : Nat → Nat} {f g e : Nat → Int32} {T : List va_E} (hI : IvC P R) {x : Int32} (hQ : oQ (o_flip P R x) Q P R b T) : okCall S MT (d + 7) nX6_flip [.ref 1, .int x] (b, wl P R u v w kb f g e T) Q := by
  refine okc (M := MX6_flip) rfl rfl fun K hK hW => ?_
  show K 0 [(0, .ref 1), (1, .int x)] [] (b, wl P R u v w kb f g e T) 0 0
  unfold o_flip at hQ
  iterate 1 refine hK _ _ _ _ _ _ (?_ : K _ _ _ _ _ _)
  refine hK _ _ _ _ _ _ (r_callS rfl (fun _ => rfl) (b0 rfl rfl rfl) (kX6_checkFace (h := (b, wl P R u v w kb f g e T)) (fun h9 => thrK rfl rfl (oq_n h9 hQ)) fun i hi1 hi hx h9 => (?_ : K _ _ _ _ _ _)))
  subst hx
  have hQ1 := oq_s h9 hQ
  iterate 1 refine hK _ _ _ _ _ _ (?_ : K _ _ _ _ _ _)
  refine hK _ _ _ _ _ _ (r_get rfl rfl rfl (?_ : K _ _ _ _ _ _))
  refine hK _ _ _ _ _ _ (r_callV rfl (fun _ => rfl) rfl (b0 rfl rfl rfl) (kX1_isEmpty (s := R) rfl (?_ : K _ _ _ _ _ _)))
  refine hK _ _ _ _ _ _ (And.intro (fun c1 => ?_) (fun c1 => ?_))
  · skip
    have hne := dct.mp c1
    obtain ⟨n, hR⟩ := hI.2
    obtain ⟨f0, hf1, hf2, hf3, hf0⟩ := row_first hR.2.2.2 hR.2.1 hne
    iterate 1 refine hK _ _ _ _ _ _ (?_ : K _ _ _ _ _ _)
    refine hK _ _ _ _ _ _ (r_get rfl rfl rfl (?_ : K _ _ _ _ _ _))
    iterate 1 refine hK _ _ _ _ _ _ (?_ : K _ _ _ _ _ _)
    refine hK _ _ _ _ _ _ (r_callV rfl (fun _ => rfl) rfl (b0 rfl rfl rfl) (kX1_faceAt (s := R) (idx := nI 0) rfl (?_ : K _ _ _ _ _ _)))
    refine hK _ _ _ _ _ _ (r_callS rfl (fun _ => rfl) (b0 rfl rfl rfl) (okW (by rw [hf0]) (kX6_heightOf (f := f0) hf1 hf2 (?_ : K _ _ _ _ _ _))))
    iterate 1 refine hK _ _ _ _ _ _ (?_ : K _ _ _ _ _ _)
    refine hK _ _ _ _ _ _ (r_callS rfl (fun _ => rfl) (b0 rfl rfl rfl) (kX6_heightOf (f := i) hi hi1 (?_ : K _ _ _ _ _ _)))
    refine hK _ _ _ _ _ _ (And.intro (fun c2 => ?_) (fun c2 => ?_))
    · skip
      have hh : rh R = ht i := by unfold rh; rw [hf0]; exact (nI_eq (by have := ht_7 hf1; omega) (by have := ht_7 hi; omega)).mp c2
      have hQ2 := ob_t (by rw [hh, beq_self_eq_true, Bool.or_true]) hQ1
      iterate 1 refine hK _ _ _ _ _ _ (?_ : K _ _ _ _ _ _)
      refine hK _ _ _ _ _ _ (r_get rfl rfl rfl (?_ : K _ _ _ _ _ _))
      iterate 1 refine hK _ _ _ _ _ _ (?_ : K _ _ _ _ _ _)
      refine hK _ _ _ _ _ _ (r_callV rfl (fun _ => rfl) rfl (b0 rfl rfl rfl) (kX1_toggle (s := R) hi rfl (?_ : K _ _ _ _ _ _)))
      show K _ _ _ (b, wl P (sTog R i) u v w kb f g e T) _ _
      iterate 1 refine hK _ _ _ _ _ _ (?_ : K _ _ _ _ _ _)
      refine hK _ _ _ _ _ _ (r_get rfl rfl rfl (?_ : K _ _ _ _ _ _))
      refine hK _ _ _ _ _ _ (r_callV rfl (fun _ => rfl) rfl (b0 rfl rfl rfl) (kX1_count (s := sTog R i) rfl (?_ : K _ _ _ _ _ _)))
      exact hK _ _ _ _ _ _ (r_iret rfl rfl rfl rfl (oi hQ2))
    · skip
      have hh : rh R ≠ ht i := fun c9 => c2 (by rw [← c9]; unfold rh; rw [hf0])
      exact hK _ _ _ _ _ _ (r_thr rfl (by omega) rfl rfl rfl rfl (ob_f (by rw [beq_eq_false_iff_ne.mpr hh, decide_eq_false hne]; rfl) hQ1))
  · skip
    have he0 := dct_f c1
    have hQ2 := ob_t (by rw [decide_eq_true he0]; rfl) hQ1
    iterate 1 refine hK _ _ _ _ _ _ (?_ : K _ _ _ _ _ _)
    refine hK _ _ _ _ _ _ (r_get rfl rfl rfl (?_ : K _ _ _ _ _ _))
    iterate 1 refine hK _ _ _ _ _ _ (?_ : K _ _ _ _ _ _)
    refine hK _ _ _ _ _ _ (r_callV rfl (fun _ => rfl) rfl (b0 rfl rfl rfl) (kX1_toggle (s := R) hi rfl (?_ : K _ _ _ _ _ _)))
    show K _ _ _ (b, wl P (sTog R i) u v w kb f g e T) _ _
    iterate 1 refine hK _ _ _ _ _ _ (?_ : K _ _ _ _ _ _)
    refine hK _ _ _ _ _ _ (r_get rfl rfl rfl (?_ : K _ _ _ _ _ _))
    refine hK _ _ _ _ _ _ (r_callV rfl (fun _ => rfl) rfl (b0 rfl rfl rfl) (kX1_count (s := sTog R i) rfl (?_ : K _ _ _ _ _ _)))
    exact hK _ _ _ _ _ _ (r_iret rfl rfl rfl rfl (oi hQ2))

set_option maxRecDepth 10000 in
/-- Holeworks.rowAt -/
theorem kX6_rowAt {S : Nat × (Nat → Int32)} {d : Nat} {Q : eQ} {b : Bool} {P : Nat → Nat → Bool} {R u v w : Nat → Bool} {kb : Nat → Nat} {f g e : Nat → Int32} {T : List va_E} {x : Int32} (hQ : oQ (o_rowAt P R x) Q P R b T) : okCall S MT (d + 7) nX6_rowAt [.ref 1, .int x] (b, wl P R u v w kb f g e T) Q := by
  refine okc (M := MX6_rowAt) rfl rfl fun K hK hW => ?_
  show K 0 [(0, .ref 1), (1, .int x)] [] (b, wl P R u v w kb f g e T) 0 0
  unfold o_rowAt at hQ
  iterate 1 refine hK _ _ _ _ _ _ (?_ : K _ _ _ _ _ _)
  refine hK _ _ _ _ _ _ (r_get rfl rfl rfl (?_ : K _ _ _ _ _ _))
  iterate 1 refine hK _ _ _ _ _ _ (?_ : K _ _ _ _ _ _)
  refine hK _ _ _ _ _ _ (r_callS rfl (fun _ => rfl) (b0 rfl rfl rfl) (kX6_checkedFaceAt (s := R) rfl (fun h9 => thrK rfl rfl (ob_f (ffB h9) hQ)) fun hh => (?_ : K _ _ _ _ _ _)))
  have hQ2 := ob_t (ffB2 hh) hQ
  exact hK _ _ _ _ _ _ (r_iret rfl rfl rfl rfl (oi hQ2))

theorem fil_rn {R s : Nat → Bool} {n : Nat} (h : RowI R n) : fil R s n = fil R s (rn R) := by
  by_cases hne : fb_ct R 128 = 0
  · rw [fil_0 hne, fil_0 hne]
  · obtain ⟨f0, hf1, hf2, hf3, hf0⟩ := row_first h.2.2.2 h.2.1 hne
    unfold rn
    rw [hf0, h.2.2.2 f0 hf1 hf3]
set_option maxRecDepth 10000 in
/-- Holeworks.fills -/
theorem kX6_fills {S : Nat × (Nat → Int32)} {d : Nat} {Q : eQ} {b : Bool} {P : Nat → Nat → Bool} {R u v w : Nat → Bool} {kb : Nat → Nat} {f g e : Nat → Int32} {T : List va_E} (hI : IvC P R) {x : Int32} (hQ : oQ (o_fills P R x) Q P R b T) : okCall S MT (d + 7) nX6_fills [.ref 1, .int x] (b, wl P R u v w kb f g e T) Q := by
  refine okc (M := MX6_fills) rfl rfl fun K hK hW => ?_
  show K 0 [(0, .ref 1), (1, .int x)] [] (b, wl P R u v w kb f g e T) 0 0
  unfold o_fills at hQ
  iterate 2 refine hK _ _ _ _ _ _ (?_ : K _ _ _ _ _ _)
  refine hK _ _ _ _ _ _ (r_callV rfl (fun _ => rfl) rfl (b0 rfl rfl rfl) (kX6_shapeAt (fun h9 => thrK rfl rfl (oq_n h9 hQ)) fun p hp hx h9 => (?_ : K _ _ _ _ _ _)))
  subst hx
  have hQ1 := oq_s h9 hQ
  iterate 3 refine hK _ _ _ _ _ _ (?_ : K _ _ _ _ _ _)
  refine hK _ _ _ _ _ _ (r_get rfl rfl rfl (?_ : K _ _ _ _ _ _))
  refine hK _ _ _ _ _ _ (r_callV rfl (fun _ => rfl) (wl_P hp) (b0 rfl rfl rfl) (kX1_holdsAll (t := R) (wl_P hp) rfl (?_ : K _ _ _ _ _ _)))
  refine hK _ _ _ _ _ _ (And.intro (fun c1 => ?_) (fun c1 => ?_))
  · skip
    exact hK _ _ _ _ _ _ (r_thr rfl (by omega) rfl rfl rfl rfl (ob_f (decide_eq_false (dct.mp c1)) hQ1))
  · skip
    have hh := dct_f c1
    have hQ2 := ob_t (decide_eq_true hh) hQ1
    obtain ⟨n, hR⟩ := hI.2
    rw [← fil_rn hR] at hQ2
    iterate 1 refine hK _ _ _ _ _ _ (?_ : K _ _ _ _ _ _)
    refine hK _ _ _ _ _ _ (r_get rfl rfl rfl (?_ : K _ _ _ _ _ _))
    iterate 1 refine hK _ _ _ _ _ _ (?_ : K _ _ _ _ _ _)
    refine hK _ _ _ _ _ _ (r_get rfl rfl rfl (?_ : K _ _ _ _ _ _))
    iterate 1 refine hK _ _ _ _ _ _ (?_ : K _ _ _ _ _ _)
    refine hK _ _ _ _ _ _ (r_callV rfl (fun _ => rfl) rfl (b0 rfl rfl rfl) (w_fill (n := n) (wl_P hp) (by omega) hR fun kb2 => (?_ : K _ _ _ _ _ _)))
    exact hK _ _ _ _ _ _ (r_iret rfl (b2i_nar _) rfl rfl (oi hQ2))

set_option maxRecDepth 10000 in
/-- Holeworks.isSound -/
theorem kX6_isSound {S : Nat × (Nat → Int32)} {d : Nat} {Q : eQ} {b : Bool} {P : Nat → Nat → Bool} {R u v w : Nat → Bool} {kb : Nat → Nat} {f g e : Nat → Int32} {T : List va_E} (hI : IvC P R) {x : Int32} (hQ : oQ (o_isSound P R x) Q P R b T) : okCall S MT (d + 8) nX6_isSound [.ref 1, .int x] (b, wl P R u v w kb f g e T) Q := by
  refine okc (M := MX6_isSound) rfl rfl fun K hK hW => ?_
  show K 0 [(0, .ref 1), (1, .int x)] [] (b, wl P R u v w kb f g e T) 0 0
  unfold o_isSound at hQ
  iterate 2 refine hK _ _ _ _ _ _ (?_ : K _ _ _ _ _ _)
  refine hK _ _ _ _ _ _ (r_callV rfl (fun _ => rfl) rfl (b0 rfl rfl rfl) (kX6_shapeAt (fun h9 => thrK rfl rfl (oq_n h9 hQ)) fun p hp hx h9 => (?_ : K _ _ _ _ _ _)))
  subst hx
  have hQ1 := oq_s h9 hQ
  iterate 2 refine hK _ _ _ _ _ _ (?_ : K _ _ _ _ _ _)
  refine hK _ _ _ _ _ _ (r_get rfl rfl rfl (?_ : K _ _ _ _ _ _))
  iterate 1 refine hK _ _ _ _ _ _ (?_ : K _ _ _ _ _ _)
  refine hK _ _ _ _ _ _ (r_callV rfl (fun _ => rfl) rfl (b0 rfl rfl rfl) (kX4_tellsPieces hp (hI.1 p hp) fun _ _ _ _ _ _ _ => (?_ : K _ _ _ _ _ _)))
  refine hK _ _ _ _ _ _ (And.intro (fun c9 => absurd c9 (nI1_0)) (fun _ => ?_))
  iterate 1 refine hK _ _ _ _ _ _ (?_ : K _ _ _ _ _ _)
  refine hK _ _ _ _ _ _ (r_get rfl rfl rfl (?_ : K _ _ _ _ _ _))
  iterate 1 refine hK _ _ _ _ _ _ (?_ : K _ _ _ _ _ _)
  refine hK _ _ _ _ _ _ (r_callV rfl (fun _ => rfl) rfl (b0 rfl rfl rfl) (kX4_tellsSignedCount hp (hI.1 p hp) fun _ _ _ _ _ _ _ => (?_ : K _ _ _ _ _ _)))
  refine hK _ _ _ _ _ _ (And.intro (fun c9 => absurd c9 (nI1_0)) (fun _ => ?_))
  iterate 1 refine hK _ _ _ _ _ _ (?_ : K _ _ _ _ _ _)
  refine hK _ _ _ _ _ _ (r_get rfl rfl rfl (?_ : K _ _ _ _ _ _))
  iterate 1 refine hK _ _ _ _ _ _ (?_ : K _ _ _ _ _ _)
  refine hK _ _ _ _ _ _ (r_get rfl rfl rfl (?_ : K _ _ _ _ _ _))
  iterate 1 refine hK _ _ _ _ _ _ (?_ : K _ _ _ _ _ _)
  refine hK _ _ _ _ _ _ (r_callV rfl (fun _ => rfl) rfl (b0 rfl rfl rfl) (kX4_tellsRow hp (hI.1 p hp) hI.2.choose_spec fun _ _ _ _ _ _ _ => (?_ : K _ _ _ _ _ _)))
  refine hK _ _ _ _ _ _ (And.intro (fun c9 => absurd c9 (nI1_0)) (fun _ => ?_))
  iterate 2 refine hK _ _ _ _ _ _ (?_ : K _ _ _ _ _ _)
  exact hK _ _ _ _ _ _ (r_iret rfl rfl rfl rfl (oi hQ1))

theorem isP_127 : ∀ i, i < 128 → isP i 127 = true := by decide +kernel
theorem isP_or {s : Nat → Bool} {i : Nat} (h0 : s 0 = false) (hi : i < 128) (h : s i = true) : isP i (orF s 128) = true := isP_iff.mpr fun c hc => (orF_bit s c 128).mpr ⟨i, Nat.pos_of_ne_zero (fun e => by subst e; rw [h0] at h; cases h), hi, h, hc⟩
set_option maxRecDepth 10000 in
/-- Holeworks.isTrue -/
theorem kX6_isTrue {S : Nat × (Nat → Int32)} {d : Nat} {Q : eQ} {b : Bool} {P : Nat → Nat → Bool} {R u v w : Nat → Bool} {kb : Nat → Nat} {f g e : Nat → Int32} {T : List va_E} (hI : IvC P R) {x : Int32} {y : Int32} {z : Int32} (hQ : oQ (o_isTrue P R x y z) Q P R b T) : okCall S MT (d + 8) nX6_isTrue [.ref 1, .int x, .int y, .int z] (b, wl P R u v w kb f g e T) Q := by
  refine okc (M := MX6_isTrue) rfl rfl fun K hK hW => ?_
  show K 0 [(0, .ref 1), (1, .int x), (2, .int y), (3, .int z)] [] (b, wl P R u v w kb f g e T) 0 0
  unfold o_isTrue at hQ
  iterate 2 refine hK _ _ _ _ _ _ (?_ : K _ _ _ _ _ _)
  refine hK _ _ _ _ _ _ (r_callV rfl (fun _ => rfl) rfl (b0 rfl rfl rfl) (kX6_shapeAt (fun h9 => thrK rfl rfl (oq_n h9 hQ)) fun p hp hx h9 => (?_ : K _ _ _ _ _ _)))
  subst hx
  have hQ1 := oq_s h9 hQ
  iterate 2 refine hK _ _ _ _ _ _ (?_ : K _ _ _ _ _ _)
  refine hK _ _ _ _ _ _ (r_callS rfl (fun _ => rfl) (b0 rfl rfl rfl) (kX6_checkCorner (fun h9 => thrK rfl rfl (oq_n h9 hQ1)) fun c hc hx h9 => (?_ : K _ _ _ _ _ _)))
  subst hx
  have hQ2 := oq_s h9 hQ1
  iterate 1 refine hK _ _ _ _ _ _ (?_ : K _ _ _ _ _ _)
  refine hK _ _ _ _ _ _ (r_callS rfl (fun _ => rfl) (b0 rfl rfl rfl) (kX6_checkCorner (fun h9 => thrK rfl rfl (oq_n h9 hQ2)) fun d hd hx h9 => (?_ : K _ _ _ _ _ _)))
  subst hx
  have hQ3 := oq_s h9 hQ2
  iterate 1 refine hK _ _ _ _ _ _ (?_ : K _ _ _ _ _ _)
  refine hK _ _ _ _ _ _ (r_get rfl rfl rfl (?_ : K _ _ _ _ _ _))
  iterate 1 refine hK _ _ _ _ _ _ (?_ : K _ _ _ _ _ _)
  refine hK _ _ _ _ _ _ (r_callV rfl (fun _ => rfl) rfl (b0 rfl rfl rfl) (kX4_tellsCone hp (hI.1 p hp) fun _ _ _ _ _ _ _ => (?_ : K _ _ _ _ _ _)))
  refine hK _ _ _ _ _ _ (And.intro (fun c9 => absurd c9 (nI1_0)) (fun _ => ?_))
  iterate 1 refine hK _ _ _ _ _ _ (?_ : K _ _ _ _ _ _)
  refine hK _ _ _ _ _ _ (r_get rfl rfl rfl (?_ : K _ _ _ _ _ _))
  iterate 1 refine hK _ _ _ _ _ _ (?_ : K _ _ _ _ _ _)
  refine hK _ _ _ _ _ _ (r_callV rfl (fun _ => rfl) rfl (b0 rfl rfl rfl) (kX4_tellsLift hp (hI.1 p hp) fun _ _ _ _ _ _ _ => (?_ : K _ _ _ _ _ _)))
  refine hK _ _ _ _ _ _ (And.intro (fun c9 => absurd c9 (nI1_0)) (fun _ => ?_))
  iterate 1 refine hK _ _ _ _ _ _ (?_ : K _ _ _ _ _ _)
  refine hK _ _ _ _ _ _ (r_get rfl rfl rfl (?_ : K _ _ _ _ _ _))
  iterate 2 refine hK _ _ _ _ _ _ (?_ : K _ _ _ _ _ _)
  refine hK _ _ _ _ _ _ (r_callV rfl (fun _ => rfl) rfl (b0 rfl rfl rfl) (kX4_tellsOther hp (hI.1 p hp) (c := 127) (by decide) (fun i hi _ => isP_127 i hi) fun _ _ _ _ _ _ _ => (?_ : K _ _ _ _ _ _)))
  refine hK _ _ _ _ _ _ (And.intro (fun c9 => absurd c9 (nI1_0)) (fun _ => ?_))
  iterate 1 refine hK _ _ _ _ _ _ (?_ : K _ _ _ _ _ _)
  refine hK _ _ _ _ _ _ (r_get rfl rfl rfl (?_ : K _ _ _ _ _ _))
  iterate 2 refine hK _ _ _ _ _ _ (?_ : K _ _ _ _ _ _)
  refine hK _ _ _ _ _ _ (r_callV rfl (fun _ => rfl) (wl_P hp) (b0 rfl rfl rfl) (kX1_cornerSet (wl_P hp) (?_ : K _ _ _ _ _ _)))
  refine hK _ _ _ _ _ _ (r_callV rfl (fun _ => rfl) rfl (b0 rfl rfl rfl) (kX4_tellsOther hp (hI.1 p hp) (c := orF (P p) 128) (orF_lt _ 128 (Nat.le_refl _)) (fun i hi h9 => isP_or (hI.1 p hp).1 hi h9) fun _ _ _ _ _ _ _ => (?_ : K _ _ _ _ _ _)))
  refine hK _ _ _ _ _ _ (And.intro (fun c9 => absurd c9 (nI1_0)) (fun _ => ?_))
  iterate 1 refine hK _ _ _ _ _ _ (?_ : K _ _ _ _ _ _)
  refine hK _ _ _ _ _ _ (r_get rfl rfl rfl (?_ : K _ _ _ _ _ _))
  iterate 3 refine hK _ _ _ _ _ _ (?_ : K _ _ _ _ _ _)
  refine hK _ _ _ _ _ _ (r_callV rfl (fun _ => rfl) rfl (b0 rfl rfl rfl) (kX4_tellsExchange hp (hI.1 p hp) hc hd fun _ _ _ _ _ _ _ => (?_ : K _ _ _ _ _ _)))
  refine hK _ _ _ _ _ _ (And.intro (fun c9 => absurd c9 (nI1_0)) (fun _ => ?_))
  iterate 2 refine hK _ _ _ _ _ _ (?_ : K _ _ _ _ _ _)
  exact hK _ _ _ _ _ _ (r_iret rfl rfl rfl rfl (oi hQ3))

set_option maxRecDepth 10000 in
/-- Holeworks.faceIsTrue -/
theorem kX6_faceIsTrue {S : Nat × (Nat → Int32)} {d : Nat} {Q : eQ} {b : Bool} {P : Nat → Nat → Bool} {R u v w : Nat → Bool} {kb : Nat → Nat} {f g e : Nat → Int32} {T : List va_E} (hI : IvC P R) {x : Int32} {y : Int32} (hQ : oQ (o_faceIsTrue P R x y) Q P R b T) : okCall S MT (d + 8) nX6_faceIsTrue [.ref 1, .int x, .int y] (b, wl P R u v w kb f g e T) Q := by
  refine okc (M := MX6_faceIsTrue) rfl rfl fun K hK hW => ?_
  show K 0 [(0, .ref 1), (1, .int x), (2, .int y)] [] (b, wl P R u v w kb f g e T) 0 0
  unfold o_faceIsTrue at hQ
  iterate 2 refine hK _ _ _ _ _ _ (?_ : K _ _ _ _ _ _)
  refine hK _ _ _ _ _ _ (r_callV rfl (fun _ => rfl) rfl (b0 rfl rfl rfl) (kX6_shapeAt (fun h9 => thrK rfl rfl (oq_n h9 hQ)) fun p hp hx h9 => (?_ : K _ _ _ _ _ _)))
  subst hx
  have hQ1 := oq_s h9 hQ
  iterate 2 refine hK _ _ _ _ _ _ (?_ : K _ _ _ _ _ _)
  refine hK _ _ _ _ _ _ (r_callS rfl (fun _ => rfl) (b0 rfl rfl rfl) (kX6_checkFace (fun h9 => thrK rfl rfl (oq_n h9 hQ1)) fun i hi1 hi hx h9 => (?_ : K _ _ _ _ _ _)))
  subst hx
  have hQ2 := oq_s h9 hQ1
  iterate 2 refine hK _ _ _ _ _ _ (?_ : K _ _ _ _ _ _)
  refine hK _ _ _ _ _ _ (r_callS rfl (fun _ => rfl) (b0 rfl rfl rfl) (kX6_checkHeld hi (wl_P hp) (fun h9 => thrK rfl rfl (ob_f h9 hQ2)) fun hh => (?_ : K _ _ _ _ _ _)))
  have hQ3 := ob_t hh hQ2
  iterate 1 refine hK _ _ _ _ _ _ (?_ : K _ _ _ _ _ _)
  refine hK _ _ _ _ _ _ (r_get rfl rfl rfl (?_ : K _ _ _ _ _ _))
  iterate 2 refine hK _ _ _ _ _ _ (?_ : K _ _ _ _ _ _)
  refine hK _ _ _ _ _ _ (r_callV rfl (fun _ => rfl) rfl (b0 rfl rfl rfl) (kX4_tellsAbout hp (hI.1 p hp) hi (by omega) hh fun _ _ _ _ _ _ _ => (?_ : K _ _ _ _ _ _)))
  refine hK _ _ _ _ _ _ (And.intro (fun c9 => absurd c9 (nI1_0)) (fun _ => ?_))
  iterate 1 refine hK _ _ _ _ _ _ (?_ : K _ _ _ _ _ _)
  refine hK _ _ _ _ _ _ (r_get rfl rfl rfl (?_ : K _ _ _ _ _ _))
  iterate 2 refine hK _ _ _ _ _ _ (?_ : K _ _ _ _ _ _)
  refine hK _ _ _ _ _ _ (r_callV rfl (fun _ => rfl) rfl (b0 rfl rfl rfl) (kX4_tellsFold hp (hI.1 p hp) hi (by omega) hh fun _ _ _ _ _ _ _ => (?_ : K _ _ _ _ _ _)))
  refine hK _ _ _ _ _ _ (And.intro (fun c9 => absurd c9 (nI1_0)) (fun _ => ?_))
  iterate 1 refine hK _ _ _ _ _ _ (?_ : K _ _ _ _ _ _)
  refine hK _ _ _ _ _ _ (r_get rfl rfl rfl (?_ : K _ _ _ _ _ _))
  iterate 2 refine hK _ _ _ _ _ _ (?_ : K _ _ _ _ _ _)
  refine hK _ _ _ _ _ _ (r_callV rfl (fun _ => rfl) rfl (b0 rfl rfl rfl) (kX4_tellsTaking hp (hI.1 p hp) hi (by omega) hh fun _ _ _ _ _ _ _ => (?_ : K _ _ _ _ _ _)))
  refine hK _ _ _ _ _ _ (And.intro (fun c9 => absurd c9 (nI1_0)) (fun _ => ?_))
  iterate 2 refine hK _ _ _ _ _ _ (?_ : K _ _ _ _ _ _)
  exact hK _ _ _ _ _ _ (r_iret rfl rfl rfl rfl (oi hQ3))

set_option maxRecDepth 10000 in
/-- Holeworks.pairIsTrue -/
theorem kX6_pairIsTrue {S : Nat × (Nat → Int32)} {d : Nat} {Q : eQ} {b : Bool} {P : Nat → Nat → Bool} {R u v w : Nat → Bool} {kb : Nat → Nat} {f g e : Nat → Int32} {T : List va_E} (hI : IvC P R) {x : Int32} {y : Int32} (hQ : oQ (o_pairIsTrue P R x y) Q P R b T) : okCall S MT (d + 7) nX6_pairIsTrue [.ref 1, .int x, .int y] (b, wl P R u v w kb f g e T) Q := by
  refine okc (M := MX6_pairIsTrue) rfl rfl fun K hK hW => ?_
  show K 0 [(0, .ref 1), (1, .int x), (2, .int y)] [] (b, wl P R u v w kb f g e T) 0 0
  unfold o_pairIsTrue at hQ
  iterate 2 refine hK _ _ _ _ _ _ (?_ : K _ _ _ _ _ _)
  refine hK _ _ _ _ _ _ (r_callV rfl (fun _ => rfl) rfl (b0 rfl rfl rfl) (kX6_shapeAt (fun h9 => thrK rfl rfl (oq_n h9 hQ)) fun p hp hx h9 => (?_ : K _ _ _ _ _ _)))
  subst hx
  have hQ1 := oq_s h9 hQ
  iterate 3 refine hK _ _ _ _ _ _ (?_ : K _ _ _ _ _ _)
  refine hK _ _ _ _ _ _ (r_callV rfl (fun _ => rfl) rfl (b0 rfl rfl rfl) (kX6_shapeAt (fun h9 => thrK rfl rfl (oq_n h9 hQ1)) fun q hq hx h9 => (?_ : K _ _ _ _ _ _)))
  subst hx
  have hQ2 := oq_s h9 hQ1
  iterate 2 refine hK _ _ _ _ _ _ (?_ : K _ _ _ _ _ _)
  refine hK _ _ _ _ _ _ (r_get rfl rfl rfl (?_ : K _ _ _ _ _ _))
  iterate 2 refine hK _ _ _ _ _ _ (?_ : K _ _ _ _ _ _)
  refine hK _ _ _ _ _ _ (r_callV rfl (fun _ => rfl) rfl (b0 rfl rfl rfl) (kX4_tellsSums hp hq fun _ _ _ _ _ _ _ => (?_ : K _ _ _ _ _ _)))
  refine hK _ _ _ _ _ _ (And.intro (fun c9 => absurd c9 (nI1_0)) (fun _ => ?_))
  iterate 1 refine hK _ _ _ _ _ _ (?_ : K _ _ _ _ _ _)
  refine hK _ _ _ _ _ _ (r_get rfl rfl rfl (?_ : K _ _ _ _ _ _))
  iterate 2 refine hK _ _ _ _ _ _ (?_ : K _ _ _ _ _ _)
  refine hK _ _ _ _ _ _ (r_callV rfl (fun _ => rfl) rfl (b0 rfl rfl rfl) (kX4_tellsTouching hp hq (hI.1 p hp) (hI.1 q hq) fun _ _ _ _ _ _ _ => (?_ : K _ _ _ _ _ _)))
  refine hK _ _ _ _ _ _ (And.intro (fun c9 => absurd c9 (nI1_0)) (fun _ => ?_))
  iterate 2 refine hK _ _ _ _ _ _ (?_ : K _ _ _ _ _ _)
  exact hK _ _ _ _ _ _ (r_iret rfl rfl rfl rfl (oi hQ2))

set_option maxRecDepth 10000 in
/-- Holeworks.border -/
theorem kX6_border {S : Nat × (Nat → Int32)} {d : Nat} {Q : eQ} {b : Bool} {P : Nat → Nat → Bool} {R u v w : Nat → Bool} {kb : Nat → Nat} {f g e : Nat → Int32} {T : List va_E} (hQ : ∀ u v w kb f g e, Q (.inl (some (.int (nI (fb_ct (bdS R) 128))))) (b, wl P (bdS R) u v w kb f g e T)) : okCall S MT (d + 6) nX6_border [.ref 1] (b, wl P R u v w kb f g e T) Q := by
  refine okc (M := MX6_border) rfl rfl fun K hK hW => ?_
  show K 0 [(0, .ref 1)] [] (b, wl P R u v w kb f g e T) 0 0
  iterate 1 refine hK _ _ _ _ _ _ (?_ : K _ _ _ _ _ _)
  refine hK _ _ _ _ _ _ (r_get rfl rfl rfl (?_ : K _ _ _ _ _ _))
  iterate 1 refine hK _ _ _ _ _ _ (?_ : K _ _ _ _ _ _)
  refine hK _ _ _ _ _ _ (r_get rfl rfl rfl (?_ : K _ _ _ _ _ _))
  refine hK _ _ _ _ _ _ (r_callS rfl (fun _ => rfl) (b0 rfl rfl rfl) (kX0_makeBorder (q := 8) (m := 9) (r := R) (by decide) rfl rfl (?_ : K _ _ _ _ _ _)))
  show K _ _ _ (b, wl P R (bdS R) v w kb f g e T) _ _
  iterate 2 refine hK _ _ _ _ _ _ (?_ : K _ _ _ _ _ _)
  refine hK _ _ _ _ _ _ (r_get rfl rfl rfl (?_ : K _ _ _ _ _ _))
  refine hK _ _ _ _ _ _ (r_callV rfl (fun _ => rfl) rfl (b0 rfl rfl rfl) (kX6_giveMade (q := 8) (s := R) (t := bdS R) rfl (by decide) rfl rfl (?_ : K _ _ _ _ _ _)))
  show K _ _ _ (b, wl P (bdS R) (bdS R) v w kb f g e T) _ _
  exact hK _ _ _ _ _ _ (r_iret rfl rfl rfl rfl (hQ _ _ _ _ _ _ _))

set_option maxRecDepth 10000 in
/-- Holeworks.drop -/
theorem kX6_drop {S : Nat × (Nat → Int32)} {d : Nat} {Q : eQ} {b : Bool} {P : Nat → Nat → Bool} {R u v w : Nat → Bool} {kb : Nat → Nat} {f g e : Nat → Int32} {T : List va_E} (hQ : ∀ u v w kb f g e, Q (.inl (some (.int (nI (fb_ct R 128))))) (b, wl P no9 u v w kb f g e T)) : okCall S MT (d + 6) nX6_drop [.ref 1] (b, wl P R u v w kb f g e T) Q := by
  refine okc (M := MX6_drop) rfl rfl fun K hK hW => ?_
  show K 0 [(0, .ref 1)] [] (b, wl P R u v w kb f g e T) 0 0
  iterate 1 refine hK _ _ _ _ _ _ (?_ : K _ _ _ _ _ _)
  refine hK _ _ _ _ _ _ (r_get rfl rfl rfl (?_ : K _ _ _ _ _ _))
  refine hK _ _ _ _ _ _ (r_callS rfl (fun _ => rfl) (b0 rfl rfl rfl) (kX6_emptied (q := 8) (s := R) rfl (?_ : K _ _ _ _ _ _)))
  show K _ _ _ (b, wl P no9 u v w kb f g e T) _ _
  exact hK _ _ _ _ _ _ (r_iret rfl rfl rfl rfl (hQ _ _ _ _ _ _ _))

set_option maxRecDepth 10000 in
/-- Holeworks.isRound -/
theorem kX6_isRound {S : Nat × (Nat → Int32)} {d : Nat} {Q : eQ} {b : Bool} {P : Nat → Nat → Bool} {R u v w : Nat → Bool} {kb : Nat → Nat} {f g e : Nat → Int32} {T : List va_E} (hQ : ∀ u v w kb f g e, Q (.inl (some (.int (b2i (decide (fb_ct (bdS R) 128 = 0)))))) (b, wl P R u v w kb f g e T)) : okCall S MT (d + 6) nX6_isRound [.ref 1] (b, wl P R u v w kb f g e T) Q := by
  refine okc (M := MX6_isRound) rfl rfl fun K hK hW => ?_
  show K 0 [(0, .ref 1)] [] (b, wl P R u v w kb f g e T) 0 0
  iterate 1 refine hK _ _ _ _ _ _ (?_ : K _ _ _ _ _ _)
  refine hK _ _ _ _ _ _ (r_get rfl rfl rfl (?_ : K _ _ _ _ _ _))
  iterate 1 refine hK _ _ _ _ _ _ (?_ : K _ _ _ _ _ _)
  refine hK _ _ _ _ _ _ (r_get rfl rfl rfl (?_ : K _ _ _ _ _ _))
  refine hK _ _ _ _ _ _ (r_callS rfl (fun _ => rfl) (b0 rfl rfl rfl) (kX0_makeBorder (q := 8) (m := 9) (r := R) (by decide) rfl rfl (?_ : K _ _ _ _ _ _)))
  show K _ _ _ (b, wl P R (bdS R) v w kb f g e T) _ _
  iterate 1 refine hK _ _ _ _ _ _ (?_ : K _ _ _ _ _ _)
  refine hK _ _ _ _ _ _ (r_get rfl rfl rfl (?_ : K _ _ _ _ _ _))
  refine hK _ _ _ _ _ _ (r_callV rfl (fun _ => rfl) rfl (b0 rfl rfl rfl) (kX1_isEmpty (s := bdS R) rfl (?_ : K _ _ _ _ _ _)))
  exact hK _ _ _ _ _ _ (r_iret rfl (b2i_nar _) rfl rfl (hQ _ _ _ _ _ _ _))

def ckF (s : Nat → Bool) (x : Int64) : Nat → Int64
  | 0 => x * lN 31 + lN (fb_ct s 128)
  | n + 1 => bif decide (0 < n) && s n then ckF s x n * lN 31 + lN n else ckF s x n
theorem ck_t {s : Nat → Bool} {x : Int64} {k : Nat} (h0 : 0 < k) (h : s k = true) : ckF s x (k + 1) = ckF s x k * lN 31 + lN k := by
  show (bif decide (0 < k) && s k then _ else _) = _
  rw [decide_eq_true h0, h]; rfl
theorem ck_f {s : Nat → Bool} {x : Int64} {k : Nat} (h : s k = false) : ckF s x (k + 1) = ckF s x k := by
  show (bif decide (0 < k) && s k then _ else _) = _
  rw [h, Bool.and_false]; rfl
def ckP (P : Nat → Nat → Bool) : Nat → Int64
  | 0 => lN 17
  | n + 1 => ckF (P n) (ckP P n) 128
set_option maxRecDepth 10000 in
/-- Holeworks.checksumOn -/
theorem kX6_checksumOn {S : Nat × (Nat → Int32)} {d : Nat} {h : eH} {Q : eQ} {q : Nat} {s : Nat → Bool} {x : Int64} (hk0 : h.2[q]? = some (fsS s)) (hQ : Q (.inl (some (.long (ckF s x 128)))) h) : okCall S MT (d + 3) nX6_checksumOn [.long x, .ref (q + 1)] h Q := by
  refine okc (M := MX6_checksumOn) rfl rfl fun K hK hW => ?_
  show K 0 [(0, .long x), (2, .ref (q + 1))] [] h 0 0
  iterate 4 refine hK _ _ _ _ _ _ (?_ : K _ _ _ _ _ _)
  refine hK _ _ _ _ _ _ (r_callV rfl (fun _ => rfl) hk0 (b0 rfl rfl rfl) (kX1_count hk0 (?_ : K _ _ _ _ _ _)))
  iterate 5 refine hK _ _ _ _ _ _ (?_ : K _ _ _ _ _ _)
  refine hW _ _ [(5, .int (nI (1))), (3, .long (ckF s x (1))), (2, .ref (q + 1))] _ _ _ _ (by simp [show ckF s x 1 = x * lN 31 + lN (fb_ct s 128) from rfl, nI_l (Nat.lt_of_le_of_lt (fb_ct_le s 128) (show 128 < 2 ^ 31 by decide))]) ?_
  refine up (P := fun k => K 15 [(5, .int (nI (k))), (3, .long (ckF s x (k))), (2, .ref (q + 1))] [] h 0 0) 128 1 ?_ ?_ (by decide)
  · skip
    iterate 2 refine hK _ _ _ _ _ _ (?_ : K _ _ _ _ _ _)
    refine hK _ _ _ _ _ _ (And.intro (fun _ => ?_) (fun c9 => absurd (nI_lt (by decide) (by decide)) c9))
    iterate 1 refine hK _ _ _ _ _ _ (?_ : K _ _ _ _ _ _)
    exact hK _ _ _ _ _ _ (r_lret rfl rfl rfl hQ)
  · intro k h0k hk ihk
    iterate 2 refine hK _ _ _ _ _ _ (?_ : K _ _ _ _ _ _)
    refine hK _ _ _ _ _ _ (And.intro (fun c9 => absurd c9 (nI_nlt (by omega) (by omega))) (fun _ => ?_))
    iterate 2 refine hK _ _ _ _ _ _ (?_ : K _ _ _ _ _ _)
    refine hK _ _ _ _ _ _ (r_callV rfl (fun _ => rfl) hk0 (b0 rfl rfl rfl) (kX1_holds (f := k) (by omega) hk0 (?_ : K _ _ _ _ _ _)))
    refine hK _ _ _ _ _ _ (And.intro (fun c1 => ?_) (fun c1 => ?_))
    · skip
      iterate 2 refine hK _ _ _ _ _ _ (?_ : K _ _ _ _ _ _)
      rw [ck_f (b2i_0.mp c1)] at ihk
      rw [nI_add k 1]
      first | exact ihk | exact hW _ _ _ _ _ _ _ (by simp) ihk
    · skip
      iterate 9 refine hK _ _ _ _ _ _ (?_ : K _ _ _ _ _ _)
      rw [ck_t (by omega) (Bool.of_not_eq_false (fun e => c1 (b2i_0.mpr e)))] at ihk
      rw [nI_add k 1, nI_l (by omega)]
      first | exact ihk | exact hW _ _ _ _ _ _ _ (by simp) ihk

set_option maxRecDepth 10000 in
/-- Holeworks.checksum -/
theorem kX6_checksum {S : Nat × (Nat → Int32)} {d : Nat} {Q : eQ} {b : Bool} {P : Nat → Nat → Bool} {R u v w : Nat → Bool} {kb : Nat → Nat} {f g e : Nat → Int32} {T : List va_E} (hQ : Q (.inl (some (.long (ckF R (ckP P 6) 128)))) (b, wl P R u v w kb f g e T)) : okCall S MT (d + 4) nX6_checksum [.ref 1] (b, wl P R u v w kb f g e T) Q := by
  refine okc (M := MX6_checksum) rfl rfl fun K hK hW => ?_
  show K 0 [(0, .ref 1)] [] (b, wl P R u v w kb f g e T) 0 0
  iterate 4 refine hK _ _ _ _ _ _ (?_ : K _ _ _ _ _ _)
  refine hW _ _ [(3, .int (nI (0))), (1, .long (ckP P (0))), (0, .ref 1)] _ _ _ _ (by simp [show ckP P 0 = lN 17 from rfl]) ?_
  refine up (P := fun k => K 6 [(3, .int (nI (k))), (1, .long (ckP P (k))), (0, .ref 1)] [] (b, wl P R u v w kb f g e T) 0 0) 6 0 ?_ ?_ (by decide)
  · skip
    iterate 2 refine hK _ _ _ _ _ _ (?_ : K _ _ _ _ _ _)
    refine hK _ _ _ _ _ _ (And.intro (fun _ => ?_) (fun c9 => absurd (nI_le (Nat.le_refl 6) (by decide)) c9))
    iterate 2 refine hK _ _ _ _ _ _ (?_ : K _ _ _ _ _ _)
    refine hK _ _ _ _ _ _ (r_get rfl rfl rfl (?_ : K _ _ _ _ _ _))
    refine hK _ _ _ _ _ _ (r_callS rfl (fun _ => rfl) (b0 rfl rfl rfl) (kX6_checksumOn (q := 8) (s := R) rfl (?_ : K _ _ _ _ _ _)))
    exact hK _ _ _ _ _ _ (r_lret rfl rfl rfl hQ)
  · intro k h0k hk ihk
    iterate 2 refine hK _ _ _ _ _ _ (?_ : K _ _ _ _ _ _)
    refine hK _ _ _ _ _ _ (And.intro (fun c9 => absurd c9 (nI_ge (by omega) (by decide))) (fun _ => ?_))
    iterate 2 refine hK _ _ _ _ _ _ (?_ : K _ _ _ _ _ _)
    refine hK _ _ _ _ _ _ (r_get rfl rfl rfl (?_ : K _ _ _ _ _ _))
    iterate 1 refine hK _ _ _ _ _ _ (?_ : K _ _ _ _ _ _)
    refine hK _ _ _ _ _ _ (r_aald rfl (f := shF) (N := 6) rfl (vp_in_nI hk (by decide)) (shF_at hk) (?_ : K _ _ _ _ _ _))
    refine hK _ _ _ _ _ _ (r_callS rfl (fun _ => rfl) (b0 rfl rfl rfl) (kX6_checksumOn (q := 2 + k) (s := P k) (wl_P hk) (?_ : K _ _ _ _ _ _)))
    iterate 3 refine hK _ _ _ _ _ _ (?_ : K _ _ _ _ _ _)
    rw [nI_add k 1]
    first | exact ihk | exact hW _ _ _ _ _ _ _ (by simp) ihk

end HW
