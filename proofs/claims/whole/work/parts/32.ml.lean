section ML
/-! the reference: its objects, what they hold -/
abbrev zA (n : Nat) (f : Nat → Int32) : va_E := .inl (1, n, .inl f)
abbrev ilA (n : Nat) (f : Nat → Int64) : va_E := .inl (2, n, .inr (.inl f))
abbrev mdO (km th : Int32) : va_E := .inr (5, [.ref 25, .ref 26, .ref 27, .ref 28, .ref 29, .ref 30, .int km, .int th])
def mW (X : Nat → va_E) (A mk ro nx pi : Nat → Int32) (kp : Nat → Int64) (km th : Int32) (T : List va_E) : List va_E :=
  X 0 :: X 1 :: X 2 :: X 3 :: X 4 :: X 5 :: X 6 :: X 7 :: X 8 :: X 9 :: X 10 :: X 11 :: X 12 :: X 13 :: X 14 :: X 15 :: X 16 :: X 17 :: X 18 :: X 19 :: X 20 :: X 21 :: X 22 :: mdO km th :: zA 768 A :: zA 128 mk :: zA 128 ro :: zA 128 nx :: iaA pi :: ilA 36 kp :: T
def MI (P : Nat → Nat → Bool) (A : Nat → Int32) : Prop := ∀ p, p < 6 → ∀ i, 1 ≤ i → i < 128 → A (128 * p + i) = b2i (P p i)
def RI (R : Nat → Bool) (ro : Nat → Int32) : Prop := ∀ i, 1 ≤ i → i < 128 → ro i = b2i (R i)
theorem nI_mul (a b : Nat) : nI a * nI b = nI (a * b) := (Int32.ofNat_mul a b).symm
theorem nI_p0 (a : Nat) : nI a + nI 0 = nI a := by rw [nI_add, Nat.add_zero]
theorem nar_b (c : Bool) : vp_nar .boolean (b2i c) = b2i c := by cases c <;> rfl
theorem nar_0 : vp_nar .boolean (nI 0) = nI 0 := rfl
theorem nar_1 : vp_nar .boolean (nI 1) = nI 1 := rfl
/-- from the place B on, the places of k faces hold a set -/
def fl (B : Nat) (A : Nat → Int32) (s : Nat → Bool) (k : Nat) : Nat → Int32 := fun j => if B + 1 ≤ j ∧ j < B + k then b2i (s (j - B)) else A j
theorem fl_1 (B : Nat) (A : Nat → Int32) (s : Nat → Bool) : fl B A s 1 = A := by funext j; exact if_neg (by omega)
theorem fl_in {B : Nat} {A : Nat → Int32} {s : Nat → Bool} {k i : Nat} (h1 : 1 ≤ i) (h2 : i < k) : fl B A s k (B + i) = b2i (s i) := by
  unfold fl
  rw [if_pos (by omega), Nat.add_sub_cancel_left]
theorem fl_out {B : Nat} {A : Nat → Int32} {s : Nat → Bool} {k j : Nat} (h : j ≤ B ∨ B + k ≤ j) : fl B A s k j = A j := if_neg (by omega)
theorem fl_s {B : Nat} {A : Nat → Int32} {s : Nat → Bool} {k : Nat} (h1 : 1 ≤ k) : upd (fl B A s k) (B + k) (b2i (s k)) = fl B A s (k + 1) := by
  funext j
  show (if j = B + k then b2i (s k) else fl B A s k j) = _
  unfold fl
  by_cases e : j = B + k
  · subst e; rw [if_pos rfl, if_pos (by omega), Nat.add_sub_cancel_left]
  · rw [if_neg e]
    by_cases h : B + 1 ≤ j ∧ j < B + k
    · rw [if_pos h, if_pos (by omega)]
    · rw [if_neg h, if_neg (by omega)]
theorem fl_k {B : Nat} {A : Nat → Int32} {s : Nat → Bool} {k : Nat} (h1 : 1 ≤ k) (h : A (B + k) = b2i (s k)) : fl B A s (k + 1) = fl B A s k := by
  rw [← fl_s h1]
  funext j
  show (if j = B + k then b2i (s k) else fl B A s k j) = _
  by_cases e : j = B + k
  · subst e; rw [if_pos rfl, fl_out (by omega), h]
  · rw [if_neg e]
theorem fl_MI {P : Nat → Nat → Bool} {A : Nat → Int32} {s : Nat → Bool} {t : Nat} (h : MI P A) : MI (setP P t s) (fl (128 * t) A s 128) := fun p hp i h1 h2 => by
  by_cases e : p = t
  · subst e; rw [fl_in h1 h2, setP_s]
  · rw [fl_out (by omega), setP_n _ _ e]; exact h p hp i h1 h2
theorem MI_c {P P2 : Nat → Nat → Bool} {A : Nat → Int32} (h : ∀ p, p < 6 → ∀ i, 1 ≤ i → i < 128 → P p i = P2 p i) (hA : MI P A) : MI P2 A := fun p hp i h1 h2 => by rw [← h p hp i h1 h2]; exact hA p hp i h1 h2
theorem fl_RI {R : Nat → Int32} {s : Nat → Bool} : RI s (fl 0 R s 128) := fun i h1 h2 => by
  have := fl_in (B := 0) (A := R) (s := s) (k := 128) h1 h2
  rw [Nat.zero_add] at this; exact this
section R5
variable {S : Nat × (Nat → Int32)} {TT : Nat → eM} {C : eC} {M : eM} {d : Nat} {Q : eQ} {K : eK} {pc n a b c x : Nat} {ls : eL} {st r : List Value} {h : eH} {kc ks : Nat}
theorem r_zastF {q N B k : Nat} {f : Nat → Int32} {s : Nat → Bool} {i x1 : Int32} (hat : eAt (mPr M) pc = some (.bastore, n, a, b, c)) (hi : i = nI (B + k)) (hx : vp_nar .boolean x1 = b2i (s k)) (hk1 : 1 ≤ k) (hN : B + k < N) (hN2 : N < 2 ^ 31) (hk : h.2[q]? = some (zA N (fl B f s k))) (kk : K n ls r (h.1, h.2.set q (zA N (fl B f s (k + 1)))) kc ks) : eStep S TT C M d Q K pc ls (.int x1 :: .int i :: .ref (q + 1) :: r) h kc ks := by
  subst hi
  refine r_zast' hat hk (vp_in_nI hN hN2) ?_ kk
  rw [nI_clamp (by omega), hx, fl_s hk1]
end R5
theorem cb_ok : ∀ k, k < 7 → ∀ f, f < 128 → (nI f >>> (nI k &&& 31)) &&& nI 1 = b2i (f.testBit k) := by decide +kernel
theorem b2i_1 {c : Bool} : b2i c = nI 1 ↔ c = true := by cases c <;> decide +kernel
theorem rng_or {a m : Nat} {x : Int32} (ha : a < 2 ^ 31) (hm : m < 2 ^ 31) (h : x < nI a ∨ nI m < x) : rng a (m + 1) x = none := by
  rcases h with h | h
  · exact rng_lo ha h
  · exact rng_hi1 hm (fun c => by rw [Int32.le_iff_toInt_le] at c; rw [Int32.lt_iff_toInt_lt] at h; omega)
theorem rng_an {a m : Nat} {x : Int32} (ha : a < 2 ^ 31) (hm : m + 1 < 2 ^ 31) (h1 : ¬ x < nI a) (h2 : ¬ nI m < x) : ∃ k, a ≤ k ∧ k < m + 1 ∧ x = nI k ∧ rng a (m + 1) x = some k :=
  rng_i2 ha hm h1 (by rw [Int32.lt_iff_toInt_lt] at h2; rw [Int32.le_iff_toInt_le]; omega)
set_option maxRecDepth 10000 in
/-- Model.isIn -/
theorem kX7_isIn {S : Nat × (Nat → Int32)} {d : Nat} {h : eH} {Q : eQ} {x l m : Int32} (h0 : x < l ∨ m < x → Q (.inl (some (.int (nI 0)))) h) (h1 : ¬ x < l → ¬ m < x → Q (.inl (some (.int (nI 1)))) h) : okCall S MT (d + 1) nX7_isIn [.int x, .int l, .int m] h Q := by
  refine okc (M := MX7_isIn) rfl rfl fun K hK hW => ?_
  show K 0 [(0, .int x), (1, .int l), (2, .int m)] [] h 0 0
  iterate 2 refine hK _ _ _ _ _ _ (?_ : K _ _ _ _ _ _)
  refine hK _ _ _ _ _ _ (And.intro (fun c1 => ?_) (fun c1 => ?_))
  · skip
    iterate 1 refine hK _ _ _ _ _ _ (?_ : K _ _ _ _ _ _)
    exact hK _ _ _ _ _ _ (r_iret rfl rfl rfl rfl (h0 (Or.inl c1)))
  · skip
    iterate 2 refine hK _ _ _ _ _ _ (?_ : K _ _ _ _ _ _)
    refine hK _ _ _ _ _ _ (And.intro (fun c2 => ?_) (fun c2 => ?_))
    · skip
      iterate 1 refine hK _ _ _ _ _ _ (?_ : K _ _ _ _ _ _)
      exact hK _ _ _ _ _ _ (r_iret rfl rfl rfl rfl (h0 (Or.inr c2)))
    · skip
      iterate 2 refine hK _ _ _ _ _ _ (?_ : K _ _ _ _ _ _)
      exact hK _ _ _ _ _ _ (r_iret rfl rfl rfl rfl (h1 c1 c2))

set_option maxRecDepth 10000 in
/-- Model.isPlace -/
theorem kX7_isPlace {S : Nat × (Nat → Int32)} {d : Nat} {h : eH} {Q : eQ} {x : Int32} (h0 : rng 0 6 x = none → Q (.inl (some (.int (nI 0)))) h) (h1 : ∀ k, 0 ≤ k → k < 6 → x = nI k → rng 0 6 x = some k → Q (.inl (some (.int (nI 1)))) h) : okCall S MT (d + 2) nX7_isPlace [.int x] h Q := by
  refine okc (M := MX7_isPlace) rfl rfl fun K hK hW => ?_
  show K 0 [(0, .int x)] [] h 0 0
  iterate 3 refine hK _ _ _ _ _ _ (?_ : K _ _ _ _ _ _)
  refine hK _ _ _ _ _ _ (r_callS rfl (fun _ => rfl) (b0 rfl rfl rfl) (kX7_isIn (fun h9 => (?_ : K _ _ _ _ _ _)) (fun h8 h9 => (?_ : K _ _ _ _ _ _))))
  · skip
    have hn := rng_or (a := 0) (m := 5) (by decide) (by decide) h9
    exact hK _ _ _ _ _ _ (r_iret rfl rfl rfl rfl (h0 hn))
  · skip
    obtain ⟨k, hk1, hk2, hk3, hk4⟩ := rng_an (a := 0) (m := 5) (by decide) (by decide) h8 h9
    exact hK _ _ _ _ _ _ (r_iret rfl rfl rfl rfl (h1 k hk1 hk2 hk3 hk4))

set_option maxRecDepth 10000 in
/-- Model.isFace -/
theorem kX7_isFace {S : Nat × (Nat → Int32)} {d : Nat} {h : eH} {Q : eQ} {x : Int32} (h0 : rng 1 128 x = none → Q (.inl (some (.int (nI 0)))) h) (h1 : ∀ k, 1 ≤ k → k < 128 → x = nI k → rng 1 128 x = some k → Q (.inl (some (.int (nI 1)))) h) : okCall S MT (d + 2) nX7_isFace [.int x] h Q := by
  refine okc (M := MX7_isFace) rfl rfl fun K hK hW => ?_
  show K 0 [(0, .int x)] [] h 0 0
  iterate 3 refine hK _ _ _ _ _ _ (?_ : K _ _ _ _ _ _)
  refine hK _ _ _ _ _ _ (r_callS rfl (fun _ => rfl) (b0 rfl rfl rfl) (kX7_isIn (fun h9 => (?_ : K _ _ _ _ _ _)) (fun h8 h9 => (?_ : K _ _ _ _ _ _))))
  · skip
    have hn := rng_or (a := 1) (m := 127) (by decide) (by decide) h9
    exact hK _ _ _ _ _ _ (r_iret rfl rfl rfl rfl (h0 hn))
  · skip
    obtain ⟨k, hk1, hk2, hk3, hk4⟩ := rng_an (a := 1) (m := 127) (by decide) (by decide) h8 h9
    exact hK _ _ _ _ _ _ (r_iret rfl rfl rfl rfl (h1 k hk1 hk2 hk3 hk4))

set_option maxRecDepth 10000 in
/-- Model.isCorner -/
theorem kX7_isCorner {S : Nat × (Nat → Int32)} {d : Nat} {h : eH} {Q : eQ} {x : Int32} (h0 : rng 0 7 x = none → Q (.inl (some (.int (nI 0)))) h) (h1 : ∀ k, 0 ≤ k → k < 7 → x = nI k → rng 0 7 x = some k → Q (.inl (some (.int (nI 1)))) h) : okCall S MT (d + 2) nX7_isCorner [.int x] h Q := by
  refine okc (M := MX7_isCorner) rfl rfl fun K hK hW => ?_
  show K 0 [(0, .int x)] [] h 0 0
  iterate 3 refine hK _ _ _ _ _ _ (?_ : K _ _ _ _ _ _)
  refine hK _ _ _ _ _ _ (r_callS rfl (fun _ => rfl) (b0 rfl rfl rfl) (kX7_isIn (fun h9 => (?_ : K _ _ _ _ _ _)) (fun h8 h9 => (?_ : K _ _ _ _ _ _))))
  · skip
    have hn := rng_or (a := 0) (m := 6) (by decide) (by decide) h9
    exact hK _ _ _ _ _ _ (r_iret rfl rfl rfl rfl (h0 hn))
  · skip
    obtain ⟨k, hk1, hk2, hk3, hk4⟩ := rng_an (a := 0) (m := 6) (by decide) (by decide) h8 h9
    exact hK _ _ _ _ _ _ (r_iret rfl rfl rfl rfl (h1 k hk1 hk2 hk3 hk4))

set_option maxRecDepth 10000 in
/-- Model.isHeight -/
theorem kX7_isHeight {S : Nat × (Nat → Int32)} {d : Nat} {h : eH} {Q : eQ} {x : Int32} (h0 : rng 0 7 x = none → Q (.inl (some (.int (nI 0)))) h) (h1 : ∀ k, 0 ≤ k → k < 7 → x = nI k → rng 0 7 x = some k → Q (.inl (some (.int (nI 1)))) h) : okCall S MT (d + 2) nX7_isHeight [.int x] h Q := by
  refine okc (M := MX7_isHeight) rfl rfl fun K hK hW => ?_
  show K 0 [(0, .int x)] [] h 0 0
  iterate 3 refine hK _ _ _ _ _ _ (?_ : K _ _ _ _ _ _)
  refine hK _ _ _ _ _ _ (r_callS rfl (fun _ => rfl) (b0 rfl rfl rfl) (kX7_isIn (fun h9 => (?_ : K _ _ _ _ _ _)) (fun h8 h9 => (?_ : K _ _ _ _ _ _))))
  · skip
    have hn := rng_or (a := 0) (m := 6) (by decide) (by decide) h9
    exact hK _ _ _ _ _ _ (r_iret rfl rfl rfl rfl (h0 hn))
  · skip
    obtain ⟨k, hk1, hk2, hk3, hk4⟩ := rng_an (a := 0) (m := 6) (by decide) (by decide) h8 h9
    exact hK _ _ _ _ _ _ (r_iret rfl rfl rfl rfl (h1 k hk1 hk2 hk3 hk4))

set_option maxRecDepth 10000 in
/-- Model.isPart -/
theorem kX7_isPart {S : Nat × (Nat → Int32)} {d : Nat} {h : eH} {Q : eQ} {i j : Nat} (hi : i < 128) (hQ : Q (.inl (some (.int (b2i (isP i j))))) h) : okCall S MT (d + 1) nX7_isPart [.int (nI i), .int (nI j)] h Q := by
  refine okc (M := MX7_isPart) rfl rfl fun K hK hW => ?_
  show K 0 [(0, .int (nI i)), (1, .int (nI j))] [] h 0 0
  iterate 4 refine hK _ _ _ _ _ _ (?_ : K _ _ _ _ _ _)
  refine hK _ _ _ _ _ _ (And.intro (fun c1 => ?_) (fun c1 => ?_))
  · skip
    iterate 2 refine hK _ _ _ _ _ _ (?_ : K _ _ _ _ _ _)
    exact hK _ _ _ _ _ _ (r_iret rfl rfl rfl rfl (b2i_t ((isP_I hi).mp c1) ▸ hQ))
  · skip
    iterate 1 refine hK _ _ _ _ _ _ (?_ : K _ _ _ _ _ _)
    exact hK _ _ _ _ _ _ (r_iret rfl rfl rfl rfl (b2i_f (Bool.eq_false_iff.mpr fun c => c1 ((isP_I hi).mpr c)) ▸ hQ))

def pcK (i k : Nat) : Nat := fb_ct (fun j => i.testBit j) k
theorem pcK_s (i k : Nat) : nI (pcK i k) + b2i (i.testBit k) = nI (pcK i (k + 1)) := by
  show _ = nI (pcK i k + (if i.testBit k then 1 else 0))
  cases i.testBit k with
  | true => exact nI_add _ 1
  | false => exact nI_p0 _
set_option maxRecDepth 10000 in
/-- Model.cornersOf -/
theorem kX7_cornersOf {S : Nat × (Nat → Int32)} {d : Nat} {h : eH} {Q : eQ} {i : Nat} (hi : i < 128) (hQ : Q (.inl (some (.int (nI (pc i))))) h) : okCall S MT (d + 1) nX7_cornersOf [.int (nI i)] h Q := by
  refine okc (M := MX7_cornersOf) rfl rfl fun K hK hW => ?_
  show K 0 [(0, .int (nI i))] [] h 0 0
  iterate 4 refine hK _ _ _ _ _ _ (?_ : K _ _ _ _ _ _)
  refine hW _ _ [(2, .int (nI (0))), (1, .int (nI (pcK i (0)))), (0, .int (nI i))] _ _ _ _ (by simp [show pcK i 0 = 0 from rfl]) ?_
  refine up (P := fun k => K 4 [(2, .int (nI (k))), (1, .int (nI (pcK i (k)))), (0, .int (nI i))] [] h 0 0) 7 0 ?_ ?_ (by decide)
  · skip
    iterate 2 refine hK _ _ _ _ _ _ (?_ : K _ _ _ _ _ _)
    refine hK _ _ _ _ _ _ (And.intro (fun _ => ?_) (fun c9 => absurd (nI_le (Nat.le_refl 7) (by decide)) c9))
    iterate 1 refine hK _ _ _ _ _ _ (?_ : K _ _ _ _ _ _)
    exact hK _ _ _ _ _ _ (r_iret rfl rfl rfl rfl hQ)
  · intro k h0k hk ihk
    iterate 2 refine hK _ _ _ _ _ _ (?_ : K _ _ _ _ _ _)
    refine hK _ _ _ _ _ _ (And.intro (fun c9 => absurd c9 (nI_ge (by omega) (by decide))) (fun _ => ?_))
    iterate 10 refine hK _ _ _ _ _ _ (?_ : K _ _ _ _ _ _)
    rw [cb_ok k hk i hi, pcK_s, nI_add k 1]
    first | exact ihk | exact hW _ _ _ _ _ _ _ (by simp) ihk

set_option maxRecDepth 10000 in
/-- Model.height -/
theorem kX7_height {S : Nat × (Nat → Int32)} {d : Nat} {h : eH} {Q : eQ} {i : Nat} (hi : i < 128) (hi1 : 1 ≤ i) (hQ : Q (.inl (some (.int (nI (ht i))))) h) : okCall S MT (d + 2) nX7_height [.int (nI i)] h Q := by
  refine okc (M := MX7_height) rfl rfl fun K hK hW => ?_
  show K 0 [(0, .int (nI i))] [] h 0 0
  iterate 1 refine hK _ _ _ _ _ _ (?_ : K _ _ _ _ _ _)
  refine hK _ _ _ _ _ _ (r_callS rfl (fun _ => rfl) (b0 rfl rfl rfl) (kX7_cornersOf hi (?_ : K _ _ _ _ _ _)))
  iterate 2 refine hK _ _ _ _ _ _ (?_ : K _ _ _ _ _ _)
  rw [nI_sub (pc i) 1 (ht i) (by have := pc_pos i hi (by omega); unfold ht; omega)]
  exact hK _ _ _ _ _ _ (r_iret rfl rfl rfl rfl hQ)

set_option maxRecDepth 10000 in
/-- Model.isThere -/
theorem kX7_isThere {S : Nat × (Nat → Int32)} {d : Nat} {Q : eQ} {b : Bool} {X : Nat → va_E} {A mk ro nx pi : Nat → Int32} {kp : Nat → Int64} {km th : Int32} {T : List va_E} {P : Nat → Nat → Bool} {p i : Nat} (hA : MI P A) (hp : p < 6) (hi1 : 1 ≤ i) (hi : i < 128) (hQ : Q (.inl (some (.int (b2i (P p i))))) (b, mW X A mk ro nx pi kp km th T)) : okCall S MT (d + 1) nX7_isThere [.ref 24, .int (nI p), .int (nI i)] (b, mW X A mk ro nx pi kp km th T) Q := by
  refine okc (M := MX7_isThere) rfl rfl fun K hK hW => ?_
  show K 0 [(0, .ref 24), (1, .int (nI p)), (2, .int (nI i))] [] (b, mW X A mk ro nx pi kp km th T) 0 0
  iterate 1 refine hK _ _ _ _ _ _ (?_ : K _ _ _ _ _ _)
  refine hK _ _ _ _ _ _ (r_get rfl rfl rfl (?_ : K _ _ _ _ _ _))
  iterate 5 refine hK _ _ _ _ _ _ (?_ : K _ _ _ _ _ _)
  rw [nI_mul, nI_add]
  refine hK _ _ _ _ _ _ (r_zald' (v := b2i (P p i)) rfl (N := 768) (f := A) rfl (vp_in_nI (by omega) (by decide)) (by rw [nI_clamp (by omega)]; exact hA p hp i hi1 hi) (?_ : K _ _ _ _ _ _))
  exact hK _ _ _ _ _ _ (r_iret rfl (b2i_nar _) rfl rfl hQ)

set_option maxRecDepth 10000 in
/-- Model.sizeOf -/
theorem kX7_sizeOf {S : Nat × (Nat → Int32)} {d : Nat} {Q : eQ} {b : Bool} {X : Nat → va_E} {A mk ro nx pi : Nat → Int32} {kp : Nat → Int64} {km th : Int32} {T : List va_E} {P : Nat → Nat → Bool} {p : Nat} (hA : MI P A) (hp : p < 6) (hQ : Q (.inl (some (.int (nI (cF (P p) 128))))) (b, mW X A mk ro nx pi kp km th T)) : okCall S MT (d + 2) nX7_sizeOf [.ref 24, .int (nI p)] (b, mW X A mk ro nx pi kp km th T) Q := by
  refine okc (M := MX7_sizeOf) rfl rfl fun K hK hW => ?_
  show K 0 [(0, .ref 24), (1, .int (nI p))] [] (b, mW X A mk ro nx pi kp km th T) 0 0
  iterate 4 refine hK _ _ _ _ _ _ (?_ : K _ _ _ _ _ _)
  refine hW _ _ [(3, .int (nI (1))), (2, .int (nI (cF (P p) (1)))), (0, .ref 24), (1, .int (nI p))] _ _ _ _ (by simp [cF_1]) ?_
  refine up (P := fun k => K 4 [(3, .int (nI (k))), (2, .int (nI (cF (P p) (k)))), (0, .ref 24), (1, .int (nI p))] [] (b, mW X A mk ro nx pi kp km th T) 0 0) 128 1 ?_ ?_ (by decide)
  · skip
    iterate 2 refine hK _ _ _ _ _ _ (?_ : K _ _ _ _ _ _)
    refine hK _ _ _ _ _ _ (And.intro (fun _ => ?_) (fun c9 => absurd (nI_le (Nat.le_refl 128) (by decide)) c9))
    iterate 1 refine hK _ _ _ _ _ _ (?_ : K _ _ _ _ _ _)
    exact hK _ _ _ _ _ _ (r_iret rfl rfl rfl rfl hQ)
  · intro k h0k hk ihk
    iterate 2 refine hK _ _ _ _ _ _ (?_ : K _ _ _ _ _ _)
    refine hK _ _ _ _ _ _ (And.intro (fun c9 => absurd c9 (nI_ge (by omega) (by decide))) (fun _ => ?_))
    iterate 4 refine hK _ _ _ _ _ _ (?_ : K _ _ _ _ _ _)
    refine hK _ _ _ _ _ _ (r_callV rfl (fun _ => rfl) rfl (b0 rfl rfl rfl) (kX7_isThere (i := k) hA hp (by omega) (by omega) (?_ : K _ _ _ _ _ _)))
    refine hK _ _ _ _ _ _ (And.intro (fun c1 => ?_) (fun c1 => ?_))
    · skip
      iterate 5 refine hK _ _ _ _ _ _ (?_ : K _ _ _ _ _ _)
      have e1 := (b2i_0.mp c1)
      rw [cF_f e1] at ihk
      rw [nI_add k 1, nI_p0]
      first | exact ihk | exact hW _ _ _ _ _ _ _ (by simp) ihk
    · skip
      iterate 6 refine hK _ _ _ _ _ _ (?_ : K _ _ _ _ _ _)
      have e1 := (Bool.of_not_eq_false fun c9 => c1 (b2i_0.mpr c9))
      rw [cF_t (by omega) e1, nI_add k 1]
      first | exact ihk | exact hW _ _ _ _ _ _ _ (by simp) ihk

set_option maxRecDepth 10000 in
/-- Model.cornersAt -/
theorem kX7_cornersAt {S : Nat × (Nat → Int32)} {d : Nat} {Q : eQ} {b : Bool} {X : Nat → va_E} {A mk ro nx pi : Nat → Int32} {kp : Nat → Int64} {km th : Int32} {T : List va_E} {P : Nat → Nat → Bool} {p : Nat} (hA : MI P A) (hp : p < 6) (hQ : Q (.inl (some (.int (nI (orF (P p) 128))))) (b, mW X A mk ro nx pi kp km th T)) : okCall S MT (d + 2) nX7_cornersAt [.ref 24, .int (nI p)] (b, mW X A mk ro nx pi kp km th T) Q := by
  refine okc (M := MX7_cornersAt) rfl rfl fun K hK hW => ?_
  show K 0 [(0, .ref 24), (1, .int (nI p))] [] (b, mW X A mk ro nx pi kp km th T) 0 0
  iterate 4 refine hK _ _ _ _ _ _ (?_ : K _ _ _ _ _ _)
  refine hW _ _ [(3, .int (nI (1))), (2, .int (nI (orF (P p) (1)))), (0, .ref 24), (1, .int (nI p))] _ _ _ _ (by simp [show orF (P p) 1 = 0 from rfl]) ?_
  refine up (P := fun k => K 4 [(3, .int (nI (k))), (2, .int (nI (orF (P p) (k)))), (0, .ref 24), (1, .int (nI p))] [] (b, mW X A mk ro nx pi kp km th T) 0 0) 128 1 ?_ ?_ (by decide)
  · skip
    iterate 2 refine hK _ _ _ _ _ _ (?_ : K _ _ _ _ _ _)
    refine hK _ _ _ _ _ _ (And.intro (fun _ => ?_) (fun c9 => absurd (nI_le (Nat.le_refl 128) (by decide)) c9))
    iterate 1 refine hK _ _ _ _ _ _ (?_ : K _ _ _ _ _ _)
    exact hK _ _ _ _ _ _ (r_iret rfl rfl rfl rfl hQ)
  · intro k h0k hk ihk
    iterate 2 refine hK _ _ _ _ _ _ (?_ : K _ _ _ _ _ _)
    refine hK _ _ _ _ _ _ (And.intro (fun c9 => absurd c9 (nI_ge (by omega) (by decide))) (fun _ => ?_))
    iterate 4 refine hK _ _ _ _ _ _ (?_ : K _ _ _ _ _ _)
    refine hK _ _ _ _ _ _ (r_callV rfl (fun _ => rfl) rfl (b0 rfl rfl rfl) (kX7_isThere (i := k) hA hp (by omega) (by omega) (?_ : K _ _ _ _ _ _)))
    refine hK _ _ _ _ _ _ (And.intro (fun c1 => ?_) (fun c1 => ?_))
    · skip
      iterate 5 refine hK _ _ _ _ _ _ (?_ : K _ _ _ _ _ _)
      rw [or_f (b2i_0.mp c1)] at ihk
      rw [nI_add k 1, nx_or, Nat.or_zero]
      first | exact ihk | exact hW _ _ _ _ _ _ _ (by simp) ihk
    · skip
      iterate 6 refine hK _ _ _ _ _ _ (?_ : K _ _ _ _ _ _)
      rw [or_t (by omega) (Bool.of_not_eq_false fun c9 => c1 (b2i_0.mpr c9))] at ihk
      rw [nI_add k 1, nx_or]
      first | exact ihk | exact hW _ _ _ _ _ _ _ (by simp) ihk

theorem ov_t {s : Nat → Bool} {i k : Nat} (h1 : k ≠ i) (h2 : isP i k = true) (h3 : s k = true) : ovP s i k = true := by
  have := isP_le h2
  show (decide (i < k) && (isP i k && s k)) = true
  rw [decide_eq_true (by omega), h2, h3]; rfl
theorem ov_f {s : Nat → Bool} {i k : Nat} (h : k = i ∨ isP i k = false ∨ s k = false) : ovP s i k = false := by
  show (decide (i < k) && (isP i k && s k)) = false
  rcases h with h | h | h
  · subst h; rw [decide_eq_false (by omega)]; rfl
  · rw [h]; simp
  · rw [h]; simp
theorem ov_cF (s : Nat → Bool) (i : Nat) : cF (ovP s i) 128 = ovN s i := fb_ct_cong fun k _ => by
  show (decide (0 < k) && (decide (i < k) && _)) = (decide (i < k) && _)
  by_cases h : i < k
  · rw [decide_eq_true (show 0 < k by omega)]; rfl
  · rw [decide_eq_false h, Bool.false_and, Bool.and_false]
set_option maxRecDepth 10000 in
/-- Model.overAt -/
theorem kX7_overAt {S : Nat × (Nat → Int32)} {d : Nat} {Q : eQ} {b : Bool} {X : Nat → va_E} {A mk ro nx pi : Nat → Int32} {kp : Nat → Int64} {km th : Int32} {T : List va_E} {P : Nat → Nat → Bool} {p : Nat} (hA : MI P A) (hp : p < 6) {i : Nat} (hi : i < 128) (hQ : Q (.inl (some (.int (nI (ovN (P p) i))))) (b, mW X A mk ro nx pi kp km th T)) : okCall S MT (d + 2) nX7_overAt [.ref 24, .int (nI p), .int (nI i)] (b, mW X A mk ro nx pi kp km th T) Q := by
  refine okc (M := MX7_overAt) rfl rfl fun K hK hW => ?_
  show K 0 [(0, .ref 24), (1, .int (nI p)), (2, .int (nI i))] [] (b, mW X A mk ro nx pi kp km th T) 0 0
  iterate 4 refine hK _ _ _ _ _ _ (?_ : K _ _ _ _ _ _)
  refine hW _ _ [(4, .int (nI (1))), (3, .int (nI (cF (ovP (P p) i) (1)))), (0, .ref 24), (1, .int (nI p)), (2, .int (nI i))] _ _ _ _ (by simp [cF_1]) ?_
  refine up (P := fun k => K 5 [(4, .int (nI (k))), (3, .int (nI (cF (ovP (P p) i) (k)))), (0, .ref 24), (1, .int (nI p)), (2, .int (nI i))] [] (b, mW X A mk ro nx pi kp km th T) 0 0) 128 1 ?_ ?_ (by decide)
  · skip
    iterate 2 refine hK _ _ _ _ _ _ (?_ : K _ _ _ _ _ _)
    refine hK _ _ _ _ _ _ (And.intro (fun _ => ?_) (fun c9 => absurd (nI_le (Nat.le_refl 128) (by decide)) c9))
    iterate 1 refine hK _ _ _ _ _ _ (?_ : K _ _ _ _ _ _)
    rw [ov_cF]
    exact hK _ _ _ _ _ _ (r_iret rfl rfl rfl rfl hQ)
  · intro k h0k hk ihk
    iterate 2 refine hK _ _ _ _ _ _ (?_ : K _ _ _ _ _ _)
    refine hK _ _ _ _ _ _ (And.intro (fun c9 => absurd c9 (nI_ge (by omega) (by decide))) (fun _ => ?_))
    iterate 3 refine hK _ _ _ _ _ _ (?_ : K _ _ _ _ _ _)
    refine hK _ _ _ _ _ _ (And.intro (fun c1 => ?_) (fun c1 => ?_))
    · skip
      iterate 5 refine hK _ _ _ _ _ _ (?_ : K _ _ _ _ _ _)
      have e1 := ov_f (s := P p) (Or.inl ((nI_128 (by omega) (by omega)).mp c1))
      rw [cF_f e1] at ihk
      rw [nI_add k 1, nI_p0]
      first | exact ihk | exact hW _ _ _ _ _ _ _ (by simp) ihk
    · skip
      iterate 2 refine hK _ _ _ _ _ _ (?_ : K _ _ _ _ _ _)
      refine hK _ _ _ _ _ _ (r_callS rfl (fun _ => rfl) (b0 rfl rfl rfl) (kX7_isPart (i := i) hi (?_ : K _ _ _ _ _ _)))
      refine hK _ _ _ _ _ _ (And.intro (fun c2 => ?_) (fun c2 => ?_))
      · skip
        iterate 5 refine hK _ _ _ _ _ _ (?_ : K _ _ _ _ _ _)
        have e1 := ov_f (s := P p) (Or.inr (Or.inl (b2i_0.mp c2)))
        rw [cF_f e1] at ihk
        rw [nI_add k 1, nI_p0]
        first | exact ihk | exact hW _ _ _ _ _ _ _ (by simp) ihk
      · skip
        iterate 3 refine hK _ _ _ _ _ _ (?_ : K _ _ _ _ _ _)
        refine hK _ _ _ _ _ _ (r_callV rfl (fun _ => rfl) rfl (b0 rfl rfl rfl) (kX7_isThere (i := k) hA hp (by omega) (by omega) (?_ : K _ _ _ _ _ _)))
        refine hK _ _ _ _ _ _ (And.intro (fun c3 => ?_) (fun c3 => ?_))
        · skip
          iterate 5 refine hK _ _ _ _ _ _ (?_ : K _ _ _ _ _ _)
          have e1 := ov_f (s := P p) (i := i) (Or.inr (Or.inr (b2i_0.mp c3)))
          rw [cF_f e1] at ihk
          rw [nI_add k 1, nI_p0]
          first | exact ihk | exact hW _ _ _ _ _ _ _ (by simp) ihk
        · skip
          iterate 6 refine hK _ _ _ _ _ _ (?_ : K _ _ _ _ _ _)
          have e1 := ov_t (s := P p) (fun c9 => c1 (by rw [c9])) (Bool.of_not_eq_false fun c9 => c2 (b2i_0.mpr c9)) (Bool.of_not_eq_false fun c9 => c3 (b2i_0.mpr c9))
          rw [cF_t (by omega) e1, nI_add k 1]
          first | exact ihk | exact hW _ _ _ _ _ _ _ (by simp) ihk

def grB (s : Nat → Bool) (i : Nat) : Bool := s i && decide (ovN s i = 0)
theorem ovN_b (s : Nat → Bool) (i : Nat) : ovN s i < 2147483648 := Nat.lt_of_le_of_lt (fb_ct_le _ _) (by decide)
set_option maxRecDepth 10000 in
/-- Model.isGreatest -/
theorem kX7_isGreatest {S : Nat × (Nat → Int32)} {d : Nat} {Q : eQ} {b : Bool} {X : Nat → va_E} {A mk ro nx pi : Nat → Int32} {kp : Nat → Int64} {km th : Int32} {T : List va_E} {P : Nat → Nat → Bool} {p : Nat} (hA : MI P A) (hp : p < 6) {i : Nat} (hi1 : 1 ≤ i) (hi : i < 128) (hQ : Q (.inl (some (.int (b2i (grB (P p) i))))) (b, mW X A mk ro nx pi kp km th T)) : okCall S MT (d + 3) nX7_isGreatest [.ref 24, .int (nI p), .int (nI i)] (b, mW X A mk ro nx pi kp km th T) Q := by
  refine okc (M := MX7_isGreatest) rfl rfl fun K hK hW => ?_
  show K 0 [(0, .ref 24), (1, .int (nI p)), (2, .int (nI i))] [] (b, mW X A mk ro nx pi kp km th T) 0 0
  iterate 3 refine hK _ _ _ _ _ _ (?_ : K _ _ _ _ _ _)
  refine hK _ _ _ _ _ _ (r_callV rfl (fun _ => rfl) rfl (b0 rfl rfl rfl) (kX7_isThere (i := i) hA hp hi1 hi (?_ : K _ _ _ _ _ _)))
  refine hK _ _ _ _ _ _ (And.intro (fun c1 => ?_) (fun c1 => ?_))
  · skip
    iterate 1 refine hK _ _ _ _ _ _ (?_ : K _ _ _ _ _ _)
    have e1 : grB (P p) i = false := by unfold grB; rw [(b2i_0.mp c1)]; rfl
    rw [e1] at hQ
    exact hK _ _ _ _ _ _ (r_iret rfl rfl rfl rfl hQ)
  · skip
    iterate 3 refine hK _ _ _ _ _ _ (?_ : K _ _ _ _ _ _)
    refine hK _ _ _ _ _ _ (r_callV rfl (fun _ => rfl) rfl (b0 rfl rfl rfl) (kX7_overAt hA hp hi (?_ : K _ _ _ _ _ _)))
    refine hK _ _ _ _ _ _ (And.intro (fun c2 => ?_) (fun c2 => ?_))
    · skip
      iterate 2 refine hK _ _ _ _ _ _ (?_ : K _ _ _ _ _ _)
      have e1 : grB (P p) i = true := by unfold grB; rw [(Bool.of_not_eq_false fun c9 => c1 (b2i_0.mpr c9)), decide_eq_true ((nI_z (ovN_b _ _)).mp c2)]; rfl
      rw [e1] at hQ
      exact hK _ _ _ _ _ _ (r_iret rfl rfl rfl rfl hQ)
    · skip
      iterate 1 refine hK _ _ _ _ _ _ (?_ : K _ _ _ _ _ _)
      have e1 : grB (P p) i = false := by unfold grB; rw [decide_eq_false (fun c9 => c2 (by rw [c9]; rfl)), Bool.and_false]
      rw [e1] at hQ
      exact hK _ _ _ _ _ _ (r_iret rfl rfl rfl rfl hQ)

set_option maxRecDepth 10000 in
/-- Model.greatestOf -/
theorem kX7_greatestOf {S : Nat × (Nat → Int32)} {d : Nat} {Q : eQ} {b : Bool} {X : Nat → va_E} {A mk ro nx pi : Nat → Int32} {kp : Nat → Int64} {km th : Int32} {T : List va_E} {P : Nat → Nat → Bool} {p : Nat} (hA : MI P A) (hp : p < 6) (hQ : Q (.inl (some (.int (nI (cF (grB (P p)) 128))))) (b, mW X A mk ro nx pi kp km th T)) : okCall S MT (d + 4) nX7_greatestOf [.ref 24, .int (nI p)] (b, mW X A mk ro nx pi kp km th T) Q := by
  refine okc (M := MX7_greatestOf) rfl rfl fun K hK hW => ?_
  show K 0 [(0, .ref 24), (1, .int (nI p))] [] (b, mW X A mk ro nx pi kp km th T) 0 0
  iterate 4 refine hK _ _ _ _ _ _ (?_ : K _ _ _ _ _ _)
  refine hW _ _ [(3, .int (nI (1))), (2, .int (nI (cF (grB (P p)) (1)))), (0, .ref 24), (1, .int (nI p))] _ _ _ _ (by simp [cF_1]) ?_
  refine up (P := fun k => K 4 [(3, .int (nI (k))), (2, .int (nI (cF (grB (P p)) (k)))), (0, .ref 24), (1, .int (nI p))] [] (b, mW X A mk ro nx pi kp km th T) 0 0) 128 1 ?_ ?_ (by decide)
  · skip
    iterate 2 refine hK _ _ _ _ _ _ (?_ : K _ _ _ _ _ _)
    refine hK _ _ _ _ _ _ (And.intro (fun _ => ?_) (fun c9 => absurd (nI_le (Nat.le_refl 128) (by decide)) c9))
    iterate 1 refine hK _ _ _ _ _ _ (?_ : K _ _ _ _ _ _)
    exact hK _ _ _ _ _ _ (r_iret rfl rfl rfl rfl hQ)
  · intro k h0k hk ihk
    iterate 2 refine hK _ _ _ _ _ _ (?_ : K _ _ _ _ _ _)
    refine hK _ _ _ _ _ _ (And.intro (fun c9 => absurd c9 (nI_ge (by omega) (by decide))) (fun _ => ?_))
    iterate 4 refine hK _ _ _ _ _ _ (?_ : K _ _ _ _ _ _)
    refine hK _ _ _ _ _ _ (r_callV rfl (fun _ => rfl) rfl (b0 rfl rfl rfl) (kX7_isGreatest (i := k) hA hp (by omega) (by omega) (?_ : K _ _ _ _ _ _)))
    refine hK _ _ _ _ _ _ (And.intro (fun c1 => ?_) (fun c1 => ?_))
    · skip
      iterate 5 refine hK _ _ _ _ _ _ (?_ : K _ _ _ _ _ _)
      have e1 := (b2i_0.mp c1)
      rw [cF_f e1] at ihk
      rw [nI_add k 1, nI_p0]
      first | exact ihk | exact hW _ _ _ _ _ _ _ (by simp) ihk
    · skip
      iterate 6 refine hK _ _ _ _ _ _ (?_ : K _ _ _ _ _ _)
      have e1 := (Bool.of_not_eq_false fun c9 => c1 (b2i_0.mpr c9))
      rw [cF_t (by omega) e1, nI_add k 1]
      first | exact ihk | exact hW _ _ _ _ _ _ _ (by simp) ihk

set_option maxRecDepth 10000 in
/-- Model.facesOf -/
theorem kX7_facesOf {S : Nat × (Nat → Int32)} {d : Nat} {Q : eQ} {b : Bool} {X : Nat → va_E} {A mk ro nx pi : Nat → Int32} {kp : Nat → Int64} {km th : Int32} {T : List va_E} {P : Nat → Nat → Bool} {p : Nat} (hA : MI P A) (hp : p < 6) {t : Nat} (ht7 : t < 128) (hQ : Q (.inl (some (.int (nI (cnt (P p) t))))) (b, mW X A mk ro nx pi kp km th T)) : okCall S MT (d + 3) nX7_facesOf [.ref 24, .int (nI p), .int (nI t)] (b, mW X A mk ro nx pi kp km th T) Q := by
  refine okc (M := MX7_facesOf) rfl rfl fun K hK hW => ?_
  show K 0 [(0, .ref 24), (1, .int (nI p)), (2, .int (nI t))] [] (b, mW X A mk ro nx pi kp km th T) 0 0
  iterate 4 refine hK _ _ _ _ _ _ (?_ : K _ _ _ _ _ _)
  refine hW _ _ [(4, .int (nI (1))), (3, .int (nI (cF (fun i => decide (ht i = t) && P p i) (1)))), (0, .ref 24), (1, .int (nI p)), (2, .int (nI t))] _ _ _ _ (by simp [cF_1]) ?_
  refine up (P := fun k => K 5 [(4, .int (nI (k))), (3, .int (nI (cF (fun i => decide (ht i = t) && P p i) (k)))), (0, .ref 24), (1, .int (nI p)), (2, .int (nI t))] [] (b, mW X A mk ro nx pi kp km th T) 0 0) 128 1 ?_ ?_ (by decide)
  · skip
    iterate 2 refine hK _ _ _ _ _ _ (?_ : K _ _ _ _ _ _)
    refine hK _ _ _ _ _ _ (And.intro (fun _ => ?_) (fun c9 => absurd (nI_le (Nat.le_refl 128) (by decide)) c9))
    iterate 1 refine hK _ _ _ _ _ _ (?_ : K _ _ _ _ _ _)
    exact hK _ _ _ _ _ _ (r_iret rfl rfl rfl rfl hQ)
  · intro k h0k hk ihk
    iterate 2 refine hK _ _ _ _ _ _ (?_ : K _ _ _ _ _ _)
    refine hK _ _ _ _ _ _ (And.intro (fun c9 => absurd c9 (nI_ge (by omega) (by decide))) (fun _ => ?_))
    iterate 4 refine hK _ _ _ _ _ _ (?_ : K _ _ _ _ _ _)
    refine hK _ _ _ _ _ _ (r_callV rfl (fun _ => rfl) rfl (b0 rfl rfl rfl) (kX7_isThere (i := k) hA hp (by omega) (by omega) (?_ : K _ _ _ _ _ _)))
    refine hK _ _ _ _ _ _ (And.intro (fun c1 => ?_) (fun c1 => ?_))
    · skip
      iterate 5 refine hK _ _ _ _ _ _ (?_ : K _ _ _ _ _ _)
      have e1 : (fun i => decide (ht i = t) && P p i) k = false := (by show (decide (ht k = t) && P p k) = false; rw [(b2i_0.mp c1), Bool.and_false])
      rw [cF_f e1] at ihk
      rw [nI_add k 1, nI_p0]
      first | exact ihk | exact hW _ _ _ _ _ _ _ (by simp) ihk
    · skip
      iterate 1 refine hK _ _ _ _ _ _ (?_ : K _ _ _ _ _ _)
      refine hK _ _ _ _ _ _ (r_callS rfl (fun _ => rfl) (b0 rfl rfl rfl) (kX7_height (i := k) (by omega) (by omega) (?_ : K _ _ _ _ _ _)))
      iterate 1 refine hK _ _ _ _ _ _ (?_ : K _ _ _ _ _ _)
      refine hK _ _ _ _ _ _ (And.intro (fun c2 => ?_) (fun c2 => ?_))
      · skip
        iterate 6 refine hK _ _ _ _ _ _ (?_ : K _ _ _ _ _ _)
        have e1 : (fun i => decide (ht i = t) && P p i) k = true := (by show (decide (ht k = t) && P p k) = true; rw [(Bool.of_not_eq_false fun c9 => c1 (b2i_0.mpr c9)), decide_eq_true ((nI_128 (by have := ht_7 (show k < 128 by omega); omega) ht7).mp c2)]; rfl)
        rw [cF_t (by omega) e1, nI_add k 1]
        first | exact ihk | exact hW _ _ _ _ _ _ _ (by simp) ihk
      · skip
        iterate 5 refine hK _ _ _ _ _ _ (?_ : K _ _ _ _ _ _)
        have e1 : (fun i => decide (ht i = t) && P p i) k = false := (by show (decide (ht k = t) && P p k) = false; rw [decide_eq_false (fun c9 => c2 (by rw [c9]))]; rfl)
        rw [cF_f e1] at ihk
        rw [nI_add k 1, nI_p0]
        first | exact ihk | exact hW _ _ _ _ _ _ _ (by simp) ihk

set_option maxRecDepth 10000 in
/-- Model.keep -/
theorem kX7_keep {S : Nat × (Nat → Int32)} {d : Nat} {Q : eQ} {b : Bool} {X : Nat → va_E} {A mk ro nx pi : Nat → Int32} {kp : Nat → Int64} {km th : Int32} {T : List va_E} {t : Nat} {s : Nat → Bool} (ht6 : t < 6) (hm : RI s mk) {P : Nat → Nat → Bool} (hA : MI P A) (hQ : Q (.inl (some (.int (nI (cF s 128))))) (b, mW X (fl (128 * t) A s 128) mk ro nx pi kp km th T)) : okCall S MT (d + 3) nX7_keep [.ref 24, .int (nI t)] (b, mW X A mk ro nx pi kp km th T) Q := by
  refine okc (M := MX7_keep) rfl rfl fun K hK hW => ?_
  show K 0 [(0, .ref 24), (1, .int (nI t))] [] (b, mW X A mk ro nx pi kp km th T) 0 0
  iterate 2 refine hK _ _ _ _ _ _ (?_ : K _ _ _ _ _ _)
  have e0 := fl_1 (128 * t) A s
  rw [← e0]
  refine hW _ _ [(2, .int (nI (1))), (0, .ref 24), (1, .int (nI t))] _ _ _ _ (by simp) ?_
  refine up (P := fun k => K 2 [(2, .int (nI (k))), (0, .ref 24), (1, .int (nI t))] [] (b, mW X (fl (128 * t) A s (k)) mk ro nx pi kp km th T) 0 0) 128 1 ?_ ?_ (by decide)
  · skip
    iterate 2 refine hK _ _ _ _ _ _ (?_ : K _ _ _ _ _ _)
    refine hK _ _ _ _ _ _ (And.intro (fun _ => ?_) (fun c9 => absurd (nI_le (Nat.le_refl 128) (by decide)) c9))
    iterate 2 refine hK _ _ _ _ _ _ (?_ : K _ _ _ _ _ _)
    refine hK _ _ _ _ _ _ (r_callV rfl (fun _ => rfl) rfl (b0 rfl rfl rfl) (kX7_sizeOf (P := setP P t s) (fl_MI hA) ht6 (?_ : K _ _ _ _ _ _)))
    rw [setP_s]
    exact hK _ _ _ _ _ _ (r_iret rfl rfl rfl rfl hQ)
  · intro k h0k hk ihk
    iterate 2 refine hK _ _ _ _ _ _ (?_ : K _ _ _ _ _ _)
    refine hK _ _ _ _ _ _ (And.intro (fun c9 => absurd c9 (nI_ge (by omega) (by decide))) (fun _ => ?_))
    iterate 1 refine hK _ _ _ _ _ _ (?_ : K _ _ _ _ _ _)
    refine hK _ _ _ _ _ _ (r_get rfl rfl rfl (?_ : K _ _ _ _ _ _))
    iterate 6 refine hK _ _ _ _ _ _ (?_ : K _ _ _ _ _ _)
    refine hK _ _ _ _ _ _ (r_get rfl rfl rfl (?_ : K _ _ _ _ _ _))
    iterate 1 refine hK _ _ _ _ _ _ (?_ : K _ _ _ _ _ _)
    refine hK _ _ _ _ _ _ (r_zald' (v := b2i (s k)) rfl (N := 128) (f := mk) rfl (vp_in_nI (by omega) (by decide)) (by rw [nI_clamp (by omega)]; exact hm k (by omega) (by omega)) (?_ : K _ _ _ _ _ _))
    refine hK _ _ _ _ _ _ (r_zastF (B := 128 * t) (k := k) (N := 768) rfl (by rw [nI_mul, nI_add]) (nar_b _) (by omega) (by omega) (by decide) rfl (?_ : K _ _ _ _ _ _))
    show K _ _ _ (b, mW X (fl (128 * t) A s (k + 1)) mk ro nx pi kp km th T) _ _
    iterate 2 refine hK _ _ _ _ _ _ (?_ : K _ _ _ _ _ _)
    rw [nI_add k 1]
    first | exact ihk | exact hW _ _ _ _ _ _ _ (by simp) ihk

set_option maxRecDepth 10000 in
/-- Model.isWrong -/
theorem kX7_isWrong {S : Nat × (Nat → Int32)} {d : Nat} {Q : eQ} {b : Bool} {X : Nat → va_E} {A mk ro nx pi : Nat → Int32} {kp : Nat → Int64} {km th : Int32} {T : List va_E} {c : Int32} (h0 : c = 0 → Q (.inl (some (.int (nI 0)))) (b, mW X A mk ro nx pi kp km c T)) (h1 : ¬ c = 0 → Q (.inl (some (.int (nI 1)))) (b, mW X A mk ro nx pi kp km c T)) : okCall S MT (d + 1) nX7_isWrong [.ref 24, .int c] (b, mW X A mk ro nx pi kp km th T) Q := by
  refine okc (M := MX7_isWrong) rfl rfl fun K hK hW => ?_
  show K 0 [(0, .ref 24), (1, .int c)] [] (b, mW X A mk ro nx pi kp km th T) 0 0
  iterate 2 refine hK _ _ _ _ _ _ (?_ : K _ _ _ _ _ _)
  refine hK _ _ _ _ _ _ (r_put rfl rfl rfl rfl (?_ : K _ _ _ _ _ _))
  show K _ _ _ (b, mW X A mk ro nx pi kp km c T) _ _
  iterate 1 refine hK _ _ _ _ _ _ (?_ : K _ _ _ _ _ _)
  refine hK _ _ _ _ _ _ (And.intro (fun c1 => ?_) (fun c1 => ?_))
  · skip
    iterate 1 refine hK _ _ _ _ _ _ (?_ : K _ _ _ _ _ _)
    exact hK _ _ _ _ _ _ (r_iret rfl rfl rfl rfl (h0 c1))
  · skip
    iterate 2 refine hK _ _ _ _ _ _ (?_ : K _ _ _ _ _ _)
    exact hK _ _ _ _ _ _ (r_iret rfl rfl rfl rfl (h1 c1))

section W5
variable {S : Nat × (Nat → Int32)} {d : Nat} {Q : eQ} {b : Bool} {X : Nat → va_E} {A mk ro nx pi : Nat → Int32} {kp : Nat → Int64} {km th : Int32} {T : List va_E}
theorem kw_0 (hQ : Q (.inl (some (.int (nI 0)))) (b, mW X A mk ro nx pi kp km (nI 0) T)) : okCall S MT (d + 1) nX7_isWrong [.ref 24, .int (nI 0)] (b, mW X A mk ro nx pi kp km th T) Q := kX7_isWrong (fun _ => hQ) (fun c => absurd rfl c)
theorem kw_n {n : Nat} (h0 : n ≠ 0) (h9 : n < 10) (hQ : Q (.inl (some (.int (nI 1)))) (b, mW X A mk ro nx pi kp km (nI n) T)) : okCall S MT (d + 1) nX7_isWrong [.ref 24, .int (nI n)] (b, mW X A mk ro nx pi kp km th T) Q := kX7_isWrong (fun c => absurd ((nI_z (by omega)).mp c) h0) (fun _ => hQ)
end W5
set_option maxRecDepth 10000 in
/-- Model.thrown -/
theorem kX7_thrown {S : Nat × (Nat → Int32)} {d : Nat} {Q : eQ} {b : Bool} {X : Nat → va_E} {A mk ro nx pi : Nat → Int32} {kp : Nat → Int64} {km th : Int32} {T : List va_E} (hQ : Q (.inl (some (.int th))) (b, mW X A mk ro nx pi kp km th T)) : okCall S MT (d + 1) nX7_thrown [.ref 24] (b, mW X A mk ro nx pi kp km th T) Q := by
  refine okc (M := MX7_thrown) rfl rfl fun K hK hW => ?_
  show K 0 [(0, .ref 24)] [] (b, mW X A mk ro nx pi kp km th T) 0 0
  iterate 1 refine hK _ _ _ _ _ _ (?_ : K _ _ _ _ _ _)
  refine hK _ _ _ _ _ _ (r_get rfl rfl rfl (?_ : K _ _ _ _ _ _))
  exact hK _ _ _ _ _ _ (r_iret rfl rfl rfl rfl hQ)

set_option maxRecDepth 10000 in
/-- Model.missing -/
theorem kX7_missing {S : Nat × (Nat → Int32)} {d : Nat} {Q : eQ} {b : Bool} {X : Nat → va_E} {A mk ro nx pi : Nat → Int32} {kp : Nat → Int64} {km th : Int32} {T : List va_E} {P : Nat → Nat → Bool} {x y : Int32} (hA : MI P A) (h1 : rng 0 6 x = none → Q (.inl (some (.int (nI 1)))) (b, mW X A mk ro nx pi kp km th T)) (h2 : ∀ p, p < 6 → x = nI p → rng 0 6 x = some p → rng 1 128 y = none → Q (.inl (some (.int (nI 2)))) (b, mW X A mk ro nx pi kp km th T)) (h3 : ∀ p i, p < 6 → 1 ≤ i → i < 128 → x = nI p → y = nI i → rng 0 6 x = some p → rng 1 128 y = some i → P p i = false → Q (.inl (some (.int (nI 3)))) (b, mW X A mk ro nx pi kp km th T)) (h4 : ∀ p i, p < 6 → 1 ≤ i → i < 128 → x = nI p → y = nI i → rng 0 6 x = some p → rng 1 128 y = some i → P p i = true → Q (.inl (some (.int (nI 0)))) (b, mW X A mk ro nx pi kp km th T)) : okCall S MT (d + 3) nX7_missing [.ref 24, .int x, .int y] (b, mW X A mk ro nx pi kp km th T) Q := by
  refine okc (M := MX7_missing) rfl rfl fun K hK hW => ?_
  show K 0 [(0, .ref 24), (1, .int x), (2, .int y)] [] (b, mW X A mk ro nx pi kp km th T) 0 0
  iterate 1 refine hK _ _ _ _ _ _ (?_ : K _ _ _ _ _ _)
  refine hK _ _ _ _ _ _ (r_callS rfl (fun _ => rfl) (b0 rfl rfl rfl) (kX7_isPlace (fun h9 => (?_ : K _ _ _ _ _ _)) (fun p _ hp hx h9 => (?_ : K _ _ _ _ _ _))))
  · skip
    refine hK _ _ _ _ _ _ (And.intro (fun _ => ?_) (fun c9 => absurd (rfl) c9))
    iterate 2 refine hK _ _ _ _ _ _ (?_ : K _ _ _ _ _ _)
    exact hK _ _ _ _ _ _ (r_iret rfl rfl rfl rfl (h1 h9))
  · skip
    refine hK _ _ _ _ _ _ (And.intro (fun c9 => absurd c9 (nI1_0)) (fun _ => ?_))
    iterate 1 refine hK _ _ _ _ _ _ (?_ : K _ _ _ _ _ _)
    refine hK _ _ _ _ _ _ (r_callS rfl (fun _ => rfl) (b0 rfl rfl rfl) (kX7_isFace (fun h8 => (?_ : K _ _ _ _ _ _)) (fun i hi1 hi hy h8 => (?_ : K _ _ _ _ _ _))))
    · skip
      refine hK _ _ _ _ _ _ (And.intro (fun _ => ?_) (fun c9 => absurd (rfl) c9))
      iterate 2 refine hK _ _ _ _ _ _ (?_ : K _ _ _ _ _ _)
      exact hK _ _ _ _ _ _ (r_iret rfl rfl rfl rfl (h2 p hp hx h9 h8))
    · skip
      subst hx
      subst hy
      refine hK _ _ _ _ _ _ (And.intro (fun c9 => absurd c9 (nI1_0)) (fun _ => ?_))
      iterate 3 refine hK _ _ _ _ _ _ (?_ : K _ _ _ _ _ _)
      refine hK _ _ _ _ _ _ (r_callV rfl (fun _ => rfl) rfl (b0 rfl rfl rfl) (kX7_isThere (i := i) hA hp hi1 hi (?_ : K _ _ _ _ _ _)))
      refine hK _ _ _ _ _ _ (And.intro (fun c1 => ?_) (fun c1 => ?_))
      · skip
        iterate 2 refine hK _ _ _ _ _ _ (?_ : K _ _ _ _ _ _)
        exact hK _ _ _ _ _ _ (r_iret rfl rfl rfl rfl (h3 p i hp hi1 hi rfl rfl h9 h8 (b2i_0.mp c1)))
      · skip
        iterate 1 refine hK _ _ _ _ _ _ (?_ : K _ _ _ _ _ _)
        exact hK _ _ _ _ _ _ (r_iret rfl rfl rfl rfl (h4 p i hp hi1 hi rfl rfl h9 h8 (Bool.of_not_eq_false fun c9 => c1 (b2i_0.mpr c9))))

/-! what the reference's call must find behind it -/
def mQ (dv : Value) (cm : Nat → Nat) (o : Oc) (Q : eQ) (b : Bool) (X : Nat → va_E) (A ro : Nat → Int32) (T : List va_E) : Prop := match o with
  | .inl E => ∀ mk nx pi kp km, Q (.inl (some dv)) (b, mW X A mk ro nx pi kp km (nI (cm E)) T)
  | .inr (r, P2, R2) => ∀ A2 mk ro2 nx pi kp km, MI P2 A2 → RI R2 ro2 → Q (.inl (some r)) (b, mW X A2 mk ro2 nx pi kp km (nI 0) T)
section Mq
variable {dv : Value} {cm : Nat → Nat} {Q : eQ} {b : Bool} {X : Nat → va_E} {A A2 mk ro ro2 nx pi : Nat → Int32} {kp : Nat → Int64} {km th : Int32} {T : List va_E} {P P2 : Nat → Nat → Bool} {R R2 : Nat → Bool} {E a n j : Nat} {x : Int32} {k : Nat → Oc} {c : Bool} {o : Oc} {r : Value}
theorem mq_n (h : rng a n x = none) (hQ : mQ dv cm (oR E a n x k) Q b X A ro T) : Q (.inl (some dv)) (b, mW X A mk ro nx pi kp km (nI (cm E)) T) := by
  rw [oR_n h] at hQ; exact hQ _ _ _ _ _
theorem mq_s (h : rng a n x = some j) (hQ : mQ dv cm (oR E a n x k) Q b X A ro T) : mQ dv cm (k j) Q b X A ro T := by rw [oR_s h] at hQ; exact hQ
theorem mb_t (h : c = true) (hQ : mQ dv cm (oB E c o) Q b X A ro T) : mQ dv cm o Q b X A ro T := by rw [oB_t h] at hQ; exact hQ
theorem mb_f (h : c = false) (hQ : mQ dv cm (oB E c o) Q b X A ro T) : Q (.inl (some dv)) (b, mW X A mk ro nx pi kp km (nI (cm E)) T) := by
  rw [oB_f h] at hQ; exact hQ _ _ _ _ _
theorem mi (hQ : mQ dv cm (.inr (r, P2, R2)) Q b X A ro T) (hA : MI P2 A2) (hR : RI R2 ro2) : Q (.inl (some r)) (b, mW X A2 mk ro2 nx pi kp km (nI 0) T) := hQ _ _ _ _ _ _ _ hA hR
end Mq
def cmA : Nat → Nat
  | 0 => 1
  | 1 => 2
  | _ => 3
def cmF : Nat → Nat
  | 0 => 1
  | 1 => 2
  | 2 => 4
  | _ => 3
def cmR : Nat → Nat
  | 1 => 1
  | 2 => 2
  | _ => 3
def cmL : Nat → Nat
  | 0 => 1
  | _ => 2
end ML
