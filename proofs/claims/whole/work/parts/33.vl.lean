/-! what the reference counts and makes, against what the class does -/
section VL
theorem cF_fb {s : Nat → Bool} (h : s 0 = false) (n : Nat) : cF s n = fb_ct s n := fb_ct_cong fun k _ => by
  show (decide (0 < k) && s k) = s k
  by_cases e : k = 0
  · subst e; rw [h]; simp
  · rw [decide_eq_true (show 0 < k by omega)]; rfl
def puN (s : Nat → Bool) (i : Nat) : Nat → Bool := fun f => isP f i && !s f
theorem put_v (s : Nat → Bool) (i : Nat) : nI (fb_ct (sPar s i (i + 1)) 128) - nI (fb_ct s 128) = nI (cF (puN s i) 128) := by
  refine nI_sub _ _ _ ?_
  have h1 : fb_ct (fun k => s k || (decide (0 < k) && puN s i k)) 128 = fb_ct s 128 + fb_ct (fun k => decide (0 < k) && puN s i k) 128 := fb_ct_or fun k _ h => by
    obtain ⟨h1, h2⟩ := h
    have h2 : (decide (0 < k) && (isP k i && !s k)) = true := h2
    rw [h1] at h2
    simp at h2
  refine Eq.trans ?_ h1
  refine fb_ct_cong fun k _ => ?_
  show (s k || (decide (1 ≤ k) && (decide (k < i + 1) && isP k i))) = (s k || (decide (0 < k) && (isP k i && !s k)))
  cases hs : s k with
  | true => rfl
  | false =>
    cases hp : isP k i with
    | false => simp
    | true =>
      have := isP_le hp
      rw [decide_eq_true (show k < i + 1 by omega)]
      simp
      omega
def taN (s : Nat → Bool) (i : Nat) : Nat → Bool := fun f => isP i f && s f
theorem take_v (s : Nat → Bool) {i : Nat} (hi : 1 ≤ i) : nI (fb_ct s 128) - nI (fb_ct (sOvr s i 128) 128) = nI (cF (taN s i) 128) := by
  refine nI_sub _ _ _ ?_
  have h1 : fb_ct (fun k => sOvr s i 128 k || (decide (0 < k) && taN s i k)) 128 = fb_ct (sOvr s i 128) 128 + fb_ct (fun k => decide (0 < k) && taN s i k) 128 := fb_ct_or fun k hk h => by
    obtain ⟨h1, h2⟩ := h
    have h2 : (decide (0 < k) && (isP i k && s k)) = true := h2
    have h1 : (s k && !(decide (i ≤ k) && (decide (k < 128) && isP i k))) = true := h1
    rw [Bool.and_eq_true, Bool.and_eq_true] at h2
    rw [h2.2.1, h2.2.2, decide_eq_true hk, decide_eq_true (isP_le h2.2.1)] at h1
    cases h1
  refine Eq.trans ?_ h1
  refine fb_ct_cong fun k hk => ?_
  show s k = ((s k && !(decide (i ≤ k) && (decide (k < 128) && isP i k))) || (decide (0 < k) && (isP i k && s k)))
  cases hs : s k with
  | false => simp
  | true =>
    cases hp : isP i k with
    | false => simp
    | true =>
      have := isP_le hp
      rw [decide_eq_true (show 0 < k by omega)]; simp
theorem fuS_at {i k : Nat} {r : Bool} (h1 : 1 ≤ k) : fuS i r k = (isP k i && !(r && (k == i))) := by
  have h2 : sPar no9 i (i + 1) k = isP k i := by
    show (false || (decide (1 ≤ k) && (decide (k < i + 1) && isP k i))) = isP k i
    cases hp : isP k i with
    | false => simp
    | true =>
      have := isP_le hp
      rw [decide_eq_true h1, decide_eq_true (show k < i + 1 by omega)]; rfl
  cases r with
  | false =>
    show sPar no9 i (i + 1) k = _
    rw [h2]; simp
  | true =>
    show (sPar no9 i (i + 1) k && !(k == i)) = _
    rw [h2]; simp
theorem fuS_0 {i : Nat} {r : Bool} : fuS i r 0 = false := by cases r <;> rfl
theorem loS_at {s : Nat → Bool} {t k : Nat} (h1 : 1 ≤ k) (hk : k < 128) : loS s t k = (s k && decide (ht k ≤ t)) := by
  unfold loS
  rw [sF_id, decide_eq_true (show 0 < k by omega), decide_eq_true hk]; rfl
theorem loS_0 {s : Nat → Bool} {t : Nat} : loS s t 0 = false := by unfold loS; rw [sF_id]; rfl
theorem ab_m {s : Nat → Bool} {c k : Nat} {r : Bool} (hs : Shp s) (h1 : 1 ≤ k) (hk : k < 128) (hc : c < 128) : abS s c r k = (s (k ||| c) && !(r && !(k &&& c == 0))) := by
  rw [ab_at hk, decide_eq_true (show 0 < k by omega), Bool.true_and]
  unfold abP
  cases hs2 : s (k ||| c) with
  | false => simp
  | true =>
    rw [Shp_P hs (show k ≠ 0 by omega) (or_128 hk hc) (isP_o1 k c) hs2]
    cases r <;> simp
theorem ab_0 {s : Nat → Bool} {c : Nat} {r : Bool} : abS s c r 0 = false := by rw [ab_at (by decide)]; rfl
theorem cone_m {s : Nat → Bool} {c k : Nat} (hs : Shp s) (hc : c < 7) (h1 : 1 ≤ k) (hk : k < 128) : coneS s (2 ^ c) k = (bic k (2 ^ c) == 0 || s (bic k (2 ^ c))) := by
  obtain ⟨q1, q2, q3, q4⟩ := sub_bit hk hc
  have e0 : (bic k (2 ^ c) == 0 || s (bic k (2 ^ c))) = hat s (bic k (2 ^ c)) := rfl
  rw [e0, Bool.eq_iff_iff, cone_hat (show k ≠ 0 by omega)]
  constructor
  · rintro (h | ⟨j, h1, h2, h3⟩)
    · exact hat_P hs hk q2 h
    · refine hat_P hs h1 (isP_iff.mpr fun i hi => ?_) h2
      have h5 := isP_iff.mp q2 i hi
      rw [h3, Nat.testBit_or, Bool.or_eq_true, Nat.testBit_two_pow, decide_eq_true_eq] at h5
      rcases h5 with h5 | h5
      · exact h5
      · subst h5; rw [q3] at hi; cases hi
  · intro h
    cases hb : k.testBit c with
    | true => exact Or.inr ⟨_, q1, h, (q4 hb).symm⟩
    | false =>
      have e : bic k (2 ^ c) = k := isP_a q2 (isP_iff.mpr fun i hi => by
        rw [bic_bit hk, hi, Nat.testBit_two_pow]
        by_cases e : c = i
        · subst e; rw [hb] at hi; cases hi
        · rw [decide_eq_false e]; rfl)
      rw [e] at h
      exact Or.inl h
theorem lift_m {s : Nat → Bool} {c e k : Nat} (hs : Shp s) (hc : c < 7) (he : e < 7) (hsc : s (2 ^ c) = false) (hse : s (2 ^ e) = false) (hce : c ≠ e) (h1 : 1 ≤ k) (hk : k < 128) :
    liftS s (2 ^ c) (2 ^ e) k = (!isP (2 ^ c ||| 2 ^ e) k && (bif isP (2 ^ c) k then (bic k (2 ^ c) == 0 || s (bic k (2 ^ c))) else (bic k (2 ^ e) == 0 || s (bic k (2 ^ e))))) := by
  have nc := no_bit hs hc hsc
  have ne := no_bit hs he hse
  have hcone : ∀ a, a < 7 → (coneS s (2 ^ a) k = true ↔ hat s k = true ∨ ∃ j, j < 128 ∧ hat s j = true ∧ k = j ||| 2 ^ a) := fun a _ => cone_hat (show k ≠ 0 by omega)
  rw [← cone_m hs hc h1 hk, ← cone_m hs he h1 hk]
  have hL := lift_hat (s := s) (c := 2 ^ c) (e := 2 ^ e) (i := k) (show k ≠ 0 by omega)
  have bce : ∀ j, j < 128 → hat s j = true → (j ||| 2 ^ c).testBit e = false := fun j hj hx => by
    rw [Nat.testBit_or, ne j hj hx, Nat.testBit_two_pow, decide_eq_false hce]; rfl
  have bec : ∀ j, j < 128 → hat s j = true → (j ||| 2 ^ e).testBit c = false := fun j hj hx => by
    rw [Nat.testBit_or, nc j hj hx, Nat.testBit_two_pow, decide_eq_false (fun h => hce h.symm)]; rfl
  have kc : isP (2 ^ c) k = k.testBit c := by
    rw [Bool.eq_iff_iff]; exact ⟨bit_isP, isP_pw⟩
  have kce : isP (2 ^ c ||| 2 ^ e) k = (k.testBit c && k.testBit e) := by
    rw [Bool.eq_iff_iff, Bool.and_eq_true]
    exact ⟨fun h => ⟨bit_isP (isP_t (isP_o1 _ _) h), bit_isP (isP_t (isP_o2 _ _) h)⟩, fun h => isP_oo (isP_pw h.1) (isP_pw h.2)⟩
  rw [kc, kce]
  cases hbc : k.testBit c with
  | true =>
    cases hbe : k.testBit e with
    | true =>
      show _ = false
      rw [Bool.eq_false_iff]
      intro h
      rcases hL.mp h with h | ⟨j, j1, j2, j3⟩ | ⟨j, j1, j2, j3⟩
      · rw [nc k hk h] at hbc; cases hbc
      · rw [j3, bce j j1 j2] at hbe; cases hbe
      · rw [j3, bec j j1 j2] at hbc; cases hbc
    | false =>
      show _ = coneS s (2 ^ c) k
      rw [Bool.eq_iff_iff, hL, hcone c hc]
      constructor
      · rintro (h | h | ⟨j, j1, j2, j3⟩)
        · exact Or.inl h
        · exact Or.inr h
        · rw [j3, bec j j1 j2] at hbc; cases hbc
      · rintro (h | h)
        · exact Or.inl h
        · exact Or.inr (Or.inl h)
  | false =>
    show _ = coneS s (2 ^ e) k
    rw [Bool.eq_iff_iff, hL, hcone e he]
    constructor
    · rintro (h | ⟨j, j1, j2, j3⟩ | h)
      · exact Or.inl h
      · rw [j3, Nat.testBit_or, Nat.testBit_two_pow_self, Bool.or_true] at hbc; cases hbc
      · exact Or.inr h
    · rintro (h | h)
      · exact Or.inl h
      · exact Or.inr (Or.inr h)
theorem co_sub : ∀ c, c < 128 → ∀ k, k < 128 → isP k c = true → nI c - nI k = nI (c ^^^ k) := by decide +kernel
theorem ot_m {s : Nat → Bool} {c k : Nat} (h1 : 1 ≤ k) : otS s c k = (isP k c && (!(k == c) && !s (c ^^^ k))) := by
  rw [ot_at, decide_eq_true (show 0 < k by omega), Bool.true_and]
  cases hp : isP k c with
  | false => simp
  | true =>
    have := isP_le hp
    by_cases e : k = c
    · subst e; simp
    · rw [decide_eq_true (show k < c by omega), beq_eq_false_iff_ne.mpr e]; simp
theorem isP_bic {a i : Nat} (ha : a < 128) : isP a i = true ↔ bic a i = 0 := by
  rw [isP_iff]
  constructor
  · intro h
    refine Nat.eq_of_testBit_eq fun j => ?_
    rw [bic_bit ha, Nat.zero_testBit]
    cases hj : a.testBit j with
    | false => rfl
    | true => rw [h j hj]; rfl
  · intro h j hj
    have h2 := congrArg (fun x => Nat.testBit x j) h
    simp only [Nat.zero_testBit] at h2
    rw [bic_bit ha, hj, Bool.true_and] at h2
    cases hb : i.testBit j with
    | true => rfl
    | false => rw [hb] at h2; cases h2
theorem exch_ok : ∀ a, a < 7 → ∀ b, b < 7 → ∀ k, k < 128 → ((nI k &&& ((nI (2 ^ a) ||| nI (2 ^ b)) ^^^ (-1))) ||| (((nI k >>> (nI a &&& 31)) &&& nI 1) <<< (nI b &&& 31))) ||| (((nI k >>> (nI b &&& 31)) &&& nI 1) <<< (nI a &&& 31)) = nI (exch k a b) ∧ exch k a b < 128 ∧ (1 ≤ k → 1 ≤ exch k a b) := by decide +kernel
theorem xc_0 {s : Nat → Bool} {a b : Nat} (hs : s 0 = false) (ha : a < 7) (hb : b < 7) : xcS s a b 0 = false := by rw [ex_at hs ha hb (by decide), exch_0 a ha b hb, hs]
theorem lie_iff {s : Nat → Bool} {i : Nat} : liesIn s i = true ↔ ∃ c, c < 7 ∧ i ||| 2 ^ c ≠ i ∧ s (i ||| 2 ^ c) = true := by
  unfold liesIn
  rw [Bool.not_eq_true', decide_eq_false_iff_not]
  have h := fb_ct_pos (p := lieP s i) (n := 7)
  constructor
  · intro h1
    obtain ⟨c, h2, h3⟩ := h.mp (Nat.pos_of_ne_zero h1)
    have h3 : (!(i ||| 2 ^ c == i) && s (i ||| 2 ^ c)) = true := h3
    rw [Bool.and_eq_true, Bool.not_eq_true', beq_eq_false_iff_ne] at h3
    exact ⟨c, h2, h3⟩
  · rintro ⟨c, h2, h3, h4⟩ h5
    have := h.mpr ⟨c, h2, by
      show (!(i ||| 2 ^ c == i) && s (i ||| 2 ^ c)) = true
      rw [h4, beq_eq_false_iff_ne.mpr h3]; rfl⟩
    omega
theorem gr_m {s : Nat → Bool} {k : Nat} (hs : Shp s) (h1 : 1 ≤ k) (hk : k < 128) : grS s k = grB s k := by
  unfold grS grB
  rw [sF_id, decide_eq_true (show 0 < k by omega), decide_eq_true hk, Bool.true_and, Bool.true_and]
  congr 1
  rw [Bool.eq_iff_iff, Bool.not_eq_true', ← Bool.not_eq_true, lie_iff, decide_eq_true_eq]
  constructor
  · intro h
    refine fb_ct_zero.mpr fun g hg => ?_
    show (decide (k < g) && (isP k g && s g)) = false
    rw [Bool.eq_false_iff]
    intro h2
    rw [Bool.and_eq_true, Bool.and_eq_true, decide_eq_true_eq] at h2
    obtain ⟨h3, h4, h5⟩ := h2
    have h6 : ∃ c, g.testBit c = true ∧ k.testBit c = false := by
      refine Classical.byContradiction fun h7 => ?_
      have : isP g k = true := isP_iff.mpr fun c hc => by
        cases hb : k.testBit c with
        | true => rfl
        | false => exact absurd ⟨c, hc, hb⟩ h7
      have := isP_le this
      omega
    obtain ⟨c, h7, h8⟩ := h6
    refine h ⟨c, bit_7 hg h7, fun e => ?_, Shp_P hs (by have := isP_le (isP_o1 k (2 ^ c)); omega) hg (isP_oo h4 (isP_pw h7)) h5⟩
    have h9 : (k ||| 2 ^ c).testBit c = true := by rw [Nat.testBit_or, Nat.testBit_two_pow_self, Bool.or_true]
    rw [e, h8] at h9; cases h9
  · rintro h ⟨c, h2, h3, h4⟩
    have h5 := fb_ct_zero.mp h (k ||| 2 ^ c) (or_lt hk h2)
    have h6 := isP_le (isP_o1 k (2 ^ c))
    have h5 : (decide (k < k ||| 2 ^ c) && (isP k (k ||| 2 ^ c) && s (k ||| 2 ^ c))) = false := h5
    rw [decide_eq_true (by omega), isP_o1, h4] at h5
    cases h5
theorem grS_0 {s : Nat → Bool} : grS s 0 = false := by unfold grS; rw [sF_id]; rfl
theorem gr_ct {s : Nat → Bool} (hs : Shp s) : cF (grB s) 128 = fb_ct (grS s) 128 := by
  rw [← cF_fb grS_0]
  exact fb_ct_cong fun k hk => by
    show (decide (0 < k) && grB s k) = (decide (0 < k) && grS s k)
    by_cases e : 0 < k
    · rw [gr_m hs e hk]
    · rw [decide_eq_false e]; rfl
-- all of another's
def ofB (s t : Nat → Bool) (k : Nat) : Bool := sAll (fun f => f == 0 || (s f || !t f)) k
theorem ofB_s {s t : Nat → Bool} {k : Nat} (h : 1 ≤ k) : ofB s t (k + 1) = (ofB s t k && (s k || !t k)) := by
  show (ofB s t k && (k == 0 || (s k || !t k))) = _
  rw [beq_eq_false_iff_ne.mpr (show k ≠ 0 by omega)]; rfl
theorem ofB_iff {s t : Nat → Bool} : ofB s t 128 = true ↔ ∀ i, 1 ≤ i → i < 128 → t i = true → s i = true := by
  unfold ofB
  rw [sAll_iff]
  constructor
  · intro h i h1 h2 h3
    have := h i h2
    rw [beq_eq_false_iff_ne.mpr (show i ≠ 0 by omega), h3] at this
    simpa using this
  · intro h i hi
    by_cases e : i = 0
    · subst e; rfl
    · cases ht : t i with
      | false => simp
      | true => rw [h i (by omega) hi ht]; simp
theorem ofB_v {s t : Nat → Bool} (ht : t 0 = false) : decide (fb_ct (fun i => t i && !s i) 128 = 0) = ofB s t 128 := by
  rw [Bool.eq_iff_iff, decide_eq_true_eq, ofB_iff, fb_ct_zero]
  constructor
  · intro h i _ hi h3
    have := h i hi
    rw [h3, Bool.true_and] at this
    cases hs : s i with
    | true => rfl
    | false => rw [hs] at this; cases this
  · intro h i hi
    cases h3 : t i with
    | false => rfl
    | true =>
      have h1 : 1 ≤ i := Nat.pos_of_ne_zero fun e => by subst e; rw [ht] at h3; cases h3
      rw [h i h1 hi h3]; rfl
theorem same_v {s t : Nat → Bool} (hs : s 0 = false) (ht : t 0 = false) : sEq s t = (ofB s t 128 && ofB t s 128) := by
  rw [Bool.eq_iff_iff, Bool.and_eq_true, ofB_iff, ofB_iff]
  unfold sEq
  rw [sAll_iff]
  constructor
  · intro h
    exact ⟨fun i _ hi h3 => by rw [eq_of_beq (h i hi)]; exact h3, fun i _ hi h3 => by rw [← eq_of_beq (h i hi)]; exact h3⟩
  · rintro ⟨h1, h2⟩ i hi
    by_cases e : i = 0
    · subst e; rw [hs, ht]; rfl
    · rw [beq_iff_eq, Bool.eq_iff_iff]
      exact ⟨fun h3 => h2 i (by omega) hi h3, fun h3 => h1 i (by omega) hi h3⟩
theorem b2i_and (a c : Bool) : b2i a &&& b2i c = b2i (a && c) := by cases a <;> cases c <;> decide +kernel
theorem b2i_xor (a c : Bool) : b2i a ^^^ b2i c = b2i (a ^^ c) := by cases a <;> cases c <;> decide +kernel
theorem sg_alt (s : Nat → Bool) : sgF s 128 = alt (fun t => (cnt s t : Int)) 7 := by
  rw [sg_sum s 128 (Nat.le_refl _)]
  show _ = 0 + (cnt s 0 : Int) + -(cnt s 1 : Int) + (cnt s 2 : Int) + -(cnt s 3 : Int) + (cnt s 4 : Int) + -(cnt s 5 : Int) + (cnt s 6 : Int)
  show (cnt s 0 : Int) - cnt s 1 + cnt s 2 - cnt s 3 + cnt s 4 - cnt s 5 + cnt s 6 = _
  omega
-- the row's height
def rhL (R : Nat → Bool) : Nat → Int32
  | 0 => -1
  | n + 1 => bif decide (0 < n) && R n then nI (ht n) else rhL R n
theorem rhL_t {R : Nat → Bool} {k : Nat} (h0 : 0 < k) (h : R k = true) : rhL R (k + 1) = nI (ht k) := by
  show (bif decide (0 < k) && R k then _ else _) = _
  rw [decide_eq_true h0, h]; rfl
theorem rhL_f {R : Nat → Bool} {k : Nat} (h : R k = false) : rhL R (k + 1) = rhL R k := by
  show (bif decide (0 < k) && R k then _ else _) = _
  rw [h, Bool.and_false]; rfl
theorem rhL_v {R : Nat → Bool} {n : Nat} (hR : RowI R n) : ∀ m, m ≤ 128 → (∃ k, k < m ∧ R k = true) → rhL R m = nI (n - 1)
  | 0, _, ⟨k, h, _⟩ => absurd h (Nat.not_lt_zero k)
  | m + 1, hm, ⟨k, hk, h⟩ => by
    cases h2 : R m with
    | true =>
      have h0 : 0 < m := Nat.pos_of_ne_zero fun e => by subst e; rw [hR.1] at h2; cases h2
      rw [rhL_t h0 h2]
      have := hR.2.2.2 m (by omega) h2
      unfold ht; rw [this]
    | false =>
      rw [rhL_f h2]
      refine rhL_v hR m (by omega) ⟨k, ?_, h⟩
      have : k ≠ m := fun e => by subst e; rw [h2] at h; cases h
      omega
theorem rhL_0 {R : Nat → Bool} : ∀ m, (∀ k, k < m → R k = false) → rhL R m = -1
  | 0, _ => rfl
  | m + 1, h => by rw [rhL_f (h m (Nat.lt_succ_self m))]; exact rhL_0 m fun k hk => h k (by omega)
theorem rh_n {R : Nat → Bool} {n : Nat} (hR : RowI R n) (hne : fb_ct R 128 ≠ 0) : rh R = n - 1 ∧ rn R = n := by
  obtain ⟨f0, hf1, hf2, hf3, hf0⟩ := row_first hR.2.2.2 hR.2.1 hne
  unfold rh rn ht
  rw [hf0, hR.2.2.2 f0 hf1 hf3]
  exact ⟨rfl, rfl⟩
theorem rhL_R {R : Nat → Bool} {n : Nat} (hR : RowI R n) (hne : fb_ct R 128 ≠ 0) : rhL R 128 = nI (rh R) := by
  rw [(rh_n hR hne).1]
  exact rhL_v hR 128 (Nat.le_refl _) (fb_ct_pos.mp (Nat.pos_of_ne_zero hne))
-- borders
def nbX (R : Nat → Bool) (f : Nat) : Nat → Bool
  | 0 => false
  | k + 1 => nbX R f k ^^ (!f.testBit k && R (f ||| 2 ^ k))
theorem nbX_c {R R2 : Nat → Bool} {f : Nat} : ∀ k, (∀ j, j < k → R (f ||| 2 ^ j) = R2 (f ||| 2 ^ j)) → nbX R f k = nbX R2 f k
  | 0, _ => rfl
  | k + 1, h => by unfold nbX; rw [nbX_c k (fun j hj => h j (by omega)), h k (by omega)]
theorem nbX_x (f : Nat) (a c : Nat) : ∀ k, nbX (fun i => (a ^^^ c).testBit i) f k = (nbX (fun i => a.testBit i) f k ^^ nbX (fun i => c.testBit i) f k)
  | 0 => rfl
  | k + 1 => by
    unfold nbX
    rw [nbX_x f a c k, Nat.testBit_xor]
    cases nbX (fun i => a.testBit i) f k <;> cases nbX (fun i => c.testBit i) f k <;> cases f.testBit k <;> cases a.testBit (f ||| 2 ^ k) <;> cases c.testBit (f ||| 2 ^ k) <;> rfl
theorem nbX_z (f : Nat) : ∀ k, nbX (fun i => (0 : Nat).testBit i) f k = false
  | 0 => rfl
  | k + 1 => by unfold nbX; rw [nbX_z f k, Nat.zero_testBit]; simp
def nbG (f g : Nat) : Nat → Bool
  | 0 => false
  | k + 1 => nbG f g k ^^ (!f.testBit k && (f ||| 2 ^ k == g))
theorem nbG_X (f g : Nat) : ∀ k, nbX (fun i => (2 ^ g).testBit i) f k = nbG f g k
  | 0 => rfl
  | k + 1 => by
    unfold nbX nbG
    rw [nbG_X f g k, Nat.testBit_two_pow]
    congr 2
    rw [Bool.eq_iff_iff, decide_eq_true_eq, beq_iff_eq]
    exact ⟨fun h => h.symm, fun h => h.symm⟩
theorem bd_nb : ∀ g, g < 128 → ∀ f, f < 128 → (bd g).testBit f = nbG f g 7 := by decide +kernel
theorem tn_x (a c : Bool) : (a ^^ c).toNat = a.toNat ^^^ c.toNat := by cases a <;> cases c <;> rfl
def dbT (f v : Nat) : Nat := ((dB v).testBit f).toNat
def nbT (f v : Nat) : Nat := (nbX (fun i => v.testBit i) f 7).toNat
theorem dbT_L (f : Nat) : Lmap (dbT f) := ⟨by unfold dbT; rw [dB_L.1, Nat.zero_testBit]; rfl, fun a c => by unfold dbT; rw [dB_L.2, Nat.testBit_xor, tn_x]⟩
theorem nbT_L (f : Nat) : Lmap (nbT f) := ⟨by unfold nbT; rw [nbX_z]; rfl, fun a c => by unfold nbT; rw [nbX_x, tn_x]⟩
theorem dnT_e {f : Nat} (hf : f < 128) : ∀ g, g < 128 → dbT f (2 ^ g) = nbT f (2 ^ g) := fun g hg => by
  unfold dbT nbT
  rw [dB_e hg, nbG_X, bd_nb g hg f hf]
theorem tn_i {a c : Bool} (h : a.toNat = c.toNat) : a = c := by cases a <;> cases c <;> first | rfl | cases h
theorem dB_nb {f v : Nat} (hf : f < 128) (hv : v < 2 ^ 128) : (dB v).testBit f = nbX (fun i => v.testBit i) f 7 :=
  tn_i (L_ext (dbT_L f) (nbT_L f) hv (dnT_e hf))
theorem bdS_nb {R : Nat → Bool} {f : Nat} (h1 : 1 ≤ f) (hf : f < 128) : bdS R f = nbX R f 7 := by
  unfold bdS
  rw [dB_nb hf (mkN_lt R 128), beq_eq_false_iff_ne.mpr (show f ≠ 0 by omega), Bool.not_false, Bool.and_true]
  refine nbX_c 7 fun j hj => ?_
  rw [mkN_bit, decide_eq_true (or_lt hf hj), Bool.true_and]
theorem bdS_0 (R : Nat → Bool) : bdS R 0 = false := by unfold bdS; simp
end VL
