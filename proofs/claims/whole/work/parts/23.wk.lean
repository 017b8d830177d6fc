section WK
theorem mkN_t {p : Nat → Bool} {k : Nat} (h : p k = true) : mkN p (k + 1) = mkN p k ||| 2 ^ k := Nat.eq_of_testBit_eq fun i => by
  rw [Nat.testBit_or, mkN_bit, mkN_bit, Nat.testBit_two_pow]
  by_cases e : k = i
  · subst e; rw [h]; simp
  · have : decide (i < k + 1) = decide (i < k) := by simp; omega
    rw [this, decide_eq_false e, Bool.or_false]
theorem mkN_f {p : Nat → Bool} {k : Nat} (h : p k = false) : mkN p (k + 1) = mkN p k := by
  show mkN p k + (bif p k then 2 ^ k else 0) = _
  rw [h]; rfl
/-- what is in a and not in b -/
def bic (a b : Nat) : Nat := a &&& (127 ^^^ b)
theorem nI_m1 : (-1 : Int32) = nI 4294967295 := by decide +kernel
theorem nI_bic : ∀ a, a < 128 → ∀ b, b < 128 → nI a &&& (nI b ^^^ (-1)) = nI (bic a b) := by
  intro a ha b hb
  rw [nI_m1, fb_xorI, nx_and]
  congr 1
  refine Nat.eq_of_testBit_eq fun i => ?_
  unfold bic
  rw [Nat.testBit_and, Nat.testBit_and, Nat.testBit_xor, Nat.testBit_xor]
  cases hi : a.testBit i with
  | false => rfl
  | true =>
    have h7 : i < 7 := Nat.lt_of_not_le fun hc => by
      rw [Nat.testBit_lt_two_pow (Nat.lt_of_lt_of_le (show a < 2 ^ 7 from ha) (Nat.pow_le_pow_right (by decide) hc))] at hi; cases hi
    have e1 : (4294967295 : Nat).testBit i = true := by
      have := Nat.testBit_two_pow_sub_one 32 i
      rw [show (2 : Nat) ^ 32 - 1 = 4294967295 from rfl] at this
      rw [this]; simp; omega
    have e2 : (127 : Nat).testBit i = true := by
      have := Nat.testBit_two_pow_sub_one 7 i
      rw [show (2 : Nat) ^ 7 - 1 = 127 from rfl] at this
      rw [this]; simp; omega
    rw [e1, e2, Bool.xor_comm]
theorem bit_7 {v i : Nat} (h : v < 128) (hi : v.testBit i = true) : i < 7 := Nat.lt_of_not_le fun hc => by
  rw [Nat.testBit_lt_two_pow (Nat.lt_of_lt_of_le (show v < 2 ^ 7 from h) (Nat.pow_le_pow_right (by decide) hc))] at hi; cases hi
theorem bic_bit {a b : Nat} (ha : a < 128) (i : Nat) : (bic a b).testBit i = (a.testBit i && !b.testBit i) := by
  unfold bic
  rw [Nat.testBit_and, Nat.testBit_xor]
  cases hi : a.testBit i with
  | false => rfl
  | true =>
    have h7 := bit_7 ha hi
    have e2 : (127 : Nat).testBit i = true := by
      have := Nat.testBit_two_pow_sub_one 7 i
      rw [show (2 : Nat) ^ 7 - 1 = 127 from rfl] at this
      rw [this]; simp; omega
    rw [e2]; cases b.testBit i <;> rfl
theorem bic_lt {a b : Nat} (ha : a < 128) : bic a b < 128 := Nat.lt_of_le_of_lt Nat.and_le_left ha
theorem low1_ex : ∀ c, c < 128 → c ≠ 0 → ∃ k, k < 7 ∧ low1 c = 2 ^ k ∧ c.testBit k = true ∧ ∀ b, b < k → c.testBit b = false := by decide +kernel
theorem low1_z : low1 0 = 0 := by decide +kernel
theorem nI_128 {a b : Nat} (ha : a < 128) (hb : b < 128) : nI a = nI b ↔ a = b := nI_eq (by omega) (by omega)
theorem mkN_7 (p : Nat → Bool) : mkN p 7 < 128 := mkN_lt p 7
abbrev nbP (s : Nat → Bool) (a : Nat) : Nat → Bool := fun c => s (2 ^ a ||| 2 ^ c)
/-- a shape: without the face of no corners, with all parts -/
def hat (s : Nat → Bool) : Nat → Bool := fun f => f == 0 || s f
def Shp (s : Nat → Bool) : Prop := s 0 = false ∧ Cx (hat s)
theorem hat_s (s : Nat → Bool) : ∀ f, f < 128 → f ≠ 0 → hat s f = s f := fun f _ h0 => by
  unfold hat
  rw [beq_eq_false_iff_ne.mpr h0]; rfl
theorem hat_0 (s : Nat → Bool) : hat s 0 = true := rfl
theorem pw_0 (c : Nat) : 2 ^ c ≠ 0 := by have := Nat.two_pow_pos c; omega
theorem Shp_P {s : Nat → Bool} (hs : Shp s) {e g : Nat} (he : e ≠ 0) (hg : g < 128) (hp : isP e g = true) (hx : s g = true) : s e = true := by
  have hle : e ≤ g := by
    have h1 : e &&& g = e := eq_of_beq hp
    have h2 : e &&& g ≤ g := Nat.and_le_right
    omega
  have hg0 : g ≠ 0 := by omega
  have h1 := Cx_P hs.2 (Nat.lt_of_le_of_lt hle hg) hg hp (by rw [hat_s s g hg hg0]; exact hx)
  rw [hat_s s e (Nat.lt_of_le_of_lt hle hg) he] at h1
  exact h1
theorem orF_bit (s : Nat → Bool) (c : Nat) : ∀ n, (orF s n).testBit c = true ↔ ∃ f, 0 < f ∧ f < n ∧ s f = true ∧ f.testBit c = true
  | 0 => by
    show (0 : Nat).testBit c = true ↔ _
    rw [Nat.zero_testBit]
    constructor
    · intro h; cases h
    · rintro ⟨f, -, h, -⟩; omega
  | n + 1 => by
    have ih := orF_bit s c n
    show (bif decide (0 < n) && s n then orF s n ||| n else orF s n).testBit c = true ↔ _
    by_cases hp : 0 < n ∧ s n = true
    · rw [decide_eq_true hp.1, hp.2]
      show (orF s n ||| n).testBit c = true ↔ _
      rw [Nat.testBit_or, Bool.or_eq_true, ih]
      constructor
      · rintro (⟨f, h1, h2, h3, h4⟩ | h)
        · exact ⟨f, h1, by omega, h3, h4⟩
        · exact ⟨n, hp.1, by omega, hp.2, h⟩
      · rintro ⟨f, h1, h2, h3, h4⟩
        by_cases e : f = n
        · subst e; exact Or.inr h4
        · exact Or.inl ⟨f, h1, by omega, h3, h4⟩
    · have e : (decide (0 < n) && s n) = false := by
        rw [Bool.eq_false_iff, Ne, Bool.and_eq_true, decide_eq_true_eq]; exact hp
      rw [e]
      show (orF s n).testBit c = true ↔ _
      rw [ih]
      constructor
      · rintro ⟨f, h1, h2, h3, h4⟩; exact ⟨f, h1, by omega, h3, h4⟩
      · rintro ⟨f, h1, h2, h3, h4⟩
        refine ⟨f, h1, ?_, h3, h4⟩
        have : f ≠ n := fun e => hp (by subst e; exact ⟨h1, h3⟩)
        omega
theorem orF_lt (s : Nat → Bool) : ∀ n, n ≤ 128 → orF s n < 128
  | 0, _ => (by decide : 0 < 128)
  | n + 1, h => by
    show (bif decide (0 < n) && s n then orF s n ||| n else orF s n) < 128
    cases decide (0 < n) && s n
    · exact orF_lt s n (by omega)
    · exact or_128 (orF_lt s n (by omega)) (by omega)
theorem orF_s {s : Nat → Bool} (hs : Shp s) {c : Nat} (hc : c < 7) : (orF s 128).testBit c = s (2 ^ c) := by
  rw [Bool.eq_iff_iff, orF_bit]
  constructor
  · rintro ⟨f, h1, h2, h3, h4⟩
    exact Shp_P hs (pw_0 c) h2 (isP_iff.mpr fun i hi => by
      rw [Nat.testBit_two_pow, decide_eq_true_eq] at hi
      exact hi ▸ h4) h3
  · exact fun h => ⟨2 ^ c, Nat.two_pow_pos c, pw_128 c hc, h, Nat.testBit_two_pow_self⟩
-- neighbours
set_option maxRecDepth 10000 in
/-- Walk.neighbours -/
theorem kX5_neighbours {S : Nat × (Nat → Int32)} {d : Nat} {h : eH} {Q : eQ} {q a : Nat} {s : Nat → Bool} (ha : a < 7) (hq0 : h.2[q]? = some (fsS s)) (hQ : Q (.inl (some (.int (nI (mkN (nbP s a) 7))))) h) : okCall S MT (d + 2) nX5_neighbours [.ref (q + 1), .int (nI (2 ^ a))] h Q := by
  refine okc (M := MX5_neighbours) rfl rfl fun K hK hW => ?_
  show K 0 [(0, .ref (q + 1)), (1, .int (nI (2 ^ a)))] [] h 0 0
  iterate 6 refine hK _ _ _ _ _ _ (?_ : K _ _ _ _ _ _)
  refine hW _ _ [(3, .int (nI (0))), (2, .int (nI (mkN (nbP s a) (0)))), (0, .ref (q + 1)), (1, .int (nI (2 ^ a)))] _ _ _ _ (by simp [show mkN (nbP s a) 0 = 0 from rfl]) ?_
  refine up (P := fun k => K 7 [(3, .int (nI (k))), (2, .int (nI (mkN (nbP s a) (k)))), (0, .ref (q + 1)), (1, .int (nI (2 ^ a)))] [.int (nI 7), .int (nI (k))] h 0 0) 7 0 ?_ ?_ (by decide)
  · skip
    refine hK _ _ _ _ _ _ (And.intro (fun _ => ?_) (fun c9 => absurd (nI_le (Nat.le_refl 7) (by decide)) c9))
    iterate 1 refine hK _ _ _ _ _ _ (?_ : K _ _ _ _ _ _)
    exact hK _ _ _ _ _ _ (r_iret rfl rfl rfl rfl hQ)
  · intro k h0k hk ihk
    refine hK _ _ _ _ _ _ (And.intro (fun c9 => absurd c9 (nI_ge (by omega) (by decide))) (fun _ => ?_))
    iterate 8 refine hK _ _ _ _ _ _ (?_ : K _ _ _ _ _ _)
    refine hK _ _ _ _ _ _ (r_callV rfl (fun _ => rfl) (by assumption) (b0 rfl rfl rfl) (okW (by rw [sh1 k hk, nx_or]) (kX1_holds (f := 2 ^ a ||| 2 ^ k) (or_128 (pw_128 a ha) (pw_128 k hk)) hq0 (?_ : K _ _ _ _ _ _))))
    refine hK _ _ _ _ _ _ (And.intro (fun c1 => ?_) (fun c1 => ?_))
    · skip
      iterate 4 refine hK _ _ _ _ _ _ (?_ : K _ _ _ _ _ _)
      have e1 : s (2 ^ a ||| 2 ^ k) = false := b2i_0.mp c1
      rw [mkN_f (p := nbP s a) e1] at ihk
      rw [nI_add k 1]
      first | exact ihk | exact hW _ _ _ _ _ _ _ (by simp) ihk
    · skip
      iterate 8 refine hK _ _ _ _ _ _ (?_ : K _ _ _ _ _ _)
      have e1 : s (2 ^ a ||| 2 ^ k) = true := Bool.of_not_eq_false (fun e => c1 (b2i_0.mpr e))
      rw [mkN_t (p := nbP s a) e1] at ihk
      rw [nI_add k 1, sh1 k hk, nx_or]
      first | exact ihk | exact hW _ _ _ _ _ _ _ (by simp) ihk

-- the corners of a piece
def PInv (s : Nat → Bool) (a k R W : Nat) : Prop := R < 128 ∧ W < 128 ∧ (∀ c, R.testBit c = true → c < 7 ∧ Jn s a c) ∧ R.testBit a = true ∧ isP W R = true ∧ (∀ c, W.testBit c = true → ∀ b, b < 7 → s (2 ^ c ||| 2 ^ b) = true → R.testBit b = true) ∧ pc W = k
def isPc (s : Nat → Bool) (a m : Nat) : Prop := ∀ c, m.testBit c = true ↔ c < 7 ∧ Jn s a c
theorem pfi_0 {s : Nat → Bool} {a : Nat} (ha : a < 7) : PInv s a 0 (2 ^ a) 0 := by
  refine ⟨pw_128 a ha, by decide, fun c hc => ?_, Nat.testBit_two_pow_self, (isP_iff.mpr fun i hi => (by rw [Nat.zero_testBit] at hi; cases hi)), fun c hc => ?_, by decide⟩
  · rw [Nat.testBit_two_pow, decide_eq_true_eq] at hc
    exact hc ▸ ⟨ha, Jn_0 s a⟩
  · rw [Nat.zero_testBit] at hc; cases hc
theorem pfi_step {s : Nat → Bool} {a k R W c : Nat} (h : PInv s a k R W) (hc : c < 7) (hb : (bic R W).testBit c = true) : PInv s a (k + 1) (R ||| mkN (nbP s c) 7) (W ||| 2 ^ c) := by
  obtain ⟨h1, h2, h3, h4, h5, h6, h7⟩ := h
  rw [bic_bit h1, Bool.and_eq_true, Bool.not_eq_true'] at hb
  refine ⟨or_128 h1 (mkN_7 _), or_lt h2 hc, fun b hb2 => ?_, by rw [Nat.testBit_or, h4]; rfl, isP_iff.mpr fun i hi => ?_, fun b hb2 e he1 he2 => ?_, by rw [pc_up W h2 c hc hb.2, h7]⟩
  · rw [Nat.testBit_or, Bool.or_eq_true, mkN_bit, Bool.and_eq_true, decide_eq_true_eq] at hb2
    rcases hb2 with hb2 | hb2
    · exact h3 b hb2
    · exact ⟨hb2.1, Jn_s (h3 c hb.1).2 hc hb2.1 hb2.2⟩
  · rw [Nat.testBit_or, Bool.or_eq_true] at hi ⊢
    rcases hi with hi | hi
    · exact Or.inl (isP_iff.mp h5 i hi)
    · rw [Nat.testBit_two_pow, decide_eq_true_eq] at hi
      exact Or.inl (hi ▸ hb.1)
  · rw [Nat.testBit_or, Bool.or_eq_true] at hb2 ⊢
    rcases hb2 with hb2 | hb2
    · exact Or.inl (h6 b hb2 e he1 he2)
    · rw [Nat.testBit_two_pow, decide_eq_true_eq] at hb2
      subst hb2
      exact Or.inr (by rw [mkN_bit, decide_eq_true he1, Bool.true_and]; exact he2)
theorem pfi_end {s : Nat → Bool} {a k R W : Nat} (h : PInv s a k R W) (he : k = 7 ∨ W = R) : R < 128 ∧ isPc s a R := by
  obtain ⟨h1, h2, h3, h4, h5, h6, h7⟩ := h
  have hWR : W = R := by
    rcases he with he | he
    · have hw := pc_127 W h2 (by omega)
      refine Nat.eq_of_testBit_eq fun i => ?_
      cases hi : R.testBit i with
      | true =>
        have h7 := bit_7 h1 hi
        have := Nat.testBit_two_pow_sub_one 7 i
        rw [show (2 : Nat) ^ 7 - 1 = 127 from rfl] at this
        rw [hw, this]; simp; omega
      | false =>
        cases hj : W.testBit i with
        | false => rfl
        | true => rw [isP_iff.mp h5 i hj] at hi; cases hi
    · exact he
  subst hWR
  refine ⟨h1, fun c => ⟨h3 c, fun ⟨_, hj⟩ => hj (fun b => W.testBit b = true) h4 fun x y _ hy hx e => h6 x hx y hy e⟩⟩
set_option maxRecDepth 10000 in
/-- Walk.pieceFrom -/
theorem kX5_pieceFrom {S : Nat × (Nat → Int32)} {d : Nat} {h : eH} {Q : eQ} {q a : Nat} {s : Nat → Bool} (ha : a < 7) (hq0 : h.2[q]? = some (fsS s)) (hQ : ∀ m, m < 128 → isPc s a m → Q (.inl (some (.int (nI m)))) h) : okCall S MT (d + 3) nX5_pieceFrom [.ref (q + 1), .int (nI (2 ^ a))] h Q := by
  refine okc (M := MX5_pieceFrom) rfl rfl fun K hK hW => ?_
  show K 0 [(0, .ref (q + 1)), (1, .int (nI (2 ^ a)))] [] h 0 0
  iterate 8 refine hK _ _ _ _ _ _ (?_ : K _ _ _ _ _ _)
  refine hW _ _ [(4, .int (nI 0)), (3, .int (nI 0)), (2, .int (nI (2 ^ a))), (0, .ref (q + 1)), (1, .int (nI (2 ^ a)))] _ _ _ _ (by simp) ?_
  refine up (P := fun k => ∀ (R W : Nat), PInv s a (k) R W → K 11 [(4, .int (nI (k))), (3, .int (nI W)), (2, .int (nI R)), (0, .ref (q + 1)), (1, .int (nI (2 ^ a)))] [.int (nI 7), .int (nI (k))] h 0 0) 7 0 ?_ ?_ (by decide) (2 ^ a) 0 (pfi_0 ha)
  · skip
    intro R W hh
    refine hK _ _ _ _ _ _ (And.intro (fun _ => ?_) (fun c9 => absurd (nI_le (Nat.le_refl 7) (by decide)) c9))
    iterate 1 refine hK _ _ _ _ _ _ (?_ : K _ _ _ _ _ _)
    obtain ⟨h1, h2⟩ := pfi_end hh (Or.inl rfl)
    exact hK _ _ _ _ _ _ (r_iret rfl rfl rfl rfl (hQ R h1 h2))
  · intro k h0k hk ihk R W hh
    refine hK _ _ _ _ _ _ (And.intro (fun c9 => absurd c9 (nI_ge (by omega) (by decide))) (fun _ => ?_))
    iterate 2 refine hK _ _ _ _ _ _ (?_ : K _ _ _ _ _ _)
    refine hK _ _ _ _ _ _ (And.intro (fun c1 => ?_) (fun c1 => ?_))
    · skip
      iterate 1 refine hK _ _ _ _ _ _ (?_ : K _ _ _ _ _ _)
      obtain ⟨h1, h2⟩ := pfi_end hh (Or.inr ((nI_128 hh.2.1 hh.1).mp c1))
      exact hK _ _ _ _ _ _ (r_iret rfl rfl rfl rfl (hQ R h1 h2))
    · skip
      iterate 5 refine hK _ _ _ _ _ _ (?_ : K _ _ _ _ _ _)
      refine hK _ _ _ _ _ _ (r_callN rfl (fun _ => rfl) (b0 rfl rfl rfl) (okW (by rw [nI_bic R hh.1 W hh.2.1]) (kX6_leastCorner (f := bic R W) (bic_lt hh.1) (?_ : K _ _ _ _ _ _))))
      have hne : bic R W ≠ 0 := fun e => c1 (by
        congr 1
        refine Nat.eq_of_testBit_eq fun i => ?_
        have e1 := congrArg (fun x => Nat.testBit x i) e
        simp only [bic_bit hh.1, Nat.zero_testBit] at e1
        cases hi : W.testBit i with
        | true => exact (isP_iff.mp hh.2.2.2.2.1 i hi).symm
        | false => rw [hi] at e1; simpa using e1.symm)
      obtain ⟨c, hc7, ec, hcb, -⟩ := low1_ex (bic R W) (bic_lt hh.1) hne
      rw [ec]
      iterate 8 refine hK _ _ _ _ _ _ (?_ : K _ _ _ _ _ _)
      refine hK _ _ _ _ _ _ (r_callS rfl (fun _ => rfl) (b0 rfl rfl rfl) (kX5_neighbours (a := c) hc7 hq0 (?_ : K _ _ _ _ _ _)))
      iterate 6 refine hK _ _ _ _ _ _ (?_ : K _ _ _ _ _ _)
      rw [nI_add k 1, nx_or, nx_or]
      first | exact (ihk (R ||| mkN (nbP s c) 7) (W ||| 2 ^ c) (pfi_step hh hc7 hcb)) | exact hW _ _ _ _ _ _ _ (by simp) (ihk (R ||| mkN (nbP s c) 7) (W ||| 2 ^ c) (pfi_step hh hc7 hcb))

-- counting pieces
def CInv (s : Nat → Bool) (k L : Nat) : Prop := L < 128 ∧ (∀ c, L.testBit c = true → c < 7 ∧ s (2 ^ c) = true) ∧ (∀ c b, L.testBit c = true → Jn s c b → L.testBit b = true) ∧ k + fb_ct (fun c => lsB s c && L.testBit c) 7 = npc s
theorem cpi_0 {s : Nat → Bool} (hs : Shp s) : CInv s 0 (orF s 128) := by
  refine ⟨orF_lt s 128 (by decide), fun c hc => ?_, fun c b hc hb => ?_, ?_⟩
  · have h7 := bit_7 (orF_lt s 128 (by decide)) hc
    exact ⟨h7, by rw [← orF_s hs h7]; exact hc⟩
  · have h7 := bit_7 (orF_lt s 128 (by decide)) hc
    have h8 := Jn_7 hb h7
    rw [orF_s hs h7] at hc
    rw [orF_s hs h8]
    exact (pie_J hs.2 (hat_s s) h7 hc hb).1
  · rw [Nat.zero_add]
    refine fb_ct_cong fun c hc => ?_
    rw [orF_s hs hc]
    unfold lsB
    cases s (2 ^ c) <;> simp
theorem cpi_low {s : Nat → Bool} {k L c : Nat} (h : CInv s k L) (hc : c < 7) (hb : L.testBit c = true) (hl : ∀ b, b < c → L.testBit b = false) : lsB s c = true := by
  obtain ⟨h1, h2, h3, h4⟩ := h
  have h5 := rt_le (Jn_0 s c)
  have h6 := h3 c _ hb (rt_J s c)
  have h7 : rt s c = c := by
    refine Nat.le_antisymm h5 (Nat.le_of_not_lt fun hc => ?_)
    rw [hl _ hc] at h6; cases h6
  unfold lsB
  rw [(h2 c hb).2, h7, beq_self_eq_true]; rfl
theorem cpi_step {s : Nat → Bool} {k L c m : Nat} (h : CInv s k L) (hc : c < 7) (hb : L.testBit c = true) (hl : ∀ b, b < c → L.testBit b = false) (hm : isPc s c m) : CInv s (k + 1) (bic L m) := by
  have hls := cpi_low h hc hb hl
  obtain ⟨h1, h2, h3, h4⟩ := h
  refine ⟨bic_lt h1, fun b hb2 => ?_, fun x y hx hj => ?_, ?_⟩
  · rw [bic_bit h1, Bool.and_eq_true] at hb2
    exact h2 b hb2.1
  · rw [bic_bit h1, Bool.and_eq_true, Bool.not_eq_true'] at hx ⊢
    refine ⟨h3 x y hx.1 hj, ?_⟩
    cases hy : m.testBit y with
    | false => rfl
    | true =>
      have h5 := (hm y).mp hy
      rw [(hm x).mpr ⟨(h2 x hx.1).1, Jn_t h5.2 (Jn_c hj)⟩] at hx
      cases hx.2
  · have h5 := fb_ct_upd (fun x => lsB s x && L.testBit x) false hc
    have h6 : (lsB s c && L.testBit c) = true := by rw [hls, hb]; rfl
    rw [h6] at h5
    simp only [if_true, Bool.false_eq_true, if_false, Nat.add_zero] at h5
    rw [← h4, ← h5, fb_ct_cong (p := fun k => if k = c then false else lsB s k && L.testBit k) (q := fun x => lsB s x && (bic L m).testBit x) (fun x hx => by
      rw [bic_bit h1]
      by_cases e : x = c
      · subst e
        rw [if_pos rfl, (hm x).mpr ⟨hc, Jn_0 s x⟩]; simp
      · rw [if_neg e]
        cases hx1 : lsB s x with
        | false => rfl
        | true =>
          cases hx2 : m.testBit x with
          | false => simp
          | true =>
            have h7 := rt_eq ((hm x).mp hx2).2
            unfold lsB at hx1 hls
            rw [Bool.and_eq_true, beq_iff_eq] at hx1 hls
            exact absurd (by rw [← hx1.2, ← h7, hls.2]) e)]
    omega
theorem cpi_end {s : Nat → Bool} {k L : Nat} (h : CInv s k L) (he : k = 7 ∨ L = 0) : k = npc s := by
  obtain ⟨h1, h2, h3, h4⟩ := h
  rcases he with he | he
  · have : npc s ≤ 7 := fb_ct_le _ _
    omega
  · subst he
    rw [← h4, fb_ct_zero.mpr (fun c _ => by rw [Nat.zero_testBit, Bool.and_false])]; rfl
theorem cpi_all {s : Nat → Bool} {k L : Nat} (h : CInv s k L) (he : k = 7 ∨ L = 0) : L = 0 := by
  obtain ⟨h1, h2, h3, h4⟩ := h
  rcases he with he | he
  · have h5 : npc s ≤ 7 := fb_ct_le _ _
    have h6 : fb_ct (fun c => lsB s c && L.testBit c) 7 = 0 := by omega
    refine Nat.eq_of_testBit_eq fun i => ?_
    rw [Nat.zero_testBit]
    cases hi : L.testBit i with
    | false => rfl
    | true =>
      have h7 := h3 i _ hi (rt_J s i)
      have h8 := fb_ct_zero.mp h6 (rt s i) (rt_7 (h2 i hi).1)
      unfold lsB at h8
      rw [(h2 _ h7).2, rt_rt, beq_self_eq_true, h7] at h8
      cases h8
  · exact he
set_option maxRecDepth 10000 in
/-- Walk.countPieces -/
theorem kX5_countPieces {S : Nat × (Nat → Int32)} {d : Nat} {h : eH} {Q : eQ} {q : Nat} {s : Nat → Bool} (hs : Shp s) (hq0 : h.2[q]? = some (fsS s)) (hQ : Q (.inl (some (.int (nI (npc s))))) h) : okCall S MT (d + 4) nX5_countPieces [.ref (q + 1)] h Q := by
  refine okc (M := MX5_countPieces) rfl rfl fun K hK hW => ?_
  show K 0 [(0, .ref (q + 1))] [] h 0 0
  iterate 1 refine hK _ _ _ _ _ _ (?_ : K _ _ _ _ _ _)
  refine hK _ _ _ _ _ _ (r_callV rfl (fun _ => rfl) hq0 (b0 rfl rfl rfl) (kX1_cornerSet hq0 (?_ : K _ _ _ _ _ _)))
  iterate 7 refine hK _ _ _ _ _ _ (?_ : K _ _ _ _ _ _)
  refine hW _ _ [(3, .int (nI 0)), (2, .int (nI 0)), (1, .int (nI (orF s 128))), (0, .ref (q + 1))] _ _ _ _ (by simp) ?_
  refine up (P := fun k => ∀ (L : Nat), CInv s (k) L → K 12 [(3, .int (nI (k))), (2, .int (nI (k))), (1, .int (nI L)), (0, .ref (q + 1))] [.int (nI 7), .int (nI (k))] h 0 0) 7 0 ?_ ?_ (by decide) (orF s 128) (cpi_0 hs)
  · skip
    intro L hh
    refine hK _ _ _ _ _ _ (And.intro (fun _ => ?_) (fun c9 => absurd (nI_le (Nat.le_refl 7) (by decide)) c9))
    iterate 1 refine hK _ _ _ _ _ _ (?_ : K _ _ _ _ _ _)
    rw [← cpi_end hh (Or.inl rfl)] at hQ
    exact hK _ _ _ _ _ _ (r_iret rfl rfl rfl rfl hQ)
  · intro k h0k hk ihk L hh
    refine hK _ _ _ _ _ _ (And.intro (fun c9 => absurd c9 (nI_ge (by omega) (by decide))) (fun _ => ?_))
    iterate 1 refine hK _ _ _ _ _ _ (?_ : K _ _ _ _ _ _)
    refine hK _ _ _ _ _ _ (And.intro (fun c1 => ?_) (fun c1 => ?_))
    · skip
      iterate 1 refine hK _ _ _ _ _ _ (?_ : K _ _ _ _ _ _)
      rw [← cpi_end hh (Or.inr ((nI_z (by have := hh.1; omega)).mp c1))] at hQ
      exact hK _ _ _ _ _ _ (r_iret rfl rfl rfl rfl hQ)
    · skip
      iterate 3 refine hK _ _ _ _ _ _ (?_ : K _ _ _ _ _ _)
      refine hK _ _ _ _ _ _ (r_callN rfl (fun _ => rfl) (b0 rfl rfl rfl) (kX6_leastCorner (f := L) hh.1 (?_ : K _ _ _ _ _ _)))
      obtain ⟨c, hc7, ec, hcb, hcl⟩ := low1_ex L hh.1 (fun e => c1 (by rw [e]; rfl))
      rw [ec]
      refine hK _ _ _ _ _ _ (r_callS rfl (fun _ => rfl) (b0 rfl rfl rfl) (kX5_pieceFrom (a := c) hc7 hq0 fun m hm hmp => (?_ : K _ _ _ _ _ _)))
      iterate 9 refine hK _ _ _ _ _ _ (?_ : K _ _ _ _ _ _)
      rw [nI_bic _ hh.1 _ hm, nI_add k 1]
      first | exact (ihk (bic L m) (cpi_step hh hc7 hcb hcl hmp)) | exact hW _ _ _ _ _ _ _ (by simp) (ihk (bic L m) (cpi_step hh hc7 hcb hcl hmp))

-- even pieces
def evP (s r : Nat → Bool) (c : Nat) : Prop := fb_ct (fun i => JB s c i && r (2 ^ i)) 7 % 2 = 0
theorem orF_r {r : Nat → Bool} (hr : ∀ f, f < 128 → r f = true → pc f = 1) {c : Nat} (hc : c < 7) : (orF r 128).testBit c = r (2 ^ c) := by
  rw [Bool.eq_iff_iff, orF_bit]
  constructor
  · rintro ⟨f, h1, h2, h3, h4⟩
    obtain ⟨b, hb, rfl⟩ := pc_1 f h2 (hr f h2 h3)
    rw [Nat.testBit_two_pow, decide_eq_true_eq] at h4
    exact h4 ▸ h3
  · exact fun h => ⟨2 ^ c, Nat.two_pow_pos c, pw_128 c hc, h, Nat.testBit_two_pow_self⟩
theorem pc_par : ∀ p, p < 8 → (nI p - nI p / nI 2 * nI 2 = 0 ↔ p % 2 = 0) := by decide +kernel
theorem ev_pc {s r : Nat → Bool} (hr : ∀ f, f < 128 → r f = true → pc f = 1) {c m : Nat} (hm : isPc s c m) : pc (m &&& orF r 128) = fb_ct (fun i => JB s c i && r (2 ^ i)) 7 := fb_ct_cong fun i hi => by
  rw [Nat.testBit_and, orF_r hr hi]
  congr 1
  rw [Bool.eq_iff_iff, JB_iff, hm i]
  exact ⟨fun h => h.2, fun h => ⟨hi, h⟩⟩
def EInv (s r : Nat → Bool) (k L : Nat) : Prop := CInv s k L ∧ ∀ c, c < 7 → s (2 ^ c) = true → L.testBit c = false → evP s r c
theorem evi_0 {s : Nat → Bool} (r : Nat → Bool) (hs : Shp s) : EInv s r 0 (orF s 128) := ⟨cpi_0 hs, fun c hc h1 h2 => by rw [orF_s hs hc, h1] at h2; cases h2⟩
theorem ev_J {s r : Nat → Bool} {c b : Nat} (h : Jn s c b) (hb : evP s r c) : evP s r b := by
  unfold evP at hb ⊢
  rw [← hb]
  congr 1
  refine fb_ct_cong fun i _ => ?_
  congr 1
  rw [Bool.eq_iff_iff, JB_iff, JB_iff]
  exact ⟨fun h1 => Jn_t h h1, fun h1 => Jn_t (Jn_c h) h1⟩
theorem evi_step {s r : Nat → Bool} {k L c m : Nat} (h : EInv s r k L) (hc : c < 7) (hb : L.testBit c = true) (hl : ∀ b, b < c → L.testBit b = false) (hm : isPc s c m) (he : evP s r c) : EInv s r (k + 1) (bic L m) := by
  refine ⟨cpi_step h.1 hc hb hl hm, fun x hx h1 h2 => ?_⟩
  rw [bic_bit h.1.1] at h2
  cases h3 : L.testBit x with
  | false => exact h.2 x hx h1 h3
  | true =>
    rw [h3, Bool.true_and, Bool.not_eq_false'] at h2
    exact ev_J ((hm x).mp h2).2 he
theorem evi_end {s r : Nat → Bool} {k L : Nat} (h : EInv s r k L) (he : k = 7 ∨ L = 0) : ∀ c, c < 7 → s (2 ^ c) = true → evP s r c := fun c hc h1 => h.2 c hc h1 (by rw [cpi_all h.1 he, Nat.zero_testBit])
set_option maxRecDepth 10000 in
/-- Walk.areEven -/
theorem kX5_areEven {S : Nat × (Nat → Int32)} {d : Nat} {h : eH} {Q : eQ} {q j : Nat} {s r : Nat → Bool} (hs : Shp s) (hr : ∀ f, f < 128 → r f = true → pc f = 1) (hj0 : h.2[j]? = some (fsS r)) (hq0 : h.2[q]? = some (fsS s)) (hQ : ∀ b : Bool, (b = true ↔ ∀ c, c < 7 → s (2 ^ c) = true → evP s r c) → Q (.inl (some (.int (b2i b)))) h) : okCall S MT (d + 4) nX5_areEven [.ref (j + 1), .ref (q + 1)] h Q := by
  refine okc (M := MX5_areEven) rfl rfl fun K hK hW => ?_
  show K 0 [(0, .ref (j + 1)), (1, .ref (q + 1))] [] h 0 0
  iterate 1 refine hK _ _ _ _ _ _ (?_ : K _ _ _ _ _ _)
  refine hK _ _ _ _ _ _ (r_callV rfl (fun _ => rfl) hj0 (b0 rfl rfl rfl) (kX1_cornerSet hj0 (?_ : K _ _ _ _ _ _)))
  iterate 2 refine hK _ _ _ _ _ _ (?_ : K _ _ _ _ _ _)
  refine hK _ _ _ _ _ _ (r_callV rfl (fun _ => rfl) hq0 (b0 rfl rfl rfl) (kX1_cornerSet hq0 (?_ : K _ _ _ _ _ _)))
  iterate 5 refine hK _ _ _ _ _ _ (?_ : K _ _ _ _ _ _)
  refine hW _ _ [(4, .int (nI 0)), (3, .int (nI (orF s 128))), (2, .int (nI (orF r 128))), (0, .ref (j + 1)), (1, .ref (q + 1))] _ _ _ _ (by simp) ?_
  refine up (P := fun k => ∀ (L : Nat), EInv s r (k) L → K 17 [(4, .int (nI (k))), (3, .int (nI L)), (2, .int (nI (orF r 128))), (0, .ref (j + 1)), (1, .ref (q + 1))] [.int (nI 7), .int (nI (k))] h 0 0) 7 0 ?_ ?_ (by decide) (orF s 128) (evi_0 r hs)
  · skip
    intro L hh
    refine hK _ _ _ _ _ _ (And.intro (fun _ => ?_) (fun c9 => absurd (nI_le (Nat.le_refl 7) (by decide)) c9))
    iterate 1 refine hK _ _ _ _ _ _ (?_ : K _ _ _ _ _ _)
    exact hK _ _ _ _ _ _ (r_iret rfl rfl rfl rfl (hQ true ⟨fun _ => evi_end hh (Or.inl rfl), fun _ => rfl⟩))
  · intro k h0k hk ihk L hh
    refine hK _ _ _ _ _ _ (And.intro (fun c9 => absurd c9 (nI_ge (by omega) (by decide))) (fun _ => ?_))
    iterate 1 refine hK _ _ _ _ _ _ (?_ : K _ _ _ _ _ _)
    refine hK _ _ _ _ _ _ (And.intro (fun c1 => ?_) (fun c1 => ?_))
    · skip
      iterate 1 refine hK _ _ _ _ _ _ (?_ : K _ _ _ _ _ _)
      exact hK _ _ _ _ _ _ (r_iret rfl rfl rfl rfl (hQ true ⟨fun _ => evi_end hh (Or.inr ((nI_z (by have := hh.1.1; omega)).mp c1)), fun _ => rfl⟩))
    · skip
      iterate 2 refine hK _ _ _ _ _ _ (?_ : K _ _ _ _ _ _)
      refine hK _ _ _ _ _ _ (r_callN rfl (fun _ => rfl) (b0 rfl rfl rfl) (kX6_leastCorner (f := L) hh.1.1 (?_ : K _ _ _ _ _ _)))
      obtain ⟨c, hc7, ec, hcb, hcl⟩ := low1_ex L hh.1.1 (fun e => c1 (by rw [e]; rfl))
      rw [ec]
      refine hK _ _ _ _ _ _ (r_callS rfl (fun _ => rfl) (b0 rfl rfl rfl) (kX5_pieceFrom (a := c) hc7 hq0 fun m hm hmp => (?_ : K _ _ _ _ _ _)))
      iterate 4 refine hK _ _ _ _ _ _ (?_ : K _ _ _ _ _ _)
      refine hK _ _ _ _ _ _ (r_callS rfl (fun _ => rfl) (b0 rfl rfl rfl) (okW (by rw [nx_and]) (kJ6_bitCount_0f7a4 (f := m &&& orF r 128) (Nat.lt_of_le_of_lt Nat.and_le_left hm) (?_ : K _ _ _ _ _ _))))
      iterate 1 refine hK _ _ _ _ _ _ (?_ : K _ _ _ _ _ _)
      refine hK _ _ _ _ _ _ (r_irem rfl (by decide) (?_ : K _ _ _ _ _ _))
      refine hK _ _ _ _ _ _ (And.intro (fun c2 => ?_) (fun c2 => ?_))
      · skip
        iterate 10 refine hK _ _ _ _ _ _ (?_ : K _ _ _ _ _ _)
        have hev : evP s r c := by
          have e := (pc_par _ (Nat.lt_succ_of_le (pc_8 _ (Nat.lt_of_le_of_lt Nat.and_le_left hm)))).mp c2
          rw [ev_pc hr hmp] at e; exact e
        rw [nI_bic _ hh.1.1 _ hm, nI_add k 1]
        first | exact (ihk (bic L m) (evi_step hh hc7 hcb hcl hmp hev)) | exact hW _ _ _ _ _ _ _ (by simp) (ihk (bic L m) (evi_step hh hc7 hcb hcl hmp hev))
      · skip
        iterate 1 refine hK _ _ _ _ _ _ (?_ : K _ _ _ _ _ _)
        exact hK _ _ _ _ _ _ (r_iret rfl rfl rfl rfl (hQ false ⟨fun e => (by cases e), fun e => absurd ((pc_par _ (Nat.lt_succ_of_le (pc_8 _ (Nat.lt_of_le_of_lt Nat.and_le_left hm)))).mpr (by rw [ev_pc hr hmp]; exact e c hc7 (hh.1.2.1 c hcb).2)) c2⟩))

end WK
