/-! the world of the class; what its methods' sets are -/
section WL
abbrev thO : va_E := .inr (3, [.ref 12, .ref 16, .ref 17, .ref 18, .ref 20, .ref 22])
abbrev hwO : va_E := .inr (4, [.ref 2, .ref 9, .ref 10, .ref 12, .ref 11])
def shF (i : Nat) : Option Nat := bif decide (i < 6) then some (i + 3) else none
abbrev shA : va_E := .inl (4, 6, .inr (.inr (.inr (.inr shF))))
def wl (P : Nat → Nat → Bool) (R u v w : Nat → Bool) (kb : Nat → Nat) (f g e : Nat → Int32) (T : List va_E) : List va_E :=
  hwO :: shA :: fsS (P 0) :: fsS (P 1) :: fsS (P 2) :: fsS (P 3) :: fsS (P 4) :: fsS (P 5) :: fsS R :: fsS u :: thO :: boO 12 13 14 :: slA :: bdA :: kpA kb :: fsS v :: fsS w :: hrO 18 :: iaA f :: hrO 20 :: iaA g :: hrO 22 :: iaA e :: T
section Wls
variable {P : Nat → Nat → Bool} {R u v w : Nat → Bool} {kb : Nat → Nat} {f g e : Nat → Int32} {T : List va_E}
theorem wl_0 : (wl P R u v w kb f g e T)[0]? = some hwO := rfl
theorem wl_1 : (wl P R u v w kb f g e T)[1]? = some shA := rfl
theorem wl_8 : (wl P R u v w kb f g e T)[8]? = some (fsS R) := rfl
theorem wl_9 : (wl P R u v w kb f g e T)[9]? = some (fsS u) := rfl
theorem wl_10 : (wl P R u v w kb f g e T)[10]? = some thO := rfl
theorem wl_11 : (wl P R u v w kb f g e T)[11]? = some (boO 12 13 14) := rfl
theorem wl_12 : (wl P R u v w kb f g e T)[12]? = some slA := rfl
theorem wl_13 : (wl P R u v w kb f g e T)[13]? = some bdA := rfl
theorem wl_14 : (wl P R u v w kb f g e T)[14]? = some (kpA kb) := rfl
theorem wl_15 : (wl P R u v w kb f g e T)[15]? = some (fsS v) := rfl
theorem wl_16 : (wl P R u v w kb f g e T)[16]? = some (fsS w) := rfl
theorem wl_17 : (wl P R u v w kb f g e T)[17]? = some (hrO 18) := rfl
theorem wl_18 : (wl P R u v w kb f g e T)[18]? = some (iaA f) := rfl
theorem wl_19 : (wl P R u v w kb f g e T)[19]? = some (hrO 20) := rfl
theorem wl_20 : (wl P R u v w kb f g e T)[20]? = some (iaA g) := rfl
theorem wl_21 : (wl P R u v w kb f g e T)[21]? = some (hrO 22) := rfl
theorem wl_22 : (wl P R u v w kb f g e T)[22]? = some (iaA e) := rfl
theorem wl_P : ∀ {p : Nat}, p < 6 → (wl P R u v w kb f g e T)[2 + p]? = some (fsS (P p))
  | 0, _ => rfl
  | 1, _ => rfl
  | 2, _ => rfl
  | 3, _ => rfl
  | 4, _ => rfl
  | 5, _ => rfl
  | n + 6, h => absurd h (by omega)
def setP (P : Nat → Nat → Bool) (p : Nat) (s : Nat → Bool) : Nat → Nat → Bool := fun i => bif i == p then s else P i
theorem setP_s (P : Nat → Nat → Bool) (p : Nat) (s : Nat → Bool) : setP P p s p = s := by unfold setP; rw [beq_self_eq_true]; rfl
theorem setP_n (P : Nat → Nat → Bool) {p i : Nat} (s : Nat → Bool) (h : i ≠ p) : setP P p s i = P i := by unfold setP; rw [beq_eq_false_iff_ne.mpr h]; rfl
theorem wl_sP (s : Nat → Bool) : ∀ {p : Nat}, p < 6 → (wl P R u v w kb f g e T).set (2 + p) (fsS s) = wl (setP P p s) R u v w kb f g e T
  | 0, _ => rfl
  | 1, _ => rfl
  | 2, _ => rfl
  | 3, _ => rfl
  | 4, _ => rfl
  | 5, _ => rfl
  | n + 6, h => absurd h (by omega)
end Wls
theorem b2i_n {p : Bool} (h : p = true) : ¬ b2i p = 0 := by rw [h]; decide +kernel
theorem b2i_z {p : Bool} (h : p = false) : b2i p = 0 := by rw [h]; rfl
theorem nZ_inj {a b : Int} (h1 : -1000 ≤ a) (h2 : a ≤ 1000) (h3 : -1000 ≤ b) (h4 : b ≤ 1000) : nZ a = nZ b ↔ a = b := by
  constructor
  · intro h
    have h9 := congrArg Int32.toInt h
    unfold nZ at h9
    rw [fb_ofI (by omega) (by omega), fb_ofI (by omega) (by omega)] at h9
    exact h9
  · intro h; rw [h]
theorem hX_b {X : Nat → Bool} (hX1 : Cx X) (n : Nat) : 0 ≤ hX X n ∧ hX X n ≤ 128 := by
  have h1 := rX_le hX1 n
  have h2 : fX X n ≤ 128 := fb_ct_le _ _
  unfold hX
  omega
theorem hol_b {s : Nat → Bool} (hs : Shp s) (t : Nat) : 0 ≤ hol s t ∧ hol s t ≤ 128 := by
  unfold hol
  by_cases h : fb_ct s 128 = 0
  · rw [if_pos h]; omega
  · rw [if_neg h]; exact hX_b hs.2 (t + 1)
/-- a set that is closed -/
theorem Shp_of {A : Nat → Bool} (h0 : A 0 = false) (h : ∀ f, f < 128 → f ≠ 0 → A f = true → ∀ g, g ≠ 0 → g ≤ f → isP g f = true → A g = true) : Shp A := by
  refine ⟨h0, fun f k hf hk ht hx => ?_⟩
  have hle := bit_le ht
  have hp : isP (f - 2 ^ k) f = true := isP_dn hf hk (isP_iff.mpr fun i hi => hi) ht
  by_cases e : f - 2 ^ k = 0
  · rw [e]; rfl
  · have hsl := Nat.sub_le f (2 ^ k)
    have hf0 : f ≠ 0 := fun e2 => e (by rw [e2]; exact Nat.zero_sub _)
    rw [hat_s A f hf hf0] at hx
    rw [hat_s A _ (Nat.lt_of_le_of_lt hsl hf) e]
    exact h f hf hf0 hx _ e hsl hp
theorem isP_le {a b : Nat} (h : isP a b = true) : a ≤ b := by
  have h1 : a &&& b = a := eq_of_beq h
  have h2 : a &&& b ≤ b := Nat.and_le_right
  omega
theorem isP_t {a b c : Nat} (h1 : isP a b = true) (h2 : isP b c = true) : isP a c = true := isP_iff.mpr fun i hi => isP_iff.mp h2 i (isP_iff.mp h1 i hi)
theorem isP_r (a : Nat) : isP a a = true := isP_iff.mpr fun _ h => h
theorem isP_a {a b : Nat} (h1 : isP a b = true) (h2 : isP b a = true) : a = b := Nat.le_antisymm (isP_le h1) (isP_le h2)
theorem isP_o1 (a b : Nat) : isP a (a ||| b) = true := isP_iff.mpr fun i hi => by rw [Nat.testBit_or, hi]; rfl
theorem isP_o2 (a b : Nat) : isP b (a ||| b) = true := isP_iff.mpr fun i hi => by rw [Nat.testBit_or, hi, Bool.or_true]
theorem isP_oo {a b c : Nat} (h1 : isP a c = true) (h2 : isP b c = true) : isP (a ||| b) c = true := isP_iff.mpr fun i hi => by
  rw [Nat.testBit_or, Bool.or_eq_true] at hi
  exact hi.elim (isP_iff.mp h1 i) (isP_iff.mp h2 i)
theorem isP_om {a b c : Nat} (h : isP a b = true) : isP (a ||| c) (b ||| c) = true := isP_oo (isP_t h (isP_o1 b c)) (isP_o2 b c)
theorem isP_pw {c f : Nat} (h : f.testBit c = true) : isP (2 ^ c) f = true := isP_iff.mpr fun i hi => by
  rw [Nat.testBit_two_pow, decide_eq_true_eq] at hi
  exact hi ▸ h
theorem bit_isP {c f : Nat} (h : isP (2 ^ c) f = true) : f.testBit c = true := isP_iff.mp h c Nat.testBit_two_pow_self
-- rows
/-- a row of faces of n corners -/
def RowI (R : Nat → Bool) (n : Nat) : Prop := R 0 = false ∧ 1 ≤ n ∧ n ≤ 7 ∧ ∀ f, f < 128 → R f = true → pc f = n
theorem row_v {R : Nat → Bool} {n : Nat} (h : RowI R n) : sp (cX (fun _ => true) n) (mkN R 128) = true := cX_sp.mpr ⟨mkN_lt R 128, fun f hf => by
  rw [mkN_bit, Bool.and_eq_true, decide_eq_true_eq] at hf
  exact ⟨rfl, h.2.2.2 f hf.1 hf.2⟩⟩
theorem row_dB {R : Nat → Bool} {n : Nat} (h : RowI R (n + 1)) : ∀ f, (dB (mkN R 128)).testBit f = true → pc f = n := (bX_pc (bX_d (row_v h))).2
theorem pc_00 : pc 0 = 0 := by decide
theorem bdS_1 {R : Nat → Bool} (h : RowI R 1) : ∀ i, i < 128 → bdS R i = false := fun i hi => by
  unfold bdS
  cases hb : (dB (mkN R 128)).testBit i with
  | false => rfl
  | true =>
    have h1 := row_dB (n := 0) h i hb
    rw [pc_z i hi h1]; rfl
theorem bdS_n {R : Nat → Bool} {n : Nat} (h : RowI R (n + 2)) : RowI (bdS R) (n + 1) := by
  refine ⟨by unfold bdS; simp, by omega, by have := h.2.2.1; omega, fun f hf hb => ?_⟩
  unfold bdS at hb
  rw [Bool.and_eq_true] at hb
  exact row_dB (n := n + 1) h f hb.1
theorem bdS_I {R : Nat → Bool} (h : ∃ n, RowI R n) : ∃ n, RowI (bdS R) n := by
  obtain ⟨n, hn⟩ := h
  match n, hn with
  | 0, hn => exact absurd hn.2.1 (by decide)
  | 1, hn => exact ⟨1, by unfold bdS; simp, by decide, by decide, fun f hf hb => by rw [bdS_1 hn f hf] at hb; cases hb⟩
  | n + 2, hn => exact ⟨n + 1, bdS_n hn⟩
theorem bdS_v {R : Nat → Bool} {n : Nat} (h : RowI R (n + 2)) : mkN (bdS R) 128 = dB (mkN R 128) := by
  refine Nat.eq_of_testBit_eq fun i => ?_
  rw [mkN_bit]
  by_cases hi : i < 128
  · rw [decide_eq_true hi, Bool.true_and]
    unfold bdS
    by_cases e : i = 0
    · subst e
      cases hb : (dB (mkN R 128)).testBit 0 with
      | false => rfl
      | true =>
        have h1 := row_dB (n := n + 1) h 0 hb
        rw [pc_00] at h1; omega
    · rw [beq_eq_false_iff_ne.mpr e]; simp
  · rw [decide_eq_false hi, Bool.false_and]
    exact (Nat.testBit_lt_two_pow (Nat.lt_of_lt_of_le (dB_lt _) (Nat.pow_le_pow_right (by decide) (by omega)))).symm
theorem mkN_z {s : Nat → Bool} {n : Nat} (h : ∀ i, i < n → s i = false) : mkN s n = 0 := (mkN_cong h).trans (mkN_0 n)
theorem bdS_z {R : Nat → Bool} (h : dB (mkN R 128) = 0) : fb_ct (bdS R) 128 = 0 := fb_ct_zero.mpr fun i _ => by unfold bdS; rw [h, Nat.zero_testBit]; rfl
theorem bdS_bdS {R : Nat → Bool} (h : ∃ n, RowI R n) : fb_ct (bdS (bdS R)) 128 = 0 := by
  obtain ⟨n, hn⟩ := h
  match n, hn with
  | 0, hn => exact absurd hn.2.1 (by decide)
  | 1, hn => exact bdS_z (by rw [mkN_z (bdS_1 hn)]; exact dB_L.1)
  | n + 2, hn => exact bdS_z (by rw [bdS_v hn]; exact dd _)
theorem fil_round {R s : Nat → Bool} {n : Nat} (h : fil R s n = true) : fb_ct (bdS R) 128 = 0 := bdS_z (bX_z (X := hat s) h)
theorem row_s {R s : Nat → Bool} {n : Nat} (hR : RowI R n) (hsub : ∀ f, f < 128 → R f = true → s f = true) : sp (cX (hat s) n) (mkN R 128) = true := cX_sp.mpr ⟨mkN_lt R 128, fun f hf => by
  rw [mkN_bit, Bool.and_eq_true, decide_eq_true_eq] at hf
  refine ⟨?_, hR.2.2.2 f hf.1 hf.2⟩
  unfold hat
  rw [hsub f hf.1 hf.2, Bool.or_true]⟩
theorem fil_even {R s : Nat → Bool} (hs : Shp s) (hR : RowI R 1) (hsub : ∀ f, f < 128 → R f = true → s f = true) {b : Bool} (hb : b = true ↔ ∀ c, c < 7 → s (2 ^ c) = true → evP s R c) : fil R s 1 = b := by
  rw [Bool.eq_iff_iff, hb]
  unfold fil
  rw [pie_even hs.2 (hat_s s) (row_s hR hsub)]
  have e : ∀ c, fb_ct (fun i => JB s c i && (mkN R 128).testBit (2 ^ i)) 7 = fb_ct (fun i => JB s c i && R (2 ^ i)) 7 := fun c => fb_ct_cong fun i hi => by
    rw [mkN_bit, decide_eq_true (pw_128 i hi), Bool.true_and]
  constructor
  · intro h c hc hsc
    have := h c hc hsc
    rw [e] at this; exact this
  · intro h c hc hsc
    rw [e]; exact h c hc hsc
theorem fil_hol {R s : Nat → Bool} {n : Nat} (hs : Shp s) (hR : RowI R (n + 2)) (hsub : ∀ f, f < 128 → R f = true → s f = true) (hne : fb_ct R 128 ≠ 0) (hrd : fb_ct (bdS R) 128 = 0) (hh : hol s (n + 1) = 0) : fil R s (n + 2) = true := by
  have h1 : fb_ct s 128 ≠ 0 := fun e => by
    obtain ⟨f, h1, h2⟩ := fb_ct_pos.mp (Nat.pos_of_ne_zero hne)
    have h3 := hsub f h1 h2
    rw [fb_ct_zero.mp e f h1] at h3; cases h3
  unfold hol at hh
  rw [if_neg h1] at hh
  have h2 : dB (mkN R 128) = 0 := by rw [← bdS_v hR]; exact mkN_z (fb_ct_zero.mp hrd)
  refine rX_full hs.2 ?_ (row_s hR hsub) h2
  have h3 := rX_le hs.2 (n + 1 + 1)
  have hh : (fX (hat s) (n + 2) : Int) - rX (hat s) (n + 2) - rX (hat s) (n + 3) = 0 := hh
  have h3 : rX (hat s) (n + 2) + rX (hat s) (n + 3) ≤ fX (hat s) (n + 2) := h3
  show fX (hat s) (n + 2) = rX (hat s) (n + 2) + rX (hat s) (n + 3)
  omega
-- pieces, signs
theorem npc_1 {s : Nat → Bool} (hs : Shp s) : cnt s 0 = Rr s 1 + npc s := by
  rw [cnt_f]
  exact (pie_Z hs.2 (hat_s s)).2
theorem npc_2 {s : Nat → Bool} (hs : Shp s) (h : fb_ct s 128 ≠ 0) : (npc s : Int) = hol s 0 + 1 := by
  obtain ⟨c, hc, hsc⟩ := Shp_cor hs h
  have h1 := rX_1 hc (hat_c hc hsc)
  have h2 := (pie_Z hs.2 (hat_s s)).2
  unfold hol
  rw [if_neg h]
  show _ = ((fX (hat s) 1 : Int) - rX (hat s) 1 - rX (hat s) 2) + 1
  omega
def sgc (s : Nat → Bool) (t n : Nat) : Nat := cF (fun i => decide (ht i = t) && s i) n
theorem sgc_s (s : Nat → Bool) (t n : Nat) : sgc s t (n + 1) = sgc s t n + (if (decide (0 < n) && (decide (ht n = t) && s n)) then 1 else 0) := rfl
theorem sg_sum (s : Nat → Bool) : ∀ n, n ≤ 128 → sgF s n = (sgc s 0 n : Int) - sgc s 1 n + sgc s 2 n - sgc s 3 n + sgc s 4 n - sgc s 5 n + sgc s 6 n
  | 0, _ => rfl
  | n + 1, h => by
    have ih := sg_sum s n (by omega)
    rw [show sgF s (n + 1) = sgF s n + (bif decide (0 < n) && s n then sgn1 n else 0) from rfl, ih, sgc_s, sgc_s, sgc_s, sgc_s, sgc_s, sgc_s, sgc_s]
    by_cases hp : 0 < n ∧ s n = true
    · rw [decide_eq_true hp.1, hp.2]
      have h7 := ht_lt n (by omega)
      unfold sgn1
      generalize ht n = t at h7 ⊢
      match t, h7 with
      | 0, _ => simp; omega
      | 1, _ => simp; omega
      | 2, _ => simp; omega
      | 3, _ => simp; omega
      | 4, _ => simp; omega
      | 5, _ => simp; omega
      | 6, _ => simp; omega
      | t + 7, h7 => exact absurd h7 (by omega)
    · have e : ∀ b, (decide (0 < n) && (b && s n)) = false := fun b => by
        rw [Bool.eq_false_iff, Ne, Bool.and_eq_true, Bool.and_eq_true, decide_eq_true_eq]
        exact fun h => hp ⟨h.1, h.2.2⟩
      have e2 : (decide (0 < n) && s n) = false := by
        rw [Bool.eq_false_iff, Ne, Bool.and_eq_true, decide_eq_true_eq]; exact hp
      rw [e, e, e, e, e, e, e, e2]; simp
theorem sg_eu {s : Nat → Bool} (hs : Shp s) (h : fb_ct s 128 ≠ 0) : sgF s 128 = alt (hol s) 7 + 1 := by
  obtain ⟨c, hc, hsc⟩ := Shp_cor hs h
  have h1 := euler hc (hat_c hc hsc)
  rw [sg_sum s 128 (Nat.le_refl _)]
  have e : ∀ t, sgc s t 128 = fX (hat s) (t + 1) := fun t => cnt_f s t
  have eh : ∀ t, hol s t = hX (hat s) (t + 1) := fun t => by unfold hol; rw [if_neg h]
  rw [e, e, e, e, e, e, e]
  show _ = 0 + hol s 0 + - hol s 1 + hol s 2 + - hol s 3 + hol s 4 + - hol s 5 + hol s 6 + 1
  rw [eh, eh, eh, eh, eh, eh, eh]
  simp only [Nat.zero_add, Nat.reduceAdd] at *
  omega
-- what is made
theorem sF_id {p : Nat → Bool} {n i : Nat} : sFold no9 p (fun i => i) n i = (decide (0 < i) && (decide (i < n) && p i)) := by
  rw [Bool.eq_iff_iff, sF_mem, Bool.and_eq_true, Bool.and_eq_true, decide_eq_true_eq, decide_eq_true_eq]
  constructor
  · rintro (h | ⟨j, h1, h2, h3, h4⟩)
    · cases h
    · have h4 : j = i := h4
      subst h4; exact ⟨h1, h2, h3⟩
  · rintro ⟨h1, h2, h3⟩; exact Or.inr ⟨i, h1, h2, h3, rfl⟩
/-- a tip that all faces have a face with -/
theorem tip_ok {A : Nat → Bool} {c : Nat} (hA : Shp A) (hc : c < 7) (ht : ∀ f, f < 128 → hat A f = true → hat A (f ||| 2 ^ c) = true) : (∀ t, hol A t = 0) ∧ npc A = 1 := by
  have h1 : ∀ t, hol A t = 0 := fun t => by
    unfold hol
    have h2 := acy hA.2 hc ht (t + 1)
    split
    · rfl
    · unfold hX; omega
  have h2 : A (2 ^ c) = true := by
    have h3 := ht 0 (by decide) (hat_0 A)
    rw [Nat.zero_or, hat_s A _ (pw_128 c hc) (pw_0 c)] at h3
    exact h3
  have h3 : fb_ct A 128 ≠ 0 := fun e => by rw [fb_ct_zero.mp e _ (pw_128 c hc)] at h2; cases h2
  refine ⟨h1, ?_⟩
  have h4 := npc_2 hA h3
  rw [h1 0] at h4
  omega
theorem cone_mem {s : Nat → Bool} {c i : Nat} : coneS s c i = true ↔ s i = true ∨ i = c ∨ ∃ j, 0 < j ∧ j < 128 ∧ s j = true ∧ j ||| c = i := by
  unfold coneS
  rw [sF_mem]
  show ((s i || i == c) = true ∨ _) ↔ _
  rw [Bool.or_eq_true, beq_iff_eq, or_assoc]
theorem cone_hat {s : Nat → Bool} {c i : Nat} (hi : i ≠ 0) : coneS s c i = true ↔ hat s i = true ∨ ∃ j, j < 128 ∧ hat s j = true ∧ i = j ||| c := by
  rw [cone_mem]
  constructor
  · rintro (h | h | ⟨j, h1, h2, h3, h4⟩)
    · exact Or.inl (by unfold hat; rw [h, Bool.or_true])
    · exact Or.inr ⟨0, by decide, rfl, by rw [h, Nat.zero_or]⟩
    · exact Or.inr ⟨j, h2, by unfold hat; rw [h3, Bool.or_true], h4.symm⟩
  · rintro (h | ⟨j, h1, h2, h3⟩)
    · unfold hat at h
      rw [beq_eq_false_iff_ne.mpr hi] at h
      exact Or.inl h
    · by_cases e : j = 0
      · subst e; rw [Nat.zero_or] at h3; exact Or.inr (Or.inl h3)
      · unfold hat at h2
        rw [beq_eq_false_iff_ne.mpr e] at h2
        exact Or.inr (Or.inr ⟨j, by omega, h1, h2, h3.symm⟩)
theorem hat_P {s : Nat → Bool} (hs : Shp s) {e g : Nat} (hg : g < 128) (hp : isP e g = true) (h : hat s g = true) : hat s e = true := Cx_P hs.2 (Nat.lt_of_le_of_lt (isP_le hp) hg) hg hp h
theorem or_0 {a b : Nat} (h : a ||| b = 0) : b = 0 := by
  have : b ≤ a ||| b := Nat.right_le_or
  omega
/-- without a corner -/
theorem sub_bit {f a : Nat} (hf : f < 128) (ha : a < 7) : bic f (2 ^ a) < 128 ∧ isP (bic f (2 ^ a)) f = true ∧ (bic f (2 ^ a)).testBit a = false ∧ (f.testBit a = true → bic f (2 ^ a) ||| 2 ^ a = f) := by
  have hb : ∀ i, (bic f (2 ^ a)).testBit i = (f.testBit i && !decide (a = i)) := fun i => by rw [bic_bit hf, Nat.testBit_two_pow]
  refine ⟨bic_lt hf, isP_iff.mpr fun i hi => ?_, by rw [hb, decide_eq_true rfl]; simp, fun h => Nat.eq_of_testBit_eq fun i => ?_⟩
  · rw [hb, Bool.and_eq_true] at hi; exact hi.1
  · rw [Nat.testBit_or, hb, Nat.testBit_two_pow]
    by_cases e : a = i
    · subst e; rw [h, decide_eq_true rfl]; rfl
    · rw [decide_eq_false e]; simp
theorem cone_S {s : Nat → Bool} {c : Nat} (hs : Shp s) (hc : c < 7) : Shp (coneS s (2 ^ c)) := by
  refine Shp_of ?_ fun f hf hf0 hx g hg0 hgf hp => ?_
  · rw [Bool.eq_false_iff]
    intro h
    rcases cone_mem.mp h with h | h | ⟨j, -, -, -, h⟩
    · rw [hs.1] at h; cases h
    · exact pw_0 c h.symm
    · exact pw_0 c (or_0 h)
  · have hg : g < 128 := by omega
    rw [cone_hat hf0] at hx
    rw [cone_hat hg0]
    rcases hx with hx | ⟨j, h1, h2, h3⟩
    · exact Or.inl (hat_P hs hf hp hx)
    · obtain ⟨q1, q2, q3, q4⟩ := sub_bit hg hc
      have hj : isP (bic g (2 ^ c)) j = true := isP_iff.mpr fun i hi => by
        have h5 := isP_iff.mp hp i (isP_iff.mp q2 i hi)
        rw [h3, Nat.testBit_or, Bool.or_eq_true, Nat.testBit_two_pow, decide_eq_true_eq] at h5
        rcases h5 with h5 | h5
        · exact h5
        · subst h5; rw [q3] at hi; cases hi
      have h6 := hat_P hs h1 hj h2
      cases hb : g.testBit c with
      | true => exact Or.inr ⟨_, q1, h6, (q4 hb).symm⟩
      | false =>
        have e : bic g (2 ^ c) = g := isP_a q2 (isP_iff.mpr fun i hi => by
          rw [bic_bit hg, hi, Nat.testBit_two_pow]
          by_cases e : c = i
          · subst e; rw [hb] at hi; cases hi
          · rw [decide_eq_false e]; rfl)
        rw [e] at h6
        exact Or.inl h6
theorem or_same (f a : Nat) : f ||| a ||| a = f ||| a := by rw [Nat.or_assoc, Nat.or_self]
theorem cone_ok {s : Nat → Bool} {c : Nat} (hs : Shp s) (hc : c < 7) : (∀ t, hol (coneS s (2 ^ c)) t = 0) ∧ npc (coneS s (2 ^ c)) = 1 := by
  refine tip_ok (cone_S hs hc) hc fun f hf h => ?_
  have hn : f ||| 2 ^ c ≠ 0 := fun e => pw_0 c (or_0 e)
  rw [hat_s _ _ (or_lt hf hc) hn, cone_hat hn]
  by_cases e : f = 0
  · subst e; exact Or.inr ⟨0, by decide, rfl, rfl⟩
  · rw [hat_s _ f hf e, cone_hat e] at h
    rcases h with h | ⟨j, h1, h2, h3⟩
    · exact Or.inr ⟨f, hf, h, rfl⟩
    · exact Or.inr ⟨j, h1, h2, by rw [h3, or_same]⟩
/-- the faces about a face -/
def abP (s : Nat → Bool) (c : Nat) (b : Bool) (i : Nat) : Bool := (!b || i &&& c == 0) && (s i && s (i ||| c))
def abS (s : Nat → Bool) (c : Nat) (b : Bool) : Nat → Bool := sFold no9 (abP s c b) (fun i => i) 128
theorem ab_at {s : Nat → Bool} {c i : Nat} {b : Bool} (hi : i < 128) : abS s c b i = (decide (0 < i) && abP s c b i) := by
  unfold abS
  rw [sF_id, decide_eq_true hi, Bool.true_and]
theorem and_isP {a b c : Nat} (h : isP a b = true) (h0 : b &&& c = 0) : a &&& c = 0 := Nat.eq_of_testBit_eq fun i => by
  have h1 := congrArg (fun x => Nat.testBit x i) h0
  simp only [Nat.testBit_and, Nat.zero_testBit] at h1
  rw [Nat.testBit_and, Nat.zero_testBit]
  cases ha : a.testBit i with
  | false => rfl
  | true => rw [isP_iff.mp h i ha] at h1; exact h1
theorem ab_S {s : Nat → Bool} {c : Nat} {b : Bool} (hs : Shp s) (hc : c < 128) (hc0 : c ≠ 0) : Shp (abS s c b) := by
  refine Shp_of (by rw [ab_at (by decide)]; rfl) fun f hf hf0 hx g hg0 hgf hp => ?_
  rw [ab_at hf, Bool.and_eq_true, abP, Bool.and_eq_true, Bool.and_eq_true, Bool.or_eq_true, beq_iff_eq] at hx
  rw [ab_at (by omega), Bool.and_eq_true, abP, Bool.and_eq_true, Bool.and_eq_true, Bool.or_eq_true, beq_iff_eq, decide_eq_true_eq]
  refine ⟨by omega, hx.2.1.imp id (fun h => and_isP hp h), Shp_P hs hg0 hf hp hx.2.2.1, ?_⟩
  exact Shp_P hs (fun e => hc0 (or_0 e)) (or_128 hf hc) (isP_om hp) hx.2.2.2
theorem ab_ok {s : Nat → Bool} {c : Nat} (hs : Shp s) (hc : c < 128) (hc0 : c ≠ 0) (hsc : s c = true) : (∀ t, hol (abS s c false) t = 0) ∧ npc (abS s c false) = 1 := by
  obtain ⟨a, ha⟩ := Nat.exists_testBit_of_ne_zero hc0
  have ha7 := bit_7 hc ha
  refine tip_ok (ab_S hs hc hc0) ha7 fun f hf h => ?_
  have hn : f ||| 2 ^ a ≠ 0 := fun e => pw_0 a (or_0 e)
  have hfc : s (f ||| c) = true := by
    by_cases e : f = 0
    · subst e; rw [Nat.zero_or]; exact hsc
    · rw [hat_s _ f hf e, ab_at hf, Bool.and_eq_true, abP, Bool.and_eq_true, Bool.and_eq_true] at h
      exact h.2.2.2
  have e1 : f ||| 2 ^ a ||| c = f ||| c := isP_a (isP_oo (isP_om (c := 0) (a := f ||| 2 ^ a) (b := f ||| c) (isP_oo (isP_o1 f c) (isP_t (isP_pw ha) (isP_o2 f c))) |> fun h => by simpa using h) (isP_o2 f c)) (isP_oo (isP_t (isP_o1 f (2 ^ a)) (isP_o1 _ c)) (isP_o2 _ c))
  rw [hat_s _ _ (or_lt hf ha7) hn, ab_at (or_lt hf ha7), Bool.and_eq_true, abP, Bool.and_eq_true, Bool.and_eq_true, decide_eq_true_eq]
  refine ⟨by omega, rfl, ?_, by rw [e1]; exact hfc⟩
  exact Shp_P hs hn (or_128 hf hc) (isP_oo (isP_o1 f c) (isP_t (isP_pw ha) (isP_o2 f c))) hfc
end WL
