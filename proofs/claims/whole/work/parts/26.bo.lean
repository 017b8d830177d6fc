section BO2
theorem sC {l : List va_E} {i j : Nat} {a b : va_E} (h : i ≠ j) : (l.set i a).set j b = (l.set j b).set i a := by
  apply List.ext_getElem?
  intro k
  rw [List.getElem?_set, List.getElem?_set, List.getElem?_set, List.getElem?_set, List.length_set, List.length_set]
  by_cases h1 : j = k
  · subst h1
    rw [if_pos rfl, if_neg h, if_pos rfl]
  · rw [if_neg h1]
    by_cases h2 : i = k
    · subst h2; rw [if_pos rfl, if_pos rfl]
    · rw [if_neg h2, if_neg h2, if_neg h1]
theorem nZ_sub (a b : Int) : nZ a - nZ b = nZ (a - b) := (Int32.ofInt_sub a b).symm
/-- how many faces of a height -/
def cnt (s : Nat → Bool) (t : Nat) : Nat := cF (fun i => decide (ht i = t) && s i) 128
theorem cnt_f (s : Nat → Bool) (t : Nat) : cnt s t = fX (hat s) (t + 1) := fb_ct_cong fun f hf => (px_hat s t f hf).symm
theorem Shp_cor {s : Nat → Bool} (hs : Shp s) (h : fb_ct s 128 ≠ 0) : ∃ c, c < 7 ∧ s (2 ^ c) = true := by
  obtain ⟨f, h1, h2⟩ := fb_ct_pos.mp (Nat.pos_of_ne_zero h)
  have h3 : f ≠ 0 := fun e => by subst e; rw [hs.1] at h2; cases h2
  obtain ⟨c, hc⟩ := Nat.exists_testBit_of_ne_zero h3
  have h7 := bit_7 h1 hc
  exact ⟨c, h7, Shp_P hs (pw_0 c) h1 (isP_iff.mpr fun i hi => by
    rw [Nat.testBit_two_pow, decide_eq_true_eq] at hi
    exact hi ▸ hc) h2⟩
theorem hat_c {s : Nat → Bool} {c : Nat} (hc : c < 7) (h : s (2 ^ c) = true) : hat s (2 ^ c) = true := by rw [hat_s s _ (pw_128 c hc) (pw_0 c)]; exact h
/-- the holes of a height -/
def hol (s : Nat → Bool) (t : Nat) : Int := if fb_ct s 128 = 0 then 0 else hX (hat s) (t + 1)
def hbV (s : Nat → Bool) (t : Nat) (x y : Int32) : Int32 := bif decide (fb_ct s 128 = 0) then nI 0 else (bif decide (t = 0) then nI (cnt s t) - x - y - nI 1 else nI (cnt s t) - x - y)
theorem hbV_ok {s : Nat → Bool} (hs : Shp s) (t : Nat) : hbV s t (nI (Rr s t)) (nI (Rr s (t + 1))) = nZ (hol s t) := by
  unfold hbV hol
  by_cases h0 : fb_ct s 128 = 0
  · rw [decide_eq_true h0, if_pos h0]; rfl
  · rw [decide_eq_false h0, if_neg h0]
    obtain ⟨c, hc, hsc⟩ := Shp_cor hs h0
    have h1 := rX_1 hc (hat_c hc hsc)
    have h2 : Rr s (t + 1) = rX (hat s) (t + 2) := by unfold Rr; rw [if_neg (by omega)]
    rw [h2, cnt_f]
    by_cases ht0 : t = 0
    · subst ht0
      rw [decide_eq_true rfl, Rr_0]
      show nI (fX (hat s) 1) - nI 0 - nI (rX (hat s) 2) - nI 1 = _
      rw [nZ_nI, nZ_nI, nZ_nI, nZ_nI, nZ_sub, nZ_sub, nZ_sub]
      have e9 : ((fX (hat s) 1 : Int) - ((0 : Nat) : Int) - rX (hat s) 2 - ((1 : Nat) : Int)) = (fX (hat s) 1 : Int) - rX (hat s) 1 - rX (hat s) 2 := by omega
      exact congrArg nZ e9
    · have h3 : Rr s t = rX (hat s) (t + 1) := by unfold Rr; rw [if_neg ht0]
      rw [decide_eq_false ht0, h3]
      show nI (fX (hat s) (t + 1)) - nI (rX (hat s) (t + 1)) - nI (rX (hat s) (t + 2)) = _
      rw [nZ_nI, nZ_nI, nZ_nI, nZ_sub, nZ_sub]
      rfl
/-- what the faces of a height lose: of the corners 1, else their free borders -/
def loF (s : Nat → Bool) : Nat → Int32
  | 0 => nI 1
  | t + 1 => nI (Rr s (t + 1))
theorem loF_s (s : Nat → Bool) (t : Nat) : loF s (t + 1) = nI (Rr s (t + 1)) := rfl
theorem loF_n {s : Nat → Bool} {t : Nat} (h : ¬ t = 0) : loF s t = nI (Rr s t) := by
  cases t with
  | zero => exact absurd rfl h
  | succ n => rfl
theorem hb_ok {s : Nat → Bool} (hs : Shp s) (t : Nat) (h0 : ¬ fb_ct s 128 = 0) : nI (cnt s t) - loF s t - nI (Rr s (t + 1)) = nZ (hol s t) := by
  unfold hol
  rw [if_neg h0]
  obtain ⟨c, hc, hsc⟩ := Shp_cor hs h0
  have h1 := rX_1 hc (hat_c hc hsc)
  have h2 : Rr s (t + 1) = rX (hat s) (t + 2) := by unfold Rr; rw [if_neg (by omega)]
  rw [h2, cnt_f]
  by_cases ht0 : t = 0
  · subst ht0
    show nI (fX (hat s) 1) - nI 1 - nI (rX (hat s) 2) = _
    rw [nZ_nI, nZ_nI, nZ_nI, nZ_sub, nZ_sub]
    have e9 : ((fX (hat s) 1 : Int) - ((1 : Nat) : Int) - rX (hat s) 2) = (fX (hat s) 1 : Int) - rX (hat s) 1 - rX (hat s) 2 := by omega
    exact congrArg nZ e9
  · have h3 : Rr s t = rX (hat s) (t + 1) := by unfold Rr; rw [if_neg ht0]
    rw [loF_n ht0, h3]
    show nI (fX (hat s) (t + 1)) - nI (rX (hat s) (t + 1)) - nI (rX (hat s) (t + 2)) = _
    rw [nZ_nI, nZ_nI, nZ_nI, nZ_sub, nZ_sub]
    rfl
theorem holZ_0 {s : Nat → Bool} (t : Nat) (h0 : fb_ct s 128 = 0) : nZ (hol s t) = nI 0 := by
  unfold hol
  rw [if_pos h0]; rfl
set_option maxRecDepth 10000 in
/-- Borders.countHoles -/
theorem kX0_countHoles {S : Nat × (Nat → Int32)} {d : Nat} {h : eH} {Q : eQ} {q a b c : Nat} {kb : Nat → Nat} (hB : h.2[q]? = some (boO a b c)) (hC : h.2[c]? = some (kpA kb)) {z t : Nat} {s : Nat → Bool} (hcq : c ≠ q) (hcz : c ≠ z) (hcb : c ≠ b) (hbd : h.2[b]? = some bdA) (hz0 : h.2[z]? = some (fsS s)) (hs : Shp s) (ht7 : t < 7) (hQ : ∀ kb2, Q (.inl (some (.int (nZ (hol s t))))) (h.1, h.2.set c (kpA kb2))) : okCall S MT (d + 5) nX0_countHoles [.ref (q + 1), .ref (z + 1), .int (nI t)] h Q := by
  refine okc (M := MX0_countHoles) rfl rfl fun K hK hW => ?_
  show K 0 [(0, .ref (q + 1)), (1, .ref (z + 1)), (2, .int (nI t))] [] h 0 0
  iterate 1 refine hK _ _ _ _ _ _ (?_ : K _ _ _ _ _ _)
  refine hK _ _ _ _ _ _ (r_callV rfl (fun _ => rfl) hz0 (b0 rfl rfl rfl) (kX1_isEmpty hz0 (?_ : K _ _ _ _ _ _)))
  refine hK _ _ _ _ _ _ (And.intro (fun c1 => ?_) (fun c1 => ?_))
  · skip
    have e0 : ¬ fb_ct s 128 = 0 := of_decide_eq_false (b2i_0.mp c1)
    iterate 1 refine hK _ _ _ _ _ _ (?_ : K _ _ _ _ _ _)
    refine hK _ _ _ _ _ _ (And.intro (fun c2 => ?_) (fun c2 => ?_))
    · skip
      have e2 : t = 0 := (nI_z (by omega)).mp c2
      iterate 5 refine hK _ _ _ _ _ _ (?_ : K _ _ _ _ _ _)
      refine hK _ _ _ _ _ _ (r_callV rfl (fun _ => rfl) hz0 (b0 rfl rfl rfl) (kX1_countAt (t := t) (by omega) hz0 (?_ : K _ _ _ _ _ _)))
      iterate 7 refine hK _ _ _ _ _ _ (?_ : K _ _ _ _ _ _)
      refine hK _ _ _ _ _ _ (r_callV rfl (fun _ => rfl) hB (b0 rfl rfl rfl) (okW (by rw [nI_add t 1]) (kX0_countFree (a := a) (b := b) (t := t + 1) hB hC hcq hcz hcb hbd hz0 (by omega) fun kb3 _ hkb3 => (?_ : K _ _ _ _ _ _))))
      iterate 1 refine hK _ _ _ _ _ _ (?_ : K _ _ _ _ _ _)
      have e3 : nI (cF (fun i => decide (ht i = t) && s i) 128) - nI 1 - nI (Rr s (t + 1)) = nZ (hol s t) := by
        have e4 := hb_ok hs t e0
        rw [show loF s t = nI 1 by rw [e2]; rfl] at e4
        exact e4
      exact hK _ _ _ _ _ _ (r_iret rfl rfl rfl rfl (by rw [e3]; exact hQ kb3))
    · skip
      have e2 : ¬ t = 0 := fun e => c2 (by rw [e]; rfl)
      iterate 3 refine hK _ _ _ _ _ _ (?_ : K _ _ _ _ _ _)
      refine hK _ _ _ _ _ _ (r_callV rfl (fun _ => rfl) hB (b0 rfl rfl rfl) (kX0_countFree (a := a) (b := b) (t := t) hB hC hcq hcz hcb hbd hz0 (by omega) fun kb2 _ hkb2 => (?_ : K _ _ _ _ _ _)))
      iterate 3 refine hK _ _ _ _ _ _ (?_ : K _ _ _ _ _ _)
      refine hK _ _ _ _ _ _ (r_callV rfl (fun _ => rfl) (gn hcz hz0) (b0 rfl rfl rfl) (kX1_countAt (t := t) (by omega) (gn hcz hz0) (?_ : K _ _ _ _ _ _)))
      iterate 7 refine hK _ _ _ _ _ _ (?_ : K _ _ _ _ _ _)
      refine hK _ _ _ _ _ _ (r_callV rfl (fun _ => rfl) (gn hcq hB) (b0 rfl rfl rfl) (okW (by rw [nI_add t 1]) (kX0_countFree (a := a) (b := b) (t := t + 1) (gn hcq hB) (gs hC) hcq hcz hcb (gn hcb hbd) (gn hcz hz0) (by omega) fun kb3 _ hkb3 => (?_ : K _ _ _ _ _ _))))
      iterate 1 refine hK _ _ _ _ _ _ (?_ : K _ _ _ _ _ _)
      have e3 : nI (cF (fun i => decide (ht i = t) && s i) 128) - nI (Rr s t) - nI (Rr s (t + 1)) = nZ (hol s t) := by
        have e4 := hb_ok hs t e0
        rw [loF_n e2] at e4
        exact e4
      exact hK _ _ _ _ _ _ (r_iret rfl rfl rfl rfl (by rw [e3]; dsimp only; rw [List.set_set]; exact hQ kb3))
  · skip
    have e0 : fb_ct s 128 = 0 := of_decide_eq_true (Bool.of_not_eq_false (fun e => c1 (b2i_0.mpr e)))
    iterate 1 refine hK _ _ _ _ _ _ (?_ : K _ _ _ _ _ _)
    have h8 := hQ kb
    rw [holZ_0 t e0, gq hC] at h8
    exact hK _ _ _ _ _ _ (r_iret rfl rfl rfl rfl h8)

theorem bic_pw : ∀ c, c < 7 → ∀ f, f < 128 → bic f (2 ^ c) = bif f.testBit c then f - 2 ^ c else f := by decide +kernel
theorem tog_cg {s t : Nat → Bool} (h : ∀ i, i < 128 → s i = t i) : fsS s = fsS t := fs_cong h
def tbS (u : Nat → Bool) (f k : Nat) : Nat → Bool := fun i => u i ^^ ((bx f k).testBit i && !(i == 0))
theorem tbS_0 (u : Nat → Bool) (f : Nat) : tbS u f 0 = u := by
  funext i
  show (u i ^^ ((0 : Nat).testBit i && !(i == 0))) = u i
  rw [Nat.zero_testBit]; simp
theorem bx_s (f k : Nat) : bx f (k + 1) = bx f k ^^^ (bif f.testBit k then 2 ^ (f - 2 ^ k) else 0) := rfl
theorem tbS_f {u : Nat → Bool} {f k : Nat} (h : f.testBit k = false) : tbS u f (k + 1) = tbS u f k := by
  funext i
  unfold tbS
  rw [bx_s, h]
  show (u i ^^ ((bx f k ^^^ 0).testBit i && !(i == 0))) = _
  rw [Nat.xor_zero]
theorem tbS_z {u : Nat → Bool} {f k : Nat} (h : f.testBit k = true) (h0 : f - 2 ^ k = 0) : tbS u f (k + 1) = tbS u f k := by
  funext i
  unfold tbS
  rw [bx_s, h, h0]
  show (u i ^^ ((bx f k ^^^ 2 ^ 0).testBit i && !(i == 0))) = _
  rw [Nat.testBit_xor, Nat.testBit_two_pow]
  by_cases e : i = 0
  · subst e; simp
  · rw [decide_eq_false (fun e2 => e e2.symm), Bool.xor_false]
theorem tbS_t {u : Nat → Bool} {f k : Nat} (h : f.testBit k = true) (h0 : f - 2 ^ k ≠ 0) : sTog (tbS u f k) (f - 2 ^ k) = tbS u f (k + 1) := by
  funext i
  unfold tbS sTog
  dsimp only
  rw [show bx f (k + 1) = bx f k ^^^ 2 ^ (f - 2 ^ k) by show bx f k ^^^ (bif f.testBit k then 2 ^ (f - 2 ^ k) else 0) = _; rw [h]; rfl]
  rw [Nat.testBit_xor, Nat.testBit_two_pow]
  by_cases e : i = f - 2 ^ k
  · subst e; rw [decide_eq_true rfl, beq_eq_false_iff_ne.mpr h0, beq_self_eq_true]; cases u (f - 2 ^ k) <;> cases (bx f k).testBit (f - 2 ^ k) <;> rfl
  · rw [decide_eq_false (fun e2 => e e2.symm), beq_eq_false_iff_ne.mpr e]; simp
theorem bit_le {f k : Nat} (h : f.testBit k = true) : 2 ^ k ≤ f := Nat.le_of_not_lt fun hc => by rw [Nat.testBit_lt_two_pow hc] at h; cases h
set_option maxRecDepth 10000 in
/-- Borders.toggleBorder -/
theorem kX0_toggleBorder {S : Nat × (Nat → Int32)} {d : Nat} {h : eH} {Q : eQ} {m f : Nat} {u : Nat → Bool} (hf : f < 128) (hm0 : h.2[m]? = some (fsS u)) (hQ : Q (.inl none) (h.1, h.2.set m (fsS (fun i => u i ^^ ((bd f).testBit i && !(i == 0)))))) : okCall S MT (d + 3) nX0_toggleBorder [.int (nI f), .ref (m + 1)] h Q := by
  refine okc (M := MX0_toggleBorder) rfl rfl fun K hK hW => ?_
  show K 0 [(0, .int (nI f)), (1, .ref (m + 1))] [] h 0 0
  iterate 4 refine hK _ _ _ _ _ _ (?_ : K _ _ _ _ _ _)
  have e0 : (h.1, h.2.set m (fsS (tbS u f 0))) = h := by rw [tbS_0, gq hm0]
  rw [← e0]
  refine hW _ _ [(2, .int (nI (0))), (0, .int (nI f)), (1, .ref (m + 1))] _ _ _ _ (by simp) ?_
  refine up (P := fun k => K 5 [(2, .int (nI (k))), (0, .int (nI f)), (1, .ref (m + 1))] [.int (nI 7), .int (nI (k))] (h.1, h.2.set m (fsS (tbS u f (k)))) 0 0) 7 0 ?_ ?_ (by decide)
  · skip
    refine hK _ _ _ _ _ _ (And.intro (fun _ => ?_) (fun c9 => absurd (nI_le (Nat.le_refl 7) (by decide)) c9))
    exact hK _ _ _ _ _ _ (r_vret rfl rfl rfl hQ)
  · intro k h0k hk ihk
    refine hK _ _ _ _ _ _ (And.intro (fun c9 => absurd c9 (nI_ge (by omega) (by decide))) (fun _ => ?_))
    iterate 10 refine hK _ _ _ _ _ _ (?_ : K _ _ _ _ _ _)
    refine hK _ _ _ _ _ _ (And.intro (fun c1 => ?_) (fun c1 => ?_))
    · skip
      rw [sh1 k hk, nI_bic f hf (2 ^ k) (pw_128 k hk)] at c1
      iterate 4 refine hK _ _ _ _ _ _ (?_ : K _ _ _ _ _ _)
      have eb : f.testBit k = false := by
        cases hb : f.testBit k with
        | false => rfl
        | true =>
          have e := (nI_128 (bic_lt hf) hf).mp c1
          rw [bic_pw k hk f hf, hb] at e
          have e : f - 2 ^ k = f := e
          have := bit_le hb
          have := Nat.two_pow_pos k
          omega
      rw [tbS_f eb] at ihk
      rw [nI_add k 1]
      first | exact ihk | exact hW _ _ _ _ _ _ _ (by simp) ihk
    · skip
      rw [sh1 k hk, nI_bic f hf (2 ^ k) (pw_128 k hk)] at c1
      rw [sh1 k hk, nI_bic f hf (2 ^ k) (pw_128 k hk)]
      iterate 1 refine hK _ _ _ _ _ _ (?_ : K _ _ _ _ _ _)
      refine hK _ _ _ _ _ _ (And.intro (fun c2 => ?_) (fun c2 => ?_))
      · skip
        iterate 4 refine hK _ _ _ _ _ _ (?_ : K _ _ _ _ _ _)
        have eb : f.testBit k = true := by
          cases hb : f.testBit k with
          | true => rfl
          | false =>
            exfalso; apply c1
            rw [bic_pw k hk f hf, hb]; rfl
        have ez : f - 2 ^ k = 0 := by
          have e2 := (nI_z (by have := bic_lt (b := 2 ^ k) hf; omega)).mp c2
          rw [bic_pw k hk f hf, eb] at e2; exact e2
        rw [tbS_z eb ez] at ihk
        rw [nI_add k 1]
        first | exact ihk | exact hW _ _ _ _ _ _ _ (by simp) ihk
      · skip
        iterate 2 refine hK _ _ _ _ _ _ (?_ : K _ _ _ _ _ _)
        refine hK _ _ _ _ _ _ (r_callV rfl (fun _ => rfl) (gs hm0) (b0 rfl rfl rfl) (kX1_toggle (f := bic f (2 ^ k)) (bic_lt hf) (gs hm0) (?_ : K _ _ _ _ _ _)))
        iterate 4 refine hK _ _ _ _ _ _ (?_ : K _ _ _ _ _ _)
        have eb : f.testBit k = true := by
          cases hb : f.testBit k with
          | true => rfl
          | false =>
            exfalso; apply c1
            rw [bic_pw k hk f hf, hb]; rfl
        have ez : f - 2 ^ k ≠ 0 := fun e3 => c2 (by rw [bic_pw k hk f hf, eb]; show nI (f - 2 ^ k) = 0; rw [e3]; rfl)
        have e4 : bic f (2 ^ k) = f - 2 ^ k := by rw [bic_pw k hk f hf, eb]; rfl
        dsimp only
        rw [nI_add k 1, List.set_set, e4, tbS_t eb ez]
        first | exact ihk | exact hW _ _ _ _ _ _ _ (by simp) ihk

def bdS (r : Nat → Bool) : Nat → Bool := fun i => (dB (mkN r 128)).testBit i && !(i == 0)
def mbS (r : Nat → Bool) (k : Nat) : Nat → Bool := fun i => (ex bd (mkN r 128) k).testBit i && !(i == 0)
theorem mbS_1 (r : Nat → Bool) : mbS r 1 = fun _ => false := by
  funext i
  unfold mbS
  have e : ex bd (mkN r 128) 1 = 0 := by
    show 0 ^^^ (bif (mkN r 128).testBit 0 then bd 0 else 0) = 0
    rw [show bd 0 = 0 by decide]
    cases (mkN r 128).testBit 0 <;> rfl
  rw [e, Nat.zero_testBit]; rfl
theorem mbS_f {r : Nat → Bool} {k : Nat} (hk : k < 128) (h : r k = false) : mbS r (k + 1) = mbS r k := by
  funext i
  unfold mbS
  rw [show ex bd (mkN r 128) (k + 1) = ex bd (mkN r 128) k ^^^ (bif (mkN r 128).testBit k then bd k else 0) from rfl, mkN_bit, h, Bool.and_false]
  show ((ex bd (mkN r 128) k ^^^ 0).testBit i && _) = _
  rw [Nat.xor_zero]
theorem mbS_t {r : Nat → Bool} {k : Nat} (hk : k < 128) (h : r k = true) : (fun i => mbS r k i ^^ ((bd k).testBit i && !(i == 0))) = mbS r (k + 1) := by
  funext i
  unfold mbS
  rw [show ex bd (mkN r 128) (k + 1) = ex bd (mkN r 128) k ^^^ (bif (mkN r 128).testBit k then bd k else 0) from rfl, mkN_bit, h, decide_eq_true hk]
  show _ = ((ex bd (mkN r 128) k ^^^ bd k).testBit i && _)
  rw [Nat.testBit_xor]
  cases (i == 0) <;> simp
set_option maxRecDepth 10000 in
/-- Borders.makeBorder -/
theorem kX0_makeBorder {S : Nat × (Nat → Int32)} {d : Nat} {h : eH} {Q : eQ} {q m : Nat} {r u : Nat → Bool} (hqm : m ≠ q) (hq0 : h.2[q]? = some (fsS r)) (hm0 : h.2[m]? = some (fsS u)) (hQ : Q (.inl none) (h.1, h.2.set m (fsS (bdS r)))) : okCall S MT (d + 4) nX0_makeBorder [.ref (q + 1), .ref (m + 1)] h Q := by
  refine okc (M := MX0_makeBorder) rfl rfl fun K hK hW => ?_
  show K 0 [(0, .ref (q + 1)), (1, .ref (m + 1))] [] h 0 0
  iterate 1 refine hK _ _ _ _ _ _ (?_ : K _ _ _ _ _ _)
  refine hK _ _ _ _ _ _ (r_callV rfl (fun _ => rfl) hm0 (b0 rfl rfl rfl) (kX1_empty hm0 (?_ : K _ _ _ _ _ _)))
  iterate 4 refine hK _ _ _ _ _ _ (?_ : K _ _ _ _ _ _)
  have e0 : (h.1, (h.2.set m (fsS (fun _ => false)))) = (h.1, h.2.set m (fsS (mbS r 1))) := by rw [mbS_1]
  rw [e0]
  refine hW _ _ [(2, .int (nI (1))), (0, .ref (q + 1)), (1, .ref (m + 1))] _ _ _ _ (by simp) ?_
  refine up (P := fun k => K 9 [(2, .int (nI (k))), (0, .ref (q + 1)), (1, .ref (m + 1))] [.int (nI 127), .int (nI (k))] (h.1, h.2.set m (fsS (mbS r (k)))) 0 0) 128 1 ?_ ?_ (by decide)
  · skip
    refine hK _ _ _ _ _ _ (And.intro (fun _ => ?_) (fun c9 => absurd (nI_lt (by decide) (by decide)) c9))
    exact hK _ _ _ _ _ _ (r_vret rfl rfl rfl hQ)
  · intro k h0k hk ihk
    refine hK _ _ _ _ _ _ (And.intro (fun c9 => absurd c9 (nI_nlt (by omega) (by omega))) (fun _ => ?_))
    iterate 2 refine hK _ _ _ _ _ _ (?_ : K _ _ _ _ _ _)
    refine hK _ _ _ _ _ _ (r_callV rfl (fun _ => rfl) (gn hqm hq0) (b0 rfl rfl rfl) (kX1_holds (f := k) (by omega) (gn hqm hq0) (?_ : K _ _ _ _ _ _)))
    refine hK _ _ _ _ _ _ (And.intro (fun c1 => ?_) (fun c1 => ?_))
    · skip
      iterate 4 refine hK _ _ _ _ _ _ (?_ : K _ _ _ _ _ _)
      rw [mbS_f (by omega) (b2i_0.mp c1)] at ihk
      rw [nI_add k 1]
      first | exact ihk | exact hW _ _ _ _ _ _ _ (by simp) ihk
    · skip
      iterate 2 refine hK _ _ _ _ _ _ (?_ : K _ _ _ _ _ _)
      refine hK _ _ _ _ _ _ (r_callS rfl (fun _ => rfl) (b0 rfl rfl rfl) (kX0_toggleBorder (f := k) (by omega) (gs hm0) (?_ : K _ _ _ _ _ _)))
      iterate 4 refine hK _ _ _ _ _ _ (?_ : K _ _ _ _ _ _)
      have e2 : r k = true := Bool.of_not_eq_false (fun e => c1 (b2i_0.mpr e))
      dsimp only
      rw [nI_add k 1, List.set_set, mbS_t (by omega) e2]
      first | exact ihk | exact hW _ _ _ _ _ _ _ (by simp) ihk

theorem ff_lt {p : Nat → Bool} : ∀ {n : Nat}, ff p n ≠ 0 → ff p n < n ∧ p (ff p n) = true
  | 0, h => absurd rfl h
  | n + 1, h => by
    have e : ff p (n + 1) = (bif ff p n == 0 then (bif p n then n else 0) else ff p n) := rfl
    rw [e] at h ⊢
    by_cases h0 : ff p n = 0
    · rw [h0] at h ⊢
      cases hp : p n with
      | true => exact ⟨Nat.lt_succ_self n, hp⟩
      | false => rw [hp] at h; exact absurd rfl h
    · rw [beq_eq_false_iff_ne.mpr h0] at h ⊢
      obtain ⟨h1, h2⟩ := ff_lt (p := p) (n := n) h0
      exact ⟨Nat.lt_succ_of_lt h1, h2⟩
theorem ff_ex {p : Nat → Bool} {n f : Nat} (h0 : 0 < f) (hf : f < n) (hp : p f = true) : ff p n ≠ 0 := by
  obtain ⟨i, h1, h2, h3⟩ := fb_first (p := fun i => 0 < i ∧ p i = true) ⟨f, hf, h0, hp⟩
  have h4 : ∀ k, k ≤ i → ff (fun j => decide (0 < j) && p j) k = 0 := fun k hk => ff_0 fun j hj => by
    have := h3 j (by omega)
    cases hpj : p j with
    | false => simp
    | true =>
      have : ¬ 0 < j := fun h => this ⟨h, hpj⟩
      simp; omega
  intro hz
  have key : ∀ m, ff p m = 0 → ∀ j, j < m → 0 < j → p j = false := by
    intro m
    induction m with
    | zero => intro _ j hj; omega
    | succ m ih =>
      intro hm j hj hj0
      have e : ff p (m + 1) = (bif ff p m == 0 then (bif p m then m else 0) else ff p m) := rfl
      rw [e] at hm
      by_cases h9 : ff p m = 0
      · rw [h9] at hm
        by_cases e2 : j = m
        · subst e2
          cases hpm : p j with
          | false => rfl
          | true => rw [hpm] at hm; have hm : j = 0 := hm; omega
        · exact ih h9 j (by omega) hj0
      · rw [beq_eq_false_iff_ne.mpr h9] at hm; exact absurd hm h9
  rw [key n hz f hf h0] at hp; cases hp
theorem row_first {r : Nat → Bool} {n : Nat} (hr : ∀ f, f < 128 → r f = true → pc f = n) (hn : 1 ≤ n) (h : fb_ct r 128 ≠ 0) : ∃ f, f < 128 ∧ 1 ≤ f ∧ r f = true ∧ ff (fAt r (nI 0)) 128 = f := by
  obtain ⟨f, h1, h2⟩ := fb_ct_pos.mp (Nat.pos_of_ne_zero h)
  obtain ⟨g, g1, g2, g3⟩ := fb_first (p := fun i => r i = true) ⟨f, h1, h2⟩
  have g0 : 0 < g := Nat.pos_of_ne_zero fun e => by
    have h3 := hr g g1 g2
    rw [e] at h3
    have : pc 0 = 0 := by decide
    omega
  have h4 : fAt r (nI 0) g = true := by
    have : cF r g = 0 := fb_ct_zero.mpr fun k hk => by
      cases hk2 : r k with
      | false => simp
      | true => exact absurd hk2 (g3 k hk)
    simp [fAt, g0, g2, this]
  have h5 := ff_ex g0 g1 h4
  obtain ⟨h6, h7⟩ := ff_lt h5
  rw [Bool.and_eq_true, Bool.and_eq_true, decide_eq_true_eq] at h7
  exact ⟨_, h6, h7.1, h7.2.1, rfl⟩
/-- whether a row of faces of n corners fills -/
def fil (r s : Nat → Bool) (n : Nat) : Bool := sp (bX (hat s) (n + 1)) (mkN r 128)
theorem fil_0 {r s : Nat → Bool} {n : Nat} (h : fb_ct r 128 = 0) : fil r s n = true := by
  unfold fil
  rw [mkN_cong (g := fun _ => false) (fb_ct_zero.mp h), mkN_0]; exact sp_0 _
theorem fil_sp {r s : Nat → Bool} {n : Nat} (hn : 1 ≤ n) (hr : ∀ f, f < 128 → r f = true → pc f = n) : sp (bbL s n 128) (rbm r 128) = fil r s n := by
  rw [rbm_sT hn hr, bbL_sp s hn (mkN_lt r 128) (fun f hf => by
    rw [mkN_bit, Bool.and_eq_true, decide_eq_true_eq] at hf
    exact hr f hf.1 hf.2)]
  rfl
set_option maxRecDepth 10000 in
/-- Borders.isFilling -/
theorem kX0_isFilling {S : Nat × (Nat → Int32)} {d : Nat} {h : eH} {Q : eQ} {q a b c : Nat} {kb : Nat → Nat} (hB : h.2[q]? = some (boO a b c)) (hC : h.2[c]? = some (kpA kb)) {z y n : Nat} {s r : Nat → Bool} (hcq : c ≠ q) (hcz : c ≠ z) (hcb : c ≠ b) (hbd : h.2[b]? = some bdA) (hz0 : h.2[z]? = some (fsS s)) (hsl : h.2[a]? = some slA) (hca : c ≠ a) (hcy : c ≠ y) (hy0 : h.2[y]? = some (fsS r)) (hn : 1 ≤ n) (hn7 : n ≤ 7) (hr : ∀ f, f < 128 → r f = true → pc f = n) (hQ : ∀ kb2, Q (.inl (some (.int (b2i (fil r s n))))) (h.1, h.2.set c (kpA kb2))) : okCall S MT (d + 4) nX0_isFilling [.ref (q + 1), .ref (y + 1), .ref (z + 1)] h Q := by
  refine okc (M := MX0_isFilling) rfl rfl fun K hK hW => ?_
  show K 0 [(0, .ref (q + 1)), (1, .ref (y + 1)), (2, .ref (z + 1))] [] h 0 0
  iterate 1 refine hK _ _ _ _ _ _ (?_ : K _ _ _ _ _ _)
  refine hK _ _ _ _ _ _ (r_callV rfl (fun _ => rfl) hy0 (b0 rfl rfl rfl) (kX1_isEmpty hy0 (?_ : K _ _ _ _ _ _)))
  refine hK _ _ _ _ _ _ (And.intro (fun c1 => ?_) (fun c1 => ?_))
  · skip
    iterate 4 refine hK _ _ _ _ _ _ (?_ : K _ _ _ _ _ _)
    obtain ⟨f0, hf1, hf2, hf3, hf0⟩ := row_first hr hn (of_decide_eq_false (b2i_0.mp c1))
    have hf5 : ht f0 + 1 = n := by have := hr f0 hf1 hf3; unfold ht; omega
    refine hK _ _ _ _ _ _ (r_callV rfl (fun _ => rfl) hy0 (b0 rfl rfl rfl) (kX1_faceAt (idx := nI 0) hy0 (?_ : K _ _ _ _ _ _)))
    refine hK _ _ _ _ _ _ (r_callN rfl (fun _ => rfl) (b0 rfl rfl rfl) (okW (by rw [hf0]) (kX6_heightOf (f := f0) hf1 hf2 (?_ : K _ _ _ _ _ _))))
    iterate 2 refine hK _ _ _ _ _ _ (?_ : K _ _ _ _ _ _)
    refine hK _ _ _ _ _ _ (r_callV rfl (fun _ => rfl) hB (b0 rfl rfl rfl) (okW (by rw [nI_add (ht f0) 1, hf5]) (kX0_countFree (a := a) (b := b) (t := n) hB hC hcq hcz hcb hbd hz0 (by omega) fun kb2 hkb2 _ => (?_ : K _ _ _ _ _ _))))
    iterate 7 refine hK _ _ _ _ _ _ (?_ : K _ _ _ _ _ _)
    refine hW _ _ [(5, .int (nI (1))), (3, .long (lN (rbm r (1)))), (0, .ref (q + 1)), (1, .ref (y + 1)), (2, .ref (z + 1))] _ _ _ _ (by simp [show rbm r 1 = 0 from rfl]) ?_
    refine up (P := fun k => K 34 [(5, .int (nI (k))), (3, .long (lN (rbm r (k)))), (0, .ref (q + 1)), (1, .ref (y + 1)), (2, .ref (z + 1))] [.int (nI 127), .int (nI (k))] (h.1, h.2.set c (kpA kb2)) 0 0) 128 1 ?_ ?_ (by decide)
    · skip
      refine hK _ _ _ _ _ _ (And.intro (fun _ => ?_) (fun c9 => absurd (nI_lt (by decide) (by decide)) c9))
      iterate 2 refine hK _ _ _ _ _ _ (?_ : K _ _ _ _ _ _)
      refine hK _ _ _ _ _ _ (r_callV rfl (fun _ => rfl) (gn hcq hB) (b0 rfl rfl rfl) (kX0_isSumOfKept (a := a) (b := b) (gn hcq hB) (gs hC) (hkb2 hn) (rbm_lt r 128 (Nat.le_refl _)) (?_ : K _ _ _ _ _ _)))
      exact hK _ _ _ _ _ _ (r_iret rfl (b2i_nar _) rfl rfl (by rw [fil_sp hn hr]; exact hQ kb2))
    · intro k h0k hk ihk
      refine hK _ _ _ _ _ _ (And.intro (fun c9 => absurd c9 (nI_nlt (by omega) (by omega))) (fun _ => ?_))
      iterate 2 refine hK _ _ _ _ _ _ (?_ : K _ _ _ _ _ _)
      refine hK _ _ _ _ _ _ (r_callV rfl (fun _ => rfl) (gn hcy hy0) (b0 rfl rfl rfl) (kX1_holds (f := k) (by omega) (gn hcy hy0) (?_ : K _ _ _ _ _ _)))
      refine hK _ _ _ _ _ _ (And.intro (fun c2 => ?_) (fun c2 => ?_))
      · skip
        iterate 4 refine hK _ _ _ _ _ _ (?_ : K _ _ _ _ _ _)
        rw [rbm_f (b2i_0.mp c2)] at ihk
        rw [nI_add k 1]
        first | exact ihk | exact hW _ _ _ _ _ _ _ (by simp) ihk
      · skip
        iterate 3 refine hK _ _ _ _ _ _ (?_ : K _ _ _ _ _ _)
        refine hK _ _ _ _ _ _ (r_get rfl (gn hcq hB) rfl (?_ : K _ _ _ _ _ _))
        iterate 1 refine hK _ _ _ _ _ _ (?_ : K _ _ _ _ _ _)
        refine hK _ _ _ _ _ _ (r_iald' rfl (gn hca hsl) (vp_in_nI (by omega) (by decide)) (slF_at (by omega)) (?_ : K _ _ _ _ _ _))
        iterate 7 refine hK _ _ _ _ _ _ (?_ : K _ _ _ _ _ _)
        have e2 : r k = true := Bool.of_not_eq_false (fun e => c2 (b2i_0.mpr e))
        rw [rbm_t (by omega) e2] at ihk
        rw [nI_add k 1, wb_shl 1 (Nat.lt_trans (sl_lt k (by omega)) (by decide)), Nat.one_mul, fb_orL]
        first | exact ihk | exact hW _ _ _ _ _ _ _ (by simp) ihk
  · skip
    iterate 1 refine hK _ _ _ _ _ _ (?_ : K _ _ _ _ _ _)
    have e0 : fb_ct r 128 = 0 := of_decide_eq_true (Bool.of_not_eq_false (fun e => c1 (b2i_0.mpr e)))
    have h8 := hQ kb
    rw [fil_0 e0, gq hC] at h8
    exact hK _ _ _ _ _ _ (r_iret rfl rfl rfl rfl h8)

end BO2
