section MO
theorem nar_t {c : Bool} (h : c = true) : vp_nar .boolean (nI 1) = b2i c := by subst h; rfl
theorem nar_f {c : Bool} (h : c = false) : vp_nar .boolean (nI 0) = b2i c := by subst h; rfl
theorem and_1 (c : Bool) : b2i c &&& nI 1 = b2i c := by cases c <;> decide +kernel
theorem and_0 (c : Bool) : b2i c &&& nI 0 = b2i false := by cases c <;> decide +kernel
theorem xor_1 (c : Bool) : b2i c ^^^ nI 1 = b2i (c ^^ true) := b2i_xor c true
theorem xor_0b (c : Bool) : b2i c ^^^ nI 0 = b2i (c ^^ false) := b2i_xor c false
def mx (s u : Nat → Bool) (k : Nat) : Nat → Bool := fun f => bif decide (f < k) then s f else u f
theorem mx_k (P : Nat → Nat → Bool) (p : Nat) (s : Nat → Bool) (k : Nat) : setP P p (mx s (P p) k) p k = P p k := by
  rw [setP_s]; unfold mx; rw [decide_eq_false (by omega)]; rfl
theorem fl_mx {P : Nat → Nat → Bool} {A : Nat → Int32} {s : Nat → Bool} {t k : Nat} (hk8 : k ≤ 128) (h : MI P A) : MI (setP P t (mx s (P t) k)) (fl (128 * t) A s k) := fun p hp i h1 h2 => by
  by_cases e : p = t
  · subst e
    rw [setP_s]
    unfold mx
    by_cases hk : i < k
    · rw [fl_in h1 hk, decide_eq_true hk]; rfl
    · rw [fl_out (by omega), decide_eq_false hk]; exact h p hp i h1 h2
  · rw [setP_n _ _ e]
    rw [fl_out (by omega)]; exact h p hp i h1 h2
theorem sPar_at {s : Nat → Bool} {i k : Nat} (h : 1 ≤ k) : sPar s i (i + 1) k = (s k || isP k i) := by
  show (s k || (decide (1 ≤ k) && (decide (k < i + 1) && isP k i))) = _
  cases hp : isP k i with
  | false => simp
  | true =>
    have := isP_le hp
    rw [decide_eq_true h, decide_eq_true (show k < i + 1 by omega)]; rfl
theorem sOvr_at {s : Nat → Bool} {i k : Nat} (h : k < 128) : sOvr s i 128 k = (s k && !isP i k) := by
  show (s k && !(decide (i ≤ k) && (decide (k < 128) && isP i k))) = _
  cases hp : isP i k with
  | false => simp
  | true =>
    have := isP_le hp
    rw [decide_eq_true h, decide_eq_true this]; rfl
set_option maxRecDepth 10000 in
/-- Model.put -/
theorem kX7_put {S : Nat × (Nat → Int32)} {d : Nat} {Q : eQ} {b : Bool} {X : Nat → va_E} {A mk ro nx pi : Nat → Int32} {kp : Nat → Int64} {km th : Int32} {T : List va_E} {P : Nat → Nat → Bool} {R : Nat → Bool} {x : Int32} {y : Int32} (hI : IvC P R) (hA : MI P A) (hR : RI R ro) (hQ : mQ (.int (nI 0)) cmA (o_put P R x y) Q b X A ro T) : okCall S MT (d + 3) nX7_put [.ref 24, .int x, .int y] (b, mW X A mk ro nx pi kp km th T) Q := by
  refine okc (M := MX7_put) rfl rfl fun K hK hW => ?_
  show K 0 [(0, .ref 24), (1, .int x), (2, .int y)] [] (b, mW X A mk ro nx pi kp km th T) 0 0
  unfold o_put at hQ
  iterate 2 refine hK _ _ _ _ _ _ (?_ : K _ _ _ _ _ _)
  refine hK _ _ _ _ _ _ (r_callS rfl (fun _ => rfl) (b0 rfl rfl rfl) (kX7_isPlace (fun h9 => (?_ : K _ _ _ _ _ _)) (fun p _ hp hx h9 => (?_ : K _ _ _ _ _ _))))
  · skip
    refine hK _ _ _ _ _ _ (And.intro (fun _ => ?_) (fun c9 => absurd (rfl) c9))
    iterate 2 refine hK _ _ _ _ _ _ (?_ : K _ _ _ _ _ _)
    refine hK _ _ _ _ _ _ (r_callV rfl (fun _ => rfl) rfl (b0 rfl rfl rfl) (kw_n (n := 1) (by decide) (by decide) (?_ : K _ _ _ _ _ _)))
    refine hK _ _ _ _ _ _ (And.intro (fun c9 => absurd c9 (nI1_0)) (fun _ => ?_))
    iterate 1 refine hK _ _ _ _ _ _ (?_ : K _ _ _ _ _ _)
    exact hK _ _ _ _ _ _ (r_iret rfl rfl rfl rfl (mq_n h9 hQ))
  · skip
    subst hx
    have hQ1 := mq_s h9 hQ
    refine hK _ _ _ _ _ _ (And.intro (fun c9 => absurd c9 (nI1_0)) (fun _ => ?_))
    iterate 1 refine hK _ _ _ _ _ _ (?_ : K _ _ _ _ _ _)
    refine hK _ _ _ _ _ _ (r_callS rfl (fun _ => rfl) (b0 rfl rfl rfl) (kX7_isFace (fun h9 => (?_ : K _ _ _ _ _ _)) (fun i hi1 hi hx h9 => (?_ : K _ _ _ _ _ _))))
    · skip
      refine hK _ _ _ _ _ _ (And.intro (fun _ => ?_) (fun c9 => absurd (rfl) c9))
      iterate 2 refine hK _ _ _ _ _ _ (?_ : K _ _ _ _ _ _)
      refine hK _ _ _ _ _ _ (r_callV rfl (fun _ => rfl) rfl (b0 rfl rfl rfl) (kw_n (n := 2) (by decide) (by decide) (?_ : K _ _ _ _ _ _)))
      refine hK _ _ _ _ _ _ (And.intro (fun c9 => absurd c9 (nI1_0)) (fun _ => ?_))
      iterate 1 refine hK _ _ _ _ _ _ (?_ : K _ _ _ _ _ _)
      exact hK _ _ _ _ _ _ (r_iret rfl rfl rfl rfl (mq_n h9 hQ1))
    · skip
      subst hx
      have hQ2 := mq_s h9 hQ1
      refine hK _ _ _ _ _ _ (And.intro (fun c9 => absurd c9 (nI1_0)) (fun _ => ?_))
      iterate 1 refine hK _ _ _ _ _ _ (?_ : K _ _ _ _ _ _)
      refine hK _ _ _ _ _ _ (r_callV rfl (fun _ => rfl) rfl (b0 rfl rfl rfl) (kw_0 (?_ : K _ _ _ _ _ _)))
      refine hK _ _ _ _ _ _ (And.intro (fun _ => ?_) (fun c9 => absurd (rfl) c9))
      iterate 4 refine hK _ _ _ _ _ _ (?_ : K _ _ _ _ _ _)
      have e0 := fl_1 (128 * p) A (sPar (P p) i (i + 1))
      rw [← e0]
      refine hW _ _ [(4, .int (nI (1))), (3, .int (nI (cF (puN (P p) i) (1)))), (0, .ref 24), (1, .int (nI p)), (2, .int (nI i))] _ _ _ _ (by simp [cF_1]) ?_
      refine up (P := fun k => K 37 [(4, .int (nI (k))), (3, .int (nI (cF (puN (P p) i) (k)))), (0, .ref 24), (1, .int (nI p)), (2, .int (nI i))] [] (b, mW X (fl (128 * p) A (sPar (P p) i (i + 1)) (k)) mk ro nx pi kp km (nI 0) T) 0 0) 128 1 ?_ ?_ (by decide)
      · skip
        iterate 2 refine hK _ _ _ _ _ _ (?_ : K _ _ _ _ _ _)
        refine hK _ _ _ _ _ _ (And.intro (fun _ => ?_) (fun c9 => absurd (nI_le (Nat.le_refl 128) (by decide)) c9))
        iterate 1 refine hK _ _ _ _ _ _ (?_ : K _ _ _ _ _ _)
        rw [← put_v]
        exact hK _ _ _ _ _ _ (r_iret rfl rfl rfl rfl (mi hQ2 (fl_MI hA) hR))
      · intro k h0k hk ihk
        iterate 2 refine hK _ _ _ _ _ _ (?_ : K _ _ _ _ _ _)
        refine hK _ _ _ _ _ _ (And.intro (fun c9 => absurd c9 (nI_ge (by omega) (by decide))) (fun _ => ?_))
        iterate 2 refine hK _ _ _ _ _ _ (?_ : K _ _ _ _ _ _)
        refine hK _ _ _ _ _ _ (r_callS rfl (fun _ => rfl) (b0 rfl rfl rfl) (kX7_isPart (i := k) (by omega) (?_ : K _ _ _ _ _ _)))
        refine hK _ _ _ _ _ _ (And.intro (fun c1 => ?_) (fun c1 => ?_))
        · skip
          iterate 2 refine hK _ _ _ _ _ _ (?_ : K _ _ _ _ _ _)
          have e2 : sPar (P p) i (i + 1) k = P p k := by rw [sPar_at (by omega), (b2i_0.mp c1), Bool.or_false]
          have e1 : puN (P p) i k = false := by unfold puN; rw [(b2i_0.mp c1)]; rfl
          rw [fl_k (by omega) (by rw [e2]; exact hA p hp k (by omega) (by omega)), cF_f e1] at ihk
          rw [nI_add k 1]
          first | exact ihk | exact hW _ _ _ _ _ _ _ (by simp) ihk
        · skip
          iterate 3 refine hK _ _ _ _ _ _ (?_ : K _ _ _ _ _ _)
          refine hK _ _ _ _ _ _ (r_callV rfl (fun _ => rfl) rfl (b0 rfl rfl rfl) (kX7_isThere (P := setP P p (mx (sPar (P p) i (i + 1)) (P p) k)) (fl_mx (by omega) hA) hp (by omega) (by omega) (?_ : K _ _ _ _ _ _)))
          rw [mx_k]
          refine hK _ _ _ _ _ _ (And.intro (fun c2 => ?_) (fun c2 => ?_))
          · skip
            iterate 1 refine hK _ _ _ _ _ _ (?_ : K _ _ _ _ _ _)
            refine hK _ _ _ _ _ _ (r_get rfl rfl rfl (?_ : K _ _ _ _ _ _))
            iterate 6 refine hK _ _ _ _ _ _ (?_ : K _ _ _ _ _ _)
            refine hK _ _ _ _ _ _ (r_zastF (B := 128 * p) (k := k) (s := (sPar (P p) i (i + 1))) (N := 768) rfl (by rw [nI_mul, nI_add]) (nar_t (by rw [sPar_at (by omega), (Bool.of_not_eq_false fun c9 => c1 (b2i_0.mpr c9)), Bool.or_true])) (by omega) (by omega) (by decide) rfl (?_ : K _ _ _ _ _ _))
            show K _ _ _ (b, mW X (fl (128 * p) A (sPar (P p) i (i + 1)) (k + 1)) mk ro nx pi kp km (nI 0) T) _ _
            iterate 3 refine hK _ _ _ _ _ _ (?_ : K _ _ _ _ _ _)
            have e1 : puN (P p) i k = true := by unfold puN; rw [(Bool.of_not_eq_false fun c9 => c1 (b2i_0.mpr c9)), (b2i_0.mp c2)]; rfl
            rw [cF_t (by omega) e1, nI_add k 1]
            first | exact ihk | exact hW _ _ _ _ _ _ _ (by simp) ihk
          · skip
            iterate 3 refine hK _ _ _ _ _ _ (?_ : K _ _ _ _ _ _)
            have e3 : P p k = true := (Bool.of_not_eq_false fun c9 => c2 (b2i_0.mpr c9))
            have e2 : sPar (P p) i (i + 1) k = P p k := by rw [sPar_at (by omega), e3]; rfl
            have e1 : puN (P p) i k = false := by unfold puN; rw [e3]; simp
            rw [fl_k (by omega) (by rw [e2]; exact hA p hp k (by omega) (by omega)), cF_f e1] at ihk
            rw [nI_add k 1]
            first | exact ihk | exact hW _ _ _ _ _ _ _ (by simp) ihk

set_option maxRecDepth 10000 in
/-- Model.takeOut -/
theorem kX7_takeOut {S : Nat × (Nat → Int32)} {d : Nat} {Q : eQ} {b : Bool} {X : Nat → va_E} {A mk ro nx pi : Nat → Int32} {kp : Nat → Int64} {km th : Int32} {T : List va_E} {P : Nat → Nat → Bool} {p i : Nat} (hA : MI P A) (hp : p < 6) (hi : i < 128) (hQ : Q (.inl (some (.int (nI (cF (taN (P p) i) 128))))) (b, mW X (fl (128 * p) A (sOvr (P p) i 128) 128) mk ro nx pi kp km th T)) : okCall S MT (d + 2) nX7_takeOut [.ref 24, .int (nI p), .int (nI i)] (b, mW X A mk ro nx pi kp km th T) Q := by
  refine okc (M := MX7_takeOut) rfl rfl fun K hK hW => ?_
  show K 0 [(0, .ref 24), (1, .int (nI p)), (2, .int (nI i))] [] (b, mW X A mk ro nx pi kp km th T) 0 0
  iterate 4 refine hK _ _ _ _ _ _ (?_ : K _ _ _ _ _ _)
  have e0 := fl_1 (128 * p) A (sOvr (P p) i 128)
  rw [← e0]
  refine hW _ _ [(4, .int (nI (1))), (3, .int (nI (cF (taN (P p) i) (1)))), (0, .ref 24), (1, .int (nI p)), (2, .int (nI i))] _ _ _ _ (by simp [cF_1]) ?_
  refine up (P := fun k => K 5 [(4, .int (nI (k))), (3, .int (nI (cF (taN (P p) i) (k)))), (0, .ref 24), (1, .int (nI p)), (2, .int (nI i))] [] (b, mW X (fl (128 * p) A (sOvr (P p) i 128) (k)) mk ro nx pi kp km th T) 0 0) 128 1 ?_ ?_ (by decide)
  · skip
    iterate 2 refine hK _ _ _ _ _ _ (?_ : K _ _ _ _ _ _)
    refine hK _ _ _ _ _ _ (And.intro (fun _ => ?_) (fun c9 => absurd (nI_le (Nat.le_refl 128) (by decide)) c9))
    iterate 1 refine hK _ _ _ _ _ _ (?_ : K _ _ _ _ _ _)
    exact hK _ _ _ _ _ _ (r_iret rfl rfl rfl rfl hQ)
  · intro k h0k hk ihk
    iterate 2 refine hK _ _ _ _ _ _ (?_ : K _ _ _ _ _ _)
    refine hK _ _ _ _ _ _ (And.intro (fun c9 => absurd c9 (nI_ge (by omega) (by decide))) (fun _ => ?_))
    iterate 2 refine hK _ _ _ _ _ _ (?_ : K _ _ _ _ _ _)
    refine hK _ _ _ _ _ _ (r_callS rfl (fun _ => rfl) (b0 rfl rfl rfl) (kX7_isPart (i := i) hi (?_ : K _ _ _ _ _ _)))
    refine hK _ _ _ _ _ _ (And.intro (fun c1 => ?_) (fun c1 => ?_))
    · skip
      iterate 2 refine hK _ _ _ _ _ _ (?_ : K _ _ _ _ _ _)
      have e2 : sOvr (P p) i 128 k = P p k := by rw [sOvr_at (by omega), (b2i_0.mp c1), Bool.not_false, Bool.and_true]
      have e1 : taN (P p) i k = false := by unfold taN; rw [(b2i_0.mp c1)]; rfl
      rw [fl_k (by omega) (by rw [e2]; exact hA p hp k (by omega) (by omega)), cF_f e1] at ihk
      rw [nI_add k 1]
      first | exact ihk | exact hW _ _ _ _ _ _ _ (by simp) ihk
    · skip
      iterate 3 refine hK _ _ _ _ _ _ (?_ : K _ _ _ _ _ _)
      refine hK _ _ _ _ _ _ (r_callV rfl (fun _ => rfl) rfl (b0 rfl rfl rfl) (kX7_isThere (P := setP P p (mx (sOvr (P p) i 128) (P p) k)) (fl_mx (by omega) hA) hp (by omega) (by omega) (?_ : K _ _ _ _ _ _)))
      rw [mx_k]
      refine hK _ _ _ _ _ _ (And.intro (fun c2 => ?_) (fun c2 => ?_))
      · skip
        iterate 3 refine hK _ _ _ _ _ _ (?_ : K _ _ _ _ _ _)
        have e3 : P p k = false := (b2i_0.mp c2)
        have e2 : sOvr (P p) i 128 k = P p k := by rw [sOvr_at (by omega), e3]; rfl
        have e1 : taN (P p) i k = false := by unfold taN; rw [e3]; simp
        rw [fl_k (by omega) (by rw [e2]; exact hA p hp k (by omega) (by omega)), cF_f e1] at ihk
        rw [nI_add k 1]
        first | exact ihk | exact hW _ _ _ _ _ _ _ (by simp) ihk
      · skip
        iterate 1 refine hK _ _ _ _ _ _ (?_ : K _ _ _ _ _ _)
        refine hK _ _ _ _ _ _ (r_get rfl rfl rfl (?_ : K _ _ _ _ _ _))
        iterate 6 refine hK _ _ _ _ _ _ (?_ : K _ _ _ _ _ _)
        refine hK _ _ _ _ _ _ (r_zastF (B := 128 * p) (k := k) (s := (sOvr (P p) i 128)) (N := 768) rfl (by rw [nI_mul, nI_add]) (nar_f (by rw [sOvr_at (by omega), (Bool.of_not_eq_false fun c9 => c1 (b2i_0.mpr c9)), Bool.not_true, Bool.and_false])) (by omega) (by omega) (by decide) rfl (?_ : K _ _ _ _ _ _))
        show K _ _ _ (b, mW X (fl (128 * p) A (sOvr (P p) i 128) (k + 1)) mk ro nx pi kp km th T) _ _
        iterate 3 refine hK _ _ _ _ _ _ (?_ : K _ _ _ _ _ _)
        have e1 : taN (P p) i k = true := by unfold taN; rw [(Bool.of_not_eq_false fun c9 => c1 (b2i_0.mpr c9)), (Bool.of_not_eq_false fun c9 => c2 (b2i_0.mpr c9))]; rfl
        rw [cF_t (by omega) e1, nI_add k 1]
        first | exact ihk | exact hW _ _ _ _ _ _ _ (by simp) ihk

set_option maxRecDepth 10000 in
/-- Model.take -/
theorem kX7_take {S : Nat × (Nat → Int32)} {d : Nat} {Q : eQ} {b : Bool} {X : Nat → va_E} {A mk ro nx pi : Nat → Int32} {kp : Nat → Int64} {km th : Int32} {T : List va_E} {P : Nat → Nat → Bool} {R : Nat → Bool} {x : Int32} {y : Int32} (hI : IvC P R) (hA : MI P A) (hR : RI R ro) (hQ : mQ (.int (nI 0)) cmA (o_take P R x y) Q b X A ro T) : okCall S MT (d + 4) nX7_take [.ref 24, .int x, .int y] (b, mW X A mk ro nx pi kp km th T) Q := by
  refine okc (M := MX7_take) rfl rfl fun K hK hW => ?_
  show K 0 [(0, .ref 24), (1, .int x), (2, .int y)] [] (b, mW X A mk ro nx pi kp km th T) 0 0
  unfold o_take at hQ
  iterate 4 refine hK _ _ _ _ _ _ (?_ : K _ _ _ _ _ _)
  refine hK _ _ _ _ _ _ (r_callV rfl (fun _ => rfl) rfl (b0 rfl rfl rfl) (kX7_missing hA (fun h9 => (?_ : K _ _ _ _ _ _)) (fun p hp hx h9 h8 => (?_ : K _ _ _ _ _ _)) (fun p i hp hi1 hi hx hy h9 h8 hh => (?_ : K _ _ _ _ _ _)) (fun p i hp hi1 hi hx hy h9 h8 hh => (?_ : K _ _ _ _ _ _))))
  · skip
    refine hK _ _ _ _ _ _ (r_callV rfl (fun _ => rfl) rfl (b0 rfl rfl rfl) (kw_n (n := 1) (by decide) (by decide) (?_ : K _ _ _ _ _ _)))
    refine hK _ _ _ _ _ _ (And.intro (fun c9 => absurd c9 (nI1_0)) (fun _ => ?_))
    iterate 1 refine hK _ _ _ _ _ _ (?_ : K _ _ _ _ _ _)
    exact hK _ _ _ _ _ _ (r_iret rfl rfl rfl rfl (mq_n h9 hQ))
  · skip
    subst hx
    refine hK _ _ _ _ _ _ (r_callV rfl (fun _ => rfl) rfl (b0 rfl rfl rfl) (kw_n (n := 2) (by decide) (by decide) (?_ : K _ _ _ _ _ _)))
    refine hK _ _ _ _ _ _ (And.intro (fun c9 => absurd c9 (nI1_0)) (fun _ => ?_))
    iterate 1 refine hK _ _ _ _ _ _ (?_ : K _ _ _ _ _ _)
    exact hK _ _ _ _ _ _ (r_iret rfl rfl rfl rfl (mq_n h8 (mq_s h9 hQ)))
  · skip
    subst hx
    subst hy
    refine hK _ _ _ _ _ _ (r_callV rfl (fun _ => rfl) rfl (b0 rfl rfl rfl) (kw_n (n := 3) (by decide) (by decide) (?_ : K _ _ _ _ _ _)))
    refine hK _ _ _ _ _ _ (And.intro (fun c9 => absurd c9 (nI1_0)) (fun _ => ?_))
    iterate 1 refine hK _ _ _ _ _ _ (?_ : K _ _ _ _ _ _)
    exact hK _ _ _ _ _ _ (r_iret rfl rfl rfl rfl (mb_f hh (mq_s h8 (mq_s h9 hQ))))
  · skip
    subst hx
    subst hy
    have hQ1 := mb_t hh (mq_s h8 (mq_s h9 hQ))
    refine hK _ _ _ _ _ _ (r_callV rfl (fun _ => rfl) rfl (b0 rfl rfl rfl) (kw_0 (?_ : K _ _ _ _ _ _)))
    refine hK _ _ _ _ _ _ (And.intro (fun _ => ?_) (fun c9 => absurd (rfl) c9))
    iterate 3 refine hK _ _ _ _ _ _ (?_ : K _ _ _ _ _ _)
    refine hK _ _ _ _ _ _ (r_callV rfl (fun _ => rfl) rfl (b0 rfl rfl rfl) (kX7_takeOut hA hp hi (?_ : K _ _ _ _ _ _)))
    rw [← take_v _ hi1]
    exact hK _ _ _ _ _ _ (r_iret rfl rfl rfl rfl (mi hQ1 (fl_MI hA) hR))

set_option maxRecDepth 10000 in
/-- Model.clear -/
theorem kX7_clear {S : Nat × (Nat → Int32)} {d : Nat} {Q : eQ} {b : Bool} {X : Nat → va_E} {A mk ro nx pi : Nat → Int32} {kp : Nat → Int64} {km th : Int32} {T : List va_E} {P : Nat → Nat → Bool} {R : Nat → Bool} {x : Int32} (hI : IvC P R) (hA : MI P A) (hR : RI R ro) (hQ : mQ (.int (nI 0)) cmA (o_clear P R x) Q b X A ro T) : okCall S MT (d + 3) nX7_clear [.ref 24, .int x] (b, mW X A mk ro nx pi kp km th T) Q := by
  refine okc (M := MX7_clear) rfl rfl fun K hK hW => ?_
  show K 0 [(0, .ref 24), (1, .int x)] [] (b, mW X A mk ro nx pi kp km th T) 0 0
  unfold o_clear at hQ
  iterate 2 refine hK _ _ _ _ _ _ (?_ : K _ _ _ _ _ _)
  refine hK _ _ _ _ _ _ (r_callS rfl (fun _ => rfl) (b0 rfl rfl rfl) (kX7_isPlace (fun h9 => (?_ : K _ _ _ _ _ _)) (fun p _ hp hx h9 => (?_ : K _ _ _ _ _ _))))
  · skip
    refine hK _ _ _ _ _ _ (And.intro (fun _ => ?_) (fun c9 => absurd (rfl) c9))
    iterate 1 refine hK _ _ _ _ _ _ (?_ : K _ _ _ _ _ _)
    refine hK _ _ _ _ _ _ (r_callV rfl (fun _ => rfl) rfl (b0 rfl rfl rfl) (kw_n (n := 1) (by decide) (by decide) (?_ : K _ _ _ _ _ _)))
    refine hK _ _ _ _ _ _ (And.intro (fun c9 => absurd c9 (nI1_0)) (fun _ => ?_))
    iterate 1 refine hK _ _ _ _ _ _ (?_ : K _ _ _ _ _ _)
    exact hK _ _ _ _ _ _ (r_iret rfl rfl rfl rfl (mq_n h9 hQ))
  · skip
    subst hx
    have hQ1 := mq_s h9 hQ
    refine hK _ _ _ _ _ _ (And.intro (fun c9 => absurd c9 (nI1_0)) (fun _ => ?_))
    iterate 2 refine hK _ _ _ _ _ _ (?_ : K _ _ _ _ _ _)
    refine hK _ _ _ _ _ _ (r_callV rfl (fun _ => rfl) rfl (b0 rfl rfl rfl) (kw_0 (?_ : K _ _ _ _ _ _)))
    refine hK _ _ _ _ _ _ (And.intro (fun _ => ?_) (fun c9 => absurd (rfl) c9))
    iterate 2 refine hK _ _ _ _ _ _ (?_ : K _ _ _ _ _ _)
    refine hK _ _ _ _ _ _ (r_callV rfl (fun _ => rfl) rfl (b0 rfl rfl rfl) (kX7_sizeOf hA hp (?_ : K _ _ _ _ _ _)))
    iterate 3 refine hK _ _ _ _ _ _ (?_ : K _ _ _ _ _ _)
    have e0 := fl_1 (128 * p) A no9
    rw [← e0]
    refine hW _ _ [(3, .int (nI (1))), (2, .int (nI (cF (P p) 128))), (0, .ref 24), (1, .int (nI p))] _ _ _ _ (by simp) ?_
    refine up (P := fun k => K 29 [(3, .int (nI (k))), (2, .int (nI (cF (P p) 128))), (0, .ref 24), (1, .int (nI p))] [] (b, mW X (fl (128 * p) A no9 (k)) mk ro nx pi kp km (nI 0) T) 0 0) 128 1 ?_ ?_ (by decide)
    · skip
      iterate 2 refine hK _ _ _ _ _ _ (?_ : K _ _ _ _ _ _)
      refine hK _ _ _ _ _ _ (And.intro (fun _ => ?_) (fun c9 => absurd (nI_le (Nat.le_refl 128) (by decide)) c9))
      iterate 1 refine hK _ _ _ _ _ _ (?_ : K _ _ _ _ _ _)
      rw [cF_fb (hI.1 p hp).1]
      exact hK _ _ _ _ _ _ (r_iret rfl rfl rfl rfl (mi hQ1 (fl_MI hA) hR))
    · intro k h0k hk ihk
      iterate 2 refine hK _ _ _ _ _ _ (?_ : K _ _ _ _ _ _)
      refine hK _ _ _ _ _ _ (And.intro (fun c9 => absurd c9 (nI_ge (by omega) (by decide))) (fun _ => ?_))
      iterate 1 refine hK _ _ _ _ _ _ (?_ : K _ _ _ _ _ _)
      refine hK _ _ _ _ _ _ (r_get rfl rfl rfl (?_ : K _ _ _ _ _ _))
      iterate 6 refine hK _ _ _ _ _ _ (?_ : K _ _ _ _ _ _)
      refine hK _ _ _ _ _ _ (r_zastF (B := 128 * p) (k := k) (s := no9) (N := 768) rfl (by rw [nI_mul, nI_add]) (nar_f rfl) (by omega) (by omega) (by decide) rfl (?_ : K _ _ _ _ _ _))
      show K _ _ _ (b, mW X (fl (128 * p) A no9 (k + 1)) mk ro nx pi kp km (nI 0) T) _ _
      iterate 2 refine hK _ _ _ _ _ _ (?_ : K _ _ _ _ _ _)
      rw [nI_add k 1]
      first | exact ihk | exact hW _ _ _ _ _ _ _ (by simp) ihk

set_option maxRecDepth 10000 in
/-- Model.copy -/
theorem kX7_copy {S : Nat × (Nat → Int32)} {d : Nat} {Q : eQ} {b : Bool} {X : Nat → va_E} {A mk ro nx pi : Nat → Int32} {kp : Nat → Int64} {km th : Int32} {T : List va_E} {P : Nat → Nat → Bool} {R : Nat → Bool} {x : Int32} {y : Int32} (hI : IvC P R) (hA : MI P A) (hR : RI R ro) (hQ : mQ (.int (nI 0)) cmA (o_copy P R x y) Q b X A ro T) : okCall S MT (d + 4) nX7_copy [.ref 24, .int x, .int y] (b, mW X A mk ro nx pi kp km th T) Q := by
  refine okc (M := MX7_copy) rfl rfl fun K hK hW => ?_
  show K 0 [(0, .ref 24), (1, .int x), (2, .int y)] [] (b, mW X A mk ro nx pi kp km th T) 0 0
  unfold o_copy at hQ
  iterate 2 refine hK _ _ _ _ _ _ (?_ : K _ _ _ _ _ _)
  refine hK _ _ _ _ _ _ (r_callS rfl (fun _ => rfl) (b0 rfl rfl rfl) (kX7_isPlace (fun h9 => (?_ : K _ _ _ _ _ _)) (fun p _ hp hx h9 => (?_ : K _ _ _ _ _ _))))
  · skip
    refine hK _ _ _ _ _ _ (And.intro (fun _ => ?_) (fun c9 => absurd (rfl) c9))
    iterate 1 refine hK _ _ _ _ _ _ (?_ : K _ _ _ _ _ _)
    refine hK _ _ _ _ _ _ (r_callV rfl (fun _ => rfl) rfl (b0 rfl rfl rfl) (kw_n (n := 1) (by decide) (by decide) (?_ : K _ _ _ _ _ _)))
    refine hK _ _ _ _ _ _ (And.intro (fun c9 => absurd c9 (nI1_0)) (fun _ => ?_))
    iterate 1 refine hK _ _ _ _ _ _ (?_ : K _ _ _ _ _ _)
    exact hK _ _ _ _ _ _ (r_iret rfl rfl rfl rfl (mq_n h9 hQ))
  · skip
    subst hx
    have hQ1 := mq_s h9 hQ
    refine hK _ _ _ _ _ _ (And.intro (fun c9 => absurd c9 (nI1_0)) (fun _ => ?_))
    iterate 1 refine hK _ _ _ _ _ _ (?_ : K _ _ _ _ _ _)
    refine hK _ _ _ _ _ _ (r_callS rfl (fun _ => rfl) (b0 rfl rfl rfl) (kX7_isPlace (fun h9 => (?_ : K _ _ _ _ _ _)) (fun t _ ht hx h9 => (?_ : K _ _ _ _ _ _))))
    · skip
      refine hK _ _ _ _ _ _ (And.intro (fun _ => ?_) (fun c9 => absurd (rfl) c9))
      iterate 1 refine hK _ _ _ _ _ _ (?_ : K _ _ _ _ _ _)
      refine hK _ _ _ _ _ _ (r_callV rfl (fun _ => rfl) rfl (b0 rfl rfl rfl) (kw_n (n := 1) (by decide) (by decide) (?_ : K _ _ _ _ _ _)))
      refine hK _ _ _ _ _ _ (And.intro (fun c9 => absurd c9 (nI1_0)) (fun _ => ?_))
      iterate 1 refine hK _ _ _ _ _ _ (?_ : K _ _ _ _ _ _)
      exact hK _ _ _ _ _ _ (r_iret rfl rfl rfl rfl (mq_n h9 hQ1))
    · skip
      subst hx
      have hQ2 := mq_s h9 hQ1
      refine hK _ _ _ _ _ _ (And.intro (fun c9 => absurd c9 (nI1_0)) (fun _ => ?_))
      iterate 2 refine hK _ _ _ _ _ _ (?_ : K _ _ _ _ _ _)
      refine hK _ _ _ _ _ _ (r_callV rfl (fun _ => rfl) rfl (b0 rfl rfl rfl) (kw_0 (?_ : K _ _ _ _ _ _)))
      refine hK _ _ _ _ _ _ (And.intro (fun _ => ?_) (fun c9 => absurd (rfl) c9))
      iterate 2 refine hK _ _ _ _ _ _ (?_ : K _ _ _ _ _ _)
      have e0 := fl_1 0 mk (P p)
      rw [← e0]
      refine hW _ _ [(3, .int (nI (1))), (0, .ref 24), (1, .int (nI p)), (2, .int (nI t))] _ _ _ _ (by simp) ?_
      refine up (P := fun k => K 30 [(3, .int (nI (k))), (0, .ref 24), (1, .int (nI p)), (2, .int (nI t))] [] (b, mW X A (fl 0 mk (P p) (k)) ro nx pi kp km (nI 0) T) 0 0) 128 1 ?_ ?_ (by decide)
      · skip
        iterate 2 refine hK _ _ _ _ _ _ (?_ : K _ _ _ _ _ _)
        refine hK _ _ _ _ _ _ (And.intro (fun _ => ?_) (fun c9 => absurd (nI_le (Nat.le_refl 128) (by decide)) c9))
        iterate 2 refine hK _ _ _ _ _ _ (?_ : K _ _ _ _ _ _)
        refine hK _ _ _ _ _ _ (r_callV rfl (fun _ => rfl) rfl (b0 rfl rfl rfl) (kX7_keep (s := (P p)) ht fl_RI hA (?_ : K _ _ _ _ _ _)))
        rw [cF_fb (s := (P p)) (hI.1 p hp).1]
        exact hK _ _ _ _ _ _ (r_iret rfl rfl rfl rfl (mi hQ2 (fl_MI hA) hR))
      · intro k h0k hk ihk
        iterate 2 refine hK _ _ _ _ _ _ (?_ : K _ _ _ _ _ _)
        refine hK _ _ _ _ _ _ (And.intro (fun c9 => absurd c9 (nI_ge (by omega) (by decide))) (fun _ => ?_))
        iterate 1 refine hK _ _ _ _ _ _ (?_ : K _ _ _ _ _ _)
        refine hK _ _ _ _ _ _ (r_get rfl rfl rfl (?_ : K _ _ _ _ _ _))
        iterate 4 refine hK _ _ _ _ _ _ (?_ : K _ _ _ _ _ _)
        refine hK _ _ _ _ _ _ (r_callV rfl (fun _ => rfl) rfl (b0 rfl rfl rfl) (kX7_isThere (i := k) hA hp (by omega) (by omega) (?_ : K _ _ _ _ _ _)))
        refine hK _ _ _ _ _ _ (r_zastF (B := 0) (k := k) (s := (P p)) (N := 128) rfl (by rw [Nat.zero_add]) (nar_b _) (by omega) (by omega) (by decide) rfl (?_ : K _ _ _ _ _ _))
        show K _ _ _ (b, mW X A (fl 0 mk (P p) (k + 1)) ro nx pi kp km (nI 0) T) _ _
        iterate 2 refine hK _ _ _ _ _ _ (?_ : K _ _ _ _ _ _)
        rw [nI_add k 1]
        first | exact ihk | exact hW _ _ _ _ _ _ _ (by simp) ihk

set_option maxRecDepth 10000 in
/-- Model.unite -/
theorem kX7_unite {S : Nat × (Nat → Int32)} {d : Nat} {Q : eQ} {b : Bool} {X : Nat → va_E} {A mk ro nx pi : Nat → Int32} {kp : Nat → Int64} {km th : Int32} {T : List va_E} {P : Nat → Nat → Bool} {R : Nat → Bool} {x : Int32} {y : Int32} {z : Int32} (hI : IvC P R) (hA : MI P A) (hR : RI R ro) (hQ : mQ (.int (nI 0)) cmA (o_unite P R x y z) Q b X A ro T) : okCall S MT (d + 4) nX7_unite [.ref 24, .int x, .int y, .int z] (b, mW X A mk ro nx pi kp km th T) Q := by
  refine okc (M := MX7_unite) rfl rfl fun K hK hW => ?_
  show K 0 [(0, .ref 24), (1, .int x), (2, .int y), (3, .int z)] [] (b, mW X A mk ro nx pi kp km th T) 0 0
  unfold o_unite at hQ
  iterate 2 refine hK _ _ _ _ _ _ (?_ : K _ _ _ _ _ _)
  refine hK _ _ _ _ _ _ (r_callS rfl (fun _ => rfl) (b0 rfl rfl rfl) (kX7_isPlace (fun h9 => (?_ : K _ _ _ _ _ _)) (fun p _ hp hx h9 => (?_ : K _ _ _ _ _ _))))
  · skip
    refine hK _ _ _ _ _ _ (And.intro (fun _ => ?_) (fun c9 => absurd (rfl) c9))
    iterate 1 refine hK _ _ _ _ _ _ (?_ : K _ _ _ _ _ _)
    refine hK _ _ _ _ _ _ (r_callV rfl (fun _ => rfl) rfl (b0 rfl rfl rfl) (kw_n (n := 1) (by decide) (by decide) (?_ : K _ _ _ _ _ _)))
    refine hK _ _ _ _ _ _ (And.intro (fun c9 => absurd c9 (nI1_0)) (fun _ => ?_))
    iterate 1 refine hK _ _ _ _ _ _ (?_ : K _ _ _ _ _ _)
    exact hK _ _ _ _ _ _ (r_iret rfl rfl rfl rfl (mq_n h9 hQ))
  · skip
    subst hx
    have hQ1 := mq_s h9 hQ
    refine hK _ _ _ _ _ _ (And.intro (fun c9 => absurd c9 (nI1_0)) (fun _ => ?_))
    iterate 1 refine hK _ _ _ _ _ _ (?_ : K _ _ _ _ _ _)
    refine hK _ _ _ _ _ _ (r_callS rfl (fun _ => rfl) (b0 rfl rfl rfl) (kX7_isPlace (fun h9 => (?_ : K _ _ _ _ _ _)) (fun q _ hq hx h9 => (?_ : K _ _ _ _ _ _))))
    · skip
      refine hK _ _ _ _ _ _ (And.intro (fun _ => ?_) (fun c9 => absurd (rfl) c9))
      iterate 1 refine hK _ _ _ _ _ _ (?_ : K _ _ _ _ _ _)
      refine hK _ _ _ _ _ _ (r_callV rfl (fun _ => rfl) rfl (b0 rfl rfl rfl) (kw_n (n := 1) (by decide) (by decide) (?_ : K _ _ _ _ _ _)))
      refine hK _ _ _ _ _ _ (And.intro (fun c9 => absurd c9 (nI1_0)) (fun _ => ?_))
      iterate 1 refine hK _ _ _ _ _ _ (?_ : K _ _ _ _ _ _)
      exact hK _ _ _ _ _ _ (r_iret rfl rfl rfl rfl (mq_n h9 hQ1))
    · skip
      subst hx
      have hQ2 := mq_s h9 hQ1
      refine hK _ _ _ _ _ _ (And.intro (fun c9 => absurd c9 (nI1_0)) (fun _ => ?_))
      iterate 1 refine hK _ _ _ _ _ _ (?_ : K _ _ _ _ _ _)
      refine hK _ _ _ _ _ _ (r_callS rfl (fun _ => rfl) (b0 rfl rfl rfl) (kX7_isPlace (fun h9 => (?_ : K _ _ _ _ _ _)) (fun t _ ht hx h9 => (?_ : K _ _ _ _ _ _))))
      · skip
        refine hK _ _ _ _ _ _ (And.intro (fun _ => ?_) (fun c9 => absurd (rfl) c9))
        iterate 1 refine hK _ _ _ _ _ _ (?_ : K _ _ _ _ _ _)
        refine hK _ _ _ _ _ _ (r_callV rfl (fun _ => rfl) rfl (b0 rfl rfl rfl) (kw_n (n := 1) (by decide) (by decide) (?_ : K _ _ _ _ _ _)))
        refine hK _ _ _ _ _ _ (And.intro (fun c9 => absurd c9 (nI1_0)) (fun _ => ?_))
        iterate 1 refine hK _ _ _ _ _ _ (?_ : K _ _ _ _ _ _)
        exact hK _ _ _ _ _ _ (r_iret rfl rfl rfl rfl (mq_n h9 hQ2))
      · skip
        subst hx
        have hQ3 := mq_s h9 hQ2
        refine hK _ _ _ _ _ _ (And.intro (fun c9 => absurd c9 (nI1_0)) (fun _ => ?_))
        iterate 2 refine hK _ _ _ _ _ _ (?_ : K _ _ _ _ _ _)
        refine hK _ _ _ _ _ _ (r_callV rfl (fun _ => rfl) rfl (b0 rfl rfl rfl) (kw_0 (?_ : K _ _ _ _ _ _)))
        refine hK _ _ _ _ _ _ (And.intro (fun _ => ?_) (fun c9 => absurd (rfl) c9))
        iterate 2 refine hK _ _ _ _ _ _ (?_ : K _ _ _ _ _ _)
        have e0 := fl_1 0 mk (fun i => P p i || P q i)
        rw [← e0]
        refine hW _ _ [(4, .int (nI (1))), (0, .ref 24), (1, .int (nI p)), (2, .int (nI q)), (3, .int (nI t))] _ _ _ _ (by simp) ?_
        refine up (P := fun k => K 38 [(4, .int (nI (k))), (0, .ref 24), (1, .int (nI p)), (2, .int (nI q)), (3, .int (nI t))] [] (b, mW X A (fl 0 mk (fun i => P p i || P q i) (k)) ro nx pi kp km (nI 0) T) 0 0) 128 1 ?_ ?_ (by decide)
        · skip
          iterate 2 refine hK _ _ _ _ _ _ (?_ : K _ _ _ _ _ _)
          refine hK _ _ _ _ _ _ (And.intro (fun _ => ?_) (fun c9 => absurd (nI_le (Nat.le_refl 128) (by decide)) c9))
          iterate 2 refine hK _ _ _ _ _ _ (?_ : K _ _ _ _ _ _)
          refine hK _ _ _ _ _ _ (r_callV rfl (fun _ => rfl) rfl (b0 rfl rfl rfl) (kX7_keep (s := (fun i => P p i || P q i)) ht fl_RI hA (?_ : K _ _ _ _ _ _)))
          rw [cF_fb (s := (fun i => P p i || P q i)) (by show (P p 0 || P q 0) = false; rw [(hI.1 p hp).1, (hI.1 q hq).1]; rfl)]
          exact hK _ _ _ _ _ _ (r_iret rfl rfl rfl rfl (mi hQ3 (fl_MI hA) hR))
        · intro k h0k hk ihk
          iterate 2 refine hK _ _ _ _ _ _ (?_ : K _ _ _ _ _ _)
          refine hK _ _ _ _ _ _ (And.intro (fun c9 => absurd c9 (nI_ge (by omega) (by decide))) (fun _ => ?_))
          iterate 1 refine hK _ _ _ _ _ _ (?_ : K _ _ _ _ _ _)
          refine hK _ _ _ _ _ _ (r_get rfl rfl rfl (?_ : K _ _ _ _ _ _))
          iterate 4 refine hK _ _ _ _ _ _ (?_ : K _ _ _ _ _ _)
          refine hK _ _ _ _ _ _ (r_callV rfl (fun _ => rfl) rfl (b0 rfl rfl rfl) (kX7_isThere (i := k) hA hp (by omega) (by omega) (?_ : K _ _ _ _ _ _)))
          refine hK _ _ _ _ _ _ (And.intro (fun c1 => ?_) (fun c1 => ?_))
          · skip
            iterate 3 refine hK _ _ _ _ _ _ (?_ : K _ _ _ _ _ _)
            refine hK _ _ _ _ _ _ (r_callV rfl (fun _ => rfl) rfl (b0 rfl rfl rfl) (kX7_isThere (i := k) hA hq (by omega) (by omega) (?_ : K _ _ _ _ _ _)))
            refine hK _ _ _ _ _ _ (And.intro (fun c2 => ?_) (fun c2 => ?_))
            · skip
              iterate 1 refine hK _ _ _ _ _ _ (?_ : K _ _ _ _ _ _)
              refine hK _ _ _ _ _ _ (r_zastF (B := 0) (k := k) (s := (fun i => P p i || P q i)) (N := 128) rfl (by rw [Nat.zero_add]) (nar_f (by show (P p k || P q k) = false; rw [(b2i_0.mp c1), (b2i_0.mp c2)]; rfl)) (by omega) (by omega) (by decide) rfl (?_ : K _ _ _ _ _ _))
              show K _ _ _ (b, mW X A (fl 0 mk (fun i => P p i || P q i) (k + 1)) ro nx pi kp km (nI 0) T) _ _
              iterate 2 refine hK _ _ _ _ _ _ (?_ : K _ _ _ _ _ _)
              rw [nI_add k 1]
              first | exact ihk | exact hW _ _ _ _ _ _ _ (by simp) ihk
            · skip
              iterate 2 refine hK _ _ _ _ _ _ (?_ : K _ _ _ _ _ _)
              refine hK _ _ _ _ _ _ (r_zastF (B := 0) (k := k) (s := (fun i => P p i || P q i)) (N := 128) rfl (by rw [Nat.zero_add]) (nar_t (by show (P p k || P q k) = true; rw [(Bool.of_not_eq_false fun c9 => c2 (b2i_0.mpr c9)), Bool.or_true])) (by omega) (by omega) (by decide) rfl (?_ : K _ _ _ _ _ _))
              show K _ _ _ (b, mW X A (fl 0 mk (fun i => P p i || P q i) (k + 1)) ro nx pi kp km (nI 0) T) _ _
              iterate 2 refine hK _ _ _ _ _ _ (?_ : K _ _ _ _ _ _)
              rw [nI_add k 1]
              first | exact ihk | exact hW _ _ _ _ _ _ _ (by simp) ihk
          · skip
            iterate 2 refine hK _ _ _ _ _ _ (?_ : K _ _ _ _ _ _)
            refine hK _ _ _ _ _ _ (r_zastF (B := 0) (k := k) (s := (fun i => P p i || P q i)) (N := 128) rfl (by rw [Nat.zero_add]) (nar_t (by show (P p k || P q k) = true; rw [(Bool.of_not_eq_false fun c9 => c1 (b2i_0.mpr c9))]; rfl)) (by omega) (by omega) (by decide) rfl (?_ : K _ _ _ _ _ _))
            show K _ _ _ (b, mW X A (fl 0 mk (fun i => P p i || P q i) (k + 1)) ro nx pi kp km (nI 0) T) _ _
            iterate 2 refine hK _ _ _ _ _ _ (?_ : K _ _ _ _ _ _)
            rw [nI_add k 1]
            first | exact ihk | exact hW _ _ _ _ _ _ _ (by simp) ihk

set_option maxRecDepth 10000 in
/-- Model.meet -/
theorem kX7_meet {S : Nat × (Nat → Int32)} {d : Nat} {Q : eQ} {b : Bool} {X : Nat → va_E} {A mk ro nx pi : Nat → Int32} {kp : Nat → Int64} {km th : Int32} {T : List va_E} {P : Nat → Nat → Bool} {R : Nat → Bool} {x : Int32} {y : Int32} {z : Int32} (hI : IvC P R) (hA : MI P A) (hR : RI R ro) (hQ : mQ (.int (nI 0)) cmA (o_meet P R x y z) Q b X A ro T) : okCall S MT (d + 4) nX7_meet [.ref 24, .int x, .int y, .int z] (b, mW X A mk ro nx pi kp km th T) Q := by
  refine okc (M := MX7_meet) rfl rfl fun K hK hW => ?_
  show K 0 [(0, .ref 24), (1, .int x), (2, .int y), (3, .int z)] [] (b, mW X A mk ro nx pi kp km th T) 0 0
  unfold o_meet at hQ
  iterate 2 refine hK _ _ _ _ _ _ (?_ : K _ _ _ _ _ _)
  refine hK _ _ _ _ _ _ (r_callS rfl (fun _ => rfl) (b0 rfl rfl rfl) (kX7_isPlace (fun h9 => (?_ : K _ _ _ _ _ _)) (fun p _ hp hx h9 => (?_ : K _ _ _ _ _ _))))
  · skip
    refine hK _ _ _ _ _ _ (And.intro (fun _ => ?_) (fun c9 => absurd (rfl) c9))
    iterate 1 refine hK _ _ _ _ _ _ (?_ : K _ _ _ _ _ _)
    refine hK _ _ _ _ _ _ (r_callV rfl (fun _ => rfl) rfl (b0 rfl rfl rfl) (kw_n (n := 1) (by decide) (by decide) (?_ : K _ _ _ _ _ _)))
    refine hK _ _ _ _ _ _ (And.intro (fun c9 => absurd c9 (nI1_0)) (fun _ => ?_))
    iterate 1 refine hK _ _ _ _ _ _ (?_ : K _ _ _ _ _ _)
    exact hK _ _ _ _ _ _ (r_iret rfl rfl rfl rfl (mq_n h9 hQ))
  · skip
    subst hx
    have hQ1 := mq_s h9 hQ
    refine hK _ _ _ _ _ _ (And.intro (fun c9 => absurd c9 (nI1_0)) (fun _ => ?_))
    iterate 1 refine hK _ _ _ _ _ _ (?_ : K _ _ _ _ _ _)
    refine hK _ _ _ _ _ _ (r_callS rfl (fun _ => rfl) (b0 rfl rfl rfl) (kX7_isPlace (fun h9 => (?_ : K _ _ _ _ _ _)) (fun q _ hq hx h9 => (?_ : K _ _ _ _ _ _))))
    · skip
      refine hK _ _ _ _ _ _ (And.intro (fun _ => ?_) (fun c9 => absurd (rfl) c9))
      iterate 1 refine hK _ _ _ _ _ _ (?_ : K _ _ _ _ _ _)
      refine hK _ _ _ _ _ _ (r_callV rfl (fun _ => rfl) rfl (b0 rfl rfl rfl) (kw_n (n := 1) (by decide) (by decide) (?_ : K _ _ _ _ _ _)))
      refine hK _ _ _ _ _ _ (And.intro (fun c9 => absurd c9 (nI1_0)) (fun _ => ?_))
      iterate 1 refine hK _ _ _ _ _ _ (?_ : K _ _ _ _ _ _)
      exact hK _ _ _ _ _ _ (r_iret rfl rfl rfl rfl (mq_n h9 hQ1))
    · skip
      subst hx
      have hQ2 := mq_s h9 hQ1
      refine hK _ _ _ _ _ _ (And.intro (fun c9 => absurd c9 (nI1_0)) (fun _ => ?_))
      iterate 1 refine hK _ _ _ _ _ _ (?_ : K _ _ _ _ _ _)
      refine hK _ _ _ _ _ _ (r_callS rfl (fun _ => rfl) (b0 rfl rfl rfl) (kX7_isPlace (fun h9 => (?_ : K _ _ _ _ _ _)) (fun t _ ht hx h9 => (?_ : K _ _ _ _ _ _))))
      · skip
        refine hK _ _ _ _ _ _ (And.intro (fun _ => ?_) (fun c9 => absurd (rfl) c9))
        iterate 1 refine hK _ _ _ _ _ _ (?_ : K _ _ _ _ _ _)
        refine hK _ _ _ _ _ _ (r_callV rfl (fun _ => rfl) rfl (b0 rfl rfl rfl) (kw_n (n := 1) (by decide) (by decide) (?_ : K _ _ _ _ _ _)))
        refine hK _ _ _ _ _ _ (And.intro (fun c9 => absurd c9 (nI1_0)) (fun _ => ?_))
        iterate 1 refine hK _ _ _ _ _ _ (?_ : K _ _ _ _ _ _)
        exact hK _ _ _ _ _ _ (r_iret rfl rfl rfl rfl (mq_n h9 hQ2))
      · skip
        subst hx
        have hQ3 := mq_s h9 hQ2
        refine hK _ _ _ _ _ _ (And.intro (fun c9 => absurd c9 (nI1_0)) (fun _ => ?_))
        iterate 2 refine hK _ _ _ _ _ _ (?_ : K _ _ _ _ _ _)
        refine hK _ _ _ _ _ _ (r_callV rfl (fun _ => rfl) rfl (b0 rfl rfl rfl) (kw_0 (?_ : K _ _ _ _ _ _)))
        refine hK _ _ _ _ _ _ (And.intro (fun _ => ?_) (fun c9 => absurd (rfl) c9))
        iterate 2 refine hK _ _ _ _ _ _ (?_ : K _ _ _ _ _ _)
        have e0 := fl_1 0 mk (fun i => P p i && P q i)
        rw [← e0]
        refine hW _ _ [(4, .int (nI (1))), (0, .ref 24), (1, .int (nI p)), (2, .int (nI q)), (3, .int (nI t))] _ _ _ _ (by simp) ?_
        refine up (P := fun k => K 38 [(4, .int (nI (k))), (0, .ref 24), (1, .int (nI p)), (2, .int (nI q)), (3, .int (nI t))] [] (b, mW X A (fl 0 mk (fun i => P p i && P q i) (k)) ro nx pi kp km (nI 0) T) 0 0) 128 1 ?_ ?_ (by decide)
        · skip
          iterate 2 refine hK _ _ _ _ _ _ (?_ : K _ _ _ _ _ _)
          refine hK _ _ _ _ _ _ (And.intro (fun _ => ?_) (fun c9 => absurd (nI_le (Nat.le_refl 128) (by decide)) c9))
          iterate 2 refine hK _ _ _ _ _ _ (?_ : K _ _ _ _ _ _)
          refine hK _ _ _ _ _ _ (r_callV rfl (fun _ => rfl) rfl (b0 rfl rfl rfl) (kX7_keep (s := (fun i => P p i && P q i)) ht fl_RI hA (?_ : K _ _ _ _ _ _)))
          rw [cF_fb (s := (fun i => P p i && P q i)) (by show (P p 0 && P q 0) = false; rw [(hI.1 p hp).1]; rfl)]
          exact hK _ _ _ _ _ _ (r_iret rfl rfl rfl rfl (mi hQ3 (fl_MI hA) hR))
        · intro k h0k hk ihk
          iterate 2 refine hK _ _ _ _ _ _ (?_ : K _ _ _ _ _ _)
          refine hK _ _ _ _ _ _ (And.intro (fun c9 => absurd c9 (nI_ge (by omega) (by decide))) (fun _ => ?_))
          iterate 1 refine hK _ _ _ _ _ _ (?_ : K _ _ _ _ _ _)
          refine hK _ _ _ _ _ _ (r_get rfl rfl rfl (?_ : K _ _ _ _ _ _))
          iterate 4 refine hK _ _ _ _ _ _ (?_ : K _ _ _ _ _ _)
          refine hK _ _ _ _ _ _ (r_callV rfl (fun _ => rfl) rfl (b0 rfl rfl rfl) (kX7_isThere (i := k) hA hp (by omega) (by omega) (?_ : K _ _ _ _ _ _)))
          refine hK _ _ _ _ _ _ (And.intro (fun c1 => ?_) (fun c1 => ?_))
          · skip
            iterate 1 refine hK _ _ _ _ _ _ (?_ : K _ _ _ _ _ _)
            refine hK _ _ _ _ _ _ (r_zastF (B := 0) (k := k) (s := (fun i => P p i && P q i)) (N := 128) rfl (by rw [Nat.zero_add]) (nar_f (by show (P p k && P q k) = false; rw [(b2i_0.mp c1)]; rfl)) (by omega) (by omega) (by decide) rfl (?_ : K _ _ _ _ _ _))
            show K _ _ _ (b, mW X A (fl 0 mk (fun i => P p i && P q i) (k + 1)) ro nx pi kp km (nI 0) T) _ _
            iterate 2 refine hK _ _ _ _ _ _ (?_ : K _ _ _ _ _ _)
            rw [nI_add k 1]
            first | exact ihk | exact hW _ _ _ _ _ _ _ (by simp) ihk
          · skip
            iterate 3 refine hK _ _ _ _ _ _ (?_ : K _ _ _ _ _ _)
            refine hK _ _ _ _ _ _ (r_callV rfl (fun _ => rfl) rfl (b0 rfl rfl rfl) (kX7_isThere (i := k) hA hq (by omega) (by omega) (?_ : K _ _ _ _ _ _)))
            refine hK _ _ _ _ _ _ (And.intro (fun c2 => ?_) (fun c2 => ?_))
            · skip
              iterate 1 refine hK _ _ _ _ _ _ (?_ : K _ _ _ _ _ _)
              refine hK _ _ _ _ _ _ (r_zastF (B := 0) (k := k) (s := (fun i => P p i && P q i)) (N := 128) rfl (by rw [Nat.zero_add]) (nar_f (by show (P p k && P q k) = false; rw [(b2i_0.mp c2), Bool.and_false])) (by omega) (by omega) (by decide) rfl (?_ : K _ _ _ _ _ _))
              show K _ _ _ (b, mW X A (fl 0 mk (fun i => P p i && P q i) (k + 1)) ro nx pi kp km (nI 0) T) _ _
              iterate 2 refine hK _ _ _ _ _ _ (?_ : K _ _ _ _ _ _)
              rw [nI_add k 1]
              first | exact ihk | exact hW _ _ _ _ _ _ _ (by simp) ihk
            · skip
              iterate 2 refine hK _ _ _ _ _ _ (?_ : K _ _ _ _ _ _)
              refine hK _ _ _ _ _ _ (r_zastF (B := 0) (k := k) (s := (fun i => P p i && P q i)) (N := 128) rfl (by rw [Nat.zero_add]) (nar_t (by show (P p k && P q k) = true; rw [(Bool.of_not_eq_false fun c9 => c1 (b2i_0.mpr c9)), (Bool.of_not_eq_false fun c9 => c2 (b2i_0.mpr c9))]; rfl)) (by omega) (by omega) (by decide) rfl (?_ : K _ _ _ _ _ _))
              show K _ _ _ (b, mW X A (fl 0 mk (fun i => P p i && P q i) (k + 1)) ro nx pi kp km (nI 0) T) _ _
              iterate 2 refine hK _ _ _ _ _ _ (?_ : K _ _ _ _ _ _)
              rw [nI_add k 1]
              first | exact ihk | exact hW _ _ _ _ _ _ _ (by simp) ihk

set_option maxRecDepth 10000 in
/-- Model.full -/
theorem kX7_full {S : Nat × (Nat → Int32)} {d : Nat} {Q : eQ} {b : Bool} {X : Nat → va_E} {A mk ro nx pi : Nat → Int32} {kp : Nat → Int64} {km th : Int32} {T : List va_E} {P : Nat → Nat → Bool} {R : Nat → Bool} {x : Int32} {r : Bool} {z : Int32} (hI : IvC P R) (hA : MI P A) (hR : RI R ro) (hQ : mQ (.int (nI 0)) cmA (o_full P R x r z) Q b X A ro T) : okCall S MT (d + 4) nX7_full [.ref 24, .int x, .int (b2i r), .int z] (b, mW X A mk ro nx pi kp km th T) Q := by
  refine okc (M := MX7_full) rfl rfl fun K hK hW => ?_
  show K 0 [(0, .ref 24), (1, .int x), (2, .int (b2i r)), (3, .int z)] [] (b, mW X A mk ro nx pi kp km th T) 0 0
  unfold o_full at hQ
  iterate 2 refine hK _ _ _ _ _ _ (?_ : K _ _ _ _ _ _)
  refine hK _ _ _ _ _ _ (r_callS rfl (fun _ => rfl) (b0 rfl rfl rfl) (kX7_isPlace (fun h9 => (?_ : K _ _ _ _ _ _)) (fun t _ ht hx h9 => (?_ : K _ _ _ _ _ _))))
  · skip
    refine hK _ _ _ _ _ _ (And.intro (fun _ => ?_) (fun c9 => absurd (rfl) c9))
    iterate 2 refine hK _ _ _ _ _ _ (?_ : K _ _ _ _ _ _)
    refine hK _ _ _ _ _ _ (r_callV rfl (fun _ => rfl) rfl (b0 rfl rfl rfl) (kw_n (n := 1) (by decide) (by decide) (?_ : K _ _ _ _ _ _)))
    refine hK _ _ _ _ _ _ (And.intro (fun c9 => absurd c9 (nI1_0)) (fun _ => ?_))
    iterate 1 refine hK _ _ _ _ _ _ (?_ : K _ _ _ _ _ _)
    exact hK _ _ _ _ _ _ (r_iret rfl rfl rfl rfl (mq_n h9 hQ))
  · skip
    subst hx
    have hQ1 := mq_s h9 hQ
    refine hK _ _ _ _ _ _ (And.intro (fun c9 => absurd c9 (nI1_0)) (fun _ => ?_))
    iterate 1 refine hK _ _ _ _ _ _ (?_ : K _ _ _ _ _ _)
    refine hK _ _ _ _ _ _ (r_callS rfl (fun _ => rfl) (b0 rfl rfl rfl) (kX7_isFace (fun h9 => (?_ : K _ _ _ _ _ _)) (fun i hi1 hi hx h9 => (?_ : K _ _ _ _ _ _))))
    · skip
      refine hK _ _ _ _ _ _ (And.intro (fun _ => ?_) (fun c9 => absurd (rfl) c9))
      iterate 2 refine hK _ _ _ _ _ _ (?_ : K _ _ _ _ _ _)
      refine hK _ _ _ _ _ _ (r_callV rfl (fun _ => rfl) rfl (b0 rfl rfl rfl) (kw_n (n := 2) (by decide) (by decide) (?_ : K _ _ _ _ _ _)))
      refine hK _ _ _ _ _ _ (And.intro (fun c9 => absurd c9 (nI1_0)) (fun _ => ?_))
      iterate 1 refine hK _ _ _ _ _ _ (?_ : K _ _ _ _ _ _)
      exact hK _ _ _ _ _ _ (r_iret rfl rfl rfl rfl (mq_n h9 hQ1))
    · skip
      subst hx
      have hQ2 := mq_s h9 hQ1
      refine hK _ _ _ _ _ _ (And.intro (fun c9 => absurd c9 (nI1_0)) (fun _ => ?_))
      iterate 1 refine hK _ _ _ _ _ _ (?_ : K _ _ _ _ _ _)
      refine hK _ _ _ _ _ _ (r_callV rfl (fun _ => rfl) rfl (b0 rfl rfl rfl) (kw_0 (?_ : K _ _ _ _ _ _)))
      refine hK _ _ _ _ _ _ (And.intro (fun _ => ?_) (fun c9 => absurd (rfl) c9))
      iterate 2 refine hK _ _ _ _ _ _ (?_ : K _ _ _ _ _ _)
      have e0 := fl_1 0 mk (fuS i r)
      rw [← e0]
      refine hW _ _ [(4, .int (nI (1))), (0, .ref 24), (1, .int (nI i)), (2, .int (b2i r)), (3, .int (nI t))] _ _ _ _ (by simp) ?_
      refine up (P := fun k => K 35 [(4, .int (nI (k))), (0, .ref 24), (1, .int (nI i)), (2, .int (b2i r)), (3, .int (nI t))] [] (b, mW X A (fl 0 mk (fuS i r) (k)) ro nx pi kp km (nI 0) T) 0 0) 128 1 ?_ ?_ (by decide)
      · skip
        iterate 2 refine hK _ _ _ _ _ _ (?_ : K _ _ _ _ _ _)
        refine hK _ _ _ _ _ _ (And.intro (fun _ => ?_) (fun c9 => absurd (nI_le (Nat.le_refl 128) (by decide)) c9))
        iterate 2 refine hK _ _ _ _ _ _ (?_ : K _ _ _ _ _ _)
        refine hK _ _ _ _ _ _ (r_callV rfl (fun _ => rfl) rfl (b0 rfl rfl rfl) (kX7_keep (s := (fuS i r)) ht fl_RI hA (?_ : K _ _ _ _ _ _)))
        rw [cF_fb (s := (fuS i r)) fuS_0]
        exact hK _ _ _ _ _ _ (r_iret rfl rfl rfl rfl (mi hQ2 (fl_MI hA) hR))
      · intro k h0k hk ihk
        iterate 2 refine hK _ _ _ _ _ _ (?_ : K _ _ _ _ _ _)
        refine hK _ _ _ _ _ _ (And.intro (fun c9 => absurd c9 (nI_ge (by omega) (by decide))) (fun _ => ?_))
        iterate 1 refine hK _ _ _ _ _ _ (?_ : K _ _ _ _ _ _)
        refine hK _ _ _ _ _ _ (r_get rfl rfl rfl (?_ : K _ _ _ _ _ _))
        iterate 3 refine hK _ _ _ _ _ _ (?_ : K _ _ _ _ _ _)
        refine hK _ _ _ _ _ _ (r_callS rfl (fun _ => rfl) (b0 rfl rfl rfl) (kX7_isPart (i := k) (by omega) (?_ : K _ _ _ _ _ _)))
        refine hK _ _ _ _ _ _ (And.intro (fun c1 => ?_) (fun c1 => ?_))
        · skip
          iterate 1 refine hK _ _ _ _ _ _ (?_ : K _ _ _ _ _ _)
          refine hK _ _ _ _ _ _ (r_zastF (B := 0) (k := k) (s := (fuS i r)) (N := 128) rfl (by rw [Nat.zero_add]) (nar_f (by rw [fuS_at (by omega), (b2i_0.mp c1)]; rfl)) (by omega) (by omega) (by decide) rfl (?_ : K _ _ _ _ _ _))
          show K _ _ _ (b, mW X A (fl 0 mk (fuS i r) (k + 1)) ro nx pi kp km (nI 0) T) _ _
          iterate 2 refine hK _ _ _ _ _ _ (?_ : K _ _ _ _ _ _)
          rw [nI_add k 1]
          first | exact ihk | exact hW _ _ _ _ _ _ _ (by simp) ihk
        · skip
          iterate 1 refine hK _ _ _ _ _ _ (?_ : K _ _ _ _ _ _)
          refine hK _ _ _ _ _ _ (And.intro (fun c2 => ?_) (fun c2 => ?_))
          · skip
            iterate 2 refine hK _ _ _ _ _ _ (?_ : K _ _ _ _ _ _)
            refine hK _ _ _ _ _ _ (r_zastF (B := 0) (k := k) (s := (fuS i r)) (N := 128) rfl (by rw [Nat.zero_add]) (nar_t (by rw [fuS_at (by omega), (Bool.of_not_eq_false fun c9 => c1 (b2i_0.mpr c9)), (b2i_0.mp c2)]; rfl)) (by omega) (by omega) (by decide) rfl (?_ : K _ _ _ _ _ _))
            show K _ _ _ (b, mW X A (fl 0 mk (fuS i r) (k + 1)) ro nx pi kp km (nI 0) T) _ _
            iterate 2 refine hK _ _ _ _ _ _ (?_ : K _ _ _ _ _ _)
            rw [nI_add k 1]
            first | exact ihk | exact hW _ _ _ _ _ _ _ (by simp) ihk
          · skip
            iterate 2 refine hK _ _ _ _ _ _ (?_ : K _ _ _ _ _ _)
            refine hK _ _ _ _ _ _ (And.intro (fun c3 => ?_) (fun c3 => ?_))
            · skip
              iterate 1 refine hK _ _ _ _ _ _ (?_ : K _ _ _ _ _ _)
              refine hK _ _ _ _ _ _ (r_zastF (B := 0) (k := k) (s := (fuS i r)) (N := 128) rfl (by rw [Nat.zero_add]) (nar_f (by rw [fuS_at (by omega), (Bool.of_not_eq_false fun c9 => c1 (b2i_0.mpr c9)), (Bool.of_not_eq_false fun c9 => c2 (b2i_0.mpr c9)), (nI_128 (by omega) hi).mp c3]; simp)) (by omega) (by omega) (by decide) rfl (?_ : K _ _ _ _ _ _))
              show K _ _ _ (b, mW X A (fl 0 mk (fuS i r) (k + 1)) ro nx pi kp km (nI 0) T) _ _
              iterate 2 refine hK _ _ _ _ _ _ (?_ : K _ _ _ _ _ _)
              rw [nI_add k 1]
              first | exact ihk | exact hW _ _ _ _ _ _ _ (by simp) ihk
            · skip
              iterate 2 refine hK _ _ _ _ _ _ (?_ : K _ _ _ _ _ _)
              refine hK _ _ _ _ _ _ (r_zastF (B := 0) (k := k) (s := (fuS i r)) (N := 128) rfl (by rw [Nat.zero_add]) (nar_t (by rw [fuS_at (by omega), (Bool.of_not_eq_false fun c9 => c1 (b2i_0.mpr c9)), (Bool.of_not_eq_false fun c9 => c2 (b2i_0.mpr c9)), beq_eq_false_iff_ne.mpr (fun c9 => c3 (by rw [c9]))]; rfl)) (by omega) (by omega) (by decide) rfl (?_ : K _ _ _ _ _ _))
              show K _ _ _ (b, mW X A (fl 0 mk (fuS i r) (k + 1)) ro nx pi kp km (nI 0) T) _ _
              iterate 2 refine hK _ _ _ _ _ _ (?_ : K _ _ _ _ _ _)
              rw [nI_add k 1]
              first | exact ihk | exact hW _ _ _ _ _ _ _ (by simp) ihk

set_option maxRecDepth 10000 in
/-- Model.low -/
theorem kX7_low {S : Nat × (Nat → Int32)} {d : Nat} {Q : eQ} {b : Bool} {X : Nat → va_E} {A mk ro nx pi : Nat → Int32} {kp : Nat → Int64} {km th : Int32} {T : List va_E} {P : Nat → Nat → Bool} {R : Nat → Bool} {x : Int32} {y : Int32} {z : Int32} (hI : IvC P R) (hA : MI P A) (hR : RI R ro) (hQ : mQ (.int (nI 0)) cmA (o_low P R x y z) Q b X A ro T) : okCall S MT (d + 4) nX7_low [.ref 24, .int x, .int y, .int z] (b, mW X A mk ro nx pi kp km th T) Q := by
  refine okc (M := MX7_low) rfl rfl fun K hK hW => ?_
  show K 0 [(0, .ref 24), (1, .int x), (2, .int y), (3, .int z)] [] (b, mW X A mk ro nx pi kp km th T) 0 0
  unfold o_low at hQ
  iterate 2 refine hK _ _ _ _ _ _ (?_ : K _ _ _ _ _ _)
  refine hK _ _ _ _ _ _ (r_callS rfl (fun _ => rfl) (b0 rfl rfl rfl) (kX7_isPlace (fun h9 => (?_ : K _ _ _ _ _ _)) (fun p _ hp hx h9 => (?_ : K _ _ _ _ _ _))))
  · skip
    refine hK _ _ _ _ _ _ (And.intro (fun _ => ?_) (fun c9 => absurd (rfl) c9))
    iterate 2 refine hK _ _ _ _ _ _ (?_ : K _ _ _ _ _ _)
    refine hK _ _ _ _ _ _ (r_callV rfl (fun _ => rfl) rfl (b0 rfl rfl rfl) (kw_n (n := 1) (by decide) (by decide) (?_ : K _ _ _ _ _ _)))
    refine hK _ _ _ _ _ _ (And.intro (fun c9 => absurd c9 (nI1_0)) (fun _ => ?_))
    iterate 1 refine hK _ _ _ _ _ _ (?_ : K _ _ _ _ _ _)
    exact hK _ _ _ _ _ _ (r_iret rfl rfl rfl rfl (mq_n h9 hQ))
  · skip
    subst hx
    have hQ1 := mq_s h9 hQ
    refine hK _ _ _ _ _ _ (And.intro (fun c9 => absurd c9 (nI1_0)) (fun _ => ?_))
    iterate 1 refine hK _ _ _ _ _ _ (?_ : K _ _ _ _ _ _)
    refine hK _ _ _ _ _ _ (r_callS rfl (fun _ => rfl) (b0 rfl rfl rfl) (kX7_isPlace (fun h9 => (?_ : K _ _ _ _ _ _)) (fun t _ ht hx h9 => (?_ : K _ _ _ _ _ _))))
    · skip
      refine hK _ _ _ _ _ _ (And.intro (fun _ => ?_) (fun c9 => absurd (rfl) c9))
      iterate 2 refine hK _ _ _ _ _ _ (?_ : K _ _ _ _ _ _)
      refine hK _ _ _ _ _ _ (r_callV rfl (fun _ => rfl) rfl (b0 rfl rfl rfl) (kw_n (n := 1) (by decide) (by decide) (?_ : K _ _ _ _ _ _)))
      refine hK _ _ _ _ _ _ (And.intro (fun c9 => absurd c9 (nI1_0)) (fun _ => ?_))
      iterate 1 refine hK _ _ _ _ _ _ (?_ : K _ _ _ _ _ _)
      exact hK _ _ _ _ _ _ (r_iret rfl rfl rfl rfl (mq_n h9 hQ1))
    · skip
      subst hx
      have hQ2 := mq_s h9 hQ1
      refine hK _ _ _ _ _ _ (And.intro (fun c9 => absurd c9 (nI1_0)) (fun _ => ?_))
      iterate 1 refine hK _ _ _ _ _ _ (?_ : K _ _ _ _ _ _)
      refine hK _ _ _ _ _ _ (r_callS rfl (fun _ => rfl) (b0 rfl rfl rfl) (kX7_isHeight (fun h9 => (?_ : K _ _ _ _ _ _)) (fun k9 hk0 hk9 hx h9 => (?_ : K _ _ _ _ _ _))))
      · skip
        refine hK _ _ _ _ _ _ (And.intro (fun _ => ?_) (fun c9 => absurd (rfl) c9))
        iterate 2 refine hK _ _ _ _ _ _ (?_ : K _ _ _ _ _ _)
        refine hK _ _ _ _ _ _ (r_callV rfl (fun _ => rfl) rfl (b0 rfl rfl rfl) (kw_n (n := 2) (by decide) (by decide) (?_ : K _ _ _ _ _ _)))
        refine hK _ _ _ _ _ _ (And.intro (fun c9 => absurd c9 (nI1_0)) (fun _ => ?_))
        iterate 1 refine hK _ _ _ _ _ _ (?_ : K _ _ _ _ _ _)
        exact hK _ _ _ _ _ _ (r_iret rfl rfl rfl rfl (mq_n h9 hQ2))
      · skip
        subst hx
        have hQ3 := mq_s h9 hQ2
        refine hK _ _ _ _ _ _ (And.intro (fun c9 => absurd c9 (nI1_0)) (fun _ => ?_))
        iterate 1 refine hK _ _ _ _ _ _ (?_ : K _ _ _ _ _ _)
        refine hK _ _ _ _ _ _ (r_callV rfl (fun _ => rfl) rfl (b0 rfl rfl rfl) (kw_0 (?_ : K _ _ _ _ _ _)))
        refine hK _ _ _ _ _ _ (And.intro (fun _ => ?_) (fun c9 => absurd (rfl) c9))
        iterate 2 refine hK _ _ _ _ _ _ (?_ : K _ _ _ _ _ _)
        have e0 := fl_1 0 mk (loS (P p) k9)
        rw [← e0]
        refine hW _ _ [(4, .int (nI (1))), (0, .ref 24), (1, .int (nI p)), (2, .int (nI k9)), (3, .int (nI t))] _ _ _ _ (by simp) ?_
        refine up (P := fun k => K 42 [(4, .int (nI (k))), (0, .ref 24), (1, .int (nI p)), (2, .int (nI k9)), (3, .int (nI t))] [] (b, mW X A (fl 0 mk (loS (P p) k9) (k)) ro nx pi kp km (nI 0) T) 0 0) 128 1 ?_ ?_ (by decide)
        · skip
          iterate 2 refine hK _ _ _ _ _ _ (?_ : K _ _ _ _ _ _)
          refine hK _ _ _ _ _ _ (And.intro (fun _ => ?_) (fun c9 => absurd (nI_le (Nat.le_refl 128) (by decide)) c9))
          iterate 2 refine hK _ _ _ _ _ _ (?_ : K _ _ _ _ _ _)
          refine hK _ _ _ _ _ _ (r_callV rfl (fun _ => rfl) rfl (b0 rfl rfl rfl) (kX7_keep (s := (loS (P p) k9)) ht fl_RI hA (?_ : K _ _ _ _ _ _)))
          rw [cF_fb (s := (loS (P p) k9)) loS_0]
          exact hK _ _ _ _ _ _ (r_iret rfl rfl rfl rfl (mi hQ3 (fl_MI hA) hR))
        · intro k h0k hk ihk
          iterate 2 refine hK _ _ _ _ _ _ (?_ : K _ _ _ _ _ _)
          refine hK _ _ _ _ _ _ (And.intro (fun c9 => absurd c9 (nI_ge (by omega) (by decide))) (fun _ => ?_))
          iterate 1 refine hK _ _ _ _ _ _ (?_ : K _ _ _ _ _ _)
          refine hK _ _ _ _ _ _ (r_get rfl rfl rfl (?_ : K _ _ _ _ _ _))
          iterate 4 refine hK _ _ _ _ _ _ (?_ : K _ _ _ _ _ _)
          refine hK _ _ _ _ _ _ (r_callV rfl (fun _ => rfl) rfl (b0 rfl rfl rfl) (kX7_isThere (i := k) hA hp (by omega) (by omega) (?_ : K _ _ _ _ _ _)))
          refine hK _ _ _ _ _ _ (And.intro (fun c1 => ?_) (fun c1 => ?_))
          · skip
            iterate 1 refine hK _ _ _ _ _ _ (?_ : K _ _ _ _ _ _)
            refine hK _ _ _ _ _ _ (r_zastF (B := 0) (k := k) (s := (loS (P p) k9)) (N := 128) rfl (by rw [Nat.zero_add]) (nar_f (by rw [loS_at (by omega) (by omega), (b2i_0.mp c1)]; rfl)) (by omega) (by omega) (by decide) rfl (?_ : K _ _ _ _ _ _))
            show K _ _ _ (b, mW X A (fl 0 mk (loS (P p) k9) (k + 1)) ro nx pi kp km (nI 0) T) _ _
            iterate 2 refine hK _ _ _ _ _ _ (?_ : K _ _ _ _ _ _)
            rw [nI_add k 1]
            first | exact ihk | exact hW _ _ _ _ _ _ _ (by simp) ihk
          · skip
            iterate 1 refine hK _ _ _ _ _ _ (?_ : K _ _ _ _ _ _)
            refine hK _ _ _ _ _ _ (r_callS rfl (fun _ => rfl) (b0 rfl rfl rfl) (kX7_height (i := k) (by omega) (by omega) (?_ : K _ _ _ _ _ _)))
            iterate 1 refine hK _ _ _ _ _ _ (?_ : K _ _ _ _ _ _)
            refine hK _ _ _ _ _ _ (And.intro (fun c2 => ?_) (fun c2 => ?_))
            · skip
              iterate 1 refine hK _ _ _ _ _ _ (?_ : K _ _ _ _ _ _)
              refine hK _ _ _ _ _ _ (r_zastF (B := 0) (k := k) (s := (loS (P p) k9)) (N := 128) rfl (by rw [Nat.zero_add]) (nar_f (by rw [loS_at (by omega) (by omega), decide_eq_false (fun c9 => absurd c2 (nI_nlt c9 (by omega))), Bool.and_false])) (by omega) (by omega) (by decide) rfl (?_ : K _ _ _ _ _ _))
              show K _ _ _ (b, mW X A (fl 0 mk (loS (P p) k9) (k + 1)) ro nx pi kp km (nI 0) T) _ _
              iterate 2 refine hK _ _ _ _ _ _ (?_ : K _ _ _ _ _ _)
              rw [nI_add k 1]
              first | exact ihk | exact hW _ _ _ _ _ _ _ (by simp) ihk
            · skip
              iterate 2 refine hK _ _ _ _ _ _ (?_ : K _ _ _ _ _ _)
              refine hK _ _ _ _ _ _ (r_zastF (B := 0) (k := k) (s := (loS (P p) k9)) (N := 128) rfl (by rw [Nat.zero_add]) (nar_t (by rw [loS_at (by omega) (by omega), (Bool.of_not_eq_false fun c9 => c1 (b2i_0.mpr c9)), decide_eq_true (Nat.le_of_not_lt fun c9 => c2 (nI_lt c9 (by have := ht_7 (show k < 128 by omega); omega)))]; rfl)) (by omega) (by omega) (by decide) rfl (?_ : K _ _ _ _ _ _))
              show K _ _ _ (b, mW X A (fl 0 mk (loS (P p) k9) (k + 1)) ro nx pi kp km (nI 0) T) _ _
              iterate 2 refine hK _ _ _ _ _ _ (?_ : K _ _ _ _ _ _)
              rw [nI_add k 1]
              first | exact ihk | exact hW _ _ _ _ _ _ _ (by simp) ihk

section Mq2
variable {dv : Value} {cm : Nat → Nat} {Q : eQ} {b : Bool} {X : Nat → va_E} {A mk ro nx pi : Nat → Int32} {kp : Nat → Int64} {km : Int32} {T : List va_E} {x y : Int32} {k : Nat → Nat → Oc}
theorem mq_sw {t : Nat} (h : rng 0 6 y = some t) (hQ : mQ dv cm (oR 0 0 6 x fun p => oR 0 0 6 y (k p)) Q b X A ro T) : mQ dv cm (oR 0 0 6 x fun p => k p t) Q b X A ro T := by
  have e : (fun p => oR 0 0 6 y (k p)) = fun p => k p t := by funext p; exact oR_s h
  rw [e] at hQ; exact hQ
theorem mq_nn (h : rng 0 6 y = none) (hQ : mQ dv cm (oR 0 0 6 x fun p => oR 0 0 6 y (k p)) Q b X A ro T) : Q (.inl (some dv)) (b, mW X A mk ro nx pi kp km (nI (cm 0)) T) := by
  cases hx : rng 0 6 x with
  | none => exact mq_n hx hQ
  | some p => exact mq_n h (mq_s hx hQ)
end Mq2
set_option maxRecDepth 10000 in
/-- Model.about -/
theorem kX7_about {S : Nat × (Nat → Int32)} {d : Nat} {Q : eQ} {b : Bool} {X : Nat → va_E} {A mk ro nx pi : Nat → Int32} {kp : Nat → Int64} {km th : Int32} {T : List va_E} {P : Nat → Nat → Bool} {R : Nat → Bool} {x : Int32} {y : Int32} {r : Bool} {z : Int32} (hI : IvC P R) (hA : MI P A) (hR : RI R ro) (hQ : mQ (.int (nI 0)) cmA (o_about P R x y r z) Q b X A ro T) : okCall S MT (d + 4) nX7_about [.ref 24, .int x, .int y, .int (b2i r), .int z] (b, mW X A mk ro nx pi kp km th T) Q := by
  refine okc (M := MX7_about) rfl rfl fun K hK hW => ?_
  show K 0 [(0, .ref 24), (1, .int x), (2, .int y), (3, .int (b2i r)), (4, .int z)] [] (b, mW X A mk ro nx pi kp km th T) 0 0
  unfold o_about at hQ
  iterate 2 refine hK _ _ _ _ _ _ (?_ : K _ _ _ _ _ _)
  refine hK _ _ _ _ _ _ (r_callS rfl (fun _ => rfl) (b0 rfl rfl rfl) (kX7_isPlace (fun h9 => (?_ : K _ _ _ _ _ _)) (fun t _ ht hz h9 => (?_ : K _ _ _ _ _ _))))
  · skip
    refine hK _ _ _ _ _ _ (And.intro (fun _ => ?_) (fun c9 => absurd (rfl) c9))
    iterate 2 refine hK _ _ _ _ _ _ (?_ : K _ _ _ _ _ _)
    refine hK _ _ _ _ _ _ (r_callV rfl (fun _ => rfl) rfl (b0 rfl rfl rfl) (kw_n (n := 1) (by decide) (by decide) (?_ : K _ _ _ _ _ _)))
    refine hK _ _ _ _ _ _ (And.intro (fun c9 => absurd c9 (nI1_0)) (fun _ => ?_))
    iterate 1 refine hK _ _ _ _ _ _ (?_ : K _ _ _ _ _ _)
    exact hK _ _ _ _ _ _ (r_iret rfl rfl rfl rfl (mq_nn h9 hQ))
  · skip
    subst hz
    have hQ0 := mq_sw h9 hQ
    refine hK _ _ _ _ _ _ (And.intro (fun c9 => absurd c9 (nI1_0)) (fun _ => ?_))
    iterate 3 refine hK _ _ _ _ _ _ (?_ : K _ _ _ _ _ _)
    refine hK _ _ _ _ _ _ (r_callV rfl (fun _ => rfl) rfl (b0 rfl rfl rfl) (kX7_missing hA (fun h9 => (?_ : K _ _ _ _ _ _)) (fun p hp hx h9 h8 => (?_ : K _ _ _ _ _ _)) (fun p i hp hi1 hi hx hy h9 h8 hh => (?_ : K _ _ _ _ _ _)) (fun p i hp hi1 hi hx hy h9 h8 hh => (?_ : K _ _ _ _ _ _))))
    · skip
      refine hK _ _ _ _ _ _ (r_callV rfl (fun _ => rfl) rfl (b0 rfl rfl rfl) (kw_n (n := 1) (by decide) (by decide) (?_ : K _ _ _ _ _ _)))
      refine hK _ _ _ _ _ _ (And.intro (fun c9 => absurd c9 (nI1_0)) (fun _ => ?_))
      iterate 1 refine hK _ _ _ _ _ _ (?_ : K _ _ _ _ _ _)
      exact hK _ _ _ _ _ _ (r_iret rfl rfl rfl rfl (mq_n h9 hQ0))
    · skip
      subst hx
      refine hK _ _ _ _ _ _ (r_callV rfl (fun _ => rfl) rfl (b0 rfl rfl rfl) (kw_n (n := 2) (by decide) (by decide) (?_ : K _ _ _ _ _ _)))
      refine hK _ _ _ _ _ _ (And.intro (fun c9 => absurd c9 (nI1_0)) (fun _ => ?_))
      iterate 1 refine hK _ _ _ _ _ _ (?_ : K _ _ _ _ _ _)
      exact hK _ _ _ _ _ _ (r_iret rfl rfl rfl rfl (mq_n h8 (mq_s h9 hQ0)))
    · skip
      subst hx
      subst hy
      refine hK _ _ _ _ _ _ (r_callV rfl (fun _ => rfl) rfl (b0 rfl rfl rfl) (kw_n (n := 3) (by decide) (by decide) (?_ : K _ _ _ _ _ _)))
      refine hK _ _ _ _ _ _ (And.intro (fun c9 => absurd c9 (nI1_0)) (fun _ => ?_))
      iterate 1 refine hK _ _ _ _ _ _ (?_ : K _ _ _ _ _ _)
      exact hK _ _ _ _ _ _ (r_iret rfl rfl rfl rfl (mb_f hh (mq_s h8 (mq_s h9 hQ0))))
    · skip
      subst hx
      subst hy
      have hQ1 := mb_t hh (mq_s h8 (mq_s h9 hQ0))
      refine hK _ _ _ _ _ _ (r_callV rfl (fun _ => rfl) rfl (b0 rfl rfl rfl) (kw_0 (?_ : K _ _ _ _ _ _)))
      refine hK _ _ _ _ _ _ (And.intro (fun _ => ?_) (fun c9 => absurd (rfl) c9))
      iterate 2 refine hK _ _ _ _ _ _ (?_ : K _ _ _ _ _ _)
      have e0 := fl_1 0 mk (abS (P p) i r)
      rw [← e0]
      refine hW _ _ [(5, .int (nI (1))), (0, .ref 24), (1, .int (nI p)), (2, .int (nI i)), (3, .int (b2i r)), (4, .int (nI t))] _ _ _ _ (by simp) ?_
      refine up (P := fun k => K 30 [(5, .int (nI (k))), (0, .ref 24), (1, .int (nI p)), (2, .int (nI i)), (3, .int (b2i r)), (4, .int (nI t))] [] (b, mW X A (fl 0 mk (abS (P p) i r) (k)) ro nx pi kp km (nI 0) T) 0 0) 128 1 ?_ ?_ (by decide)
      · skip
        iterate 2 refine hK _ _ _ _ _ _ (?_ : K _ _ _ _ _ _)
        refine hK _ _ _ _ _ _ (And.intro (fun _ => ?_) (fun c9 => absurd (nI_le (Nat.le_refl 128) (by decide)) c9))
        iterate 2 refine hK _ _ _ _ _ _ (?_ : K _ _ _ _ _ _)
        refine hK _ _ _ _ _ _ (r_callV rfl (fun _ => rfl) rfl (b0 rfl rfl rfl) (kX7_keep (s := (abS (P p) i r)) ht fl_RI hA (?_ : K _ _ _ _ _ _)))
        rw [cF_fb (s := (abS (P p) i r)) ab_0]
        exact hK _ _ _ _ _ _ (r_iret rfl rfl rfl rfl (mi hQ1 (fl_MI hA) hR))
      · intro k h0k hk ihk
        iterate 2 refine hK _ _ _ _ _ _ (?_ : K _ _ _ _ _ _)
        refine hK _ _ _ _ _ _ (And.intro (fun c9 => absurd c9 (nI_ge (by omega) (by decide))) (fun _ => ?_))
        iterate 1 refine hK _ _ _ _ _ _ (?_ : K _ _ _ _ _ _)
        refine hK _ _ _ _ _ _ (r_get rfl rfl rfl (?_ : K _ _ _ _ _ _))
        iterate 6 refine hK _ _ _ _ _ _ (?_ : K _ _ _ _ _ _)
        refine hK _ _ _ _ _ _ (r_callV rfl (fun _ => rfl) rfl (b0 rfl rfl rfl) (okW (by rw [nx_or]) (kX7_isThere (i := k ||| i) hA hp (by have := isP_le (isP_o2 k i); omega) (or_128 (by omega) hi) (?_ : K _ _ _ _ _ _))))
        refine hK _ _ _ _ _ _ (And.intro (fun c1 => ?_) (fun c1 => ?_))
        · skip
          iterate 1 refine hK _ _ _ _ _ _ (?_ : K _ _ _ _ _ _)
          refine hK _ _ _ _ _ _ (r_zastF (B := 0) (k := k) (s := (abS (P p) i r)) (N := 128) rfl (by rw [Nat.zero_add]) (nar_f (by rw [ab_m (hI.1 p hp) (by omega) (by omega) hi, (b2i_0.mp c1)]; rfl)) (by omega) (by omega) (by decide) rfl (?_ : K _ _ _ _ _ _))
          show K _ _ _ (b, mW X A (fl 0 mk (abS (P p) i r) (k + 1)) ro nx pi kp km (nI 0) T) _ _
          iterate 2 refine hK _ _ _ _ _ _ (?_ : K _ _ _ _ _ _)
          rw [nI_add k 1]
          first | exact ihk | exact hW _ _ _ _ _ _ _ (by simp) ihk
        · skip
          iterate 1 refine hK _ _ _ _ _ _ (?_ : K _ _ _ _ _ _)
          refine hK _ _ _ _ _ _ (And.intro (fun c2 => ?_) (fun c2 => ?_))
          · skip
            iterate 2 refine hK _ _ _ _ _ _ (?_ : K _ _ _ _ _ _)
            refine hK _ _ _ _ _ _ (r_zastF (B := 0) (k := k) (s := (abS (P p) i r)) (N := 128) rfl (by rw [Nat.zero_add]) (nar_t (by rw [ab_m (hI.1 p hp) (by omega) (by omega) hi, (Bool.of_not_eq_false fun c9 => c1 (b2i_0.mpr c9)), (b2i_0.mp c2)]; rfl)) (by omega) (by omega) (by decide) rfl (?_ : K _ _ _ _ _ _))
            show K _ _ _ (b, mW X A (fl 0 mk (abS (P p) i r) (k + 1)) ro nx pi kp km (nI 0) T) _ _
            iterate 2 refine hK _ _ _ _ _ _ (?_ : K _ _ _ _ _ _)
            rw [nI_add k 1]
            first | exact ihk | exact hW _ _ _ _ _ _ _ (by simp) ihk
          · skip
            iterate 3 refine hK _ _ _ _ _ _ (?_ : K _ _ _ _ _ _)
            refine hK _ _ _ _ _ _ (And.intro (fun c3 => ?_) (fun c3 => ?_))
            · skip
              rw [nx_and] at c3
              iterate 2 refine hK _ _ _ _ _ _ (?_ : K _ _ _ _ _ _)
              refine hK _ _ _ _ _ _ (r_zastF (B := 0) (k := k) (s := (abS (P p) i r)) (N := 128) rfl (by rw [Nat.zero_add]) (nar_t (by rw [ab_m (hI.1 p hp) (by omega) (by omega) hi, (Bool.of_not_eq_false fun c9 => c1 (b2i_0.mpr c9)), (Bool.of_not_eq_false fun c9 => c2 (b2i_0.mpr c9)), (nI_z (Nat.lt_of_le_of_lt Nat.and_le_left (show k < 2 ^ 31 by omega))).mp c3]; rfl)) (by omega) (by omega) (by decide) rfl (?_ : K _ _ _ _ _ _))
              show K _ _ _ (b, mW X A (fl 0 mk (abS (P p) i r) (k + 1)) ro nx pi kp km (nI 0) T) _ _
              iterate 2 refine hK _ _ _ _ _ _ (?_ : K _ _ _ _ _ _)
              rw [nI_add k 1]
              first | exact ihk | exact hW _ _ _ _ _ _ _ (by simp) ihk
            · skip
              rw [nx_and] at c3
              iterate 1 refine hK _ _ _ _ _ _ (?_ : K _ _ _ _ _ _)
              refine hK _ _ _ _ _ _ (r_zastF (B := 0) (k := k) (s := (abS (P p) i r)) (N := 128) rfl (by rw [Nat.zero_add]) (nar_f (by rw [ab_m (hI.1 p hp) (by omega) (by omega) hi, (Bool.of_not_eq_false fun c9 => c1 (b2i_0.mpr c9)), (Bool.of_not_eq_false fun c9 => c2 (b2i_0.mpr c9)), beq_eq_false_iff_ne.mpr (fun c9 => c3 (by rw [c9]; rfl))]; rfl)) (by omega) (by omega) (by decide) rfl (?_ : K _ _ _ _ _ _))
              show K _ _ _ (b, mW X A (fl 0 mk (abS (P p) i r) (k + 1)) ro nx pi kp km (nI 0) T) _ _
              iterate 2 refine hK _ _ _ _ _ _ (?_ : K _ _ _ _ _ _)
              rw [nI_add k 1]
              first | exact ihk | exact hW _ _ _ _ _ _ _ (by simp) ihk

set_option maxRecDepth 10000 in
/-- Model.isLifted -/
theorem kX7_isLifted {S : Nat × (Nat → Int32)} {d : Nat} {Q : eQ} {b : Bool} {X : Nat → va_E} {A mk ro nx pi : Nat → Int32} {kp : Nat → Int64} {km th : Int32} {T : List va_E} {P : Nat → Nat → Bool} {p i c : Nat} (hA : MI P A) (hp : p < 6) (hi : i < 128) (hc : c < 7) (hQ : Q (.inl (some (.int (b2i (bic i (2 ^ c) == 0 || P p (bic i (2 ^ c))))))) (b, mW X A mk ro nx pi kp km th T)) : okCall S MT (d + 2) nX7_isLifted [.ref 24, .int (nI p), .int (nI i), .int (nI (2 ^ c))] (b, mW X A mk ro nx pi kp km th T) Q := by
  refine okc (M := MX7_isLifted) rfl rfl fun K hK hW => ?_
  show K 0 [(0, .ref 24), (1, .int (nI p)), (2, .int (nI i)), (3, .int (nI (2 ^ c)))] [] (b, mW X A mk ro nx pi kp km th T) 0 0
  iterate 6 refine hK _ _ _ _ _ _ (?_ : K _ _ _ _ _ _)
  rw [nI_bic i hi _ (pw_128 c hc)]
  iterate 1 refine hK _ _ _ _ _ _ (?_ : K _ _ _ _ _ _)
  refine hK _ _ _ _ _ _ (And.intro (fun c1 => ?_) (fun c1 => ?_))
  · skip
    iterate 2 refine hK _ _ _ _ _ _ (?_ : K _ _ _ _ _ _)
    have e1 : (bic i (2 ^ c) == 0 || P p (bic i (2 ^ c))) = true := by rw [(nI_z (Nat.lt_trans (bic_lt hi) (by decide))).mp c1]; rfl
    rw [e1] at hQ
    exact hK _ _ _ _ _ _ (r_iret rfl rfl rfl rfl hQ)
  · skip
    have hne : bic i (2 ^ c) ≠ 0 := fun c9 => c1 (by rw [c9]; rfl)
    iterate 3 refine hK _ _ _ _ _ _ (?_ : K _ _ _ _ _ _)
    refine hK _ _ _ _ _ _ (r_callV rfl (fun _ => rfl) rfl (b0 rfl rfl rfl) (kX7_isThere (i := bic i (2 ^ c)) hA hp (by omega) (bic_lt hi) (?_ : K _ _ _ _ _ _)))
    refine hK _ _ _ _ _ _ (And.intro (fun c2 => ?_) (fun c2 => ?_))
    · skip
      iterate 1 refine hK _ _ _ _ _ _ (?_ : K _ _ _ _ _ _)
      have e1 : (bic i (2 ^ c) == 0 || P p (bic i (2 ^ c))) = false := by rw [(beq_eq_false_iff_ne.mpr hne), (b2i_0.mp c2)]; rfl
      rw [e1] at hQ
      exact hK _ _ _ _ _ _ (r_iret rfl rfl rfl rfl hQ)
    · skip
      iterate 2 refine hK _ _ _ _ _ _ (?_ : K _ _ _ _ _ _)
      have e1 : (bic i (2 ^ c) == 0 || P p (bic i (2 ^ c))) = true := by rw [(Bool.of_not_eq_false fun c9 => c2 (b2i_0.mpr c9)), Bool.or_true]
      rw [e1] at hQ
      exact hK _ _ _ _ _ _ (r_iret rfl rfl rfl rfl hQ)

set_option maxRecDepth 10000 in
/-- Model.cone -/
theorem kX7_cone {S : Nat × (Nat → Int32)} {d : Nat} {Q : eQ} {b : Bool} {X : Nat → va_E} {A mk ro nx pi : Nat → Int32} {kp : Nat → Int64} {km th : Int32} {T : List va_E} {P : Nat → Nat → Bool} {R : Nat → Bool} {x : Int32} {y : Int32} {z : Int32} (hI : IvC P R) (hA : MI P A) (hR : RI R ro) (hQ : mQ (.int (nI 0)) cmA (o_cone P R x y z) Q b X A ro T) : okCall S MT (d + 4) nX7_cone [.ref 24, .int x, .int y, .int z] (b, mW X A mk ro nx pi kp km th T) Q := by
  refine okc (M := MX7_cone) rfl rfl fun K hK hW => ?_
  show K 0 [(0, .ref 24), (1, .int x), (2, .int y), (3, .int z)] [] (b, mW X A mk ro nx pi kp km th T) 0 0
  unfold o_cone at hQ
  iterate 2 refine hK _ _ _ _ _ _ (?_ : K _ _ _ _ _ _)
  refine hK _ _ _ _ _ _ (r_callS rfl (fun _ => rfl) (b0 rfl rfl rfl) (kX7_isPlace (fun h9 => (?_ : K _ _ _ _ _ _)) (fun p _ hp hx h9 => (?_ : K _ _ _ _ _ _))))
  · skip
    refine hK _ _ _ _ _ _ (And.intro (fun _ => ?_) (fun c9 => absurd (rfl) c9))
    iterate 2 refine hK _ _ _ _ _ _ (?_ : K _ _ _ _ _ _)
    refine hK _ _ _ _ _ _ (r_callV rfl (fun _ => rfl) rfl (b0 rfl rfl rfl) (kw_n (n := 1) (by decide) (by decide) (?_ : K _ _ _ _ _ _)))
    refine hK _ _ _ _ _ _ (And.intro (fun c9 => absurd c9 (nI1_0)) (fun _ => ?_))
    iterate 1 refine hK _ _ _ _ _ _ (?_ : K _ _ _ _ _ _)
    exact hK _ _ _ _ _ _ (r_iret rfl rfl rfl rfl (mq_n h9 hQ))
  · skip
    subst hx
    have hQ1 := mq_s h9 hQ
    refine hK _ _ _ _ _ _ (And.intro (fun c9 => absurd c9 (nI1_0)) (fun _ => ?_))
    iterate 1 refine hK _ _ _ _ _ _ (?_ : K _ _ _ _ _ _)
    refine hK _ _ _ _ _ _ (r_callS rfl (fun _ => rfl) (b0 rfl rfl rfl) (kX7_isPlace (fun h9 => (?_ : K _ _ _ _ _ _)) (fun t _ ht hx h9 => (?_ : K _ _ _ _ _ _))))
    · skip
      refine hK _ _ _ _ _ _ (And.intro (fun _ => ?_) (fun c9 => absurd (rfl) c9))
      iterate 2 refine hK _ _ _ _ _ _ (?_ : K _ _ _ _ _ _)
      refine hK _ _ _ _ _ _ (r_callV rfl (fun _ => rfl) rfl (b0 rfl rfl rfl) (kw_n (n := 1) (by decide) (by decide) (?_ : K _ _ _ _ _ _)))
      refine hK _ _ _ _ _ _ (And.intro (fun c9 => absurd c9 (nI1_0)) (fun _ => ?_))
      iterate 1 refine hK _ _ _ _ _ _ (?_ : K _ _ _ _ _ _)
      exact hK _ _ _ _ _ _ (r_iret rfl rfl rfl rfl (mq_n h9 hQ1))
    · skip
      subst hx
      have hQ2 := mq_s h9 hQ1
      refine hK _ _ _ _ _ _ (And.intro (fun c9 => absurd c9 (nI1_0)) (fun _ => ?_))
      iterate 1 refine hK _ _ _ _ _ _ (?_ : K _ _ _ _ _ _)
      refine hK _ _ _ _ _ _ (r_callS rfl (fun _ => rfl) (b0 rfl rfl rfl) (kX7_isCorner (fun h9 => (?_ : K _ _ _ _ _ _)) (fun c _ hc hx h9 => (?_ : K _ _ _ _ _ _))))
      · skip
        refine hK _ _ _ _ _ _ (And.intro (fun _ => ?_) (fun c9 => absurd (rfl) c9))
        iterate 2 refine hK _ _ _ _ _ _ (?_ : K _ _ _ _ _ _)
        refine hK _ _ _ _ _ _ (r_callV rfl (fun _ => rfl) rfl (b0 rfl rfl rfl) (kw_n (n := 2) (by decide) (by decide) (?_ : K _ _ _ _ _ _)))
        refine hK _ _ _ _ _ _ (And.intro (fun c9 => absurd c9 (nI1_0)) (fun _ => ?_))
        iterate 1 refine hK _ _ _ _ _ _ (?_ : K _ _ _ _ _ _)
        exact hK _ _ _ _ _ _ (r_iret rfl rfl rfl rfl (mq_n h9 hQ2))
      · skip
        subst hx
        have hQ3 := mq_s h9 hQ2
        refine hK _ _ _ _ _ _ (And.intro (fun c9 => absurd c9 (nI1_0)) (fun _ => ?_))
        iterate 2 refine hK _ _ _ _ _ _ (?_ : K _ _ _ _ _ _)
        refine hK _ _ _ _ _ _ (r_callV rfl (fun _ => rfl) rfl (b0 rfl rfl rfl) (kX7_cornersAt hA hp (?_ : K _ _ _ _ _ _)))
        iterate 5 refine hK _ _ _ _ _ _ (?_ : K _ _ _ _ _ _)
        refine hK _ _ _ _ _ _ (And.intro (fun z1 => ?_) (fun z1 => ?_))
        · skip
          rw [cb_ok c hc _ (orF_lt _ 128 (Nat.le_refl _)), b2i_1, orF_s (hI.1 p hp) hc] at z1
          iterate 2 refine hK _ _ _ _ _ _ (?_ : K _ _ _ _ _ _)
          refine hK _ _ _ _ _ _ (r_callV rfl (fun _ => rfl) rfl (b0 rfl rfl rfl) (kw_n (n := 3) (by decide) (by decide) (?_ : K _ _ _ _ _ _)))
          refine hK _ _ _ _ _ _ (And.intro (fun c9 => absurd c9 (nI1_0)) (fun _ => ?_))
          iterate 1 refine hK _ _ _ _ _ _ (?_ : K _ _ _ _ _ _)
          exact hK _ _ _ _ _ _ (r_iret rfl rfl rfl rfl (mb_f (by rw [z1]; rfl) hQ3))
        · skip
          rw [cb_ok c hc _ (orF_lt _ 128 (Nat.le_refl _)), b2i_1, orF_s (hI.1 p hp) hc, Bool.not_eq_true] at z1
          have hQ4 := mb_t (by rw [z1]; rfl) hQ3
          iterate 1 refine hK _ _ _ _ _ _ (?_ : K _ _ _ _ _ _)
          refine hK _ _ _ _ _ _ (r_callV rfl (fun _ => rfl) rfl (b0 rfl rfl rfl) (kw_0 (?_ : K _ _ _ _ _ _)))
          refine hK _ _ _ _ _ _ (And.intro (fun _ => ?_) (fun c9 => absurd (rfl) c9))
          iterate 2 refine hK _ _ _ _ _ _ (?_ : K _ _ _ _ _ _)
          have e0 := fl_1 0 mk (coneS (P p) (2 ^ c))
          rw [← e0]
          refine hW _ _ [(4, .int (nI (1))), (0, .ref 24), (1, .int (nI p)), (2, .int (nI c)), (3, .int (nI t))] _ _ _ _ (by simp) ?_
          refine up (P := fun k => K 59 [(4, .int (nI (k))), (0, .ref 24), (1, .int (nI p)), (2, .int (nI c)), (3, .int (nI t))] [] (b, mW X A (fl 0 mk (coneS (P p) (2 ^ c)) (k)) ro nx pi kp km (nI 0) T) 0 0) 128 1 ?_ ?_ (by decide)
          · skip
            iterate 2 refine hK _ _ _ _ _ _ (?_ : K _ _ _ _ _ _)
            refine hK _ _ _ _ _ _ (And.intro (fun _ => ?_) (fun c9 => absurd (nI_le (Nat.le_refl 128) (by decide)) c9))
            iterate 2 refine hK _ _ _ _ _ _ (?_ : K _ _ _ _ _ _)
            refine hK _ _ _ _ _ _ (r_callV rfl (fun _ => rfl) rfl (b0 rfl rfl rfl) (kX7_keep (s := (coneS (P p) (2 ^ c))) ht fl_RI hA (?_ : K _ _ _ _ _ _)))
            rw [cF_fb (s := (coneS (P p) (2 ^ c))) (cone_S (hI.1 p hp) hc).1]
            exact hK _ _ _ _ _ _ (r_iret rfl rfl rfl rfl (mi hQ4 (fl_MI hA) hR))
          · intro k h0k hk ihk
            iterate 2 refine hK _ _ _ _ _ _ (?_ : K _ _ _ _ _ _)
            refine hK _ _ _ _ _ _ (And.intro (fun c9 => absurd c9 (nI_ge (by omega) (by decide))) (fun _ => ?_))
            iterate 1 refine hK _ _ _ _ _ _ (?_ : K _ _ _ _ _ _)
            refine hK _ _ _ _ _ _ (r_get rfl rfl rfl (?_ : K _ _ _ _ _ _))
            iterate 7 refine hK _ _ _ _ _ _ (?_ : K _ _ _ _ _ _)
            refine hK _ _ _ _ _ _ (r_callV rfl (fun _ => rfl) rfl (b0 rfl rfl rfl) (okW (by rw [sh1 c hc]) (kX7_isLifted (i := k) hA hp (by omega) hc (?_ : K _ _ _ _ _ _))))
            refine hK _ _ _ _ _ _ (r_zastF (B := 0) (k := k) (s := (coneS (P p) (2 ^ c))) (N := 128) rfl (by rw [Nat.zero_add]) (by rw [cone_m (hI.1 p hp) hc (by omega) (by omega)]; exact nar_b _) (by omega) (by omega) (by decide) rfl (?_ : K _ _ _ _ _ _))
            show K _ _ _ (b, mW X A (fl 0 mk (coneS (P p) (2 ^ c)) (k + 1)) ro nx pi kp km (nI 0) T) _ _
            iterate 2 refine hK _ _ _ _ _ _ (?_ : K _ _ _ _ _ _)
            rw [nI_add k 1]
            first | exact ihk | exact hW _ _ _ _ _ _ _ (by simp) ihk

theorem lf_t (n : Nat) (c d : Nat) : nI (2 ^ c ||| 2 ^ d) = nI (2 ^ c) ||| nI (2 ^ d) := (nx_or _ _).symm
theorem lf_0 {a c d : Nat} (ha : a < 128) (hc : c < 7) (hd : d < 7) : nI a &&& (nI (2 ^ c) ||| nI (2 ^ d)) = 0 ↔ a.testBit c = false ∧ a.testBit d = false := by
  rw [nx_or, nx_and, nI_z (Nat.lt_of_le_of_lt Nat.and_le_left (by omega))]
  constructor
  · intro h
    have h1 := fun i => congrArg (fun x => Nat.testBit x i) h
    have h2 := h1 c
    have h3 := h1 d
    simp only [Nat.testBit_and, Nat.testBit_or, Nat.zero_testBit, Nat.testBit_two_pow_self, Bool.true_or, Bool.or_true, Bool.and_true] at h2 h3
    exact ⟨h2, h3⟩
  · rintro ⟨h1, h2⟩
    refine Nat.eq_of_testBit_eq fun i => ?_
    rw [Nat.testBit_and, Nat.testBit_or, Nat.testBit_two_pow, Nat.testBit_two_pow, Nat.zero_testBit]
    by_cases e : c = i
    · subst e; rw [h1]; rfl
    · by_cases e2 : d = i
      · subst e2; rw [h2]; rfl
      · rw [decide_eq_false e, decide_eq_false e2]; simp
set_option maxRecDepth 10000 in
/-- Model.lift -/
theorem kX7_lift {S : Nat × (Nat → Int32)} {d : Nat} {Q : eQ} {b : Bool} {X : Nat → va_E} {A mk ro nx pi : Nat → Int32} {kp : Nat → Int64} {km th : Int32} {T : List va_E} {P : Nat → Nat → Bool} {R : Nat → Bool} {x : Int32} {y : Int32} {z : Int32} {s : Int32} (hI : IvC P R) (hA : MI P A) (hR : RI R ro) (hQ : mQ (.int (nI 0)) cmA (o_lift P R x y z s) Q b X A ro T) : okCall S MT (d + 4) nX7_lift [.ref 24, .int x, .int y, .int z, .int s] (b, mW X A mk ro nx pi kp km th T) Q := by
  refine okc (M := MX7_lift) rfl rfl fun K hK hW => ?_
  show K 0 [(0, .ref 24), (1, .int x), (2, .int y), (3, .int z), (4, .int s)] [] (b, mW X A mk ro nx pi kp km th T) 0 0
  unfold o_lift at hQ
  iterate 1 refine hK _ _ _ _ _ _ (?_ : K _ _ _ _ _ _)
  refine hK _ _ _ _ _ _ (r_callS rfl (fun _ => rfl) (b0 rfl rfl rfl) (kX7_isCorner (fun hC => (?_ : K _ _ _ _ _ _)) (fun c _ hc hx hC => (?_ : K _ _ _ _ _ _))))
  · skip
    refine hK _ _ _ _ _ _ (And.intro (fun _ => ?_) (fun c9 => absurd (rfl) c9))
    iterate 4 refine hK _ _ _ _ _ _ (?_ : K _ _ _ _ _ _)
    refine hK _ _ _ _ _ _ (r_callS rfl (fun _ => rfl) (b0 rfl rfl rfl) (kX7_isPlace (fun h9 => (?_ : K _ _ _ _ _ _)) (fun p _ hp hx h9 => (?_ : K _ _ _ _ _ _))))
    · skip
      refine hK _ _ _ _ _ _ (And.intro (fun _ => ?_) (fun c9 => absurd (rfl) c9))
      iterate 2 refine hK _ _ _ _ _ _ (?_ : K _ _ _ _ _ _)
      refine hK _ _ _ _ _ _ (r_callV rfl (fun _ => rfl) rfl (b0 rfl rfl rfl) (kw_n (n := 1) (by decide) (by decide) (?_ : K _ _ _ _ _ _)))
      refine hK _ _ _ _ _ _ (And.intro (fun c9 => absurd c9 (nI1_0)) (fun _ => ?_))
      iterate 1 refine hK _ _ _ _ _ _ (?_ : K _ _ _ _ _ _)
      exact hK _ _ _ _ _ _ (r_iret rfl rfl rfl rfl (mq_n h9 hQ))
    · skip
      subst hx
      have hQ1 := mq_s h9 hQ
      refine hK _ _ _ _ _ _ (And.intro (fun c9 => absurd c9 (nI1_0)) (fun _ => ?_))
      iterate 1 refine hK _ _ _ _ _ _ (?_ : K _ _ _ _ _ _)
      refine hK _ _ _ _ _ _ (r_callS rfl (fun _ => rfl) (b0 rfl rfl rfl) (kX7_isPlace (fun h9 => (?_ : K _ _ _ _ _ _)) (fun t _ ht hx h9 => (?_ : K _ _ _ _ _ _))))
      · skip
        refine hK _ _ _ _ _ _ (And.intro (fun _ => ?_) (fun c9 => absurd (rfl) c9))
        iterate 2 refine hK _ _ _ _ _ _ (?_ : K _ _ _ _ _ _)
        refine hK _ _ _ _ _ _ (r_callV rfl (fun _ => rfl) rfl (b0 rfl rfl rfl) (kw_n (n := 1) (by decide) (by decide) (?_ : K _ _ _ _ _ _)))
        refine hK _ _ _ _ _ _ (And.intro (fun c9 => absurd c9 (nI1_0)) (fun _ => ?_))
        iterate 1 refine hK _ _ _ _ _ _ (?_ : K _ _ _ _ _ _)
        exact hK _ _ _ _ _ _ (r_iret rfl rfl rfl rfl (mq_n h9 hQ1))
      · skip
        subst hx
        have hQ2 := mq_s h9 hQ1
        refine hK _ _ _ _ _ _ (And.intro (fun c9 => absurd c9 (nI1_0)) (fun _ => ?_))
        iterate 1 refine hK _ _ _ _ _ _ (?_ : K _ _ _ _ _ _)
        refine hK _ _ _ _ _ _ (And.intro (fun _ => ?_) (fun c9 => absurd (rfl) c9))
        iterate 2 refine hK _ _ _ _ _ _ (?_ : K _ _ _ _ _ _)
        refine hK _ _ _ _ _ _ (r_callV rfl (fun _ => rfl) rfl (b0 rfl rfl rfl) (kw_n (n := 2) (by decide) (by decide) (?_ : K _ _ _ _ _ _)))
        refine hK _ _ _ _ _ _ (And.intro (fun c9 => absurd c9 (nI1_0)) (fun _ => ?_))
        iterate 1 refine hK _ _ _ _ _ _ (?_ : K _ _ _ _ _ _)
        exact hK _ _ _ _ _ _ (r_iret rfl rfl rfl rfl (mq_n hC hQ2))
  · skip
    subst hx
    refine hK _ _ _ _ _ _ (And.intro (fun c9 => absurd c9 (nI1_0)) (fun _ => ?_))
    iterate 1 refine hK _ _ _ _ _ _ (?_ : K _ _ _ _ _ _)
    refine hK _ _ _ _ _ _ (r_callS rfl (fun _ => rfl) (b0 rfl rfl rfl) (kX7_isCorner (fun hD => (?_ : K _ _ _ _ _ _)) (fun d _ hd hx hD => (?_ : K _ _ _ _ _ _))))
    · skip
      refine hK _ _ _ _ _ _ (And.intro (fun _ => ?_) (fun c9 => absurd (rfl) c9))
      iterate 4 refine hK _ _ _ _ _ _ (?_ : K _ _ _ _ _ _)
      refine hK _ _ _ _ _ _ (r_callS rfl (fun _ => rfl) (b0 rfl rfl rfl) (kX7_isPlace (fun h9 => (?_ : K _ _ _ _ _ _)) (fun p _ hp hx h9 => (?_ : K _ _ _ _ _ _))))
      · skip
        refine hK _ _ _ _ _ _ (And.intro (fun _ => ?_) (fun c9 => absurd (rfl) c9))
        iterate 2 refine hK _ _ _ _ _ _ (?_ : K _ _ _ _ _ _)
        refine hK _ _ _ _ _ _ (r_callV rfl (fun _ => rfl) rfl (b0 rfl rfl rfl) (kw_n (n := 1) (by decide) (by decide) (?_ : K _ _ _ _ _ _)))
        refine hK _ _ _ _ _ _ (And.intro (fun c9 => absurd c9 (nI1_0)) (fun _ => ?_))
        iterate 1 refine hK _ _ _ _ _ _ (?_ : K _ _ _ _ _ _)
        exact hK _ _ _ _ _ _ (r_iret rfl rfl rfl rfl (mq_n h9 hQ))
      · skip
        subst hx
        have hQ1 := mq_s h9 hQ
        refine hK _ _ _ _ _ _ (And.intro (fun c9 => absurd c9 (nI1_0)) (fun _ => ?_))
        iterate 1 refine hK _ _ _ _ _ _ (?_ : K _ _ _ _ _ _)
        refine hK _ _ _ _ _ _ (r_callS rfl (fun _ => rfl) (b0 rfl rfl rfl) (kX7_isPlace (fun h9 => (?_ : K _ _ _ _ _ _)) (fun t _ ht hx h9 => (?_ : K _ _ _ _ _ _))))
        · skip
          refine hK _ _ _ _ _ _ (And.intro (fun _ => ?_) (fun c9 => absurd (rfl) c9))
          iterate 2 refine hK _ _ _ _ _ _ (?_ : K _ _ _ _ _ _)
          refine hK _ _ _ _ _ _ (r_callV rfl (fun _ => rfl) rfl (b0 rfl rfl rfl) (kw_n (n := 1) (by decide) (by decide) (?_ : K _ _ _ _ _ _)))
          refine hK _ _ _ _ _ _ (And.intro (fun c9 => absurd c9 (nI1_0)) (fun _ => ?_))
          iterate 1 refine hK _ _ _ _ _ _ (?_ : K _ _ _ _ _ _)
          exact hK _ _ _ _ _ _ (r_iret rfl rfl rfl rfl (mq_n h9 hQ1))
        · skip
          subst hx
          have hQ2 := mq_s h9 hQ1
          refine hK _ _ _ _ _ _ (And.intro (fun c9 => absurd c9 (nI1_0)) (fun _ => ?_))
          iterate 1 refine hK _ _ _ _ _ _ (?_ : K _ _ _ _ _ _)
          refine hK _ _ _ _ _ _ (And.intro (fun _ => ?_) (fun c9 => absurd (rfl) c9))
          iterate 2 refine hK _ _ _ _ _ _ (?_ : K _ _ _ _ _ _)
          refine hK _ _ _ _ _ _ (r_callV rfl (fun _ => rfl) rfl (b0 rfl rfl rfl) (kw_n (n := 2) (by decide) (by decide) (?_ : K _ _ _ _ _ _)))
          refine hK _ _ _ _ _ _ (And.intro (fun c9 => absurd c9 (nI1_0)) (fun _ => ?_))
          iterate 1 refine hK _ _ _ _ _ _ (?_ : K _ _ _ _ _ _)
          exact hK _ _ _ _ _ _ (r_iret rfl rfl rfl rfl (mq_n hD (mq_s hC hQ2)))
    · skip
      subst hx
      refine hK _ _ _ _ _ _ (And.intro (fun c9 => absurd c9 (nI1_0)) (fun _ => ?_))
      iterate 2 refine hK _ _ _ _ _ _ (?_ : K _ _ _ _ _ _)
      refine hK _ _ _ _ _ _ (And.intro (fun c0 => ?_) (fun c0 => ?_))
      · skip
        have hcd : c = d := (nI_eq (by omega) (by omega)).mp c0
        subst hcd
        iterate 4 refine hK _ _ _ _ _ _ (?_ : K _ _ _ _ _ _)
        refine hK _ _ _ _ _ _ (r_callS rfl (fun _ => rfl) (b0 rfl rfl rfl) (kX7_isPlace (fun h9 => (?_ : K _ _ _ _ _ _)) (fun p _ hp hx h9 => (?_ : K _ _ _ _ _ _))))
        · skip
          refine hK _ _ _ _ _ _ (And.intro (fun _ => ?_) (fun c9 => absurd (rfl) c9))
          iterate 2 refine hK _ _ _ _ _ _ (?_ : K _ _ _ _ _ _)
          refine hK _ _ _ _ _ _ (r_callV rfl (fun _ => rfl) rfl (b0 rfl rfl rfl) (kw_n (n := 1) (by decide) (by decide) (?_ : K _ _ _ _ _ _)))
          refine hK _ _ _ _ _ _ (And.intro (fun c9 => absurd c9 (nI1_0)) (fun _ => ?_))
          iterate 1 refine hK _ _ _ _ _ _ (?_ : K _ _ _ _ _ _)
          exact hK _ _ _ _ _ _ (r_iret rfl rfl rfl rfl (mq_n h9 hQ))
        · skip
          subst hx
          have hQ1 := mq_s h9 hQ
          refine hK _ _ _ _ _ _ (And.intro (fun c9 => absurd c9 (nI1_0)) (fun _ => ?_))
          iterate 1 refine hK _ _ _ _ _ _ (?_ : K _ _ _ _ _ _)
          refine hK _ _ _ _ _ _ (r_callS rfl (fun _ => rfl) (b0 rfl rfl rfl) (kX7_isPlace (fun h9 => (?_ : K _ _ _ _ _ _)) (fun t _ ht hx h9 => (?_ : K _ _ _ _ _ _))))
          · skip
            refine hK _ _ _ _ _ _ (And.intro (fun _ => ?_) (fun c9 => absurd (rfl) c9))
            iterate 2 refine hK _ _ _ _ _ _ (?_ : K _ _ _ _ _ _)
            refine hK _ _ _ _ _ _ (r_callV rfl (fun _ => rfl) rfl (b0 rfl rfl rfl) (kw_n (n := 1) (by decide) (by decide) (?_ : K _ _ _ _ _ _)))
            refine hK _ _ _ _ _ _ (And.intro (fun c9 => absurd c9 (nI1_0)) (fun _ => ?_))
            iterate 1 refine hK _ _ _ _ _ _ (?_ : K _ _ _ _ _ _)
            exact hK _ _ _ _ _ _ (r_iret rfl rfl rfl rfl (mq_n h9 hQ1))
          · skip
            subst hx
            have hQ2 := mq_s h9 hQ1
            refine hK _ _ _ _ _ _ (And.intro (fun c9 => absurd c9 (nI1_0)) (fun _ => ?_))
            iterate 1 refine hK _ _ _ _ _ _ (?_ : K _ _ _ _ _ _)
            refine hK _ _ _ _ _ _ (And.intro (fun _ => ?_) (fun c9 => absurd (rfl) c9))
            iterate 2 refine hK _ _ _ _ _ _ (?_ : K _ _ _ _ _ _)
            refine hK _ _ _ _ _ _ (r_callV rfl (fun _ => rfl) rfl (b0 rfl rfl rfl) (kw_n (n := 2) (by decide) (by decide) (?_ : K _ _ _ _ _ _)))
            refine hK _ _ _ _ _ _ (And.intro (fun c9 => absurd c9 (nI1_0)) (fun _ => ?_))
            iterate 1 refine hK _ _ _ _ _ _ (?_ : K _ _ _ _ _ _)
            exact hK _ _ _ _ _ _ (r_iret rfl rfl rfl rfl (mb_f (by rw [beq_self_eq_true]; rfl) (mq_s hD (mq_s hC hQ2))))
      · skip
        have hcd : c ≠ d := fun c9 => c0 (by rw [c9])
        iterate 5 refine hK _ _ _ _ _ _ (?_ : K _ _ _ _ _ _)
        refine hK _ _ _ _ _ _ (r_callS rfl (fun _ => rfl) (b0 rfl rfl rfl) (kX7_isPlace (fun h9 => (?_ : K _ _ _ _ _ _)) (fun p _ hp hx h9 => (?_ : K _ _ _ _ _ _))))
        · skip
          refine hK _ _ _ _ _ _ (And.intro (fun _ => ?_) (fun c9 => absurd (rfl) c9))
          iterate 2 refine hK _ _ _ _ _ _ (?_ : K _ _ _ _ _ _)
          refine hK _ _ _ _ _ _ (r_callV rfl (fun _ => rfl) rfl (b0 rfl rfl rfl) (kw_n (n := 1) (by decide) (by decide) (?_ : K _ _ _ _ _ _)))
          refine hK _ _ _ _ _ _ (And.intro (fun c9 => absurd c9 (nI1_0)) (fun _ => ?_))
          iterate 1 refine hK _ _ _ _ _ _ (?_ : K _ _ _ _ _ _)
          exact hK _ _ _ _ _ _ (r_iret rfl rfl rfl rfl (mq_n h9 hQ))
        · skip
          subst hx
          have hQ1 := mq_s h9 hQ
          refine hK _ _ _ _ _ _ (And.intro (fun c9 => absurd c9 (nI1_0)) (fun _ => ?_))
          iterate 1 refine hK _ _ _ _ _ _ (?_ : K _ _ _ _ _ _)
          refine hK _ _ _ _ _ _ (r_callS rfl (fun _ => rfl) (b0 rfl rfl rfl) (kX7_isPlace (fun h9 => (?_ : K _ _ _ _ _ _)) (fun t _ ht hx h9 => (?_ : K _ _ _ _ _ _))))
          · skip
            refine hK _ _ _ _ _ _ (And.intro (fun _ => ?_) (fun c9 => absurd (rfl) c9))
            iterate 2 refine hK _ _ _ _ _ _ (?_ : K _ _ _ _ _ _)
            refine hK _ _ _ _ _ _ (r_callV rfl (fun _ => rfl) rfl (b0 rfl rfl rfl) (kw_n (n := 1) (by decide) (by decide) (?_ : K _ _ _ _ _ _)))
            refine hK _ _ _ _ _ _ (And.intro (fun c9 => absurd c9 (nI1_0)) (fun _ => ?_))
            iterate 1 refine hK _ _ _ _ _ _ (?_ : K _ _ _ _ _ _)
            exact hK _ _ _ _ _ _ (r_iret rfl rfl rfl rfl (mq_n h9 hQ1))
          · skip
            subst hx
            have hQ2 := mq_s h9 hQ1
            refine hK _ _ _ _ _ _ (And.intro (fun c9 => absurd c9 (nI1_0)) (fun _ => ?_))
            iterate 1 refine hK _ _ _ _ _ _ (?_ : K _ _ _ _ _ _)
            refine hK _ _ _ _ _ _ (And.intro (fun c9 => absurd c9 (nI1_0)) (fun _ => ?_))
            iterate 2 refine hK _ _ _ _ _ _ (?_ : K _ _ _ _ _ _)
            refine hK _ _ _ _ _ _ (r_callV rfl (fun _ => rfl) rfl (b0 rfl rfl rfl) (kX7_cornersAt hA hp (?_ : K _ _ _ _ _ _)))
            iterate 8 refine hK _ _ _ _ _ _ (?_ : K _ _ _ _ _ _)
            refine hK _ _ _ _ _ _ (And.intro (fun c1 => ?_) (fun c1 => ?_))
            · skip
              rw [sh1 c hc, sh1 d hd, lf_0 (orF_lt _ 128 (Nat.le_refl _)) hc hd, orF_s (hI.1 p hp) hc, orF_s (hI.1 p hp) hd] at c1
              have hQ7 := mb_t (by rw [c1.2]; rfl) (mb_t (by rw [c1.1]; rfl) (mb_t (by rw [beq_eq_false_iff_ne.mpr hcd]; rfl) (mq_s hD (mq_s hC hQ2))))
              iterate 1 refine hK _ _ _ _ _ _ (?_ : K _ _ _ _ _ _)
              refine hK _ _ _ _ _ _ (r_callV rfl (fun _ => rfl) rfl (b0 rfl rfl rfl) (kw_0 (?_ : K _ _ _ _ _ _)))
              refine hK _ _ _ _ _ _ (And.intro (fun _ => ?_) (fun c9 => absurd (rfl) c9))
              iterate 8 refine hK _ _ _ _ _ _ (?_ : K _ _ _ _ _ _)
              have e8 : nI 1 <<< (nI c &&& 31) = nI (2 ^ c) := sh1 c hc
              have e7 : nI 1 <<< (nI d &&& 31) = nI (2 ^ d) := sh1 d hd
              rw [e8, e7]
              iterate 2 refine hK _ _ _ _ _ _ (?_ : K _ _ _ _ _ _)
              have e0 := fl_1 0 mk (liftS (P p) (2 ^ c) (2 ^ d))
              rw [← e0]
              refine hW _ _ [(8, .int (nI (1))), (6, .int (nI (2 ^ c))), (7, .int (nI (2 ^ d))), (0, .ref 24), (1, .int (nI p)), (4, .int (nI t))] _ _ _ _ (by simp) ?_
              refine up (P := fun k => K 97 [(8, .int (nI (k))), (6, .int (nI (2 ^ c))), (7, .int (nI (2 ^ d))), (0, .ref 24), (1, .int (nI p)), (4, .int (nI t))] [] (b, mW X A (fl 0 mk (liftS (P p) (2 ^ c) (2 ^ d)) (k)) ro nx pi kp km (nI 0) T) 0 0) 128 1 ?_ ?_ (by decide)
              · skip
                iterate 2 refine hK _ _ _ _ _ _ (?_ : K _ _ _ _ _ _)
                refine hK _ _ _ _ _ _ (And.intro (fun _ => ?_) (fun c9 => absurd (nI_le (Nat.le_refl 128) (by decide)) c9))
                iterate 2 refine hK _ _ _ _ _ _ (?_ : K _ _ _ _ _ _)
                refine hK _ _ _ _ _ _ (r_callV rfl (fun _ => rfl) rfl (b0 rfl rfl rfl) (kX7_keep (s := (liftS (P p) (2 ^ c) (2 ^ d))) ht fl_RI hA (?_ : K _ _ _ _ _ _)))
                rw [cF_fb (s := (liftS (P p) (2 ^ c) (2 ^ d))) (lift_S (hI.1 p hp) hc hd).1]
                exact hK _ _ _ _ _ _ (r_iret rfl rfl rfl rfl (mi hQ7 (fl_MI hA) hR))
              · intro k h0k hk ihk
                iterate 2 refine hK _ _ _ _ _ _ (?_ : K _ _ _ _ _ _)
                refine hK _ _ _ _ _ _ (And.intro (fun c9 => absurd c9 (nI_ge (by omega) (by decide))) (fun _ => ?_))
                iterate 1 refine hK _ _ _ _ _ _ (?_ : K _ _ _ _ _ _)
                refine hK _ _ _ _ _ _ (r_get rfl rfl rfl (?_ : K _ _ _ _ _ _))
                iterate 5 refine hK _ _ _ _ _ _ (?_ : K _ _ _ _ _ _)
                refine hK _ _ _ _ _ _ (r_callS rfl (fun _ => rfl) (b0 rfl rfl rfl) (okW (by rw [nx_or]) (kX7_isPart (i := 2 ^ c ||| 2 ^ d) (or_128 (pw_128 c hc) (pw_128 d hd)) (?_ : K _ _ _ _ _ _))))
                refine hK _ _ _ _ _ _ (And.intro (fun c2 => ?_) (fun c2 => ?_))
                · skip
                  iterate 5 refine hK _ _ _ _ _ _ (?_ : K _ _ _ _ _ _)
                  refine hK _ _ _ _ _ _ (r_callS rfl (fun _ => rfl) (b0 rfl rfl rfl) (kX7_isPart (i := 2 ^ c) (pw_128 c hc) (?_ : K _ _ _ _ _ _)))
                  refine hK _ _ _ _ _ _ (And.intro (fun c3 => ?_) (fun c3 => ?_))
                  · skip
                    iterate 1 refine hK _ _ _ _ _ _ (?_ : K _ _ _ _ _ _)
                    refine hK _ _ _ _ _ _ (r_callV rfl (fun _ => rfl) rfl (b0 rfl rfl rfl) (kX7_isLifted (i := k) (c := d) hA hp (by omega) hd (?_ : K _ _ _ _ _ _)))
                    refine hK _ _ _ _ _ _ (And.intro (fun c4 => ?_) (fun c4 => ?_))
                    · skip
                      iterate 1 refine hK _ _ _ _ _ _ (?_ : K _ _ _ _ _ _)
                      refine hK _ _ _ _ _ _ (r_zastF (B := 0) (k := k) (s := (liftS (P p) (2 ^ c) (2 ^ d))) (N := 128) rfl (by rw [Nat.zero_add]) (nar_f (by rw [lift_m (hI.1 p hp) hc hd c1.1 c1.2 hcd (by omega) (by omega), (b2i_0.mp c2), (b2i_0.mp c3)]; exact (b2i_0.mp c4))) (by omega) (by omega) (by decide) rfl (?_ : K _ _ _ _ _ _))
                      show K _ _ _ (b, mW X A (fl 0 mk (liftS (P p) (2 ^ c) (2 ^ d)) (k + 1)) ro nx pi kp km (nI 0) T) _ _
                      iterate 2 refine hK _ _ _ _ _ _ (?_ : K _ _ _ _ _ _)
                      rw [nI_add k 1]
                      first | exact ihk | exact hW _ _ _ _ _ _ _ (by simp) ihk
                    · skip
                      iterate 2 refine hK _ _ _ _ _ _ (?_ : K _ _ _ _ _ _)
                      refine hK _ _ _ _ _ _ (r_zastF (B := 0) (k := k) (s := (liftS (P p) (2 ^ c) (2 ^ d))) (N := 128) rfl (by rw [Nat.zero_add]) (nar_t (by rw [lift_m (hI.1 p hp) hc hd c1.1 c1.2 hcd (by omega) (by omega), (b2i_0.mp c2), (b2i_0.mp c3)]; exact (Bool.of_not_eq_false fun c9 => c4 (b2i_0.mpr c9)))) (by omega) (by omega) (by decide) rfl (?_ : K _ _ _ _ _ _))
                      show K _ _ _ (b, mW X A (fl 0 mk (liftS (P p) (2 ^ c) (2 ^ d)) (k + 1)) ro nx pi kp km (nI 0) T) _ _
                      iterate 2 refine hK _ _ _ _ _ _ (?_ : K _ _ _ _ _ _)
                      rw [nI_add k 1]
                      first | exact ihk | exact hW _ _ _ _ _ _ _ (by simp) ihk
                  · skip
                    iterate 2 refine hK _ _ _ _ _ _ (?_ : K _ _ _ _ _ _)
                    refine hK _ _ _ _ _ _ (r_callV rfl (fun _ => rfl) rfl (b0 rfl rfl rfl) (kX7_isLifted (i := k) (c := c) hA hp (by omega) hc (?_ : K _ _ _ _ _ _)))
                    refine hK _ _ _ _ _ _ (And.intro (fun c4 => ?_) (fun c4 => ?_))
                    · skip
                      iterate 1 refine hK _ _ _ _ _ _ (?_ : K _ _ _ _ _ _)
                      refine hK _ _ _ _ _ _ (r_zastF (B := 0) (k := k) (s := (liftS (P p) (2 ^ c) (2 ^ d))) (N := 128) rfl (by rw [Nat.zero_add]) (nar_f (by rw [lift_m (hI.1 p hp) hc hd c1.1 c1.2 hcd (by omega) (by omega), (b2i_0.mp c2), (Bool.of_not_eq_false fun c9 => c3 (b2i_0.mpr c9))]; exact (b2i_0.mp c4))) (by omega) (by omega) (by decide) rfl (?_ : K _ _ _ _ _ _))
                      show K _ _ _ (b, mW X A (fl 0 mk (liftS (P p) (2 ^ c) (2 ^ d)) (k + 1)) ro nx pi kp km (nI 0) T) _ _
                      iterate 2 refine hK _ _ _ _ _ _ (?_ : K _ _ _ _ _ _)
                      rw [nI_add k 1]
                      first | exact ihk | exact hW _ _ _ _ _ _ _ (by simp) ihk
                    · skip
                      iterate 2 refine hK _ _ _ _ _ _ (?_ : K _ _ _ _ _ _)
                      refine hK _ _ _ _ _ _ (r_zastF (B := 0) (k := k) (s := (liftS (P p) (2 ^ c) (2 ^ d))) (N := 128) rfl (by rw [Nat.zero_add]) (nar_t (by rw [lift_m (hI.1 p hp) hc hd c1.1 c1.2 hcd (by omega) (by omega), (b2i_0.mp c2), (Bool.of_not_eq_false fun c9 => c3 (b2i_0.mpr c9))]; exact (Bool.of_not_eq_false fun c9 => c4 (b2i_0.mpr c9)))) (by omega) (by omega) (by decide) rfl (?_ : K _ _ _ _ _ _))
                      show K _ _ _ (b, mW X A (fl 0 mk (liftS (P p) (2 ^ c) (2 ^ d)) (k + 1)) ro nx pi kp km (nI 0) T) _ _
                      iterate 2 refine hK _ _ _ _ _ _ (?_ : K _ _ _ _ _ _)
                      rw [nI_add k 1]
                      first | exact ihk | exact hW _ _ _ _ _ _ _ (by simp) ihk
                · skip
                  iterate 1 refine hK _ _ _ _ _ _ (?_ : K _ _ _ _ _ _)
                  refine hK _ _ _ _ _ _ (r_zastF (B := 0) (k := k) (s := (liftS (P p) (2 ^ c) (2 ^ d))) (N := 128) rfl (by rw [Nat.zero_add]) (nar_f (by rw [lift_m (hI.1 p hp) hc hd c1.1 c1.2 hcd (by omega) (by omega), (Bool.of_not_eq_false fun c9 => c2 (b2i_0.mpr c9))]; rfl)) (by omega) (by omega) (by decide) rfl (?_ : K _ _ _ _ _ _))
                  show K _ _ _ (b, mW X A (fl 0 mk (liftS (P p) (2 ^ c) (2 ^ d)) (k + 1)) ro nx pi kp km (nI 0) T) _ _
                  iterate 2 refine hK _ _ _ _ _ _ (?_ : K _ _ _ _ _ _)
                  rw [nI_add k 1]
                  first | exact ihk | exact hW _ _ _ _ _ _ _ (by simp) ihk
            · skip
              rw [sh1 c hc, sh1 d hd, lf_0 (orF_lt _ 128 (Nat.le_refl _)) hc hd, orF_s (hI.1 p hp) hc, orF_s (hI.1 p hp) hd] at c1
              have hQ5 := mb_t (by rw [beq_eq_false_iff_ne.mpr hcd]; rfl) (mq_s hD (mq_s hC hQ2))
              iterate 2 refine hK _ _ _ _ _ _ (?_ : K _ _ _ _ _ _)
              refine hK _ _ _ _ _ _ (r_callV rfl (fun _ => rfl) rfl (b0 rfl rfl rfl) (kw_n (n := 3) (by decide) (by decide) (?_ : K _ _ _ _ _ _)))
              refine hK _ _ _ _ _ _ (And.intro (fun c9 => absurd c9 (nI1_0)) (fun _ => ?_))
              iterate 1 refine hK _ _ _ _ _ _ (?_ : K _ _ _ _ _ _)
              exact hK _ _ _ _ _ _ (r_iret rfl rfl rfl rfl ((by
                cases hs1 : P p (2 ^ c) with
                | true => exact mb_f (by rw [hs1]; rfl) hQ5
                | false =>
                  have hQ6 := mb_t (by rw [hs1]; rfl) hQ5
                  cases hs2 : P p (2 ^ d) with
                  | true => exact mb_f (by rw [hs2]; rfl) hQ6
                  | false => exact absurd ⟨hs1, hs2⟩ c1)))

set_option maxRecDepth 10000 in
/-- Model.other -/
theorem kX7_other {S : Nat × (Nat → Int32)} {d : Nat} {Q : eQ} {b : Bool} {X : Nat → va_E} {A mk ro nx pi : Nat → Int32} {kp : Nat → Int64} {km th : Int32} {T : List va_E} {P : Nat → Nat → Bool} {R : Nat → Bool} {x : Int32} {y : Int32} {z : Int32} (hI : IvC P R) (hA : MI P A) (hR : RI R ro) (hQ : mQ (.int (nI 0)) cmA (o_other P R x y z) Q b X A ro T) : okCall S MT (d + 4) nX7_other [.ref 24, .int x, .int y, .int z] (b, mW X A mk ro nx pi kp km th T) Q := by
  refine okc (M := MX7_other) rfl rfl fun K hK hW => ?_
  show K 0 [(0, .ref 24), (1, .int x), (2, .int y), (3, .int z)] [] (b, mW X A mk ro nx pi kp km th T) 0 0
  unfold o_other at hQ
  iterate 2 refine hK _ _ _ _ _ _ (?_ : K _ _ _ _ _ _)
  refine hK _ _ _ _ _ _ (r_callS rfl (fun _ => rfl) (b0 rfl rfl rfl) (kX7_isPlace (fun h9 => (?_ : K _ _ _ _ _ _)) (fun p _ hp hx h9 => (?_ : K _ _ _ _ _ _))))
  · skip
    refine hK _ _ _ _ _ _ (And.intro (fun _ => ?_) (fun c9 => absurd (rfl) c9))
    iterate 2 refine hK _ _ _ _ _ _ (?_ : K _ _ _ _ _ _)
    refine hK _ _ _ _ _ _ (r_callV rfl (fun _ => rfl) rfl (b0 rfl rfl rfl) (kw_n (n := 1) (by decide) (by decide) (?_ : K _ _ _ _ _ _)))
    refine hK _ _ _ _ _ _ (And.intro (fun c9 => absurd c9 (nI1_0)) (fun _ => ?_))
    iterate 1 refine hK _ _ _ _ _ _ (?_ : K _ _ _ _ _ _)
    exact hK _ _ _ _ _ _ (r_iret rfl rfl rfl rfl (mq_n h9 hQ))
  · skip
    subst hx
    have hQ1 := mq_s h9 hQ
    refine hK _ _ _ _ _ _ (And.intro (fun c9 => absurd c9 (nI1_0)) (fun _ => ?_))
    iterate 1 refine hK _ _ _ _ _ _ (?_ : K _ _ _ _ _ _)
    refine hK _ _ _ _ _ _ (r_callS rfl (fun _ => rfl) (b0 rfl rfl rfl) (kX7_isPlace (fun h9 => (?_ : K _ _ _ _ _ _)) (fun t _ ht hx h9 => (?_ : K _ _ _ _ _ _))))
    · skip
      refine hK _ _ _ _ _ _ (And.intro (fun _ => ?_) (fun c9 => absurd (rfl) c9))
      iterate 2 refine hK _ _ _ _ _ _ (?_ : K _ _ _ _ _ _)
      refine hK _ _ _ _ _ _ (r_callV rfl (fun _ => rfl) rfl (b0 rfl rfl rfl) (kw_n (n := 1) (by decide) (by decide) (?_ : K _ _ _ _ _ _)))
      refine hK _ _ _ _ _ _ (And.intro (fun c9 => absurd c9 (nI1_0)) (fun _ => ?_))
      iterate 1 refine hK _ _ _ _ _ _ (?_ : K _ _ _ _ _ _)
      exact hK _ _ _ _ _ _ (r_iret rfl rfl rfl rfl (mq_n h9 hQ1))
    · skip
      subst hx
      have hQ2 := mq_s h9 hQ1
      refine hK _ _ _ _ _ _ (And.intro (fun c9 => absurd c9 (nI1_0)) (fun _ => ?_))
      iterate 1 refine hK _ _ _ _ _ _ (?_ : K _ _ _ _ _ _)
      refine hK _ _ _ _ _ _ (r_callS rfl (fun _ => rfl) (b0 rfl rfl rfl) (kX7_isFace (fun h9 => (?_ : K _ _ _ _ _ _)) (fun i hi1 hi hx h9 => (?_ : K _ _ _ _ _ _))))
      · skip
        refine hK _ _ _ _ _ _ (And.intro (fun _ => ?_) (fun c9 => absurd (rfl) c9))
        iterate 2 refine hK _ _ _ _ _ _ (?_ : K _ _ _ _ _ _)
        refine hK _ _ _ _ _ _ (r_callV rfl (fun _ => rfl) rfl (b0 rfl rfl rfl) (kw_n (n := 2) (by decide) (by decide) (?_ : K _ _ _ _ _ _)))
        refine hK _ _ _ _ _ _ (And.intro (fun c9 => absurd c9 (nI1_0)) (fun _ => ?_))
        iterate 1 refine hK _ _ _ _ _ _ (?_ : K _ _ _ _ _ _)
        exact hK _ _ _ _ _ _ (r_iret rfl rfl rfl rfl (mq_n h9 hQ2))
      · skip
        subst hx
        have hQ3 := mq_s h9 hQ2
        refine hK _ _ _ _ _ _ (And.intro (fun c9 => absurd c9 (nI1_0)) (fun _ => ?_))
        iterate 2 refine hK _ _ _ _ _ _ (?_ : K _ _ _ _ _ _)
        refine hK _ _ _ _ _ _ (r_callV rfl (fun _ => rfl) rfl (b0 rfl rfl rfl) (kX7_cornersAt hA hp (?_ : K _ _ _ _ _ _)))
        iterate 1 refine hK _ _ _ _ _ _ (?_ : K _ _ _ _ _ _)
        refine hK _ _ _ _ _ _ (r_callS rfl (fun _ => rfl) (b0 rfl rfl rfl) (kX7_isPart (i := orF (P p) 128) (orF_lt _ 128 (Nat.le_refl _)) (?_ : K _ _ _ _ _ _)))
        refine hK _ _ _ _ _ _ (And.intro (fun c1 => ?_) (fun c1 => ?_))
        · skip
          iterate 2 refine hK _ _ _ _ _ _ (?_ : K _ _ _ _ _ _)
          refine hK _ _ _ _ _ _ (r_callV rfl (fun _ => rfl) rfl (b0 rfl rfl rfl) (kw_n (n := 3) (by decide) (by decide) (?_ : K _ _ _ _ _ _)))
          refine hK _ _ _ _ _ _ (And.intro (fun c9 => absurd c9 (nI1_0)) (fun _ => ?_))
          iterate 1 refine hK _ _ _ _ _ _ (?_ : K _ _ _ _ _ _)
          exact hK _ _ _ _ _ _ (r_iret rfl rfl rfl rfl (mb_f (beq_eq_false_iff_ne.mpr fun c9 => by rw [(isP_bic (orF_lt _ 128 (Nat.le_refl _))).mpr c9] at c1; exact nI1_0 c1) hQ3))
        · skip
          have hQ4 := mb_t (by rw [(isP_bic (orF_lt _ 128 (Nat.le_refl _))).mp (Bool.of_not_eq_false fun c9 => c1 (b2i_0.mpr c9))]; rfl) hQ3
          iterate 1 refine hK _ _ _ _ _ _ (?_ : K _ _ _ _ _ _)
          refine hK _ _ _ _ _ _ (r_callV rfl (fun _ => rfl) rfl (b0 rfl rfl rfl) (kw_0 (?_ : K _ _ _ _ _ _)))
          refine hK _ _ _ _ _ _ (And.intro (fun _ => ?_) (fun c9 => absurd (rfl) c9))
          iterate 2 refine hK _ _ _ _ _ _ (?_ : K _ _ _ _ _ _)
          have e0 := fl_1 0 mk (otS (P p) i)
          rw [← e0]
          refine hW _ _ [(4, .int (nI (1))), (0, .ref 24), (1, .int (nI p)), (2, .int (nI i)), (3, .int (nI t))] _ _ _ _ (by simp) ?_
          refine up (P := fun k => K 58 [(4, .int (nI (k))), (0, .ref 24), (1, .int (nI p)), (2, .int (nI i)), (3, .int (nI t))] [] (b, mW X A (fl 0 mk (otS (P p) i) (k)) ro nx pi kp km (nI 0) T) 0 0) 128 1 ?_ ?_ (by decide)
          · skip
            iterate 2 refine hK _ _ _ _ _ _ (?_ : K _ _ _ _ _ _)
            refine hK _ _ _ _ _ _ (And.intro (fun _ => ?_) (fun c9 => absurd (nI_le (Nat.le_refl 128) (by decide)) c9))
            iterate 2 refine hK _ _ _ _ _ _ (?_ : K _ _ _ _ _ _)
            refine hK _ _ _ _ _ _ (r_callV rfl (fun _ => rfl) rfl (b0 rfl rfl rfl) (kX7_keep (s := (otS (P p) i)) ht fl_RI hA (?_ : K _ _ _ _ _ _)))
            rw [cF_fb (s := (otS (P p) i)) (ot_S (hI.1 p hp) hi).1]
            exact hK _ _ _ _ _ _ (r_iret rfl rfl rfl rfl (mi hQ4 (fl_MI hA) hR))
          · intro k h0k hk ihk
            iterate 2 refine hK _ _ _ _ _ _ (?_ : K _ _ _ _ _ _)
            refine hK _ _ _ _ _ _ (And.intro (fun c9 => absurd c9 (nI_ge (by omega) (by decide))) (fun _ => ?_))
            iterate 1 refine hK _ _ _ _ _ _ (?_ : K _ _ _ _ _ _)
            refine hK _ _ _ _ _ _ (r_get rfl rfl rfl (?_ : K _ _ _ _ _ _))
            iterate 3 refine hK _ _ _ _ _ _ (?_ : K _ _ _ _ _ _)
            refine hK _ _ _ _ _ _ (r_callS rfl (fun _ => rfl) (b0 rfl rfl rfl) (kX7_isPart (i := k) (by omega) (?_ : K _ _ _ _ _ _)))
            refine hK _ _ _ _ _ _ (And.intro (fun c2 => ?_) (fun c2 => ?_))
            · skip
              iterate 1 refine hK _ _ _ _ _ _ (?_ : K _ _ _ _ _ _)
              refine hK _ _ _ _ _ _ (r_zastF (B := 0) (k := k) (s := (otS (P p) i)) (N := 128) rfl (by rw [Nat.zero_add]) (nar_f (by rw [ot_m (by omega), (b2i_0.mp c2)]; rfl)) (by omega) (by omega) (by decide) rfl (?_ : K _ _ _ _ _ _))
              show K _ _ _ (b, mW X A (fl 0 mk (otS (P p) i) (k + 1)) ro nx pi kp km (nI 0) T) _ _
              iterate 2 refine hK _ _ _ _ _ _ (?_ : K _ _ _ _ _ _)
              rw [nI_add k 1]
              first | exact ihk | exact hW _ _ _ _ _ _ _ (by simp) ihk
            · skip
              iterate 2 refine hK _ _ _ _ _ _ (?_ : K _ _ _ _ _ _)
              refine hK _ _ _ _ _ _ (And.intro (fun c3 => ?_) (fun c3 => ?_))
              · skip
                iterate 1 refine hK _ _ _ _ _ _ (?_ : K _ _ _ _ _ _)
                refine hK _ _ _ _ _ _ (r_zastF (B := 0) (k := k) (s := (otS (P p) i)) (N := 128) rfl (by rw [Nat.zero_add]) (nar_f (by rw [ot_m (by omega), (nI_128 (by omega) hi).mp c3]; simp)) (by omega) (by omega) (by decide) rfl (?_ : K _ _ _ _ _ _))
                show K _ _ _ (b, mW X A (fl 0 mk (otS (P p) i) (k + 1)) ro nx pi kp km (nI 0) T) _ _
                iterate 2 refine hK _ _ _ _ _ _ (?_ : K _ _ _ _ _ _)
                rw [nI_add k 1]
                first | exact ihk | exact hW _ _ _ _ _ _ _ (by simp) ihk
              · skip
                iterate 5 refine hK _ _ _ _ _ _ (?_ : K _ _ _ _ _ _)
                refine hK _ _ _ _ _ _ (r_callV rfl (fun _ => rfl) rfl (b0 rfl rfl rfl) (okW (by rw [co_sub i hi k (by omega) (Bool.of_not_eq_false fun c9 => c2 (b2i_0.mpr c9))]) (kX7_isThere (i := i ^^^ k) hA hp (Nat.pos_of_ne_zero (xor_n0 (fun c9 => c3 (by rw [c9])))) (xor_128 hi (by omega)) (?_ : K _ _ _ _ _ _))))
                refine hK _ _ _ _ _ _ (And.intro (fun c4 => ?_) (fun c4 => ?_))
                · skip
                  iterate 2 refine hK _ _ _ _ _ _ (?_ : K _ _ _ _ _ _)
                  refine hK _ _ _ _ _ _ (r_zastF (B := 0) (k := k) (s := (otS (P p) i)) (N := 128) rfl (by rw [Nat.zero_add]) (nar_t (by rw [ot_m (by omega), (Bool.of_not_eq_false fun c9 => c2 (b2i_0.mpr c9)), beq_eq_false_iff_ne.mpr (fun c9 => c3 (by rw [c9])), (b2i_0.mp c4)]; rfl)) (by omega) (by omega) (by decide) rfl (?_ : K _ _ _ _ _ _))
                  show K _ _ _ (b, mW X A (fl 0 mk (otS (P p) i) (k + 1)) ro nx pi kp km (nI 0) T) _ _
                  iterate 2 refine hK _ _ _ _ _ _ (?_ : K _ _ _ _ _ _)
                  rw [nI_add k 1]
                  first | exact ihk | exact hW _ _ _ _ _ _ _ (by simp) ihk
                · skip
                  iterate 1 refine hK _ _ _ _ _ _ (?_ : K _ _ _ _ _ _)
                  refine hK _ _ _ _ _ _ (r_zastF (B := 0) (k := k) (s := (otS (P p) i)) (N := 128) rfl (by rw [Nat.zero_add]) (nar_f (by rw [ot_m (by omega), (Bool.of_not_eq_false fun c9 => c2 (b2i_0.mpr c9)), beq_eq_false_iff_ne.mpr (fun c9 => c3 (by rw [c9])), (Bool.of_not_eq_false fun c9 => c4 (b2i_0.mpr c9))]; rfl)) (by omega) (by omega) (by decide) rfl (?_ : K _ _ _ _ _ _))
                  show K _ _ _ (b, mW X A (fl 0 mk (otS (P p) i) (k + 1)) ro nx pi kp km (nI 0) T) _ _
                  iterate 2 refine hK _ _ _ _ _ _ (?_ : K _ _ _ _ _ _)
                  rw [nI_add k 1]
                  first | exact ihk | exact hW _ _ _ _ _ _ _ (by simp) ihk

theorem xd_ok {a b k : Nat} (ha : a < 7) (hb : b < 7) (hk : k < 128) : ((nI k &&& (((nI 1 <<< (nI a &&& 31)) ||| (nI 1 <<< (nI b &&& 31))) ^^^ (-1))) ||| (((nI k >>> (nI a &&& 31)) &&& nI 1) <<< (nI b &&& 31))) ||| (((nI k >>> (nI b &&& 31)) &&& nI 1) <<< (nI a &&& 31)) = nI (exch k a b) := by
  rw [sh1 a ha, sh1 b hb]; exact (exch_ok a ha b hb k hk).1
set_option maxRecDepth 10000 in
/-- Model.exchanged -/
theorem kX7_exchanged {S : Nat × (Nat → Int32)} {d : Nat} {h : eH} {Q : eQ} {i a b : Nat} (hi : i < 128) (ha : a < 7) (hb : b < 7) (hQ : Q (.inl (some (.int (nI (exch i a b))))) h) : okCall S MT (d + 1) nX7_exchanged [.int (nI i), .int (nI a), .int (nI b)] h Q := by
  refine okc (M := MX7_exchanged) rfl rfl fun K hK hW => ?_
  show K 0 [(0, .int (nI i)), (1, .int (nI a)), (2, .int (nI b))] [] h 0 0
  iterate 29 refine hK _ _ _ _ _ _ (?_ : K _ _ _ _ _ _)
  rw [xd_ok ha hb hi]
  exact hK _ _ _ _ _ _ (r_iret rfl rfl rfl rfl hQ)

set_option maxRecDepth 10000 in
/-- Model.exchange -/
theorem kX7_exchange {S : Nat × (Nat → Int32)} {d : Nat} {Q : eQ} {b : Bool} {X : Nat → va_E} {A mk ro nx pi : Nat → Int32} {kp : Nat → Int64} {km th : Int32} {T : List va_E} {P : Nat → Nat → Bool} {R : Nat → Bool} {x : Int32} {y : Int32} {z : Int32} {s : Int32} (hI : IvC P R) (hA : MI P A) (hR : RI R ro) (hQ : mQ (.int (nI 0)) cmA (o_exchange P R x y z s) Q b X A ro T) : okCall S MT (d + 4) nX7_exchange [.ref 24, .int x, .int y, .int z, .int s] (b, mW X A mk ro nx pi kp km th T) Q := by
  refine okc (M := MX7_exchange) rfl rfl fun K hK hW => ?_
  show K 0 [(0, .ref 24), (1, .int x), (2, .int y), (3, .int z), (4, .int s)] [] (b, mW X A mk ro nx pi kp km th T) 0 0
  unfold o_exchange at hQ
  iterate 2 refine hK _ _ _ _ _ _ (?_ : K _ _ _ _ _ _)
  refine hK _ _ _ _ _ _ (r_callS rfl (fun _ => rfl) (b0 rfl rfl rfl) (kX7_isPlace (fun h9 => (?_ : K _ _ _ _ _ _)) (fun p _ hp hx h9 => (?_ : K _ _ _ _ _ _))))
  · skip
    refine hK _ _ _ _ _ _ (And.intro (fun _ => ?_) (fun c9 => absurd (rfl) c9))
    iterate 2 refine hK _ _ _ _ _ _ (?_ : K _ _ _ _ _ _)
    refine hK _ _ _ _ _ _ (r_callV rfl (fun _ => rfl) rfl (b0 rfl rfl rfl) (kw_n (n := 1) (by decide) (by decide) (?_ : K _ _ _ _ _ _)))
    refine hK _ _ _ _ _ _ (And.intro (fun c9 => absurd c9 (nI1_0)) (fun _ => ?_))
    iterate 1 refine hK _ _ _ _ _ _ (?_ : K _ _ _ _ _ _)
    exact hK _ _ _ _ _ _ (r_iret rfl rfl rfl rfl (mq_n h9 hQ))
  · skip
    subst hx
    have hQ1 := mq_s h9 hQ
    refine hK _ _ _ _ _ _ (And.intro (fun c9 => absurd c9 (nI1_0)) (fun _ => ?_))
    iterate 1 refine hK _ _ _ _ _ _ (?_ : K _ _ _ _ _ _)
    refine hK _ _ _ _ _ _ (r_callS rfl (fun _ => rfl) (b0 rfl rfl rfl) (kX7_isPlace (fun h9 => (?_ : K _ _ _ _ _ _)) (fun t _ ht hx h9 => (?_ : K _ _ _ _ _ _))))
    · skip
      refine hK _ _ _ _ _ _ (And.intro (fun _ => ?_) (fun c9 => absurd (rfl) c9))
      iterate 2 refine hK _ _ _ _ _ _ (?_ : K _ _ _ _ _ _)
      refine hK _ _ _ _ _ _ (r_callV rfl (fun _ => rfl) rfl (b0 rfl rfl rfl) (kw_n (n := 1) (by decide) (by decide) (?_ : K _ _ _ _ _ _)))
      refine hK _ _ _ _ _ _ (And.intro (fun c9 => absurd c9 (nI1_0)) (fun _ => ?_))
      iterate 1 refine hK _ _ _ _ _ _ (?_ : K _ _ _ _ _ _)
      exact hK _ _ _ _ _ _ (r_iret rfl rfl rfl rfl (mq_n h9 hQ1))
    · skip
      subst hx
      have hQ2 := mq_s h9 hQ1
      refine hK _ _ _ _ _ _ (And.intro (fun c9 => absurd c9 (nI1_0)) (fun _ => ?_))
      iterate 1 refine hK _ _ _ _ _ _ (?_ : K _ _ _ _ _ _)
      refine hK _ _ _ _ _ _ (r_callS rfl (fun _ => rfl) (b0 rfl rfl rfl) (kX7_isCorner (fun h9 => (?_ : K _ _ _ _ _ _)) (fun c _ hc hx h9 => (?_ : K _ _ _ _ _ _))))
      · skip
        refine hK _ _ _ _ _ _ (And.intro (fun _ => ?_) (fun c9 => absurd (rfl) c9))
        iterate 2 refine hK _ _ _ _ _ _ (?_ : K _ _ _ _ _ _)
        refine hK _ _ _ _ _ _ (r_callV rfl (fun _ => rfl) rfl (b0 rfl rfl rfl) (kw_n (n := 2) (by decide) (by decide) (?_ : K _ _ _ _ _ _)))
        refine hK _ _ _ _ _ _ (And.intro (fun c9 => absurd c9 (nI1_0)) (fun _ => ?_))
        iterate 1 refine hK _ _ _ _ _ _ (?_ : K _ _ _ _ _ _)
        exact hK _ _ _ _ _ _ (r_iret rfl rfl rfl rfl (mq_n h9 hQ2))
      · skip
        subst hx
        have hQ3 := mq_s h9 hQ2
        refine hK _ _ _ _ _ _ (And.intro (fun c9 => absurd c9 (nI1_0)) (fun _ => ?_))
        iterate 1 refine hK _ _ _ _ _ _ (?_ : K _ _ _ _ _ _)
        refine hK _ _ _ _ _ _ (r_callS rfl (fun _ => rfl) (b0 rfl rfl rfl) (kX7_isCorner (fun h9 => (?_ : K _ _ _ _ _ _)) (fun d _ hd hx h9 => (?_ : K _ _ _ _ _ _))))
        · skip
          refine hK _ _ _ _ _ _ (And.intro (fun _ => ?_) (fun c9 => absurd (rfl) c9))
          iterate 2 refine hK _ _ _ _ _ _ (?_ : K _ _ _ _ _ _)
          refine hK _ _ _ _ _ _ (r_callV rfl (fun _ => rfl) rfl (b0 rfl rfl rfl) (kw_n (n := 2) (by decide) (by decide) (?_ : K _ _ _ _ _ _)))
          refine hK _ _ _ _ _ _ (And.intro (fun c9 => absurd c9 (nI1_0)) (fun _ => ?_))
          iterate 1 refine hK _ _ _ _ _ _ (?_ : K _ _ _ _ _ _)
          exact hK _ _ _ _ _ _ (r_iret rfl rfl rfl rfl (mq_n h9 hQ3))
        · skip
          subst hx
          have hQ4 := mq_s h9 hQ3
          refine hK _ _ _ _ _ _ (And.intro (fun c9 => absurd c9 (nI1_0)) (fun _ => ?_))
          iterate 1 refine hK _ _ _ _ _ _ (?_ : K _ _ _ _ _ _)
          refine hK _ _ _ _ _ _ (r_callV rfl (fun _ => rfl) rfl (b0 rfl rfl rfl) (kw_0 (?_ : K _ _ _ _ _ _)))
          refine hK _ _ _ _ _ _ (And.intro (fun _ => ?_) (fun c9 => absurd (rfl) c9))
          iterate 4 refine hK _ _ _ _ _ _ (?_ : K _ _ _ _ _ _)
          have e0 := fl_1 0 mk (xcS (P p) c d)
          rw [← e0]
          refine hW _ _ [(6, .int (nI (1))), (5, .int (nI (cF (fun i => xcS (P p) c d i && !P p i) (1)))), (0, .ref 24), (1, .int (nI p)), (2, .int (nI c)), (3, .int (nI d)), (4, .int (nI t))] _ _ _ _ (by simp [cF_1]) ?_
          refine up (P := fun k => K 53 [(6, .int (nI (k))), (5, .int (nI (cF (fun i => xcS (P p) c d i && !P p i) (k)))), (0, .ref 24), (1, .int (nI p)), (2, .int (nI c)), (3, .int (nI d)), (4, .int (nI t))] [] (b, mW X A (fl 0 mk (xcS (P p) c d) (k)) ro nx pi kp km (nI 0) T) 0 0) 128 1 ?_ ?_ (by decide)
          · skip
            iterate 2 refine hK _ _ _ _ _ _ (?_ : K _ _ _ _ _ _)
            refine hK _ _ _ _ _ _ (And.intro (fun _ => ?_) (fun c9 => absurd (nI_le (Nat.le_refl 128) (by decide)) c9))
            iterate 2 refine hK _ _ _ _ _ _ (?_ : K _ _ _ _ _ _)
            refine hK _ _ _ _ _ _ (r_callV rfl (fun _ => rfl) rfl (b0 rfl rfl rfl) (kX7_keep (s := (xcS (P p) c d)) ht fl_RI hA (?_ : K _ _ _ _ _ _)))
            iterate 2 refine hK _ _ _ _ _ _ (?_ : K _ _ _ _ _ _)
            rw [cF_fb (s := (fun i => xcS (P p) c d i && !P p i)) (by show (xcS (P p) c d 0 && !P p 0) = false; rw [xc_0 (hI.1 p hp).1 hc hd]; rfl)]
            exact hK _ _ _ _ _ _ (r_iret rfl rfl rfl rfl (mi hQ4 (fl_MI hA) hR))
          · intro k h0k hk ihk
            iterate 2 refine hK _ _ _ _ _ _ (?_ : K _ _ _ _ _ _)
            refine hK _ _ _ _ _ _ (And.intro (fun c9 => absurd c9 (nI_ge (by omega) (by decide))) (fun _ => ?_))
            iterate 1 refine hK _ _ _ _ _ _ (?_ : K _ _ _ _ _ _)
            refine hK _ _ _ _ _ _ (r_get rfl rfl rfl (?_ : K _ _ _ _ _ _))
            iterate 6 refine hK _ _ _ _ _ _ (?_ : K _ _ _ _ _ _)
            refine hK _ _ _ _ _ _ (r_callS rfl (fun _ => rfl) (b0 rfl rfl rfl) (kX7_exchanged (i := k) (by omega) hc hd (?_ : K _ _ _ _ _ _)))
            refine hK _ _ _ _ _ _ (r_callV rfl (fun _ => rfl) rfl (b0 rfl rfl rfl) (kX7_isThere (i := exch k c d) hA hp ((exch_ok c hc d hd k (by omega)).2.2 (by omega)) (exch_ok c hc d hd k (by omega)).2.1 (?_ : K _ _ _ _ _ _)))
            refine hK _ _ _ _ _ _ (r_zastF (B := 0) (k := k) (s := (xcS (P p) c d)) (N := 128) rfl (by rw [Nat.zero_add]) (by rw [ex_at (hI.1 p hp).1 hc hd (by omega)]; exact nar_b _) (by omega) (by omega) (by decide) rfl (?_ : K _ _ _ _ _ _))
            show K _ _ _ (b, mW X A (fl 0 mk (xcS (P p) c d) (k + 1)) ro nx pi kp km (nI 0) T) _ _
            iterate 2 refine hK _ _ _ _ _ _ (?_ : K _ _ _ _ _ _)
            refine hK _ _ _ _ _ _ (r_get rfl rfl rfl (?_ : K _ _ _ _ _ _))
            iterate 1 refine hK _ _ _ _ _ _ (?_ : K _ _ _ _ _ _)
            refine hK _ _ _ _ _ _ (r_zald' (v := b2i (xcS (P p) c d k)) rfl (N := 128) (f := fl 0 mk (xcS (P p) c d) (k + 1)) rfl (vp_in_nI (by omega) (by decide)) (by rw [nI_clamp (by omega)]; have h9 := fl_in (B := 0) (A := mk) (s := (xcS (P p) c d)) (k := k + 1) (i := k) (by omega) (by omega); rw [Nat.zero_add] at h9; exact h9) (?_ : K _ _ _ _ _ _))
            refine hK _ _ _ _ _ _ (And.intro (fun c1 => ?_) (fun c1 => ?_))
            · skip
              iterate 5 refine hK _ _ _ _ _ _ (?_ : K _ _ _ _ _ _)
              have e1 : (fun i => xcS (P p) c d i && !P p i) k = false := by show (xcS (P p) c d k && !P p k) = false; rw [(b2i_0.mp c1)]; rfl
              rw [cF_f e1] at ihk
              rw [nI_add k 1, nI_p0]
              first | exact ihk | exact hW _ _ _ _ _ _ _ (by simp) ihk
            · skip
              iterate 3 refine hK _ _ _ _ _ _ (?_ : K _ _ _ _ _ _)
              refine hK _ _ _ _ _ _ (r_callV rfl (fun _ => rfl) rfl (b0 rfl rfl rfl) (kX7_isThere (i := k) hA hp (by omega) (by omega) (?_ : K _ _ _ _ _ _)))
              refine hK _ _ _ _ _ _ (And.intro (fun c2 => ?_) (fun c2 => ?_))
              · skip
                iterate 6 refine hK _ _ _ _ _ _ (?_ : K _ _ _ _ _ _)
                have e1 : (fun i => xcS (P p) c d i && !P p i) k = true := by show (xcS (P p) c d k && !P p k) = true; rw [(Bool.of_not_eq_false fun c9 => c1 (b2i_0.mpr c9)), (b2i_0.mp c2)]; rfl
                rw [cF_t (by omega) e1, nI_add k 1]
                first | exact ihk | exact hW _ _ _ _ _ _ _ (by simp) ihk
              · skip
                iterate 5 refine hK _ _ _ _ _ _ (?_ : K _ _ _ _ _ _)
                have e1 : (fun i => xcS (P p) c d i && !P p i) k = false := by show (xcS (P p) c d k && !P p k) = false; rw [(Bool.of_not_eq_false fun c9 => c2 (b2i_0.mpr c9))]; simp
                rw [cF_f e1] at ihk
                rw [nI_add k 1, nI_p0]
                first | exact ihk | exact hW _ _ _ _ _ _ _ (by simp) ihk

theorem fold_MI {P : Nat → Nat → Bool} {p i g : Nat} {A : Nat → Int32} (hi : i < 128) (hlt : i < g) (hfg : isP i g = true) (hone : ∀ e, e < 128 → P p e = true → isP i e = true → e = i ∨ e = g) (h : MI (setP P p (sOvr (P p) i 128)) A) : MI (setP P p (sDel (sDel (P p) i) g)) A := by
  refine MI_c (fun q _ k h1 h2 => ?_) h
  by_cases e : q = p
  · subst e
    rw [setP_s, setP_s, sOvr_at h2]
    show _ = ((P q k && !(k == i)) && !(k == g))
    cases hs : P q k with
    | false => rfl
    | true =>
      cases hp : isP i k with
      | true =>
        rcases hone k h2 hs hp with e | e
        · subst e; simp
        · subst e; simp
      | false =>
        have e1 : k ≠ i := fun e => by subst e; rw [isP_r] at hp; cases hp
        have e2 : k ≠ g := fun e => by subst e; rw [hfg] at hp; cases hp
        rw [beq_eq_false_iff_ne.mpr e1, beq_eq_false_iff_ne.mpr e2]; rfl
  · rw [setP_n _ _ e, setP_n _ _ e]
/-- the last place below n -/
def lf (p : Nat → Bool) : Nat → Nat
  | 0 => 0
  | n + 1 => bif decide (0 < n) && p n then n else lf p n
theorem lf_tt {p : Nat → Bool} {k : Nat} (h0 : 0 < k) (h : p k = true) : lf p (k + 1) = k := by
  show (bif decide (0 < k) && p k then _ else _) = _
  rw [decide_eq_true h0, h]; rfl
theorem lf_ff {p : Nat → Bool} {k : Nat} (h : p k = false) : lf p (k + 1) = lf p k := by
  show (bif decide (0 < k) && p k then _ else _) = _
  rw [h, Bool.and_false]; rfl
theorem lf_one {p : Nat → Bool} {g : Nat} (h0 : 0 < g) (hg : p g = true) (h1 : ∀ k, k < 128 → p k = true → k = g) : ∀ n, g < n → n ≤ 128 → lf p n = g
  | n + 1, hn, h8 => by
    by_cases e : n = g
    · subst e; exact lf_tt h0 hg
    · rw [lf_ff (by rw [Bool.eq_false_iff]; exact fun c => e (h1 n (by omega) c))]
      exact lf_one h0 hg h1 n (by omega) (by omega)
set_option maxRecDepth 10000 in
/-- Model.fold -/
theorem kX7_fold {S : Nat × (Nat → Int32)} {d : Nat} {Q : eQ} {b : Bool} {X : Nat → va_E} {A mk ro nx pi : Nat → Int32} {kp : Nat → Int64} {km th : Int32} {T : List va_E} {P : Nat → Nat → Bool} {R : Nat → Bool} {x : Int32} {y : Int32} (hI : IvC P R) (hA : MI P A) (hR : RI R ro) (hQ : mQ (.int (nI 0)) cmF (o_fold P R x y) Q b X A ro T) : okCall S MT (d + 5) nX7_fold [.ref 24, .int x, .int y] (b, mW X A mk ro nx pi kp km th T) Q := by
  refine okc (M := MX7_fold) rfl rfl fun K hK hW => ?_
  show K 0 [(0, .ref 24), (1, .int x), (2, .int y)] [] (b, mW X A mk ro nx pi kp km th T) 0 0
  unfold o_fold at hQ
  iterate 3 refine hK _ _ _ _ _ _ (?_ : K _ _ _ _ _ _)
  refine hK _ _ _ _ _ _ (r_callV rfl (fun _ => rfl) rfl (b0 rfl rfl rfl) (kX7_missing hA (fun h9 => (?_ : K _ _ _ _ _ _)) (fun p hp hx h9 h8 => (?_ : K _ _ _ _ _ _)) (fun p i hp hi1 hi hx hy h9 h8 hh => (?_ : K _ _ _ _ _ _)) (fun p i hp hi1 hi hx hy h9 h8 hh => (?_ : K _ _ _ _ _ _))))
  · skip
    iterate 3 refine hK _ _ _ _ _ _ (?_ : K _ _ _ _ _ _)
    refine hK _ _ _ _ _ _ (And.intro (fun c9 => absurd c9 (nI1_0)) (fun _ => ?_))
    iterate 2 refine hK _ _ _ _ _ _ (?_ : K _ _ _ _ _ _)
    refine hK _ _ _ _ _ _ (r_callV rfl (fun _ => rfl) rfl (b0 rfl rfl rfl) (kw_n (n := 1) (by decide) (by decide) (?_ : K _ _ _ _ _ _)))
    refine hK _ _ _ _ _ _ (And.intro (fun c9 => absurd c9 (nI1_0)) (fun _ => ?_))
    iterate 1 refine hK _ _ _ _ _ _ (?_ : K _ _ _ _ _ _)
    exact hK _ _ _ _ _ _ (r_iret rfl rfl rfl rfl (mq_n h9 hQ))
  · skip
    subst hx
    iterate 3 refine hK _ _ _ _ _ _ (?_ : K _ _ _ _ _ _)
    refine hK _ _ _ _ _ _ (And.intro (fun c9 => absurd c9 (by decide +kernel)) (fun _ => ?_))
    iterate 2 refine hK _ _ _ _ _ _ (?_ : K _ _ _ _ _ _)
    refine hK _ _ _ _ _ _ (r_callV rfl (fun _ => rfl) rfl (b0 rfl rfl rfl) (kw_n (n := 2) (by decide) (by decide) (?_ : K _ _ _ _ _ _)))
    refine hK _ _ _ _ _ _ (And.intro (fun c9 => absurd c9 (nI1_0)) (fun _ => ?_))
    iterate 1 refine hK _ _ _ _ _ _ (?_ : K _ _ _ _ _ _)
    exact hK _ _ _ _ _ _ (r_iret rfl rfl rfl rfl (mq_n h8 (mq_s h9 hQ)))
  · skip
    subst hx
    subst hy
    iterate 3 refine hK _ _ _ _ _ _ (?_ : K _ _ _ _ _ _)
    refine hK _ _ _ _ _ _ (And.intro (fun c9 => absurd c9 (by decide +kernel)) (fun _ => ?_))
    iterate 2 refine hK _ _ _ _ _ _ (?_ : K _ _ _ _ _ _)
    refine hK _ _ _ _ _ _ (r_callV rfl (fun _ => rfl) rfl (b0 rfl rfl rfl) (kw_n (n := 3) (by decide) (by decide) (?_ : K _ _ _ _ _ _)))
    refine hK _ _ _ _ _ _ (And.intro (fun c9 => absurd c9 (nI1_0)) (fun _ => ?_))
    iterate 1 refine hK _ _ _ _ _ _ (?_ : K _ _ _ _ _ _)
    exact hK _ _ _ _ _ _ (r_iret rfl rfl rfl rfl (mb_f hh (mq_s h8 (mq_s h9 hQ))))
  · skip
    subst hx
    subst hy
    have hQ1 := mb_t hh (mq_s h8 (mq_s h9 hQ))
    iterate 3 refine hK _ _ _ _ _ _ (?_ : K _ _ _ _ _ _)
    refine hK _ _ _ _ _ _ (And.intro (fun _ => ?_) (fun c9 => absurd (rfl) c9))
    iterate 3 refine hK _ _ _ _ _ _ (?_ : K _ _ _ _ _ _)
    refine hK _ _ _ _ _ _ (r_callV rfl (fun _ => rfl) rfl (b0 rfl rfl rfl) (kX7_overAt hA hp hi (?_ : K _ _ _ _ _ _)))
    iterate 1 refine hK _ _ _ _ _ _ (?_ : K _ _ _ _ _ _)
    refine hK _ _ _ _ _ _ (And.intro (fun c1 => ?_) (fun c1 => ?_))
    · skip
      have h1 : ovN (P p) i = 1 := (nI_eq (ovN_b _ _) (by decide)).mp c1
      have hQ2 := mb_t (by rw [h1]; rfl) hQ1
      obtain ⟨g0, hg0, hg1, hg2, hg3, hg4, hg5⟩ := fold_ex h1
      iterate 1 refine hK _ _ _ _ _ _ (?_ : K _ _ _ _ _ _)
      refine hK _ _ _ _ _ _ (r_callV rfl (fun _ => rfl) rfl (b0 rfl rfl rfl) (kw_0 (?_ : K _ _ _ _ _ _)))
      refine hK _ _ _ _ _ _ (And.intro (fun _ => ?_) (fun c9 => absurd (rfl) c9))
      iterate 4 refine hK _ _ _ _ _ _ (?_ : K _ _ _ _ _ _)
      refine hW _ _ [(5, .int (nI (1))), (4, .int (nI (lf (ovP (P p) i) (1)))), (0, .ref 24), (1, .int (nI p)), (2, .int (nI i))] _ _ _ _ (by simp [show lf (ovP (P p) i) 1 = 0 from rfl]) ?_
      refine up (P := fun k => K 45 [(5, .int (nI (k))), (4, .int (nI (lf (ovP (P p) i) (k)))), (0, .ref 24), (1, .int (nI p)), (2, .int (nI i))] [] (b, mW X A mk ro nx pi kp km (nI 0) T) 0 0) 128 1 ?_ ?_ (by decide)
      · skip
        iterate 2 refine hK _ _ _ _ _ _ (?_ : K _ _ _ _ _ _)
        refine hK _ _ _ _ _ _ (And.intro (fun _ => ?_) (fun c9 => absurd (nI_le (Nat.le_refl 128) (by decide)) c9))
        iterate 3 refine hK _ _ _ _ _ _ (?_ : K _ _ _ _ _ _)
        refine hK _ _ _ _ _ _ (r_callV rfl (fun _ => rfl) rfl (b0 rfl rfl rfl) (kX7_takeOut hA hp hi (?_ : K _ _ _ _ _ _)))
        iterate 2 refine hK _ _ _ _ _ _ (?_ : K _ _ _ _ _ _)
        rw [lf_one (g := g0) (by omega) (ov_t (by omega) hg3 hg4) (fun k h7 hk => by
          have hk : (decide (i < k) && (isP i k && P p k)) = true := hk
          rw [Bool.and_eq_true, Bool.and_eq_true, decide_eq_true_eq] at hk
          rcases hg5 k h7 hk.2.2 hk.2.1 with e | e
          · omega
          · exact e) 128 hg2 (Nat.le_refl _)]
        rw [hg0] at hQ2
        exact hK _ _ _ _ _ _ (r_iret rfl rfl rfl rfl (mi hQ2 (fold_MI hi hg1 hg3 hg5 (fl_MI hA)) hR))
      · intro k h0k hk ihk
        iterate 2 refine hK _ _ _ _ _ _ (?_ : K _ _ _ _ _ _)
        refine hK _ _ _ _ _ _ (And.intro (fun c9 => absurd c9 (nI_ge (by omega) (by decide))) (fun _ => ?_))
        iterate 2 refine hK _ _ _ _ _ _ (?_ : K _ _ _ _ _ _)
        refine hK _ _ _ _ _ _ (And.intro (fun c2 => ?_) (fun c2 => ?_))
        · skip
          iterate 4 refine hK _ _ _ _ _ _ (?_ : K _ _ _ _ _ _)
          have e1 := ov_f (s := P p) (i := i) (Or.inl ((nI_128 (by omega) (by omega)).mp c2))
          rw [lf_ff e1] at ihk
          rw [nI_add k 1]
          first | exact ihk | exact hW _ _ _ _ _ _ _ (by simp) ihk
        · skip
          iterate 2 refine hK _ _ _ _ _ _ (?_ : K _ _ _ _ _ _)
          refine hK _ _ _ _ _ _ (r_callS rfl (fun _ => rfl) (b0 rfl rfl rfl) (kX7_isPart (i := i) hi (?_ : K _ _ _ _ _ _)))
          refine hK _ _ _ _ _ _ (And.intro (fun c3 => ?_) (fun c3 => ?_))
          · skip
            iterate 4 refine hK _ _ _ _ _ _ (?_ : K _ _ _ _ _ _)
            have e1 := ov_f (s := P p) (i := i) (k := k) (Or.inr (Or.inl (b2i_0.mp c3)))
            rw [lf_ff e1] at ihk
            rw [nI_add k 1]
            first | exact ihk | exact hW _ _ _ _ _ _ _ (by simp) ihk
          · skip
            iterate 3 refine hK _ _ _ _ _ _ (?_ : K _ _ _ _ _ _)
            refine hK _ _ _ _ _ _ (r_callV rfl (fun _ => rfl) rfl (b0 rfl rfl rfl) (kX7_isThere (i := k) hA hp (by omega) (by omega) (?_ : K _ _ _ _ _ _)))
            refine hK _ _ _ _ _ _ (And.intro (fun c4 => ?_) (fun c4 => ?_))
            · skip
              iterate 4 refine hK _ _ _ _ _ _ (?_ : K _ _ _ _ _ _)
              have e1 := ov_f (s := P p) (i := i) (k := k) (Or.inr (Or.inr (b2i_0.mp c4)))
              rw [lf_ff e1] at ihk
              rw [nI_add k 1]
              first | exact ihk | exact hW _ _ _ _ _ _ _ (by simp) ihk
            · skip
              iterate 5 refine hK _ _ _ _ _ _ (?_ : K _ _ _ _ _ _)
              have e1 := ov_t (s := P p) (fun c9 => c2 (by rw [c9])) (Bool.of_not_eq_false fun c9 => c3 (b2i_0.mpr c9)) (Bool.of_not_eq_false fun c9 => c4 (b2i_0.mpr c9))
              rw [lf_tt (by omega) e1] at ihk
              rw [nI_add k 1]
              first | exact ihk | exact hW _ _ _ _ _ _ _ (by simp) ihk
    · skip
      have h1 : ovN (P p) i ≠ 1 := fun c9 => c1 (by rw [c9])
      iterate 2 refine hK _ _ _ _ _ _ (?_ : K _ _ _ _ _ _)
      refine hK _ _ _ _ _ _ (r_callV rfl (fun _ => rfl) rfl (b0 rfl rfl rfl) (kw_n (n := 4) (by decide) (by decide) (?_ : K _ _ _ _ _ _)))
      refine hK _ _ _ _ _ _ (And.intro (fun c9 => absurd c9 (nI1_0)) (fun _ => ?_))
      iterate 1 refine hK _ _ _ _ _ _ (?_ : K _ _ _ _ _ _)
      exact hK _ _ _ _ _ _ (r_iret rfl rfl rfl rfl (mb_f (beq_eq_false_iff_ne.mpr h1) hQ1))

set_option maxRecDepth 10000 in
/-- Model.has -/
theorem kX7_has {S : Nat × (Nat → Int32)} {d : Nat} {Q : eQ} {b : Bool} {X : Nat → va_E} {A mk ro nx pi : Nat → Int32} {kp : Nat → Int64} {km th : Int32} {T : List va_E} {P : Nat → Nat → Bool} {R : Nat → Bool} {x : Int32} {y : Int32} (hI : IvC P R) (hA : MI P A) (hR : RI R ro) (hQ : mQ (.int (nI 0)) cmA (o_has P R x y) Q b X A ro T) : okCall S MT (d + 3) nX7_has [.ref 24, .int x, .int y] (b, mW X A mk ro nx pi kp km th T) Q := by
  refine okc (M := MX7_has) rfl rfl fun K hK hW => ?_
  show K 0 [(0, .ref 24), (1, .int x), (2, .int y)] [] (b, mW X A mk ro nx pi kp km th T) 0 0
  unfold o_has at hQ
  iterate 2 refine hK _ _ _ _ _ _ (?_ : K _ _ _ _ _ _)
  refine hK _ _ _ _ _ _ (r_callS rfl (fun _ => rfl) (b0 rfl rfl rfl) (kX7_isPlace (fun h9 => (?_ : K _ _ _ _ _ _)) (fun p _ hp hx h9 => (?_ : K _ _ _ _ _ _))))
  · skip
    refine hK _ _ _ _ _ _ (And.intro (fun _ => ?_) (fun c9 => absurd (rfl) c9))
    iterate 2 refine hK _ _ _ _ _ _ (?_ : K _ _ _ _ _ _)
    refine hK _ _ _ _ _ _ (r_callV rfl (fun _ => rfl) rfl (b0 rfl rfl rfl) (kw_n (n := 1) (by decide) (by decide) (?_ : K _ _ _ _ _ _)))
    refine hK _ _ _ _ _ _ (And.intro (fun c9 => absurd c9 (nI1_0)) (fun _ => ?_))
    iterate 1 refine hK _ _ _ _ _ _ (?_ : K _ _ _ _ _ _)
    exact hK _ _ _ _ _ _ (r_iret rfl rfl rfl rfl (mq_n h9 hQ))
  · skip
    subst hx
    have hQ1 := mq_s h9 hQ
    refine hK _ _ _ _ _ _ (And.intro (fun c9 => absurd c9 (nI1_0)) (fun _ => ?_))
    iterate 1 refine hK _ _ _ _ _ _ (?_ : K _ _ _ _ _ _)
    refine hK _ _ _ _ _ _ (r_callS rfl (fun _ => rfl) (b0 rfl rfl rfl) (kX7_isFace (fun h9 => (?_ : K _ _ _ _ _ _)) (fun i hi1 hi hx h9 => (?_ : K _ _ _ _ _ _))))
    · skip
      refine hK _ _ _ _ _ _ (And.intro (fun _ => ?_) (fun c9 => absurd (rfl) c9))
      iterate 2 refine hK _ _ _ _ _ _ (?_ : K _ _ _ _ _ _)
      refine hK _ _ _ _ _ _ (r_callV rfl (fun _ => rfl) rfl (b0 rfl rfl rfl) (kw_n (n := 2) (by decide) (by decide) (?_ : K _ _ _ _ _ _)))
      refine hK _ _ _ _ _ _ (And.intro (fun c9 => absurd c9 (nI1_0)) (fun _ => ?_))
      iterate 1 refine hK _ _ _ _ _ _ (?_ : K _ _ _ _ _ _)
      exact hK _ _ _ _ _ _ (r_iret rfl rfl rfl rfl (mq_n h9 hQ1))
    · skip
      subst hx
      have hQ2 := mq_s h9 hQ1
      refine hK _ _ _ _ _ _ (And.intro (fun c9 => absurd c9 (nI1_0)) (fun _ => ?_))
      iterate 1 refine hK _ _ _ _ _ _ (?_ : K _ _ _ _ _ _)
      refine hK _ _ _ _ _ _ (r_callV rfl (fun _ => rfl) rfl (b0 rfl rfl rfl) (kw_0 (?_ : K _ _ _ _ _ _)))
      refine hK _ _ _ _ _ _ (And.intro (fun _ => ?_) (fun c9 => absurd (rfl) c9))
      iterate 3 refine hK _ _ _ _ _ _ (?_ : K _ _ _ _ _ _)
      refine hK _ _ _ _ _ _ (r_callV rfl (fun _ => rfl) rfl (b0 rfl rfl rfl) (kX7_isThere (i := i) hA hp hi1 hi (?_ : K _ _ _ _ _ _)))
      refine hK _ _ _ _ _ _ (And.intro (fun c1 => ?_) (fun c1 => ?_))
      · skip
        iterate 1 refine hK _ _ _ _ _ _ (?_ : K _ _ _ _ _ _)
        rw [(b2i_0.mp c1)] at hQ2
        exact hK _ _ _ _ _ _ (r_iret rfl rfl rfl rfl (mi hQ2 hA hR))
      · skip
        iterate 2 refine hK _ _ _ _ _ _ (?_ : K _ _ _ _ _ _)
        rw [(Bool.of_not_eq_false fun c9 => c1 (b2i_0.mpr c9))] at hQ2
        exact hK _ _ _ _ _ _ (r_iret rfl rfl rfl rfl (mi hQ2 hA hR))

set_option maxRecDepth 10000 in
/-- Model.size -/
theorem kX7_size {S : Nat × (Nat → Int32)} {d : Nat} {Q : eQ} {b : Bool} {X : Nat → va_E} {A mk ro nx pi : Nat → Int32} {kp : Nat → Int64} {km th : Int32} {T : List va_E} {P : Nat → Nat → Bool} {R : Nat → Bool} {x : Int32} (hI : IvC P R) (hA : MI P A) (hR : RI R ro) (hQ : mQ (.int (nI 0)) cmA (o_size P R x) Q b X A ro T) : okCall S MT (d + 3) nX7_size [.ref 24, .int x] (b, mW X A mk ro nx pi kp km th T) Q := by
  refine okc (M := MX7_size) rfl rfl fun K hK hW => ?_
  show K 0 [(0, .ref 24), (1, .int x)] [] (b, mW X A mk ro nx pi kp km th T) 0 0
  unfold o_size at hQ
  iterate 2 refine hK _ _ _ _ _ _ (?_ : K _ _ _ _ _ _)
  refine hK _ _ _ _ _ _ (r_callS rfl (fun _ => rfl) (b0 rfl rfl rfl) (kX7_isPlace (fun h9 => (?_ : K _ _ _ _ _ _)) (fun p _ hp hx h9 => (?_ : K _ _ _ _ _ _))))
  · skip
    refine hK _ _ _ _ _ _ (And.intro (fun _ => ?_) (fun c9 => absurd (rfl) c9))
    iterate 1 refine hK _ _ _ _ _ _ (?_ : K _ _ _ _ _ _)
    refine hK _ _ _ _ _ _ (r_callV rfl (fun _ => rfl) rfl (b0 rfl rfl rfl) (kw_n (n := 1) (by decide) (by decide) (?_ : K _ _ _ _ _ _)))
    refine hK _ _ _ _ _ _ (And.intro (fun c9 => absurd c9 (nI1_0)) (fun _ => ?_))
    iterate 2 refine hK _ _ _ _ _ _ (?_ : K _ _ _ _ _ _)
    exact hK _ _ _ _ _ _ (r_iret rfl rfl rfl rfl (mq_n h9 hQ))
  · skip
    subst hx
    have hQ1 := mq_s h9 hQ
    refine hK _ _ _ _ _ _ (And.intro (fun c9 => absurd c9 (nI1_0)) (fun _ => ?_))
    iterate 2 refine hK _ _ _ _ _ _ (?_ : K _ _ _ _ _ _)
    refine hK _ _ _ _ _ _ (r_callV rfl (fun _ => rfl) rfl (b0 rfl rfl rfl) (kw_0 (?_ : K _ _ _ _ _ _)))
    refine hK _ _ _ _ _ _ (And.intro (fun _ => ?_) (fun c9 => absurd (rfl) c9))
    iterate 2 refine hK _ _ _ _ _ _ (?_ : K _ _ _ _ _ _)
    refine hK _ _ _ _ _ _ (r_callV rfl (fun _ => rfl) rfl (b0 rfl rfl rfl) (kX7_sizeOf hA hp (?_ : K _ _ _ _ _ _)))
    rw [cF_fb (hI.1 p hp).1]
    exact hK _ _ _ _ _ _ (r_iret rfl rfl rfl rfl (mi hQ1 hA hR))

set_option maxRecDepth 10000 in
/-- Model.faces -/
theorem kX7_faces {S : Nat × (Nat → Int32)} {d : Nat} {Q : eQ} {b : Bool} {X : Nat → va_E} {A mk ro nx pi : Nat → Int32} {kp : Nat → Int64} {km th : Int32} {T : List va_E} {P : Nat → Nat → Bool} {R : Nat → Bool} {x : Int32} {y : Int32} (hI : IvC P R) (hA : MI P A) (hR : RI R ro) (hQ : mQ (.int (nI 0)) cmA (o_faces P R x y) Q b X A ro T) : okCall S MT (d + 4) nX7_faces [.ref 24, .int x, .int y] (b, mW X A mk ro nx pi kp km th T) Q := by
  refine okc (M := MX7_faces) rfl rfl fun K hK hW => ?_
  show K 0 [(0, .ref 24), (1, .int x), (2, .int y)] [] (b, mW X A mk ro nx pi kp km th T) 0 0
  unfold o_faces at hQ
  iterate 2 refine hK _ _ _ _ _ _ (?_ : K _ _ _ _ _ _)
  refine hK _ _ _ _ _ _ (r_callS rfl (fun _ => rfl) (b0 rfl rfl rfl) (kX7_isPlace (fun h9 => (?_ : K _ _ _ _ _ _)) (fun p _ hp hx h9 => (?_ : K _ _ _ _ _ _))))
  · skip
    refine hK _ _ _ _ _ _ (And.intro (fun _ => ?_) (fun c9 => absurd (rfl) c9))
    iterate 2 refine hK _ _ _ _ _ _ (?_ : K _ _ _ _ _ _)
    refine hK _ _ _ _ _ _ (r_callV rfl (fun _ => rfl) rfl (b0 rfl rfl rfl) (kw_n (n := 1) (by decide) (by decide) (?_ : K _ _ _ _ _ _)))
    refine hK _ _ _ _ _ _ (And.intro (fun c9 => absurd c9 (nI1_0)) (fun _ => ?_))
    iterate 2 refine hK _ _ _ _ _ _ (?_ : K _ _ _ _ _ _)
    exact hK _ _ _ _ _ _ (r_iret rfl rfl rfl rfl (mq_n h9 hQ))
  · skip
    subst hx
    have hQ1 := mq_s h9 hQ
    refine hK _ _ _ _ _ _ (And.intro (fun c9 => absurd c9 (nI1_0)) (fun _ => ?_))
    iterate 1 refine hK _ _ _ _ _ _ (?_ : K _ _ _ _ _ _)
    refine hK _ _ _ _ _ _ (r_callS rfl (fun _ => rfl) (b0 rfl rfl rfl) (kX7_isHeight (fun h9 => (?_ : K _ _ _ _ _ _)) (fun k hk0 hk hx h9 => (?_ : K _ _ _ _ _ _))))
    · skip
      refine hK _ _ _ _ _ _ (And.intro (fun _ => ?_) (fun c9 => absurd (rfl) c9))
      iterate 2 refine hK _ _ _ _ _ _ (?_ : K _ _ _ _ _ _)
      refine hK _ _ _ _ _ _ (r_callV rfl (fun _ => rfl) rfl (b0 rfl rfl rfl) (kw_n (n := 2) (by decide) (by decide) (?_ : K _ _ _ _ _ _)))
      refine hK _ _ _ _ _ _ (And.intro (fun c9 => absurd c9 (nI1_0)) (fun _ => ?_))
      iterate 2 refine hK _ _ _ _ _ _ (?_ : K _ _ _ _ _ _)
      exact hK _ _ _ _ _ _ (r_iret rfl rfl rfl rfl (mq_n h9 hQ1))
    · skip
      subst hx
      have hQ2 := mq_s h9 hQ1
      refine hK _ _ _ _ _ _ (And.intro (fun c9 => absurd c9 (nI1_0)) (fun _ => ?_))
      iterate 1 refine hK _ _ _ _ _ _ (?_ : K _ _ _ _ _ _)
      refine hK _ _ _ _ _ _ (r_callV rfl (fun _ => rfl) rfl (b0 rfl rfl rfl) (kw_0 (?_ : K _ _ _ _ _ _)))
      refine hK _ _ _ _ _ _ (And.intro (fun _ => ?_) (fun c9 => absurd (rfl) c9))
      iterate 3 refine hK _ _ _ _ _ _ (?_ : K _ _ _ _ _ _)
      refine hK _ _ _ _ _ _ (r_callV rfl (fun _ => rfl) rfl (b0 rfl rfl rfl) (kX7_facesOf hA hp (by omega) (?_ : K _ _ _ _ _ _)))
      exact hK _ _ _ _ _ _ (r_iret rfl rfl rfl rfl (mi hQ2 hA hR))

set_option maxRecDepth 10000 in
/-- Model.corners -/
theorem kX7_corners {S : Nat × (Nat → Int32)} {d : Nat} {Q : eQ} {b : Bool} {X : Nat → va_E} {A mk ro nx pi : Nat → Int32} {kp : Nat → Int64} {km th : Int32} {T : List va_E} {P : Nat → Nat → Bool} {R : Nat → Bool} {x : Int32} (hI : IvC P R) (hA : MI P A) (hR : RI R ro) (hQ : mQ (.int (nI 0)) cmA (o_corners P R x) Q b X A ro T) : okCall S MT (d + 3) nX7_corners [.ref 24, .int x] (b, mW X A mk ro nx pi kp km th T) Q := by
  refine okc (M := MX7_corners) rfl rfl fun K hK hW => ?_
  show K 0 [(0, .ref 24), (1, .int x)] [] (b, mW X A mk ro nx pi kp km th T) 0 0
  unfold o_corners at hQ
  iterate 2 refine hK _ _ _ _ _ _ (?_ : K _ _ _ _ _ _)
  refine hK _ _ _ _ _ _ (r_callS rfl (fun _ => rfl) (b0 rfl rfl rfl) (kX7_isPlace (fun h9 => (?_ : K _ _ _ _ _ _)) (fun p _ hp hx h9 => (?_ : K _ _ _ _ _ _))))
  · skip
    refine hK _ _ _ _ _ _ (And.intro (fun _ => ?_) (fun c9 => absurd (rfl) c9))
    iterate 1 refine hK _ _ _ _ _ _ (?_ : K _ _ _ _ _ _)
    refine hK _ _ _ _ _ _ (r_callV rfl (fun _ => rfl) rfl (b0 rfl rfl rfl) (kw_n (n := 1) (by decide) (by decide) (?_ : K _ _ _ _ _ _)))
    refine hK _ _ _ _ _ _ (And.intro (fun c9 => absurd c9 (nI1_0)) (fun _ => ?_))
    iterate 2 refine hK _ _ _ _ _ _ (?_ : K _ _ _ _ _ _)
    exact hK _ _ _ _ _ _ (r_iret rfl rfl rfl rfl (mq_n h9 hQ))
  · skip
    subst hx
    have hQ1 := mq_s h9 hQ
    refine hK _ _ _ _ _ _ (And.intro (fun c9 => absurd c9 (nI1_0)) (fun _ => ?_))
    iterate 2 refine hK _ _ _ _ _ _ (?_ : K _ _ _ _ _ _)
    refine hK _ _ _ _ _ _ (r_callV rfl (fun _ => rfl) rfl (b0 rfl rfl rfl) (kw_0 (?_ : K _ _ _ _ _ _)))
    refine hK _ _ _ _ _ _ (And.intro (fun _ => ?_) (fun c9 => absurd (rfl) c9))
    iterate 2 refine hK _ _ _ _ _ _ (?_ : K _ _ _ _ _ _)
    refine hK _ _ _ _ _ _ (r_callV rfl (fun _ => rfl) rfl (b0 rfl rfl rfl) (kX7_cornersAt hA hp (?_ : K _ _ _ _ _ _)))
    exact hK _ _ _ _ _ _ (r_iret rfl rfl rfl rfl (mi hQ1 hA hR))

set_option maxRecDepth 10000 in
/-- Model.over -/
theorem kX7_over {S : Nat × (Nat → Int32)} {d : Nat} {Q : eQ} {b : Bool} {X : Nat → va_E} {A mk ro nx pi : Nat → Int32} {kp : Nat → Int64} {km th : Int32} {T : List va_E} {P : Nat → Nat → Bool} {R : Nat → Bool} {x : Int32} {y : Int32} (hI : IvC P R) (hA : MI P A) (hR : RI R ro) (hQ : mQ (.int (nI 0)) cmA (o_over P R x y) Q b X A ro T) : okCall S MT (d + 4) nX7_over [.ref 24, .int x, .int y] (b, mW X A mk ro nx pi kp km th T) Q := by
  refine okc (M := MX7_over) rfl rfl fun K hK hW => ?_
  show K 0 [(0, .ref 24), (1, .int x), (2, .int y)] [] (b, mW X A mk ro nx pi kp km th T) 0 0
  unfold o_over at hQ
  iterate 4 refine hK _ _ _ _ _ _ (?_ : K _ _ _ _ _ _)
  refine hK _ _ _ _ _ _ (r_callV rfl (fun _ => rfl) rfl (b0 rfl rfl rfl) (kX7_missing hA (fun h9 => (?_ : K _ _ _ _ _ _)) (fun p hp hx h9 h8 => (?_ : K _ _ _ _ _ _)) (fun p i hp hi1 hi hx hy h9 h8 hh => (?_ : K _ _ _ _ _ _)) (fun p i hp hi1 hi hx hy h9 h8 hh => (?_ : K _ _ _ _ _ _))))
  · skip
    refine hK _ _ _ _ _ _ (r_callV rfl (fun _ => rfl) rfl (b0 rfl rfl rfl) (kw_n (n := 1) (by decide) (by decide) (?_ : K _ _ _ _ _ _)))
    refine hK _ _ _ _ _ _ (And.intro (fun c9 => absurd c9 (nI1_0)) (fun _ => ?_))
    iterate 2 refine hK _ _ _ _ _ _ (?_ : K _ _ _ _ _ _)
    exact hK _ _ _ _ _ _ (r_iret rfl rfl rfl rfl (mq_n h9 hQ))
  · skip
    subst hx
    refine hK _ _ _ _ _ _ (r_callV rfl (fun _ => rfl) rfl (b0 rfl rfl rfl) (kw_n (n := 2) (by decide) (by decide) (?_ : K _ _ _ _ _ _)))
    refine hK _ _ _ _ _ _ (And.intro (fun c9 => absurd c9 (nI1_0)) (fun _ => ?_))
    iterate 2 refine hK _ _ _ _ _ _ (?_ : K _ _ _ _ _ _)
    exact hK _ _ _ _ _ _ (r_iret rfl rfl rfl rfl (mq_n h8 (mq_s h9 hQ)))
  · skip
    subst hx
    subst hy
    refine hK _ _ _ _ _ _ (r_callV rfl (fun _ => rfl) rfl (b0 rfl rfl rfl) (kw_n (n := 3) (by decide) (by decide) (?_ : K _ _ _ _ _ _)))
    refine hK _ _ _ _ _ _ (And.intro (fun c9 => absurd c9 (nI1_0)) (fun _ => ?_))
    iterate 2 refine hK _ _ _ _ _ _ (?_ : K _ _ _ _ _ _)
    exact hK _ _ _ _ _ _ (r_iret rfl rfl rfl rfl (mb_f hh (mq_s h8 (mq_s h9 hQ))))
  · skip
    subst hx
    subst hy
    have hQ1 := mb_t hh (mq_s h8 (mq_s h9 hQ))
    refine hK _ _ _ _ _ _ (r_callV rfl (fun _ => rfl) rfl (b0 rfl rfl rfl) (kw_0 (?_ : K _ _ _ _ _ _)))
    refine hK _ _ _ _ _ _ (And.intro (fun _ => ?_) (fun c9 => absurd (rfl) c9))
    iterate 3 refine hK _ _ _ _ _ _ (?_ : K _ _ _ _ _ _)
    refine hK _ _ _ _ _ _ (r_callV rfl (fun _ => rfl) rfl (b0 rfl rfl rfl) (kX7_overAt hA hp hi (?_ : K _ _ _ _ _ _)))
    exact hK _ _ _ _ _ _ (r_iret rfl rfl rfl rfl (mi hQ1 hA hR))

set_option maxRecDepth 10000 in
/-- Model.greatest -/
theorem kX7_greatest {S : Nat × (Nat → Int32)} {d : Nat} {Q : eQ} {b : Bool} {X : Nat → va_E} {A mk ro nx pi : Nat → Int32} {kp : Nat → Int64} {km th : Int32} {T : List va_E} {P : Nat → Nat → Bool} {R : Nat → Bool} {x : Int32} (hI : IvC P R) (hA : MI P A) (hR : RI R ro) (hQ : mQ (.int (nI 0)) cmA (o_greatest P R x) Q b X A ro T) : okCall S MT (d + 5) nX7_greatest [.ref 24, .int x] (b, mW X A mk ro nx pi kp km th T) Q := by
  refine okc (M := MX7_greatest) rfl rfl fun K hK hW => ?_
  show K 0 [(0, .ref 24), (1, .int x)] [] (b, mW X A mk ro nx pi kp km th T) 0 0
  unfold o_greatest at hQ
  iterate 2 refine hK _ _ _ _ _ _ (?_ : K _ _ _ _ _ _)
  refine hK _ _ _ _ _ _ (r_callS rfl (fun _ => rfl) (b0 rfl rfl rfl) (kX7_isPlace (fun h9 => (?_ : K _ _ _ _ _ _)) (fun p _ hp hx h9 => (?_ : K _ _ _ _ _ _))))
  · skip
    refine hK _ _ _ _ _ _ (And.intro (fun _ => ?_) (fun c9 => absurd (rfl) c9))
    iterate 1 refine hK _ _ _ _ _ _ (?_ : K _ _ _ _ _ _)
    refine hK _ _ _ _ _ _ (r_callV rfl (fun _ => rfl) rfl (b0 rfl rfl rfl) (kw_n (n := 1) (by decide) (by decide) (?_ : K _ _ _ _ _ _)))
    refine hK _ _ _ _ _ _ (And.intro (fun c9 => absurd c9 (nI1_0)) (fun _ => ?_))
    iterate 2 refine hK _ _ _ _ _ _ (?_ : K _ _ _ _ _ _)
    exact hK _ _ _ _ _ _ (r_iret rfl rfl rfl rfl (mq_n h9 hQ))
  · skip
    subst hx
    have hQ1 := mq_s h9 hQ
    refine hK _ _ _ _ _ _ (And.intro (fun c9 => absurd c9 (nI1_0)) (fun _ => ?_))
    iterate 2 refine hK _ _ _ _ _ _ (?_ : K _ _ _ _ _ _)
    refine hK _ _ _ _ _ _ (r_callV rfl (fun _ => rfl) rfl (b0 rfl rfl rfl) (kw_0 (?_ : K _ _ _ _ _ _)))
    refine hK _ _ _ _ _ _ (And.intro (fun _ => ?_) (fun c9 => absurd (rfl) c9))
    iterate 2 refine hK _ _ _ _ _ _ (?_ : K _ _ _ _ _ _)
    refine hK _ _ _ _ _ _ (r_callV rfl (fun _ => rfl) rfl (b0 rfl rfl rfl) (kX7_greatestOf hA hp (?_ : K _ _ _ _ _ _)))
    rw [gr_ct (hI.1 p hp)]
    exact hK _ _ _ _ _ _ (r_iret rfl rfl rfl rfl (mi hQ1 hA hR))

set_option maxRecDepth 10000 in
/-- Model.isOf -/
theorem kX7_isOf {S : Nat × (Nat → Int32)} {d : Nat} {Q : eQ} {b : Bool} {X : Nat → va_E} {A mk ro nx pi : Nat → Int32} {kp : Nat → Int64} {km th : Int32} {T : List va_E} {P : Nat → Nat → Bool} {p q : Nat} (hA : MI P A) (hp : p < 6) (hq : q < 6) (hQ : Q (.inl (some (.int (b2i (ofB (P p) (P q) 128))))) (b, mW X A mk ro nx pi kp km th T)) : okCall S MT (d + 2) nX7_isOf [.ref 24, .int (nI p), .int (nI q)] (b, mW X A mk ro nx pi kp km th T) Q := by
  refine okc (M := MX7_isOf) rfl rfl fun K hK hW => ?_
  show K 0 [(0, .ref 24), (1, .int (nI p)), (2, .int (nI q))] [] (b, mW X A mk ro nx pi kp km th T) 0 0
  iterate 4 refine hK _ _ _ _ _ _ (?_ : K _ _ _ _ _ _)
  refine hW _ _ [(4, .int (nI (1))), (3, .int (b2i (ofB (P p) (P q) (1)))), (0, .ref 24), (1, .int (nI p)), (2, .int (nI q))] _ _ _ _ (by simp [show b2i (ofB (P p) (P q) 1) = nI 1 from rfl]) ?_
  refine up (P := fun k => K 5 [(4, .int (nI (k))), (3, .int (b2i (ofB (P p) (P q) (k)))), (0, .ref 24), (1, .int (nI p)), (2, .int (nI q))] [] (b, mW X A mk ro nx pi kp km th T) 0 0) 128 1 ?_ ?_ (by decide)
  · skip
    iterate 2 refine hK _ _ _ _ _ _ (?_ : K _ _ _ _ _ _)
    refine hK _ _ _ _ _ _ (And.intro (fun _ => ?_) (fun c9 => absurd (nI_le (Nat.le_refl 128) (by decide)) c9))
    iterate 1 refine hK _ _ _ _ _ _ (?_ : K _ _ _ _ _ _)
    exact hK _ _ _ _ _ _ (r_iret rfl (b2i_nar _) rfl rfl hQ)
  · intro k h0k hk ihk
    iterate 2 refine hK _ _ _ _ _ _ (?_ : K _ _ _ _ _ _)
    refine hK _ _ _ _ _ _ (And.intro (fun c9 => absurd c9 (nI_ge (by omega) (by decide))) (fun _ => ?_))
    iterate 4 refine hK _ _ _ _ _ _ (?_ : K _ _ _ _ _ _)
    refine hK _ _ _ _ _ _ (r_callV rfl (fun _ => rfl) rfl (b0 rfl rfl rfl) (kX7_isThere (i := k) hA hp (by omega) (by omega) (?_ : K _ _ _ _ _ _)))
    refine hK _ _ _ _ _ _ (And.intro (fun c1 => ?_) (fun c1 => ?_))
    · skip
      iterate 3 refine hK _ _ _ _ _ _ (?_ : K _ _ _ _ _ _)
      refine hK _ _ _ _ _ _ (r_callV rfl (fun _ => rfl) rfl (b0 rfl rfl rfl) (kX7_isThere (i := k) hA hq (by omega) (by omega) (?_ : K _ _ _ _ _ _)))
      refine hK _ _ _ _ _ _ (And.intro (fun c2 => ?_) (fun c2 => ?_))
      · skip
        iterate 6 refine hK _ _ _ _ _ _ (?_ : K _ _ _ _ _ _)
        have e1 : ofB (P p) (P q) (k + 1) = ofB (P p) (P q) k := by rw [ofB_s (by omega), (b2i_0.mp c2)]; simp
        rw [e1] at ihk
        rw [and_1, nI_add k 1]
        first | exact ihk | exact hW _ _ _ _ _ _ _ (by simp) ihk
      · skip
        iterate 5 refine hK _ _ _ _ _ _ (?_ : K _ _ _ _ _ _)
        have e1 : ofB (P p) (P q) (k + 1) = false := by rw [ofB_s (by omega), (b2i_0.mp c1), (Bool.of_not_eq_false fun c9 => c2 (b2i_0.mpr c9))]; simp
        rw [e1] at ihk
        rw [and_0, nI_add k 1]
        first | exact ihk | exact hW _ _ _ _ _ _ _ (by simp) ihk
    · skip
      iterate 6 refine hK _ _ _ _ _ _ (?_ : K _ _ _ _ _ _)
      have e1 : ofB (P p) (P q) (k + 1) = ofB (P p) (P q) k := by rw [ofB_s (by omega), (Bool.of_not_eq_false fun c9 => c1 (b2i_0.mpr c9))]; simp
      rw [e1] at ihk
      rw [and_1, nI_add k 1]
      first | exact ihk | exact hW _ _ _ _ _ _ _ (by simp) ihk

set_option maxRecDepth 10000 in
/-- Model.isSame -/
theorem kX7_isSame {S : Nat × (Nat → Int32)} {d : Nat} {Q : eQ} {b : Bool} {X : Nat → va_E} {A mk ro nx pi : Nat → Int32} {kp : Nat → Int64} {km th : Int32} {T : List va_E} {P : Nat → Nat → Bool} {R : Nat → Bool} {x : Int32} {y : Int32} (hI : IvC P R) (hA : MI P A) (hR : RI R ro) (hQ : mQ (.int (nI 0)) cmA (o_isSame P R x y) Q b X A ro T) : okCall S MT (d + 3) nX7_isSame [.ref 24, .int x, .int y] (b, mW X A mk ro nx pi kp km th T) Q := by
  refine okc (M := MX7_isSame) rfl rfl fun K hK hW => ?_
  show K 0 [(0, .ref 24), (1, .int x), (2, .int y)] [] (b, mW X A mk ro nx pi kp km th T) 0 0
  unfold o_isSame at hQ
  iterate 2 refine hK _ _ _ _ _ _ (?_ : K _ _ _ _ _ _)
  refine hK _ _ _ _ _ _ (r_callS rfl (fun _ => rfl) (b0 rfl rfl rfl) (kX7_isPlace (fun h9 => (?_ : K _ _ _ _ _ _)) (fun p _ hp hx h9 => (?_ : K _ _ _ _ _ _))))
  · skip
    refine hK _ _ _ _ _ _ (And.intro (fun _ => ?_) (fun c9 => absurd (rfl) c9))
    iterate 1 refine hK _ _ _ _ _ _ (?_ : K _ _ _ _ _ _)
    refine hK _ _ _ _ _ _ (r_callV rfl (fun _ => rfl) rfl (b0 rfl rfl rfl) (kw_n (n := 1) (by decide) (by decide) (?_ : K _ _ _ _ _ _)))
    refine hK _ _ _ _ _ _ (And.intro (fun c9 => absurd c9 (nI1_0)) (fun _ => ?_))
    iterate 1 refine hK _ _ _ _ _ _ (?_ : K _ _ _ _ _ _)
    exact hK _ _ _ _ _ _ (r_iret rfl rfl rfl rfl (mq_n h9 hQ))
  · skip
    subst hx
    have hQ1 := mq_s h9 hQ
    refine hK _ _ _ _ _ _ (And.intro (fun c9 => absurd c9 (nI1_0)) (fun _ => ?_))
    iterate 1 refine hK _ _ _ _ _ _ (?_ : K _ _ _ _ _ _)
    refine hK _ _ _ _ _ _ (r_callS rfl (fun _ => rfl) (b0 rfl rfl rfl) (kX7_isPlace (fun h9 => (?_ : K _ _ _ _ _ _)) (fun q _ hq hx h9 => (?_ : K _ _ _ _ _ _))))
    · skip
      refine hK _ _ _ _ _ _ (And.intro (fun _ => ?_) (fun c9 => absurd (rfl) c9))
      iterate 1 refine hK _ _ _ _ _ _ (?_ : K _ _ _ _ _ _)
      refine hK _ _ _ _ _ _ (r_callV rfl (fun _ => rfl) rfl (b0 rfl rfl rfl) (kw_n (n := 1) (by decide) (by decide) (?_ : K _ _ _ _ _ _)))
      refine hK _ _ _ _ _ _ (And.intro (fun c9 => absurd c9 (nI1_0)) (fun _ => ?_))
      iterate 1 refine hK _ _ _ _ _ _ (?_ : K _ _ _ _ _ _)
      exact hK _ _ _ _ _ _ (r_iret rfl rfl rfl rfl (mq_n h9 hQ1))
    · skip
      subst hx
      have hQ2 := mq_s h9 hQ1
      refine hK _ _ _ _ _ _ (And.intro (fun c9 => absurd c9 (nI1_0)) (fun _ => ?_))
      iterate 2 refine hK _ _ _ _ _ _ (?_ : K _ _ _ _ _ _)
      refine hK _ _ _ _ _ _ (r_callV rfl (fun _ => rfl) rfl (b0 rfl rfl rfl) (kw_0 (?_ : K _ _ _ _ _ _)))
      refine hK _ _ _ _ _ _ (And.intro (fun _ => ?_) (fun c9 => absurd (rfl) c9))
      iterate 3 refine hK _ _ _ _ _ _ (?_ : K _ _ _ _ _ _)
      refine hK _ _ _ _ _ _ (r_callV rfl (fun _ => rfl) rfl (b0 rfl rfl rfl) (kX7_isOf hA hp hq (?_ : K _ _ _ _ _ _)))
      refine hK _ _ _ _ _ _ (And.intro (fun c1 => ?_) (fun c1 => ?_))
      · skip
        iterate 1 refine hK _ _ _ _ _ _ (?_ : K _ _ _ _ _ _)
        rw [same_v (hI.1 p hp).1 (hI.1 q hq).1, (b2i_0.mp c1), Bool.false_and] at hQ2
        exact hK _ _ _ _ _ _ (r_iret rfl rfl rfl rfl (mi hQ2 hA hR))
      · skip
        iterate 3 refine hK _ _ _ _ _ _ (?_ : K _ _ _ _ _ _)
        refine hK _ _ _ _ _ _ (r_callV rfl (fun _ => rfl) rfl (b0 rfl rfl rfl) (kX7_isOf hA hq hp (?_ : K _ _ _ _ _ _)))
        refine hK _ _ _ _ _ _ (And.intro (fun c2 => ?_) (fun c2 => ?_))
        · skip
          iterate 1 refine hK _ _ _ _ _ _ (?_ : K _ _ _ _ _ _)
          rw [same_v (hI.1 p hp).1 (hI.1 q hq).1, (b2i_0.mp c2), Bool.and_false] at hQ2
          exact hK _ _ _ _ _ _ (r_iret rfl rfl rfl rfl (mi hQ2 hA hR))
        · skip
          iterate 2 refine hK _ _ _ _ _ _ (?_ : K _ _ _ _ _ _)
          rw [same_v (hI.1 p hp).1 (hI.1 q hq).1, (Bool.of_not_eq_false fun c9 => c1 (b2i_0.mpr c9)), (Bool.of_not_eq_false fun c9 => c2 (b2i_0.mpr c9))] at hQ2
          exact hK _ _ _ _ _ _ (r_iret rfl rfl rfl rfl (mi hQ2 hA hR))

set_option maxRecDepth 10000 in
/-- Model.contains -/
theorem kX7_contains {S : Nat × (Nat → Int32)} {d : Nat} {Q : eQ} {b : Bool} {X : Nat → va_E} {A mk ro nx pi : Nat → Int32} {kp : Nat → Int64} {km th : Int32} {T : List va_E} {P : Nat → Nat → Bool} {R : Nat → Bool} {x : Int32} {y : Int32} (hI : IvC P R) (hA : MI P A) (hR : RI R ro) (hQ : mQ (.int (nI 0)) cmA (o_contains P R x y) Q b X A ro T) : okCall S MT (d + 3) nX7_contains [.ref 24, .int x, .int y] (b, mW X A mk ro nx pi kp km th T) Q := by
  refine okc (M := MX7_contains) rfl rfl fun K hK hW => ?_
  show K 0 [(0, .ref 24), (1, .int x), (2, .int y)] [] (b, mW X A mk ro nx pi kp km th T) 0 0
  unfold o_contains at hQ
  iterate 2 refine hK _ _ _ _ _ _ (?_ : K _ _ _ _ _ _)
  refine hK _ _ _ _ _ _ (r_callS rfl (fun _ => rfl) (b0 rfl rfl rfl) (kX7_isPlace (fun h9 => (?_ : K _ _ _ _ _ _)) (fun p _ hp hx h9 => (?_ : K _ _ _ _ _ _))))
  · skip
    refine hK _ _ _ _ _ _ (And.intro (fun _ => ?_) (fun c9 => absurd (rfl) c9))
    iterate 1 refine hK _ _ _ _ _ _ (?_ : K _ _ _ _ _ _)
    refine hK _ _ _ _ _ _ (r_callV rfl (fun _ => rfl) rfl (b0 rfl rfl rfl) (kw_n (n := 1) (by decide) (by decide) (?_ : K _ _ _ _ _ _)))
    refine hK _ _ _ _ _ _ (And.intro (fun c9 => absurd c9 (nI1_0)) (fun _ => ?_))
    iterate 1 refine hK _ _ _ _ _ _ (?_ : K _ _ _ _ _ _)
    exact hK _ _ _ _ _ _ (r_iret rfl rfl rfl rfl (mq_n h9 hQ))
  · skip
    subst hx
    have hQ1 := mq_s h9 hQ
    refine hK _ _ _ _ _ _ (And.intro (fun c9 => absurd c9 (nI1_0)) (fun _ => ?_))
    iterate 1 refine hK _ _ _ _ _ _ (?_ : K _ _ _ _ _ _)
    refine hK _ _ _ _ _ _ (r_callS rfl (fun _ => rfl) (b0 rfl rfl rfl) (kX7_isPlace (fun h9 => (?_ : K _ _ _ _ _ _)) (fun q _ hq hx h9 => (?_ : K _ _ _ _ _ _))))
    · skip
      refine hK _ _ _ _ _ _ (And.intro (fun _ => ?_) (fun c9 => absurd (rfl) c9))
      iterate 1 refine hK _ _ _ _ _ _ (?_ : K _ _ _ _ _ _)
      refine hK _ _ _ _ _ _ (r_callV rfl (fun _ => rfl) rfl (b0 rfl rfl rfl) (kw_n (n := 1) (by decide) (by decide) (?_ : K _ _ _ _ _ _)))
      refine hK _ _ _ _ _ _ (And.intro (fun c9 => absurd c9 (nI1_0)) (fun _ => ?_))
      iterate 1 refine hK _ _ _ _ _ _ (?_ : K _ _ _ _ _ _)
      exact hK _ _ _ _ _ _ (r_iret rfl rfl rfl rfl (mq_n h9 hQ1))
    · skip
      subst hx
      have hQ2 := mq_s h9 hQ1
      refine hK _ _ _ _ _ _ (And.intro (fun c9 => absurd c9 (nI1_0)) (fun _ => ?_))
      iterate 2 refine hK _ _ _ _ _ _ (?_ : K _ _ _ _ _ _)
      refine hK _ _ _ _ _ _ (r_callV rfl (fun _ => rfl) rfl (b0 rfl rfl rfl) (kw_0 (?_ : K _ _ _ _ _ _)))
      refine hK _ _ _ _ _ _ (And.intro (fun _ => ?_) (fun c9 => absurd (rfl) c9))
      iterate 3 refine hK _ _ _ _ _ _ (?_ : K _ _ _ _ _ _)
      refine hK _ _ _ _ _ _ (r_callV rfl (fun _ => rfl) rfl (b0 rfl rfl rfl) (kX7_isOf hA hp hq (?_ : K _ _ _ _ _ _)))
      refine hK _ _ _ _ _ _ (And.intro (fun c1 => ?_) (fun c1 => ?_))
      · skip
        iterate 1 refine hK _ _ _ _ _ _ (?_ : K _ _ _ _ _ _)
        rw [ofB_v (hI.1 q hq).1, (b2i_0.mp c1)] at hQ2
        exact hK _ _ _ _ _ _ (r_iret rfl rfl rfl rfl (mi hQ2 hA hR))
      · skip
        iterate 2 refine hK _ _ _ _ _ _ (?_ : K _ _ _ _ _ _)
        rw [ofB_v (hI.1 q hq).1, (Bool.of_not_eq_false fun c9 => c1 (b2i_0.mpr c9))] at hQ2
        exact hK _ _ _ _ _ _ (r_iret rfl rfl rfl rfl (mi hQ2 hA hR))

set_option maxRecDepth 10000 in
/-- Model.isSound -/
theorem kX7_isSound {S : Nat × (Nat → Int32)} {d : Nat} {Q : eQ} {b : Bool} {X : Nat → va_E} {A mk ro nx pi : Nat → Int32} {kp : Nat → Int64} {km th : Int32} {T : List va_E} {P : Nat → Nat → Bool} {R : Nat → Bool} {x : Int32} (hI : IvC P R) (hA : MI P A) (hR : RI R ro) (hQ : mQ (.int (nI 0)) cmA (o_isSound P R x) Q b X A ro T) : okCall S MT (d + 3) nX7_isSound [.ref 24, .int x] (b, mW X A mk ro nx pi kp km th T) Q := by
  refine okc (M := MX7_isSound) rfl rfl fun K hK hW => ?_
  show K 0 [(0, .ref 24), (1, .int x)] [] (b, mW X A mk ro nx pi kp km th T) 0 0
  unfold o_isSound at hQ
  iterate 2 refine hK _ _ _ _ _ _ (?_ : K _ _ _ _ _ _)
  refine hK _ _ _ _ _ _ (r_callS rfl (fun _ => rfl) (b0 rfl rfl rfl) (kX7_isPlace (fun h9 => (?_ : K _ _ _ _ _ _)) (fun p _ hp hx h9 => (?_ : K _ _ _ _ _ _))))
  · skip
    refine hK _ _ _ _ _ _ (And.intro (fun _ => ?_) (fun c9 => absurd (rfl) c9))
    iterate 1 refine hK _ _ _ _ _ _ (?_ : K _ _ _ _ _ _)
    refine hK _ _ _ _ _ _ (r_callV rfl (fun _ => rfl) rfl (b0 rfl rfl rfl) (kw_n (n := 1) (by decide) (by decide) (?_ : K _ _ _ _ _ _)))
    refine hK _ _ _ _ _ _ (And.intro (fun c9 => absurd c9 (nI1_0)) (fun _ => ?_))
    iterate 1 refine hK _ _ _ _ _ _ (?_ : K _ _ _ _ _ _)
    exact hK _ _ _ _ _ _ (r_iret rfl rfl rfl rfl (mq_n h9 hQ))
  · skip
    subst hx
    have hQ1 := mq_s h9 hQ
    refine hK _ _ _ _ _ _ (And.intro (fun c9 => absurd c9 (nI1_0)) (fun _ => ?_))
    iterate 2 refine hK _ _ _ _ _ _ (?_ : K _ _ _ _ _ _)
    refine hK _ _ _ _ _ _ (r_callV rfl (fun _ => rfl) rfl (b0 rfl rfl rfl) (kw_0 (?_ : K _ _ _ _ _ _)))
    refine hK _ _ _ _ _ _ (And.intro (fun _ => ?_) (fun c9 => absurd (rfl) c9))
    iterate 2 refine hK _ _ _ _ _ _ (?_ : K _ _ _ _ _ _)
    exact hK _ _ _ _ _ _ (r_iret rfl rfl rfl rfl (mi hQ1 hA hR))

set_option maxRecDepth 10000 in
/-- Model.isTrue -/
theorem kX7_isTrue {S : Nat × (Nat → Int32)} {d : Nat} {Q : eQ} {b : Bool} {X : Nat → va_E} {A mk ro nx pi : Nat → Int32} {kp : Nat → Int64} {km th : Int32} {T : List va_E} {P : Nat → Nat → Bool} {R : Nat → Bool} {x : Int32} {y : Int32} {z : Int32} (hI : IvC P R) (hA : MI P A) (hR : RI R ro) (hQ : mQ (.int (nI 0)) cmA (o_isTrue P R x y z) Q b X A ro T) : okCall S MT (d + 3) nX7_isTrue [.ref 24, .int x, .int y, .int z] (b, mW X A mk ro nx pi kp km th T) Q := by
  refine okc (M := MX7_isTrue) rfl rfl fun K hK hW => ?_
  show K 0 [(0, .ref 24), (1, .int x), (2, .int y), (3, .int z)] [] (b, mW X A mk ro nx pi kp km th T) 0 0
  unfold o_isTrue at hQ
  iterate 2 refine hK _ _ _ _ _ _ (?_ : K _ _ _ _ _ _)
  refine hK _ _ _ _ _ _ (r_callS rfl (fun _ => rfl) (b0 rfl rfl rfl) (kX7_isPlace (fun h9 => (?_ : K _ _ _ _ _ _)) (fun p _ hp hx h9 => (?_ : K _ _ _ _ _ _))))
  · skip
    refine hK _ _ _ _ _ _ (And.intro (fun _ => ?_) (fun c9 => absurd (rfl) c9))
    iterate 2 refine hK _ _ _ _ _ _ (?_ : K _ _ _ _ _ _)
    refine hK _ _ _ _ _ _ (r_callV rfl (fun _ => rfl) rfl (b0 rfl rfl rfl) (kw_n (n := 1) (by decide) (by decide) (?_ : K _ _ _ _ _ _)))
    refine hK _ _ _ _ _ _ (And.intro (fun c9 => absurd c9 (nI1_0)) (fun _ => ?_))
    iterate 1 refine hK _ _ _ _ _ _ (?_ : K _ _ _ _ _ _)
    exact hK _ _ _ _ _ _ (r_iret rfl rfl rfl rfl (mq_n h9 hQ))
  · skip
    subst hx
    have hQ1 := mq_s h9 hQ
    refine hK _ _ _ _ _ _ (And.intro (fun c9 => absurd c9 (nI1_0)) (fun _ => ?_))
    iterate 1 refine hK _ _ _ _ _ _ (?_ : K _ _ _ _ _ _)
    refine hK _ _ _ _ _ _ (r_callS rfl (fun _ => rfl) (b0 rfl rfl rfl) (kX7_isCorner (fun h9 => (?_ : K _ _ _ _ _ _)) (fun c _ hc hx h9 => (?_ : K _ _ _ _ _ _))))
    · skip
      refine hK _ _ _ _ _ _ (And.intro (fun _ => ?_) (fun c9 => absurd (rfl) c9))
      iterate 2 refine hK _ _ _ _ _ _ (?_ : K _ _ _ _ _ _)
      refine hK _ _ _ _ _ _ (r_callV rfl (fun _ => rfl) rfl (b0 rfl rfl rfl) (kw_n (n := 2) (by decide) (by decide) (?_ : K _ _ _ _ _ _)))
      refine hK _ _ _ _ _ _ (And.intro (fun c9 => absurd c9 (nI1_0)) (fun _ => ?_))
      iterate 1 refine hK _ _ _ _ _ _ (?_ : K _ _ _ _ _ _)
      exact hK _ _ _ _ _ _ (r_iret rfl rfl rfl rfl (mq_n h9 hQ1))
    · skip
      subst hx
      have hQ2 := mq_s h9 hQ1
      refine hK _ _ _ _ _ _ (And.intro (fun c9 => absurd c9 (nI1_0)) (fun _ => ?_))
      iterate 1 refine hK _ _ _ _ _ _ (?_ : K _ _ _ _ _ _)
      refine hK _ _ _ _ _ _ (r_callS rfl (fun _ => rfl) (b0 rfl rfl rfl) (kX7_isCorner (fun h9 => (?_ : K _ _ _ _ _ _)) (fun d _ hd hx h9 => (?_ : K _ _ _ _ _ _))))
      · skip
        refine hK _ _ _ _ _ _ (And.intro (fun _ => ?_) (fun c9 => absurd (rfl) c9))
        iterate 2 refine hK _ _ _ _ _ _ (?_ : K _ _ _ _ _ _)
        refine hK _ _ _ _ _ _ (r_callV rfl (fun _ => rfl) rfl (b0 rfl rfl rfl) (kw_n (n := 2) (by decide) (by decide) (?_ : K _ _ _ _ _ _)))
        refine hK _ _ _ _ _ _ (And.intro (fun c9 => absurd c9 (nI1_0)) (fun _ => ?_))
        iterate 1 refine hK _ _ _ _ _ _ (?_ : K _ _ _ _ _ _)
        exact hK _ _ _ _ _ _ (r_iret rfl rfl rfl rfl (mq_n h9 hQ2))
      · skip
        subst hx
        have hQ3 := mq_s h9 hQ2
        refine hK _ _ _ _ _ _ (And.intro (fun c9 => absurd c9 (nI1_0)) (fun _ => ?_))
        iterate 1 refine hK _ _ _ _ _ _ (?_ : K _ _ _ _ _ _)
        refine hK _ _ _ _ _ _ (r_callV rfl (fun _ => rfl) rfl (b0 rfl rfl rfl) (kw_0 (?_ : K _ _ _ _ _ _)))
        refine hK _ _ _ _ _ _ (And.intro (fun _ => ?_) (fun c9 => absurd (rfl) c9))
        iterate 2 refine hK _ _ _ _ _ _ (?_ : K _ _ _ _ _ _)
        exact hK _ _ _ _ _ _ (r_iret rfl rfl rfl rfl (mi hQ3 hA hR))

set_option maxRecDepth 10000 in
/-- Model.faceIsTrue -/
theorem kX7_faceIsTrue {S : Nat × (Nat → Int32)} {d : Nat} {Q : eQ} {b : Bool} {X : Nat → va_E} {A mk ro nx pi : Nat → Int32} {kp : Nat → Int64} {km th : Int32} {T : List va_E} {P : Nat → Nat → Bool} {R : Nat → Bool} {x : Int32} {y : Int32} (hI : IvC P R) (hA : MI P A) (hR : RI R ro) (hQ : mQ (.int (nI 0)) cmA (o_faceIsTrue P R x y) Q b X A ro T) : okCall S MT (d + 4) nX7_faceIsTrue [.ref 24, .int x, .int y] (b, mW X A mk ro nx pi kp km th T) Q := by
  refine okc (M := MX7_faceIsTrue) rfl rfl fun K hK hW => ?_
  show K 0 [(0, .ref 24), (1, .int x), (2, .int y)] [] (b, mW X A mk ro nx pi kp km th T) 0 0
  unfold o_faceIsTrue at hQ
  iterate 4 refine hK _ _ _ _ _ _ (?_ : K _ _ _ _ _ _)
  refine hK _ _ _ _ _ _ (r_callV rfl (fun _ => rfl) rfl (b0 rfl rfl rfl) (kX7_missing hA (fun h9 => (?_ : K _ _ _ _ _ _)) (fun p hp hx h9 h8 => (?_ : K _ _ _ _ _ _)) (fun p i hp hi1 hi hx hy h9 h8 hh => (?_ : K _ _ _ _ _ _)) (fun p i hp hi1 hi hx hy h9 h8 hh => (?_ : K _ _ _ _ _ _))))
  · skip
    refine hK _ _ _ _ _ _ (r_callV rfl (fun _ => rfl) rfl (b0 rfl rfl rfl) (kw_n (n := 1) (by decide) (by decide) (?_ : K _ _ _ _ _ _)))
    refine hK _ _ _ _ _ _ (And.intro (fun c9 => absurd c9 (nI1_0)) (fun _ => ?_))
    iterate 1 refine hK _ _ _ _ _ _ (?_ : K _ _ _ _ _ _)
    exact hK _ _ _ _ _ _ (r_iret rfl rfl rfl rfl (mq_n h9 hQ))
  · skip
    subst hx
    refine hK _ _ _ _ _ _ (r_callV rfl (fun _ => rfl) rfl (b0 rfl rfl rfl) (kw_n (n := 2) (by decide) (by decide) (?_ : K _ _ _ _ _ _)))
    refine hK _ _ _ _ _ _ (And.intro (fun c9 => absurd c9 (nI1_0)) (fun _ => ?_))
    iterate 1 refine hK _ _ _ _ _ _ (?_ : K _ _ _ _ _ _)
    exact hK _ _ _ _ _ _ (r_iret rfl rfl rfl rfl (mq_n h8 (mq_s h9 hQ)))
  · skip
    subst hx
    subst hy
    refine hK _ _ _ _ _ _ (r_callV rfl (fun _ => rfl) rfl (b0 rfl rfl rfl) (kw_n (n := 3) (by decide) (by decide) (?_ : K _ _ _ _ _ _)))
    refine hK _ _ _ _ _ _ (And.intro (fun c9 => absurd c9 (nI1_0)) (fun _ => ?_))
    iterate 1 refine hK _ _ _ _ _ _ (?_ : K _ _ _ _ _ _)
    exact hK _ _ _ _ _ _ (r_iret rfl rfl rfl rfl (mb_f hh (mq_s h8 (mq_s h9 hQ))))
  · skip
    subst hx
    subst hy
    have hQ1 := mb_t hh (mq_s h8 (mq_s h9 hQ))
    refine hK _ _ _ _ _ _ (r_callV rfl (fun _ => rfl) rfl (b0 rfl rfl rfl) (kw_0 (?_ : K _ _ _ _ _ _)))
    refine hK _ _ _ _ _ _ (And.intro (fun _ => ?_) (fun c9 => absurd (rfl) c9))
    iterate 2 refine hK _ _ _ _ _ _ (?_ : K _ _ _ _ _ _)
    exact hK _ _ _ _ _ _ (r_iret rfl rfl rfl rfl (mi hQ1 hA hR))

set_option maxRecDepth 10000 in
/-- Model.pairIsTrue -/
theorem kX7_pairIsTrue {S : Nat × (Nat → Int32)} {d : Nat} {Q : eQ} {b : Bool} {X : Nat → va_E} {A mk ro nx pi : Nat → Int32} {kp : Nat → Int64} {km th : Int32} {T : List va_E} {P : Nat → Nat → Bool} {R : Nat → Bool} {x : Int32} {y : Int32} (hI : IvC P R) (hA : MI P A) (hR : RI R ro) (hQ : mQ (.int (nI 0)) cmA (o_pairIsTrue P R x y) Q b X A ro T) : okCall S MT (d + 3) nX7_pairIsTrue [.ref 24, .int x, .int y] (b, mW X A mk ro nx pi kp km th T) Q := by
  refine okc (M := MX7_pairIsTrue) rfl rfl fun K hK hW => ?_
  show K 0 [(0, .ref 24), (1, .int x), (2, .int y)] [] (b, mW X A mk ro nx pi kp km th T) 0 0
  unfold o_pairIsTrue at hQ
  iterate 2 refine hK _ _ _ _ _ _ (?_ : K _ _ _ _ _ _)
  refine hK _ _ _ _ _ _ (r_callS rfl (fun _ => rfl) (b0 rfl rfl rfl) (kX7_isPlace (fun h9 => (?_ : K _ _ _ _ _ _)) (fun p _ hp hx h9 => (?_ : K _ _ _ _ _ _))))
  · skip
    refine hK _ _ _ _ _ _ (And.intro (fun _ => ?_) (fun c9 => absurd (rfl) c9))
    iterate 1 refine hK _ _ _ _ _ _ (?_ : K _ _ _ _ _ _)
    refine hK _ _ _ _ _ _ (r_callV rfl (fun _ => rfl) rfl (b0 rfl rfl rfl) (kw_n (n := 1) (by decide) (by decide) (?_ : K _ _ _ _ _ _)))
    refine hK _ _ _ _ _ _ (And.intro (fun c9 => absurd c9 (nI1_0)) (fun _ => ?_))
    iterate 1 refine hK _ _ _ _ _ _ (?_ : K _ _ _ _ _ _)
    exact hK _ _ _ _ _ _ (r_iret rfl rfl rfl rfl (mq_n h9 hQ))
  · skip
    subst hx
    have hQ1 := mq_s h9 hQ
    refine hK _ _ _ _ _ _ (And.intro (fun c9 => absurd c9 (nI1_0)) (fun _ => ?_))
    iterate 1 refine hK _ _ _ _ _ _ (?_ : K _ _ _ _ _ _)
    refine hK _ _ _ _ _ _ (r_callS rfl (fun _ => rfl) (b0 rfl rfl rfl) (kX7_isPlace (fun h9 => (?_ : K _ _ _ _ _ _)) (fun q _ hq hx h9 => (?_ : K _ _ _ _ _ _))))
    · skip
      refine hK _ _ _ _ _ _ (And.intro (fun _ => ?_) (fun c9 => absurd (rfl) c9))
      iterate 1 refine hK _ _ _ _ _ _ (?_ : K _ _ _ _ _ _)
      refine hK _ _ _ _ _ _ (r_callV rfl (fun _ => rfl) rfl (b0 rfl rfl rfl) (kw_n (n := 1) (by decide) (by decide) (?_ : K _ _ _ _ _ _)))
      refine hK _ _ _ _ _ _ (And.intro (fun c9 => absurd c9 (nI1_0)) (fun _ => ?_))
      iterate 1 refine hK _ _ _ _ _ _ (?_ : K _ _ _ _ _ _)
      exact hK _ _ _ _ _ _ (r_iret rfl rfl rfl rfl (mq_n h9 hQ1))
    · skip
      subst hx
      have hQ2 := mq_s h9 hQ1
      refine hK _ _ _ _ _ _ (And.intro (fun c9 => absurd c9 (nI1_0)) (fun _ => ?_))
      iterate 2 refine hK _ _ _ _ _ _ (?_ : K _ _ _ _ _ _)
      refine hK _ _ _ _ _ _ (r_callV rfl (fun _ => rfl) rfl (b0 rfl rfl rfl) (kw_0 (?_ : K _ _ _ _ _ _)))
      refine hK _ _ _ _ _ _ (And.intro (fun _ => ?_) (fun c9 => absurd (rfl) c9))
      iterate 2 refine hK _ _ _ _ _ _ (?_ : K _ _ _ _ _ _)
      exact hK _ _ _ _ _ _ (r_iret rfl rfl rfl rfl (mi hQ2 hA hR))

end MO
