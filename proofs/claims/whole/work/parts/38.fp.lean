section FP2
/-! quotients are numbers -/
def OKd (f : FP.Core.Fmt) : FP.Core.Datum → Prop
  | .nan => False
  | .inf _ => True
  | .fin _ c q => c < 2 ^ f.p ∧ q ≤ f.qmax
theorem bound_ok {f : FP.Core.Fmt} {s : Bool} {c : Nat} {q : Int} (h : c < 2 ^ f.p) : OKd f (FP.Core.bound f s c q) := by
  unfold FP.Core.bound
  split
  · rename_i hq; exact ⟨h, hq⟩
  · trivial
theorem settle_ok {f : FP.Core.Fmt} {s : Bool} {c : Nat} {q : Int} (hp : 0 < f.p) : OKd f (FP.Core.settle f s c q) := by
  unfold FP.Core.settle
  split
  · rename_i h; exact bound_ok h
  · refine bound_ok ?_
    unfold FP.Core.Fmt.tails
    exact Nat.pow_lt_pow_right (by decide) (by omega)
theorem ratio_ok {f : FP.Core.Fmt} {s : Bool} {c e : Nat} {q : Int} (hp : 0 < f.p) (hq : f.qmin ≤ f.qmax) : OKd f (FP.Core.roundRatio f s c e q) := by
  unfold FP.Core.roundRatio
  split
  · exact ⟨Nat.two_pow_pos _, hq⟩
  · exact settle_ok hp
theorem quot_ok {f : FP.Core.Fmt} {s t : Bool} {c e : Nat} {q r : Int} (hp : 0 < f.p) (hq : f.qmin ≤ f.qmax) (he : e ≠ 0) : OKd f (FP.Core.quotient f (.fin s c q) (.fin t e r)) := by
  show OKd f (if e = 0 then _ else _)
  rw [if_neg he]
  exact ratio_ok hp hq
theorem enc_64 {D : FP.Core.Datum} (h : OKd FP.Core.b64 D) : ∃ (s : Bool) (E T : Nat), E ≤ 2047 ∧ T < 2 ^ 52 ∧ (E = 2047 → T = 0) ∧ FP.Core.encode FP.Core.b64 D = (s.toNat * 2048 + E) * 2 ^ 52 + T := by
  match D, h with
  | .inf s, _ => exact ⟨s, 2047, 0, Nat.le_refl _, by decide, fun _ => rfl, rfl⟩
  | .fin s c q, h =>
    have h1 : c < 2 ^ 53 := h.1
    have h2 : q ≤ 971 := h.2
    show ∃ (s1 : Bool) (E T : Nat), E ≤ 2047 ∧ T < 2 ^ 52 ∧ (E = 2047 → T = 0) ∧ (if c < 2 ^ 52 then (s.toNat * 2048 + 0) * 2 ^ 52 + c else (s.toNat * 2048 + ((q - (-1074)).toNat + 1)) * 2 ^ 52 + (c - 2 ^ 52)) = (s1.toNat * 2048 + E) * 2 ^ 52 + T
    by_cases hc : c < 2 ^ 52
    · rw [if_pos hc]
      exact ⟨s, 0, c, by decide, hc, (fun e => by omega), rfl⟩
    · rw [if_neg hc]
      exact ⟨s, (q - (-1074)).toNat + 1, c - 2 ^ 52, by omega, by omega, fun e => by omega, rfl⟩
theorem enc_32 {D : FP.Core.Datum} (h : OKd FP.Core.b32 D) : ∃ (s : Bool) (E T : Nat), E ≤ 255 ∧ T < 2 ^ 23 ∧ (E = 255 → T = 0) ∧ FP.Core.encode FP.Core.b32 D = (s.toNat * 256 + E) * 2 ^ 23 + T := by
  match D, h with
  | .inf s, _ => exact ⟨s, 255, 0, Nat.le_refl _, by decide, fun _ => rfl, rfl⟩
  | .fin s c q, h =>
    have h1 : c < 2 ^ 24 := h.1
    have h2 : q ≤ 104 := h.2
    show ∃ (s1 : Bool) (E T : Nat), E ≤ 255 ∧ T < 2 ^ 23 ∧ (E = 255 → T = 0) ∧ (if c < 2 ^ 23 then (s.toNat * 256 + 0) * 2 ^ 23 + c else (s.toNat * 256 + ((q - (-149)).toNat + 1)) * 2 ^ 23 + (c - 2 ^ 23)) = (s1.toNat * 256 + E) * 2 ^ 23 + T
    by_cases hc : c < 2 ^ 23
    · rw [if_pos hc]
      exact ⟨s, 0, c, by decide, hc, (fun e => by omega), rfl⟩
    · rw [if_neg hc]
      exact ⟨s, (q - (-149)).toNat + 1, c - 2 ^ 23, by omega, by omega, fun e => by omega, rfl⟩
theorem tn_2 (s : Bool) : s.toNat = 0 ∨ s.toNat = 1 := by cases s <;> simp
theorem n64_of {s : Bool} {E T : Nat} (hE : E ≤ 2047) (hT : T < 2 ^ 52) (h : E = 2047 → T = 0) : vf_n64 (UInt64.ofNat ((s.toNat * 2048 + E) * 2 ^ 52 + T)) := by
  unfold vf_n64
  rw [UInt64.le_iff_toNat_le, UInt64.toNat_and, UInt64.toNat_ofNat']
  show ((s.toNat * 2048 + E) * 2 ^ 52 + T) % 2 ^ 64 &&& (2 ^ 63 - 1) ≤ 2047 * 2 ^ 52
  rw [Nat.and_two_pow_sub_one_eq_mod]
  rcases tn_2 s with e | e <;> rw [e] <;> omega
theorem n32_of {s : Bool} {E T : Nat} (hE : E ≤ 255) (hT : T < 2 ^ 23) (h : E = 255 → T = 0) : vf_n32 (UInt32.ofNat ((s.toNat * 256 + E) * 2 ^ 23 + T)) := by
  unfold vf_n32
  rw [UInt32.le_iff_toNat_le, UInt32.toNat_and, UInt32.toNat_ofNat']
  show ((s.toNat * 256 + E) * 2 ^ 23 + T) % 2 ^ 32 &&& (2 ^ 31 - 1) ≤ 255 * 2 ^ 23
  rw [Nat.and_two_pow_sub_one_eq_mod]
  rcases tn_2 s with e | e <;> rw [e] <;> omega
def fin1 (z : Bool) : FP.Core.Datum → Bool
  | .fin _ c _ => z || c != 0
  | _ => false
theorem i2d_ok : ∀ k, k < 1024 → fin1 (k == 0) (FP.Core.decode FP.Core.b64 (FP.i2d (nI k)).toNat) = true := by decide +kernel
theorem i2f_ok : ∀ k, k < 130 → fin1 (k == 0) (FP.Core.decode FP.Core.b32 (FP.i2f (nI k)).toNat) = true := by decide +kernel
theorem fin1_t {z : Bool} {D : FP.Core.Datum} (h : fin1 z D = true) : ∃ s c q, D = .fin s c q ∧ (z = false → c ≠ 0) := by
  match D, h with
  | .fin s c q, h => exact ⟨s, c, q, rfl, fun hz => by subst hz; simpa [fin1] using h⟩
theorem mean_n {a c : Nat} (ha : a < 1024) (hc : c < 1024) (h0 : c ≠ 0) : vf_n64 (FP.ddiv (FP.i2d (nI a)) (FP.i2d (nI c))) := by
  obtain ⟨s1, c1, q1, e1, -⟩ := fin1_t (i2d_ok a ha)
  obtain ⟨s2, c2, q2, e2, h2⟩ := fin1_t (i2d_ok c hc)
  obtain ⟨s, E, T, h3, h4, h5, h6⟩ := enc_64 (quot_ok (f := FP.Core.b64) (s := s1) (t := s2) (c := c1) (e := c2) (q := q1) (r := q2) (by decide) (by decide) (h2 (beq_eq_false_iff_ne.mpr h0)))
  have e : FP.ddiv (FP.i2d (nI a)) (FP.i2d (nI c)) = UInt64.ofNat ((s.toNat * 2048 + E) * 2 ^ 52 + T) := by
    show UInt64.ofNat (FP.Core.encode FP.Core.b64 (FP.Core.quotient FP.Core.b64 (FP.Core.decode FP.Core.b64 (FP.i2d (nI a)).toNat) (FP.Core.decode FP.Core.b64 (FP.i2d (nI c)).toNat))) = _
    rw [e1, e2, h6]
  rw [e]
  exact n64_of h3 h4 h5
theorem share_n {a c : Nat} (ha : a < 130) (hc : c < 130) (h0 : c ≠ 0) : vf_n32 (FP.fdiv (FP.i2f (nI a)) (FP.i2f (nI c))) := by
  obtain ⟨s1, c1, q1, e1, -⟩ := fin1_t (i2f_ok a ha)
  obtain ⟨s2, c2, q2, e2, h2⟩ := fin1_t (i2f_ok c hc)
  obtain ⟨s, E, T, h3, h4, h5, h6⟩ := enc_32 (quot_ok (f := FP.Core.b32) (s := s1) (t := s2) (c := c1) (e := c2) (q := q1) (r := q2) (by decide) (by decide) (h2 (beq_eq_false_iff_ne.mpr h0)))
  have e : FP.fdiv (FP.i2f (nI a)) (FP.i2f (nI c)) = UInt32.ofNat ((s.toNat * 256 + E) * 2 ^ 23 + T) := by
    show UInt32.ofNat (FP.Core.encode FP.Core.b32 (FP.Core.quotient FP.Core.b32 (FP.Core.decode FP.Core.b32 (FP.i2f (nI a)).toNat) (FP.Core.decode FP.Core.b32 (FP.i2f (nI c)).toNat))) = _
    rw [e1, e2, h6]
  rw [e]
  exact n32_of h3 h4 h5
theorem dec_n64 {x : UInt64} (h : vf_n64 x) : FP.Core.decode FP.Core.b64 x.toNat ≠ .nan := by
  unfold vf_n64 at h
  rw [UInt64.le_iff_toNat_le, UInt64.toNat_and] at h
  have h : x.toNat &&& (2 ^ 63 - 1) ≤ 2047 * 2 ^ 52 := h
  rw [Nat.and_two_pow_sub_one_eq_mod] at h
  have hx : x.toNat < 2 ^ 64 := x.toNat_lt
  generalize x.toNat = n at h hx
  show (if n / 2 ^ 52 % 2048 = 2047 then (if n % 2 ^ 52 = 0 then FP.Core.Datum.inf (FP.Core.fieldS FP.Core.b64 n) else .nan) else _) ≠ .nan
  split
  · rename_i h1
    rw [if_pos (by omega)]
    intro c; cases c
  · split
    · intro c; cases c
    · intro c; cases c
theorem dec_n32 {x : UInt32} (h : vf_n32 x) : FP.Core.decode FP.Core.b32 x.toNat ≠ .nan := by
  unfold vf_n32 at h
  rw [UInt32.le_iff_toNat_le, UInt32.toNat_and] at h
  have h : x.toNat &&& (2 ^ 31 - 1) ≤ 255 * 2 ^ 23 := h
  rw [Nat.and_two_pow_sub_one_eq_mod] at h
  have hx : x.toNat < 2 ^ 32 := x.toNat_lt
  generalize x.toNat = n at h hx
  show (if n / 2 ^ 23 % 256 = 255 then (if n % 2 ^ 23 = 0 then FP.Core.Datum.inf (FP.Core.fieldS FP.Core.b32 n) else .nan) else _) ≠ .nan
  split
  · rename_i h1
    rw [if_pos (by omega)]
    intro c; cases c
  · split
    · intro c; cases c
    · intro c; cases c
theorem round_ok {f : FP.Core.Fmt} {D : FP.Core.Datum} (hp : 0 < f.p) (hq : f.qmin ≤ f.qmax) (h : D ≠ .nan) : OKd f (FP.Core.round f D) := by
  match D, h with
  | .nan, h => exact absurd rfl h
  | .inf s, _ => trivial
  | .fin s c q, _ => exact ratio_ok hp hq
theorem f2d_n {x : UInt32} (h : vf_n32 x) : vf_n64 (FP.f2d x) := by
  have h1 := dec_n32 h
  have e0 : FP.Core.fIsNaN x = false := by
    show decide (FP.Core.decode FP.Core.b32 x.toNat = .nan) = false
    exact decide_eq_false h1
  obtain ⟨s, E, T, h3, h4, h5, h6⟩ := enc_64 (round_ok (f := FP.Core.b64) (by decide) (by decide) h1)
  have e : FP.f2d x = UInt64.ofNat ((s.toNat * 2048 + E) * 2 ^ 52 + T) := by
    unfold FP.f2d
    show (if FP.Core.fIsNaN x = true then _ else _) = _
    rw [e0]
    show UInt64.ofNat (FP.Core.encode FP.Core.b64 (FP.Core.round FP.Core.b64 (FP.Core.decode FP.Core.b32 x.toNat))) = _
    rw [h6]
  rw [e]
  exact n64_of h3 h4 h5
theorem cmp_i (a : Int) : compare a a = .eq := by simp
theorem dcmp_s {x : UInt64} (h : vf_n64 x) : FP.dcmp x x = some .eq := by
  have h1 := dec_n64 h
  show FP.Core.order (FP.Core.decode FP.Core.b64 x.toNat) (FP.Core.decode FP.Core.b64 x.toNat) = some .eq
  generalize FP.Core.decode FP.Core.b64 x.toNat = D at h1
  match D, h1 with
  | .nan, h => exact absurd rfl h
  | .inf s, _ => exact congrArg some (cmp_i _)
  | .fin s c q, _ => exact congrArg some (cmp_i _)
theorem hsF_b (s : Nat → Bool) : hsF s 128 < 1024 := by
  have h : hsF s 128 ≤ 128 * 6 := fb_sm_bound fun k hk => by
    have h7 := ht_7 hk
    show (bif decide (0 < k) && s k then ht k else 0) ≤ 6
    cases (decide (0 < k) && s k) with
    | true => show ht k ≤ 6; omega
    | false => exact Nat.zero_le _
  omega
theorem fc_n : vf_n32 FP.fconst0 := by unfold vf_n32; decide
/-- a share -/
def shr (s : Nat → Bool) : UInt32 := bif decide (fb_ct s 128 = 0) then FP.fconst0 else FP.fdiv (FP.i2f (nI (fb_ct (grS s) 128))) (FP.i2f (nI (fb_ct s 128)))
theorem ct_130 (s : Nat → Bool) : fb_ct s 128 < 130 := by have := fb_ct_le s 128; omega
theorem shr_n (s : Nat → Bool) : vf_n32 (shr s) := by
  unfold shr
  by_cases h : fb_ct s 128 = 0
  · rw [decide_eq_true h]; exact fc_n
  · rw [decide_eq_false h]; exact share_n (ct_130 _) (ct_130 _) h
theorem shr_0 {s : Nat → Bool} (h : fb_ct s 128 = 0) : shr s = FP.fconst0 := by unfold shr; rw [decide_eq_true h]; rfl
theorem shr_p {s : Nat → Bool} (h : fb_ct s 128 ≠ 0) : shr s = FP.fdiv (FP.i2f (nI (fb_ct (grS s) 128))) (FP.i2f (nI (fb_ct s 128))) := by unfold shr; rw [decide_eq_false h]; rfl
section R6
variable {S : Nat × (Nat → Int32)} {T : Nat → eM} {C : eC} {M : eM} {d : Nat} {Q : eQ} {K : eK} {pc n a b c x : Nat} {ls : eL} {st r : List Value} {h : eH} {kc ks : Nat}
theorem r_ddiv {u v : UInt64} (hat : eAt (mPr M) pc = some (.ddiv, n, a, b, c)) (hn : vf_n64 (FP.ddiv u v)) (kk : K n ls (.double (FP.ddiv u v) :: r) h kc ks) : eStep S T C M d Q K pc ls (.double v :: .double u :: r) h kc ks := by
  unfold eStep; rw [hat]; exact ⟨hn, kk⟩
theorem r_fdiv {u v : UInt32} (hat : eAt (mPr M) pc = some (.fdiv, n, a, b, c)) (hn : vf_n32 (FP.fdiv u v)) (kk : K n ls (.float (FP.fdiv u v) :: r) h kc ks) : eStep S T C M d Q K pc ls (.float v :: .float u :: r) h kc ks := by
  unfold eStep; rw [hat]; exact ⟨hn, kk⟩
theorem r_f2d {u : UInt32} (hat : eAt (mPr M) pc = some (.f2d, n, a, b, c)) (hn : vf_n64 (FP.f2d u)) (kk : K n ls (.double (FP.f2d u) :: r) h kc ks) : eStep S T C M d Q K pc ls (.float u :: r) h kc ks := by
  unfold eStep; rw [hat]; exact ⟨hn, kk⟩
end R6
set_option maxRecDepth 10000 in
/-- Holeworks.mean -/
theorem kX6_mean {S : Nat × (Nat → Int32)} {d : Nat} {Q : eQ} {b : Bool} {P : Nat → Nat → Bool} {R u v w : Nat → Bool} {kb : Nat → Nat} {f g e : Nat → Int32} {T : List va_E} {x : Int32} (hQ : oQ (o_mean P R x) Q P R b T) : okCall S MT (d + 7) nX6_mean [.ref 1, .int x] (b, wl P R u v w kb f g e T) Q := by
  refine okc (M := MX6_mean) rfl rfl fun K hK hW => ?_
  show K 0 [(0, .ref 1), (1, .int x)] [] (b, wl P R u v w kb f g e T) 0 0
  unfold o_mean at hQ
  iterate 2 refine hK _ _ _ _ _ _ (?_ : K _ _ _ _ _ _)
  refine hK _ _ _ _ _ _ (r_callV rfl (fun _ => rfl) rfl (b0 rfl rfl rfl) (kX6_shapeAt (fun h9 => thrK rfl rfl (oq_n h9 hQ)) fun p hp hx h9 => (?_ : K _ _ _ _ _ _)))
  subst hx
  have hQ1 := oq_s h9 hQ
  iterate 2 refine hK _ _ _ _ _ _ (?_ : K _ _ _ _ _ _)
  refine hK _ _ _ _ _ _ (r_callV rfl (fun _ => rfl) (wl_P hp) (b0 rfl rfl rfl) (kX1_count (wl_P hp) (?_ : K _ _ _ _ _ _)))
  iterate 2 refine hK _ _ _ _ _ _ (?_ : K _ _ _ _ _ _)
  refine hK _ _ _ _ _ _ (And.intro (fun c1 => ?_) (fun c1 => ?_))
  · skip
    have hz := (nI_z (Nat.lt_of_le_of_lt (fb_ct_le (P p) 128) (by decide))).mp c1
    exact hK _ _ _ _ _ _ (r_thr rfl (by omega) rfl rfl rfl rfl (ob_f (by rw [decide_eq_true hz]; rfl) hQ1))
  · skip
    have hz : fb_ct (P p) 128 ≠ 0 := fun c9 => c1 (by rw [c9]; rfl)
    have hQ2 := ob_t (by rw [decide_eq_false hz]; rfl) hQ1
    iterate 1 refine hK _ _ _ _ _ _ (?_ : K _ _ _ _ _ _)
    refine hK _ _ _ _ _ _ (r_callV rfl (fun _ => rfl) (wl_P hp) (b0 rfl rfl rfl) (kX1_heightSum (wl_P hp) (?_ : K _ _ _ _ _ _)))
    iterate 3 refine hK _ _ _ _ _ _ (?_ : K _ _ _ _ _ _)
    refine hK _ _ _ _ _ _ (r_ddiv rfl (mean_n (hsF_b _) (by have := fb_ct_le (P p) 128; omega) hz) (?_ : K _ _ _ _ _ _))
    exact hK _ _ _ _ _ _ (r_dret rfl rfl rfl (oi hQ2))

set_option maxRecDepth 10000 in
/-- Holeworks.share -/
theorem kX6_share {S : Nat × (Nat → Int32)} {d : Nat} {Q : eQ} {b : Bool} {P : Nat → Nat → Bool} {R u v w : Nat → Bool} {kb : Nat → Nat} {f g e : Nat → Int32} {T : List va_E} {x : Int32} (hQ : oQ (o_share P R x) Q P R b T) : okCall S MT (d + 7) nX6_share [.ref 1, .int x] (b, wl P R u v w kb f g e T) Q := by
  refine okc (M := MX6_share) rfl rfl fun K hK hW => ?_
  show K 0 [(0, .ref 1), (1, .int x)] [] (b, wl P R u v w kb f g e T) 0 0
  unfold o_share at hQ
  iterate 2 refine hK _ _ _ _ _ _ (?_ : K _ _ _ _ _ _)
  refine hK _ _ _ _ _ _ (r_callV rfl (fun _ => rfl) rfl (b0 rfl rfl rfl) (kX6_shapeAt (fun h9 => thrK rfl rfl (oq_n h9 hQ)) fun p hp hx h9 => (?_ : K _ _ _ _ _ _)))
  subst hx
  have hQ1 := oq_s h9 hQ
  iterate 2 refine hK _ _ _ _ _ _ (?_ : K _ _ _ _ _ _)
  refine hK _ _ _ _ _ _ (r_callV rfl (fun _ => rfl) (wl_P hp) (b0 rfl rfl rfl) (kX1_count (wl_P hp) (?_ : K _ _ _ _ _ _)))
  iterate 2 refine hK _ _ _ _ _ _ (?_ : K _ _ _ _ _ _)
  refine hK _ _ _ _ _ _ (And.intro (fun c1 => ?_) (fun c1 => ?_))
  · skip
    have hz := (nI_z (Nat.lt_of_le_of_lt (fb_ct_le (P p) 128) (by decide))).mp c1
    have hQ2 : oQ (.inr (.float (shr (P p)), P, R)) Q P R b T := hQ1
    rw [shr_0 hz] at hQ2
    iterate 1 refine hK _ _ _ _ _ _ (?_ : K _ _ _ _ _ _)
    exact hK _ _ _ _ _ _ (r_fret rfl rfl rfl (oi hQ2))
  · skip
    have hz : fb_ct (P p) 128 ≠ 0 := fun c9 => c1 (by rw [c9]; rfl)
    have hQ2 : oQ (.inr (.float (shr (P p)), P, R)) Q P R b T := hQ1
    rw [shr_p hz] at hQ2
    iterate 2 refine hK _ _ _ _ _ _ (?_ : K _ _ _ _ _ _)
    refine hK _ _ _ _ _ _ (r_get rfl rfl rfl (?_ : K _ _ _ _ _ _))
    refine hK _ _ _ _ _ _ (r_callS rfl (fun _ => rfl) (b0 rfl rfl rfl) (kX3_makeGreatest (q := 2 + p) (m := 9) (by omega) (wl_P hp) rfl (?_ : K _ _ _ _ _ _)))
    show K _ _ _ (b, wl P R (grS (P p)) v w kb f g e T) _ _
    iterate 1 refine hK _ _ _ _ _ _ (?_ : K _ _ _ _ _ _)
    refine hK _ _ _ _ _ _ (r_get rfl rfl rfl (?_ : K _ _ _ _ _ _))
    refine hK _ _ _ _ _ _ (r_callV rfl (fun _ => rfl) rfl (b0 rfl rfl rfl) (kX1_count (s := grS (P p)) rfl (?_ : K _ _ _ _ _ _)))
    iterate 3 refine hK _ _ _ _ _ _ (?_ : K _ _ _ _ _ _)
    refine hK _ _ _ _ _ _ (r_fdiv rfl (share_n (ct_130 _) (ct_130 _) hz) (?_ : K _ _ _ _ _ _))
    exact hK _ _ _ _ _ _ (r_fret rfl rfl rfl (oi hQ2))

def cmM : Nat → Nat
  | 0 => 1
  | _ => 2
set_option maxRecDepth 10000 in
/-- Model.mean -/
theorem kX7_mean {S : Nat × (Nat → Int32)} {d : Nat} {Q : eQ} {b : Bool} {X : Nat → va_E} {A mk ro nx pi : Nat → Int32} {kp : Nat → Int64} {km th : Int32} {T : List va_E} {P : Nat → Nat → Bool} {R : Nat → Bool} {x : Int32} (hI : IvC P R) (hA : MI P A) (hR : RI R ro) (hQ : mQ (.double FP.dconst0) cmM (o_mean P R x) Q b X A ro T) : okCall S MT (d + 4) nX7_mean [.ref 24, .int x] (b, mW X A mk ro nx pi kp km th T) Q := by
  refine okc (M := MX7_mean) rfl rfl fun K hK hW => ?_
  show K 0 [(0, .ref 24), (1, .int x)] [] (b, mW X A mk ro nx pi kp km th T) 0 0
  unfold o_mean at hQ
  iterate 2 refine hK _ _ _ _ _ _ (?_ : K _ _ _ _ _ _)
  refine hK _ _ _ _ _ _ (r_callS rfl (fun _ => rfl) (b0 rfl rfl rfl) (kX7_isPlace (fun h9 => (?_ : K _ _ _ _ _ _)) (fun p _ hp hx h9 => (?_ : K _ _ _ _ _ _))))
  · skip
    refine hK _ _ _ _ _ _ (And.intro (fun _ => ?_) (fun c9 => absurd (rfl) c9))
    iterate 2 refine hK _ _ _ _ _ _ (?_ : K _ _ _ _ _ _)
    refine hK _ _ _ _ _ _ (r_callV rfl (fun _ => rfl) rfl (b0 rfl rfl rfl) (kw_n (n := 1) (by decide) (by decide) (?_ : K _ _ _ _ _ _)))
    refine hK _ _ _ _ _ _ (And.intro (fun c9 => absurd c9 (nI1_0)) (fun _ => ?_))
    iterate 1 refine hK _ _ _ _ _ _ (?_ : K _ _ _ _ _ _)
    exact hK _ _ _ _ _ _ (r_dret rfl rfl rfl (mq_n h9 hQ))
  · skip
    subst hx
    have hQ1 := mq_s h9 hQ
    refine hK _ _ _ _ _ _ (And.intro (fun c9 => absurd c9 (nI1_0)) (fun _ => ?_))
    iterate 2 refine hK _ _ _ _ _ _ (?_ : K _ _ _ _ _ _)
    refine hK _ _ _ _ _ _ (r_callV rfl (fun _ => rfl) rfl (b0 rfl rfl rfl) (kX7_sizeOf hA hp (?_ : K _ _ _ _ _ _)))
    refine hK _ _ _ _ _ _ (And.intro (fun z1 => ?_) (fun z1 => ?_))
    · skip
      have hz : fb_ct (P p) 128 = 0 := by rw [← cF_fb (hI.1 p hp).1]; exact (nI_z (cF_128 _)).mp z1
      iterate 2 refine hK _ _ _ _ _ _ (?_ : K _ _ _ _ _ _)
      refine hK _ _ _ _ _ _ (r_callV rfl (fun _ => rfl) rfl (b0 rfl rfl rfl) (kw_n (n := 2) (by decide) (by decide) (?_ : K _ _ _ _ _ _)))
      refine hK _ _ _ _ _ _ (And.intro (fun c9 => absurd c9 (nI1_0)) (fun _ => ?_))
      iterate 1 refine hK _ _ _ _ _ _ (?_ : K _ _ _ _ _ _)
      exact hK _ _ _ _ _ _ (r_dret rfl rfl rfl (mb_f (by rw [decide_eq_true hz]; rfl) hQ1))
    · skip
      have hz : fb_ct (P p) 128 ≠ 0 := fun c9 => z1 (by rw [cF_fb (hI.1 p hp).1, c9]; rfl)
      have hQ2 := mb_t (by rw [decide_eq_false hz]; rfl) hQ1
      iterate 1 refine hK _ _ _ _ _ _ (?_ : K _ _ _ _ _ _)
      refine hK _ _ _ _ _ _ (r_callV rfl (fun _ => rfl) rfl (b0 rfl rfl rfl) (kw_0 (?_ : K _ _ _ _ _ _)))
      refine hK _ _ _ _ _ _ (And.intro (fun _ => ?_) (fun c9 => absurd (rfl) c9))
      iterate 4 refine hK _ _ _ _ _ _ (?_ : K _ _ _ _ _ _)
      refine hW _ _ [(3, .int (nI (1))), (2, .int (nI (hsF (P p) (1)))), (0, .ref 24), (1, .int (nI p))] _ _ _ _ (by simp [show hsF (P p) 1 = 0 from rfl]) ?_
      refine up (P := fun k => K 37 [(3, .int (nI (k))), (2, .int (nI (hsF (P p) (k)))), (0, .ref 24), (1, .int (nI p))] [] (b, mW X A mk ro nx pi kp km (nI 0) T) 0 0) 128 1 ?_ ?_ (by decide)
      · skip
        iterate 2 refine hK _ _ _ _ _ _ (?_ : K _ _ _ _ _ _)
        refine hK _ _ _ _ _ _ (And.intro (fun _ => ?_) (fun c9 => absurd (nI_le (Nat.le_refl 128) (by decide)) c9))
        iterate 4 refine hK _ _ _ _ _ _ (?_ : K _ _ _ _ _ _)
        refine hK _ _ _ _ _ _ (r_callV rfl (fun _ => rfl) rfl (b0 rfl rfl rfl) (kX7_sizeOf hA hp (?_ : K _ _ _ _ _ _)))
        rw [cF_fb (hI.1 p hp).1]
        iterate 1 refine hK _ _ _ _ _ _ (?_ : K _ _ _ _ _ _)
        refine hK _ _ _ _ _ _ (r_ddiv rfl (mean_n (hsF_b _) (by have := fb_ct_le (P p) 128; omega) hz) (?_ : K _ _ _ _ _ _))
        exact hK _ _ _ _ _ _ (r_dret rfl rfl rfl (mi hQ2 hA hR))
      · intro k h0k hk ihk
        iterate 2 refine hK _ _ _ _ _ _ (?_ : K _ _ _ _ _ _)
        refine hK _ _ _ _ _ _ (And.intro (fun c9 => absurd c9 (nI_ge (by omega) (by decide))) (fun _ => ?_))
        iterate 4 refine hK _ _ _ _ _ _ (?_ : K _ _ _ _ _ _)
        refine hK _ _ _ _ _ _ (r_callV rfl (fun _ => rfl) rfl (b0 rfl rfl rfl) (kX7_isThere (i := k) hA hp (by omega) (by omega) (?_ : K _ _ _ _ _ _)))
        refine hK _ _ _ _ _ _ (And.intro (fun c1 => ?_) (fun c1 => ?_))
        · skip
          iterate 5 refine hK _ _ _ _ _ _ (?_ : K _ _ _ _ _ _)
          rw [hs_f (b2i_0.mp c1)] at ihk
          rw [nI_add k 1, nI_p0]
          first | exact ihk | exact hW _ _ _ _ _ _ _ (by simp) ihk
        · skip
          iterate 1 refine hK _ _ _ _ _ _ (?_ : K _ _ _ _ _ _)
          refine hK _ _ _ _ _ _ (r_callS rfl (fun _ => rfl) (b0 rfl rfl rfl) (kX7_height (i := k) (by omega) (by omega) (?_ : K _ _ _ _ _ _)))
          iterate 5 refine hK _ _ _ _ _ _ (?_ : K _ _ _ _ _ _)
          rw [hs_t (by omega) (Bool.of_not_eq_false fun c9 => c1 (b2i_0.mpr c9))] at ihk
          rw [nI_add k 1, nI_add]
          first | exact ihk | exact hW _ _ _ _ _ _ _ (by simp) ihk

set_option maxRecDepth 10000 in
/-- Model.share -/
theorem kX7_share {S : Nat × (Nat → Int32)} {d : Nat} {Q : eQ} {b : Bool} {X : Nat → va_E} {A mk ro nx pi : Nat → Int32} {kp : Nat → Int64} {km th : Int32} {T : List va_E} {P : Nat → Nat → Bool} {R : Nat → Bool} {x : Int32} (hI : IvC P R) (hA : MI P A) (hR : RI R ro) (hQ : mQ (.float FP.fconst0) cmA (o_share P R x) Q b X A ro T) : okCall S MT (d + 5) nX7_share [.ref 24, .int x] (b, mW X A mk ro nx pi kp km th T) Q := by
  refine okc (M := MX7_share) rfl rfl fun K hK hW => ?_
  show K 0 [(0, .ref 24), (1, .int x)] [] (b, mW X A mk ro nx pi kp km th T) 0 0
  unfold o_share at hQ
  iterate 2 refine hK _ _ _ _ _ _ (?_ : K _ _ _ _ _ _)
  refine hK _ _ _ _ _ _ (r_callS rfl (fun _ => rfl) (b0 rfl rfl rfl) (kX7_isPlace (fun h9 => (?_ : K _ _ _ _ _ _)) (fun p _ hp hx h9 => (?_ : K _ _ _ _ _ _))))
  · skip
    refine hK _ _ _ _ _ _ (And.intro (fun _ => ?_) (fun c9 => absurd (rfl) c9))
    iterate 1 refine hK _ _ _ _ _ _ (?_ : K _ _ _ _ _ _)
    refine hK _ _ _ _ _ _ (r_callV rfl (fun _ => rfl) rfl (b0 rfl rfl rfl) (kw_n (n := 1) (by decide) (by decide) (?_ : K _ _ _ _ _ _)))
    refine hK _ _ _ _ _ _ (And.intro (fun c9 => absurd c9 (nI1_0)) (fun _ => ?_))
    iterate 1 refine hK _ _ _ _ _ _ (?_ : K _ _ _ _ _ _)
    exact hK _ _ _ _ _ _ (r_fret rfl rfl rfl (mq_n h9 hQ))
  · skip
    subst hx
    have hQ1 := mq_s h9 hQ
    refine hK _ _ _ _ _ _ (And.intro (fun c9 => absurd c9 (nI1_0)) (fun _ => ?_))
    iterate 2 refine hK _ _ _ _ _ _ (?_ : K _ _ _ _ _ _)
    refine hK _ _ _ _ _ _ (r_callV rfl (fun _ => rfl) rfl (b0 rfl rfl rfl) (kw_0 (?_ : K _ _ _ _ _ _)))
    refine hK _ _ _ _ _ _ (And.intro (fun _ => ?_) (fun c9 => absurd (rfl) c9))
    iterate 2 refine hK _ _ _ _ _ _ (?_ : K _ _ _ _ _ _)
    refine hK _ _ _ _ _ _ (r_callV rfl (fun _ => rfl) rfl (b0 rfl rfl rfl) (kX7_sizeOf hA hp (?_ : K _ _ _ _ _ _)))
    refine hK _ _ _ _ _ _ (And.intro (fun z1 => ?_) (fun z1 => ?_))
    · skip
      have hz : fb_ct (P p) 128 = 0 := by rw [← cF_fb (hI.1 p hp).1]; exact (nI_z (cF_128 _)).mp z1
      have hQ2 : mQ (.float FP.fconst0) cmA (.inr (.float (shr (P p)), P, R)) Q b X A ro T := hQ1
      rw [shr_0 hz] at hQ2
      iterate 1 refine hK _ _ _ _ _ _ (?_ : K _ _ _ _ _ _)
      exact hK _ _ _ _ _ _ (r_fret rfl rfl rfl (mi hQ2 hA hR))
    · skip
      have hz : fb_ct (P p) 128 ≠ 0 := fun c9 => z1 (by rw [cF_fb (hI.1 p hp).1, c9]; rfl)
      have hQ2 : mQ (.float FP.fconst0) cmA (.inr (.float (shr (P p)), P, R)) Q b X A ro T := hQ1
      rw [shr_p hz] at hQ2
      iterate 2 refine hK _ _ _ _ _ _ (?_ : K _ _ _ _ _ _)
      refine hK _ _ _ _ _ _ (r_callV rfl (fun _ => rfl) rfl (b0 rfl rfl rfl) (kX7_greatestOf hA hp (?_ : K _ _ _ _ _ _)))
      iterate 3 refine hK _ _ _ _ _ _ (?_ : K _ _ _ _ _ _)
      refine hK _ _ _ _ _ _ (r_callV rfl (fun _ => rfl) rfl (b0 rfl rfl rfl) (kX7_sizeOf hA hp (?_ : K _ _ _ _ _ _)))
      rw [cF_fb (hI.1 p hp).1, gr_ct (hI.1 p hp)]
      iterate 1 refine hK _ _ _ _ _ _ (?_ : K _ _ _ _ _ _)
      refine hK _ _ _ _ _ _ (r_fdiv rfl (share_n (ct_130 _) (ct_130 _) hz) (?_ : K _ _ _ _ _ _))
      exact hK _ _ _ _ _ _ (r_fret rfl rfl rfl (mi hQ2 hA hR))

end FP2
