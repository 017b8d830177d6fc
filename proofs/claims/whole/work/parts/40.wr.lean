section OK
/-! what a call may answer; what it keeps -/
def oK (es : List Nat) (ty : Value → Prop) (o : Oc) : Prop := match o with
  | .inl E => E ∈ es
  | .inr (r, _, _) => ty r
def tyI (r : Value) : Prop := ∃ v, r = .int v
def tyB (r : Value) : Prop := ∃ c, r = .int (b2i c)
def tyD (r : Value) : Prop := ∃ v, r = .double v ∧ vf_n64 v
def tyF (r : Value) : Prop := ∃ v, r = .float v ∧ vf_n32 v
def oJ (o : Oc) : Prop := match o with
  | .inl _ => True
  | .inr (_, P2, R2) => IvC P2 R2
theorem oK_R {es : List Nat} {ty : Value → Prop} {E a n : Nat} {x : Int32} {k : Nat → Oc} (hE : E ∈ es) (h : ∀ j, oK es ty (k j)) : oK es ty (oR E a n x k) := by
  unfold oR
  split
  · exact hE
  · exact h _
theorem oK_B {es : List Nat} {ty : Value → Prop} {E : Nat} {c : Bool} {o : Oc} (hE : E ∈ es) (h : c = true → oK es ty o) : oK es ty (oB E c o) := by
  cases hc : c with
  | true => exact h hc
  | false => exact hE
theorem oJ_R {E a n : Nat} {x : Int32} {k : Nat → Oc} (hn : n < 2 ^ 31) (h : ∀ j, a ≤ j → j < n → oJ (k j)) : oJ (oR E a n x k) := by
  cases hr : rng a n x with
  | none => rw [oR_n hr]; trivial
  | some j =>
    rw [oR_s hr]
    obtain ⟨h1, h2, -⟩ := rng_s hn hr
    exact h j h1 h2
theorem oJ_B {E : Nat} {c : Bool} {o : Oc} (h : c = true → oJ o) : oJ (oB E c o) := by
  cases hc : c with
  | true => exact h hc
  | false => trivial
theorem iv_set {P : Nat → Nat → Bool} {R s : Nat → Bool} {t : Nat} (h : IvC P R) (hs : Shp s) : IvC (setP P t s) R := ⟨fun p hp => by
  by_cases e : p = t
  · subst e; rw [setP_s]; exact hs
  · rw [setP_n _ _ e]; exact h.1 p hp, h.2⟩
theorem no9_S : Shp no9 := ⟨rfl, fun f k hf hk hb hx => by
  unfold hat at hx
  rw [Bool.or_false, beq_iff_eq] at hx
  subst hx
  rw [Nat.zero_testBit] at hb; cases hb⟩
theorem put_S {s : Nat → Bool} {i : Nat} (hs : Shp s) : Shp (sPar s i (i + 1)) := by
  refine Shp_of (by show (s 0 || _) = false; rw [hs.1]; rfl) fun f hf hf0 hx g hg0 _ hp => ?_
  rw [sPar_at (by omega), Bool.or_eq_true] at hx
  rw [sPar_at (by omega), Bool.or_eq_true]
  exact hx.imp (Shp_P hs hg0 hf hp) (isP_t hp)
theorem tak_S {s : Nat → Bool} {i : Nat} (hs : Shp s) : Shp (sOvr s i 128) := by
  refine Shp_of (by show (s 0 && _) = false; rw [hs.1]; rfl) fun f hf hf0 hx g hg0 hgf hp => ?_
  rw [sOvr_at hf, Bool.and_eq_true, Bool.not_eq_true'] at hx
  rw [sOvr_at (by omega), Bool.and_eq_true, Bool.not_eq_true']
  refine ⟨Shp_P hs hg0 hf hp hx.1, ?_⟩
  rw [Bool.eq_false_iff]
  intro h
  rw [isP_t h hp] at hx
  cases hx.2
theorem ful_S {i : Nat} {r : Bool} : Shp (fuS i r) := by
  refine Shp_of fuS_0 fun f hf hf0 hx g hg0 hgf hp => ?_
  rw [fuS_at (by omega), Bool.and_eq_true] at hx
  rw [fuS_at (by omega), Bool.and_eq_true]
  refine ⟨isP_t hp hx.1, ?_⟩
  cases r with
  | false => rfl
  | true =>
    have h1 := hx.2
    by_cases e : g = i
    · subst e
      have := isP_a hp hx.1
      subst this
      exact h1
    · rw [beq_eq_false_iff_ne.mpr e]; rfl
theorem pc_mono : ∀ f, f < 128 → ∀ g, g < 128 → isP g f = true → pc g ≤ pc f := by decide +kernel
theorem low_S {s : Nat → Bool} {t : Nat} (hs : Shp s) : Shp (loS s t) := by
  refine Shp_of loS_0 fun f hf hf0 hx g hg0 hgf hp => ?_
  rw [loS_at (by omega) hf, Bool.and_eq_true, decide_eq_true_eq] at hx
  rw [loS_at (by omega) (by omega), Bool.and_eq_true, decide_eq_true_eq]
  refine ⟨Shp_P hs hg0 hf hp hx.1, ?_⟩
  have h1 := pc_mono f hf g (by omega) hp
  have h2 := hx.2
  unfold ht at *
  omega
theorem del_c (s : Nat → Bool) (i g : Nat) : sDel (sDel s i) g = sDel (sDel s g) i := by
  funext k
  show ((s k && !(k == i)) && !(k == g)) = ((s k && !(k == g)) && !(k == i))
  cases s k <;> cases (k == i) <;> cases (k == g) <;> rfl
theorem tog_R {P : Nat → Nat → Bool} {R : Nat → Bool} {i : Nat} (h : IvC P R) (h1 : 1 ≤ i) (hi : i < 128) (hc : (decide (fb_ct R 128 = 0) || rh R == ht i) = true) : IvC P (sTog R i) := by
  refine ⟨h.1, ?_⟩
  obtain ⟨n, hR⟩ := h.2
  have h0 : sTog R i 0 = false := by
    show (R 0 ^^ (0 == i)) = false
    rw [hR.1, beq_eq_false_iff_ne.mpr (show 0 ≠ i by omega)]; rfl
  have hp1 := pc_pos i hi (by omega)
  by_cases hz : fb_ct R 128 = 0
  · refine ⟨pc i, h0, hp1, pc_8 i hi, fun f hf hx => ?_⟩
    have hx : (R f ^^ (f == i)) = true := hx
    rw [fb_ct_zero.mp hz f hf, Bool.false_xor, beq_iff_eq] at hx
    rw [hx]
  · rw [decide_eq_false hz, Bool.false_or, beq_iff_eq] at hc
    have h2 := (rh_n hR hz).1
    have h3 := hR.2.1
    refine ⟨n, h0, hR.2.1, hR.2.2.1, fun f hf hx => ?_⟩
    have hx : (R f ^^ (f == i)) = true := hx
    by_cases e : f = i
    · subst e
      unfold ht at hc
      omega
    · rw [beq_eq_false_iff_ne.mpr e, Bool.xor_false] at hx
      exact hR.2.2.2 f hf hx
theorem bd_R {P : Nat → Nat → Bool} {R : Nat → Bool} (h : IvC P R) : IvC P (bdS R) := ⟨h.1, bdS_I h.2⟩
theorem no_R {P : Nat → Nat → Bool} {R : Nat → Bool} (h : IvC P R) : IvC P no9 := ⟨h.1, 1, rfl, by decide, by decide, fun f _ hx => by cases hx⟩
/-- the two sides' tail of the heap -/
abbrev daA (f : Nat → UInt64) : va_E := .inl (3, 1, .inr (.inr (.inr (.inl f))))
def mT (A mk ro nx pi : Nat → Int32) (kp : Nat → Int64) (km th : Int32) (T : List va_E) : List va_E := mdO km th :: zA 768 A :: zA 128 mk :: zA 128 ro :: zA 128 nx :: iaA pi :: ilA 36 kp :: T
abbrev LW (P : Nat → Nat → Bool) (R u v w : Nat → Bool) (kb : Nat → Nat) (f g e : Nat → Int32) (A mk ro nx pi : Nat → Int32) (kp : Nat → Int64) (km th : Int32) (oo : Nat → Int64) (od : Nat → UInt64) : List va_E := wl P R u v w kb f g e (mT A mk ro nx pi kp km th [ilA 1 oo, daA od])
def ouV : Value → Int64
  | .int v => v.toInt64
  | _ => 0
def ouD : Value → UInt64
  | .double v => v
  | .float v => FP.f2d v
  | _ => 0
def lQ (cm : Nat → Nat) (o : Oc) (Q : eQ) (b : Bool) (P : Nat → Nat → Bool) (R : Nat → Bool) (A mk ro nx pi : Nat → Int32) (kp : Nat → Int64) (km th : Int32) (od : Nat → UInt64) (oo : Nat → Int64) : Prop := match o with
  | .inl E => ∀ u v w kb f g e, Q (.inl (some (.int (nI (cm E))))) (false, LW P R u v w kb f g e A mk ro nx pi kp km th oo od)
  | .inr (r, P2, R2) => ∀ u v w kb f g e oo2, oo2 0 = ouV r → Q (.inl (some (.int (nI 0)))) (b, LW P2 R2 u v w kb f g e A mk ro nx pi kp km th oo2 od)
def lD (cm : Nat → Nat) (o : Oc) (Q : eQ) (b : Bool) (P : Nat → Nat → Bool) (R : Nat → Bool) (A mk ro nx pi : Nat → Int32) (kp : Nat → Int64) (km th : Int32) (od : Nat → UInt64) (oo : Nat → Int64) : Prop := match o with
  | .inl E => ∀ u v w kb f g e, Q (.inl (some (.int (nI (cm E))))) (false, LW P R u v w kb f g e A mk ro nx pi kp km th oo od)
  | .inr (r, P2, R2) => ∀ u v w kb f g e od2, od2 0 = ouD r → Q (.inl (some (.int (nI 0)))) (b, LW P2 R2 u v w kb f g e A mk ro nx pi kp km th oo od2)
theorem lcG {o o2 : Oc} {es : List Nat} {ty : Value → Prop} {Q : eQ} {P : Nat → Nat → Bool} {R : Nat → Bool} {b : Bool} {T : List va_E} (ho : o = o2) (hk : oK es ty o2) (hE : ∀ E ∈ es, o2 = .inl E → ∀ u v w kb f g e, Q (.inr E) (false, wl P R u v w kb f g e T)) (hr : ∀ r P2 R2, o2 = .inr (r, P2, R2) → ty r → ∀ u v w kb f g e, Q (.inl (some r)) (b, wl P2 R2 u v w kb f g e T)) : oQ o Q P R b T := by
  subst ho
  match o, hk with
  | .inl E, hk => exact hE E hk rfl
  | .inr (r, P2, R2), hk => exact hr r P2 R2 rfl hk
theorem up0 (f : Nat → Int64) (x : Int64) : vp_updL f (nI 0).toNatClampNeg x 0 = x := by rw [nI_clamp (by decide)]; exact if_pos rfl
theorem ud0 (f : Nat → UInt64) (x : UInt64) : vf_upd f (nI 0).toNatClampNeg x 0 = x := by rw [nI_clamp (by decide)]; exact if_pos rfl
section R8
variable {S : Nat × (Nat → Int32)} {T : Nat → eM} {C : eC} {M : eM} {d : Nat} {Q : eQ} {K : eK} {pc n a b c : Nat} {ls : eL} {st r : List Value} {h : eH} {kc ks : Nat}
theorem r_dast {q N : Nat} {f : Nat → UInt64} {j : Int32} {x1 : UInt64} (hat : eAt (mPr M) pc = some (.dastore, n, a, b, c)) (hk : h.2[q]? = some (.inl (3, N, .inr (.inr (.inr (.inl f)))))) (hj : vp_in j N) (kk : K n ls r (h.1, h.2.set q (.inl (3, N, .inr (.inr (.inr (.inl (vf_upd f j.toNatClampNeg x1))))))) kc ks) : eStep S T C M d Q K pc ls (.double x1 :: .int j :: .ref (q + 1) :: r) h kc ks := by
  unfold eStep; rw [hat]; exact ⟨N, f, hk, hj, kk⟩
end R8
theorem oK_put {P : Nat → Nat → Bool} {R : Nat → Bool} {x : Int32} {y : Int32} : oK [0, 1] tyI (o_put P R x y) := by
  unfold o_put
  repeat first | refine oK_R (by decide) fun _ => ?_ | refine oK_B (by decide) fun _ => ?_
  exact ⟨_, rfl⟩
theorem oJ_put {P : Nat → Nat → Bool} {R : Nat → Bool} {x : Int32} {y : Int32} (hI : IvC P R) : oJ (o_put P R x y) := by
  unfold o_put
  repeat first | refine oJ_R (by decide) fun _ _ _ => ?_ | refine oJ_B fun _ => ?_
  exact iv_set hI (put_S (hI.1 _ (by omega)))
theorem oK_take {P : Nat → Nat → Bool} {R : Nat → Bool} {x : Int32} {y : Int32} : oK [0, 1, 3] tyI (o_take P R x y) := by
  unfold o_take
  repeat first | refine oK_R (by decide) fun _ => ?_ | refine oK_B (by decide) fun _ => ?_
  exact ⟨_, rfl⟩
theorem oJ_take {P : Nat → Nat → Bool} {R : Nat → Bool} {x : Int32} {y : Int32} (hI : IvC P R) : oJ (o_take P R x y) := by
  unfold o_take
  repeat first | refine oJ_R (by decide) fun _ _ _ => ?_ | refine oJ_B fun _ => ?_
  exact iv_set hI (tak_S (hI.1 _ (by omega)))
theorem oK_clear {P : Nat → Nat → Bool} {R : Nat → Bool} {x : Int32} : oK [0] tyI (o_clear P R x) := by
  unfold o_clear
  repeat first | refine oK_R (by decide) fun _ => ?_ | refine oK_B (by decide) fun _ => ?_
  exact ⟨_, rfl⟩
theorem oJ_clear {P : Nat → Nat → Bool} {R : Nat → Bool} {x : Int32} (hI : IvC P R) : oJ (o_clear P R x) := by
  unfold o_clear
  repeat first | refine oJ_R (by decide) fun _ _ _ => ?_ | refine oJ_B fun _ => ?_
  exact iv_set hI no9_S
theorem oK_copy {P : Nat → Nat → Bool} {R : Nat → Bool} {x : Int32} {y : Int32} : oK [0] tyI (o_copy P R x y) := by
  unfold o_copy
  repeat first | refine oK_R (by decide) fun _ => ?_ | refine oK_B (by decide) fun _ => ?_
  exact ⟨_, rfl⟩
theorem oJ_copy {P : Nat → Nat → Bool} {R : Nat → Bool} {x : Int32} {y : Int32} (hI : IvC P R) : oJ (o_copy P R x y) := by
  unfold o_copy
  repeat first | refine oJ_R (by decide) fun _ _ _ => ?_ | refine oJ_B fun _ => ?_
  exact iv_set hI (hI.1 _ (by omega))
theorem oK_unite {P : Nat → Nat → Bool} {R : Nat → Bool} {x : Int32} {y : Int32} {z : Int32} : oK [0] tyI (o_unite P R x y z) := by
  unfold o_unite
  repeat first | refine oK_R (by decide) fun _ => ?_ | refine oK_B (by decide) fun _ => ?_
  exact ⟨_, rfl⟩
theorem oJ_unite {P : Nat → Nat → Bool} {R : Nat → Bool} {x : Int32} {y : Int32} {z : Int32} (hI : IvC P R) : oJ (o_unite P R x y z) := by
  unfold o_unite
  repeat first | refine oJ_R (by decide) fun _ _ _ => ?_ | refine oJ_B fun _ => ?_
  exact iv_set hI (or_S (hI.1 _ (by omega)) (hI.1 _ (by omega)))
theorem oK_meet {P : Nat → Nat → Bool} {R : Nat → Bool} {x : Int32} {y : Int32} {z : Int32} : oK [0] tyI (o_meet P R x y z) := by
  unfold o_meet
  repeat first | refine oK_R (by decide) fun _ => ?_ | refine oK_B (by decide) fun _ => ?_
  exact ⟨_, rfl⟩
theorem oJ_meet {P : Nat → Nat → Bool} {R : Nat → Bool} {x : Int32} {y : Int32} {z : Int32} (hI : IvC P R) : oJ (o_meet P R x y z) := by
  unfold o_meet
  repeat first | refine oJ_R (by decide) fun _ _ _ => ?_ | refine oJ_B fun _ => ?_
  exact iv_set hI (and_S (hI.1 _ (by omega)) (hI.1 _ (by omega)))
theorem oK_full {P : Nat → Nat → Bool} {R : Nat → Bool} {x : Int32} {r : Bool} {z : Int32} : oK [0, 1] tyI (o_full P R x r z) := by
  unfold o_full
  repeat first | refine oK_R (by decide) fun _ => ?_ | refine oK_B (by decide) fun _ => ?_
  exact ⟨_, rfl⟩
theorem oJ_full {P : Nat → Nat → Bool} {R : Nat → Bool} {x : Int32} {r : Bool} {z : Int32} (hI : IvC P R) : oJ (o_full P R x r z) := by
  unfold o_full
  repeat first | refine oJ_R (by decide) fun _ _ _ => ?_ | refine oJ_B fun _ => ?_
  exact iv_set hI ful_S
theorem oK_low {P : Nat → Nat → Bool} {R : Nat → Bool} {x : Int32} {y : Int32} {z : Int32} : oK [0, 1] tyI (o_low P R x y z) := by
  unfold o_low
  repeat first | refine oK_R (by decide) fun _ => ?_ | refine oK_B (by decide) fun _ => ?_
  exact ⟨_, rfl⟩
theorem oJ_low {P : Nat → Nat → Bool} {R : Nat → Bool} {x : Int32} {y : Int32} {z : Int32} (hI : IvC P R) : oJ (o_low P R x y z) := by
  unfold o_low
  repeat first | refine oJ_R (by decide) fun _ _ _ => ?_ | refine oJ_B fun _ => ?_
  exact iv_set hI (low_S (hI.1 _ (by omega)))
theorem oK_about {P : Nat → Nat → Bool} {R : Nat → Bool} {x : Int32} {y : Int32} {r : Bool} {z : Int32} : oK [0, 1, 3] tyI (o_about P R x y r z) := by
  unfold o_about
  repeat first | refine oK_R (by decide) fun _ => ?_ | refine oK_B (by decide) fun _ => ?_
  exact ⟨_, rfl⟩
theorem oJ_about {P : Nat → Nat → Bool} {R : Nat → Bool} {x : Int32} {y : Int32} {r : Bool} {z : Int32} (hI : IvC P R) : oJ (o_about P R x y r z) := by
  unfold o_about
  repeat first | refine oJ_R (by decide) fun _ _ _ => ?_ | refine oJ_B fun _ => ?_
  exact iv_set hI (ab_S (hI.1 _ (by omega)) (by omega) (by omega))
theorem oK_cone {P : Nat → Nat → Bool} {R : Nat → Bool} {x : Int32} {y : Int32} {z : Int32} : oK [0, 1, 2] tyI (o_cone P R x y z) := by
  unfold o_cone
  repeat first | refine oK_R (by decide) fun _ => ?_ | refine oK_B (by decide) fun _ => ?_
  exact ⟨_, rfl⟩
theorem oJ_cone {P : Nat → Nat → Bool} {R : Nat → Bool} {x : Int32} {y : Int32} {z : Int32} (hI : IvC P R) : oJ (o_cone P R x y z) := by
  unfold o_cone
  repeat first | refine oJ_R (by decide) fun _ _ _ => ?_ | refine oJ_B fun _ => ?_
  exact iv_set hI (cone_S (hI.1 _ (by omega)) (by omega))
theorem oK_lift {P : Nat → Nat → Bool} {R : Nat → Bool} {x : Int32} {y : Int32} {z : Int32} {s : Int32} : oK [0, 1, 2] tyI (o_lift P R x y z s) := by
  unfold o_lift
  repeat first | refine oK_R (by decide) fun _ => ?_ | refine oK_B (by decide) fun _ => ?_
  exact ⟨_, rfl⟩
theorem oJ_lift {P : Nat → Nat → Bool} {R : Nat → Bool} {x : Int32} {y : Int32} {z : Int32} {s : Int32} (hI : IvC P R) : oJ (o_lift P R x y z s) := by
  unfold o_lift
  repeat first | refine oJ_R (by decide) fun _ _ _ => ?_ | refine oJ_B fun _ => ?_
  exact iv_set hI (lift_S (hI.1 _ (by omega)) (by omega) (by omega))
theorem oK_other {P : Nat → Nat → Bool} {R : Nat → Bool} {x : Int32} {y : Int32} {z : Int32} : oK [0, 1, 2] tyI (o_other P R x y z) := by
  unfold o_other
  repeat first | refine oK_R (by decide) fun _ => ?_ | refine oK_B (by decide) fun _ => ?_
  exact ⟨_, rfl⟩
theorem oJ_other {P : Nat → Nat → Bool} {R : Nat → Bool} {x : Int32} {y : Int32} {z : Int32} (hI : IvC P R) : oJ (o_other P R x y z) := by
  unfold o_other
  repeat first | refine oJ_R (by decide) fun _ _ _ => ?_ | refine oJ_B fun _ => ?_
  exact iv_set hI (ot_S (hI.1 _ (by omega)) (by omega))
theorem oK_exchange {P : Nat → Nat → Bool} {R : Nat → Bool} {x : Int32} {y : Int32} {z : Int32} {s : Int32} : oK [0, 1] tyI (o_exchange P R x y z s) := by
  unfold o_exchange
  repeat first | refine oK_R (by decide) fun _ => ?_ | refine oK_B (by decide) fun _ => ?_
  exact ⟨_, rfl⟩
theorem oJ_exchange {P : Nat → Nat → Bool} {R : Nat → Bool} {x : Int32} {y : Int32} {z : Int32} {s : Int32} (hI : IvC P R) : oJ (o_exchange P R x y z s) := by
  unfold o_exchange
  repeat first | refine oJ_R (by decide) fun _ _ _ => ?_ | refine oJ_B fun _ => ?_
  exact iv_set hI (ex_S (hI.1 _ (by omega)) (by omega) (by omega))
theorem oK_fold {P : Nat → Nat → Bool} {R : Nat → Bool} {x : Int32} {y : Int32} : oK [0, 1, 3, 2] tyI (o_fold P R x y) := by
  unfold o_fold
  repeat first | refine oK_R (by decide) fun _ => ?_ | refine oK_B (by decide) fun _ => ?_
  exact ⟨_, rfl⟩
theorem oJ_fold {P : Nat → Nat → Bool} {R : Nat → Bool} {x y : Int32} (hI : IvC P R) : oJ (o_fold P R x y) := by
  unfold o_fold
  refine oJ_R (by decide) fun p _ hp => oJ_R (by decide) fun i hi1 hi => oJ_B fun h1 => oJ_B fun h2 => ?_
  obtain ⟨g, h3, h4, h5, h6, h7, h8⟩ := fold_ex (s := P p) (f := i) (eq_of_beq h2)
  show IvC (setP P p (sDel (sDel (P p) i) (ff (ovP (P p) i) 128))) R
  rw [h3, del_c]
  exact iv_set hI (fold_S (hI.1 p hp) (by omega) h6 h8)
theorem oK_has {P : Nat → Nat → Bool} {R : Nat → Bool} {x : Int32} {y : Int32} : oK [0, 1] tyB (o_has P R x y) := by
  unfold o_has
  repeat first | refine oK_R (by decide) fun _ => ?_ | refine oK_B (by decide) fun _ => ?_
  exact ⟨_, rfl⟩
theorem oJ_has {P : Nat → Nat → Bool} {R : Nat → Bool} {x : Int32} {y : Int32} (hI : IvC P R) : oJ (o_has P R x y) := by
  unfold o_has
  repeat first | refine oJ_R (by decide) fun _ _ _ => ?_ | refine oJ_B fun _ => ?_
  exact hI
theorem oK_size {P : Nat → Nat → Bool} {R : Nat → Bool} {x : Int32} : oK [0] tyI (o_size P R x) := by
  unfold o_size
  repeat first | refine oK_R (by decide) fun _ => ?_ | refine oK_B (by decide) fun _ => ?_
  exact ⟨_, rfl⟩
theorem oJ_size {P : Nat → Nat → Bool} {R : Nat → Bool} {x : Int32} (hI : IvC P R) : oJ (o_size P R x) := by
  unfold o_size
  repeat first | refine oJ_R (by decide) fun _ _ _ => ?_ | refine oJ_B fun _ => ?_
  exact hI
theorem oK_faces {P : Nat → Nat → Bool} {R : Nat → Bool} {x : Int32} {y : Int32} : oK [0, 1] tyI (o_faces P R x y) := by
  unfold o_faces
  repeat first | refine oK_R (by decide) fun _ => ?_ | refine oK_B (by decide) fun _ => ?_
  exact ⟨_, rfl⟩
theorem oJ_faces {P : Nat → Nat → Bool} {R : Nat → Bool} {x : Int32} {y : Int32} (hI : IvC P R) : oJ (o_faces P R x y) := by
  unfold o_faces
  repeat first | refine oJ_R (by decide) fun _ _ _ => ?_ | refine oJ_B fun _ => ?_
  exact hI
theorem oK_corners {P : Nat → Nat → Bool} {R : Nat → Bool} {x : Int32} : oK [0] tyI (o_corners P R x) := by
  unfold o_corners
  repeat first | refine oK_R (by decide) fun _ => ?_ | refine oK_B (by decide) fun _ => ?_
  exact ⟨_, rfl⟩
theorem oJ_corners {P : Nat → Nat → Bool} {R : Nat → Bool} {x : Int32} (hI : IvC P R) : oJ (o_corners P R x) := by
  unfold o_corners
  repeat first | refine oJ_R (by decide) fun _ _ _ => ?_ | refine oJ_B fun _ => ?_
  exact hI
theorem oK_over {P : Nat → Nat → Bool} {R : Nat → Bool} {x : Int32} {y : Int32} : oK [0, 1, 3] tyI (o_over P R x y) := by
  unfold o_over
  repeat first | refine oK_R (by decide) fun _ => ?_ | refine oK_B (by decide) fun _ => ?_
  exact ⟨_, rfl⟩
theorem oJ_over {P : Nat → Nat → Bool} {R : Nat → Bool} {x : Int32} {y : Int32} (hI : IvC P R) : oJ (o_over P R x y) := by
  unfold o_over
  repeat first | refine oJ_R (by decide) fun _ _ _ => ?_ | refine oJ_B fun _ => ?_
  exact hI
theorem oK_greatest {P : Nat → Nat → Bool} {R : Nat → Bool} {x : Int32} : oK [0] tyI (o_greatest P R x) := by
  unfold o_greatest
  repeat first | refine oK_R (by decide) fun _ => ?_ | refine oK_B (by decide) fun _ => ?_
  exact ⟨_, rfl⟩
theorem oJ_greatest {P : Nat → Nat → Bool} {R : Nat → Bool} {x : Int32} (hI : IvC P R) : oJ (o_greatest P R x) := by
  unfold o_greatest
  repeat first | refine oJ_R (by decide) fun _ _ _ => ?_ | refine oJ_B fun _ => ?_
  exact hI
theorem oK_greatestAt {P : Nat → Nat → Bool} {R : Nat → Bool} {x : Int32} {y : Int32} : oK [0] tyI (o_greatestAt P R x y) := by
  unfold o_greatestAt
  repeat first | refine oK_R (by decide) fun _ => ?_ | refine oK_B (by decide) fun _ => ?_
  exact ⟨_, rfl⟩
theorem oJ_greatestAt {P : Nat → Nat → Bool} {R : Nat → Bool} {x : Int32} {y : Int32} (hI : IvC P R) : oJ (o_greatestAt P R x y) := by
  unfold o_greatestAt
  repeat first | refine oJ_R (by decide) fun _ _ _ => ?_ | refine oJ_B fun _ => ?_
  exact hI
theorem oK_isSame {P : Nat → Nat → Bool} {R : Nat → Bool} {x : Int32} {y : Int32} : oK [0] tyB (o_isSame P R x y) := by
  unfold o_isSame
  repeat first | refine oK_R (by decide) fun _ => ?_ | refine oK_B (by decide) fun _ => ?_
  exact ⟨_, rfl⟩
theorem oJ_isSame {P : Nat → Nat → Bool} {R : Nat → Bool} {x : Int32} {y : Int32} (hI : IvC P R) : oJ (o_isSame P R x y) := by
  unfold o_isSame
  repeat first | refine oJ_R (by decide) fun _ _ _ => ?_ | refine oJ_B fun _ => ?_
  exact hI
theorem oK_contains {P : Nat → Nat → Bool} {R : Nat → Bool} {x : Int32} {y : Int32} : oK [0] tyB (o_contains P R x y) := by
  unfold o_contains
  repeat first | refine oK_R (by decide) fun _ => ?_ | refine oK_B (by decide) fun _ => ?_
  exact ⟨_, rfl⟩
theorem oJ_contains {P : Nat → Nat → Bool} {R : Nat → Bool} {x : Int32} {y : Int32} (hI : IvC P R) : oJ (o_contains P R x y) := by
  unfold o_contains
  repeat first | refine oJ_R (by decide) fun _ _ _ => ?_ | refine oJ_B fun _ => ?_
  exact hI
theorem oK_pieces {P : Nat → Nat → Bool} {R : Nat → Bool} {x : Int32} : oK [0] tyI (o_pieces P R x) := by
  unfold o_pieces
  repeat first | refine oK_R (by decide) fun _ => ?_ | refine oK_B (by decide) fun _ => ?_
  exact ⟨_, rfl⟩
theorem oJ_pieces {P : Nat → Nat → Bool} {R : Nat → Bool} {x : Int32} (hI : IvC P R) : oJ (o_pieces P R x) := by
  unfold o_pieces
  repeat first | refine oJ_R (by decide) fun _ _ _ => ?_ | refine oJ_B fun _ => ?_
  exact hI
theorem oK_areJoined {P : Nat → Nat → Bool} {R : Nat → Bool} {x : Int32} {y : Int32} {z : Int32} : oK [0, 1, 3] tyB (o_areJoined P R x y z) := by
  unfold o_areJoined
  repeat first | refine oK_R (by decide) fun _ => ?_ | refine oK_B (by decide) fun _ => ?_
  exact ⟨_, rfl⟩
theorem oJ_areJoined {P : Nat → Nat → Bool} {R : Nat → Bool} {x : Int32} {y : Int32} {z : Int32} (hI : IvC P R) : oJ (o_areJoined P R x y z) := by
  unfold o_areJoined
  repeat first | refine oJ_R (by decide) fun _ _ _ => ?_ | refine oJ_B fun _ => ?_
  exact hI
theorem oK_free {P : Nat → Nat → Bool} {R : Nat → Bool} {x : Int32} {y : Int32} : oK [0, 1] tyI (o_free P R x y) := by
  unfold o_free
  repeat first | refine oK_R (by decide) fun _ => ?_ | refine oK_B (by decide) fun _ => ?_
  exact ⟨_, rfl⟩
theorem oJ_free {P : Nat → Nat → Bool} {R : Nat → Bool} {x : Int32} {y : Int32} (hI : IvC P R) : oJ (o_free P R x y) := by
  unfold o_free
  repeat first | refine oJ_R (by decide) fun _ _ _ => ?_ | refine oJ_B fun _ => ?_
  exact hI
theorem oK_holes {P : Nat → Nat → Bool} {R : Nat → Bool} {x : Int32} {y : Int32} : oK [0, 1] tyI (o_holes P R x y) := by
  unfold o_holes
  repeat first | refine oK_R (by decide) fun _ => ?_ | refine oK_B (by decide) fun _ => ?_
  exact ⟨_, rfl⟩
theorem oJ_holes {P : Nat → Nat → Bool} {R : Nat → Bool} {x : Int32} {y : Int32} (hI : IvC P R) : oJ (o_holes P R x y) := by
  unfold o_holes
  repeat first | refine oJ_R (by decide) fun _ _ _ => ?_ | refine oJ_B fun _ => ?_
  exact hI
theorem oK_signed {P : Nat → Nat → Bool} {R : Nat → Bool} {x : Int32} : oK [0] tyI (o_signed P R x) := by
  unfold o_signed
  repeat first | refine oK_R (by decide) fun _ => ?_ | refine oK_B (by decide) fun _ => ?_
  exact ⟨_, rfl⟩
theorem oJ_signed {P : Nat → Nat → Bool} {R : Nat → Bool} {x : Int32} (hI : IvC P R) : oJ (o_signed P R x) := by
  unfold o_signed
  repeat first | refine oJ_R (by decide) fun _ _ _ => ?_ | refine oJ_B fun _ => ?_
  exact hI
theorem oK_flip {P : Nat → Nat → Bool} {R : Nat → Bool} {x : Int32} : oK [1, 2] tyI (o_flip P R x) := by
  unfold o_flip
  repeat first | refine oK_R (by decide) fun _ => ?_ | refine oK_B (by decide) fun _ => ?_
  exact ⟨_, rfl⟩
theorem oJ_flip {P : Nat → Nat → Bool} {R : Nat → Bool} {x : Int32} (hI : IvC P R) : oJ (o_flip P R x) := by
  unfold o_flip
  exact oJ_R (by decide) fun i hi1 hi => oJ_B fun h => tog_R hI hi1 hi h
theorem oK_rowAt {P : Nat → Nat → Bool} {R : Nat → Bool} {x : Int32} : oK [0] tyI (o_rowAt P R x) := by
  unfold o_rowAt
  repeat first | refine oK_R (by decide) fun _ => ?_ | refine oK_B (by decide) fun _ => ?_
  exact ⟨_, rfl⟩
theorem oJ_rowAt {P : Nat → Nat → Bool} {R : Nat → Bool} {x : Int32} (hI : IvC P R) : oJ (o_rowAt P R x) := by
  unfold o_rowAt
  repeat first | refine oJ_R (by decide) fun _ _ _ => ?_ | refine oJ_B fun _ => ?_
  exact hI
theorem oK_fills {P : Nat → Nat → Bool} {R : Nat → Bool} {x : Int32} : oK [0, 2] tyB (o_fills P R x) := by
  unfold o_fills
  repeat first | refine oK_R (by decide) fun _ => ?_ | refine oK_B (by decide) fun _ => ?_
  exact ⟨_, rfl⟩
theorem oJ_fills {P : Nat → Nat → Bool} {R : Nat → Bool} {x : Int32} (hI : IvC P R) : oJ (o_fills P R x) := by
  unfold o_fills
  repeat first | refine oJ_R (by decide) fun _ _ _ => ?_ | refine oJ_B fun _ => ?_
  exact hI
theorem oK_mean {P : Nat → Nat → Bool} {R : Nat → Bool} {x : Int32} : oK [0, 3] tyD (o_mean P R x) := by
  unfold o_mean
  refine oK_R (by decide) fun q1 => ?_
  refine oK_B (by decide) fun q2 => ?_
  exact ⟨_, rfl, mean_n (hsF_b _) (by have := fb_ct_le (P q1) 128; omega) (by rw [Bool.not_eq_true', decide_eq_false_iff_not] at q2; exact q2)⟩
theorem oJ_mean {P : Nat → Nat → Bool} {R : Nat → Bool} {x : Int32} (hI : IvC P R) : oJ (o_mean P R x) := by
  unfold o_mean
  repeat first | refine oJ_R (by decide) fun _ _ _ => ?_ | refine oJ_B fun _ => ?_
  exact hI
theorem oK_share {P : Nat → Nat → Bool} {R : Nat → Bool} {x : Int32} : oK [0] tyF (o_share P R x) := by
  unfold o_share
  refine oK_R (by decide) fun q1 => ?_
  exact ⟨_, rfl, shr_n (P q1)⟩
theorem oJ_share {P : Nat → Nat → Bool} {R : Nat → Bool} {x : Int32} (hI : IvC P R) : oJ (o_share P R x) := by
  unfold o_share
  repeat first | refine oJ_R (by decide) fun _ _ _ => ?_ | refine oJ_B fun _ => ?_
  exact hI
theorem oK_isSound {P : Nat → Nat → Bool} {R : Nat → Bool} {x : Int32} : oK [0] tyB (o_isSound P R x) := by
  unfold o_isSound
  repeat first | refine oK_R (by decide) fun _ => ?_ | refine oK_B (by decide) fun _ => ?_
  exact ⟨true, rfl⟩
theorem oJ_isSound {P : Nat → Nat → Bool} {R : Nat → Bool} {x : Int32} (hI : IvC P R) : oJ (o_isSound P R x) := by
  unfold o_isSound
  repeat first | refine oJ_R (by decide) fun _ _ _ => ?_ | refine oJ_B fun _ => ?_
  exact hI
theorem oK_isTrue {P : Nat → Nat → Bool} {R : Nat → Bool} {x : Int32} {y : Int32} {z : Int32} : oK [0, 1] tyB (o_isTrue P R x y z) := by
  unfold o_isTrue
  repeat first | refine oK_R (by decide) fun _ => ?_ | refine oK_B (by decide) fun _ => ?_
  exact ⟨true, rfl⟩
theorem oJ_isTrue {P : Nat → Nat → Bool} {R : Nat → Bool} {x : Int32} {y : Int32} {z : Int32} (hI : IvC P R) : oJ (o_isTrue P R x y z) := by
  unfold o_isTrue
  repeat first | refine oJ_R (by decide) fun _ _ _ => ?_ | refine oJ_B fun _ => ?_
  exact hI
theorem oK_faceIsTrue {P : Nat → Nat → Bool} {R : Nat → Bool} {x : Int32} {y : Int32} : oK [0, 1, 3] tyB (o_faceIsTrue P R x y) := by
  unfold o_faceIsTrue
  repeat first | refine oK_R (by decide) fun _ => ?_ | refine oK_B (by decide) fun _ => ?_
  exact ⟨true, rfl⟩
theorem oJ_faceIsTrue {P : Nat → Nat → Bool} {R : Nat → Bool} {x : Int32} {y : Int32} (hI : IvC P R) : oJ (o_faceIsTrue P R x y) := by
  unfold o_faceIsTrue
  repeat first | refine oJ_R (by decide) fun _ _ _ => ?_ | refine oJ_B fun _ => ?_
  exact hI
theorem oK_pairIsTrue {P : Nat → Nat → Bool} {R : Nat → Bool} {x : Int32} {y : Int32} : oK [0] tyB (o_pairIsTrue P R x y) := by
  unfold o_pairIsTrue
  repeat first | refine oK_R (by decide) fun _ => ?_ | refine oK_B (by decide) fun _ => ?_
  exact ⟨true, rfl⟩
theorem oJ_pairIsTrue {P : Nat → Nat → Bool} {R : Nat → Bool} {x : Int32} {y : Int32} (hI : IvC P R) : oJ (o_pairIsTrue P R x y) := by
  unfold o_pairIsTrue
  repeat first | refine oJ_R (by decide) fun _ _ _ => ?_ | refine oJ_B fun _ => ?_
  exact hI
set_option maxRecDepth 10000 in
/-- Law.put -/
theorem kL_put {S : Nat × (Nat → Int32)} {d : Nat} {b : Bool} {P : Nat → Nat → Bool} {R u v w : Nat → Bool} {kb : Nat → Nat} {f g e : Nat → Int32} {A mk ro nx pi : Nat → Int32} {kp : Nat → Int64} {km th : Int32} {oo : Nat → Int64} {od : Nat → UInt64} {Q : eQ} {x : Int32} {y : Int32} {o : Oc} (hI : IvC P R) (ho : o_put P R x y = o) (hQ : lQ cmA o Q b P R A mk ro nx pi kp km th od oo) : okCall S MT (d + 9) nL_put [.ref 1, .int x, .int y, .ref 31] (b, LW P R u v w kb f g e A mk ro nx pi kp km th oo od) Q := by
  have hk := oK_put (P := P) (R := R) (x := x) (y := y)
  rw [ho] at hk
  refine okc (M := ML_put) rfl rfl fun K hK hW => ?_
  show K 0 [(0, .ref 1), (1, .int x), (2, .int y), (3, .ref 31)] [] (b, LW P R u v w kb f g e A mk ro nx pi kp km th oo od) 0 0
  iterate 5 refine hK _ _ _ _ _ _ (?_ : K _ _ _ _ _ _)
  refine hK _ _ _ _ _ _ (r_callV rfl (fun _ => rfl) rfl (b0 rfl rfl rfl) (kX6_put (lcG ho hk (List.forall_mem_cons.mpr ⟨?_, List.forall_mem_cons.mpr ⟨?_, fun _ hm => (by cases hm)⟩⟩) ?_)))
  · intro e1 u v w kb f g e
    subst e1
    show K 15 [(0, .ref 1), (1, .int x), (2, .int y), (3, .ref 31)] [] (false, LW P R u v w kb f g e A mk ro nx pi kp km th oo od) _ _
    iterate 1 refine hK _ _ _ _ _ _ (?_ : K _ _ _ _ _ _)
    exact hK _ _ _ _ _ _ (r_iret rfl rfl rfl rfl (hQ _ _ _ _ _ _ _))
  · intro e1 u v w kb f g e
    subst e1
    show K 19 [(0, .ref 1), (1, .int x), (2, .int y), (3, .ref 31)] [] (false, LW P R u v w kb f g e A mk ro nx pi kp km th oo od) _ _
    iterate 1 refine hK _ _ _ _ _ _ (?_ : K _ _ _ _ _ _)
    exact hK _ _ _ _ _ _ (r_iret rfl rfl rfl rfl (hQ _ _ _ _ _ _ _))
  · intro r P2 R2 e1 ht u v w kb f g e
    subst e1
    obtain ⟨x9, rfl⟩ := ht
    show K 8 [(0, .ref 1), (1, .int x), (2, .int y), (3, .ref 31)] (.int x9 :: [.int (nI 0), .ref 31]) (b, LW P2 R2 u v w kb f g e A mk ro nx pi kp km th oo od) _ _
    iterate 1 refine hK _ _ _ _ _ _ (?_ : K _ _ _ _ _ _)
    refine hK _ _ _ _ _ _ (r_last rfl (N := 1) (f := oo) rfl (vp_in_nI (by decide) (by decide)) (?_ : K _ _ _ _ _ _))
    show K _ _ _ (b, LW P2 R2 u v w kb f g e A mk ro nx pi kp km th (vp_updL oo (nI 0).toNatClampNeg x9.toInt64) od) _ _
    iterate 2 refine hK _ _ _ _ _ _ (?_ : K _ _ _ _ _ _)
    exact hK _ _ _ _ _ _ (r_iret rfl rfl rfl rfl (hQ _ _ _ _ _ _ _ _ (up0 _ _)))
set_option maxRecDepth 10000 in
/-- Law.take -/
theorem kL_take {S : Nat × (Nat → Int32)} {d : Nat} {b : Bool} {P : Nat → Nat → Bool} {R u v w : Nat → Bool} {kb : Nat → Nat} {f g e : Nat → Int32} {A mk ro nx pi : Nat → Int32} {kp : Nat → Int64} {km th : Int32} {oo : Nat → Int64} {od : Nat → UInt64} {Q : eQ} {x : Int32} {y : Int32} {o : Oc} (hI : IvC P R) (ho : o_take P R x y = o) (hQ : lQ cmA o Q b P R A mk ro nx pi kp km th od oo) : okCall S MT (d + 9) nL_take [.ref 1, .int x, .int y, .ref 31] (b, LW P R u v w kb f g e A mk ro nx pi kp km th oo od) Q := by
  have hk := oK_take (P := P) (R := R) (x := x) (y := y)
  rw [ho] at hk
  refine okc (M := ML_take) rfl rfl fun K hK hW => ?_
  show K 0 [(0, .ref 1), (1, .int x), (2, .int y), (3, .ref 31)] [] (b, LW P R u v w kb f g e A mk ro nx pi kp km th oo od) 0 0
  iterate 5 refine hK _ _ _ _ _ _ (?_ : K _ _ _ _ _ _)
  refine hK _ _ _ _ _ _ (r_callV rfl (fun _ => rfl) rfl (b0 rfl rfl rfl) (kX6_take (lcG ho hk (List.forall_mem_cons.mpr ⟨?_, List.forall_mem_cons.mpr ⟨?_, List.forall_mem_cons.mpr ⟨?_, fun _ hm => (by cases hm)⟩⟩⟩) ?_)))
  · intro e1 u v w kb f g e
    subst e1
    show K 15 [(0, .ref 1), (1, .int x), (2, .int y), (3, .ref 31)] [] (false, LW P R u v w kb f g e A mk ro nx pi kp km th oo od) _ _
    iterate 1 refine hK _ _ _ _ _ _ (?_ : K _ _ _ _ _ _)
    exact hK _ _ _ _ _ _ (r_iret rfl rfl rfl rfl (hQ _ _ _ _ _ _ _))
  · intro e1 u v w kb f g e
    subst e1
    show K 19 [(0, .ref 1), (1, .int x), (2, .int y), (3, .ref 31)] [] (false, LW P R u v w kb f g e A mk ro nx pi kp km th oo od) _ _
    iterate 1 refine hK _ _ _ _ _ _ (?_ : K _ _ _ _ _ _)
    exact hK _ _ _ _ _ _ (r_iret rfl rfl rfl rfl (hQ _ _ _ _ _ _ _))
  · intro e1 u v w kb f g e
    subst e1
    show K 23 [(0, .ref 1), (1, .int x), (2, .int y), (3, .ref 31)] [] (false, LW P R u v w kb f g e A mk ro nx pi kp km th oo od) _ _
    iterate 1 refine hK _ _ _ _ _ _ (?_ : K _ _ _ _ _ _)
    exact hK _ _ _ _ _ _ (r_iret rfl rfl rfl rfl (hQ _ _ _ _ _ _ _))
  · intro r P2 R2 e1 ht u v w kb f g e
    subst e1
    obtain ⟨x9, rfl⟩ := ht
    show K 8 [(0, .ref 1), (1, .int x), (2, .int y), (3, .ref 31)] (.int x9 :: [.int (nI 0), .ref 31]) (b, LW P2 R2 u v w kb f g e A mk ro nx pi kp km th oo od) _ _
    iterate 1 refine hK _ _ _ _ _ _ (?_ : K _ _ _ _ _ _)
    refine hK _ _ _ _ _ _ (r_last rfl (N := 1) (f := oo) rfl (vp_in_nI (by decide) (by decide)) (?_ : K _ _ _ _ _ _))
    show K _ _ _ (b, LW P2 R2 u v w kb f g e A mk ro nx pi kp km th (vp_updL oo (nI 0).toNatClampNeg x9.toInt64) od) _ _
    iterate 2 refine hK _ _ _ _ _ _ (?_ : K _ _ _ _ _ _)
    exact hK _ _ _ _ _ _ (r_iret rfl rfl rfl rfl (hQ _ _ _ _ _ _ _ _ (up0 _ _)))
set_option maxRecDepth 10000 in
/-- Law.clear -/
theorem kL_clear {S : Nat × (Nat → Int32)} {d : Nat} {b : Bool} {P : Nat → Nat → Bool} {R u v w : Nat → Bool} {kb : Nat → Nat} {f g e : Nat → Int32} {A mk ro nx pi : Nat → Int32} {kp : Nat → Int64} {km th : Int32} {oo : Nat → Int64} {od : Nat → UInt64} {Q : eQ} {x : Int32} {o : Oc} (hI : IvC P R) (ho : o_clear P R x = o) (hQ : lQ cmA o Q b P R A mk ro nx pi kp km th od oo) : okCall S MT (d + 9) nL_clear [.ref 1, .int x, .ref 31] (b, LW P R u v w kb f g e A mk ro nx pi kp km th oo od) Q := by
  have hk := oK_clear (P := P) (R := R) (x := x)
  rw [ho] at hk
  refine okc (M := ML_clear) rfl rfl fun K hK hW => ?_
  show K 0 [(0, .ref 1), (1, .int x), (2, .ref 31)] [] (b, LW P R u v w kb f g e A mk ro nx pi kp km th oo od) 0 0
  iterate 4 refine hK _ _ _ _ _ _ (?_ : K _ _ _ _ _ _)
  refine hK _ _ _ _ _ _ (r_callV rfl (fun _ => rfl) rfl (b0 rfl rfl rfl) (kX6_clear (lcG ho hk (List.forall_mem_cons.mpr ⟨?_, fun _ hm => (by cases hm)⟩) ?_)))
  · intro e1 u v w kb f g e
    subst e1
    show K 13 [(0, .ref 1), (1, .int x), (2, .ref 31)] [] (false, LW P R u v w kb f g e A mk ro nx pi kp km th oo od) _ _
    iterate 1 refine hK _ _ _ _ _ _ (?_ : K _ _ _ _ _ _)
    exact hK _ _ _ _ _ _ (r_iret rfl rfl rfl rfl (hQ _ _ _ _ _ _ _))
  · intro r P2 R2 e1 ht u v w kb f g e
    subst e1
    obtain ⟨x9, rfl⟩ := ht
    show K 7 [(0, .ref 1), (1, .int x), (2, .ref 31)] (.int x9 :: [.int (nI 0), .ref 31]) (b, LW P2 R2 u v w kb f g e A mk ro nx pi kp km th oo od) _ _
    iterate 1 refine hK _ _ _ _ _ _ (?_ : K _ _ _ _ _ _)
    refine hK _ _ _ _ _ _ (r_last rfl (N := 1) (f := oo) rfl (vp_in_nI (by decide) (by decide)) (?_ : K _ _ _ _ _ _))
    show K _ _ _ (b, LW P2 R2 u v w kb f g e A mk ro nx pi kp km th (vp_updL oo (nI 0).toNatClampNeg x9.toInt64) od) _ _
    iterate 2 refine hK _ _ _ _ _ _ (?_ : K _ _ _ _ _ _)
    exact hK _ _ _ _ _ _ (r_iret rfl rfl rfl rfl (hQ _ _ _ _ _ _ _ _ (up0 _ _)))
set_option maxRecDepth 10000 in
/-- Law.copy -/
theorem kL_copy {S : Nat × (Nat → Int32)} {d : Nat} {b : Bool} {P : Nat → Nat → Bool} {R u v w : Nat → Bool} {kb : Nat → Nat} {f g e : Nat → Int32} {A mk ro nx pi : Nat → Int32} {kp : Nat → Int64} {km th : Int32} {oo : Nat → Int64} {od : Nat → UInt64} {Q : eQ} {x : Int32} {y : Int32} {o : Oc} (hI : IvC P R) (ho : o_copy P R x y = o) (hQ : lQ cmA o Q b P R A mk ro nx pi kp km th od oo) : okCall S MT (d + 9) nL_copy [.ref 1, .int x, .int y, .ref 31] (b, LW P R u v w kb f g e A mk ro nx pi kp km th oo od) Q := by
  have hk := oK_copy (P := P) (R := R) (x := x) (y := y)
  rw [ho] at hk
  refine okc (M := ML_copy) rfl rfl fun K hK hW => ?_
  show K 0 [(0, .ref 1), (1, .int x), (2, .int y), (3, .ref 31)] [] (b, LW P R u v w kb f g e A mk ro nx pi kp km th oo od) 0 0
  iterate 5 refine hK _ _ _ _ _ _ (?_ : K _ _ _ _ _ _)
  refine hK _ _ _ _ _ _ (r_callV rfl (fun _ => rfl) rfl (b0 rfl rfl rfl) (kX6_copy (lcG ho hk (List.forall_mem_cons.mpr ⟨?_, fun _ hm => (by cases hm)⟩) ?_)))
  · intro e1 u v w kb f g e
    subst e1
    show K 15 [(0, .ref 1), (1, .int x), (2, .int y), (3, .ref 31)] [] (false, LW P R u v w kb f g e A mk ro nx pi kp km th oo od) _ _
    iterate 1 refine hK _ _ _ _ _ _ (?_ : K _ _ _ _ _ _)
    exact hK _ _ _ _ _ _ (r_iret rfl rfl rfl rfl (hQ _ _ _ _ _ _ _))
  · intro r P2 R2 e1 ht u v w kb f g e
    subst e1
    obtain ⟨x9, rfl⟩ := ht
    show K 8 [(0, .ref 1), (1, .int x), (2, .int y), (3, .ref 31)] (.int x9 :: [.int (nI 0), .ref 31]) (b, LW P2 R2 u v w kb f g e A mk ro nx pi kp km th oo od) _ _
    iterate 1 refine hK _ _ _ _ _ _ (?_ : K _ _ _ _ _ _)
    refine hK _ _ _ _ _ _ (r_last rfl (N := 1) (f := oo) rfl (vp_in_nI (by decide) (by decide)) (?_ : K _ _ _ _ _ _))
    show K _ _ _ (b, LW P2 R2 u v w kb f g e A mk ro nx pi kp km th (vp_updL oo (nI 0).toNatClampNeg x9.toInt64) od) _ _
    iterate 2 refine hK _ _ _ _ _ _ (?_ : K _ _ _ _ _ _)
    exact hK _ _ _ _ _ _ (r_iret rfl rfl rfl rfl (hQ _ _ _ _ _ _ _ _ (up0 _ _)))
set_option maxRecDepth 10000 in
/-- Law.unite -/
theorem kL_unite {S : Nat × (Nat → Int32)} {d : Nat} {b : Bool} {P : Nat → Nat → Bool} {R u v w : Nat → Bool} {kb : Nat → Nat} {f g e : Nat → Int32} {A mk ro nx pi : Nat → Int32} {kp : Nat → Int64} {km th : Int32} {oo : Nat → Int64} {od : Nat → UInt64} {Q : eQ} {x : Int32} {y : Int32} {z : Int32} {o : Oc} (hI : IvC P R) (ho : o_unite P R x y z = o) (hQ : lQ cmA o Q b P R A mk ro nx pi kp km th od oo) : okCall S MT (d + 9) nL_unite [.ref 1, .int x, .int y, .int z, .ref 31] (b, LW P R u v w kb f g e A mk ro nx pi kp km th oo od) Q := by
  have hk := oK_unite (P := P) (R := R) (x := x) (y := y) (z := z)
  rw [ho] at hk
  refine okc (M := ML_unite) rfl rfl fun K hK hW => ?_
  show K 0 [(0, .ref 1), (1, .int x), (2, .int y), (3, .int z), (4, .ref 31)] [] (b, LW P R u v w kb f g e A mk ro nx pi kp km th oo od) 0 0
  iterate 6 refine hK _ _ _ _ _ _ (?_ : K _ _ _ _ _ _)
  refine hK _ _ _ _ _ _ (r_callV rfl (fun _ => rfl) rfl (b0 rfl rfl rfl) (kX6_unite (lcG ho hk (List.forall_mem_cons.mpr ⟨?_, fun _ hm => (by cases hm)⟩) ?_)))
  · intro e1 u v w kb f g e
    subst e1
    show K 17 [(0, .ref 1), (1, .int x), (2, .int y), (3, .int z), (4, .ref 31)] [] (false, LW P R u v w kb f g e A mk ro nx pi kp km th oo od) _ _
    iterate 1 refine hK _ _ _ _ _ _ (?_ : K _ _ _ _ _ _)
    exact hK _ _ _ _ _ _ (r_iret rfl rfl rfl rfl (hQ _ _ _ _ _ _ _))
  · intro r P2 R2 e1 ht u v w kb f g e
    subst e1
    obtain ⟨x9, rfl⟩ := ht
    show K 10 [(0, .ref 1), (1, .int x), (2, .int y), (3, .int z), (4, .ref 31)] (.int x9 :: [.int (nI 0), .ref 31]) (b, LW P2 R2 u v w kb f g e A mk ro nx pi kp km th oo od) _ _
    iterate 1 refine hK _ _ _ _ _ _ (?_ : K _ _ _ _ _ _)
    refine hK _ _ _ _ _ _ (r_last rfl (N := 1) (f := oo) rfl (vp_in_nI (by decide) (by decide)) (?_ : K _ _ _ _ _ _))
    show K _ _ _ (b, LW P2 R2 u v w kb f g e A mk ro nx pi kp km th (vp_updL oo (nI 0).toNatClampNeg x9.toInt64) od) _ _
    iterate 2 refine hK _ _ _ _ _ _ (?_ : K _ _ _ _ _ _)
    exact hK _ _ _ _ _ _ (r_iret rfl rfl rfl rfl (hQ _ _ _ _ _ _ _ _ (up0 _ _)))
set_option maxRecDepth 10000 in
/-- Law.meet -/
theorem kL_meet {S : Nat × (Nat → Int32)} {d : Nat} {b : Bool} {P : Nat → Nat → Bool} {R u v w : Nat → Bool} {kb : Nat → Nat} {f g e : Nat → Int32} {A mk ro nx pi : Nat → Int32} {kp : Nat → Int64} {km th : Int32} {oo : Nat → Int64} {od : Nat → UInt64} {Q : eQ} {x : Int32} {y : Int32} {z : Int32} {o : Oc} (hI : IvC P R) (ho : o_meet P R x y z = o) (hQ : lQ cmA o Q b P R A mk ro nx pi kp km th od oo) : okCall S MT (d + 9) nL_meet [.ref 1, .int x, .int y, .int z, .ref 31] (b, LW P R u v w kb f g e A mk ro nx pi kp km th oo od) Q := by
  have hk := oK_meet (P := P) (R := R) (x := x) (y := y) (z := z)
  rw [ho] at hk
  refine okc (M := ML_meet) rfl rfl fun K hK hW => ?_
  show K 0 [(0, .ref 1), (1, .int x), (2, .int y), (3, .int z), (4, .ref 31)] [] (b, LW P R u v w kb f g e A mk ro nx pi kp km th oo od) 0 0
  iterate 6 refine hK _ _ _ _ _ _ (?_ : K _ _ _ _ _ _)
  refine hK _ _ _ _ _ _ (r_callV rfl (fun _ => rfl) rfl (b0 rfl rfl rfl) (kX6_meet (lcG ho hk (List.forall_mem_cons.mpr ⟨?_, fun _ hm => (by cases hm)⟩) ?_)))
  · intro e1 u v w kb f g e
    subst e1
    show K 17 [(0, .ref 1), (1, .int x), (2, .int y), (3, .int z), (4, .ref 31)] [] (false, LW P R u v w kb f g e A mk ro nx pi kp km th oo od) _ _
    iterate 1 refine hK _ _ _ _ _ _ (?_ : K _ _ _ _ _ _)
    exact hK _ _ _ _ _ _ (r_iret rfl rfl rfl rfl (hQ _ _ _ _ _ _ _))
  · intro r P2 R2 e1 ht u v w kb f g e
    subst e1
    obtain ⟨x9, rfl⟩ := ht
    show K 10 [(0, .ref 1), (1, .int x), (2, .int y), (3, .int z), (4, .ref 31)] (.int x9 :: [.int (nI 0), .ref 31]) (b, LW P2 R2 u v w kb f g e A mk ro nx pi kp km th oo od) _ _
    iterate 1 refine hK _ _ _ _ _ _ (?_ : K _ _ _ _ _ _)
    refine hK _ _ _ _ _ _ (r_last rfl (N := 1) (f := oo) rfl (vp_in_nI (by decide) (by decide)) (?_ : K _ _ _ _ _ _))
    show K _ _ _ (b, LW P2 R2 u v w kb f g e A mk ro nx pi kp km th (vp_updL oo (nI 0).toNatClampNeg x9.toInt64) od) _ _
    iterate 2 refine hK _ _ _ _ _ _ (?_ : K _ _ _ _ _ _)
    exact hK _ _ _ _ _ _ (r_iret rfl rfl rfl rfl (hQ _ _ _ _ _ _ _ _ (up0 _ _)))
set_option maxRecDepth 10000 in
/-- Law.full -/
theorem kL_full {S : Nat × (Nat → Int32)} {d : Nat} {b : Bool} {P : Nat → Nat → Bool} {R u v w : Nat → Bool} {kb : Nat → Nat} {f g e : Nat → Int32} {A mk ro nx pi : Nat → Int32} {kp : Nat → Int64} {km th : Int32} {oo : Nat → Int64} {od : Nat → UInt64} {Q : eQ} {x : Int32} {r : Bool} {z : Int32} {o : Oc} (hI : IvC P R) (ho : o_full P R x r z = o) (hQ : lQ cmA o Q b P R A mk ro nx pi kp km th od oo) : okCall S MT (d + 9) nL_full [.ref 1, .int x, .int (b2i r), .int z, .ref 31] (b, LW P R u v w kb f g e A mk ro nx pi kp km th oo od) Q := by
  have hk := oK_full (P := P) (R := R) (x := x) (r := r) (z := z)
  rw [ho] at hk
  refine okc (M := ML_full) rfl rfl fun K hK hW => ?_
  show K 0 [(0, .ref 1), (1, .int x), (2, .int (b2i r)), (3, .int z), (4, .ref 31)] [] (b, LW P R u v w kb f g e A mk ro nx pi kp km th oo od) 0 0
  iterate 6 refine hK _ _ _ _ _ _ (?_ : K _ _ _ _ _ _)
  refine hK _ _ _ _ _ _ (r_callV rfl (fun _ => rfl) rfl (b0 rfl rfl rfl) (kX6_full (lcG ho hk (List.forall_mem_cons.mpr ⟨?_, List.forall_mem_cons.mpr ⟨?_, fun _ hm => (by cases hm)⟩⟩) ?_)))
  · intro e1 u v w kb f g e
    subst e1
    show K 17 [(0, .ref 1), (1, .int x), (2, .int (b2i r)), (3, .int z), (4, .ref 31)] [] (false, LW P R u v w kb f g e A mk ro nx pi kp km th oo od) _ _
    iterate 1 refine hK _ _ _ _ _ _ (?_ : K _ _ _ _ _ _)
    exact hK _ _ _ _ _ _ (r_iret rfl rfl rfl rfl (hQ _ _ _ _ _ _ _))
  · intro e1 u v w kb f g e
    subst e1
    show K 21 [(0, .ref 1), (1, .int x), (2, .int (b2i r)), (3, .int z), (4, .ref 31)] [] (false, LW P R u v w kb f g e A mk ro nx pi kp km th oo od) _ _
    iterate 1 refine hK _ _ _ _ _ _ (?_ : K _ _ _ _ _ _)
    exact hK _ _ _ _ _ _ (r_iret rfl rfl rfl rfl (hQ _ _ _ _ _ _ _))
  · intro r P2 R2 e1 ht u v w kb f g e
    subst e1
    obtain ⟨x9, rfl⟩ := ht
    show K 10 [(0, .ref 1), (1, .int x), (2, .int (b2i r)), (3, .int z), (4, .ref 31)] (.int x9 :: [.int (nI 0), .ref 31]) (b, LW P2 R2 u v w kb f g e A mk ro nx pi kp km th oo od) _ _
    iterate 1 refine hK _ _ _ _ _ _ (?_ : K _ _ _ _ _ _)
    refine hK _ _ _ _ _ _ (r_last rfl (N := 1) (f := oo) rfl (vp_in_nI (by decide) (by decide)) (?_ : K _ _ _ _ _ _))
    show K _ _ _ (b, LW P2 R2 u v w kb f g e A mk ro nx pi kp km th (vp_updL oo (nI 0).toNatClampNeg x9.toInt64) od) _ _
    iterate 2 refine hK _ _ _ _ _ _ (?_ : K _ _ _ _ _ _)
    exact hK _ _ _ _ _ _ (r_iret rfl rfl rfl rfl (hQ _ _ _ _ _ _ _ _ (up0 _ _)))
set_option maxRecDepth 10000 in
/-- Law.low -/
theorem kL_low {S : Nat × (Nat → Int32)} {d : Nat} {b : Bool} {P : Nat → Nat → Bool} {R u v w : Nat → Bool} {kb : Nat → Nat} {f g e : Nat → Int32} {A mk ro nx pi : Nat → Int32} {kp : Nat → Int64} {km th : Int32} {oo : Nat → Int64} {od : Nat → UInt64} {Q : eQ} {x : Int32} {y : Int32} {z : Int32} {o : Oc} (hI : IvC P R) (ho : o_low P R x y z = o) (hQ : lQ cmA o Q b P R A mk ro nx pi kp km th od oo) : okCall S MT (d + 9) nL_low [.ref 1, .int x, .int y, .int z, .ref 31] (b, LW P R u v w kb f g e A mk ro nx pi kp km th oo od) Q := by
  have hk := oK_low (P := P) (R := R) (x := x) (y := y) (z := z)
  rw [ho] at hk
  refine okc (M := ML_low) rfl rfl fun K hK hW => ?_
  show K 0 [(0, .ref 1), (1, .int x), (2, .int y), (3, .int z), (4, .ref 31)] [] (b, LW P R u v w kb f g e A mk ro nx pi kp km th oo od) 0 0
  iterate 6 refine hK _ _ _ _ _ _ (?_ : K _ _ _ _ _ _)
  refine hK _ _ _ _ _ _ (r_callV rfl (fun _ => rfl) rfl (b0 rfl rfl rfl) (kX6_low (lcG ho hk (List.forall_mem_cons.mpr ⟨?_, List.forall_mem_cons.mpr ⟨?_, fun _ hm => (by cases hm)⟩⟩) ?_)))
  · intro e1 u v w kb f g e
    subst e1
    show K 17 [(0, .ref 1), (1, .int x), (2, .int y), (3, .int z), (4, .ref 31)] [] (false, LW P R u v w kb f g e A mk ro nx pi kp km th oo od) _ _
    iterate 1 refine hK _ _ _ _ _ _ (?_ : K _ _ _ _ _ _)
    exact hK _ _ _ _ _ _ (r_iret rfl rfl rfl rfl (hQ _ _ _ _ _ _ _))
  · intro e1 u v w kb f g e
    subst e1
    show K 21 [(0, .ref 1), (1, .int x), (2, .int y), (3, .int z), (4, .ref 31)] [] (false, LW P R u v w kb f g e A mk ro nx pi kp km th oo od) _ _
    iterate 1 refine hK _ _ _ _ _ _ (?_ : K _ _ _ _ _ _)
    exact hK _ _ _ _ _ _ (r_iret rfl rfl rfl rfl (hQ _ _ _ _ _ _ _))
  · intro r P2 R2 e1 ht u v w kb f g e
    subst e1
    obtain ⟨x9, rfl⟩ := ht
    show K 10 [(0, .ref 1), (1, .int x), (2, .int y), (3, .int z), (4, .ref 31)] (.int x9 :: [.int (nI 0), .ref 31]) (b, LW P2 R2 u v w kb f g e A mk ro nx pi kp km th oo od) _ _
    iterate 1 refine hK _ _ _ _ _ _ (?_ : K _ _ _ _ _ _)
    refine hK _ _ _ _ _ _ (r_last rfl (N := 1) (f := oo) rfl (vp_in_nI (by decide) (by decide)) (?_ : K _ _ _ _ _ _))
    show K _ _ _ (b, LW P2 R2 u v w kb f g e A mk ro nx pi kp km th (vp_updL oo (nI 0).toNatClampNeg x9.toInt64) od) _ _
    iterate 2 refine hK _ _ _ _ _ _ (?_ : K _ _ _ _ _ _)
    exact hK _ _ _ _ _ _ (r_iret rfl rfl rfl rfl (hQ _ _ _ _ _ _ _ _ (up0 _ _)))
set_option maxRecDepth 10000 in
/-- Law.about -/
theorem kL_about {S : Nat × (Nat → Int32)} {d : Nat} {b : Bool} {P : Nat → Nat → Bool} {R u v w : Nat → Bool} {kb : Nat → Nat} {f g e : Nat → Int32} {A mk ro nx pi : Nat → Int32} {kp : Nat → Int64} {km th : Int32} {oo : Nat → Int64} {od : Nat → UInt64} {Q : eQ} {x : Int32} {y : Int32} {r : Bool} {z : Int32} {o : Oc} (hI : IvC P R) (ho : o_about P R x y r z = o) (hQ : lQ cmA o Q b P R A mk ro nx pi kp km th od oo) : okCall S MT (d + 9) nL_about [.ref 1, .int x, .int y, .int (b2i r), .int z, .ref 31] (b, LW P R u v w kb f g e A mk ro nx pi kp km th oo od) Q := by
  have hk := oK_about (P := P) (R := R) (x := x) (y := y) (r := r) (z := z)
  rw [ho] at hk
  refine okc (M := ML_about) rfl rfl fun K hK hW => ?_
  show K 0 [(0, .ref 1), (1, .int x), (2, .int y), (3, .int (b2i r)), (4, .int z), (5, .ref 31)] [] (b, LW P R u v w kb f g e A mk ro nx pi kp km th oo od) 0 0
  iterate 7 refine hK _ _ _ _ _ _ (?_ : K _ _ _ _ _ _)
  refine hK _ _ _ _ _ _ (r_callV rfl (fun _ => rfl) rfl (b0 rfl rfl rfl) (kX6_about (lcG ho hk (List.forall_mem_cons.mpr ⟨?_, List.forall_mem_cons.mpr ⟨?_, List.forall_mem_cons.mpr ⟨?_, fun _ hm => (by cases hm)⟩⟩⟩) ?_)))
  · intro e1 u v w kb f g e
    subst e1
    show K 19 [(0, .ref 1), (1, .int x), (2, .int y), (3, .int (b2i r)), (4, .int z), (5, .ref 31)] [] (false, LW P R u v w kb f g e A mk ro nx pi kp km th oo od) _ _
    iterate 1 refine hK _ _ _ _ _ _ (?_ : K _ _ _ _ _ _)
    exact hK _ _ _ _ _ _ (r_iret rfl rfl rfl rfl (hQ _ _ _ _ _ _ _))
  · intro e1 u v w kb f g e
    subst e1
    show K 23 [(0, .ref 1), (1, .int x), (2, .int y), (3, .int (b2i r)), (4, .int z), (5, .ref 31)] [] (false, LW P R u v w kb f g e A mk ro nx pi kp km th oo od) _ _
    iterate 1 refine hK _ _ _ _ _ _ (?_ : K _ _ _ _ _ _)
    exact hK _ _ _ _ _ _ (r_iret rfl rfl rfl rfl (hQ _ _ _ _ _ _ _))
  · intro e1 u v w kb f g e
    subst e1
    show K 27 [(0, .ref 1), (1, .int x), (2, .int y), (3, .int (b2i r)), (4, .int z), (5, .ref 31)] [] (false, LW P R u v w kb f g e A mk ro nx pi kp km th oo od) _ _
    iterate 1 refine hK _ _ _ _ _ _ (?_ : K _ _ _ _ _ _)
    exact hK _ _ _ _ _ _ (r_iret rfl rfl rfl rfl (hQ _ _ _ _ _ _ _))
  · intro r P2 R2 e1 ht u v w kb f g e
    subst e1
    obtain ⟨x9, rfl⟩ := ht
    show K 12 [(0, .ref 1), (1, .int x), (2, .int y), (3, .int (b2i r)), (4, .int z), (5, .ref 31)] (.int x9 :: [.int (nI 0), .ref 31]) (b, LW P2 R2 u v w kb f g e A mk ro nx pi kp km th oo od) _ _
    iterate 1 refine hK _ _ _ _ _ _ (?_ : K _ _ _ _ _ _)
    refine hK _ _ _ _ _ _ (r_last rfl (N := 1) (f := oo) rfl (vp_in_nI (by decide) (by decide)) (?_ : K _ _ _ _ _ _))
    show K _ _ _ (b, LW P2 R2 u v w kb f g e A mk ro nx pi kp km th (vp_updL oo (nI 0).toNatClampNeg x9.toInt64) od) _ _
    iterate 2 refine hK _ _ _ _ _ _ (?_ : K _ _ _ _ _ _)
    exact hK _ _ _ _ _ _ (r_iret rfl rfl rfl rfl (hQ _ _ _ _ _ _ _ _ (up0 _ _)))
set_option maxRecDepth 10000 in
/-- Law.cone -/
theorem kL_cone {S : Nat × (Nat → Int32)} {d : Nat} {b : Bool} {P : Nat → Nat → Bool} {R u v w : Nat → Bool} {kb : Nat → Nat} {f g e : Nat → Int32} {A mk ro nx pi : Nat → Int32} {kp : Nat → Int64} {km th : Int32} {oo : Nat → Int64} {od : Nat → UInt64} {Q : eQ} {x : Int32} {y : Int32} {z : Int32} {o : Oc} (hI : IvC P R) (ho : o_cone P R x y z = o) (hQ : lQ cmA o Q b P R A mk ro nx pi kp km th od oo) : okCall S MT (d + 9) nL_cone [.ref 1, .int x, .int y, .int z, .ref 31] (b, LW P R u v w kb f g e A mk ro nx pi kp km th oo od) Q := by
  have hk := oK_cone (P := P) (R := R) (x := x) (y := y) (z := z)
  rw [ho] at hk
  refine okc (M := ML_cone) rfl rfl fun K hK hW => ?_
  show K 0 [(0, .ref 1), (1, .int x), (2, .int y), (3, .int z), (4, .ref 31)] [] (b, LW P R u v w kb f g e A mk ro nx pi kp km th oo od) 0 0
  iterate 6 refine hK _ _ _ _ _ _ (?_ : K _ _ _ _ _ _)
  refine hK _ _ _ _ _ _ (r_callV rfl (fun _ => rfl) rfl (b0 rfl rfl rfl) (kX6_cone (lcG ho hk (List.forall_mem_cons.mpr ⟨?_, List.forall_mem_cons.mpr ⟨?_, List.forall_mem_cons.mpr ⟨?_, fun _ hm => (by cases hm)⟩⟩⟩) ?_)))
  · intro e1 u v w kb f g e
    subst e1
    show K 17 [(0, .ref 1), (1, .int x), (2, .int y), (3, .int z), (4, .ref 31)] [] (false, LW P R u v w kb f g e A mk ro nx pi kp km th oo od) _ _
    iterate 1 refine hK _ _ _ _ _ _ (?_ : K _ _ _ _ _ _)
    exact hK _ _ _ _ _ _ (r_iret rfl rfl rfl rfl (hQ _ _ _ _ _ _ _))
  · intro e1 u v w kb f g e
    subst e1
    show K 21 [(0, .ref 1), (1, .int x), (2, .int y), (3, .int z), (4, .ref 31)] [] (false, LW P R u v w kb f g e A mk ro nx pi kp km th oo od) _ _
    iterate 1 refine hK _ _ _ _ _ _ (?_ : K _ _ _ _ _ _)
    exact hK _ _ _ _ _ _ (r_iret rfl rfl rfl rfl (hQ _ _ _ _ _ _ _))
  · intro e1 u v w kb f g e
    subst e1
    show K 25 [(0, .ref 1), (1, .int x), (2, .int y), (3, .int z), (4, .ref 31)] [] (false, LW P R u v w kb f g e A mk ro nx pi kp km th oo od) _ _
    iterate 1 refine hK _ _ _ _ _ _ (?_ : K _ _ _ _ _ _)
    exact hK _ _ _ _ _ _ (r_iret rfl rfl rfl rfl (hQ _ _ _ _ _ _ _))
  · intro r P2 R2 e1 ht u v w kb f g e
    subst e1
    obtain ⟨x9, rfl⟩ := ht
    show K 10 [(0, .ref 1), (1, .int x), (2, .int y), (3, .int z), (4, .ref 31)] (.int x9 :: [.int (nI 0), .ref 31]) (b, LW P2 R2 u v w kb f g e A mk ro nx pi kp km th oo od) _ _
    iterate 1 refine hK _ _ _ _ _ _ (?_ : K _ _ _ _ _ _)
    refine hK _ _ _ _ _ _ (r_last rfl (N := 1) (f := oo) rfl (vp_in_nI (by decide) (by decide)) (?_ : K _ _ _ _ _ _))
    show K _ _ _ (b, LW P2 R2 u v w kb f g e A mk ro nx pi kp km th (vp_updL oo (nI 0).toNatClampNeg x9.toInt64) od) _ _
    iterate 2 refine hK _ _ _ _ _ _ (?_ : K _ _ _ _ _ _)
    exact hK _ _ _ _ _ _ (r_iret rfl rfl rfl rfl (hQ _ _ _ _ _ _ _ _ (up0 _ _)))
set_option maxRecDepth 10000 in
/-- Law.lift -/
theorem kL_lift {S : Nat × (Nat → Int32)} {d : Nat} {b : Bool} {P : Nat → Nat → Bool} {R u v w : Nat → Bool} {kb : Nat → Nat} {f g e : Nat → Int32} {A mk ro nx pi : Nat → Int32} {kp : Nat → Int64} {km th : Int32} {oo : Nat → Int64} {od : Nat → UInt64} {Q : eQ} {x : Int32} {y : Int32} {z : Int32} {s : Int32} {o : Oc} (hI : IvC P R) (ho : o_lift P R x y z s = o) (hQ : lQ cmA o Q b P R A mk ro nx pi kp km th od oo) : okCall S MT (d + 9) nL_lift [.ref 1, .int x, .int y, .int z, .int s, .ref 31] (b, LW P R u v w kb f g e A mk ro nx pi kp km th oo od) Q := by
  have hk := oK_lift (P := P) (R := R) (x := x) (y := y) (z := z) (s := s)
  rw [ho] at hk
  refine okc (M := ML_lift) rfl rfl fun K hK hW => ?_
  show K 0 [(0, .ref 1), (1, .int x), (2, .int y), (3, .int z), (4, .int s), (5, .ref 31)] [] (b, LW P R u v w kb f g e A mk ro nx pi kp km th oo od) 0 0
  iterate 7 refine hK _ _ _ _ _ _ (?_ : K _ _ _ _ _ _)
  refine hK _ _ _ _ _ _ (r_callV rfl (fun _ => rfl) rfl (b0 rfl rfl rfl) (kX6_lift (lcG ho hk (List.forall_mem_cons.mpr ⟨?_, List.forall_mem_cons.mpr ⟨?_, List.forall_mem_cons.mpr ⟨?_, fun _ hm => (by cases hm)⟩⟩⟩) ?_)))
  · intro e1 u v w kb f g e
    subst e1
    show K 19 [(0, .ref 1), (1, .int x), (2, .int y), (3, .int z), (4, .int s), (5, .ref 31)] [] (false, LW P R u v w kb f g e A mk ro nx pi kp km th oo od) _ _
    iterate 1 refine hK _ _ _ _ _ _ (?_ : K _ _ _ _ _ _)
    exact hK _ _ _ _ _ _ (r_iret rfl rfl rfl rfl (hQ _ _ _ _ _ _ _))
  · intro e1 u v w kb f g e
    subst e1
    show K 23 [(0, .ref 1), (1, .int x), (2, .int y), (3, .int z), (4, .int s), (5, .ref 31)] [] (false, LW P R u v w kb f g e A mk ro nx pi kp km th oo od) _ _
    iterate 1 refine hK _ _ _ _ _ _ (?_ : K _ _ _ _ _ _)
    exact hK _ _ _ _ _ _ (r_iret rfl rfl rfl rfl (hQ _ _ _ _ _ _ _))
  · intro e1 u v w kb f g e
    subst e1
    show K 27 [(0, .ref 1), (1, .int x), (2, .int y), (3, .int z), (4, .int s), (5, .ref 31)] [] (false, LW P R u v w kb f g e A mk ro nx pi kp km th oo od) _ _
    iterate 1 refine hK _ _ _ _ _ _ (?_ : K _ _ _ _ _ _)
    exact hK _ _ _ _ _ _ (r_iret rfl rfl rfl rfl (hQ _ _ _ _ _ _ _))
  · intro r P2 R2 e1 ht u v w kb f g e
    subst e1
    obtain ⟨x9, rfl⟩ := ht
    show K 12 [(0, .ref 1), (1, .int x), (2, .int y), (3, .int z), (4, .int s), (5, .ref 31)] (.int x9 :: [.int (nI 0), .ref 31]) (b, LW P2 R2 u v w kb f g e A mk ro nx pi kp km th oo od) _ _
    iterate 1 refine hK _ _ _ _ _ _ (?_ : K _ _ _ _ _ _)
    refine hK _ _ _ _ _ _ (r_last rfl (N := 1) (f := oo) rfl (vp_in_nI (by decide) (by decide)) (?_ : K _ _ _ _ _ _))
    show K _ _ _ (b, LW P2 R2 u v w kb f g e A mk ro nx pi kp km th (vp_updL oo (nI 0).toNatClampNeg x9.toInt64) od) _ _
    iterate 2 refine hK _ _ _ _ _ _ (?_ : K _ _ _ _ _ _)
    exact hK _ _ _ _ _ _ (r_iret rfl rfl rfl rfl (hQ _ _ _ _ _ _ _ _ (up0 _ _)))
set_option maxRecDepth 10000 in
/-- Law.other -/
theorem kL_other {S : Nat × (Nat → Int32)} {d : Nat} {b : Bool} {P : Nat → Nat → Bool} {R u v w : Nat → Bool} {kb : Nat → Nat} {f g e : Nat → Int32} {A mk ro nx pi : Nat → Int32} {kp : Nat → Int64} {km th : Int32} {oo : Nat → Int64} {od : Nat → UInt64} {Q : eQ} {x : Int32} {y : Int32} {z : Int32} {o : Oc} (hI : IvC P R) (ho : o_other P R x y z = o) (hQ : lQ cmA o Q b P R A mk ro nx pi kp km th od oo) : okCall S MT (d + 9) nL_other [.ref 1, .int x, .int y, .int z, .ref 31] (b, LW P R u v w kb f g e A mk ro nx pi kp km th oo od) Q := by
  have hk := oK_other (P := P) (R := R) (x := x) (y := y) (z := z)
  rw [ho] at hk
  refine okc (M := ML_other) rfl rfl fun K hK hW => ?_
  show K 0 [(0, .ref 1), (1, .int x), (2, .int y), (3, .int z), (4, .ref 31)] [] (b, LW P R u v w kb f g e A mk ro nx pi kp km th oo od) 0 0
  iterate 6 refine hK _ _ _ _ _ _ (?_ : K _ _ _ _ _ _)
  refine hK _ _ _ _ _ _ (r_callV rfl (fun _ => rfl) rfl (b0 rfl rfl rfl) (kX6_other (lcG ho hk (List.forall_mem_cons.mpr ⟨?_, List.forall_mem_cons.mpr ⟨?_, List.forall_mem_cons.mpr ⟨?_, fun _ hm => (by cases hm)⟩⟩⟩) ?_)))
  · intro e1 u v w kb f g e
    subst e1
    show K 17 [(0, .ref 1), (1, .int x), (2, .int y), (3, .int z), (4, .ref 31)] [] (false, LW P R u v w kb f g e A mk ro nx pi kp km th oo od) _ _
    iterate 1 refine hK _ _ _ _ _ _ (?_ : K _ _ _ _ _ _)
    exact hK _ _ _ _ _ _ (r_iret rfl rfl rfl rfl (hQ _ _ _ _ _ _ _))
  · intro e1 u v w kb f g e
    subst e1
    show K 21 [(0, .ref 1), (1, .int x), (2, .int y), (3, .int z), (4, .ref 31)] [] (false, LW P R u v w kb f g e A mk ro nx pi kp km th oo od) _ _
    iterate 1 refine hK _ _ _ _ _ _ (?_ : K _ _ _ _ _ _)
    exact hK _ _ _ _ _ _ (r_iret rfl rfl rfl rfl (hQ _ _ _ _ _ _ _))
  · intro e1 u v w kb f g e
    subst e1
    show K 25 [(0, .ref 1), (1, .int x), (2, .int y), (3, .int z), (4, .ref 31)] [] (false, LW P R u v w kb f g e A mk ro nx pi kp km th oo od) _ _
    iterate 1 refine hK _ _ _ _ _ _ (?_ : K _ _ _ _ _ _)
    exact hK _ _ _ _ _ _ (r_iret rfl rfl rfl rfl (hQ _ _ _ _ _ _ _))
  · intro r P2 R2 e1 ht u v w kb f g e
    subst e1
    obtain ⟨x9, rfl⟩ := ht
    show K 10 [(0, .ref 1), (1, .int x), (2, .int y), (3, .int z), (4, .ref 31)] (.int x9 :: [.int (nI 0), .ref 31]) (b, LW P2 R2 u v w kb f g e A mk ro nx pi kp km th oo od) _ _
    iterate 1 refine hK _ _ _ _ _ _ (?_ : K _ _ _ _ _ _)
    refine hK _ _ _ _ _ _ (r_last rfl (N := 1) (f := oo) rfl (vp_in_nI (by decide) (by decide)) (?_ : K _ _ _ _ _ _))
    show K _ _ _ (b, LW P2 R2 u v w kb f g e A mk ro nx pi kp km th (vp_updL oo (nI 0).toNatClampNeg x9.toInt64) od) _ _
    iterate 2 refine hK _ _ _ _ _ _ (?_ : K _ _ _ _ _ _)
    exact hK _ _ _ _ _ _ (r_iret rfl rfl rfl rfl (hQ _ _ _ _ _ _ _ _ (up0 _ _)))
set_option maxRecDepth 10000 in
/-- Law.exchange -/
theorem kL_exchange {S : Nat × (Nat → Int32)} {d : Nat} {b : Bool} {P : Nat → Nat → Bool} {R u v w : Nat → Bool} {kb : Nat → Nat} {f g e : Nat → Int32} {A mk ro nx pi : Nat → Int32} {kp : Nat → Int64} {km th : Int32} {oo : Nat → Int64} {od : Nat → UInt64} {Q : eQ} {x : Int32} {y : Int32} {z : Int32} {s : Int32} {o : Oc} (hI : IvC P R) (ho : o_exchange P R x y z s = o) (hQ : lQ cmA o Q b P R A mk ro nx pi kp km th od oo) : okCall S MT (d + 9) nL_exchange [.ref 1, .int x, .int y, .int z, .int s, .ref 31] (b, LW P R u v w kb f g e A mk ro nx pi kp km th oo od) Q := by
  have hk := oK_exchange (P := P) (R := R) (x := x) (y := y) (z := z) (s := s)
  rw [ho] at hk
  refine okc (M := ML_exchange) rfl rfl fun K hK hW => ?_
  show K 0 [(0, .ref 1), (1, .int x), (2, .int y), (3, .int z), (4, .int s), (5, .ref 31)] [] (b, LW P R u v w kb f g e A mk ro nx pi kp km th oo od) 0 0
  iterate 7 refine hK _ _ _ _ _ _ (?_ : K _ _ _ _ _ _)
  refine hK _ _ _ _ _ _ (r_callV rfl (fun _ => rfl) rfl (b0 rfl rfl rfl) (kX6_exchange (lcG ho hk (List.forall_mem_cons.mpr ⟨?_, List.forall_mem_cons.mpr ⟨?_, fun _ hm => (by cases hm)⟩⟩) ?_)))
  · intro e1 u v w kb f g e
    subst e1
    show K 19 [(0, .ref 1), (1, .int x), (2, .int y), (3, .int z), (4, .int s), (5, .ref 31)] [] (false, LW P R u v w kb f g e A mk ro nx pi kp km th oo od) _ _
    iterate 1 refine hK _ _ _ _ _ _ (?_ : K _ _ _ _ _ _)
    exact hK _ _ _ _ _ _ (r_iret rfl rfl rfl rfl (hQ _ _ _ _ _ _ _))
  · intro e1 u v w kb f g e
    subst e1
    show K 23 [(0, .ref 1), (1, .int x), (2, .int y), (3, .int z), (4, .int s), (5, .ref 31)] [] (false, LW P R u v w kb f g e A mk ro nx pi kp km th oo od) _ _
    iterate 1 refine hK _ _ _ _ _ _ (?_ : K _ _ _ _ _ _)
    exact hK _ _ _ _ _ _ (r_iret rfl rfl rfl rfl (hQ _ _ _ _ _ _ _))
  · intro r P2 R2 e1 ht u v w kb f g e
    subst e1
    obtain ⟨x9, rfl⟩ := ht
    show K 12 [(0, .ref 1), (1, .int x), (2, .int y), (3, .int z), (4, .int s), (5, .ref 31)] (.int x9 :: [.int (nI 0), .ref 31]) (b, LW P2 R2 u v w kb f g e A mk ro nx pi kp km th oo od) _ _
    iterate 1 refine hK _ _ _ _ _ _ (?_ : K _ _ _ _ _ _)
    refine hK _ _ _ _ _ _ (r_last rfl (N := 1) (f := oo) rfl (vp_in_nI (by decide) (by decide)) (?_ : K _ _ _ _ _ _))
    show K _ _ _ (b, LW P2 R2 u v w kb f g e A mk ro nx pi kp km th (vp_updL oo (nI 0).toNatClampNeg x9.toInt64) od) _ _
    iterate 2 refine hK _ _ _ _ _ _ (?_ : K _ _ _ _ _ _)
    exact hK _ _ _ _ _ _ (r_iret rfl rfl rfl rfl (hQ _ _ _ _ _ _ _ _ (up0 _ _)))
set_option maxRecDepth 10000 in
/-- Law.fold -/
theorem kL_fold {S : Nat × (Nat → Int32)} {d : Nat} {b : Bool} {P : Nat → Nat → Bool} {R u v w : Nat → Bool} {kb : Nat → Nat} {f g e : Nat → Int32} {A mk ro nx pi : Nat → Int32} {kp : Nat → Int64} {km th : Int32} {oo : Nat → Int64} {od : Nat → UInt64} {Q : eQ} {x : Int32} {y : Int32} {o : Oc} (hI : IvC P R) (ho : o_fold P R x y = o) (hQ : lQ cmF o Q b P R A mk ro nx pi kp km th od oo) : okCall S MT (d + 9) nL_fold [.ref 1, .int x, .int y, .ref 31] (b, LW P R u v w kb f g e A mk ro nx pi kp km th oo od) Q := by
  have hk := oK_fold (P := P) (R := R) (x := x) (y := y)
  rw [ho] at hk
  refine okc (M := ML_fold) rfl rfl fun K hK hW => ?_
  show K 0 [(0, .ref 1), (1, .int x), (2, .int y), (3, .ref 31)] [] (b, LW P R u v w kb f g e A mk ro nx pi kp km th oo od) 0 0
  iterate 5 refine hK _ _ _ _ _ _ (?_ : K _ _ _ _ _ _)
  refine hK _ _ _ _ _ _ (r_callV rfl (fun _ => rfl) rfl (b0 rfl rfl rfl) (kX6_fold (lcG ho hk (List.forall_mem_cons.mpr ⟨?_, List.forall_mem_cons.mpr ⟨?_, List.forall_mem_cons.mpr ⟨?_, List.forall_mem_cons.mpr ⟨?_, fun _ hm => (by cases hm)⟩⟩⟩⟩) ?_)))
  · intro e1 u v w kb f g e
    subst e1
    show K 15 [(0, .ref 1), (1, .int x), (2, .int y), (3, .ref 31)] [] (false, LW P R u v w kb f g e A mk ro nx pi kp km th oo od) _ _
    iterate 1 refine hK _ _ _ _ _ _ (?_ : K _ _ _ _ _ _)
    exact hK _ _ _ _ _ _ (r_iret rfl rfl rfl rfl (hQ _ _ _ _ _ _ _))
  · intro e1 u v w kb f g e
    subst e1
    show K 19 [(0, .ref 1), (1, .int x), (2, .int y), (3, .ref 31)] [] (false, LW P R u v w kb f g e A mk ro nx pi kp km th oo od) _ _
    iterate 1 refine hK _ _ _ _ _ _ (?_ : K _ _ _ _ _ _)
    exact hK _ _ _ _ _ _ (r_iret rfl rfl rfl rfl (hQ _ _ _ _ _ _ _))
  · intro e1 u v w kb f g e
    subst e1
    show K 23 [(0, .ref 1), (1, .int x), (2, .int y), (3, .ref 31)] [] (false, LW P R u v w kb f g e A mk ro nx pi kp km th oo od) _ _
    iterate 1 refine hK _ _ _ _ _ _ (?_ : K _ _ _ _ _ _)
    exact hK _ _ _ _ _ _ (r_iret rfl rfl rfl rfl (hQ _ _ _ _ _ _ _))
  · intro e1 u v w kb f g e
    subst e1
    show K 27 [(0, .ref 1), (1, .int x), (2, .int y), (3, .ref 31)] [] (false, LW P R u v w kb f g e A mk ro nx pi kp km th oo od) _ _
    iterate 1 refine hK _ _ _ _ _ _ (?_ : K _ _ _ _ _ _)
    exact hK _ _ _ _ _ _ (r_iret rfl rfl rfl rfl (hQ _ _ _ _ _ _ _))
  · intro r P2 R2 e1 ht u v w kb f g e
    subst e1
    obtain ⟨x9, rfl⟩ := ht
    show K 8 [(0, .ref 1), (1, .int x), (2, .int y), (3, .ref 31)] (.int x9 :: [.int (nI 0), .ref 31]) (b, LW P2 R2 u v w kb f g e A mk ro nx pi kp km th oo od) _ _
    iterate 1 refine hK _ _ _ _ _ _ (?_ : K _ _ _ _ _ _)
    refine hK _ _ _ _ _ _ (r_last rfl (N := 1) (f := oo) rfl (vp_in_nI (by decide) (by decide)) (?_ : K _ _ _ _ _ _))
    show K _ _ _ (b, LW P2 R2 u v w kb f g e A mk ro nx pi kp km th (vp_updL oo (nI 0).toNatClampNeg x9.toInt64) od) _ _
    iterate 2 refine hK _ _ _ _ _ _ (?_ : K _ _ _ _ _ _)
    exact hK _ _ _ _ _ _ (r_iret rfl rfl rfl rfl (hQ _ _ _ _ _ _ _ _ (up0 _ _)))
set_option maxRecDepth 10000 in
/-- Law.has -/
theorem kL_has {S : Nat × (Nat → Int32)} {d : Nat} {b : Bool} {P : Nat → Nat → Bool} {R u v w : Nat → Bool} {kb : Nat → Nat} {f g e : Nat → Int32} {A mk ro nx pi : Nat → Int32} {kp : Nat → Int64} {km th : Int32} {oo : Nat → Int64} {od : Nat → UInt64} {Q : eQ} {x : Int32} {y : Int32} {o : Oc} (hI : IvC P R) (ho : o_has P R x y = o) (hQ : lQ cmA o Q b P R A mk ro nx pi kp km th od oo) : okCall S MT (d + 9) nL_has [.ref 1, .int x, .int y, .ref 31] (b, LW P R u v w kb f g e A mk ro nx pi kp km th oo od) Q := by
  have hk := oK_has (P := P) (R := R) (x := x) (y := y)
  rw [ho] at hk
  refine okc (M := ML_has) rfl rfl fun K hK hW => ?_
  show K 0 [(0, .ref 1), (1, .int x), (2, .int y), (3, .ref 31)] [] (b, LW P R u v w kb f g e A mk ro nx pi kp km th oo od) 0 0
  iterate 5 refine hK _ _ _ _ _ _ (?_ : K _ _ _ _ _ _)
  refine hK _ _ _ _ _ _ (r_callV rfl (fun _ => rfl) rfl (b0 rfl rfl rfl) (kX6_has (lcG ho hk (List.forall_mem_cons.mpr ⟨?_, List.forall_mem_cons.mpr ⟨?_, fun _ hm => (by cases hm)⟩⟩) ?_)))
  · intro e1 u v w kb f g e
    subst e1
    show K 22 [(0, .ref 1), (1, .int x), (2, .int y), (3, .ref 31)] [] (false, LW P R u v w kb f g e A mk ro nx pi kp km th oo od) _ _
    iterate 1 refine hK _ _ _ _ _ _ (?_ : K _ _ _ _ _ _)
    exact hK _ _ _ _ _ _ (r_iret rfl rfl rfl rfl (hQ _ _ _ _ _ _ _))
  · intro e1 u v w kb f g e
    subst e1
    show K 26 [(0, .ref 1), (1, .int x), (2, .int y), (3, .ref 31)] [] (false, LW P R u v w kb f g e A mk ro nx pi kp km th oo od) _ _
    iterate 1 refine hK _ _ _ _ _ _ (?_ : K _ _ _ _ _ _)
    exact hK _ _ _ _ _ _ (r_iret rfl rfl rfl rfl (hQ _ _ _ _ _ _ _))
  · intro r P2 R2 e1 ht u v w kb f g e
    subst e1
    obtain ⟨c9, rfl⟩ := ht
    show K 8 [(0, .ref 1), (1, .int x), (2, .int y), (3, .ref 31)] (.int (b2i c9) :: [.int (nI 0), .ref 31]) (b, LW P2 R2 u v w kb f g e A mk ro nx pi kp km th oo od) _ _
    refine hK _ _ _ _ _ _ (And.intro (fun c1 => ?_) (fun c1 => ?_))
    · have e9 : c9 = false := b2i_0.mp c1
      subst e9
      iterate 1 refine hK _ _ _ _ _ _ (?_ : K _ _ _ _ _ _)
      refine hK _ _ _ _ _ _ (r_last rfl (N := 1) (f := oo) rfl (vp_in_nI (by decide) (by decide)) (?_ : K _ _ _ _ _ _))
      show K _ _ _ (b, LW P2 R2 u v w kb f g e A mk ro nx pi kp km th (vp_updL oo (nI 0).toNatClampNeg (lN 0)) od) _ _
      iterate 2 refine hK _ _ _ _ _ _ (?_ : K _ _ _ _ _ _)
      exact hK _ _ _ _ _ _ (r_iret rfl rfl rfl rfl (hQ _ _ _ _ _ _ _ _ ((up0 _ _).trans (nI_l (n := 0) (by decide)).symm)))
    · have e9 : c9 = true := (Bool.of_not_eq_false fun c9 => c1 (b2i_0.mpr c9))
      subst e9
      iterate 2 refine hK _ _ _ _ _ _ (?_ : K _ _ _ _ _ _)
      refine hK _ _ _ _ _ _ (r_last rfl (N := 1) (f := oo) rfl (vp_in_nI (by decide) (by decide)) (?_ : K _ _ _ _ _ _))
      show K _ _ _ (b, LW P2 R2 u v w kb f g e A mk ro nx pi kp km th (vp_updL oo (nI 0).toNatClampNeg (lN 1)) od) _ _
      iterate 2 refine hK _ _ _ _ _ _ (?_ : K _ _ _ _ _ _)
      exact hK _ _ _ _ _ _ (r_iret rfl rfl rfl rfl (hQ _ _ _ _ _ _ _ _ ((up0 _ _).trans (nI_l (n := 1) (by decide)).symm)))
set_option maxRecDepth 10000 in
/-- Law.size -/
theorem kL_size {S : Nat × (Nat → Int32)} {d : Nat} {b : Bool} {P : Nat → Nat → Bool} {R u v w : Nat → Bool} {kb : Nat → Nat} {f g e : Nat → Int32} {A mk ro nx pi : Nat → Int32} {kp : Nat → Int64} {km th : Int32} {oo : Nat → Int64} {od : Nat → UInt64} {Q : eQ} {x : Int32} {o : Oc} (hI : IvC P R) (ho : o_size P R x = o) (hQ : lQ cmA o Q b P R A mk ro nx pi kp km th od oo) : okCall S MT (d + 9) nL_size [.ref 1, .int x, .ref 31] (b, LW P R u v w kb f g e A mk ro nx pi kp km th oo od) Q := by
  have hk := oK_size (P := P) (R := R) (x := x)
  rw [ho] at hk
  refine okc (M := ML_size) rfl rfl fun K hK hW => ?_
  show K 0 [(0, .ref 1), (1, .int x), (2, .ref 31)] [] (b, LW P R u v w kb f g e A mk ro nx pi kp km th oo od) 0 0
  iterate 4 refine hK _ _ _ _ _ _ (?_ : K _ _ _ _ _ _)
  refine hK _ _ _ _ _ _ (r_callV rfl (fun _ => rfl) rfl (b0 rfl rfl rfl) (kX6_size (lcG ho hk (List.forall_mem_cons.mpr ⟨?_, fun _ hm => (by cases hm)⟩) ?_)))
  · intro e1 u v w kb f g e
    subst e1
    show K 13 [(0, .ref 1), (1, .int x), (2, .ref 31)] [] (false, LW P R u v w kb f g e A mk ro nx pi kp km th oo od) _ _
    iterate 1 refine hK _ _ _ _ _ _ (?_ : K _ _ _ _ _ _)
    exact hK _ _ _ _ _ _ (r_iret rfl rfl rfl rfl (hQ _ _ _ _ _ _ _))
  · intro r P2 R2 e1 ht u v w kb f g e
    subst e1
    obtain ⟨x9, rfl⟩ := ht
    show K 7 [(0, .ref 1), (1, .int x), (2, .ref 31)] (.int x9 :: [.int (nI 0), .ref 31]) (b, LW P2 R2 u v w kb f g e A mk ro nx pi kp km th oo od) _ _
    iterate 1 refine hK _ _ _ _ _ _ (?_ : K _ _ _ _ _ _)
    refine hK _ _ _ _ _ _ (r_last rfl (N := 1) (f := oo) rfl (vp_in_nI (by decide) (by decide)) (?_ : K _ _ _ _ _ _))
    show K _ _ _ (b, LW P2 R2 u v w kb f g e A mk ro nx pi kp km th (vp_updL oo (nI 0).toNatClampNeg x9.toInt64) od) _ _
    iterate 2 refine hK _ _ _ _ _ _ (?_ : K _ _ _ _ _ _)
    exact hK _ _ _ _ _ _ (r_iret rfl rfl rfl rfl (hQ _ _ _ _ _ _ _ _ (up0 _ _)))
set_option maxRecDepth 10000 in
/-- Law.faces -/
theorem kL_faces {S : Nat × (Nat → Int32)} {d : Nat} {b : Bool} {P : Nat → Nat → Bool} {R u v w : Nat → Bool} {kb : Nat → Nat} {f g e : Nat → Int32} {A mk ro nx pi : Nat → Int32} {kp : Nat → Int64} {km th : Int32} {oo : Nat → Int64} {od : Nat → UInt64} {Q : eQ} {x : Int32} {y : Int32} {o : Oc} (hI : IvC P R) (ho : o_faces P R x y = o) (hQ : lQ cmA o Q b P R A mk ro nx pi kp km th od oo) : okCall S MT (d + 9) nL_faces [.ref 1, .int x, .int y, .ref 31] (b, LW P R u v w kb f g e A mk ro nx pi kp km th oo od) Q := by
  have hk := oK_faces (P := P) (R := R) (x := x) (y := y)
  rw [ho] at hk
  refine okc (M := ML_faces) rfl rfl fun K hK hW => ?_
  show K 0 [(0, .ref 1), (1, .int x), (2, .int y), (3, .ref 31)] [] (b, LW P R u v w kb f g e A mk ro nx pi kp km th oo od) 0 0
  iterate 5 refine hK _ _ _ _ _ _ (?_ : K _ _ _ _ _ _)
  refine hK _ _ _ _ _ _ (r_callV rfl (fun _ => rfl) rfl (b0 rfl rfl rfl) (kX6_faces (lcG ho hk (List.forall_mem_cons.mpr ⟨?_, List.forall_mem_cons.mpr ⟨?_, fun _ hm => (by cases hm)⟩⟩) ?_)))
  · intro e1 u v w kb f g e
    subst e1
    show K 15 [(0, .ref 1), (1, .int x), (2, .int y), (3, .ref 31)] [] (false, LW P R u v w kb f g e A mk ro nx pi kp km th oo od) _ _
    iterate 1 refine hK _ _ _ _ _ _ (?_ : K _ _ _ _ _ _)
    exact hK _ _ _ _ _ _ (r_iret rfl rfl rfl rfl (hQ _ _ _ _ _ _ _))
  · intro e1 u v w kb f g e
    subst e1
    show K 19 [(0, .ref 1), (1, .int x), (2, .int y), (3, .ref 31)] [] (false, LW P R u v w kb f g e A mk ro nx pi kp km th oo od) _ _
    iterate 1 refine hK _ _ _ _ _ _ (?_ : K _ _ _ _ _ _)
    exact hK _ _ _ _ _ _ (r_iret rfl rfl rfl rfl (hQ _ _ _ _ _ _ _))
  · intro r P2 R2 e1 ht u v w kb f g e
    subst e1
    obtain ⟨x9, rfl⟩ := ht
    show K 8 [(0, .ref 1), (1, .int x), (2, .int y), (3, .ref 31)] (.int x9 :: [.int (nI 0), .ref 31]) (b, LW P2 R2 u v w kb f g e A mk ro nx pi kp km th oo od) _ _
    iterate 1 refine hK _ _ _ _ _ _ (?_ : K _ _ _ _ _ _)
    refine hK _ _ _ _ _ _ (r_last rfl (N := 1) (f := oo) rfl (vp_in_nI (by decide) (by decide)) (?_ : K _ _ _ _ _ _))
    show K _ _ _ (b, LW P2 R2 u v w kb f g e A mk ro nx pi kp km th (vp_updL oo (nI 0).toNatClampNeg x9.toInt64) od) _ _
    iterate 2 refine hK _ _ _ _ _ _ (?_ : K _ _ _ _ _ _)
    exact hK _ _ _ _ _ _ (r_iret rfl rfl rfl rfl (hQ _ _ _ _ _ _ _ _ (up0 _ _)))
set_option maxRecDepth 10000 in
/-- Law.corners -/
theorem kL_corners {S : Nat × (Nat → Int32)} {d : Nat} {b : Bool} {P : Nat → Nat → Bool} {R u v w : Nat → Bool} {kb : Nat → Nat} {f g e : Nat → Int32} {A mk ro nx pi : Nat → Int32} {kp : Nat → Int64} {km th : Int32} {oo : Nat → Int64} {od : Nat → UInt64} {Q : eQ} {x : Int32} {o : Oc} (hI : IvC P R) (ho : o_corners P R x = o) (hQ : lQ cmA o Q b P R A mk ro nx pi kp km th od oo) : okCall S MT (d + 9) nL_corners [.ref 1, .int x, .ref 31] (b, LW P R u v w kb f g e A mk ro nx pi kp km th oo od) Q := by
  have hk := oK_corners (P := P) (R := R) (x := x)
  rw [ho] at hk
  refine okc (M := ML_corners) rfl rfl fun K hK hW => ?_
  show K 0 [(0, .ref 1), (1, .int x), (2, .ref 31)] [] (b, LW P R u v w kb f g e A mk ro nx pi kp km th oo od) 0 0
  iterate 4 refine hK _ _ _ _ _ _ (?_ : K _ _ _ _ _ _)
  refine hK _ _ _ _ _ _ (r_callV rfl (fun _ => rfl) rfl (b0 rfl rfl rfl) (kX6_corners (lcG ho hk (List.forall_mem_cons.mpr ⟨?_, fun _ hm => (by cases hm)⟩) ?_)))
  · intro e1 u v w kb f g e
    subst e1
    show K 13 [(0, .ref 1), (1, .int x), (2, .ref 31)] [] (false, LW P R u v w kb f g e A mk ro nx pi kp km th oo od) _ _
    iterate 1 refine hK _ _ _ _ _ _ (?_ : K _ _ _ _ _ _)
    exact hK _ _ _ _ _ _ (r_iret rfl rfl rfl rfl (hQ _ _ _ _ _ _ _))
  · intro r P2 R2 e1 ht u v w kb f g e
    subst e1
    obtain ⟨x9, rfl⟩ := ht
    show K 7 [(0, .ref 1), (1, .int x), (2, .ref 31)] (.int x9 :: [.int (nI 0), .ref 31]) (b, LW P2 R2 u v w kb f g e A mk ro nx pi kp km th oo od) _ _
    iterate 1 refine hK _ _ _ _ _ _ (?_ : K _ _ _ _ _ _)
    refine hK _ _ _ _ _ _ (r_last rfl (N := 1) (f := oo) rfl (vp_in_nI (by decide) (by decide)) (?_ : K _ _ _ _ _ _))
    show K _ _ _ (b, LW P2 R2 u v w kb f g e A mk ro nx pi kp km th (vp_updL oo (nI 0).toNatClampNeg x9.toInt64) od) _ _
    iterate 2 refine hK _ _ _ _ _ _ (?_ : K _ _ _ _ _ _)
    exact hK _ _ _ _ _ _ (r_iret rfl rfl rfl rfl (hQ _ _ _ _ _ _ _ _ (up0 _ _)))
set_option maxRecDepth 10000 in
/-- Law.over -/
theorem kL_over {S : Nat × (Nat → Int32)} {d : Nat} {b : Bool} {P : Nat → Nat → Bool} {R u v w : Nat → Bool} {kb : Nat → Nat} {f g e : Nat → Int32} {A mk ro nx pi : Nat → Int32} {kp : Nat → Int64} {km th : Int32} {oo : Nat → Int64} {od : Nat → UInt64} {Q : eQ} {x : Int32} {y : Int32} {o : Oc} (hI : IvC P R) (ho : o_over P R x y = o) (hQ : lQ cmA o Q b P R A mk ro nx pi kp km th od oo) : okCall S MT (d + 9) nL_over [.ref 1, .int x, .int y, .ref 31] (b, LW P R u v w kb f g e A mk ro nx pi kp km th oo od) Q := by
  have hk := oK_over (P := P) (R := R) (x := x) (y := y)
  rw [ho] at hk
  refine okc (M := ML_over) rfl rfl fun K hK hW => ?_
  show K 0 [(0, .ref 1), (1, .int x), (2, .int y), (3, .ref 31)] [] (b, LW P R u v w kb f g e A mk ro nx pi kp km th oo od) 0 0
  iterate 5 refine hK _ _ _ _ _ _ (?_ : K _ _ _ _ _ _)
  refine hK _ _ _ _ _ _ (r_callV rfl (fun _ => rfl) rfl (b0 rfl rfl rfl) (kX6_over (lcG ho hk (List.forall_mem_cons.mpr ⟨?_, List.forall_mem_cons.mpr ⟨?_, List.forall_mem_cons.mpr ⟨?_, fun _ hm => (by cases hm)⟩⟩⟩) ?_)))
  · intro e1 u v w kb f g e
    subst e1
    show K 15 [(0, .ref 1), (1, .int x), (2, .int y), (3, .ref 31)] [] (false, LW P R u v w kb f g e A mk ro nx pi kp km th oo od) _ _
    iterate 1 refine hK _ _ _ _ _ _ (?_ : K _ _ _ _ _ _)
    exact hK _ _ _ _ _ _ (r_iret rfl rfl rfl rfl (hQ _ _ _ _ _ _ _))
  · intro e1 u v w kb f g e
    subst e1
    show K 19 [(0, .ref 1), (1, .int x), (2, .int y), (3, .ref 31)] [] (false, LW P R u v w kb f g e A mk ro nx pi kp km th oo od) _ _
    iterate 1 refine hK _ _ _ _ _ _ (?_ : K _ _ _ _ _ _)
    exact hK _ _ _ _ _ _ (r_iret rfl rfl rfl rfl (hQ _ _ _ _ _ _ _))
  · intro e1 u v w kb f g e
    subst e1
    show K 23 [(0, .ref 1), (1, .int x), (2, .int y), (3, .ref 31)] [] (false, LW P R u v w kb f g e A mk ro nx pi kp km th oo od) _ _
    iterate 1 refine hK _ _ _ _ _ _ (?_ : K _ _ _ _ _ _)
    exact hK _ _ _ _ _ _ (r_iret rfl rfl rfl rfl (hQ _ _ _ _ _ _ _))
  · intro r P2 R2 e1 ht u v w kb f g e
    subst e1
    obtain ⟨x9, rfl⟩ := ht
    show K 8 [(0, .ref 1), (1, .int x), (2, .int y), (3, .ref 31)] (.int x9 :: [.int (nI 0), .ref 31]) (b, LW P2 R2 u v w kb f g e A mk ro nx pi kp km th oo od) _ _
    iterate 1 refine hK _ _ _ _ _ _ (?_ : K _ _ _ _ _ _)
    refine hK _ _ _ _ _ _ (r_last rfl (N := 1) (f := oo) rfl (vp_in_nI (by decide) (by decide)) (?_ : K _ _ _ _ _ _))
    show K _ _ _ (b, LW P2 R2 u v w kb f g e A mk ro nx pi kp km th (vp_updL oo (nI 0).toNatClampNeg x9.toInt64) od) _ _
    iterate 2 refine hK _ _ _ _ _ _ (?_ : K _ _ _ _ _ _)
    exact hK _ _ _ _ _ _ (r_iret rfl rfl rfl rfl (hQ _ _ _ _ _ _ _ _ (up0 _ _)))
set_option maxRecDepth 10000 in
/-- Law.greatest -/
theorem kL_greatest {S : Nat × (Nat → Int32)} {d : Nat} {b : Bool} {P : Nat → Nat → Bool} {R u v w : Nat → Bool} {kb : Nat → Nat} {f g e : Nat → Int32} {A mk ro nx pi : Nat → Int32} {kp : Nat → Int64} {km th : Int32} {oo : Nat → Int64} {od : Nat → UInt64} {Q : eQ} {x : Int32} {o : Oc} (hI : IvC P R) (ho : o_greatest P R x = o) (hQ : lQ cmA o Q b P R A mk ro nx pi kp km th od oo) : okCall S MT (d + 9) nL_greatest [.ref 1, .int x, .ref 31] (b, LW P R u v w kb f g e A mk ro nx pi kp km th oo od) Q := by
  have hk := oK_greatest (P := P) (R := R) (x := x)
  rw [ho] at hk
  refine okc (M := ML_greatest) rfl rfl fun K hK hW => ?_
  show K 0 [(0, .ref 1), (1, .int x), (2, .ref 31)] [] (b, LW P R u v w kb f g e A mk ro nx pi kp km th oo od) 0 0
  iterate 4 refine hK _ _ _ _ _ _ (?_ : K _ _ _ _ _ _)
  refine hK _ _ _ _ _ _ (r_callV rfl (fun _ => rfl) rfl (b0 rfl rfl rfl) (kX6_greatest (lcG ho hk (List.forall_mem_cons.mpr ⟨?_, fun _ hm => (by cases hm)⟩) ?_)))
  · intro e1 u v w kb f g e
    subst e1
    show K 13 [(0, .ref 1), (1, .int x), (2, .ref 31)] [] (false, LW P R u v w kb f g e A mk ro nx pi kp km th oo od) _ _
    iterate 1 refine hK _ _ _ _ _ _ (?_ : K _ _ _ _ _ _)
    exact hK _ _ _ _ _ _ (r_iret rfl rfl rfl rfl (hQ _ _ _ _ _ _ _))
  · intro r P2 R2 e1 ht u v w kb f g e
    subst e1
    obtain ⟨x9, rfl⟩ := ht
    show K 7 [(0, .ref 1), (1, .int x), (2, .ref 31)] (.int x9 :: [.int (nI 0), .ref 31]) (b, LW P2 R2 u v w kb f g e A mk ro nx pi kp km th oo od) _ _
    iterate 1 refine hK _ _ _ _ _ _ (?_ : K _ _ _ _ _ _)
    refine hK _ _ _ _ _ _ (r_last rfl (N := 1) (f := oo) rfl (vp_in_nI (by decide) (by decide)) (?_ : K _ _ _ _ _ _))
    show K _ _ _ (b, LW P2 R2 u v w kb f g e A mk ro nx pi kp km th (vp_updL oo (nI 0).toNatClampNeg x9.toInt64) od) _ _
    iterate 2 refine hK _ _ _ _ _ _ (?_ : K _ _ _ _ _ _)
    exact hK _ _ _ _ _ _ (r_iret rfl rfl rfl rfl (hQ _ _ _ _ _ _ _ _ (up0 _ _)))
set_option maxRecDepth 10000 in
/-- Law.greatestAt -/
theorem kL_greatestAt {S : Nat × (Nat → Int32)} {d : Nat} {b : Bool} {P : Nat → Nat → Bool} {R u v w : Nat → Bool} {kb : Nat → Nat} {f g e : Nat → Int32} {A mk ro nx pi : Nat → Int32} {kp : Nat → Int64} {km th : Int32} {oo : Nat → Int64} {od : Nat → UInt64} {Q : eQ} {x : Int32} {y : Int32} {o : Oc} (hI : IvC P R) (ho : o_greatestAt P R x y = o) (hQ : lQ cmA o Q b P R A mk ro nx pi kp km th od oo) : okCall S MT (d + 9) nL_greatestAt [.ref 1, .int x, .int y, .ref 31] (b, LW P R u v w kb f g e A mk ro nx pi kp km th oo od) Q := by
  have hk := oK_greatestAt (P := P) (R := R) (x := x) (y := y)
  rw [ho] at hk
  refine okc (M := ML_greatestAt) rfl rfl fun K hK hW => ?_
  show K 0 [(0, .ref 1), (1, .int x), (2, .int y), (3, .ref 31)] [] (b, LW P R u v w kb f g e A mk ro nx pi kp km th oo od) 0 0
  iterate 5 refine hK _ _ _ _ _ _ (?_ : K _ _ _ _ _ _)
  refine hK _ _ _ _ _ _ (r_callV rfl (fun _ => rfl) rfl (b0 rfl rfl rfl) (kX6_greatestAt (lcG ho hk (List.forall_mem_cons.mpr ⟨?_, fun _ hm => (by cases hm)⟩) ?_)))
  · intro e1 u v w kb f g e
    subst e1
    show K 15 [(0, .ref 1), (1, .int x), (2, .int y), (3, .ref 31)] [] (false, LW P R u v w kb f g e A mk ro nx pi kp km th oo od) _ _
    iterate 1 refine hK _ _ _ _ _ _ (?_ : K _ _ _ _ _ _)
    exact hK _ _ _ _ _ _ (r_iret rfl rfl rfl rfl (hQ _ _ _ _ _ _ _))
  · intro r P2 R2 e1 ht u v w kb f g e
    subst e1
    obtain ⟨x9, rfl⟩ := ht
    show K 8 [(0, .ref 1), (1, .int x), (2, .int y), (3, .ref 31)] (.int x9 :: [.int (nI 0), .ref 31]) (b, LW P2 R2 u v w kb f g e A mk ro nx pi kp km th oo od) _ _
    iterate 1 refine hK _ _ _ _ _ _ (?_ : K _ _ _ _ _ _)
    refine hK _ _ _ _ _ _ (r_last rfl (N := 1) (f := oo) rfl (vp_in_nI (by decide) (by decide)) (?_ : K _ _ _ _ _ _))
    show K _ _ _ (b, LW P2 R2 u v w kb f g e A mk ro nx pi kp km th (vp_updL oo (nI 0).toNatClampNeg x9.toInt64) od) _ _
    iterate 2 refine hK _ _ _ _ _ _ (?_ : K _ _ _ _ _ _)
    exact hK _ _ _ _ _ _ (r_iret rfl rfl rfl rfl (hQ _ _ _ _ _ _ _ _ (up0 _ _)))
set_option maxRecDepth 10000 in
/-- Law.isSame -/
theorem kL_isSame {S : Nat × (Nat → Int32)} {d : Nat} {b : Bool} {P : Nat → Nat → Bool} {R u v w : Nat → Bool} {kb : Nat → Nat} {f g e : Nat → Int32} {A mk ro nx pi : Nat → Int32} {kp : Nat → Int64} {km th : Int32} {oo : Nat → Int64} {od : Nat → UInt64} {Q : eQ} {x : Int32} {y : Int32} {o : Oc} (hI : IvC P R) (ho : o_isSame P R x y = o) (hQ : lQ cmA o Q b P R A mk ro nx pi kp km th od oo) : okCall S MT (d + 9) nL_isSame [.ref 1, .int x, .int y, .ref 31] (b, LW P R u v w kb f g e A mk ro nx pi kp km th oo od) Q := by
  have hk := oK_isSame (P := P) (R := R) (x := x) (y := y)
  rw [ho] at hk
  refine okc (M := ML_isSame) rfl rfl fun K hK hW => ?_
  show K 0 [(0, .ref 1), (1, .int x), (2, .int y), (3, .ref 31)] [] (b, LW P R u v w kb f g e A mk ro nx pi kp km th oo od) 0 0
  iterate 5 refine hK _ _ _ _ _ _ (?_ : K _ _ _ _ _ _)
  refine hK _ _ _ _ _ _ (r_callV rfl (fun _ => rfl) rfl (b0 rfl rfl rfl) (kX6_isSame (lcG ho hk (List.forall_mem_cons.mpr ⟨?_, fun _ hm => (by cases hm)⟩) ?_)))
  · intro e1 u v w kb f g e
    subst e1
    show K 22 [(0, .ref 1), (1, .int x), (2, .int y), (3, .ref 31)] [] (false, LW P R u v w kb f g e A mk ro nx pi kp km th oo od) _ _
    iterate 1 refine hK _ _ _ _ _ _ (?_ : K _ _ _ _ _ _)
    exact hK _ _ _ _ _ _ (r_iret rfl rfl rfl rfl (hQ _ _ _ _ _ _ _))
  · intro r P2 R2 e1 ht u v w kb f g e
    subst e1
    obtain ⟨c9, rfl⟩ := ht
    show K 8 [(0, .ref 1), (1, .int x), (2, .int y), (3, .ref 31)] (.int (b2i c9) :: [.int (nI 0), .ref 31]) (b, LW P2 R2 u v w kb f g e A mk ro nx pi kp km th oo od) _ _
    refine hK _ _ _ _ _ _ (And.intro (fun c1 => ?_) (fun c1 => ?_))
    · have e9 : c9 = false := b2i_0.mp c1
      subst e9
      iterate 1 refine hK _ _ _ _ _ _ (?_ : K _ _ _ _ _ _)
      refine hK _ _ _ _ _ _ (r_last rfl (N := 1) (f := oo) rfl (vp_in_nI (by decide) (by decide)) (?_ : K _ _ _ _ _ _))
      show K _ _ _ (b, LW P2 R2 u v w kb f g e A mk ro nx pi kp km th (vp_updL oo (nI 0).toNatClampNeg (lN 0)) od) _ _
      iterate 2 refine hK _ _ _ _ _ _ (?_ : K _ _ _ _ _ _)
      exact hK _ _ _ _ _ _ (r_iret rfl rfl rfl rfl (hQ _ _ _ _ _ _ _ _ ((up0 _ _).trans (nI_l (n := 0) (by decide)).symm)))
    · have e9 : c9 = true := (Bool.of_not_eq_false fun c9 => c1 (b2i_0.mpr c9))
      subst e9
      iterate 2 refine hK _ _ _ _ _ _ (?_ : K _ _ _ _ _ _)
      refine hK _ _ _ _ _ _ (r_last rfl (N := 1) (f := oo) rfl (vp_in_nI (by decide) (by decide)) (?_ : K _ _ _ _ _ _))
      show K _ _ _ (b, LW P2 R2 u v w kb f g e A mk ro nx pi kp km th (vp_updL oo (nI 0).toNatClampNeg (lN 1)) od) _ _
      iterate 2 refine hK _ _ _ _ _ _ (?_ : K _ _ _ _ _ _)
      exact hK _ _ _ _ _ _ (r_iret rfl rfl rfl rfl (hQ _ _ _ _ _ _ _ _ ((up0 _ _).trans (nI_l (n := 1) (by decide)).symm)))
set_option maxRecDepth 10000 in
/-- Law.contains -/
theorem kL_contains {S : Nat × (Nat → Int32)} {d : Nat} {b : Bool} {P : Nat → Nat → Bool} {R u v w : Nat → Bool} {kb : Nat → Nat} {f g e : Nat → Int32} {A mk ro nx pi : Nat → Int32} {kp : Nat → Int64} {km th : Int32} {oo : Nat → Int64} {od : Nat → UInt64} {Q : eQ} {x : Int32} {y : Int32} {o : Oc} (hI : IvC P R) (ho : o_contains P R x y = o) (hQ : lQ cmA o Q b P R A mk ro nx pi kp km th od oo) : okCall S MT (d + 9) nL_contains [.ref 1, .int x, .int y, .ref 31] (b, LW P R u v w kb f g e A mk ro nx pi kp km th oo od) Q := by
  have hk := oK_contains (P := P) (R := R) (x := x) (y := y)
  rw [ho] at hk
  refine okc (M := ML_contains) rfl rfl fun K hK hW => ?_
  show K 0 [(0, .ref 1), (1, .int x), (2, .int y), (3, .ref 31)] [] (b, LW P R u v w kb f g e A mk ro nx pi kp km th oo od) 0 0
  iterate 5 refine hK _ _ _ _ _ _ (?_ : K _ _ _ _ _ _)
  refine hK _ _ _ _ _ _ (r_callV rfl (fun _ => rfl) rfl (b0 rfl rfl rfl) (kX6_contains (lcG ho hk (List.forall_mem_cons.mpr ⟨?_, fun _ hm => (by cases hm)⟩) ?_)))
  · intro e1 u v w kb f g e
    subst e1
    show K 22 [(0, .ref 1), (1, .int x), (2, .int y), (3, .ref 31)] [] (false, LW P R u v w kb f g e A mk ro nx pi kp km th oo od) _ _
    iterate 1 refine hK _ _ _ _ _ _ (?_ : K _ _ _ _ _ _)
    exact hK _ _ _ _ _ _ (r_iret rfl rfl rfl rfl (hQ _ _ _ _ _ _ _))
  · intro r P2 R2 e1 ht u v w kb f g e
    subst e1
    obtain ⟨c9, rfl⟩ := ht
    show K 8 [(0, .ref 1), (1, .int x), (2, .int y), (3, .ref 31)] (.int (b2i c9) :: [.int (nI 0), .ref 31]) (b, LW P2 R2 u v w kb f g e A mk ro nx pi kp km th oo od) _ _
    refine hK _ _ _ _ _ _ (And.intro (fun c1 => ?_) (fun c1 => ?_))
    · have e9 : c9 = false := b2i_0.mp c1
      subst e9
      iterate 1 refine hK _ _ _ _ _ _ (?_ : K _ _ _ _ _ _)
      refine hK _ _ _ _ _ _ (r_last rfl (N := 1) (f := oo) rfl (vp_in_nI (by decide) (by decide)) (?_ : K _ _ _ _ _ _))
      show K _ _ _ (b, LW P2 R2 u v w kb f g e A mk ro nx pi kp km th (vp_updL oo (nI 0).toNatClampNeg (lN 0)) od) _ _
      iterate 2 refine hK _ _ _ _ _ _ (?_ : K _ _ _ _ _ _)
      exact hK _ _ _ _ _ _ (r_iret rfl rfl rfl rfl (hQ _ _ _ _ _ _ _ _ ((up0 _ _).trans (nI_l (n := 0) (by decide)).symm)))
    · have e9 : c9 = true := (Bool.of_not_eq_false fun c9 => c1 (b2i_0.mpr c9))
      subst e9
      iterate 2 refine hK _ _ _ _ _ _ (?_ : K _ _ _ _ _ _)
      refine hK _ _ _ _ _ _ (r_last rfl (N := 1) (f := oo) rfl (vp_in_nI (by decide) (by decide)) (?_ : K _ _ _ _ _ _))
      show K _ _ _ (b, LW P2 R2 u v w kb f g e A mk ro nx pi kp km th (vp_updL oo (nI 0).toNatClampNeg (lN 1)) od) _ _
      iterate 2 refine hK _ _ _ _ _ _ (?_ : K _ _ _ _ _ _)
      exact hK _ _ _ _ _ _ (r_iret rfl rfl rfl rfl (hQ _ _ _ _ _ _ _ _ ((up0 _ _).trans (nI_l (n := 1) (by decide)).symm)))
set_option maxRecDepth 10000 in
/-- Law.pieces -/
theorem kL_pieces {S : Nat × (Nat → Int32)} {d : Nat} {b : Bool} {P : Nat → Nat → Bool} {R u v w : Nat → Bool} {kb : Nat → Nat} {f g e : Nat → Int32} {A mk ro nx pi : Nat → Int32} {kp : Nat → Int64} {km th : Int32} {oo : Nat → Int64} {od : Nat → UInt64} {Q : eQ} {x : Int32} {o : Oc} (hI : IvC P R) (ho : o_pieces P R x = o) (hQ : lQ cmA o Q b P R A mk ro nx pi kp km th od oo) : okCall S MT (d + 9) nL_pieces [.ref 1, .int x, .ref 31] (b, LW P R u v w kb f g e A mk ro nx pi kp km th oo od) Q := by
  have hk := oK_pieces (P := P) (R := R) (x := x)
  rw [ho] at hk
  refine okc (M := ML_pieces) rfl rfl fun K hK hW => ?_
  show K 0 [(0, .ref 1), (1, .int x), (2, .ref 31)] [] (b, LW P R u v w kb f g e A mk ro nx pi kp km th oo od) 0 0
  iterate 4 refine hK _ _ _ _ _ _ (?_ : K _ _ _ _ _ _)
  refine hK _ _ _ _ _ _ (r_callV rfl (fun _ => rfl) rfl (b0 rfl rfl rfl) (kX6_pieces hI (lcG ho hk (List.forall_mem_cons.mpr ⟨?_, fun _ hm => (by cases hm)⟩) ?_)))
  · intro e1 u v w kb f g e
    subst e1
    show K 13 [(0, .ref 1), (1, .int x), (2, .ref 31)] [] (false, LW P R u v w kb f g e A mk ro nx pi kp km th oo od) _ _
    iterate 1 refine hK _ _ _ _ _ _ (?_ : K _ _ _ _ _ _)
    exact hK _ _ _ _ _ _ (r_iret rfl rfl rfl rfl (hQ _ _ _ _ _ _ _))
  · intro r P2 R2 e1 ht u v w kb f g e
    subst e1
    obtain ⟨x9, rfl⟩ := ht
    show K 7 [(0, .ref 1), (1, .int x), (2, .ref 31)] (.int x9 :: [.int (nI 0), .ref 31]) (b, LW P2 R2 u v w kb f g e A mk ro nx pi kp km th oo od) _ _
    iterate 1 refine hK _ _ _ _ _ _ (?_ : K _ _ _ _ _ _)
    refine hK _ _ _ _ _ _ (r_last rfl (N := 1) (f := oo) rfl (vp_in_nI (by decide) (by decide)) (?_ : K _ _ _ _ _ _))
    show K _ _ _ (b, LW P2 R2 u v w kb f g e A mk ro nx pi kp km th (vp_updL oo (nI 0).toNatClampNeg x9.toInt64) od) _ _
    iterate 2 refine hK _ _ _ _ _ _ (?_ : K _ _ _ _ _ _)
    exact hK _ _ _ _ _ _ (r_iret rfl rfl rfl rfl (hQ _ _ _ _ _ _ _ _ (up0 _ _)))
set_option maxRecDepth 10000 in
/-- Law.areJoined -/
theorem kL_areJoined {S : Nat × (Nat → Int32)} {d : Nat} {b : Bool} {P : Nat → Nat → Bool} {R u v w : Nat → Bool} {kb : Nat → Nat} {f g e : Nat → Int32} {A mk ro nx pi : Nat → Int32} {kp : Nat → Int64} {km th : Int32} {oo : Nat → Int64} {od : Nat → UInt64} {Q : eQ} {x : Int32} {y : Int32} {z : Int32} {o : Oc} (hI : IvC P R) (ho : o_areJoined P R x y z = o) (hQ : lQ cmA o Q b P R A mk ro nx pi kp km th od oo) : okCall S MT (d + 9) nL_areJoined [.ref 1, .int x, .int y, .int z, .ref 31] (b, LW P R u v w kb f g e A mk ro nx pi kp km th oo od) Q := by
  have hk := oK_areJoined (P := P) (R := R) (x := x) (y := y) (z := z)
  rw [ho] at hk
  refine okc (M := ML_areJoined) rfl rfl fun K hK hW => ?_
  show K 0 [(0, .ref 1), (1, .int x), (2, .int y), (3, .int z), (4, .ref 31)] [] (b, LW P R u v w kb f g e A mk ro nx pi kp km th oo od) 0 0
  iterate 6 refine hK _ _ _ _ _ _ (?_ : K _ _ _ _ _ _)
  refine hK _ _ _ _ _ _ (r_callV rfl (fun _ => rfl) rfl (b0 rfl rfl rfl) (kX6_areJoined (lcG ho hk (List.forall_mem_cons.mpr ⟨?_, List.forall_mem_cons.mpr ⟨?_, List.forall_mem_cons.mpr ⟨?_, fun _ hm => (by cases hm)⟩⟩⟩) ?_)))
  · intro e1 u v w kb f g e
    subst e1
    show K 24 [(0, .ref 1), (1, .int x), (2, .int y), (3, .int z), (4, .ref 31)] [] (false, LW P R u v w kb f g e A mk ro nx pi kp km th oo od) _ _
    iterate 1 refine hK _ _ _ _ _ _ (?_ : K _ _ _ _ _ _)
    exact hK _ _ _ _ _ _ (r_iret rfl rfl rfl rfl (hQ _ _ _ _ _ _ _))
  · intro e1 u v w kb f g e
    subst e1
    show K 28 [(0, .ref 1), (1, .int x), (2, .int y), (3, .int z), (4, .ref 31)] [] (false, LW P R u v w kb f g e A mk ro nx pi kp km th oo od) _ _
    iterate 1 refine hK _ _ _ _ _ _ (?_ : K _ _ _ _ _ _)
    exact hK _ _ _ _ _ _ (r_iret rfl rfl rfl rfl (hQ _ _ _ _ _ _ _))
  · intro e1 u v w kb f g e
    subst e1
    show K 32 [(0, .ref 1), (1, .int x), (2, .int y), (3, .int z), (4, .ref 31)] [] (false, LW P R u v w kb f g e A mk ro nx pi kp km th oo od) _ _
    iterate 1 refine hK _ _ _ _ _ _ (?_ : K _ _ _ _ _ _)
    exact hK _ _ _ _ _ _ (r_iret rfl rfl rfl rfl (hQ _ _ _ _ _ _ _))
  · intro r P2 R2 e1 ht u v w kb f g e
    subst e1
    obtain ⟨c9, rfl⟩ := ht
    show K 10 [(0, .ref 1), (1, .int x), (2, .int y), (3, .int z), (4, .ref 31)] (.int (b2i c9) :: [.int (nI 0), .ref 31]) (b, LW P2 R2 u v w kb f g e A mk ro nx pi kp km th oo od) _ _
    refine hK _ _ _ _ _ _ (And.intro (fun c1 => ?_) (fun c1 => ?_))
    · have e9 : c9 = false := b2i_0.mp c1
      subst e9
      iterate 1 refine hK _ _ _ _ _ _ (?_ : K _ _ _ _ _ _)
      refine hK _ _ _ _ _ _ (r_last rfl (N := 1) (f := oo) rfl (vp_in_nI (by decide) (by decide)) (?_ : K _ _ _ _ _ _))
      show K _ _ _ (b, LW P2 R2 u v w kb f g e A mk ro nx pi kp km th (vp_updL oo (nI 0).toNatClampNeg (lN 0)) od) _ _
      iterate 2 refine hK _ _ _ _ _ _ (?_ : K _ _ _ _ _ _)
      exact hK _ _ _ _ _ _ (r_iret rfl rfl rfl rfl (hQ _ _ _ _ _ _ _ _ ((up0 _ _).trans (nI_l (n := 0) (by decide)).symm)))
    · have e9 : c9 = true := (Bool.of_not_eq_false fun c9 => c1 (b2i_0.mpr c9))
      subst e9
      iterate 2 refine hK _ _ _ _ _ _ (?_ : K _ _ _ _ _ _)
      refine hK _ _ _ _ _ _ (r_last rfl (N := 1) (f := oo) rfl (vp_in_nI (by decide) (by decide)) (?_ : K _ _ _ _ _ _))
      show K _ _ _ (b, LW P2 R2 u v w kb f g e A mk ro nx pi kp km th (vp_updL oo (nI 0).toNatClampNeg (lN 1)) od) _ _
      iterate 2 refine hK _ _ _ _ _ _ (?_ : K _ _ _ _ _ _)
      exact hK _ _ _ _ _ _ (r_iret rfl rfl rfl rfl (hQ _ _ _ _ _ _ _ _ ((up0 _ _).trans (nI_l (n := 1) (by decide)).symm)))
set_option maxRecDepth 10000 in
/-- Law.free -/
theorem kL_free {S : Nat × (Nat → Int32)} {d : Nat} {b : Bool} {P : Nat → Nat → Bool} {R u v w : Nat → Bool} {kb : Nat → Nat} {f g e : Nat → Int32} {A mk ro nx pi : Nat → Int32} {kp : Nat → Int64} {km th : Int32} {oo : Nat → Int64} {od : Nat → UInt64} {Q : eQ} {x : Int32} {y : Int32} {o : Oc} (hI : IvC P R) (ho : o_free P R x y = o) (hQ : lQ cmA o Q b P R A mk ro nx pi kp km th od oo) : okCall S MT (d + 9) nL_free [.ref 1, .int x, .int y, .ref 31] (b, LW P R u v w kb f g e A mk ro nx pi kp km th oo od) Q := by
  have hk := oK_free (P := P) (R := R) (x := x) (y := y)
  rw [ho] at hk
  refine okc (M := ML_free) rfl rfl fun K hK hW => ?_
  show K 0 [(0, .ref 1), (1, .int x), (2, .int y), (3, .ref 31)] [] (b, LW P R u v w kb f g e A mk ro nx pi kp km th oo od) 0 0
  iterate 5 refine hK _ _ _ _ _ _ (?_ : K _ _ _ _ _ _)
  refine hK _ _ _ _ _ _ (r_callV rfl (fun _ => rfl) rfl (b0 rfl rfl rfl) (kX6_free (lcG ho hk (List.forall_mem_cons.mpr ⟨?_, List.forall_mem_cons.mpr ⟨?_, fun _ hm => (by cases hm)⟩⟩) ?_)))
  · intro e1 u v w kb f g e
    subst e1
    show K 15 [(0, .ref 1), (1, .int x), (2, .int y), (3, .ref 31)] [] (false, LW P R u v w kb f g e A mk ro nx pi kp km th oo od) _ _
    iterate 1 refine hK _ _ _ _ _ _ (?_ : K _ _ _ _ _ _)
    exact hK _ _ _ _ _ _ (r_iret rfl rfl rfl rfl (hQ _ _ _ _ _ _ _))
  · intro e1 u v w kb f g e
    subst e1
    show K 19 [(0, .ref 1), (1, .int x), (2, .int y), (3, .ref 31)] [] (false, LW P R u v w kb f g e A mk ro nx pi kp km th oo od) _ _
    iterate 1 refine hK _ _ _ _ _ _ (?_ : K _ _ _ _ _ _)
    exact hK _ _ _ _ _ _ (r_iret rfl rfl rfl rfl (hQ _ _ _ _ _ _ _))
  · intro r P2 R2 e1 ht u v w kb f g e
    subst e1
    obtain ⟨x9, rfl⟩ := ht
    show K 8 [(0, .ref 1), (1, .int x), (2, .int y), (3, .ref 31)] (.int x9 :: [.int (nI 0), .ref 31]) (b, LW P2 R2 u v w kb f g e A mk ro nx pi kp km th oo od) _ _
    iterate 1 refine hK _ _ _ _ _ _ (?_ : K _ _ _ _ _ _)
    refine hK _ _ _ _ _ _ (r_last rfl (N := 1) (f := oo) rfl (vp_in_nI (by decide) (by decide)) (?_ : K _ _ _ _ _ _))
    show K _ _ _ (b, LW P2 R2 u v w kb f g e A mk ro nx pi kp km th (vp_updL oo (nI 0).toNatClampNeg x9.toInt64) od) _ _
    iterate 2 refine hK _ _ _ _ _ _ (?_ : K _ _ _ _ _ _)
    exact hK _ _ _ _ _ _ (r_iret rfl rfl rfl rfl (hQ _ _ _ _ _ _ _ _ (up0 _ _)))
set_option maxRecDepth 10000 in
/-- Law.holes -/
theorem kL_holes {S : Nat × (Nat → Int32)} {d : Nat} {b : Bool} {P : Nat → Nat → Bool} {R u v w : Nat → Bool} {kb : Nat → Nat} {f g e : Nat → Int32} {A mk ro nx pi : Nat → Int32} {kp : Nat → Int64} {km th : Int32} {oo : Nat → Int64} {od : Nat → UInt64} {Q : eQ} {x : Int32} {y : Int32} {o : Oc} (hI : IvC P R) (ho : o_holes P R x y = o) (hQ : lQ cmA o Q b P R A mk ro nx pi kp km th od oo) : okCall S MT (d + 9) nL_holes [.ref 1, .int x, .int y, .ref 31] (b, LW P R u v w kb f g e A mk ro nx pi kp km th oo od) Q := by
  have hk := oK_holes (P := P) (R := R) (x := x) (y := y)
  rw [ho] at hk
  refine okc (M := ML_holes) rfl rfl fun K hK hW => ?_
  show K 0 [(0, .ref 1), (1, .int x), (2, .int y), (3, .ref 31)] [] (b, LW P R u v w kb f g e A mk ro nx pi kp km th oo od) 0 0
  iterate 5 refine hK _ _ _ _ _ _ (?_ : K _ _ _ _ _ _)
  refine hK _ _ _ _ _ _ (r_callV rfl (fun _ => rfl) rfl (b0 rfl rfl rfl) (kX6_holes hI (lcG ho hk (List.forall_mem_cons.mpr ⟨?_, List.forall_mem_cons.mpr ⟨?_, fun _ hm => (by cases hm)⟩⟩) ?_)))
  · intro e1 u v w kb f g e
    subst e1
    show K 15 [(0, .ref 1), (1, .int x), (2, .int y), (3, .ref 31)] [] (false, LW P R u v w kb f g e A mk ro nx pi kp km th oo od) _ _
    iterate 1 refine hK _ _ _ _ _ _ (?_ : K _ _ _ _ _ _)
    exact hK _ _ _ _ _ _ (r_iret rfl rfl rfl rfl (hQ _ _ _ _ _ _ _))
  · intro e1 u v w kb f g e
    subst e1
    show K 19 [(0, .ref 1), (1, .int x), (2, .int y), (3, .ref 31)] [] (false, LW P R u v w kb f g e A mk ro nx pi kp km th oo od) _ _
    iterate 1 refine hK _ _ _ _ _ _ (?_ : K _ _ _ _ _ _)
    exact hK _ _ _ _ _ _ (r_iret rfl rfl rfl rfl (hQ _ _ _ _ _ _ _))
  · intro r P2 R2 e1 ht u v w kb f g e
    subst e1
    obtain ⟨x9, rfl⟩ := ht
    show K 8 [(0, .ref 1), (1, .int x), (2, .int y), (3, .ref 31)] (.int x9 :: [.int (nI 0), .ref 31]) (b, LW P2 R2 u v w kb f g e A mk ro nx pi kp km th oo od) _ _
    iterate 1 refine hK _ _ _ _ _ _ (?_ : K _ _ _ _ _ _)
    refine hK _ _ _ _ _ _ (r_last rfl (N := 1) (f := oo) rfl (vp_in_nI (by decide) (by decide)) (?_ : K _ _ _ _ _ _))
    show K _ _ _ (b, LW P2 R2 u v w kb f g e A mk ro nx pi kp km th (vp_updL oo (nI 0).toNatClampNeg x9.toInt64) od) _ _
    iterate 2 refine hK _ _ _ _ _ _ (?_ : K _ _ _ _ _ _)
    exact hK _ _ _ _ _ _ (r_iret rfl rfl rfl rfl (hQ _ _ _ _ _ _ _ _ (up0 _ _)))
set_option maxRecDepth 10000 in
/-- Law.signed -/
theorem kL_signed {S : Nat × (Nat → Int32)} {d : Nat} {b : Bool} {P : Nat → Nat → Bool} {R u v w : Nat → Bool} {kb : Nat → Nat} {f g e : Nat → Int32} {A mk ro nx pi : Nat → Int32} {kp : Nat → Int64} {km th : Int32} {oo : Nat → Int64} {od : Nat → UInt64} {Q : eQ} {x : Int32} {o : Oc} (hI : IvC P R) (ho : o_signed P R x = o) (hQ : lQ cmA o Q b P R A mk ro nx pi kp km th od oo) : okCall S MT (d + 9) nL_signed [.ref 1, .int x, .ref 31] (b, LW P R u v w kb f g e A mk ro nx pi kp km th oo od) Q := by
  have hk := oK_signed (P := P) (R := R) (x := x)
  rw [ho] at hk
  refine okc (M := ML_signed) rfl rfl fun K hK hW => ?_
  show K 0 [(0, .ref 1), (1, .int x), (2, .ref 31)] [] (b, LW P R u v w kb f g e A mk ro nx pi kp km th oo od) 0 0
  iterate 4 refine hK _ _ _ _ _ _ (?_ : K _ _ _ _ _ _)
  refine hK _ _ _ _ _ _ (r_callV rfl (fun _ => rfl) rfl (b0 rfl rfl rfl) (kX6_signed (lcG ho hk (List.forall_mem_cons.mpr ⟨?_, fun _ hm => (by cases hm)⟩) ?_)))
  · intro e1 u v w kb f g e
    subst e1
    show K 13 [(0, .ref 1), (1, .int x), (2, .ref 31)] [] (false, LW P R u v w kb f g e A mk ro nx pi kp km th oo od) _ _
    iterate 1 refine hK _ _ _ _ _ _ (?_ : K _ _ _ _ _ _)
    exact hK _ _ _ _ _ _ (r_iret rfl rfl rfl rfl (hQ _ _ _ _ _ _ _))
  · intro r P2 R2 e1 ht u v w kb f g e
    subst e1
    obtain ⟨x9, rfl⟩ := ht
    show K 7 [(0, .ref 1), (1, .int x), (2, .ref 31)] (.int x9 :: [.int (nI 0), .ref 31]) (b, LW P2 R2 u v w kb f g e A mk ro nx pi kp km th oo od) _ _
    iterate 1 refine hK _ _ _ _ _ _ (?_ : K _ _ _ _ _ _)
    refine hK _ _ _ _ _ _ (r_last rfl (N := 1) (f := oo) rfl (vp_in_nI (by decide) (by decide)) (?_ : K _ _ _ _ _ _))
    show K _ _ _ (b, LW P2 R2 u v w kb f g e A mk ro nx pi kp km th (vp_updL oo (nI 0).toNatClampNeg x9.toInt64) od) _ _
    iterate 2 refine hK _ _ _ _ _ _ (?_ : K _ _ _ _ _ _)
    exact hK _ _ _ _ _ _ (r_iret rfl rfl rfl rfl (hQ _ _ _ _ _ _ _ _ (up0 _ _)))
set_option maxRecDepth 10000 in
/-- Law.flip -/
theorem kL_flip {S : Nat × (Nat → Int32)} {d : Nat} {b : Bool} {P : Nat → Nat → Bool} {R u v w : Nat → Bool} {kb : Nat → Nat} {f g e : Nat → Int32} {A mk ro nx pi : Nat → Int32} {kp : Nat → Int64} {km th : Int32} {oo : Nat → Int64} {od : Nat → UInt64} {Q : eQ} {x : Int32} {o : Oc} (hI : IvC P R) (ho : o_flip P R x = o) (hQ : lQ cmR o Q b P R A mk ro nx pi kp km th od oo) : okCall S MT (d + 9) nL_flip [.ref 1, .int x, .ref 31] (b, LW P R u v w kb f g e A mk ro nx pi kp km th oo od) Q := by
  have hk := oK_flip (P := P) (R := R) (x := x)
  rw [ho] at hk
  refine okc (M := ML_flip) rfl rfl fun K hK hW => ?_
  show K 0 [(0, .ref 1), (1, .int x), (2, .ref 31)] [] (b, LW P R u v w kb f g e A mk ro nx pi kp km th oo od) 0 0
  iterate 4 refine hK _ _ _ _ _ _ (?_ : K _ _ _ _ _ _)
  refine hK _ _ _ _ _ _ (r_callV rfl (fun _ => rfl) rfl (b0 rfl rfl rfl) (kX6_flip hI (lcG ho hk (List.forall_mem_cons.mpr ⟨?_, List.forall_mem_cons.mpr ⟨?_, fun _ hm => (by cases hm)⟩⟩) ?_)))
  · intro e1 u v w kb f g e
    subst e1
    show K 13 [(0, .ref 1), (1, .int x), (2, .ref 31)] [] (false, LW P R u v w kb f g e A mk ro nx pi kp km th oo od) _ _
    iterate 1 refine hK _ _ _ _ _ _ (?_ : K _ _ _ _ _ _)
    exact hK _ _ _ _ _ _ (r_iret rfl rfl rfl rfl (hQ _ _ _ _ _ _ _))
  · intro e1 u v w kb f g e
    subst e1
    show K 16 [(0, .ref 1), (1, .int x), (2, .ref 31)] [] (false, LW P R u v w kb f g e A mk ro nx pi kp km th oo od) _ _
    iterate 1 refine hK _ _ _ _ _ _ (?_ : K _ _ _ _ _ _)
    exact hK _ _ _ _ _ _ (r_iret rfl rfl rfl rfl (hQ _ _ _ _ _ _ _))
  · intro r P2 R2 e1 ht u v w kb f g e
    subst e1
    obtain ⟨x9, rfl⟩ := ht
    show K 7 [(0, .ref 1), (1, .int x), (2, .ref 31)] (.int x9 :: [.int (nI 0), .ref 31]) (b, LW P2 R2 u v w kb f g e A mk ro nx pi kp km th oo od) _ _
    iterate 1 refine hK _ _ _ _ _ _ (?_ : K _ _ _ _ _ _)
    refine hK _ _ _ _ _ _ (r_last rfl (N := 1) (f := oo) rfl (vp_in_nI (by decide) (by decide)) (?_ : K _ _ _ _ _ _))
    show K _ _ _ (b, LW P2 R2 u v w kb f g e A mk ro nx pi kp km th (vp_updL oo (nI 0).toNatClampNeg x9.toInt64) od) _ _
    iterate 2 refine hK _ _ _ _ _ _ (?_ : K _ _ _ _ _ _)
    exact hK _ _ _ _ _ _ (r_iret rfl rfl rfl rfl (hQ _ _ _ _ _ _ _ _ (up0 _ _)))
set_option maxRecDepth 10000 in
/-- Law.rowAt -/
theorem kL_rowAt {S : Nat × (Nat → Int32)} {d : Nat} {b : Bool} {P : Nat → Nat → Bool} {R u v w : Nat → Bool} {kb : Nat → Nat} {f g e : Nat → Int32} {A mk ro nx pi : Nat → Int32} {kp : Nat → Int64} {km th : Int32} {oo : Nat → Int64} {od : Nat → UInt64} {Q : eQ} {x : Int32} {o : Oc} (hI : IvC P R) (ho : o_rowAt P R x = o) (hQ : lQ cmA o Q b P R A mk ro nx pi kp km th od oo) : okCall S MT (d + 9) nL_rowAt [.ref 1, .int x, .ref 31] (b, LW P R u v w kb f g e A mk ro nx pi kp km th oo od) Q := by
  have hk := oK_rowAt (P := P) (R := R) (x := x)
  rw [ho] at hk
  refine okc (M := ML_rowAt) rfl rfl fun K hK hW => ?_
  show K 0 [(0, .ref 1), (1, .int x), (2, .ref 31)] [] (b, LW P R u v w kb f g e A mk ro nx pi kp km th oo od) 0 0
  iterate 4 refine hK _ _ _ _ _ _ (?_ : K _ _ _ _ _ _)
  refine hK _ _ _ _ _ _ (r_callV rfl (fun _ => rfl) rfl (b0 rfl rfl rfl) (kX6_rowAt (lcG ho hk (List.forall_mem_cons.mpr ⟨?_, fun _ hm => (by cases hm)⟩) ?_)))
  · intro e1 u v w kb f g e
    subst e1
    show K 13 [(0, .ref 1), (1, .int x), (2, .ref 31)] [] (false, LW P R u v w kb f g e A mk ro nx pi kp km th oo od) _ _
    iterate 1 refine hK _ _ _ _ _ _ (?_ : K _ _ _ _ _ _)
    exact hK _ _ _ _ _ _ (r_iret rfl rfl rfl rfl (hQ _ _ _ _ _ _ _))
  · intro r P2 R2 e1 ht u v w kb f g e
    subst e1
    obtain ⟨x9, rfl⟩ := ht
    show K 7 [(0, .ref 1), (1, .int x), (2, .ref 31)] (.int x9 :: [.int (nI 0), .ref 31]) (b, LW P2 R2 u v w kb f g e A mk ro nx pi kp km th oo od) _ _
    iterate 1 refine hK _ _ _ _ _ _ (?_ : K _ _ _ _ _ _)
    refine hK _ _ _ _ _ _ (r_last rfl (N := 1) (f := oo) rfl (vp_in_nI (by decide) (by decide)) (?_ : K _ _ _ _ _ _))
    show K _ _ _ (b, LW P2 R2 u v w kb f g e A mk ro nx pi kp km th (vp_updL oo (nI 0).toNatClampNeg x9.toInt64) od) _ _
    iterate 2 refine hK _ _ _ _ _ _ (?_ : K _ _ _ _ _ _)
    exact hK _ _ _ _ _ _ (r_iret rfl rfl rfl rfl (hQ _ _ _ _ _ _ _ _ (up0 _ _)))
set_option maxRecDepth 10000 in
/-- Law.fills -/
theorem kL_fills {S : Nat × (Nat → Int32)} {d : Nat} {b : Bool} {P : Nat → Nat → Bool} {R u v w : Nat → Bool} {kb : Nat → Nat} {f g e : Nat → Int32} {A mk ro nx pi : Nat → Int32} {kp : Nat → Int64} {km th : Int32} {oo : Nat → Int64} {od : Nat → UInt64} {Q : eQ} {x : Int32} {o : Oc} (hI : IvC P R) (ho : o_fills P R x = o) (hQ : lQ cmL o Q b P R A mk ro nx pi kp km th od oo) : okCall S MT (d + 9) nL_fills [.ref 1, .int x, .ref 31] (b, LW P R u v w kb f g e A mk ro nx pi kp km th oo od) Q := by
  have hk := oK_fills (P := P) (R := R) (x := x)
  rw [ho] at hk
  refine okc (M := ML_fills) rfl rfl fun K hK hW => ?_
  show K 0 [(0, .ref 1), (1, .int x), (2, .ref 31)] [] (b, LW P R u v w kb f g e A mk ro nx pi kp km th oo od) 0 0
  iterate 4 refine hK _ _ _ _ _ _ (?_ : K _ _ _ _ _ _)
  refine hK _ _ _ _ _ _ (r_callV rfl (fun _ => rfl) rfl (b0 rfl rfl rfl) (kX6_fills hI (lcG ho hk (List.forall_mem_cons.mpr ⟨?_, List.forall_mem_cons.mpr ⟨?_, fun _ hm => (by cases hm)⟩⟩) ?_)))
  · intro e1 u v w kb f g e
    subst e1
    show K 20 [(0, .ref 1), (1, .int x), (2, .ref 31)] [] (false, LW P R u v w kb f g e A mk ro nx pi kp km th oo od) _ _
    iterate 1 refine hK _ _ _ _ _ _ (?_ : K _ _ _ _ _ _)
    exact hK _ _ _ _ _ _ (r_iret rfl rfl rfl rfl (hQ _ _ _ _ _ _ _))
  · intro e1 u v w kb f g e
    subst e1
    show K 23 [(0, .ref 1), (1, .int x), (2, .ref 31)] [] (false, LW P R u v w kb f g e A mk ro nx pi kp km th oo od) _ _
    iterate 1 refine hK _ _ _ _ _ _ (?_ : K _ _ _ _ _ _)
    exact hK _ _ _ _ _ _ (r_iret rfl rfl rfl rfl (hQ _ _ _ _ _ _ _))
  · intro r P2 R2 e1 ht u v w kb f g e
    subst e1
    obtain ⟨c9, rfl⟩ := ht
    show K 7 [(0, .ref 1), (1, .int x), (2, .ref 31)] (.int (b2i c9) :: [.int (nI 0), .ref 31]) (b, LW P2 R2 u v w kb f g e A mk ro nx pi kp km th oo od) _ _
    refine hK _ _ _ _ _ _ (And.intro (fun c1 => ?_) (fun c1 => ?_))
    · have e9 : c9 = false := b2i_0.mp c1
      subst e9
      iterate 1 refine hK _ _ _ _ _ _ (?_ : K _ _ _ _ _ _)
      refine hK _ _ _ _ _ _ (r_last rfl (N := 1) (f := oo) rfl (vp_in_nI (by decide) (by decide)) (?_ : K _ _ _ _ _ _))
      show K _ _ _ (b, LW P2 R2 u v w kb f g e A mk ro nx pi kp km th (vp_updL oo (nI 0).toNatClampNeg (lN 0)) od) _ _
      iterate 2 refine hK _ _ _ _ _ _ (?_ : K _ _ _ _ _ _)
      exact hK _ _ _ _ _ _ (r_iret rfl rfl rfl rfl (hQ _ _ _ _ _ _ _ _ ((up0 _ _).trans (nI_l (n := 0) (by decide)).symm)))
    · have e9 : c9 = true := (Bool.of_not_eq_false fun c9 => c1 (b2i_0.mpr c9))
      subst e9
      iterate 2 refine hK _ _ _ _ _ _ (?_ : K _ _ _ _ _ _)
      refine hK _ _ _ _ _ _ (r_last rfl (N := 1) (f := oo) rfl (vp_in_nI (by decide) (by decide)) (?_ : K _ _ _ _ _ _))
      show K _ _ _ (b, LW P2 R2 u v w kb f g e A mk ro nx pi kp km th (vp_updL oo (nI 0).toNatClampNeg (lN 1)) od) _ _
      iterate 2 refine hK _ _ _ _ _ _ (?_ : K _ _ _ _ _ _)
      exact hK _ _ _ _ _ _ (r_iret rfl rfl rfl rfl (hQ _ _ _ _ _ _ _ _ ((up0 _ _).trans (nI_l (n := 1) (by decide)).symm)))
set_option maxRecDepth 10000 in
/-- Law.mean -/
theorem kL_mean {S : Nat × (Nat → Int32)} {d : Nat} {b : Bool} {P : Nat → Nat → Bool} {R u v w : Nat → Bool} {kb : Nat → Nat} {f g e : Nat → Int32} {A mk ro nx pi : Nat → Int32} {kp : Nat → Int64} {km th : Int32} {oo : Nat → Int64} {od : Nat → UInt64} {Q : eQ} {x : Int32} {o : Oc} (hI : IvC P R) (ho : o_mean P R x = o) (hQ : lD cmM o Q b P R A mk ro nx pi kp km th od oo) : okCall S MT (d + 9) nL_mean [.ref 1, .int x, .ref 32] (b, LW P R u v w kb f g e A mk ro nx pi kp km th oo od) Q := by
  have hk := oK_mean (P := P) (R := R) (x := x)
  rw [ho] at hk
  refine okc (M := ML_mean) rfl rfl fun K hK hW => ?_
  show K 0 [(0, .ref 1), (1, .int x), (2, .ref 32)] [] (b, LW P R u v w kb f g e A mk ro nx pi kp km th oo od) 0 0
  iterate 4 refine hK _ _ _ _ _ _ (?_ : K _ _ _ _ _ _)
  refine hK _ _ _ _ _ _ (r_callV rfl (fun _ => rfl) rfl (b0 rfl rfl rfl) (kX6_mean (lcG ho hk (List.forall_mem_cons.mpr ⟨?_, List.forall_mem_cons.mpr ⟨?_, fun _ hm => (by cases hm)⟩⟩) ?_)))
  · intro e1 u v w kb f g e
    subst e1
    show K 12 [(0, .ref 1), (1, .int x), (2, .ref 32)] [] (false, LW P R u v w kb f g e A mk ro nx pi kp km th oo od) _ _
    iterate 1 refine hK _ _ _ _ _ _ (?_ : K _ _ _ _ _ _)
    exact hK _ _ _ _ _ _ (r_iret rfl rfl rfl rfl (hQ _ _ _ _ _ _ _))
  · intro e1 u v w kb f g e
    subst e1
    show K 15 [(0, .ref 1), (1, .int x), (2, .ref 32)] [] (false, LW P R u v w kb f g e A mk ro nx pi kp km th oo od) _ _
    iterate 1 refine hK _ _ _ _ _ _ (?_ : K _ _ _ _ _ _)
    exact hK _ _ _ _ _ _ (r_iret rfl rfl rfl rfl (hQ _ _ _ _ _ _ _))
  · intro r P2 R2 e1 ht u v w kb f g e
    subst e1
    obtain ⟨x9, rfl, hx9⟩ := ht
    show K 7 [(0, .ref 1), (1, .int x), (2, .ref 32)] (.double x9 :: [.int (nI 0), .ref 32]) (b, LW P2 R2 u v w kb f g e A mk ro nx pi kp km th oo od) _ _
    refine hK _ _ _ _ _ _ (r_dast rfl (N := 1) (f := od) rfl (vp_in_nI (by decide) (by decide)) (?_ : K _ _ _ _ _ _))
    show K _ _ _ (b, LW P2 R2 u v w kb f g e A mk ro nx pi kp km th oo (vf_upd od (nI 0).toNatClampNeg x9)) _ _
    iterate 2 refine hK _ _ _ _ _ _ (?_ : K _ _ _ _ _ _)
    exact hK _ _ _ _ _ _ (r_iret rfl rfl rfl rfl (hQ _ _ _ _ _ _ _ _ (ud0 _ _)))
set_option maxRecDepth 10000 in
/-- Law.share -/
theorem kL_share {S : Nat × (Nat → Int32)} {d : Nat} {b : Bool} {P : Nat → Nat → Bool} {R u v w : Nat → Bool} {kb : Nat → Nat} {f g e : Nat → Int32} {A mk ro nx pi : Nat → Int32} {kp : Nat → Int64} {km th : Int32} {oo : Nat → Int64} {od : Nat → UInt64} {Q : eQ} {x : Int32} {o : Oc} (hI : IvC P R) (ho : o_share P R x = o) (hQ : lD cmA o Q b P R A mk ro nx pi kp km th od oo) : okCall S MT (d + 9) nL_share [.ref 1, .int x, .ref 32] (b, LW P R u v w kb f g e A mk ro nx pi kp km th oo od) Q := by
  have hk := oK_share (P := P) (R := R) (x := x)
  rw [ho] at hk
  refine okc (M := ML_share) rfl rfl fun K hK hW => ?_
  show K 0 [(0, .ref 1), (1, .int x), (2, .ref 32)] [] (b, LW P R u v w kb f g e A mk ro nx pi kp km th oo od) 0 0
  iterate 4 refine hK _ _ _ _ _ _ (?_ : K _ _ _ _ _ _)
  refine hK _ _ _ _ _ _ (r_callV rfl (fun _ => rfl) rfl (b0 rfl rfl rfl) (kX6_share (lcG ho hk (List.forall_mem_cons.mpr ⟨?_, fun _ hm => (by cases hm)⟩) ?_)))
  · intro e1 u v w kb f g e
    subst e1
    show K 13 [(0, .ref 1), (1, .int x), (2, .ref 32)] [] (false, LW P R u v w kb f g e A mk ro nx pi kp km th oo od) _ _
    iterate 1 refine hK _ _ _ _ _ _ (?_ : K _ _ _ _ _ _)
    exact hK _ _ _ _ _ _ (r_iret rfl rfl rfl rfl (hQ _ _ _ _ _ _ _))
  · intro r P2 R2 e1 ht u v w kb f g e
    subst e1
    obtain ⟨x9, rfl, hx9⟩ := ht
    show K 7 [(0, .ref 1), (1, .int x), (2, .ref 32)] (.float x9 :: [.int (nI 0), .ref 32]) (b, LW P2 R2 u v w kb f g e A mk ro nx pi kp km th oo od) _ _
    refine hK _ _ _ _ _ _ (r_f2d rfl (f2d_n hx9) (?_ : K _ _ _ _ _ _))
    refine hK _ _ _ _ _ _ (r_dast rfl (N := 1) (f := od) rfl (vp_in_nI (by decide) (by decide)) (?_ : K _ _ _ _ _ _))
    show K _ _ _ (b, LW P2 R2 u v w kb f g e A mk ro nx pi kp km th oo (vf_upd od (nI 0).toNatClampNeg (FP.f2d x9))) _ _
    iterate 2 refine hK _ _ _ _ _ _ (?_ : K _ _ _ _ _ _)
    exact hK _ _ _ _ _ _ (r_iret rfl rfl rfl rfl (hQ _ _ _ _ _ _ _ _ (ud0 _ _)))
set_option maxRecDepth 10000 in
/-- Law.isSound -/
theorem kL_isSound {S : Nat × (Nat → Int32)} {d : Nat} {b : Bool} {P : Nat → Nat → Bool} {R u v w : Nat → Bool} {kb : Nat → Nat} {f g e : Nat → Int32} {A mk ro nx pi : Nat → Int32} {kp : Nat → Int64} {km th : Int32} {oo : Nat → Int64} {od : Nat → UInt64} {Q : eQ} {x : Int32} {o : Oc} (hI : IvC P R) (ho : o_isSound P R x = o) (hQ : lQ cmA o Q b P R A mk ro nx pi kp km th od oo) : okCall S MT (d + 9) nL_isSound [.ref 1, .int x, .ref 31] (b, LW P R u v w kb f g e A mk ro nx pi kp km th oo od) Q := by
  have hk := oK_isSound (P := P) (R := R) (x := x)
  rw [ho] at hk
  refine okc (M := ML_isSound) rfl rfl fun K hK hW => ?_
  show K 0 [(0, .ref 1), (1, .int x), (2, .ref 31)] [] (b, LW P R u v w kb f g e A mk ro nx pi kp km th oo od) 0 0
  iterate 4 refine hK _ _ _ _ _ _ (?_ : K _ _ _ _ _ _)
  refine hK _ _ _ _ _ _ (r_callV rfl (fun _ => rfl) rfl (b0 rfl rfl rfl) (kX6_isSound hI (lcG ho hk (List.forall_mem_cons.mpr ⟨?_, fun _ hm => (by cases hm)⟩) ?_)))
  · intro e1 u v w kb f g e
    subst e1
    show K 20 [(0, .ref 1), (1, .int x), (2, .ref 31)] [] (false, LW P R u v w kb f g e A mk ro nx pi kp km th oo od) _ _
    iterate 1 refine hK _ _ _ _ _ _ (?_ : K _ _ _ _ _ _)
    exact hK _ _ _ _ _ _ (r_iret rfl rfl rfl rfl (hQ _ _ _ _ _ _ _))
  · intro r P2 R2 e1 ht u v w kb f g e
    subst e1
    obtain ⟨c9, rfl⟩ := ht
    show K 7 [(0, .ref 1), (1, .int x), (2, .ref 31)] (.int (b2i c9) :: [.int (nI 0), .ref 31]) (b, LW P2 R2 u v w kb f g e A mk ro nx pi kp km th oo od) _ _
    refine hK _ _ _ _ _ _ (And.intro (fun c1 => ?_) (fun c1 => ?_))
    · have e9 : c9 = false := b2i_0.mp c1
      subst e9
      iterate 1 refine hK _ _ _ _ _ _ (?_ : K _ _ _ _ _ _)
      refine hK _ _ _ _ _ _ (r_last rfl (N := 1) (f := oo) rfl (vp_in_nI (by decide) (by decide)) (?_ : K _ _ _ _ _ _))
      show K _ _ _ (b, LW P2 R2 u v w kb f g e A mk ro nx pi kp km th (vp_updL oo (nI 0).toNatClampNeg (lN 0)) od) _ _
      iterate 2 refine hK _ _ _ _ _ _ (?_ : K _ _ _ _ _ _)
      exact hK _ _ _ _ _ _ (r_iret rfl rfl rfl rfl (hQ _ _ _ _ _ _ _ _ ((up0 _ _).trans (nI_l (n := 0) (by decide)).symm)))
    · have e9 : c9 = true := (Bool.of_not_eq_false fun c9 => c1 (b2i_0.mpr c9))
      subst e9
      iterate 2 refine hK _ _ _ _ _ _ (?_ : K _ _ _ _ _ _)
      refine hK _ _ _ _ _ _ (r_last rfl (N := 1) (f := oo) rfl (vp_in_nI (by decide) (by decide)) (?_ : K _ _ _ _ _ _))
      show K _ _ _ (b, LW P2 R2 u v w kb f g e A mk ro nx pi kp km th (vp_updL oo (nI 0).toNatClampNeg (lN 1)) od) _ _
      iterate 2 refine hK _ _ _ _ _ _ (?_ : K _ _ _ _ _ _)
      exact hK _ _ _ _ _ _ (r_iret rfl rfl rfl rfl (hQ _ _ _ _ _ _ _ _ ((up0 _ _).trans (nI_l (n := 1) (by decide)).symm)))
set_option maxRecDepth 10000 in
/-- Law.isTrue -/
theorem kL_isTrue {S : Nat × (Nat → Int32)} {d : Nat} {b : Bool} {P : Nat → Nat → Bool} {R u v w : Nat → Bool} {kb : Nat → Nat} {f g e : Nat → Int32} {A mk ro nx pi : Nat → Int32} {kp : Nat → Int64} {km th : Int32} {oo : Nat → Int64} {od : Nat → UInt64} {Q : eQ} {x : Int32} {y : Int32} {z : Int32} {o : Oc} (hI : IvC P R) (ho : o_isTrue P R x y z = o) (hQ : lQ cmA o Q b P R A mk ro nx pi kp km th od oo) : okCall S MT (d + 9) nL_isTrue [.ref 1, .int x, .int y, .int z, .ref 31] (b, LW P R u v w kb f g e A mk ro nx pi kp km th oo od) Q := by
  have hk := oK_isTrue (P := P) (R := R) (x := x) (y := y) (z := z)
  rw [ho] at hk
  refine okc (M := ML_isTrue) rfl rfl fun K hK hW => ?_
  show K 0 [(0, .ref 1), (1, .int x), (2, .int y), (3, .int z), (4, .ref 31)] [] (b, LW P R u v w kb f g e A mk ro nx pi kp km th oo od) 0 0
  iterate 6 refine hK _ _ _ _ _ _ (?_ : K _ _ _ _ _ _)
  refine hK _ _ _ _ _ _ (r_callV rfl (fun _ => rfl) rfl (b0 rfl rfl rfl) (kX6_isTrue hI (lcG ho hk (List.forall_mem_cons.mpr ⟨?_, List.forall_mem_cons.mpr ⟨?_, fun _ hm => (by cases hm)⟩⟩) ?_)))
  · intro e1 u v w kb f g e
    subst e1
    show K 24 [(0, .ref 1), (1, .int x), (2, .int y), (3, .int z), (4, .ref 31)] [] (false, LW P R u v w kb f g e A mk ro nx pi kp km th oo od) _ _
    iterate 1 refine hK _ _ _ _ _ _ (?_ : K _ _ _ _ _ _)
    exact hK _ _ _ _ _ _ (r_iret rfl rfl rfl rfl (hQ _ _ _ _ _ _ _))
  · intro e1 u v w kb f g e
    subst e1
    show K 28 [(0, .ref 1), (1, .int x), (2, .int y), (3, .int z), (4, .ref 31)] [] (false, LW P R u v w kb f g e A mk ro nx pi kp km th oo od) _ _
    iterate 1 refine hK _ _ _ _ _ _ (?_ : K _ _ _ _ _ _)
    exact hK _ _ _ _ _ _ (r_iret rfl rfl rfl rfl (hQ _ _ _ _ _ _ _))
  · intro r P2 R2 e1 ht u v w kb f g e
    subst e1
    obtain ⟨c9, rfl⟩ := ht
    show K 10 [(0, .ref 1), (1, .int x), (2, .int y), (3, .int z), (4, .ref 31)] (.int (b2i c9) :: [.int (nI 0), .ref 31]) (b, LW P2 R2 u v w kb f g e A mk ro nx pi kp km th oo od) _ _
    refine hK _ _ _ _ _ _ (And.intro (fun c1 => ?_) (fun c1 => ?_))
    · have e9 : c9 = false := b2i_0.mp c1
      subst e9
      iterate 1 refine hK _ _ _ _ _ _ (?_ : K _ _ _ _ _ _)
      refine hK _ _ _ _ _ _ (r_last rfl (N := 1) (f := oo) rfl (vp_in_nI (by decide) (by decide)) (?_ : K _ _ _ _ _ _))
      show K _ _ _ (b, LW P2 R2 u v w kb f g e A mk ro nx pi kp km th (vp_updL oo (nI 0).toNatClampNeg (lN 0)) od) _ _
      iterate 2 refine hK _ _ _ _ _ _ (?_ : K _ _ _ _ _ _)
      exact hK _ _ _ _ _ _ (r_iret rfl rfl rfl rfl (hQ _ _ _ _ _ _ _ _ ((up0 _ _).trans (nI_l (n := 0) (by decide)).symm)))
    · have e9 : c9 = true := (Bool.of_not_eq_false fun c9 => c1 (b2i_0.mpr c9))
      subst e9
      iterate 2 refine hK _ _ _ _ _ _ (?_ : K _ _ _ _ _ _)
      refine hK _ _ _ _ _ _ (r_last rfl (N := 1) (f := oo) rfl (vp_in_nI (by decide) (by decide)) (?_ : K _ _ _ _ _ _))
      show K _ _ _ (b, LW P2 R2 u v w kb f g e A mk ro nx pi kp km th (vp_updL oo (nI 0).toNatClampNeg (lN 1)) od) _ _
      iterate 2 refine hK _ _ _ _ _ _ (?_ : K _ _ _ _ _ _)
      exact hK _ _ _ _ _ _ (r_iret rfl rfl rfl rfl (hQ _ _ _ _ _ _ _ _ ((up0 _ _).trans (nI_l (n := 1) (by decide)).symm)))
set_option maxRecDepth 10000 in
/-- Law.faceIsTrue -/
theorem kL_faceIsTrue {S : Nat × (Nat → Int32)} {d : Nat} {b : Bool} {P : Nat → Nat → Bool} {R u v w : Nat → Bool} {kb : Nat → Nat} {f g e : Nat → Int32} {A mk ro nx pi : Nat → Int32} {kp : Nat → Int64} {km th : Int32} {oo : Nat → Int64} {od : Nat → UInt64} {Q : eQ} {x : Int32} {y : Int32} {o : Oc} (hI : IvC P R) (ho : o_faceIsTrue P R x y = o) (hQ : lQ cmA o Q b P R A mk ro nx pi kp km th od oo) : okCall S MT (d + 9) nL_faceIsTrue [.ref 1, .int x, .int y, .ref 31] (b, LW P R u v w kb f g e A mk ro nx pi kp km th oo od) Q := by
  have hk := oK_faceIsTrue (P := P) (R := R) (x := x) (y := y)
  rw [ho] at hk
  refine okc (M := ML_faceIsTrue) rfl rfl fun K hK hW => ?_
  show K 0 [(0, .ref 1), (1, .int x), (2, .int y), (3, .ref 31)] [] (b, LW P R u v w kb f g e A mk ro nx pi kp km th oo od) 0 0
  iterate 5 refine hK _ _ _ _ _ _ (?_ : K _ _ _ _ _ _)
  refine hK _ _ _ _ _ _ (r_callV rfl (fun _ => rfl) rfl (b0 rfl rfl rfl) (kX6_faceIsTrue hI (lcG ho hk (List.forall_mem_cons.mpr ⟨?_, List.forall_mem_cons.mpr ⟨?_, List.forall_mem_cons.mpr ⟨?_, fun _ hm => (by cases hm)⟩⟩⟩) ?_)))
  · intro e1 u v w kb f g e
    subst e1
    show K 22 [(0, .ref 1), (1, .int x), (2, .int y), (3, .ref 31)] [] (false, LW P R u v w kb f g e A mk ro nx pi kp km th oo od) _ _
    iterate 1 refine hK _ _ _ _ _ _ (?_ : K _ _ _ _ _ _)
    exact hK _ _ _ _ _ _ (r_iret rfl rfl rfl rfl (hQ _ _ _ _ _ _ _))
  · intro e1 u v w kb f g e
    subst e1
    show K 26 [(0, .ref 1), (1, .int x), (2, .int y), (3, .ref 31)] [] (false, LW P R u v w kb f g e A mk ro nx pi kp km th oo od) _ _
    iterate 1 refine hK _ _ _ _ _ _ (?_ : K _ _ _ _ _ _)
    exact hK _ _ _ _ _ _ (r_iret rfl rfl rfl rfl (hQ _ _ _ _ _ _ _))
  · intro e1 u v w kb f g e
    subst e1
    show K 30 [(0, .ref 1), (1, .int x), (2, .int y), (3, .ref 31)] [] (false, LW P R u v w kb f g e A mk ro nx pi kp km th oo od) _ _
    iterate 1 refine hK _ _ _ _ _ _ (?_ : K _ _ _ _ _ _)
    exact hK _ _ _ _ _ _ (r_iret rfl rfl rfl rfl (hQ _ _ _ _ _ _ _))
  · intro r P2 R2 e1 ht u v w kb f g e
    subst e1
    obtain ⟨c9, rfl⟩ := ht
    show K 8 [(0, .ref 1), (1, .int x), (2, .int y), (3, .ref 31)] (.int (b2i c9) :: [.int (nI 0), .ref 31]) (b, LW P2 R2 u v w kb f g e A mk ro nx pi kp km th oo od) _ _
    refine hK _ _ _ _ _ _ (And.intro (fun c1 => ?_) (fun c1 => ?_))
    · have e9 : c9 = false := b2i_0.mp c1
      subst e9
      iterate 1 refine hK _ _ _ _ _ _ (?_ : K _ _ _ _ _ _)
      refine hK _ _ _ _ _ _ (r_last rfl (N := 1) (f := oo) rfl (vp_in_nI (by decide) (by decide)) (?_ : K _ _ _ _ _ _))
      show K _ _ _ (b, LW P2 R2 u v w kb f g e A mk ro nx pi kp km th (vp_updL oo (nI 0).toNatClampNeg (lN 0)) od) _ _
      iterate 2 refine hK _ _ _ _ _ _ (?_ : K _ _ _ _ _ _)
      exact hK _ _ _ _ _ _ (r_iret rfl rfl rfl rfl (hQ _ _ _ _ _ _ _ _ ((up0 _ _).trans (nI_l (n := 0) (by decide)).symm)))
    · have e9 : c9 = true := (Bool.of_not_eq_false fun c9 => c1 (b2i_0.mpr c9))
      subst e9
      iterate 2 refine hK _ _ _ _ _ _ (?_ : K _ _ _ _ _ _)
      refine hK _ _ _ _ _ _ (r_last rfl (N := 1) (f := oo) rfl (vp_in_nI (by decide) (by decide)) (?_ : K _ _ _ _ _ _))
      show K _ _ _ (b, LW P2 R2 u v w kb f g e A mk ro nx pi kp km th (vp_updL oo (nI 0).toNatClampNeg (lN 1)) od) _ _
      iterate 2 refine hK _ _ _ _ _ _ (?_ : K _ _ _ _ _ _)
      exact hK _ _ _ _ _ _ (r_iret rfl rfl rfl rfl (hQ _ _ _ _ _ _ _ _ ((up0 _ _).trans (nI_l (n := 1) (by decide)).symm)))
set_option maxRecDepth 10000 in
/-- Law.pairIsTrue -/
theorem kL_pairIsTrue {S : Nat × (Nat → Int32)} {d : Nat} {b : Bool} {P : Nat → Nat → Bool} {R u v w : Nat → Bool} {kb : Nat → Nat} {f g e : Nat → Int32} {A mk ro nx pi : Nat → Int32} {kp : Nat → Int64} {km th : Int32} {oo : Nat → Int64} {od : Nat → UInt64} {Q : eQ} {x : Int32} {y : Int32} {o : Oc} (hI : IvC P R) (ho : o_pairIsTrue P R x y = o) (hQ : lQ cmA o Q b P R A mk ro nx pi kp km th od oo) : okCall S MT (d + 9) nL_pairIsTrue [.ref 1, .int x, .int y, .ref 31] (b, LW P R u v w kb f g e A mk ro nx pi kp km th oo od) Q := by
  have hk := oK_pairIsTrue (P := P) (R := R) (x := x) (y := y)
  rw [ho] at hk
  refine okc (M := ML_pairIsTrue) rfl rfl fun K hK hW => ?_
  show K 0 [(0, .ref 1), (1, .int x), (2, .int y), (3, .ref 31)] [] (b, LW P R u v w kb f g e A mk ro nx pi kp km th oo od) 0 0
  iterate 5 refine hK _ _ _ _ _ _ (?_ : K _ _ _ _ _ _)
  refine hK _ _ _ _ _ _ (r_callV rfl (fun _ => rfl) rfl (b0 rfl rfl rfl) (kX6_pairIsTrue hI (lcG ho hk (List.forall_mem_cons.mpr ⟨?_, fun _ hm => (by cases hm)⟩) ?_)))
  · intro e1 u v w kb f g e
    subst e1
    show K 22 [(0, .ref 1), (1, .int x), (2, .int y), (3, .ref 31)] [] (false, LW P R u v w kb f g e A mk ro nx pi kp km th oo od) _ _
    iterate 1 refine hK _ _ _ _ _ _ (?_ : K _ _ _ _ _ _)
    exact hK _ _ _ _ _ _ (r_iret rfl rfl rfl rfl (hQ _ _ _ _ _ _ _))
  · intro r P2 R2 e1 ht u v w kb f g e
    subst e1
    obtain ⟨c9, rfl⟩ := ht
    show K 8 [(0, .ref 1), (1, .int x), (2, .int y), (3, .ref 31)] (.int (b2i c9) :: [.int (nI 0), .ref 31]) (b, LW P2 R2 u v w kb f g e A mk ro nx pi kp km th oo od) _ _
    refine hK _ _ _ _ _ _ (And.intro (fun c1 => ?_) (fun c1 => ?_))
    · have e9 : c9 = false := b2i_0.mp c1
      subst e9
      iterate 1 refine hK _ _ _ _ _ _ (?_ : K _ _ _ _ _ _)
      refine hK _ _ _ _ _ _ (r_last rfl (N := 1) (f := oo) rfl (vp_in_nI (by decide) (by decide)) (?_ : K _ _ _ _ _ _))
      show K _ _ _ (b, LW P2 R2 u v w kb f g e A mk ro nx pi kp km th (vp_updL oo (nI 0).toNatClampNeg (lN 0)) od) _ _
      iterate 2 refine hK _ _ _ _ _ _ (?_ : K _ _ _ _ _ _)
      exact hK _ _ _ _ _ _ (r_iret rfl rfl rfl rfl (hQ _ _ _ _ _ _ _ _ ((up0 _ _).trans (nI_l (n := 0) (by decide)).symm)))
    · have e9 : c9 = true := (Bool.of_not_eq_false fun c9 => c1 (b2i_0.mpr c9))
      subst e9
      iterate 2 refine hK _ _ _ _ _ _ (?_ : K _ _ _ _ _ _)
      refine hK _ _ _ _ _ _ (r_last rfl (N := 1) (f := oo) rfl (vp_in_nI (by decide) (by decide)) (?_ : K _ _ _ _ _ _))
      show K _ _ _ (b, LW P2 R2 u v w kb f g e A mk ro nx pi kp km th (vp_updL oo (nI 0).toNatClampNeg (lN 1)) od) _ _
      iterate 2 refine hK _ _ _ _ _ _ (?_ : K _ _ _ _ _ _)
      exact hK _ _ _ _ _ _ (r_iret rfl rfl rfl rfl (hQ _ _ _ _ _ _ _ _ ((up0 _ _).trans (nI_l (n := 1) (by decide)).symm)))
end OK
