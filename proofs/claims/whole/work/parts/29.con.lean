/-! what the class makes: closed sets, and what the theorem tells of them -/
section Con
theorem tip_part {s : Nat → Bool} {c f g j : Nat} (hs : Shp s) (hc : c < 7) (hg : g < 128) (h1 : j < 128) (h2 : hat s j = true) (h3 : f = j ||| 2 ^ c) (hp : isP g f = true) : hat s g = true ∨ ∃ j, j < 128 ∧ hat s j = true ∧ g = j ||| 2 ^ c := by
  obtain ⟨q1, q2, q3, q4⟩ := sub_bit hg hc
  have hj : isP (bic g (2 ^ c)) j = true := isP_iff.mpr fun i hi => by
    have h5 := isP_iff.mp hp i (isP_iff.mp q2 i hi)
    rw [h3, Nat.testBit_or, Bool.or_eq_true, Nat.testBit_two_pow, decide_eq_true_eq] at h5
    rcases h5 with h5 | h5
    · exact h5
    · subst h5; rw [q3] at hi; cases hi
  have h6 := hat_P hs h1 hj h2
  cases hb : g.testBit c with
  | true => exact Or.inr ⟨_, q1, h6, (q4 hb).symm⟩
  | false =>
    have e : bic g (2 ^ c) = g := isP_a q2 (isP_iff.mpr fun i hi => by
      rw [bic_bit hg, hi, Nat.testBit_two_pow]
      by_cases e : c = i
      · subst e; rw [hb] at hi; cases hi
      · rw [decide_eq_false e]; rfl)
    rw [e] at h6
    exact Or.inl h6
theorem lift_hat {s : Nat → Bool} {c e i : Nat} (hi : i ≠ 0) : liftS s c e i = true ↔ hat s i = true ∨ (∃ j, j < 128 ∧ hat s j = true ∧ i = j ||| c) ∨ ∃ j, j < 128 ∧ hat s j = true ∧ i = j ||| e := by
  unfold liftS
  rw [sF_mem]
  show ((coneS s c i || i == e) = true ∨ _) ↔ _
  rw [Bool.or_eq_true, beq_iff_eq, cone_hat hi]
  constructor
  · rintro (((h | h) | h) | ⟨j, h1, h2, h3, h4⟩)
    · exact Or.inl h
    · exact Or.inr (Or.inl h)
    · exact Or.inr (Or.inr ⟨0, by decide, rfl, by rw [h, Nat.zero_or]⟩)
    · exact Or.inr (Or.inr ⟨j, h2, by unfold hat; rw [h3, Bool.or_true], h4.symm⟩)
  · rintro (h | h | ⟨j, h1, h2, h3⟩)
    · exact Or.inl (Or.inl (Or.inl h))
    · exact Or.inl (Or.inl (Or.inr h))
    · by_cases e0 : j = 0
      · subst e0; rw [Nat.zero_or] at h3; exact Or.inl (Or.inr h3)
      · unfold hat at h2
        rw [beq_eq_false_iff_ne.mpr e0] at h2
        exact Or.inr ⟨j, by omega, h1, h2, h3.symm⟩
theorem lift_0 {s : Nat → Bool} {c e : Nat} (hs : Shp s) : liftS s (2 ^ c) (2 ^ e) 0 = false := by
  rw [Bool.eq_false_iff]
  unfold liftS
  intro h
  rcases sF_mem.mp h with h | ⟨j, -, -, -, h⟩
  · have h : (coneS s (2 ^ c) 0 || 0 == 2 ^ e) = true := h
    rw [Bool.or_eq_true, beq_iff_eq] at h
    rcases h with h | h
    · rcases cone_mem.mp h with h | h | ⟨j, -, -, -, h⟩
      · rw [hs.1] at h; cases h
      · exact pw_0 c h.symm
      · exact pw_0 c (or_0 h)
    · exact pw_0 e h.symm
  · exact pw_0 e (or_0 h)
theorem lift_S {s : Nat → Bool} {c e : Nat} (hs : Shp s) (hc : c < 7) (he : e < 7) : Shp (liftS s (2 ^ c) (2 ^ e)) := by
  refine Shp_of (lift_0 hs) fun f hf hf0 hx g hg0 hgf hp => ?_
  have hg : g < 128 := by omega
  rw [lift_hat hf0] at hx
  rw [lift_hat hg0]
  rcases hx with hx | ⟨j, h1, h2, h3⟩ | ⟨j, h1, h2, h3⟩
  · exact Or.inl (hat_P hs hf hp hx)
  · exact (tip_part hs hc hg h1 h2 h3 hp).imp id Or.inl
  · exact (tip_part hs he hg h1 h2 h3 hp).imp id Or.inr
theorem no_bit {s : Nat → Bool} (hs : Shp s) {a : Nat} (ha : a < 7) (h : s (2 ^ a) = false) : ∀ f, f < 128 → hat s f = true → f.testBit a = false := fun f hf hx => by
  cases hb : f.testBit a with
  | false => rfl
  | true =>
    have h1 := hat_P hs hf (isP_pw hb) hx
    rw [hat_s s _ (pw_128 a ha) (pw_0 a), h] at h1; cases h1
theorem ct_ne {A : Nat → Bool} {i : Nat} (hi : i < 128) (h : A i = true) : fb_ct A 128 ≠ 0 := fun e => by rw [fb_ct_zero.mp e i hi] at h; cases h
theorem lift_hol {s : Nat → Bool} {a b : Nat} (hs : Shp s) (ha : a < 7) (hb : b < 7) (hab : a ≠ b) (hsa : s (2 ^ a) = false) (hsb : s (2 ^ b) = false) (t : Nat) : hol (liftS s (2 ^ a) (2 ^ b)) t = hX (hat s) t := by
  have h1 : liftS s (2 ^ a) (2 ^ b) (2 ^ a) = true := (lift_hat (pw_0 a)).mpr (Or.inr (Or.inl ⟨0, by decide, rfl, by rw [Nat.zero_or]⟩))
  unfold hol
  rw [if_neg (ct_ne (pw_128 a ha) h1)]
  refine lift_h hs.2 ha hb hab (no_bit hs ha hsa) (no_bit hs hb hsb) (fun f hf => ?_) t
  by_cases e : f = 0
  · subst e; exact ⟨fun _ => Or.inl rfl, fun _ => rfl⟩
  · rw [hat_s _ f hf e]; exact lift_hat e
theorem nz0 : nZ 0 = nI 0 := rfl
theorem lift_at {s : Nat → Bool} {a b : Nat} {f g : Nat → Int32} (hs : Shp s) (hne : fb_ct s 128 ≠ 0) (ha : a < 7) (hb : b < 7) (hab : a ≠ b) (hsa : s (2 ^ a) = false) (hsb : s (2 ^ b) = false)
    (hf : ∀ j, j < 7 → f j = nZ (hol s j)) (hg : ∀ j, j < 7 → g j = nZ (hol (liftS s (2 ^ a) (2 ^ b)) j)) : ∀ k, k ≤ 7 → hAt g (nI k) = hAt f (nI k - nI 1) := by
  obtain ⟨c, hc, hsc⟩ := Shp_cor hs hne
  have hh : ∀ t, hX (hat s) (t + 1) = hol s t := fun t => by unfold hol; rw [if_neg hne]
  intro k hk
  match k, hk with
  | 0, _ => rw [hAt_in g (by decide), hg 0 (by decide), lift_hol hs ha hb hab hsa hsb, hX_0 (hat_0 s) hc (hat_c hc hsc), hAt_n]; rfl
  | k + 1, hk =>
    have e : nI (k + 1) - nI 1 = nI k := nI_pred k
    rw [e, hAt_in f (by omega), hf k (by omega)]
    by_cases h7 : k + 1 < 7
    · rw [hAt_in g h7, hg _ h7, lift_hol hs ha hb hab hsa hsb, hh]
    · have hk6 : k = 6 := by omega
      subst hk6
      rw [hAt_7, ← hh]
      have h0 : fX (hat s) 7 = 0 := fb_ct_zero.mpr fun f hf => by
        rw [Bool.eq_false_iff]
        intro hp
        obtain ⟨p1, p2⟩ := px_1.mp hp
        have h1 := no_bit hs ha hsa f hf p1
        rw [pc_127 f hf p2] at h1
        have := Nat.testBit_two_pow_sub_one 7 a
        rw [show (2 : Nat) ^ 7 - 1 = 127 from rfl] at this
        rw [this] at h1; simp at h1; omega
      have h2 := rX_le hs.2 7
      have h3 : hX (hat s) 7 = 0 := by unfold hX; omega
      show nI 0 = nZ (hX (hat s) 7)
      rw [h3]; rfl
-- touching
theorem fb_uniq {p : Nat → Bool} {n i j : Nat} (h : fb_ct p n = 1) (hi : i < n) (hj : j < n) (hpi : p i = true) (hpj : p j = true) : j = i := by
  have h1 := fb_ct_upd p false hi
  rw [hpi, h] at h1
  simp only [if_true, Bool.false_eq_true, if_false, Nat.add_zero] at h1
  have h2 := fb_ct_zero.mp (show fb_ct (fun k => if k = i then false else p k) n = 0 by omega) j hj
  by_cases e : j = i
  · exact e
  · rw [if_neg e, hpj] at h2; cases h2
theorem or_S {s t : Nat → Bool} (hs : Shp s) (ht : Shp t) : Shp (fun i => s i || t i) := Shp_of (by rw [hs.1, ht.1]; rfl) fun f hf _ hx g hg0 _ hp => by
  rw [Bool.or_eq_true] at hx ⊢
  exact hx.imp (Shp_P hs hg0 hf hp) (Shp_P ht hg0 hf hp)
theorem and_S {s t : Nat → Bool} (hs : Shp s) (ht : Shp t) : Shp (fun i => s i && t i) := Shp_of (by rw [hs.1]; rfl) fun f hf _ hx g hg0 _ hp => by
  rw [Bool.and_eq_true] at hx ⊢
  exact ⟨Shp_P hs hg0 hf hp hx.1, Shp_P ht hg0 hf hp hx.2⟩
theorem tou_ok {s t : Nat → Bool} (hs : Shp s) (ht : Shp t) (h : fb_ct (fun i => s i && t i) 128 = 1) (k : Nat) : hol (fun i => s i || t i) k = hol s k + hol t k := by
  obtain ⟨c, hc, hsc⟩ := Shp_cor (and_S hs ht) (by omega)
  have hsc : (s (2 ^ c) && t (2 ^ c)) = true := hsc
  rw [Bool.and_eq_true] at hsc
  unfold hol
  rw [if_neg (ct_ne (pw_128 c hc) hsc.1), if_neg (ct_ne (pw_128 c hc) hsc.2), if_neg (ct_ne (A := fun i => s i || t i) (pw_128 c hc) (by show (s (2 ^ c) || t (2 ^ c)) = true; rw [hsc.1]; rfl))]
  refine touch_h hs.2 ht.2 hc (hat_c hc hsc.1) (hat_c hc hsc.2) (fun f hf h1 h2 => ?_) (fun f hf => ?_) k
  · by_cases e : f = 0
    · exact Or.inl e
    · rw [hat_s _ f hf e] at h1 h2
      exact Or.inr (fb_uniq h (pw_128 c hc) hf (by show (s (2 ^ c) && t (2 ^ c)) = true; rw [hsc.1, hsc.2]; rfl) (by show (s f && t f) = true; rw [h1, h2]; rfl))
  · unfold hat
    cases (f == 0) <;> rfl
theorem sums_ok (s t : Nat → Bool) (k : Nat) : cnt (fun i => s i && t i) k + cnt (fun i => s i || t i) k = cnt s k + cnt t k := by
  have h := fb_incl (fun i => decide (0 < i) && (decide (ht i = k) && s i)) (fun i => decide (0 < i) && (decide (ht i = k) && t i)) 128
  have e1 : cnt (fun i => s i || t i) k = fb_ct (fun i => (decide (0 < i) && (decide (ht i = k) && s i)) || (decide (0 < i) && (decide (ht i = k) && t i))) 128 := fb_ct_cong fun i _ => by
    dsimp only
    cases decide (0 < i) <;> cases decide (ht i = k) <;> rfl
  have e2 : cnt (fun i => s i && t i) k = fb_ct (fun i => (decide (0 < i) && (decide (ht i = k) && s i)) && (decide (0 < i) && (decide (ht i = k) && t i))) 128 := fb_ct_cong fun i _ => by
    dsimp only
    cases decide (0 < i) <;> cases decide (ht i = k) <;> rfl
  rw [e1, e2, Nat.add_comm]
  exact h
-- folding
theorem del_at {s : Nat → Bool} {f i : Nat} : sDel s f i = (s i && !(i == f)) := rfl
theorem hat_del {s : Nat → Bool} {f : Nat} (hf : f ≠ 0) (i : Nat) : hat (sDel s f) i = outX (hat s) f i := by
  unfold hat outX sDel
  dsimp only
  by_cases e : i = 0
  · subst e; rw [beq_self_eq_true, beq_eq_false_iff_ne.mpr (fun e => hf e.symm)]; rfl
  · rw [beq_eq_false_iff_ne.mpr e]; rfl
theorem fold_ex {s : Nat → Bool} {f : Nat} (h : fb_ct (ovP s f) 128 = 1) : ∃ g, ff (ovP s f) 128 = g ∧ f < g ∧ g < 128 ∧ isP f g = true ∧ s g = true ∧ ∀ e, e < 128 → s e = true → isP f e = true → e = f ∨ e = g := by
  obtain ⟨i, h1, h2⟩ := fb_ct_pos.mp (show 0 < fb_ct (ovP s f) 128 by omega)
  have h3 := h2
  rw [Bool.and_eq_true, Bool.and_eq_true, decide_eq_true_eq] at h3
  obtain ⟨h4, h5⟩ := ff_lt (ff_ex (show 0 < i by omega) h1 h2)
  have h6 := h5
  rw [Bool.and_eq_true, Bool.and_eq_true, decide_eq_true_eq] at h6
  refine ⟨_, rfl, h6.1, h4, h6.2.1, h6.2.2, fun e he hse hpe => ?_⟩
  by_cases e1 : e = f
  · exact Or.inl e1
  · have hlt := isP_le hpe
    refine Or.inr (fb_uniq h h4 he h5 ?_)
    show (decide (f < e) && (isP f e && s e)) = true
    rw [hpe, hse, decide_eq_true (by omega)]; rfl
theorem fold_S {s : Nat → Bool} {f g : Nat} (hs : Shp s) (hf0 : f ≠ 0) (hfg : isP f g = true) (hone : ∀ e, e < 128 → s e = true → isP f e = true → e = f ∨ e = g) : Shp (sDel (sDel s g) f) := by
  refine Shp_of (by unfold sDel; rw [hs.1]; rfl) fun x hx _ hsx y hy0 _ hp => ?_
  unfold sDel at hsx ⊢
  rw [Bool.and_eq_true, Bool.and_eq_true, Bool.not_eq_true', beq_eq_false_iff_ne, Bool.not_eq_true', beq_eq_false_iff_ne] at hsx ⊢
  obtain ⟨⟨h1, h2⟩, h3⟩ := hsx
  refine ⟨⟨Shp_P hs hy0 hx hp h1, fun e => ?_⟩, fun e => ?_⟩
  · subst e
    rcases hone x hx h1 (isP_t hfg hp) with e | e
    · exact h3 e
    · exact h2 e
  · subst e
    rcases hone x hx h1 hp with e | e
    · exact h3 e
    · exact h2 e
theorem fold_ok {s : Nat → Bool} {f g : Nat} (hs : Shp s) (hf : f < 128) (hf0 : f ≠ 0) (hsf : s f = true) (hg : g < 128) (hlt : f < g) (hfg : isP f g = true) (hsg : s g = true) (hone : ∀ e, e < 128 → s e = true → isP f e = true → e = f ∨ e = g) (t : Nat) : hol (sDel (sDel s g) f) t = hol s t := by
  have hg0 : g ≠ 0 := by omega
  have hX1 : hat s f = true := by rw [hat_s s f hf hf0]; exact hsf
  have hX2 : hat s g = true := by rw [hat_s s g hg hg0]; exact hsg
  have hone2 : ∀ e, e < 128 → hat s e = true → isP f e = true → e = f ∨ e = g := fun e he h1 h2 => by
    have := isP_le h2
    rw [hat_s s e he (by omega)] at h1
    exact hone e he h1 h2
  have hup := fold_up hs.2 hf hg hX2 hfg (by omega) hone2
  have h1 := fold_h hs.2 hf hg hX1 hX2 hfg (by omega) hone2 (t + 1)
  -- a corner of g that isn't one of f
  obtain ⟨k, hk, hk1, hk2⟩ : ∃ k, k < 7 ∧ g.testBit k = true ∧ f.testBit k = false := by
    refine Classical.byContradiction fun hc => ?_
    have : isP g f = true := isP_iff.mpr fun i hi => by
      cases hb : f.testBit i with
      | true => rfl
      | false => exact absurd ⟨i, bit_7 hg hi, hi, hb⟩ hc
    have := isP_le this
    omega
  have hA : sDel (sDel s g) f (2 ^ k) = true := by
    unfold sDel
    have e1 : 2 ^ k ≠ f := fun e => by rw [← e, Nat.testBit_two_pow_self] at hk2; cases hk2
    have e2 : 2 ^ k ≠ g := fun e => by
      rw [← e, pc_pw k hk] at hup
      exact hf0 (pc_z f hf (by omega))
    rw [Shp_P hs (pw_0 k) hg (isP_pw hk1) hsg, beq_eq_false_iff_ne.mpr e1, beq_eq_false_iff_ne.mpr e2]; rfl
  unfold hol
  rw [if_neg (ct_ne (pw_128 k hk) hA), if_neg (ct_ne hf hsf), ← h1]
  refine hX_cg (fun i _ => ?_) (t + 1)
  rw [hat_del hf0]
  unfold outX
  rw [hat_del hg0]
  rfl
-- taking out
theorem take_S {s : Nat → Bool} {f : Nat} (hs : Shp s) (h : fb_ct (ovP s f) 128 = 0) : Shp (sDel s f) := by
  refine Shp_of (by unfold sDel; rw [hs.1]; rfl) fun x hx _ hsx y hy0 _ hp => ?_
  unfold sDel at hsx ⊢
  rw [Bool.and_eq_true, Bool.not_eq_true', beq_eq_false_iff_ne] at hsx ⊢
  refine ⟨Shp_P hs hy0 hx hp hsx.1, fun e => ?_⟩
  subst e
  have h1 := fb_ct_zero.mp h x hx
  have := isP_le hp
  have hne := hsx.2
  have h1 : (decide (y < x) && (isP y x && s x)) = false := h1
  rw [hp, hsx.1, decide_eq_true (by omega)] at h1
  cases h1
theorem take_ok {s : Nat → Bool} {f : Nat} (hs : Shp s) (hf : f < 128) (hf0 : f ≠ 0) (hsf : s f = true) (h : fb_ct (ovP s f) 128 = 0) (h1 : fb_ct s 128 ≠ 1) :
    (∀ t, hol (sDel s f) t = hol s t + (if t = ht f then -1 else 0)) ∨ (1 ≤ ht f ∧ ∀ t, hol (sDel s f) t = hol s t + (if t + 1 = ht f then 1 else 0)) := by
  have hA := take_S hs h
  have hne : fb_ct (sDel s f) 128 ≠ 0 := fun e => by
    have h2 := fb_ct_upd s false hf
    rw [hsf] at h2
    simp only [if_true, Bool.false_eq_true, if_false, Nat.add_zero] at h2
    have h3 : fb_ct (fun k => if k = f then false else s k) 128 = fb_ct (sDel s f) 128 := fb_ct_cong fun k _ => by
      unfold sDel
      by_cases e : k = f
      · subst e; rw [if_pos rfl, beq_self_eq_true]; simp
      · rw [if_neg e, beq_eq_false_iff_ne.mpr e]; simp
    omega
  obtain ⟨c, hc, hsc⟩ := Shp_cor hA hne
  have hsc : (s (2 ^ c) && !(2 ^ c == f)) = true := hsc
  rw [Bool.and_eq_true, Bool.not_eq_true', beq_eq_false_iff_ne] at hsc
  have hX1 : hat s f = true := by rw [hat_s s f hf hf0]; exact hsf
  have eh : ∀ t, hol (sDel s f) t = hX (outX (hat s) f) (t + 1) := fun t => by
    unfold hol
    rw [if_neg hne]
    exact hX_cg (fun i _ => hat_del hf0 i) (t + 1)
  have es : ∀ t, hol s t = hX (hat s) (t + 1) := fun t => by unfold hol; rw [if_neg (ct_ne hf hsf)]
  have hpc := pc_pos f hf hf0
  rcases take_h hf hf0 hX1 hc hsc.2 (hat_c hc hsc.1) with h2 | ⟨h2, h3⟩
  · left
    intro t
    rw [eh, es, h2]
    by_cases e : t = ht f
    · rw [if_pos e, if_pos (by unfold ht at e; omega)]
    · rw [if_neg e, if_neg (fun h => e (by unfold ht; omega))]
  · right
    refine ⟨by unfold ht; omega, fun t => ?_⟩
    rw [eh, es, h3]
    by_cases e : t + 1 = ht f
    · rw [if_pos e, if_pos (by unfold ht at e; omega)]
    · rw [if_neg e, if_neg (fun h => e (by unfold ht; omega))]
-- the other shape
def otS (s : Nat → Bool) (c : Nat) : Nat → Bool := sFold no9 (fun i => isP i c && !s (c ^^^ i)) (fun i => i) c
theorem ot_at (s : Nat → Bool) (c i : Nat) : otS s c i = (decide (0 < i) && (decide (i < c) && (isP i c && !s (c ^^^ i)))) := sF_id
theorem xor_n0 {c i : Nat} (h : i ≠ c) : c ^^^ i ≠ 0 := fun e => h (xor_0 e).symm
theorem co_P {c f g : Nat} (h : isP g f = true) : isP (c ^^^ f) (c ^^^ g) = true ∨ ¬ isP f c = true := by
  by_cases hf : isP f c = true
  · left
    refine isP_iff.mpr fun i hi => ?_
    rw [Nat.testBit_xor] at hi ⊢
    cases hc : c.testBit i with
    | true =>
      rw [hc] at hi
      cases hg : g.testBit i with
      | false => rfl
      | true => rw [isP_iff.mp h i hg] at hi; cases hi
    | false =>
      rw [hc, Bool.false_xor] at hi
      rw [isP_iff.mp hf i hi] at hc; cases hc
  · exact Or.inr hf
theorem ot_S {s : Nat → Bool} {c : Nat} (hs : Shp s) (hc : c < 128) : Shp (otS s c) := by
  refine Shp_of (by rw [ot_at]; rfl) fun f hf hf0 hx g hg0 hgf hp => ?_
  rw [ot_at, Bool.and_eq_true, Bool.and_eq_true, Bool.and_eq_true, decide_eq_true_eq, decide_eq_true_eq, Bool.not_eq_true'] at hx ⊢
  obtain ⟨h1, h2, h3, h4⟩ := hx
  refine ⟨by omega, by omega, isP_t hp h3, ?_⟩
  rw [Bool.eq_false_iff]
  intro h5
  rcases co_P (c := c) hp with h6 | h6
  · have h7 := Shp_P hs (xor_n0 (show f ≠ c by omega)) (xor_128 hc (by omega)) h6 h5
    rw [h4] at h7; cases h7
  · exact h6 h3
theorem ot_ot {s : Nat → Bool} {c : Nat} (hs : Shp s) (hc : c < 128) (hsc : ∀ f, f < 128 → s f = true → isP f c = true) (hc0 : s c = false) : sEq (otS (otS s c) c) s = true := by
  refine sEq_iff.mpr fun i hi => ?_
  rw [ot_at, ot_at]
  by_cases hp : 0 < i ∧ i < c ∧ isP i c = true
  · obtain ⟨h1, h2, h3⟩ := hp
    have h4 : isP (c ^^^ i) c = true := xor_isP h3
    have h5 : c ^^^ i ≠ 0 := xor_n0 (by omega)
    have h6 : c ^^^ i ≠ c := fun e => by
      have := xor_xx (M := c) i
      rw [e, Nat.xor_self] at this
      omega
    have h7 := isP_le h4
    rw [decide_eq_true h1, decide_eq_true h2, h3, decide_eq_true (show 0 < c ^^^ i by omega), decide_eq_true (show c ^^^ i < c by omega), h4, xor_xx]
    cases s i <;> rfl
  · have e : s i = false := by
      rw [Bool.eq_false_iff]
      intro h
      have h1 := hsc i hi h
      have h2 := isP_le h1
      refine hp ⟨Nat.pos_of_ne_zero fun e => (by rw [e, hs.1] at h; cases h), Nat.lt_of_le_of_ne h2 fun e => (by rw [e, hc0] at h; cases h), h1⟩
    rw [e, Bool.eq_false_iff]
    intro h
    rw [Bool.and_eq_true, Bool.and_eq_true, Bool.and_eq_true, decide_eq_true_eq, decide_eq_true_eq] at h
    exact hp ⟨h.1, h.2.1, h.2.2.1⟩
theorem ot_dual {s : Nat → Bool} {c : Nat} (hc : c < 128) (hcn : c ≠ 0) (hc0 : s c = false) (i : Nat) (hi : i < 128) : hat (otS s c) i = dualX (hat s) c i := by
  unfold dualX
  by_cases e : i = 0
  · subst e
    rw [Nat.xor_zero, hat_s s c hc hcn, hc0]
    have : isP 0 c = true := isP_iff.mpr fun i hi => by rw [Nat.zero_testBit] at hi; cases hi
    rw [this]; rfl
  · rw [hat_s _ i hi e, ot_at, decide_eq_true (show 0 < i by omega), Bool.true_and]
    by_cases e2 : i = c
    · subst e2
      rw [Nat.xor_self, decide_eq_false (Nat.lt_irrefl i)]
      show false = (isP i i && !true)
      simp
    · rw [hat_s s _ (xor_128 hc hi) (xor_n0 e2)]
      cases hp : isP i c with
      | false => simp
      | true =>
        have := isP_le hp
        rw [decide_eq_true (show i < c by omega)]; rfl
theorem rim_ct : ∀ c, c < 128 → c ≠ 0 → fb_ct (fun i => decide (0 < i) && (decide (i < c) && isP i c)) 128 = 2 ^ pc c - 2 := by decide +kernel
theorem ot_ne {s : Nat → Bool} {c : Nat} (hs : Shp s) (hc : c < 128) (hcn : c ≠ 0) (hsc : ∀ f, f < 128 → s f = true → isP f c = true) (hc0 : s c = false) (h : fb_ct s 128 ≠ 2 ^ pc c - 2) : fb_ct (otS s c) 128 ≠ 0 := fun e => by
  apply h
  rw [← rim_ct c hc hcn]
  refine fb_ct_cong fun i hi => ?_
  by_cases hp : 0 < i ∧ i < c ∧ isP i c = true
  · obtain ⟨h1, h2, h3⟩ := hp
    rw [decide_eq_true h1, decide_eq_true h2, h3]
    have h4 : isP (c ^^^ i) c = true := xor_isP h3
    have h5 : c ^^^ i ≠ 0 := xor_n0 (by omega)
    have h6 : c ^^^ i ≠ c := fun e => by
      have := xor_xx (M := c) i
      rw [e, Nat.xor_self] at this
      omega
    have h7 := isP_le h4
    have h8 := fb_ct_zero.mp e (c ^^^ i) (xor_128 hc hi)
    rw [ot_at, decide_eq_true (show 0 < c ^^^ i by omega), decide_eq_true (show c ^^^ i < c by omega), h4, xor_xx] at h8
    cases hsi : s i with
    | true => rfl
    | false => rw [hsi] at h8; cases h8
  · have e1 : s i = false := by
      rw [Bool.eq_false_iff]
      intro h
      have h1 := hsc i hi h
      have h2 := isP_le h1
      refine hp ⟨Nat.pos_of_ne_zero fun e => (by rw [e, hs.1] at h; cases h), Nat.lt_of_le_of_ne h2 fun e => (by rw [e, hc0] at h; cases h), h1⟩
    have e2 : (decide (0 < i) && (decide (i < c) && isP i c)) = false := by
      rw [Bool.eq_false_iff]
      intro h
      rw [Bool.and_eq_true, Bool.and_eq_true, decide_eq_true_eq, decide_eq_true_eq] at h
      exact hp ⟨h.1, h.2.1, h.2.2⟩
    rw [e1, e2]
theorem pc_sub : ∀ c, c < 128 → ∀ f, f < 128 → isP f c = true → pc c ≤ pc f → f = c := by decide +kernel
theorem hX_top {X : Nat → Bool} {M n : Nat} (hX1 : Cx X) (hM : M < 128) (hXM : ∀ f, f < 128 → X f = true → isP f M = true) (h0 : X M = false) (hn : pc M ≤ n) : hX X n = 0 := by
  have h1 : fX X n = 0 := fb_ct_zero.mpr fun f hf => by
    rw [Bool.eq_false_iff]
    intro hp
    obtain ⟨p1, p2⟩ := px_1.mp hp
    rw [pc_sub M hM f hf (hXM f hf p1) (by omega), h0] at p1; cases p1
  have h2 := rX_le hX1 n
  unfold hX
  omega
theorem ot_hol {s : Nat → Bool} {c : Nat} (hs : Shp s) (hc : c < 128) (hc2 : 2 ≤ pc c) (hsc : ∀ f, f < 128 → s f = true → isP f c = true) (hc0 : s c = false) (hne : fb_ct s 128 ≠ 0) (hne2 : fb_ct (otS s c) 128 ≠ 0) :
    (∀ k, k + 3 ≤ pc c → hol s k = hol (otS s c) (pc c - 3 - k)) ∧ (∀ k, pc c < k + 3 → hol s k = 0 ∧ hol (otS s c) k = 0) := by
  have hcn : c ≠ 0 := fun e => by rw [e, pc_00] at hc2; omega
  have hXM : ∀ f, f < 128 → hat s f = true → isP f c = true := fun f hf h => by
    by_cases e : f = 0
    · subst e; exact isP_iff.mpr fun i hi => by rw [Nat.zero_testBit] at hi; cases hi
    · rw [hat_s s f hf e] at h; exact hsc f hf h
  have hOS := ot_S hs hc
  have hOM : ∀ f, f < 128 → hat (otS s c) f = true → isP f c = true := fun f hf h => by
    by_cases e : f = 0
    · subst e; exact isP_iff.mpr fun i hi => by rw [Nat.zero_testBit] at hi; cases hi
    · rw [hat_s _ f hf e, ot_at, Bool.and_eq_true, Bool.and_eq_true, Bool.and_eq_true] at h; exact h.2.2.1
  have hd : ∀ n, hX (dualX (hat s) c) n = hX (hat (otS s c)) n := fun n => hX_cg (fun i hi => (ot_dual hc hcn hc0 i hi).symm) n
  have es : ∀ t, hol s t = hX (hat s) (t + 1) := fun t => by unfold hol; rw [if_neg hne]
  have eo : ∀ t, hol (otS s c) t = hX (hat (otS s c)) (t + 1) := fun t => by unfold hol; rw [if_neg hne2]
  have hdu : ∀ k, k + 1 ≤ pc c → hX (hat (otS s c)) (pc c - 1 - k) = hX (hat s) k := fun k hk => by rw [← hd]; exact dual_h hs.2 hc hcn hXM hk
  obtain ⟨x, hx, hsx⟩ := Shp_cor hs hne
  obtain ⟨y, hy, hsy⟩ := Shp_cor hOS hne2
  have z1 := hX_0 (hat_0 s) hx (hat_c hx hsx)
  have z2 := hX_0 (hat_0 (otS s c)) hy (hat_c hy hsy)
  refine ⟨fun k hk => ?_, fun k hk => ?_⟩
  · rw [es, eo, ← hdu (k + 1) (by omega)]
    congr 1; omega
  · by_cases h1 : k + 2 = pc c
    · constructor
      · rw [es, ← hdu (k + 1) (by omega), show pc c - 1 - (k + 1) = 0 by omega]; exact z2
      · have h2 := hdu 0 (by omega)
        rw [eo, show k + 1 = pc c - 1 - 0 by omega, h2]; exact z1
    · constructor
      · rw [es]; exact hX_top hs.2 hc hXM (by rw [hat_s s c hc hcn]; exact hc0) (by omega)
      · rw [eo]
        refine hX_top hOS.2 hc hOM ?_ (by omega)
        rw [hat_s _ c hc hcn, ot_at, decide_eq_false (Nat.lt_irrefl c)]; simp
-- exchanging
def xcS (s : Nat → Bool) (a b : Nat) : Nat → Bool := sFold no9 s (fun i => exch i a b) 128
theorem exch_0 : ∀ a, a < 7 → ∀ b, b < 7 → exch 0 a b = 0 := by decide +kernel
theorem ex_at {s : Nat → Bool} {a b i : Nat} (hs : s 0 = false) (ha : a < 7) (hb : b < 7) (hi : i < 128) : xcS s a b i = s (exch i a b) := by
  have he : ∀ i, i < 128 → exch i a b < 128 ∧ exch (exch i a b) a b = i := exch_inv a ha b hb
  rw [Bool.eq_iff_iff]
  unfold xcS
  rw [sF_mem]
  constructor
  · rintro (h | ⟨j, h1, h2, h3, h4⟩)
    · cases h
    · have h5 : exch (exch j a b) a b = j := (he j h2).2
      have h4 : exch j a b = i := h4
      rw [← h4, h5]; exact h3
  · intro h
    obtain ⟨h1, h2⟩ := he i hi
    exact Or.inr ⟨exch i a b, Nat.pos_of_ne_zero fun e => (by rw [e, hs] at h; cases h), h1, h, h2⟩
theorem ex_S {s : Nat → Bool} {a b : Nat} (hs : Shp s) (ha : a < 7) (hb : b < 7) : Shp (xcS s a b) := by
  have he : ∀ i, i < 128 → exch i a b < 128 ∧ exch (exch i a b) a b = i := exch_inv a ha b hb
  refine Shp_of (by rw [ex_at hs.1 ha hb (by decide), exch_0 a ha b hb]; exact hs.1) fun f hf hf0 hx g hg0 hgf hp => ?_
  have hg : g < 128 := by omega
  rw [ex_at hs.1 ha hb hf] at hx
  rw [ex_at hs.1 ha hb hg]
  refine Shp_P hs (fun e => hg0 ?_) (he f hf).1 ?_ hx
  · have h1 : exch (exch g a b) a b = g := (he g hg).2
    rw [← h1, e, exch_0 a ha b hb]
  · show isP (exch g a b) (exch f a b) = true
    rw [exch_isP ha hb hg (he f hf).1, (he f hf).2]; exact hp
theorem ex_hat {s : Nat → Bool} {a b : Nat} (hs : s 0 = false) (ha : a < 7) (hb : b < 7) : ∀ i, i < 128 → hat (xcS s a b) i = hat s (exch i a b) := fun i hi => by
  have he : ∀ i, i < 128 → exch i a b < 128 ∧ exch (exch i a b) a b = i := exch_inv a ha b hb
  by_cases e : i = 0
  · subst e; rw [exch_0 a ha b hb]; rfl
  · have h1 : exch i a b ≠ 0 := fun e2 => e (by
      have h2 : exch (exch i a b) a b = i := (he i hi).2
      rw [← h2, e2, exch_0 a ha b hb])
    rw [hat_s _ i hi e, hat_s s _ (he i hi).1 h1, ex_at hs ha hb hi]
theorem ex_cnt {s : Nat → Bool} {a b : Nat} (hs : Shp s) (ha : a < 7) (hb : b < 7) (t : Nat) : cnt (xcS s a b) t = cnt s t := by
  rw [cnt_f, cnt_f]; exact exch_f ha hb (ex_hat hs.1 ha hb) (t + 1)
theorem ex_emp {s : Nat → Bool} {a b : Nat} (hs : Shp s) (ha : a < 7) (hb : b < 7) : fb_ct (xcS s a b) 128 = 0 ↔ fb_ct s 128 = 0 := by
  have he : ∀ i, i < 128 → exch i a b < 128 ∧ exch (exch i a b) a b = i := exch_inv a ha b hb
  rw [fb_ct_zero, fb_ct_zero]
  constructor
  · intro h i hi
    have h1 := h _ (he i hi).1
    rw [ex_at hs.1 ha hb (he i hi).1, (he i hi).2] at h1
    exact h1
  · intro h i hi
    rw [ex_at hs.1 ha hb hi]; exact h _ (he i hi).1
theorem ex_hol {s : Nat → Bool} {a b : Nat} (hs : Shp s) (ha : a < 7) (hb : b < 7) (t : Nat) : hol (xcS s a b) t = hol s t := by
  unfold hol
  by_cases h : fb_ct s 128 = 0
  · rw [if_pos h, if_pos ((ex_emp hs ha hb).mpr h)]
  · rw [if_neg h, if_neg (fun e => h ((ex_emp hs ha hb).mp e))]
    exact exch_h ha hb (ex_hat hs.1 ha hb) (t + 1)
theorem ex_npc {s : Nat → Bool} {a b : Nat} (hs : Shp s) (ha : a < 7) (hb : b < 7) : npc (xcS s a b) = npc s := by
  have h1 := npc_1 hs
  have h2 := npc_1 (ex_S hs ha hb)
  have h3 := ex_cnt hs ha hb 0
  have h4 : Rr (xcS s a b) 1 = Rr s 1 := exch_r ha hb (ex_hat hs.1 ha hb) 2
  omega
end Con
