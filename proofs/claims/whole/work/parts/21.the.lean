/-! lifting, touching, folding, taking out, exchanging -/
section The
theorem fX_cg {X Y : Nat → Bool} {n : Nat} (h : ∀ f, f < 128 → px X n f = px Y n f) : fX X n = fX Y n := fb_ct_cong h
theorem fs_cg {p q : Nat → Bool} : ∀ {n : Nat}, (∀ f, f < n → p f = q f) → fs p n = fs q n
  | 0, _ => rfl
  | n + 1, h => by
    unfold fs
    rw [fs_cg (fun f hf => h f (Nat.lt_succ_of_lt hf)), h n (Nat.lt_succ_self n)]
theorem rX_cg {X Y : Nat → Bool} {n : Nat} (h : ∀ f, f < 128 → px X n f = px Y n f) : rX X n = rX Y n := by
  unfold rX bX
  rw [fs_cg h]
theorem hX_cg {X Y : Nat → Bool} (h : ∀ f, f < 128 → X f = Y f) (n : Nat) : hX X n = hX Y n := by
  have e : ∀ m f, f < 128 → px X m f = px Y m f := fun m f hf => by unfold px; rw [h f hf]
  unfold hX
  rw [fX_cg (e n), rX_cg (e n), rX_cg (e (n + 1))]
theorem isP_step : ∀ g, g < 128 → ∀ e, e < 128 → isP e g = true → e = g ∨ ∃ k, k < 7 ∧ g.testBit k = true ∧ isP e (g - 2 ^ k) = true := by decide +kernel
theorem Cx_isP {X : Nat → Bool} (hX : Cx X) {e : Nat} (he : e < 128) : ∀ (j g : Nat), g ≤ j → g < 128 → isP e g = true → X g = true → X e = true
  | 0, g, hj, hg, hp, hx => by
    rcases isP_step g hg e he hp with h | ⟨k, -, h2, -⟩
    · exact h ▸ hx
    · rw [show g = 0 by omega, Nat.zero_testBit] at h2; cases h2
  | j + 1, g, hj, hg, hp, hx => by
    rcases isP_step g hg e he hp with h | ⟨k, h1, h2, h3⟩
    · exact h ▸ hx
    · have h4 : 2 ^ k ≤ g := Nat.le_of_not_lt fun hc => by rw [Nat.testBit_lt_two_pow hc] at h2; cases h2
      have h5 : 0 < 2 ^ k := Nat.two_pow_pos k
      exact Cx_isP hX he j (g - 2 ^ k) (by omega) (by omega) h3 (hX g k hg h1 h2 hx)
theorem Cx_P {X : Nat → Bool} (hX : Cx X) {e g : Nat} (he : e < 128) (hg : g < 128) (hp : isP e g = true) (hx : X g = true) : X e = true := Cx_isP hX he g g (Nat.le_refl g) hg hp hx
theorem sp_0e {L : List Nat} (h : ∀ u ∈ L, u = 0) {v : Nat} (hv : sp L v = true) : v = 0 := eq_of_beq (sp_mono (L' := []) (fun u hu => by rw [h u hu]; rfl) hv)
theorem bd_1 : ∀ f, f < 128 → pc f = 1 → bd f = 1 := by decide +kernel
theorem pc_pw : ∀ c, c < 7 → pc (2 ^ c) = 1 := by decide +kernel
theorem pc_z : ∀ f, f < 128 → pc f = 0 → f = 0 := by decide +kernel
theorem pc_8 : ∀ f, f < 128 → pc f ≤ 7 := by decide +kernel
theorem pc_127 : ∀ f, f < 128 → pc f = 7 → f = 127 := by decide +kernel
theorem rX_1 {X : Nat → Bool} {c : Nat} (hc : c < 7) (h : X (2 ^ c) = true) : rX X 1 = 1 := by
  have h1 : rX X 1 = rk [1] := rk_eq (fun u hu => by
    obtain ⟨f, h1, h2, h3, rfl⟩ := bX_u hu
    rw [bd_1 f h1 h3]; rfl) (fun u hu => by
    rw [List.mem_singleton.mp hu]
    have h2 := bX_m (pw_128 c hc) h (pc_pw c hc)
    rw [bd_1 _ (pw_128 c hc) (pc_pw c hc)] at h2
    exact h2)
  rw [h1]; rfl
theorem rX_0 (X : Nat → Bool) : rX X 0 = 0 := by
  have h1 : rX X 0 ≤ rk [] := rk_le fun u hu => by
    obtain ⟨f, h1, h2, h3, rfl⟩ := bX_u hu
    rw [bd_0 f h1 h3]; rfl
  exact Nat.le_zero.mp h1
theorem fX_9 (X : Nat → Bool) {n : Nat} (h : 7 < n) : fX X n = 0 := fb_ct_zero.mpr fun k hk => by
  have := pc_8 k hk
  unfold px
  rw [show (pc k == n) = false from beq_eq_false_iff_ne.mpr (by omega), Bool.and_false]
theorem rX_8 (X : Nat → Bool) {n : Nat} (h : 7 < n) : rX X n = 0 := by
  have h1 : rX X n ≤ (bX X n).length := rk_len _
  have h2 : fs (px X n) 128 = [] := by
    rw [List.eq_nil_iff_forall_not_mem]
    intro f hf
    obtain ⟨h3, h4⟩ := fs_mem.mp hf
    have := pc_8 f h3
    have := (px_1.mp h4).2
    omega
  unfold bX at h1
  rw [h2] at h1
  exact Nat.le_zero.mp h1
theorem fX_0 {X : Nat → Bool} (h : X 0 = true) : fX X 0 = 1 := by
  have h1 : fX X 0 = fb_ct (fun k => if k = 0 then true else false) 128 := fb_ct_cong fun k hk => by
    unfold px
    by_cases e : k = 0
    · subst e; rw [h]; rfl
    · rw [if_neg e, show (pc k == 0) = false from beq_eq_false_iff_ne.mpr fun e2 => e (pc_z k hk e2), Bool.and_false]
  rw [h1]; decide +kernel
theorem hX_0 {X : Nat → Bool} {c : Nat} (h0 : X 0 = true) (hc : c < 7) (h : X (2 ^ c) = true) : hX X 0 = 0 := by
  unfold hX
  rw [fX_0 h0, rX_0, rX_1 hc h]; rfl
theorem fb_incl (p q : Nat → Bool) : ∀ n, fb_ct (fun k => p k || q k) n + fb_ct (fun k => p k && q k) n = fb_ct p n + fb_ct q n
  | 0 => rfl
  | n + 1 => by
    have ih := fb_incl p q n
    rw [fb_ct_succ, fb_ct_succ, fb_ct_succ, fb_ct_succ]
    cases p n <;> cases q n <;> simp <;> omega
theorem fb_one {c : Nat} : ∀ {n : Nat}, c < n → fb_ct (fun k => k == c) n = 1
  | n + 1, h => by
    rw [fb_ct_succ]
    by_cases e : n = c
    · subst e
      rw [fb_ct_zero.mpr (fun k hk => beq_eq_false_iff_ne.mpr (by omega))]; simp
    · rw [fb_one (by omega)]; simp [e]
-- lifting
def aB2 (a v : Nat) : Nat := mkN (fun g => g.testBit a && v.testBit (g ^^^ 2 ^ a)) 128
theorem aB2_L (a : Nat) : Lmap (aB2 a) := ⟨(mkN_cong fun i _ => by rw [Nat.zero_testBit, Bool.and_false]).trans (mkN_0 128), fun v w => by
  show mkN _ 128 = mkN _ 128 ^^^ mkN _ 128
  rw [mkN_xor]
  exact mkN_cong fun i _ => by rw [Nat.testBit_xor]; cases i.testBit a <;> simp⟩
theorem aB2_e : ∀ a, a < 7 → ∀ f, f < 128 → tA a f = aB2 a (2 ^ f) := by decide +kernel
theorem aB_bit {a v : Nat} (ha : a < 7) (hv : v < 2 ^ 128) (g : Nat) : (aB a v).testBit g = (decide (g < 128) && (g.testBit a && v.testBit (g ^^^ 2 ^ a))) := by
  rw [L_ext (aB_L a) (aB2_L a) hv fun f hf => by rw [aB_e hf]; exact aB2_e a ha f hf]
  exact mkN_bit _ _ _
theorem or_bit {f a : Nat} (h : f.testBit a = false) : f ||| 2 ^ a = f ^^^ 2 ^ a := Nat.eq_of_testBit_eq fun i => by
  rw [Nat.testBit_or, Nat.testBit_xor, Nat.testBit_two_pow]
  by_cases e : a = i
  · subst e; rw [h]; simp
  · rw [decide_eq_false e]; simp
theorem xor_tw (f a : Nat) : f ^^^ a ^^^ a = f := xor_cc f a
section Lift
variable {X Y : Nat → Bool} {a b : Nat}
theorem lift_r (hX : Cx X) (ha : a < 7) (hb : b < 7) (hab : a ≠ b) (hXa : ∀ f, f < 128 → X f = true → f.testBit a = false) (hXb : ∀ f, f < 128 → X f = true → f.testBit b = false)
    (hY : ∀ f, f < 128 → (Y f = true ↔ X f = true ∨ (∃ g, g < 128 ∧ X g = true ∧ f = g ||| 2 ^ a) ∨ ∃ g, g < 128 ∧ X g = true ∧ f = g ||| 2 ^ b)) (n : Nat) : rX Y (n + 1) = fX X n + rX X n := by
  have hT1 : Lmap fun v => v ^^^ aB a (dB v) := L_xor L_id (L_comp (aB_L a) dB_L)
  have hT2 : Lmap fun v => aB a v ^^^ aB b v := L_xor (aB_L a) (aB_L b)
  have tAa : ∀ f, f < 128 → X f = true → tA a f = 2 ^ (f ||| 2 ^ a) := fun f hf hx => by unfold tA; rw [hXa f hf hx]; rfl
  have tAb : ∀ f, f < 128 → X f = true → tA b f = 2 ^ (f ||| 2 ^ b) := fun f hf hx => by unfold tA; rw [hXb f hf hx]; rfl
  have eA : ∀ f, f < 128 → X f = true → bd (f ||| 2 ^ a) = 2 ^ f ^^^ aB a (bd f) := fun f hf hx => by
    have h := hA_f a ha f hf
    rw [tAa f hf hx, dB_e (or_lt hf ha)] at h
    exact xor_ex h
  have eB : ∀ f, f < 128 → X f = true → bd (f ||| 2 ^ b) = 2 ^ f ^^^ aB b (bd f) := fun f hf hx => by
    have h := hA_f b hb f hf
    rw [tAb f hf hx, dB_e (or_lt hf hb)] at h
    exact xor_ex h
  have hYa : ∀ f, f < 128 → X f = true → Y (f ||| 2 ^ a) = true := fun f hf hx => (hY _ (or_lt hf ha)).mpr (Or.inr (Or.inl ⟨f, hf, hx, rfl⟩))
  have hYb : ∀ f, f < 128 → X f = true → Y (f ||| 2 ^ b) = true := fun f hf hx => (hY _ (or_lt hf hb)).mpr (Or.inr (Or.inr ⟨f, hf, hx, rfl⟩))
  -- what a row of X and a tip have in common
  have hpX : ∀ v, sp (cX X n) v = true → pr X (v ^^^ aB a (dB v)) = v := fun v hv => by
    obtain ⟨h1, h2⟩ := cX_sp.mp hv
    refine Nat.eq_of_testBit_eq fun i => ?_
    rw [pr_bit, Nat.testBit_xor, aB_bit ha (dB_lt v)]
    cases hi : v.testBit i with
    | true =>
      have hl := bit_128 h1 hi
      have hx := (h2 i hi).1
      rw [hXa i hl hx, hx, decide_eq_true hl]; rfl
    | false =>
      by_cases hl : i < 128
      · cases hx : X i with
        | false => simp
        | true => rw [hXa i hl hx]; simp
      · rw [decide_eq_false hl]; rfl
  have hp2 : ∀ y, y < 2 ^ 128 → pr X (aB a y ^^^ aB b y) = 0 := fun y hy => by
    refine Nat.eq_of_testBit_eq fun i => ?_
    rw [pr_bit, Nat.testBit_xor, aB_bit ha hy, aB_bit hb hy, Nat.zero_testBit]
    by_cases hl : i < 128
    · cases hx : X i with
      | false => simp
      | true => rw [hXa i hl hx, hXb i hl hx]; simp
    · rw [decide_eq_false hl]; rfl
  have h1 : rX Y (n + 1) = rk ((cX X n).map (fun v => v ^^^ aB a (dB v)) ++ (bX X n).map (fun v => aB a v ^^^ aB b v)) := by
    refine rk_eq (fun u hu => ?_) (fun u hu => ?_)
    · obtain ⟨h, h1, h2, h3, rfl⟩ := bX_u hu
      rcases (hY h h1).mp h2 with hx | ⟨g, hg, hx, rfl⟩ | ⟨g, hg, hx, rfl⟩
      · have h4 := bd_sp hX h1 hx h3
        have h5 := sp_T hT1 h4
        have h5 : sp ((cX X n).map fun v => v ^^^ aB a (dB v)) (bd h ^^^ aB a (dB (bd h))) = true := h5
        rw [dd_f h h1, (aB_L a).1, Nat.xor_zero] at h5
        exact sp_app.mpr ⟨bd h, h5, by rw [Nat.xor_self]; exact sp_0 _⟩
      · have hn : pc g = n := by have := pc_up g hg a ha (hXa g hg hx); omega
        have h5 := sp_T hT1 (cX_m hg hx hn)
        have h5 : sp ((cX X n).map fun v => v ^^^ aB a (dB v)) (2 ^ g ^^^ aB a (dB (2 ^ g))) = true := h5
        rw [dB_e hg] at h5
        rw [eA g hg hx]
        exact sp_app.mpr ⟨_, h5, by rw [Nat.xor_self]; exact sp_0 _⟩
      · have hn : pc g = n := by have := pc_up g hg b hb (hXb g hg hx); omega
        have h5 := sp_T hT1 (cX_m hg hx hn)
        have h5 : sp ((cX X n).map fun v => v ^^^ aB a (dB v)) (2 ^ g ^^^ aB a (dB (2 ^ g))) = true := h5
        rw [dB_e hg] at h5
        have h6 := sp_T hT2 (bX_m hg hx hn)
        have h6 : sp ((bX X n).map fun v => aB a v ^^^ aB b v) (aB a (bd g) ^^^ aB b (bd g)) = true := h6
        rw [eB g hg hx]
        refine sp_app.mpr ⟨_, h5, ?_⟩
        have e : 2 ^ g ^^^ aB b (bd g) ^^^ (2 ^ g ^^^ aB a (bd g)) = aB a (bd g) ^^^ aB b (bd g) := by
          rw [xor4, Nat.xor_self, Nat.zero_xor, Nat.xor_comm]
        rw [e]; exact h6
    · rcases List.mem_append.mp hu with hu | hu
      · obtain ⟨w, hw, rfl⟩ := List.mem_map.mp hu
        obtain ⟨f, h1, h2, h3, rfl⟩ := cX_u hw
        show sp (bX Y (n + 1)) (2 ^ f ^^^ aB a (dB (2 ^ f))) = true
        rw [dB_e h1, ← eA f h1 h2]
        exact bX_m (or_lt h1 ha) (hYa f h1 h2) (by rw [pc_up f h1 a ha (hXa f h1 h2), h3])
      · obtain ⟨w, hw, rfl⟩ := List.mem_map.mp hu
        obtain ⟨f, h1, h2, h3, rfl⟩ := bX_u hw
        have e : aB a (bd f) ^^^ aB b (bd f) = bd (f ||| 2 ^ a) ^^^ bd (f ||| 2 ^ b) := by
          rw [eA f h1 h2, eB f h1 h2, xor4, Nat.xor_self, Nat.zero_xor]
        show sp (bX Y (n + 1)) (aB a (bd f) ^^^ aB b (bd f)) = true
        rw [e]
        exact sp_x (bX_m (or_lt h1 ha) (hYa f h1 h2) (by rw [pc_up f h1 a ha (hXa f h1 h2), h3])) (bX_m (or_lt h1 hb) (hYb f h1 h2) (by rw [pc_up f h1 b hb (hXb f h1 h2), h3]))
  rw [h1, rk_app]
  · congr 1
    · rw [rk_inj hT1, cX_rk]
      intro v hv h0
      have h0 : v ^^^ aB a (dB v) = 0 := h0
      have := hpX v hv
      rw [h0, (pr_L X).1] at this
      exact this.symm
    · refine rk_inj hT2 fun y hy h0 => ?_
      have hy128 := bX_lt hy
      have h0 : aB a y ^^^ aB b y = 0 := h0
      refine Nat.eq_of_testBit_eq fun i => ?_
      rw [Nat.zero_testBit]
      cases hi : y.testBit i with
      | false => rfl
      | true =>
        have hl := bit_128 hy128 hi
        -- i lies in X
        have hin : X i = true := by
          cases n with
          | zero =>
            have h9 : y = 0 := sp_0e (fun u hu => by
              obtain ⟨f, g1, g2, g3, rfl⟩ := bX_u hu
              exact bd_0 f g1 g3) hy
            rw [h9, Nat.zero_testBit] at hi; cases hi
          | succ n => exact ((cX_sp.mp (sp_mono (fun u hu => bX_in hX hu) hy)).2 i hi).1
        have g1 := hXa i hl hin
        have g2 := hXb i hl hin
        have h3 := congrArg (fun x => Nat.testBit x (i ||| 2 ^ a)) h0
        have e1 : (i ||| 2 ^ a).testBit a = true := by rw [Nat.testBit_or, Nat.testBit_two_pow_self, Bool.or_true]
        have e2 : (i ||| 2 ^ a).testBit b = false := by rw [Nat.testBit_or, g2, Nat.testBit_two_pow, decide_eq_false hab]; rfl
        have e3 : (i ||| 2 ^ a) ^^^ 2 ^ a = i := by rw [or_bit g1, xor_cc]
        simp only [Nat.testBit_xor (aB a y), aB_bit ha hy128, aB_bit hb hy128, decide_eq_true (or_lt hl ha), e1, e2, e3, hi, Nat.zero_testBit] at h3
        cases h3
  · intro v h2 h3
    obtain ⟨x, hx, rfl⟩ := sp_Tinv hT1 h2
    obtain ⟨y, hy, hxy⟩ := sp_Tinv hT2 h3
    have hxy : aB a y ^^^ aB b y = x ^^^ aB a (dB x) := hxy
    have h4 := hpX x hx
    rw [← hxy, hp2 y (bX_lt hy)] at h4
    rw [← h4]; exact hT1.1
theorem lift_f (hX : Cx X) (ha : a < 7) (hb : b < 7) (hab : a ≠ b) (hXa : ∀ f, f < 128 → X f = true → f.testBit a = false) (hXb : ∀ f, f < 128 → X f = true → f.testBit b = false)
    (hY : ∀ f, f < 128 → (Y f = true ↔ X f = true ∨ (∃ g, g < 128 ∧ X g = true ∧ f = g ||| 2 ^ a) ∨ ∃ g, g < 128 ∧ X g = true ∧ f = g ||| 2 ^ b)) (n : Nat) : fX Y (n + 1) = fX X (n + 1) + (fX X n + fX X n) := by
  have tAa : ∀ f, f < 128 → X f = true → aB a (2 ^ f) = 2 ^ (f ||| 2 ^ a) := fun f hf hx => by rw [aB_e hf]; unfold tA; rw [hXa f hf hx]; rfl
  have tAb : ∀ f, f < 128 → X f = true → aB b (2 ^ f) = 2 ^ (f ||| 2 ^ b) := fun f hf hx => by rw [aB_e hf]; unfold tA; rw [hXb f hf hx]; rfl
  rw [← cX_rk, ← cX_rk, ← cX_rk]
  have h1 : rk (cX Y (n + 1)) = rk (cX X (n + 1) ++ ((cX X n).map (aB a) ++ (cX X n).map (aB b))) := by
    refine rk_eq (fun u hu => ?_) (fun u hu => ?_)
    · obtain ⟨h, h1, h2, h3, rfl⟩ := cX_u hu
      rcases (hY h h1).mp h2 with hx | ⟨g, hg, hx, rfl⟩ | ⟨g, hg, hx, rfl⟩
      · exact sp_m (List.mem_append_left _ (cs_mem.mpr ⟨h, h1, px_1.mpr ⟨hx, h3⟩, rfl⟩))
      · have hn : pc g = n := by have := pc_up g hg a ha (hXa g hg hx); omega
        rw [← tAa g hg hx]
        exact sp_m (List.mem_append_right _ (List.mem_append_left _ (List.mem_map.mpr ⟨2 ^ g, cs_mem.mpr ⟨g, hg, px_1.mpr ⟨hx, hn⟩, rfl⟩, rfl⟩)))
      · have hn : pc g = n := by have := pc_up g hg b hb (hXb g hg hx); omega
        rw [← tAb g hg hx]
        exact sp_m (List.mem_append_right _ (List.mem_append_right _ (List.mem_map.mpr ⟨2 ^ g, cs_mem.mpr ⟨g, hg, px_1.mpr ⟨hx, hn⟩, rfl⟩, rfl⟩)))
    · rcases List.mem_append.mp hu with hu | hu
      · obtain ⟨h, h1, h2, h3, rfl⟩ := cX_u hu
        exact cX_m h1 ((hY h h1).mpr (Or.inl h2)) h3
      · rcases List.mem_append.mp hu with hu | hu
        · obtain ⟨w, hw, rfl⟩ := List.mem_map.mp hu
          obtain ⟨f, h1, h2, h3, rfl⟩ := cX_u hw
          rw [tAa f h1 h2]
          exact cX_m (or_lt h1 ha) ((hY _ (or_lt h1 ha)).mpr (Or.inr (Or.inl ⟨f, h1, h2, rfl⟩))) (by rw [pc_up f h1 a ha (hXa f h1 h2), h3])
        · obtain ⟨w, hw, rfl⟩ := List.mem_map.mp hu
          obtain ⟨f, h1, h2, h3, rfl⟩ := cX_u hw
          rw [tAb f h1 h2]
          exact cX_m (or_lt h1 hb) ((hY _ (or_lt h1 hb)).mpr (Or.inr (Or.inr ⟨f, h1, h2, rfl⟩))) (by rw [pc_up f h1 b hb (hXb f h1 h2), h3])
  have ia : ∀ y, sp (cX X n) y = true → aB a y = 0 → y = 0 := fun y hy h0 => by
    refine Nat.eq_of_testBit_eq fun i => ?_
    rw [Nat.zero_testBit]
    cases hi : y.testBit i with
    | false => rfl
    | true =>
      obtain ⟨q1, q2⟩ := cX_sp.mp hy
      have hl := bit_128 q1 hi
      have h3 := congrArg (fun x => Nat.testBit x (i ||| 2 ^ a)) h0
      have e1 : (i ||| 2 ^ a).testBit a = true := by rw [Nat.testBit_or, Nat.testBit_two_pow_self, Bool.or_true]
      have e3 : (i ||| 2 ^ a) ^^^ 2 ^ a = i := by rw [or_bit (hXa i hl (q2 i hi).1), xor_cc]
      simp only [aB_bit ha q1, decide_eq_true (or_lt hl ha), e1, e3, hi, Nat.zero_testBit] at h3
      cases h3
  have ib : ∀ y, sp (cX X n) y = true → aB b y = 0 → y = 0 := fun y hy h0 => by
    refine Nat.eq_of_testBit_eq fun i => ?_
    rw [Nat.zero_testBit]
    cases hi : y.testBit i with
    | false => rfl
    | true =>
      obtain ⟨q1, q2⟩ := cX_sp.mp hy
      have hl := bit_128 q1 hi
      have h3 := congrArg (fun x => Nat.testBit x (i ||| 2 ^ b)) h0
      have e1 : (i ||| 2 ^ b).testBit b = true := by rw [Nat.testBit_or, Nat.testBit_two_pow_self, Bool.or_true]
      have e3 : (i ||| 2 ^ b) ^^^ 2 ^ b = i := by rw [or_bit (hXb i hl (q2 i hi).1), xor_cc]
      simp only [aB_bit hb q1, decide_eq_true (or_lt hl hb), e1, e3, hi, Nat.zero_testBit] at h3
      cases h3
  -- the bits of a tip's faces
  have ta : ∀ v, sp ((cX X n).map (aB a)) v = true → ∀ i, v.testBit i = true → i.testBit a = true ∧ X (i ^^^ 2 ^ a) = true ∧ i < 128 := fun v hv i hi => by
    obtain ⟨y, hy, rfl⟩ := sp_Tinv (aB_L a) hv
    obtain ⟨q1, q2⟩ := cX_sp.mp hy
    rw [aB_bit ha q1, Bool.and_eq_true, Bool.and_eq_true, decide_eq_true_eq] at hi
    exact ⟨hi.2.1, (q2 _ hi.2.2).1, hi.1⟩
  have tb : ∀ v, sp ((cX X n).map (aB b)) v = true → ∀ i, v.testBit i = true → i.testBit b = true ∧ X (i ^^^ 2 ^ b) = true ∧ i < 128 := fun v hv i hi => by
    obtain ⟨y, hy, rfl⟩ := sp_Tinv (aB_L b) hv
    obtain ⟨q1, q2⟩ := cX_sp.mp hy
    rw [aB_bit hb q1, Bool.and_eq_true, Bool.and_eq_true, decide_eq_true_eq] at hi
    exact ⟨hi.2.1, (q2 _ hi.2.2).1, hi.1⟩
  rw [h1, rk_app, rk_app, rk_inj (aB_L a) ia, rk_inj (aB_L b) ib]
  · intro v h2 h3
    refine Nat.eq_of_testBit_eq fun i => ?_
    rw [Nat.zero_testBit]
    cases hi : v.testBit i with
    | false => rfl
    | true =>
      obtain ⟨q1, -, -⟩ := ta v h2 i hi
      obtain ⟨-, q3, q4⟩ := tb v h3 i hi
      have h5 := hXa _ (xor_128 q4 (pw_128 b hb)) q3
      rw [Nat.testBit_xor, q1, Nat.testBit_two_pow, decide_eq_false (fun e => hab e.symm)] at h5
      cases h5
  · intro v h2 h3
    refine Nat.eq_of_testBit_eq fun i => ?_
    rw [Nat.zero_testBit]
    cases hi : v.testBit i with
    | false => rfl
    | true =>
      obtain ⟨q1, q2⟩ := cX_sp.mp h2
      have hl := bit_128 q1 hi
      have hx := (q2 i hi).1
      obtain ⟨x, h4, h5⟩ := sp_app.mp h3
      have h6 : (v ^^^ x).testBit i = false := by
        cases h7 : (v ^^^ x).testBit i with
        | false => rfl
        | true => have := (tb _ h5 i h7).1; rw [hXb i hl hx] at this; cases this
      have h8 : x.testBit i = false := by
        cases h7 : x.testBit i with
        | false => rfl
        | true => have := (ta _ h4 i h7).1; rw [hXa i hl hx] at this; cases this
      rw [Nat.testBit_xor, hi, h8] at h6
      cases h6
theorem lift_h (hX1 : Cx X) (ha : a < 7) (hb : b < 7) (hab : a ≠ b) (hXa : ∀ f, f < 128 → X f = true → f.testBit a = false) (hXb : ∀ f, f < 128 → X f = true → f.testBit b = false)
    (hY : ∀ f, f < 128 → (Y f = true ↔ X f = true ∨ (∃ g, g < 128 ∧ X g = true ∧ f = g ||| 2 ^ a) ∨ ∃ g, g < 128 ∧ X g = true ∧ f = g ||| 2 ^ b)) (n : Nat) : hX Y (n + 1) = hX X n := by
  have e1 := lift_f hX1 ha hb hab hXa hXb hY n
  have e2 := lift_r hX1 ha hb hab hXa hXb hY n
  have e3 := lift_r hX1 ha hb hab hXa hXb hY (n + 1)
  unfold hX
  omega
end Lift
-- touching
theorem touch_h {X Y U : Nat → Bool} {c : Nat} (hX1 : Cx X) (hY1 : Cx Y) (hc : c < 7) (hXc : X (2 ^ c) = true) (hYc : Y (2 ^ c) = true) (hXY : ∀ f, f < 128 → X f = true → Y f = true → f = 0 ∨ f = 2 ^ c) (hU : ∀ f, f < 128 → U f = (X f || Y f)) (n : Nat) : hX U (n + 1) = hX X (n + 1) + hX Y (n + 1) := by
  have hr : ∀ n, rX U (n + 2) = rX X (n + 2) + rX Y (n + 2) := fun n => by
    have h1 : rX U (n + 2) = rk (bX X (n + 2) ++ bX Y (n + 2)) := by
      refine rk_eq (fun u hu => ?_) (fun u hu => ?_)
      · obtain ⟨f, h1, h2, h3, rfl⟩ := bX_u hu
        rw [hU f h1, Bool.or_eq_true] at h2
        rcases h2 with h2 | h2
        · exact sp_mono (fun w hw => sp_m (List.mem_append_left _ hw)) (bX_m h1 h2 h3)
        · exact sp_mono (fun w hw => sp_m (List.mem_append_right _ hw)) (bX_m h1 h2 h3)
      · rcases List.mem_append.mp hu with hu | hu
        · obtain ⟨f, h1, h2, h3, rfl⟩ := bX_u hu
          exact bX_m h1 (by rw [hU f h1, h2]; rfl) h3
        · obtain ⟨f, h1, h2, h3, rfl⟩ := bX_u hu
          exact bX_m h1 (by rw [hU f h1, h2, Bool.or_true]) h3
    rw [h1, rk_app]
    · rfl
    · intro v h2 h3
      obtain ⟨q1, q2⟩ := cX_sp.mp (sp_mono (fun u hu => bX_in hX1 hu) h2)
      obtain ⟨-, q3⟩ := cX_sp.mp (sp_mono (fun u hu => bX_in hY1 hu) h3)
      have hb : ∀ i, v.testBit i = true → i = 2 ^ c := fun i hi => by
        obtain ⟨p1, p2⟩ := q2 i hi
        rcases hXY i (bit_128 q1 hi) p1 (q3 i hi).1 with e | e
        · subst e
          have : pc 0 = 0 := by decide
          omega
        · exact e
      cases hv : v.testBit (2 ^ c) with
      | false =>
        refine Nat.eq_of_testBit_eq fun i => ?_
        rw [Nat.zero_testBit]
        cases hi : v.testBit i with
        | false => rfl
        | true => rw [hb i hi, hv] at hi; cases hi
      | true =>
        have e : v = 2 ^ (2 ^ c) := Nat.eq_of_testBit_eq fun i => by
          rw [Nat.testBit_two_pow]
          cases hi : v.testBit i with
          | false => rw [decide_eq_false]; intro e; rw [← e, hv] at hi; cases hi
          | true => rw [decide_eq_true (hb i hi).symm]
        have h4 := bX_z h2
        rw [e, dB_e (pw_128 c hc), bd_1 _ (pw_128 c hc) (pc_pw c hc)] at h4
        cases h4
  have hf : ∀ n, fX U (n + 2) = fX X (n + 2) + fX Y (n + 2) := fun n => by
    unfold fX
    rw [← fb_ct_or (p := px X (n + 2)) (q := px Y (n + 2)) (fun k hk => by
      rintro ⟨h2, h3⟩
      obtain ⟨p1, p2⟩ := px_1.mp h2
      obtain ⟨p3, p4⟩ := px_1.mp h3
      rcases hXY k hk p1 p3 with e | e
      · subst e
        have : pc 0 = 0 := by decide
        omega
      · subst e
        have := pc_pw c hc
        omega)]
    refine fb_ct_cong fun k hk => ?_
    unfold px
    rw [hU k hk]
    cases X k <;> cases Y k <;> simp
  cases n with
  | zero =>
    have r1 : rX U 2 = rX X 2 + rX Y 2 := hr 0
    have h0 : fX U 1 = fb_ct (fun k => px X 1 k || px Y 1 k) 128 := fb_ct_cong fun k hk => by
      unfold px
      rw [hU k hk]
      cases X k <;> cases Y k <;> simp
    have h2 : fb_ct (fun k => px X 1 k && px Y 1 k) 128 = 1 := by
      refine (fb_ct_cong (q := fun k => k == 2 ^ c) fun k hk => ?_).trans (fb_one (pw_128 c hc))
      unfold px
      by_cases e : k = 2 ^ c
      · subst e; rw [hXc, hYc, pc_pw c hc]; simp
      · rw [beq_eq_false_iff_ne.mpr e]
        cases hx : X k with
        | false => simp
        | true =>
          cases hy : Y k with
          | false => simp
          | true =>
            rcases hXY k hk hx hy with e2 | e2
            · subst e2
              have : pc 0 = 0 := by decide
              rw [this]; rfl
            · exact absurd e2 e
    have h1 : fb_ct (fun k => px X 1 k || px Y 1 k) 128 + fb_ct (fun k => px X 1 k && px Y 1 k) 128 = fX X 1 + fX Y 1 := fb_incl (px X 1) (px Y 1) 128
    have r2 := rX_1 hc hXc
    have r3 := rX_1 hc hYc
    have r4 : rX U 1 = 1 := rX_1 hc (by rw [hU _ (pw_128 c hc), hXc]; rfl)
    show (fX U 1 : Int) - rX U 1 - rX U 2 = ((fX X 1 : Int) - rX X 1 - rX X 2) + ((fX Y 1 : Int) - rX Y 1 - rX Y 2)
    omega
  | succ n =>
    have r1 : rX U (n + 2) = rX X (n + 2) + rX Y (n + 2) := hr n
    have r2 : rX U (n + 3) = rX X (n + 3) + rX Y (n + 3) := hr (n + 1)
    have f1 : fX U (n + 2) = fX X (n + 2) + fX Y (n + 2) := hf n
    show (fX U (n + 2) : Int) - rX U (n + 2) - rX U (n + 3) = ((fX X (n + 2) : Int) - rX X (n + 2) - rX X (n + 3)) + ((fX Y (n + 2) : Int) - rX Y (n + 2) - rX Y (n + 3))
    omega
-- taking out
/-- X without one face -/
def outX (X : Nat → Bool) (f : Nat) : Nat → Bool := fun e => X e && !(e == f)
theorem out_f {X : Nat → Bool} {f : Nat} (hf : f < 128) (h : X f = true) : fX (outX X f) (pc f) + 1 = fX X (pc f) := by
  unfold fX
  have h1 := fb_ct_upd (px (outX X f) (pc f)) true hf
  have h2 : px (outX X f) (pc f) f = false := by unfold px outX; rw [beq_self_eq_true]; simp
  rw [h2] at h1
  simp only [Bool.false_eq_true, if_false, if_true, Nat.add_zero] at h1
  rw [← h1]
  refine fb_ct_cong fun k hk => ?_
  by_cases e : k = f
  · subst e; unfold px; rw [if_pos rfl, h, beq_self_eq_true]; rfl
  · unfold px outX; rw [if_neg e, beq_eq_false_iff_ne.mpr e]; simp
theorem out_px {X : Nat → Bool} {f n : Nat} (hn : n ≠ pc f) : ∀ e, e < 128 → px (outX X f) n e = px X n e := fun e _ => by
  unfold px outX
  by_cases h : e = f
  · subst h; rw [show (pc e == n) = false from beq_eq_false_iff_ne.mpr fun h => hn h.symm]; simp
  · rw [beq_eq_false_iff_ne.mpr h]; simp
theorem out_r {X : Nat → Bool} {f : Nat} (hf : f < 128) (h : X f = true) : rX X (pc f) = bif sp (bX (outX X f) (pc f)) (bd f) then rX (outX X f) (pc f) else rX (outX X f) (pc f) + 1 := by
  have h1 : rX X (pc f) = rk (bd f :: bX (outX X f) (pc f)) := rk_eq (fun u hu => by
    obtain ⟨g, h1, h2, h3, rfl⟩ := bX_u hu
    by_cases e : g = f
    · subst e; exact sp_h _ _
    · exact sp_w (bX_m h1 (by unfold outX; rw [h2, beq_eq_false_iff_ne.mpr e]; rfl) h3)) (fun u hu => by
    rcases List.mem_cons.mp hu with rfl | hu
    · exact bX_m hf h rfl
    · obtain ⟨g, h1, h2, h3, rfl⟩ := bX_u hu
      unfold outX at h2
      rw [Bool.and_eq_true] at h2
      exact bX_m h1 h2.1 h3)
  rw [h1, rk_c]; rfl
/-- taking out a greatest face: what changes -/
theorem take_h {X : Nat → Bool} {f c : Nat} (hf : f < 128) (hf1 : f ≠ 0) (h : X f = true) (hc : c < 7) (hcf : 2 ^ c ≠ f) (hXc : X (2 ^ c) = true) :
    (∀ n, hX (outX X f) n = hX X n + (if n = pc f then -1 else 0)) ∨ (2 ≤ pc f ∧ ∀ n, hX (outX X f) n = hX X n + (if n + 1 = pc f then 1 else 0)) := by
  have e1 := out_f hf h
  have e2 := out_r hf h
  have ef : ∀ n, n ≠ pc f → fX (outX X f) n = fX X n := fun n hn => fX_cg (out_px hn)
  have er : ∀ n, n ≠ pc f → rX (outX X f) n = rX X n := fun n hn => rX_cg (out_px hn)
  have hp : pc f ≠ 0 := fun e => hf1 (pc_z f hf e)
  cases hs : sp (bX (outX X f) (pc f)) (bd f) with
  | true =>
    rw [hs] at e2
    have e2 : rX X (pc f) = rX (outX X f) (pc f) := e2
    left
    intro n
    unfold hX
    by_cases h1 : n = pc f
    · subst h1
      have := er (pc f + 1) (by omega)
      rw [if_pos rfl]; omega
    · rw [if_neg h1, ef n h1, er n h1]
      by_cases h2 : n + 1 = pc f
      · rw [h2]; omega
      · rw [er (n + 1) h2]; omega
  | false =>
    rw [hs] at e2
    have e2 : rX X (pc f) = rX (outX X f) (pc f) + 1 := e2
    right
    refine ⟨?_, ?_⟩
    · refine Nat.lt_of_not_le fun h1 => ?_
      have h2 : pc f = 1 := by omega
      rw [h2] at e2
      rw [rX_1 hc hXc, rX_1 hc (by unfold outX; rw [hXc, beq_eq_false_iff_ne.mpr hcf]; rfl)] at e2
      omega
    · intro n
      unfold hX
      by_cases h1 : n = pc f
      · subst h1
        have := er (pc f + 1) (by omega)
        rw [if_neg (by omega)]; omega
      · rw [ef n h1, er n h1]
        by_cases h2 : n + 1 = pc f
        · rw [if_pos h2, h2]; omega
        · rw [if_neg h2, er (n + 1) h2]; omega
/-- a face that lies in just one greater one -/
theorem fold_up {X : Nat → Bool} {f g : Nat} (hX1 : Cx X) (hf : f < 128) (hg : g < 128) (hXg : X g = true) (hP : isP f g = true) (hne : g ≠ f) (hone : ∀ e, e < 128 → X e = true → isP f e = true → e = f ∨ e = g) : pc g = pc f + 1 := by
  have key : ∀ f, f < 128 → ∀ g, g < 128 → isP f g = true → g ≠ f → ∃ k, k < 7 ∧ f.testBit k = false ∧ isP (f ||| 2 ^ k) g = true := by decide +kernel
  obtain ⟨k, h1, h2, h3⟩ := key f hf g hg hP hne
  have h4 : isP f (f ||| 2 ^ k) = true := isP_iff.mpr fun i hi => by rw [Nat.testBit_or, hi]; rfl
  have h5 := Cx_P hX1 (or_lt hf h1) hg h3 hXg
  rcases hone _ (or_lt hf h1) h5 h4 with e | e
  · have h6 : (f ||| 2 ^ k).testBit k = true := by rw [Nat.testBit_or, Nat.testBit_two_pow_self, Bool.or_true]
    rw [e, h2] at h6; cases h6
  · rw [← e]; exact pc_up f hf k h1 h2
theorem fold_h {X : Nat → Bool} {f g : Nat} (hX1 : Cx X) (hf : f < 128) (hg : g < 128) (hXf : X f = true) (hXg : X g = true) (hP : isP f g = true) (hne : g ≠ f) (hone : ∀ e, e < 128 → X e = true → isP f e = true → e = f ∨ e = g) (n : Nat) : hX (outX (outX X g) f) n = hX X n := by
  have hup := fold_up hX1 hf hg hXg hP hne hone
  have hXf2 : outX X g f = true := by unfold outX; rw [hXf, beq_eq_false_iff_ne.mpr (fun e => hne e.symm)]; rfl
  have e1 := out_f hg hXg
  have e2 := out_r hg hXg
  have e3 := out_f hf hXf2
  have e4 := out_r hf hXf2
  have ef : ∀ n, n ≠ pc g → fX (outX X g) n = fX X n := fun n hn => fX_cg (out_px hn)
  have er : ∀ n, n ≠ pc g → rX (outX X g) n = rX X n := fun n hn => rX_cg (out_px hn)
  have ef2 : ∀ n, n ≠ pc f → fX (outX (outX X g) f) n = fX (outX X g) n := fun n hn => fX_cg (out_px hn)
  have er2 : ∀ n, n ≠ pc f → rX (outX (outX X g) f) n = rX (outX X g) n := fun n hn => rX_cg (out_px hn)
  have s1 : sp (bX (outX X g) (pc g)) (bd g) = false := by
    cases hs : sp (bX (outX X g) (pc g)) (bd g) with
    | false => rfl
    | true =>
      have h1 := sp_bit (g := f) (fun u hu => by
        obtain ⟨e, q1, q2, q3, rfl⟩ := bX_u hu
        rw [bd_bit e q1 f hf]
        cases hp : isP f e with
        | false => rfl
        | true =>
          unfold outX at q2
          rw [Bool.and_eq_true] at q2
          rcases hone e q1 q2.1 hp with h | h
          · subst h; omega
          · subst h; simp at q2) hs
      rw [bd_bit g hg f hf, hP, hup, beq_self_eq_true] at h1; cases h1
  have s2 : sp (bX (outX (outX X g) f) (pc f)) (bd f) = true := by
    have hb : (bd g).testBit f = true := by rw [bd_bit g hg f hf, hP, hup, beq_self_eq_true]; rfl
    have hw : sp (cX (outX (outX X g) f) (pc f)) (bd g ^^^ 2 ^ f) = true := by
      refine cX_sp.mpr ⟨Nat.xor_lt_two_pow (bd_lt g hg) (Nat.pow_lt_pow_right (by decide) hf), fun e he => ?_⟩
      rw [Nat.testBit_xor, Nat.testBit_two_pow] at he
      by_cases hef : f = e
      · subst hef; rw [hb] at he; simp at he
      · rw [decide_eq_false hef, Bool.xor_false] at he
        have hl := bit_128 (bd_lt g hg) he
        rw [bd_bit g hg e hl, Bool.and_eq_true, beq_iff_eq] at he
        refine ⟨?_, by omega⟩
        unfold outX
        rw [Cx_P hX1 hl hg he.1 hXg, beq_eq_false_iff_ne.mpr (fun h => by subst h; omega), beq_eq_false_iff_ne.mpr (fun h => hef h.symm)]; rfl
    have h2 := bX_d hw
    rw [dB_L.2, dd_f g hg, dB_e hf, Nat.zero_xor] at h2
    exact h2
  rw [s1] at e2
  rw [s2] at e4
  have e2 : rX X (pc g) = rX (outX X g) (pc g) + 1 := e2
  have e4 : rX (outX X g) (pc f) = rX (outX (outX X g) f) (pc f) := e4
  unfold hX
  rw [hup] at e1 e2 ef er
  by_cases h1 : n = pc f
  · subst h1
    have a1 := ef (pc f) (by omega)
    have a2 := er (pc f) (by omega)
    have a3 := er2 (pc f + 1) (by omega)
    omega
  · by_cases h2 : n = pc f + 1
    · subst h2
      have a1 := ef2 (pc f + 1) (by omega)
      have a2 := er2 (pc f + 1) (by omega)
      have a3 := er2 (pc f + 1 + 1) (by omega)
      have a4 := er (pc f + 1 + 1) (by omega)
      omega
    · have a1 := ef2 n h1
      have a2 := ef n h2
      have a3 := er2 n h1
      have a4 := er n h2
      by_cases h3 : n + 1 = pc f
      · rw [h3] at *
        have a5 := er (pc f) (by omega)
        omega
      · have a5 := er2 (n + 1) h3
        have a6 := er (n + 1) (by omega)
        omega
-- exchanging
theorem exch_inv : ∀ a, a < 7 → ∀ b, b < 7 → Inv fun i => exch i a b := by
  have h : ∀ a, a < 7 → ∀ b, b < 7 → ∀ i, i < 128 → exch i a b < 128 ∧ exch (exch i a b) a b = i := by decide +kernel
  exact fun a ha b hb i hi => h a ha b hb i hi
theorem exch_pc : ∀ a, a < 7 → ∀ b, b < 7 → ∀ i, i < 128 → pc (exch i a b) = pc i := by decide +kernel
def sw9 (a b j : Nat) : Nat := if j = a then b else if j = b then a else j
theorem exch_bit : ∀ a, a < 7 → ∀ b, b < 7 → ∀ f, f < 128 → ∀ j, j < 7 → (exch f a b).testBit j = f.testBit (sw9 a b j) := by decide +kernel
theorem sw9_ok : ∀ a, a < 7 → ∀ b, b < 7 → ∀ j, j < 7 → sw9 a b j < 7 ∧ sw9 a b (sw9 a b j) = j := by decide +kernel
theorem bit_7' {v i : Nat} (h : v < 128) (hi : v.testBit i = true) : i < 7 := Nat.lt_of_not_le fun hc => by
  rw [Nat.testBit_lt_two_pow (Nat.lt_of_lt_of_le (show v < 2 ^ 7 from h) (Nat.pow_le_pow_right (by decide) hc))] at hi; cases hi
theorem exch_isP {a b i f : Nat} (ha : a < 7) (hb : b < 7) (hi : i < 128) (hf : f < 128) : isP (exch i a b) f = isP i (exch f a b) := by
  have hei := (exch_inv a ha b hb i hi).1
  have hei : exch i a b < 128 := hei
  rw [Bool.eq_iff_iff, isP_iff, isP_iff]
  constructor
  · intro h j hj
    have h7 := bit_7' hi hj
    obtain ⟨h1, h2⟩ := sw9_ok a ha b hb j h7
    rw [exch_bit a ha b hb f hf j h7]
    refine h _ ?_
    rw [exch_bit a ha b hb i hi _ h1, h2]; exact hj
  · intro h j hj
    have h7 := bit_7' hei hj
    obtain ⟨h1, h2⟩ := sw9_ok a ha b hb j h7
    rw [exch_bit a ha b hb i hi j h7] at hj
    have h3 := h _ hj
    rw [exch_bit a ha b hb f hf _ h1, h2] at h3
    exact h3
theorem exch_bd (a : Nat) (ha : a < 7) (b : Nat) (hb : b < 7) (f : Nat) (hf : f < 128) : pm (fun i => exch i a b) (bd f) = bd (exch f a b) := by
  have he := exch_inv a ha b hb
  refine Nat.eq_of_testBit_eq fun i => ?_
  rw [pm_bit]
  by_cases hi : i < 128
  · rw [decide_eq_true hi, Bool.true_and, bd_bit f hf _ (he i hi).1, bd_bit _ (he f hf).1 i hi]
    show (isP (exch i a b) f && pc (exch i a b) + 1 == pc f) = (isP i (exch f a b) && pc i + 1 == pc (exch f a b))
    rw [exch_isP ha hb hi hf, exch_pc a ha b hb i hi, exch_pc a ha b hb f hf]
  · rw [decide_eq_false hi, Bool.false_and]
    exact (Nat.testBit_lt_two_pow (Nat.lt_of_lt_of_le (bd_lt _ (he f hf).1) (Nat.pow_le_pow_right (by decide) (by omega)))).symm
section Exch
variable {X Y : Nat → Bool} {a b : Nat}
theorem exch_f (ha : a < 7) (hb : b < 7) (hY : ∀ i, i < 128 → Y i = X (exch i a b)) (n : Nat) : fX Y n = fX X n := by
  have hi := exch_inv a ha b hb
  rw [← cX_rk, ← cX_rk, ← rk_inj (pm_L fun i => exch i a b) (L := cX Y n) (fun v hv h0 => pm_inj hi (cX_lt hv) h0)]
  refine rk_eq (fun u hu => ?_) (fun u hu => ?_)
  · obtain ⟨w, hw, rfl⟩ := List.mem_map.mp hu
    obtain ⟨f, h1, h2, h3, rfl⟩ := cX_u hw
    rw [pm_e hi h1]
    exact cX_m (hi f h1).1 (by rw [← hY f h1]; exact h2) (by rw [exch_pc a ha b hb f h1, h3])
  · obtain ⟨f, h1, h2, h3, rfl⟩ := cX_u hu
    have h5 := (hi f h1).1
    have h6 : exch (exch f a b) a b = f := (hi f h1).2
    have hm : sp (cX Y n) (2 ^ exch f a b) = true := cX_m h5 (by rw [hY _ h5, h6]; exact h2) (by rw [exch_pc a ha b hb f h1, h3])
    have h9 := sp_T (pm_L fun i => exch i a b) hm
    rw [pm_e hi h5] at h9
    have h9 : sp ((cX Y n).map (pm fun i => exch i a b)) (2 ^ (exch (exch f a b) a b)) = true := h9
    rw [h6] at h9
    exact h9
theorem exch_r (ha : a < 7) (hb : b < 7) (hY : ∀ i, i < 128 → Y i = X (exch i a b)) (n : Nat) : rX Y n = rX X n := by
  have hi := exch_inv a ha b hb
  unfold rX
  rw [← rk_inj (pm_L fun i => exch i a b) (L := bX Y n) (fun v hv h0 => pm_inj hi (bX_lt hv) h0)]
  refine rk_eq (fun u hu => ?_) (fun u hu => ?_)
  · obtain ⟨w, hw, rfl⟩ := List.mem_map.mp hu
    obtain ⟨f, h1, h2, h3, rfl⟩ := bX_u hw
    rw [exch_bd a ha b hb f h1]
    exact bX_m (hi f h1).1 (by rw [← hY f h1]; exact h2) (by rw [exch_pc a ha b hb f h1, h3])
  · obtain ⟨f, h1, h2, h3, rfl⟩ := bX_u hu
    have h5 := (hi f h1).1
    have h6 : exch (exch f a b) a b = f := (hi f h1).2
    have hm : sp (bX Y n) (bd (exch f a b)) = true := bX_m h5 (by rw [hY _ h5, h6]; exact h2) (by rw [exch_pc a ha b hb f h1, h3])
    have h9 := sp_T (pm_L fun i => exch i a b) hm
    rw [exch_bd a ha b hb _ h5, h6] at h9
    exact h9
theorem exch_h (ha : a < 7) (hb : b < 7) (hY : ∀ i, i < 128 → Y i = X (exch i a b)) (n : Nat) : hX Y n = hX X n := by
  unfold hX
  rw [exch_f ha hb hY, exch_r ha hb hY, exch_r ha hb hY]
end Exch
/-- the numbers with their signs -/
theorem euler {X : Nat → Bool} {c : Nat} (hc : c < 7) (h : X (2 ^ c) = true) : hX X 1 - hX X 2 + hX X 3 - hX X 4 + hX X 5 - hX X 6 + hX X 7 + 1 = (fX X 1 : Int) - fX X 2 + fX X 3 - fX X 4 + fX X 5 - fX X 6 + fX X 7 := by
  have h1 := rX_1 hc h
  have h8 := rX_8 X (n := 8) (by decide)
  unfold hX
  simp only [Nat.reduceAdd]
  omega
end The
