/-! pieces -/
section Pie
/-- from corner x to corner y by faces of two corners -/
def Jn (s : Nat → Bool) (x y : Nat) : Prop := ∀ P : Nat → Prop, P x → (∀ a b, a < 7 → b < 7 → P a → s (2 ^ a ||| 2 ^ b) = true → P b) → P y
theorem Jn_0 (s : Nat → Bool) (x : Nat) : Jn s x x := fun _ h _ => h
theorem Jn_s {s : Nat → Bool} {x a b : Nat} (h : Jn s x a) (ha : a < 7) (hb : b < 7) (e : s (2 ^ a ||| 2 ^ b) = true) : Jn s x b := fun P h0 h1 => h1 a b ha hb (h P h0 h1) e
theorem Jn_t {s : Nat → Bool} {x y z : Nat} (h1 : Jn s x y) (h2 : Jn s y z) : Jn s x z := fun P h0 h3 => h2 P (h1 P h0 h3) h3
theorem Jn_c {s : Nat → Bool} {x y : Nat} (h : Jn s x y) : Jn s y x := h (fun b => Jn s b x) (Jn_0 s x) fun a b ha hb h1 e => Jn_t (Jn_s (Jn_0 s b) hb ha (by rw [Nat.or_comm]; exact e)) h1
theorem Jn_7 {s : Nat → Bool} {x y : Nat} (h : Jn s x y) (hx : x < 7) : y < 7 := h (fun b => b < 7) hx fun _ _ _ hb _ _ => hb
theorem least {P : Nat → Prop} : ∀ (n j : Nat), j ≤ n → P j → ∃ m, P m ∧ ∀ b, P b → m ≤ b
  | 0, j, hj, h => ⟨j, h, fun b _ => by omega⟩
  | n + 1, j, hj, h => (Classical.em (∃ b, b < j ∧ P b)).elim (fun ⟨b, h1, h2⟩ => least n b (by omega) h2) (fun h1 => ⟨j, h, fun b hb => Nat.le_of_not_lt fun hc => h1 ⟨b, hc, hb⟩⟩)
/-- the least corner that a corner is joined with -/
noncomputable def rt (s : Nat → Bool) (c : Nat) : Nat := Classical.choose (least (P := Jn s c) c c (Nat.le_refl c) (Jn_0 s c))
theorem rt_J (s : Nat → Bool) (c : Nat) : Jn s c (rt s c) := (Classical.choose_spec (least (P := Jn s c) c c (Nat.le_refl c) (Jn_0 s c))).1
theorem rt_le {s : Nat → Bool} {c b : Nat} (h : Jn s c b) : rt s c ≤ b := (Classical.choose_spec (least (P := Jn s c) c c (Nat.le_refl c) (Jn_0 s c))).2 b h
theorem rt_eq {s : Nat → Bool} {c b : Nat} (h : Jn s c b) : rt s c = rt s b := Nat.le_antisymm (rt_le (Jn_t h (rt_J s b))) (rt_le (Jn_t (Jn_c h) (rt_J s c)))
theorem rt_iff {s : Nat → Bool} {c b : Nat} : rt s c = rt s b ↔ Jn s c b := ⟨fun e => Jn_t (rt_J s c) (e ▸ Jn_c (rt_J s b)), rt_eq⟩
theorem rt_rt (s : Nat → Bool) (c : Nat) : rt s (rt s c) = rt s c := (rt_eq (rt_J s c)).symm
theorem rt_7 {s : Nat → Bool} {c : Nat} (h : c < 7) : rt s c < 7 := Jn_7 (rt_J s c) h
noncomputable def JB (s : Nat → Bool) (x y : Nat) : Bool := @decide (Jn s x y) (Classical.propDecidable _)
theorem JB_iff {s : Nat → Bool} {x y : Nat} : JB s x y = true ↔ Jn s x y := by unfold JB; exact @decide_eq_true_iff _ (Classical.propDecidable _)
/-- the least ones -/
noncomputable def lsB (s : Nat → Bool) (c : Nat) : Bool := s (2 ^ c) && rt s c == c
/-- how many pieces -/
noncomputable def npc (s : Nat → Bool) : Nat := fb_ct (lsB s) 7
-- the rank of the borders of faces of two corners
theorem pc_2 : ∀ f, f < 128 → pc f = 2 → ∃ a, a < 7 ∧ ∃ b, b < 7 ∧ a ≠ b ∧ f = 2 ^ a ||| 2 ^ b ∧ bd f = 2 ^ (2 ^ a) ^^^ 2 ^ (2 ^ b) := by decide +kernel
theorem bd_ab : ∀ a, a < 7 → ∀ b, b < 7 → a ≠ b → bd (2 ^ a ||| 2 ^ b) = 2 ^ (2 ^ a) ^^^ 2 ^ (2 ^ b) ∧ pc (2 ^ a ||| 2 ^ b) = 2 := by decide +kernel
theorem pc_1 : ∀ f, f < 128 → pc f = 1 → ∃ c, c < 7 ∧ f = 2 ^ c := by decide +kernel
def gath (v : Nat) : Nat := mkN (fun c => v.testBit (2 ^ c)) 7
theorem gath_L : Lmap gath := ⟨by decide +kernel, fun a b => by
  show mkN _ 7 = mkN _ 7 ^^^ mkN _ 7
  rw [mkN_xor]
  exact mkN_cong fun i _ => Nat.testBit_xor ..⟩
theorem gath_e : ∀ c, c < 7 → gath (2 ^ (2 ^ c)) = 2 ^ c := by decide +kernel
theorem gath_b {v c : Nat} (hc : c < 7) : (gath v).testBit c = v.testBit (2 ^ c) := by
  unfold gath
  rw [mkN_bit, decide_eq_true hc]; rfl
noncomputable def rT (s : Nat → Bool) (v : Nat) : Nat := ex (fun c => 2 ^ (2 ^ rt s c)) (gath v) 7
theorem rT_L (s : Nat → Bool) : Lmap (rT s) := L_comp (T := fun v => ex (fun c => 2 ^ (2 ^ rt s c)) v 7) (T' := gath) (ex_L _ 7) gath_L
theorem rT_e {s : Nat → Bool} {c : Nat} (hc : c < 7) : rT s (2 ^ (2 ^ c)) = 2 ^ (2 ^ rt s c) := by
  unfold rT
  rw [gath_e c hc]; exact ex_e' hc
theorem pw_inj {a b : Nat} (h : 2 ^ a = 2 ^ b) : a = b := by
  have h1 : 2 ^ a ≤ 2 ^ b := h ▸ Nat.le_refl _
  have h2 : 2 ^ b ≤ 2 ^ a := h ▸ Nat.le_refl _
  exact Nat.le_antisymm (pow_le_inv h1) (pow_le_inv h2)
theorem rk_tow (p : Nat → Bool) : ∀ n, rk ((fs p n).map fun c => 2 ^ (2 ^ c)) = fb_ct p n
  | 0 => rfl
  | n + 1 => by
    rw [fb_ct_succ, ← rk_tow p n, show fs p (n + 1) = bif p n then n :: fs p n else fs p n from rfl]
    cases hp : p n with
    | true =>
      show rk (2 ^ (2 ^ n) :: (fs p n).map fun c => 2 ^ (2 ^ c)) = _
      rw [rk_out]
      · rfl
      · cases h : sp ((fs p n).map fun c => 2 ^ (2 ^ c)) (2 ^ (2 ^ n)) with
        | false => rfl
        | true =>
          have h1 := sp_bit (g := 2 ^ n) (fun u hu => by
            obtain ⟨c, hc, rfl⟩ := List.mem_map.mp hu
            have h2 := (fs_mem.mp hc).1
            show (2 ^ (2 ^ c)).testBit (2 ^ n) = false
            rw [Nat.testBit_two_pow]
            exact decide_eq_false fun e => by have := pw_inj e; omega) h
          rw [Nat.testBit_two_pow_self] at h1; cases h1
    | false => rfl
section Pi2
variable {X s : Nat → Bool}
theorem pie_J (hX : Cx X) (hs : ∀ f, f < 128 → f ≠ 0 → X f = s f) {x y : Nat} (hx : x < 7) (hsx : s (2 ^ x) = true) (h : Jn s x y) : s (2 ^ y) = true ∧ sp (bX X 2) (2 ^ (2 ^ x) ^^^ 2 ^ (2 ^ y)) = true := by
  refine h (fun y => s (2 ^ y) = true ∧ sp (bX X 2) (2 ^ (2 ^ x) ^^^ 2 ^ (2 ^ y)) = true) ⟨hsx, by rw [Nat.xor_self]; exact sp_0 _⟩ ?_
  rintro a b ha hb ⟨h1, h2⟩ e
  by_cases hab : a = b
  · subst hab; exact ⟨h1, h2⟩
  · obtain ⟨h3, h4⟩ := bd_ab a ha b hb hab
    have hl : 2 ^ a ||| 2 ^ b < 128 := or_128 (pw_128 a ha) (pw_128 b hb)
    have hn : 2 ^ a ||| 2 ^ b ≠ 0 := fun e => by
      rw [e] at h4
      have : pc 0 = 0 := by decide
      omega
    have hXe : X (2 ^ a ||| 2 ^ b) = true := by rw [hs _ hl hn]; exact e
    have hXb : X (2 ^ b) = true := Cx_P hX (pw_128 b hb) hl (isP_iff.mpr fun i hi => by rw [Nat.testBit_or, hi, Bool.or_true]) hXe
    refine ⟨by rw [← hs _ (pw_128 b hb) (by have := Nat.two_pow_pos b; omega)]; exact hXb, ?_⟩
    have h5 := sp_x h2 (bX_m hl hXe h4)
    rw [h3, Nat.xor_assoc, ← Nat.xor_assoc (2 ^ (2 ^ a)) (2 ^ (2 ^ a)), Nat.xor_self, Nat.zero_xor] at h5
    exact h5
/-- what the borders of faces of two corners add up to, and how many are free -/
theorem pie_Z (hX : Cx X) (hs : ∀ f, f < 128 → f ≠ 0 → X f = s f) : (∀ v, sp (bX X 2) v = true ↔ sp (cX X 1) v = true ∧ rT s v = 0) ∧ fX X 1 = rX X 2 + npc s := by
  obtain ⟨Z, hZ, hr⟩ := rk_ker (rT_L s) (cX X 1)
  have pw0 : ∀ c, 2 ^ c ≠ 0 := fun c => by have := Nat.two_pow_pos c; omega
  have cor : ∀ u, u ∈ cX X 1 → ∃ c, c < 7 ∧ s (2 ^ c) = true ∧ u = 2 ^ (2 ^ c) := fun u hu => by
    obtain ⟨f, h1, h2, h3, rfl⟩ := cX_u hu
    obtain ⟨c, hc, rfl⟩ := pc_1 f h1 h3
    exact ⟨c, hc, by rw [← hs _ h1 (pw0 c)]; exact h2, rfl⟩
  have key : ∀ v, sp (bX X 2) v = true ↔ sp (cX X 1) v = true ∧ rT s v = 0 := fun v => by
    constructor
    · intro h
      refine ⟨sp_mono (fun u hu => bX_in hX hu) h, ?_⟩
      have h1 := sp_T (rT_L s) h
      refine sp_0e (fun u hu => ?_) h1
      obtain ⟨w, hw, rfl⟩ := List.mem_map.mp hu
      obtain ⟨f, h2, h3, h4, rfl⟩ := bX_u hw
      obtain ⟨a, ha, b, hb, hab, e, e2⟩ := pc_2 f h2 h4
      rw [e2, (rT_L s).2, rT_e ha, rT_e hb]
      have hf0 : f ≠ 0 := fun e => by
        subst e
        have : pc 0 = 0 := by decide
        omega
      have h5 : s (2 ^ a ||| 2 ^ b) = true := by rw [← e, ← hs f h2 hf0]; exact h3
      rw [rt_eq (Jn_s (Jn_0 s a) ha hb h5), Nat.xor_self]
    · rintro ⟨h1, h2⟩
      have hD : Lmap fun v => v ^^^ rT s v := L_xor L_id (rT_L s)
      have h3 := sp_T hD h1
      have h3 : sp ((cX X 1).map fun v => v ^^^ rT s v) (v ^^^ rT s v) = true := h3
      rw [h2, Nat.xor_zero] at h3
      refine sp_mono (fun u hu => ?_) h3
      obtain ⟨w, hw, rfl⟩ := List.mem_map.mp hu
      obtain ⟨c, hc, h4, rfl⟩ := cor w hw
      show sp (bX X 2) (2 ^ (2 ^ c) ^^^ rT s (2 ^ (2 ^ c))) = true
      rw [rT_e hc]
      exact (pie_J hX hs hc h4 (rt_J s c)).2
  refine ⟨key, ?_⟩
  have h1 : rk Z = rX X 2 := rk_eq (fun u hu => (key u).mpr ((hZ u).mp (sp_m hu))) (fun u hu => (hZ u).mpr ((key u).mp (sp_m hu)))
  have h2 : rk ((cX X 1).map (rT s)) = npc s := by
    unfold npc
    rw [← rk_tow (lsB s) 7]
    refine rk_eq (fun u hu => ?_) (fun u hu => ?_)
    · obtain ⟨w, hw, rfl⟩ := List.mem_map.mp hu
      obtain ⟨c, hc, h4, rfl⟩ := cor w hw
      rw [rT_e hc]
      refine sp_m (List.mem_map.mpr ⟨rt s c, fs_mem.mpr ⟨rt_7 hc, ?_⟩, rfl⟩)
      unfold lsB
      rw [(pie_J hX hs hc h4 (rt_J s c)).1, rt_rt, beq_self_eq_true]; rfl
    · obtain ⟨c, hc, rfl⟩ := List.mem_map.mp hu
      obtain ⟨h3, h4⟩ := fs_mem.mp hc
      unfold lsB at h4
      rw [Bool.and_eq_true, beq_iff_eq] at h4
      refine sp_m (List.mem_map.mpr ⟨2 ^ (2 ^ c), cs_mem.mpr ⟨2 ^ c, pw_128 c h3, px_1.mpr ⟨?_, pc_pw c h3⟩, rfl⟩, ?_⟩)
      · rw [hs _ (pw_128 c h3) (pw0 c)]; exact h4.1
      · rw [rT_e h3, h4.2]
  have hr : rk (cX X 1) = rk Z + rk ((cX X 1).map (rT s)) := hr
  rw [cX_rk] at hr
  omega
/-- the parity of what t tells at a place -/
theorem ex_par (t : Nat → Nat) (w j : Nat) : ∀ n, (ex t w n).testBit j = (fb_ct (fun c => w.testBit c && (t c).testBit j) n % 2 == 1)
  | 0 => by show Nat.testBit 0 j = _; rw [Nat.zero_testBit]; rfl
  | n + 1 => by
    unfold ex
    rw [Nat.testBit_xor, ex_par t w j n, fb_ct_succ]
    cases hw : w.testBit n with
    | false => simp
    | true =>
      show (_ ^^ (t n).testBit j) = _
      cases ht : (t n).testBit j with
      | false => simp
      | true =>
        simp only [Bool.and_self, if_true, Bool.xor_true]
        rw [Bool.eq_iff_iff, beq_iff_eq, Bool.not_eq_true', beq_eq_false_iff_ne]
        omega
/-- a row of corners fills just if each piece has an even number of them -/
theorem pie_even (hX : Cx X) (hs : ∀ f, f < 128 → f ≠ 0 → X f = s f) {v : Nat} (hv : sp (cX X 1) v = true) : sp (bX X 2) v = true ↔ ∀ c, c < 7 → s (2 ^ c) = true → fb_ct (fun i => JB s c i && v.testBit (2 ^ i)) 7 % 2 = 0 := by
  rw [(pie_Z hX hs).1 v]
  have pw0 : ∀ c, 2 ^ c ≠ 0 := fun c => by have := Nat.two_pow_pos c; omega
  have hvs : ∀ i, i < 7 → v.testBit (2 ^ i) = true → s (2 ^ i) = true := fun i hi h => by
    have := ((cX_sp.mp hv).2 _ h).1
    rw [hs _ (pw_128 i hi) (pw0 i)] at this; exact this
  have bit : ∀ c, c < 7 → (rT s v).testBit (2 ^ rt s c) = (fb_ct (fun i => JB s c i && v.testBit (2 ^ i)) 7 % 2 == 1) := fun c hc => by
    have e : fb_ct (fun i => (gath v).testBit i && (2 ^ (2 ^ rt s i)).testBit (2 ^ rt s c)) 7 = fb_ct (fun i => JB s c i && v.testBit (2 ^ i)) 7 := fb_ct_cong fun i hi => by
      rw [gath_b hi, Bool.and_comm]
      congr 1
      rw [Nat.testBit_two_pow, Bool.eq_iff_iff, decide_eq_true_eq, JB_iff]
      constructor
      · intro e; exact Jn_c (rt_iff.mp (pw_inj e))
      · intro h; rw [rt_eq h]
    unfold rT
    rw [ex_par, e]
  constructor
  · rintro ⟨-, h⟩ c hc hsc
    have h1 := bit c hc
    rw [h, Nat.zero_testBit] at h1
    have h2 := beq_eq_false_iff_ne.mp h1.symm
    omega
  · intro h
    refine ⟨hv, Nat.eq_of_testBit_eq fun j => ?_⟩
    rw [Nat.zero_testBit]
    cases hj : (rT s v).testBit j with
    | false => rfl
    | true =>
      have h1 := hj
      unfold rT at h1
      rw [ex_par] at h1
      have h2 : 0 < fb_ct (fun c => (gath v).testBit c && (2 ^ (2 ^ rt s c)).testBit j) 7 := by
        have := eq_of_beq h1; omega
      obtain ⟨c, hc, h3⟩ := fb_ct_pos.mp h2
      rw [Bool.and_eq_true, gath_b hc, Nat.testBit_two_pow, decide_eq_true_eq] at h3
      have h4 := h c hc (hvs c hc h3.1)
      rw [← h3.2, bit c hc, h4] at hj
      cases hj
end Pi2
end Pie
