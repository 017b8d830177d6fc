/-! shapes, as sets of faces with the empty one; the borders as rows of bits; ranks -/
section Mat
/-- the sum of what t tells for the bits below n -/
def ex (t : Nat → Nat) (v : Nat) : Nat → Nat
  | 0 => 0
  | n + 1 => ex t v n ^^^ (bif v.testBit n then t n else 0)
theorem xor4 (a b c e : Nat) : a ^^^ b ^^^ (c ^^^ e) = a ^^^ c ^^^ (b ^^^ e) := by
  rw [Nat.xor_assoc, ← Nat.xor_assoc b, Nat.xor_comm b c, Nat.xor_assoc c, ← Nat.xor_assoc]
theorem ex_0 (t : Nat → Nat) : ∀ n, ex t 0 n = 0
  | 0 => rfl
  | n + 1 => by unfold ex; rw [ex_0 t n, Nat.zero_testBit]; exact Nat.xor_self 0
theorem ex_x (t : Nat → Nat) (a b : Nat) : ∀ n, ex t (a ^^^ b) n = ex t a n ^^^ ex t b n
  | 0 => (Nat.xor_self 0).symm
  | n + 1 => by
    unfold ex
    rw [ex_x t a b n, Nat.testBit_xor, xor4]
    congr 1
    cases a.testBit n <;> cases b.testBit n
    · exact (Nat.xor_self 0).symm
    · exact (Nat.zero_xor _).symm
    · exact (Nat.xor_zero _).symm
    · exact (Nat.xor_self _).symm
theorem ex_L (t : Nat → Nat) (n : Nat) : Lmap fun v => ex t v n := ⟨ex_0 t n, fun a b => ex_x t a b n⟩
theorem ex_e (t : Nat → Nat) (f : Nat) : ∀ n, ex t (2 ^ f) n = bif decide (f < n) then t f else 0
  | 0 => rfl
  | n + 1 => by
    unfold ex
    rw [ex_e t f n, Nat.testBit_two_pow]
    by_cases h : f = n
    · subst h
      rw [decide_eq_true rfl, decide_eq_false (Nat.lt_irrefl f), decide_eq_true (Nat.lt_succ_self f)]
      exact Nat.zero_xor _
    · rw [decide_eq_false h]
      have : decide (f < n + 1) = decide (f < n) := by simp; omega
      rw [this]
      exact Nat.xor_zero _
theorem ex_e' {t : Nat → Nat} {f n : Nat} (h : f < n) : ex t (2 ^ f) n = t f := by rw [ex_e, decide_eq_true h]; rfl
theorem ex_lt {t : Nat → Nat} {M : Nat} (v : Nat) : ∀ n, (∀ f, f < n → t f < 2 ^ M) → ex t v n < 2 ^ M
  | 0, _ => Nat.two_pow_pos M
  | n + 1, h => by
    unfold ex
    refine Nat.xor_lt_two_pow (ex_lt v n fun f hf => h f (Nat.lt_succ_of_lt hf)) ?_
    cases v.testBit n
    · exact Nat.two_pow_pos M
    · exact h n (Nat.lt_succ_self n)
theorem ex_id : ∀ {n v : Nat}, v < 2 ^ n → ex (fun f => 2 ^ f) v n = v := by
  intro n v hv
  have h : ∀ n i, (ex (fun f => 2 ^ f) v n).testBit i = (decide (i < n) && v.testBit i) := by
    intro n
    induction n with
    | zero => intro i; show Nat.testBit 0 i = _; simp
    | succ n ih =>
      intro i
      unfold ex
      rw [Nat.testBit_xor, ih]
      by_cases hi : i = n
      · subst hi
        rw [decide_eq_false (Nat.lt_irrefl i), decide_eq_true (Nat.lt_succ_self i)]
        cases hv : v.testBit i
        · show (false ^^ Nat.testBit 0 i) = _; simp
        · show (false ^^ Nat.testBit (2 ^ i) i) = _; simp
      · have h1 : decide (i < n + 1) = decide (i < n) := by simp; omega
        rw [h1]
        have h2 : (bif v.testBit n then 2 ^ n else 0).testBit i = false := by
          cases v.testBit n
          · show Nat.testBit 0 i = false; simp
          · show Nat.testBit (2 ^ n) i = false
            rw [Nat.testBit_two_pow]; exact decide_eq_false (fun h => hi h.symm)
        rw [h2, Bool.xor_false]
  refine Nat.eq_of_testBit_eq fun i => ?_
  rw [h]
  by_cases hi : i < n
  · rw [decide_eq_true hi, Bool.true_and]
  · rw [decide_eq_false hi, Bool.false_and]
    exact (Nat.testBit_lt_two_pow (Nat.lt_of_lt_of_le hv (Nat.pow_le_pow_right (by decide) (by omega)))).symm
theorem L_ex {T : Nat → Nat} (hT : Lmap T) (t : Nat → Nat) (v : Nat) : ∀ n, T (ex t v n) = ex (fun f => T (t f)) v n
  | 0 => hT.1
  | n + 1 => by
    unfold ex
    rw [hT.2, L_ex hT t v n]
    congr 1
    cases v.testBit n
    · exact hT.1
    · rfl
theorem ex_cg {t t' : Nat → Nat} (v : Nat) : ∀ n, (∀ f, f < n → t f = t' f) → ex t v n = ex t' v n
  | 0, _ => rfl
  | n + 1, h => by
    unfold ex
    rw [ex_cg v n fun f hf => h f (Nat.lt_succ_of_lt hf), h n (Nat.lt_succ_self n)]
/-- maps that keep sums, and agree for single bits, agree -/
theorem L_ext {T T' : Nat → Nat} (hT : Lmap T) (hT' : Lmap T') {n v : Nat} (hv : v < 2 ^ n) (h : ∀ f, f < n → T (2 ^ f) = T' (2 ^ f)) : T v = T' v := by
  have h1 := L_ex hT (fun f => 2 ^ f) v n
  have h2 := L_ex hT' (fun f => 2 ^ f) v n
  rw [ex_id hv] at h1 h2
  rw [h1, h2]
  exact ex_cg v n h
theorem L_comp {T T' : Nat → Nat} (hT : Lmap T) (hT' : Lmap T') : Lmap fun v => T (T' v) := ⟨by show T (T' 0) = 0; rw [hT'.1, hT.1], fun a b => by show T (T' (a ^^^ b)) = T (T' a) ^^^ T (T' b); rw [hT'.2, hT.2]⟩
theorem L_xor {T T' : Nat → Nat} (hT : Lmap T) (hT' : Lmap T') : Lmap fun v => T v ^^^ T' v := ⟨by show T 0 ^^^ T' 0 = 0; rw [hT'.1, hT.1]; rfl, fun a b => by show T (a ^^^ b) ^^^ T' (a ^^^ b) = T a ^^^ T' a ^^^ (T b ^^^ T' b); rw [hT'.2, hT.2, xor4]⟩
theorem L_id : Lmap fun v => v := ⟨rfl, fun _ _ => rfl⟩
theorem L_0 : Lmap fun _ => 0 := ⟨rfl, fun _ _ => (Nat.xor_self 0).symm⟩
/-- the numbers below n of which p tells yes, from the greatest on -/
def fs (p : Nat → Bool) : Nat → List Nat
  | 0 => []
  | n + 1 => bif p n then n :: fs p n else fs p n
theorem fs_mem {p : Nat → Bool} {f : Nat} : ∀ {n : Nat}, f ∈ fs p n ↔ f < n ∧ p f = true
  | 0 => by simp [fs]
  | n + 1 => by
    unfold fs
    cases hp : p n with
    | true =>
      show f ∈ n :: fs p n ↔ _
      rw [List.mem_cons, fs_mem]
      constructor
      · rintro (rfl | ⟨h1, h2⟩)
        · exact ⟨Nat.lt_succ_self _, hp⟩
        · exact ⟨by omega, h2⟩
      · rintro ⟨h1, h2⟩
        by_cases h : f = n
        · exact Or.inl h
        · exact Or.inr ⟨by omega, h2⟩
    | false =>
      show f ∈ fs p n ↔ _
      rw [fs_mem]
      constructor
      · rintro ⟨h1, h2⟩; exact ⟨by omega, h2⟩
      · rintro ⟨h1, h2⟩
        refine ⟨?_, h2⟩
        have : f ≠ n := fun e => by subst e; rw [hp] at h2; cases h2
        omega
def cs (p : Nat → Bool) (n : Nat) : List Nat := (fs p n).map fun f => 2 ^ f
theorem cs_in {p : Nat → Bool} {n f : Nat} (h1 : f < n) (h2 : p f = true) : sp (cs p n) (2 ^ f) = true := sp_m (List.mem_map.mpr ⟨f, fs_mem.mpr ⟨h1, h2⟩, rfl⟩)
theorem cs_mem {p : Nat → Bool} {n u : Nat} : u ∈ cs p n ↔ ∃ f, f < n ∧ p f = true ∧ u = 2 ^ f := by
  unfold cs
  rw [List.mem_map]
  constructor
  · rintro ⟨f, h, rfl⟩
    obtain ⟨h1, h2⟩ := fs_mem.mp h
    exact ⟨f, h1, h2, rfl⟩
  · rintro ⟨f, h1, h2, rfl⟩
    exact ⟨f, fs_mem.mpr ⟨h1, h2⟩, rfl⟩
/-- what a functional that is no on a list tells of its span -/
theorem sp_fun {φ : Nat → Bool} (h0 : φ 0 = false) (hx : ∀ a b, φ (a ^^^ b) = (φ a ^^ φ b)) : ∀ {L : List Nat} {v : Nat}, (∀ u ∈ L, φ u = false) → sp L v = true → φ v = false
  | [], v, _, h => by rw [show v = 0 from eq_of_beq h]; exact h0
  | u :: L, v, hL, h => by
    have h1 := fun w hw => hL w (List.mem_cons_of_mem u hw)
    rcases sp_cons.mp h with h | h
    · exact sp_fun h0 hx h1 h
    · have h2 := sp_fun h0 hx h1 h
      rw [hx, hL u List.mem_cons_self, Bool.xor_false] at h2
      exact h2
theorem sp_bit {L : List Nat} {v g : Nat} (hL : ∀ u ∈ L, u.testBit g = false) (h : sp L v = true) : v.testBit g = false := sp_fun (φ := fun v => v.testBit g) (Nat.zero_testBit g) (fun a b => Nat.testBit_xor ..) hL h
theorem sp_lt : ∀ {L : List Nat} {v M : Nat}, (∀ u ∈ L, u < 2 ^ M) → sp L v = true → v < 2 ^ M
  | [], v, M, _, h => by rw [show v = 0 from eq_of_beq h]; exact Nat.two_pow_pos M
  | u :: L, v, M, hL, h => by
    have h1 := fun w hw => hL w (List.mem_cons_of_mem u hw)
    rcases sp_cons.mp h with h | h
    · exact sp_lt h1 h
    · have h2 := Nat.xor_lt_two_pow (sp_lt h1 h) (hL u List.mem_cons_self)
      rw [xor_cc] at h2; exact h2
theorem ex_sp {L : List Nat} {t : Nat → Nat} {v : Nat} : ∀ n, (∀ f, f < n → v.testBit f = true → sp L (t f) = true) → sp L (ex t v n) = true
  | 0, _ => sp_0 L
  | n + 1, h => by
    unfold ex
    refine sp_x (ex_sp n fun f hf => h f (Nat.lt_succ_of_lt hf)) ?_
    cases hv : v.testBit n
    · exact sp_0 L
    · exact h n (Nat.lt_succ_self n) hv
theorem cs_sp {p : Nat → Bool} {n v : Nat} : sp (cs p n) v = true ↔ v < 2 ^ n ∧ ∀ f, v.testBit f = true → p f = true := by
  constructor
  · intro h
    refine ⟨sp_lt (fun u hu => ?_) h, fun f hf => ?_⟩
    · obtain ⟨f, h1, -, rfl⟩ := cs_mem.mp hu
      exact Nat.pow_lt_pow_right (by decide) h1
    · cases hp : p f with
      | true => rfl
      | false =>
        rw [sp_bit (g := f) (fun u hu => by
          obtain ⟨g, -, h2, rfl⟩ := cs_mem.mp hu
          rw [Nat.testBit_two_pow]
          exact decide_eq_false fun e => by subst e; rw [hp] at h2; cases h2) h] at hf
        cases hf
  · rintro ⟨h1, h2⟩
    have h3 := ex_sp (L := cs p n) (t := fun f => 2 ^ f) (v := v) n fun f hf hv => cs_in hf (h2 f hv)
    rw [ex_id h1] at h3
    exact h3
theorem cs_s (p : Nat → Bool) (n : Nat) : cs p (n + 1) = bif p n then 2 ^ n :: cs p n else cs p n := by
  show (bif p n then n :: fs p n else fs p n).map (fun f => 2 ^ f) = _
  cases p n <;> rfl
theorem cs_rk (p : Nat → Bool) : ∀ n, rk (cs p n) = fb_ct p n
  | 0 => rfl
  | n + 1 => by
    rw [fb_ct_succ, ← cs_rk p n, cs_s]
    cases hp : p n with
    | true =>
      show rk (2 ^ n :: cs p n) = _
      rw [rk_out]
      · rfl
      · cases h : sp (cs p n) (2 ^ n) with
        | false => rfl
        | true => exact absurd (cs_sp.mp h).1 (Nat.lt_irrefl _)
    | false => rfl
end Mat
