/-! sets of faces as two longs -/
section Set
theorem mkN_cong {f g : Nat → Bool} : ∀ {n : Nat}, (∀ i, i < n → f i = g i) → mkN f n = mkN g n
  | 0, _ => rfl
  | n + 1, h => by
    unfold mkN
    rw [mkN_cong (fun i hi => h i (Nat.lt_succ_of_lt hi)), h n (Nat.lt_succ_self n)]
theorem mkN_and (f g : Nat → Bool) (n : Nat) : mkN f n &&& mkN g n = mkN (fun i => f i && g i) n :=
  Nat.eq_of_testBit_eq fun i => by
    rw [Nat.testBit_and, mkN_bit, mkN_bit, mkN_bit]
    cases decide (i < n) <;> cases f i <;> cases g i <;> rfl
theorem mkN_or (f g : Nat → Bool) (n : Nat) : mkN f n ||| mkN g n = mkN (fun i => f i || g i) n :=
  Nat.eq_of_testBit_eq fun i => by
    rw [Nat.testBit_or, mkN_bit, mkN_bit, mkN_bit]
    cases decide (i < n) <;> cases f i <;> cases g i <;> rfl
theorem mkN_xor (f g : Nat → Bool) (n : Nat) : mkN f n ^^^ mkN g n = mkN (fun i => f i ^^ g i) n :=
  Nat.eq_of_testBit_eq fun i => by
    rw [Nat.testBit_xor, mkN_bit, mkN_bit, mkN_bit]
    cases decide (i < n) <;> cases f i <;> cases g i <;> rfl
theorem mkN_pow {k n : Nat} (h : k < n) : mkN (fun i => i == k) n = 2 ^ k :=
  Nat.eq_of_testBit_eq fun i => by
    rw [mkN_bit, Nat.testBit_two_pow]
    by_cases hi : i = k
    · subst hi; simp [h]
    · have h1 : (i == k) = false := by simp [hi]
      rw [h1, Bool.and_false]
      simp; omega
theorem mkN_inj {f g : Nat → Bool} {n : Nat} (h : mkN f n = mkN g n) : ∀ i, i < n → f i = g i := fun i hi => by
  have h1 := congrArg (fun x => Nat.testBit x i) h
  simp only [mkN_bit, hi, decide_true, Bool.true_and] at h1
  exact h1
def enW (s : Nat → Bool) : Int64 := lN (mkN s 64)
abbrev sh64 (s : Nat → Bool) : Nat → Bool := fun i => s (i + 64)
/-- a set of faces as an object -/
abbrev fsS (s : Nat → Bool) : va_E := .inr (1, [.long (enW s), .long (enW (sh64 s))])
theorem enW_cong {f g : Nat → Bool} (h : ∀ i, i < 64 → f i = g i) : enW f = enW g := by unfold enW; rw [mkN_cong h]
theorem enW_and (f g : Nat → Bool) : enW f &&& enW g = enW (fun i => f i && g i) := by unfold enW; rw [fb_andL, mkN_and]
theorem enW_or (f g : Nat → Bool) : enW f ||| enW g = enW (fun i => f i || g i) := by unfold enW; rw [fb_orL, mkN_or]
theorem enW_xor (f g : Nat → Bool) : enW f ^^^ enW g = enW (fun i => f i ^^ g i) := by unfold enW; rw [fb_xorL, mkN_xor]
theorem enW_m1 : (-1 : Int64) = enW (fun _ => true) := by decide +kernel
theorem enW_not (f : Nat → Bool) : enW f ^^^ (-1) = enW (fun i => !f i) := by
  rw [enW_m1, enW_xor]
  exact enW_cong fun i _ => by cases f i <;> rfl
theorem sh_amt : ∀ f, f < 128 → ((nI f).toInt64 &&& 63) = ((nI (f % 64)).toInt64 &&& 63) := by decide +kernel
theorem sh_amtU : ∀ f, f < 128 → ((nI f).toInt64.toUInt64 &&& Int64.toUInt64 63) = ((nI (f % 64)).toInt64.toUInt64 &&& Int64.toUInt64 63) := by decide +kernel
theorem enW_bit {f : Nat} (hf : f < 128) : lN 1 <<< ((nI f).toInt64 &&& 63) = enW (fun i => i == f % 64) := by
  rw [sh_amt f hf, wb_shl 1 (Nat.mod_lt _ (by decide)), Nat.one_mul]
  unfold enW
  rw [mkN_pow (Nat.mod_lt _ (by decide))]
theorem enW_get (s : Nat → Bool) {f : Nat} (hf : f < 128) : lg_cmp (((enW s).toUInt64 >>> ((nI f).toInt64.toUInt64 &&& Int64.toUInt64 63)).toInt64 &&& lN 1) (lN 0) = 0 ↔ s (f % 64) = false := by
  have hm : f % 64 < 64 := Nat.mod_lt _ (by decide)
  rw [lg_cmp_eq, sh_amtU f hf]
  unfold enW
  rw [wb_shr (mkN_lt s 64) hm, fb_andL]
  have h1 : mkN s 64 / 2 ^ (f % 64) &&& 1 = (if s (f % 64) then 1 else 0) := by
    rw [Nat.and_one_is_mod]
    have h2 := mkN_bit s 64 (f % 64)
    rw [Nat.testBit_eq_decide_div_mod_eq, decide_eq_true hm, Bool.true_and] at h2
    cases hs : s (f % 64) with
    | true => rw [hs] at h2; exact of_decide_eq_true h2
    | false =>
      rw [hs] at h2
      have := of_decide_eq_false h2
      show _ = 0
      omega
  rw [h1]
  cases s (f % 64)
  · simp
  · simp only [if_true]
    constructor
    · intro h; exact absurd h (by decide +kernel)
    · intro h; cases h
end Set
