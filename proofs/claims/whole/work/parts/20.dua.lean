/-! rows and columns; maps of bits; duality -/
section Dua
theorem rk_cle (u : Nat) (L : List Nat) : rk (u :: L) ≤ rk L + 1 := by
  rw [rk_c]
  cases sp L u
  · exact Nat.le_refl _
  · exact Nat.le_succ _
theorem bs_sub : ∀ {L : List Nat} {u : Nat}, u ∈ bs L → u ∈ L
  | [], _, h => h
  | a :: L, u, h => by
    unfold bs at h
    cases ha : sp L a with
    | true => rw [ha] at h; exact List.mem_cons_of_mem _ (bs_sub h)
    | false =>
      rw [ha] at h
      rcases List.mem_cons.mp h with rfl | h
      · exact List.mem_cons_self
      · exact List.mem_cons_of_mem _ (bs_sub h)
theorem mkN_0 (n : Nat) : mkN (fun _ => false) n = 0 := Nat.eq_of_testBit_eq fun i => by rw [mkN_bit, Bool.and_false, Nat.zero_testBit]
theorem mkN_id {u n : Nat} (h : u < 2 ^ n) : mkN (fun i => u.testBit i) n = u := Nat.eq_of_testBit_eq fun i => by
  rw [mkN_bit]
  by_cases hi : i < n
  · rw [decide_eq_true hi, Bool.true_and]
  · rw [decide_eq_false hi, Bool.false_and]
    exact (Nat.testBit_lt_two_pow (Nat.lt_of_lt_of_le h (Nat.pow_le_pow_right (by decide) (by omega)))).symm
/-- if all rows lie in what B spans, the columns have no more free ones than B has -/
theorem rk_col {F : Nat} (Cs : List Nat) (hCs : ∀ f ∈ Cs, f < F) (G : Nat) : ∀ (B : List Nat) (a : Nat → Nat → Bool), (∀ u ∈ B, u < 2 ^ F) → (∀ g, g < G → sp B (mkN (a g) F) = true) → rk (Cs.map fun f => mkN (fun g => a g f) G) ≤ B.length
  | [], a, _, h => by
    have h1 : rk (Cs.map fun f => mkN (fun g => a g f) G) ≤ rk [] := rk_le fun u hu => by
      obtain ⟨f, hf, rfl⟩ := List.mem_map.mp hu
      have h2 : mkN (fun g => a g f) G = 0 := by
        rw [← mkN_0 G]
        refine mkN_cong fun g hg => ?_
        have h3 : mkN (a g) F = 0 := eq_of_beq (h g hg)
        have h4 := congrArg (fun x => Nat.testBit x f) h3
        simp only [mkN_bit, hCs f hf, decide_true, Bool.true_and, Nat.zero_testBit] at h4
        exact h4
      rw [h2]; exact sp_0 _
    exact h1
  | u :: B, a, hB, h => by
    have ih := rk_col Cs hCs G B (fun g f => a g f ^^ (!(sp B (mkN (a g) F)) && u.testBit f)) (fun w hw => hB w (List.mem_cons_of_mem _ hw)) (fun g hg => by
      cases hs : sp B (mkN (a g) F) with
      | true =>
        have e : mkN (fun f => a g f ^^ (!true && u.testBit f)) F = mkN (a g) F := mkN_cong fun i _ => by simp
        rw [e]; exact hs
      | false =>
        have e : mkN (fun f => a g f ^^ (!false && u.testBit f)) F = mkN (a g) F ^^^ u := by
          have e1 : mkN (a g) F ^^^ u = mkN (a g) F ^^^ mkN (fun i => u.testBit i) F := by rw [mkN_id (hB u List.mem_cons_self)]
          rw [e1, mkN_xor]
          exact mkN_cong fun i _ => by simp
        rw [e]
        rcases sp_cons.mp (h g hg) with h1 | h1
        · rw [h1] at hs; cases hs
        · exact h1)
    have h1 : rk (Cs.map fun f => mkN (fun g => a g f) G) ≤ rk (mkN (fun g => !(sp B (mkN (a g) F))) G :: Cs.map fun f => mkN (fun g => a g f ^^ (!(sp B (mkN (a g) F)) && u.testBit f)) G) := rk_le fun w hw => by
      obtain ⟨f, hf, rfl⟩ := List.mem_map.mp hw
      have hin : sp (Cs.map fun f => mkN (fun g => a g f ^^ (!(sp B (mkN (a g) F)) && u.testBit f)) G) (mkN (fun g => a g f ^^ (!(sp B (mkN (a g) F)) && u.testBit f)) G) = true := sp_m (List.mem_map.mpr ⟨f, hf, rfl⟩)
      cases hu : u.testBit f with
      | true =>
        refine sp_cons.mpr (Or.inr ?_)
        rw [mkN_xor]
        rw [mkN_cong (f := fun g => a g f ^^ (!(sp B (mkN (a g) F)) && u.testBit f)) (g := fun g => a g f ^^ !(sp B (mkN (a g) F))) (fun i _ => by rw [hu, Bool.and_true])] at hin
        exact hin
      | false =>
        refine sp_w ?_
        rw [mkN_cong (f := fun g => a g f ^^ (!(sp B (mkN (a g) F)) && u.testBit f)) (g := fun g => a g f) (fun i _ => by rw [hu, Bool.and_false, Bool.xor_false])] at hin
        exact hin
    have h2 := rk_cle (mkN (fun g => !(sp B (mkN (a g) F))) G) (Cs.map fun f => mkN (fun g => a g f ^^ (!(sp B (mkN (a g) F)) && u.testBit f)) G)
    show _ ≤ B.length + 1
    omega
theorem rk_cr (a : Nat → Nat → Bool) (G F : Nat) : rk ((List.range F).map fun f => mkN (fun g => a g f) G) ≤ rk ((List.range G).map fun g => mkN (a g) F) := by
  have h := rk_col (F := F) (List.range F) (fun f hf => List.mem_range.mp hf) G (bs ((List.range G).map fun g => mkN (a g) F)) a (fun u hu => by
    obtain ⟨g, -, rfl⟩ := List.mem_map.mp (bs_sub hu)
    exact mkN_lt _ _) (fun g hg => bs_sp.mpr (sp_m (List.mem_map.mpr ⟨g, List.mem_range.mpr hg, rfl⟩)))
  rw [bs_len] at h
  exact h
/-- as many free rows as free columns -/
theorem rk_tr (a : Nat → Nat → Bool) (G F : Nat) : rk ((List.range F).map fun f => mkN (fun g => a g f) G) = rk ((List.range G).map fun g => mkN (a g) F) :=
  Nat.le_antisymm (rk_cr a G F) (rk_cr (fun f g => a g f) F G)
/-- the bits for which p tells yes -/
def pr (p : Nat → Bool) (v : Nat) : Nat := mkN (fun i => v.testBit i && p i) 128
theorem pr_L (p : Nat → Bool) : Lmap (pr p) := ⟨(mkN_cong fun i _ => by rw [Nat.zero_testBit, Bool.false_and]).trans (mkN_0 128), fun a b => by
  show mkN _ 128 = mkN _ 128 ^^^ mkN _ 128
  rw [mkN_xor]
  exact mkN_cong fun i _ => by rw [Nat.testBit_xor]; cases a.testBit i <;> cases b.testBit i <;> cases p i <;> rfl⟩
theorem pr_bit (p : Nat → Bool) (v i : Nat) : (pr p v).testBit i = (decide (i < 128) && (v.testBit i && p i)) := mkN_bit _ _ _
theorem pr_z {p : Nat → Bool} {v : Nat} (h : v < 2 ^ 128) : pr p v = 0 ↔ ∀ i, v.testBit i = true → p i = false := by
  constructor
  · intro h0 i hi
    have h1 := congrArg (fun x => Nat.testBit x i) h0
    have hl : i < 128 := Nat.lt_of_not_le fun hc => by
      rw [Nat.testBit_lt_two_pow (Nat.lt_of_lt_of_le h (Nat.pow_le_pow_right (by decide) hc))] at hi; cases hi
    simp only [pr_bit, hl, decide_true, hi, Bool.true_and, Nat.zero_testBit] at h1
    exact h1
  · intro h0
    refine Nat.eq_of_testBit_eq fun i => ?_
    rw [pr_bit, Nat.zero_testBit]
    cases hv : v.testBit i with
    | true => rw [h0 i hv]; simp
    | false => simp
/-- the bits, by another order of the places -/
def pm (π : Nat → Nat) (v : Nat) : Nat := mkN (fun i => v.testBit (π i)) 128
theorem pm_L (π : Nat → Nat) : Lmap (pm π) := ⟨(mkN_cong fun i _ => Nat.zero_testBit _).trans (mkN_0 128), fun a b => by
  show mkN _ 128 = mkN _ 128 ^^^ mkN _ 128
  rw [mkN_xor]
  exact mkN_cong fun i _ => Nat.testBit_xor ..⟩
theorem pm_bit (π : Nat → Nat) (v i : Nat) : (pm π v).testBit i = (decide (i < 128) && v.testBit (π i)) := mkN_bit _ _ _
/-- an order of the places that is its own way back -/
def Inv (π : Nat → Nat) : Prop := ∀ i, i < 128 → π i < 128 ∧ π (π i) = i
theorem bit_128 {v i : Nat} (h : v < 2 ^ 128) (hi : v.testBit i = true) : i < 128 := Nat.lt_of_not_le fun hc => by
  rw [Nat.testBit_lt_two_pow (Nat.lt_of_lt_of_le h (Nat.pow_le_pow_right (by decide) hc))] at hi; cases hi
theorem pm_inj {π : Nat → Nat} (hπ : Inv π) {v : Nat} (hv : v < 2 ^ 128) (h : pm π v = 0) : v = 0 := by
  refine Nat.eq_of_testBit_eq fun i => ?_
  rw [Nat.zero_testBit]
  cases hi : v.testBit i with
  | false => rfl
  | true =>
    have hl := bit_128 hv hi
    have h1 := congrArg (fun x => Nat.testBit x (π i)) h
    obtain ⟨h2, h3⟩ := hπ i hl
    simp only [pm_bit, h2, decide_true, h3, hi, Bool.true_and, Nat.zero_testBit] at h1
    exact h1
theorem pm_e {π : Nat → Nat} (hπ : Inv π) {f : Nat} (hf : f < 128) : pm π (2 ^ f) = 2 ^ π f := by
  refine Nat.eq_of_testBit_eq fun i => ?_
  rw [pm_bit, Nat.testBit_two_pow, Nat.testBit_two_pow]
  obtain ⟨h2, h3⟩ := hπ f hf
  by_cases hi : i < 128
  · obtain ⟨h4, h5⟩ := hπ i hi
    rw [decide_eq_true hi, Bool.true_and]
    by_cases e : f = π i
    · have e2 : π f = i := by rw [e]; exact h5
      rw [decide_eq_true e, decide_eq_true e2]
    · have e2 : ¬ π f = i := fun e2 => e (by rw [← e2, h3])
      rw [decide_eq_false e, decide_eq_false e2]
  · have e2 : ¬ π f = i := fun e2 => hi (e2 ▸ h2)
    rw [decide_eq_false hi, decide_eq_false e2]; rfl
theorem isP_iff {a b : Nat} : isP a b = true ↔ ∀ i, a.testBit i = true → b.testBit i = true := by
  unfold isP
  rw [beq_iff_eq]
  constructor
  · intro h i hi
    rw [← h, Nat.testBit_and, Bool.and_eq_true] at hi
    exact hi.2
  · intro h
    refine Nat.eq_of_testBit_eq fun i => ?_
    rw [Nat.testBit_and]
    cases hi : a.testBit i with
    | true => rw [h i hi]; rfl
    | false => rfl
theorem bd_bit : ∀ g, g < 128 → ∀ f, f < 128 → (bd g).testBit f = (isP f g && pc f + 1 == pc g) := by decide +kernel
theorem pc_co : ∀ M, M < 128 → ∀ f, f < 128 → isP f M = true → pc (M ^^^ f) + pc f = pc M := by decide +kernel
/-- all faces of M -/
def fullX (M : Nat) : Nat → Bool := fun f => isP f M
/-- those that X doesn't have -/
def restX (X : Nat → Bool) (M : Nat) : Nat → Bool := fun f => isP f M && !X f
/-- the other shape, with the empty face -/
def dualX (X : Nat → Bool) (M : Nat) : Nat → Bool := fun f => isP f M && !X (M ^^^ f)
theorem sub_xor : ∀ f, f < 128 → ∀ k, k < 7 → f.testBit k = true → f - 2 ^ k = f ^^^ 2 ^ k := by decide +kernel
theorem isP_dn {f M k : Nat} (hf : f < 128) (hk7 : k < 7) (h : isP f M = true) (hk : f.testBit k = true) : isP (f - 2 ^ k) M = true := by
  rw [isP_iff] at h ⊢
  intro i hi
  refine h i ?_
  by_cases e : i = k
  · subst e; exact hk
  · rw [sub_xor f hf k hk7 hk, Nat.testBit_xor, Nat.testBit_two_pow, decide_eq_false (fun e2 => e e2.symm), Bool.xor_false] at hi
    exact hi
theorem fullX_C (M : Nat) : Cx (fullX M) := fun f k hf hk7 hk h => isP_dn hf hk7 h hk
theorem fullX_acy {M : Nat} (hM : M < 128) (hM0 : M ≠ 0) (n : Nat) : fX (fullX M) n = rX (fullX M) n + rX (fullX M) (n + 1) := by
  obtain ⟨a, ha⟩ := Nat.exists_testBit_of_ne_zero hM0
  have ha7 : a < 7 := Nat.lt_of_not_le fun hc => by
    rw [Nat.testBit_lt_two_pow (Nat.lt_of_lt_of_le (show M < 2 ^ 7 from hM) (Nat.pow_le_pow_right (by decide) hc))] at ha; cases ha
  refine acy (fullX_C M) ha7 (fun f _ hf => ?_) n
  show isP (f ||| 2 ^ a) M = true
  have hf : isP f M = true := hf
  rw [isP_iff] at hf ⊢
  intro i hi
  rw [Nat.testBit_or, Bool.or_eq_true] at hi
  rcases hi with hi | hi
  · exact hf i hi
  · rw [Nat.testBit_two_pow, decide_eq_true_eq] at hi
    exact hi ▸ ha
section Two
variable {X : Nat → Bool} {M : Nat}
theorem dual_1 (hX : Cx X) (hM : M < 128) (hM0 : M ≠ 0) (hXM : ∀ f, f < 128 → X f = true → isP f M = true) (n : Nat) : rX (fullX M) (n + 1) + rX X n = fX X n + rk ((bX (fullX M) (n + 1)).map (pr (restX X M))) := by
  obtain ⟨Z, hZ, hr⟩ := rk_ker (pr_L (restX X M)) (bX (fullX M) (n + 1))
  obtain ⟨Y, hY, hy⟩ := zX X n
  have hYZ : rk Z = rk Y := by
    refine rk_eq (fun u hu => (hY u).mpr ?_) (fun u hu => (hZ u).mpr ?_)
    · obtain ⟨h1, h2⟩ := (hZ u).mp (sp_m hu)
      have h3 : sp (cX (fullX M) n) u = true := sp_mono (fun w hw => bX_in (fullX_C M) hw) h1
      refine ⟨cX_sp.mpr ⟨cX_lt h3, fun f hf => ?_⟩, bX_z h1⟩
      obtain ⟨h4, h5⟩ := (cX_sp.mp h3).2 f hf
      refine ⟨?_, h5⟩
      have h6 := (pr_z (cX_lt h3)).mp h2 f hf
      have h4 : isP f M = true := h4
      have h6 : (isP f M && !X f) = false := h6
      rw [h4, Bool.true_and] at h6
      cases hx : X f with
      | true => rfl
      | false => rw [hx] at h6; cases h6
    · obtain ⟨h1, h2⟩ := (hY u).mp (sp_m hu)
      have h1s := cX_sp.mp h1
      have h3 : sp (cX (fullX M) n) u = true := cX_sp.mpr ⟨h1s.1, fun f hf => ⟨hXM f (bit_128 h1s.1 hf) (h1s.2 f hf).1, (h1s.2 f hf).2⟩⟩
      refine ⟨rX_full (fullX_C M) (fullX_acy hM hM0 n) h3 h2, (pr_z h1s.1).mpr fun f hf => ?_⟩
      show (isP f M && !X f) = false
      rw [(h1s.2 f hf).1]; simp
  have hr : rX (fullX M) (n + 1) = rk Z + rk ((bX (fullX M) (n + 1)).map (pr (restX X M))) := hr
  omega
/-- the matrix: which face of n + 1 corners has which other one, that isn't in X, in its border -/
def dma (X : Nat → Bool) (M n : Nat) (g f : Nat) : Bool := (isP g M && pc g == n + 1) && ((bd g).testBit f && restX X M f)
theorem dual_r (n : Nat) : rk ((bX (fullX M) (n + 1)).map (pr (restX X M))) = rk ((List.range 128).map fun g => mkN (dma X M n g) 128) := by
  refine rk_eq (fun u hu => ?_) (fun u hu => ?_)
  · obtain ⟨w, hw, rfl⟩ := List.mem_map.mp hu
    obtain ⟨g, h1, h2, h3, rfl⟩ := bX_u hw
    refine sp_m (List.mem_map.mpr ⟨g, List.mem_range.mpr h1, ?_⟩)
    refine mkN_cong fun i _ => ?_
    show ((isP g M && pc g == n + 1) && ((bd g).testBit i && restX X M i)) = _
    have h2 : isP g M = true := h2
    rw [h2, h3, beq_self_eq_true]; rfl
  · obtain ⟨g, hg, rfl⟩ := List.mem_map.mp hu
    have hg := List.mem_range.mp hg
    cases h : (isP g M && pc g == n + 1) with
    | true =>
      rw [Bool.and_eq_true, beq_iff_eq] at h
      have e : mkN (dma X M n g) 128 = pr (restX X M) (bd g) := mkN_cong fun i _ => by
        show ((isP g M && pc g == n + 1) && ((bd g).testBit i && restX X M i)) = _
        rw [h.1, h.2, beq_self_eq_true]; rfl
      rw [e]
      refine sp_m (List.mem_map.mpr ⟨bd g, ?_, rfl⟩)
      exact List.mem_map.mpr ⟨g, fs_mem.mpr ⟨hg, px_1.mpr ⟨h.1, h.2⟩⟩, rfl⟩
    | false =>
      have e : mkN (dma X M n g) 128 = 0 := by
        rw [← mkN_0 128]
        exact mkN_cong fun i _ => by
          show ((isP g M && pc g == n + 1) && ((bd g).testBit i && restX X M i)) = _
          rw [h]; rfl
      rw [e]; exact sp_0 _
theorem inv_x (hM : M < 128) : Inv fun i => M ^^^ i := fun i hi => ⟨xor_128 hM hi, by show M ^^^ (M ^^^ i) = i; rw [← Nat.xor_assoc, Nat.xor_self, Nat.zero_xor]⟩
theorem xor_isP {f : Nat} (h : isP f M = true) : isP (M ^^^ f) M = true := by
  rw [isP_iff] at h ⊢
  intro i hi
  rw [Nat.testBit_xor] at hi
  cases hm : M.testBit i with
  | true => rfl
  | false =>
    rw [hm, Bool.false_xor] at hi
    rw [h i hi] at hm; cases hm
theorem xor_xx (f : Nat) : M ^^^ (M ^^^ f) = f := by rw [← Nat.xor_assoc, Nat.xor_self, Nat.zero_xor]
theorem co_isP {f g : Nat} (hf : isP f M = true) : isP (M ^^^ g) (M ^^^ f) = (isP g M && isP f g) := by
  rw [Bool.eq_iff_iff, Bool.and_eq_true, isP_iff, isP_iff, isP_iff]
  rw [isP_iff] at hf
  constructor
  · intro h
    constructor
    · intro i hi
      cases hm : M.testBit i with
      | true => rfl
      | false =>
        have h1 := h i (by rw [Nat.testBit_xor, hm, hi]; rfl)
        rw [Nat.testBit_xor, hm, Bool.false_xor] at h1
        rw [hf i h1] at hm; cases hm
    · intro i hi
      cases hg : g.testBit i with
      | true => rfl
      | false =>
        have hm := hf i hi
        have h1 := h i (by rw [Nat.testBit_xor, hm, hg]; rfl)
        rw [Nat.testBit_xor, hm, hi] at h1; cases h1
  · rintro ⟨h1, h2⟩ i hi
    rw [Nat.testBit_xor] at hi ⊢
    cases hm : M.testBit i with
    | true =>
      rw [hm] at hi
      cases hf1 : f.testBit i with
      | false => rfl
      | true => rw [h2 i hf1] at hi; cases hi
    | false =>
      rw [hm, Bool.false_xor] at hi
      rw [h1 i hi] at hm; cases hm
theorem dual_c (hM : M < 128) {n : Nat} (hn : n ≤ pc M) : rk ((List.range 128).map fun f => mkN (fun g => dma X M n g f) 128) = rX (dualX X M) (pc M - n) := by
  have hi := rk_inj (pm_L fun i => M ^^^ i) (L := bX (dualX X M) (pc M - n)) (fun v hv h0 => pm_inj (inv_x hM) (bX_lt hv) h0)
  show _ = rk (bX (dualX X M) (pc M - n))
  rw [← hi]
  have key : ∀ f, f < 128 → isP f M = true → pc f = n → restX X M f = true → mkN (fun g => dma X M n g f) 128 = pm (fun i => M ^^^ i) (bd (M ^^^ f)) := fun f hf hfM hfn hfr => mkN_cong fun g hg => by
    show ((isP g M && pc g == n + 1) && ((bd g).testBit f && restX X M f)) = (bd (M ^^^ f)).testBit (M ^^^ g)
    rw [hfr, Bool.and_true, bd_bit g hg f hf, bd_bit _ (xor_128 hM hf) _ (xor_128 hM hg), co_isP hfM]
    cases hgM : isP g M with
    | false => rfl
    | true =>
      have h1 := pc_co M hM g hg hgM
      have h2 := pc_co M hM f hf hfM
      cases hfg : isP f g with
      | false => simp
      | true =>
        have e : (pc g == n + 1) = (pc (M ^^^ g) + 1 == pc (M ^^^ f)) := by
          rw [Bool.eq_iff_iff, beq_iff_eq, beq_iff_eq]; omega
        have e2 : (pc f + 1 == pc g) = (pc g == n + 1) := by
          rw [Bool.eq_iff_iff, beq_iff_eq, beq_iff_eq]; omega
        rw [e2, ← e]; simp
  refine rk_eq (fun u hu => ?_) (fun u hu => ?_)
  · obtain ⟨f, hf, rfl⟩ := List.mem_map.mp hu
    have hf := List.mem_range.mp hf
    by_cases h : isP f M = true ∧ pc f = n ∧ restX X M f = true
    · obtain ⟨h1, h2, h3⟩ := h
      rw [key f hf h1 h2 h3]
      refine sp_m (List.mem_map.mpr ⟨_, ?_, rfl⟩)
      refine List.mem_map.mpr ⟨M ^^^ f, fs_mem.mpr ⟨xor_128 hM hf, px_1.mpr ⟨?_, ?_⟩⟩, rfl⟩
      · show (isP (M ^^^ f) M && !X (M ^^^ (M ^^^ f))) = true
        rw [xor_xx, xor_isP h1]
        have h3 : (isP f M && !X f) = true := h3
        rw [h1] at h3; exact h3
      · have := pc_co M hM f hf h1; omega
    · have e : mkN (fun g => dma X M n g f) 128 = 0 := by
        rw [← mkN_0 128]
        refine mkN_cong fun g hg => ?_
        show ((isP g M && pc g == n + 1) && ((bd g).testBit f && restX X M f)) = false
        rw [bd_bit g hg f hf]
        cases h3 : restX X M f with
        | false => simp
        | true =>
          have h1 : isP f M = true := by
            have h3 : (isP f M && !X f) = true := h3
            rw [Bool.and_eq_true] at h3; exact h3.1
          have h4 : ¬ pc f = n := fun e => h ⟨h1, e, h3⟩
          cases h5 : (pc g == n + 1) with
          | false => simp
          | true =>
            have h5 := eq_of_beq h5
            have : (pc f + 1 == pc g) = false := beq_eq_false_iff_ne.mpr (by omega)
            rw [this]; simp
      rw [e]; exact sp_0 _
  · obtain ⟨w, hw, rfl⟩ := List.mem_map.mp hu
    obtain ⟨h, h1, h2, h3, rfl⟩ := bX_u hw
    have h2 : (isP h M && !X (M ^^^ h)) = true := h2
    rw [Bool.and_eq_true] at h2
    have hp := pc_co M hM h h1 h2.1
    have hr : restX X M (M ^^^ h) = true := by
      show (isP (M ^^^ h) M && !X (M ^^^ h)) = true
      rw [xor_isP h2.1, h2.2]; rfl
    have hk := key (M ^^^ h) (xor_128 hM h1) (xor_isP h2.1) (by omega) hr
    rw [xor_xx] at hk
    rw [← hk]
    exact sp_m (List.mem_map.mpr ⟨M ^^^ h, List.mem_range.mpr (xor_128 hM h1), rfl⟩)
/-- the borders of the other shape -/
theorem dual_E (hX : Cx X) (hM : M < 128) (hM0 : M ≠ 0) (hXM : ∀ f, f < 128 → X f = true → isP f M = true) {n : Nat} (hn : n ≤ pc M) : rX (fullX M) (n + 1) + rX X n = fX X n + rX (dualX X M) (pc M - n) := by
  rw [dual_1 hX hM hM0 hXM n, dual_r, ← rk_tr, dual_c hM hn]
theorem dual_f (hM : M < 128) (hXM : ∀ f, f < 128 → X f = true → isP f M = true) {n : Nat} (hn : n ≤ pc M) : fX (dualX X M) (pc M - n) + fX X n = fX (fullX M) n := by
  have h1 : fX (dualX X M) (pc M - n) = fX (restX X M) n := by
    rw [← cX_rk, ← cX_rk]
    rw [← rk_inj (pm_L fun i => M ^^^ i) (L := cX (dualX X M) (pc M - n)) (fun v hv h0 => pm_inj (inv_x hM) (cX_lt hv) h0)]
    refine rk_eq (fun u hu => ?_) (fun u hu => ?_)
    · obtain ⟨w, hw, rfl⟩ := List.mem_map.mp hu
      obtain ⟨h, h1, h2, h3, rfl⟩ := cX_u hw
      have h2 : (isP h M && !X (M ^^^ h)) = true := h2
      rw [Bool.and_eq_true] at h2
      have hp := pc_co M hM h h1 h2.1
      rw [pm_e (inv_x hM) h1]
      refine cX_m (xor_128 hM h1) ?_ (by omega)
      show (isP (M ^^^ h) M && !X (M ^^^ h)) = true
      rw [xor_isP h2.1, h2.2]; rfl
    · obtain ⟨f, h1, h2, h3, rfl⟩ := cX_u hu
      have h2 : (isP f M && !X f) = true := h2
      rw [Bool.and_eq_true] at h2
      have hp := pc_co M hM f h1 h2.1
      have hm : sp (cX (dualX X M) (pc M - n)) (2 ^ (M ^^^ f)) = true := by
        refine cX_m (xor_128 hM h1) ?_ (by omega)
        show (isP (M ^^^ f) M && !X (M ^^^ (M ^^^ f))) = true
        rw [xor_xx, xor_isP h2.1, h2.2]; rfl
      have h9 := sp_T (pm_L fun i => M ^^^ i) hm
      rw [pm_e (inv_x hM) (xor_128 hM h1)] at h9
      have h9 : sp ((cX (dualX X M) (pc M - n)).map (pm fun i => M ^^^ i)) (2 ^ (M ^^^ (M ^^^ f))) = true := h9
      rw [xor_xx] at h9
      exact h9
  rw [h1]
  show fb_ct (px (restX X M) n) 128 + fb_ct (px X n) 128 = fb_ct (px (fullX M) n) 128
  rw [← fb_ct_or (p := px (restX X M) n) (q := px X n) (fun k _ => by
    rintro ⟨h2, h3⟩
    have h2 := (px_1.mp h2).1
    have h3 := (px_1.mp h3).1
    have h2 : (isP k M && !X k) = true := h2
    rw [h3] at h2; simp at h2)]
  refine fb_ct_cong fun k hk => ?_
  show (((isP k M && !X k) && pc k == n) || (X k && pc k == n)) = (isP k M && pc k == n)
  cases hx : X k with
  | false => simp
  | true => rw [hXM k hk hx]; simp
end Two
/-- how many holes, by their corners -/
def hX (X : Nat → Bool) (n : Nat) : Int := (fX X n : Int) - rX X n - rX X (n + 1)
/-- duality -/
theorem dual_h {X : Nat → Bool} {M : Nat} (hX1 : Cx X) (hM : M < 128) (hM0 : M ≠ 0) (hXM : ∀ f, f < 128 → X f = true → isP f M = true) {k : Nat} (hk : k + 1 ≤ pc M) : hX (dualX X M) (pc M - 1 - k) = hX X k := by
  have e1 := dual_E hX1 hM hM0 hXM (n := k + 1) hk
  have e2 := dual_E hX1 hM hM0 hXM (n := k) (by omega)
  have e3 := dual_f hM hXM (n := k + 1) hk
  have e4 := fullX_acy hM hM0 (k + 1)
  rw [show pc M - (k + 1) = pc M - 1 - k by omega] at e1 e3
  rw [show pc M - k = pc M - 1 - k + 1 by omega] at e2
  unfold hX
  omega
end Dua
