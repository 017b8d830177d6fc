/-! the places of the faces of one height in a long; what is kept of borders -/
section Slo
def sl (f : Nat) : Nat := fb_ct (fun g => decide (0 < g) && ht g == ht f) f
theorem sl_lt : ∀ f, f < 128 → sl f < 35 := by decide +kernel
theorem pc_pos : ∀ f, f < 128 → f ≠ 0 → 1 ≤ pc f := by decide +kernel
theorem sl_inj {f g : Nat} (hf : f ≠ 0) (hg : g ≠ 0) (hp : pc f = pc g) (h : sl f = sl g) : f = g := by
  have e : ht f = ht g := by unfold ht; rw [hp]
  unfold sl at h
  rw [← e] at h
  exact fb_ct_kth_one (p := fun x => decide (0 < x) && ht x == ht f) (by simp; omega) (by simp [e]; omega) h
def bbx (f : Nat) : Nat → Nat
  | 0 => 0
  | k + 1 => bbx f k ||| (bif f.testBit k then 2 ^ sl (f - 2 ^ k) else 0)
/-- the bits of a face's border -/
def bb (f : Nat) : Nat := bbx f 7
def sT (v : Nat) : Nat := ex (fun g => 2 ^ sl g) v 128
theorem sT_L : Lmap sT := ex_L _ 128
theorem sT_e {f : Nat} (h : f < 128) : sT (2 ^ f) = 2 ^ sl f := ex_e' h
theorem bb_ok : ∀ f, f < 128 → bb f = sT (bd f) := by decide +kernel
theorem sT_lt (v : Nat) : sT v < 2 ^ 35 := ex_lt v 128 fun f hf => Nat.pow_lt_pow_right (by decide) (sl_lt f hf)
theorem bb_lt {f : Nat} (h : f < 128) : bb f < 2 ^ 35 := by rw [bb_ok f h]; exact sT_lt _
theorem sT_inj {n v : Nat} (hn : 1 ≤ n) (hv : v < 2 ^ 128) (hb : ∀ f, v.testBit f = true → pc f = n) (h : sT v = 0) : v = 0 := by
  have n0 : ∀ f, v.testBit f = true → f ≠ 0 := fun f hf e => by
    have h1 := hb f hf
    subst e
    have : pc 0 = 0 := by decide
    omega
  refine Nat.eq_of_testBit_eq fun g => ?_
  rw [Nat.zero_testBit]
  cases hg : v.testBit g with
  | false => rfl
  | true =>
    have h1 : (sT v).testBit (sl g) = false := by rw [h, Nat.zero_testBit]
    have e9 : fb_ct (fun f => v.testBit f && (2 ^ sl f).testBit (sl g)) 128 = 1 := (fb_ct_cong (q := fun f => f == g) fun f hf => by
      rw [Nat.testBit_two_pow]
      by_cases e : f = g
      · subst e; rw [hg, decide_eq_true rfl, beq_self_eq_true]; rfl
      · rw [beq_eq_false_iff_ne.mpr e]
        cases hf2 : v.testBit f with
        | false => rfl
        | true => rw [decide_eq_false fun e2 => e (sl_inj (n0 f hf2) (n0 g hg) (by rw [hb f hf2, hb g hg]) e2)]; rfl).trans (fb_one (bit_128 hv hg))
    unfold sT at h1
    rw [ex_par, e9] at h1
    cases h1
/-- the faces of a height below n -/
def bbP (s : Nat → Bool) (t f : Nat) : Bool := decide (0 < f) && (decide (ht f = t) && s f)
def bbL (s : Nat → Bool) (t n : Nat) : List Nat := (fs (bbP s t) n).map bb
theorem bbL_1 (s : Nat → Bool) (t : Nat) : bbL s t 1 = [] := rfl
theorem bbL_t {s : Nat → Bool} {t k : Nat} (h : bbP s t k = true) : bbL s t (k + 1) = bb k :: bbL s t k := by
  show (bif bbP s t k then k :: fs (bbP s t) k else fs (bbP s t) k).map bb = _
  rw [h]; rfl
theorem bbL_f {s : Nat → Bool} {t k : Nat} (h : bbP s t k = false) : bbL s t (k + 1) = bbL s t k := by
  show (bif bbP s t k then k :: fs (bbP s t) k else fs (bbP s t) k).map bb = _
  rw [h]; rfl
theorem px_hat (s : Nat → Bool) (t : Nat) : ∀ f, f < 128 → px (hat s) (t + 1) f = bbP s t f := fun f hf => by
  unfold px bbP ht
  by_cases e : f = 0
  · subst e
    have : pc 0 = 0 := by decide
    rw [this]; simp
  · rw [hat_s s f hf e]
    have h1 := pc_pos f hf e
    rw [decide_eq_true (show 0 < f by omega), Bool.true_and, Bool.and_comm]
    congr 1
    rw [Bool.eq_iff_iff, beq_iff_eq, decide_eq_true_eq]; omega
theorem bbL_eq (s : Nat → Bool) (t : Nat) : bbL s t 128 = (bX (hat s) (t + 1)).map sT := by
  unfold bbL bX
  rw [List.map_map, ← fs_cg (px_hat s t)]
  refine List.map_congr_left fun f hf => ?_
  exact bb_ok f (fs_mem.mp hf).1
theorem bX_pc {X : Nat → Bool} {n v : Nat} (h : sp (bX X (n + 1)) v = true) : v < 2 ^ 128 ∧ ∀ f, v.testBit f = true → pc f = n := by
  have h1 : sp (cX (fun _ => true) n) v = true := sp_mono (fun u hu => by
    obtain ⟨f, h1, h2, h3, rfl⟩ := bX_u hu
    exact bd_sp (X := fun _ => true) (fun _ _ _ _ _ _ => rfl) h1 rfl h3) h
  obtain ⟨h2, h3⟩ := cX_sp.mp h1
  exact ⟨h2, fun f hf => (h3 f hf).2⟩
theorem bbL_rk (s : Nat → Bool) {t : Nat} (ht1 : 1 ≤ t) : rk (bbL s t 128) = rX (hat s) (t + 1) := by
  rw [bbL_eq]
  exact rk_inj sT_L fun v hv h0 => sT_inj ht1 (bX_pc hv).1 (bX_pc hv).2 h0
theorem bbL_sp (s : Nat → Bool) {t w : Nat} (ht1 : 1 ≤ t) (hw : w < 2 ^ 128) (hb : ∀ f, w.testBit f = true → pc f = t) : sp (bbL s t 128) (sT w) = sp (bX (hat s) (t + 1)) w := by
  rw [bbL_eq, Bool.eq_iff_iff]
  constructor
  · intro h
    obtain ⟨x, h1, h2⟩ := sp_Tinv sT_L h
    obtain ⟨h3, h4⟩ := bX_pc h1
    have h5 : x ^^^ w = 0 := sT_inj ht1 (Nat.xor_lt_two_pow h3 hw) (fun f hf => by
      rw [Nat.testBit_xor] at hf
      cases hx : x.testBit f with
      | true => exact h4 f hx
      | false => rw [hx, Bool.false_xor] at hf; exact hb f hf) (by rw [sT_L.2, h2, Nat.xor_self])
    rw [← xor_0 h5]; exact h1
  · exact sp_T sT_L
/-- the bits of a row -/
def rbm (r : Nat → Bool) : Nat → Nat
  | 0 => 0
  | n + 1 => bif decide (0 < n) && r n then rbm r n ||| 2 ^ sl n else rbm r n
theorem rbm_t {r : Nat → Bool} {k : Nat} (h0 : 0 < k) (h : r k = true) : rbm r (k + 1) = rbm r k ||| 2 ^ sl k := by
  show (bif decide (0 < k) && r k then _ else _) = _
  rw [decide_eq_true h0, h]; rfl
theorem rbm_f {r : Nat → Bool} {k : Nat} (h : r k = false) : rbm r (k + 1) = rbm r k := by
  show (bif decide (0 < k) && r k then _ else _) = _
  rw [h, Bool.and_false]; rfl
theorem rbm_bit (r : Nat → Bool) (j : Nat) : ∀ n, (rbm r n).testBit j = true → ∃ f, 0 < f ∧ f < n ∧ r f = true ∧ sl f = j
  | 0, h => by rw [show rbm r 0 = 0 from rfl, Nat.zero_testBit] at h; cases h
  | n + 1, h => by
    by_cases hp : 0 < n ∧ r n = true
    · rw [rbm_t hp.1 hp.2, Nat.testBit_or, Bool.or_eq_true, Nat.testBit_two_pow, decide_eq_true_eq] at h
      rcases h with h | h
      · obtain ⟨f, h1, h2, h3, h4⟩ := rbm_bit r j n h
        exact ⟨f, h1, by omega, h3, h4⟩
      · exact ⟨n, hp.1, by omega, hp.2, h⟩
    · have e : rbm r (n + 1) = rbm r n := by
        show (bif decide (0 < n) && r n then _ else _) = _
        rw [show (decide (0 < n) && r n) = false by rw [Bool.eq_false_iff, Ne, Bool.and_eq_true, decide_eq_true_eq]; exact hp]; rfl
      rw [e] at h
      obtain ⟨f, h1, h2, h3, h4⟩ := rbm_bit r j n h
      exact ⟨f, h1, by omega, h3, h4⟩
theorem rbm_ex {r : Nat → Bool} {n : Nat} (hn : 1 ≤ n) (hr : ∀ f, f < 128 → r f = true → pc f = n) : ∀ k, k ≤ 128 → rbm r k = ex (fun g => 2 ^ sl g) (mkN r 128) k
  | 0, _ => rfl
  | k + 1, hk => by
    have ih := rbm_ex hn hr k (by omega)
    unfold ex
    rw [← ih, mkN_bit, decide_eq_true (show k < 128 by omega), Bool.true_and]
    cases hrk : r k with
    | false => rw [rbm_f hrk]; exact (Nat.xor_zero _).symm
    | true =>
      have hk0 : 0 < k := Nat.pos_of_ne_zero fun e => by
        have h1 := hr k (by omega) hrk
        rw [e] at h1
        have : pc 0 = 0 := by decide
        omega
      rw [rbm_t hk0 hrk]
      refine or_bit ?_
      cases hb : (rbm r k).testBit (sl k) with
      | false => rfl
      | true =>
        obtain ⟨f, h1, h2, h3, h4⟩ := rbm_bit r (sl k) k hb
        have := sl_inj (by omega) (by omega) (by rw [hr f (by omega) h3, hr k (by omega) hrk]) h4
        omega
theorem rbm_sT {r : Nat → Bool} {n : Nat} (hn : 1 ≤ n) (hr : ∀ f, f < 128 → r f = true → pc f = n) : rbm r 128 = sT (mkN r 128) := rbm_ex hn hr 128 (Nat.le_refl _)
theorem rbm_lt (r : Nat → Bool) : ∀ n, n ≤ 128 → rbm r n < 2 ^ 35
  | 0, _ => (by decide : 0 < 2 ^ 35)
  | n + 1, h => by
    show (bif decide (0 < n) && r n then rbm r n ||| 2 ^ sl n else rbm r n) < 2 ^ 35
    cases decide (0 < n) && r n
    · exact rbm_lt r n (by omega)
    · exact Nat.or_lt_two_pow (rbm_lt r n (by omega)) (Nat.pow_lt_pow_right (by decide) (sl_lt n (by omega)))
-- what is kept
def lk (kb : Nat → Nat) : Nat → Nat → List Nat
  | _, 0 => []
  | i, n + 1 => kb i :: lk kb (i + 1) n
theorem lk_mem {kb : Nat → Nat} {u : Nat} : ∀ {n i : Nat}, u ∈ lk kb i n ↔ ∃ j, i ≤ j ∧ j < i + n ∧ u = kb j
  | 0, i => by
    constructor
    · intro h; cases h
    · rintro ⟨j, h1, h2, -⟩; omega
  | n + 1, i => by
    show u ∈ kb i :: lk kb (i + 1) n ↔ _
    rw [List.mem_cons, lk_mem]
    constructor
    · rintro (h | ⟨j, h1, h2, h3⟩)
      · exact ⟨i, Nat.le_refl i, by omega, h⟩
      · exact ⟨j, by omega, by omega, h3⟩
    · rintro ⟨j, h1, h2, h3⟩
      by_cases e : j = i
      · subst e; exact Or.inl h3
      · exact Or.inr ⟨j, by omega, by omega, h3⟩
def KB (kb : Nat → Nat) : Prop := ∀ i, i < 35 → kb i < 2 ^ 35 ∧ (kb i = 0 ∨ ((kb i).testBit i = true ∧ ∀ j, j < i → (kb i).testBit j = false))
def KI (kb : Nat → Nat) (L : List Nat) : Prop := KB kb ∧ ∀ v, sp (lk kb 0 35) v = true ↔ sp L v = true
theorem KI_0 {kb : Nat → Nat} (h : ∀ i, i < 35 → kb i = 0) : KI kb [] := by
  refine ⟨fun i hi => ⟨by rw [h i hi]; decide, Or.inl (h i hi)⟩, fun v => ⟨fun hv => ?_, fun hv => ?_⟩⟩
  · have := sp_0e (fun u hu => by
      obtain ⟨j, h1, h2, h3⟩ := lk_mem.mp hu
      rw [h3, h j (by omega)]) hv
    rw [this]; rfl
  · rw [show v = 0 from eq_of_beq hv]; exact sp_0 _
theorem lk_from {kb : Nat → Nat} (h : KB kb) {w : Nat} (hw : sp (lk kb 0 35) w = true) : ∀ i, i ≤ 35 → (∀ j, j < i → w.testBit j = false) → sp (lk kb i (35 - i)) w = true
  | 0, _, _ => hw
  | i + 1, hi, hlow => by
    have ih := lk_from h hw i (by omega) fun j hj => hlow j (by omega)
    rw [show 35 - i = (35 - (i + 1)) + 1 by omega] at ih
    rcases sp_cons.mp (show sp (kb i :: lk kb (i + 1) (35 - (i + 1))) w = true from ih) with h1 | h1
    · exact h1
    · obtain ⟨h2, h3⟩ := h i (by omega)
      rcases h3 with h3 | ⟨h3, h4⟩
      · rw [h3, Nat.xor_zero] at h1; exact h1
      · have h5 := sp_bit (g := i) (fun u hu => by
          obtain ⟨j, q1, q2, rfl⟩ := lk_mem.mp hu
          rcases (h j (by omega)).2 with q3 | ⟨q3, q4⟩
          · rw [q3, Nat.zero_testBit]
          · exact q4 i (by omega)) h1
        rw [Nat.testBit_xor, hlow i (by omega), h3] at h5
        cases h5
theorem lk_none {kb : Nat → Nat} (h : KB kb) {w i : Nat} (hi : i < 35) (hk : kb i = 0) (hw : sp (lk kb 0 35) w = true) (hlow : ∀ j, j < i → w.testBit j = false) : w.testBit i = false :=
  sp_bit (g := i) (fun u hu => by
    obtain ⟨j, q1, q2, rfl⟩ := lk_mem.mp hu
    by_cases e : j = i
    · subst e; rw [hk, Nat.zero_testBit]
    · rcases (h j (by omega)).2 with q3 | ⟨q3, q4⟩
      · rw [q3, Nat.zero_testBit]
      · exact q4 i (by omega)) (lk_from h hw i (by omega) hlow)
def kbS (kb : Nat → Nat) (i lv : Nat) : Nat → Nat := fun x => if x = i then lv else kb x
/-- on the way through the places -/
def LI (L : List Nat) (v i lv : Nat) : Prop := lv < 2 ^ 35 ∧ sp L (v ^^^ lv) = true ∧ ∀ j, j < i → lv.testBit j = false
theorem LI_0 {L : List Nat} {v : Nat} (h : v < 2 ^ 35) : LI L v 0 v := ⟨h, by rw [Nat.xor_self]; exact sp_0 _, fun j hj => by omega⟩
theorem LI_f {L : List Nat} {v i lv : Nat} (h : LI L v i lv) (hb : lv.testBit i = false) : LI L v (i + 1) lv := ⟨h.1, h.2.1, fun j hj => by
  by_cases e : j = i
  · subst e; exact hb
  · exact h.2.2 j (by omega)⟩
theorem KI_in {kb : Nat → Nat} {L : List Nat} (h : KI kb L) {i : Nat} (hi : i < 35) : sp L (kb i) = true := (h.2 _).mp (sp_m (lk_mem.mpr ⟨i, by omega, by omega, rfl⟩))
theorem LI_x {kb : Nat → Nat} {L : List Nat} {v i lv : Nat} (hK : KI kb L) (hi : i < 35) (h : LI L v i lv) (hb : lv.testBit i = true) (hk : kb i ≠ 0) : LI L v (i + 1) (lv ^^^ kb i) := by
  obtain ⟨h1, h2⟩ := hK.1 i hi
  rcases h2 with h2 | ⟨h2, h3⟩
  · exact absurd h2 hk
  refine ⟨Nat.xor_lt_two_pow h.1 h1, ?_, fun j hj => ?_⟩
  · rw [← Nat.xor_assoc]; exact sp_x h.2.1 (KI_in hK hi)
  · rw [Nat.testBit_xor]
    by_cases e : j = i
    · subst e; rw [hb, h2]; rfl
    · rw [h.2.2 j (by omega), h3 j (by omega)]; rfl
theorem LI_end {L : List Nat} {v i lv : Nat} (h : LI L v i lv) (he : i = 35 ∨ lv = 0) : sp L v = true := by
  have h0 : lv = 0 := by
    rcases he with he | he
    · subst he
      refine Nat.eq_of_testBit_eq fun j => ?_
      rw [Nat.zero_testBit]
      by_cases hj : j < 35
      · exact h.2.2 j hj
      · exact Nat.testBit_lt_two_pow (Nat.lt_of_lt_of_le h.1 (Nat.pow_le_pow_right (by decide) (by omega)))
    · exact he
  have h2 := h.2.1
  rw [h0, Nat.xor_zero] at h2
  exact h2
theorem sp_xr {L : List Nat} {v lv : Nat} (h : sp L (v ^^^ lv) = true) : sp L v = sp L lv := by
  rw [Bool.eq_iff_iff]
  constructor
  · intro h1
    have := sp_x h1 h
    rw [← Nat.xor_assoc, Nat.xor_self, Nat.zero_xor] at this
    exact this
  · intro h1
    have := sp_x h h1
    rw [xor_cc] at this
    exact this
theorem KI_new {kb : Nat → Nat} {L : List Nat} {v i lv : Nat} (hK : KI kb L) (hi : i < 35) (h : LI L v i lv) (hb : lv.testBit i = true) (hk : kb i = 0) : sp L v = false ∧ KI (kbS kb i lv) (v :: L) := by
  constructor
  · cases hs : sp L v with
    | false => rfl
    | true =>
      rw [sp_xr h.2.1] at hs
      rw [lk_none hK.1 hi hk ((hK.2 _).mpr hs) h.2.2] at hb
      cases hb
  · refine ⟨fun x hx => ?_, fun w => ⟨fun hw => ?_, fun hw => ?_⟩⟩
    · unfold kbS
      by_cases e : x = i
      · subst e; rw [if_pos rfl]; exact ⟨h.1, Or.inr ⟨hb, h.2.2⟩⟩
      · rw [if_neg e]; exact hK.1 x hx
    · refine sp_mono (fun u hu => ?_) hw
      obtain ⟨j, q1, q2, rfl⟩ := lk_mem.mp hu
      unfold kbS
      by_cases e : j = i
      · subst e
        rw [if_pos rfl]
        have h2 := sp_w (u := v) h.2.1
        have h3 := sp_x (sp_h v L) h2
        rw [← Nat.xor_assoc, Nat.xor_self, Nat.zero_xor] at h3
        exact h3
      · rw [if_neg e]; exact sp_w (KI_in hK (by omega))
    · have hlv : sp (lk (kbS kb i lv) 0 35) lv = true := sp_m (lk_mem.mpr ⟨i, by omega, by omega, by unfold kbS; rw [if_pos rfl]⟩)
      have hL : ∀ w, sp L w = true → sp (lk (kbS kb i lv) 0 35) w = true := fun w hw => sp_mono (fun u hu => by
        obtain ⟨j, q1, q2, rfl⟩ := lk_mem.mp hu
        by_cases e : j = i
        · subst e; rw [hk]; exact sp_0 _
        · exact sp_m (lk_mem.mpr ⟨j, q1, q2, by unfold kbS; rw [if_neg e]⟩)) ((hK.2 w).mpr hw)
      rcases sp_cons.mp hw with hw | hw
      · exact hL w hw
      · have h2 := sp_x (sp_x (hL _ hw) (hL _ h.2.1)) hlv
        rw [Nat.xor_assoc w v, ← Nat.xor_assoc v v, Nat.xor_self, Nat.zero_xor, xor_cc] at h2
        exact h2
theorem KI_same {kb : Nat → Nat} {L : List Nat} {v : Nat} (hK : KI kb L) (h : sp L v = true) : KI kb (v :: L) := ⟨hK.1, fun w => by
  rw [hK.2, sp_cons]
  constructor
  · exact Or.inl
  · rintro (h1 | h1)
    · exact h1
    · have := sp_x h1 h
      rw [xor_cc] at this; exact this⟩
/-- trying whether it is a sum -/
def SI (L : List Nat) (v i lv : Nat) : Prop := lv < 2 ^ 35 ∧ sp L (v ^^^ lv) = true ∧ (sp L v = true → ∀ j, j < i → lv.testBit j = false)
theorem SI_0 {L : List Nat} {v : Nat} (h : v < 2 ^ 35) : SI L v 0 v := ⟨h, by rw [Nat.xor_self]; exact sp_0 _, fun _ j hj => by omega⟩
theorem SI_f {L : List Nat} {v i lv : Nat} (h : SI L v i lv) (hb : lv.testBit i = false) : SI L v (i + 1) lv := ⟨h.1, h.2.1, fun hs j hj => by
  by_cases e : j = i
  · subst e; exact hb
  · exact h.2.2 hs j (by omega)⟩
theorem SI_x {kb : Nat → Nat} {L : List Nat} {v i lv : Nat} (hK : KI kb L) (hi : i < 35) (h : SI L v i lv) (hb : lv.testBit i = true) : SI L v (i + 1) (lv ^^^ kb i) := by
  obtain ⟨h1, h2⟩ := hK.1 i hi
  refine ⟨Nat.xor_lt_two_pow h.1 h1, ?_, fun hs j hj => ?_⟩
  · rw [← Nat.xor_assoc]; exact sp_x h.2.1 (KI_in hK hi)
  · have hlow := h.2.2 hs
    rcases h2 with h2 | ⟨h2, h3⟩
    · have hs2 := hs
      rw [sp_xr h.2.1] at hs2
      rw [lk_none hK.1 hi h2 ((hK.2 _).mpr hs2) hlow] at hb
      cases hb
    · rw [Nat.testBit_xor]
      by_cases e : j = i
      · subst e; rw [hb, h2]; rfl
      · rw [hlow j (by omega), h3 j (by omega)]; rfl
theorem SI_end {L : List Nat} {v lv : Nat} (h : SI L v 35 lv) : sp L v = true ↔ lv = 0 := by
  constructor
  · intro hs
    refine Nat.eq_of_testBit_eq fun j => ?_
    rw [Nat.zero_testBit]
    by_cases hj : j < 35
    · exact h.2.2 hs j hj
    · exact Nat.testBit_lt_two_pow (Nat.lt_of_lt_of_le h.1 (Nat.pow_le_pow_right (by decide) (by omega)))
  · intro e
    have h2 := h.2.1
    rw [e, Nat.xor_zero] at h2
    exact h2
theorem lbit {n k : Nat} (hn : n < 2 ^ 64) (hk : k < 64) : lg_cmp (((lN n).toUInt64 >>> ((nI k).toInt64.toUInt64 &&& Int64.toUInt64 63)).toInt64 &&& lN 1) (lN 0) = 0 ↔ n.testBit k = false := by
  rw [lg_cmp_eq, wb_shr hn hk, fb_andL]
  have h1 : n / 2 ^ k &&& 1 = (if n.testBit k then 1 else 0) := by
    rw [Nat.and_one_is_mod, Nat.testBit_eq_decide_div_mod_eq]
    by_cases h : n / 2 ^ k % 2 = 1
    · rw [decide_eq_true h, if_pos rfl]; exact h
    · rw [decide_eq_false h]; simp; omega
  rw [h1]
  cases n.testBit k
  · simp
  · simp only [if_true]
    constructor
    · intro h; exact absurd h (by decide +kernel)
    · intro h; cases h
theorem lz {n : Nat} (hn : n < 2 ^ 63) : lg_cmp (lN n) (lN 0) = 0 ↔ n = 0 := by
  rw [lg_cmp_eq, fb_lN_inj hn (by decide)]
end Slo
