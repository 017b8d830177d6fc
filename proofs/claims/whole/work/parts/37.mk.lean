section MK2
/-! the reference's ranks: rows taken away from one another where that makes them less -/
def slK (i k : Nat) : Nat := fb_ct (fun g => decide (0 < g) && ht g == ht i) k
theorem slK_t {i k : Nat} (h0 : 0 < k) (h : ht k = ht i) : slK i (k + 1) = slK i k + 1 := by
  show _ + (if (decide (0 < k) && ht k == ht i) then 1 else 0) = _
  rw [decide_eq_true h0, h, beq_self_eq_true]; rfl
theorem slK_f {i k : Nat} (h : ht k ≠ ht i) : slK i (k + 1) = slK i k := by
  show _ + (if (decide (0 < k) && ht k == ht i) then 1 else 0) = _
  rw [beq_eq_false_iff_ne.mpr h, Bool.and_false]; rfl
theorem shl_1 (n : Nat) : lN (2 ^ n) <<< ((nI 1).toInt64 &&& 63) = lN (2 ^ (n + 1)) := wb_shl (2 ^ n) (k := 1) (by decide)
theorem shl_0 (n : Nat) : lN (2 ^ n) <<< ((nI 0).toInt64 &&& 63) = lN (2 ^ n) := (wb_shl (2 ^ n) (k := 0) (by decide)).trans (by rw [Nat.pow_zero, Nat.mul_one])
set_option maxRecDepth 10000 in
/-- Model.bit -/
theorem kX7_bit {S : Nat × (Nat → Int32)} {d : Nat} {h : eH} {Q : eQ} {i : Nat} (hi1 : 1 ≤ i) (hi : i < 128) (hQ : Q (.inl (some (.long (lN (2 ^ sl i))))) h) : okCall S MT (d + 3) nX7_bit [.int (nI i)] h Q := by
  refine okc (M := MX7_bit) rfl rfl fun K hK hW => ?_
  show K 0 [(0, .int (nI i))] [] h 0 0
  iterate 4 refine hK _ _ _ _ _ _ (?_ : K _ _ _ _ _ _)
  refine hW _ _ [(3, .int (nI (1))), (1, .long (lN (2 ^ slK i (1)))), (0, .int (nI i))] _ _ _ _ (by simp [show lN (2 ^ slK i 1) = lN 1 from rfl]) ?_
  refine up (P := fun k => K 4 [(3, .int (nI (k))), (1, .long (lN (2 ^ slK i (k)))), (0, .int (nI i))] [] h 0 0) i 1 ?_ ?_ hi1
  · skip
    iterate 2 refine hK _ _ _ _ _ _ (?_ : K _ _ _ _ _ _)
    refine hK _ _ _ _ _ _ (And.intro (fun _ => ?_) (fun c9 => absurd (nI_le (Nat.le_refl i) (by omega)) c9))
    iterate 1 refine hK _ _ _ _ _ _ (?_ : K _ _ _ _ _ _)
    exact hK _ _ _ _ _ _ (r_lret rfl rfl rfl hQ)
  · intro k h0k hk ihk
    iterate 2 refine hK _ _ _ _ _ _ (?_ : K _ _ _ _ _ _)
    refine hK _ _ _ _ _ _ (And.intro (fun c9 => absurd c9 (nI_ge hk (by omega))) (fun _ => ?_))
    iterate 2 refine hK _ _ _ _ _ _ (?_ : K _ _ _ _ _ _)
    refine hK _ _ _ _ _ _ (r_callS rfl (fun _ => rfl) (b0 rfl rfl rfl) (kX7_height (i := k) (by omega) (by omega) (?_ : K _ _ _ _ _ _)))
    iterate 1 refine hK _ _ _ _ _ _ (?_ : K _ _ _ _ _ _)
    refine hK _ _ _ _ _ _ (r_callS rfl (fun _ => rfl) (b0 rfl rfl rfl) (kX7_height (i := i) hi hi1 (?_ : K _ _ _ _ _ _)))
    refine hK _ _ _ _ _ _ (And.intro (fun c1 => ?_) (fun c1 => ?_))
    · skip
      iterate 6 refine hK _ _ _ _ _ _ (?_ : K _ _ _ _ _ _)
      have e1 := slK_t (i := i) (show 0 < k by omega) ((nI_eq (by have := ht_7 (show k < 128 by omega); omega) (by have := ht_7 hi; omega)).mp c1)
      rw [e1] at ihk
      rw [shl_1, nI_add k 1]
      first | exact ihk | exact hW _ _ _ _ _ _ _ (by simp) ihk
    · skip
      iterate 5 refine hK _ _ _ _ _ _ (?_ : K _ _ _ _ _ _)
      have e1 := slK_f (i := i) (k := k) (fun c9 => c1 (by rw [c9]))
      rw [e1] at ihk
      rw [shl_0, nI_add k 1]
      first | exact ihk | exact hW _ _ _ _ _ _ _ (by simp) ihk

set_option maxRecDepth 10000 in
/-- Model.bit of no face -/
theorem kX7_bit0 {S : Nat × (Nat → Int32)} {d : Nat} {h : eH} {Q : eQ} (hQ : Q (.inl (some (.long (lN 1)))) h) : okCall S MT (d + 3) nX7_bit [.int (nI 0)] h Q := by
  refine okc (M := MX7_bit) rfl rfl fun K hK hW => ?_
  show K 0 [(0, .int (nI 0))] [] h 0 0
  iterate 6 refine hK _ _ _ _ _ _ (?_ : K _ _ _ _ _ _)
  refine hK _ _ _ _ _ _ (And.intro (fun _ => ?_) (fun c9 => absurd (nI_le (Nat.zero_le 1) (by decide)) c9))
  iterate 1 refine hK _ _ _ _ _ _ (?_ : K _ _ _ _ _ _)
  exact hK _ _ _ _ _ _ (r_lret rfl rfl rfl hQ)

theorem kX7_bitA {S : Nat × (Nat → Int32)} {d : Nat} {h : eH} {Q : eQ} {i : Nat} (hi : i < 128) (hQ : Q (.inl (some (.long (lN (2 ^ sl i))))) h) : okCall S MT (d + 3) nX7_bit [.int (nI i)] h Q := by
  by_cases e : i = 0
  · subst e; exact kX7_bit0 hQ
  · exact kX7_bit (by omega) hi hQ
theorem bbx_t {i k : Nat} (h : i.testBit k = true) : bbx i (k + 1) = bbx i k ||| 2 ^ sl (i - 2 ^ k) := by
  show bbx i k ||| (bif i.testBit k then _ else 0) = _
  rw [h]; rfl
theorem bbx_f {i k : Nat} (h : i.testBit k = false) : bbx i (k + 1) = bbx i k := by
  show bbx i k ||| (bif i.testBit k then _ else 0) = _
  rw [h]; exact Nat.or_zero _
theorem sub_pw {i k : Nat} (hk : k < 7) (h : i.testBit k = true) : nI i - (nI 1 <<< (nI k &&& 31)) = nI (i - 2 ^ k) := by
  rw [sh1 k hk]
  have := bit_le h
  exact nI_sub _ _ _ (by omega)
set_option maxRecDepth 10000 in
/-- Model.borderBits -/
theorem kX7_borderBits {S : Nat × (Nat → Int32)} {d : Nat} {h : eH} {Q : eQ} {i : Nat} (hi : i < 128) (hQ : Q (.inl (some (.long (lN (bb i))))) h) : okCall S MT (d + 4) nX7_borderBits [.int (nI i)] h Q := by
  refine okc (M := MX7_borderBits) rfl rfl fun K hK hW => ?_
  show K 0 [(0, .int (nI i))] [] h 0 0
  iterate 4 refine hK _ _ _ _ _ _ (?_ : K _ _ _ _ _ _)
  refine hW _ _ [(3, .int (nI (0))), (1, .long (lN (bbx i (0)))), (0, .int (nI i))] _ _ _ _ (by simp [show bbx i 0 = 0 from rfl]) ?_
  refine up (P := fun k => K 4 [(3, .int (nI (k))), (1, .long (lN (bbx i (k)))), (0, .int (nI i))] [] h 0 0) 7 0 ?_ ?_ (by decide)
  · skip
    iterate 2 refine hK _ _ _ _ _ _ (?_ : K _ _ _ _ _ _)
    refine hK _ _ _ _ _ _ (And.intro (fun _ => ?_) (fun c9 => absurd (nI_le (Nat.le_refl 7) (by decide)) c9))
    iterate 1 refine hK _ _ _ _ _ _ (?_ : K _ _ _ _ _ _)
    exact hK _ _ _ _ _ _ (r_lret rfl rfl rfl hQ)
  · intro k h0k hk ihk
    iterate 2 refine hK _ _ _ _ _ _ (?_ : K _ _ _ _ _ _)
    refine hK _ _ _ _ _ _ (And.intro (fun c9 => absurd c9 (nI_ge (by omega) (by decide))) (fun _ => ?_))
    iterate 7 refine hK _ _ _ _ _ _ (?_ : K _ _ _ _ _ _)
    refine hK _ _ _ _ _ _ (And.intro (fun c1 => ?_) (fun c1 => ?_))
    · skip
      rw [cb_ok k hk i hi, b2i_1] at c1
      iterate 5 refine hK _ _ _ _ _ _ (?_ : K _ _ _ _ _ _)
      refine hK _ _ _ _ _ _ (r_callS rfl (fun _ => rfl) (b0 rfl rfl rfl) (okW (by rw [sub_pw hk c1]) (kX7_bitA (i := i - 2 ^ k) (Nat.lt_of_le_of_lt (Nat.sub_le _ _) hi) (?_ : K _ _ _ _ _ _))))
      iterate 5 refine hK _ _ _ _ _ _ (?_ : K _ _ _ _ _ _)
      rw [bbx_t c1] at ihk
      rw [fb_orL, nI_add k 1]
      first | exact ihk | exact hW _ _ _ _ _ _ _ (by simp) ihk
    · skip
      rw [cb_ok k hk i hi, b2i_1] at c1
      iterate 5 refine hK _ _ _ _ _ _ (?_ : K _ _ _ _ _ _)
      rw [bbx_f (Bool.eq_false_iff.mpr c1)] at ihk
      rw [fb_orL, Nat.or_zero, nI_add k 1]
      first | exact ihk | exact hW _ _ _ _ _ _ _ (by simp) ihk

-- what is kept
def Top (v t : Nat) : Prop := v.testBit t = true ∧ ∀ j, t < j → v.testBit j = false
theorem top_ex {v : Nat} (h : v ≠ 0) (hv : v < 2 ^ 35) : ∃ t, Top v t := by
  obtain ⟨i, hi⟩ := Nat.exists_testBit_of_ne_zero h
  have h35 : ∀ j, v.testBit j = true → j < 35 := fun j hj => Nat.lt_of_not_le fun hc => by
    rw [Nat.testBit_lt_two_pow (Nat.lt_of_lt_of_le hv (Nat.pow_le_pow_right (by decide) hc))] at hj; cases hj
  obtain ⟨t, h1, h2, h3⟩ := fb_last (p := fun j => v.testBit j = true) (n := 35) ⟨i, h35 i hi, hi⟩
  refine ⟨t, h2, fun j hj => ?_⟩
  cases hb : v.testBit j with
  | false => rfl
  | true => exact absurd hb (h3 j hj (h35 j hb))
theorem lt_tb {x y t : Nat} (h1 : x.testBit t = false) (h2 : y.testBit t = true) (h3 : ∀ j, t < j → x.testBit j = y.testBit j) : x < y := by
  have e1 : x / 2 ^ (t + 1) = y / 2 ^ (t + 1) := Nat.eq_of_testBit_eq fun i => by
    rw [Nat.testBit_div_two_pow, Nat.testBit_div_two_pow]; exact h3 _ (by omega)
  rw [Nat.testBit_eq_decide_div_mod_eq] at h1 h2
  have h1 := of_decide_eq_false h1
  have h2 := of_decide_eq_true h2
  have e2 : x / 2 ^ (t + 1) = x / 2 ^ t / 2 := by rw [Nat.pow_succ, Nat.div_div_eq_div_mul]
  have e3 : y / 2 ^ (t + 1) = y / 2 ^ t / 2 := by rw [Nat.pow_succ, Nat.div_div_eq_div_mul]
  have h4 : x / 2 ^ t < y / 2 ^ t := by omega
  exact Nat.lt_of_not_le fun hle => by
    have := Nat.div_le_div_right (c := 2 ^ t) hle
    omega
theorem top_x {a c t : Nat} (h : Top c t) : a ^^^ c < a ↔ a.testBit t = true := by
  constructor
  · intro h1
    cases hb : a.testBit t with
    | true => rfl
    | false =>
      have : a < a ^^^ c := lt_tb (t := t) hb (by rw [Nat.testBit_xor, hb, h.1]; rfl) fun j hj => by rw [Nat.testBit_xor, h.2 j hj, Bool.xor_false]
      omega
  · intro hb
    exact lt_tb (t := t) (by rw [Nat.testBit_xor, hb, h.1]; rfl) hb fun j hj => by rw [Nat.testBit_xor, h.2 j hj, Bool.xor_false]
def kvL (kv : Nat → Nat) : Nat → List Nat
  | 0 => []
  | k + 1 => kv k :: kvL kv k
def Bas (kv : Nat → Nat) (m : Nat) : Prop := ∃ tp : Nat → Nat, ∀ i, i < m → kv i < 2 ^ 35 ∧ Top (kv i) (tp i) ∧ ∀ j, j < m → i < j → (kv j).testBit (tp i) = false
def lfN (kv : Nat → Nat) (v : Nat) : Nat → Nat
  | 0 => v
  | k + 1 => if lfN kv v k ^^^ kv k < lfN kv v k then lfN kv v k ^^^ kv k else lfN kv v k
theorem lfN_t {kv : Nat → Nat} {v k : Nat} (h : lfN kv v k ^^^ kv k < lfN kv v k) : lfN kv v (k + 1) = lfN kv v k ^^^ kv k := if_pos h
theorem lfN_f {kv : Nat → Nat} {v k : Nat} (h : ¬ lfN kv v k ^^^ kv k < lfN kv v k) : lfN kv v (k + 1) = lfN kv v k := if_neg h
theorem lfN_lt {kv : Nat → Nat} {v m : Nat} (hv : v < 2 ^ 35) : ∀ k, k ≤ m → (∀ i, i < m → kv i < 2 ^ 35) → lfN kv v k < 2 ^ 35
  | 0, _, _ => hv
  | k + 1, hk, h => by
    have ih := lfN_lt hv k (by omega) h
    unfold lfN
    split
    · exact Nat.xor_lt_two_pow ih (h k (by omega))
    · exact ih
theorem lfN_sp {kv : Nat → Nat} {v : Nat} : ∀ k, sp (kvL kv k) (v ^^^ lfN kv v k) = true
  | 0 => by show sp [] (v ^^^ v) = true; rw [Nat.xor_self]; rfl
  | k + 1 => by
    have ih := lfN_sp (kv := kv) (v := v) k
    show sp (kv k :: kvL kv k) (v ^^^ lfN kv v (k + 1)) = true
    by_cases h : lfN kv v k ^^^ kv k < lfN kv v k
    · rw [lfN_t h, sp_cons]
      refine Or.inr ?_
      rw [← Nat.xor_assoc, xor_cc]; exact ih
    · rw [lfN_f h]; exact sp_w ih
theorem lfN_top {kv tp : Nat → Nat} {v m : Nat} (hB : ∀ i, i < m → kv i < 2 ^ 35 ∧ Top (kv i) (tp i) ∧ ∀ j, j < m → i < j → (kv j).testBit (tp i) = false) : ∀ k, k ≤ m → ∀ i, i < k → (lfN kv v k).testBit (tp i) = false
  | 0, _, i, hi => absurd hi (Nat.not_lt_zero i)
  | k + 1, hk, i, hi => by
    have ih := lfN_top (v := v) hB k (by omega)
    have hT := (hB k (by omega)).2.1
    by_cases h : lfN kv v k ^^^ kv k < lfN kv v k
    · rw [lfN_t h, Nat.testBit_xor]
      by_cases e : i = k
      · subst e; rw [(top_x hT).mp h, hT.1]; rfl
      · rw [ih i (by omega), (hB i (by omega)).2.2 k (by omega) (by omega)]; rfl
    · rw [lfN_f h]
      by_cases e : i = k
      · subst e
        exact Bool.eq_false_iff.mpr fun c => h ((top_x hT).mpr c)
      · exact ih i (by omega)
theorem bas_0 {kv tp : Nat → Nat} {m : Nat} (hB : ∀ i, i < m → kv i < 2 ^ 35 ∧ Top (kv i) (tp i) ∧ ∀ j, j < m → i < j → (kv j).testBit (tp i) = false) : ∀ k, k ≤ m → ∀ r, sp (kvL kv k) r = true → (∀ i, i < k → r.testBit (tp i) = false) → r = 0
  | 0, _, r, h, _ => eq_of_beq h
  | k + 1, hk, r, h, hz => by
    have ih := bas_0 hB k (by omega)
    rcases sp_cons.mp h with h | h
    · exact ih r h fun i hi => hz i (by omega)
    · have h1 := ih _ h fun i hi => by rw [Nat.testBit_xor, hz i (by omega), (hB i (by omega)).2.2 k (by omega) (by omega)]; rfl
      have h2 := xor_0 h1
      have h3 := hz k (by omega)
      rw [h2, (hB k (by omega)).2.1.1] at h3
      cases h3
/-- what is kept spans what was looked at -/
def RK (kp : Nat → Int64) (kv : Nat → Nat) (m : Nat) (L : List Nat) : Prop := (∀ j, j < m → kp j = lN (kv j)) ∧ Bas kv m ∧ (∀ w, sp (kvL kv m) w = sp L w) ∧ m = rk L
theorem rk_z {kp : Nat → Int64} {kv : Nat → Nat} {m v : Nat} {L : List Nat} (h : RK kp kv m L) : lfN kv v m = 0 ↔ sp L v = true := by
  obtain ⟨-, ⟨tp, hB⟩, hS, -⟩ := h
  have h1 := lfN_sp (kv := kv) (v := v) m
  rw [← hS]
  constructor
  · intro h2
    rw [h2, Nat.xor_zero] at h1; exact h1
  · intro h2
    refine bas_0 hB m (Nat.le_refl _) _ ?_ (lfN_top hB m (Nat.le_refl _))
    rw [← sp_xr h1]; exact h2
theorem kvL_c {kv kv2 : Nat → Nat} : ∀ m, (∀ j, j < m → kv j = kv2 j) → kvL kv m = kvL kv2 m
  | 0, _ => rfl
  | m + 1, h => by
    show kv m :: kvL kv m = kv2 m :: kvL kv2 m
    rw [h m (Nat.lt_succ_self m), kvL_c m fun j hj => h j (by omega)]
theorem rk_new {kp : Nat → Int64} {kv : Nat → Nat} {m v : Nat} {L : List Nat} (h : RK kp kv m L) (hv : v < 2 ^ 35) (hne : lfN kv v m ≠ 0) : RK (vp_updL kp m (lN (lfN kv v m))) (kbS kv m (lfN kv v m)) (m + 1) (v :: L) := by
  have hz := rk_z (v := v) h
  obtain ⟨h1, ⟨tp, hB⟩, hS, hm⟩ := h
  have hlt := lfN_lt (m := m) hv m (Nat.le_refl _) fun i hi => (hB i hi).1
  obtain ⟨t, ht⟩ := top_ex hne hlt
  have e1 : ∀ j, j < m → kbS kv m (lfN kv v m) j = kv j := fun j hj => if_neg (by omega)
  have e2 : kbS kv m (lfN kv v m) m = lfN kv v m := if_pos rfl
  have e3 : ∀ j, j < m → kbS tp m t j = tp j := fun j hj => if_neg (by omega)
  have e4 : kbS tp m t m = t := if_pos rfl
  refine ⟨fun j hj => ?_, ⟨kbS tp m t, fun i hi => ?_⟩, fun w => ?_, ?_⟩
  · show (if j = m then _ else kp j) = _
    by_cases e : j = m
    · subst e; rw [if_pos rfl, e2]
    · rw [if_neg e, e1 j (by omega)]; exact h1 j (by omega)
  · by_cases e : i = m
    · subst e
      rw [e2, e4]
      exact ⟨hlt, ht, fun j hj hij => by omega⟩
    · rw [e1 i (by omega), e3 i (by omega)]
      refine ⟨(hB i (by omega)).1, (hB i (by omega)).2.1, fun j hj hij => ?_⟩
      by_cases e9 : j = m
      · subst e9; rw [e2]; exact lfN_top hB j (Nat.le_refl _) i (by omega)
      · rw [e1 j (by omega)]; exact (hB i (by omega)).2.2 j (by omega) hij
  · show sp (kbS kv m (lfN kv v m) m :: kvL (kbS kv m (lfN kv v m)) m) w = sp (v :: L) w
    rw [e2, kvL_c m e1, Bool.eq_iff_iff, sp_cons, sp_cons, hS, hS]
    have h9 : sp L (w ^^^ lfN kv v m) = sp L (w ^^^ v) := sp_xr (by
      have := lfN_sp (kv := kv) (v := v) m
      rw [hS] at this
      rw [show w ^^^ lfN kv v m ^^^ (w ^^^ v) = v ^^^ lfN kv v m by rw [xor4, Nat.xor_self, Nat.zero_xor, Nat.xor_comm]]
      exact this)
    rw [h9]
  · rw [rk_out (Bool.eq_false_iff.mpr fun c => hne (hz.mpr c)), ← hm]
theorem rk_same {kp : Nat → Int64} {kv : Nat → Nat} {m v : Nat} {L : List Nat} (h : RK kp kv m L) (h0 : lfN kv v m = 0) : RK kp kv m (v :: L) := by
  have hz := (rk_z (v := v) h).mp h0
  refine ⟨h.1, h.2.1, fun w => ?_, ?_⟩
  · rw [h.2.2.1 w, Bool.eq_iff_iff]
    exact ⟨sp_w, sp_mono fun u hu => (List.mem_cons.mp hu).elim (fun e => e ▸ hz) fun e => sp_m e⟩
  · rw [rk_in hz]; exact h.2.2.2
theorem rk_e (kp : Nat → Int64) (kv : Nat → Nat) : RK kp kv 0 [] := ⟨fun j hj => absurd hj (Nat.not_lt_zero j), ⟨fun _ => 0, fun i hi => absurd hi (Nat.not_lt_zero i)⟩, fun _ => rfl, rfl⟩
theorem fs_len (p : Nat → Bool) : ∀ n, (fs p n).length = fb_ct p n
  | 0 => rfl
  | n + 1 => by
    show (bif p n then n :: fs p n else fs p n).length = fb_ct p n + (if p n then 1 else 0)
    cases p n with
    | true => show (fs p n).length + 1 = _; rw [fs_len p n]; rfl
    | false => show (fs p n).length = _; rw [fs_len p n]; rfl
theorem ht_35 : ∀ t, t < 7 → fb_ct (fun f => decide (0 < f) && decide (ht f = t)) 128 ≤ 35 := by decide +kernel
theorem rk_35 {s : Nat → Bool} {t k : Nat} (ht7 : t < 7) (hk : k ≤ 128) : rk (bbL s t k) ≤ 35 := by
  have h1 := rk_len (bbL s t k)
  have h2 : (bbL s t k).length = fb_ct (bbP s t) k := by
    unfold bbL
    rw [List.length_map, fs_len]
  have h3 : fb_ct (bbP s t) k ≤ fb_ct (bbP s t) 128 := fb_ct_mono _ hk
  have h4 : fb_ct (bbP s t) 128 ≤ fb_ct (fun f => decide (0 < f) && decide (ht f = t)) 128 := fb_ct_sub fun f _ hf => by
    have hf : (decide (0 < f) && (decide (ht f = t) && s f)) = true := hf
    rw [Bool.and_eq_true, Bool.and_eq_true] at hf
    show (decide (0 < f) && decide (ht f = t)) = true
    rw [hf.1, hf.2.1]; rfl
  have h5 := ht_35 t ht7
  omega
theorem lN_le3 {a c : Nat} (ha : a < 2 ^ 35) (hc : c < 2 ^ 35) : lN a ≤ lN c ↔ a ≤ c := by
  have e1 : (lN a).toInt = (a : Int) := lg_ofNat_toInt (by omega)
  have e2 : (lN c).toInt = (c : Int) := lg_ofNat_toInt (by omega)
  rw [Int64.le_iff_toInt_le, e1, e2]; omega
set_option maxRecDepth 10000 in
/-- Model.left -/
theorem kX7_left {S : Nat × (Nat → Int32)} {d : Nat} {Q : eQ} {b : Bool} {X : Nat → va_E} {A mk ro nx pi : Nat → Int32} {kp : Nat → Int64} {km th : Int32} {T : List va_E} {kv : Nat → Nat} {m v : Nat} (hm : m ≤ 36) (hkp : ∀ j, j < m → kp j = lN (kv j)) (hkv : ∀ j, j < m → kv j < 2 ^ 35) (hv : v < 2 ^ 35) (hQ : Q (.inl (some (.long (lN (lfN kv v m))))) (b, mW X A mk ro nx pi kp (nI m) th T)) : okCall S MT (d + 1) nX7_left [.ref 24, .long (lN v)] (b, mW X A mk ro nx pi kp (nI m) th T) Q := by
  refine okc (M := MX7_left) rfl rfl fun K hK hW => ?_
  show K 0 [(0, .ref 24), (1, .long (lN v))] [] (b, mW X A mk ro nx pi kp (nI m) th T) 0 0
  iterate 4 refine hK _ _ _ _ _ _ (?_ : K _ _ _ _ _ _)
  refine hW _ _ [(5, .int (nI (0))), (3, .long (lN (lfN kv v (0)))), (0, .ref 24)] _ _ _ _ (by simp [show lfN kv v 0 = v from rfl]) ?_
  refine up (P := fun k => K 5 [(5, .int (nI (k))), (3, .long (lN (lfN kv v (k)))), (0, .ref 24)] [] (b, mW X A mk ro nx pi kp (nI m) th T) 0 0) m 0 ?_ ?_ (Nat.zero_le m)
  · skip
    iterate 2 refine hK _ _ _ _ _ _ (?_ : K _ _ _ _ _ _)
    refine hK _ _ _ _ _ _ (r_get rfl rfl rfl (?_ : K _ _ _ _ _ _))
    refine hK _ _ _ _ _ _ (And.intro (fun _ => ?_) (fun c9 => absurd (nI_le (Nat.le_refl m) (by omega)) c9))
    iterate 1 refine hK _ _ _ _ _ _ (?_ : K _ _ _ _ _ _)
    exact hK _ _ _ _ _ _ (r_lret rfl rfl rfl hQ)
  · intro k h0k hk ihk
    iterate 2 refine hK _ _ _ _ _ _ (?_ : K _ _ _ _ _ _)
    refine hK _ _ _ _ _ _ (r_get rfl rfl rfl (?_ : K _ _ _ _ _ _))
    refine hK _ _ _ _ _ _ (And.intro (fun c9 => absurd c9 (nI_ge hk (by omega))) (fun _ => ?_))
    iterate 2 refine hK _ _ _ _ _ _ (?_ : K _ _ _ _ _ _)
    refine hK _ _ _ _ _ _ (r_get rfl rfl rfl (?_ : K _ _ _ _ _ _))
    iterate 1 refine hK _ _ _ _ _ _ (?_ : K _ _ _ _ _ _)
    refine hK _ _ _ _ _ _ (r_lald' (v := lN (kv k)) rfl (N := 36) (f := kp) rfl (vp_in_nI (by omega) (by decide)) (by rw [nI_clamp (by omega)]; exact hkp k hk) (?_ : K _ _ _ _ _ _))
    iterate 3 refine hK _ _ _ _ _ _ (?_ : K _ _ _ _ _ _)
    refine hK _ _ _ _ _ _ (And.intro (fun c1 => ?_) (fun c1 => ?_))
    · skip
      have hl1 := lfN_lt (m := m) hv k (by omega) hkv
      have hl2 : lfN kv v k ^^^ kv k < 2 ^ 35 := Nat.xor_lt_two_pow hl1 (hkv k hk)
      rw [lg_cmp_ge, fb_xorL, lN_le3 hl1 hl2] at c1
      iterate 4 refine hK _ _ _ _ _ _ (?_ : K _ _ _ _ _ _)
      rw [lfN_f (by omega)] at ihk
      rw [nI_add k 1]
      first | exact ihk | exact hW _ _ _ _ _ _ _ (by simp) ihk
    · skip
      have hl1 := lfN_lt (m := m) hv k (by omega) hkv
      have hl2 : lfN kv v k ^^^ kv k < 2 ^ 35 := Nat.xor_lt_two_pow hl1 (hkv k hk)
      rw [lg_cmp_ge, fb_xorL, lN_le3 hl1 hl2] at c1
      iterate 2 refine hK _ _ _ _ _ _ (?_ : K _ _ _ _ _ _)
      refine hK _ _ _ _ _ _ (r_get rfl rfl rfl (?_ : K _ _ _ _ _ _))
      iterate 1 refine hK _ _ _ _ _ _ (?_ : K _ _ _ _ _ _)
      refine hK _ _ _ _ _ _ (r_lald' (v := lN (kv k)) rfl (N := 36) (f := kp) rfl (vp_in_nI (by omega) (by decide)) (by rw [nI_clamp (by omega)]; exact hkp k hk) (?_ : K _ _ _ _ _ _))
      iterate 5 refine hK _ _ _ _ _ _ (?_ : K _ _ _ _ _ _)
      rw [lfN_t (by omega)] at ihk
      rw [fb_xorL, nI_add k 1]
      first | exact ihk | exact hW _ _ _ _ _ _ _ (by simp) ihk

set_option maxRecDepth 10000 in
/-- Model.rank -/
theorem kX7_rank {S : Nat × (Nat → Int32)} {d : Nat} {Q : eQ} {b : Bool} {X : Nat → va_E} {A mk ro nx pi : Nat → Int32} {kp : Nat → Int64} {km th : Int32} {T : List va_E} {P : Nat → Nat → Bool} {p : Nat} (hA : MI P A) (hp : p < 6) {t : Nat} (ht7 : t < 7) (hQ : ∀ kp2 kv m, RK kp2 kv m (bbL (P p) t 128) → Q (.inl (some (.int (nI m)))) (b, mW X A mk ro nx pi kp2 (nI m) th T)) : okCall S MT (d + 5) nX7_rank [.ref 24, .int (nI p), .int (nI t)] (b, mW X A mk ro nx pi kp km th T) Q := by
  refine okc (M := MX7_rank) rfl rfl fun K hK hW => ?_
  show K 0 [(0, .ref 24), (1, .int (nI p)), (2, .int (nI t))] [] (b, mW X A mk ro nx pi kp km th T) 0 0
  iterate 2 refine hK _ _ _ _ _ _ (?_ : K _ _ _ _ _ _)
  refine hK _ _ _ _ _ _ (r_put rfl rfl rfl rfl (?_ : K _ _ _ _ _ _))
  show K _ _ _ (b, mW X A mk ro nx pi kp (nI 0) th T) _ _
  iterate 2 refine hK _ _ _ _ _ _ (?_ : K _ _ _ _ _ _)
  refine hW _ _ [(3, .int (nI 1)), (0, .ref 24), (1, .int (nI p)), (2, .int (nI t))] _ _ _ _ (by simp) ?_
  refine up (P := fun k => ∀ (kp2 : Nat → Int64) (kv : Nat → Nat) (m : Nat), RK kp2 kv m (bbL (P p) t (k)) → K 7 [(3, .int (nI (k))), (0, .ref 24), (1, .int (nI p)), (2, .int (nI t))] [] (b, mW X A mk ro nx pi kp2 (nI m) th T) 0 0) 128 1 ?_ ?_ (by decide) _ (fun _ => 0) 0 (rk_e _ _)
  · skip
    intro kp2 kv m hh
    iterate 2 refine hK _ _ _ _ _ _ (?_ : K _ _ _ _ _ _)
    refine hK _ _ _ _ _ _ (And.intro (fun _ => ?_) (fun c9 => absurd (nI_le (Nat.le_refl 128) (by decide)) c9))
    iterate 1 refine hK _ _ _ _ _ _ (?_ : K _ _ _ _ _ _)
    refine hK _ _ _ _ _ _ (r_get rfl rfl rfl (?_ : K _ _ _ _ _ _))
    exact hK _ _ _ _ _ _ (r_iret rfl rfl rfl rfl (hQ _ _ _ hh))
  · intro k h0k hk ihk kp2 kv m hh
    iterate 2 refine hK _ _ _ _ _ _ (?_ : K _ _ _ _ _ _)
    refine hK _ _ _ _ _ _ (And.intro (fun c9 => absurd c9 (nI_ge (by omega) (by decide))) (fun _ => ?_))
    iterate 2 refine hK _ _ _ _ _ _ (?_ : K _ _ _ _ _ _)
    refine hK _ _ _ _ _ _ (And.intro (fun c9 => absurd c9 (nI_nlt (show t ≤ 6 by omega) (by decide))) (fun _ => ?_))
    iterate 3 refine hK _ _ _ _ _ _ (?_ : K _ _ _ _ _ _)
    refine hK _ _ _ _ _ _ (r_callV rfl (fun _ => rfl) rfl (b0 rfl rfl rfl) (kX7_isThere (i := k) hA hp (by omega) (by omega) (?_ : K _ _ _ _ _ _)))
    refine hK _ _ _ _ _ _ (And.intro (fun c1 => ?_) (fun c1 => ?_))
    · skip
      iterate 2 refine hK _ _ _ _ _ _ (?_ : K _ _ _ _ _ _)
      rw [nI_add k 1]
      first | exact (ihk _ _ _ (by rw [bbL_f (by unfold bbP; rw [(b2i_0.mp c1)]; simp)]; exact hh)) | exact hW _ _ _ _ _ _ _ (by simp) (ihk _ _ _ (by rw [bbL_f (by unfold bbP; rw [(b2i_0.mp c1)]; simp)]; exact hh))
    · skip
      iterate 1 refine hK _ _ _ _ _ _ (?_ : K _ _ _ _ _ _)
      refine hK _ _ _ _ _ _ (r_callS rfl (fun _ => rfl) (b0 rfl rfl rfl) (kX7_height (i := k) (by omega) (by omega) (?_ : K _ _ _ _ _ _)))
      iterate 1 refine hK _ _ _ _ _ _ (?_ : K _ _ _ _ _ _)
      refine hK _ _ _ _ _ _ (And.intro (fun c2 => ?_) (fun c2 => ?_))
      · skip
        have heq : ht k = t := (nI_eq (by have := ht_7 (show k < 128 by omega); omega) (by omega)).mp c2
        have hm35 : m ≤ 35 := by have := rk_35 (s := P p) ht7 (show k ≤ 128 by omega); rw [← hh.2.2.2] at this; exact this
        have hkv : ∀ j, j < m → kv j < 2 ^ 35 := fun j hj => by obtain ⟨tp, hB⟩ := hh.2.1; exact (hB j hj).1
        iterate 2 refine hK _ _ _ _ _ _ (?_ : K _ _ _ _ _ _)
        refine hK _ _ _ _ _ _ (r_callS rfl (fun _ => rfl) (b0 rfl rfl rfl) (kX7_borderBits (i := k) (by omega) (?_ : K _ _ _ _ _ _)))
        refine hK _ _ _ _ _ _ (r_callV rfl (fun _ => rfl) rfl (b0 rfl rfl rfl) (kX7_left (km := nI 0) (kv := kv) (m := m) (by omega) hh.1 hkv (bb_lt (show k < 128 by omega)) (?_ : K _ _ _ _ _ _)))
        iterate 4 refine hK _ _ _ _ _ _ (?_ : K _ _ _ _ _ _)
        refine hK _ _ _ _ _ _ (And.intro (fun c3 => ?_) (fun c3 => ?_))
        · skip
          have hl1 := lfN_lt (m := m) (bb_lt (show k < 128 by omega)) m (Nat.le_refl _) hkv
          have h30 : lfN kv (bb k) m = 0 := (lz (by omega)).mp c3
          iterate 3 refine hK _ _ _ _ _ _ (?_ : K _ _ _ _ _ _)
          rw [nI_add k 1]
          first | exact (ihk _ _ _ (by rw [bbL_t (by unfold bbP; rw [decide_eq_true (show 0 < k by omega), decide_eq_true heq, (Bool.of_not_eq_false fun c9 => c1 (b2i_0.mpr c9))]; rfl)]; exact rk_same hh h30)) | exact hW _ _ _ _ _ _ _ (by simp) (ihk _ _ _ (by rw [bbL_t (by unfold bbP; rw [decide_eq_true (show 0 < k by omega), decide_eq_true heq, (Bool.of_not_eq_false fun c9 => c1 (b2i_0.mpr c9))]; rfl)]; exact rk_same hh h30))
        · skip
          have hl1 := lfN_lt (m := m) (bb_lt (show k < 128 by omega)) m (Nat.le_refl _) hkv
          have h30 : lfN kv (bb k) m ≠ 0 := fun c9 => c3 ((lz (by omega)).mpr c9)
          iterate 1 refine hK _ _ _ _ _ _ (?_ : K _ _ _ _ _ _)
          refine hK _ _ _ _ _ _ (r_get rfl rfl rfl (?_ : K _ _ _ _ _ _))
          iterate 1 refine hK _ _ _ _ _ _ (?_ : K _ _ _ _ _ _)
          refine hK _ _ _ _ _ _ (r_get rfl rfl rfl (?_ : K _ _ _ _ _ _))
          iterate 1 refine hK _ _ _ _ _ _ (?_ : K _ _ _ _ _ _)
          refine hK _ _ _ _ _ _ (r_last' rfl (N := 36) (f := kp2) rfl (vp_in_nI (by omega) (by decide)) (show (ilA 36 _ : va_E) = ilA 36 (vp_updL kp2 m (lN (lfN kv (bb k) m))) by rw [nI_clamp (by omega)]) (?_ : K _ _ _ _ _ _))
          show K _ _ _ (b, mW X A mk ro nx pi (vp_updL kp2 m (lN (lfN kv (bb k) m))) (nI m) th T) _ _
          iterate 2 refine hK _ _ _ _ _ _ (?_ : K _ _ _ _ _ _)
          refine hK _ _ _ _ _ _ (r_get rfl rfl rfl (?_ : K _ _ _ _ _ _))
          iterate 2 refine hK _ _ _ _ _ _ (?_ : K _ _ _ _ _ _)
          refine hK _ _ _ _ _ _ (r_put rfl rfl rfl rfl (?_ : K _ _ _ _ _ _))
          show K _ _ _ (b, mW X A mk ro nx pi (vp_updL kp2 m (lN (lfN kv (bb k) m))) (nI m + nI 1) th T) _ _
          iterate 2 refine hK _ _ _ _ _ _ (?_ : K _ _ _ _ _ _)
          rw [nI_add k 1, nI_add m 1]
          first | exact (ihk _ _ _ (by rw [bbL_t (by unfold bbP; rw [decide_eq_true (show 0 < k by omega), decide_eq_true heq, (Bool.of_not_eq_false fun c9 => c1 (b2i_0.mpr c9))]; rfl)]; exact rk_new hh (bb_lt (by omega)) h30)) | exact hW _ _ _ _ _ _ _ (by simp) (ihk _ _ _ (by rw [bbL_t (by unfold bbP; rw [decide_eq_true (show 0 < k by omega), decide_eq_true heq, (Bool.of_not_eq_false fun c9 => c1 (b2i_0.mpr c9))]; rfl)]; exact rk_new hh (bb_lt (by omega)) h30))
      · skip
        have hne : ht k ≠ t := fun c9 => c2 (by rw [c9])
        iterate 3 refine hK _ _ _ _ _ _ (?_ : K _ _ _ _ _ _)
        rw [nI_add k 1]
        first | exact (ihk _ _ _ (by rw [bbL_f (by unfold bbP; rw [decide_eq_false hne]; simp)]; exact hh)) | exact hW _ _ _ _ _ _ _ (by simp) (ihk _ _ _ (by rw [bbL_f (by unfold bbP; rw [decide_eq_false hne]; simp)]; exact hh))

set_option maxRecDepth 10000 in
/-- Model.rank beyond the heights -/
theorem kX7_rank7 {S : Nat × (Nat → Int32)} {d : Nat} {Q : eQ} {b : Bool} {X : Nat → va_E} {A mk ro nx pi : Nat → Int32} {kp : Nat → Int64} {km th : Int32} {T : List va_E} {p : Nat} (hQ : Q (.inl (some (.int (nI 0)))) (b, mW X A mk ro nx pi kp (nI 0) th T)) : okCall S MT (d + 5) nX7_rank [.ref 24, .int (nI p), .int (nI 7)] (b, mW X A mk ro nx pi kp km th T) Q := by
  refine okc (M := MX7_rank) rfl rfl fun K hK hW => ?_
  show K 0 [(0, .ref 24), (1, .int (nI p)), (2, .int (nI 7))] [] (b, mW X A mk ro nx pi kp km th T) 0 0
  iterate 2 refine hK _ _ _ _ _ _ (?_ : K _ _ _ _ _ _)
  refine hK _ _ _ _ _ _ (r_put rfl rfl rfl rfl (?_ : K _ _ _ _ _ _))
  show K _ _ _ (b, mW X A mk ro nx pi kp (nI 0) th T) _ _
  iterate 4 refine hK _ _ _ _ _ _ (?_ : K _ _ _ _ _ _)
  refine hK _ _ _ _ _ _ (And.intro (fun c9 => absurd c9 (nI_ge (show 1 < 128 by decide) (by decide))) (fun _ => ?_))
  iterate 2 refine hK _ _ _ _ _ _ (?_ : K _ _ _ _ _ _)
  refine hK _ _ _ _ _ _ (And.intro (fun _ => ?_) (fun c9 => absurd (nI_lt (show 6 < 7 by decide) (by decide)) c9))
  iterate 1 refine hK _ _ _ _ _ _ (?_ : K _ _ _ _ _ _)
  refine hK _ _ _ _ _ _ (r_get rfl rfl rfl (?_ : K _ _ _ _ _ _))
  exact hK _ _ _ _ _ _ (r_iret rfl rfl rfl rfl hQ)

theorem kX7_rk {S : Nat × (Nat → Int32)} {d : Nat} {Q : eQ} {b : Bool} {X : Nat → va_E} {A mk ro nx pi : Nat → Int32} {kp : Nat → Int64} {km th : Int32} {T : List va_E} {P : Nat → Nat → Bool} {p t : Nat} (hA : MI P A) (hp : p < 6) (ht7 : t ≤ 7) (hQ : ∀ kp2 kv m, RK kp2 kv m (bbL (P p) t 128) → Q (.inl (some (.int (nI m)))) (b, mW X A mk ro nx pi kp2 (nI m) th T)) : okCall S MT (d + 5) nX7_rank [.ref 24, .int (nI p), .int (nI t)] (b, mW X A mk ro nx pi kp km th T) Q := by
  by_cases e : t = 7
  · subst e
    refine kX7_rank7 (hQ kp (fun _ => 0) 0 ?_)
    rw [bbL_7]; exact rk_e _ _
  · exact kX7_rank hA hp (by omega) hQ
theorem Rr_rk {kp : Nat → Int64} {kv : Nat → Nat} {m t : Nat} {s : Nat → Bool} (h : RK kp kv m (bbL s t 128)) (h1 : 1 ≤ t) : m = Rr s t := by rw [h.2.2.2, Rr_1 s h1]
theorem hol_m {s : Nat → Bool} (hs : Shp s) (h0 : fb_ct s 128 ≠ 0) (t : Nat) : (t = 0 → nI (cnt s t) - nI 1 - nI (Rr s (t + 1)) = nZ (hol s t)) ∧ (t ≠ 0 → nI (cnt s t) - nI (Rr s t) - nI (Rr s (t + 1)) = nZ (hol s t)) := by
  have h := hbV_ok hs t
  unfold hbV at h
  rw [decide_eq_false h0] at h
  refine ⟨fun e => ?_, fun e => ?_⟩
  · subst e
    rw [decide_eq_true rfl] at h
    have h : nI (cnt s 0) - nI (Rr s 0) - nI (Rr s 1) - nI 1 = nZ (hol s 0) := h
    rw [← h, Rr_0]
    show nI (cnt s 0) - nI 1 - nI (Rr s 1) = nI (cnt s 0) - nI 0 - nI (Rr s 1) - nI 1
    rw [nZ_nI, nZ_nI, nZ_nI, nZ_nI, nZ_sub, nZ_sub, nZ_sub, nZ_sub, nZ_sub]
    exact congrArg nZ (by omega)
  · rw [decide_eq_false e] at h
    exact h
theorem hol_0 {s : Nat → Bool} (h0 : fb_ct s 128 = 0) (t : Nat) : nZ (hol s t) = nI 0 := by unfold hol; rw [if_pos h0]; rfl
set_option maxRecDepth 10000 in
/-- Model.free -/
theorem kX7_free {S : Nat × (Nat → Int32)} {d : Nat} {Q : eQ} {b : Bool} {X : Nat → va_E} {A mk ro nx pi : Nat → Int32} {kp : Nat → Int64} {km th : Int32} {T : List va_E} {P : Nat → Nat → Bool} {R : Nat → Bool} {x : Int32} {y : Int32} (hI : IvC P R) (hA : MI P A) (hR : RI R ro) (hQ : mQ (.int (nI 0)) cmA (o_free P R x y) Q b X A ro T) : okCall S MT (d + 6) nX7_free [.ref 24, .int x, .int y] (b, mW X A mk ro nx pi kp km th T) Q := by
  refine okc (M := MX7_free) rfl rfl fun K hK hW => ?_
  show K 0 [(0, .ref 24), (1, .int x), (2, .int y)] [] (b, mW X A mk ro nx pi kp km th T) 0 0
  unfold o_free at hQ
  iterate 2 refine hK _ _ _ _ _ _ (?_ : K _ _ _ _ _ _)
  refine hK _ _ _ _ _ _ (r_callS rfl (fun _ => rfl) (b0 rfl rfl rfl) (kX7_isPlace (fun h9 => (?_ : K _ _ _ _ _ _)) (fun p _ hp hx h9 => (?_ : K _ _ _ _ _ _))))
  · skip
    refine hK _ _ _ _ _ _ (And.intro (fun _ => ?_) (fun c9 => absurd (rfl) c9))
    iterate 2 refine hK _ _ _ _ _ _ (?_ : K _ _ _ _ _ _)
    refine hK _ _ _ _ _ _ (r_callV rfl (fun _ => rfl) rfl (b0 rfl rfl rfl) (kw_n (n := 1) (by decide) (by decide) (?_ : K _ _ _ _ _ _)))
    refine hK _ _ _ _ _ _ (And.intro (fun c9 => absurd c9 (nI1_0)) (fun _ => ?_))
    iterate 2 refine hK _ _ _ _ _ _ (?_ : K _ _ _ _ _ _)
    exact hK _ _ _ _ _ _ (r_iret rfl rfl rfl rfl (mq_n h9 hQ))
  · skip
    subst hx
    have hQ1 := mq_s h9 hQ
    refine hK _ _ _ _ _ _ (And.intro (fun c9 => absurd c9 (nI1_0)) (fun _ => ?_))
    iterate 3 refine hK _ _ _ _ _ _ (?_ : K _ _ _ _ _ _)
    refine hK _ _ _ _ _ _ (r_callS rfl (fun _ => rfl) (b0 rfl rfl rfl) (kX7_isIn (fun h8 => (?_ : K _ _ _ _ _ _)) (fun h7 h8 => (?_ : K _ _ _ _ _ _))))
    · skip
      have hn := rng_or (a := 1) (m := 6) (by decide) (by decide) h8
      refine hK _ _ _ _ _ _ (And.intro (fun _ => ?_) (fun c9 => absurd (rfl) c9))
      iterate 2 refine hK _ _ _ _ _ _ (?_ : K _ _ _ _ _ _)
      refine hK _ _ _ _ _ _ (r_callV rfl (fun _ => rfl) rfl (b0 rfl rfl rfl) (kw_n (n := 2) (by decide) (by decide) (?_ : K _ _ _ _ _ _)))
      refine hK _ _ _ _ _ _ (And.intro (fun c9 => absurd c9 (nI1_0)) (fun _ => ?_))
      iterate 2 refine hK _ _ _ _ _ _ (?_ : K _ _ _ _ _ _)
      exact hK _ _ _ _ _ _ (r_iret rfl rfl rfl rfl (mq_n hn hQ1))
    · skip
      obtain ⟨k, hk0, hk, rfl, hn⟩ := rng_an (a := 1) (m := 6) (by decide) (by decide) h7 h8
      have hQ2 := mq_s hn hQ1
      refine hK _ _ _ _ _ _ (And.intro (fun c9 => absurd c9 (nI1_0)) (fun _ => ?_))
      iterate 1 refine hK _ _ _ _ _ _ (?_ : K _ _ _ _ _ _)
      refine hK _ _ _ _ _ _ (r_callV rfl (fun _ => rfl) rfl (b0 rfl rfl rfl) (kw_0 (?_ : K _ _ _ _ _ _)))
      refine hK _ _ _ _ _ _ (And.intro (fun _ => ?_) (fun c9 => absurd (rfl) c9))
      iterate 3 refine hK _ _ _ _ _ _ (?_ : K _ _ _ _ _ _)
      refine hK _ _ _ _ _ _ (r_callV rfl (fun _ => rfl) rfl (b0 rfl rfl rfl) (kX7_rk (t := k) hA hp (by omega) fun kp2 kv m hrk => (?_ : K _ _ _ _ _ _)))
      rw [Rr_rk hrk hk0]
      exact hK _ _ _ _ _ _ (r_iret rfl rfl rfl rfl (mi hQ2 hA hR))

set_option maxRecDepth 10000 in
/-- Model.holes -/
theorem kX7_holes {S : Nat × (Nat → Int32)} {d : Nat} {Q : eQ} {b : Bool} {X : Nat → va_E} {A mk ro nx pi : Nat → Int32} {kp : Nat → Int64} {km th : Int32} {T : List va_E} {P : Nat → Nat → Bool} {R : Nat → Bool} {x : Int32} {y : Int32} (hI : IvC P R) (hA : MI P A) (hR : RI R ro) (hQ : mQ (.int (nI 0)) cmA (o_holes P R x y) Q b X A ro T) : okCall S MT (d + 6) nX7_holes [.ref 24, .int x, .int y] (b, mW X A mk ro nx pi kp km th T) Q := by
  refine okc (M := MX7_holes) rfl rfl fun K hK hW => ?_
  show K 0 [(0, .ref 24), (1, .int x), (2, .int y)] [] (b, mW X A mk ro nx pi kp km th T) 0 0
  unfold o_holes at hQ
  iterate 2 refine hK _ _ _ _ _ _ (?_ : K _ _ _ _ _ _)
  refine hK _ _ _ _ _ _ (r_callS rfl (fun _ => rfl) (b0 rfl rfl rfl) (kX7_isPlace (fun h9 => (?_ : K _ _ _ _ _ _)) (fun p _ hp hx h9 => (?_ : K _ _ _ _ _ _))))
  · skip
    refine hK _ _ _ _ _ _ (And.intro (fun _ => ?_) (fun c9 => absurd (rfl) c9))
    iterate 2 refine hK _ _ _ _ _ _ (?_ : K _ _ _ _ _ _)
    refine hK _ _ _ _ _ _ (r_callV rfl (fun _ => rfl) rfl (b0 rfl rfl rfl) (kw_n (n := 1) (by decide) (by decide) (?_ : K _ _ _ _ _ _)))
    refine hK _ _ _ _ _ _ (And.intro (fun c9 => absurd c9 (nI1_0)) (fun _ => ?_))
    iterate 1 refine hK _ _ _ _ _ _ (?_ : K _ _ _ _ _ _)
    exact hK _ _ _ _ _ _ (r_iret rfl rfl rfl rfl (mq_n h9 hQ))
  · skip
    subst hx
    have hQ1 := mq_s h9 hQ
    refine hK _ _ _ _ _ _ (And.intro (fun c9 => absurd c9 (nI1_0)) (fun _ => ?_))
    iterate 1 refine hK _ _ _ _ _ _ (?_ : K _ _ _ _ _ _)
    refine hK _ _ _ _ _ _ (r_callS rfl (fun _ => rfl) (b0 rfl rfl rfl) (kX7_isHeight (fun h9 => (?_ : K _ _ _ _ _ _)) (fun k hk0 hk hx h9 => (?_ : K _ _ _ _ _ _))))
    · skip
      refine hK _ _ _ _ _ _ (And.intro (fun _ => ?_) (fun c9 => absurd (rfl) c9))
      iterate 2 refine hK _ _ _ _ _ _ (?_ : K _ _ _ _ _ _)
      refine hK _ _ _ _ _ _ (r_callV rfl (fun _ => rfl) rfl (b0 rfl rfl rfl) (kw_n (n := 2) (by decide) (by decide) (?_ : K _ _ _ _ _ _)))
      refine hK _ _ _ _ _ _ (And.intro (fun c9 => absurd c9 (nI1_0)) (fun _ => ?_))
      iterate 1 refine hK _ _ _ _ _ _ (?_ : K _ _ _ _ _ _)
      exact hK _ _ _ _ _ _ (r_iret rfl rfl rfl rfl (mq_n h9 hQ1))
    · skip
      subst hx
      have hQ2 := mq_s h9 hQ1
      refine hK _ _ _ _ _ _ (And.intro (fun c9 => absurd c9 (nI1_0)) (fun _ => ?_))
      iterate 1 refine hK _ _ _ _ _ _ (?_ : K _ _ _ _ _ _)
      refine hK _ _ _ _ _ _ (r_callV rfl (fun _ => rfl) rfl (b0 rfl rfl rfl) (kw_0 (?_ : K _ _ _ _ _ _)))
      refine hK _ _ _ _ _ _ (And.intro (fun _ => ?_) (fun c9 => absurd (rfl) c9))
      iterate 2 refine hK _ _ _ _ _ _ (?_ : K _ _ _ _ _ _)
      refine hK _ _ _ _ _ _ (r_callV rfl (fun _ => rfl) rfl (b0 rfl rfl rfl) (kX7_sizeOf hA hp (?_ : K _ _ _ _ _ _)))
      refine hK _ _ _ _ _ _ (And.intro (fun z1 => ?_) (fun z1 => ?_))
      · skip
        have h0 : fb_ct (P p) 128 = 0 := by rw [← cF_fb (hI.1 p hp).1]; exact (nI_z (cF_128 _)).mp z1
        iterate 1 refine hK _ _ _ _ _ _ (?_ : K _ _ _ _ _ _)
        rw [hol_0 h0] at hQ2
        exact hK _ _ _ _ _ _ (r_iret rfl rfl rfl rfl (mi hQ2 hA hR))
      · skip
        have h0 : fb_ct (P p) 128 ≠ 0 := fun c9 => z1 (by rw [cF_fb (hI.1 p hp).1, c9]; rfl)
        iterate 1 refine hK _ _ _ _ _ _ (?_ : K _ _ _ _ _ _)
        refine hK _ _ _ _ _ _ (And.intro (fun z2 => ?_) (fun z2 => ?_))
        · skip
          have e0 : k = 0 := (nI_z (by omega)).mp z2
          subst e0
          iterate 6 refine hK _ _ _ _ _ _ (?_ : K _ _ _ _ _ _)
          refine hK _ _ _ _ _ _ (r_callV rfl (fun _ => rfl) rfl (b0 rfl rfl rfl) (kX7_facesOf hA hp (by omega) (?_ : K _ _ _ _ _ _)))
          iterate 7 refine hK _ _ _ _ _ _ (?_ : K _ _ _ _ _ _)
          refine hK _ _ _ _ _ _ (r_callV rfl (fun _ => rfl) rfl (b0 rfl rfl rfl) (okW (by rw [nI_add 0 1]) (kX7_rk (t := 0 + 1) hA hp (by omega) fun kp3 kv3 m3 hrk3 => (?_ : K _ _ _ _ _ _))))
          iterate 1 refine hK _ _ _ _ _ _ (?_ : K _ _ _ _ _ _)
          rw [Rr_rk hrk3 (by omega), (hol_m (hI.1 p hp) h0 0).1 rfl]
          exact hK _ _ _ _ _ _ (r_iret rfl rfl rfl rfl (mi hQ2 hA hR))
        · skip
          have e0 : k ≠ 0 := fun c9 => z2 (by rw [c9]; rfl)
          iterate 3 refine hK _ _ _ _ _ _ (?_ : K _ _ _ _ _ _)
          refine hK _ _ _ _ _ _ (r_callV rfl (fun _ => rfl) rfl (b0 rfl rfl rfl) (kX7_rk (t := k) hA hp (by omega) fun kp2 kv m hrk => (?_ : K _ _ _ _ _ _)))
          iterate 4 refine hK _ _ _ _ _ _ (?_ : K _ _ _ _ _ _)
          refine hK _ _ _ _ _ _ (r_callV rfl (fun _ => rfl) rfl (b0 rfl rfl rfl) (kX7_facesOf hA hp (by omega) (?_ : K _ _ _ _ _ _)))
          iterate 7 refine hK _ _ _ _ _ _ (?_ : K _ _ _ _ _ _)
          refine hK _ _ _ _ _ _ (r_callV rfl (fun _ => rfl) rfl (b0 rfl rfl rfl) (okW (by rw [nI_add k 1]) (kX7_rk (t := k + 1) hA hp (by omega) fun kp3 kv3 m3 hrk3 => (?_ : K _ _ _ _ _ _))))
          iterate 1 refine hK _ _ _ _ _ _ (?_ : K _ _ _ _ _ _)
          rw [Rr_rk hrk3 (by omega), Rr_rk hrk (by omega), (hol_m (hI.1 p hp) h0 k).2 e0]
          exact hK _ _ _ _ _ _ (r_iret rfl rfl rfl rfl (mi hQ2 hA hR))

section Kp
variable {S : Nat × (Nat → Int32)} {d : Nat} {h : eH} {Q : eQ} {x : Int32}
theorem kp_0 (hn : rng 0 6 x = none) (hQ : Q (.inl (some (.int (nI 0)))) h) : okCall S MT (d + 2) nX7_isPlace [.int x] h Q := kX7_isPlace (fun _ => hQ) fun k h1 h2 h3 h4 => by rw [hn] at h4; cases h4
theorem kp_1 {p : Nat} (hp : p < 6) (hQ : Q (.inl (some (.int (nI 1)))) h) : okCall S MT (d + 2) nX7_isPlace [.int (nI p)] h Q := kX7_isPlace (fun hn => by rw [rng_I (by decide) (Nat.zero_le p) hp] at hn; cases hn) fun _ _ _ _ _ => hQ
end Kp
theorem fil_m {R s : Nat → Bool} {n : Nat} (hR : RowI R n) (kp : Nat → Int64) (kv : Nat → Nat) (m t : Nat) (h : RK kp kv m (bbL s t 128)) (ht : fb_ct R 128 ≠ 0 → t = n) : lfN kv (rbm R 128) m = 0 ↔ fil R s (rn R) = true := by
  rw [rk_z h, ← fil_rn hR]
  by_cases h0 : fb_ct R 128 = 0
  · rw [fil_0 h0]
    have e : rbm R 128 = 0 := by
      have : ∀ k, k ≤ 128 → rbm R k = 0 := fun k => by
        induction k with
        | zero => intro _; rfl
        | succ k ih => intro hk; rw [rbm_f (fb_ct_zero.mp h0 k (by omega))]; exact ih (by omega)
      exact this 128 (Nat.le_refl _)
    rw [e]
    exact ⟨fun _ => rfl, fun _ => sp_0 _⟩
  · rw [ht h0, fil_sp hR.2.1 hR.2.2.2]
theorem rhL_p {R : Nat → Bool} {n : Nat} (hR : RowI R n) : ∃ t, t ≤ 7 ∧ rhL R 128 + nI 1 = nI t ∧ (fb_ct R 128 ≠ 0 → t = n) := by
  have h1 := hR.2.1
  have h7 := hR.2.2.1
  by_cases h0 : fb_ct R 128 = 0
  · refine ⟨0, by omega, ?_, fun h => absurd h0 h⟩
    rw [rhL_0 128 (fb_ct_zero.mp h0)]; decide +kernel
  · refine ⟨n, h7, ?_, fun _ => rfl⟩
    rw [rhL_v hR 128 (Nat.le_refl _) (fb_ct_pos.mp (Nat.pos_of_ne_zero h0)), nI_add]
    congr 1; omega
theorem hmb {kp : Nat → Int64} {kv : Nat → Nat} {m t : Nat} {s : Nat → Bool} (h : RK kp kv m (bbL s t 128)) (ht : t ≤ 7) : m ≤ 36 := by
  rw [h.2.2.2]
  by_cases e : t = 7
  · subst e; rw [bbL_7]; decide
  · have := rk_35 (s := s) (show t < 7 by omega) (Nat.le_refl 128); omega
set_option maxRecDepth 10000 in
/-- Model.fills -/
theorem kX7_fills {S : Nat × (Nat → Int32)} {d : Nat} {Q : eQ} {b : Bool} {X : Nat → va_E} {A mk ro nx pi : Nat → Int32} {kp : Nat → Int64} {km th : Int32} {T : List va_E} {P : Nat → Nat → Bool} {R : Nat → Bool} {x : Int32} (hI : IvC P R) (hA : MI P A) (hR : RI R ro) (hQ : mQ (.int (nI 0)) cmL (o_fills P R x) Q b X A ro T) : okCall S MT (d + 6) nX7_fills [.ref 24, .int x] (b, mW X A mk ro nx pi kp km th T) Q := by
  refine okc (M := MX7_fills) rfl rfl fun K hK hW => ?_
  show K 0 [(0, .ref 24), (1, .int x)] [] (b, mW X A mk ro nx pi kp km th T) 0 0
  unfold o_fills at hQ
  iterate 1 refine hK _ _ _ _ _ _ (?_ : K _ _ _ _ _ _)
  refine hK _ _ _ _ _ _ (r_callS rfl (fun _ => rfl) (b0 rfl rfl rfl) (kX7_isPlace (fun h9 => (?_ : K _ _ _ _ _ _)) (fun p _ hp hx h9 => (?_ : K _ _ _ _ _ _))))
  · skip
    iterate 7 refine hK _ _ _ _ _ _ (?_ : K _ _ _ _ _ _)
    refine hK _ _ _ _ _ _ (And.intro (fun c9 => absurd c9 (nI_ge (show 1 < 128 by decide) (by decide))) (fun _ => ?_))
    iterate 1 refine hK _ _ _ _ _ _ (?_ : K _ _ _ _ _ _)
    refine hK _ _ _ _ _ _ (r_callS rfl (fun _ => rfl) (b0 rfl rfl rfl) (kp_0 h9 (?_ : K _ _ _ _ _ _)))
    refine hK _ _ _ _ _ _ (And.intro (fun _ => ?_) (fun c9 => absurd (rfl) c9))
    iterate 2 refine hK _ _ _ _ _ _ (?_ : K _ _ _ _ _ _)
    refine hK _ _ _ _ _ _ (r_callS rfl (fun _ => rfl) (b0 rfl rfl rfl) (kp_0 h9 (?_ : K _ _ _ _ _ _)))
    refine hK _ _ _ _ _ _ (And.intro (fun _ => ?_) (fun c9 => absurd (rfl) c9))
    iterate 2 refine hK _ _ _ _ _ _ (?_ : K _ _ _ _ _ _)
    refine hK _ _ _ _ _ _ (r_callV rfl (fun _ => rfl) rfl (b0 rfl rfl rfl) (kw_n (n := 1) (by decide) (by decide) (?_ : K _ _ _ _ _ _)))
    refine hK _ _ _ _ _ _ (And.intro (fun c9 => absurd c9 (nI1_0)) (fun _ => ?_))
    iterate 1 refine hK _ _ _ _ _ _ (?_ : K _ _ _ _ _ _)
    exact hK _ _ _ _ _ _ (r_iret rfl rfl rfl rfl (mq_n h9 hQ))
  · skip
    subst hx
    have hQ1 := mq_s h9 hQ
    obtain ⟨n, hRw⟩ := hI.2
    iterate 5 refine hK _ _ _ _ _ _ (?_ : K _ _ _ _ _ _)
    refine hW _ _ [(5, .int (nI (1))), (3, .long (lN (rbm R (1)))), (2, .int (b2i (ofB (P p) R (1)))), (0, .ref 24), (1, .int (nI p))] _ _ _ _ (by simp [show b2i (ofB (P p) R 1) = nI 1 from rfl, show rbm R 1 = 0 from rfl]) ?_
    refine up (P := fun k => K 10 [(5, .int (nI (k))), (3, .long (lN (rbm R (k)))), (2, .int (b2i (ofB (P p) R (k)))), (0, .ref 24), (1, .int (nI p))] [] (b, mW X A mk ro nx pi kp km th T) 0 0) 128 1 ?_ ?_ (by decide)
    · skip
      iterate 2 refine hK _ _ _ _ _ _ (?_ : K _ _ _ _ _ _)
      refine hK _ _ _ _ _ _ (And.intro (fun _ => ?_) (fun c9 => absurd (nI_le (Nat.le_refl 128) (by decide)) c9))
      iterate 2 refine hK _ _ _ _ _ _ (?_ : K _ _ _ _ _ _)
      refine hK _ _ _ _ _ _ (r_callS rfl (fun _ => rfl) (b0 rfl rfl rfl) (kp_1 hp (?_ : K _ _ _ _ _ _)))
      refine hK _ _ _ _ _ _ (And.intro (fun c9 => absurd c9 (nI1_0)) (fun _ => ?_))
      iterate 1 refine hK _ _ _ _ _ _ (?_ : K _ _ _ _ _ _)
      refine hK _ _ _ _ _ _ (And.intro (fun z1 => ?_) (fun z1 => ?_))
      · skip
        have hf : decide (fb_ct (fun i => R i && !P p i) 128 = 0) = false := by rw [ofB_v hRw.1]; exact (b2i_0.mp z1)
        iterate 2 refine hK _ _ _ _ _ _ (?_ : K _ _ _ _ _ _)
        refine hK _ _ _ _ _ _ (r_callV rfl (fun _ => rfl) rfl (b0 rfl rfl rfl) (kw_n (n := 2) (by decide) (by decide) (?_ : K _ _ _ _ _ _)))
        refine hK _ _ _ _ _ _ (And.intro (fun c9 => absurd c9 (nI1_0)) (fun _ => ?_))
        iterate 1 refine hK _ _ _ _ _ _ (?_ : K _ _ _ _ _ _)
        exact hK _ _ _ _ _ _ (r_iret rfl rfl rfl rfl (mb_f hf hQ1))
      · skip
        have hQ2 := mb_t (by rw [ofB_v hRw.1]; exact (Bool.of_not_eq_false fun c9 => z1 (b2i_0.mpr c9))) hQ1
        obtain ⟨t, ht7, ht1, ht2⟩ := rhL_p hRw
        iterate 1 refine hK _ _ _ _ _ _ (?_ : K _ _ _ _ _ _)
        refine hK _ _ _ _ _ _ (r_callV rfl (fun _ => rfl) rfl (b0 rfl rfl rfl) (kw_0 (?_ : K _ _ _ _ _ _)))
        refine hK _ _ _ _ _ _ (And.intro (fun _ => ?_) (fun c9 => absurd (rfl) c9))
        iterate 3 refine hK _ _ _ _ _ _ (?_ : K _ _ _ _ _ _)
        refine hK _ _ _ _ _ _ (r_callV rfl (fun _ => rfl) rfl (b0 rfl rfl rfl) (kX7_rowHeight hR (?_ : K _ _ _ _ _ _)))
        iterate 2 refine hK _ _ _ _ _ _ (?_ : K _ _ _ _ _ _)
        refine hK _ _ _ _ _ _ (r_callV rfl (fun _ => rfl) rfl (b0 rfl rfl rfl) (okW (by rw [ht1]) (kX7_rk (t := t) hA hp ht7 fun kp2 kv m hrk => (?_ : K _ _ _ _ _ _))))
        iterate 3 refine hK _ _ _ _ _ _ (?_ : K _ _ _ _ _ _)
        refine hK _ _ _ _ _ _ (r_callV rfl (fun _ => rfl) rfl (b0 rfl rfl rfl) (kX7_left (km := nI 0) (kv := kv) (m := m) (hmb hrk ht7) hrk.1 (fun j hj => by obtain ⟨tp, hB⟩ := hrk.2.1; exact (hB j hj).1) (rbm_lt R 128 (Nat.le_refl _)) (?_ : K _ _ _ _ _ _)))
        iterate 2 refine hK _ _ _ _ _ _ (?_ : K _ _ _ _ _ _)
        refine hK _ _ _ _ _ _ (And.intro (fun z2 => ?_) (fun z2 => ?_))
        · skip
          have hz := (fil_m hRw kp2 kv m t hrk ht2).mp ((lz (Nat.lt_trans (lfN_lt (m := m) (rbm_lt R 128 (Nat.le_refl _)) m (Nat.le_refl _) (fun j hj => by obtain ⟨tp, hB⟩ := hrk.2.1; exact (hB j hj).1)) (by decide))).mp z2)
          rw [hz] at hQ2
          iterate 2 refine hK _ _ _ _ _ _ (?_ : K _ _ _ _ _ _)
          exact hK _ _ _ _ _ _ (r_iret rfl rfl rfl rfl (mi hQ2 hA hR))
        · skip
          have hz : fil R (P p) (rn R) = false := Bool.eq_false_iff.mpr fun c9 => z2 ((lz (Nat.lt_trans (lfN_lt (m := m) (rbm_lt R 128 (Nat.le_refl _)) m (Nat.le_refl _) (fun j hj => by obtain ⟨tp, hB⟩ := hrk.2.1; exact (hB j hj).1)) (by decide))).mpr ((fil_m hRw kp2 kv m t hrk ht2).mpr c9))
          rw [hz] at hQ2
          iterate 1 refine hK _ _ _ _ _ _ (?_ : K _ _ _ _ _ _)
          exact hK _ _ _ _ _ _ (r_iret rfl rfl rfl rfl (mi hQ2 hA hR))
    · intro k h0k hk ihk
      iterate 2 refine hK _ _ _ _ _ _ (?_ : K _ _ _ _ _ _)
      refine hK _ _ _ _ _ _ (And.intro (fun c9 => absurd c9 (nI_ge (by omega) (by decide))) (fun _ => ?_))
      iterate 1 refine hK _ _ _ _ _ _ (?_ : K _ _ _ _ _ _)
      refine hK _ _ _ _ _ _ (r_callS rfl (fun _ => rfl) (b0 rfl rfl rfl) (kp_1 hp (?_ : K _ _ _ _ _ _)))
      refine hK _ _ _ _ _ _ (And.intro (fun c9 => absurd c9 (nI1_0)) (fun _ => ?_))
      iterate 2 refine hK _ _ _ _ _ _ (?_ : K _ _ _ _ _ _)
      refine hK _ _ _ _ _ _ (r_get rfl rfl rfl (?_ : K _ _ _ _ _ _))
      iterate 1 refine hK _ _ _ _ _ _ (?_ : K _ _ _ _ _ _)
      refine hK _ _ _ _ _ _ (r_zald' (v := b2i (R k)) rfl (N := 128) (f := ro) rfl (vp_in_nI (by omega) (by decide)) (by show ro (nI (k)).toNatClampNeg = _; rw [nI_clamp (by omega)]; exact hR k (by omega) (by omega)) (?_ : K _ _ _ _ _ _))
      refine hK _ _ _ _ _ _ (And.intro (fun c1 => ?_) (fun c1 => ?_))
      · skip
        iterate 6 refine hK _ _ _ _ _ _ (?_ : K _ _ _ _ _ _)
        refine hK _ _ _ _ _ _ (r_get rfl rfl rfl (?_ : K _ _ _ _ _ _))
        iterate 1 refine hK _ _ _ _ _ _ (?_ : K _ _ _ _ _ _)
        refine hK _ _ _ _ _ _ (r_zald' (v := b2i (R k)) rfl (N := 128) (f := ro) rfl (vp_in_nI (by omega) (by decide)) (by show ro (nI (k)).toNatClampNeg = _; rw [nI_clamp (by omega)]; exact hR k (by omega) (by omega)) (?_ : K _ _ _ _ _ _))
        refine hK _ _ _ _ _ _ (And.intro (fun _ => ?_) (fun c9 => absurd (b2i_0.mpr (b2i_0.mp c1)) c9))
        iterate 5 refine hK _ _ _ _ _ _ (?_ : K _ _ _ _ _ _)
        have e1 : ofB (P p) R (k + 1) = ofB (P p) R k := by rw [ofB_s (by omega), (b2i_0.mp c1)]; simp
        rw [e1, rbm_f (b2i_0.mp c1)] at ihk
        rw [and_1, fb_orL, Nat.or_zero, nI_add k 1]
        first | exact ihk | exact hW _ _ _ _ _ _ _ (by simp) ihk
      · skip
        iterate 3 refine hK _ _ _ _ _ _ (?_ : K _ _ _ _ _ _)
        refine hK _ _ _ _ _ _ (r_callV rfl (fun _ => rfl) rfl (b0 rfl rfl rfl) (kX7_isThere (i := k) hA hp (by omega) (by omega) (?_ : K _ _ _ _ _ _)))
        refine hK _ _ _ _ _ _ (And.intro (fun c2 => ?_) (fun c2 => ?_))
        · skip
          iterate 5 refine hK _ _ _ _ _ _ (?_ : K _ _ _ _ _ _)
          refine hK _ _ _ _ _ _ (r_get rfl rfl rfl (?_ : K _ _ _ _ _ _))
          iterate 1 refine hK _ _ _ _ _ _ (?_ : K _ _ _ _ _ _)
          refine hK _ _ _ _ _ _ (r_zald' (v := b2i (R k)) rfl (N := 128) (f := ro) rfl (vp_in_nI (by omega) (by decide)) (by show ro (nI (k)).toNatClampNeg = _; rw [nI_clamp (by omega)]; exact hR k (by omega) (by omega)) (?_ : K _ _ _ _ _ _))
          refine hK _ _ _ _ _ _ (And.intro (fun c9 => absurd c9 (c1)) (fun _ => ?_))
          iterate 1 refine hK _ _ _ _ _ _ (?_ : K _ _ _ _ _ _)
          refine hK _ _ _ _ _ _ (r_callS rfl (fun _ => rfl) (b0 rfl rfl rfl) (kX7_bitA (i := k) (by omega) (?_ : K _ _ _ _ _ _)))
          iterate 5 refine hK _ _ _ _ _ _ (?_ : K _ _ _ _ _ _)
          have e1 : ofB (P p) R (k + 1) = false := by rw [ofB_s (by omega), (b2i_0.mp c2), (Bool.of_not_eq_false fun c9 => c1 (b2i_0.mpr c9))]; simp
          rw [e1, rbm_t (by omega) (Bool.of_not_eq_false fun c9 => c1 (b2i_0.mpr c9))] at ihk
          rw [and_0, fb_orL, nI_add k 1]
          first | exact ihk | exact hW _ _ _ _ _ _ _ (by simp) ihk
        · skip
          iterate 6 refine hK _ _ _ _ _ _ (?_ : K _ _ _ _ _ _)
          refine hK _ _ _ _ _ _ (r_get rfl rfl rfl (?_ : K _ _ _ _ _ _))
          iterate 1 refine hK _ _ _ _ _ _ (?_ : K _ _ _ _ _ _)
          refine hK _ _ _ _ _ _ (r_zald' (v := b2i (R k)) rfl (N := 128) (f := ro) rfl (vp_in_nI (by omega) (by decide)) (by show ro (nI (k)).toNatClampNeg = _; rw [nI_clamp (by omega)]; exact hR k (by omega) (by omega)) (?_ : K _ _ _ _ _ _))
          refine hK _ _ _ _ _ _ (And.intro (fun c9 => absurd c9 (c1)) (fun _ => ?_))
          iterate 1 refine hK _ _ _ _ _ _ (?_ : K _ _ _ _ _ _)
          refine hK _ _ _ _ _ _ (r_callS rfl (fun _ => rfl) (b0 rfl rfl rfl) (kX7_bitA (i := k) (by omega) (?_ : K _ _ _ _ _ _)))
          iterate 5 refine hK _ _ _ _ _ _ (?_ : K _ _ _ _ _ _)
          have e1 : ofB (P p) R (k + 1) = ofB (P p) R k := by rw [ofB_s (by omega), (Bool.of_not_eq_false fun c9 => c2 (b2i_0.mpr c9))]; simp
          rw [e1, rbm_t (by omega) (Bool.of_not_eq_false fun c9 => c1 (b2i_0.mpr c9))] at ihk
          rw [and_1, fb_orL, nI_add k 1]
          first | exact ihk | exact hW _ _ _ _ _ _ _ (by simp) ihk

end MK2
