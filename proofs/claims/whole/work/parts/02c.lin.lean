/-! GF(2): numbers as rows of bits; what a list spans, and how many of it are free -/
section Lin
def sp : List Nat → Nat → Bool
  | [], v => v == 0
  | u :: L, v => sp L v || sp L (v ^^^ u)
def rk : List Nat → Nat
  | [] => 0
  | u :: L => bif sp L u then rk L else rk L + 1
theorem sp_cons {u v : Nat} {L : List Nat} : sp (u :: L) v = true ↔ sp L v = true ∨ sp L (v ^^^ u) = true := by
  show (sp L v || sp L (v ^^^ u)) = true ↔ _
  rw [Bool.or_eq_true]
theorem sp_0 : ∀ L : List Nat, sp L 0 = true
  | [] => rfl
  | _ :: L => sp_cons.mpr (Or.inl (sp_0 L))
theorem xor_cc (a b : Nat) : a ^^^ b ^^^ b = a := by rw [Nat.xor_assoc, Nat.xor_self, Nat.xor_zero]
theorem xor_swap (a b c : Nat) : a ^^^ b ^^^ c = a ^^^ c ^^^ b := by rw [Nat.xor_assoc, Nat.xor_comm b c, ← Nat.xor_assoc]
theorem xor_ex {a b c : Nat} (h : a ^^^ b = c) : a = c ^^^ b := by rw [← h, xor_cc]
theorem xor_0 {a b : Nat} (h : a ^^^ b = 0) : a = b := by rw [xor_ex h, Nat.zero_xor]
theorem sp_x : ∀ {L : List Nat} {a b : Nat}, sp L a = true → sp L b = true → sp L (a ^^^ b) = true
  | [], a, b, ha, hb => by
    have h1 : a = 0 := eq_of_beq ha
    have h2 : b = 0 := eq_of_beq hb
    subst h1; subst h2; rfl
  | u :: L, a, b, ha, hb => by
    rcases sp_cons.mp ha with ha | ha <;> rcases sp_cons.mp hb with hb | hb
    · exact sp_cons.mpr (Or.inl (sp_x ha hb))
    · refine sp_cons.mpr (Or.inr ?_)
      rw [Nat.xor_assoc]; exact sp_x ha hb
    · refine sp_cons.mpr (Or.inr ?_)
      rw [xor_swap]; exact sp_x ha hb
    · refine sp_cons.mpr (Or.inl ?_)
      have h := sp_x ha hb
      rw [← Nat.xor_assoc, xor_swap a u b, xor_cc] at h
      exact h
theorem sp_w {u v : Nat} {L : List Nat} (h : sp L v = true) : sp (u :: L) v = true := sp_cons.mpr (Or.inl h)
theorem sp_h (u : Nat) (L : List Nat) : sp (u :: L) u = true := sp_cons.mpr (Or.inr (by rw [Nat.xor_self]; exact sp_0 L))
theorem sp_m : ∀ {L : List Nat} {u : Nat}, u ∈ L → sp L u = true
  | a :: L, u, h => by
    rcases List.mem_cons.mp h with rfl | h
    · exact sp_h _ _
    · exact sp_w (sp_m h)
theorem sp_mono : ∀ {L L' : List Nat} {v : Nat}, (∀ u ∈ L, sp L' u = true) → sp L v = true → sp L' v = true
  | [], L', v, _, hv => by
    have h : v = 0 := eq_of_beq hv
    subst h; exact sp_0 L'
  | u :: L, L', v, h, hv => by
    have h1 := fun w hw => h w (List.mem_cons_of_mem u hw)
    rcases sp_cons.mp hv with hv | hv
    · exact sp_mono h1 hv
    · have h2 := sp_x (sp_mono h1 hv) (h u List.mem_cons_self)
      rw [xor_cc] at h2; exact h2
def els : List Nat → List Nat
  | [] => [0]
  | u :: L => els L ++ (els L).map (fun w => w ^^^ u)
theorem els_mem : ∀ {L : List Nat} {v : Nat}, v ∈ els L ↔ sp L v = true
  | [], v => by simp [els, sp]
  | u :: L, v => by
    rw [sp_cons, els, List.mem_append, List.mem_map, els_mem]
    constructor
    · rintro (h | ⟨w, hw, rfl⟩)
      · exact Or.inl h
      · exact Or.inr (by rw [xor_cc]; exact els_mem.mp hw)
    · rintro (h | h)
      · exact Or.inl h
      · exact Or.inr ⟨v ^^^ u, els_mem.mpr h, xor_cc _ _⟩
theorem els_len : ∀ L : List Nat, (els L).length = 2 ^ L.length
  | [] => rfl
  | u :: L => by
    rw [els, List.length_append, List.length_map, els_len L, List.length_cons, Nat.pow_succ]; omega
def bs : List Nat → List Nat
  | [] => []
  | u :: L => bif sp L u then bs L else u :: bs L
theorem bs_sp : ∀ {L : List Nat} {v : Nat}, sp (bs L) v = true ↔ sp L v = true
  | [], v => Iff.rfl
  | u :: L, v => by
    unfold bs
    cases h : sp L u with
    | true =>
      show sp (bs L) v = true ↔ _
      rw [bs_sp, sp_cons]
      constructor
      · exact Or.inl
      · rintro (h1 | h1)
        · exact h1
        · have h2 := sp_x h1 h
          rw [xor_cc] at h2; exact h2
    | false =>
      show sp (u :: bs L) v = true ↔ _
      rw [sp_cons, sp_cons, bs_sp, bs_sp]
theorem bs_len : ∀ L : List Nat, (bs L).length = rk L
  | [] => rfl
  | u :: L => by
    unfold bs rk
    cases h : sp L u with
    | true => exact bs_len L
    | false => show (bs L).length + 1 = rk L + 1; rw [bs_len L]
theorem els_nodup : ∀ L : List Nat, (els (bs L)).Nodup
  | [] => by simp [bs, els]
  | u :: L => by
    unfold bs
    cases h : sp L u with
    | true => exact els_nodup L
    | false =>
      show (els (bs L) ++ (els (bs L)).map (fun w => w ^^^ u)).Nodup
      refine List.nodup_append.mpr ⟨els_nodup L, ?_, ?_⟩
      · refine List.Pairwise.map _ (fun a b (hab : a ≠ b) => ?_) (els_nodup L)
        intro hx
        have hx : a ^^^ u = b ^^^ u := hx
        exact hab (by rw [xor_ex hx, xor_cc])
      · intro a ha b hb hab
        obtain ⟨w, hw, rfl⟩ := List.mem_map.mp hb
        have h1 := els_mem.mp ha
        have h2 := els_mem.mp hw
        rw [hab] at h1
        have h3 := sp_x h2 h1
        have h4 : w ^^^ (w ^^^ u) = u := by rw [← Nat.xor_assoc, Nat.xor_self, Nat.zero_xor]
        rw [h4, bs_sp, h] at h3
        cases h3
theorem nodup_len : ∀ {l1 l2 : List Nat}, l1.Nodup → (∀ a ∈ l1, a ∈ l2) → l1.length ≤ l2.length
  | [], _, _, _ => Nat.zero_le _
  | a :: t, l2, hn, hs => by
    obtain ⟨h1, h2⟩ := List.nodup_cons.mp hn
    have ha := hs a List.mem_cons_self
    have h3 := nodup_len (l1 := t) (l2 := l2.erase a) h2 (fun b hb => (List.mem_erase_of_ne (fun (e : b = a) => h1 (e ▸ hb))).mpr (hs b (List.mem_cons_of_mem _ hb)))
    have h4 := List.length_erase_of_mem ha
    have h5 : 0 < l2.length := List.length_pos_of_mem ha
    show t.length + 1 ≤ l2.length
    omega
theorem pow_le_inv {a b : Nat} (h : 2 ^ a ≤ 2 ^ b) : a ≤ b := (Nat.pow_le_pow_iff_right (by decide)).mp h
theorem rk_le {L L' : List Nat} (h : ∀ u ∈ L, sp L' u = true) : rk L ≤ rk L' := by
  have h1 : (els (bs L)).length ≤ (els (bs L')).length := nodup_len (els_nodup L) fun a ha => els_mem.mpr (bs_sp.mpr (sp_mono h (bs_sp.mp (els_mem.mp ha))))
  rw [els_len, els_len, bs_len, bs_len] at h1
  exact pow_le_inv h1
theorem rk_eq {L L' : List Nat} (h1 : ∀ u ∈ L, sp L' u = true) (h2 : ∀ u ∈ L', sp L u = true) : rk L = rk L' := Nat.le_antisymm (rk_le h1) (rk_le h2)
theorem rk_mem {L L' : List Nat} (h : ∀ u, u ∈ L ↔ u ∈ L') : rk L = rk L' := rk_eq (fun u hu => sp_m ((h u).mp hu)) (fun u hu => sp_m ((h u).mpr hu))
theorem rk_len : ∀ L : List Nat, rk L ≤ L.length
  | [] => Nat.le_refl _
  | u :: L => by
    unfold rk
    have := rk_len L
    cases sp L u
    · show rk L + 1 ≤ L.length + 1; omega
    · show rk L ≤ L.length + 1; omega
theorem rk_c (u : Nat) (L : List Nat) : rk (u :: L) = bif sp L u then rk L else rk L + 1 := rfl
theorem rk_in {u : Nat} {L : List Nat} (h : sp L u = true) : rk (u :: L) = rk L := by rw [rk_c, h]; rfl
theorem rk_out {u : Nat} {L : List Nat} (h : sp L u = false) : rk (u :: L) = rk L + 1 := by rw [rk_c, h]; rfl
theorem sp_app : ∀ {A B : List Nat} {v : Nat}, sp (A ++ B) v = true ↔ ∃ a, sp A a = true ∧ sp B (v ^^^ a) = true
  | [], B, v => by
    constructor
    · exact fun h => ⟨0, rfl, by rw [Nat.xor_zero]; exact h⟩
    · rintro ⟨a, ha, hb⟩
      have h : a = 0 := eq_of_beq ha
      subst h
      rw [Nat.xor_zero] at hb; exact hb
  | u :: A, B, v => by
    show sp (u :: (A ++ B)) v = true ↔ _
    rw [sp_cons, sp_app, sp_app]
    constructor
    · rintro (⟨a, ha, hb⟩ | ⟨a, ha, hb⟩)
      · exact ⟨a, sp_w ha, hb⟩
      · refine ⟨a ^^^ u, sp_cons.mpr (Or.inr (by rw [xor_cc]; exact ha)), ?_⟩
        rw [Nat.xor_comm a u, ← Nat.xor_assoc]; exact hb
    · rintro ⟨a, ha, hb⟩
      rcases sp_cons.mp ha with ha | ha
      · exact Or.inl ⟨a, ha, hb⟩
      · refine Or.inr ⟨a ^^^ u, ha, ?_⟩
        have : v ^^^ u ^^^ (a ^^^ u) = v ^^^ a := by rw [Nat.xor_comm a u, ← Nat.xor_assoc, xor_cc]
        rw [this]; exact hb
/-- two lists that meet in 0 alone -/
theorem rk_app : ∀ {A B : List Nat}, (∀ v, sp A v = true → sp B v = true → v = 0) → rk (A ++ B) = rk A + rk B
  | [], B, _ => by show rk B = 0 + rk B; omega
  | u :: A, B, h => by
    have ih := rk_app (A := A) (B := B) (fun v h1 h2 => h v (sp_w h1) h2)
    have he : sp (A ++ B) u = sp A u := by
      rw [Bool.eq_iff_iff, sp_app]
      constructor
      · rintro ⟨a, ha, hb⟩
        have h0 := h (u ^^^ a) (sp_cons.mpr (Or.inr (by rw [xor_swap, Nat.xor_self, Nat.zero_xor]; exact ha))) hb
        rw [xor_0 h0]; exact ha
      · exact fun hu => ⟨u, hu, by rw [Nat.xor_self]; exact sp_0 B⟩
    show rk (u :: (A ++ B)) = rk (u :: A) + rk B
    cases hs : sp A u with
    | true => rw [rk_in (he.trans hs), rk_in hs, ih]
    | false => rw [rk_out (he.trans hs), rk_out hs, ih]; omega
/-- a map that keeps sums -/
def Lmap (T : Nat → Nat) : Prop := T 0 = 0 ∧ ∀ a b, T (a ^^^ b) = T a ^^^ T b
theorem sp_T {T : Nat → Nat} (hT : Lmap T) : ∀ {L : List Nat} {v : Nat}, sp L v = true → sp (L.map T) (T v) = true
  | [], v, h => by
    have h : v = 0 := eq_of_beq h
    subst h; rw [hT.1]; rfl
  | u :: L, v, h => by
    rcases sp_cons.mp h with h | h
    · exact sp_cons.mpr (Or.inl (sp_T hT h))
    · refine sp_cons.mpr (Or.inr ?_)
      rw [← hT.2]; exact sp_T hT h
theorem sp_Tinv {T : Nat → Nat} (hT : Lmap T) : ∀ {L : List Nat} {y : Nat}, sp (L.map T) y = true → ∃ x, sp L x = true ∧ T x = y
  | [], y, h => ⟨0, rfl, by rw [hT.1]; exact (eq_of_beq h).symm⟩
  | u :: L, y, h => by
    rcases sp_cons.mp h with h | h
    · obtain ⟨x, h1, h2⟩ := sp_Tinv hT h
      exact ⟨x, sp_w h1, h2⟩
    · obtain ⟨x, h1, h2⟩ := sp_Tinv hT h
      exact ⟨x ^^^ u, sp_cons.mpr (Or.inr (by rw [xor_cc]; exact h1)), by rw [hT.2, h2, xor_cc]⟩
/-- the kernel within a span, and the count of the whole -/
theorem rk_ker {T : Nat → Nat} (hT : Lmap T) : ∀ L : List Nat, ∃ Z : List Nat, (∀ v, sp Z v = true ↔ sp L v = true ∧ T v = 0) ∧ rk L = rk Z + rk (L.map T)
  | [] => ⟨[], fun v => ⟨fun h => ⟨h, by rw [show v = 0 from eq_of_beq h]; exact hT.1⟩, fun h => h.1⟩, rfl⟩
  | u :: L => by
    obtain ⟨Z, hZ, hr⟩ := rk_ker hT L
    cases hu : sp (L.map T) (T u) with
    | true =>
      obtain ⟨w, hw, hTw⟩ := sp_Tinv hT hu
      have hz0 : T (u ^^^ w) = 0 := by rw [hT.2, hTw, Nat.xor_self]
      refine ⟨(u ^^^ w) :: Z, fun v => ?_, ?_⟩
      · rw [sp_cons, sp_cons, hZ, hZ]
        constructor
        · rintro (⟨h1, h2⟩ | ⟨h1, h2⟩)
          · exact ⟨Or.inl h1, h2⟩
          · have h3 := sp_x h1 hw
            rw [Nat.xor_assoc, xor_cc] at h3
            rw [hT.2, hz0, Nat.xor_zero] at h2
            exact ⟨Or.inr h3, h2⟩
        · rintro ⟨h1 | h1, h2⟩
          · exact Or.inl ⟨h1, h2⟩
          · refine Or.inr ⟨?_, by rw [hT.2, h2, hz0]; rfl⟩
            have h3 := sp_x h1 hw
            rw [Nat.xor_assoc] at h3; exact h3
      · have hzu : sp Z (u ^^^ w) = sp L u := by
          rw [Bool.eq_iff_iff, hZ]
          constructor
          · rintro ⟨h1, -⟩
            have h3 := sp_x h1 hw
            rw [xor_cc] at h3; exact h3
          · exact fun h => ⟨sp_x h hw, hz0⟩
        show rk (u :: L) = rk ((u ^^^ w) :: Z) + rk (T u :: L.map T)
        rw [rk_in hu]
        cases hs : sp L u with
        | true => rw [rk_in hs, rk_in (hzu.trans hs), hr]
        | false => rw [rk_out hs, rk_out (hzu.trans hs), hr]; omega
    | false =>
      refine ⟨Z, fun v => ?_, ?_⟩
      · rw [hZ, sp_cons]
        constructor
        · exact fun h => ⟨Or.inl h.1, h.2⟩
        · rintro ⟨h1 | h1, h2⟩
          · exact ⟨h1, h2⟩
          · have h3 := sp_T hT h1
            rw [hT.2, h2, Nat.zero_xor, hu] at h3
            cases h3
      · have hs : sp L u = false := by
          cases hs : sp L u with
          | false => rfl
          | true => rw [sp_T hT hs] at hu; cases hu
        show rk (u :: L) = rk Z + rk (T u :: L.map T)
        rw [rk_out hs, rk_out hu, hr]; omega
/-- a map that loses nothing of the span keeps the count -/
theorem rk_inj {T : Nat → Nat} (hT : Lmap T) {L : List Nat} (h : ∀ v, sp L v = true → T v = 0 → v = 0) : rk (L.map T) = rk L := by
  obtain ⟨Z, hZ, hr⟩ := rk_ker hT L
  have h0 : rk Z = 0 := by
    have h1 : rk Z ≤ rk [] := rk_le fun u hu => by
      have h2 := (hZ u).mp (sp_m hu)
      rw [h u h2.1 h2.2]; rfl
    exact Nat.le_zero.mp h1
  rw [hr, h0]; omega
/-- the number of n bits -/
def mkN (f : Nat → Bool) : Nat → Nat
  | 0 => 0
  | n + 1 => mkN f n + (bif f n then 2 ^ n else 0)
theorem mkN_lt (f : Nat → Bool) : ∀ n, mkN f n < 2 ^ n
  | 0 => by show 0 < 1; decide
  | n + 1 => by
    have := mkN_lt f n
    unfold mkN
    rw [Nat.pow_succ]
    cases f n
    · show mkN f n + 0 < _; omega
    · show mkN f n + 2 ^ n < _; omega
theorem mkN_bit (f : Nat → Bool) : ∀ n i, (mkN f n).testBit i = (decide (i < n) && f i)
  | 0, i => by simp [mkN]
  | n + 1, i => by
    have h := mkN_lt f n
    have ih := mkN_bit f n
    unfold mkN
    cases hf : f n with
    | false =>
      show (mkN f n + 0).testBit i = _
      rw [Nat.add_zero, ih]
      by_cases hi : i = n
      · subst hi; simp [hf]
      · have : decide (i < n + 1) = decide (i < n) := by simp; omega
        rw [this]
    | true =>
      show (mkN f n + 2 ^ n).testBit i = _
      rw [Nat.add_comm]
      rcases Nat.lt_trichotomy i n with hi | hi | hi
      · rw [Nat.testBit_two_pow_add_gt hi, ih]
        have : decide (i < n + 1) = decide (i < n) := by simp; omega
        rw [this]
      · subst hi
        rw [Nat.testBit_two_pow_add_eq, ih]
        simp [hf]
      · have h1 : 2 ^ n + mkN f n < 2 ^ i := Nat.lt_of_lt_of_le (by rw [Nat.pow_succ]; omega) (Nat.pow_le_pow_right (by decide) hi)
        rw [Nat.testBit_lt_two_pow h1]
        have : decide (i < n + 1) = false := by simp; omega
        rw [this]; rfl
end Lin
