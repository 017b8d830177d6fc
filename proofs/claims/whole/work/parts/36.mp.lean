section MP
/-! the reference's walk: each corner gets the least one it is joined with -/
def mn (f : Nat) (l : Nat → Nat) : Nat → Nat
  | 0 => 7
  | k + 1 => bif f.testBit k && decide (l k < mn f l k) then l k else mn f l k
theorem mn_t {f : Nat} {l : Nat → Nat} {k : Nat} (h1 : f.testBit k = true) (h2 : l k < mn f l k) : mn f l (k + 1) = l k := by
  show (bif f.testBit k && decide (l k < mn f l k) then _ else _) = _
  rw [h1, decide_eq_true h2]; rfl
theorem mn_f {f : Nat} {l : Nat → Nat} {k : Nat} (h : f.testBit k = false ∨ ¬ l k < mn f l k) : mn f l (k + 1) = mn f l k := by
  show (bif f.testBit k && decide (l k < mn f l k) then _ else _) = _
  rcases h with h | h
  · rw [h]; rfl
  · rw [decide_eq_false h, Bool.and_false]; rfl
theorem mn_le {f : Nat} {l : Nat → Nat} : ∀ n, (∀ k, k < n → f.testBit k = true → mn f l n ≤ l k) ∧ (mn f l n = 7 ∨ ∃ k, k < n ∧ f.testBit k = true ∧ mn f l n = l k)
  | 0 => ⟨fun k h => absurd h (Nat.not_lt_zero k), Or.inl rfl⟩
  | n + 1 => by
    obtain ⟨h1, h2⟩ := mn_le (f := f) (l := l) n
    by_cases hc : f.testBit n = true ∧ l n < mn f l n
    · rw [mn_t hc.1 hc.2]
      refine ⟨fun k hk hb => ?_, Or.inr ⟨n, Nat.lt_succ_self n, hc.1, rfl⟩⟩
      by_cases e : k = n
      · subst e; exact Nat.le_refl _
      · have := h1 k (by omega) hb; omega
    · have hc2 : f.testBit n = false ∨ ¬ l n < mn f l n := by
        cases hb : f.testBit n with
        | false => exact Or.inl rfl
        | true => exact Or.inr fun h => hc ⟨hb, h⟩
      rw [mn_f hc2]
      refine ⟨fun k hk hb => ?_, h2.imp id fun ⟨k, h3, h4⟩ => ⟨k, by omega, h4⟩⟩
      by_cases e : k = n
      · subst e
        rcases hc2 with h | h
        · rw [hb] at h; cases h
        · omega
      · exact h1 k (by omega) hb
theorem mn_7 (f : Nat) (l : Nat → Nat) (n : Nat) (h : ∀ k, k < n → f.testBit k = true → l k < 7) : mn f l n < 8 := by
  rcases (mn_le (f := f) (l := l) n).2 with h1 | ⟨k, h1, h2, h3⟩
  · omega
  · have := h k h1 h2; omega
def jl (f : Nat) (l : Nat → Nat) : Nat → Nat := fun k => bif f.testBit k then mn f l 7 else l k
def Good (s : Nat → Bool) (l : Nat → Nat) : Prop := ∀ k, k < 7 → s (2 ^ k) = true → Jn s k (l k)
theorem edge_J {s : Nat → Bool} {f x y : Nat} (hf : f < 128) (hp : pc f = 2) (hs : s f = true) (hx : f.testBit x = true) (hy : f.testBit y = true) : Jn s x y := by
  obtain ⟨a, ha, b, hb, -, rfl, -⟩ := pc_2 f hf hp
  rw [Nat.testBit_or, Nat.testBit_two_pow, Nat.testBit_two_pow, Bool.or_eq_true, decide_eq_true_eq, decide_eq_true_eq] at hx hy
  have h1 : Jn s a b := Jn_s (Jn_0 s a) ha hb hs
  rcases hx with rfl | rfl <;> rcases hy with rfl | rfl
  · exact Jn_0 _ _
  · exact h1
  · exact Jn_c h1
  · exact Jn_0 _ _
theorem edge_s {s : Nat → Bool} {f x : Nat} (h : Shp s) (hf : f < 128) (hs : s f = true) (hx : f.testBit x = true) : s (2 ^ x) = true := Shp_P h (pw_0 x) hf (isP_pw hx) hs
section St
variable {s : Nat → Bool} {f : Nat} {l : Nat → Nat} (h : Shp s) (hf : f < 128) (hp : pc f = 2) (hs : s f = true) (hG : Good s l)
theorem gd_7 (h : Shp s) (hf : f < 128) (hs : s f = true) (hG : Good s l) {k : Nat} (hk : f.testBit k = true) : l k < 7 := Jn_7 (hG k (bit_7 hf hk) (edge_s h hf hs hk)) (bit_7 hf hk)
theorem mn_ex (h : Shp s) (hf : f < 128) (hs : s f = true) (hG : Good s l) {x : Nat} (hx : f.testBit x = true) : ∃ k, k < 7 ∧ f.testBit k = true ∧ mn f l 7 = l k := by
  rcases (mn_le (f := f) (l := l) 7).2 with h1 | h1
  · have h2 := (mn_le (f := f) (l := l) 7).1 x (bit_7 hf hx) hx
    have h3 := gd_7 h hf hs hG hx
    omega
  · exact h1
theorem jl_G (h : Shp s) (hf : f < 128) (hp : pc f = 2) (hs : s f = true) (hG : Good s l) : Good s (jl f l) := fun k hk hsk => by
  unfold jl
  cases hb : f.testBit k with
  | false => exact hG k hk hsk
  | true =>
    obtain ⟨k0, h1, h2, h3⟩ := mn_ex h hf hs hG hb
    show Jn s k (mn f l 7)
    rw [h3]
    exact Jn_t (edge_J hf hp hs hb h2) (hG k0 h1 (edge_s h hf hs h2))
theorem jl_n (h : Shp s) (hf : f < 128) (hp : pc f = 2) (hs : s f = true) (hG : Good s l) {x y : Nat} (hx : f.testBit x = true) (hy : f.testBit y = true) (hr : l x = rt s x) : jl f l y = rt s y := by
  unfold jl
  rw [hy]
  show mn f l 7 = rt s y
  obtain ⟨k0, h1, h2, h3⟩ := mn_ex h hf hs hG hx
  have h4 := (mn_le (f := f) (l := l) 7).1 x (bit_7 hf hx) hx
  have h5 : rt s k0 ≤ l k0 := rt_le (hG k0 h1 (edge_s h hf hs h2))
  have h6 : rt s x = rt s y := rt_eq (edge_J hf hp hs hx hy)
  have h7 : rt s k0 = rt s y := rt_eq (edge_J hf hp hs h2 hy)
  omega
theorem jl_k (h : Shp s) (hf : f < 128) (hp : pc f = 2) (hs : s f = true) (hG : Good s l) {k : Nat} (hr : l k = rt s k) : jl f l k = rt s k := by
  cases hb : f.testBit k with
  | false => unfold jl; rw [hb]; exact hr
  | true => exact jl_n h hf hp hs hG hb hb hr
end St
/-- within a turn: what it began with, the faces below f done -/
def Inn (s : Nat → Bool) (l0 : Nat → Nat) (f : Nat) (l : Nat → Nat) : Prop := Good s l ∧ (∀ k, l0 k = rt s k → l k = rt s k) ∧ ∀ g, g < f → pc g = 2 → s g = true → ∀ x y, g.testBit x = true → g.testBit y = true → l0 x = rt s x → l y = rt s y
theorem inn_0 {s : Nat → Bool} {l : Nat → Nat} (h0 : s 0 = false) (hG : Good s l) : Inn s l 1 l := ⟨hG, fun _ h => h, fun g hg _ hs => by
  have : g = 0 := by omega
  subst this; rw [h0] at hs; cases hs⟩
theorem inn_s {s : Nat → Bool} {l0 l : Nat → Nat} {f : Nat} (hI : Inn s l0 f l) (h : s f = false ∨ pc f ≠ 2) : Inn s l0 (f + 1) l := ⟨hI.1, hI.2.1, fun g hg hp hs x y hx hy hr => by
  by_cases e : g = f
  · subst e
    rcases h with h | h
    · rw [h] at hs; cases hs
    · exact absurd hp h
  · exact hI.2.2 g (by omega) hp hs x y hx hy hr⟩
theorem inn_j {s : Nat → Bool} {l0 l : Nat → Nat} {f : Nat} (h : Shp s) (hf : f < 128) (hp : pc f = 2) (hs : s f = true) (hI : Inn s l0 f l) : Inn s l0 (f + 1) (jl f l) := ⟨jl_G h hf hp hs hI.1, fun k hk => jl_k h hf hp hs hI.1 (hI.2.1 k hk), fun g hg hp2 hs2 x y hx hy hr => by
  by_cases e : g = f
  · subst e; exact jl_n h hf hp hs hI.1 hx hy (hI.2.1 x hr)
  · exact jl_k h hf hp hs hI.1 (hI.2.2 g (by omega) hp2 hs2 x y hx hy hr)⟩
def Wlk (s : Nat → Bool) (t : Nat) (l : Nat → Nat) : Prop := Good s l ∧ ∀ m, m < 7 → s (2 ^ m) = true → rt s m = m → l m = m ∧ ((∀ k, Jn s m k → l k = m) ∨ t + 1 ≤ fb_ct (fun k => s (2 ^ k) && l k == m) 7)
theorem wlk_0 {s : Nat → Bool} : Wlk s 0 (fun k => k) := ⟨fun k _ _ => Jn_0 s k, fun m hm hsm _ => ⟨rfl, Or.inr (by
  show 0 + 1 ≤ fb_ct (fun k => s (2 ^ k) && k == m) 7
  have : 0 < fb_ct (fun k => s (2 ^ k) && k == m) 7 := fb_ct_pos.mpr ⟨m, hm, by rw [hsm, beq_self_eq_true]; rfl⟩
  omega)⟩⟩
theorem Jn_sh {s : Nat → Bool} {x y : Nat} (h : Shp s) (hx : x < 7) (hsx : s (2 ^ x) = true) (hj : Jn s x y) : s (2 ^ y) = true := (pie_J h.2 (hat_s s) hx hsx hj).1
theorem wlk_s {s : Nat → Bool} {t : Nat} {l0 l : Nat → Nat} (h : Shp s) (hW : Wlk s t l0) (hI : Inn s l0 128 l) : Wlk s (t + 1) l := by
  refine ⟨hI.1, fun m hm hsm hr => ?_⟩
  obtain ⟨h1, h2⟩ := hW.2 m hm hsm hr
  have hm2 : l m = m := by
    have := hI.2.1 m (by rw [hr]; exact h1)
    rw [hr] at this; exact this
  refine ⟨hm2, ?_⟩
  have hstep : ∀ a b, a < 7 → b < 7 → s (2 ^ a ||| 2 ^ b) = true → Jn s m a → l0 a = m → l b = m := fun a b ha hb hs hj hla => by
    have e1 : rt s a = m := by rw [← rt_eq hj]; exact hr
    have e2 : rt s b = m := by rw [← rt_eq (Jn_s hj ha hb hs)]; exact hr
    by_cases e : a = b
    · subst e
      have := hI.2.1 a (by rw [e1]; exact hla)
      rw [e1] at this; exact this
    · have h3 := bd_ab a ha b hb e
      have := hI.2.2 (2 ^ a ||| 2 ^ b) (or_lt (pw_128 a ha) hb) h3.2 hs a b (by rw [Nat.testBit_or, Nat.testBit_two_pow_self]; rfl) (by rw [Nat.testBit_or, Nat.testBit_two_pow_self, Bool.or_true]) (by rw [e1]; exact hla)
      rw [e2] at this; exact this
  have hkeep : ∀ k, Jn s m k → l0 k = m → l k = m := fun k hj hk => by
    have e1 : rt s k = m := by rw [← rt_eq hj]; exact hr
    have := hI.2.1 k (by rw [e1]; exact hk)
    rw [e1] at this; exact this
  rcases h2 with h2 | h2
  · exact Or.inl fun k hj => hkeep k hj (h2 k hj)
  · by_cases hc : ∀ a b, a < 7 → b < 7 → s (2 ^ a ||| 2 ^ b) = true → Jn s m a → l0 a = m → l0 b = m
    · refine Or.inl fun k hj => hkeep k hj ?_
      exact (hj (fun x => Jn s m x ∧ l0 x = m) ⟨Jn_0 s m, h1⟩ fun a b ha hb hx hs => ⟨Jn_s hx.1 ha hb hs, hc a b ha hb hs hx.1 hx.2⟩).2
    · refine Or.inr ?_
      have hc2 : ∃ a b, a < 7 ∧ b < 7 ∧ s (2 ^ a ||| 2 ^ b) = true ∧ Jn s m a ∧ l0 a = m ∧ l0 b ≠ m := Classical.byContradiction fun hn => hc fun a b ha hb hs hj hla => Classical.byContradiction fun hnb => hn ⟨a, b, ha, hb, hs, hj, hla, hnb⟩
      obtain ⟨a, b, ha, hb, hs, hj, hla, hnb⟩ := hc2
      have hb2 := hstep a b ha hb hs hj hla
      have h5 : fb_ct (fun k => (s (2 ^ k) && l0 k == m) || k == b) 7 = fb_ct (fun k => s (2 ^ k) && l0 k == m) 7 + fb_ct (fun k => k == b) 7 := fb_ct_or fun k _ hk => by
        have e1 := hk.1
        rw [Bool.and_eq_true, beq_iff_eq] at e1
        have e2 : k = b := eq_of_beq hk.2
        subst e2; exact hnb e1.2
      have hsb : s (2 ^ b) = true := Jn_sh h hm hsm (Jn_s hj ha hb hs)
      have h6 : fb_ct (fun k => (s (2 ^ k) && l0 k == m) || k == b) 7 ≤ fb_ct (fun k => s (2 ^ k) && l k == m) 7 := fb_ct_sub fun k hk hx => by
        rw [Bool.or_eq_true, Bool.and_eq_true, beq_iff_eq, beq_iff_eq] at hx
        rw [Bool.and_eq_true, beq_iff_eq]
        rcases hx with hx | hx
        · exact ⟨hx.1, hkeep k (Jn_c (hx.2 ▸ hW.1 k hk hx.1)) hx.2⟩
        · subst hx; exact ⟨hsb, hb2⟩
      rw [fb_one hb] at h5
      omega
theorem wlk_7 {s : Nat → Bool} {l : Nat → Nat} (h : Shp s) (hW : Wlk s 7 l) : ∀ k, k < 7 → s (2 ^ k) = true → l k = rt s k := fun k hk hs => by
  have h1 := rt_7 (s := s) hk
  have h2 := Jn_sh h hk hs (rt_J s k)
  obtain ⟨-, h3⟩ := hW.2 (rt s k) h1 h2 (rt_rt s k)
  rcases h3 with h3 | h3
  · exact h3 k (Jn_c (rt_J s k))
  · have := fb_ct_le (fun x => s (2 ^ x) && l x == rt s k) 7
    omega
/-- what stands in the row of pieces -/
def pcV (s : Nat → Bool) (l : Nat → Nat) (k : Nat) : Int32 := bif s (2 ^ k) then nI (l k) else -1
def Rep (pi : Nat → Int32) (s : Nat → Bool) (l : Nat → Nat) : Prop := ∀ k, k < 7 → pi k = pcV s l k
def jnF (f m : Nat) (pi : Nat → Int32) (k : Nat) : Nat → Int32 := fun j => if j < k ∧ f.testBit j = true then nI m else pi j
theorem jnF_0 (f m : Nat) (pi : Nat → Int32) : jnF f m pi 0 = pi := by funext j; exact if_neg fun h => Nat.not_lt_zero j h.1
theorem jnF_t {f m : Nat} {pi : Nat → Int32} {k : Nat} (hk : k < 2 ^ 31) (h : f.testBit k = true) : upd (jnF f m pi k) (nI k).toNatClampNeg (nI m) = jnF f m pi (k + 1) := by
  rw [nI_clamp hk]
  funext j
  show (if j = k then nI m else jnF f m pi k j) = _
  unfold jnF
  by_cases e : j = k
  · subst e; rw [if_pos rfl, if_pos ⟨Nat.lt_succ_self j, h⟩]
  · rw [if_neg e]
    by_cases h2 : j < k ∧ f.testBit j = true
    · rw [if_pos h2, if_pos ⟨by omega, h2.2⟩]
    · rw [if_neg h2, if_neg fun h3 => h2 ⟨by omega, h3.2⟩]
theorem jnF_f {f m : Nat} {pi : Nat → Int32} {k : Nat} (hk : k < 2 ^ 31) (h : f.testBit k = false) : upd (jnF f m pi k) (nI k).toNatClampNeg (jnF f m pi k k) = jnF f m pi (k + 1) := by
  rw [nI_clamp hk]
  funext j
  show (if j = k then jnF f m pi k k else jnF f m pi k j) = _
  by_cases e : j = k
  · subst e
    rw [if_pos rfl]
    unfold jnF
    rw [if_neg fun h3 => Nat.lt_irrefl _ h3.1, if_neg fun h3 => by rw [h] at h3; cases h3.2]
  · rw [if_neg e]
    unfold jnF
    by_cases h2 : j < k ∧ f.testBit j = true
    · rw [if_pos h2, if_pos ⟨by omega, h2.2⟩]
    · rw [if_neg h2, if_neg fun h3 => h2 ⟨by omega, h3.2⟩]
theorem rep_j {s : Nat → Bool} {f : Nat} {l : Nat → Nat} {pi : Nat → Int32} (h : Shp s) (hf : f < 128) (hs : s f = true) (hR : Rep pi s l) : Rep (jnF f (mn f l 7) pi 7) s (jl f l) := fun k hk => by
  unfold jnF pcV jl
  cases hb : f.testBit k with
  | true => rw [if_pos ⟨hk, rfl⟩, edge_s h hf hs hb]; rfl
  | false => rw [if_neg (fun h3 => by cases h3.2), hR k hk]; rfl
def wkF (s : Nat → Bool) (pi : Nat → Int32) (k : Nat) : Nat → Int32 := fun j => if j < k then pcV s (fun x => x) j else pi j
theorem wkF_0 (s : Nat → Bool) (pi : Nat → Int32) : wkF s pi 0 = pi := by funext j; exact if_neg (Nat.not_lt_zero j)
theorem wkF_s {s : Nat → Bool} {pi : Nat → Int32} {k : Nat} {x : Int32} (hk : k < 2 ^ 31) (h : x = pcV s (fun x => x) k) : upd (wkF s pi k) (nI k).toNatClampNeg x = wkF s pi (k + 1) := by
  subst h
  rw [nI_clamp hk]
  funext j
  show (if j = k then _ else wkF s pi k j) = _
  unfold wkF
  by_cases e : j = k
  · subst e; rw [if_pos rfl, if_pos (Nat.lt_succ_self j)]
  · rw [if_neg e]
    by_cases h2 : j < k
    · rw [if_pos h2, if_pos (by omega)]
    · rw [if_neg h2, if_neg (by omega)]
theorem wkF_R (s : Nat → Bool) (pi : Nat → Int32) : Rep (wkF s pi 7) s (fun x => x) := fun k hk => if_pos hk
theorem wkF_v {s : Nat → Bool} {k : Nat} : pcV s (fun x => x) k = bif s (2 ^ k) then nI k else -1 := rfl
set_option maxRecDepth 10000 in
/-- Model.join -/
theorem kX7_join {S : Nat × (Nat → Int32)} {d : Nat} {Q : eQ} {b : Bool} {X : Nat → va_E} {A mk ro nx pi : Nat → Int32} {kp : Nat → Int64} {km th : Int32} {T : List va_E} {i : Nat} {l : Nat → Nat} (hi : i < 128) (hp : ∀ k, k < 7 → i.testBit k = true → pi k = nI (l k)) (hl : ∀ k, k < 7 → i.testBit k = true → l k < 7) (hQ : Q (.inl none) (b, mW X A mk ro nx (jnF i (mn i l 7) pi 7) kp km th T)) : okCall S MT (d + 1) nX7_join [.ref 24, .int (nI i)] (b, mW X A mk ro nx pi kp km th T) Q := by
  refine okc (M := MX7_join) rfl rfl fun K hK hW => ?_
  show K 0 [(0, .ref 24), (1, .int (nI i))] [] (b, mW X A mk ro nx pi kp km th T) 0 0
  iterate 4 refine hK _ _ _ _ _ _ (?_ : K _ _ _ _ _ _)
  refine hW _ _ [(3, .int (nI (0))), (2, .int (nI (mn i l (0)))), (0, .ref 24), (1, .int (nI i))] _ _ _ _ (by simp [show mn i l 0 = 7 from rfl]) ?_
  refine up (P := fun k => K 5 [(3, .int (nI (k))), (2, .int (nI (mn i l (k)))), (0, .ref 24), (1, .int (nI i))] [] (b, mW X A mk ro nx pi kp km th T) 0 0) 7 0 ?_ ?_ (by decide)
  · skip
    iterate 2 refine hK _ _ _ _ _ _ (?_ : K _ _ _ _ _ _)
    refine hK _ _ _ _ _ _ (And.intro (fun _ => ?_) (fun c9 => absurd (nI_le (Nat.le_refl 7) (by decide)) c9))
    iterate 2 refine hK _ _ _ _ _ _ (?_ : K _ _ _ _ _ _)
    have e0 := jnF_0 i (mn i l 7) pi
    rw [← e0]
    refine hW _ _ [(3, .int (nI (0))), (2, .int (nI (mn i l 7))), (0, .ref 24), (1, .int (nI i))] _ _ _ _ (by simp) ?_
    refine up (P := fun k => K 49 [(3, .int (nI (k))), (2, .int (nI (mn i l 7))), (0, .ref 24), (1, .int (nI i))] [] (b, mW X A mk ro nx (jnF i (mn i l 7) pi (k)) kp km th T) 0 0) 7 0 ?_ ?_ (by decide)
    · skip
      iterate 2 refine hK _ _ _ _ _ _ (?_ : K _ _ _ _ _ _)
      refine hK _ _ _ _ _ _ (And.intro (fun _ => ?_) (fun c9 => absurd (nI_le (Nat.le_refl 7) (by decide)) c9))
      exact hK _ _ _ _ _ _ (r_vret rfl rfl rfl hQ)
    · intro k h0k hk ihk
      iterate 2 refine hK _ _ _ _ _ _ (?_ : K _ _ _ _ _ _)
      refine hK _ _ _ _ _ _ (And.intro (fun c9 => absurd c9 (nI_ge (by omega) (by decide))) (fun _ => ?_))
      iterate 1 refine hK _ _ _ _ _ _ (?_ : K _ _ _ _ _ _)
      refine hK _ _ _ _ _ _ (r_get rfl rfl rfl (?_ : K _ _ _ _ _ _))
      iterate 7 refine hK _ _ _ _ _ _ (?_ : K _ _ _ _ _ _)
      refine hK _ _ _ _ _ _ (And.intro (fun c3 => ?_) (fun c3 => ?_))
      · skip
        rw [cb_ok k hk i hi, b2i_1] at c3
        iterate 2 refine hK _ _ _ _ _ _ (?_ : K _ _ _ _ _ _)
        refine hK _ _ _ _ _ _ (r_iast' rfl (N := 7) (f := jnF i (mn i l 7) pi k) rfl (vp_in_nI (by omega) (by decide)) (show (.inl (0, 7, .inl _) : va_E) = iaA (jnF i (mn i l 7) pi (k + 1)) by rw [jnF_t (by omega) c3]) (?_ : K _ _ _ _ _ _))
        show K _ _ _ (b, mW X A mk ro nx (jnF i (mn i l 7) pi (k + 1)) kp km th T) _ _
        iterate 2 refine hK _ _ _ _ _ _ (?_ : K _ _ _ _ _ _)
        rw [nI_add k 1]
        first | exact ihk | exact hW _ _ _ _ _ _ _ (by simp) ihk
      · skip
        rw [cb_ok k hk i hi, b2i_1] at c3
        iterate 1 refine hK _ _ _ _ _ _ (?_ : K _ _ _ _ _ _)
        refine hK _ _ _ _ _ _ (r_get rfl rfl rfl (?_ : K _ _ _ _ _ _))
        iterate 1 refine hK _ _ _ _ _ _ (?_ : K _ _ _ _ _ _)
        refine hK _ _ _ _ _ _ (r_iald' (v := jnF i (mn i l 7) pi k k) rfl (N := 7) (f := jnF i (mn i l 7) pi k) rfl (vp_in_nI (by omega) (by decide)) (by rw [nI_clamp (by omega)]) (?_ : K _ _ _ _ _ _))
        refine hK _ _ _ _ _ _ (r_iast' rfl (N := 7) (f := jnF i (mn i l 7) pi k) rfl (vp_in_nI (by omega) (by decide)) (show (.inl (0, 7, .inl _) : va_E) = iaA (jnF i (mn i l 7) pi (k + 1)) by rw [jnF_f (by omega) (Bool.eq_false_iff.mpr c3)]) (?_ : K _ _ _ _ _ _))
        show K _ _ _ (b, mW X A mk ro nx (jnF i (mn i l 7) pi (k + 1)) kp km th T) _ _
        iterate 2 refine hK _ _ _ _ _ _ (?_ : K _ _ _ _ _ _)
        rw [nI_add k 1]
        first | exact ihk | exact hW _ _ _ _ _ _ _ (by simp) ihk
  · intro k h0k hk ihk
    iterate 2 refine hK _ _ _ _ _ _ (?_ : K _ _ _ _ _ _)
    refine hK _ _ _ _ _ _ (And.intro (fun c9 => absurd c9 (nI_ge (by omega) (by decide))) (fun _ => ?_))
    iterate 6 refine hK _ _ _ _ _ _ (?_ : K _ _ _ _ _ _)
    refine hK _ _ _ _ _ _ (And.intro (fun c1 => ?_) (fun c1 => ?_))
    · skip
      rw [cb_ok k hk i hi] at c1
      iterate 1 refine hK _ _ _ _ _ _ (?_ : K _ _ _ _ _ _)
      refine hK _ _ _ _ _ _ (r_get rfl rfl rfl (?_ : K _ _ _ _ _ _))
      iterate 1 refine hK _ _ _ _ _ _ (?_ : K _ _ _ _ _ _)
      refine hK _ _ _ _ _ _ (r_iald' (v := nI (l k)) rfl (N := 7) (f := pi) rfl (vp_in_nI (by omega) (by decide)) (by rw [nI_clamp (by omega)]; exact hp k hk (b2i_1.mp c1)) (?_ : K _ _ _ _ _ _))
      iterate 1 refine hK _ _ _ _ _ _ (?_ : K _ _ _ _ _ _)
      refine hK _ _ _ _ _ _ (And.intro (fun c2 => ?_) (fun c2 => ?_))
      · skip
        iterate 4 refine hK _ _ _ _ _ _ (?_ : K _ _ _ _ _ _)
        have e1 : mn i l (k + 1) = mn i l k := mn_f (Or.inr fun c9 => nI_ge (b := mn i l k) (a := l k) c9 (by have := mn_7 i l k (fun x hx hb => hl x (by omega) hb); omega) c2)
        rw [e1] at ihk
        rw [nI_add k 1]
        first | exact ihk | exact hW _ _ _ _ _ _ _ (by simp) ihk
      · skip
        iterate 1 refine hK _ _ _ _ _ _ (?_ : K _ _ _ _ _ _)
        refine hK _ _ _ _ _ _ (r_get rfl rfl rfl (?_ : K _ _ _ _ _ _))
        iterate 1 refine hK _ _ _ _ _ _ (?_ : K _ _ _ _ _ _)
        refine hK _ _ _ _ _ _ (r_iald' (v := nI (l k)) rfl (N := 7) (f := pi) rfl (vp_in_nI (by omega) (by decide)) (by rw [nI_clamp (by omega)]; exact hp k hk (b2i_1.mp c1)) (?_ : K _ _ _ _ _ _))
        iterate 4 refine hK _ _ _ _ _ _ (?_ : K _ _ _ _ _ _)
        have e1 : mn i l (k + 1) = l k := mn_t (b2i_1.mp c1) (Nat.lt_of_not_le fun c9 => c2 (nI_le c9 (by have := hl k hk (b2i_1.mp c1); omega)))
        rw [e1] at ihk
        rw [nI_add k 1]
        first | exact ihk | exact hW _ _ _ _ _ _ _ (by simp) ihk
    · skip
      rw [cb_ok k hk i hi] at c1
      iterate 4 refine hK _ _ _ _ _ _ (?_ : K _ _ _ _ _ _)
      have e1 : mn i l (k + 1) = mn i l k := mn_f (Or.inl (Bool.eq_false_iff.mpr fun c9 => c1 (by rw [c9]; rfl)))
      rw [e1] at ihk
      rw [nI_add k 1]
      first | exact ihk | exact hW _ _ _ _ _ _ _ (by simp) ihk

set_option maxRecDepth 10000 in
/-- Model.walk -/
theorem kX7_walk {S : Nat × (Nat → Int32)} {d : Nat} {Q : eQ} {b : Bool} {X : Nat → va_E} {A mk ro nx pi : Nat → Int32} {kp : Nat → Int64} {km th : Int32} {T : List va_E} {P : Nat → Nat → Bool} {p : Nat} (hA : MI P A) (hp : p < 6) (hs : Shp (P p)) (hQ : ∀ pi2, Rep pi2 (P p) (rt (P p)) → Q (.inl none) (b, mW X A mk ro nx pi2 kp km th T)) : okCall S MT (d + 4) nX7_walk [.ref 24, .int (nI p)] (b, mW X A mk ro nx pi kp km th T) Q := by
  refine okc (M := MX7_walk) rfl rfl fun K hK hW => ?_
  show K 0 [(0, .ref 24), (1, .int (nI p))] [] (b, mW X A mk ro nx pi kp km th T) 0 0
  iterate 2 refine hK _ _ _ _ _ _ (?_ : K _ _ _ _ _ _)
  have e0 := wkF_0 (P p) pi
  rw [← e0]
  refine hW _ _ [(2, .int (nI (0))), (0, .ref 24), (1, .int (nI p))] _ _ _ _ (by simp) ?_
  refine up (P := fun k => K 2 [(2, .int (nI (k))), (0, .ref 24), (1, .int (nI p))] [] (b, mW X A mk ro nx (wkF (P p) pi (k)) kp km th T) 0 0) 7 0 ?_ ?_ (by decide)
  · skip
    iterate 2 refine hK _ _ _ _ _ _ (?_ : K _ _ _ _ _ _)
    refine hK _ _ _ _ _ _ (And.intro (fun _ => ?_) (fun c9 => absurd (nI_le (Nat.le_refl 7) (by decide)) c9))
    iterate 2 refine hK _ _ _ _ _ _ (?_ : K _ _ _ _ _ _)
    refine hW _ _ [(2, .int (nI 0)), (0, .ref 24), (1, .int (nI p))] _ _ _ _ (by simp) ?_
    refine up (P := fun m => ∀ (pi2 : Nat → Int32) (l0 : Nat → Nat), (Wlk (P p) (m) l0 ∧ Rep pi2 (P p) l0) → K 38 [(2, .int (nI (m))), (0, .ref 24), (1, .int (nI p))] [] (b, mW X A mk ro nx pi2 kp km th T) 0 0) 7 0 ?_ ?_ (by decide) _ _ ⟨wlk_0, wkF_R (P p) pi⟩
    · skip
      intro pi2 l0 hh
      iterate 2 refine hK _ _ _ _ _ _ (?_ : K _ _ _ _ _ _)
      refine hK _ _ _ _ _ _ (And.intro (fun _ => ?_) (fun c9 => absurd (nI_le (Nat.le_refl 7) (by decide)) c9))
      exact hK _ _ _ _ _ _ (r_vret rfl rfl rfl (hQ _ (fun k hk => by rw [hh.2 k hk]; unfold pcV; cases hb : P p (2 ^ k) with
        | false => rfl
        | true => rw [wlk_7 hs hh.1 k hk hb])))
    · intro m h0m hm ihm pi2 l0 hh
      have hh0 := hh
      iterate 2 refine hK _ _ _ _ _ _ (?_ : K _ _ _ _ _ _)
      refine hK _ _ _ _ _ _ (And.intro (fun c9 => absurd c9 (nI_ge (by omega) (by decide))) (fun _ => ?_))
      iterate 2 refine hK _ _ _ _ _ _ (?_ : K _ _ _ _ _ _)
      refine hW _ _ [(3, .int (nI 1)), (0, .ref 24), (1, .int (nI p)), (2, .int (nI m))] _ _ _ _ (by simp) ?_
      refine up (P := fun f => ∀ (pi3 : Nat → Int32) (l : Nat → Nat), (Inn (P p) l0 (f) l ∧ Rep pi3 (P p) l) → K 46 [(3, .int (nI (f))), (0, .ref 24), (1, .int (nI p)), (2, .int (nI m))] [] (b, mW X A mk ro nx pi3 kp km th T) 0 0) 128 1 ?_ ?_ (by decide) _ _ ⟨inn_0 hs.1 hh.1.1, hh.2⟩
      · skip
        intro pi3 l hh
        iterate 2 refine hK _ _ _ _ _ _ (?_ : K _ _ _ _ _ _)
        refine hK _ _ _ _ _ _ (And.intro (fun _ => ?_) (fun c9 => absurd (nI_le (Nat.le_refl 128) (by decide)) c9))
        iterate 2 refine hK _ _ _ _ _ _ (?_ : K _ _ _ _ _ _)
        rw [nI_add m 1]
        have hhA := hh
        first | exact (ihm _ _ ⟨wlk_s hs hh0.1 hhA.1, hhA.2⟩) | exact hW _ _ _ _ _ _ _ (by simp) (ihm _ _ ⟨wlk_s hs hh0.1 hhA.1, hhA.2⟩)
      · intro f h0f hf ihf pi3 l hh
        iterate 2 refine hK _ _ _ _ _ _ (?_ : K _ _ _ _ _ _)
        refine hK _ _ _ _ _ _ (And.intro (fun c9 => absurd c9 (nI_ge (by omega) (by decide))) (fun _ => ?_))
        iterate 3 refine hK _ _ _ _ _ _ (?_ : K _ _ _ _ _ _)
        refine hK _ _ _ _ _ _ (r_callV rfl (fun _ => rfl) rfl (b0 rfl rfl rfl) (kX7_isThere (i := f) hA hp (by omega) (by omega) (?_ : K _ _ _ _ _ _)))
        refine hK _ _ _ _ _ _ (And.intro (fun c1 => ?_) (fun c1 => ?_))
        · skip
          iterate 2 refine hK _ _ _ _ _ _ (?_ : K _ _ _ _ _ _)
          rw [nI_add f 1]
          first | exact (ihf _ _ ⟨inn_s hh.1 (Or.inl (b2i_0.mp c1)), hh.2⟩) | exact hW _ _ _ _ _ _ _ (by simp) (ihf _ _ ⟨inn_s hh.1 (Or.inl (b2i_0.mp c1)), hh.2⟩)
        · skip
          iterate 1 refine hK _ _ _ _ _ _ (?_ : K _ _ _ _ _ _)
          refine hK _ _ _ _ _ _ (r_callS rfl (fun _ => rfl) (b0 rfl rfl rfl) (kX7_height (i := f) (by omega) (by omega) (?_ : K _ _ _ _ _ _)))
          iterate 1 refine hK _ _ _ _ _ _ (?_ : K _ _ _ _ _ _)
          refine hK _ _ _ _ _ _ (And.intro (fun c2 => ?_) (fun c2 => ?_))
          · skip
            have hpc : pc f = 2 := by
              have h9 : ht f = 1 := (nI_eq (by have := ht_7 (show f < 128 by omega); omega) (by decide)).mp c2
              unfold ht at h9; omega
            iterate 2 refine hK _ _ _ _ _ _ (?_ : K _ _ _ _ _ _)
            refine hK _ _ _ _ _ _ (r_callV rfl (fun _ => rfl) rfl (b0 rfl rfl rfl) (kX7_join (i := f) (l := l) (by omega) (fun k hk hb => by rw [hh.2 k hk]; unfold pcV; rw [edge_s hs (by omega) (Bool.of_not_eq_false fun c9 => c1 (b2i_0.mpr c9)) hb]; rfl) (fun k hk hb => gd_7 hs (by omega) (Bool.of_not_eq_false fun c9 => c1 (b2i_0.mpr c9)) hh.1.1 hb) (?_ : K _ _ _ _ _ _)))
            iterate 2 refine hK _ _ _ _ _ _ (?_ : K _ _ _ _ _ _)
            rw [nI_add f 1]
            first | exact (ihf _ _ ⟨inn_j hs (by omega) hpc (Bool.of_not_eq_false fun c9 => c1 (b2i_0.mpr c9)) hh.1, rep_j hs (by omega) (Bool.of_not_eq_false fun c9 => c1 (b2i_0.mpr c9)) hh.2⟩) | exact hW _ _ _ _ _ _ _ (by simp) (ihf _ _ ⟨inn_j hs (by omega) hpc (Bool.of_not_eq_false fun c9 => c1 (b2i_0.mpr c9)) hh.1, rep_j hs (by omega) (Bool.of_not_eq_false fun c9 => c1 (b2i_0.mpr c9)) hh.2⟩)
          · skip
            have hpc : pc f ≠ 2 := fun c9 => c2 (by unfold ht; rw [c9])
            iterate 2 refine hK _ _ _ _ _ _ (?_ : K _ _ _ _ _ _)
            rw [nI_add f 1]
            first | exact (ihf _ _ ⟨inn_s hh.1 (Or.inr hpc), hh.2⟩) | exact hW _ _ _ _ _ _ _ (by simp) (ihf _ _ ⟨inn_s hh.1 (Or.inr hpc), hh.2⟩)
  · intro k h0k hk ihk
    iterate 2 refine hK _ _ _ _ _ _ (?_ : K _ _ _ _ _ _)
    refine hK _ _ _ _ _ _ (And.intro (fun c9 => absurd c9 (nI_ge (by omega) (by decide))) (fun _ => ?_))
    iterate 1 refine hK _ _ _ _ _ _ (?_ : K _ _ _ _ _ _)
    refine hK _ _ _ _ _ _ (r_get rfl rfl rfl (?_ : K _ _ _ _ _ _))
    iterate 6 refine hK _ _ _ _ _ _ (?_ : K _ _ _ _ _ _)
    refine hK _ _ _ _ _ _ (r_callV rfl (fun _ => rfl) rfl (b0 rfl rfl rfl) (okW (by rw [sh1 k hk]) (kX7_isThere (i := 2 ^ k) hA hp (Nat.pos_of_ne_zero (pw_0 k)) (pw_128 k hk) (?_ : K _ _ _ _ _ _))))
    refine hK _ _ _ _ _ _ (And.intro (fun c1 => ?_) (fun c1 => ?_))
    · skip
      iterate 1 refine hK _ _ _ _ _ _ (?_ : K _ _ _ _ _ _)
      refine hK _ _ _ _ _ _ (r_iast' rfl (N := 7) (f := wkF (P p) pi k) rfl (vp_in_nI (by omega) (by decide)) (show (.inl (0, 7, .inl _) : va_E) = iaA (wkF (P p) pi (k + 1)) by rw [wkF_s (by omega) (by unfold pcV; rw [(b2i_0.mp c1)]; rfl)]) (?_ : K _ _ _ _ _ _))
      show K _ _ _ (b, mW X A mk ro nx (wkF (P p) pi (k + 1)) kp km th T) _ _
      iterate 2 refine hK _ _ _ _ _ _ (?_ : K _ _ _ _ _ _)
      rw [nI_add k 1]
      first | exact ihk | exact hW _ _ _ _ _ _ _ (by simp) ihk
    · skip
      iterate 2 refine hK _ _ _ _ _ _ (?_ : K _ _ _ _ _ _)
      refine hK _ _ _ _ _ _ (r_iast' rfl (N := 7) (f := wkF (P p) pi k) rfl (vp_in_nI (by omega) (by decide)) (show (.inl (0, 7, .inl _) : va_E) = iaA (wkF (P p) pi (k + 1)) by rw [wkF_s (by omega) (by unfold pcV; rw [(Bool.of_not_eq_false fun c9 => c1 (b2i_0.mpr c9))]; rfl)]) (?_ : K _ _ _ _ _ _))
      show K _ _ _ (b, mW X A mk ro nx (wkF (P p) pi (k + 1)) kp km th T) _ _
      iterate 2 refine hK _ _ _ _ _ _ (?_ : K _ _ _ _ _ _)
      rw [nI_add k 1]
      first | exact ihk | exact hW _ _ _ _ _ _ _ (by simp) ihk

theorem pcV_k {s : Nat → Bool} {k : Nat} (hk : k < 7) : pcV s (rt s) k = nI k ↔ lsB s k = true := by
  unfold pcV lsB
  cases hb : s (2 ^ k) with
  | false =>
    refine ⟨fun h => absurd h ?_, fun h => by cases h⟩
    intro h
    have h2 := congrArg Int32.toInt h
    rw [nI_toInt (by omega)] at h2
    have h3 : (bif false then nI (rt s k) else (-1 : Int32)).toInt = -1 := by show (-1 : Int32).toInt = -1; decide +kernel
    omega
  | true =>
    show nI (rt s k) = nI k ↔ (rt s k == k) = true
    rw [nI_eq (by have := rt_7 (s := s) hk; omega) (by omega), beq_iff_eq]
def pkF (s : Nat → Bool) (n : Nat) : Nat := n
set_option maxRecDepth 10000 in
/-- Model.pieces -/
theorem kX7_pieces {S : Nat × (Nat → Int32)} {d : Nat} {Q : eQ} {b : Bool} {X : Nat → va_E} {A mk ro nx pi : Nat → Int32} {kp : Nat → Int64} {km th : Int32} {T : List va_E} {P : Nat → Nat → Bool} {R : Nat → Bool} {x : Int32} (hI : IvC P R) (hA : MI P A) (hR : RI R ro) (hQ : mQ (.int (nI 0)) cmA (o_pieces P R x) Q b X A ro T) : okCall S MT (d + 5) nX7_pieces [.ref 24, .int x] (b, mW X A mk ro nx pi kp km th T) Q := by
  refine okc (M := MX7_pieces) rfl rfl fun K hK hW => ?_
  show K 0 [(0, .ref 24), (1, .int x)] [] (b, mW X A mk ro nx pi kp km th T) 0 0
  unfold o_pieces at hQ
  iterate 2 refine hK _ _ _ _ _ _ (?_ : K _ _ _ _ _ _)
  refine hK _ _ _ _ _ _ (r_callS rfl (fun _ => rfl) (b0 rfl rfl rfl) (kX7_isPlace (fun h9 => (?_ : K _ _ _ _ _ _)) (fun p _ hp hx h9 => (?_ : K _ _ _ _ _ _))))
  · skip
    refine hK _ _ _ _ _ _ (And.intro (fun _ => ?_) (fun c9 => absurd (rfl) c9))
    iterate 1 refine hK _ _ _ _ _ _ (?_ : K _ _ _ _ _ _)
    refine hK _ _ _ _ _ _ (r_callV rfl (fun _ => rfl) rfl (b0 rfl rfl rfl) (kw_n (n := 1) (by decide) (by decide) (?_ : K _ _ _ _ _ _)))
    refine hK _ _ _ _ _ _ (And.intro (fun c9 => absurd c9 (nI1_0)) (fun _ => ?_))
    iterate 1 refine hK _ _ _ _ _ _ (?_ : K _ _ _ _ _ _)
    exact hK _ _ _ _ _ _ (r_iret rfl rfl rfl rfl (mq_n h9 hQ))
  · skip
    subst hx
    have hQ1 := mq_s h9 hQ
    refine hK _ _ _ _ _ _ (And.intro (fun c9 => absurd c9 (nI1_0)) (fun _ => ?_))
    iterate 2 refine hK _ _ _ _ _ _ (?_ : K _ _ _ _ _ _)
    refine hK _ _ _ _ _ _ (r_callV rfl (fun _ => rfl) rfl (b0 rfl rfl rfl) (kw_0 (?_ : K _ _ _ _ _ _)))
    refine hK _ _ _ _ _ _ (And.intro (fun _ => ?_) (fun c9 => absurd (rfl) c9))
    iterate 2 refine hK _ _ _ _ _ _ (?_ : K _ _ _ _ _ _)
    refine hK _ _ _ _ _ _ (r_callV rfl (fun _ => rfl) rfl (b0 rfl rfl rfl) (kX7_walk hA hp (hI.1 p hp) fun pi2 hpi => (?_ : K _ _ _ _ _ _)))
    iterate 4 refine hK _ _ _ _ _ _ (?_ : K _ _ _ _ _ _)
    refine hW _ _ [(3, .int (nI (0))), (2, .int (nI (fb_ct (lsB (P p)) (0)))), (0, .ref 24)] _ _ _ _ (by simp [show fb_ct (lsB (P p)) 0 = 0 from rfl]) ?_
    refine up (P := fun k => K 30 [(3, .int (nI (k))), (2, .int (nI (fb_ct (lsB (P p)) (k)))), (0, .ref 24)] [] (b, mW X A mk ro nx pi2 kp km (nI 0) T) 0 0) 7 0 ?_ ?_ (by decide)
    · skip
      iterate 2 refine hK _ _ _ _ _ _ (?_ : K _ _ _ _ _ _)
      refine hK _ _ _ _ _ _ (And.intro (fun _ => ?_) (fun c9 => absurd (nI_le (Nat.le_refl 7) (by decide)) c9))
      iterate 1 refine hK _ _ _ _ _ _ (?_ : K _ _ _ _ _ _)
      exact hK _ _ _ _ _ _ (r_iret rfl rfl rfl rfl (mi hQ1 hA hR))
    · intro k h0k hk ihk
      iterate 2 refine hK _ _ _ _ _ _ (?_ : K _ _ _ _ _ _)
      refine hK _ _ _ _ _ _ (And.intro (fun c9 => absurd c9 (nI_ge (by omega) (by decide))) (fun _ => ?_))
      iterate 2 refine hK _ _ _ _ _ _ (?_ : K _ _ _ _ _ _)
      refine hK _ _ _ _ _ _ (r_get rfl rfl rfl (?_ : K _ _ _ _ _ _))
      iterate 1 refine hK _ _ _ _ _ _ (?_ : K _ _ _ _ _ _)
      refine hK _ _ _ _ _ _ (r_iald' (v := pcV (P p) (rt (P p)) k) rfl (N := 7) (f := pi2) rfl (vp_in_nI (by omega) (by decide)) (by rw [nI_clamp (by omega)]; exact hpi k hk) (?_ : K _ _ _ _ _ _))
      iterate 1 refine hK _ _ _ _ _ _ (?_ : K _ _ _ _ _ _)
      refine hK _ _ _ _ _ _ (And.intro (fun c1 => ?_) (fun c1 => ?_))
      · skip
        rw [pcV_k hk] at c1
        iterate 6 refine hK _ _ _ _ _ _ (?_ : K _ _ _ _ _ _)
        have e1 : fb_ct (lsB (P p)) (k + 1) = fb_ct (lsB (P p)) k + 1 := by show _ + (if lsB (P p) k then 1 else 0) = _; rw [c1]; rfl
        rw [e1] at ihk
        rw [nI_add k 1, nI_add _ 1]
        first | exact ihk | exact hW _ _ _ _ _ _ _ (by simp) ihk
      · skip
        rw [pcV_k hk] at c1
        iterate 5 refine hK _ _ _ _ _ _ (?_ : K _ _ _ _ _ _)
        have e1 : fb_ct (lsB (P p)) (k + 1) = fb_ct (lsB (P p)) k := by show _ + (if lsB (P p) k then 1 else 0) = _; rw [if_neg c1]; rfl
        rw [e1] at ihk
        rw [nI_add k 1, nI_p0]
        first | exact ihk | exact hW _ _ _ _ _ _ _ (by simp) ihk

theorem pcV_J {s : Nat → Bool} {c d : Nat} (hc : c < 7) (hd : d < 7) (h1 : s (2 ^ c) = true) (h2 : s (2 ^ d) = true) : pcV s (rt s) c = pcV s (rt s) d ↔ JB s c d = true := by
  unfold pcV
  rw [h1, h2, JB_iff, ← rt_iff]
  exact nI_eq (by have := rt_7 (s := s) hc; omega) (by have := rt_7 (s := s) hd; omega)
set_option maxRecDepth 10000 in
/-- Model.areJoined -/
theorem kX7_areJoined {S : Nat × (Nat → Int32)} {d : Nat} {Q : eQ} {b : Bool} {X : Nat → va_E} {A mk ro nx pi : Nat → Int32} {kp : Nat → Int64} {km th : Int32} {T : List va_E} {P : Nat → Nat → Bool} {R : Nat → Bool} {x : Int32} {y : Int32} {z : Int32} (hI : IvC P R) (hA : MI P A) (hR : RI R ro) (hQ : mQ (.int (nI 0)) cmA (o_areJoined P R x y z) Q b X A ro T) : okCall S MT (d + 5) nX7_areJoined [.ref 24, .int x, .int y, .int z] (b, mW X A mk ro nx pi kp km th T) Q := by
  refine okc (M := MX7_areJoined) rfl rfl fun K hK hW => ?_
  show K 0 [(0, .ref 24), (1, .int x), (2, .int y), (3, .int z)] [] (b, mW X A mk ro nx pi kp km th T) 0 0
  unfold o_areJoined at hQ
  iterate 2 refine hK _ _ _ _ _ _ (?_ : K _ _ _ _ _ _)
  refine hK _ _ _ _ _ _ (r_callS rfl (fun _ => rfl) (b0 rfl rfl rfl) (kX7_isPlace (fun h9 => (?_ : K _ _ _ _ _ _)) (fun p _ hp hx h9 => (?_ : K _ _ _ _ _ _))))
  · skip
    refine hK _ _ _ _ _ _ (And.intro (fun _ => ?_) (fun c9 => absurd (rfl) c9))
    iterate 2 refine hK _ _ _ _ _ _ (?_ : K _ _ _ _ _ _)
    refine hK _ _ _ _ _ _ (r_callV rfl (fun _ => rfl) rfl (b0 rfl rfl rfl) (kw_n (n := 1) (by decide) (by decide) (?_ : K _ _ _ _ _ _)))
    refine hK _ _ _ _ _ _ (And.intro (fun c9 => absurd c9 (nI1_0)) (fun _ => ?_))
    iterate 1 refine hK _ _ _ _ _ _ (?_ : K _ _ _ _ _ _)
    exact hK _ _ _ _ _ _ (r_iret rfl rfl rfl rfl (mq_n h9 hQ))
  · skip
    subst hx
    have hQ1 := mq_s h9 hQ
    refine hK _ _ _ _ _ _ (And.intro (fun c9 => absurd c9 (nI1_0)) (fun _ => ?_))
    iterate 1 refine hK _ _ _ _ _ _ (?_ : K _ _ _ _ _ _)
    refine hK _ _ _ _ _ _ (r_callS rfl (fun _ => rfl) (b0 rfl rfl rfl) (kX7_isCorner (fun hC => (?_ : K _ _ _ _ _ _)) (fun c _ hc hx hC => (?_ : K _ _ _ _ _ _))))
    · skip
      refine hK _ _ _ _ _ _ (And.intro (fun _ => ?_) (fun c9 => absurd (rfl) c9))
      iterate 2 refine hK _ _ _ _ _ _ (?_ : K _ _ _ _ _ _)
      refine hK _ _ _ _ _ _ (r_callV rfl (fun _ => rfl) rfl (b0 rfl rfl rfl) (kw_n (n := 2) (by decide) (by decide) (?_ : K _ _ _ _ _ _)))
      refine hK _ _ _ _ _ _ (And.intro (fun c9 => absurd c9 (nI1_0)) (fun _ => ?_))
      iterate 1 refine hK _ _ _ _ _ _ (?_ : K _ _ _ _ _ _)
      exact hK _ _ _ _ _ _ (r_iret rfl rfl rfl rfl (mq_n hC hQ1))
    · skip
      subst hx
      have hQ2 := mq_s hC hQ1
      refine hK _ _ _ _ _ _ (And.intro (fun c9 => absurd c9 (nI1_0)) (fun _ => ?_))
      iterate 1 refine hK _ _ _ _ _ _ (?_ : K _ _ _ _ _ _)
      refine hK _ _ _ _ _ _ (r_callS rfl (fun _ => rfl) (b0 rfl rfl rfl) (kX7_isCorner (fun hD => (?_ : K _ _ _ _ _ _)) (fun d _ hd hx hD => (?_ : K _ _ _ _ _ _))))
      · skip
        refine hK _ _ _ _ _ _ (And.intro (fun _ => ?_) (fun c9 => absurd (rfl) c9))
        iterate 2 refine hK _ _ _ _ _ _ (?_ : K _ _ _ _ _ _)
        refine hK _ _ _ _ _ _ (r_callV rfl (fun _ => rfl) rfl (b0 rfl rfl rfl) (kw_n (n := 2) (by decide) (by decide) (?_ : K _ _ _ _ _ _)))
        refine hK _ _ _ _ _ _ (And.intro (fun c9 => absurd c9 (nI1_0)) (fun _ => ?_))
        iterate 1 refine hK _ _ _ _ _ _ (?_ : K _ _ _ _ _ _)
        exact hK _ _ _ _ _ _ (r_iret rfl rfl rfl rfl (mq_n hD hQ2))
      · skip
        subst hx
        have hQ3 := mq_s hD hQ2
        refine hK _ _ _ _ _ _ (And.intro (fun c9 => absurd c9 (nI1_0)) (fun _ => ?_))
        iterate 5 refine hK _ _ _ _ _ _ (?_ : K _ _ _ _ _ _)
        refine hK _ _ _ _ _ _ (r_callV rfl (fun _ => rfl) rfl (b0 rfl rfl rfl) (okW (by rw [sh1 c hc]) (kX7_isThere (i := 2 ^ c) hA hp (Nat.pos_of_ne_zero (pw_0 c)) (pw_128 c hc) (?_ : K _ _ _ _ _ _))))
        refine hK _ _ _ _ _ _ (And.intro (fun z1 => ?_) (fun z1 => ?_))
        · skip
          iterate 2 refine hK _ _ _ _ _ _ (?_ : K _ _ _ _ _ _)
          refine hK _ _ _ _ _ _ (r_callV rfl (fun _ => rfl) rfl (b0 rfl rfl rfl) (kw_n (n := 3) (by decide) (by decide) (?_ : K _ _ _ _ _ _)))
          refine hK _ _ _ _ _ _ (And.intro (fun c9 => absurd c9 (nI1_0)) (fun _ => ?_))
          iterate 1 refine hK _ _ _ _ _ _ (?_ : K _ _ _ _ _ _)
          exact hK _ _ _ _ _ _ (r_iret rfl rfl rfl rfl (mb_f (b2i_0.mp z1) hQ3))
        · skip
          have hQ4 := mb_t (Bool.of_not_eq_false fun c9 => z1 (b2i_0.mpr c9)) hQ3
          iterate 5 refine hK _ _ _ _ _ _ (?_ : K _ _ _ _ _ _)
          refine hK _ _ _ _ _ _ (r_callV rfl (fun _ => rfl) rfl (b0 rfl rfl rfl) (okW (by rw [sh1 d hd]) (kX7_isThere (i := 2 ^ d) hA hp (Nat.pos_of_ne_zero (pw_0 d)) (pw_128 d hd) (?_ : K _ _ _ _ _ _))))
          refine hK _ _ _ _ _ _ (And.intro (fun z2 => ?_) (fun z2 => ?_))
          · skip
            iterate 2 refine hK _ _ _ _ _ _ (?_ : K _ _ _ _ _ _)
            refine hK _ _ _ _ _ _ (r_callV rfl (fun _ => rfl) rfl (b0 rfl rfl rfl) (kw_n (n := 3) (by decide) (by decide) (?_ : K _ _ _ _ _ _)))
            refine hK _ _ _ _ _ _ (And.intro (fun c9 => absurd c9 (nI1_0)) (fun _ => ?_))
            iterate 1 refine hK _ _ _ _ _ _ (?_ : K _ _ _ _ _ _)
            exact hK _ _ _ _ _ _ (r_iret rfl rfl rfl rfl (mb_f (b2i_0.mp z2) hQ4))
          · skip
            have hQ5 := mb_t (Bool.of_not_eq_false fun c9 => z2 (b2i_0.mpr c9)) hQ4
            iterate 1 refine hK _ _ _ _ _ _ (?_ : K _ _ _ _ _ _)
            refine hK _ _ _ _ _ _ (r_callV rfl (fun _ => rfl) rfl (b0 rfl rfl rfl) (kw_0 (?_ : K _ _ _ _ _ _)))
            refine hK _ _ _ _ _ _ (And.intro (fun _ => ?_) (fun c9 => absurd (rfl) c9))
            iterate 2 refine hK _ _ _ _ _ _ (?_ : K _ _ _ _ _ _)
            refine hK _ _ _ _ _ _ (r_callV rfl (fun _ => rfl) rfl (b0 rfl rfl rfl) (kX7_walk hA hp (hI.1 p hp) fun pi2 hpi => (?_ : K _ _ _ _ _ _)))
            iterate 1 refine hK _ _ _ _ _ _ (?_ : K _ _ _ _ _ _)
            refine hK _ _ _ _ _ _ (r_get rfl rfl rfl (?_ : K _ _ _ _ _ _))
            iterate 1 refine hK _ _ _ _ _ _ (?_ : K _ _ _ _ _ _)
            refine hK _ _ _ _ _ _ (r_iald' (v := pcV (P p) (rt (P p)) c) rfl (N := 7) (f := pi2) rfl (vp_in_nI (by omega) (by decide)) (by rw [nI_clamp (by omega)]; exact hpi c hc) (?_ : K _ _ _ _ _ _))
            iterate 1 refine hK _ _ _ _ _ _ (?_ : K _ _ _ _ _ _)
            refine hK _ _ _ _ _ _ (r_get rfl rfl rfl (?_ : K _ _ _ _ _ _))
            iterate 1 refine hK _ _ _ _ _ _ (?_ : K _ _ _ _ _ _)
            refine hK _ _ _ _ _ _ (r_iald' (v := pcV (P p) (rt (P p)) d) rfl (N := 7) (f := pi2) rfl (vp_in_nI (by omega) (by decide)) (by rw [nI_clamp (by omega)]; exact hpi d hd) (?_ : K _ _ _ _ _ _))
            refine hK _ _ _ _ _ _ (And.intro (fun z3 => ?_) (fun z3 => ?_))
            · skip
              rw [pcV_J hc hd (Bool.of_not_eq_false fun c9 => z1 (b2i_0.mpr c9)) (Bool.of_not_eq_false fun c9 => z2 (b2i_0.mpr c9))] at z3
              rw [z3] at hQ5
              iterate 2 refine hK _ _ _ _ _ _ (?_ : K _ _ _ _ _ _)
              exact hK _ _ _ _ _ _ (r_iret rfl rfl rfl rfl (mi hQ5 hA hR))
            · skip
              rw [pcV_J hc hd (Bool.of_not_eq_false fun c9 => z1 (b2i_0.mpr c9)) (Bool.of_not_eq_false fun c9 => z2 (b2i_0.mpr c9))] at z3
              rw [Bool.eq_false_iff.mpr z3] at hQ5
              iterate 1 refine hK _ _ _ _ _ _ (?_ : K _ _ _ _ _ _)
              exact hK _ _ _ _ _ _ (r_iret rfl rfl rfl rfl (mi hQ5 hA hR))

end MP
