section BO
section R3
variable {S : Nat × (Nat → Int32)} {T : Nat → eM} {C : eC} {M : eM} {d : Nat} {Q : eQ} {K : eK} {pc n a b c x : Nat} {ls : eL} {st r : List Value} {h : eH} {kc ks : Nat}
theorem r_iald' {q N : Nat} {f : Nat → Int32} {j v : Int32} (hat : eAt (mPr M) pc = some (.iaload, n, a, b, c)) (hk : h.2[q]? = some (.inl (0, N, .inl f))) (hj : vp_in j N) (hv : f j.toNatClampNeg = v) (kk : K n ls (.int v :: r) h kc ks) : eStep S T C M d Q K pc ls (.int j :: .ref (q + 1) :: r) h kc ks := by
  subst hv; exact r_iald hat hk hj kk
theorem r_zald' {q N : Nat} {f : Nat → Int32} {j v : Int32} (hat : eAt (mPr M) pc = some (.baload, n, a, b, c)) (hk : h.2[q]? = some (.inl (1, N, .inl f))) (hj : vp_in j N) (hv : f j.toNatClampNeg = v) (kk : K n ls (.int v :: r) h kc ks) : eStep S T C M d Q K pc ls (.int j :: .ref (q + 1) :: r) h kc ks := by
  subst hv; exact r_zald hat hk hj kk
theorem r_lald' {q N : Nat} {f : Nat → Int64} {j : Int32} {v : Int64} (hat : eAt (mPr M) pc = some (.laload, n, a, b, c)) (hk : h.2[q]? = some (.inl (2, N, .inr (.inl f)))) (hj : vp_in j N) (hv : f j.toNatClampNeg = v) (kk : K n ls (.long v :: r) h kc ks) : eStep S T C M d Q K pc ls (.int j :: .ref (q + 1) :: r) h kc ks := by
  subst hv; exact r_lald hat hk hj kk
theorem r_last' {q N : Nat} {f : Nat → Int64} {j : Int32} {x1 : Int64} {o : va_E} (hat : eAt (mPr M) pc = some (.lastore, n, a, b, c)) (hk : h.2[q]? = some (.inl (2, N, .inr (.inl f)))) (hj : vp_in j N) (ho : (.inl (2, N, .inr (.inl (vp_updL f j.toNatClampNeg x1))) : va_E) = o) (kk : K n ls r (h.1, h.2.set q o) kc ks) : eStep S T C M d Q K pc ls (.long x1 :: .int j :: .ref (q + 1) :: r) h kc ks := by
  subst ho; exact r_last hat hk hj kk
theorem r_iast' {q N : Nat} {f : Nat → Int32} {j x1 : Int32} {o : va_E} (hat : eAt (mPr M) pc = some (.iastore, n, a, b, c)) (hk : h.2[q]? = some (.inl (0, N, .inl f))) (hj : vp_in j N) (ho : (.inl (0, N, .inl (upd f j.toNatClampNeg x1)) : va_E) = o) (kk : K n ls r (h.1, h.2.set q o) kc ks) : eStep S T C M d Q K pc ls (.int x1 :: .int j :: .ref (q + 1) :: r) h kc ks := by
  subst ho; exact r_iast hat hk hj kk
theorem r_zast' {q N : Nat} {f : Nat → Int32} {j x1 : Int32} {o : va_E} (hat : eAt (mPr M) pc = some (.bastore, n, a, b, c)) (hk : h.2[q]? = some (.inl (1, N, .inl f))) (hj : vp_in j N) (ho : (.inl (1, N, .inl (upd f j.toNatClampNeg (vp_nar .boolean x1))) : va_E) = o) (kk : K n ls r (h.1, h.2.set q o) kc ks) : eStep S T C M d Q K pc ls (.int x1 :: .int j :: .ref (q + 1) :: r) h kc ks := by
  subst ho; exact r_zast hat hk hj kk
end R3
/-- the three rows of the borders -/
def slF (i : Nat) : Int32 := bif decide (i < 128) then nI (sl i) else 0
def bdF (i : Nat) : Int64 := bif decide (i < 128) && decide (2 ≤ pc i) then lN (bb i) else 0
abbrev slA : va_E := .inl (0, 128, .inl slF)
abbrev bdA : va_E := .inl (2, 128, .inr (.inl bdF))
abbrev kpA (kb : Nat → Nat) : va_E := .inl (2, 35, .inr (.inl (fun i => lN (kb i))))
abbrev boO (a b c : Nat) : va_E := .inr (0, [.ref (a + 1), .ref (b + 1), .ref (c + 1)])
theorem kp_upd {kb : Nat → Nat} {k lv : Nat} (hk : k < 2 ^ 31) : (.inl (2, 35, .inr (.inl (vp_updL (fun i => lN (kb i)) (nI k).toNatClampNeg (lN lv)))) : va_E) = kpA (kbS kb k lv) := by
  have e : vp_updL (fun i => lN (kb i)) (nI k).toNatClampNeg (lN lv) = fun i => lN (kbS kb k lv i) := by
    funext i
    rw [nI_clamp hk]
    show (if i = k then lN lv else lN (kb i)) = lN (if i = k then lv else kb i)
    split <;> rfl
  rw [e]
theorem slF_at {k : Nat} (h : k < 128) : slF (nI k).toNatClampNeg = nI (sl k) := by
  rw [nI_clamp (by omega)]; unfold slF; rw [decide_eq_true h]; rfl
theorem bdF_at {k : Nat} (h : k < 128) (hp : 2 ≤ pc k) : bdF (nI k).toNatClampNeg = lN (bb k) := by
  rw [nI_clamp (by omega)]; unfold bdF; rw [decide_eq_true h, decide_eq_true hp]; rfl
theorem hQe {Q : eQ} {o : eO} {b : Bool} {l l' : List va_E} (e : l = l') (h : Q o (b, l')) : Q o (b, l) := e ▸ h
theorem hE {h : eH} {b : Bool} {l : List va_E} (e1 : h.1 = b) (e2 : h.2 = l) : h = (b, l) := by cases h; cases e1; cases e2; rfl
set_option maxRecDepth 10000 in
/-- Borders.keepsIfFree -/
theorem kX0_keepsIfFree {S : Nat × (Nat → Int32)} {d : Nat} {h : eH} {Q : eQ} {q a b c : Nat} {kb : Nat → Nat} (hB : h.2[q]? = some (boO a b c)) (hC : h.2[c]? = some (kpA kb)) {v : Nat} {L : List Nat} (hKI : KI kb L) (hv : v < 2 ^ 35) (hQ : ∀ kb2, KI kb2 (v :: L) → Q (.inl (some (.int (b2i (!sp L v))))) (h.1, h.2.set c (kpA kb2))) : okCall S MT (d + 1) nX0_keepsIfFree [.ref (q + 1), .long (lN v)] h Q := by
  refine okc (M := MX0_keepsIfFree) rfl rfl fun K hK hW => ?_
  show K 0 [(0, .ref (q + 1)), (1, .long (lN v))] [] h 0 0
  iterate 6 refine hK _ _ _ _ _ _ (?_ : K _ _ _ _ _ _)
  refine hW _ _ [(5, .int (nI 0)), (3, .long (lN v)), (0, .ref (q + 1)), (1, .long (lN v))] _ _ _ _ (by simp) ?_
  refine up (P := fun k => ∀ (lv : Nat), LI L v (k) lv → K 9 [(5, .int (nI (k))), (3, .long (lN lv)), (0, .ref (q + 1)), (1, .long (lN v))] [.int (nI 35), .int (nI (k))] h 0 0) 35 0 ?_ ?_ (by decide) v (LI_0 hv)
  · skip
    intro lv hh
    refine hK _ _ _ _ _ _ (And.intro (fun _ => ?_) (fun c9 => absurd (nI_le (Nat.le_refl 35) (by decide)) c9))
    iterate 1 refine hK _ _ _ _ _ _ (?_ : K _ _ _ _ _ _)
    have h1 := LI_end hh (Or.inl rfl)
    have h3 := hQ _ (KI_same hKI h1)
    rw [h1, gq hC] at h3
    exact hK _ _ _ _ _ _ (r_iret rfl rfl rfl rfl h3)
  · intro k h0k hk ihk lv hh
    refine hK _ _ _ _ _ _ (And.intro (fun c9 => absurd c9 (nI_ge (by omega) (by decide))) (fun _ => ?_))
    iterate 3 refine hK _ _ _ _ _ _ (?_ : K _ _ _ _ _ _)
    refine hK _ _ _ _ _ _ (And.intro (fun c1 => ?_) (fun c1 => ?_))
    · skip
      iterate 1 refine hK _ _ _ _ _ _ (?_ : K _ _ _ _ _ _)
      have h1 := LI_end hh (Or.inr ((lz (by have := hh.1; omega)).mp c1))
      have h3 := hQ _ (KI_same hKI h1)
      rw [h1, gq hC] at h3
      exact hK _ _ _ _ _ _ (r_iret rfl rfl rfl rfl h3)
    · skip
      iterate 7 refine hK _ _ _ _ _ _ (?_ : K _ _ _ _ _ _)
      refine hK _ _ _ _ _ _ (And.intro (fun c2 => ?_) (fun c2 => ?_))
      · skip
        iterate 4 refine hK _ _ _ _ _ _ (?_ : K _ _ _ _ _ _)
        have hb : lv.testBit k = false := (lbit (by have := hh.1; omega) (by omega)).mp c2
        rw [nI_add k 1]
        first | exact (ihk lv (LI_f hh hb)) | exact hW _ _ _ _ _ _ _ (by simp) (ihk lv (LI_f hh hb))
      · skip
        iterate 1 refine hK _ _ _ _ _ _ (?_ : K _ _ _ _ _ _)
        refine hK _ _ _ _ _ _ (r_get rfl (by assumption) rfl (?_ : K _ _ _ _ _ _))
        iterate 1 refine hK _ _ _ _ _ _ (?_ : K _ _ _ _ _ _)
        refine hK _ _ _ _ _ _ (r_lald' rfl hC (vp_in_nI (by omega) (by decide)) (show lN (kb (nI k).toNatClampNeg) = lN (kb k) by rw [nI_clamp (by omega)]) (?_ : K _ _ _ _ _ _))
        iterate 2 refine hK _ _ _ _ _ _ (?_ : K _ _ _ _ _ _)
        refine hK _ _ _ _ _ _ (And.intro (fun c3 => ?_) (fun c3 => ?_))
        · skip
          iterate 1 refine hK _ _ _ _ _ _ (?_ : K _ _ _ _ _ _)
          refine hK _ _ _ _ _ _ (r_get rfl (by assumption) rfl (?_ : K _ _ _ _ _ _))
          iterate 2 refine hK _ _ _ _ _ _ (?_ : K _ _ _ _ _ _)
          refine hK _ _ _ _ _ _ (r_last' rfl hC (vp_in_nI (by omega) (by decide)) (kp_upd (by omega)) (?_ : K _ _ _ _ _ _))
          iterate 1 refine hK _ _ _ _ _ _ (?_ : K _ _ _ _ _ _)
          have hb : lv.testBit k = true := Bool.of_not_eq_false (fun e => c2 ((lbit (by have := hh.1; omega) (by omega)).mpr e))
          have hz : kb k = 0 := (lz (by have := (hKI.1 k hk).1; omega)).mp c3
          obtain ⟨h1, h2⟩ := KI_new hKI hk hh hb hz
          have h3 := hQ _ h2
          rw [h1] at h3
          exact hK _ _ _ _ _ _ (r_iret rfl rfl rfl rfl h3)
        · skip
          iterate 2 refine hK _ _ _ _ _ _ (?_ : K _ _ _ _ _ _)
          refine hK _ _ _ _ _ _ (r_get rfl (by assumption) rfl (?_ : K _ _ _ _ _ _))
          iterate 1 refine hK _ _ _ _ _ _ (?_ : K _ _ _ _ _ _)
          refine hK _ _ _ _ _ _ (r_lald' rfl hC (vp_in_nI (by omega) (by decide)) (show lN (kb (nI k).toNatClampNeg) = lN (kb k) by rw [nI_clamp (by omega)]) (?_ : K _ _ _ _ _ _))
          iterate 6 refine hK _ _ _ _ _ _ (?_ : K _ _ _ _ _ _)
          have hb : lv.testBit k = true := Bool.of_not_eq_false (fun e => c2 ((lbit (by have := hh.1; omega) (by omega)).mpr e))
          have hz : kb k ≠ 0 := fun e => c3 ((lz (by have := (hKI.1 k hk).1; omega)).mpr e)
          rw [nI_add k 1, fb_xorL]
          first | exact (ihk (lv ^^^ kb k) (LI_x hKI hk hh hb hz)) | exact hW _ _ _ _ _ _ _ (by simp) (ihk (lv ^^^ kb k) (LI_x hKI hk hh hb hz))

set_option maxRecDepth 10000 in
/-- Borders.isSumOfKept -/
theorem kX0_isSumOfKept {S : Nat × (Nat → Int32)} {d : Nat} {h : eH} {Q : eQ} {q a b c : Nat} {kb : Nat → Nat} (hB : h.2[q]? = some (boO a b c)) (hC : h.2[c]? = some (kpA kb)) {v : Nat} {L : List Nat} (hKI : KI kb L) (hv : v < 2 ^ 35) (hQ : Q (.inl (some (.int (b2i (sp L v))))) h) : okCall S MT (d + 1) nX0_isSumOfKept [.ref (q + 1), .long (lN v)] h Q := by
  refine okc (M := MX0_isSumOfKept) rfl rfl fun K hK hW => ?_
  show K 0 [(0, .ref (q + 1)), (1, .long (lN v))] [] h 0 0
  iterate 6 refine hK _ _ _ _ _ _ (?_ : K _ _ _ _ _ _)
  refine hW _ _ [(5, .int (nI 0)), (3, .long (lN v)), (0, .ref (q + 1)), (1, .long (lN v))] _ _ _ _ (by simp) ?_
  refine up (P := fun k => ∀ (lv : Nat), SI L v (k) lv → K 9 [(5, .int (nI (k))), (3, .long (lN lv)), (0, .ref (q + 1)), (1, .long (lN v))] [.int (nI 35), .int (nI (k))] h 0 0) 35 0 ?_ ?_ (by decide) v (SI_0 hv)
  · skip
    intro lv hh
    refine hK _ _ _ _ _ _ (And.intro (fun _ => ?_) (fun c9 => absurd (nI_le (Nat.le_refl 35) (by decide)) c9))
    iterate 3 refine hK _ _ _ _ _ _ (?_ : K _ _ _ _ _ _)
    refine hK _ _ _ _ _ _ (And.intro (fun c1 => ?_) (fun c1 => ?_))
    · skip
      iterate 2 refine hK _ _ _ _ _ _ (?_ : K _ _ _ _ _ _)
      have h1 : sp L v = true := (SI_end hh).mpr ((lz (by have := hh.1; omega)).mp c1)
      rw [h1] at hQ
      exact hK _ _ _ _ _ _ (r_iret rfl rfl rfl rfl hQ)
    · skip
      iterate 1 refine hK _ _ _ _ _ _ (?_ : K _ _ _ _ _ _)
      have h1 : sp L v = false := Bool.eq_false_iff.mpr (fun e => c1 ((lz (by have := hh.1; omega)).mpr ((SI_end hh).mp e)))
      rw [h1] at hQ
      exact hK _ _ _ _ _ _ (r_iret rfl rfl rfl rfl hQ)
  · intro k h0k hk ihk lv hh
    refine hK _ _ _ _ _ _ (And.intro (fun c9 => absurd c9 (nI_ge (by omega) (by decide))) (fun _ => ?_))
    iterate 7 refine hK _ _ _ _ _ _ (?_ : K _ _ _ _ _ _)
    refine hK _ _ _ _ _ _ (And.intro (fun c2 => ?_) (fun c2 => ?_))
    · skip
      iterate 4 refine hK _ _ _ _ _ _ (?_ : K _ _ _ _ _ _)
      have hb : lv.testBit k = false := (lbit (by have := hh.1; omega) (by omega)).mp c2
      rw [nI_add k 1]
      first | exact (ihk lv (SI_f hh hb)) | exact hW _ _ _ _ _ _ _ (by simp) (ihk lv (SI_f hh hb))
    · skip
      iterate 2 refine hK _ _ _ _ _ _ (?_ : K _ _ _ _ _ _)
      refine hK _ _ _ _ _ _ (r_get rfl (by assumption) rfl (?_ : K _ _ _ _ _ _))
      iterate 1 refine hK _ _ _ _ _ _ (?_ : K _ _ _ _ _ _)
      refine hK _ _ _ _ _ _ (r_lald' rfl hC (vp_in_nI (by omega) (by decide)) (show lN (kb (nI k).toNatClampNeg) = lN (kb k) by rw [nI_clamp (by omega)]) (?_ : K _ _ _ _ _ _))
      iterate 6 refine hK _ _ _ _ _ _ (?_ : K _ _ _ _ _ _)
      have hb : lv.testBit k = true := Bool.of_not_eq_false (fun e => c2 ((lbit (by have := hh.1; omega) (by omega)).mpr e))
      rw [nI_add k 1, fb_xorL]
      first | exact (ihk (lv ^^^ kb k) (SI_x hKI hk hh hb)) | exact hW _ _ _ _ _ _ _ (by simp) (ihk (lv ^^^ kb k) (SI_x hKI hk hh hb))

/-- how many borders are free, 0 for the corners -/
def Rr (s : Nat → Bool) (t : Nat) : Nat := if t = 0 then 0 else rX (hat s) (t + 1)
def kbZ (kb : Nat → Nat) (k : Nat) : Nat → Nat := fun i => if i < k then 0 else kb i
theorem kbZ_0 (kb : Nat → Nat) : kbZ kb 0 = kb := by funext i; exact if_neg (Nat.not_lt_zero i)
theorem kbZ_s (kb : Nat → Nat) (k : Nat) : kbS (kbZ kb k) k 0 = kbZ kb (k + 1) := by
  funext i
  unfold kbS kbZ
  by_cases e : i = k
  · subst e; rw [if_pos rfl, if_pos (Nat.lt_succ_self i)]
  · rw [if_neg e]
    by_cases h : i < k
    · rw [if_pos h, if_pos (by omega)]
    · rw [if_neg h, if_neg (by omega)]
theorem kbZ_KI (kb : Nat → Nat) : KI (kbZ kb 35) [] := KI_0 fun i hi => if_pos hi
theorem ht_pc {k : Nat} (h : 1 ≤ ht k) : 2 ≤ pc k := by unfold ht at h; omega
theorem Rr_0 (s : Nat → Bool) : Rr s 0 = 0 := rfl
theorem Rr_1 (s : Nat → Bool) {t : Nat} (h : 1 ≤ t) : rk (bbL s t 128) = Rr s t := by
  unfold Rr
  rw [if_neg (by omega)]; exact bbL_rk s h
theorem bbL_7 (s : Nat → Bool) : bbL s 7 128 = [] := by
  have h : fs (bbP s 7) 128 = [] := by
    rw [List.eq_nil_iff_forall_not_mem]
    intro f hf
    obtain ⟨h1, h2⟩ := fs_mem.mp hf
    unfold bbP at h2
    rw [Bool.and_eq_true, Bool.and_eq_true, decide_eq_true_eq, decide_eq_true_eq] at h2
    have := ht_lt f h1
    omega
  unfold bbL
  rw [h]; rfl
set_option maxRecDepth 10000 in
/-- Borders.countFree -/
theorem kX0_countFree {S : Nat × (Nat → Int32)} {d : Nat} {h : eH} {Q : eQ} {q a b c : Nat} {kb : Nat → Nat} (hB : h.2[q]? = some (boO a b c)) (hC : h.2[c]? = some (kpA kb)) {z t : Nat} {s : Nat → Bool} (hcq : c ≠ q) (hcz : c ≠ z) (hcb : c ≠ b) (hbd : h.2[b]? = some bdA) (hz0 : h.2[z]? = some (fsS s)) (ht7 : t ≤ 7) (hQ : ∀ kb2, (1 ≤ t → KI kb2 (bbL s t 128)) → KB kb2 → Q (.inl (some (.int (nI (Rr s t))))) (h.1, h.2.set c (kpA kb2))) : okCall S MT (d + 3) nX0_countFree [.ref (q + 1), .ref (z + 1), .int (nI t)] h Q := by
  refine okc (M := MX0_countFree) rfl rfl fun K hK hW => ?_
  show K 0 [(0, .ref (q + 1)), (1, .ref (z + 1)), (2, .int (nI t))] [] h 0 0
  iterate 4 refine hK _ _ _ _ _ _ (?_ : K _ _ _ _ _ _)
  have e0 : (h.1, h.2.set c (kpA (kbZ kb 0))) = h := by rw [kbZ_0, gq hC]
  rw [← e0]
  refine hW _ _ [(3, .int (nI (0))), (0, .ref (q + 1)), (1, .ref (z + 1)), (2, .int (nI t))] _ _ _ _ (by simp) ?_
  refine up (P := fun k => K 5 [(3, .int (nI (k))), (0, .ref (q + 1)), (1, .ref (z + 1)), (2, .int (nI t))] [.int (nI 35), .int (nI (k))] (h.1, h.2.set c (kpA (kbZ kb (k)))) 0 0) 35 0 ?_ ?_ (by decide)
  · skip
    refine hK _ _ _ _ _ _ (And.intro (fun _ => ?_) (fun c9 => absurd (nI_le (Nat.le_refl 35) (by decide)) c9))
    iterate 4 refine hK _ _ _ _ _ _ (?_ : K _ _ _ _ _ _)
    refine hK _ _ _ _ _ _ (And.intro (fun c1 => ?_) (fun c1 => ?_))
    · skip
      iterate 1 refine hK _ _ _ _ _ _ (?_ : K _ _ _ _ _ _)
      have e : t = 0 := by have := (nI_ltI (a := t) (b := 1) (by omega) (by decide)).mp c1; omega
      subst e
      exact hK _ _ _ _ _ _ (r_iret rfl rfl rfl rfl (hQ _ (fun e => absurd e (by decide)) (kbZ_KI kb).1))
    · skip
      iterate 2 refine hK _ _ _ _ _ _ (?_ : K _ _ _ _ _ _)
      refine hK _ _ _ _ _ _ (And.intro (fun c2 => ?_) (fun c2 => ?_))
      · skip
        iterate 1 refine hK _ _ _ _ _ _ (?_ : K _ _ _ _ _ _)
        have e : t = 7 := by have := (nI_leI (a := 7) (b := t) (by decide) (by omega)).mp c2; omega
        subst e
        have h8 := hQ _ (fun _ => by rw [bbL_7]; exact kbZ_KI kb) (kbZ_KI kb).1
        rw [← Rr_1 s (by decide), bbL_7] at h8
        exact hK _ _ _ _ _ _ (r_iret rfl rfl rfl rfl h8)
      · skip
        iterate 4 refine hK _ _ _ _ _ _ (?_ : K _ _ _ _ _ _)
        have ht1 : 1 ≤ t := Nat.le_of_not_lt fun e => c1 (nI_lt e (by decide))
        refine hW _ _ [(4, .int (nI 1)), (3, .int (nI 0)), (0, .ref (q + 1)), (1, .ref (z + 1)), (2, .int (nI t))] _ _ _ _ (by simp) ?_
        refine up (P := fun k => ∀ (kb2 : Nat → Nat), KI kb2 (bbL s t (k)) → K 41 [(4, .int (nI (k))), (3, .int (nI (rk (bbL s t (k))))), (0, .ref (q + 1)), (1, .ref (z + 1)), (2, .int (nI t))] [.int (nI 127), .int (nI (k))] (h.1, h.2.set c (kpA kb2)) 0 0) 128 1 ?_ ?_ (by decide) (kbZ kb 35) (by rw [bbL_1]; exact kbZ_KI kb)
        · skip
          intro kb2 hh
          refine hK _ _ _ _ _ _ (And.intro (fun _ => ?_) (fun c9 => absurd (nI_lt (by decide) (by decide)) c9))
          iterate 1 refine hK _ _ _ _ _ _ (?_ : K _ _ _ _ _ _)
          rw [← Rr_1 s ht1] at hQ
          exact hK _ _ _ _ _ _ (r_iret rfl rfl rfl rfl (hQ kb2 (fun _ => hh) hh.1))
        · intro k h0k hk ihk kb2 hh
          refine hK _ _ _ _ _ _ (And.intro (fun c9 => absurd c9 (nI_nlt (by omega) (by omega))) (fun _ => ?_))
          iterate 1 refine hK _ _ _ _ _ _ (?_ : K _ _ _ _ _ _)
          refine hK _ _ _ _ _ _ (r_callN rfl (fun _ => rfl) (b0 rfl rfl rfl) (kX6_heightOf (f := k) (by omega) (by omega) (?_ : K _ _ _ _ _ _)))
          iterate 1 refine hK _ _ _ _ _ _ (?_ : K _ _ _ _ _ _)
          refine hK _ _ _ _ _ _ (And.intro (fun c3 => ?_) (fun c3 => ?_))
          · skip
            iterate 2 refine hK _ _ _ _ _ _ (?_ : K _ _ _ _ _ _)
            refine hK _ _ _ _ _ _ (r_callV rfl (fun _ => rfl) (gn hcz hz0) (b0 rfl rfl rfl) (kX1_holds (f := k) (by omega) (gn hcz hz0) (?_ : K _ _ _ _ _ _)))
            refine hK _ _ _ _ _ _ (And.intro (fun c4 => ?_) (fun c4 => ?_))
            · skip
              iterate 4 refine hK _ _ _ _ _ _ (?_ : K _ _ _ _ _ _)
              have e1 : ht k = t := (nI_eq (by have := ht_lt k (by omega); omega) (by omega)).mp c3
              have e0 : bbP s t k = false := by unfold bbP; rw [b2i_0.mp c4]; simp
              have h9 : KI kb2 (bbL s t (k + 1)) := by rw [bbL_f e0]; exact hh
              rw [nI_add k 1, ← bbL_f e0]
              first | exact (ihk kb2 h9) | exact hW _ _ _ _ _ _ _ (by simp) (ihk kb2 h9)
            · skip
              iterate 2 refine hK _ _ _ _ _ _ (?_ : K _ _ _ _ _ _)
              refine hK _ _ _ _ _ _ (r_get rfl (gn hcq hB) rfl (?_ : K _ _ _ _ _ _))
              iterate 1 refine hK _ _ _ _ _ _ (?_ : K _ _ _ _ _ _)
              have e1 : ht k = t := (nI_eq (by have := ht_lt k (by omega); omega) (by omega)).mp c3
              refine hK _ _ _ _ _ _ (r_lald' rfl (gn hcb hbd) (vp_in_nI (by omega) (by decide)) (bdF_at (by omega) (ht_pc (by omega))) (?_ : K _ _ _ _ _ _))
              refine hK _ _ _ _ _ _ (r_callV rfl (fun _ => rfl) (gn hcq hB) (b0 rfl rfl rfl) (kX0_keepsIfFree (a := a) (b := b) (gn hcq hB) (gs hC) hh (bb_lt (by omega)) fun kb3 hkb3 => (?_ : K _ _ _ _ _ _)))
              refine hK _ _ _ _ _ _ (And.intro (fun c5 => ?_) (fun c5 => ?_))
              · skip
                iterate 4 refine hK _ _ _ _ _ _ (?_ : K _ _ _ _ _ _)
                have e1 : ht k = t := (nI_eq (by have := ht_lt k (by omega); omega) (by omega)).mp c3
                have e2 : s k = true := Bool.of_not_eq_false (fun e => c4 (b2i_0.mpr e))
                have e0 : bbP s t k = true := by unfold bbP; rw [e1, e2]; simp; omega
                have h9 : KI kb3 (bbL s t (k + 1)) := by rw [bbL_t e0]; exact hkb3
                have e3 : sp (bbL s t k) (bb k) = true := by have := b2i_0.mp c5; rw [Bool.not_eq_false'] at this; exact this
                have e4 : rk (bbL s t (k + 1)) = rk (bbL s t k) := by rw [bbL_t e0, rk_in e3]
                dsimp only
                rw [nI_add k 1, ← e4, List.set_set]
                first | exact (ihk kb3 h9) | exact hW _ _ _ _ _ _ _ (by simp) (ihk kb3 h9)
              · skip
                iterate 5 refine hK _ _ _ _ _ _ (?_ : K _ _ _ _ _ _)
                have e1 : ht k = t := (nI_eq (by have := ht_lt k (by omega); omega) (by omega)).mp c3
                have e2 : s k = true := Bool.of_not_eq_false (fun e => c4 (b2i_0.mpr e))
                have e0 : bbP s t k = true := by unfold bbP; rw [e1, e2]; simp; omega
                have h9 : KI kb3 (bbL s t (k + 1)) := by rw [bbL_t e0]; exact hkb3
                have e3 : sp (bbL s t k) (bb k) = false := by
                  have h8 : (!sp (bbL s t k) (bb k)) = true := Bool.of_not_eq_false (fun e => c5 (b2i_0.mpr e))
                  rw [Bool.not_eq_true'] at h8; exact h8
                have e4 : rk (bbL s t (k + 1)) = rk (bbL s t k) + 1 := by rw [bbL_t e0, rk_out e3]
                dsimp only
                rw [nI_add k 1, nI_add _ 1, ← e4, List.set_set]
                first | exact (ihk kb3 h9) | exact hW _ _ _ _ _ _ _ (by simp) (ihk kb3 h9)
          · skip
            iterate 4 refine hK _ _ _ _ _ _ (?_ : K _ _ _ _ _ _)
            have e0 : bbP s t k = false := by unfold bbP; rw [decide_eq_false (show ¬ ht k = t from fun e => c3 (by rw [e]))]; simp
            have h9 : KI kb2 (bbL s t (k + 1)) := by rw [bbL_f e0]; exact hh
            rw [nI_add k 1, ← bbL_f e0]
            first | exact (ihk kb2 h9) | exact hW _ _ _ _ _ _ _ (by simp) (ihk kb2 h9)
  · intro k h0k hk ihk
    refine hK _ _ _ _ _ _ (And.intro (fun c9 => absurd c9 (nI_ge (by omega) (by decide))) (fun _ => ?_))
    iterate 1 refine hK _ _ _ _ _ _ (?_ : K _ _ _ _ _ _)
    refine hK _ _ _ _ _ _ (r_get rfl (gn hcq hB) rfl (?_ : K _ _ _ _ _ _))
    iterate 2 refine hK _ _ _ _ _ _ (?_ : K _ _ _ _ _ _)
    refine hK _ _ _ _ _ _ (r_last' rfl (gs hC) (vp_in_nI (by omega) (by decide)) (kp_upd (lv := 0) (by omega)) (?_ : K _ _ _ _ _ _))
    iterate 4 refine hK _ _ _ _ _ _ (?_ : K _ _ _ _ _ _)
    dsimp only
    rw [List.set_set, kbZ_s, nI_add k 1]
    first | exact ihk | exact hW _ _ _ _ _ _ _ (by simp) ihk

end BO
