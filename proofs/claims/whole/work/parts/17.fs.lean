section FS2
def sTog (s : Nat → Bool) (f : Nat) : Nat → Bool := fun i => s i ^^ (i == f)
theorem tog_del {s : Nat → Bool} {f : Nat} (h : s f = true) : fsS (sDel s f) = fsS (sTog s f) := fs_cong fun i _ => by
  show (s i && !(i == f)) = (s i ^^ (i == f))
  by_cases e : i = f
  · subst e; simp [h]
  · simp [beq_eq_false_iff_ne.mpr e]
theorem tog_ins {s : Nat → Bool} {f : Nat} (h : s f = false) : fsS (sIns s f) = fsS (sTog s f) := fs_cong fun i _ => by
  show (s i || (i == f)) = (s i ^^ (i == f))
  by_cases e : i = f
  · subst e; simp [h]
  · simp [beq_eq_false_iff_ne.mpr e]
set_option maxRecDepth 10000 in
/-- FaceSet.toggle -/
theorem kX1_toggle {S : Nat × (Nat → Int32)} {d : Nat} {h : eH} {Q : eQ} {k : Nat} {s : Nat → Bool} {f : Nat} (hf : f < 128) (hk : h.2[k]? = some (fsS s)) (hQ : Q (.inl none) (h.1, h.2.set k (fsS (sTog s f)))) : okCall S MT (d + 2) nX1_toggle [.ref (k + 1), .int (nI f)] h Q := by
  refine okc (M := MX1_toggle) rfl rfl fun K hK hW => ?_
  show K 0 [(0, .ref (k + 1)), (1, .int (nI f))] [] h 0 0
  iterate 2 refine hK _ _ _ _ _ _ (?_ : K _ _ _ _ _ _)
  refine hK _ _ _ _ _ _ (r_callV rfl (fun _ => rfl) (by assumption) (b0 rfl rfl rfl) (kX1_holds hf hk (?_ : K _ _ _ _ _ _)))
  refine hK _ _ _ _ _ _ (And.intro (fun c1 => ?_) (fun c1 => ?_))
  · skip
    iterate 2 refine hK _ _ _ _ _ _ (?_ : K _ _ _ _ _ _)
    refine hK _ _ _ _ _ _ (r_callV rfl (fun _ => rfl) (by assumption) (b0 rfl rfl rfl) (kX1_add hf hk (?_ : K _ _ _ _ _ _)))
    exact hK _ _ _ _ _ _ (r_vret rfl rfl rfl (hS (tog_ins (b2i_0.mp c1)) hQ))
  · skip
    iterate 2 refine hK _ _ _ _ _ _ (?_ : K _ _ _ _ _ _)
    refine hK _ _ _ _ _ _ (r_callV rfl (fun _ => rfl) (by assumption) (b0 rfl rfl rfl) (kX1_remove hf hk (?_ : K _ _ _ _ _ _)))
    iterate 1 refine hK _ _ _ _ _ _ (?_ : K _ _ _ _ _ _)
    exact hK _ _ _ _ _ _ (r_vret rfl rfl rfl (hS (tog_del (Bool.of_not_eq_false (fun e => c1 (b2i_0.mpr e)))) hQ))

def isP (a b : Nat) : Bool := a &&& b == a
def sPar (s : Nat → Bool) (f k : Nat) : Nat → Bool := fun i => s i || (decide (1 ≤ i) && (decide (i < k) && isP i f))
def sOvr (s : Nat → Bool) (f k : Nat) : Nat → Bool := fun i => s i && !(decide (f ≤ i) && (decide (i < k) && isP f i))
theorem isP_I {a b : Nat} (ha : a < 128) : nI a &&& nI b = nI a ↔ isP a b = true := by
  have h1 : a &&& b ≤ a := Nat.and_le_left
  rw [nx_and, nI_eq (by omega) (by omega)]
  unfold isP
  rw [beq_iff_eq]
theorem isP_I2 {a b : Nat} (ha : a < 128) : nI b &&& nI a = nI a ↔ isP a b = true := by
  rw [nx_and, Nat.and_comm, ← nx_and]; exact isP_I ha
theorem hset {l : List va_E} {k : Nat} {x y : va_E} {b : Bool} (e : x = y) : ((b, (l.set k x)) : eH) = (b, l.set k y) := by rw [e]
set_option maxRecDepth 10000 in
/-- FaceSet.addParts -/
theorem kX1_addParts {S : Nat × (Nat → Int32)} {d : Nat} {h : eH} {Q : eQ} {q f : Nat} {s : Nat → Bool} (hf : f < 128) (hf1 : 1 ≤ f) (hk0 : h.2[q]? = some (fsS s)) (hQ : Q (.inl none) (h.1, h.2.set q (fsS (sPar s f (f + 1))))) : okCall S MT (d + 2) nX1_addParts [.ref (q + 1), .int (nI f)] h Q := by
  refine okc (M := MX1_addParts) rfl rfl fun K hK hW => ?_
  show K 0 [(0, .ref (q + 1)), (1, .int (nI f))] [] h 0 0
  iterate 4 refine hK _ _ _ _ _ _ (?_ : K _ _ _ _ _ _)
  have e0 : (h.1, h.2.set q (fsS (sPar s f 1))) = h := by
    rw [fs_cong (s := sPar s f 1) (t := s) (fun i _ => by
      show (s i || (decide (1 ≤ i) && (decide (i < 1) && isP i f))) = s i
      have : (decide (1 ≤ i) && decide (i < 1)) = false := by simp; omega
      rw [← Bool.and_assoc, this]; simp), gq hk0]
  rw [← e0]
  refine hW _ _ [(2, .int (nI (1))), (0, .ref (q + 1)), (1, .int (nI f))] _ _ _ _ (by simp) ?_
  refine up (P := fun k => K 4 [(2, .int (nI (k))), (0, .ref (q + 1)), (1, .int (nI f))] [.int (nI f), .int (nI (k))] (h.1, h.2.set q (fsS (sPar s f (k)))) 0 0) (f + 1) 1 ?_ ?_ (by omega)
  · skip
    refine hK _ _ _ _ _ _ (And.intro (fun _ => ?_) (fun c9 => absurd (nI_lt (by omega) (by omega)) c9))
    exact hK _ _ _ _ _ _ (r_vret rfl rfl rfl hQ)
  · intro k h0k hk ihk
    refine hK _ _ _ _ _ _ (And.intro (fun c9 => absurd c9 (nI_nlt (by omega) (by omega))) (fun _ => ?_))
    iterate 4 refine hK _ _ _ _ _ _ (?_ : K _ _ _ _ _ _)
    refine hK _ _ _ _ _ _ (And.intro (fun c1 => ?_) (fun c1 => ?_))
    · skip
      iterate 2 refine hK _ _ _ _ _ _ (?_ : K _ _ _ _ _ _)
      refine hK _ _ _ _ _ _ (r_callV rfl (fun _ => rfl) (gs hk0) (b0 rfl rfl rfl) (kX1_add (k := q) (s := sPar s f k) (f := k) (by omega) (gs hk0) (?_ : K _ _ _ _ _ _)))
      iterate 4 refine hK _ _ _ _ _ _ (?_ : K _ _ _ _ _ _)
      have e1 : isP k f = true := (isP_I (by omega)).mp c1
      rw [nI_add k 1]
      dsimp only
      rw [List.set_set, fs_cong (s := sIns (sPar s f k) k) (t := sPar s f (k + 1)) (fun i _ => by
        show ((s i || (decide (1 ≤ i) && (decide (i < k) && isP i f))) || i == k) = (s i || (decide (1 ≤ i) && (decide (i < k + 1) && isP i f)))
        by_cases e : i = k
        · subst e; simp [e1, h0k]
        · have : decide (i < k + 1) = decide (i < k) := by simp; omega
          simp [this, beq_eq_false_iff_ne.mpr e])]
      first | exact ihk | exact hW _ _ _ _ _ _ _ (by simp) ihk
    · skip
      iterate 4 refine hK _ _ _ _ _ _ (?_ : K _ _ _ _ _ _)
      have e1 : isP k f = false := Bool.eq_false_iff.mpr (fun e => c1 ((isP_I (by omega)).mpr e))
      rw [nI_add k 1]
      rw [fs_cong (s := sPar s f (k + 1)) (t := sPar s f k) (fun i _ => by
        show (s i || (decide (1 ≤ i) && (decide (i < k + 1) && isP i f))) = (s i || (decide (1 ≤ i) && (decide (i < k) && isP i f)))
        by_cases e : i = k
        · subst e; simp [e1]
        · have : decide (i < k + 1) = decide (i < k) := by simp; omega
          simp [this])] at ihk
      first | exact ihk | exact hW _ _ _ _ _ _ _ (by simp) ihk

set_option maxRecDepth 10000 in
/-- FaceSet.removeWithAllOver -/
theorem kX1_removeWithAllOver {S : Nat × (Nat → Int32)} {d : Nat} {h : eH} {Q : eQ} {q f : Nat} {s : Nat → Bool} (hf : f < 128) (hk0 : h.2[q]? = some (fsS s)) (hQ : Q (.inl none) (h.1, h.2.set q (fsS (sOvr s f 128)))) : okCall S MT (d + 2) nX1_removeWithAllOver [.ref (q + 1), .int (nI f)] h Q := by
  refine okc (M := MX1_removeWithAllOver) rfl rfl fun K hK hW => ?_
  show K 0 [(0, .ref (q + 1)), (1, .int (nI f))] [] h 0 0
  iterate 4 refine hK _ _ _ _ _ _ (?_ : K _ _ _ _ _ _)
  have e0 : (h.1, h.2.set q (fsS (sOvr s f f))) = h := by
    rw [fs_cong (s := sOvr s f f) (t := s) (fun i _ => by
      show (s i && !(decide (f ≤ i) && (decide (i < f) && isP f i))) = s i
      have : (decide (f ≤ i) && decide (i < f)) = false := by simp
      rw [← Bool.and_assoc, this]; simp), gq hk0]
  rw [← e0]
  refine hW _ _ [(2, .int (nI (f))), (0, .ref (q + 1)), (1, .int (nI f))] _ _ _ _ (by simp) ?_
  refine up (P := fun k => K 5 [(2, .int (nI (k))), (0, .ref (q + 1)), (1, .int (nI f))] [.int (nI 127), .int (nI (k))] (h.1, h.2.set q (fsS (sOvr s f (k)))) 0 0) 128 f ?_ ?_ (by omega)
  · skip
    refine hK _ _ _ _ _ _ (And.intro (fun _ => ?_) (fun c9 => absurd (nI_lt (by decide) (by decide)) c9))
    exact hK _ _ _ _ _ _ (r_vret rfl rfl rfl hQ)
  · intro k h0k hk ihk
    refine hK _ _ _ _ _ _ (And.intro (fun c9 => absurd c9 (nI_nlt (by omega) (by omega))) (fun _ => ?_))
    iterate 4 refine hK _ _ _ _ _ _ (?_ : K _ _ _ _ _ _)
    refine hK _ _ _ _ _ _ (And.intro (fun c1 => ?_) (fun c1 => ?_))
    · skip
      iterate 2 refine hK _ _ _ _ _ _ (?_ : K _ _ _ _ _ _)
      refine hK _ _ _ _ _ _ (r_callV rfl (fun _ => rfl) (gs hk0) (b0 rfl rfl rfl) (kX1_remove (k := q) (s := sOvr s f k) (f := k) (by omega) (gs hk0) (?_ : K _ _ _ _ _ _)))
      iterate 4 refine hK _ _ _ _ _ _ (?_ : K _ _ _ _ _ _)
      have e1 : isP f k = true := (isP_I2 (by omega)).mp c1
      rw [nI_add k 1]
      dsimp only
      rw [List.set_set, fs_cong (s := sDel (sOvr s f k) k) (t := sOvr s f (k + 1)) (fun i _ => by
        show ((s i && !(decide (f ≤ i) && (decide (i < k) && isP f i))) && !(i == k)) = (s i && !(decide (f ≤ i) && (decide (i < k + 1) && isP f i)))
        by_cases e : i = k
        · subst e; simp [e1, h0k]
        · have : decide (i < k + 1) = decide (i < k) := by simp; omega
          simp [this, beq_eq_false_iff_ne.mpr e])]
      first | exact ihk | exact hW _ _ _ _ _ _ _ (by simp) ihk
    · skip
      iterate 4 refine hK _ _ _ _ _ _ (?_ : K _ _ _ _ _ _)
      have e1 : isP f k = false := Bool.eq_false_iff.mpr (fun e => c1 ((isP_I2 (by omega)).mpr e))
      rw [nI_add k 1]
      rw [fs_cong (s := sOvr s f (k + 1)) (t := sOvr s f k) (fun i _ => by
        show (s i && !(decide (f ≤ i) && (decide (i < k + 1) && isP f i))) = (s i && !(decide (f ≤ i) && (decide (i < k) && isP f i)))
        by_cases e : i = k
        · subst e; simp [e1]
        · have : decide (i < k + 1) = decide (i < k) := by simp; omega
          simp [this])] at ihk
      first | exact ihk | exact hW _ _ _ _ _ _ _ (by simp) ihk

theorem enW_z : lN 0 = enW (fun _ => false) := by decide +kernel
theorem enW_inj {f g : Nat → Bool} (h : enW f = enW g) : ∀ i, i < 64 → f i = g i := by
  unfold enW at h
  have h1 := congrArg (fun x : Int64 => x.toBitVec.toNat) h
  have h1 : (lN (mkN f 64)).toBitVec.toNat = (lN (mkN g 64)).toBitVec.toNat := h1
  rw [wb_tn (mkN_lt f 64), wb_tn (mkN_lt g 64)] at h1
  exact mkN_inj h1
set_option maxRecDepth 10000 in
/-- FaceSet.empty -/
theorem kX1_empty {S : Nat × (Nat → Int32)} {d : Nat} {h : eH} {Q : eQ} {k : Nat} {s : Nat → Bool} (hk : h.2[k]? = some (fsS s)) (hQ : Q (.inl none) (h.1, h.2.set k (fsS (fun _ => false)))) : okCall S MT (d + 1) nX1_empty [.ref (k + 1)] h Q := by
  refine okc (M := MX1_empty) rfl rfl fun K hK hW => ?_
  show K 0 [(0, .ref (k + 1))] [] h 0 0
  iterate 2 refine hK _ _ _ _ _ _ (?_ : K _ _ _ _ _ _)
  refine hK _ _ _ _ _ _ (r_put rfl rfl (by assumption) rfl (?_ : K _ _ _ _ _ _))
  iterate 2 refine hK _ _ _ _ _ _ (?_ : K _ _ _ _ _ _)
  refine hK _ _ _ _ _ _ (r_put rfl rfl (gs hk) rfl (?_ : K _ _ _ _ _ _))
  exact hK _ _ _ _ _ _ (r_vret rfl rfl rfl (by dsimp only; rw [List.set_set]; exact (hS (show (Sum.inr (1, [Value.long (lN 0), Value.long (lN 0)]) : va_E) = fsS (fun _ => false) by rw [enW_z]) hQ)))

set_option maxRecDepth 10000 in
/-- FaceSet.become of another -/
theorem kX1_become {S : Nat × (Nat → Int32)} {d : Nat} {h : eH} {Q : eQ} {k j : Nat} {s t : Nat → Bool} (hkj : k ≠ j) (hk : h.2[k]? = some (fsS s)) (hj : h.2[j]? = some (fsS t)) (hQ : Q (.inl none) (h.1, h.2.set k (fsS t))) : okCall S MT (d + 1) nX1_become [.ref (k + 1), .ref (j + 1)] h Q := by
  refine okc (M := MX1_become) rfl rfl fun K hK hW => ?_
  show K 0 [(0, .ref (k + 1)), (1, .ref (j + 1))] [] h 0 0
  iterate 2 refine hK _ _ _ _ _ _ (?_ : K _ _ _ _ _ _)
  refine hK _ _ _ _ _ _ (r_get rfl hj rfl (?_ : K _ _ _ _ _ _))
  refine hK _ _ _ _ _ _ (r_put rfl rfl hk rfl (?_ : K _ _ _ _ _ _))
  iterate 2 refine hK _ _ _ _ _ _ (?_ : K _ _ _ _ _ _)
  refine hK _ _ _ _ _ _ (r_get rfl (gn hkj hj) rfl (?_ : K _ _ _ _ _ _))
  refine hK _ _ _ _ _ _ (r_put rfl rfl (gs hk) rfl (?_ : K _ _ _ _ _ _))
  exact hK _ _ _ _ _ _ (r_vret rfl rfl rfl (by dsimp only; rw [List.set_set]; exact hQ))

set_option maxRecDepth 10000 in
/-- FaceSet.become of itself -/
theorem kX1_become_self {S : Nat × (Nat → Int32)} {d : Nat} {h : eH} {Q : eQ} {k : Nat} {s : Nat → Bool} (hk : h.2[k]? = some (fsS s)) (hQ : Q (.inl none) h) : okCall S MT (d + 1) nX1_become [.ref (k + 1), .ref (k + 1)] h Q := by
  refine okc (M := MX1_become) rfl rfl fun K hK hW => ?_
  show K 0 [(0, .ref (k + 1)), (1, .ref (k + 1))] [] h 0 0
  iterate 2 refine hK _ _ _ _ _ _ (?_ : K _ _ _ _ _ _)
  refine hK _ _ _ _ _ _ (r_get rfl hk rfl (?_ : K _ _ _ _ _ _))
  refine hK _ _ _ _ _ _ (r_put rfl rfl hk rfl (?_ : K _ _ _ _ _ _))
  iterate 2 refine hK _ _ _ _ _ _ (?_ : K _ _ _ _ _ _)
  refine hK _ _ _ _ _ _ (r_get rfl (gs hk) rfl (?_ : K _ _ _ _ _ _))
  refine hK _ _ _ _ _ _ (r_put rfl rfl (gs hk) rfl (?_ : K _ _ _ _ _ _))
  exact hK _ _ _ _ _ _ (r_vret rfl rfl rfl (by dsimp only; rw [List.set_set]; exact (show Q (.inl none) (h.1, h.2.set k (fsS s)) by rw [gq hk]; exact hQ)))

set_option maxRecDepth 10000 in
/-- FaceSet.becomeUnion -/
theorem kX1_becomeUnion {S : Nat × (Nat → Int32)} {d : Nat} {h : eH} {Q : eQ} {k i j : Nat} {s t u : Nat → Bool} (hki : k ≠ i) (hkj : k ≠ j) (hk : h.2[k]? = some (fsS s)) (hi : h.2[i]? = some (fsS t)) (hj : h.2[j]? = some (fsS u)) (hQ : Q (.inl none) (h.1, h.2.set k (fsS (fun x => t x || u x)))) : okCall S MT (d + 1) nX1_becomeUnion [.ref (k + 1), .ref (i + 1), .ref (j + 1)] h Q := by
  refine okc (M := MX1_becomeUnion) rfl rfl fun K hK hW => ?_
  show K 0 [(0, .ref (k + 1)), (1, .ref (i + 1)), (2, .ref (j + 1))] [] h 0 0
  iterate 2 refine hK _ _ _ _ _ _ (?_ : K _ _ _ _ _ _)
  refine hK _ _ _ _ _ _ (r_get rfl hi rfl (?_ : K _ _ _ _ _ _))
  iterate 1 refine hK _ _ _ _ _ _ (?_ : K _ _ _ _ _ _)
  refine hK _ _ _ _ _ _ (r_get rfl hj rfl (?_ : K _ _ _ _ _ _))
  iterate 1 refine hK _ _ _ _ _ _ (?_ : K _ _ _ _ _ _)
  refine hK _ _ _ _ _ _ (r_put rfl rfl hk rfl (?_ : K _ _ _ _ _ _))
  iterate 2 refine hK _ _ _ _ _ _ (?_ : K _ _ _ _ _ _)
  refine hK _ _ _ _ _ _ (r_get rfl (gn hki hi) rfl (?_ : K _ _ _ _ _ _))
  iterate 1 refine hK _ _ _ _ _ _ (?_ : K _ _ _ _ _ _)
  refine hK _ _ _ _ _ _ (r_get rfl (gn hkj hj) rfl (?_ : K _ _ _ _ _ _))
  iterate 1 refine hK _ _ _ _ _ _ (?_ : K _ _ _ _ _ _)
  refine hK _ _ _ _ _ _ (r_put rfl rfl (gs hk) rfl (?_ : K _ _ _ _ _ _))
  exact hK _ _ _ _ _ _ (r_vret rfl rfl rfl (by dsimp only; rw [List.set_set]; exact (hS (show (Sum.inr (1, [Value.long _, Value.long _]) : va_E) = fsS (fun x => t x || u x) by rw [enW_or, enW_or]) hQ)))

set_option maxRecDepth 10000 in
/-- FaceSet.becomeMeeting -/
theorem kX1_becomeMeeting {S : Nat × (Nat → Int32)} {d : Nat} {h : eH} {Q : eQ} {k i j : Nat} {s t u : Nat → Bool} (hki : k ≠ i) (hkj : k ≠ j) (hk : h.2[k]? = some (fsS s)) (hi : h.2[i]? = some (fsS t)) (hj : h.2[j]? = some (fsS u)) (hQ : Q (.inl none) (h.1, h.2.set k (fsS (fun x => t x && u x)))) : okCall S MT (d + 1) nX1_becomeMeeting [.ref (k + 1), .ref (i + 1), .ref (j + 1)] h Q := by
  refine okc (M := MX1_becomeMeeting) rfl rfl fun K hK hW => ?_
  show K 0 [(0, .ref (k + 1)), (1, .ref (i + 1)), (2, .ref (j + 1))] [] h 0 0
  iterate 2 refine hK _ _ _ _ _ _ (?_ : K _ _ _ _ _ _)
  refine hK _ _ _ _ _ _ (r_get rfl hi rfl (?_ : K _ _ _ _ _ _))
  iterate 1 refine hK _ _ _ _ _ _ (?_ : K _ _ _ _ _ _)
  refine hK _ _ _ _ _ _ (r_get rfl hj rfl (?_ : K _ _ _ _ _ _))
  iterate 1 refine hK _ _ _ _ _ _ (?_ : K _ _ _ _ _ _)
  refine hK _ _ _ _ _ _ (r_put rfl rfl hk rfl (?_ : K _ _ _ _ _ _))
  iterate 2 refine hK _ _ _ _ _ _ (?_ : K _ _ _ _ _ _)
  refine hK _ _ _ _ _ _ (r_get rfl (gn hki hi) rfl (?_ : K _ _ _ _ _ _))
  iterate 1 refine hK _ _ _ _ _ _ (?_ : K _ _ _ _ _ _)
  refine hK _ _ _ _ _ _ (r_get rfl (gn hkj hj) rfl (?_ : K _ _ _ _ _ _))
  iterate 1 refine hK _ _ _ _ _ _ (?_ : K _ _ _ _ _ _)
  refine hK _ _ _ _ _ _ (r_put rfl rfl (gs hk) rfl (?_ : K _ _ _ _ _ _))
  exact hK _ _ _ _ _ _ (r_vret rfl rfl rfl (by dsimp only; rw [List.set_set]; exact (hS (show (Sum.inr (1, [Value.long _, Value.long _]) : va_E) = fsS (fun x => t x && u x) by rw [enW_and, enW_and]) hQ)))

theorem enW_e0 (s : Nat → Bool) : lg_cmp (enW s ||| enW (sh64 s)) (lN 0) = 0 ↔ fb_ct s 128 = 0 := by
  rw [lg_cmp_eq, enW_or, enW_z]
  constructor
  · intro h
    have h1 := enW_inj h
    refine fb_ct_zero.mpr fun i hi => ?_
    by_cases h64 : i < 64
    · have := h1 i h64; simp at this; exact this.1
    · have := h1 (i - 64) (by omega)
      simp at this
      have h2 : s (i - 64 + 64) = false := this.2
      rw [show i - 64 + 64 = i by omega] at h2
      exact h2
  · intro h
    have h1 := fb_ct_zero.mp h
    refine enW_cong fun i hi => ?_
    rw [h1 i (by omega), show sh64 s i = false from h1 (i + 64) (by omega)]; rfl
set_option maxRecDepth 10000 in
/-- FaceSet.isEmpty -/
theorem kX1_isEmpty {S : Nat × (Nat → Int32)} {d : Nat} {h : eH} {Q : eQ} {k : Nat} {s : Nat → Bool} (hk : h.2[k]? = some (fsS s)) (hQ : Q (.inl (some (.int (b2i (decide (fb_ct s 128 = 0)))))) h) : okCall S MT (d + 1) nX1_isEmpty [.ref (k + 1)] h Q := by
  refine okc (M := MX1_isEmpty) rfl rfl fun K hK hW => ?_
  show K 0 [(0, .ref (k + 1))] [] h 0 0
  iterate 1 refine hK _ _ _ _ _ _ (?_ : K _ _ _ _ _ _)
  refine hK _ _ _ _ _ _ (r_get rfl (by assumption) rfl (?_ : K _ _ _ _ _ _))
  iterate 1 refine hK _ _ _ _ _ _ (?_ : K _ _ _ _ _ _)
  refine hK _ _ _ _ _ _ (r_get rfl (by assumption) rfl (?_ : K _ _ _ _ _ _))
  iterate 3 refine hK _ _ _ _ _ _ (?_ : K _ _ _ _ _ _)
  refine hK _ _ _ _ _ _ (And.intro (fun c1 => ?_) (fun c1 => ?_))
  · skip
    iterate 2 refine hK _ _ _ _ _ _ (?_ : K _ _ _ _ _ _)
    exact hK _ _ _ _ _ _ (r_iret rfl rfl rfl rfl (b2i_t (decide_eq_true ((enW_e0 s).mp c1)) ▸ hQ))
  · skip
    iterate 1 refine hK _ _ _ _ _ _ (?_ : K _ _ _ _ _ _)
    exact hK _ _ _ _ _ _ (r_iret rfl rfl rfl rfl (b2i_f (decide_eq_false (fun e => c1 ((enW_e0 s).mpr e))) ▸ hQ))

theorem eqS_of {s t : Nat → Bool} (h1 : lg_cmp (enW s) (enW t) = 0) (h2 : lg_cmp (enW (sh64 s)) (enW (sh64 t)) = 0) : ∀ i, i < 128 → s i = t i := by
  intro i hi
  by_cases h64 : i < 64
  · exact enW_inj ((lg_cmp_eq _ _).mp h1) i h64
  · have h3 := enW_inj ((lg_cmp_eq _ _).mp h2) (i - 64) (by omega)
    have h3 : s (i - 64 + 64) = t (i - 64 + 64) := h3
    rw [show i - 64 + 64 = i by omega] at h3
    exact h3
def sAll (p : Nat → Bool) : Nat → Bool
  | 0 => true
  | n + 1 => sAll p n && p n
theorem sAll_iff {p : Nat → Bool} : ∀ {n : Nat}, sAll p n = true ↔ ∀ i, i < n → p i = true
  | 0 => by simp [sAll]
  | n + 1 => by
    unfold sAll
    rw [Bool.and_eq_true, sAll_iff]
    constructor
    · rintro ⟨h1, h2⟩ i hi
      by_cases e : i = n
      · subst e; exact h2
      · exact h1 i (by omega)
    · intro h
      exact ⟨fun i hi => h i (by omega), h n (by omega)⟩
def sEq (s t : Nat → Bool) : Bool := sAll (fun i => s i == t i) 128
theorem sEq_iff {s t : Nat → Bool} : sEq s t = true ↔ ∀ i, i < 128 → s i = t i := by
  unfold sEq
  rw [sAll_iff]
  constructor
  · intro h i hi; exact eq_of_beq (h i hi)
  · intro h i hi; rw [h i hi]; exact beq_self_eq_true (t i)
set_option maxRecDepth 10000 in
/-- FaceSet.isLike -/
theorem kX1_isLike {S : Nat × (Nat → Int32)} {d : Nat} {h : eH} {Q : eQ} {k j : Nat} {s t : Nat → Bool} (hk : h.2[k]? = some (fsS s)) (hj : h.2[j]? = some (fsS t)) (hQ : Q (.inl (some (.int (b2i (sEq s t))))) h) : okCall S MT (d + 1) nX1_isLike [.ref (k + 1), .ref (j + 1)] h Q := by
  refine okc (M := MX1_isLike) rfl rfl fun K hK hW => ?_
  show K 0 [(0, .ref (k + 1)), (1, .ref (j + 1))] [] h 0 0
  iterate 1 refine hK _ _ _ _ _ _ (?_ : K _ _ _ _ _ _)
  refine hK _ _ _ _ _ _ (r_get rfl hk rfl (?_ : K _ _ _ _ _ _))
  iterate 1 refine hK _ _ _ _ _ _ (?_ : K _ _ _ _ _ _)
  refine hK _ _ _ _ _ _ (r_get rfl hj rfl (?_ : K _ _ _ _ _ _))
  iterate 1 refine hK _ _ _ _ _ _ (?_ : K _ _ _ _ _ _)
  refine hK _ _ _ _ _ _ (And.intro (fun c1 => ?_) (fun c1 => ?_))
  · skip
    iterate 1 refine hK _ _ _ _ _ _ (?_ : K _ _ _ _ _ _)
    refine hK _ _ _ _ _ _ (r_get rfl hk rfl (?_ : K _ _ _ _ _ _))
    iterate 1 refine hK _ _ _ _ _ _ (?_ : K _ _ _ _ _ _)
    refine hK _ _ _ _ _ _ (r_get rfl hj rfl (?_ : K _ _ _ _ _ _))
    iterate 1 refine hK _ _ _ _ _ _ (?_ : K _ _ _ _ _ _)
    refine hK _ _ _ _ _ _ (And.intro (fun c2 => ?_) (fun c2 => ?_))
    · skip
      iterate 2 refine hK _ _ _ _ _ _ (?_ : K _ _ _ _ _ _)
      exact hK _ _ _ _ _ _ (r_iret rfl rfl rfl rfl (b2i_t (sEq_iff.mpr (eqS_of c1 c2)) ▸ hQ))
    · skip
      iterate 1 refine hK _ _ _ _ _ _ (?_ : K _ _ _ _ _ _)
      exact hK _ _ _ _ _ _ (r_iret rfl rfl rfl rfl (b2i_f (Bool.eq_false_iff.mpr (fun e => c2 ((lg_cmp_eq _ _).mpr (enW_cong (fun i hi => sEq_iff.mp e (i + 64) (by omega)))))) ▸ hQ))
  · skip
    iterate 1 refine hK _ _ _ _ _ _ (?_ : K _ _ _ _ _ _)
    exact hK _ _ _ _ _ _ (r_iret rfl rfl rfl rfl (b2i_f (Bool.eq_false_iff.mpr (fun e => c1 ((lg_cmp_eq _ _).mpr (enW_cong (fun i hi => sEq_iff.mp e i (by omega)))))) ▸ hQ))

theorem kJ13_w {S : Nat × (Nat → Int32)} {d : Nat} {h : eH} {Q : eQ} {s : Nat → Bool} {w : Int64} (e : w = enW s) (hQ : Q (.inl (some (.int (nI (fb_ct s 64))))) h) : okCall S MT (d + 1) nJ13_bitCount_95d88 [.long w] h Q := by
  subst e; exact kJ13_bitCount_95d88 hQ
set_option maxRecDepth 10000 in
/-- FaceSet.countBeyond -/
theorem kX1_countBeyond {S : Nat × (Nat → Int32)} {d : Nat} {h : eH} {Q : eQ} {k j : Nat} {s t : Nat → Bool} (hk : h.2[k]? = some (fsS s)) (hj : h.2[j]? = some (fsS t)) (hQ : Q (.inl (some (.int (nI (fb_ct (fun i => s i && !t i) 128))))) h) : okCall S MT (d + 2) nX1_countBeyond [.ref (k + 1), .ref (j + 1)] h Q := by
  refine okc (M := MX1_countBeyond) rfl rfl fun K hK hW => ?_
  show K 0 [(0, .ref (k + 1)), (1, .ref (j + 1))] [] h 0 0
  iterate 1 refine hK _ _ _ _ _ _ (?_ : K _ _ _ _ _ _)
  refine hK _ _ _ _ _ _ (r_get rfl hk rfl (?_ : K _ _ _ _ _ _))
  iterate 1 refine hK _ _ _ _ _ _ (?_ : K _ _ _ _ _ _)
  refine hK _ _ _ _ _ _ (r_get rfl hj rfl (?_ : K _ _ _ _ _ _))
  iterate 3 refine hK _ _ _ _ _ _ (?_ : K _ _ _ _ _ _)
  refine hK _ _ _ _ _ _ (r_callS rfl (fun _ => rfl) (b0 rfl rfl rfl) (kJ13_w (s := fun i => s i && !t i) (by rw [enW_not, enW_and]) (?_ : K _ _ _ _ _ _)))
  iterate 1 refine hK _ _ _ _ _ _ (?_ : K _ _ _ _ _ _)
  refine hK _ _ _ _ _ _ (r_get rfl hk rfl (?_ : K _ _ _ _ _ _))
  iterate 1 refine hK _ _ _ _ _ _ (?_ : K _ _ _ _ _ _)
  refine hK _ _ _ _ _ _ (r_get rfl hj rfl (?_ : K _ _ _ _ _ _))
  iterate 3 refine hK _ _ _ _ _ _ (?_ : K _ _ _ _ _ _)
  refine hK _ _ _ _ _ _ (r_callS rfl (fun _ => rfl) (b0 rfl rfl rfl) (kJ13_w (s := fun i => sh64 s i && !sh64 t i) (by rw [enW_not, enW_and]) (?_ : K _ _ _ _ _ _)))
  iterate 1 refine hK _ _ _ _ _ _ (?_ : K _ _ _ _ _ _)
  exact hK _ _ _ _ _ _ (r_iret rfl rfl rfl rfl (by rw [nI_add, show fb_ct (fun i => s i && !t i) 64 + fb_ct (fun i => sh64 s i && !sh64 t i) 64 = fb_ct (fun i => s i && !t i) 128 from fb_128 (fun i => s i && !t i)]; exact hQ))

set_option maxRecDepth 10000 in
/-- FaceSet.holdsAll -/
theorem kX1_holdsAll {S : Nat × (Nat → Int32)} {d : Nat} {h : eH} {Q : eQ} {k j : Nat} {s t : Nat → Bool} (hk : h.2[k]? = some (fsS s)) (hj : h.2[j]? = some (fsS t)) (hQ : Q (.inl (some (.int (b2i (decide (fb_ct (fun i => t i && !s i) 128 = 0)))))) h) : okCall S MT (d + 3) nX1_holdsAll [.ref (k + 1), .ref (j + 1)] h Q := by
  refine okc (M := MX1_holdsAll) rfl rfl fun K hK hW => ?_
  show K 0 [(0, .ref (k + 1)), (1, .ref (j + 1))] [] h 0 0
  iterate 2 refine hK _ _ _ _ _ _ (?_ : K _ _ _ _ _ _)
  refine hK _ _ _ _ _ _ (r_callV rfl (fun _ => rfl) hj (b0 rfl rfl rfl) (kX1_countBeyond hj hk (?_ : K _ _ _ _ _ _)))
  refine hK _ _ _ _ _ _ (And.intro (fun c1 => ?_) (fun c1 => ?_))
  · skip
    iterate 2 refine hK _ _ _ _ _ _ (?_ : K _ _ _ _ _ _)
    exact hK _ _ _ _ _ _ (r_iret rfl rfl rfl rfl (b2i_t (decide_eq_true ((nI_eq (a := fb_ct (fun i => t i && !s i) 128) (b := 0) (by have := fb_ct_le (fun i => t i && !s i) 128; omega) (by decide)).mp c1)) ▸ hQ))
  · skip
    iterate 1 refine hK _ _ _ _ _ _ (?_ : K _ _ _ _ _ _)
    exact hK _ _ _ _ _ _ (r_iret rfl rfl rfl rfl (b2i_f (decide_eq_false (fun (e : fb_ct (fun i => t i && !s i) 128 = 0) => c1 (by rw [e]; rfl))) ▸ hQ))

end FS2
