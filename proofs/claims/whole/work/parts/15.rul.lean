/-! RULES for the walks -/
section Rul
variable {S : Nat × (Nat → Int32)} {T : Nat → eM} {C : eC} {M : eM} {d : Nat} {Q : eQ} {K : eK} {pc n a b c x : Nat} {ls : eL} {st r : List Value} {h : eH} {kc ks : Nat}
theorem okc {m : Nat} {as : List Value} (hM : T m = M) (hf : Nat.ble (eCat as) (mLo M) = true) (hk : ∀ K : eK, (∀ (pc : Nat) (ls : eL) (st : List Value) (h : eH) (kc ks : Nat), eStep S T (okCall S T d) M (d + 1) Q K pc ls st h kc ks → K pc ls st h kc ks) → (∀ (pc : Nat) (ls ls' : eL) (st : List Value) (h : eH) (kc ks : Nat), (∀ q ∈ ls', q ∈ ls) → K pc ls' st h kc ks → K pc ls st h kc ks) → K 0 (lv_args 0 as) [] h 0 0) : okCall S T (d + 1) m as h Q := by
  subst hM
  exact ⟨hf, hk⟩
theorem r_get {q : Nat} {fs : List Value} {v : Value} (hat : eAt (mPr M) pc = some (.getfield x, n, a, b, c)) (hk : h.2[q]? = some (.inr (a, fs))) (hv : fs[b]? = some v) (kk : K n ls (v :: r) h kc ks) : eStep S T C M d Q K pc ls (.ref (q + 1) :: r) h kc ks := by
  unfold eStep; rw [hat]; exact ⟨fs, v, hk, hv, kk⟩
theorem r_put {q : Nat} {fs : List Value} {v : Value} (hat : eAt (mPr M) pc = some (.putfield x, n, a, b, c)) (hty : eTy (eFty a b) v = true) (hk : h.2[q]? = some (.inr (a, fs))) (hb : Nat.blt b fs.length = true) (kk : K n ls r (h.1, h.2.set q (.inr (a, fs.set b v))) kc ks) : eStep S T C M d Q K pc ls (v :: .ref (q + 1) :: r) h kc ks := by
  unfold eStep; rw [hat]
  show (bif eTy (eFty a b) v then _ else False)
  rw [hty]
  exact ⟨fs, hk, hb, kk⟩
theorem r_callV {q : Nat} {fs as1 : List Value} (hat : eAt (mPr M) pc = some (.invokevirtual x, n, a, b, c)) (he : ∀ k : List Value → List Value → Prop, eArg b st [] k = k (.ref (q + 1) :: as1) r) (hk : h.2[q]? = some (.inr (mCi (T a), fs))) (hb : Nat.ble (eCat r) 8 = true ∧ kc + (mCo (T a)).1 ≤ (mCo M).1 ∧ ks + (mCo (T a)).2 ≤ (mCo M).2)
    (hc : C a (.ref (q + 1) :: as1) h (fun o h' => match o with
      | .inl v => eRetK n ls r K v h' (kc + (mCo (T a)).1) (ks + (mCo (T a)).2)
      | .inr E => eThrK M Q pc ls K E h' (kc + (mCo (T a)).1) (ks + (mCo (T a)).2))) : eStep S T C M d Q K pc ls st h kc ks := by
  unfold eStep; rw [hat]
  show eArg b st [] _
  rw [he]
  exact ⟨fs, hk, hb, hc⟩
theorem r_callS {as : List Value} (hat : eAt (mPr M) pc = some (.invokestatic x, n, a, b, 0)) (he : ∀ k : List Value → List Value → Prop, eArg b st [] k = k as r) (hb : Nat.ble (eCat r) 8 = true ∧ kc + (mCo (T a)).1 ≤ (mCo M).1 ∧ ks + (mCo (T a)).2 ≤ (mCo M).2)
    (hc : C a as h (fun o h' => match o with
      | .inl v => eRetK n ls r K v h' (kc + (mCo (T a)).1) (ks + (mCo (T a)).2)
      | .inr E => eThrK M Q pc ls K E h' (kc + (mCo (T a)).1) (ks + (mCo (T a)).2))) : eStep S T C M d Q K pc ls st h kc ks := by
  unfold eStep; rw [hat]
  show eArg b st [] _
  rw [he]
  exact ⟨hb, hc⟩
theorem r_callN {as : List Value} (hat : eAt (mPr M) pc = some (.invokestatic x, n, a, b, c + 1)) (he : ∀ k : List Value → List Value → Prop, eArg b st [] k = k as r) (hb : Nat.ble (eCat r) 8 = true ∧ kc + (mCo (T a)).1 ≤ (mCo M).1 ∧ ks + (mCo (T a)).2 ≤ (mCo M).2)
    (hc : C a as h (fun o h' => match o with
      | .inl v => eRetK n ls r K v h' (kc + (mCo (T a)).1) (ks + (mCo (T a)).2)
      | .inr _ => False)) : eStep S T C M d Q K pc ls st h kc ks := by
  unfold eStep; rw [hat]
  show eArg b st [] _
  rw [he]
  exact ⟨hb, hc⟩
theorem r_callI {q : Nat} {as1 : List Value} (hat : eAt (mPr M) pc = some (.invokespecial x, n, a, b, c)) (hc2 : (c == 2) = false) (he : ∀ k : List Value → List Value → Prop, eArg b st [] k = k (.ref q :: as1) r) (hb : Nat.ble (eCat r) 8 = true ∧ kc + (mCo (T a)).1 ≤ (mCo M).1 ∧ ks + (mCo (T a)).2 ≤ (mCo M).2)
    (hc : C a (.ref q :: as1) h (fun o h' => match o with
      | .inl v => eRetK n ls r K v h' (kc + (mCo (T a)).1) (ks + (mCo (T a)).2)
      | .inr _ => False)) : eStep S T C M d Q K pc ls st h kc ks := by
  unfold eStep; rw [hat]
  show (bif c == 2 then _ else _)
  rw [hc2]
  show eArg b st [] _
  rw [he]
  exact ⟨hb, hc⟩
end Rul
theorem b0 {r : List Value} {kc ks : Nat} {p q : Nat × Nat} (h1 : Nat.ble (eCat r) 8 = true) (h2 : Nat.ble (kc + p.1) q.1 = true) (h3 : Nat.ble (ks + p.2) q.2 = true) : Nat.ble (eCat r) 8 = true ∧ kc + p.1 ≤ q.1 ∧ ks + p.2 ≤ q.2 := ⟨h1, Nat.le_of_ble_eq_true h2, Nat.le_of_ble_eq_true h3⟩
def b2i (b : Bool) : Int32 := bif b then nI 1 else nI 0
theorem b2i_nar : ∀ b : Bool, narrow .boolean (.int (b2i b)) = .int (b2i b) := by decide +kernel
theorem b2i_t {b : Bool} (h : b = true) : b2i b = nI 1 := by rw [h]; rfl
theorem b2i_f {b : Bool} (h : b = false) : b2i b = nI 0 := by rw [h]; rfl
theorem b2i_0 {b : Bool} : b2i b = 0 ↔ b = false := by cases b <;> decide +kernel
section Rul2
variable {S : Nat × (Nat → Int32)} {T : Nat → eM} {C : eC} {M : eM} {d : Nat} {Q : eQ} {K : eK} {pc n a b c x : Nat} {ls : eL} {st r : List Value} {h : eH} {kc ks : Nat}
theorem r_iret {v : Int32} (hat : eAt (mPr M) pc = some (.ireturn, n, a, b, c)) (hn : eNar (mRt M) v) (h1 : Nat.ble kc (mCo M).1 = true) (h2 : Nat.ble ks (mCo M).2 = true) (hq : Q (.inl (some (.int v))) h) : eStep S T C M d Q K pc ls [.int v] h kc ks := by
  unfold eStep; rw [hat]; exact ⟨hn, ⟨Nat.le_of_ble_eq_true h1, Nat.le_of_ble_eq_true h2⟩, hq⟩
theorem r_lret {v : Int64} (hat : eAt (mPr M) pc = some (.lreturn, n, a, b, c)) (h1 : Nat.ble kc (mCo M).1 = true) (h2 : Nat.ble ks (mCo M).2 = true) (hq : Q (.inl (some (.long v))) h) : eStep S T C M d Q K pc ls [.long v] h kc ks := by
  unfold eStep; rw [hat]; exact ⟨⟨Nat.le_of_ble_eq_true h1, Nat.le_of_ble_eq_true h2⟩, hq⟩
theorem r_fret {v : UInt32} (hat : eAt (mPr M) pc = some (.freturn, n, a, b, c)) (h1 : Nat.ble kc (mCo M).1 = true) (h2 : Nat.ble ks (mCo M).2 = true) (hq : Q (.inl (some (.float v))) h) : eStep S T C M d Q K pc ls [.float v] h kc ks := by
  unfold eStep; rw [hat]; exact ⟨⟨Nat.le_of_ble_eq_true h1, Nat.le_of_ble_eq_true h2⟩, hq⟩
theorem r_dret {v : UInt64} (hat : eAt (mPr M) pc = some (.dreturn, n, a, b, c)) (h1 : Nat.ble kc (mCo M).1 = true) (h2 : Nat.ble ks (mCo M).2 = true) (hq : Q (.inl (some (.double v))) h) : eStep S T C M d Q K pc ls [.double v] h kc ks := by
  unfold eStep; rw [hat]; exact ⟨⟨Nat.le_of_ble_eq_true h1, Nat.le_of_ble_eq_true h2⟩, hq⟩
theorem r_aret {v : Nat} (hat : eAt (mPr M) pc = some (.areturn, n, a, b, c)) (h1 : Nat.ble kc (mCo M).1 = true) (h2 : Nat.ble ks (mCo M).2 = true) (hq : Q (.inl (some (.ref v))) h) : eStep S T C M d Q K pc ls [.ref v] h kc ks := by
  unfold eStep; rw [hat]; exact ⟨⟨Nat.le_of_ble_eq_true h1, Nat.le_of_ble_eq_true h2⟩, hq⟩
theorem r_vret (hat : eAt (mPr M) pc = some (.return_, n, a, b, c)) (h1 : Nat.ble kc (mCo M).1 = true) (h2 : Nat.ble ks (mCo M).2 = true) (hq : Q (.inl none) h) : eStep S T C M d Q K pc ls [] h kc ks := by
  unfold eStep; rw [hat]; exact ⟨⟨Nat.le_of_ble_eq_true h1, Nat.le_of_ble_eq_true h2⟩, hq⟩
theorem r_obj {q : Nat} (hat : eAt (mPr M) pc = some (.invokespecial x, n, a, b, 2)) (hr : Nat.ble (eCat r) 8 = true) (hd : 1 ≤ d) (kk : K n ls r h kc ks) : eStep S T C M d Q K pc ls (.ref q :: r) h kc ks := by
  unfold eStep; rw [hat]; exact ⟨hr, hd, kk⟩
theorem r_thr (hat : eAt (mPr M) pc = some (.new x, n, a, b, 1)) (hd : 6 ≤ d) (hc : Nat.ble (eCat st) 8 = true) (hh : mHh M = []) (h1 : Nat.ble (kc + 1) (mCo M).1 = true) (h2 : Nat.ble (ks + 6) (mCo M).2 = true) (hq : Q (.inr a) (false, h.2)) : eStep S T C M d Q K pc ls st h kc ks := by
  unfold eStep; rw [hat]; exact ⟨⟨hd, hc, hh⟩, ⟨Nat.le_of_ble_eq_true h1, Nat.le_of_ble_eq_true h2⟩, hq⟩
theorem r_irem {x1 y1 : Int32} (hat : eAt (mPr M) pc = some (.irem, n, a, b, c)) (h0 : ¬ y1 = 0) (kk : K n ls (.int (x1 - x1 / y1 * y1) :: r) h kc ks) : eStep S T C M d Q K pc ls (.int y1 :: .int x1 :: r) h kc ks := by
  unfold eStep; rw [hat]; exact ⟨h0, kk⟩
theorem r_iald {q N : Nat} {f : Nat → Int32} {j : Int32} (hat : eAt (mPr M) pc = some (.iaload, n, a, b, c)) (hk : h.2[q]? = some (.inl (0, N, .inl f))) (hj : vp_in j N) (kk : K n ls (.int (f j.toNatClampNeg) :: r) h kc ks) : eStep S T C M d Q K pc ls (.int j :: .ref (q + 1) :: r) h kc ks := by
  unfold eStep; rw [hat]; exact ⟨N, f, hk, hj, kk⟩
theorem r_zald {q N : Nat} {f : Nat → Int32} {j : Int32} (hat : eAt (mPr M) pc = some (.baload, n, a, b, c)) (hk : h.2[q]? = some (.inl (1, N, .inl f))) (hj : vp_in j N) (kk : K n ls (.int (f j.toNatClampNeg) :: r) h kc ks) : eStep S T C M d Q K pc ls (.int j :: .ref (q + 1) :: r) h kc ks := by
  unfold eStep; rw [hat]; exact ⟨N, f, hk, hj, kk⟩
theorem r_lald {q N : Nat} {f : Nat → Int64} {j : Int32} (hat : eAt (mPr M) pc = some (.laload, n, a, b, c)) (hk : h.2[q]? = some (.inl (2, N, .inr (.inl f)))) (hj : vp_in j N) (kk : K n ls (.long (f j.toNatClampNeg) :: r) h kc ks) : eStep S T C M d Q K pc ls (.int j :: .ref (q + 1) :: r) h kc ks := by
  unfold eStep; rw [hat]; exact ⟨N, f, hk, hj, kk⟩
theorem r_aald {q N z : Nat} {f : Nat → Option Nat} {j : Int32} (hat : eAt (mPr M) pc = some (.aaload, n, a, b, c)) (hk : h.2[q]? = some (.inl (4, N, .inr (.inr (.inr (.inr f)))))) (hj : vp_in j N) (hz : f j.toNatClampNeg = some z) (kk : K n ls (.ref z :: r) h kc ks) : eStep S T C M d Q K pc ls (.int j :: .ref (q + 1) :: r) h kc ks := by
  unfold eStep; rw [hat]; exact ⟨N, f, z, hk, hj, hz, kk⟩
theorem r_iast {q N : Nat} {f : Nat → Int32} {j x1 : Int32} (hat : eAt (mPr M) pc = some (.iastore, n, a, b, c)) (hk : h.2[q]? = some (.inl (0, N, .inl f))) (hj : vp_in j N) (kk : K n ls r (h.1, h.2.set q (.inl (0, N, .inl (upd f j.toNatClampNeg x1)))) kc ks) : eStep S T C M d Q K pc ls (.int x1 :: .int j :: .ref (q + 1) :: r) h kc ks := by
  unfold eStep; rw [hat]; exact ⟨N, f, hk, hj, kk⟩
theorem r_zast {q N : Nat} {f : Nat → Int32} {j x1 : Int32} (hat : eAt (mPr M) pc = some (.bastore, n, a, b, c)) (hk : h.2[q]? = some (.inl (1, N, .inl f))) (hj : vp_in j N) (kk : K n ls r (h.1, h.2.set q (.inl (1, N, .inl (upd f j.toNatClampNeg (vp_nar .boolean x1))))) kc ks) : eStep S T C M d Q K pc ls (.int x1 :: .int j :: .ref (q + 1) :: r) h kc ks := by
  unfold eStep; rw [hat]; exact ⟨N, f, hk, hj, kk⟩
theorem r_last {q N : Nat} {f : Nat → Int64} {j : Int32} {x1 : Int64} (hat : eAt (mPr M) pc = some (.lastore, n, a, b, c)) (hk : h.2[q]? = some (.inl (2, N, .inr (.inl f)))) (hj : vp_in j N) (kk : K n ls r (h.1, h.2.set q (.inl (2, N, .inr (.inl (vp_updL f j.toNatClampNeg x1))))) kc ks) : eStep S T C M d Q K pc ls (.long x1 :: .int j :: .ref (q + 1) :: r) h kc ks := by
  unfold eStep; rw [hat]; exact ⟨N, f, hk, hj, kk⟩
end Rul2
theorem gs {l : List va_E} {k : Nat} {o o' : va_E} (h : l[k]? = some o) : (l.set k o')[k]? = some o' := List.getElem?_set_self (List.getElem?_eq_some_iff.mp h).1
theorem gn {l : List va_E} {k j : Nat} {o' : va_E} {x : Option va_E} (hn : k ≠ j) (h : l[j]? = x) : (l.set k o')[j]? = x := (List.getElem?_set_ne hn).trans h
theorem gq {l : List va_E} {k : Nat} {o : va_E} (h : l[k]? = some o) : l.set k o = l := by
  apply List.ext_getElem?
  intro i
  by_cases hi : k = i
  · subst hi; rw [gs h, h]
  · rw [List.getElem?_set_ne hi]
/-- a loop that counts up -/
theorem up {P : Nat → Prop} (N a : Nat) (hend : P N) (hstep : ∀ k, a ≤ k → k < N → P (k + 1) → P k) (h : a ≤ N) : P a := by
  have key : ∀ j, j ≤ N - a → P (N - j) := by
    intro j
    induction j with
    | zero => intro _; exact hend
    | succ j ih =>
      intro hj
      have h1 := hstep (N - (j + 1)) (by omega) (by omega)
      rw [show N - (j + 1) + 1 = N - j by omega] at h1
      exact h1 (ih (by omega))
  have h2 := key (N - a) (Nat.le_refl _)
  rw [show N - (N - a) = a by omega] at h2
  exact h2
