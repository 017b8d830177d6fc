/-! RULES for the walks -/
section Rul
variable {S : Nat × (Nat → Int32)} {T : Nat → eM} {C : eC} {M : eM} {d : Nat} {Q : eQ} {K : eK} {pc n a b c x : Nat} {ls : eL} {st r : List Value} {h : eH} {kc ks : Nat}
theorem okc {m : Nat} {as : List Value} (hM : T m = M) (hf : Nat.ble (eCat as) (mLo M) = true) (hk : ∀ K : eK, (∀ (pc : Nat) (ls : eL) (st : List Value) (h : eH) (kc ks : Nat), eStep S T (okCall S T d) M (d + 1) Q K pc ls st h kc ks → K pc ls st h kc ks) → (∀ (pc : Nat) (ls ls' : eL) (st : List Value) (h : eH) (kc ks : Nat), (∀ q ∈ ls', q ∈ ls) → K pc ls' st h kc ks → K pc ls st h kc ks) → K 0 (lv_args 0 as) [] h 0 0) : okCall S T (d + 1) m as h Q := by
  subst hM
  exact ⟨hf, hk⟩
theorem r_get {q : Nat} {fs : List Value} {v : Value} (hat : eAt (mPr M) pc = some (.getfield x, n, a, b, c)) (hk : h.2[q]? = some (.inr (a, fs))) (hv : fs[b]? = some v) (kk : K n ls (v :: r) h kc ks) : eStep S T C M d Q K pc ls (.ref (q + 1) :: r) h kc ks := by
  unfold eStep; rw [hat]; exact ⟨fs, v, hk, hv, kk⟩
theorem r_put {q : Nat} {fs : List Value} {v : Value} (hat : eAt (mPr M) pc = some (.putfield x, n, a, b, c)) (hty : eTy (eFty a b) v = true) (hk : h.2[q]? = some (.inr (a, fs))) (hb : Nat.blt b fs.length = true) (kk : K n ls r (h.1, h.2.set q (.inr (a, fs.set b v))) kc ks) : eStep S T C M d Q K pc ls (v :: .ref (q + 1) :: r) h kc ks := by
  unfold eStep; rw [hat]
  show (bif eTy (eFty a b) v then _ else False)
  rw [hty]
  exact ⟨fs, hk, hb, kk⟩
theorem r_callV {q : Nat} {fs as : List Value} {v0 : Value} {as1 : List Value} (hat : eAt (mPr M) pc = some (.invokevirtual x, n, a, b, c)) (he : ∀ k : List Value → List Value → Prop, eArg b st [] k = k (.ref (q + 1) :: as1) r) (hk : h.2[q]? = some (.inr (mCi (T a), fs))) (hb : Nat.ble (eCat r) 8 = true ∧ kc + (mCo (T a)).1 ≤ (mCo M).1 ∧ ks + (mCo (T a)).2 ≤ (mCo M).2)
    (hc : C a (.ref (q + 1) :: as1) h (fun o h' => match o with
      | .inl v => eRetK n ls r K v h' (kc + (mCo (T a)).1) (ks + (mCo (T a)).2)
      | .inr E => eThrK M Q pc ls K E h' (kc + (mCo (T a)).1) (ks + (mCo (T a)).2))) : eStep S T C M d Q K pc ls st h kc ks := by
  unfold eStep; rw [hat]
  show eArg b st [] _
  rw [he]
  exact ⟨fs, hk, hb, hc⟩
theorem r_callS {as : List Value} (hat : eAt (mPr M) pc = some (.invokestatic x, n, a, b, 0)) (he : ∀ k : List Value → List Value → Prop, eArg b st [] k = k as r) (hb : Nat.ble (eCat r) 8 = true ∧ kc + (mCo (T a)).1 ≤ (mCo M).1 ∧ ks + (mCo (T a)).2 ≤ (mCo M).2)
    (hc : C a as h (fun o h' => match o with
      | .inl v => eRetK n ls r K v h' (kc + (mCo (T a)).1) (ks + (mCo (T a)).2)
      | .inr E => eThrK M Q pc ls K E h' (kc + (mCo (T a)).1) (ks + (mCo (T a)).2))) : eStep S T C M d Q K pc ls st h kc ks := by
  unfold eStep; rw [hat]
  show eArg b st [] _
  rw [he]
  exact ⟨hb, hc⟩
theorem r_callN {as : List Value} (hat : eAt (mPr M) pc = some (.invokestatic x, n, a, b, c + 1)) (he : ∀ k : List Value → List Value → Prop, eArg b st [] k = k as r) (hb : Nat.ble (eCat r) 8 = true ∧ kc + (mCo (T a)).1 ≤ (mCo M).1 ∧ ks + (mCo (T a)).2 ≤ (mCo M).2)
    (hc : C a as h (fun o h' => match o with
      | .inl v => eRetK n ls r K v h' (kc + (mCo (T a)).1) (ks + (mCo (T a)).2)
      | .inr _ => False)) : eStep S T C M d Q K pc ls st h kc ks := by
  unfold eStep; rw [hat]
  show eArg b st [] _
  rw [he]
  exact ⟨hb, hc⟩
theorem r_callI {q : Nat} {as1 : List Value} (hat : eAt (mPr M) pc = some (.invokespecial x, n, a, b, c)) (hc2 : (c == 2) = false) (he : ∀ k : List Value → List Value → Prop, eArg b st [] k = k (.ref q :: as1) r) (hb : Nat.ble (eCat r) 8 = true ∧ kc + (mCo (T a)).1 ≤ (mCo M).1 ∧ ks + (mCo (T a)).2 ≤ (mCo M).2)
    (hc : C a (.ref q :: as1) h (fun o h' => match o with
      | .inl v => eRetK n ls r K v h' (kc + (mCo (T a)).1) (ks + (mCo (T a)).2)
      | .inr _ => False)) : eStep S T C M d Q K pc ls st h kc ks := by
  unfold eStep; rw [hat]
  show (bif c == 2 then _ else _)
  rw [hc2]
  show eArg b st [] _
  rw [he]
  exact ⟨hb, hc⟩
end Rul
theorem b0 {r : List Value} {kc ks : Nat} {p q : Nat × Nat} (h1 : Nat.ble (eCat r) 8 = true) (h2 : Nat.ble (kc + p.1) q.1 = true) (h3 : Nat.ble (ks + p.2) q.2 = true) : Nat.ble (eCat r) 8 = true ∧ kc + p.1 ≤ q.1 ∧ ks + p.2 ≤ q.2 := ⟨h1, Nat.le_of_ble_eq_true h2, Nat.le_of_ble_eq_true h3⟩
def b2i (b : Bool) : Int32 := bif b then 1 else 0
theorem b2i_nar : ∀ b : Bool, narrow .boolean (.int (b2i b)) = .int (b2i b) := by decide
/-- a set of faces as an object -/
abbrev fsO (lo up : Int64) : va_E := .inr (1, [.long lo, .long up])
