/-! THE ENGINE: steps, walks, calls -/
def eStep (S : Nat × (Nat → Int32)) (T : Nat → eM) (C : eC) (M : eM) (d : Nat) (Q : eQ) (K : eK) (pc : Nat) (ls : eL) (st : List Value) (h : eH) (kc ks : Nat) : Prop := match eAt (mPr M) pc with
  | some (i, n, a, b, c) => okI S T C M d Q i n a b c pc ls st h kc ks K
  | none => False
/-- the walk from a place ends well -/
def eOk (S : Nat × (Nat → Int32)) (T : Nat → eM) (C : eC) (M : eM) (d : Nat) (Q : eQ) (pc : Nat) (ls : eL) (st : List Value) (h : eH) (kc ks : Nat) : Prop :=
  ∀ K : eK, (∀ (pc : Nat) (ls : eL) (st : List Value) (h : eH) (kc ks : Nat), eStep S T C M d Q K pc ls st h kc ks → K pc ls st h kc ks) →
    (∀ (pc : Nat) (ls ls' : eL) (st : List Value) (h : eH) (kc ks : Nat), (∀ q ∈ ls', q ∈ ls) → K pc ls' st h kc ks → K pc ls st h kc ks) → K pc ls st h kc ks
/-- a call, at most d deep -/
def okCall (S : Nat × (Nat → Int32)) (T : Nat → eM) : Nat → eC
  | 0 => fun _ _ _ _ => False
  | d + 1 => fun m as h Q => Nat.ble (eCat as) (mLo (T m)) = true ∧ eOk S T (okCall S T d) (T m) (d + 1) Q 0 (lv_args 0 as) [] h 0 0
