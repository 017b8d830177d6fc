/-! THE ENGINE: what is checked of a method's text against the tables -/
def eLen (pc : Nat) (i : Instr) (n : Nat) : Nat := match i with
  | .aload _ | .iload _ | .lload _ | .fload _ | .dload _ | .astore _ | .istore _ | .lstore _ | .fstore _ | .dstore _ | .bipush _ | .ldc _ | .newarray _ => 2
  | .sipush _ | .ldc_w _ | .ldc2_w _ | .iinc _ _ | .ifCond _ _ | .if_icmp _ _ | .goto _ | .getfield _ | .putfield _ | .new _ | .anewarray _ | .invokevirtual _ | .invokestatic _ | .invokespecial _ => 3
  | .tableswitch .. => n - pc
  | _ => 1
/-- a type of objects -/
def eObj (t : Option FieldType) : Bool := match t with
  | some (.object _) => true
  | _ => false
theorem eObj_s : ∀ {t : Option FieldType}, eObj t = true → ∃ C, t = some (.object C)
  | some (.object C), _ => ⟨C, rfl⟩
  | some .byte, h => (by cases h)
  | some .char, h => (by cases h)
  | some .double, h => (by cases h)
  | some .float, h => (by cases h)
  | some .int, h => (by cases h)
  | some .long, h => (by cases h)
  | some .short, h => (by cases h)
  | some .boolean, h => (by cases h)
  | some (.array _), h => (by cases h)
  | none, h => (by cases h)
def eIns (M : eM) (pc : Nat) (i : Instr) (a b c : Nat) : Bool := match i with
  | .aload_n j | .iload_n j | .lload_n j => j.val == a
  | .aload j | .iload j | .lload j | .fload j | .dload j => j == a
  | .astore_n j | .istore_n j => j.val == a && Nat.blt a (mLo M)
  | .lstore_n j => j.val == a && Nat.blt (a + 1) (mLo M)
  | .astore j | .istore j | .fstore j => j == a && Nat.blt a (mLo M)
  | .lstore j | .dstore j => j == a && Nat.blt (a + 1) (mLo M)
  | .iinc j v => j == a && Nat.blt a (mLo M) && (bif c == 1 then decide (Int32.ofInt v = - nI b) else decide (Int32.ofInt v = nI b))
  | .iconst v => bif b == 1 then decide (Int32.ofInt v = -1) else decide (Int32.ofInt v = nI a)
  | .bipush v => decide ((Int8.ofInt v).toInt32 = nI a)
  | .sipush v => decide ((Int16.ofInt v).toInt32 = nI a)
  | .lconst v => decide (Int64.ofNat (v : Nat) = lN a)
  | .fconst v => decide (v = 0)
  | .dconst v => decide (v = 0)
  | .ifCond _ off | .if_icmp _ off | .goto off => decide ((pc : Int) + off = (a : Int))
  | .tableswitch dflt _ _ _ => decide ((pc : Int) + dflt = (a : Int))
  | .new _ => bif c == 1 then Nat.ble a 3 else true
  | .lreturn => decide (mRt M = some .long)
  | .freturn => decide (mRt M = some .float)
  | .dreturn => decide (mRt M = some .double)
  | .areturn => eObj (mRt M)
  | .return_ => decide (mRt M = none)
  | _ => true
def eChk (M : eM) (e : eE) : Bool := decide (decode (mBy M) e.1 = .ok (e.2.1, eLen e.1 e.2.1 e.2.2.1)) && (e.2.2.1 == e.1 + eLen e.1 e.2.1 e.2.2.1) && eIns M e.1 e.2.1 e.2.2.2.1 e.2.2.2.2.1 e.2.2.2.2.2
/-- the kind of row under a number -/
def eTyA (t : Nat) : FieldType := match t with
  | 0 => .int
  | 1 => .boolean
  | 2 => .long
  | 3 => .double
  | _ => .object RX1
/-- the words that are no good words and are carried by hand -/
def eNgw (w : Cond) : Bool := match w with
  | .methodLinkNest .. | .castable .. | .declares _ => true
  | _ => false
/-- a word of the tables that holds at every entry -/
def eW (w : Cond) : Prop := w ∈ lw_tbl ∧ goodWord w = true
def eX (w : Cond) : Prop := w ∈ lw_tbl ∧ eNgw w = true
def mWd (M : eM) : Cond := match mHh M with
  | [] => .code (mNm M) (mBy M) (mLo M) (mRt M)
  | _ => .codeWith (mNm M) (mBy M) (mLo M) (mRt M) (mHh M)
/-- what every method's name and code say -/
def eMeth (Y : eM) : Prop := eW (mWd Y) ∧ eW (.initialized (mNm Y).cls) ∧ ((mNm Y).cls ≠ "java/lang/invoke/MethodHandle" ∧ (mNm Y).cls ≠ "java/lang/invoke/VarHandle") ∧ plainName (mNm Y).cls = true ∧ mLo Y ≤ 12
def eAri (Y : eM) (n : Nat) : Prop := (parseMethodDescriptor (mNm Y).desc).map (fun d => d.parameters.length) = some n
def exS : List String := ["java/lang/RuntimeException", "java/lang/Exception"]
/-- the words of a throw of kind a -/
def eThW (own : String) (ic a : Nat) : List Cond := if a = 3 then vy_at own ic (exN 3) "java/lang/RuntimeException" 13 nseB ["java/lang/Exception"] else vx_atS own ic (exN a) exS
def eLink (T : Nat → eM) (M : eM) (e : eE) : Prop := match e with
  | (pc, i, _, a, b, c) => match i with
    | .getfield x => ∃ (C : String) (TT : u_T) (N : Nat), vwCl[a]? = some (C, TT, N) ∧ b < N ∧ eW (.fieldLink (mNm M).cls x (TT b).1 (TT b).2.1 (TT b).2.2.1)
    | .putfield x => ∃ (C : String) (TT : u_T) (N : Nat), vwCl[a]? = some (C, TT, N) ∧ b < N ∧ eW (.fieldLink (mNm M).cls x (TT b).1 (TT b).2.1 (TT b).2.2.1) ∧ ((TT b).2.2.2 = true → (mNm M).name = "<init>" ∧ (TT b).1 = (mNm M).cls)
    | .new x => if c = 1 then eW (.classLink (mNm M).cls x (exN a)) ∧ eW (.initialized (exN a)) ∧ (∃ (is ic : Nat) (tx : String), Cond.stringRef (mNm M).cls is tx ∈ tables_1 ∧ (∀ w ∈ eThW (mNm M).cls ic a, eW w ∨ eX w) ∧ decode (mBy M) (pc + 3) = .ok (.dup, 1) ∧
        ((decode (mBy M) (pc + 4) = .ok (.ldc is, 2) ∧ decode (mBy M) (pc + 6) = .ok (.invokespecial ic, 3) ∧ decode (mBy M) (pc + 9) = .ok (.athrow, 1)) ∨ (decode (mBy M) (pc + 4) = .ok (.ldc_w is, 3) ∧ decode (mBy M) (pc + 7) = .ok (.invokespecial ic, 3) ∧ decode (mBy M) (pc + 10) = .ok (.athrow, 1))))
      else ∃ (C : String) (TT : u_T) (N : Nat), vwCl[a]? = some (C, TT, N) ∧ eW (.classLink (mNm M).cls x C) ∧ eW (.instantiable C N) ∧ eW (.initialized C)
    | .tableswitch _ lo hi offs => offs.size = (hi - lo + 1).toNat ∧ ∀ off ∈ offs.toList, 0 ≤ (pc : Int) + off
    | .newarray at9 => eW (.arrayClass (newarray.typeOf at9)) ∧ newarray.typeOf at9 = eTyA a ∧ a ≤ 3
    | .anewarray x => eW (.classLink (mNm M).cls x RX1)
    | .ldc x => eW (.constant (mNm M).cls x (nI a))
    | .ldc_w x => eW (.constant (mNm M).cls x (nI a))
    | .ldc2_w x => if b = 1 then eW (.constantLong (mNm M).cls x (-1)) else eW (.constantLong (mNm M).cls x (lN a))
    | .invokevirtual x => eMeth (T a) ∧ mHh (T a) = [] ∧ (∃ n, b = n + 1 ∧ eAri (T a) n) ∧ (∃ q : vw_C, vwCl[mCi (T a)]? = some q ∧ q.1 = (mNm (T a)).cls) ∧ eW (.methodLink (mNm M).cls x (mNm (T a))) ∧ eW (.instanceMethod (mNm (T a))) ∧ eW (.selects (mNm (T a)).cls (mNm (T a)) (mNm (T a)))
    | .invokestatic x => eMeth (T a) ∧ eAri (T a) b ∧ eW (.static (mNm (T a))) ∧ (if c = 0 then mHh (T a) = [] ∧ eW (.methodLink (mNm M).cls x (mNm (T a))) else if c = 1 then mHh (T a) = [] ∧ eX (.methodLinkNest (mNm M).cls x (mNm (T a)) RX6) else mHh (T a) ≠ [] ∧ eW (.methodLink (mNm M).cls x (mNm (T a))))
    | .invokespecial x => if c = 2 then eW (.methodLink (mNm M).cls x objectInit) ∧ eW (.instanceMethod objectInit) ∧ eW (.code objectInit ⟨#[0xb1]⟩ 1 none)
      else eMeth (T a) ∧ mHh (T a) = [] ∧ mRt (T a) = none ∧ (mNm (T a)).name = "<init>" ∧ (∃ n, b = n + 1 ∧ eAri (T a) n) ∧ eW (.instanceMethod (mNm (T a))) ∧ (if c = 0 then eW (.methodLink (mNm M).cls x (mNm (T a))) else eX (.methodLinkNest (mNm M).cls x (mNm (T a)) RX6))
    | _ => True
/-- a method whose text is checked -/
def eMok (T : Nat → eM) (M : eM) : Prop := (∀ e ∈ (mPr M).flatten, eChk M e = true) ∧ (∀ e ∈ (mPr M).flatten, eLink T M e) ∧ (∀ x ∈ mHh M, x.2.2.2 ≠ 0 ∧ eHc x.2.2.2 ≤ 3 ∧ eW (.classLink (mNm M).cls x.2.2.2 (exN (eHc x.2.2.2))))
/-! what is known of the six kinds of objects -/
def eCls (q : vw_C) : Prop := (∀ w ∈ u_ws q.1 q.2.1 q.2.2, eW w) ∧ (∀ a, a < q.2.2 → ∀ b, b < q.2.2 → a ≠ b → (q.2.1 a).2.1 ≠ (q.2.1 b).2.1)
