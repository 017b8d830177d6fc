/-! THE ENGINE, its words: a small machine over numbered objects. '.ref 0' is the script, '.ref (k + 1)' the object k of the heap. A walk is 'for every K that is closed under one step, K at the entry'. -/
/-- the flag: nothing but objects of the list was made so far; the objects -/
abbrev eH : Type := Bool × List va_E
/-- how a method ended: with a value, or by a throw of kind n -/
abbrev eO : Type := Option Value ⊕ Nat
abbrev eL : Type := List (Nat × Value)
/-- pc, instruction, next pc, three numbers of its own -/
abbrev eE : Type := Nat × Instr × Nat × Nat × Nat × Nat
/-- name, code, locals, return type, handlers, cells and slots, its number in vwCl, program -/
abbrev eM : Type := MethodName × ByteArray × Nat × Option FieldType × List (Nat × Nat × Nat × Nat) × (Nat × Nat) × Nat × List (List eE)
abbrev eK : Type := Nat → eL → List Value → eH → Nat → Nat → Prop
abbrev eQ : Type := eO → eH → Prop
abbrev eC : Type := Nat → List Value → eH → eQ → Prop
abbrev mNm (M : eM) : MethodName := M.1
abbrev mBy (M : eM) : ByteArray := M.2.1
abbrev mLo (M : eM) : Nat := M.2.2.1
abbrev mRt (M : eM) : Option FieldType := M.2.2.2.1
abbrev mHh (M : eM) : List (Nat × Nat × Nat × Nat) := M.2.2.2.2.1
abbrev mCo (M : eM) : Nat × Nat := M.2.2.2.2.2.1
abbrev mCi (M : eM) : Nat := M.2.2.2.2.2.2.1
abbrev mPr (M : eM) : List (List eE) := M.2.2.2.2.2.2.2
def eFind : List eE → Nat → Option (Instr × Nat × Nat × Nat × Nat)
  | [], _ => none
  | e :: r, pc => bif e.1 == pc then some e.2 else eFind r pc
def eAt (P : List (List eE)) (pc : Nat) : Option (Instr × Nat × Nat × Nat × Nat) := match P[pc / 16]? with
  | none => none
  | some c => eFind c pc
def lkp : eL → Nat → Option Value
  | [], _ => none
  | q :: r, i => bif q.1 == i then some q.2 else lkp r i
def eFil1 (i : Nat) : eL → (eL → Prop) → Prop
  | [], k => k []
  | q :: r, k => bif (!(q.1 == i) && !(q.1 + 1 == i && q.2.category == 2)) then eFil1 i r (fun r' => k (q :: r')) else eFil1 i r k
def eFil2 (i : Nat) : eL → (eL → Prop) → Prop
  | [], k => k []
  | q :: r, k => bif (!(q.1 == i) && (!(q.1 == i + 1) && !(q.1 + 1 == i && q.2.category == 2))) then eFil2 i r (fun r' => k (q :: r')) else eFil2 i r k
def eCat : List Value → Nat
  | [] => 0
  | v :: r => v.category + eCat r
def eIsA (t : Nat) (v : Value) : Bool := match v with
  | .ref _ => t == 0
  | .int _ => t == 1
  | .long _ => t == 2
  | .float _ => t == 3
  | .double _ => t == 4
  | _ => false
def pLd (t : Nat) (ls : eL) (i : Nat) (k : Value → Prop) : Prop := match lkp ls i with
  | some v => bif eIsA t v then k v else False
  | none => False
def pSt1 (t : Nat) (st : List Value) (i : Nat) (ls : eL) (k : eL → List Value → Prop) : Prop := match st with
  | v :: r => bif eIsA t v then eFil1 i ls (fun l' => k ((i, v) :: l') r) else False
  | _ => False
def pSt2 (t : Nat) (st : List Value) (i : Nat) (ls : eL) (k : eL → List Value → Prop) : Prop := match st with
  | v :: r => bif eIsA t v then eFil2 i ls (fun l' => k ((i, v) :: l') r) else False
  | _ => False
def pII (f : Int32 → Int32 → Int32) (st : List Value) (k : List Value → Prop) : Prop := match st with
  | .int y :: .int x :: r => k (.int (f x y) :: r)
  | _ => False
def pLL (f : Int64 → Int64 → Value) (st : List Value) (k : List Value → Prop) : Prop := match st with
  | .long y :: .long x :: r => k (f x y :: r)
  | _ => False
def pLI (f : Int64 → Int32 → Int64) (st : List Value) (k : List Value → Prop) : Prop := match st with
  | .int y :: .long x :: r => k (.long (f x y) :: r)
  | _ => False
def pI (f : Int32 → Value) (st : List Value) (k : List Value → Prop) : Prop := match st with
  | .int x :: r => k (f x :: r)
  | _ => False
def pL (f : Int64 → Value) (st : List Value) (k : List Value → Prop) : Prop := match st with
  | .long x :: r => k (f x :: r)
  | _ => False
def bI (P : Int32 → Prop) (st : List Value) (kt kf : List Value → Prop) : Prop := match st with
  | .int x :: r => (P x → kt r) ∧ (¬ P x → kf r)
  | _ => False
def bII (P : Int32 → Int32 → Prop) (st : List Value) (kt kf : List Value → Prop) : Prop := match st with
  | .int y :: .int x :: r => (P x y → kt r) ∧ (¬ P x y → kf r)
  | _ => False
def mR (st : List Value) (k : Nat → List Value → Prop) : Prop := match st with
  | .ref q :: r => k q r
  | _ => False
def mI (st : List Value) (k : Int32 → List Value → Prop) : Prop := match st with
  | .int x :: r => k x r
  | _ => False
def mJ (st : List Value) (k : Int64 → List Value → Prop) : Prop := match st with
  | .long x :: r => k x r
  | _ => False
def mF (st : List Value) (k : UInt32 → List Value → Prop) : Prop := match st with
  | .float x :: r => k x r
  | _ => False
def mD (st : List Value) (k : UInt64 → List Value → Prop) : Prop := match st with
  | .double x :: r => k x r
  | _ => False
def mV (st : List Value) (k : Value → List Value → Prop) : Prop := match st with
  | v :: r => k v r
  | _ => False
/-- an object's number out of what a reference holds -/
def mO (q : Nat) (k : Nat → Prop) : Prop := match q with
  | 0 => False
  | q + 1 => k q
def mN (st : List Value) (k : Prop) : Prop := match st with
  | [] => k
  | _ => False
/-- what the field j of the kind ci takes -/
def eFty (ci j : Nat) : FieldType := match ci with
  | 0 => tyX0 j
  | 1 => tyX1 j
  | 2 => tyX2 j
  | 3 => tyX4 j
  | 4 => tyX6 j
  | _ => tyX7 j
def eTy (ty : FieldType) (v : Value) : Bool := match ty, v with
  | .int, .int _ => true
  | .long, .long _ => true
  | .object _, .ref _ => true
  | .array _, .ref _ => true
  | _, _ => false
/-- a new object of the kind ci -/
def eNew (ci : Nat) : List Value := match ci with
  | 0 => [.null, .null, .null]
  | 1 => [.long 0, .long 0]
  | 2 => [.null]
  | 3 => [.null, .null, .null, .null, .null, .null]
  | 4 => [.null, .null, .null, .null, .null]
  | _ => [.null, .null, .null, .null, .null, .null, .int 0, .int 0]
/-- rows of one kind: 0 int, 1 boolean, 2 long, 3 double, 4 of FaceSets -/
def eArr (t n : Nat) : va_E := match t with
  | 0 => .inl (0, n, .inl (fun _ => 0))
  | 1 => .inl (1, n, .inl (fun _ => 0))
  | 2 => .inl (2, n, .inr (.inl (fun _ => 0)))
  | 3 => .inl (3, n, .inr (.inr (.inr (.inl (fun _ => 0)))))
  | _ => .inl (4, n, .inr (.inr (.inr (.inr (fun _ => none)))))
/-- kinds of throws: 0 index, 1 argument, 2 state, 3 no such element -/
def exN (n : Nat) : String := match n with
  | 0 => "java/lang/IndexOutOfBoundsException"
  | 1 => "java/lang/IllegalArgumentException"
  | 2 => "java/lang/IllegalStateException"
  | _ => "java/util/NoSuchElementException"
/-- the law's catch rows: what the pool's number names -/
def eHc (ct : Nat) : Nat := match ct with
  | 13 => 0
  | 15 => 1
  | 20 => 3
  | 50 => 2
  | _ => 9
def eHnd (hh : List (Nat × Nat × Nat × Nat)) (pc E : Nat) : Option Nat := match hh with
  | [] => none
  | q :: r => bif Nat.ble q.1 pc && Nat.blt pc q.2.1 && eHc q.2.2.2 == E then some q.2.2.1 else eHnd r pc E
def eArg : Nat → List Value → List Value → (List Value → List Value → Prop) → Prop
  | 0, st, acc, k => k acc st
  | n + 1, st, acc, k => match st with
    | v :: r => eArg n r (v :: acc) k
    | [] => False
def eCall (T : Nat → eM) (C : eC) (M : eM) (a : Nat) (as r : List Value) (h : eH) (kc ks : Nat) (kr : Option Value → eH → Nat → Nat → Prop) (kt : Nat → eH → Nat → Nat → Prop) : Prop :=
  (Nat.ble (eCat r) 8 = true ∧ kc + (mCo (T a)).1 ≤ (mCo M).1 ∧ ks + (mCo (T a)).2 ≤ (mCo M).2) ∧
    C a as h (fun o h' => match o with
      | .inl v => kr v h' (kc + (mCo (T a)).1) (ks + (mCo (T a)).2)
      | .inr E => kt E h' (kc + (mCo (T a)).1) (ks + (mCo (T a)).2))
def eRetK (n : Nat) (ls : eL) (r : List Value) (K : eK) : Option Value → eH → Nat → Nat → Prop := fun v h kc ks => match v with
  | some w => K n ls (w :: r) h kc ks
  | none => K n ls r h kc ks
def eThrK (M : eM) (Q : eQ) (pc : Nat) (ls : eL) (K : eK) : Nat → eH → Nat → Nat → Prop := fun E h kc ks => match eHnd (mHh M) pc E with
  | some hp => (match eAt (mPr M) hp with
    | some (.astore_n _, n, a, _, _) => eFil1 a ls (fun l' => K n l' [] h kc ks)
    | some (.astore _, n, a, _, _) => eFil1 a ls (fun l' => K n l' [] h kc ks)
    | _ => False)
  | none => mHh M = [] ∧ Q (.inr E) h
def eNar (rt : Option FieldType) (x : Int32) : Prop := match rt with
  | some ty => narrow ty (.int x) = .int x
  | none => False
def eEnd (M : eM) (Q : eQ) (v : Option Value) (h : eH) (kc ks : Nat) : Prop := (kc ≤ (mCo M).1 ∧ ks ≤ (mCo M).2) ∧ Q (.inl v) h
/-- one instruction -/
def okI (S : Nat × (Nat → Int32)) (T : Nat → eM) (C : eC) (M : eM) (d : Nat) (Q : eQ) (i : Instr) (n a b c : Nat) (pc : Nat) (ls : eL) (st : List Value) (h : eH) (kc ks : Nat) (K : eK) : Prop :=
  match i with
  | .aload_n _ => pLd 0 ls a (fun v => K n ls (v :: st) h kc ks)
  | .aload _ => pLd 0 ls a (fun v => K n ls (v :: st) h kc ks)
  | .iload_n _ => pLd 1 ls a (fun v => K n ls (v :: st) h kc ks)
  | .iload _ => pLd 1 ls a (fun v => K n ls (v :: st) h kc ks)
  | .lload_n _ => pLd 2 ls a (fun v => K n ls (v :: st) h kc ks)
  | .lload _ => pLd 2 ls a (fun v => K n ls (v :: st) h kc ks)
  | .fload _ => pLd 3 ls a (fun v => K n ls (v :: st) h kc ks)
  | .dload _ => pLd 4 ls a (fun v => K n ls (v :: st) h kc ks)
  | .astore_n _ => pSt1 0 st a ls (fun l' r => K n l' r h kc ks)
  | .astore _ => pSt1 0 st a ls (fun l' r => K n l' r h kc ks)
  | .istore_n _ => pSt1 1 st a ls (fun l' r => K n l' r h kc ks)
  | .istore _ => pSt1 1 st a ls (fun l' r => K n l' r h kc ks)
  | .fstore _ => pSt1 3 st a ls (fun l' r => K n l' r h kc ks)
  | .lstore_n _ => pSt2 2 st a ls (fun l' r => K n l' r h kc ks)
  | .lstore _ => pSt2 2 st a ls (fun l' r => K n l' r h kc ks)
  | .dstore _ => pSt2 4 st a ls (fun l' r => K n l' r h kc ks)
  | .iinc _ _ => pLd 1 ls a (fun v => match v with
    | .int x => eFil1 a ls (fun l' => K n ((a, .int (bif c == 1 then x - nI b else x + nI b)) :: l') st h kc ks)
    | _ => False)
  | .iconst _ => bif b == 1 then K n ls (.int (-1) :: st) h kc ks else K n ls (.int (nI a) :: st) h kc ks
  | .bipush _ => K n ls (.int (nI a) :: st) h kc ks
  | .sipush _ => K n ls (.int (nI a) :: st) h kc ks
  | .ldc _ => K n ls (.int (nI a) :: st) h kc ks
  | .ldc_w _ => K n ls (.int (nI a) :: st) h kc ks
  | .lconst _ => K n ls (.long (lN a) :: st) h kc ks
  | .ldc2_w _ => bif b == 1 then K n ls (.long (-1) :: st) h kc ks else K n ls (.long (lN a) :: st) h kc ks
  | .fconst _ => bif a == 0 then K n ls (.float FP.fconst0 :: st) h kc ks else False
  | .dconst _ => bif a == 0 then K n ls (.double FP.dconst0 :: st) h kc ks else False
  | .iadd => mI st (fun y r => mI r (fun x r => K n ls (.int (x + y) :: r) h kc ks))
  | .isub => mI st (fun y r => mI r (fun x r => K n ls (.int (x - y) :: r) h kc ks))
  | .imul => mI st (fun y r => mI r (fun x r => K n ls (.int (x * y) :: r) h kc ks))
  | .iand => mI st (fun y r => mI r (fun x r => K n ls (.int (x &&& y) :: r) h kc ks))
  | .ior => mI st (fun y r => mI r (fun x r => K n ls (.int (x ||| y) :: r) h kc ks))
  | .ixor => mI st (fun y r => mI r (fun x r => K n ls (.int (x ^^^ y) :: r) h kc ks))
  | .ishl => mI st (fun y r => mI r (fun x r => K n ls (.int (x <<< (y &&& 31)) :: r) h kc ks))
  | .ishr => mI st (fun y r => mI r (fun x r => K n ls (.int (x >>> (y &&& 31)) :: r) h kc ks))
  | .iushr => mI st (fun y r => mI r (fun x r => K n ls (.int ((x.toUInt32 >>> (y.toUInt32 &&& 31)).toInt32) :: r) h kc ks))
  | .irem => mI st (fun y r => mI r (fun x r => ¬ y = 0 ∧ K n ls (.int (x - x / y * y) :: r) h kc ks))
  | .ineg => mI st (fun x r => K n ls (.int (-x) :: r) h kc ks)
  | .i2l => mI st (fun x r => K n ls (.long x.toInt64 :: r) h kc ks)
  | .i2f => mI st (fun x r => K n ls (.float (FP.i2f x) :: r) h kc ks)
  | .i2d => mI st (fun x r => K n ls (.double (FP.i2d x) :: r) h kc ks)
  | .l2i => mJ st (fun x r => K n ls (.int x.toInt32 :: r) h kc ks)
  | .ladd => mJ st (fun y r => mJ r (fun x r => K n ls (.long (x + y) :: r) h kc ks))
  | .lsub => mJ st (fun y r => mJ r (fun x r => K n ls (.long (x - y) :: r) h kc ks))
  | .lmul => mJ st (fun y r => mJ r (fun x r => K n ls (.long (x * y) :: r) h kc ks))
  | .land => mJ st (fun y r => mJ r (fun x r => K n ls (.long (x &&& y) :: r) h kc ks))
  | .lor => mJ st (fun y r => mJ r (fun x r => K n ls (.long (x ||| y) :: r) h kc ks))
  | .lxor => mJ st (fun y r => mJ r (fun x r => K n ls (.long (x ^^^ y) :: r) h kc ks))
  | .lcmp => mJ st (fun y r => mJ r (fun x r => K n ls (.int (lg_cmp x y) :: r) h kc ks))
  | .lshl => mI st (fun y r => mJ r (fun x r => K n ls (.long (x <<< (y.toInt64 &&& 63)) :: r) h kc ks))
  | .lushr => mI st (fun y r => mJ r (fun x r => K n ls (.long ((x.toUInt64 >>> (y.toInt64.toUInt64 &&& Int64.toUInt64 63)).toInt64) :: r) h kc ks))
  | .fdiv => mF st (fun y r => mF r (fun x r => vf_n32 (FP.fdiv x y) ∧ K n ls (.float (FP.fdiv x y) :: r) h kc ks))
  | .ddiv => mD st (fun y r => mD r (fun x r => vf_n64 (FP.ddiv x y) ∧ K n ls (.double (FP.ddiv x y) :: r) h kc ks))
  | .f2d => mF st (fun x r => vf_n64 (FP.f2d x) ∧ K n ls (.double (FP.f2d x) :: r) h kc ks)
  | .fcmp op => mF st (fun y r => mF r (fun x r => K n ls (.int (Op.cmpValue (FP.fcmp x y) op) :: r) h kc ks))
  | .dcmp op => mD st (fun y r => mD r (fun x r => K n ls (.int (Op.cmpValue (FP.dcmp x y) op) :: r) h kc ks))
  | .dup => mV st (fun v r => bif v.category == 1 then K n ls (v :: v :: r) h kc ks else False)
  | .pop => mV st (fun v r => bif v.category == 1 then K n ls r h kc ks else False)
  | .dup2 => mV st (fun v r => mV r (fun w r => bif v.category == 1 && w.category == 1 then K n ls (v :: w :: v :: w :: r) h kc ks else False))
  | .ifCond cd _ => (match cd with
    | .eq => mI st (fun x r => (x = 0 → K a ls r h kc ks) ∧ (¬ x = 0 → K n ls r h kc ks))
    | .ne => mI st (fun x r => (x = 0 → K n ls r h kc ks) ∧ (¬ x = 0 → K a ls r h kc ks))
    | .lt => mI st (fun x r => (x < 0 → K a ls r h kc ks) ∧ (¬ x < 0 → K n ls r h kc ks))
    | .ge => mI st (fun x r => (0 ≤ x → K a ls r h kc ks) ∧ (¬ 0 ≤ x → K n ls r h kc ks))
    | .gt => mI st (fun x r => (0 < x → K a ls r h kc ks) ∧ (¬ 0 < x → K n ls r h kc ks))
    | .le => mI st (fun x r => (x ≤ 0 → K a ls r h kc ks) ∧ (¬ x ≤ 0 → K n ls r h kc ks)))
  | .if_icmp cd _ => (match cd with
    | .eq => mI st (fun y r => mI r (fun x r => (x = y → K a ls r h kc ks) ∧ (¬ x = y → K n ls r h kc ks)))
    | .ne => mI st (fun y r => mI r (fun x r => (x = y → K n ls r h kc ks) ∧ (¬ x = y → K a ls r h kc ks)))
    | .lt => mI st (fun y r => mI r (fun x r => (x < y → K a ls r h kc ks) ∧ (¬ x < y → K n ls r h kc ks)))
    | .ge => mI st (fun y r => mI r (fun x r => (y ≤ x → K a ls r h kc ks) ∧ (¬ y ≤ x → K n ls r h kc ks)))
    | .gt => mI st (fun y r => mI r (fun x r => (y < x → K a ls r h kc ks) ∧ (¬ y < x → K n ls r h kc ks)))
    | .le => mI st (fun y r => mI r (fun x r => (x ≤ y → K a ls r h kc ks) ∧ (¬ x ≤ y → K n ls r h kc ks))))
  | .goto _ => K a ls st h kc ks
  | .tableswitch _ lo hi offs => mI st (fun x r => (x.toInt < lo ∨ hi < x.toInt → K a ls r h kc ks) ∧ (∀ (j : Nat) (off : Int) (t : Nat), ¬ x.toInt < lo → ¬ hi < x.toInt → (x.toInt - lo).toNat = j → offs[j]? = some off → (pc : Int) + off = (t : Int) → K t ls r h kc ks))
  | .getfield _ => mR st (fun q r => mO q (fun q => ∃ (fs : List Value) (v : Value), h.2[q]? = some (.inr (a, fs)) ∧ fs[b]? = some v ∧ K n ls (v :: r) h kc ks))
  | .putfield _ => mV st (fun v r => mR r (fun q r => mO q (fun q => bif eTy (eFty a b) v then ∃ (fs : List Value), h.2[q]? = some (.inr (a, fs)) ∧ Nat.blt b fs.length = true ∧ K n ls r (h.1, h.2.set q (.inr (a, fs.set b v))) kc ks else False)))
  | .arraylength => mR st (fun q r => match q with
      | 0 => K n ls (.int (Int32.ofNat S.1) :: r) h kc ks
      | q + 1 => ∃ (t : Nat) (x : vp_A), h.2[q]? = some (.inl (t, x)) ∧ t ≤ 4 ∧ K n ls (.int (Int32.ofNat x.1) :: r) h kc ks)
  | .iaload => mI st (fun j r => mR r (fun q r => match q with
      | 0 => vp_in j S.1 ∧ K n ls (.int (S.2 j.toNatClampNeg) :: r) h kc ks
      | q + 1 => ∃ (N : Nat) (f : Nat → Int32), h.2[q]? = some (.inl (0, N, .inl f)) ∧ vp_in j N ∧ K n ls (.int (f j.toNatClampNeg) :: r) h kc ks))
  | .baload => mI st (fun j r => mR r (fun q r => mO q (fun q => ∃ (N : Nat) (f : Nat → Int32), h.2[q]? = some (.inl (1, N, .inl f)) ∧ vp_in j N ∧ K n ls (.int (f j.toNatClampNeg) :: r) h kc ks)))
  | .laload => mI st (fun j r => mR r (fun q r => mO q (fun q => ∃ (N : Nat) (f : Nat → Int64), h.2[q]? = some (.inl (2, N, .inr (.inl f))) ∧ vp_in j N ∧ K n ls (.long (f j.toNatClampNeg) :: r) h kc ks)))
  | .daload => mI st (fun j r => mR r (fun q r => mO q (fun q => ∃ (N : Nat) (f : Nat → UInt64), h.2[q]? = some (.inl (3, N, .inr (.inr (.inr (.inl f))))) ∧ vp_in j N ∧ K n ls (.double (f j.toNatClampNeg) :: r) h kc ks)))
  | .aaload => mI st (fun j r => mR r (fun q r => mO q (fun q => ∃ (N : Nat) (f : Nat → Option Nat) (z : Nat), h.2[q]? = some (.inl (4, N, .inr (.inr (.inr (.inr f))))) ∧ vp_in j N ∧ f j.toNatClampNeg = some z ∧ K n ls (.ref z :: r) h kc ks)))
  | .iastore => mI st (fun x r => mI r (fun j r => mR r (fun q r => mO q (fun q => ∃ (N : Nat) (f : Nat → Int32), h.2[q]? = some (.inl (0, N, .inl f)) ∧ vp_in j N ∧ K n ls r (h.1, h.2.set q (.inl (0, N, .inl (upd f j.toNatClampNeg x)))) kc ks))))
  | .bastore => mI st (fun x r => mI r (fun j r => mR r (fun q r => mO q (fun q => ∃ (N : Nat) (f : Nat → Int32), h.2[q]? = some (.inl (1, N, .inl f)) ∧ vp_in j N ∧ K n ls r (h.1, h.2.set q (.inl (1, N, .inl (upd f j.toNatClampNeg (vp_nar .boolean x))))) kc ks))))
  | .lastore => mJ st (fun x r => mI r (fun j r => mR r (fun q r => mO q (fun q => ∃ (N : Nat) (f : Nat → Int64), h.2[q]? = some (.inl (2, N, .inr (.inl f))) ∧ vp_in j N ∧ K n ls r (h.1, h.2.set q (.inl (2, N, .inr (.inl (vp_updL f j.toNatClampNeg x))))) kc ks))))
  | .dastore => mD st (fun x r => mI r (fun j r => mR r (fun q r => mO q (fun q => ∃ (N : Nat) (f : Nat → UInt64), h.2[q]? = some (.inl (3, N, .inr (.inr (.inr (.inl f))))) ∧ vp_in j N ∧ K n ls r (h.1, h.2.set q (.inl (3, N, .inr (.inr (.inr (.inl (vf_upd f j.toNatClampNeg x))))))) kc ks))))
  | .aastore => mR st (fun z r => mO z (fun z => mI r (fun j r => mR r (fun q r => mO q (fun q => ∃ (N : Nat) (f : Nat → Option Nat) (fs : List Value), h.2[q]? = some (.inl (4, N, .inr (.inr (.inr (.inr f))))) ∧ vp_in j N ∧ h.2[z]? = some (.inr (1, fs)) ∧ K n ls r (h.1, h.2.set q (.inl (4, N, .inr (.inr (.inr (.inr (va_up f j.toNatClampNeg (some (z + 1))))))))) kc ks)))))
  | .newarray _ => mI st (fun j r => (h.1 = true ∧ ¬ j < 0 ∧ j.toNatClampNeg ≤ 1000 ∧ kc + 1 ≤ (mCo M).1 ∧ ks + j.toNatClampNeg ≤ (mCo M).2) ∧ K n ls (.ref (h.2.length + 1) :: r) (h.1, h.2 ++ [eArr a j.toNatClampNeg]) (kc + 1) (ks + j.toNatClampNeg))
  | .anewarray _ => mI st (fun j r => (h.1 = true ∧ ¬ j < 0 ∧ j.toNatClampNeg ≤ 1000 ∧ kc + 1 ≤ (mCo M).1 ∧ ks + j.toNatClampNeg ≤ (mCo M).2) ∧ K n ls (.ref (h.2.length + 1) :: r) (h.1, h.2 ++ [eArr 4 j.toNatClampNeg]) (kc + 1) (ks + j.toNatClampNeg))
  | .new _ => bif c == 1 then ((6 ≤ d ∧ Nat.ble (eCat st) 8 = true ∧ mHh M = []) ∧ (kc + 1 ≤ (mCo M).1 ∧ ks + 6 ≤ (mCo M).2) ∧ Q (.inr a) (false, h.2))
    else ((h.1 = true ∧ kc + 1 ≤ (mCo M).1 ∧ ks + (eNew a).length ≤ (mCo M).2) ∧ K n ls (.ref (h.2.length + 1) :: st) (h.1, h.2 ++ [.inr (a, eNew a)]) (kc + 1) (ks + (eNew a).length))
  | .invokevirtual _ => eArg b st [] (fun as r => mR as (fun q _ => mO q (fun q => ∃ fs : List Value, h.2[q]? = some (.inr (mCi (T a), fs)) ∧ eCall T C M a as r h kc ks (eRetK n ls r K) (eThrK M Q pc ls K))))
  | .invokestatic _ => eArg b st [] (fun as r => bif c == 0 then eCall T C M a as r h kc ks (eRetK n ls r K) (eThrK M Q pc ls K) else eCall T C M a as r h kc ks (eRetK n ls r K) (fun _ _ _ _ => False))
  | .invokespecial _ => bif c == 2 then mR st (fun _ r => Nat.ble (eCat r) 8 = true ∧ 1 ≤ d ∧ K n ls r h kc ks)
    else eArg b st [] (fun as r => mR as (fun _ _ => eCall T C M a as r h kc ks (eRetK n ls r K) (fun _ _ _ _ => False)))
  | .ireturn => mI st (fun x r => mN r (eNar (mRt M) x ∧ eEnd M Q (some (.int x)) h kc ks))
  | .lreturn => mJ st (fun x r => mN r (eEnd M Q (some (.long x)) h kc ks))
  | .freturn => mF st (fun x r => mN r (eEnd M Q (some (.float x)) h kc ks))
  | .dreturn => mD st (fun x r => mN r (eEnd M Q (some (.double x)) h kc ks))
  | .areturn => mR st (fun x r => mN r (eEnd M Q (some (.ref x)) h kc ks))
  | .return_ => mN st (eEnd M Q none h kc ks)
  | _ => False
