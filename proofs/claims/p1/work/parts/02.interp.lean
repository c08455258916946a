/-! AN INTERPRETER OF THE BYTECODE over own cells: pure. An address below 1000 names a thing that was there before the law began; address 1000 + k is the k-th cell that the law's run has made. -/
abbrev aE : Type := (Nat × vp_A) ⊕ (Nat × List Value)
abbrev aH : Type := List aE
abbrev aL : Type := List (Option Value)
/-- what is known of the start: the script's length, its ints, and a value that is only passed on -/
abbrev aSc : Type := Nat × (Nat → Int32) × Value
def aTgt (pc : Nat) (off : Int) : Nat := ((pc : Int) + off).toNat
def aLd (ls : aL) (i : Nat) : Option Value := match ls[i]? with
  | some (some v) => some v
  | _ => none
/-- a store at i ends a long that lies at i - 1 and i -/
def aKill (ls : aL) (i : Nat) : aL := match i with
  | 0 => ls
  | j + 1 => match ls[j]? with
    | some (some (.long _)) => ls.set j none
    | some (some (.double _)) => ls.set j none
    | _ => ls
def aSt1 (ls : aL) (i : Nat) (v : Value) : aL := (aKill ls i).set i (some v)
def aSt2 (ls : aL) (i : Nat) (v : Value) : aL := ((aKill ls i).set i (some v)).set (i + 1) none
/-- the locals at a method's entry -/
def aArgs : List Value → aL
  | [] => []
  | .long x :: r => some (.long x) :: none :: aArgs r
  | .double x :: r => some (.double x) :: none :: aArgs r
  | v :: r => some v :: aArgs r
def aEntry (maxL : Nat) (vs : List Value) : aL := aArgs vs ++ List.replicate (maxL - (aArgs vs).length) none
def aCmp (c : Jvm.ClassFile.Cond) (x y : Int32) : Bool := match c with
  | .eq => x == y
  | .ne => !(x == y)
  | .lt => decide (x < y)
  | .ge => decide (y ≤ x)
  | .gt => decide (y < x)
  | .le => decide (x ≤ y)
/-- does a value fit a type as it is -/
def aFit (ty : FieldType) (v : Value) : Bool := decide (narrow ty v = v) && fits ty v
/-- slots of a cell -/
def aSl (n : Nat → Nat) (e : aE) : Nat := match e with
  | .inl x => x.2.1
  | .inr x => n x.1
/-- fields of things that were there before: String constants (1 + i, their bytes at 200 + i), the constants of Axis (100 + i) -/
def xFd (a ci k : Nat) : Option Value :=
  if 1 ≤ a ∧ a ≤ aSc0 ∧ ci = 21 then (match k with | 0 => some (.ref (199 + a)) | 1 => some (.int 0) | _ => none)
  else if 100 ≤ a ∧ a < 112 ∧ ci = 20 then (match k with | 0 => some (.ref (xAxW.getD (a - 100) 0)) | 1 => some (.int (xAxB.getD (a - 100) 0)) | _ => none)
  else if 100 ≤ a ∧ a < 112 ∧ ci = 22 ∧ k = 0 then some (.int (Int32.ofNat (a - 100)))
  else none
def xAr (a : Nat) : Option (Nat × vp_A) :=
  if 200 ≤ a ∧ a < 200 + aSc0 then some (4, (xBy.getD (a - 200) []).length, .inl (fun j => (xBy.getD (a - 200) []).getD j 0))
  else if a = 112 then some (7, 12, .inr (.inr (.inr (.inr (fun j => if j < 12 then some (100 + j) else none)))))
  else if a = 113 then some (0, 12, .inl (fun j => Int32.ofNat (j + 1)))
  else none
def xCl (a : Nat) : Option Nat := if 1 ≤ a ∧ a ≤ aSc0 then some 21 else if 100 ≤ a ∧ a < 112 then some 20 else none
/-- how many fields are looked at -/
def aNf (ci : Nat) : Nat := if ci < 10 then aNs ci else 0
/-- a field of the object at a -/
def aFld (A : aH) (a ci k : Nat) : Option Value :=
  if a < 1000 then xFd a ci k else match A[a - 1000]? with
    | some (.inr q) => if q.1 = ci ∧ k < aNf ci then q.2[k]? else none
    | _ => none
def aPut (A : aH) (a ci k : Nat) (v : Value) : Option aH :=
  if a < 1000 then none else match A[a - 1000]? with
    | some (.inr q) => if q.1 = ci ∧ k < aNf ci ∧ k < q.2.length ∧ aFit (aFt ci k) v = true then some (A.set (a - 1000) (.inr (q.1, q.2.set k v))) else none
    | _ => none
/-- an array: its type's number, its length, what it holds; a script of 99999 stands for one that is not read -/
def aArr (sc : aSc) (A : aH) (a : Nat) : Option (Nat × vp_A) :=
  if a = 0 then (if sc.1 = 99999 then none else some (0, sc.1, .inl sc.2.1)) else if a < 1000 then xAr a else match A[a - 1000]? with
    | some (.inl q) => some q
    | _ => none
/-- types of arrays: 0 int, 1 char, 2 boolean, 3 long, 4 byte, from 5 on references -/
def aRdI (sc : aSc) (A : aH) (a : Nat) (t : Nat) (i : Int32) : Option Value := match aArr sc A a with
  | some (t', n, .inl f) => if t' = t ∧ ¬ (i < 0 ∨ n ≤ i.toNatClampNeg) then some (.int (f i.toNatClampNeg)) else none
  | _ => none
def aRdL (sc : aSc) (A : aH) (a : Nat) (i : Int32) : Option Value := match aArr sc A a with
  | some (t', n, .inr (.inl f)) => if t' = 3 ∧ ¬ (i < 0 ∨ n ≤ i.toNatClampNeg) then some (.long (f i.toNatClampNeg)) else none
  | _ => none
def aRdR (sc : aSc) (A : aH) (a : Nat) (i : Int32) : Option Value := match aArr sc A a with
  | some (t', n, .inr (.inr (.inr (.inr f)))) => if 5 ≤ t' ∧ t' < 8 ∧ (a < 1000 ∨ t' < 7) ∧ ¬ (i < 0 ∨ n ≤ i.toNatClampNeg) then some (va_rf (f i.toNatClampNeg)) else none
  | _ => none
def aWrI (A : aH) (a t : Nat) (i x : Int32) : Option aH :=
  if a < 1000 then none else match A[a - 1000]? with
    | some (.inl (t', n, .inl f)) => if t' = t ∧ ¬ (i < 0 ∨ n ≤ i.toNatClampNeg) then some (A.set (a - 1000) (.inl (t', n, .inl (upd f i.toNatClampNeg x)))) else none
    | _ => none
def aWrL (A : aH) (a : Nat) (i : Int32) (x : Int64) : Option aH :=
  if a < 1000 then none else match A[a - 1000]? with
    | some (.inl (t', n, .inr (.inl f))) => if t' = 3 ∧ ¬ (i < 0 ∨ n ≤ i.toNatClampNeg) then some (A.set (a - 1000) (.inl (t', n, .inr (.inl (vp_updL f i.toNatClampNeg x))))) else none
    | _ => none
def aWrR (A : aH) (a : Nat) (i : Int32) (v : Nat) : Option aH :=
  if a < 1000 ∨ v < 1000 then none else match A[a - 1000]? with
    | some (.inl (t, n, .inr (.inr (.inr (.inr f))))) => match A[v - 1000]? with
      | some (.inr q) => if 5 ≤ t ∧ t < 7 ∧ q.1 = aEl t ∧ ¬ (i < 0 ∨ n ≤ i.toNatClampNeg) then some (A.set (a - 1000) (.inl (t, n, .inr (.inr (.inr (.inr (va_up f i.toNatClampNeg (some v)))))))) else none
      | _ => none
    | _ => none
/-- System.arraycopy of ints and chars -/
def aCopy (A : aH) (a0 : Nat) (sp : Int32) (a : Nat) (dp n : Int32) : Option aH :=
  if a0 < 1000 ∨ a < 1000 ∨ sp < 0 ∨ dp < 0 ∨ n < 0 then none else match A[a0 - 1000]? with
    | some (.inl (t, n0, .inl f)) => match A[a - 1000]? with
      | some (.inl (t', n1, .inl g)) => if t' = t ∧ (t = 0 ∨ t = 1) ∧ sp.toNatClampNeg + n.toNatClampNeg ≤ n0 ∧ dp.toNatClampNeg + n.toNatClampNeg ≤ n1 then some (A.set (a - 1000) (.inl (t', n1, .inl (va_cpy f g sp.toNatClampNeg dp.toNatClampNeg n.toNatClampNeg)))) else none
      | _ => none
    | _ => none
/-- references that may be compared -/
def aCp (x y : Nat) : Bool := (decide (1000 ≤ x) && decide (1000 ≤ y)) || (decide (100 ≤ x) && decide (x < 112) && decide (100 ≤ y) && decide (y < 112))
abbrev aC : Type := Nat × aL × List Value × aH
def aBr (b : Bool) (pc tgt : Nat) (ls : aL) (st : List Value) (A : aH) : Option aC := if b = true then some (tgt, ls, st, A) else some (pc + 3, ls, st, A)
def aPush (n pc : Nat) (ls : aL) (v : Option Value) (st : List Value) (A : aH) : Option aC := match v with
  | some v => some (pc + n, ls, v :: st, A)
  | none => none
def aLdI (n pc : Nat) (ls : aL) (i : Nat) (st : List Value) (A : aH) : Option aC := match aLd ls i with
  | some (.int v) => some (pc + n, ls, .int v :: st, A)
  | _ => none
def aLdL (n pc : Nat) (ls : aL) (i : Nat) (st : List Value) (A : aH) : Option aC := match aLd ls i with
  | some (.long v) => some (pc + n, ls, .long v :: st, A)
  | _ => none
def aLdA (n pc : Nat) (ls : aL) (i : Nat) (st : List Value) (A : aH) : Option aC := match aLd ls i with
  | some (.ref v) => some (pc + n, ls, .ref v :: st, A)
  | some .null => some (pc + n, ls, .null :: st, A)
  | _ => none
def aStI (n pc : Nat) (ls : aL) (i : Nat) (st : List Value) (A : aH) : Option aC := match st with
  | .int v :: r => if i < ls.length then some (pc + n, aSt1 ls i (.int v), r, A) else none
  | _ => none
def aStL (n pc : Nat) (ls : aL) (i : Nat) (st : List Value) (A : aH) : Option aC := match st with
  | .long v :: r => if i + 1 < ls.length then some (pc + n, aSt2 ls i (.long v), r, A) else none
  | _ => none
def aStA (n pc : Nat) (ls : aL) (i : Nat) (st : List Value) (A : aH) : Option aC := match st with
  | .ref v :: r => if i < ls.length then some (pc + n, aSt1 ls i (.ref v), r, A) else none
  | .null :: r => if i < ls.length then some (pc + n, aSt1 ls i .null, r, A) else none
  | _ => none
def aI2 (pc : Nat) (ls : aL) (f : Int32 → Int32 → Int32) (st : List Value) (A : aH) : Option aC := match st with
  | .int y :: .int x :: r => some (pc + 1, ls, .int (f x y) :: r, A)
  | _ => none
def aL2 (pc : Nat) (ls : aL) (f : Int64 → Int64 → Int64) (st : List Value) (A : aH) : Option aC := match st with
  | .long y :: .long x :: r => some (pc + 1, ls, .long (f x y) :: r, A)
  | _ => none
def aLS (pc : Nat) (ls : aL) (f : Int64 → Int32 → Int64) (st : List Value) (A : aH) : Option aC := match st with
  | .int y :: .long x :: r => some (pc + 1, ls, .long (f x y) :: r, A)
  | _ => none
/-- what a new array holds -/
def aNewA (t : ArrayType) : Option (Nat × ((Nat → Int32) ⊕ (Nat → Int64) ⊕ (Nat → UInt32) ⊕ (Nat → UInt64) ⊕ (Nat → Option Nat))) := match t with
  | .int => some (0, .inl (fun _ => 0))
  | .char => some (1, .inl (fun _ => 0))
  | .boolean => some (2, .inl (fun _ => 0))
  | .long => some (3, .inr (.inl (fun _ => 0)))
  | _ => none
def aSw (pc : Nat) (dflt lo hi : Int) (offs : Array Int) (x : Int32) : Option Nat :=
  if x.toInt < lo ∨ hi < x.toInt then some (aTgt pc dflt) else (offs[(x.toInt - lo).toNat]?).map (aTgt pc)
/-- one instruction that is no call and no end -/
def aStep (sc : aSc) (i : aI) (pc : Nat) (ls : aL) (st : List Value) (A : aH) : Option aC :=
  match i.1 with
  | .aconst_null => some (pc + 1, ls, .null :: st, A)
  | .iconst n => some (pc + 1, ls, .int (Int32.ofInt n) :: st, A)
  | .bipush n => some (pc + 2, ls, .int (Int8.ofInt n).toInt32 :: st, A)
  | .sipush n => some (pc + 3, ls, .int (Int16.ofInt n).toInt32 :: st, A)
  | .lconst n => some (pc + 1, ls, .long (Int64.ofNat n.val) :: st, A)
  | .ldc _ => some (pc + 2, ls, i.2.2.2 :: st, A)
  | .ldc_w _ => some (pc + 3, ls, i.2.2.2 :: st, A)
  | .ldc2_w _ => some (pc + 3, ls, i.2.2.2 :: st, A)
  | .getstatic _ => some (pc + 3, ls, (if i.2.1 = 1 then sc.2.2 else i.2.2.2) :: st, A)
  | .iload_n k => aLdI 1 pc ls k.val st A
  | .iload k => aLdI 2 pc ls k st A
  | .lload_n k => aLdL 1 pc ls k.val st A
  | .lload k => aLdL 2 pc ls k st A
  | .aload_n k => aLdA 1 pc ls k.val st A
  | .aload k => aLdA 2 pc ls k st A
  | .istore_n k => aStI 1 pc ls k.val st A
  | .istore k => aStI 2 pc ls k st A
  | .lstore_n k => aStL 1 pc ls k.val st A
  | .lstore k => aStL 2 pc ls k st A
  | .astore_n k => aStA 1 pc ls k.val st A
  | .astore k => aStA 2 pc ls k st A
  | .iinc k n => match aLd ls k with
    | some (.int v) => if k < ls.length then some (pc + 3, aSt1 ls k (.int (v + Int32.ofInt n)), st, A) else none
    | _ => none
  | .iadd => aI2 pc ls (fun x y => x + y) st A
  | .isub => aI2 pc ls (fun x y => x - y) st A
  | .imul => aI2 pc ls (fun x y => x * y) st A
  | .iand => aI2 pc ls (fun x y => x &&& y) st A
  | .ior => aI2 pc ls (fun x y => x ||| y) st A
  | .ixor => aI2 pc ls (fun x y => x ^^^ y) st A
  | .ishl => aI2 pc ls (fun x y => x <<< (y &&& 31)) st A
  | .ishr => aI2 pc ls (fun x y => x >>> (y &&& 31)) st A
  | .iushr => aI2 pc ls (fun x y => (x.toUInt32 >>> (y.toUInt32 &&& Int32.toUInt32 31)).toInt32) st A
  | .ineg => match st with
    | .int x :: r => some (pc + 1, ls, .int (-x) :: r, A)
    | _ => none
  | .ladd => aL2 pc ls (fun x y => x + y) st A
  | .lsub => aL2 pc ls (fun x y => x - y) st A
  | .lmul => aL2 pc ls (fun x y => x * y) st A
  | .land => aL2 pc ls (fun x y => x &&& y) st A
  | .lor => aL2 pc ls (fun x y => x ||| y) st A
  | .lxor => aL2 pc ls (fun x y => x ^^^ y) st A
  | .lshl => aLS pc ls (fun x y => x <<< (y.toInt64 &&& 63)) st A
  | .lshr => aLS pc ls (fun x y => x >>> (y.toInt64 &&& 63)) st A
  | .lushr => aLS pc ls (fun x y => (x.toUInt64 >>> (y.toInt64.toUInt64 &&& Int64.toUInt64 63)).toInt64) st A
  | .lneg => match st with
    | .long x :: r => some (pc + 1, ls, .long (-x) :: r, A)
    | _ => none
  | .lcmp => match st with
    | .long y :: .long x :: r => some (pc + 1, ls, .int (lg_cmp x y) :: r, A)
    | _ => none
  | .i2l => match st with
    | .int x :: r => some (pc + 1, ls, .long x.toInt64 :: r, A)
    | _ => none
  | .l2i => match st with
    | .long x :: r => some (pc + 1, ls, .int x.toInt32 :: r, A)
    | _ => none
  | .i2c => match st with
    | .int x :: r => some (pc + 1, ls, .int (x.toUInt32 % 65536).toInt32 :: r, A)
    | _ => none
  | .i2b => match st with
    | .int x :: r => some (pc + 1, ls, .int x.toInt8.toInt32 :: r, A)
    | _ => none
  | .dup => match st with
    | x :: r => if x.category = 1 then some (pc + 1, ls, x :: x :: r, A) else none
    | _ => none
  | .pop => match st with
    | x :: r => if x.category = 1 then some (pc + 1, ls, r, A) else none
    | _ => none
  | .dup_x1 => match st with
    | x :: y :: r => if x.category = 1 ∧ y.category = 1 then some (pc + 1, ls, x :: y :: x :: r, A) else none
    | _ => none
  | .dup_x2 => match st with
    | x :: y :: z :: r => if x.category = 1 ∧ y.category = 1 ∧ z.category = 1 then some (pc + 1, ls, x :: y :: z :: x :: r, A) else none
    | _ => none
  | .dup2 => match st with
    | .long x :: r => some (pc + 1, ls, .long x :: .long x :: r, A)
    | x :: y :: r => if x.category = 1 ∧ y.category = 1 then some (pc + 1, ls, x :: y :: x :: y :: r, A) else none
    | _ => none
  | .pop2 => match st with
    | .long _ :: r => some (pc + 1, ls, r, A)
    | _ => none
  | .ifCond c _ => match st with
    | .int x :: r => aBr (aCmp c x 0) pc i.2.1 ls r A
    | _ => none
  | .if_icmp c _ => match st with
    | .int y :: .int x :: r => aBr (aCmp c x y) pc i.2.1 ls r A
    | _ => none
  | .if_acmp c _ => match st with
    | .ref y :: .ref x :: r => if aCp x y = true then aBr (match c with | .eq => x == y | .ne => !(x == y)) pc i.2.1 ls r A else none
    | .null :: .ref _ :: r => aBr (match c with | .eq => false | .ne => true) pc i.2.1 ls r A
    | .ref _ :: .null :: r => aBr (match c with | .eq => false | .ne => true) pc i.2.1 ls r A
    | .null :: .null :: r => aBr (match c with | .eq => true | .ne => false) pc i.2.1 ls r A
    | _ => none
  | .ifnull _ => match st with
    | .ref _ :: r => some (pc + 3, ls, r, A)
    | .null :: r => some (i.2.1, ls, r, A)
    | _ => none
  | .ifnonnull _ => match st with
    | .ref _ :: r => some (i.2.1, ls, r, A)
    | .null :: r => some (pc + 3, ls, r, A)
    | _ => none
  | .goto _ => some (i.2.1, ls, st, A)
  | .tableswitch d lo hi offs => match st with
    | .int x :: r => match aSw pc d lo hi offs x with
      | some t => some (t, ls, r, A)
      | none => none
    | _ => none
  | .getfield _ => match st with
    | .ref a :: r => aPush 3 pc ls (aFld A a i.2.1 i.2.2.1) r A
    | _ => none
  | .putfield _ => match st with
    | v :: .ref a :: r => match aPut A a i.2.1 i.2.2.1 v with
      | some A' => some (pc + 3, ls, r, A')
      | none => none
    | _ => none
  | .iaload => match st with
    | .int k :: .ref a :: r => aPush 1 pc ls (aRdI sc A a 0 k) r A
    | _ => none
  | .caload => match st with
    | .int k :: .ref a :: r => aPush 1 pc ls (aRdI sc A a 1 k) r A
    | _ => none
  | .baload => match st with
    | .int k :: .ref a :: r => aPush 1 pc ls (aRdI sc A a i.2.1 k) r A
    | _ => none
  | .laload => match st with
    | .int k :: .ref a :: r => aPush 1 pc ls (aRdL sc A a k) r A
    | _ => none
  | .aaload => match st with
    | .int k :: .ref a :: r => aPush 1 pc ls (aRdR sc A a k) r A
    | _ => none
  | .iastore => match st with
    | .int x :: .int k :: .ref a :: r => match aWrI A a 0 k x with
      | some A' => some (pc + 1, ls, r, A')
      | none => none
    | _ => none
  | .castore => match st with
    | .int x :: .int k :: .ref a :: r => match aWrI A a 1 k (vp_nar .char x) with
      | some A' => some (pc + 1, ls, r, A')
      | none => none
    | _ => none
  | .bastore => match st with
    | .int x :: .int k :: .ref a :: r => match aWrI A a 2 k (vp_nar .boolean x) with
      | some A' => some (pc + 1, ls, r, A')
      | none => none
    | _ => none
  | .lastore => match st with
    | .long x :: .int k :: .ref a :: r => match aWrL A a k x with
      | some A' => some (pc + 1, ls, r, A')
      | none => none
    | _ => none
  | .aastore => match st with
    | .ref v :: .int k :: .ref a :: r => match aWrR A a k v with
      | some A' => some (pc + 1, ls, r, A')
      | none => none
    | _ => none
  | .arraylength => match st with
    | .ref a :: r => match aArr sc A a with
      | some q => if q.1 < aTyL.length then some (pc + 1, ls, .int (Int32.ofNat q.2.1) :: r, A) else none
      | none => none
    | _ => none
  | .new _ => some (pc + 3, ls, .ref (1000 + A.length) :: st, A ++ [.inr (i.2.1, aDf i.2.1)])
  | .newarray t => match st with
    | .int n :: r => match aNewA t with
      | some q => if n < 0 ∨ 65536 < n.toNatClampNeg then none else some (pc + 2, ls, .ref (1000 + A.length) :: r, A ++ [.inl (q.1, n.toNatClampNeg, q.2)])
      | none => none
    | _ => none
  | .anewarray _ => match st with
    | .int n :: r => if n < 0 ∨ 65536 < n.toNatClampNeg then none else some (pc + 3, ls, .ref (1000 + A.length) :: r, A ++ [.inl (i.2.1, n.toNatClampNeg, .inr (.inr (.inr (.inr (fun _ => none)))))])
    | _ => none
  | _ => none
/-- the class of an object -/
def aCl (A : aH) (v : Value) : Option Nat := match v with
  | .ref a => if a < 1000 then xCl a else match A[a - 1000]? with
    | some (.inr q) => some q.1
    | _ => none
  | _ => none
/-- the handler that takes an object of class ci thrown at pc -/
def aHdl (hs : List (Nat × Nat × Nat × Nat)) (pc ci : Nat) : Option Nat := match hs with
  | [] => none
  | h :: r => if h.1 ≤ pc ∧ pc < h.2.1 ∧ ci = h.2.2.2 then some h.2.2.1 else aHdl r pc ci
def aKd (i : aI) : Nat := match i.1 with
  | .return_ => 1
  | .ireturn => 2
  | .lreturn => 2
  | .areturn => 2
  | .new _ => if i.2.2.1 = 1 then 3 else 0
  | .invokestatic _ => 4
  | .invokevirtual _ => 4
  | .invokespecial _ => 4
  | _ => 0
/-- may the arguments vs go to method M -/
def aGo (M : Nat) (A : aH) (vs : List Value) : Bool := decide ((aArgs vs).length ≤ aMx M) && match aIc M with
  | none => true
  | some ci => match vs with
    | v :: _ => aCl A v == some ci
    | [] => false
def aRun (sc : aSc) : Nat → Nat → Nat → Nat → aL → List Value → aH → Option (Outcome × aH)
  | 0, _, _, _, _, _, _ => none
  | n + 1, d, M, pc, ls, st, A =>
    match aTb M pc with
    | none => none
    | some i =>
      match aKd i with
      | 0 => match aStep sc i pc ls st A with
        | some q => aRun sc n d M q.1 q.2.1 q.2.2.1 q.2.2.2
        | none => none
      | 1 => match st with
        | [] => if aRt M = none then some (.returned none, A) else none
        | _ => none
      | 2 => match st with
        | [v] => match aRt M with
          | some ty => if aFit ty v = true then some (.returned (some v), A) else none
          | none => none
        | _ => none
      | 3 => if aHx M = [] ∧ (st.map (fun v => v.category)).sum ≤ 40 then some (.threw (1000 + A.length), A ++ [.inr (i.2.1, [])]) else none
      | _ => match d with
        | 0 => none
        | d' + 1 =>
          if (st.map (fun v => v.category)).sum ≤ 40 then
            if i.2.1 = 0 then match st with
              | .ref _ :: r => aRun sc n (d' + 1) M (pc + 3) ls r A
              | _ => none
            else if i.2.1 = 1 then match st with
              | .int n' :: .int dp :: .ref a :: .int sp :: .ref a0 :: r => match aCopy A a0 sp a dp n' with
                | some A' => aRun sc n (d' + 1) M (pc + 3) ls r A'
                | none => none
              | _ => none
            else if i.2.2.1 ≤ st.length ∧ aGo i.2.1 A ((st.take i.2.2.1).reverse) = true then
              match aRun sc n d' i.2.1 0 (aEntry (aMx i.2.1) ((st.take i.2.2.1).reverse)) [] A with
              | some (.returned v, A') => aRun sc n (d' + 1) M (pc + 3) ls (v.toList ++ st.drop i.2.2.1) A'
              | some (.threw a, A') => match aHd M with
                | [] => some (.threw a, A')
                | hs => match aCl A' (.ref a) with
                  | some ci => match aHdl hs pc ci with
                    | some h => aRun sc n (d' + 1) M h ls [.ref a] A'
                    | none => none
                  | none => none
              | none => none
            else none
          else none
