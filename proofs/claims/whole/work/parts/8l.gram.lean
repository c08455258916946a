/-! THE GRAMMAR OF PATHS, read as meanings -/
def lits (w : Nat) : List Int32 := (List.range (slen w)).map (schr w)
def axF (w : List Int32) : Nat → Nat → Option Nat
  | _, 0 => none
  | j, m + 1 => if w = lits (xAxW.getD j 0) then some j else axF w (j + 1) m
def axN (w : List Int32) : Option Nat := axF w 0 12
def kdT (w : List Int32) : Option Nat := if w = lits 45 then some 2 else if w = lits 46 then some 3 else if w = lits 47 then some 4 else none
def fnW (w : List Int32) : Nat := if w = lits 50 then 1 else if w = lits 51 then 2 else if w = lits 52 then 3 else if w = lits 53 then 7 else 0
def bgS (c : Int32) : Bool := decide (c = 46) || (decide (c = 64) || (decide (c = 42) || isLet c))
def isNq (c : Int32) : Bool := !decide (c = 39) && !decide (c = 0)
section GRM
variable (ns : List Nd) (b : List Int32)
def nmW (p : Nat) : List Int32 := stre b p (nmE b p - p)
def rdA (p : Nat) : Option (Nat × Nat) :=
  if b.getD p 0 = 64 then some (5, p + 1)
  else if nmE b p = p then some (0, p)
  else if b.getD (nmE b p) 0 = 58 ∧ b.getD (nmE b p + 1) 0 = 58 then (match axN (nmW b p) with
    | none => none
    | some a => some (a, nmE b p + 2))
  else some (0, p)
def rdK (p : Nat) : Option ((Nat × Nat × Nat) × Nat) :=
  if b.getD p 0 = 42 then some ((1, 0, 0), p + 1)
  else if nmE b p = p then none
  else if b.getD (nmE b p) 0 = 40 then
    (if b.getD (nmE b p + 1) 0 = 41 then (match kdT (nmW b p) with
      | none => none
      | some t => some ((t, 0, 0), nmE b p + 2)) else none)
  else some ((0, p, nmE b p - p), nmE b p)
def rdQ (E : Nat → Option (Nat × Ev)) : Nat → Nat → Option (Nat × List Ev)
  | 0, _ => none
  | n + 1, p => if b.getD p 0 = 91 then (match E (p + 1) with
      | none => none
      | some x => if b.getD x.1 0 = 93 then (match rdQ E n (x.1 + 1) with
          | none => none
          | some y => some (y.1, x.2 :: y.2)) else none)
    else some (p, [])
def rdS (E : Nat → Option (Nat × Ev)) (p : Nat) : Option (Nat × Sm) :=
  if b.getD p 0 = 46 then
    (if b.getD (p + 1) 0 = 46 then some (p + 2, stpM ns b 2 4 0 0 []) else some (p + 1, stpM ns b 4 4 0 0 []))
  else match rdA b p with
    | none => none
    | some x => match rdK b x.2 with
      | none => none
      | some y => match rdQ b E 130 y.2 with
        | none => none
        | some z => some (z.1, stpM ns b x.1 y.1.1 y.1.2.1 y.1.2.2 z.2)
def dsS (p : Nat) (ss : List Sm) : List Sm := if b.getD p 0 = 47 then stpM ns b 10 4 0 0 [] :: ss else ss
def dsP (p : Nat) : Nat := if b.getD p 0 = 47 then p + 1 else p
def rdL (E : Nat → Option (Nat × Ev)) : Nat → Nat → Option (Nat × List Sm)
  | 0, _ => none
  | n + 1, p => match rdS ns b E (dsP b p) with
    | none => none
    | some x => if b.getD x.1 0 = 47 then (match rdL E n (x.1 + 1) with
        | none => none
        | some y => some (y.1, dsS ns b p (x.2 :: y.2)))
      else some (x.1, dsS ns b p [x.2])
def rdP (E : Nat → Option (Nat × Ev)) (p : Nat) : Option (Nat × Sm) :=
  if b.getD p 0 = 47 then
    (if b.getD (p + 1) 0 = 47 ∨ bgS (b.getD (p + 1) 0) = true then (match rdL ns b E 130 (p + 1) with
      | none => none
      | some x => some (x.1, pthM ns true x.2))
    else some (p + 1, pthM ns true []))
  else match rdL ns b E 130 p with
    | none => none
    | some x => some (x.1, pthM ns false x.2)
def dgC (p : Nat) : Nat → Nat
  | 0 => 0
  | m + 1 => if isDig (b.getD p 0) = true then dgC (p + 1) m + 1 else 0
def rdN (p : Nat) : Option (Nat × Ev) := some (p + dgC b p 6, fun _ _ _ => vN (some (dgN b p (dgC b p 6) : Int)))
def rdT1 (p : Nat) : Option (Nat × Ev) := if skp isNq b (p + 1) < b.length then some (skp isNq b (p + 1) + 1, fun _ _ _ => vT (stre b (p + 1) (skp isNq b (p + 1) - (p + 1)))) else none
def asE (x : Option (Nat × Sm)) : Option (Nat × Ev) := match x with
  | none => none
  | some y => some (y.1, ptM y.2)
def rdO (P P' : Nat → Option (Nat × Sm)) (E' : Nat → Option (Nat × Ev)) (p : Nat) : Option (Nat × Ev) :=
  if isDig (b.getD p 0) = true then rdN b p
  else if b.getD p 0 = 39 then rdT1 b p
  else if ¬ nmE b p = p ∧ b.getD (nmE b p) 0 = 40 then
    (if fnW (nmW b p) = 1 then (if b.getD (nmE b p + 1) 0 = 41 then some (nmE b p + 2, fun _ x _ => vN (some (x : Int))) else none)
    else if fnW (nmW b p) = 2 then (if b.getD (nmE b p + 1) 0 = 41 then some (nmE b p + 2, fun _ _ x => vN (some (x : Int))) else none)
    else if fnW (nmW b p) = 3 then (match P' (nmE b p + 1) with
      | none => none
      | some x => if b.getD x.1 0 = 41 then some (x.1 + 1, ctM ns x.2) else none)
    else if fnW (nmW b p) = 7 then (match E' (nmE b p + 1) with
      | none => none
      | some x => if b.getD x.1 0 = 41 then some (x.1 + 1, ntM x.2) else none)
    else asE (P p))
  else asE (P p)
def isSg (c : Int32) : Prop := c = 43 ∨ c = 45
def rdM (O : Nat → Option (Nat × Ev)) : Nat → Nat → Option (Nat × List (Bool × Ev))
  | 0, _ => none
  | n + 1, p => if b.getD p 0 = 43 ∨ b.getD p 0 = 45 then (match O (p + 1) with
      | none => none
      | some x => match rdM O n x.1 with
        | none => none
        | some y => some (y.1, (decide (b.getD p 0 = 45), x.2) :: y.2))
    else some (p, [])
def rdU (O : Nat → Option (Nat × Ev)) (p : Nat) : Option (Nat × Ev) := match O p with
  | none => none
  | some x => if b.getD x.1 0 = 43 ∨ b.getD x.1 0 = 45 then (match rdM b O 130 x.1 with
      | none => none
      | some y => some (y.1, smM ns ((false, x.2) :: y.2)))
    else some x
def cmO (p : Nat) : Option (Option Nat × Nat) :=
  if b.getD p 0 = 61 then some (some 0, p + 1)
  else if b.getD p 0 = 60 then some (some 2, p + 1)
  else if b.getD p 0 = 62 then some (some 3, p + 1)
  else if b.getD p 0 = 33 then (if b.getD (p + 1) 0 = 61 then some (some 1, p + 2) else none)
  else some (none, p)
def rdX (O : Nat → Option (Nat × Ev)) (p : Nat) : Option (Nat × Ev) := match rdU ns b O p with
  | none => none
  | some x => match cmO b x.1 with
    | none => none
    | some z => match z.1 with
      | none => some x
      | some o => match rdU ns b O z.2 with
        | none => none
        | some y => some (y.1, cmM ns o x.2 y.2)
def lev : Nat → (Nat → Option (Nat × Sm)) × (Nat → Option (Nat × Ev))
  | 0 => (fun _ => none, fun _ => none)
  | k + 1 => (rdP ns b (lev k).2, rdX ns b (rdO ns b (rdP ns b (lev k).2) (lev k).1 (lev k).2))
/-- an operand one level above k -/
def opL (k : Nat) : Nat → Option (Nat × Ev) := rdO ns b (rdP ns b (lev ns b k).2) (lev ns b k).1 (lev ns b k).2
def qry : Option Sm := match (lev ns b 5).1 0 with
  | none => none
  | some x => if x.1 = b.length then some x.2 else none
end GRM
theorem lev_1 {ns : List Nd} {b : List Int32} {k : Nat} : (lev ns b (k + 1)).1 = rdP ns b (lev ns b k).2 := rfl
theorem lev_2 {ns : List Nd} {b : List Int32} {k : Nat} : (lev ns b (k + 1)).2 = rdX ns b (opL ns b k) := rfl
