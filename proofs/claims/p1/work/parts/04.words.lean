/-! THE TABLES' WORDS, AND WHAT A ROW OF A METHOD'S TABLE MUST BE -/
/-- words that hold under warmer tables -/
def mvb (w : Cond) : Bool := (w.onTables && w.keepsFace) || match w with
  | .arrayClass _ => true
  | .fieldLinkNest _ _ _ _ _ _ => true
  | .methodLinkNest _ _ _ _ => true
  | .arrayOver (.object _) => true
  | _ => false
theorem mvb_ok {w : Cond} (hm : mvb w = true) {s U : State} (hW : s.WarmedH U.vm) {a a' : Array Value} (h : w.before a s = true) : w.before a' U = true := by
  unfold mvb at hm
  rw [Bool.or_eq_true] at hm
  rcases hm with hm | hm
  · rw [Bool.and_eq_true] at hm
    have h1 := Cond.before_shiftedFace (State.Shifted.of_warmed hW) w hm.2 h
    exact va_tabs hm.1 (rfl : (s.setVm U.vm).vm = U.vm) h1
  · split at hm
    · rename_i ty
      exact word_at hW (Or.inr ⟨ty, rfl⟩) h
    · exact va_Nw.use rfl (va_Nw.warmF hW (va_Nw.of rfl h))
    · exact va_Nw.use rfl (va_Nw.warmM hW (va_Nw.of rfl h))
    · exact va_AO.use (va_AO.moved hW.alike (va_AO.of h))
    · cases hm
def aRn (k : Nat) : List Cond := match k with
  | 0 => k2_sels lw_privs
  | 1 => tables_1_1
  | 2 => tables_1_2
  | 3 => tables_1_3
  | 4 => tables_1_4
  | 5 => tables_1_5
  | 6 => tables_1_6
  | 7 => tables_1_7
  | 8 => tables_1_8
  | _ => []
def aWs : List Cond := lw_tbl.filter mvb
theorem aRn_in {k : Nat} {w : Cond} (h : w ∈ aRn k) : w ∈ lw_tbl := by
  have e : lw_tbl = k2_sels lw_privs ++ (tables_1_1 ++ (tables_1_2 ++ (tables_1_3 ++ (tables_1_4 ++ (tables_1_5 ++ (tables_1_6 ++ (tables_1_7 ++ tables_1_8))))))) := rfl
  rw [e]
  unfold aRn at h
  simp only [List.mem_append]
  split at h <;> simp_all
def aHas (h : Nat × Nat) (w : Cond) : Bool := decide ((aRn h.1)[h.2]? = some w) && mvb w
theorem aHas_ok {h : Nat × Nat} {w : Cond} (hh : aHas h w = true) : w ∈ aWs := by
  simp only [aHas, Bool.and_eq_true, decide_eq_true_eq] at hh
  exact List.mem_filter.mpr ⟨aRn_in (List.mem_of_getElem? hh.1), hh.2⟩
theorem aWmv (w : Cond) (hw : w ∈ aWs) {s U : State} (hW : s.WarmedH U.vm) {a a' : Array Value} (h : w.before a s = true) : w.before a' U = true := mvb_ok (List.mem_filter.mp hw).2 hW h
def aLen (i : aI) : Nat := match i.1 with
  | .bipush _ | .ldc _ | .iload _ | .lload _ | .aload _ | .istore _ | .lstore _ | .astore _ | .newarray _ => 2
  | .sipush _ | .ldc_w _ | .ldc2_w _ | .getstatic _ | .iinc _ _ | .ifCond _ _ | .if_icmp _ _ | .if_acmp _ _ | .ifnull _ | .ifnonnull _ | .goto _ | .getfield _ | .putfield _ | .new _ | .anewarray _ | .invokestatic _ | .invokevirtual _ | .invokespecial _ => 3
  | .tableswitch _ _ _ _ => i.2.1
  | _ => 1
def hAt (hs : List (Nat × Nat)) (k : Nat) : Nat × Nat := hs.getD k (9, 0)
/-- a field by its class's number and its place, linked from the class of method M -/
def aLkB (M idx ci k : Nat) (h : Nat × Nat) : Bool := aHas h (.fieldLink (aOw M) idx (fnT ci k).1 (fnT ci k).2.1 (fnT ci k).2.2.1) || aHas h (.fieldLinkNest (aOw M) idx (fnT ci k).1 (fnT ci k).2.1 (fnT ci k).2.2.1 "TreeStore")
def aLk (M idx ci k : Nat) : Prop := Cond.fieldLink (aOw M) idx (fnT ci k).1 (fnT ci k).2.1 (fnT ci k).2.2.1 ∈ aWs ∨ Cond.fieldLinkNest (aOw M) idx (fnT ci k).1 (fnT ci k).2.1 (fnT ci k).2.2.1 "TreeStore" ∈ aWs
theorem aLkB_ok {M idx ci k : Nat} {h : Nat × Nat} (hh : aLkB M idx ci k h = true) : aLk M idx ci k := by
  simp only [aLkB, Bool.or_eq_true] at hh
  rcases hh with h1 | h1
  · exact Or.inl (aHas_ok h1)
  · exact Or.inr (aHas_ok h1)
def aMlB (M idx : Nat) (y : MethodName) (h : Nat × Nat) : Bool := aHas h (.methodLink (aOw M) idx y) || aHas h (.methodLinkNest (aOw M) idx y "TreeStore")
def aMl (M idx : Nat) (y : MethodName) : Prop := Cond.methodLink (aOw M) idx y ∈ aWs ∨ Cond.methodLinkNest (aOw M) idx y "TreeStore" ∈ aWs
theorem aMlB_ok {M idx : Nat} {y : MethodName} {h : Nat × Nat} (hh : aMlB M idx y h = true) : aMl M idx y := by
  simp only [aMlB, Bool.or_eq_true] at hh
  rcases hh with h1 | h1
  · exact Or.inl (aHas_ok h1)
  · exact Or.inr (aHas_ok h1)
/-- a method's parameters, without the receiver -/
def aPn (M : Nat) : Option Nat := (parseMethodDescriptor (aNm M).desc).map (fun d => d.parameters.length)
def aThrNames : List String := ["java/lang/RuntimeException", "java/lang/Exception"]
/-- the class's name of a number, also of those that were there before -/
def aCn (ci : Nat) : String := match ci with
  | 20 => "TreeStore$Axis"
  | 21 => "java/lang/String"
  | _ => match aCls[ci]? with
    | some r => r.1
    | none => ""
def aOrd : MethodName := ⟨"TreeStore$Axis", "ordinal", "()I"⟩
def eOrd : MethodName := ⟨"java/lang/Enum", "ordinal", "()I"⟩
def aOkB (M pc : Nat) (i : aI) (hs : List (Nat × Nat)) : Bool := decide (decode (aBy M) pc = .ok (i.1, aLen i)) && match i.1 with
  | .ifCond _ off => decide ((pc : Int) + off = (i.2.1 : Int))
  | .if_icmp _ off => decide ((pc : Int) + off = (i.2.1 : Int))
  | .if_acmp _ off => decide ((pc : Int) + off = (i.2.1 : Int))
  | .ifnull off => decide ((pc : Int) + off = (i.2.1 : Int))
  | .ifnonnull off => decide ((pc : Int) + off = (i.2.1 : Int))
  | .goto off => decide ((pc : Int) + off = (i.2.1 : Int))
  | .tableswitch d _ _ offs => decide (0 ≤ (pc : Int) + d) && offs.toList.all (fun o => decide (0 ≤ (pc : Int) + o))
  | .getfield idx => aLkB M idx i.2.1 i.2.2.1 (hAt hs 0)
  | .putfield idx => aLkB M idx i.2.1 i.2.2.1 (hAt hs 0) && (!(aFn i.2.1 i.2.2.1) || ((aNm M).name == "<init>" && (fnT i.2.1 i.2.2.1).1 == aOw M && aHas (hAt hs 0) (.fieldLink (aOw M) idx (fnT i.2.1 i.2.2.1).1 (fnT i.2.1 i.2.2.1).2.1 (fnT i.2.1 i.2.2.1).2.2.1)))
  | .getstatic idx => if i.2.1 = 1 then aHas (hAt hs 0) (.fieldLink (aOw M) idx "jdk/internal/util/Preconditions" "SIOOBE_FORMATTER" "Ljava/util/function/BiFunction;")
      else aSta0.any (fun q => decide (q.2.2.2 = i.2.2.2) && (aHas (hAt hs 0) (.fieldLink (aOw M) idx q.1 q.2.1 q.2.2.1) || aHas (hAt hs 0) (.fieldLinkNest (aOw M) idx q.1 q.2.1 q.2.2.1 "TreeStore")))
  | .ldc idx => match i.2.2.2 with
    | .int z => aHas (hAt hs 0) (.constant (aOw M) idx z)
    | .ref a => decide (a < 1000) && (match aStr[i.2.2.1]? with | some q => q.1 == aOw M && q.2.1 == idx && q.2.2.2 == a | none => false)
    | _ => false
  | .ldc_w idx => match i.2.2.2 with
    | .int z => aHas (hAt hs 0) (.constant (aOw M) idx z)
    | _ => false
  | .ldc2_w idx => match i.2.2.2 with
    | .long z => aHas (hAt hs 0) (.constantLong (aOw M) idx z)
    | _ => false
  | .new idx => match aCls[i.2.1]? with
    | some r => aHas (hAt hs 0) (.classLink (aOw M) idx r.1) && aHas (hAt hs 1) (.instantiable r.1 (aNs i.2.1)) && aHas (hAt hs 2) (.initialized r.1) && (i.2.2.1 == 1 || aNs i.2.1 == r.2.2)
    | none => false
  | .newarray t => aHas (hAt hs 0) (.arrayClass (newarray.typeOf t))
  | .anewarray idx => match aTyL[i.2.1]? with
    | some (.object C) => decide (5 ≤ i.2.1 ∧ i.2.1 < 7) && aHas (hAt hs 0) (.classLink (aOw M) idx C) && aHas (hAt hs 1) (.arrayOver (.object C))
    | _ => false
  | .baload => i.2.1 == 2 || i.2.1 == 4
  | .invokestatic idx => if i.2.1 = 1 then aHas (hAt hs 0) (.methodLink (aOw M) idx arraycopyName)
      else decide (3 ≤ i.2.1) && aMlB M idx (aNm i.2.1) (hAt hs 0) && aHas (hAt hs 1) (.static (aNm i.2.1)) && aHas (hAt hs 2) (.initialized (aNm i.2.1).cls) && aPn i.2.1 == some i.2.2.1 && aIc i.2.1 == none
  | .invokevirtual idx => decide (3 ≤ i.2.1) && aHas (hAt hs 1) (.instanceMethod (aNm i.2.1)) && (match aPn i.2.1 with | some k => k + 1 == i.2.2.1 | none => false) &&
      ((aMlB M idx (aNm i.2.1) (hAt hs 0) && aHas (hAt hs 2) (.selects (aNm i.2.1).cls (aNm i.2.1) (aNm i.2.1)) && (match aIc i.2.1 with | some ci => aCn ci == (aNm i.2.1).cls | none => false)) ||
        (decide (aNm i.2.1 = eOrd) && aHas (hAt hs 0) (.methodLink (aOw M) idx aOrd) && aHas (hAt hs 2) (.selects aOrd.cls aOrd eOrd) && aHas (hAt hs 3) (.sameMethod aOrd.cls eOrd.cls aOrd.name aOrd.desc) && aIc i.2.1 == some 20))
  | .invokespecial idx => if i.2.1 = 0 then aHas (hAt hs 0) (.methodLink (aOw M) idx objectInit)
      else decide (3 ≤ i.2.1) && aMlB M idx (aNm i.2.1) (hAt hs 0) && aHas (hAt hs 1) (.instanceMethod (aNm i.2.1)) && (aNm i.2.1).name == "<init>" && (match aPn i.2.1 with | some k => k + 1 == i.2.2.1 | none => false) && (aIc i.2.1).isSome
  | _ => true
