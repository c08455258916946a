/-! A METHOD'S END AND ITS CALLS -/
def tO (ad : Nat → Nat) (sz : Nat) (o : Outcome) : Outcome := match o with
  | .returned v => .returned (v.map (tV ad sz))
  | .threw a => .threw (tA ad sz a)
def aQ (ad : Nat → Nat) (sz : Nat) (D : va_G) (dA : Nat → ClassId) (below : List Frame) (s : State) (a0 s0 : Nat) (o : Outcome) (A' : aH) (t : State) : Prop :=
  t.status = .running ∧ Ended t below (tO ad sz o) ∧ s.WarmedH t.vm ∧ (∃ L, s.sameButNew ({ t with vm := s.vm } : State) L (A'.length - a0) (aSum A' - s0) ∧ ∀ q ∈ L, sz ≤ q.base) ∧ tH D dA ad sz A' t.heap ∧ va_F (fun q => sz ≤ q) s t
section SNE
variable {p : Program} {l : Launch} {e : Env} {R : Room} {s : State} {m : MethodId} {args : Array Value} {below : List Frame} {meth : Method} {c : Code} {H : Heap} {locs : List Loc} {Q Q' : State → Prop}
variable {ad : Nat → Nat} {sz a0 s0 : Nat} {D : va_G} {dA : Nat → ClassId} {sc : aSc} {lsA : Array Slot} {M pc : Nat} {ls : aL} {A : aH}
theorem wMono {cells slots : Nat} {g : JFrame} (h : ∀ t, Q t → Q' t) (k : W p l e R s m args below meth c H locs cells slots Q g) : W p l e R s m args below meth c H locs cells slots Q' g :=
  fun T hT X => by
    obtain ⟨t, a, b⟩ := k T hT X
    exact ⟨t, a, h t b⟩
/-- what a returning row of the kit gives -/
theorem aMQ {o : Outcome} (t : State) (h : MQ below (fun _ s' o' t' => o' = tO ad sz o ∧ tH D dA ad sz A t'.heap ∧ va_F (fun q => sz ≤ q) s' t') args s (A.length - a0) (aSum A - s0) (fun q => sz ≤ q) t) : aQ ad sz D dA below s a0 s0 o A t := by
  obtain ⟨o', h1, h2, ⟨rfl, h4, h5⟩, L, ⟨-, h7, h8⟩, h9⟩ := h
  exact ⟨h1, h2, h7, ⟨L, h8, h9⟩, h4, h5⟩
theorem q_ret0 (hx : p.tables.exec = Jvm.exec) (hb : c.code = aBy M) (hlocks : meth.locks = false) (hr : meth.sig.returnType = none) (hH : tH D dA ad sz A H) (hS : va_S (fun q => sz ≤ q) s.heap H locs) (hdg : decode (aBy M) pc = .ok (.return_, 1)) :
    W p l e R s m args below meth c H locs (A.length - a0) (aSum A - s0) (aQ ad sz D dA below s a0 s0 (.returned none) A) (F0 m pc lsA []) :=
  wMono aMQ (W.vret hx hb hr (fun t ht _ => ⟨rfl, by rw [ht]; exact hH, hS.F ht⟩) hS.2.2 hdg hlocks)
theorem q_retI (hx : p.tables.exec = Jvm.exec) (hb : c.code = aBy M) (hlocks : meth.locks = false) {ty : FieldType} (hr : meth.sig.returnType = some ty) {v : Int32} (hf : aFit ty (.int v) = true) (hH : tH D dA ad sz A H) (hS : va_S (fun q => sz ≤ q) s.heap H locs) (hdg : decode (aBy M) pc = .ok (.ireturn, 1)) :
    W p l e R s m args below meth c H locs (A.length - a0) (aSum A - s0) (aQ ad sz D dA below s a0 s0 (.returned (some (.int v))) A) (F0 m pc lsA [tV ad sz (.int v)]) :=
  wMono aMQ (W.zret (v := v) hx hb hr (aFit_ok (ad := ad) (sz := sz) hf).1 (fun t ht _ => ⟨rfl, by rw [ht]; exact hH, hS.F ht⟩) hS.2.2 hdg hlocks)
theorem q_retL (hx : p.tables.exec = Jvm.exec) (hb : c.code = aBy M) (hlocks : meth.locks = false) (hr : meth.sig.returnType = some .long) {v : Int64} (hH : tH D dA ad sz A H) (hS : va_S (fun q => sz ≤ q) s.heap H locs) (hdg : decode (aBy M) pc = .ok (.lreturn, 1)) :
    W p l e R s m args below meth c H locs (A.length - a0) (aSum A - s0) (aQ ad sz D dA below s a0 s0 (.returned (some (.long v))) A) (F0 m pc lsA [tV ad sz (.long v)]) :=
  wMono aMQ (W.lret (v := v) hx hb hr (fun t ht _ => ⟨rfl, by rw [ht]; exact hH, hS.F ht⟩) hS.2.2 hdg hlocks)
theorem q_retA (hx : p.tables.exec = Jvm.exec) (hb : c.code = aBy M) (hlocks : meth.locks = false) {ty : FieldType} (hr : meth.sig.returnType = some ty) (hty : (∃ n, ty = .object n) ∨ ∃ t, ty = .array t) {v : Value} (hv : v = .null ∨ ∃ a, v = .ref a) (hH : tH D dA ad sz A H) (hS : va_S (fun q => sz ≤ q) s.heap H locs) (hdg : decode (aBy M) pc = .ok (.areturn, 1)) :
    W p l e R s m args below meth c H locs (A.length - a0) (aSum A - s0) (aQ ad sz D dA below s a0 s0 (.returned (some v)) A) (F0 m pc lsA [tV ad sz v]) :=
  wMono aMQ (W.aret hx hb hr hty (by rcases hv with rfl | ⟨a, rfl⟩; exact Or.inl rfl; exact Or.inr ⟨_, rfl⟩) (fun t ht _ => ⟨rfl, by rw [ht]; exact hH, hS.F ht⟩) hS.2.2 hdg hlocks)
end SNE
section SNC
variable {p : Program} {l : Launch} {e : Env} {R : Room} {s : State} {m : MethodId} {args : Array Value} {below : List Frame} {meth : Method} {c : Code} {T : State} {locs : List Loc} {cells slots : Nat}
variable {ad : Nat → Nat} {sz a0 s0 : Nat} {D : va_G} {dA : Nat → ClassId} {sc : aSc} {A A1 : aH}
/-- what a callee's tables must say -/
def aCd (M : Nat) : Prop := (aHx M = [] ∧ Cond.code (aNm M) (aBy M) (aMx M) (aRt M) ∈ aWs) ∨ Cond.codeWith (aNm M) (aBy M) (aMx M) (aRt M) (aHx M) ∈ aWs
/-- a method's own words give its code -/
theorem mInfo (hW : gW s) {M : Nat} (hcd : aCd M) : ∃ mk methk ck, s.methodNamed? (aNm M) = some mk ∧ s.vm.method? mk = some methk ∧ methk.code = some ck ∧ aFr M s mk methk ck ∧ parseMethodDescriptor (aNm M).desc = some methk.sig := by
  rcases hcd with ⟨h1, h2⟩ | h2
  · obtain ⟨mk, hn⟩ := Cond.code_named (hW _ h2 #[])
    obtain ⟨methk, ck, q1, q2, q3, q4, q5, q6, q7, q8⟩ := Cond.code_spec hn (hW _ h2 #[])
    refine ⟨mk, methk, ck, hn, q1, q2, ⟨q3, q4, q5, q6, findClass_of_methodNamed hn, (name_of_methodNamed hn q1).1, ?_⟩, q8⟩
    rw [h1]
    simpa using q7
  · obtain ⟨mk, methk, ck, hn, q1, q2, q3, q4, q5, q6, q7, q8⟩ := Cond.codeWith_spec (hW _ h2 #[])
    exact ⟨mk, methk, ck, hn, q1, q2, ⟨q3, q4, q6, q7, findClass_of_methodNamed hn, (name_of_methodNamed hn q1).1, q5⟩, q8⟩
theorem gZ1.moved {U : State} {H1 : Heap} {O f d : String} (hW : s.WarmedH U.vm) (hq : ∀ a : Nat, a < s.heap.size → ¬ sz ≤ a → H1[a]? = s.heap[a]?) (h : gZ1 sz s s.heap O f d) : gZ1 sz U H1 O f d := by
  obtain ⟨c, k, i, fd, a, cell, v, h1, h2, h3, h4, h5, h6, h7, h8, h9, h10, h11, h12⟩ := h
  obtain ⟨k', hi', hek⟩ := State.fieldFound?_setVm hW.alike h2
  exact ⟨c, k', i, fd, a, cell, v, by rw [hW.alike.findClass]; exact h1, hi', h3, by rw [hek]; exact h4, by rw [hq a (Array.getElem?_eq_some_iff.mp h5).1 (by omega)]; exact h5, h6, h7, h8, by rw [hek]; exact h9, h10, h11, h12⟩
theorem gX.moved {U : State} {H1 : Heap} (hW : s.WarmedH U.vm) (hq : ∀ a : Nat, a < s.heap.size → ¬ sz ≤ a → H1[a]? = s.heap[a]?) (h : gX ad sz sc s s.heap) : gX ad sz sc U H1 := by
  obtain ⟨h1, h2, h3, h4, h5, h6, h7⟩ := h
  refine ⟨fun a ci k v q => ((h1 a ci k v q).moved hW.alike).kept hq, fun a q ha q1 => ?_, fun a ci q => ((h3 a ci q).moved hW.alike).kept hq, fun q hq1 => ((h4 q hq1).moved hW.alike).kept hq, fun q hq1 => (h5 q hq1).warm hW, h6.moved hW hq, h7.moved hW hq⟩
  obtain ⟨ty, g1, g2⟩ := h2 a q ha q1
  exact ⟨ty, g1, (g2.moved hW.alike).kept hq⟩
theorem gG.call (hG : gG ad sz D dA sc s) (X : Stand p l e R s m args below meth c T locs cells slots) (hS : va_S (fun q => sz ≤ q) s.heap T.heap locs) (g : JFrame) (mk : MethodId) (a : Array Value) : gG ad sz D dA sc (T.calling g mk a) := by
  have hW : s.WarmedH (T.calling g mk a).vm := X.warmed
  exact ⟨fun w hw a' => aWmv w hw hW (hG.1 w hw #[]), va_K.moved hW.alike hG.2.1, gX.moved hW hS.2.1 hG.2.2⟩
theorem sMore {t : State} {L : List Loc} {g : JFrame} {mk : MethodId} {a : Array Value} (hS : va_S (fun q => sz ≤ q) s.heap T.heap locs) (hF : va_F (fun q => sz ≤ q) (T.calling g mk a) t) (hL : ∀ q ∈ L, sz ≤ q.base) : va_S (fun q => sz ≤ q) s.heap t.heap (locs ++ L) := by
  have h0 : (T.calling g mk a).heap = T.heap := rfl
  rw [va_F, h0] at hF
  refine ⟨Nat.le_trans hS.1 hF.1, fun q h1 h2 => (hF.2 q (Nat.lt_of_lt_of_le h1 hS.1) h2).trans (hS.2.1 q h1 h2), fun q hq => ?_⟩
  rcases List.mem_append.mp hq with h | h
  · exact hS.2.2 q h
  · exact hL q h
/-- A CALL: the callee's walk, and back, or out by what it throws -/
theorem aCall {g : JFrame} {ig : Instr} {M' d : Nat} {mk : MethodId} {vs : List Value} {o1 : Outcome} {N : State → Prop} (hN : ∀ U : State, s.WarmedH U.vm → N U)
    (X : Stand p l e R s m args below meth c T locs (A.length - a0) (aSum A - s0)) (hG : gG ad sz D dA sc s) (hsz : s.heap.size = sz + a0) (ha0 : a0 ≤ A.length) (hs0 : s0 ≤ aSum A) (hH : tH D dA ad sz A T.heap) (hS : va_S (fun q => sz ≤ q) s.heap T.heap locs)
    (hg : g.method = m) (hgs : g.locals.size = c.maxLocals) (hmr : g.monitorRoom = 0) (hst : (g.stack.map fun v => v.category).sum ≤ 40) (hdg : decode c.code g.pc = .ok (ig, 3))
    (hcd : aCd M') (hmx : aMx M' ≤ 40) (hpl : plainFor (aNm M') = true) (hn : s.methodNamed? (aNm M') = some mk)
    (hA1 : A.length ≤ A1.length) (hS1 : aSum A ≤ aSum A1) (hc : A1.length ≤ a0 + R.cells) (hs : aSum A1 ≤ s0 + R.slots) (hfr : d + 9 ≤ R.frames) (hlo : 100 * (d + 2) ≤ R.locals)
    (hcal : ∀ (R' : Room) (s' : State) (methk : Method) (ck : Code) (below' : List Frame), aFr M' s' mk methk ck → gG ad sz D dA sc s' → N s' → s'.heap.size = sz + A.length → tH D dA ad sz A s'.heap → d + 8 ≤ R'.frames → 100 * (d + 1) ≤ R'.locals → A1.length ≤ A.length + R'.cells → aSum A1 ≤ aSum A + R'.slots →
      W p l e R' s' mk (vs.map (tV ad sz)).toArray below' methk ck s'.heap [] 0 0 (aQ ad sz D dA below' s' A.length (aSum A) o1 A1) (entryFrame mk (vs.map (tV ad sz)).toArray (aMx M'))) :
    ∃ (t T' : State) (L : List Loc), (∀ acts, Steps p.tables e below (doInvoke e (T.setTop g) acts mk (vs.map (tV ad sz)).toArray).1 t) ∧ Stand p l e R s m args below meth c T' (locs ++ L) (A1.length - a0) (aSum A1 - s0) ∧ tH D dA ad sz A1 T'.heap ∧ va_S (fun q => sz ≤ q) s.heap T'.heap (locs ++ L) ∧
      match o1 with
      | .returned v => t = T'.setTop { g with pc := g.pc + 3, stack := (v.map (tV ad sz)).toList ++ g.stack }
      | .threw x => t = (T'.setTop g).pushFrame (.throwing (tA ad sz x)) := by
  obtain ⟨mk', methk, ck, hn', q1, q2, hF, hsig⟩ := mInfo hG.1 hcd
  cases hn.symm.trans hn'
  have al := X.warmed.alike
  have q1' : T.vm.method? mk = some methk := by rw [al.method?]; exact q1
  have hml : ck.maxLocals = aMx M' := hF.2.1
  have hTsz : T.heap.size = sz + A.length := by
    have h1 := X.heapSize
    have h2 := hH.lb (by have := hS.1; omega)
    omega
  obtain ⟨Y, hin⟩ := X.into hg hgs hdg (vs.map (tV ad sz)).toArray (R' := { frames := R.frames - 1, cells := A1.length - A.length, slots := aSum A1 - aSum A, locals := R.locals - 100 }) q1' q2 hF.2.2.2.1 (State.plainMethod.of_named hpl (X.named hn) q1')
    (by show R.frames - 1 + 1 ≤ R.frames; omega) (by rw [hmr, hml]; show 2 * 0 + _ + (aMx M' + 11) + (R.locals - 100) ≤ R.locals; omega) (by show _ + (A1.length - A.length) ≤ _; omega) (by show _ + (aSum A1 - aSum A) ≤ _; omega)
  have hF' : aFr M' (T.calling g mk (vs.map (tV ad sz)).toArray) mk methk ck := by
    obtain ⟨f1, f2, f3, f4, f5, f6, f7⟩ := hF
    refine ⟨f1, f2, f3, f4, ?_, f6, f7⟩
    show T.vm.findClass _ = _
    rw [al.findClass]
    exact f5
  obtain ⟨t, st, b1, b2, b3, ⟨L, b4, b5⟩, b6, b7⟩ := hcal { frames := R.frames - 1, cells := A1.length - A.length, slots := aSum A1 - aSum A, locals := R.locals - 100 } (T.calling g mk (vs.map (tV ad sz)).toArray) methk ck (.java g :: below) hF' (hG.call X hS g mk _) (hN _ X.warmed) hTsz hH (by show d + 8 ≤ R.frames - 1; omega) (by show _ ≤ R.locals - 100; omega) (by show _ ≤ A.length + (A1.length - A.length); omega) (by show _ ≤ aSum A + (aSum A1 - aSum A); omega) ((T.setTop g).pushFrame (.java (entryFrame mk (vs.map (tV ad sz)).toArray ck.maxLocals))) rfl Y
  have hS' := sMore hS b7 b5
  have n1 : A.length - a0 + (A1.length - A.length) = A1.length - a0 := by omega
  have n2 : aSum A - s0 + (aSum A1 - aSum A) = aSum A1 - s0 := by omega
  have hst2 : ∀ acts, Steps p.tables e below (doInvoke e (T.setTop g) acts mk (vs.map (tV ad sz)).toArray).1 t := fun acts => by
    rw [hin acts]
    rw [← hml] at st
    exact Steps.weaken (mid := [.java g]) st
  cases o1 with
  | returned v =>
    obtain ⟨T', X', -, -, ht⟩ := X.outOf hg hdg b2 b3 b4
    have hh : T'.heap = t.heap := by rw [ht]; simp
    rw [n1, n2] at X'
    exact ⟨t, T', L, hst2, X', by rw [hh]; exact b6, by rw [hh]; exact hS', ht⟩
  | threw x =>
    obtain ⟨T', X', -, -, ht⟩ := X.outOfThrown hg b2 b3 b4
    have hh : T'.heap = t.heap := by rw [ht]; simp [State.pushFrame, State.setFrames, State.setTop, State.modifyTopJava]
    rw [n1, n2] at X'
    exact ⟨t, T', L, hst2, X', by rw [hh]; exact b6, by rw [hh]; exact hS', ht⟩
end SNC
