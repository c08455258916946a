/-! A HANDLER IS FOUND, its class's entry resolved or not -/
section CTH
variable {e : Env} {s : State} {f : JFrame} {a : Addr} {Q : Handler → Pre} {E : CtlPost} {d : Bool} {acts : List Action}
theorem fh_cold {x : ExceptionTableEntry} {t : List ExceptionTableEntry} {c : ClassId} {cell : Cell} {vm' : Vm} (hx : covers x f.pc = true) (h0 : x.catchType ≠ 0) (hg : (Jvm.resolveClass f.method.cls x.catchType).Gives e.toSetting s.vm (.ok c) vm') (hsz : vm'.classes.size ≤ s.vm.classes.size)
    (hcell : s.heap[a]? = some cell) (hobj : ∀ k, cell.vm ≠ .statics k) (hk : ∃ k, vm'.classes[cell.cls]? = some k) (hc : ∃ k, vm'.classes[c]? = some k) :
    wp (findHandler.go f a (x :: t)) Q E e d acts s ↔ if vm'.assignable cell.cls c = true then Q (.found x.handlerPc) d acts (s.setVm vm') else wp (findHandler.go f a t) Q E e d acts (s.setVm vm') := by
  simp only [covers] at hx
  obtain ⟨ha, ht⟩ := hg.op (op := VmOp.resolveClass f.method.cls x.catchType) rfl
  cases hfit : vm'.assignable cell.cls c <;>
    simp [findHandler.go, hx, h0, ha, ht, hsz, hcell, hobj, hk, hc, hfit, VmOp.dirties, VmOp.acts]
def hdR (own : String) : List (Nat × Nat × Nat × Nat) → List (Nat × Nat × Nat × Nat) → Prop
  | [], [] => True
  | h :: r, k :: r' => (h.1 = k.1 ∧ h.2.1 = k.2.1 ∧ h.2.2.1 = k.2.2.1 ∧ h.2.2.2 ≠ 0 ∧ isExc k.2.2.2 ∧ Cond.classLink own h.2.2.2 (aCn k.2.2.2) ∈ aWs) ∧ hdR own r r'
  | _, _ => False
/-- the four exceptions are of four kinds -/
def gN (s : State) : Prop := (∀ i j, isExc i → isExc j → i ≠ j → va_Nc (aCn i) (aCn j) s) ∧ ∀ i, isExc i → Cond.castable (aCn i) (aCn i) ∈ aWs
theorem fhGo {args : Array Value} {own : String} {ci h : Nat} (gw : gW s) (gn : gN s) (hown : s.vm.findClass own = some f.method.cls) (hpl : e.platform.magicAccessors = ({} : Platform).magicAccessors) (hi : isExc ci) :
    ∀ (es : List ExceptionTableEntry) (hk : List (Nat × Nat × Nat × Nat)), hdR own (es.map (fun h => (h.startPc, h.endPc, h.handlerPc, h.catchType))) hk → aHdl hk f.pc ci = some h → ∀ vm : Vm, s.WarmedH vm →
      ∃ vm' : Vm, s.WarmedH vm' ∧ ∀ (U : State) (cell : Cell), U.vm = vm → U.heap[a]? = some cell → cell.vm.isStatics = false → s.vm.findClass (aCn ci) = some cell.cls →
        ∀ (Q : Handler → Pre) (E : CtlPost) (d : Bool) (acts : List Action), wp (findHandler.go f a es) Q E e d acts U ↔ Q (.found h) d acts (U.setVm vm') := by
  intro es
  induction es with
  | nil =>
    intro hk hr hh
    cases hk with
    | nil => cases hh
    | cons k r => exact absurd hr (by simp [hdR])
  | cons x t ih =>
    intro hk hr hh vm hW
    cases hk with
    | nil => cases hh
    | cons k r =>
      obtain ⟨⟨e1, e2, e3, e4, e5, e6⟩, hr⟩ := hr
      dsimp only at e1 e2 e3 e4 e6
      unfold aHdl at hh
      by_cases hcov : k.1 ≤ f.pc ∧ f.pc < k.2.1
      · have hx : covers x f.pc = true := by
          simp only [covers, Bool.and_eq_true, decide_eq_true_eq]
          rw [e1, e2]
          exact hcov
        obtain ⟨cT, hcT, hcl⟩ := Cond.classLink_spec hown (gw _ e6 args) e.platform hpl
        obtain ⟨dk, _, _, kt, hd, _, _, _, _, hkt, _, hopen⟩ := hcl.here
        have hcl₀ := hW.classLinks hcl
        have hW' : s.WarmedH (vm.noted f.method.cls x.catchType (.cls cT)) := hW.noted hd hopen (State.rightAt_cls hcl)
        have hsz : (vm.noted f.method.cls x.catchType (.cls cT)).classes.size ≤ vm.classes.size := by no_record
        obtain ⟨kt', hkt', -⟩ := hW'.alike.2.2 _ _ hkt
        by_cases hci : ci = k.2.2.2
        · rw [if_pos ⟨hcov.1, hcov.2, hci⟩] at hh
          cases hh
          refine ⟨_, hW', fun U cell hU hcell hst hfc Q E d acts => ?_⟩
          subst hU
          obtain ⟨c3, c4, hc3, hc4, hasg⟩ := Cond.castable_spec (gw _ (gn.2 ci hi) args)
          cases Option.some.inj (hc3.symm.trans hfc)
          rw [← hci] at hcT
          have hcc : cell.cls = cT := Option.some.inj (hfc.symm.trans hcT)
          have hc5 : c4 = cT := Option.some.inj (hc4.symm.trans hcT)
          subst hc5
          have h1 : (U.vm.noted f.method.cls x.catchType (.cls c4)).assignable cell.cls c4 = true := by rw [hW'.alike.assignable]; exact hasg
          rw [fh_cold hx e4 (resolveClass_links e.toSetting hcl₀) hsz hcell (VmData.noStatics_of hst) ⟨kt', by rw [hcc]; exact hkt'⟩ ⟨kt', hkt'⟩, if_pos h1, e3]
        · rw [if_neg (fun h9 => hci h9.2.2)] at hh
          obtain ⟨vm', hW2, hgo⟩ := ih r hr hh _ hW'
          refine ⟨vm', hW2, fun U cell hU hcell hst hfc Q E d acts => ?_⟩
          subst hU
          obtain ⟨c3, c4, hc3, hc4, hasg⟩ := gn.1 ci k.2.2.2 hi e5 hci
          cases Option.some.inj (hc3.symm.trans hfc)
          cases Option.some.inj (hc4.symm.trans hcT)
          obtain ⟨ks, hks, -⟩ := Vm.findClass_spec hfc
          obtain ⟨ks', hks', -⟩ := hW'.alike.2.2 _ _ hks
          have h1 : (U.vm.noted f.method.cls x.catchType (.cls cT)).assignable cell.cls cT = false := by rw [hW'.alike.assignable]; exact hasg
          rw [fh_cold hx e4 (resolveClass_links e.toSetting hcl₀) hsz hcell (VmData.noStatics_of hst) ⟨ks', hks'⟩ ⟨kt', hkt'⟩, if_neg (by rw [h1]; decide)]
          exact hgo (U.setVm (U.vm.noted f.method.cls x.catchType (.cls cT))) cell rfl hcell hst hfc Q E d acts
      · have hx : covers x f.pc = false := by
          simp only [covers, Bool.and_eq_false_iff, decide_eq_false_iff_not]
          rw [e1, e2]
          omega
        rw [if_neg (fun h9 => hcov ⟨h9.1, h9.2.1⟩)] at hh
        obtain ⟨vm', hW2, hgo⟩ := ih r hr hh vm hW
        refine ⟨vm', hW2, fun U cell hU hcell hst hfc Q E d acts => ?_⟩
        rw [W.findHandler_go_skip hx]
        exact hgo U cell hU hcell hst hfc Q E d acts
theorem stepCatch {U : State} {r : List Frame} {pc : Nat} {vm' : Vm} (hfind : ∀ (Q : Handler → Pre) (E : CtlPost) (d : Bool) (acts : List Action), wp (findHandler f a) Q E e d acts U ↔ Q (.found pc) d acts (U.setVm vm')) :
    (stepThrowing e U a (.java f :: r)).Is ((U.setVm vm').setFrames (.java { f with pc := pc, stack := [.ref a] } :: r)) [] := by
  simp only [stepThrowing, searchFrame, vmDo]
  generalize hr : Sem.go _ e false [] U = res
  obtain ⟨as, rfl, ha⟩ := Sem.eq_ok_of hr (a := Handler.found pc) (s' := U.setVm vm') (acts' := []) (by simp [hfind _ _ _ _])
  exact ⟨rfl, ha⟩
end CTH
section CTI
variable {p : Program} {l : Launch} {e : Env} {R : Room} {s : State} {m : MethodId} {args : Array Value} {below : List Frame} {meth : Method} {c : Code} {T : State} {locs : List Loc} {cells slots : Nat}
/-- the exception is caught here -/
theorem aCaught {g : JFrame} {a : Addr} {own : String} {ci h : Nat} {hk : List (Nat × Nat × Nat × Nat)} {cell : Cell} (X : Stand p l e R s m args below meth c T locs cells slots) (gw : gW s) (gn : gN s) (hown : s.vm.findClass own = some m.cls) (hg : g.method = m) (hi : isExc ci)
    (hr : hdR own (c.exceptionTable.toList.map (fun h => (h.startPc, h.endPc, h.handlerPc, h.catchType))) hk) (hh : aHdl hk g.pc ci = some h) (hcell : T.heap[a]? = some cell) (hst : cell.vm.isStatics = false) (hfc : s.vm.findClass (aCn ci) = some cell.cls) :
    ∃ vm', Stand p l e R s m args below meth c (T.setVm vm') locs cells slots ∧ ∀ target, Steps p.tables e below ((T.setVm vm').setTop { g with pc := h, stack := [.ref a] }) target → Steps p.tables e below ((T.setTop g).pushFrame (.throwing a)) target := by
  subst hg
  have hpl : e.platform.magicAccessors = ({} : Platform).magicAccessors := by rw [X.admits.platform]
  obtain ⟨vm', hW', hgo⟩ := fhGo (e := e) (a := a) (args := args) gw gn hown hpl hi c.exceptionTable.toList hk hr hh T.vm X.warmed
  refine ⟨vm', X.noted hW', fun target hrest => ?_⟩
  have hvm : ((T.setTop g).pushFrame (.throwing a)).vm = T.vm := by simp [State.pushFrame, State.setFrames, State.setTop, State.modifyTopJava]
  have hheap : ((T.setTop g).pushFrame (.throwing a)).heap = T.heap := by simp [State.pushFrame, State.setFrames, State.setTop, State.modifyTopJava]
  have hfind : ∀ (Q : Handler → Pre) (E : CtlPost) (d : Bool) (acts : List Action), wp (findHandler g a) Q E e d acts ((T.setTop g).pushFrame (.throwing a)) ↔ Q (.found h) d acts (((T.setTop g).pushFrame (.throwing a)).setVm vm') := by
    intro Q E d acts
    rw [W.findHandler_eq (meth := meth) (code := c) (by rw [hvm]; exact X.method') X.code]
    exact hgo _ cell hvm (by rw [hheap]; exact hcell) hst hfc Q E d acts
  obtain ⟨hgo2, hw⟩ := X.here.throwing (g := g) a
  refine Steps.head hgo2 hw ?_
  rw [stepThread_throwing (frames_entered X.here.top _), (stepCatch (U := (T.setTop g).pushFrame (.throwing a)) hfind).1]
  obtain ⟨g₀, hg⟩ := Option.isSome_iff_exists.mp X.here.top
  obtain ⟨r, hr2⟩ := State.topJava?_eq_some.mp hg
  have hr3 : (T.setVm vm').frames = .java g₀ :: r := hr2
  rw [State.setTop_of_frames _ hr3] at hrest
  rw [hr2]
  have e1 : (((T.setTop g).pushFrame (.throwing a)).setVm vm').setFrames (.java { g with pc := h, stack := [.ref a] } :: (Frame.java g₀ :: r).tail) = (T.setVm vm').setFrames (.java { g with pc := h, stack := [.ref a] } :: r) := by
    rw [State.pushFrame, State.setTop_of_frames _ hr2, State.setFrames_setFrames]
    show ((T.setFrames _).setVm vm').setFrames _ = _
    have e2 : (T.setFrames (Frame.throwing a :: (T.setFrames (Frame.java g :: r)).frames)).setVm vm' = (T.setVm vm').setFrames (Frame.throwing a :: (T.setFrames (Frame.java g :: r)).frames) := rfl
    rw [e2, State.setFrames_setFrames]
    rfl
  rw [e1]
  exact hrest
end CTI
