section ABS
variable {p : Program} {l : Launch} {e : Env} {R : Room} {s : State} {m : MethodId} {args : Array Value} {below : List Frame} {meth : Method} {c : Code} {T : State} {locs : List Loc} {cells slots : Nat}
/-- a walk seen from where it stands: as if the method had just been entered with the heap as it is now -/
theorem aBase {k n : Nat} (X : Stand p l e R s m args below meth c T locs cells slots) (hc : cells + k ≤ R.cells) (hs : slots + n ≤ R.slots) :
    Stand p l e { frames := R.frames, cells := k, slots := n, locals := R.locals } (T.setFrames (.invoking m args :: below)) m args below meth c T [] 0 0 := by
  obtain ⟨g₀, hfr⟩ := X.frames_eq
  have hcur : T.cur < T.threads.size := State.cur_lt_of_frames hfr
  have hf2 : (T.setFrames (.invoking m args :: below)).frames = .invoking m args :: below := State.frames_setFrames _ hcur
  have al := X.warmed.alike
  refine ⟨X.admits, X.cas, X.clock, hf2, ?_, ?_, X.method', X.code, X.here, X.tail, State.WarmedH.refl _, by rw [State.stackLimits_setFrames], by rw [State.stackBytes_setFrames], ?_⟩
  · obtain ⟨r1, r2, r3, r4⟩ := State.hasRoom_stack X.room
    have r5 := State.hasRoom_real X.room
    have h := X.room
    simp only [State.hasRoom, Bool.and_eq_true, decide_eq_true_eq] at h
    have u1 : (T.setFrames (.invoking m args :: below)).localsInUse = s.localsInUse := by
      rw [State.localsInUse_invoking X.frames X.method X.code, State.localsInUse_invoking hf2 X.method' X.code]
    have u2 : (T.setFrames (.invoking m args :: below)).frames.length = s.frames.length := by rw [hf2, X.frames]
    have u3 := X.cellsAbove hc
    have u4 := X.slotsAbove hs
    simp only [State.hasRoom, Bool.and_eq_true, decide_eq_true_eq]
    rw [u1, u2, State.stackLimits_setFrames, X.limits, State.stackBytes_setFrames, X.bytes]
    exact ⟨⟨⟨⟨r5, r1, r2, r3, r4, h.1.1.1.2.2.2.2.2⟩, u3⟩, u4⟩, X.book⟩
  · have h := X.hears
    have hcode : ∀ m', (T.setFrames (.invoking m args :: below)).code? m' = s.code? m' := fun m' => by
      rw [State.code?_eq, State.code?_eq]
      show (T.vm.method? m').bind _ = _
      rw [al.method?]
    unfold State.hears at h ⊢
    split <;> simp_all
    rw [al.method?]
    exact h
  · obtain ⟨t, ht, -⟩ := State.frames_cons hf2
    have h := (State.sameButNew.refl (T.setFrames (.invoking m args :: below)) ht).setFrames T.frames (State.cur_lt_of_frames hf2)
    obtain ⟨t0, ht0, -⟩ := State.frames_cons hfr
    rw [State.setFrames_setFrames, State.setFrames_self ht0] at h
    exact h
end ABS
section ATH
variable {p : Program} {l : Launch} {e : Env} {R : Room} {s : State} {m : MethodId} {args : Array Value} {below : List Frame} {meth : Method} {c : Code}
/-- 'throw new X("..")' from a state that has just been entered: the exception is the one new cell, nothing else changes -/
theorem aThrow0 (hx : p.tables.exec = Jvm.exec) (htr : e.platform.stackTraces = false) {cc : ByteArray} (hb : c.code = cc) (hnoh : c.exceptionTable.toList = []) (hlocks : meth.locks = false)
    {own C tx : String} {names : List String} {z zs ic a pc : Nat} {lsA : Array Slot} {st : List Value} (hml : c.maxLocals = lsA.size) (hown : s.vm.findClass own = some m.cls) (hfit : Bundle.fit C = true) (hnm : ∀ n ∈ names, Bundle.fit n = true)
    (hw : ∀ w ∈ Bundle.ownAtoms own ic C names, w.before args s = true) (hcl : (Cond.classLink own z C).before args s = true) (hini : (Cond.initialized C).before args s = true) (hstr : vk_R own zs tx a s)
    (d0 : decode cc pc = .ok (.new z, 3)) (d3 : decode cc (pc + 3) = .ok (.dup, 1)) (d4 : decode cc (pc + 4) = .ok (.ldc zs, 2)) (d6 : decode cc (pc + 6) = .ok (.invokespecial ic, 3)) (d9 : decode cc (pc + 9) = .ok (.athrow, 1))
    (hRc : 1 ≤ R.cells) (hRs : 6 ≤ R.slots) (hRf : names.length + 3 < R.frames) (hst : (st.map fun v => v.category).sum ≤ 40) (hRl : 44 + (13 * (names.length + 1) + 42) ≤ R.locals) :
    W p l e R s m args below meth c s.heap [] 0 0 (fun t => t.status = .running ∧ Ended t below (.threw s.heap.size) ∧ s.WarmedH t.vm ∧ s.sameButNew ({ t with vm := s.vm } : State) [] 1 6 ∧ ∃ ce : Cell, t.heap[s.heap.size]? = some ce ∧ ce.vm = .none ∧ s.vm.findClass C = some ce.cls) (F0 m pc lsA st) := by
  have hins : (Cond.instantiable C 6).before args s = true := hw _ (by simp [Bundle.ownAtoms])
  obtain ⟨cX, kX, hfX, hkX, -⟩ := Cond.instantiable_spec hins
  refine W.newcK hx hb hown hcl hins hini rfl d0 (by omega) (by omega) hfX rfl fun H1 kC hkC e1 z1 o1 => ?_
  cases hkX.symm.trans hkC
  refine lv_dup hx hb d3 rfl ?_
  refine va_ldcS hx hb hown hstr d4 ?_
  intro T hT X
  obtain ⟨U, st1, u1, u2, u3, u4, ce, u5, u6⟩ := X.ctorThrowS hx htr hown hfit hnm hw (fun x h => by cases h) (a := s.heap.size) hfX hkX (by rw [hT]; exact e1) (Nat.le_refl _) (msg := .ref a) rfl (g := F0 m (pc + 6) lsA (.ref a :: .ref s.heap.size :: .ref s.heap.size :: st)) rfl hml.symm rfl rfl rfl
    (by rw [hb]; exact d6) (by rw [hb]; exact d9) (by rw [hnoh]; intro x h; cases h) hRf (by rw [List.map_cons, List.sum_cons]; show 2 * 0 + (1 + _) + _ ≤ _; omega) hlocks
  exact ⟨U, st1, u1, u2, u3, u4, ce, u5, u6.vm, u6.cls⟩
end ATH
