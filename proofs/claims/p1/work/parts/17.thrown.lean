section THR
variable {p : Program} {l : Launch} {e : Env} {R : Room} {s : State} {m : MethodId} {args : Array Value} {below : List Frame} {meth : Method} {c : Code} {H : Heap} {locs : List Loc}
variable {ad : Nat → Nat} {sz a0 s0 : Nat} {D : va_G} {dA : Nat → ClassId} {sc : aSc} {lsA : Array Slot} {M pc ci z : Nat} {ls : aL} {st : List Value} {A : aH} {v : Value}
theorem gZ1_lays {O f d : String} (h : gZ1 sz s s.heap O f d) : (Cond.laysStatic O f d).before args s = true := by
  obtain ⟨c, k, i, fd, a, cell, v, h1, h2, h3, h4, h5, h6, h7, h8, h9, -⟩ := h
  exact Cond.laysStatic_of h1 h2 h3 h4 h5 h6 h7 h8 h9
theorem gZ1_ref {O f d : String} (h : gZ1 sz s s.heap O f d) : (Cond.isRef (.static O f d)).before args s = true := by
  obtain ⟨c, k, i, fd, a, cell, v, h1, h2, h3, h4, h5, h6, h7, h8, h9, h10, h11, h12⟩ := h
  have e1 : (Term.static O f d).eval args s none [] s = some v := by
    simp [Term.eval, State.fieldNamed?, h2, h3, h4, h5, h6, h11]
  rcases h12 with rfl | ⟨x, rfl⟩
  · simp [Cond.before, Cond.holds, Cond.value, e1]
  · simp [Cond.before, Cond.holds, Cond.value, e1]
theorem gAt (hG : gG ad sz D dA sc s) {own : String} {ic : Nat} (hi : isExc ci) (hl : Cond.methodLink own ic (Bundle.initS (aCn ci)) ∈ aWs) : ∀ w ∈ Bundle.ownAtoms own ic (aCn ci) aThrNames, w.before args s = true := by
  intro w hw
  rcases at_of hw with rfl | hw
  · exact hG.1 _ hl _
  · rcases at_all hi hw with hw | hw
    · simp only [atSt, List.mem_cons, List.not_mem_nil, or_false] at hw
      rcases hw with rfl | rfl | rfl | rfl
      · exact gZ1_lays hG.2.2.2.2.2.2.2.1
      · exact gZ1_lays hG.2.2.2.2.2.2.2.2
      · exact gZ1_ref hG.2.2.2.2.2.2.2.1
      · exact gZ1_ref hG.2.2.2.2.2.2.2.2
    · exact hG.1 _ hw _
theorem gG.base {T : State} {cells slots : Nat} (hG : gG ad sz D dA sc s) (X : Stand p l e R s m args below meth c T locs cells slots) (hS : va_S (fun q => sz ≤ q) s.heap T.heap locs) (fs : List Frame) : gG ad sz D dA sc (T.setFrames fs) := by
  have hW : s.WarmedH (T.setFrames fs).vm := X.warmed
  exact ⟨fun w hw a' => aWmv w hw hW (hG.1 w hw #[]), va_K.moved hW.alike hG.2.1, gX.moved hW hS.2.1 hG.2.2⟩
theorem exc_cls (h : isExc ci) : ∃ r : vw_C, aCls[ci]? = some r ∧ r.1 = aCn ci ∧ r.2.2 = 0 ∧ aNs ci = 6 ∧ Bundle.fit (aCn ci) = true := by
  rcases h with rfl | rfl | rfl | rfl
  · exact ⟨_, rfl, rfl, rfl, rfl, by decide +kernel⟩
  · exact ⟨_, rfl, rfl, rfl, rfl, by decide +kernel⟩
  · exact ⟨_, rfl, rfl, rfl, rfl, by decide +kernel⟩
  · exact ⟨_, rfl, rfl, rfl, rfl, by decide +kernel⟩
theorem thr_fit : ∀ n ∈ aThrNames, Bundle.fit n = true := by decide +kernel
theorem sb_frames {T V : State} {fs : List Frame} {L : List Loc} {k n : Nat} (h : (T.setFrames fs).sameButNew V L k n) : T.sameButNew V L k n := by
  obtain ⟨h1, h2⟩ := h
  refine ⟨?_, h2⟩
  rw [State.setFrames_setFrames] at h1
  exact h1
theorem sb_keep {S V : State} {k n : Nat} (h : S.sameButNew V [] k n) {q : Nat} {cell : Cell} (hq : S.heap[q]? = some cell) : V.heap[q]? = some cell := by
  obtain ⟨c', h1, h2, h3, h4⟩ := h.2.2.2.2.2 q cell hq
  have h5 : c'.slots = cell.slots := by
    apply Array.ext_getElem?
    intro i
    exact h4 i (by simp)
  rw [h1, h2, h5]
theorem q_throw (hx : p.tables.exec = Jvm.exec) (htr : e.platform.stackTraces = false) (hF : aFr M s m meth c) (hG : gG ad sz D dA sc s) (hH : tH D dA ad sz A H) (hS : va_S (fun q => sz ≤ q) s.heap H locs) (hl : lR ad sz lsA (aMx M) ls)
    (hsz : s.heap.size = sz + a0) (ha0 : a0 ≤ A.length) (hs0 : s0 ≤ aSum A) (hc1 : A.length + 1 ≤ a0 + R.cells) (hs1 : aSum A + 6 ≤ s0 + R.slots) (hfr : 8 ≤ R.frames) (hlo : 200 ≤ R.locals) (hno : aHx M = []) (hst : (st.map fun v => v.category).sum ≤ 40)
    (hok : aOk M pc (.new z, ci, 1, v)) (hsite : aSite M pc ci) :
    W p l e R s m args below meth c H locs (A.length - a0) (aSum A - s0) (aQ ad sz D dA below s a0 s0 (.threw (1000 + A.length)) (A ++ [.inr (ci, [])])) (F0 m pc lsA (st.map (tV ad sz))) := by
  obtain ⟨hb, hml, hr, hlk, hown, hnm, hex⟩ := hF
  obtain ⟨hi, zs, ic, a, tx, d3, d4, d6, d9, hstr, ha, hlink⟩ := hsite
  obtain ⟨d0, r, hr0, hw1, hw2, hw3, -⟩ := hok
  obtain ⟨r', hr', hrn, hr2, hns, hfit⟩ := exc_cls hi
  cases hr0.symm.trans hr'
  intro T hT X
  subst hT
  have hTsz : T.heap.size = sz + A.length := by
    have h1 := X.heapSize
    have h2 := hH.lb (by have := hS.1; omega)
    omega
  have X₂ := aBase (k := 1) (n := 6) X (by omega) (by omega)
  have G₂ := hG.base X hS (.invoking m args :: below)
  have hown₂ : (T.setFrames (.invoking m args :: below)).vm.findClass (aOw M) = some m.cls := by
    show T.vm.findClass _ = _
    rw [X.warmed.alike.findClass]
    exact hown
  have hnoh : c.exceptionTable.toList = [] := by
    rw [hno] at hex
    simpa using hex
  obtain ⟨U, st1, u1, u2, u3, u4, ce, u5, u6, u7⟩ := aThrow0 (s := T.setFrames (.invoking m args :: below)) (R := { frames := R.frames, cells := 1, slots := 6, locals := R.locals }) (below := below) (lsA := lsA) (st := st.map (tV ad sz)) (own := aOw M) (C := aCn ci) (tx := tx) (a := ad a) (names := aThrNames) hx htr hb hnoh hlk
    (hml.trans hl.size.symm) hown₂ hfit thr_fit (gAt G₂ hi hlink) (by rw [← hrn]; exact G₂.1 _ hw1 _) (by rw [← hrn]; exact G₂.1 _ hw3 _) (G₂.2.2.2.2.2.2.1 _ hstr) d0 d3 d4 d6 d9 (Nat.le_refl _) (Nat.le_refl _) (by show 2 + 3 < R.frames; omega) (by rw [List.map_map]; show (st.map (fun v => (tV ad sz v).category)).sum ≤ 40; simp only [tV_cat]; exact hst) (by show 44 + (13 * (2 + 1) + 42) ≤ R.locals; omega) T rfl X₂
  have hsz2 : (T.setFrames (.invoking m args :: below)).heap.size = sz + A.length := hTsz
  have keep : ∀ {q : Nat} {cell : Cell}, T.heap[q]? = some cell → U.heap[q]? = some cell := fun h9 => sb_keep u4 h9
  have hin : s.heap.size ≤ T.heap.size := hS.1
  have n1 : A.length - a0 + 1 = (A ++ [(.inr (ci, []) : aE)]).length - a0 := by simp; omega
  have n2 : aSum A - s0 + 6 = aSum (A ++ [(.inr (ci, []) : aE)]) - s0 := by rw [aSum_push]; simp only [aSl, hns]; omega
  refine ⟨U, st1, u1, ?_, State.WarmedH.trans X.warmed u3, ⟨locs ++ [], ?_, ?_⟩, ⟨?_, tWf_push hH.2 (fun n f h9 => by cases h9)⟩, ?_⟩
  · have e1 : tO ad sz (.threw (1000 + A.length)) = .threw (sz + A.length) := by
      have h1 : ¬ 1000 + A.length < 1000 := by omega
      have h2 : 1000 + A.length - 1000 = A.length := by omega
      simp only [tO, tA, h1, if_false, h2]
    rw [e1, ← hsz2]
    exact u2
  · rw [← n1, ← n2]
    exact X.same.trans ((sb_frames u4).setVm s.vm)
  · intro q hq
    rw [List.append_nil] at hq
    exact hS.2.2 q hq
  · rw [tW_push]
    refine va_P.app (fun k q hk => ?_) (fun k q hk => ?_)
    · have h1 := hH.1 k q hk
      refine h1.kept ?_
      obtain ⟨cell, hcell⟩ : ∃ cell, T.heap[q.1]? = some cell := ⟨_, Array.getElem?_eq_getElem h1.lt⟩
      rw [hcell]
      exact keep hcell
    · have hz : k < 1 := (List.getElem?_eq_some_iff.mp hk).1
      rw [show k = 0 by omega] at hk
      cases hk
      refine ⟨r, hr', ce, ?_, ?_, u6, fun k hk => ?_⟩
      · rw [← hsz2]
        exact u5
      · have h1 := (hG.2.1.1 ci _ hr').2.1
        have h2 : T.vm.findClass (aCn ci) = some ce.cls := u7
        rw [X.warmed.alike.findClass, ← hrn, h1] at h2
        exact (Option.some.inj h2).symm
      · rw [hr2] at hk
        omega
  · refine ⟨Nat.le_trans hin ?_, fun q h1 h2 => ?_⟩
    · have := u4.2.1
      exact this
    · obtain ⟨cell, hcell⟩ : ∃ cell, s.heap[q]? = some cell := ⟨_, Array.getElem?_eq_getElem h1⟩
      rw [hcell]
      exact keep ((hS.2.1 q h1 h2).trans hcell)
end THR
