section STP
variable {p : Program} {l : Launch} {e : Env} {R : Room} {s : State} {m : MethodId} {args : Array Value} {below : List Frame} {meth : Method} {c : Code} {H : Heap} {locs : List Loc} {Q : State → Prop}
variable {ad : Nat → Nat} {sz a0 s0 : Nat} {D : va_G} {dA : Nat → ClassId} {sc : aSc} {lsA : Array Slot} {M pc pc' x y : Nat} {v : Value} {ls ls' : aL} {st st' : List Value} {A A1 : aH}
/-- where a step leads -/
def aNx (p : Program) (l : Launch) (e : Env) (R : Room) (s : State) (m : MethodId) (args : Array Value) (below : List Frame) (meth : Method) (c : Code) (Q : State → Prop) (ad : Nat → Nat) (sz a0 s0 : Nat) (D : va_G) (dA : Nat → ClassId) (M pc' : Nat) (ls' : aL) (st' : List Value) (A1 : aH) : Prop :=
  ∀ (H1 : Heap) (locs1 : List Loc) (lsA1 : Array Slot), tH D dA ad sz A1 H1 → va_S (fun q => sz ≤ q) s.heap H1 locs1 → lR ad sz lsA1 (aMx M) ls' →
    W p l e R s m args below meth c H1 locs1 (A1.length - a0) (aSum A1 - s0) Q (F0 m pc' lsA1 (st'.map (tV ad sz)))
theorem q_aconst_null (hx : p.tables.exec = Jvm.exec) (hb : c.code = aBy M) (hH : tH D dA ad sz A H) (hS : va_S (fun q => sz ≤ q) s.heap H locs) (hl : lR ad sz lsA (aMx M) ls)  (hdg : decode (aBy M) pc = .ok (.aconst_null, 1)) (h : aStep sc (.aconst_null, x, y, v) pc ls st A = some (pc', ls', st', A1)) (kk : aNx p l e R s m args below meth c Q ad sz a0 s0 D dA M pc' ls' st' A1) : W p l e R s m args below meth c H locs (A.length - a0) (aSum A - s0) Q (F0 m pc lsA (st.map (tV ad sz))) := by
  simp only [aStep, Option.some.injEq, Prod.mk.injEq] at h
  obtain ⟨rfl, rfl, rfl, rfl⟩ := h
  exact lv_null hx hb hdg (kk _ _ _ hH hS hl)
theorem q_iconst (hx : p.tables.exec = Jvm.exec) (hb : c.code = aBy M) (hH : tH D dA ad sz A H) (hS : va_S (fun q => sz ≤ q) s.heap H locs) (hl : lR ad sz lsA (aMx M) ls) {z : Int} (hdg : decode (aBy M) pc = .ok (.iconst z, 1)) (h : aStep sc (.iconst z, x, y, v) pc ls st A = some (pc', ls', st', A1)) (kk : aNx p l e R s m args below meth c Q ad sz a0 s0 D dA M pc' ls' st' A1) : W p l e R s m args below meth c H locs (A.length - a0) (aSum A - s0) Q (F0 m pc lsA (st.map (tV ad sz))) := by
  simp only [aStep, Option.some.injEq, Prod.mk.injEq] at h
  obtain ⟨rfl, rfl, rfl, rfl⟩ := h
  exact lv_iconst hx hb hdg rfl (kk _ _ _ hH hS hl)
theorem q_bipush (hx : p.tables.exec = Jvm.exec) (hb : c.code = aBy M) (hH : tH D dA ad sz A H) (hS : va_S (fun q => sz ≤ q) s.heap H locs) (hl : lR ad sz lsA (aMx M) ls) {z : Int} (hdg : decode (aBy M) pc = .ok (.bipush z, 2)) (h : aStep sc (.bipush z, x, y, v) pc ls st A = some (pc', ls', st', A1)) (kk : aNx p l e R s m args below meth c Q ad sz a0 s0 D dA M pc' ls' st' A1) : W p l e R s m args below meth c H locs (A.length - a0) (aSum A - s0) Q (F0 m pc lsA (st.map (tV ad sz))) := by
  simp only [aStep, Option.some.injEq, Prod.mk.injEq] at h
  obtain ⟨rfl, rfl, rfl, rfl⟩ := h
  exact lv_bipush hx hb hdg rfl (kk _ _ _ hH hS hl)
theorem q_sipush (hx : p.tables.exec = Jvm.exec) (hb : c.code = aBy M) (hH : tH D dA ad sz A H) (hS : va_S (fun q => sz ≤ q) s.heap H locs) (hl : lR ad sz lsA (aMx M) ls) {z : Int} (hdg : decode (aBy M) pc = .ok (.sipush z, 3)) (h : aStep sc (.sipush z, x, y, v) pc ls st A = some (pc', ls', st', A1)) (kk : aNx p l e R s m args below meth c Q ad sz a0 s0 D dA M pc' ls' st' A1) : W p l e R s m args below meth c H locs (A.length - a0) (aSum A - s0) Q (F0 m pc lsA (st.map (tV ad sz))) := by
  simp only [aStep, Option.some.injEq, Prod.mk.injEq] at h
  obtain ⟨rfl, rfl, rfl, rfl⟩ := h
  exact lv_sipush hx hb hdg rfl (kk _ _ _ hH hS hl)
theorem q_lconst (hx : p.tables.exec = Jvm.exec) (hb : c.code = aBy M) (hH : tH D dA ad sz A H) (hS : va_S (fun q => sz ≤ q) s.heap H locs) (hl : lR ad sz lsA (aMx M) ls) {z : Fin 2} (hdg : decode (aBy M) pc = .ok (.lconst z, 1)) (h : aStep sc (.lconst z, x, y, v) pc ls st A = some (pc', ls', st', A1)) (kk : aNx p l e R s m args below meth c Q ad sz a0 s0 D dA M pc' ls' st' A1) : W p l e R s m args below meth c H locs (A.length - a0) (aSum A - s0) Q (F0 m pc lsA (st.map (tV ad sz))) := by
  simp only [aStep, Option.some.injEq, Prod.mk.injEq] at h
  obtain ⟨rfl, rfl, rfl, rfl⟩ := h
  exact lv_lconst hx hb hdg rfl (kk _ _ _ hH hS hl)
theorem q_goto (hx : p.tables.exec = Jvm.exec) (hb : c.code = aBy M) (hH : tH D dA ad sz A H) (hS : va_S (fun q => sz ≤ q) s.heap H locs) (hl : lR ad sz lsA (aMx M) ls) {z : Int} (ho : (pc : Int) + z = (x : Int)) (hdg : decode (aBy M) pc = .ok (.goto z, 3)) (h : aStep sc (.goto z, x, y, v) pc ls st A = some (pc', ls', st', A1)) (kk : aNx p l e R s m args below meth c Q ad sz a0 s0 D dA M pc' ls' st' A1) : W p l e R s m args below meth c H locs (A.length - a0) (aSum A - s0) Q (F0 m pc lsA (st.map (tV ad sz))) := by
  simp only [aStep, Option.some.injEq, Prod.mk.injEq] at h
  obtain ⟨rfl, rfl, rfl, rfl⟩ := h
  exact lv_goto hx hb hdg ho (kk _ _ _ hH hS hl)
theorem q_iload_n (hx : p.tables.exec = Jvm.exec) (hb : c.code = aBy M) (hH : tH D dA ad sz A H) (hS : va_S (fun q => sz ≤ q) s.heap H locs) (hl : lR ad sz lsA (aMx M) ls) {z : Fin 4} (hdg : decode (aBy M) pc = .ok (.iload_n z, 1)) (h : aStep sc (.iload_n z, x, y, v) pc ls st A = some (pc', ls', st', A1)) (kk : aNx p l e R s m args below meth c Q ad sz a0 s0 D dA M pc' ls' st' A1) : W p l e R s m args below meth c H locs (A.length - a0) (aSum A - s0) Q (F0 m pc lsA (st.map (tV ad sz))) := by
  simp only [aStep, aLdI] at h
  split at h
  · rename_i w e1
    simp only [Option.some.injEq, Prod.mk.injEq] at h
    obtain ⟨rfl, rfl, rfl, rfl⟩ := h
    exact lv_iload_n hx hb hdg rfl (hl.at (v := .int w) e1) (kk _ _ _ hH hS hl)
  · cases h
theorem q_iload (hx : p.tables.exec = Jvm.exec) (hb : c.code = aBy M) (hH : tH D dA ad sz A H) (hS : va_S (fun q => sz ≤ q) s.heap H locs) (hl : lR ad sz lsA (aMx M) ls) {z : Nat} (hdg : decode (aBy M) pc = .ok (.iload z, 2)) (h : aStep sc (.iload z, x, y, v) pc ls st A = some (pc', ls', st', A1)) (kk : aNx p l e R s m args below meth c Q ad sz a0 s0 D dA M pc' ls' st' A1) : W p l e R s m args below meth c H locs (A.length - a0) (aSum A - s0) Q (F0 m pc lsA (st.map (tV ad sz))) := by
  simp only [aStep, aLdI] at h
  split at h
  · rename_i w e1
    simp only [Option.some.injEq, Prod.mk.injEq] at h
    obtain ⟨rfl, rfl, rfl, rfl⟩ := h
    exact lv_iload hx hb hdg (hl.at (v := .int w) e1) (kk _ _ _ hH hS hl)
  · cases h
theorem q_lload_n (hx : p.tables.exec = Jvm.exec) (hb : c.code = aBy M) (hH : tH D dA ad sz A H) (hS : va_S (fun q => sz ≤ q) s.heap H locs) (hl : lR ad sz lsA (aMx M) ls) {z : Fin 4} (hdg : decode (aBy M) pc = .ok (.lload_n z, 1)) (h : aStep sc (.lload_n z, x, y, v) pc ls st A = some (pc', ls', st', A1)) (kk : aNx p l e R s m args below meth c Q ad sz a0 s0 D dA M pc' ls' st' A1) : W p l e R s m args below meth c H locs (A.length - a0) (aSum A - s0) Q (F0 m pc lsA (st.map (tV ad sz))) := by
  simp only [aStep, aLdL] at h
  split at h
  · rename_i w e1
    simp only [Option.some.injEq, Prod.mk.injEq] at h
    obtain ⟨rfl, rfl, rfl, rfl⟩ := h
    exact lv_lload_n hx hb hdg rfl (hl.at (v := .long w) e1) (kk _ _ _ hH hS hl)
  · cases h
theorem q_lload (hx : p.tables.exec = Jvm.exec) (hb : c.code = aBy M) (hH : tH D dA ad sz A H) (hS : va_S (fun q => sz ≤ q) s.heap H locs) (hl : lR ad sz lsA (aMx M) ls) {z : Nat} (hdg : decode (aBy M) pc = .ok (.lload z, 2)) (h : aStep sc (.lload z, x, y, v) pc ls st A = some (pc', ls', st', A1)) (kk : aNx p l e R s m args below meth c Q ad sz a0 s0 D dA M pc' ls' st' A1) : W p l e R s m args below meth c H locs (A.length - a0) (aSum A - s0) Q (F0 m pc lsA (st.map (tV ad sz))) := by
  simp only [aStep, aLdL] at h
  split at h
  · rename_i w e1
    simp only [Option.some.injEq, Prod.mk.injEq] at h
    obtain ⟨rfl, rfl, rfl, rfl⟩ := h
    exact lv_lload hx hb hdg (hl.at (v := .long w) e1) (kk _ _ _ hH hS hl)
  · cases h
theorem q_aload_n (hx : p.tables.exec = Jvm.exec) (hb : c.code = aBy M) (hH : tH D dA ad sz A H) (hS : va_S (fun q => sz ≤ q) s.heap H locs) (hl : lR ad sz lsA (aMx M) ls) {z : Fin 4} (hdg : decode (aBy M) pc = .ok (.aload_n z, 1)) (h : aStep sc (.aload_n z, x, y, v) pc ls st A = some (pc', ls', st', A1)) (kk : aNx p l e R s m args below meth c Q ad sz a0 s0 D dA M pc' ls' st' A1) : W p l e R s m args below meth c H locs (A.length - a0) (aSum A - s0) Q (F0 m pc lsA (st.map (tV ad sz))) := by
  simp only [aStep, aLdA] at h
  split at h
  · rename_i w e1
    simp only [Option.some.injEq, Prod.mk.injEq] at h
    obtain ⟨rfl, rfl, rfl, rfl⟩ := h
    exact lv_aload_n hx hb hdg rfl (hl.at (v := .ref w) e1) (kk _ _ _ hH hS hl)
  · rename_i e1
    simp only [Option.some.injEq, Prod.mk.injEq] at h
    obtain ⟨rfl, rfl, rfl, rfl⟩ := h
    exact lv_aload_nN hx hb hdg rfl (hl.at (v := .null) e1) (kk _ _ _ hH hS hl)
  · cases h
theorem q_aload (hx : p.tables.exec = Jvm.exec) (hb : c.code = aBy M) (hH : tH D dA ad sz A H) (hS : va_S (fun q => sz ≤ q) s.heap H locs) (hl : lR ad sz lsA (aMx M) ls) {z : Nat} (hdg : decode (aBy M) pc = .ok (.aload z, 2)) (h : aStep sc (.aload z, x, y, v) pc ls st A = some (pc', ls', st', A1)) (kk : aNx p l e R s m args below meth c Q ad sz a0 s0 D dA M pc' ls' st' A1) : W p l e R s m args below meth c H locs (A.length - a0) (aSum A - s0) Q (F0 m pc lsA (st.map (tV ad sz))) := by
  simp only [aStep, aLdA] at h
  split at h
  · rename_i w e1
    simp only [Option.some.injEq, Prod.mk.injEq] at h
    obtain ⟨rfl, rfl, rfl, rfl⟩ := h
    exact lv_aload hx hb hdg (hl.at (v := .ref w) e1) (kk _ _ _ hH hS hl)
  · rename_i e1
    simp only [Option.some.injEq, Prod.mk.injEq] at h
    obtain ⟨rfl, rfl, rfl, rfl⟩ := h
    exact lv_aloadN hx hb hdg (hl.at (v := .null) e1) (kk _ _ _ hH hS hl)
  · cases h
theorem q_istore_n (hx : p.tables.exec = Jvm.exec) (hb : c.code = aBy M) (hH : tH D dA ad sz A H) (hS : va_S (fun q => sz ≤ q) s.heap H locs) (hl : lR ad sz lsA (aMx M) ls) {z : Fin 4} (hdg : decode (aBy M) pc = .ok (.istore_n z, 1)) (h : aStep sc (.istore_n z, x, y, v) pc ls st A = some (pc', ls', st', A1)) (kk : aNx p l e R s m args below meth c Q ad sz a0 s0 D dA M pc' ls' st' A1) : W p l e R s m args below meth c H locs (A.length - a0) (aSum A - s0) Q (F0 m pc lsA (st.map (tV ad sz))) := by
  simp only [aStep, aStI] at h
  split at h
  · rename_i w r
    split at h
    · rename_i hn
      simp only [Option.some.injEq, Prod.mk.injEq] at h
      obtain ⟨rfl, rfl, rfl, rfl⟩ := h
      exact lv_istore_n hx hb hdg rfl hl.2 (by rw [← hl.1]; exact hn) rfl (fun lsA1 h1 => kk _ _ _ hH hS (lR.st1 (v := .int w) hl h1))
    · cases h
  · cases h
theorem q_istore (hx : p.tables.exec = Jvm.exec) (hb : c.code = aBy M) (hH : tH D dA ad sz A H) (hS : va_S (fun q => sz ≤ q) s.heap H locs) (hl : lR ad sz lsA (aMx M) ls) {z : Nat} (hdg : decode (aBy M) pc = .ok (.istore z, 2)) (h : aStep sc (.istore z, x, y, v) pc ls st A = some (pc', ls', st', A1)) (kk : aNx p l e R s m args below meth c Q ad sz a0 s0 D dA M pc' ls' st' A1) : W p l e R s m args below meth c H locs (A.length - a0) (aSum A - s0) Q (F0 m pc lsA (st.map (tV ad sz))) := by
  simp only [aStep, aStI] at h
  split at h
  · rename_i w r
    split at h
    · rename_i hn
      simp only [Option.some.injEq, Prod.mk.injEq] at h
      obtain ⟨rfl, rfl, rfl, rfl⟩ := h
      exact lv_istore hx hb hdg hl.2 (by rw [← hl.1]; exact hn) rfl (fun lsA1 h1 => kk _ _ _ hH hS (lR.st1 (v := .int w) hl h1))
    · cases h
  · cases h
theorem q_lstore_n (hx : p.tables.exec = Jvm.exec) (hb : c.code = aBy M) (hH : tH D dA ad sz A H) (hS : va_S (fun q => sz ≤ q) s.heap H locs) (hl : lR ad sz lsA (aMx M) ls) {z : Fin 4} (hdg : decode (aBy M) pc = .ok (.lstore_n z, 1)) (h : aStep sc (.lstore_n z, x, y, v) pc ls st A = some (pc', ls', st', A1)) (kk : aNx p l e R s m args below meth c Q ad sz a0 s0 D dA M pc' ls' st' A1) : W p l e R s m args below meth c H locs (A.length - a0) (aSum A - s0) Q (F0 m pc lsA (st.map (tV ad sz))) := by
  simp only [aStep, aStL] at h
  split at h
  · rename_i w r
    split at h
    · rename_i hn
      simp only [Option.some.injEq, Prod.mk.injEq] at h
      obtain ⟨rfl, rfl, rfl, rfl⟩ := h
      exact lv_lstore_n hx hb hdg rfl hl.2 (by rw [← hl.1]; exact hn) rfl (fun lsA1 h1 => kk _ _ _ hH hS (lR.st2 (v := .long w) hl h1))
    · cases h
  · cases h
theorem q_lstore (hx : p.tables.exec = Jvm.exec) (hb : c.code = aBy M) (hH : tH D dA ad sz A H) (hS : va_S (fun q => sz ≤ q) s.heap H locs) (hl : lR ad sz lsA (aMx M) ls) {z : Nat} (hdg : decode (aBy M) pc = .ok (.lstore z, 2)) (h : aStep sc (.lstore z, x, y, v) pc ls st A = some (pc', ls', st', A1)) (kk : aNx p l e R s m args below meth c Q ad sz a0 s0 D dA M pc' ls' st' A1) : W p l e R s m args below meth c H locs (A.length - a0) (aSum A - s0) Q (F0 m pc lsA (st.map (tV ad sz))) := by
  simp only [aStep, aStL] at h
  split at h
  · rename_i w r
    split at h
    · rename_i hn
      simp only [Option.some.injEq, Prod.mk.injEq] at h
      obtain ⟨rfl, rfl, rfl, rfl⟩ := h
      exact lv_lstore hx hb hdg hl.2 (by rw [← hl.1]; exact hn) rfl (fun lsA1 h1 => kk _ _ _ hH hS (lR.st2 (v := .long w) hl h1))
    · cases h
  · cases h
theorem q_astore_n (hx : p.tables.exec = Jvm.exec) (hb : c.code = aBy M) (hH : tH D dA ad sz A H) (hS : va_S (fun q => sz ≤ q) s.heap H locs) (hl : lR ad sz lsA (aMx M) ls) {z : Fin 4} (hdg : decode (aBy M) pc = .ok (.astore_n z, 1)) (h : aStep sc (.astore_n z, x, y, v) pc ls st A = some (pc', ls', st', A1)) (kk : aNx p l e R s m args below meth c Q ad sz a0 s0 D dA M pc' ls' st' A1) : W p l e R s m args below meth c H locs (A.length - a0) (aSum A - s0) Q (F0 m pc lsA (st.map (tV ad sz))) := by
  simp only [aStep, aStA] at h
  split at h
  · rename_i w r
    split at h
    · rename_i hn
      simp only [Option.some.injEq, Prod.mk.injEq] at h
      obtain ⟨rfl, rfl, rfl, rfl⟩ := h
      exact lv_astore_n hx hb hdg rfl hl.2 (by rw [← hl.1]; exact hn) rfl (fun lsA1 h1 => kk _ _ _ hH hS (lR.st1 (v := .ref w) hl h1))
    · cases h
  · rename_i r
    split at h
    · rename_i hn
      simp only [Option.some.injEq, Prod.mk.injEq] at h
      obtain ⟨rfl, rfl, rfl, rfl⟩ := h
      exact lv_astore_nN hx hb hdg rfl hl.2 (by rw [← hl.1]; exact hn) rfl (fun lsA1 h1 => kk _ _ _ hH hS (lR.st1 (v := .null) hl h1))
    · cases h
  · cases h
theorem q_astore (hx : p.tables.exec = Jvm.exec) (hb : c.code = aBy M) (hH : tH D dA ad sz A H) (hS : va_S (fun q => sz ≤ q) s.heap H locs) (hl : lR ad sz lsA (aMx M) ls) {z : Nat} (hdg : decode (aBy M) pc = .ok (.astore z, 2)) (h : aStep sc (.astore z, x, y, v) pc ls st A = some (pc', ls', st', A1)) (kk : aNx p l e R s m args below meth c Q ad sz a0 s0 D dA M pc' ls' st' A1) : W p l e R s m args below meth c H locs (A.length - a0) (aSum A - s0) Q (F0 m pc lsA (st.map (tV ad sz))) := by
  simp only [aStep, aStA] at h
  split at h
  · rename_i w r
    split at h
    · rename_i hn
      simp only [Option.some.injEq, Prod.mk.injEq] at h
      obtain ⟨rfl, rfl, rfl, rfl⟩ := h
      exact lv_astore hx hb hdg hl.2 (by rw [← hl.1]; exact hn) rfl (fun lsA1 h1 => kk _ _ _ hH hS (lR.st1 (v := .ref w) hl h1))
    · cases h
  · rename_i r
    split at h
    · rename_i hn
      simp only [Option.some.injEq, Prod.mk.injEq] at h
      obtain ⟨rfl, rfl, rfl, rfl⟩ := h
      exact lv_astoreN hx hb hdg hl.2 (by rw [← hl.1]; exact hn) rfl (fun lsA1 h1 => kk _ _ _ hH hS (lR.st1 (v := .null) hl h1))
    · cases h
  · cases h
theorem q_iinc (hx : p.tables.exec = Jvm.exec) (hb : c.code = aBy M) (hH : tH D dA ad sz A H) (hS : va_S (fun q => sz ≤ q) s.heap H locs) (hl : lR ad sz lsA (aMx M) ls) {z : Nat} {w0 : Int} (hdg : decode (aBy M) pc = .ok (.iinc z w0, 3)) (h : aStep sc (.iinc z w0, x, y, v) pc ls st A = some (pc', ls', st', A1)) (kk : aNx p l e R s m args below meth c Q ad sz a0 s0 D dA M pc' ls' st' A1) : W p l e R s m args below meth c H locs (A.length - a0) (aSum A - s0) Q (F0 m pc lsA (st.map (tV ad sz))) := by
  simp only [aStep] at h
  split at h
  · rename_i w e1
    split at h
    · rename_i hn
      simp only [Option.some.injEq, Prod.mk.injEq] at h
      obtain ⟨rfl, rfl, rfl, rfl⟩ := h
      obtain ⟨k, hk⟩ := List.getElem?_of_mem (lvL_mem.mpr ⟨_, aLd_get e1, rfl⟩ : (z, tV ad sz (.int w)) ∈ lvL ad sz ls)
      exact lv_iinc hx hb hdg hl.2 hk rfl (by rw [← hl.1]; exact hn) rfl (fun lsA1 h1 => kk _ _ _ hH hS (lR.st1 (v := .int (w + Int32.ofInt w0)) hl h1))
    · cases h
  · cases h
theorem q_iadd (hx : p.tables.exec = Jvm.exec) (hb : c.code = aBy M) (hH : tH D dA ad sz A H) (hS : va_S (fun q => sz ≤ q) s.heap H locs) (hl : lR ad sz lsA (aMx M) ls)  (hdg : decode (aBy M) pc = .ok (.iadd, 1)) (h : aStep sc (.iadd, x, y, v) pc ls st A = some (pc', ls', st', A1)) (kk : aNx p l e R s m args below meth c Q ad sz a0 s0 D dA M pc' ls' st' A1) : W p l e R s m args below meth c H locs (A.length - a0) (aSum A - s0) Q (F0 m pc lsA (st.map (tV ad sz))) := by
  simp only [aStep, aI2] at h
  split at h
  · simp only [Option.some.injEq, Prod.mk.injEq] at h
    obtain ⟨rfl, rfl, rfl, rfl⟩ := h
    exact lv_iadd hx hb hdg (kk _ _ _ hH hS hl)
  · cases h
theorem q_isub (hx : p.tables.exec = Jvm.exec) (hb : c.code = aBy M) (hH : tH D dA ad sz A H) (hS : va_S (fun q => sz ≤ q) s.heap H locs) (hl : lR ad sz lsA (aMx M) ls)  (hdg : decode (aBy M) pc = .ok (.isub, 1)) (h : aStep sc (.isub, x, y, v) pc ls st A = some (pc', ls', st', A1)) (kk : aNx p l e R s m args below meth c Q ad sz a0 s0 D dA M pc' ls' st' A1) : W p l e R s m args below meth c H locs (A.length - a0) (aSum A - s0) Q (F0 m pc lsA (st.map (tV ad sz))) := by
  simp only [aStep, aI2] at h
  split at h
  · simp only [Option.some.injEq, Prod.mk.injEq] at h
    obtain ⟨rfl, rfl, rfl, rfl⟩ := h
    exact lv_isub hx hb hdg (kk _ _ _ hH hS hl)
  · cases h
theorem q_imul (hx : p.tables.exec = Jvm.exec) (hb : c.code = aBy M) (hH : tH D dA ad sz A H) (hS : va_S (fun q => sz ≤ q) s.heap H locs) (hl : lR ad sz lsA (aMx M) ls)  (hdg : decode (aBy M) pc = .ok (.imul, 1)) (h : aStep sc (.imul, x, y, v) pc ls st A = some (pc', ls', st', A1)) (kk : aNx p l e R s m args below meth c Q ad sz a0 s0 D dA M pc' ls' st' A1) : W p l e R s m args below meth c H locs (A.length - a0) (aSum A - s0) Q (F0 m pc lsA (st.map (tV ad sz))) := by
  simp only [aStep, aI2] at h
  split at h
  · simp only [Option.some.injEq, Prod.mk.injEq] at h
    obtain ⟨rfl, rfl, rfl, rfl⟩ := h
    exact lv_imul hx hb hdg (kk _ _ _ hH hS hl)
  · cases h
theorem q_iand (hx : p.tables.exec = Jvm.exec) (hb : c.code = aBy M) (hH : tH D dA ad sz A H) (hS : va_S (fun q => sz ≤ q) s.heap H locs) (hl : lR ad sz lsA (aMx M) ls)  (hdg : decode (aBy M) pc = .ok (.iand, 1)) (h : aStep sc (.iand, x, y, v) pc ls st A = some (pc', ls', st', A1)) (kk : aNx p l e R s m args below meth c Q ad sz a0 s0 D dA M pc' ls' st' A1) : W p l e R s m args below meth c H locs (A.length - a0) (aSum A - s0) Q (F0 m pc lsA (st.map (tV ad sz))) := by
  simp only [aStep, aI2] at h
  split at h
  · simp only [Option.some.injEq, Prod.mk.injEq] at h
    obtain ⟨rfl, rfl, rfl, rfl⟩ := h
    exact lv_iand hx hb hdg (kk _ _ _ hH hS hl)
  · cases h
theorem q_ior (hx : p.tables.exec = Jvm.exec) (hb : c.code = aBy M) (hH : tH D dA ad sz A H) (hS : va_S (fun q => sz ≤ q) s.heap H locs) (hl : lR ad sz lsA (aMx M) ls)  (hdg : decode (aBy M) pc = .ok (.ior, 1)) (h : aStep sc (.ior, x, y, v) pc ls st A = some (pc', ls', st', A1)) (kk : aNx p l e R s m args below meth c Q ad sz a0 s0 D dA M pc' ls' st' A1) : W p l e R s m args below meth c H locs (A.length - a0) (aSum A - s0) Q (F0 m pc lsA (st.map (tV ad sz))) := by
  simp only [aStep, aI2] at h
  split at h
  · simp only [Option.some.injEq, Prod.mk.injEq] at h
    obtain ⟨rfl, rfl, rfl, rfl⟩ := h
    exact lv_ior hx hb hdg (kk _ _ _ hH hS hl)
  · cases h
theorem q_ixor (hx : p.tables.exec = Jvm.exec) (hb : c.code = aBy M) (hH : tH D dA ad sz A H) (hS : va_S (fun q => sz ≤ q) s.heap H locs) (hl : lR ad sz lsA (aMx M) ls)  (hdg : decode (aBy M) pc = .ok (.ixor, 1)) (h : aStep sc (.ixor, x, y, v) pc ls st A = some (pc', ls', st', A1)) (kk : aNx p l e R s m args below meth c Q ad sz a0 s0 D dA M pc' ls' st' A1) : W p l e R s m args below meth c H locs (A.length - a0) (aSum A - s0) Q (F0 m pc lsA (st.map (tV ad sz))) := by
  simp only [aStep, aI2] at h
  split at h
  · simp only [Option.some.injEq, Prod.mk.injEq] at h
    obtain ⟨rfl, rfl, rfl, rfl⟩ := h
    exact lv_ixor hx hb hdg (kk _ _ _ hH hS hl)
  · cases h
theorem q_ishl (hx : p.tables.exec = Jvm.exec) (hb : c.code = aBy M) (hH : tH D dA ad sz A H) (hS : va_S (fun q => sz ≤ q) s.heap H locs) (hl : lR ad sz lsA (aMx M) ls)  (hdg : decode (aBy M) pc = .ok (.ishl, 1)) (h : aStep sc (.ishl, x, y, v) pc ls st A = some (pc', ls', st', A1)) (kk : aNx p l e R s m args below meth c Q ad sz a0 s0 D dA M pc' ls' st' A1) : W p l e R s m args below meth c H locs (A.length - a0) (aSum A - s0) Q (F0 m pc lsA (st.map (tV ad sz))) := by
  simp only [aStep, aI2] at h
  split at h
  · simp only [Option.some.injEq, Prod.mk.injEq] at h
    obtain ⟨rfl, rfl, rfl, rfl⟩ := h
    exact lv_ishl hx hb hdg (kk _ _ _ hH hS hl)
  · cases h
theorem q_ishr (hx : p.tables.exec = Jvm.exec) (hb : c.code = aBy M) (hH : tH D dA ad sz A H) (hS : va_S (fun q => sz ≤ q) s.heap H locs) (hl : lR ad sz lsA (aMx M) ls)  (hdg : decode (aBy M) pc = .ok (.ishr, 1)) (h : aStep sc (.ishr, x, y, v) pc ls st A = some (pc', ls', st', A1)) (kk : aNx p l e R s m args below meth c Q ad sz a0 s0 D dA M pc' ls' st' A1) : W p l e R s m args below meth c H locs (A.length - a0) (aSum A - s0) Q (F0 m pc lsA (st.map (tV ad sz))) := by
  simp only [aStep, aI2] at h
  split at h
  · simp only [Option.some.injEq, Prod.mk.injEq] at h
    obtain ⟨rfl, rfl, rfl, rfl⟩ := h
    exact lv_ishr hx hb hdg (kk _ _ _ hH hS hl)
  · cases h
theorem q_iushr (hx : p.tables.exec = Jvm.exec) (hb : c.code = aBy M) (hH : tH D dA ad sz A H) (hS : va_S (fun q => sz ≤ q) s.heap H locs) (hl : lR ad sz lsA (aMx M) ls)  (hdg : decode (aBy M) pc = .ok (.iushr, 1)) (h : aStep sc (.iushr, x, y, v) pc ls st A = some (pc', ls', st', A1)) (kk : aNx p l e R s m args below meth c Q ad sz a0 s0 D dA M pc' ls' st' A1) : W p l e R s m args below meth c H locs (A.length - a0) (aSum A - s0) Q (F0 m pc lsA (st.map (tV ad sz))) := by
  simp only [aStep, aI2] at h
  split at h
  · simp only [Option.some.injEq, Prod.mk.injEq] at h
    obtain ⟨rfl, rfl, rfl, rfl⟩ := h
    exact lv_iushr hx hb hdg rfl (kk _ _ _ hH hS hl)
  · cases h
theorem q_ladd (hx : p.tables.exec = Jvm.exec) (hb : c.code = aBy M) (hH : tH D dA ad sz A H) (hS : va_S (fun q => sz ≤ q) s.heap H locs) (hl : lR ad sz lsA (aMx M) ls)  (hdg : decode (aBy M) pc = .ok (.ladd, 1)) (h : aStep sc (.ladd, x, y, v) pc ls st A = some (pc', ls', st', A1)) (kk : aNx p l e R s m args below meth c Q ad sz a0 s0 D dA M pc' ls' st' A1) : W p l e R s m args below meth c H locs (A.length - a0) (aSum A - s0) Q (F0 m pc lsA (st.map (tV ad sz))) := by
  simp only [aStep, aL2] at h
  split at h
  · simp only [Option.some.injEq, Prod.mk.injEq] at h
    obtain ⟨rfl, rfl, rfl, rfl⟩ := h
    exact lv_ladd hx hb hdg (kk _ _ _ hH hS hl)
  · cases h
theorem q_lsub (hx : p.tables.exec = Jvm.exec) (hb : c.code = aBy M) (hH : tH D dA ad sz A H) (hS : va_S (fun q => sz ≤ q) s.heap H locs) (hl : lR ad sz lsA (aMx M) ls)  (hdg : decode (aBy M) pc = .ok (.lsub, 1)) (h : aStep sc (.lsub, x, y, v) pc ls st A = some (pc', ls', st', A1)) (kk : aNx p l e R s m args below meth c Q ad sz a0 s0 D dA M pc' ls' st' A1) : W p l e R s m args below meth c H locs (A.length - a0) (aSum A - s0) Q (F0 m pc lsA (st.map (tV ad sz))) := by
  simp only [aStep, aL2] at h
  split at h
  · simp only [Option.some.injEq, Prod.mk.injEq] at h
    obtain ⟨rfl, rfl, rfl, rfl⟩ := h
    exact lv_lsub hx hb hdg (kk _ _ _ hH hS hl)
  · cases h
theorem q_lmul (hx : p.tables.exec = Jvm.exec) (hb : c.code = aBy M) (hH : tH D dA ad sz A H) (hS : va_S (fun q => sz ≤ q) s.heap H locs) (hl : lR ad sz lsA (aMx M) ls)  (hdg : decode (aBy M) pc = .ok (.lmul, 1)) (h : aStep sc (.lmul, x, y, v) pc ls st A = some (pc', ls', st', A1)) (kk : aNx p l e R s m args below meth c Q ad sz a0 s0 D dA M pc' ls' st' A1) : W p l e R s m args below meth c H locs (A.length - a0) (aSum A - s0) Q (F0 m pc lsA (st.map (tV ad sz))) := by
  simp only [aStep, aL2] at h
  split at h
  · simp only [Option.some.injEq, Prod.mk.injEq] at h
    obtain ⟨rfl, rfl, rfl, rfl⟩ := h
    exact lv_lmul hx hb hdg (kk _ _ _ hH hS hl)
  · cases h
theorem q_land (hx : p.tables.exec = Jvm.exec) (hb : c.code = aBy M) (hH : tH D dA ad sz A H) (hS : va_S (fun q => sz ≤ q) s.heap H locs) (hl : lR ad sz lsA (aMx M) ls)  (hdg : decode (aBy M) pc = .ok (.land, 1)) (h : aStep sc (.land, x, y, v) pc ls st A = some (pc', ls', st', A1)) (kk : aNx p l e R s m args below meth c Q ad sz a0 s0 D dA M pc' ls' st' A1) : W p l e R s m args below meth c H locs (A.length - a0) (aSum A - s0) Q (F0 m pc lsA (st.map (tV ad sz))) := by
  simp only [aStep, aL2] at h
  split at h
  · simp only [Option.some.injEq, Prod.mk.injEq] at h
    obtain ⟨rfl, rfl, rfl, rfl⟩ := h
    exact lv_land hx hb hdg (kk _ _ _ hH hS hl)
  · cases h
theorem q_lor (hx : p.tables.exec = Jvm.exec) (hb : c.code = aBy M) (hH : tH D dA ad sz A H) (hS : va_S (fun q => sz ≤ q) s.heap H locs) (hl : lR ad sz lsA (aMx M) ls)  (hdg : decode (aBy M) pc = .ok (.lor, 1)) (h : aStep sc (.lor, x, y, v) pc ls st A = some (pc', ls', st', A1)) (kk : aNx p l e R s m args below meth c Q ad sz a0 s0 D dA M pc' ls' st' A1) : W p l e R s m args below meth c H locs (A.length - a0) (aSum A - s0) Q (F0 m pc lsA (st.map (tV ad sz))) := by
  simp only [aStep, aL2] at h
  split at h
  · simp only [Option.some.injEq, Prod.mk.injEq] at h
    obtain ⟨rfl, rfl, rfl, rfl⟩ := h
    exact lv_lor hx hb hdg (kk _ _ _ hH hS hl)
  · cases h
theorem q_lxor (hx : p.tables.exec = Jvm.exec) (hb : c.code = aBy M) (hH : tH D dA ad sz A H) (hS : va_S (fun q => sz ≤ q) s.heap H locs) (hl : lR ad sz lsA (aMx M) ls)  (hdg : decode (aBy M) pc = .ok (.lxor, 1)) (h : aStep sc (.lxor, x, y, v) pc ls st A = some (pc', ls', st', A1)) (kk : aNx p l e R s m args below meth c Q ad sz a0 s0 D dA M pc' ls' st' A1) : W p l e R s m args below meth c H locs (A.length - a0) (aSum A - s0) Q (F0 m pc lsA (st.map (tV ad sz))) := by
  simp only [aStep, aL2] at h
  split at h
  · simp only [Option.some.injEq, Prod.mk.injEq] at h
    obtain ⟨rfl, rfl, rfl, rfl⟩ := h
    exact lv_lxor hx hb hdg (kk _ _ _ hH hS hl)
  · cases h
theorem q_lshl (hx : p.tables.exec = Jvm.exec) (hb : c.code = aBy M) (hH : tH D dA ad sz A H) (hS : va_S (fun q => sz ≤ q) s.heap H locs) (hl : lR ad sz lsA (aMx M) ls)  (hdg : decode (aBy M) pc = .ok (.lshl, 1)) (h : aStep sc (.lshl, x, y, v) pc ls st A = some (pc', ls', st', A1)) (kk : aNx p l e R s m args below meth c Q ad sz a0 s0 D dA M pc' ls' st' A1) : W p l e R s m args below meth c H locs (A.length - a0) (aSum A - s0) Q (F0 m pc lsA (st.map (tV ad sz))) := by
  simp only [aStep, aLS] at h
  split at h
  · simp only [Option.some.injEq, Prod.mk.injEq] at h
    obtain ⟨rfl, rfl, rfl, rfl⟩ := h
    exact lv_lshl hx hb hdg rfl (kk _ _ _ hH hS hl)
  · cases h
theorem q_lshr (hx : p.tables.exec = Jvm.exec) (hb : c.code = aBy M) (hH : tH D dA ad sz A H) (hS : va_S (fun q => sz ≤ q) s.heap H locs) (hl : lR ad sz lsA (aMx M) ls)  (hdg : decode (aBy M) pc = .ok (.lshr, 1)) (h : aStep sc (.lshr, x, y, v) pc ls st A = some (pc', ls', st', A1)) (kk : aNx p l e R s m args below meth c Q ad sz a0 s0 D dA M pc' ls' st' A1) : W p l e R s m args below meth c H locs (A.length - a0) (aSum A - s0) Q (F0 m pc lsA (st.map (tV ad sz))) := by
  simp only [aStep, aLS] at h
  split at h
  · simp only [Option.some.injEq, Prod.mk.injEq] at h
    obtain ⟨rfl, rfl, rfl, rfl⟩ := h
    exact lv_lshr hx hb hdg rfl (kk _ _ _ hH hS hl)
  · cases h
theorem q_lushr (hx : p.tables.exec = Jvm.exec) (hb : c.code = aBy M) (hH : tH D dA ad sz A H) (hS : va_S (fun q => sz ≤ q) s.heap H locs) (hl : lR ad sz lsA (aMx M) ls)  (hdg : decode (aBy M) pc = .ok (.lushr, 1)) (h : aStep sc (.lushr, x, y, v) pc ls st A = some (pc', ls', st', A1)) (kk : aNx p l e R s m args below meth c Q ad sz a0 s0 D dA M pc' ls' st' A1) : W p l e R s m args below meth c H locs (A.length - a0) (aSum A - s0) Q (F0 m pc lsA (st.map (tV ad sz))) := by
  simp only [aStep, aLS] at h
  split at h
  · simp only [Option.some.injEq, Prod.mk.injEq] at h
    obtain ⟨rfl, rfl, rfl, rfl⟩ := h
    exact lv_lushr hx hb hdg rfl (kk _ _ _ hH hS hl)
  · cases h
theorem q_ineg (hx : p.tables.exec = Jvm.exec) (hb : c.code = aBy M) (hH : tH D dA ad sz A H) (hS : va_S (fun q => sz ≤ q) s.heap H locs) (hl : lR ad sz lsA (aMx M) ls)  (hdg : decode (aBy M) pc = .ok (.ineg, 1)) (h : aStep sc (.ineg, x, y, v) pc ls st A = some (pc', ls', st', A1)) (kk : aNx p l e R s m args below meth c Q ad sz a0 s0 D dA M pc' ls' st' A1) : W p l e R s m args below meth c H locs (A.length - a0) (aSum A - s0) Q (F0 m pc lsA (st.map (tV ad sz))) := by
  simp only [aStep] at h
  split at h
  · simp only [Option.some.injEq, Prod.mk.injEq] at h
    obtain ⟨rfl, rfl, rfl, rfl⟩ := h
    exact lv_ineg hx hb hdg (kk _ _ _ hH hS hl)
  · cases h
theorem q_lneg (hx : p.tables.exec = Jvm.exec) (hb : c.code = aBy M) (hH : tH D dA ad sz A H) (hS : va_S (fun q => sz ≤ q) s.heap H locs) (hl : lR ad sz lsA (aMx M) ls)  (hdg : decode (aBy M) pc = .ok (.lneg, 1)) (h : aStep sc (.lneg, x, y, v) pc ls st A = some (pc', ls', st', A1)) (kk : aNx p l e R s m args below meth c Q ad sz a0 s0 D dA M pc' ls' st' A1) : W p l e R s m args below meth c H locs (A.length - a0) (aSum A - s0) Q (F0 m pc lsA (st.map (tV ad sz))) := by
  simp only [aStep] at h
  split at h
  · simp only [Option.some.injEq, Prod.mk.injEq] at h
    obtain ⟨rfl, rfl, rfl, rfl⟩ := h
    exact lv_lneg hx hb hdg (kk _ _ _ hH hS hl)
  · cases h
theorem q_lcmp (hx : p.tables.exec = Jvm.exec) (hb : c.code = aBy M) (hH : tH D dA ad sz A H) (hS : va_S (fun q => sz ≤ q) s.heap H locs) (hl : lR ad sz lsA (aMx M) ls)  (hdg : decode (aBy M) pc = .ok (.lcmp, 1)) (h : aStep sc (.lcmp, x, y, v) pc ls st A = some (pc', ls', st', A1)) (kk : aNx p l e R s m args below meth c Q ad sz a0 s0 D dA M pc' ls' st' A1) : W p l e R s m args below meth c H locs (A.length - a0) (aSum A - s0) Q (F0 m pc lsA (st.map (tV ad sz))) := by
  simp only [aStep] at h
  split at h
  · simp only [Option.some.injEq, Prod.mk.injEq] at h
    obtain ⟨rfl, rfl, rfl, rfl⟩ := h
    exact W.lcmp hx hb hdg (kk _ _ _ hH hS hl)
  · cases h
theorem q_i2l (hx : p.tables.exec = Jvm.exec) (hb : c.code = aBy M) (hH : tH D dA ad sz A H) (hS : va_S (fun q => sz ≤ q) s.heap H locs) (hl : lR ad sz lsA (aMx M) ls)  (hdg : decode (aBy M) pc = .ok (.i2l, 1)) (h : aStep sc (.i2l, x, y, v) pc ls st A = some (pc', ls', st', A1)) (kk : aNx p l e R s m args below meth c Q ad sz a0 s0 D dA M pc' ls' st' A1) : W p l e R s m args below meth c H locs (A.length - a0) (aSum A - s0) Q (F0 m pc lsA (st.map (tV ad sz))) := by
  simp only [aStep] at h
  split at h
  · simp only [Option.some.injEq, Prod.mk.injEq] at h
    obtain ⟨rfl, rfl, rfl, rfl⟩ := h
    exact lv_i2l hx hb hdg rfl (kk _ _ _ hH hS hl)
  · cases h
theorem q_l2i (hx : p.tables.exec = Jvm.exec) (hb : c.code = aBy M) (hH : tH D dA ad sz A H) (hS : va_S (fun q => sz ≤ q) s.heap H locs) (hl : lR ad sz lsA (aMx M) ls)  (hdg : decode (aBy M) pc = .ok (.l2i, 1)) (h : aStep sc (.l2i, x, y, v) pc ls st A = some (pc', ls', st', A1)) (kk : aNx p l e R s m args below meth c Q ad sz a0 s0 D dA M pc' ls' st' A1) : W p l e R s m args below meth c H locs (A.length - a0) (aSum A - s0) Q (F0 m pc lsA (st.map (tV ad sz))) := by
  simp only [aStep] at h
  split at h
  · simp only [Option.some.injEq, Prod.mk.injEq] at h
    obtain ⟨rfl, rfl, rfl, rfl⟩ := h
    exact lv_l2i hx hb hdg rfl (kk _ _ _ hH hS hl)
  · cases h
theorem q_i2c (hx : p.tables.exec = Jvm.exec) (hb : c.code = aBy M) (hH : tH D dA ad sz A H) (hS : va_S (fun q => sz ≤ q) s.heap H locs) (hl : lR ad sz lsA (aMx M) ls)  (hdg : decode (aBy M) pc = .ok (.i2c, 1)) (h : aStep sc (.i2c, x, y, v) pc ls st A = some (pc', ls', st', A1)) (kk : aNx p l e R s m args below meth c Q ad sz a0 s0 D dA M pc' ls' st' A1) : W p l e R s m args below meth c H locs (A.length - a0) (aSum A - s0) Q (F0 m pc lsA (st.map (tV ad sz))) := by
  simp only [aStep] at h
  split at h
  · simp only [Option.some.injEq, Prod.mk.injEq] at h
    obtain ⟨rfl, rfl, rfl, rfl⟩ := h
    exact lv_i2c hx hb hdg rfl (kk _ _ _ hH hS hl)
  · cases h
theorem q_i2b (hx : p.tables.exec = Jvm.exec) (hb : c.code = aBy M) (hH : tH D dA ad sz A H) (hS : va_S (fun q => sz ≤ q) s.heap H locs) (hl : lR ad sz lsA (aMx M) ls)  (hdg : decode (aBy M) pc = .ok (.i2b, 1)) (h : aStep sc (.i2b, x, y, v) pc ls st A = some (pc', ls', st', A1)) (kk : aNx p l e R s m args below meth c Q ad sz a0 s0 D dA M pc' ls' st' A1) : W p l e R s m args below meth c H locs (A.length - a0) (aSum A - s0) Q (F0 m pc lsA (st.map (tV ad sz))) := by
  simp only [aStep] at h
  split at h
  · simp only [Option.some.injEq, Prod.mk.injEq] at h
    obtain ⟨rfl, rfl, rfl, rfl⟩ := h
    exact lv_i2b hx hb hdg rfl (kk _ _ _ hH hS hl)
  · cases h
theorem q_dup (hx : p.tables.exec = Jvm.exec) (hb : c.code = aBy M) (hH : tH D dA ad sz A H) (hS : va_S (fun q => sz ≤ q) s.heap H locs) (hl : lR ad sz lsA (aMx M) ls)  (hdg : decode (aBy M) pc = .ok (.dup, 1)) (h : aStep sc (.dup, x, y, v) pc ls st A = some (pc', ls', st', A1)) (kk : aNx p l e R s m args below meth c Q ad sz a0 s0 D dA M pc' ls' st' A1) : W p l e R s m args below meth c H locs (A.length - a0) (aSum A - s0) Q (F0 m pc lsA (st.map (tV ad sz))) := by
  simp only [aStep] at h
  split at h
  · split at h
    · rename_i hc
      simp only [Option.some.injEq, Prod.mk.injEq] at h
      obtain ⟨rfl, rfl, rfl, rfl⟩ := h
      exact lv_dup hx hb hdg (by rw [tV_cat]; exact hc) (kk _ _ _ hH hS hl)
    · cases h
  · cases h
theorem q_pop (hx : p.tables.exec = Jvm.exec) (hb : c.code = aBy M) (hH : tH D dA ad sz A H) (hS : va_S (fun q => sz ≤ q) s.heap H locs) (hl : lR ad sz lsA (aMx M) ls)  (hdg : decode (aBy M) pc = .ok (.pop, 1)) (h : aStep sc (.pop, x, y, v) pc ls st A = some (pc', ls', st', A1)) (kk : aNx p l e R s m args below meth c Q ad sz a0 s0 D dA M pc' ls' st' A1) : W p l e R s m args below meth c H locs (A.length - a0) (aSum A - s0) Q (F0 m pc lsA (st.map (tV ad sz))) := by
  simp only [aStep] at h
  split at h
  · split at h
    · rename_i hc
      simp only [Option.some.injEq, Prod.mk.injEq] at h
      obtain ⟨rfl, rfl, rfl, rfl⟩ := h
      exact lv_pop hx hb hdg (by rw [tV_cat]; exact hc) (kk _ _ _ hH hS hl)
    · cases h
  · cases h
theorem q_dup_x1 (hx : p.tables.exec = Jvm.exec) (hb : c.code = aBy M) (hH : tH D dA ad sz A H) (hS : va_S (fun q => sz ≤ q) s.heap H locs) (hl : lR ad sz lsA (aMx M) ls)  (hdg : decode (aBy M) pc = .ok (.dup_x1, 1)) (h : aStep sc (.dup_x1, x, y, v) pc ls st A = some (pc', ls', st', A1)) (kk : aNx p l e R s m args below meth c Q ad sz a0 s0 D dA M pc' ls' st' A1) : W p l e R s m args below meth c H locs (A.length - a0) (aSum A - s0) Q (F0 m pc lsA (st.map (tV ad sz))) := by
  simp only [aStep] at h
  split at h
  · split at h
    · rename_i hc
      simp only [Option.some.injEq, Prod.mk.injEq] at h
      obtain ⟨rfl, rfl, rfl, rfl⟩ := h
      exact lv_dup_x1 hx hb hdg (by rw [tV_cat]; exact hc.1) (by rw [tV_cat]; exact hc.2) (kk _ _ _ hH hS hl)
    · cases h
  · cases h
theorem q_dup_x2 (hx : p.tables.exec = Jvm.exec) (hb : c.code = aBy M) (hH : tH D dA ad sz A H) (hS : va_S (fun q => sz ≤ q) s.heap H locs) (hl : lR ad sz lsA (aMx M) ls)  (hdg : decode (aBy M) pc = .ok (.dup_x2, 1)) (h : aStep sc (.dup_x2, x, y, v) pc ls st A = some (pc', ls', st', A1)) (kk : aNx p l e R s m args below meth c Q ad sz a0 s0 D dA M pc' ls' st' A1) : W p l e R s m args below meth c H locs (A.length - a0) (aSum A - s0) Q (F0 m pc lsA (st.map (tV ad sz))) := by
  simp only [aStep] at h
  split at h
  · split at h
    · rename_i hc
      simp only [Option.some.injEq, Prod.mk.injEq] at h
      obtain ⟨rfl, rfl, rfl, rfl⟩ := h
      exact lv_dup_x2 hx hb hdg (by rw [tV_cat]; exact hc.1) (by rw [tV_cat]; exact hc.2.1) (by rw [tV_cat]; exact hc.2.2) (kk _ _ _ hH hS hl)
    · cases h
  · cases h
theorem q_dup2 (hx : p.tables.exec = Jvm.exec) (hb : c.code = aBy M) (hH : tH D dA ad sz A H) (hS : va_S (fun q => sz ≤ q) s.heap H locs) (hl : lR ad sz lsA (aMx M) ls)  (hdg : decode (aBy M) pc = .ok (.dup2, 1)) (h : aStep sc (.dup2, x, y, v) pc ls st A = some (pc', ls', st', A1)) (kk : aNx p l e R s m args below meth c Q ad sz a0 s0 D dA M pc' ls' st' A1) : W p l e R s m args below meth c H locs (A.length - a0) (aSum A - s0) Q (F0 m pc lsA (st.map (tV ad sz))) := by
  simp only [aStep] at h
  split at h
  · simp only [Option.some.injEq, Prod.mk.injEq] at h
    obtain ⟨rfl, rfl, rfl, rfl⟩ := h
    exact lv_dup2_2 hx hb hdg rfl (kk _ _ _ hH hS hl)
  · split at h
    · rename_i hc
      simp only [Option.some.injEq, Prod.mk.injEq] at h
      obtain ⟨rfl, rfl, rfl, rfl⟩ := h
      exact lv_dup2_11 hx hb hdg (by rw [tV_cat]; exact hc.1) (by rw [tV_cat]; exact hc.2) (kk _ _ _ hH hS hl)
    · cases h
  · cases h
theorem q_pop2 (hx : p.tables.exec = Jvm.exec) (hb : c.code = aBy M) (hH : tH D dA ad sz A H) (hS : va_S (fun q => sz ≤ q) s.heap H locs) (hl : lR ad sz lsA (aMx M) ls)  (hdg : decode (aBy M) pc = .ok (.pop2, 1)) (h : aStep sc (.pop2, x, y, v) pc ls st A = some (pc', ls', st', A1)) (kk : aNx p l e R s m args below meth c Q ad sz a0 s0 D dA M pc' ls' st' A1) : W p l e R s m args below meth c H locs (A.length - a0) (aSum A - s0) Q (F0 m pc lsA (st.map (tV ad sz))) := by
  simp only [aStep] at h
  split at h
  · simp only [Option.some.injEq, Prod.mk.injEq] at h
    obtain ⟨rfl, rfl, rfl, rfl⟩ := h
    exact lv_pop2_2 hx hb hdg rfl (kk _ _ _ hH hS hl)
  · cases h
theorem q_if_eq (hx : p.tables.exec = Jvm.exec) (hb : c.code = aBy M) (hH : tH D dA ad sz A H) (hS : va_S (fun q => sz ≤ q) s.heap H locs) (hl : lR ad sz lsA (aMx M) ls) {z : Int} (ho : (pc : Int) + z = (x : Int)) (hdg : decode (aBy M) pc = .ok (.ifCond .eq z, 3)) (h : aStep sc (.ifCond .eq z, x, y, v) pc ls st A = some (pc', ls', st', A1)) (kk : aNx p l e R s m args below meth c Q ad sz a0 s0 D dA M pc' ls' st' A1) : W p l e R s m args below meth c H locs (A.length - a0) (aSum A - s0) Q (F0 m pc lsA (st.map (tV ad sz))) := by
  simp only [aStep] at h
  split at h
  · rename_i st0 x0 r
    refine lv_if_eq hx hb hdg ho (fun hc => ?_) (fun hc => ?_)
    · have e1 : aCmp .eq x0 0 = true := by simpa [aCmp] using hc
      simp only [aBr, e1, if_true, Option.some.injEq, Prod.mk.injEq] at h
      obtain ⟨rfl, rfl, rfl, rfl⟩ := h
      exact kk _ _ _ hH hS hl
    · have e1 : aCmp .eq x0 0 = false := by simpa [aCmp] using hc
      simp only [aBr, e1, Bool.false_eq_true, if_false, Option.some.injEq, Prod.mk.injEq] at h
      obtain ⟨rfl, rfl, rfl, rfl⟩ := h
      exact kk _ _ _ hH hS hl
  · cases h
theorem q_icmp_eq (hx : p.tables.exec = Jvm.exec) (hb : c.code = aBy M) (hH : tH D dA ad sz A H) (hS : va_S (fun q => sz ≤ q) s.heap H locs) (hl : lR ad sz lsA (aMx M) ls) {z : Int} (ho : (pc : Int) + z = (x : Int)) (hdg : decode (aBy M) pc = .ok (.if_icmp .eq z, 3)) (h : aStep sc (.if_icmp .eq z, x, y, v) pc ls st A = some (pc', ls', st', A1)) (kk : aNx p l e R s m args below meth c Q ad sz a0 s0 D dA M pc' ls' st' A1) : W p l e R s m args below meth c H locs (A.length - a0) (aSum A - s0) Q (F0 m pc lsA (st.map (tV ad sz))) := by
  simp only [aStep] at h
  split at h
  · rename_i st0 y0 x0 r
    refine lv_icmp_eq hx hb hdg ho (fun hc => ?_) (fun hc => ?_)
    · have e1 : aCmp .eq x0 y0 = true := by simpa [aCmp] using hc
      simp only [aBr, e1, if_true, Option.some.injEq, Prod.mk.injEq] at h
      obtain ⟨rfl, rfl, rfl, rfl⟩ := h
      exact kk _ _ _ hH hS hl
    · have e1 : aCmp .eq x0 y0 = false := by simpa [aCmp] using hc
      simp only [aBr, e1, Bool.false_eq_true, if_false, Option.some.injEq, Prod.mk.injEq] at h
      obtain ⟨rfl, rfl, rfl, rfl⟩ := h
      exact kk _ _ _ hH hS hl
  · cases h
theorem q_if_ne (hx : p.tables.exec = Jvm.exec) (hb : c.code = aBy M) (hH : tH D dA ad sz A H) (hS : va_S (fun q => sz ≤ q) s.heap H locs) (hl : lR ad sz lsA (aMx M) ls) {z : Int} (ho : (pc : Int) + z = (x : Int)) (hdg : decode (aBy M) pc = .ok (.ifCond .ne z, 3)) (h : aStep sc (.ifCond .ne z, x, y, v) pc ls st A = some (pc', ls', st', A1)) (kk : aNx p l e R s m args below meth c Q ad sz a0 s0 D dA M pc' ls' st' A1) : W p l e R s m args below meth c H locs (A.length - a0) (aSum A - s0) Q (F0 m pc lsA (st.map (tV ad sz))) := by
  simp only [aStep] at h
  split at h
  · rename_i st0 x0 r
    refine lv_if_ne hx hb hdg ho (fun hc => ?_) (fun hc => ?_)
    · have e1 : aCmp .ne x0 0 = true := by simpa [aCmp] using hc
      simp only [aBr, e1, if_true, Option.some.injEq, Prod.mk.injEq] at h
      obtain ⟨rfl, rfl, rfl, rfl⟩ := h
      exact kk _ _ _ hH hS hl
    · have e1 : aCmp .ne x0 0 = false := by simpa [aCmp] using hc
      simp only [aBr, e1, Bool.false_eq_true, if_false, Option.some.injEq, Prod.mk.injEq] at h
      obtain ⟨rfl, rfl, rfl, rfl⟩ := h
      exact kk _ _ _ hH hS hl
  · cases h
theorem q_icmp_ne (hx : p.tables.exec = Jvm.exec) (hb : c.code = aBy M) (hH : tH D dA ad sz A H) (hS : va_S (fun q => sz ≤ q) s.heap H locs) (hl : lR ad sz lsA (aMx M) ls) {z : Int} (ho : (pc : Int) + z = (x : Int)) (hdg : decode (aBy M) pc = .ok (.if_icmp .ne z, 3)) (h : aStep sc (.if_icmp .ne z, x, y, v) pc ls st A = some (pc', ls', st', A1)) (kk : aNx p l e R s m args below meth c Q ad sz a0 s0 D dA M pc' ls' st' A1) : W p l e R s m args below meth c H locs (A.length - a0) (aSum A - s0) Q (F0 m pc lsA (st.map (tV ad sz))) := by
  simp only [aStep] at h
  split at h
  · rename_i st0 y0 x0 r
    refine lv_icmp_ne hx hb hdg ho (fun hc => ?_) (fun hc => ?_)
    · have e1 : aCmp .ne x0 y0 = true := by simpa [aCmp] using hc
      simp only [aBr, e1, if_true, Option.some.injEq, Prod.mk.injEq] at h
      obtain ⟨rfl, rfl, rfl, rfl⟩ := h
      exact kk _ _ _ hH hS hl
    · have e1 : aCmp .ne x0 y0 = false := by simpa [aCmp] using hc
      simp only [aBr, e1, Bool.false_eq_true, if_false, Option.some.injEq, Prod.mk.injEq] at h
      obtain ⟨rfl, rfl, rfl, rfl⟩ := h
      exact kk _ _ _ hH hS hl
  · cases h
theorem q_if_lt (hx : p.tables.exec = Jvm.exec) (hb : c.code = aBy M) (hH : tH D dA ad sz A H) (hS : va_S (fun q => sz ≤ q) s.heap H locs) (hl : lR ad sz lsA (aMx M) ls) {z : Int} (ho : (pc : Int) + z = (x : Int)) (hdg : decode (aBy M) pc = .ok (.ifCond .lt z, 3)) (h : aStep sc (.ifCond .lt z, x, y, v) pc ls st A = some (pc', ls', st', A1)) (kk : aNx p l e R s m args below meth c Q ad sz a0 s0 D dA M pc' ls' st' A1) : W p l e R s m args below meth c H locs (A.length - a0) (aSum A - s0) Q (F0 m pc lsA (st.map (tV ad sz))) := by
  simp only [aStep] at h
  split at h
  · rename_i st0 x0 r
    refine lv_if_lt hx hb hdg ho (fun hc => ?_) (fun hc => ?_)
    · have e1 : aCmp .lt x0 0 = true := by simpa [aCmp] using hc
      simp only [aBr, e1, if_true, Option.some.injEq, Prod.mk.injEq] at h
      obtain ⟨rfl, rfl, rfl, rfl⟩ := h
      exact kk _ _ _ hH hS hl
    · have e1 : aCmp .lt x0 0 = false := by simpa [aCmp] using hc
      simp only [aBr, e1, Bool.false_eq_true, if_false, Option.some.injEq, Prod.mk.injEq] at h
      obtain ⟨rfl, rfl, rfl, rfl⟩ := h
      exact kk _ _ _ hH hS hl
  · cases h
theorem q_icmp_lt (hx : p.tables.exec = Jvm.exec) (hb : c.code = aBy M) (hH : tH D dA ad sz A H) (hS : va_S (fun q => sz ≤ q) s.heap H locs) (hl : lR ad sz lsA (aMx M) ls) {z : Int} (ho : (pc : Int) + z = (x : Int)) (hdg : decode (aBy M) pc = .ok (.if_icmp .lt z, 3)) (h : aStep sc (.if_icmp .lt z, x, y, v) pc ls st A = some (pc', ls', st', A1)) (kk : aNx p l e R s m args below meth c Q ad sz a0 s0 D dA M pc' ls' st' A1) : W p l e R s m args below meth c H locs (A.length - a0) (aSum A - s0) Q (F0 m pc lsA (st.map (tV ad sz))) := by
  simp only [aStep] at h
  split at h
  · rename_i st0 y0 x0 r
    refine lv_icmp_lt hx hb hdg ho (fun hc => ?_) (fun hc => ?_)
    · have e1 : aCmp .lt x0 y0 = true := by simpa [aCmp] using hc
      simp only [aBr, e1, if_true, Option.some.injEq, Prod.mk.injEq] at h
      obtain ⟨rfl, rfl, rfl, rfl⟩ := h
      exact kk _ _ _ hH hS hl
    · have e1 : aCmp .lt x0 y0 = false := by simpa [aCmp] using hc
      simp only [aBr, e1, Bool.false_eq_true, if_false, Option.some.injEq, Prod.mk.injEq] at h
      obtain ⟨rfl, rfl, rfl, rfl⟩ := h
      exact kk _ _ _ hH hS hl
  · cases h
theorem q_if_ge (hx : p.tables.exec = Jvm.exec) (hb : c.code = aBy M) (hH : tH D dA ad sz A H) (hS : va_S (fun q => sz ≤ q) s.heap H locs) (hl : lR ad sz lsA (aMx M) ls) {z : Int} (ho : (pc : Int) + z = (x : Int)) (hdg : decode (aBy M) pc = .ok (.ifCond .ge z, 3)) (h : aStep sc (.ifCond .ge z, x, y, v) pc ls st A = some (pc', ls', st', A1)) (kk : aNx p l e R s m args below meth c Q ad sz a0 s0 D dA M pc' ls' st' A1) : W p l e R s m args below meth c H locs (A.length - a0) (aSum A - s0) Q (F0 m pc lsA (st.map (tV ad sz))) := by
  simp only [aStep] at h
  split at h
  · rename_i st0 x0 r
    refine lv_if_ge hx hb hdg ho (fun hc => ?_) (fun hc => ?_)
    · have e1 : aCmp .ge x0 0 = true := by simpa [aCmp] using hc
      simp only [aBr, e1, if_true, Option.some.injEq, Prod.mk.injEq] at h
      obtain ⟨rfl, rfl, rfl, rfl⟩ := h
      exact kk _ _ _ hH hS hl
    · have e1 : aCmp .ge x0 0 = false := by simpa [aCmp] using hc
      simp only [aBr, e1, Bool.false_eq_true, if_false, Option.some.injEq, Prod.mk.injEq] at h
      obtain ⟨rfl, rfl, rfl, rfl⟩ := h
      exact kk _ _ _ hH hS hl
  · cases h
theorem q_icmp_ge (hx : p.tables.exec = Jvm.exec) (hb : c.code = aBy M) (hH : tH D dA ad sz A H) (hS : va_S (fun q => sz ≤ q) s.heap H locs) (hl : lR ad sz lsA (aMx M) ls) {z : Int} (ho : (pc : Int) + z = (x : Int)) (hdg : decode (aBy M) pc = .ok (.if_icmp .ge z, 3)) (h : aStep sc (.if_icmp .ge z, x, y, v) pc ls st A = some (pc', ls', st', A1)) (kk : aNx p l e R s m args below meth c Q ad sz a0 s0 D dA M pc' ls' st' A1) : W p l e R s m args below meth c H locs (A.length - a0) (aSum A - s0) Q (F0 m pc lsA (st.map (tV ad sz))) := by
  simp only [aStep] at h
  split at h
  · rename_i st0 y0 x0 r
    refine lv_icmp_ge hx hb hdg ho (fun hc => ?_) (fun hc => ?_)
    · have e1 : aCmp .ge x0 y0 = true := by simpa [aCmp] using hc
      simp only [aBr, e1, if_true, Option.some.injEq, Prod.mk.injEq] at h
      obtain ⟨rfl, rfl, rfl, rfl⟩ := h
      exact kk _ _ _ hH hS hl
    · have e1 : aCmp .ge x0 y0 = false := by simpa [aCmp] using hc
      simp only [aBr, e1, Bool.false_eq_true, if_false, Option.some.injEq, Prod.mk.injEq] at h
      obtain ⟨rfl, rfl, rfl, rfl⟩ := h
      exact kk _ _ _ hH hS hl
  · cases h
theorem q_if_gt (hx : p.tables.exec = Jvm.exec) (hb : c.code = aBy M) (hH : tH D dA ad sz A H) (hS : va_S (fun q => sz ≤ q) s.heap H locs) (hl : lR ad sz lsA (aMx M) ls) {z : Int} (ho : (pc : Int) + z = (x : Int)) (hdg : decode (aBy M) pc = .ok (.ifCond .gt z, 3)) (h : aStep sc (.ifCond .gt z, x, y, v) pc ls st A = some (pc', ls', st', A1)) (kk : aNx p l e R s m args below meth c Q ad sz a0 s0 D dA M pc' ls' st' A1) : W p l e R s m args below meth c H locs (A.length - a0) (aSum A - s0) Q (F0 m pc lsA (st.map (tV ad sz))) := by
  simp only [aStep] at h
  split at h
  · rename_i st0 x0 r
    refine lv_if_gt hx hb hdg ho (fun hc => ?_) (fun hc => ?_)
    · have e1 : aCmp .gt x0 0 = true := by simpa [aCmp] using hc
      simp only [aBr, e1, if_true, Option.some.injEq, Prod.mk.injEq] at h
      obtain ⟨rfl, rfl, rfl, rfl⟩ := h
      exact kk _ _ _ hH hS hl
    · have e1 : aCmp .gt x0 0 = false := by simpa [aCmp] using hc
      simp only [aBr, e1, Bool.false_eq_true, if_false, Option.some.injEq, Prod.mk.injEq] at h
      obtain ⟨rfl, rfl, rfl, rfl⟩ := h
      exact kk _ _ _ hH hS hl
  · cases h
theorem q_icmp_gt (hx : p.tables.exec = Jvm.exec) (hb : c.code = aBy M) (hH : tH D dA ad sz A H) (hS : va_S (fun q => sz ≤ q) s.heap H locs) (hl : lR ad sz lsA (aMx M) ls) {z : Int} (ho : (pc : Int) + z = (x : Int)) (hdg : decode (aBy M) pc = .ok (.if_icmp .gt z, 3)) (h : aStep sc (.if_icmp .gt z, x, y, v) pc ls st A = some (pc', ls', st', A1)) (kk : aNx p l e R s m args below meth c Q ad sz a0 s0 D dA M pc' ls' st' A1) : W p l e R s m args below meth c H locs (A.length - a0) (aSum A - s0) Q (F0 m pc lsA (st.map (tV ad sz))) := by
  simp only [aStep] at h
  split at h
  · rename_i st0 y0 x0 r
    refine lv_icmp_gt hx hb hdg ho (fun hc => ?_) (fun hc => ?_)
    · have e1 : aCmp .gt x0 y0 = true := by simpa [aCmp] using hc
      simp only [aBr, e1, if_true, Option.some.injEq, Prod.mk.injEq] at h
      obtain ⟨rfl, rfl, rfl, rfl⟩ := h
      exact kk _ _ _ hH hS hl
    · have e1 : aCmp .gt x0 y0 = false := by simpa [aCmp] using hc
      simp only [aBr, e1, Bool.false_eq_true, if_false, Option.some.injEq, Prod.mk.injEq] at h
      obtain ⟨rfl, rfl, rfl, rfl⟩ := h
      exact kk _ _ _ hH hS hl
  · cases h
theorem q_if_le (hx : p.tables.exec = Jvm.exec) (hb : c.code = aBy M) (hH : tH D dA ad sz A H) (hS : va_S (fun q => sz ≤ q) s.heap H locs) (hl : lR ad sz lsA (aMx M) ls) {z : Int} (ho : (pc : Int) + z = (x : Int)) (hdg : decode (aBy M) pc = .ok (.ifCond .le z, 3)) (h : aStep sc (.ifCond .le z, x, y, v) pc ls st A = some (pc', ls', st', A1)) (kk : aNx p l e R s m args below meth c Q ad sz a0 s0 D dA M pc' ls' st' A1) : W p l e R s m args below meth c H locs (A.length - a0) (aSum A - s0) Q (F0 m pc lsA (st.map (tV ad sz))) := by
  simp only [aStep] at h
  split at h
  · rename_i st0 x0 r
    refine lv_if_le hx hb hdg ho (fun hc => ?_) (fun hc => ?_)
    · have e1 : aCmp .le x0 0 = true := by simpa [aCmp] using hc
      simp only [aBr, e1, if_true, Option.some.injEq, Prod.mk.injEq] at h
      obtain ⟨rfl, rfl, rfl, rfl⟩ := h
      exact kk _ _ _ hH hS hl
    · have e1 : aCmp .le x0 0 = false := by simpa [aCmp] using hc
      simp only [aBr, e1, Bool.false_eq_true, if_false, Option.some.injEq, Prod.mk.injEq] at h
      obtain ⟨rfl, rfl, rfl, rfl⟩ := h
      exact kk _ _ _ hH hS hl
  · cases h
theorem q_icmp_le (hx : p.tables.exec = Jvm.exec) (hb : c.code = aBy M) (hH : tH D dA ad sz A H) (hS : va_S (fun q => sz ≤ q) s.heap H locs) (hl : lR ad sz lsA (aMx M) ls) {z : Int} (ho : (pc : Int) + z = (x : Int)) (hdg : decode (aBy M) pc = .ok (.if_icmp .le z, 3)) (h : aStep sc (.if_icmp .le z, x, y, v) pc ls st A = some (pc', ls', st', A1)) (kk : aNx p l e R s m args below meth c Q ad sz a0 s0 D dA M pc' ls' st' A1) : W p l e R s m args below meth c H locs (A.length - a0) (aSum A - s0) Q (F0 m pc lsA (st.map (tV ad sz))) := by
  simp only [aStep] at h
  split at h
  · rename_i st0 y0 x0 r
    refine lv_icmp_le hx hb hdg ho (fun hc => ?_) (fun hc => ?_)
    · have e1 : aCmp .le x0 y0 = true := by simpa [aCmp] using hc
      simp only [aBr, e1, if_true, Option.some.injEq, Prod.mk.injEq] at h
      obtain ⟨rfl, rfl, rfl, rfl⟩ := h
      exact kk _ _ _ hH hS hl
    · have e1 : aCmp .le x0 y0 = false := by simpa [aCmp] using hc
      simp only [aBr, e1, Bool.false_eq_true, if_false, Option.some.injEq, Prod.mk.injEq] at h
      obtain ⟨rfl, rfl, rfl, rfl⟩ := h
      exact kk _ _ _ hH hS hl
  · cases h
theorem q_ifnull (hx : p.tables.exec = Jvm.exec) (hb : c.code = aBy M) (hH : tH D dA ad sz A H) (hS : va_S (fun q => sz ≤ q) s.heap H locs) (hl : lR ad sz lsA (aMx M) ls) {z : Int} (ho : (pc : Int) + z = (x : Int)) (hdg : decode (aBy M) pc = .ok (.ifnull z, 3)) (h : aStep sc (.ifnull z, x, y, v) pc ls st A = some (pc', ls', st', A1)) (kk : aNx p l e R s m args below meth c Q ad sz a0 s0 D dA M pc' ls' st' A1) : W p l e R s m args below meth c H locs (A.length - a0) (aSum A - s0) Q (F0 m pc lsA (st.map (tV ad sz))) := by
  simp only [aStep] at h
  split at h
  · simp only [Option.some.injEq, Prod.mk.injEq] at h
    obtain ⟨rfl, rfl, rfl, rfl⟩ := h
    exact lv_ifnull hx hb hdg (kk _ _ _ hH hS hl)
  · simp only [Option.some.injEq, Prod.mk.injEq] at h
    obtain ⟨rfl, rfl, rfl, rfl⟩ := h
    exact lv_ifnullN hx hb hdg ho (kk _ _ _ hH hS hl)
  · cases h
theorem q_ifnonnull (hx : p.tables.exec = Jvm.exec) (hb : c.code = aBy M) (hH : tH D dA ad sz A H) (hS : va_S (fun q => sz ≤ q) s.heap H locs) (hl : lR ad sz lsA (aMx M) ls) {z : Int} (ho : (pc : Int) + z = (x : Int)) (hdg : decode (aBy M) pc = .ok (.ifnonnull z, 3)) (h : aStep sc (.ifnonnull z, x, y, v) pc ls st A = some (pc', ls', st', A1)) (kk : aNx p l e R s m args below meth c Q ad sz a0 s0 D dA M pc' ls' st' A1) : W p l e R s m args below meth c H locs (A.length - a0) (aSum A - s0) Q (F0 m pc lsA (st.map (tV ad sz))) := by
  simp only [aStep] at h
  split at h
  · simp only [Option.some.injEq, Prod.mk.injEq] at h
    obtain ⟨rfl, rfl, rfl, rfl⟩ := h
    exact lv_ifnonnull hx hb hdg ho (kk _ _ _ hH hS hl)
  · simp only [Option.some.injEq, Prod.mk.injEq] at h
    obtain ⟨rfl, rfl, rfl, rfl⟩ := h
    exact lv_ifnonnullN hx hb hdg (kk _ _ _ hH hS hl)
  · cases h
end STP
