/-! CALLS: the invoking instruction itself -/
def mOk (M : Nat) : Prop := aCd M ∧ aMx M ≤ 40 ∧ plainFor (aNm M) = true ∧ ((aNm M).cls ≠ "java/lang/invoke/MethodHandle" ∧ (aNm M).cls ≠ "java/lang/invoke/VarHandle") ∧ hdR (aOw M) (aHx M) (aHd M) ∧ ((aNm M).name = "<init>" → Cond.code (aNm M) (aBy M) (aMx M) none ∈ aWs)
theorem w_oinit : Cond.instanceMethod objectInit ∈ aWs := aHas_ok (h := (1, 33)) (by decide +kernel)
theorem w_ocode : Cond.code objectInit ⟨#[0xb1]⟩ 1 none ∈ aWs := aHas_ok (h := (1, 34)) (by decide +kernel)
theorem w_cnat : Cond.native arraycopyName ∈ aWs := aHas_ok (h := (3, 219)) (by decide +kernel)
theorem w_csta : Cond.static arraycopyName ∈ aWs := aHas_ok (h := (3, 218)) (by decide +kernel)
theorem w_cini : Cond.initialized "java/lang/System" ∈ aWs := aHas_ok (h := (1, 21)) (by decide +kernel)
theorem n_copy : nativeFrameWords "java/lang/System" "arraycopy" 5 ≤ 100 := by decide +kernel
section INV
variable {p : Program} {l : Launch} {e : Env} {R : Room} {s : State} {m : MethodId} {args : Array Value} {below : List Frame} {meth : Method} {c : Code} {H : Heap} {locs : List Loc} {Q : State → Prop} {cells slots : Nat}
variable {ad : Nat → Nat} {sz a0 s0 : Nat} {D : va_G} {dA : Nat → ClassId} {sc : aSc} {lsA : Array Slot} {M pc idx x : Nat} {ls : aL} {st : List Value} {A A1 : aH} {T : State}
theorem q_oinit (hx : p.tables.exec = Jvm.exec) (hb : c.code = aBy M) (hml : c.maxLocals = aMx M) (hown : s.vm.findClass (aOw M) = some m.cls) (hG : gG ad sz D dA sc s) (hl : lR ad sz lsA (aMx M) ls) (hw : Cond.methodLink (aOw M) idx objectInit ∈ aWs) (hdg : decode (aBy M) pc = .ok (.invokespecial idx, 3)) (hfr : 1 ≤ R.frames) {a : Nat} {r : List Value} (hst : (r.map fun v => v.category).sum ≤ 40) (hlo : 200 ≤ R.locals)
    (kk : W p l e R s m args below meth c H locs cells slots Q (F0 m (pc + 3) lsA (r.map (tV ad sz)))) : W p l e R s m args below meth c H locs cells slots Q (F0 m pc lsA (tV ad sz (.ref a) :: r.map (tV ad sz))) := by
  refine W.objInit hx hb hown (hG.1 _ hw _) (hG.1 _ w_oinit _) (hG.1 _ w_ocode _) rfl (by rw [hml]; exact hl.size) rfl hdg hfr ?_ kk
  have e1 : ((r.map (tV ad sz)).map fun v => v.category) = r.map fun v => v.category := by
    rw [List.map_map]
    apply List.map_congr_left
    intro v _
    exact tV_cat v
  show 2 * 0 + ((r.map (tV ad sz)).map fun v => v.category).sum + 12 ≤ R.locals
  rw [e1]
  omega
theorem q_copy (hx : p.tables.exec = Jvm.exec) (hb : c.code = aBy M) (hml : c.maxLocals = aMx M) (hown : s.vm.findClass (aOw M) = some m.cls) (hG : gG ad sz D dA sc s) (hH : tH D dA ad sz A H) (hS : va_S (fun q => sz ≤ q) s.heap H locs) (hl : lR ad sz lsA (aMx M) ls) (hw : Cond.methodLink (aOw M) idx arraycopyName ∈ aWs) (hdg : decode (aBy M) pc = .ok (.invokestatic idx, 3)) (hfr : 1 ≤ R.frames) {aa ab : Nat} {n dp sp : Int32} {r : List Value} (hst : (r.map fun v => v.category).sum ≤ 40) (hlo : 200 ≤ R.locals)
    (h : aCopy A aa sp ab dp n = some A1)
    (kk : ∀ (H1 : Heap) (locs1 : List Loc), tH D dA ad sz A1 H1 → va_S (fun q => sz ≤ q) s.heap H1 locs1 → W p l e R s m args below meth c H1 locs1 (A1.length - a0) (aSum A1 - s0) Q (F0 m (pc + 3) lsA (r.map (tV ad sz)))) :
    W p l e R s m args below meth c H locs (A.length - a0) (aSum A - s0) Q (F0 m pc lsA (.int n :: .int dp :: tV ad sz (.ref ab) :: .int sp :: tV ad sz (.ref aa) :: r.map (tV ad sz))) := by
  unfold aCopy at h
  split at h
  · cases h
  · rename_i hneg
    simp only [not_or] at hneg
    obtain ⟨n1, n2, n3, n4, n5⟩ := hneg
    split at h
    · rename_i t n0 f e1
      split at h
      · rename_i t' n1' g e2
        split at h
        · rename_i hc
          obtain ⟨rfl, ht, h4, h5⟩ := hc
          cases h
          have ea : tV ad sz (.ref aa) = .ref (sz + (aa - 1000)) := by simp [tV, tA, n1]
          have eb : tV ad sz (.ref ab) = .ref (sz + (ab - 1000)) := by simp [tV, tA, n2]
          rw [ea, eb]
          have ec : ((r.map (tV ad sz)).map fun v => v.category) = r.map fun v => v.category := by
            rw [List.map_map]
            apply List.map_congr_left
            intro v _
            exact tV_cat v
          obtain ⟨ty, hty, hpr, hfit⟩ : ∃ ty, aTyL[t']? = some ty ∧ refKind ty = false ∧ ∀ i, i < n.toNatClampNeg → fits ty (.int (f (sp.toNatClampNeg + i))) = true := by
            rcases ht with rfl | rfl
            · exact ⟨.int, rfl, rfl, fun _ _ => rfl⟩
            · exact ⟨.char, rfl, rfl, fun i _ => hH.2 _ _ _ e1 _⟩
          refine va_copyi hx hb (by rw [hml]; exact hl.size.symm) hown (hG.1 _ hw _) (hG.1 _ w_cnat _) (hG.1 _ w_csta _) (hG.1 _ w_cini _) hG.2.1 hH.1 tW_D hS (aa - 1000) (ab - 1000) t' t' (tW_get (dA := dA) (ad := ad) (sz := sz) e1) (tW_get (dA := dA) (ad := ad) (sz := sz) e2) (tys_at hty) (tys_at hty) hpr n3 n4 n5 h4 h5 hfit hfr (by rw [ec]; have := n_copy; omega) hdg (fun H1 locs1 g1 _ g3 => ?_)
          have k1 := kk H1 locs1 ⟨by rw [tW_set]; exact g1, ?_⟩ g3
          · rw [List.length_set, aSum_set (y := .inl (t', n1', .inl (va_cpy f g sp.toNatClampNeg dp.toNatClampNeg n.toNatClampNeg))) e2 rfl] at k1
            exact k1
          · intro k2 n2 f2 hk2
            rw [List.getElem?_set] at hk2
            split at hk2
            · split at hk2
              · simp only [Option.some.injEq, Sum.inl.injEq, Prod.mk.injEq] at hk2
                obtain ⟨rfl, rfl, rfl⟩ := hk2
                intro j
                unfold va_cpy
                split
                · exact hH.2 _ _ _ e1 _
                · exact hH.2 _ _ _ e2 _
              · cases hk2
            · exact hH.2 k2 n2 f2 hk2
        · cases h
      · cases h
    · cases h
/-- the receiver of a call -/
theorem aRecv {ci b : Nat} (hG : gG ad sz D dA sc s) (hH : tH D dA ad sz A H) (hS : va_S (fun q => sz ≤ q) s.heap H locs) (h : aCl A (.ref b) = some ci) : ∃ cell : Cell, H[tA ad sz b]? = some cell ∧ cell.vm.isStatics = false ∧ s.vm.findClass (aCn ci) = some cell.cls := by
  unfold aCl at h
  dsimp only at h
  split at h
  · rename_i hb
    obtain ⟨cell, h1, h2, h3, -⟩ := (hG.2.2.2.2.1 b ci h).kept hS.2.1
    refine ⟨cell, ?_, h2, h3⟩
    simp only [tA, hb, if_true]
    exact h1
  · rename_i hb
    split at h
    · rename_i q e1
      cases h
      obtain ⟨ci, fs⟩ := q
      have he := tW_get (dA := dA) (ad := ad) (sz := sz) e1
      obtain ⟨r, hr, -⟩ := hH.1 _ _ he
      obtain ⟨-, -, -, -, -, hn, -⟩ := aClF hr
      obtain ⟨cell, h1, h2, h3⟩ := va_recv hG.2.1 hH.1 hr he
      refine ⟨cell, ?_, h2, by rw [← hn]; exact h3⟩
      simp only [tA, hb, if_false]
      exact h1
    · cases h
end INV
