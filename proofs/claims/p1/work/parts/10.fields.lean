section STQ
variable {p : Program} {l : Launch} {e : Env} {R : Room} {s : State} {m : MethodId} {args : Array Value} {below : List Frame} {meth : Method} {c : Code} {H : Heap} {locs : List Loc} {Q : State → Prop}
variable {ad : Nat → Nat} {sz a0 s0 : Nat} {D : va_G} {dA : Nat → ClassId} {sc : aSc} {lsA : Array Slot} {M pc pc' x y : Nat} {v : Value} {ls ls' : aL} {st st' : List Value} {A A1 : aH}
theorem q_tableswitch (hx : p.tables.exec = Jvm.exec) (hb : c.code = aBy M) (hH : tH D dA ad sz A H) (hS : va_S (fun q => sz ≤ q) s.heap H locs) (hl : lR ad sz lsA (aMx M) ls) {d lo hi : Int} {offs : Array Int}
    (ho : 0 ≤ (pc : Int) + d ∧ ∀ o ∈ offs.toList, 0 ≤ (pc : Int) + o) (hdg : decode (aBy M) pc = .ok (.tableswitch d lo hi offs, x)) (h : aStep sc (.tableswitch d lo hi offs, x, y, v) pc ls st A = some (pc', ls', st', A1))
    (kk : aNx p l e R s m args below meth c Q ad sz a0 s0 D dA M pc' ls' st' A1) : W p l e R s m args below meth c H locs (A.length - a0) (aSum A - s0) Q (F0 m pc lsA (st.map (tV ad sz))) := by
  simp only [aStep] at h
  split at h
  · rename_i z r
    split at h
    · rename_i t e1
      simp only [Option.some.injEq, Prod.mk.injEq] at h
      obtain ⟨rfl, rfl, rfl, rfl⟩ := h
      unfold aSw at e1
      split at e1
      · rename_i hc
        cases e1
        exact lv_tableOut hx hb hdg hc (by unfold aTgt; omega) (kk _ _ _ hH hS hl)
      · rename_i hc
        obtain ⟨o, h1, h2⟩ := Option.map_eq_some_iff.mp e1
        have h3 := ho.2 o (Array.mem_toList_iff.mpr (Array.mem_of_getElem? h1))
        exact lv_tableIn hx hb hdg (fun q => hc (Or.inl q)) (fun q => hc (Or.inr q)) h1 (by rw [← h2]; unfold aTgt; omega) (kk _ _ _ hH hS hl)
    · cases h
  · cases h
theorem q_ldc (hx : p.tables.exec = Jvm.exec) (hb : c.code = aBy M) (hown : s.vm.findClass (aOw M) = some m.cls) (hG : gG ad sz D dA sc s) (hH : tH D dA ad sz A H) (hS : va_S (fun q => sz ≤ q) s.heap H locs) (hl : lR ad sz lsA (aMx M) ls) {z : Nat}
    (ho : (∃ z0 : Int32, v = .int z0 ∧ Cond.constant (aOw M) z z0 ∈ aWs) ∨ ∃ (tx : String) (a : Nat), v = .ref a ∧ a < 1000 ∧ (aOw M, z, tx, a) ∈ aStr) (hdg : decode (aBy M) pc = .ok (.ldc z, 2)) (h : aStep sc (.ldc z, x, y, v) pc ls st A = some (pc', ls', st', A1))
    (kk : aNx p l e R s m args below meth c Q ad sz a0 s0 D dA M pc' ls' st' A1) : W p l e R s m args below meth c H locs (A.length - a0) (aSum A - s0) Q (F0 m pc lsA (st.map (tV ad sz))) := by
  simp only [aStep, Option.some.injEq, Prod.mk.injEq] at h
  obtain ⟨rfl, rfl, rfl, rfl⟩ := h
  rcases ho with ⟨z0, rfl, hw⟩ | ⟨tx, a, rfl, ha, hw⟩
  · exact lv_ldc hx hb hown (hG.1 _ hw _) hdg (kk _ _ _ hH hS hl)
  · have h1 := kk _ _ _ hH hS hl
    have e1 : tV ad sz (.ref a) = .ref (ad a) := by simp [tV, tA, ha]
    rw [List.map_cons, e1] at h1
    exact va_ldcS hx hb hown (hG.2.2.2.2.2.2.1 _ hw) hdg h1
theorem q_ldc_w (hx : p.tables.exec = Jvm.exec) (hb : c.code = aBy M) (hown : s.vm.findClass (aOw M) = some m.cls) (hG : gG ad sz D dA sc s) (hH : tH D dA ad sz A H) (hS : va_S (fun q => sz ≤ q) s.heap H locs) (hl : lR ad sz lsA (aMx M) ls) {z : Nat}
    (ho : ∃ z0 : Int32, v = .int z0 ∧ Cond.constant (aOw M) z z0 ∈ aWs) (hdg : decode (aBy M) pc = .ok (.ldc_w z, 3)) (h : aStep sc (.ldc_w z, x, y, v) pc ls st A = some (pc', ls', st', A1))
    (kk : aNx p l e R s m args below meth c Q ad sz a0 s0 D dA M pc' ls' st' A1) : W p l e R s m args below meth c H locs (A.length - a0) (aSum A - s0) Q (F0 m pc lsA (st.map (tV ad sz))) := by
  simp only [aStep, Option.some.injEq, Prod.mk.injEq] at h
  obtain ⟨rfl, rfl, rfl, rfl⟩ := h
  obtain ⟨z0, rfl, hw⟩ := ho
  exact lv_ldcw hx hb hown (hG.1 _ hw _) hdg (kk _ _ _ hH hS hl)
theorem q_ldc2_w (hx : p.tables.exec = Jvm.exec) (hb : c.code = aBy M) (hown : s.vm.findClass (aOw M) = some m.cls) (hG : gG ad sz D dA sc s) (hH : tH D dA ad sz A H) (hS : va_S (fun q => sz ≤ q) s.heap H locs) (hl : lR ad sz lsA (aMx M) ls) {z : Nat}
    (ho : ∃ z0 : Int64, v = .long z0 ∧ Cond.constantLong (aOw M) z z0 ∈ aWs) (hdg : decode (aBy M) pc = .ok (.ldc2_w z, 3)) (h : aStep sc (.ldc2_w z, x, y, v) pc ls st A = some (pc', ls', st', A1))
    (kk : aNx p l e R s m args below meth c Q ad sz a0 s0 D dA M pc' ls' st' A1) : W p l e R s m args below meth c H locs (A.length - a0) (aSum A - s0) Q (F0 m pc lsA (st.map (tV ad sz))) := by
  simp only [aStep, Option.some.injEq, Prod.mk.injEq] at h
  obtain ⟨rfl, rfl, rfl, rfl⟩ := h
  obtain ⟨z0, rfl, hw⟩ := ho
  exact lv_ldc2 hx hb hown (hG.1 _ hw _) hdg (kk _ _ _ hH hS hl)
theorem q_getstatic (hx : p.tables.exec = Jvm.exec) (hb : c.code = aBy M) (hown : s.vm.findClass (aOw M) = some m.cls) (hG : gG ad sz D dA sc s) (hH : tH D dA ad sz A H) (hS : va_S (fun q => sz ≤ q) s.heap H locs) (hl : lR ad sz lsA (aMx M) ls) {z : Nat}
    (ho : (x = 1 ∧ Cond.fieldLink (aOw M) z "jdk/internal/util/Preconditions" "SIOOBE_FORMATTER" "Ljava/util/function/BiFunction;" ∈ aWs) ∨ (¬ x = 1 ∧ ∃ C n d : String, (C, n, d, v) ∈ aSta0 ∧ (Cond.fieldLink (aOw M) z C n d ∈ aWs ∨ Cond.fieldLinkNest (aOw M) z C n d "TreeStore" ∈ aWs)))
    (hdg : decode (aBy M) pc = .ok (.getstatic z, 3)) (h : aStep sc (.getstatic z, x, y, v) pc ls st A = some (pc', ls', st', A1))
    (kk : aNx p l e R s m args below meth c Q ad sz a0 s0 D dA M pc' ls' st' A1) : W p l e R s m args below meth c H locs (A.length - a0) (aSum A - s0) Q (F0 m pc lsA (st.map (tV ad sz))) := by
  simp only [aStep, Option.some.injEq, Prod.mk.injEq] at h
  obtain ⟨rfl, rfl, rfl, rfl⟩ := h
  rcases ho with ⟨hx1, hw⟩ | ⟨hx1, C, n, d, hq, hw⟩
  · have hZ := hG.2.2.2.2.2.1 _ (List.mem_cons_self : ("jdk/internal/util/Preconditions", "SIOOBE_FORMATTER", "Ljava/util/function/BiFunction;", sc.2.2) ∈ aSta sc)
    have k1 := kk _ _ _ hH hS hl
    rw [if_pos hx1] at k1
    exact va_gets hx hb hZ hS hown (hG.1 _ hw _) (fun _ h9 => h9) hdg k1
  · have hZ := hG.2.2.2.2.2.1 _ (List.mem_cons_of_mem _ hq)
    have k1 := kk _ _ _ hH hS hl
    rw [if_neg hx1] at k1
    rcases hw with hw | hw
    · exact va_gets hx hb hZ hS hown (hG.1 _ hw _) (fun _ h9 => h9) hdg k1
    · exact va_getsN hx hb hZ hS hown (hG.1 _ hw _) (fun _ h9 => h9) hdg k1
theorem q_getfield (hx : p.tables.exec = Jvm.exec) (hb : c.code = aBy M) (hown : s.vm.findClass (aOw M) = some m.cls) (hG : gG ad sz D dA sc s) (hH : tH D dA ad sz A H) (hS : va_S (fun q => sz ≤ q) s.heap H locs) (hl : lR ad sz lsA (aMx M) ls) {z : Nat}
    (ho : aLk M z x y) (hdg : decode (aBy M) pc = .ok (.getfield z, 3)) (h : aStep sc (.getfield z, x, y, v) pc ls st A = some (pc', ls', st', A1))
    (kk : aNx p l e R s m args below meth c Q ad sz a0 s0 D dA M pc' ls' st' A1) : W p l e R s m args below meth c H locs (A.length - a0) (aSum A - s0) Q (F0 m pc lsA (st.map (tV ad sz))) := by
  simp only [aStep] at h
  split at h
  · rename_i a r
    unfold aPush at h
    split at h
    · rename_i w e1
      simp only [Option.some.injEq, Prod.mk.injEq] at h
      obtain ⟨rfl, rfl, rfl, rfl⟩ := h
      unfold aFld at e1
      split at e1
      · rename_i ha
        obtain ⟨cf, k9, fi, f, cell, f1, f2, f3, f4, f5, f6⟩ := (hG.2.2.1 _ _ _ _ e1).kept hS.2.1
        have e2 : tV ad sz (.ref a) = .ref (ad a) := by simp [tV, tA, ha]
        show W p l e R s m args below meth c H locs _ _ Q (F0 m pc lsA (tV ad sz (.ref a) :: r.map (tV ad sz)))
        rw [e2]
        rcases ho with hw | hw
        · exact W.getf hx hb hown (hG.1 _ hw _) f1 f2 f3 f4 f5 rfl rfl hdg (kk _ _ _ hH hS hl)
        · exact va_Wgetf hx hb hown (hG.1 _ hw _) f1 f2 f3 f4 f5 rfl rfl hdg (kk _ _ _ hH hS hl)
      · rename_i ha
        split at e1
        · rename_i q eq
          split at e1
          · rename_i hci
            obtain ⟨ci, fs⟩ := q
            obtain ⟨h1, h2⟩ := hci
            dsimp only at h1 h2 e1
            subst h1
            have e2 : tV ad sz (.ref a) = .ref (sz + (a - 1000)) := by simp [tV, tA, ha]
            have he := tW_get (dA := dA) (ad := ad) (sz := sz) eq
            obtain ⟨⟨C, T, N⟩, hc, -⟩ := hH.1 _ _ he
            obtain ⟨c0, c1, c2, c4, c5, c6, c7⟩ := aClF hc
            dsimp only at c0 c1 c2 c4 c5 c6 c7
            subst c0
            show W p l e R s m args below meth c H locs _ _ Q (F0 m pc lsA (tV ad sz (.ref a) :: r.map (tV ad sz)))
            rw [e2]
            have hv : (fs.map (tV ad sz))[y]? = some (tV ad sz w) := by simp [e1]
            rcases ho with hw | hw
            · exact va_get (C := C) (T := fnT ci) (N := N) hx hb (fun w h9 => hG.1 w h9 _) c4 hown hG.2.1 hH.1 (a - 1000) he hc y (by rw [c7]; exact h2) (hG.1 _ hw _) (fun _ h9 => h9) hv hdg (kk _ _ _ hH hS hl)
            · exact va_getN (C := C) (T := fnT ci) (N := N) hx hb (fun w h9 => hG.1 w h9 _) c4 hown hG.2.1 hH.1 (a - 1000) he hc y (by rw [c7]; exact h2) (hG.1 _ hw _) (fun _ h9 => h9) hv hdg (kk _ _ _ hH hS hl)
          · cases e1
        · cases e1
    · cases h
  · cases h
theorem q_putfield (hx : p.tables.exec = Jvm.exec) (hb : c.code = aBy M) (hown : s.vm.findClass (aOw M) = some m.cls) (hG : gG ad sz D dA sc s) (hH : tH D dA ad sz A H) (hS : va_S (fun q => sz ≤ q) s.heap H locs) (hl : lR ad sz lsA (aMx M) ls) {z : Nat}
    (ho : aLk M z x y) (hf : (aFn x y = false) ∨ (meth.name = "<init>" ∧ (fnT x y).1 = aOw M ∧ Cond.fieldLink (aOw M) z (fnT x y).1 (fnT x y).2.1 (fnT x y).2.2.1 ∈ aWs)) (hdg : decode (aBy M) pc = .ok (.putfield z, 3)) (h : aStep sc (.putfield z, x, y, v) pc ls st A = some (pc', ls', st', A1))
    (kk : aNx p l e R s m args below meth c Q ad sz a0 s0 D dA M pc' ls' st' A1) : W p l e R s m args below meth c H locs (A.length - a0) (aSum A - s0) Q (F0 m pc lsA (st.map (tV ad sz))) := by
  simp only [aStep] at h
  split at h
  · rename_i w a r
    split at h
    · rename_i A2 e1
      simp only [Option.some.injEq, Prod.mk.injEq] at h
      obtain ⟨rfl, rfl, rfl, rfl⟩ := h
      unfold aPut at e1
      split at e1
      · cases e1
      · rename_i ha
        split at e1
        · rename_i q eq
          split at e1
          · rename_i hci
            obtain ⟨ci, fs⟩ := q
            obtain ⟨h1, hk0, h2, h3⟩ := hci
            dsimp only at h1 hk0 h2 h3
            subst h1
            cases e1
            have e2 : tV ad sz (.ref a) = .ref (sz + (a - 1000)) := by simp [tV, tA, ha]
            have he := tW_get (dA := dA) (ad := ad) (sz := sz) eq
            obtain ⟨⟨C, T, N⟩, hc, -⟩ := hH.1 _ _ he
            obtain ⟨c0, c1, c2, c4, c5, c6, c7⟩ := aClF hc
            dsimp only at c0 c1 c2 c4 c5 c6 c7
            subst c0
            have hk : y < N := by rw [c7]; exact hk0
            have hfit := aFit_ok (ad := ad) (sz := sz) h3
            have e3 : aSum (A.set (a - 1000) (.inr (ci, fs.set y w))) = aSum A := aSum_set eq rfl
            have kk2 : ∀ (H1 : Heap) (locs1 : List Loc), va_P D aCls ((tW dA ad sz A).set (a - 1000) (sz + (a - 1000), .inr (ci, (fs.map (tV ad sz)).set y (tV ad sz w)))) H1 → va_S (fun q => sz ≤ q) s.heap H1 locs1 →
                W p l e R s m args below meth c H1 locs1 (A.length - a0) (aSum A - s0) Q (F0 m (pc + 3) lsA (r.map (tV ad sz))) := by
              intro H1 locs1 g1 g2
              have := kk H1 locs1 lsA ⟨by rw [tW_set]; simp only [tE, List.map_set]; exact g1, ?_⟩ g2 hl
              · rw [List.length_set, e3] at this
                exact this
              · intro k n f hkn
                rw [List.getElem?_set] at hkn
                split at hkn
                · split at hkn <;> simp at hkn
                · exact hH.2 k n f hkn
            show W p l e R s m args below meth c H locs _ _ Q (F0 m pc lsA (tV ad sz w :: tV ad sz (.ref a) :: r.map (tV ad sz)))
            rw [e2]
            cases hfb : aFn ci y with
            | false =>
              rcases ho with hw | hw
              · exact va_put (C := C) (T := fnT ci) (N := N) hx hb (fun w h9 => hG.1 w h9 _) c4 (aFt ci) c1 c2 hown hG.2.1 hH.1 tW_D hS (a - 1000) he hc y hk (hG.1 _ hw _) (fun _ h9 => h9) hfb (c1 y hk) hfit.1 hfit.2 (by simpa using h2) hdg (fun H1 locs1 g1 _ g3 => kk2 H1 locs1 g1 g3)
              · exact va_putN (C := C) (T := fnT ci) (N := N) hx hb (fun w h9 => hG.1 w h9 _) c4 (aFt ci) c1 c2 hown hG.2.1 hH.1 tW_D hS (a - 1000) he hc y hk (hG.1 _ hw _) (fun _ h9 => h9) hfb (c1 y hk) hfit.1 hfit.2 (by simpa using h2) hdg (fun H1 locs1 g1 _ g3 => kk2 H1 locs1 g1 g3)
            | true =>
              rcases hf with hf | ⟨hin, hdecl, hw⟩
              · exact absurd (hf.symm.trans hfb) (by decide)
              · exact va_putF (C := C) (T := fnT ci) (N := N) hx hb (fun w h9 => hG.1 w h9 _) c4 (aFt ci) c1 c2 hown hG.2.1 hH.1 tW_D hS (a - 1000) he hc y hk (hG.1 _ hw _) (fun _ h9 => h9) hfb hin hdecl (c1 y hk) hfit.1 hfit.2 (by simpa using h2) hdg (fun H1 locs1 g1 _ g3 => kk2 H1 locs1 g1 g3)
          · cases e1
        · cases e1
    · cases h
  · cases h
end STQ
