section STU
variable {p : Program} {l : Launch} {e : Env} {R : Room} {s : State} {m : MethodId} {args : Array Value} {below : List Frame} {meth : Method} {c : Code} {H : Heap} {locs : List Loc} {Q : State → Prop}
variable {ad : Nat → Nat} {sz a0 s0 : Nat} {D : va_G} {dA : Nat → ClassId} {sc : aSc} {lsA : Array Slot} {M pc pc' x y : Nat} {v : Value} {ls ls' : aL} {st st' : List Value} {A A1 : aH}
theorem tV_new {n : Nat} : tV ad sz (.ref (1000 + n)) = .ref (sz + n) := by
  have h1 : ¬ 1000 + n < 1000 := by omega
  have h2 : 1000 + n - 1000 = n := by omega
  simp only [tV, tA, h1, if_false, h2]
theorem tV_rf (r : Option Nat) : tV ad sz (va_rf r) = va_rf (r.map (tA ad sz)) := by cases r <;> rfl
theorem tWf_push {x : aE} (h : aWf A) (hx : ∀ (n : Nat) (f : Nat → Int32), x = .inl (1, n, .inl f) → ∀ j, fits .char (.int (f j)) = true) : aWf (A ++ [x]) := by
  intro k n f hk
  by_cases h1 : k < A.length
  · rw [List.getElem?_append_left h1] at hk
    exact h k n f hk
  · rw [List.getElem?_append_right (by omega)] at hk
    have hz : k - A.length < 1 := (List.getElem?_eq_some_iff.mp hk).1
    rw [show k - A.length = 0 by omega] at hk
    exact hx n f (by simpa using hk)
theorem tRA {cA cB : ClassId} {ty : FieldType} (h1 : va_RA s cA ty) (h2 : va_RA s cB ty) : cA = cB := by
  cases ty with
  | object C =>
    obtain ⟨_, _, -, -, -, h3⟩ := h1
    obtain ⟨_, _, -, -, -, h4⟩ := h2
    exact Option.some.inj (h3.symm.trans h4)
  | _ => exact Option.some.inj (Eq.trans (Eq.symm h1) h2)
theorem aTyO {t : Nat} (h1 : 5 ≤ t) (h2 : t < 8) : ∃ C, aTyL[t]? = some (.object C) := by
  rcases (by omega : t = 5 ∨ t = 6 ∨ t = 7) with rfl | rfl | rfl
  · exact ⟨_, rfl⟩
  · exact ⟨_, rfl⟩
  · exact ⟨_, rfl⟩
abbrev aCt : Type := (Nat → Int32) ⊕ (Nat → Int64) ⊕ (Nat → UInt32) ⊕ (Nat → UInt64) ⊕ (Nat → Option Nat)
theorem aNewA_ty {z : ArrayType} {q : Nat × aCt} (h : aNewA z = some q) : aTyL[q.1]? = some (newarray.typeOf z) := by
  cases z <;> simp [aNewA] at h <;> subst h <;> rfl
theorem aNewA_lt {z : ArrayType} {q : Nat × aCt} (h : aNewA z = some q) : q.1 < 7 := by
  cases z <;> simp [aNewA] at h <;> subst h <;> decide
theorem aNewA_def {z : ArrayType} {q : Nat × aCt} {n : Nat} (h : aNewA z = some q) (cA : ClassId) : vp_cell cA (n, q.2) = arrV cA n (fun _ => defaultValue (newarray.typeOf z)) := by
  cases z <;> simp [aNewA] at h <;> subst h <;> rfl
theorem aNewA_bytes {z : ArrayType} {q : Nat × aCt} {n : Nat} (h : aNewA z = some q) (hn : n ≤ 65536) : n * componentBytes (newarray.typeOf z) ≤ 536870912 := by
  cases z <;> simp [aNewA] at h <;> simp [componentBytes, newarray.typeOf] <;> omega
theorem aNewA_tX {z : ArrayType} {q : Nat × aCt} {n : Nat} (h : aNewA z = some q) : tX ad sz (n, q.2) = (n, q.2) := by
  cases z <;> simp [aNewA] at h <;> subst h <;> rfl
theorem aNewA_fit {z : ArrayType} {q : Nat × aCt} {n : Nat} (h : aNewA z = some q) : ∀ (n' : Nat) (f : Nat → Int32), (Sum.inl (q.1, n, q.2) : aE) = .inl (1, n', .inl f) → ∀ j, fits .char (.int (f j)) = true := by
  intro n' f e j
  cases z <;> simp [aNewA] at h <;> subst h <;> simp at e
  obtain ⟨-, rfl⟩ := e
  rfl
theorem q_aaload (hx : p.tables.exec = Jvm.exec) (hb : c.code = aBy M) (hown : s.vm.findClass (aOw M) = some m.cls) (hG : gG ad sz D dA sc s) (hH : tH D dA ad sz A H) (hS : va_S (fun q => sz ≤ q) s.heap H locs) (hl : lR ad sz lsA (aMx M) ls) 
     (hdg : decode (aBy M) pc = .ok (.aaload, 1)) (h : aStep sc (.aaload, x, y, v) pc ls st A = some (pc', ls', st', A1))
    (kk : aNx p l e R s m args below meth c Q ad sz a0 s0 D dA M pc' ls' st' A1) : W p l e R s m args below meth c H locs (A.length - a0) (aSum A - s0) Q (F0 m pc lsA (st.map (tV ad sz))) := by
  simp only [aStep] at h
  split at h
  · rename_i k a r
    unfold aPush at h
    split at h
    · rename_i w e1
      simp only [Option.some.injEq, Prod.mk.injEq] at h
      obtain ⟨rfl, rfl, rfl, rfl⟩ := h
      unfold aRdR at e1
      split at e1
      · rename_i t1 n1 f e2
        split at e1
        · rename_i hin
          obtain ⟨h5, h6, h7, hin⟩ := hin
          cases e1
          obtain ⟨C, hC⟩ := aTyO h5 h6
          have k1 := kk _ _ _ hH hS hl
          rw [List.map_cons, tV_rf] at k1
          rcases aArr_or e2 with ⟨ha, h2⟩ | ⟨ha, h2⟩
          · obtain ⟨ty, hty, hT⟩ := hG.2.2.2.1 a _ ha h2
            cases hC.symm.trans hty
            have e4 : tV ad sz (.ref a) = .ref (ad a) := by simp [tV, tA, ha]
            show W p l e R s m args below meth c H locs _ _ Q (F0 m pc lsA (.int k :: tV ad sz (.ref a) :: r.map (tV ad sz)))
            rw [e4]
            exact vb_tq hx hb hT hS hin rfl hdg k1
          · have e4 : tV ad sz (.ref a) = .ref (sz + (a - 1000)) := by simp [tV, tA, ha]
            show W p l e R s m args below meth c H locs _ _ Q (F0 m pc lsA (.int k :: tV ad sz (.ref a) :: r.map (tV ad sz)))
            rw [e4]
            exact va_aldq hx hb hG.2.1 hH.1 (a - 1000) t1 (tW_get (dA := dA) (ad := ad) (sz := sz) h2) (tys_at hC) hin hdg k1
        · cases e1
      · cases e1
    · cases h
  · cases h
theorem q_arraylength (hx : p.tables.exec = Jvm.exec) (hb : c.code = aBy M) (hown : s.vm.findClass (aOw M) = some m.cls) (hG : gG ad sz D dA sc s) (hH : tH D dA ad sz A H) (hS : va_S (fun q => sz ≤ q) s.heap H locs) (hl : lR ad sz lsA (aMx M) ls) 
     (hdg : decode (aBy M) pc = .ok (.arraylength, 1)) (h : aStep sc (.arraylength, x, y, v) pc ls st A = some (pc', ls', st', A1))
    (kk : aNx p l e R s m args below meth c Q ad sz a0 s0 D dA M pc' ls' st' A1) : W p l e R s m args below meth c H locs (A.length - a0) (aSum A - s0) Q (F0 m pc lsA (st.map (tV ad sz))) := by
  simp only [aStep] at h
  split at h
  · rename_i a r
    split at h
    · rename_i q e1
      split at h
      · rename_i h8
        simp only [Option.some.injEq, Prod.mk.injEq] at h
        obtain ⟨rfl, rfl, rfl, rfl⟩ := h
        rcases aArr_or e1 with ⟨ha, h2⟩ | ⟨ha, h2⟩
        · obtain ⟨ty, hty, hT⟩ := hG.2.2.2.1 a _ ha h2
          have e4 : tV ad sz (.ref a) = .ref (ad a) := by simp [tV, tA, ha]
          show W p l e R s m args below meth c H locs _ _ Q (F0 m pc lsA (tV ad sz (.ref a) :: r.map (tV ad sz)))
          rw [e4]
          exact va_tlen hx hb hT hS rfl hdg (kk _ _ _ hH hS hl)
        · have e4 : tV ad sz (.ref a) = .ref (sz + (a - 1000)) := by simp [tV, tA, ha]
          show W p l e R s m args below meth c H locs _ _ Q (F0 m pc lsA (tV ad sz (.ref a) :: r.map (tV ad sz)))
          rw [e4]
          obtain ⟨ty, hty⟩ := tys_at8 (dA := dA) h8
          exact va_alen hx hb hG.2.1 hH.1 (a - 1000) q.1 (x := tX ad sz q.2) (tW_get (dA := dA) (ad := ad) (sz := sz) h2) hty rfl hdg (kk _ _ _ hH hS hl)
      · cases h
    · cases h
  · cases h
theorem aDf_tV {ci : Nat} {r : vw_C} (h : aCls[ci]? = some r) : (aDf ci).map (tV ad sz) = aDf ci := by
  have hlt := (clT h).1
  match ci, hlt with
  | 0, _ => rfl
  | 1, _ => rfl
  | 2, _ => rfl
  | 3, _ => rfl
  | 4, _ => rfl
  | 5, _ => rfl
  | 6, _ => rfl
  | 7, _ => rfl
  | 8, _ => rfl
  | 9, _ => rfl
  | 10, _ => rfl
  | 11, _ => rfl
  | 12, _ => rfl
  | 13, _ => rfl
  | n + 14, h9 => exact absurd h9 (by omega)
theorem q_new (hx : p.tables.exec = Jvm.exec) (hb : c.code = aBy M) (hown : s.vm.findClass (aOw M) = some m.cls) (hG : gG ad sz D dA sc s) (hH : tH D dA ad sz A H) (hS : va_S (fun q => sz ≤ q) s.heap H locs) (hl : lR ad sz lsA (aMx M) ls) {z : Nat}
    (ho : ∃ r : vw_C, aCls[x]? = some r ∧ Cond.classLink (aOw M) z r.1 ∈ aWs ∧ Cond.instantiable r.1 (aNs x) ∈ aWs ∧ Cond.initialized r.1 ∈ aWs ∧ (y = 1 ∨ aNs x = r.2.2)) (hy : ¬ y = 1) (hsz : s.heap.size = sz + a0) (ha0 : a0 ≤ A.length) (hs0 : s0 ≤ aSum A) (hc1 : A1.length ≤ a0 + R.cells) (hs1 : aSum A1 ≤ s0 + R.slots) (hdg : decode (aBy M) pc = .ok (.new z, 3)) (h : aStep sc (.new z, x, y, v) pc ls st A = some (pc', ls', st', A1))
    (kk : aNx p l e R s m args below meth c Q ad sz a0 s0 D dA M pc' ls' st' A1) : W p l e R s m args below meth c H locs (A.length - a0) (aSum A - s0) Q (F0 m pc lsA (st.map (tV ad sz))) := by
  simp only [aStep, Option.some.injEq, Prod.mk.injEq] at h
  obtain ⟨rfl, rfl, rfl, rfl⟩ := h
  obtain ⟨⟨C, T, N⟩, hc, hw1, hw2, hw3, hN⟩ := ho
  have hN1 : aNs x = N := by
    rcases hN with h9 | h9
    · exact absurd h9 hy
    · exact h9
  clear hN
  obtain ⟨c0, c1, c2, c4, hdf, c6, c7⟩ := aClF hc
  have hdt : (aDf x).map (tV ad sz) = aDf x := aDf_tV hc
  dsimp only at c0 c1 c2 c4 hdf c6 c7 hw1 hw2 hw3
  subst c0
  rw [hN1] at hw2
  rw [List.length_append, List.length_singleton] at hc1
  rw [aSum_push] at hs1
  simp only [aSl, hN1] at hs1
  refine va_new (C := C) (T := fnT x) (N := N) (ci := x) (fs := aDf x) hx hb (fun w h9 => hG.1 w h9 _) c4 (aFt x) c1 hown (hG.1 _ hw1 _) (hG.1 _ hw2 _) (hG.1 _ hw3 _) hG.2.1 hH.1 tW_D hS (fun q hq => by omega) hc hdf (by omega) (by omega) hdg (fun q H1 g1 g2 g3 => ?_)
  refine wSz (fun hz => ?_)
  have hq : q = sz + A.length := tFresh g1 g2 (by omega)
  subst hq
  have k1 := kk H1 locs lsA ⟨by rw [tW_push]; simp only [tE, hdt]; exact g1, tWf_push hH.2 (fun n f h9 => by cases h9)⟩ g3 hl
  rw [List.length_append, List.length_singleton, aSum_push] at k1
  simp only [aSl, hN1] at k1
  have e4 : tV ad sz (.ref (1000 + A.length)) = .ref (sz + A.length) := tV_new
  rw [List.map_cons, e4, show A.length + 1 - a0 = A.length - a0 + 1 by omega, show aSum A + N - s0 = aSum A - s0 + N by omega] at k1
  exact k1
theorem q_newarray (hx : p.tables.exec = Jvm.exec) (hb : c.code = aBy M) (hown : s.vm.findClass (aOw M) = some m.cls) (hG : gG ad sz D dA sc s) (hH : tH D dA ad sz A H) (hS : va_S (fun q => sz ≤ q) s.heap H locs) (hl : lR ad sz lsA (aMx M) ls) {z : ArrayType}
    (ho : Cond.arrayClass (newarray.typeOf z) ∈ aWs) (hsz : s.heap.size = sz + a0) (ha0 : a0 ≤ A.length) (hs0 : s0 ≤ aSum A) (hc1 : A1.length ≤ a0 + R.cells) (hs1 : aSum A1 ≤ s0 + R.slots) (hdg : decode (aBy M) pc = .ok (.newarray z, 2)) (h : aStep sc (.newarray z, x, y, v) pc ls st A = some (pc', ls', st', A1))
    (kk : aNx p l e R s m args below meth c Q ad sz a0 s0 D dA M pc' ls' st' A1) : W p l e R s m args below meth c H locs (A.length - a0) (aSum A - s0) Q (F0 m pc lsA (st.map (tV ad sz))) := by
  simp only [aStep] at h
  split at h
  · rename_i n r
    split at h
    · rename_i q e1
      split at h
      · cases h
      · rename_i hn
        simp only [Option.some.injEq, Prod.mk.injEq] at h
        obtain ⟨rfl, rfl, rfl, rfl⟩ := h
        rw [List.length_append, List.length_singleton] at hc1
        rw [aSum_push] at hs1
        simp only [aSl] at hs1
        have hty : aTyL[q.1]? = some (newarray.typeOf z) := aNewA_ty e1
        have hlt7 := aNewA_lt e1
        refine va_newa (ty := newarray.typeOf z) (N' := n.toNatClampNeg) (a0 := (n.toNatClampNeg, q.2)) hx hb (hG.1 _ ho _) rfl hG.2.1 hH.1 tW_D hS (fun q hq => by omega) (aNewA_def e1) (fun h9 => hn (Or.inl h9)) rfl (aNewA_bytes e1 (by omega)) (by omega) (by omega) hdg (fun q0 cA H1 g0 g1 g2 g3 => ?_)
        have hcA : cA = dA q.1 := by
          have h8 := g0.2 (tysL dA).length (cA, newarray.typeOf z) (by simp)
          exact tRA h8.2 (hG.2.1.2 _ _ (tys_at hty)).2
        subst hcA
        refine wSz (fun hz => ?_)
        have hq : q0 = sz + A.length := tFresh g1 g2 (by omega)
        subst hq
        have k1 := kk H1 locs lsA ⟨by rw [tW_push]; simp only [tE, aNewA_tX e1]; exact g1, tWf_push hH.2 (aNewA_fit e1)⟩ g3 hl
        rw [List.length_append, List.length_singleton, aSum_push] at k1
        simp only [aSl] at k1
        have e4 : tV ad sz (.ref (1000 + A.length)) = .ref (sz + A.length) := tV_new
        rw [List.map_cons, e4, show A.length + 1 - a0 = A.length - a0 + 1 by omega, show aSum A + n.toNatClampNeg - s0 = aSum A - s0 + n.toNatClampNeg by omega] at k1
        exact k1
    · cases h
  · cases h
theorem q_anewarray (hx : p.tables.exec = Jvm.exec) (hb : c.code = aBy M) (hown : s.vm.findClass (aOw M) = some m.cls) (hG : gG ad sz D dA sc s) (hH : tH D dA ad sz A H) (hS : va_S (fun q => sz ≤ q) s.heap H locs) (hl : lR ad sz lsA (aMx M) ls) {z : Nat}
    (ho : ∃ C : String, aTyL[x]? = some (.object C) ∧ (5 ≤ x ∧ x < 7) ∧ Cond.classLink (aOw M) z C ∈ aWs ∧ Cond.arrayOver (.object C) ∈ aWs) (hsz : s.heap.size = sz + a0) (ha0 : a0 ≤ A.length) (hs0 : s0 ≤ aSum A) (hc1 : A1.length ≤ a0 + R.cells) (hs1 : aSum A1 ≤ s0 + R.slots) (hdg : decode (aBy M) pc = .ok (.anewarray z, 3)) (h : aStep sc (.anewarray z, x, y, v) pc ls st A = some (pc', ls', st', A1))
    (kk : aNx p l e R s m args below meth c Q ad sz a0 s0 D dA M pc' ls' st' A1) : W p l e R s m args below meth c H locs (A.length - a0) (aSum A - s0) Q (F0 m pc lsA (st.map (tV ad sz))) := by
  obtain ⟨C, hty, h5, hw1, hw2⟩ := ho
  simp only [aStep] at h
  split at h
  · rename_i n r
    split at h
    · cases h
    · rename_i hn
      simp only [Option.some.injEq, Prod.mk.injEq] at h
      obtain ⟨rfl, rfl, rfl, rfl⟩ := h
      rw [List.length_append, List.length_singleton] at hc1
      rw [aSum_push] at hs1
      simp only [aSl] at hs1
      refine va_newq (C := C) (N' := n.toNatClampNeg) hx hb hown (hG.1 _ hw1 _) (va_AO.of (hG.1 _ hw2 #[])) hG.2.1 hH.1 tW_D hS (fun q hq => by omega) (fun h9 => hn (Or.inl h9)) rfl (by omega) (by omega) (by omega) hdg (fun q0 cA H1 g0 g1 g2 g3 => ?_)
      have hcA : cA = dA x := by
        have h8 := g0.2 (tysL dA).length (cA, .object C) (by simp)
        exact tRA h8.2 (hG.2.1.2 _ _ (tys_at hty)).2
      subst hcA
      refine wSz (fun hz => ?_)
      have hq : q0 = sz + A.length := tFresh g1 g2 (by omega)
      subst hq
      have k1 := kk H1 locs lsA ⟨by rw [tW_push]; exact g1, tWf_push hH.2 (fun n f h9 => by simp at h9)⟩ g3 hl
      rw [List.length_append, List.length_singleton, aSum_push] at k1
      simp only [aSl] at k1
      rw [List.map_cons, tV_new, show A.length + 1 - a0 = A.length - a0 + 1 by omega, show aSum A + n.toNatClampNeg - s0 = aSum A - s0 + n.toNatClampNeg by omega] at k1
      exact k1
  · cases h
theorem aElO {t : Nat} (h1 : 5 ≤ t) (h2 : t < 7) : ∃ r, aCls[aEl t]? = some r ∧ aTyL[t]? = some (.object r.1) := by
  rcases (by omega : t = 5 ∨ t = 6) with rfl | rfl
  · exact ⟨_, rfl, rfl⟩
  · exact ⟨_, rfl, rfl⟩
theorem q_aastore (hx : p.tables.exec = Jvm.exec) (hb : c.code = aBy M) (hown : s.vm.findClass (aOw M) = some m.cls) (hG : gG ad sz D dA sc s) (hH : tH D dA ad sz A H) (hS : va_S (fun q => sz ≤ q) s.heap H locs) (hl : lR ad sz lsA (aMx M) ls) 
     (hdg : decode (aBy M) pc = .ok (.aastore, 1)) (h : aStep sc (.aastore, x, y, v) pc ls st A = some (pc', ls', st', A1))
    (kk : aNx p l e R s m args below meth c Q ad sz a0 s0 D dA M pc' ls' st' A1) : W p l e R s m args below meth c H locs (A.length - a0) (aSum A - s0) Q (F0 m pc lsA (st.map (tV ad sz))) := by
  simp only [aStep] at h
  split at h
  · rename_i w k a r
    split at h
    · rename_i A2 e1
      simp only [Option.some.injEq, Prod.mk.injEq] at h
      obtain ⟨rfl, rfl, rfl, rfl⟩ := h
      unfold aWrR at e1
      split at e1
      · cases e1
      · rename_i ha
        split at e1
        · rename_i t1 n1 f e2
          split at e1
          · rename_i q e3
            split at e1
            · rename_i hin
              obtain ⟨h5, h6, hq, hin⟩ := hin
              cases e1
              obtain ⟨ci, fs⟩ := q
              dsimp only at hq
              subst hq
              obtain ⟨r0, hr0, hty⟩ := aElO h5 h6
              have ha1 : ¬ a < 1000 := fun h9 => ha (Or.inl h9)
              have hw1 : ¬ w < 1000 := fun h9 => ha (Or.inr h9)
              have e4 : tV ad sz (.ref a) = .ref (sz + (a - 1000)) := by simp [tV, tA, ha1]
              have e5 : tV ad sz (.ref w) = .ref (sz + (w - 1000)) := by simp [tV, tA, hw1]
              show W p l e R s m args below meth c H locs _ _ Q (F0 m pc lsA (tV ad sz (.ref w) :: .int k :: tV ad sz (.ref a) :: r.map (tV ad sz)))
              rw [e4, e5]
              refine va_astq hx hb hG.2.1 hH.1 tW_D hS (a - 1000) t1 (w - 1000) (aEl t1) (tW_get (dA := dA) (ad := ad) (sz := sz) e2) (tys_at hty) (tW_get (dA := dA) (ad := ad) (sz := sz) e3) hr0 hin hdg (fun H1 locs1 g1 _ g3 => ?_)
              have e6 : (fun j => (va_up f k.toNatClampNeg (some w) j).map (tA ad sz)) = va_up (fun j => (f j).map (tA ad sz)) k.toNatClampNeg (some (sz + (w - 1000))) := by
                funext j
                unfold va_up
                split
                · simp [tA, hw1]
                · rfl
              have := kk H1 locs1 lsA ⟨by rw [tW_set]; simp only [tE, tX, e6]; exact g1, ?_⟩ g3 hl
              · rw [List.length_set, aSum_set (y := .inl (t1, n1, .inr (.inr (.inr (.inr (va_up f k.toNatClampNeg (some w))))))) e2 rfl] at this
                exact this
              · intro k2 n2 f2 hk2
                rw [List.getElem?_set] at hk2
                split at hk2
                · split at hk2
                  · simp at hk2
                  · cases hk2
                · exact hH.2 k2 n2 f2 hk2
            · cases e1
          · cases e1
        · cases e1
    · cases h
  · cases h
theorem tA_inj {x y : Nat} (hinj : ∀ i j, 100 ≤ i → i < 112 → 100 ≤ j → j < 112 → ad i = ad j → i = j) (hcp : aCp x y = true) : tA ad sz x = tA ad sz y ↔ x = y := by
  constructor
  · intro e1
    simp only [aCp, Bool.or_eq_true, Bool.and_eq_true, decide_eq_true_eq] at hcp
    rcases hcp with ⟨h1, h2⟩ | ⟨⟨⟨h1, h2⟩, h3⟩, h4⟩
    · have n1 : ¬ x < 1000 := by omega
      have n2 : ¬ y < 1000 := by omega
      simp only [tA, n1, n2, if_false] at e1
      omega
    · have n1 : x < 1000 := by omega
      have n2 : y < 1000 := by omega
      simp only [tA, n1, n2, if_true] at e1
      exact hinj _ _ h1 h2 h3 h4 e1
  · intro e1
    rw [e1]
theorem q_acmp_eq (hx : p.tables.exec = Jvm.exec) (hb : c.code = aBy M) (hown : s.vm.findClass (aOw M) = some m.cls) (hG : gG ad sz D dA sc s) (hH : tH D dA ad sz A H) (hS : va_S (fun q => sz ≤ q) s.heap H locs) (hl : lR ad sz lsA (aMx M) ls) {z : Int}
    (ho : (pc : Int) + z = (x : Int)) (hinj : ∀ i j, 100 ≤ i → i < 112 → 100 ≤ j → j < 112 → ad i = ad j → i = j) (hdg : decode (aBy M) pc = .ok (.if_acmp .eq z, 3)) (h : aStep sc (.if_acmp .eq z, x, y, v) pc ls st A = some (pc', ls', st', A1))
    (kk : aNx p l e R s m args below meth c Q ad sz a0 s0 D dA M pc' ls' st' A1) : W p l e R s m args below meth c H locs (A.length - a0) (aSum A - s0) Q (F0 m pc lsA (st.map (tV ad sz))) := by
  simp only [aStep] at h
  split at h
  · rename_i y0 x0 r
    split at h
    · rename_i hcp
      have hi := tA_inj (sz := sz) hinj hcp
      refine lv_acmp_eq (rx := some (tA ad sz x0)) (ry := some (tA ad sz y0)) hx hb hdg ho (fun hc => ?_) (fun hc => ?_)
      · have e1 : (x0 == y0) = true := beq_iff_eq.mpr (hi.mp (Option.some.inj hc))
        simp only [aBr, e1, if_true, Option.some.injEq, Prod.mk.injEq] at h
        obtain ⟨rfl, rfl, rfl, rfl⟩ := h
        exact kk _ _ _ hH hS hl
      · have e1 : (x0 == y0) = false := beq_eq_false_iff_ne.mpr (fun e => hc (congrArg some (hi.mpr e)))
        simp only [aBr, e1, Bool.false_eq_true, if_false, Option.some.injEq, Prod.mk.injEq] at h
        obtain ⟨rfl, rfl, rfl, rfl⟩ := h
        exact kk _ _ _ hH hS hl
    · cases h
  · refine lv_acmp_eq (rx := some _) (ry := none) hx hb hdg ho (fun hc => ?_) (fun hc => ?_)
    · cases hc
    · simp only [aBr, Bool.false_eq_true, if_false, Option.some.injEq, Prod.mk.injEq] at h
      obtain ⟨rfl, rfl, rfl, rfl⟩ := h
      exact kk _ _ _ hH hS hl
  · refine lv_acmp_eq (rx := none) (ry := some _) hx hb hdg ho (fun hc => ?_) (fun hc => ?_)
    · cases hc
    · simp only [aBr, Bool.false_eq_true, if_false, Option.some.injEq, Prod.mk.injEq] at h
      obtain ⟨rfl, rfl, rfl, rfl⟩ := h
      exact kk _ _ _ hH hS hl
  · refine lv_acmp_eq (rx := none) (ry := none) hx hb hdg ho (fun hc => ?_) (fun hc => ?_)
    · simp only [aBr, if_true, Option.some.injEq, Prod.mk.injEq] at h
      obtain ⟨rfl, rfl, rfl, rfl⟩ := h
      exact kk _ _ _ hH hS hl
    · exact absurd rfl hc
  · cases h
theorem q_acmp_ne (hx : p.tables.exec = Jvm.exec) (hb : c.code = aBy M) (hown : s.vm.findClass (aOw M) = some m.cls) (hG : gG ad sz D dA sc s) (hH : tH D dA ad sz A H) (hS : va_S (fun q => sz ≤ q) s.heap H locs) (hl : lR ad sz lsA (aMx M) ls) {z : Int}
    (ho : (pc : Int) + z = (x : Int)) (hinj : ∀ i j, 100 ≤ i → i < 112 → 100 ≤ j → j < 112 → ad i = ad j → i = j) (hdg : decode (aBy M) pc = .ok (.if_acmp .ne z, 3)) (h : aStep sc (.if_acmp .ne z, x, y, v) pc ls st A = some (pc', ls', st', A1))
    (kk : aNx p l e R s m args below meth c Q ad sz a0 s0 D dA M pc' ls' st' A1) : W p l e R s m args below meth c H locs (A.length - a0) (aSum A - s0) Q (F0 m pc lsA (st.map (tV ad sz))) := by
  simp only [aStep] at h
  split at h
  · rename_i y0 x0 r
    split at h
    · rename_i hcp
      have hi := tA_inj (sz := sz) hinj hcp
      refine lv_acmp_ne (rx := some (tA ad sz x0)) (ry := some (tA ad sz y0)) hx hb hdg ho (fun hc => ?_) (fun hc => ?_)
      · have e1 : (x0 == y0) = false := beq_eq_false_iff_ne.mpr (fun e => hc (congrArg some (hi.mpr e)))
        simp only [aBr, e1, Bool.not_false, if_true, Option.some.injEq, Prod.mk.injEq] at h
        obtain ⟨rfl, rfl, rfl, rfl⟩ := h
        exact kk _ _ _ hH hS hl
      · have e1 : (x0 == y0) = true := beq_iff_eq.mpr (hi.mp (Option.some.inj hc))
        simp only [aBr, e1, Bool.not_true, Bool.false_eq_true, if_false, Option.some.injEq, Prod.mk.injEq] at h
        obtain ⟨rfl, rfl, rfl, rfl⟩ := h
        exact kk _ _ _ hH hS hl
    · cases h
  · refine lv_acmp_ne (rx := some _) (ry := none) hx hb hdg ho (fun hc => ?_) (fun hc => ?_)
    · simp only [aBr, if_true, Option.some.injEq, Prod.mk.injEq] at h
      obtain ⟨rfl, rfl, rfl, rfl⟩ := h
      exact kk _ _ _ hH hS hl
    · cases hc
  · refine lv_acmp_ne (rx := none) (ry := some _) hx hb hdg ho (fun hc => ?_) (fun hc => ?_)
    · simp only [aBr, if_true, Option.some.injEq, Prod.mk.injEq] at h
      obtain ⟨rfl, rfl, rfl, rfl⟩ := h
      exact kk _ _ _ hH hS hl
    · cases hc
  · refine lv_acmp_ne (rx := none) (ry := none) hx hb hdg ho (fun hc => ?_) (fun hc => ?_)
    · exact absurd rfl hc
    · simp only [aBr, Bool.false_eq_true, if_false, Option.some.injEq, Prod.mk.injEq] at h
      obtain ⟨rfl, rfl, rfl, rfl⟩ := h
      exact kk _ _ _ hH hS hl
  · cases h
end STU
