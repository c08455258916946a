theorem nar_fit (z : Int32) : fits .char (.int (vp_nar .char z)) = true := by
  have e1 : vp_nar .char z = (z.toUInt32 % 65536).toInt32 := by
    rw [vp_nar_char]
    apply Int32.toBitVec_inj.mp
    apply BitVec.eq_of_toNat_eq
    simp
  rw [e1]
  exact pk_fc z
section STR
variable {p : Program} {l : Launch} {e : Env} {R : Room} {s : State} {m : MethodId} {args : Array Value} {below : List Frame} {meth : Method} {c : Code} {H : Heap} {locs : List Loc} {Q : State → Prop}
variable {ad : Nat → Nat} {sz a0 s0 : Nat} {D : va_G} {dA : Nat → ClassId} {sc : aSc} {lsA : Array Slot} {M pc pc' x y : Nat} {v : Value} {ls ls' : aL} {st st' : List Value} {A A1 : aH}
theorem aArr_or {a : Nat} {q : Nat × vp_A} (h : aArr sc A a = some q) : (a < 1000 ∧ aArr sc [] a = some q) ∨ (¬ a < 1000 ∧ A[a - 1000]? = some (.inl q)) := by
  unfold aArr at h ⊢
  by_cases h0 : a = 0
  · subst h0
    exact Or.inl ⟨by omega, by simpa using h⟩
  · by_cases h1 : a < 1000
    · exact Or.inl ⟨h1, by simpa [h0, h1] using h⟩
    · refine Or.inr ⟨h1, ?_⟩
      simp only [h0, h1, if_false] at h
      split at h
      · rename_i q2 e2
        cases h
        exact e2
      · cases h
theorem tys_at {t : Nat} {ty : FieldType} (h : aTyL[t]? = some ty) (h7 : t < 7 := by omega) : (tysL dA)[t]? = some (dA t, ty) := by
  have e : aTyK[t]? = aTyL[t]? := by
    rcases (by omega : t = 0 ∨ t = 1 ∨ t = 2 ∨ t = 3 ∨ t = 4 ∨ t = 5 ∨ t = 6) with rfl | rfl | rfl | rfl | rfl | rfl | rfl <;> rfl
  simp [tysL, e, h]
theorem tys_at8 {t : Nat} (h8 : t < aTyL.length) : ∃ ty, (tysL dA)[t]? = some (dA t, ty) := by
  have h9 : t < aTyK.length := h8
  exact ⟨aTyK[t], by simp [tysL, h9]⟩
theorem q_iaload (hx : p.tables.exec = Jvm.exec) (hb : c.code = aBy M) (hown : s.vm.findClass (aOw M) = some m.cls) (hG : gG ad sz D dA sc s) (hH : tH D dA ad sz A H) (hS : va_S (fun q => sz ≤ q) s.heap H locs) (hl : lR ad sz lsA (aMx M) ls) 
     (hdg : decode (aBy M) pc = .ok (.iaload, 1)) (h : aStep sc (.iaload, x, y, v) pc ls st A = some (pc', ls', st', A1))
    (kk : aNx p l e R s m args below meth c Q ad sz a0 s0 D dA M pc' ls' st' A1) : W p l e R s m args below meth c H locs (A.length - a0) (aSum A - s0) Q (F0 m pc lsA (st.map (tV ad sz))) := by
  simp only [aStep] at h
  split at h
  · rename_i k a r
    unfold aPush at h
    split at h
    · rename_i w e1
      simp only [Option.some.injEq, Prod.mk.injEq] at h
      obtain ⟨rfl, rfl, rfl, rfl⟩ := h
      unfold aRdI at e1
      split at e1
      · rename_i t1 n1 f e2
        split at e1
        · rename_i hin
          obtain ⟨rfl, hin⟩ := hin
          cases e1
          rcases aArr_or e2 with ⟨ha, h2⟩ | ⟨ha, h2⟩
          · obtain ⟨ty, hty, hT⟩ := hG.2.2.2.1 a _ ha h2
            cases (show aTyL[0]? = some .int from rfl).symm.trans hty
            have e4 : tV ad sz (.ref a) = .ref (ad a) := by simp [tV, tA, ha]
            show W p l e R s m args below meth c H locs _ _ Q (F0 m pc lsA (.int k :: tV ad sz (.ref a) :: r.map (tV ad sz)))
            rw [e4]
            exact va_ti hx hb hT hS hin rfl hdg (kk _ _ _ hH hS hl)
          · have e4 : tV ad sz (.ref a) = .ref (sz + (a - 1000)) := by simp [tV, tA, ha]
            show W p l e R s m args below meth c H locs _ _ Q (F0 m pc lsA (.int k :: tV ad sz (.ref a) :: r.map (tV ad sz)))
            rw [e4]
            exact va_iald hx hb hG.2.1 hH.1 (a - 1000) 0 (tW_get (dA := dA) (ad := ad) (sz := sz) h2) (tys_at (show aTyL[0]? = some .int from rfl)) hin hdg (kk _ _ _ hH hS hl)
        · cases e1
      · cases e1
    · cases h
  · cases h
theorem q_caload (hx : p.tables.exec = Jvm.exec) (hb : c.code = aBy M) (hown : s.vm.findClass (aOw M) = some m.cls) (hG : gG ad sz D dA sc s) (hH : tH D dA ad sz A H) (hS : va_S (fun q => sz ≤ q) s.heap H locs) (hl : lR ad sz lsA (aMx M) ls) 
     (hdg : decode (aBy M) pc = .ok (.caload, 1)) (h : aStep sc (.caload, x, y, v) pc ls st A = some (pc', ls', st', A1))
    (kk : aNx p l e R s m args below meth c Q ad sz a0 s0 D dA M pc' ls' st' A1) : W p l e R s m args below meth c H locs (A.length - a0) (aSum A - s0) Q (F0 m pc lsA (st.map (tV ad sz))) := by
  simp only [aStep] at h
  split at h
  · rename_i k a r
    unfold aPush at h
    split at h
    · rename_i w e1
      simp only [Option.some.injEq, Prod.mk.injEq] at h
      obtain ⟨rfl, rfl, rfl, rfl⟩ := h
      unfold aRdI at e1
      split at e1
      · rename_i t1 n1 f e2
        split at e1
        · rename_i hin
          obtain ⟨rfl, hin⟩ := hin
          cases e1
          rcases aArr_or e2 with ⟨ha, h2⟩ | ⟨ha, h2⟩
          · obtain ⟨ty, hty, hT⟩ := hG.2.2.2.1 a _ ha h2
            cases (show aTyL[1]? = some .char from rfl).symm.trans hty
            have e4 : tV ad sz (.ref a) = .ref (ad a) := by simp [tV, tA, ha]
            show W p l e R s m args below meth c H locs _ _ Q (F0 m pc lsA (.int k :: tV ad sz (.ref a) :: r.map (tV ad sz)))
            rw [e4]
            exact va_tc hx hb hT hS hin rfl hdg (kk _ _ _ hH hS hl)
          · have e4 : tV ad sz (.ref a) = .ref (sz + (a - 1000)) := by simp [tV, tA, ha]
            show W p l e R s m args below meth c H locs _ _ Q (F0 m pc lsA (.int k :: tV ad sz (.ref a) :: r.map (tV ad sz)))
            rw [e4]
            exact va_cald hx hb hG.2.1 hH.1 (a - 1000) 1 (tW_get (dA := dA) (ad := ad) (sz := sz) h2) (tys_at (show aTyL[1]? = some .char from rfl)) hin hdg (kk _ _ _ hH hS hl)
        · cases e1
      · cases e1
    · cases h
  · cases h
theorem q_baload (hx : p.tables.exec = Jvm.exec) (hb : c.code = aBy M) (hown : s.vm.findClass (aOw M) = some m.cls) (hG : gG ad sz D dA sc s) (hH : tH D dA ad sz A H) (hS : va_S (fun q => sz ≤ q) s.heap H locs) (hl : lR ad sz lsA (aMx M) ls) 
    (ho : x = 2) (hdg : decode (aBy M) pc = .ok (.baload, 1)) (h : aStep sc (.baload, x, y, v) pc ls st A = some (pc', ls', st', A1))
    (kk : aNx p l e R s m args below meth c Q ad sz a0 s0 D dA M pc' ls' st' A1) : W p l e R s m args below meth c H locs (A.length - a0) (aSum A - s0) Q (F0 m pc lsA (st.map (tV ad sz))) := by
  subst ho
  simp only [aStep] at h
  split at h
  · rename_i k a r
    unfold aPush at h
    split at h
    · rename_i w e1
      simp only [Option.some.injEq, Prod.mk.injEq] at h
      obtain ⟨rfl, rfl, rfl, rfl⟩ := h
      unfold aRdI at e1
      split at e1
      · rename_i t1 n1 f e2
        split at e1
        · rename_i hin
          obtain ⟨rfl, hin⟩ := hin
          cases e1
          rcases aArr_or e2 with ⟨ha, h2⟩ | ⟨ha, h2⟩
          · obtain ⟨ty, hty, hT⟩ := hG.2.2.2.1 a _ ha h2
            cases (show aTyL[2]? = some .boolean from rfl).symm.trans hty
            have e4 : tV ad sz (.ref a) = .ref (ad a) := by simp [tV, tA, ha]
            show W p l e R s m args below meth c H locs _ _ Q (F0 m pc lsA (.int k :: tV ad sz (.ref a) :: r.map (tV ad sz)))
            rw [e4]
            exact va_tz hx hb hT hS hin rfl hdg (kk _ _ _ hH hS hl)
          · have e4 : tV ad sz (.ref a) = .ref (sz + (a - 1000)) := by simp [tV, tA, ha]
            show W p l e R s m args below meth c H locs _ _ Q (F0 m pc lsA (.int k :: tV ad sz (.ref a) :: r.map (tV ad sz)))
            rw [e4]
            exact va_zald hx hb hG.2.1 hH.1 (a - 1000) 2 (tW_get (dA := dA) (ad := ad) (sz := sz) h2) (tys_at (show aTyL[2]? = some .boolean from rfl)) hin hdg (kk _ _ _ hH hS hl)
        · cases e1
      · cases e1
    · cases h
  · cases h
theorem q_baload4 (hx : p.tables.exec = Jvm.exec) (hb : c.code = aBy M) (hown : s.vm.findClass (aOw M) = some m.cls) (hG : gG ad sz D dA sc s) (hH : tH D dA ad sz A H) (hS : va_S (fun q => sz ≤ q) s.heap H locs) (hl : lR ad sz lsA (aMx M) ls) 
    (ho : x = 4) (hdg : decode (aBy M) pc = .ok (.baload, 1)) (h : aStep sc (.baload, x, y, v) pc ls st A = some (pc', ls', st', A1))
    (kk : aNx p l e R s m args below meth c Q ad sz a0 s0 D dA M pc' ls' st' A1) : W p l e R s m args below meth c H locs (A.length - a0) (aSum A - s0) Q (F0 m pc lsA (st.map (tV ad sz))) := by
  subst ho
  simp only [aStep] at h
  split at h
  · rename_i k a r
    unfold aPush at h
    split at h
    · rename_i w e1
      simp only [Option.some.injEq, Prod.mk.injEq] at h
      obtain ⟨rfl, rfl, rfl, rfl⟩ := h
      unfold aRdI at e1
      split at e1
      · rename_i t1 n1 f e2
        split at e1
        · rename_i hin
          obtain ⟨rfl, hin⟩ := hin
          cases e1
          rcases aArr_or e2 with ⟨ha, h2⟩ | ⟨ha, h2⟩
          · obtain ⟨ty, hty, hT⟩ := hG.2.2.2.1 a _ ha h2
            cases (show aTyL[4]? = some .byte from rfl).symm.trans hty
            have e4 : tV ad sz (.ref a) = .ref (ad a) := by simp [tV, tA, ha]
            show W p l e R s m args below meth c H locs _ _ Q (F0 m pc lsA (.int k :: tV ad sz (.ref a) :: r.map (tV ad sz)))
            rw [e4]
            exact va_tb hx hb hT hS hin rfl hdg (kk _ _ _ hH hS hl)
          · have e4 : tV ad sz (.ref a) = .ref (sz + (a - 1000)) := by simp [tV, tA, ha]
            show W p l e R s m args below meth c H locs _ _ Q (F0 m pc lsA (.int k :: tV ad sz (.ref a) :: r.map (tV ad sz)))
            rw [e4]
            exact va_bald hx hb hG.2.1 hH.1 (a - 1000) 4 (tW_get (dA := dA) (ad := ad) (sz := sz) h2) (tys_at (show aTyL[4]? = some .byte from rfl)) hin hdg (kk _ _ _ hH hS hl)
        · cases e1
      · cases e1
    · cases h
  · cases h
theorem q_laload (hx : p.tables.exec = Jvm.exec) (hb : c.code = aBy M) (hown : s.vm.findClass (aOw M) = some m.cls) (hG : gG ad sz D dA sc s) (hH : tH D dA ad sz A H) (hS : va_S (fun q => sz ≤ q) s.heap H locs) (hl : lR ad sz lsA (aMx M) ls) 
     (hdg : decode (aBy M) pc = .ok (.laload, 1)) (h : aStep sc (.laload, x, y, v) pc ls st A = some (pc', ls', st', A1))
    (kk : aNx p l e R s m args below meth c Q ad sz a0 s0 D dA M pc' ls' st' A1) : W p l e R s m args below meth c H locs (A.length - a0) (aSum A - s0) Q (F0 m pc lsA (st.map (tV ad sz))) := by
  simp only [aStep] at h
  split at h
  · rename_i k a r
    unfold aPush at h
    split at h
    · rename_i w e1
      simp only [Option.some.injEq, Prod.mk.injEq] at h
      obtain ⟨rfl, rfl, rfl, rfl⟩ := h
      unfold aRdL at e1
      split at e1
      · rename_i t1 n1 f e2
        split at e1
        · rename_i hin
          obtain ⟨rfl, hin⟩ := hin
          cases e1
          rcases aArr_or e2 with ⟨ha, h2⟩ | ⟨ha, h2⟩
          · obtain ⟨ty, hty, hT⟩ := hG.2.2.2.1 a _ ha h2
            cases (show aTyL[3]? = some .long from rfl).symm.trans hty
            have e4 : tV ad sz (.ref a) = .ref (ad a) := by simp [tV, tA, ha]
            show W p l e R s m args below meth c H locs _ _ Q (F0 m pc lsA (.int k :: tV ad sz (.ref a) :: r.map (tV ad sz)))
            rw [e4]
            exact va_tl hx hb hT hS hin rfl hdg (kk _ _ _ hH hS hl)
          · have e4 : tV ad sz (.ref a) = .ref (sz + (a - 1000)) := by simp [tV, tA, ha]
            show W p l e R s m args below meth c H locs _ _ Q (F0 m pc lsA (.int k :: tV ad sz (.ref a) :: r.map (tV ad sz)))
            rw [e4]
            exact va_lald hx hb hG.2.1 hH.1 (a - 1000) 3 (tW_get (dA := dA) (ad := ad) (sz := sz) h2) (tys_at (show aTyL[3]? = some .long from rfl)) hin hdg (kk _ _ _ hH hS hl)
        · cases e1
      · cases e1
    · cases h
  · cases h
theorem q_iastore (hx : p.tables.exec = Jvm.exec) (hb : c.code = aBy M) (hown : s.vm.findClass (aOw M) = some m.cls) (hG : gG ad sz D dA sc s) (hH : tH D dA ad sz A H) (hS : va_S (fun q => sz ≤ q) s.heap H locs) (hl : lR ad sz lsA (aMx M) ls) 
     (hdg : decode (aBy M) pc = .ok (.iastore, 1)) (h : aStep sc (.iastore, x, y, v) pc ls st A = some (pc', ls', st', A1))
    (kk : aNx p l e R s m args below meth c Q ad sz a0 s0 D dA M pc' ls' st' A1) : W p l e R s m args below meth c H locs (A.length - a0) (aSum A - s0) Q (F0 m pc lsA (st.map (tV ad sz))) := by
  simp only [aStep] at h
  split at h
  · rename_i z0 k a r
    split at h
    · rename_i A2 e1
      simp only [Option.some.injEq, Prod.mk.injEq] at h
      obtain ⟨rfl, rfl, rfl, rfl⟩ := h
      unfold aWrI at e1
      split at e1
      · cases e1
      · rename_i ha
        split at e1
        · rename_i t1 n1 f e2
          split at e1
          · rename_i hin
            obtain ⟨rfl, hin⟩ := hin
            cases e1
            have e4 : tV ad sz (.ref a) = .ref (sz + (a - 1000)) := by simp [tV, tA, ha]
            show W p l e R s m args below meth c H locs _ _ Q (F0 m pc lsA (.int z0 :: .int k :: tV ad sz (.ref a) :: r.map (tV ad sz)))
            rw [e4]
            refine va_iast hx hb hG.2.1 hH.1 tW_D hS (a - 1000) 0 (tW_get (dA := dA) (ad := ad) (sz := sz) e2) (tys_at (show aTyL[0]? = some .int from rfl)) hin hdg (fun H1 locs1 g1 _ g3 => ?_)
            have := kk H1 locs1 lsA ⟨by rw [tW_set]; exact g1, ?_⟩ g3 hl
            · rw [List.length_set, aSum_set (y := .inl (0, n1, .inl (upd f k.toNatClampNeg z0))) e2 rfl] at this
              exact this
            · intro k2 n2 f2 hk2
              rw [List.getElem?_set] at hk2
              split at hk2
              · split at hk2
                · simp at hk2
                · cases hk2
              · exact hH.2 k2 n2 f2 hk2
          · cases e1
        · cases e1
    · cases h
  · cases h
theorem q_bastore (hx : p.tables.exec = Jvm.exec) (hb : c.code = aBy M) (hown : s.vm.findClass (aOw M) = some m.cls) (hG : gG ad sz D dA sc s) (hH : tH D dA ad sz A H) (hS : va_S (fun q => sz ≤ q) s.heap H locs) (hl : lR ad sz lsA (aMx M) ls) 
     (hdg : decode (aBy M) pc = .ok (.bastore, 1)) (h : aStep sc (.bastore, x, y, v) pc ls st A = some (pc', ls', st', A1))
    (kk : aNx p l e R s m args below meth c Q ad sz a0 s0 D dA M pc' ls' st' A1) : W p l e R s m args below meth c H locs (A.length - a0) (aSum A - s0) Q (F0 m pc lsA (st.map (tV ad sz))) := by
  simp only [aStep] at h
  split at h
  · rename_i z0 k a r
    split at h
    · rename_i A2 e1
      simp only [Option.some.injEq, Prod.mk.injEq] at h
      obtain ⟨rfl, rfl, rfl, rfl⟩ := h
      unfold aWrI at e1
      split at e1
      · cases e1
      · rename_i ha
        split at e1
        · rename_i t1 n1 f e2
          split at e1
          · rename_i hin
            obtain ⟨rfl, hin⟩ := hin
            cases e1
            have e4 : tV ad sz (.ref a) = .ref (sz + (a - 1000)) := by simp [tV, tA, ha]
            show W p l e R s m args below meth c H locs _ _ Q (F0 m pc lsA (.int z0 :: .int k :: tV ad sz (.ref a) :: r.map (tV ad sz)))
            rw [e4]
            refine va_zast hx hb hG.2.1 hH.1 tW_D hS (a - 1000) 2 (tW_get (dA := dA) (ad := ad) (sz := sz) e2) (tys_at (show aTyL[2]? = some .boolean from rfl)) hin hdg (fun H1 locs1 g1 _ g3 => ?_)
            have := kk H1 locs1 lsA ⟨by rw [tW_set]; exact g1, ?_⟩ g3 hl
            · rw [List.length_set, aSum_set (y := .inl (2, n1, .inl (upd f k.toNatClampNeg (vp_nar .boolean z0)))) e2 rfl] at this
              exact this
            · intro k2 n2 f2 hk2
              rw [List.getElem?_set] at hk2
              split at hk2
              · split at hk2
                · simp at hk2
                · cases hk2
              · exact hH.2 k2 n2 f2 hk2
          · cases e1
        · cases e1
    · cases h
  · cases h
theorem q_castore (hx : p.tables.exec = Jvm.exec) (hb : c.code = aBy M) (hown : s.vm.findClass (aOw M) = some m.cls) (hG : gG ad sz D dA sc s) (hH : tH D dA ad sz A H) (hS : va_S (fun q => sz ≤ q) s.heap H locs) (hl : lR ad sz lsA (aMx M) ls) 
     (hdg : decode (aBy M) pc = .ok (.castore, 1)) (h : aStep sc (.castore, x, y, v) pc ls st A = some (pc', ls', st', A1))
    (kk : aNx p l e R s m args below meth c Q ad sz a0 s0 D dA M pc' ls' st' A1) : W p l e R s m args below meth c H locs (A.length - a0) (aSum A - s0) Q (F0 m pc lsA (st.map (tV ad sz))) := by
  simp only [aStep] at h
  split at h
  · rename_i z0 k a r
    split at h
    · rename_i A2 e1
      simp only [Option.some.injEq, Prod.mk.injEq] at h
      obtain ⟨rfl, rfl, rfl, rfl⟩ := h
      unfold aWrI at e1
      split at e1
      · cases e1
      · rename_i ha
        split at e1
        · rename_i t1 n1 f e2
          split at e1
          · rename_i hin
            obtain ⟨rfl, hin⟩ := hin
            cases e1
            have e4 : tV ad sz (.ref a) = .ref (sz + (a - 1000)) := by simp [tV, tA, ha]
            show W p l e R s m args below meth c H locs _ _ Q (F0 m pc lsA (.int z0 :: .int k :: tV ad sz (.ref a) :: r.map (tV ad sz)))
            rw [e4]
            refine va_cast hx hb hG.2.1 hH.1 tW_D hS (a - 1000) 1 (tW_get (dA := dA) (ad := ad) (sz := sz) e2) (tys_at (show aTyL[1]? = some .char from rfl)) hin hdg (fun H1 locs1 g1 _ g3 => ?_)
            have := kk H1 locs1 lsA ⟨by rw [tW_set]; exact g1, ?_⟩ g3 hl
            · rw [List.length_set, aSum_set (y := .inl (1, n1, .inl (upd f k.toNatClampNeg (vp_nar .char z0)))) e2 rfl] at this
              exact this
            · intro k2 n2 f2 hk2
              rw [List.getElem?_set] at hk2
              split at hk2
              · split at hk2
                · simp only [Option.some.injEq, Sum.inl.injEq, Prod.mk.injEq, true_and] at hk2
                  obtain ⟨rfl, rfl⟩ := hk2
                  intro j
                  unfold upd
                  split
                  · exact nar_fit z0
                  · exact hH.2 _ _ _ e2 j
                · cases hk2
              · exact hH.2 k2 n2 f2 hk2
          · cases e1
        · cases e1
    · cases h
  · cases h
theorem q_lastore (hx : p.tables.exec = Jvm.exec) (hb : c.code = aBy M) (hown : s.vm.findClass (aOw M) = some m.cls) (hG : gG ad sz D dA sc s) (hH : tH D dA ad sz A H) (hS : va_S (fun q => sz ≤ q) s.heap H locs) (hl : lR ad sz lsA (aMx M) ls) 
     (hdg : decode (aBy M) pc = .ok (.lastore, 1)) (h : aStep sc (.lastore, x, y, v) pc ls st A = some (pc', ls', st', A1))
    (kk : aNx p l e R s m args below meth c Q ad sz a0 s0 D dA M pc' ls' st' A1) : W p l e R s m args below meth c H locs (A.length - a0) (aSum A - s0) Q (F0 m pc lsA (st.map (tV ad sz))) := by
  simp only [aStep] at h
  split at h
  · rename_i z0 k a r
    split at h
    · rename_i A2 e1
      simp only [Option.some.injEq, Prod.mk.injEq] at h
      obtain ⟨rfl, rfl, rfl, rfl⟩ := h
      unfold aWrL at e1
      split at e1
      · cases e1
      · rename_i ha
        split at e1
        · rename_i t1 n1 f e2
          split at e1
          · rename_i hin
            obtain ⟨rfl, hin⟩ := hin
            cases e1
            have e4 : tV ad sz (.ref a) = .ref (sz + (a - 1000)) := by simp [tV, tA, ha]
            show W p l e R s m args below meth c H locs _ _ Q (F0 m pc lsA (.long z0 :: .int k :: tV ad sz (.ref a) :: r.map (tV ad sz)))
            rw [e4]
            refine va_last hx hb hG.2.1 hH.1 tW_D hS (a - 1000) 3 (tW_get (dA := dA) (ad := ad) (sz := sz) e2) (tys_at (show aTyL[3]? = some .long from rfl)) hin hdg (fun H1 locs1 g1 _ g3 => ?_)
            have := kk H1 locs1 lsA ⟨by rw [tW_set]; exact g1, ?_⟩ g3 hl
            · rw [List.length_set, aSum_set (y := .inl (3, n1, .inr (.inl (vp_updL f k.toNatClampNeg z0)))) e2 rfl] at this
              exact this
            · intro k2 n2 f2 hk2
              rw [List.getElem?_set] at hk2
              split at hk2
              · split at hk2
                · simp at hk2
                · cases hk2
              · exact hH.2 k2 n2 f2 hk2
          · cases e1
        · cases e1
    · cases h
  · cases h
end STR
