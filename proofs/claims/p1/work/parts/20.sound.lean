/-! THE MACHINE FOLLOWS THE INTERPRETER -/
theorem goRecv {M ci : Nat} {A : aH} {vs : List Value} (h : aGo M A vs = true) (hc : aIc M = some ci) : ∃ b vs', vs = .ref b :: vs' ∧ aCl A (.ref b) = some ci := by
  unfold aGo at h
  rw [hc] at h
  rw [Bool.and_eq_true] at h
  cases vs with
  | nil => exact absurd h.2 (by simp)
  | cons v vs' =>
    have h2 : aCl A v = some ci := by simpa using h.2
    cases v with
    | ref b => exact ⟨b, vs', rfl, h2⟩
    | _ => exact absurd h2 (by simp [aCl])
section INK
variable {p : Program} {l : Launch} {e : Env} {R : Room} {s : State} {m : MethodId} {args : Array Value} {below : List Frame} {meth : Method} {c : Code} {locs : List Loc} {cells slots : Nat} {T : State}
variable {ad : Nat → Nat} {sz : Nat} {D : va_G} {dA : Nat → ClassId} {sc : aSc} {lsA : Array Slot} {M pc : Nat} {A : aH} {i : aI}
/-- the invoking instruction, up to the callee's entry -/
theorem aInvoke (hx : p.tables.exec = Jvm.exec) (X : Stand p l e R s m args below meth c T locs cells slots) (hG : gG ad sz D dA sc s) (hH : tH D dA ad sz A T.heap) (hS : va_S (fun q => sz ≤ q) s.heap T.heap locs) (hown : s.vm.findClass (aOw M) = some m.cls) (hb : c.code = aBy M)
    (hk : aKd i = 4) (hok : aOk M pc i) (h0 : ¬ i.2.1 = 0) (h1 : ¬ i.2.1 = 1) (hm : mOk i.2.1) {vs rest : List Value} (hlen : vs.length = i.2.2.1) (hgo : aGo i.2.1 A vs = true) :
    ∃ vm₁ mk ins, decode c.code pc = .ok (ins, 3) ∧ s.methodNamed? (aNm i.2.1) = some mk ∧ Stand p l e R s m args below meth c (T.setVm vm₁) locs cells slots ∧
      ∀ target, (∀ acts, Steps p.tables e below (doInvoke e ((T.setVm vm₁).setTop (F0 m pc lsA (rest.map (tV ad sz)))) acts mk (vs.map (tV ad sz)).toArray).1 target) → Steps p.tables e below (T.setTop (F0 m pc lsA ((vs.reverse ++ rest).map (tV ad sz)))) target := by
  obtain ⟨ins, x, y, v⟩ := i
  obtain ⟨hdg, ho⟩ := hok
  obtain ⟨hcd, -, -, hy, -, hci⟩ := hm
  dsimp only at h0 h1 hcd hy hci hlen hgo hdg
  obtain ⟨mk, methk, ck, hn, q1, q2, hF, hsig⟩ := mInfo hG.1 hcd
  have hpn : ∀ k, aPn x = some k → methk.sig.parameters.length = k := fun k h => by
    rw [aPn, hsig] at h
    exact Option.some.inj h
  have estk : (vs.reverse ++ rest).map (tV ad sz) = (vs.map (tV ad sz)).reverse ++ rest.map (tV ad sz) := by rw [List.map_append, List.map_reverse]
  rw [estk]
  cases ins
  case invokestatic idx =>
    rcases ho with ⟨h9, -⟩ | ⟨-, -, hml, w1, w2, w3, w4⟩
    · exact absurd h9 h1
    obtain ⟨kP, hkP, -⟩ := className_of_methodNamed hn
    have hst := Cond.static_spec hn q1 (hG.1 _ w1 args)
    have hin := Cond.initialized_spec (findClass_of_methodNamed hn) hkP (hG.1 _ w2 args)
    have hl : (vs.map (tV ad sz)).length = methk.sig.parameters.length := by rw [List.length_map, hpn _ w3]; exact hlen
    have hd2 : decode c.code pc = .ok (.invokestatic idx, 3) := by rw [hb]; exact hdg
    rcases hml with hml | hml
    · obtain ⟨vm₁, X₁, hs⟩ := X.invokestatic hx hown (hG.1 _ hml args) hn q1 hst hkP hin hy (g := F0 m pc lsA ((vs.map (tV ad sz)).reverse ++ rest.map (tV ad sz))) rfl (argsL := vs.map (tV ad sz)) (rest := rest.map (tV ad sz)) hl rfl hd2
      exact ⟨vm₁, mk, _, hd2, hn, X₁, hs⟩
    · obtain ⟨vm₁, X₁, hs⟩ := X.invokestaticNest hx hown (hG.1 _ hml args) hn q1 hst hkP hin hy (g := F0 m pc lsA ((vs.map (tV ad sz)).reverse ++ rest.map (tV ad sz))) rfl (argsL := vs.map (tV ad sz)) (rest := rest.map (tV ad sz)) hl rfl hd2
      exact ⟨vm₁, mk, _, hd2, hn, X₁, hs⟩
  case invokevirtual idx =>
    obtain ⟨-, w1, ⟨k, w3, w4⟩, hor⟩ := ho
    dsimp only at w3 w4
    obtain ⟨ci, hci0⟩ : ∃ ci, aIc x = some ci := by
      rcases hor with ⟨-, -, ci, h9, -⟩ | ⟨-, -, -, -, h9⟩
      · exact ⟨ci, h9⟩
      · exact ⟨20, h9⟩
    obtain ⟨b, vs', rfl, hcl⟩ := goRecv hgo hci0
    have hd2 : decode c.code pc = .ok (.invokevirtual idx, 3) := by rw [hb]; exact hdg
    obtain ⟨mk', methM, hn', q1', hstM, habM⟩ := Cond.instanceMethod_spec (hG.1 _ w1 args)
    cases hn.symm.trans hn'
    cases q1.symm.trans q1'
    obtain ⟨cell, hcell, hobj, hcls⟩ := aRecv hG hH hS hcl
    have hl : (vs'.map (tV ad sz)).length = methk.sig.parameters.length := by
      rw [List.length_map, hpn _ w3]
      rw [List.length_cons] at hlen
      omega
    have es2 : ((Value.ref b :: vs').map (tV ad sz)).reverse ++ rest.map (tV ad sz) = (vs'.map (tV ad sz)).reverse ++ .ref (tA ad sz b) :: rest.map (tV ad sz) := by simp [tV]
    rw [es2]
    rcases hor with ⟨hml, w2, ci', hci1, hic⟩ | ⟨hnm, hml, w2, w6, hci1⟩
    · cases hci0.symm.trans hci1
      obtain ⟨c2, r2, m2, r1, r3, r4, r5, kP, hkP, hkPi⟩ := Cond.selects_spec (hG.1 _ w2 args)
      rw [hic] at hcls
      cases hcls.symm.trans r1
      cases (State.methodFound?_of_named hn hy).symm.trans r3
      cases hn.symm.trans r4
      have hselP : selectMethod e.platform s.vm cell.cls mk = .method mk := by rw [Launch.admits_selectMethod X.admits]; exact r5
      rcases hml with hml | hml
      · obtain ⟨vm₁, X₁, hs⟩ := X.invokevirtual hx hown (hG.1 _ hml args) hn q1 hstM hkP hkPi hy (a := tA ad sz b) (cell := cell) hcell (fun z h => by rw [h] at hobj; cases hobj) hselP q1 habM hkP hkPi (g := F0 m pc lsA ((vs'.map (tV ad sz)).reverse ++ .ref (tA ad sz b) :: rest.map (tV ad sz))) rfl (argsL := vs'.map (tV ad sz)) (rest := rest.map (tV ad sz)) hl rfl hd2
        exact ⟨vm₁, mk, _, hd2, hn, X₁, hs⟩
      · obtain ⟨vm₁, X₁, hs⟩ := X.invokevirtualNest hx hown (hG.1 _ hml args) hn q1 hstM hkP hkPi hy (a := tA ad sz b) (cell := cell) hcell (fun z h => by rw [h] at hobj; cases hobj) hselP q1 habM hkP hkPi (g := F0 m pc lsA ((vs'.map (tV ad sz)).reverse ++ .ref (tA ad sz b) :: rest.map (tV ad sz))) rfl (argsL := vs'.map (tV ad sz)) (rest := rest.map (tV ad sz)) hl rfl hd2
        exact ⟨vm₁, mk, _, hd2, hn, X₁, hs⟩
    · cases hci0.symm.trans hci1
      dsimp only at hnm
      rw [hnm] at hn hy ⊢
      obtain ⟨cn, ck2, r1', hcn, hck, hni, hf, hn1⟩ := Cond.sameMethod_found (hG.1 _ w6 args)
      cases hn.symm.trans hn1
      obtain ⟨c2, r2, m2, r1, r3, r4, r5, kP, hkP, hkPi⟩ := Cond.selects_spec (hG.1 _ w2 args)
      cases (show s.vm.findClass aOrd.cls = some cell.cls from hcls).symm.trans r1
      cases hf.symm.trans r3
      cases hn.symm.trans r4
      have hselP : selectMethod e.platform s.vm cell.cls mk = .method mk := by rw [Launch.admits_selectMethod X.admits]; exact r5
      obtain ⟨vm₁, X₁, hs⟩ := X.invokevirtualUp hx hown (hG.1 _ hml args) (hG.1 _ w6 args) hy hn q1 hstM (a := tA ad sz b) (cell := cell) hcell (fun z h => by rw [h] at hobj; cases hobj) hselP q1 habM hkP hkPi (g := F0 m pc lsA ((vs'.map (tV ad sz)).reverse ++ .ref (tA ad sz b) :: rest.map (tV ad sz))) rfl (argsL := vs'.map (tV ad sz)) (rest := rest.map (tV ad sz)) hl rfl hd2
      exact ⟨vm₁, mk, _, hd2, hn, X₁, hs⟩
  case invokespecial idx =>
    rcases ho with ⟨h9, -⟩ | ⟨-, -, hml, w1, w2, ⟨k, w3, w4⟩, w5⟩
    · exact absurd h9 h0
    dsimp only at w2 w3 w4 w5
    obtain ⟨ci, hci0⟩ := Option.isSome_iff_exists.mp w5
    obtain ⟨b, vs', rfl, hcl⟩ := goRecv hgo hci0
    have hd2 : decode c.code pc = .ok (.invokespecial idx, 3) := by rw [hb]; exact hdg
    have hl : ∀ sig, parseMethodDescriptor (aNm x).desc = some sig → (vs'.map (tV ad sz)).length = sig.parameters.length := fun sig hs => by
      cases hsig.symm.trans hs
      rw [List.length_map, hpn _ w3]
      rw [List.length_cons] at hlen
      omega
    have es2 : ((Value.ref b :: vs').map (tV ad sz)).reverse ++ rest.map (tV ad sz) = (vs'.map (tV ad sz)).reverse ++ .ref (tA ad sz b) :: rest.map (tV ad sz) := by simp [tV]
    rw [es2]
    have hpl : e.platform.magicAccessors = ({} : Platform).magicAccessors := by rw [X.admits.platform]
    rcases hml with hml | hml
    · obtain ⟨mk', methM, cM, kP, vm₁, hn', -, -, -, -, -, -, -, hW₁, hs⟩ := Steps.initColdArgs (e := e) (rest := rest.map (tV ad sz)) (a := tA ad sz b) X.here hx X.warmed hpl hown w2 hy (hG.1 _ hml args) (hG.1 _ w1 args) (hG.1 _ (hci w2) args) (f := F0 m pc lsA ((vs'.map (tV ad sz)).reverse ++ .ref (tA ad sz b) :: rest.map (tV ad sz))) rfl hl rfl hd2
      cases hn.symm.trans hn'
      exact ⟨vm₁, mk, _, hd2, hn, X.noted hW₁, hs⟩
    · obtain ⟨mk', methM, cM, kP, vm₁, hn', -, -, -, -, -, -, -, hW₁, hs⟩ := Steps.initColdArgsNest (e := e) (rest := rest.map (tV ad sz)) (a := tA ad sz b) X.here hx X.warmed hpl hown w2 hy (hG.1 _ hml args) (hG.1 _ w1 args) (hG.1 _ (hci w2) args) (f := F0 m pc lsA ((vs'.map (tV ad sz)).reverse ++ .ref (tA ad sz b) :: rest.map (tV ad sz))) rfl hl rfl hd2
      cases hn.symm.trans hn'
      exact ⟨vm₁, mk, _, hd2, hn, X.noted hW₁, hs⟩
  case new idx =>
    simp only [aKd] at hk
    split at hk <;> exact absurd hk (by decide)
  all_goals exact absurd hk (by simp [aKd])
end INK
/-! THE LOCALS AT A CALLEE'S ENTRY -/
theorem aArgs_len {ad : Nat → Nat} {sz : Nat} : ∀ vs : List Value, (lg_sl (vs.map (tV ad sz))).length = (aArgs vs).length
  | [] => rfl
  | v :: vs => by
    have ih := aArgs_len (ad := ad) (sz := sz) vs
    unfold lg_sl at ih ⊢
    rw [List.map_cons, List.flatMap_cons, List.length_append, ih, tV_cat]
    cases v <;> simp [aArgs, Value.category] <;> omega
theorem aArgs_at {ad : Nat → Nat} {sz : Nat} : ∀ (vs : List Value) (k j : Nat) (u : Value), (aArgs vs)[j]? = some (some u) → (k + j, tV ad sz u) ∈ lv_args k (vs.map (tV ad sz))
  | [], k, j, u, h => by simp [aArgs] at h
  | v :: vs, k, j, u, h => by
    rw [List.map_cons, lv_args, tV_cat]
    have ih := aArgs_at (ad := ad) (sz := sz) vs
    by_cases hc : v.category = 2
    · have hv : aArgs (v :: vs) = some v :: none :: aArgs vs := by cases v <;> first | rfl | (simp [Value.category] at hc)
      rw [hv] at h
      rw [if_pos hc]
      match j, h with
      | 0, h =>
        simp at h
        subst h
        exact List.mem_cons_self
      | 1, h => simp at h
      | j + 2, h =>
        have h2 := ih (k + 2) j u (by simpa using h)
        rw [show k + (j + 2) = k + 2 + j by omega]
        exact List.mem_cons_of_mem _ h2
    · have hv : aArgs (v :: vs) = some v :: aArgs vs := by cases v <;> first | rfl | (simp [Value.category] at hc)
      rw [hv] at h
      rw [if_neg hc]
      match j, h with
      | 0, h =>
        simp at h
        subst h
        exact List.mem_cons_self
      | j + 1, h =>
        have h2 := ih (k + 1) j u (by simpa using h)
        rw [show k + (j + 1) = k + 1 + j by omega]
        exact List.mem_cons_of_mem _ h2
theorem aEntry_lR {ad : Nat → Nat} {sz nL : Nat} {vs : List Value} (h : (aArgs vs).length ≤ nL) :
    lR ad sz ((lg_sl (vs.map (tV ad sz)) ++ List.replicate (nL - (lg_sl (vs.map (tV ad sz))).length) Slot.unset).toArray) nL (aEntry nL vs) := by
  have h1 := lv_entry (vs.map (tV ad sz)) (n := nL) (by rw [aArgs_len]; exact h)
  refine ⟨by simp [aEntry]; omega, h1.1, h1.2.1, fun q hq => ?_⟩
  obtain ⟨j, w⟩ := q
  obtain ⟨u, hu, rfl⟩ := lvL_mem.mp hq
  refine h1.2.2 (j, tV ad sz u) ?_
  unfold aEntry at hu
  by_cases hj : j < (aArgs vs).length
  · rw [List.getElem?_append_left hj] at hu
    have := aArgs_at (ad := ad) (sz := sz) vs 0 j u hu
    rwa [Nat.zero_add] at this
  · rw [List.getElem?_append_right (by omega), List.getElem?_replicate] at hu
    split at hu <;> simp at hu
theorem hdR_exc {own : String} {pc ci h : Nat} : ∀ {xs hk : List (Nat × Nat × Nat × Nat)}, hdR own xs hk → aHdl hk pc ci = some h → isExc ci
  | [], [], _, h => by cases h
  | [], _ :: _, hr, _ => absurd hr (by simp [hdR])
  | _ :: _, [], hr, _ => absurd hr (by simp [hdR])
  | x :: xs, k :: r, hr, hh => by
    unfold aHdl at hh
    split at hh
    · rename_i hc
      rw [hc.2.2]
      exact hr.1.2.2.2.2.1
    · exact hdR_exc hr.2 hh
theorem gN.moved {s U : State} (h : gN s) (hW : s.WarmedH U.vm) : gN U := ⟨fun i j hi hj hne => (h.1 i j hi hj hne).moved hW.alike, h.2⟩
theorem aRun_mono {sc : aSc} : ∀ (n d M pc : Nat) (ls : aL) (st : List Value) (A : aH) (o : Outcome) (A' : aH), aRun sc n d M pc ls st A = some (o, A') → A.length ≤ A'.length ∧ aSum A ≤ aSum A' := by
  intro n
  induction n with
  | zero => intro d M pc ls st A o A' h; simp [aRun] at h
  | succ n ih =>
    intro d M pc ls st A o A' h
    rw [aRun.eq_def] at h
    dsimp only at h
    split at h
    · cases h
    rename_i i hi
    split at h
    · split at h
      · rename_i q hq
        obtain ⟨a, b, c, A1⟩ := q
        have h1 := aStep_mono hq
        have h2 := ih _ _ _ _ _ _ _ _ h
        exact ⟨Nat.le_trans h1.1 h2.1, Nat.le_trans h1.2 h2.2⟩
      · cases h
    · split at h
      · split at h
        · cases h; exact ⟨Nat.le_refl _, Nat.le_refl _⟩
        · cases h
      · cases h
    · split at h
      · split at h
        · split at h
          · cases h; exact ⟨Nat.le_refl _, Nat.le_refl _⟩
          · cases h
        · cases h
      · cases h
    · split at h
      · cases h; exact push_le
      · cases h
    · split at h
      · cases h
      · split at h
        · split at h
          · split at h
            · exact ih _ _ _ _ _ _ _ _ h
            · cases h
          · split at h
            · split at h
              · split at h
                · rename_i A1 hq
                  have h1 := aCopy_mono hq
                  have h2 := ih _ _ _ _ _ _ _ _ h
                  exact ⟨Nat.le_trans h1.1 h2.1, Nat.le_trans h1.2 h2.2⟩
                · cases h
              · cases h
            · split at h
              · split at h
                · rename_i v A1 hq
                  have h1 := ih _ _ _ _ _ _ _ _ hq
                  have h2 := ih _ _ _ _ _ _ _ _ h
                  exact ⟨Nat.le_trans h1.1 h2.1, Nat.le_trans h1.2 h2.2⟩
                · rename_i v A1 hq
                  have h1 := ih _ _ _ _ _ _ _ _ hq
                  split at h
                  · cases h; exact h1
                  · split at h
                    · split at h
                      · have h2 := ih _ _ _ _ _ _ _ _ h
                        exact ⟨Nat.le_trans h1.1 h2.1, Nat.le_trans h1.2 h2.2⟩
                      · cases h
                    · cases h
                · cases h
              · cases h
        · cases h
