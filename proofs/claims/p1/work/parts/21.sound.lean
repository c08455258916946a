theorem aKd_cases (i : aI) : aKd i = 0 ∨ aKd i = 1 ∨ aKd i = 2 ∨ aKd i = 3 ∨ aKd i = 4 := by
  unfold aKd
  split
  · exact Or.inr (Or.inl rfl)
  · exact Or.inr (Or.inr (Or.inl rfl))
  · exact Or.inr (Or.inr (Or.inl rfl))
  · exact Or.inr (Or.inr (Or.inl rfl))
  · split
    · exact Or.inr (Or.inr (Or.inr (Or.inl rfl)))
    · exact Or.inl rfl
  · exact Or.inr (Or.inr (Or.inr (Or.inr rfl)))
  · exact Or.inr (Or.inr (Or.inr (Or.inr rfl)))
  · exact Or.inr (Or.inr (Or.inr (Or.inr rfl)))
  · exact Or.inl rfl
theorem aKd_1 {i : aI} (h : aKd i = 1) : i.1 = .return_ := by
  obtain ⟨ins, x, y, v⟩ := i
  cases ins
  case return_ => rfl
  case new z =>
    simp only [aKd] at h
    split at h <;> exact absurd h (by decide)
  all_goals exact absurd h (by simp [aKd])
theorem aKd_3 {i : aI} (h : aKd i = 3) : ∃ z ci v, i = (.new z, ci, 1, v) := by
  obtain ⟨ins, x, y, v⟩ := i
  cases ins
  case new z =>
    simp only [aKd] at h
    split at h
    · rename_i e
      subst e
      exact ⟨z, x, v, rfl⟩
    · exact absurd h (by decide)
  all_goals exact absurd h (by simp [aKd])
/-- an end's instruction is of the method's type -/
def rtB (i : aI) (r : Option FieldType) : Bool := match i.1 with
  | .ireturn => match r with
    | some .int => true
    | some .boolean => true
    | some .char => true
    | some .byte => true
    | some .short => true
    | _ => false
  | .lreturn => match r with
    | some .long => true
    | _ => false
  | .areturn => match r with
    | some (.object _) => true
    | some (.array _) => true
    | _ => false
  | _ => true
theorem aKd_2 {i : aI} {ty : FieldType} {v : Value} (h : aKd i = 2) (hr : rtB i (some ty) = true) (hf : aFit ty v = true) :
    (i.1 = .ireturn ∧ ∃ x, v = .int x) ∨ (i.1 = .lreturn ∧ ty = .long ∧ ∃ x, v = .long x) ∨ (i.1 = .areturn ∧ ((∃ n, ty = .object n) ∨ ∃ t, ty = .array t) ∧ (v = .null ∨ ∃ a, v = .ref a)) := by
  obtain ⟨ins, x, y, w⟩ := i
  have hf2 : fits ty v = true := by
    simp only [aFit, Bool.and_eq_true] at hf
    exact hf.2
  cases ins
  case ireturn =>
    refine Or.inl ⟨rfl, ?_⟩
    cases ty <;> simp only [rtB] at hr <;> first | (exact absurd hr (by decide)) | skip
    all_goals (cases v <;> first | exact ⟨_, rfl⟩ | exact absurd hf2 (by simp [fits]))
  case lreturn =>
    refine Or.inr (Or.inl ⟨rfl, ?_⟩)
    cases ty <;> simp only [rtB] at hr <;> first | (exact absurd hr (by decide)) | skip
    cases v <;> first | exact ⟨rfl, _, rfl⟩ | exact absurd hf2 (by simp [fits])
  case areturn =>
    refine Or.inr (Or.inr ⟨rfl, ?_⟩)
    cases ty <;> simp only [rtB] at hr <;> first | (exact absurd hr (by decide)) | skip
    · refine ⟨Or.inl ⟨_, rfl⟩, ?_⟩
      cases v <;> first | exact Or.inl rfl | exact Or.inr ⟨_, rfl⟩ | exact absurd hf2 (by simp [fits])
    · refine ⟨Or.inr ⟨_, rfl⟩, ?_⟩
      cases v <;> first | exact Or.inl rfl | exact Or.inr ⟨_, rfl⟩ | exact absurd hf2 (by simp [fits])
  case new z =>
    simp only [aKd] at h
    split at h <;> exact absurd h (by decide)
  all_goals exact absurd h (by simp [aKd])
theorem ok_call {M pc : Nat} {i : aI} (hk : aKd i = 4) (hok : aOk M pc i) :
    (i.2.1 = 0 → ∃ idx, i.1 = .invokespecial idx ∧ Cond.methodLink (aOw M) idx objectInit ∈ aWs) ∧ (i.2.1 = 1 → ∃ idx, i.1 = .invokestatic idx ∧ Cond.methodLink (aOw M) idx arraycopyName ∈ aWs) ∧
      (¬ i.2.1 = 0 → ¬ i.2.1 = 1 → 3 ≤ i.2.1 ∧ ∃ k, aPn i.2.1 = some k) := by
  obtain ⟨ins, x, y, v⟩ := i
  obtain ⟨-, ho⟩ := hok
  cases ins
  case invokestatic idx =>
    rcases ho with ⟨h1, h2⟩ | ⟨h1, h2, -, -, -, h3, -⟩
    · exact ⟨fun h => by dsimp only at h h1; omega, fun _ => ⟨idx, rfl, h2⟩, fun _ h => absurd h1 h⟩
    · exact ⟨fun h => by dsimp only at h h2; omega, fun h => absurd h h1, fun _ _ => ⟨h2, _, h3⟩⟩
  case invokevirtual idx =>
    obtain ⟨h2, -, ⟨k, h3, -⟩, -⟩ := ho
    exact ⟨fun h => by dsimp only at h h2; omega, fun h => by dsimp only at h h2; omega, fun _ _ => ⟨h2, _, h3⟩⟩
  case invokespecial idx =>
    rcases ho with ⟨h1, h2⟩ | ⟨h1, h2, -, -, -, ⟨k, h3, -⟩, -⟩
    · exact ⟨fun _ => ⟨idx, rfl, h2⟩, fun h => by dsimp only at h h1; omega, fun h => absurd h1 h⟩
    · exact ⟨fun h => absurd h h1, fun h => by dsimp only at h h2; omega, fun _ _ => ⟨h2, _, h3⟩⟩
  case new z =>
    simp only [aKd] at hk
    split at hk <;> exact absurd hk (by decide)
  all_goals exact absurd hk (by simp [aKd])
theorem cat_split {vs rest st : List Value} (h : st = vs.reverse ++ rest) (hs : (st.map (fun v => v.category)).sum ≤ 40) : (rest.map (fun v => v.category)).sum ≤ 40 := by
  subst h
  rw [List.map_append, List.sum_append] at hs
  omega
section SND
variable {p : Program} {l : Launch} {e : Env} {ad : Nat → Nat} {sz : Nat} {D : va_G} {dA : Nat → ClassId} {sc : aSc}
theorem aSound (hx : p.tables.exec = Jvm.exec) (htr : e.platform.stackTraces = false) (hinj : ∀ i j, 100 ≤ i → i < 112 → 100 ≤ j → j < 112 → ad i = ad j → i = j)
    (hT : ∀ M pc i, aTb M pc = some i → aOk M pc i) (hTh : ∀ M pc i, aTb M pc = some i → aKd i = 3 → aSite M pc i.2.1) (hRt : ∀ M pc i, aTb M pc = some i → rtB i (aRt M) = true) (hMo : ∀ M, 3 ≤ M → mOk M ∨ aPn M = none) :
    ∀ (n d M pc : Nat) (ls : aL) (st : List Value) (A : aH) (o : Outcome) (A' : aH), aRun sc n d M pc ls st A = some (o, A') →
    ∀ (R : Room) (s : State) (m : MethodId) (args : Array Value) (below : List Frame) (meth : Method) (c : Code) (H : Heap) (locs : List Loc) (a0 s0 : Nat) (lsA : Array Slot),
      aFr M s m meth c → gG ad sz D dA sc s → gN s → hdR (aOw M) (aHx M) (aHd M) → tH D dA ad sz A H → va_S (fun q => sz ≤ q) s.heap H locs → lR ad sz lsA (aMx M) ls → s.heap.size = sz + a0 → a0 ≤ A.length → s0 ≤ aSum A →
      A'.length ≤ a0 + R.cells → aSum A' ≤ s0 + R.slots → d + 9 ≤ R.frames → 100 * (d + 2) ≤ R.locals →
      W p l e R s m args below meth c H locs (A.length - a0) (aSum A - s0) (aQ ad sz D dA below s a0 s0 o A') (F0 m pc lsA (st.map (tV ad sz))) := by
  intro n
  induction n with
  | zero => intro d M pc ls st A o A' h; simp [aRun] at h
  | succ n ih =>
    intro d M pc ls st A o A' h R s m args below meth c H locs a0 s0 lsA hF hG gn hdr hH hS hl hsz ha0 hs0 hc hs hfr hlo
    rw [aRun.eq_def] at h
    dsimp only at h
    split at h
    · cases h
    rename_i i hi
    have hok := hT _ _ _ hi
    split at h
    · rename_i hk
      split at h
      · rename_i q hq
        obtain ⟨pc', ls', st', A1⟩ := q
        have hm2 := aRun_mono _ _ _ _ _ _ _ _ _ h
        dsimp only at h hm2
        exact aStep_W hx hF hG hinj hH hS hl hsz ha0 hs0 (by omega) (by omega) hok hk hq
          (fun H1 locs1 lsA1 g1 g2 g3 => ih _ _ _ _ _ _ _ _ h R s m args below meth c H1 locs1 a0 s0 lsA1 hF hG gn hdr g1 g2 g3 hsz (Nat.le_trans ha0 (aStep_mono hq).1) (Nat.le_trans hs0 (aStep_mono hq).2) hc hs hfr hlo)
      · cases h
    · rename_i hk
      split at h
      · split at h
        · rename_i hr
          cases h
          have e1 := aKd_1 hk
          obtain ⟨ins, x, y, v⟩ := i
          dsimp only at e1
          subst e1
          exact q_ret0 hx hF.1 hF.2.2.2.1 (hF.2.2.1.trans hr) hH hS hok.1
        · cases h
      · cases h
    · rename_i hk
      split at h
      · rename_i v
        split at h
        · rename_i ty hr
          split at h
          · rename_i hf
            cases h
            have hrt := hRt _ _ _ hi
            rw [hr] at hrt
            have e1 := aKd_2 hk hrt hf
            obtain ⟨ins, x, y, w⟩ := i
            dsimp only at e1
            rcases e1 with ⟨rfl, z, rfl⟩ | ⟨rfl, rfl, z, rfl⟩ | ⟨rfl, h1, h2⟩
            · exact q_retI hx hF.1 hF.2.2.2.1 (hF.2.2.1.trans hr) hf hH hS hok.1
            · exact q_retL hx hF.1 hF.2.2.2.1 (hF.2.2.1.trans hr) hH hS hok.1
            · exact q_retA hx hF.1 hF.2.2.2.1 (hF.2.2.1.trans hr) h1 h2 hH hS hok.1
          · cases h
        · cases h
      · cases h
    · rename_i hk
      split at h
      · rename_i hcnd
        cases h
        have hsite := hTh _ _ _ hi hk
        obtain ⟨z, ci, v, rfl⟩ := aKd_3 hk
        rw [List.length_append, List.length_singleton] at hc
        rw [aSum_push] at hs
        obtain ⟨-, -, -, -, hns, -⟩ := exc_cls hsite.1
        simp only [aSl, hns] at hs
        exact q_throw hx htr hF hG hH hS hl hsz ha0 hs0 (by omega) (by omega) (by omega) (by omega) hcnd.1 hcnd.2 hok hsite
      · cases h
    · rename_i n0 n1 n2 n3
      have hk : aKd i = 4 := by
        rcases aKd_cases i with h9 | h9 | h9 | h9 | h9
        · exact absurd h9 n0
        · exact absurd h9 n1
        · exact absurd h9 n2
        · exact absurd h9 n3
        · exact h9
      obtain ⟨k0, k1, k2⟩ := ok_call hk hok
      split at h
      · cases h
      rename_i d'
      split at h
      · rename_i hcat
        split at h
        · rename_i hx0
          obtain ⟨idx, e1, hw⟩ := k0 hx0
          split at h
          · rename_i b r
            obtain ⟨ins, x, y, w⟩ := i
            dsimp only at e1
            subst e1
            refine q_oinit hx hF.1 hF.2.1 hF.2.2.2.2.1 hG hl hw hok.1 (by omega) (a := b) (r := r) ?_ (by omega) (ih _ _ _ _ _ _ _ _ h R s m args below meth c H locs a0 s0 lsA hF hG gn hdr hH hS hl hsz ha0 hs0 hc hs hfr hlo)
            exact cat_split (vs := [.ref b]) (by simp) hcat
          · cases h
        · rename_i hx0
          split at h
          · rename_i hx1
            obtain ⟨idx, e1, hw⟩ := k1 hx1
            split at h
            · rename_i n' dp a sp b r
              split at h
              · rename_i A1 hq
                obtain ⟨ins, x, y, w⟩ := i
                dsimp only at e1
                subst e1
                refine q_copy hx hF.1 hF.2.1 hF.2.2.2.2.1 hG hH hS hl hw hok.1 (by omega) (r := r) ?_ (by omega) hq (fun H1 locs1 g1 g2 => ih _ _ _ _ _ _ _ _ h R s m args below meth c H1 locs1 a0 s0 lsA hF hG gn hdr g1 g2 hl hsz (Nat.le_trans ha0 (aCopy_mono hq).1) (Nat.le_trans hs0 (aCopy_mono hq).2) hc hs hfr hlo)
                exact cat_split (vs := [.ref b, .int sp, .ref a, .int dp, .int n']) (by simp) hcat
              · cases h
            · cases h
          · rename_i hx1
            obtain ⟨hge, kp, hpn⟩ := k2 hx0 hx1
            have hmo : mOk i.2.1 := by
              rcases hMo _ hge with h9 | h9
              · exact h9
              · rw [h9] at hpn; cases hpn
            split at h
            · rename_i hcnd
              have hst : st = ((st.take i.2.2.1).reverse).reverse ++ st.drop i.2.2.1 := by rw [List.reverse_reverse, List.take_append_drop]
              have hvl : ((st.take i.2.2.1).reverse).length = i.2.2.1 := by rw [List.length_reverse, List.length_take]; omega
              have hmx : (aArgs ((st.take i.2.2.1).reverse)).length ≤ aMx i.2.1 := by
                have := hcnd.2
                unfold aGo at this
                rw [Bool.and_eq_true, decide_eq_true_eq] at this
                exact this.1
              have hcat2 := cat_split hst hcat
              have hgo := hcnd.2
              revert hst hvl hmx hcat2 hgo h
              generalize (st.take i.2.2.1).reverse = vs
              generalize st.drop i.2.2.1 = rest
              intro h hst hvl hmx hcat2 hgo
              -- the callee's run
              have key : ∀ (o1 : Outcome) (A1 : aH), aRun sc n d' i.2.1 0 (aEntry (aMx i.2.1) vs) [] A = some (o1, A1) → A1.length ≤ A'.length → aSum A1 ≤ aSum A' → ∀ T : State, T.heap = H → Stand p l e R s m args below meth c T locs (A.length - a0) (aSum A - s0) →
                  ∃ (t T' : State) (L : List Loc), (∀ target, Steps p.tables e below t target → Steps p.tables e below (T.setTop (F0 m pc lsA (st.map (tV ad sz)))) target) ∧ Stand p l e R s m args below meth c T' (locs ++ L) (A1.length - a0) (aSum A1 - s0) ∧ tH D dA ad sz A1 T'.heap ∧ va_S (fun q => sz ≤ q) s.heap T'.heap (locs ++ L) ∧
                    match o1 with
                    | .returned v => t = T'.setTop { F0 m pc lsA (rest.map (tV ad sz)) with pc := pc + 3, stack := (v.map (tV ad sz)).toList ++ rest.map (tV ad sz) }
                    | .threw x => t = (T'.setTop (F0 m pc lsA (rest.map (tV ad sz)))).pushFrame (.throwing (tA ad sz x)) := by
                intro o1 A1 hrun hA1 hS1 T hT0 X
                have hm1 := aRun_mono _ _ _ _ _ _ _ _ _ hrun
                subst hT0
                obtain ⟨vm₁, mk, ins, hd2, hn, X₁, hs2⟩ := aInvoke (lsA := lsA) (rest := rest) hx X hG hH hS hF.2.2.2.2.1 hF.1 hk hok hx0 hx1 hmo hvl hgo
                obtain ⟨t, T', L, w1, w2, w3, w4, w5⟩ := aCall (T := T.setVm vm₁) (g := F0 m pc lsA (rest.map (tV ad sz))) (d := d' + 1) (vs := vs) (o1 := o1) (A1 := A1) (M' := i.2.1) (N := gN) (fun U hU => gn.moved hU) X₁ hG hsz ha0 hs0 hH hS rfl (by show lsA.size = _; rw [hl.size]; exact hF.2.1.symm) rfl
                  (by rw [List.map_map]; show (rest.map (fun v => (tV ad sz v).category)).sum ≤ 40; simp only [tV_cat]; exact hcat2) hd2 hmo.1 hmo.2.1 hmo.2.2.1 hn hm1.1 hm1.2 (by omega) (by omega) (by omega) (by omega)
                  (fun R' s' methk ck below' f1 f2 f3 f4 f5 f6 f7 f8 f9 => by
                    rw [lg_entry_eq]
                    have k9 := ih _ _ _ _ _ _ _ _ hrun R' s' mk (vs.map (tV ad sz)).toArray below' methk ck s'.heap [] A.length (aSum A) _ f1 f2 f3 hmo.2.2.2.2.1 f5 ⟨Nat.le_refl _, fun _ _ _ => rfl, fun q hq => by cases hq⟩ (aEntry_lR hmx) f4 (Nat.le_refl _) (Nat.le_refl _) f8 f9 (by omega) (by omega)
                    rw [Nat.sub_self, Nat.sub_self] at k9
                    exact k9)
                refine ⟨t, T', L, fun target hst2 => ?_, w2, w3, w4, by cases o1 <;> exact w5⟩
                rw [hst]
                exact hs2 target (fun acts => (w1 acts).trans hst2)
              split at h
              · rename_i v A1 hrun
                have hm1 := aRun_mono _ _ _ _ _ _ _ _ _ hrun
                have hm2 := aRun_mono _ _ _ _ _ _ _ _ _ h
                intro T hT0 X
                obtain ⟨t, T', L, w1, w2, w3, w4, w5⟩ := key _ _ hrun hm2.1 hm2.2 T hT0 X
                dsimp only at w5
                obtain ⟨t2, z1, z2⟩ := ih _ _ _ _ _ _ _ _ h R s m args below meth c T'.heap (locs ++ L) a0 s0 lsA hF hG gn hdr w3 w4 hl hsz (by omega) (by omega) hc hs hfr hlo T' rfl w2
                refine ⟨t2, w1 _ ?_, z2⟩
                rw [w5]
                have e9 : (v.map (tV ad sz)).toList ++ rest.map (tV ad sz) = (v.toList ++ rest).map (tV ad sz) := by cases v <;> rfl
                rw [e9]
                exact z1
              · rename_i x A1 hrun
                have hm1 := aRun_mono _ _ _ _ _ _ _ _ _ hrun
                split at h
                · rename_i hnil
                  cases h
                  intro T hT0 X
                  obtain ⟨t, T', L, w1, w2, w3, w4, w5⟩ := key _ _ hrun (Nat.le_refl _) (Nat.le_refl _) T hT0 X
                  dsimp only at w5
                  have hex : c.exceptionTable.toList = [] := by
                    have h9 := hF.2.2.2.2.2.2
                    rw [hnil] at hdr
                    cases hq : aHx M with
                    | nil => rw [hq] at h9; simpa using h9
                    | cons a r => rw [hq] at hdr; exact absurd hdr (by simp [hdR])
                  obtain ⟨z1, z2, z3, z4, z5⟩ := w2.leaveThrown (tA ad sz x) (g := F0 m pc lsA (rest.map (tV ad sz))) rfl rfl rfl (by rw [hex]; intro y hy; cases hy) hF.2.2.2.1
                  refine ⟨_, w1 _ (by rw [w5]; exact z1), z2, z3, z4, ⟨locs ++ L, z5, w4.2.2⟩, w3, ?_⟩
                  exact w4.F rfl
                · rename_i hs9 hne
                  split at h
                  · rename_i ci hcl
                    split at h
                    · rename_i hp hh
                      have hm2 := aRun_mono _ _ _ _ _ _ _ _ _ h
                      intro T hT0 X
                      obtain ⟨t, T', L, w1, w2, w3, w4, w5⟩ := key _ _ hrun hm2.1 hm2.2 T hT0 X
                      dsimp only at w5
                      obtain ⟨cell, hcell, hobj, hfc⟩ := aRecv hG w3 w4 hcl
                      obtain ⟨vm', w2', hgo2⟩ := aCaught (g := F0 m pc lsA (rest.map (tV ad sz))) (own := aOw M) w2 hG.1 gn hF.2.2.2.2.1 rfl (hdR_exc hdr hh) (by rw [hF.2.2.2.2.2.2]; exact hdr) hh hcell hobj hfc
                      obtain ⟨t2, z1, z2⟩ := ih _ _ _ _ _ _ _ _ h R s m args below meth c T'.heap (locs ++ L) a0 s0 lsA hF hG gn hdr w3 w4 hl hsz (by omega) (by omega) hc hs hfr hlo (T'.setVm vm') rfl w2'
                      refine ⟨t2, w1 _ ?_, z2⟩
                      rw [w5]
                      exact hgo2 _ z1
                    · cases h
                  · cases h
              · cases h
            · cases h
      · cases h
end SND
