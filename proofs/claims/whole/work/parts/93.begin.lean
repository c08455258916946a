def adOf (b : Nat) (adK adV adX : Nat → Nat) (tAl tS fm : Nat) (n : Nat) : Nat :=
  if n = 0 then b else if n < 100 then adK (n - 1) else if n < 112 then adX (n - 100) else if n = 112 then tAl else if n = 113 then tS else if n < 900 then adV (n - 200) else fm
section BEG
variable {args : Array Value} {s : State} {b L : Nat} {xs adK adV adX : Nat → Nat} {tAl tS fm n : Nat}
theorem adOf_K (h1 : 1 ≤ n) (h2 : n < 100) : adOf b adK adV adX tAl tS fm n = adK (n - 1) := by
  unfold adOf
  rw [if_neg (by omega), if_pos h2]
theorem adOf_X (h1 : 100 ≤ n) (h2 : n < 112) : adOf b adK adV adX tAl tS fm n = adX (n - 100) := by
  unfold adOf
  rw [if_neg (by omega), if_neg (by omega), if_pos h2]
theorem adOf_V (h1 : 200 ≤ n) (h2 : n < 900) : adOf b adK adV adX tAl tS fm n = adV (n - 200) := by
  unfold adOf
  rw [if_neg (by omega), if_neg (by omega), if_neg (by omega), if_neg (by omega), if_neg (by omega), if_pos h2]
theorem g_arr {ty : FieldType} (h : (Cond.arrayClass ty).before args s = true) : ∃ cA, ArrOfT s cA ty ∧ s.vm.findClass ("[" ++ ty.toString) = some cA := by
  obtain ⟨cA, k, comp, h1, h2, h3⟩ := Cond.arrayClass_spec h
  exact ⟨cA, fun n z => ⟨fun k h => (by cases h), k, h2, comp, h3⟩, h1⟩
theorem g_arrO {C : String} (h : (Cond.arrayOver (.object C)).before args s = true) : ∃ cA, ArrOfT s cA (.object C) ∧ va_RA s cA (.object C) := by
  obtain ⟨comp, cA, k, h1, -, h2, h3, h4⟩ := Cond.arrayOver_spec h
  exact ⟨cA, fun n z => ⟨fun k h => (by cases h), k, h2, comp, h3⟩, k, comp, h2, h3, h1, h4⟩
theorem g_classes (hts : ∀ w ∈ lw_tbl, w.before args s = true) : ∃ (D : va_G) (dA : Nat → ClassId), va_K D aCls (tysL dA) s := by
  have h1 : ∀ ci : Nat, ∃ z : ClassId × (Nat → Nat), ∀ r, aCls[ci]? = some r → u_Kn s r.1 r.2.1 r.2.2 z.1 z.2 := by
    intro ci
    cases hr : aCls[ci]? with
    | none => exact ⟨(0, fun _ => 0), fun r h => by cases h⟩
    | some r =>
      obtain ⟨f1, -, -, f4, -, f6, -⟩ := aClF hr
      obtain ⟨hlt, -⟩ := clT hr
      have hi := hts _ (rHas_ok (iB_all ci hlt))
      rw [← f6] at hi
      obtain ⟨cC, iS, hK⟩ := u_known (ws := lw_tbl) (T := fnT ci) (N := r.2.2) hts (fun w hw => (List.mem_filter.mp (f4 w hw)).1) hi
      refine ⟨(cC, iS), fun r' h => ?_⟩
      cases h
      rw [f1]
      exact hK
  have h2 : ∀ t : Nat, ∃ cA : ClassId, ∀ ty, aTyK[t]? = some ty → ArrOfT s cA ty ∧ va_RA s cA ty := by
    intro t
    by_cases h8 : t < 8
    · rcases (by omega : t = 0 ∨ t = 1 ∨ t = 2 ∨ t = 3 ∨ t = 4 ∨ t = 5 ∨ t = 6 ∨ t = 7) with rfl | rfl | rfl | rfl | rfl | rfl | rfl | rfl
      · obtain ⟨cA, g1, g2⟩ := g_arr (hts _ w_aint)
        exact ⟨cA, fun ty h => by cases (show aTyK[0]? = some .int from rfl).symm.trans h; exact ⟨g1, g2⟩⟩
      · obtain ⟨cA, g1, g2⟩ := g_arr (hts _ w_achar)
        exact ⟨cA, fun ty h => by cases (show aTyK[1]? = some .char from rfl).symm.trans h; exact ⟨g1, g2⟩⟩
      · obtain ⟨cA, g1, g2⟩ := g_arr (hts _ w_abool)
        exact ⟨cA, fun ty h => by cases (show aTyK[2]? = some .boolean from rfl).symm.trans h; exact ⟨g1, g2⟩⟩
      · obtain ⟨cA, g1, g2⟩ := g_arr (hts _ w_along)
        exact ⟨cA, fun ty h => by cases (show aTyK[3]? = some .long from rfl).symm.trans h; exact ⟨g1, g2⟩⟩
      · obtain ⟨cA, g1, g2⟩ := g_arr (hts _ w_abyte)
        exact ⟨cA, fun ty h => by cases (show aTyK[4]? = some .byte from rfl).symm.trans h; exact ⟨g1, g2⟩⟩
      · obtain ⟨cA, g1, g2⟩ := g_arrO (hts _ w_astep)
        exact ⟨cA, fun ty h => by cases (show aTyK[5]? = some (.object "TreeStore$Step") from rfl).symm.trans h; exact ⟨g1, g2⟩⟩
      · obtain ⟨cA, g1, g2⟩ := g_arrO (hts _ w_apart)
        exact ⟨cA, fun ty h => by cases (show aTyK[6]? = some (.object "TreeStore$Part") from rfl).symm.trans h; exact ⟨g1, g2⟩⟩
      · obtain ⟨cA, g1, g2⟩ := g_arr (hts _ w_aint)
        exact ⟨cA, fun ty h => by cases (show aTyK[7]? = some .int from rfl).symm.trans h; exact ⟨g1, g2⟩⟩
    · refine ⟨0, fun ty h => ?_⟩
      rw [List.getElem?_eq_none (show aTyK.length ≤ t from Nat.le_of_not_lt h8)] at h
      cases h
  obtain ⟨z, hz⟩ := Classical.skolem.mp h1
  obtain ⟨dA, hd⟩ := Classical.skolem.mp h2
  refine ⟨(fun ci => (z ci).1, fun ci => (z ci).2), dA, fun ci r hr => hz ci r hr, fun k q hk => ?_⟩
  simp only [tysL, List.getElem?_mapIdx, Option.map_eq_some_iff] at hk
  obtain ⟨ty, h3, rfl⟩ := hk
  exact hd k ty h3
theorem z_ref {C n d : String} (hr : (Cond.isRef (.static C n d)).before args s = true) : ∃ v, (Term.static C n d).eval args s none [] s = some v ∧ (v = .null ∨ ∃ x, v = .ref x) := by
  cases e : (Term.static C n d).eval args s none [] s with
  | none => simp [Cond.before, Cond.holds, Cond.value, e] at hr
  | some v =>
    refine ⟨v, rfl, ?_⟩
    cases v <;> simp [Cond.before, Cond.holds, Cond.value, e] at hr ⊢
theorem z_one {C n d : String} (hl : (Cond.laysStatic C n d).before args s = true) (hr : (Cond.isRef (.static C n d)).before args s = true) : gZ1 s.heap.size s s.heap C n d := by
  obtain ⟨c, k, i, f, a, cell, hc, hi, hst, ha, hcell, hs, hcls, hlt, hty⟩ := Cond.laysStatic_spec hl
  obtain ⟨v, hv, hvr⟩ := z_ref hr
  obtain ⟨hst', a', cell', ha', hcell', -, hslot⟩ := Term.static_spec hi hv
  cases ha.symm.trans ha'
  cases hcell.symm.trans hcell'
  exact ⟨c, k, i, f, a, cell, v, hc, hi, hst, ha, hcell, hs, hcls, hlt, hty, (Array.getElem?_eq_some_iff.mp hcell).1, hslot, hvr⟩
theorem g_exc (hN : narrow_1.before args s = true) : gN s := by
  refine ⟨fun i j hi hj hne => ?_, fun i hi => ?_⟩
  · have key : ∀ a c : Nat, a < 4 → c < 4 → a ≠ c → va_Nc (aCn (10 + a)) (aCn (10 + c)) s := fun a c ha hc hac => by
      have h := cB_all a ha c hc
      unfold cB at h
      rw [Bool.or_eq_true, beq_iff_eq] at h
      rcases h with h | h
      · exact absurd h hac
      · exact va_Nc.of (nHas_ok h hN)
    unfold isExc at hi hj
    have h1 : i = 10 + (i - 10) := by omega
    have h2 : j = 10 + (j - 10) := by omega
    rw [h1, h2]
    exact key _ _ (by omega) (by omega) (by omega)
  · rcases at_all hi (w := .castable (aCn i) (aCn i)) (List.mem_append_right _ (by simp [atR])) with h | h
    · simp [atSt] at h
    · exact h
end BEG
section BEH
variable {s : State} {b L : Nat} {xs : Nat → Int32}
theorem g_start (hts : ∀ w ∈ lw_tbl, w.before #[Value.ref b] s = true) (hN : narrow_1.before #[Value.ref b] s = true) (hX : va_X b L xs s s.heap) (hbl : b < s.heap.size) :
    ∃ (ad : Nat → Nat) (v : Value), gX ad s.heap.size (L, xs, v) s s.heap ∧ (∀ i j, 100 ≤ i → i < 112 → 100 ≤ j → j < 112 → ad i = ad j → i = j) ∧ ad 0 = b ∧ (v = .null ∨ v = .ref 999) := by
  have hA : ∀ a : Nat, a < s.heap.size → ¬ (s.heap.size ≤ a) := fun a h => by omega
  have hsc : aSc0 < 100 := by decide
  have h1 : ∀ i : Nat, ∃ z : Nat × Nat, i < aSc0 → (va_O "java/lang/String" z.1 (fun q => s.heap.size ≤ q) s s.heap ∧ va_OF "java/lang/String" "coder" "B" (.int 0) z.1 (fun q => s.heap.size ≤ q) s s.heap ∧
      va_OF "java/lang/String" "value" "[B" (.ref z.2) z.1 (fun q => s.heap.size ≤ q) s s.heap ∧ va_T .byte z.2 (sBy i).length (fun j => .int ((sBy i).getD j 0)) (fun q => s.heap.size ≤ q) s s.heap ∧ (sTm i).eval #[Value.ref b] s none [] s = some (.ref z.1)) := by
    intro i
    by_cases hi : i < aSc0
    · obtain ⟨aK, aV, g⟩ := s_one (sB_all i hi) hN
      exact ⟨(aK, aV), fun _ => g⟩
    · exact ⟨(0, 0), fun h => absurd h hi⟩
  obtain ⟨z, hz⟩ := Classical.skolem.mp h1
  have hln : aXn.length = 12 := rfl
  obtain ⟨adX, hE, hEv⟩ := va_Enof2 (args := #[Value.ref b]) (s := s) (E := "TreeStore$Axis") (d := "LTreeStore$Axis;") (nm := aXn) (F := xF) (A := fun q => s.heap.size ≤ q) (fun i hi => hts _ (xB_parts (xB_all i (hln ▸ hi))).1) (hts _ w_iax) (fun i hi => ((xB_parts (xB_all i (hln ▸ hi))).2 hN).1)
    (fun q hq i hi => by
      have hp := (xB_parts (xB_all i (hln ▸ hi))).2 hN
      simp only [xF, List.mem_cons, List.not_mem_nil, or_false] at hq
      rcases hq with rfl | rfl
      · have e := x_ord i (hln ▸ hi)
        dsimp only
        rw [e]
        exact hp.2.1
      · exact hp.2.2.1)
    (fun i j hi hj hne => by
      have h := xD_all i (hln ▸ hi) j (hln ▸ hj)
      unfold xD at h
      rw [Bool.or_eq_true, Bool.or_eq_true, beq_iff_eq] at h
      rcases h with (h | h) | h
      · exact absurd h hne
      · exact Or.inl (nHas_ok h hN)
      · exact Or.inr (nHas_ok h hN)) hA
  obtain ⟨tAl, hAe, hAt⟩ := va_Tof (tm := xAll) (ty := .object "TreeStore$Axis") (N := 12) (f := fun j => .ref (adX j)) (by decide) (nHas_ok n_allarr hN) (va_eqt (nHas_ok n_alllen hN)) (fun j hj => va_eqv ((xB_parts (xB_all j hj)).2 hN).2.2.2.2.2.1 (hEv j (hln ▸ hj))) hA
  obtain ⟨tS, hSe, hSt⟩ := va_Tof (tm := xSw) (ty := .int) (N := 12) (f := fun j => .int (Int32.ofNat (j + 1))) (by decide) (nHas_ok n_swarr hN) (va_eqt (nHas_ok n_swlen hN)) (fun j hj => va_eqt ((xB_parts (xB_all j hj)).2 hN).2.2.2.2.2.2) hA
  obtain ⟨v0, hv0, hvr⟩ := z_ref (nHas_ok n_form hN)
  obtain ⟨v, fm, hv, hvf⟩ : ∃ (v : Value) (fm : Nat), (v = .null ∨ v = .ref 999) ∧ ∀ ad : Nat → Nat, ad 999 = fm → tV ad s.heap.size v = v0 := by
    rcases hvr with rfl | ⟨x, rfl⟩
    · exact ⟨.null, 0, Or.inl rfl, fun _ _ => rfl⟩
    · exact ⟨.ref 999, x, Or.inr rfl, fun ad h => by simp [tV, tA, h]⟩
  have eK : ∀ n, 1 ≤ n → n < 100 → adOf b (fun i => (z i).1) (fun i => (z i).2) adX tAl tS fm n = (z (n - 1)).1 := fun n h1 h2 => adOf_K h1 h2
  have eV : ∀ n, 200 ≤ n → n < 900 → adOf b (fun i => (z i).1) (fun i => (z i).2) adX tAl tS fm n = (z (n - 200)).2 := fun n h1 h2 => adOf_V h1 h2
  have eX : ∀ n, 100 ≤ n → n < 112 → adOf b (fun i => (z i).1) (fun i => (z i).2) adX tAl tS fm n = adX (n - 100) := fun n h1 h2 => adOf_X h1 h2
  have e0 : adOf b (fun i => (z i).1) (fun i => (z i).2) adX tAl tS fm 0 = b := rfl
  have e112 : adOf b (fun i => (z i).1) (fun i => (z i).2) adX tAl tS fm 112 = tAl := rfl
  have e113 : adOf b (fun i => (z i).1) (fun i => (z i).2) adX tAl tS fm 113 = tS := rfl
  have e999 : adOf b (fun i => (z i).1) (fun i => (z i).2) adX tAl tS fm 999 = fm := rfl
  revert eK eV eX e0 e112 e113 e999
  generalize adOf b (fun i => (z i).1) (fun i => (z i).2) adX tAl tS fm = ad
  intro eK eV eX e0 e112 e113 e999
  have tr : ∀ n : Nat, n < 1000 → tV ad s.heap.size (.ref n) = .ref (ad n) := fun n hn => by simp only [tV, tA, hn, if_true]
  refine ⟨ad, v, ⟨fun a ci k w h => ?_, fun a q ha h => ?_, fun a ci h => ?_, fun q hq => ?_, fun q hq => ?_, z_one (hts _ w_lun) (nHas_ok n_una hN), z_one (hts _ w_lsu) (nHas_ok n_sup hN)⟩, fun i j h1 h2 h3 h4 h5 => ?_, e0, hv⟩
  · unfold xFd at h
    split at h
    · rename_i hc
      obtain ⟨c1, c2, rfl⟩ := hc
      obtain ⟨g1, g2, g3, g4, g5⟩ := hz (a - 1) (by omega)
      rw [eK a c1 (by omega)]
      split at h
      · cases h
        rw [tr (199 + a) (by omega), eV (199 + a) (by omega) (by omega), show 199 + a - 200 = a - 1 by omega]
        exact g3
      · cases h
        exact g2
      · cases h
    · split at h
      · rename_i hc
        obtain ⟨c1, c2, rfl⟩ := hc
        have hp := (xB_parts (xB_all (a - 100) (by omega))).2 hN
        have hEn := hE.1 (a - 100) (by rw [hln]; omega)
        rw [eX a c1 c2]
        split at h
        · cases h
          have hw := hp.2.2.2.2.1
          rw [tr (xAxW.getD (a - 100) 0) (by omega), eK (xAxW.getD (a - 100) 0) hw.1 (by omega)]
          exact vk_OFof (hEv (a - 100) (by rw [hln]; omega)) (va_eqv hp.2.2.2.1 (hz (xAxW.getD (a - 100) 0 - 1) (by omega)).2.2.2.2) hA
        · cases h
          exact hEn.2.2 _ (List.mem_cons_of_mem _ List.mem_cons_self)
        · cases h
      · split at h
        · rename_i hc
          obtain ⟨c1, c2, rfl, rfl⟩ := hc
          cases h
          have hEn := hE.1 (a - 100) (by rw [hln]; omega)
          rw [eX a c1 c2]
          have h9 := hEn.2.2 _ List.mem_cons_self
          dsimp only at h9
          rw [x_ord (a - 100) (by omega)] at h9
          exact h9
        · cases h
  · unfold aArr at h
    split at h
    · rename_i h0
      subst h0
      split at h
      · cases h
      cases h
      obtain ⟨scr, q1, q2, q3, q4, q5⟩ := hX
      refine ⟨.int, rfl, scr, by rw [e0]; exact q1, q2, q3, Nat.le_of_eq q4.symm, by rw [q4], q5, by rw [e0]; exact hA b hbl⟩
    · unfold xAr at h
      split at h
      · rename_i hc
        cases h
        refine ⟨.byte, rfl, ?_⟩
        rw [eV a hc.1 (by omega)]
        have h9 := (hz (a - 200) (by omega)).2.2.2.1
        unfold sBy at h9
        revert h9
        generalize xBy.getD (a - 200) [] = B
        intro h9
        exact h9
      · split at h
        · rename_i hc
          subst hc
          cases h
          refine ⟨.object "TreeStore$Axis", rfl, ?_⟩
          rw [e112]
          obtain ⟨cell, q1, q2, q3, q4, q5, q6, q7⟩ := hAt
          refine ⟨cell, q1, q2, q3, q4, q5, fun j hj => ?_, q7⟩
          rw [q6 j hj]
          have hj2 : j < 12 := hj
          simp only [xVal, hj2, if_true, Option.map_some, va_rf, tA, (by omega : 100 + j < 1000)]
          rw [eX (100 + j) (by omega) (by omega), show 100 + j - 100 = j by omega]
        · split at h
          · rename_i hc
            subst hc
            cases h
            refine ⟨.int, rfl, ?_⟩
            rw [e113]
            exact hSt
          · cases h
  · unfold xCl at h
    split at h
    · rename_i hc
      cases h
      rw [eK a hc.1 (by omega)]
      exact (hz (a - 1) (by omega)).1
    · split at h
      · rename_i hc
        cases h
        rw [eX a hc.1 hc.2]
        exact (hE.1 (a - 100) (by rw [hln]; omega)).2.1
      · cases h
  · rcases List.mem_cons.mp hq with rfl | hq
    · dsimp only
      rw [hvf ad e999]
      exact va_Zof (hts _ w_lfo) (hts _ w_ipr) hv0 hA
    · simp only [aSta0, List.mem_cons, List.not_mem_nil, or_false] at hq
      have hs : ∀ i, i < 12 → va_Z "TreeStore$Axis" (aXn.getD i "") "LTreeStore$Axis;" (tV ad s.heap.size (.ref (100 + i))) (fun q => s.heap.size ≤ q) s s.heap := fun i hi => by
        rw [tr (100 + i) (by omega), eX (100 + i) (by omega) (by omega), show 100 + i - 100 = i by omega]
        exact (hE.1 i (hln ▸ hi)).1
      rcases hq with rfl | rfl | rfl | rfl | rfl | rfl | rfl | rfl | rfl | rfl | rfl | rfl | rfl | rfl | rfl
      · exact hs 0 (by decide)
      · exact hs 1 (by decide)
      · exact hs 2 (by decide)
      · exact hs 3 (by decide)
      · exact hs 4 (by decide)
      · exact hs 5 (by decide)
      · exact hs 6 (by decide)
      · exact hs 7 (by decide)
      · exact hs 8 (by decide)
      · exact hs 9 (by decide)
      · exact hs 10 (by decide)
      · exact hs 11 (by decide)
      · dsimp only
        rw [tr 112 (by decide), e112]
        exact va_Zof (hts _ w_lall) (hts _ w_iax) hAe hA
      · dsimp only
        rw [tr 113 (by decide), e113]
        exact va_Zof (hts _ w_lsw) (hts _ w_isw) hSe hA
      · exact va_Zof (hts _ w_lco) (hts _ w_ist) (va_eqi (nHas_ok n_comp hN)) hA
  · obtain ⟨i, hi⟩ := List.mem_iff_getElem?.mp hq
    have hlt : i < aSc0 := by
      have h9 : i < aStr.length := (List.getElem?_eq_some_iff.mp hi).1
      have h8 : aStr.length = aSc0 := by decide +kernel
      omega
    obtain ⟨q', h2, h3, h4, h5⟩ := sB_str (sB_all i hlt)
    cases hi.symm.trans h2
    rw [h3, eK (1 + i) (by omega) (by omega), show 1 + i - 1 = i by omega]
    refine vk_R.of (hts _ h5) ?_
    rw [← h4]
    exact (hz i hlt).2.2.2.2
  · rw [eX i h1 h2, eX j h3 h4] at h5
    have := hE.2 (i - 100) (j - 100) (by rw [hln]; omega) (by rw [hln]; omega) h5
    omega
end BEH
