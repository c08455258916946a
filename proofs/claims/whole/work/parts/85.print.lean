/-! THE CLASS PRINTS -/
/-- a character of a text or an attribute, as it is printed -/
def escC (k : Nat) (c : Int32) : List Int32 := if c = 38 then [38, 97, 109, 112, 59] else if c = 60 then [38, 108, 116, 59] else if c = 34 ∧ k = 2 then [38, 113, 117, 111, 116, 59] else [c]
def escL (k : Nat) : List Int32 → List Int32
  | [] => []
  | c :: l => escC k c ++ escL k l
/-- has an element children -/
abbrev hCh (ns : List Nd) (p : Nat) : Prop := skn isAt ns (p + 1) ≤ p + siz ns p
def endL (ns : List Nd) (p : Nat) : List Int32 := [60, 47] ++ (nd ns p).2.2.1 ++ [62]
def atL (ns : List Nd) : Nat → Nat → List Int32
  | 0, _ => []
  | m + 1, i => [32] ++ (nd ns i).2.2.1 ++ [61, 34] ++ escL 2 (nd ns i).2.2.2 ++ [34] ++ atL ns m (i + 1)
def hdPr (ns : List Nd) (p : Nat) : List Int32 := [60] ++ (nd ns p).2.2.1 ++ atL ns (skn isAt ns (p + 1) - (p + 1)) (p + 1) ++ (if hCh ns p then [62] else [47, 62])
def bgL (ns : List Nd) (p : Nat) : List Int32 := if (nd ns p).1 = 1 then hdPr ns p else if (nd ns p).1 = 3 then escL 3 (nd ns p).2.2.2 else if (nd ns p).1 = 4 then [60, 33, 45, 45] ++ (nd ns p).2.2.2 ++ [45, 45, 62] else []
section PRI
variable {F : Nat} {ns : List Nd}
theorem f86_28_e {p r : Nat} {l : List Int32} (hF : 500 ≤ F) (hs : szOk ns) (hp : p < ns.length) (hr : isRw r) (hrow : ∀ σ, cTr σ ns → rowL σ r l) (hl : l.length ≤ capR r) : ∀ (m k j : Nat), j + m ≤ l.length → emC ns (fun σ => f86_28 F (k + m + 1) (Int32.ofNat p) r (Int32.ofNat (j + m)) (Int32.ofNat j) σ) (escL (nd ns p).1 (stre l j m)) := by
  have hc := capR_le r
  have hn := hs.1.1
  have bk := (hs.1.2 p hp).2
  have i2 : inB (Int32.ofNat p) 30 := oN_rg (by omega) (by decide)
  have q1 := oN_n (show p < 2147483648 by omega)
  intro m
  induction m with
  | zero =>
    intro k j hj σ w s ch ht h
    refine ⟨σ, ?_, agP.refl, ?_⟩
    · dsimp only
      rw [f86_28.eq_2, if_neg (fun g => by have := (oN_lt (by omega) (by omega)).mp g; omega)]
    · rw [stre_0]
      exact h
  | succ m ih =>
    intro k j hj
    have e : stre l j (m + 1) = l.getD j 0 :: stre l (j + 1) m := by
      unfold stre
      rw [List.drop_eq_getElem_cons (show j < l.length by omega), List.take_succ_cons, getD_lt (show j < l.length by omega)]
    have i1 := ih k (j + 1) (by omega)
    rw [show j + 1 + m = j + (m + 1) by omega] at i1
    rw [e]
    unfold escL
    have st : ∀ σ, cTr σ ns → f86_28 F (k + (m + 1) + 1) (Int32.ofNat p) r (Int32.ofNat (j + (m + 1))) (Int32.ofNat j) σ = cV ((if l.getD j 0 = 38 then f85 F 2 σ else if l.getD j 0 = 60 then f85 F 3 σ else if l.getD j 0 = 34 ∧ (nd ns p).1 = 2 then f85 F 4 σ else f82 F (l.getD j 0) σ)) fun τ => f86_28 F (k + m + 1) (Int32.ofNat p) r (Int32.ofNat (j + (m + 1))) (Int32.ofNat (j + 1)) τ := fun σ ht => by
      rw [show k + (m + 1) + 1 = (k + m + 1) + 1 by omega, f86_28.eq_2, if_pos ((oN_lt (by omega) (by omega)).mpr (by omega)), f92_r hr (hrow σ ht) hl (by omega), cIo]
      unfold f86_103 f86_109
      rw [oN_p1]
      by_cases c1 : l.getD j 0 = 38
      · rw [if_pos c1, if_pos c1]
      · rw [if_neg c1, if_neg c1]
        by_cases c2 : l.getD j 0 = 60
        · rw [if_pos c2, if_pos c2]
        · rw [if_neg c2, if_neg c2]
          by_cases c3 : l.getD j 0 = 34
          · rw [if_pos c3, if_pos i2, ltE]
            simp only [q1]
            rw [(ht.1.2 p hp).1]
            by_cases c4 : (nd ns p).1 = 2
            · rw [if_pos (show l.getD j 0 = 34 ∧ (nd ns p).1 = 2 from ⟨c3, c4⟩), c4, if_pos (show Int32.ofNat 2 = 2 from rfl)]
            · rw [if_neg (show ¬ (l.getD j 0 = 34 ∧ (nd ns p).1 = 2) from fun g => c4 g.2), if_neg (fun g => c4 ((oE2 (by omega)).mp g))]
          · rw [if_neg c3, if_neg (show ¬ (l.getD j 0 = 34 ∧ (nd ns p).1 = 2) from fun g => c3 g.1)]
    unfold escC
    by_cases c1 : l.getD j 0 = 38
    · rw [if_pos c1, ← w1.2.1]
      exact ((f85_e hF).seq i1).cg (fun σ ht => by rw [st σ ht, if_pos c1])
    · rw [if_neg c1]
      by_cases c2 : l.getD j 0 = 60
      · rw [if_pos c2, ← w1.2.2.1]
        exact ((f85_e hF).seq i1).cg (fun σ ht => by rw [st σ ht, if_neg c1, if_pos c2])
      · rw [if_neg c2]
        by_cases c3 : l.getD j 0 = 34 ∧ (nd ns p).1 = 2
        · rw [if_pos c3, ← w1.2.2.2.1]
          exact ((f85_e hF).seq i1).cg (fun σ ht => by rw [st σ ht, if_neg c1, if_neg c2, if_pos c3])
        · rw [if_neg c3]
          exact ((f82_e (F := F) (c := l.getD j 0)).seq i1).cg (fun σ ht => by rw [st σ ht, if_neg c1, if_neg c2, if_neg c3])
theorem vRow {p : Nat} (hs : szOk ns) : isRw (vRw ns p) ∧ capR (vRw ns p) = 4096 ∧ isO (vRw ns p) 5 = true ∧ (∀ σ, cTr σ ns → rowL σ (vRw ns p) (vLs ns p)) ∧ (vLs ns p).length ≤ 4096 := by
  unfold vRw vLs
  by_cases c2 : inW ns p
  · rw [if_pos c2, if_pos c2]
    exact ⟨Or.inr (Or.inr (Or.inl rfl)), by decide, by decide +kernel, fun σ ht => ht.2.1, hs.2.2⟩
  · rw [if_neg c2, if_neg c2]
    exact ⟨Or.inr (Or.inl rfl), by decide, by decide +kernel, fun σ ht => ht.2.2.1, hs.2.1⟩
/-- a value, as it is printed -/
theorem f86_e {p : Nat} (hF : 5000 ≤ F) (hs : szOk ns) (hc : chOk ns) (hk4 : (nd ns p).1 ≤ 4) (hp : p < ns.length) : emC ns (fun σ => f86 F (Int32.ofNat p) σ) (escL (nd ns p).1 (sv ns p)) := by
  have vs := v_str hc hk4 hp
  have vr := vRow (p := p) hs
  obtain ⟨k, hk⟩ : ∃ k, F = k + (vTo ns p - vFr ns p) + 1 := ⟨F - (vTo ns p - vFr ns p) - 1, by omega⟩
  have a0 := f86_28_e (F := F) (by omega) hs hp vr.1 vr.2.2.2.1 (by rw [vr.2.1]; exact vr.2.2.2.2) (vTo ns p - vFr ns p) k (vFr ns p) (by omega)
  rw [← hk, show vFr ns p + (vTo ns p - vFr ns p) = vTo ns p by omega, vs.2.2] at a0
  refine a0.cg (fun σ ht => ?_)
  have cr : ∀ (a : Nat) (kk : Nat → St → Rs), cR (some (.inl (some (.ref a)), σ)) kk = kk a σ := fun _ _ => rfl
  unfold f86
  rw [f132_e ht hs hp, cr, if_pos vr.2.2.1, f129_e ht hs hp, cIo, f131_e ht hs hp, cIo]
theorem f134_e {p : Nat} {σ : St} (hF : 500 ≤ F) (ht : cTr σ ns) (hs : szOk ns) (hp : p < ns.length) : f134 F 1003 (Int32.ofNat p) σ = oI (b2i (decide (hCh ns p))) σ := by
  have hn := hs.1.1
  have hz := siz_le hp
  have g2 := skn_le (f := isAt) (ns := ns) (p := p + 1) (by omega)
  unfold f134
  rw [f133_e hF ht.1 hs.1 hp, cIo, if_pos (oN_rg (by omega) (by decide)), ltE, rfT.2.2.2.2.2.1, oN_n (by omega), (ht.2.2.2.2 p hp).2, oN_ad]
  by_cases c : hCh ns p
  · have c2 : skn isAt ns (p + 1) ≤ p + siz ns p := c
    rw [if_neg (fun g => by have := (oN_lt (by omega) (by omega)).mp g; omega), decide_eq_true c]
    rfl
  · have c2 : ¬ skn isAt ns (p + 1) ≤ p + siz ns p := c
    rw [if_pos ((oN_lt (by omega) (by omega)).mpr (by omega)), decide_eq_false c]
    rfl
theorem f81_24_e {p : Nat} (hF : 5000 ≤ F) (hs : szOk ns) (hw : wf ns) (hp : p < ns.length) (hk : (nd ns p).1 = 1) : ∀ (m k i : Nat), p < i → i + m = skn isAt ns (p + 1) → emC ns (fun σ => f81_24 F (k + m + 1) (Int32.ofNat p) (Int32.ofNat (skn isAt ns (p + 1))) (Int32.ofNat i) σ) (atL ns m i ++ (if hCh ns p then [62] else [47, 62])) := by
  have hn := hs.1.1
  have g2 := skn_le (f := isAt) (ns := ns) (p := p + 1) (by omega)
  intro m
  induction m with
  | zero =>
    intro k i h1 h2
    unfold atL
    rw [List.nil_append]
    by_cases c : hCh ns p
    · have a := (f85_e (F := F) (ns := ns) (x := 5) (by omega)).seq emC.nil
      rw [List.append_nil, w1.2.2.2.2.1] at a
      rw [if_pos c]
      refine a.cg (fun σ ht => ?_)
      rw [Nat.add_zero, f81_24.eq_2, if_neg (fun g => by have := (oN_lt (by omega) (by omega)).mp g; omega), f134_e (by omega) ht hs hp, cIo, decide_eq_true c, if_neg (show ¬ b2i true = 0 by decide)]
    · have a := (f85_e (F := F) (ns := ns) (x := 6) (by omega)).seq emC.nil
      rw [List.append_nil, w1.2.2.2.2.2.1] at a
      rw [if_neg c]
      refine a.cg (fun σ ht => ?_)
      rw [Nat.add_zero, f81_24.eq_2, if_neg (fun g => by have := (oN_lt (by omega) (by omega)).mp g; omega), f134_e (by omega) ht hs hp, cIo, decide_eq_false c, if_pos b2i_f]
  | succ m ih =>
    intro k i h1 h2
    have i1 := ih k (i + 1) (by omega) (by omega)
    have kr := at_run hw hp hk (i - (p + 1)) (by omega)
    rw [show p + 1 + (i - (p + 1)) = i by omega] at kr
    have sve : sv ns i = (nd ns i).2.2.2 := by
      unfold sv
      rw [if_pos (by rw [kr.1]; decide)]
    have ev := f86_e (F := F) (p := i) hF hs hw.2.2.1 (by rw [kr.1]; decide) kr.2.2
    rw [sve, kr.1] at ev
    have ew := f85_e (F := F) (ns := ns) (x := 1) (by omega)
    rw [w1.1] at ew
    have all := (f82_e (F := F) (c := 32)).seq ((f83_e (F := F) hF hs kr.2.2).seq (ew.seq (ev.seq ((f82_e (F := F) (c := 34)).seq i1))))
    unfold atL
    have el : [32] ++ (nd ns i).2.2.1 ++ [61, 34] ++ escL 2 (nd ns i).2.2.2 ++ [34] ++ atL ns m (i + 1) ++ (if hCh ns p then [62] else [47, 62]) = [32] ++ ((nd ns i).2.2.1 ++ ([61, 34] ++ (escL 2 (nd ns i).2.2.2 ++ ([34] ++ (atL ns m (i + 1) ++ (if hCh ns p then [62] else [47, 62])))))) := by
      simp only [List.append_assoc]
    rw [el]
    refine all.cg (fun σ ht => ?_)
    rw [show k + (m + 1) + 1 = (k + m + 1) + 1 by omega, f81_24.eq_2, if_pos ((oN_lt (by omega) (by omega)).mpr (by omega)), oN_p1]
theorem f81_e {p : Nat} (hF : 5000 ≤ F) (hs : szOk ns) (hw : wf ns) (hp : p < ns.length) (hk : (nd ns p).1 = 1) : emC ns (fun σ => f81 F (Int32.ofNat p) σ) (hdPr ns p) := by
  have hn := hs.1.1
  have g1 := skn_ge (f := isAt) (ns := ns) (p := p + 1)
  have g2 := skn_le (f := isAt) (ns := ns) (p := p + 1) (by omega)
  obtain ⟨k, hk2⟩ : ∃ k, F = k + (skn isAt ns (p + 1) - (p + 1)) + 1 := ⟨F - (skn isAt ns (p + 1) - (p + 1)) - 1, by omega⟩
  have a0 := f81_24_e (F := F) hF hs hw hp hk (skn isAt ns (p + 1) - (p + 1)) k (p + 1) (by omega) (by omega)
  rw [← hk2] at a0
  have a1 : emC ns (fun σ => cI (f133 F 1003 (Int32.ofNat p) σ) fun c6 σ5 => f81_24 F F (Int32.ofNat p) c6 (Int32.ofNat p + 1) σ5) _ := a0.cg (fun σ ht => by rw [f133_e (by omega) ht.1 hs.1 hp, cIo, oN_p1])
  have all := (f82_e (F := F) (c := 60)).seq ((f83_e (F := F) hF hs hp).seq a1)
  unfold hdPr
  have el : [60] ++ (nd ns p).2.2.1 ++ atL ns (skn isAt ns (p + 1) - (p + 1)) (p + 1) ++ (if hCh ns p then [62] else [47, 62]) = [60] ++ ((nd ns p).2.2.1 ++ (atL ns (skn isAt ns (p + 1) - (p + 1)) (p + 1) ++ (if hCh ns p then [62] else [47, 62]))) := by
    simp only [List.append_assoc]
  rw [el]
  exact all.cg (fun σ ht => by unfold f81; rfl)
theorem f80_e {p : Nat} (hF : 5000 ≤ F) (hs : szOk ns) (hw : wf ns) (hp : p < ns.length) (h0 : 0 < p) : emC ns (fun σ => f80 F (Int32.ofNat p) σ) (bgL ns p) := by
  have hn := hs.1.1
  have bk := (hs.1.2 p hp).2
  have nk := (hw.2.2.2 p h0 hp).1
  have i2 : inB (Int32.ofNat p) 30 := oN_rg (by omega) (by decide)
  have q1 := oN_n (show p < 2147483648 by omega)
  have st : ∀ σ, cTr σ ns → f80 F (Int32.ofNat p) σ = (if Int32.ofNat (nd ns p).1 = 1 then cV (f81 F (Int32.ofNat p) σ) fun σ2 => oV σ2 else if Int32.ofNat (nd ns p).1 = 2 then oV σ else if Int32.ofNat (nd ns p).1 = 3 then cV (f86 F (Int32.ofNat p) σ) fun σ4 => oV σ4 else if Int32.ofNat (nd ns p).1 = 4 then cV (f85 F 7 σ) fun σ6 => cI (f131 F 1003 (Int32.ofNat p) σ6) fun c9 σ8 => cI (f129 F 1003 (Int32.ofNat p) σ8) fun c11 σ10 => cV (f84 F 1014 c9 c11 σ10) fun σ12 => cV (f85 F 8 σ12) fun σ14 => oV σ14 else oV σ) := fun σ ht => by
    unfold f80
    rw [if_pos i2, ltE]
    simp only [q1]
    rw [(ht.1.2 p hp).1]
  unfold bgL
  by_cases k1 : (nd ns p).1 = 1
  · rw [if_pos k1]
    have a := (f81_e (F := F) hF hs hw hp k1).seq emC.nil
    rw [List.append_nil] at a
    exact a.cg (fun σ ht => by rw [st σ ht, k1, if_pos (show Int32.ofNat 1 = 1 from rfl)])
  · rw [if_neg k1]
    have n1 : ¬ Int32.ofNat (nd ns p).1 = 1 := fun g => k1 ((oE1 (by omega)).mp g)
    by_cases k3 : (nd ns p).1 = 3
    · rw [if_pos k3]
      have sve : sv ns p = (nd ns p).2.2.2 := by
        unfold sv
        rw [if_pos (by omega)]
      have ev := (f86_e (F := F) (p := p) hF hs hw.2.2.1 nk.2.1 hp).seq emC.nil
      rw [List.append_nil, sve, k3] at ev
      exact ev.cg (fun σ ht => by rw [st σ ht, k3, if_neg (show ¬ Int32.ofNat 3 = 1 by decide), if_neg (show ¬ Int32.ofNat 3 = 2 by decide), if_pos (show Int32.ofNat 3 = 3 from rfl)])
    · rw [if_neg k3]
      by_cases k4 : (nd ns p).1 = 4
      · rw [if_pos k4]
        have iw : inW ns p := Or.inr k4
        have vs := v_str hw.2.2.1 nk.2.1 hp
        have sve : sv ns p = (nd ns p).2.2.2 := by
          unfold sv
          rw [if_pos (by omega)]
        have vl : vLs ns p = flW ns := if_pos iw
        rw [sve, vl] at vs
        have a0 := f84_e (F := F) (ns := ns) (r := 1014) (l := flW ns) (j := vFr ns p) (m := vTo ns p - vFr ns p) hF (Or.inr (Or.inr (Or.inl rfl))) (fun σ ht => ht.2.1) (by rw [show capR 1014 = 4096 by decide]; exact hs.2.2) (by omega)
        rw [vs.2.2, show vFr ns p + (vTo ns p - vFr ns p) = vTo ns p by omega] at a0
        have e7 := f85_e (F := F) (ns := ns) (x := 7) (by omega)
        have e8 := (f85_e (F := F) (ns := ns) (x := 8) (by omega)).seq emC.nil
        rw [List.append_nil, w1.2.2.2.2.2.2.2.1] at e8
        rw [w1.2.2.2.2.2.2.1] at e7
        have b1 : emC ns (fun σ6 => cI (f131 F 1003 (Int32.ofNat p) σ6) fun c9 σ8 => cI (f129 F 1003 (Int32.ofNat p) σ8) fun c11 σ10 => cV (f84 F 1014 c9 c11 σ10) fun σ12 => cV (f85 F 8 σ12) fun σ14 => oV σ14) _ := (a0.seq e8).cg (fun σ ht => by rw [f131_e ht hs hp, cIo, f129_e ht hs hp, cIo])
        have all := e7.seq b1
        rw [List.append_assoc]
        exact all.cg (fun σ ht => by rw [st σ ht, k4, if_neg (show ¬ Int32.ofNat 4 = 1 by decide), if_neg (show ¬ Int32.ofNat 4 = 2 by decide), if_neg (show ¬ Int32.ofNat 4 = 3 by decide), if_pos (show Int32.ofNat 4 = 4 from rfl)])
      · rw [if_neg k4]
        have k2 : (nd ns p).1 = 2 := by
          have := nk.1
          have := nk.2.1
          omega
        exact emC.nil.cg (fun σ ht => by rw [st σ ht, k2, if_neg (show ¬ Int32.ofNat 2 = 1 by decide), if_pos (show Int32.ofNat 2 = 2 from rfl)])
end PRI
