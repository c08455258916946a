/-! INSERTING, as lists -/
def plc (ns : List Nd) (a lv : Nat) : Prop := 1 ≤ a ∧ a ≤ ns.length ∧ lv ≤ (nd ns (a - 1)).2.1 + 1 ∧ (1 < (nd ns (a - 1)).1 → lv ≤ (nd ns (a - 1)).2.1) ∧ (a < ns.length → (nd ns a).2.1 ≤ lv ∧ (nd ns a).1 ≠ 2)
/-- what a piece is -/
def pce (m : List Nd) (lv : Nat) : Prop := 0 < m.length ∧ chOk m ∧ allK 0 lv m ∧ allK 1 (lv + 1) m ∧ (nd m 0).2.1 = lv ∧ (nd m 0).1 ≠ 2 ∧ ((nd m 0).1 ≠ 1 → m.length = 1)
section INS
variable {ns m : List Nd} {a lv : Nat}
theorem ins_adj (hw : wf ns) (hp : plc ns a lv) (hm : pce m lv) : (∀ i, i + 1 < (insL ns a m).length → i ≠ a - 1 → i ≠ a + m.length - 1 → adjOk (nd (insL ns a m) i) (nd (insL ns a m) (i + 1))) ∧ adjW (nd (insL ns a m) (a - 1)) (nd (insL ns a m) (a - 1 + 1)) ∧ (a + m.length - 1 + 1 < (insL ns a m).length → adjW (nd (insL ns a m) (a + m.length - 1)) (nd (insL ns a m) (a + m.length - 1 + 1)) ∧ (m.length ≠ 1 → adjOk (nd (insL ns a m) (a + m.length - 1)) (nd (insL ns a m) (a + m.length - 1 + 1)))) := by
  obtain ⟨p1, p2, p3, p4, p5⟩ := hp
  obtain ⟨m1, m2, m3, m4, m5, m6, m7⟩ := hm
  have hlen := ins_len (m := m) p2
  refine ⟨fun i hi h1 h2 => ?_, ?_, fun hi => ?_⟩
  · rw [hlen] at hi
    rw [nd_ins p2, nd_ins p2]
    by_cases c1 : i + 1 < a
    · rw [if_pos (by omega), if_pos c1]
      exact hw.2.2.1 i (by omega)
    · rw [if_neg (show ¬ i < a by omega), if_neg c1]
      by_cases c2 : i + 1 < a + m.length
      · rw [if_pos (by omega), if_pos c2, show i + 1 - a = i - a + 1 by omega]
        exact m2 (i - a) (by omega)
      · rw [if_neg (by omega), if_neg c2, show i + 1 - m.length = i - m.length + 1 by omega]
        exact hw.2.2.1 _ (by omega)
  · rw [nd_ins p2, nd_ins p2, if_pos (by omega), if_neg (by omega), if_pos (by omega), show a - 1 + 1 - a = 0 by omega]
    exact ⟨by omega, fun g => by have := p4 g; omega, fun g => absurd g m6⟩
  · rw [hlen] at hi
    rw [nd_ins p2, nd_ins p2, if_neg (by omega), if_pos (by omega), if_neg (by omega), if_neg (by omega), show a + m.length - 1 - a = m.length - 1 by omega, show a + m.length - 1 + 1 - m.length = a by omega]
    have w := p5 (by omega)
    have z := (m3 (m.length - 1) (by omega) (by omega)).2
    have aw : adjW (nd m (m.length - 1)) (nd ns a) := ⟨by omega, fun _ => by omega, fun g => absurd g w.2⟩
    refine ⟨aw, fun g => ⟨aw.1, aw.2.1, aw.2.2, fun t => ?_⟩⟩
    have z2 := (m4 (m.length - 1) (by omega) (by omega)).2
    omega
theorem ins_k (hw : wf ns) (hp : plc ns a lv) (hm : pce m lv) : (∀ i, 1 ≤ i → i < (insL ns a m).length → ndK (nd (insL ns a m) i)) ∧ nd (insL ns a m) 0 = doc0 ∧ 0 < (insL ns a m).length := by
  obtain ⟨p1, p2, p3, p4, p5⟩ := hp
  have hlen := ins_len (m := m) p2
  refine ⟨fun i h1 hi => ?_, ?_, by omega⟩
  · rw [hlen] at hi
    rw [nd_ins p2]
    by_cases c1 : i < a
    · rw [if_pos c1]
      exact (hw.2.2.2 i h1 (by omega)).1
    · rw [if_neg c1]
      by_cases c2 : i < a + m.length
      · rw [if_pos c2]
        exact (hm.2.2.1 _ (by omega) (by omega)).1
      · rw [if_neg c2]
        exact (hw.2.2.2 _ (by omega) (by omega)).1
  · rw [nd_ins p2, if_pos (by omega)]
    exact hw.2.1
theorem nm_of {D : List Nd} (hk : ∀ i, 1 ≤ i → i < D.length → ndK (nd D i)) (h0 : nd D 0 = doc0) : ∀ i, i < D.length → (nd D i).1 = 3 → (nd D i).2.2.1 = [] := fun i hi h3 => by
  by_cases c : i = 0
  · rw [c, h0] at h3
    exact absurd h3 (by decide)
  · exact ((hk i (by omega) hi).2.2.2.2.2.2.1 h3).1
/-- what the class comes to -/
def inO (ns : List Nd) (a : Nat) (m : List Nd) : List Nd := jnO (jnO (insL ns a m) a) (a - 1)
/-- an element or a comment: nothing is joined -/
theorem ins_ne (hw : wf ns) (hp : plc ns a lv) (hm : pce m lv) (h3 : (nd m 0).1 ≠ 3) : jnO (insL ns a m) a = insL ns a m ∧ ¬ jnb (insL ns a m) (a - 1) ∧ chOk (insL ns a m) := by
  have ad := ins_adj hw hp hm
  obtain ⟨p1, p2, p3, p4, p5⟩ := hp
  have hlen := ins_len (m := m) p2
  have m1 := hm.1
  have e : nd (insL ns a m) a = nd m 0 := by rw [nd_ins p2, if_neg (by omega), if_pos (by omega), Nat.sub_self]
  have j1 : ¬ jnb (insL ns a m) a := fun g => h3 (by rw [← e]; exact g.2.1)
  have j2 : ¬ jnb (insL ns a m) (a - 1) := fun g => by
    have k := g.2.2.1
    rw [show a - 1 + 1 = a by omega, e] at k
    exact h3 k
  refine ⟨if_neg j1, j2, fun i hi => ?_⟩
  by_cases c1 : i = a - 1
  · rw [c1] at hi ⊢
    exact ⟨ad.2.1.1, ad.2.1.2.1, ad.2.1.2.2, fun g => j2 ⟨hi, g.1, g.2.1, g.2.2⟩⟩
  · by_cases c2 : i = a + m.length - 1
    · rw [c2] at hi ⊢
      have k := ad.2.2 hi
      by_cases cm : m.length = 1
      · refine ⟨k.1.1, k.1.2.1, k.1.2.2, fun g => ?_⟩
        have g1 := g.1
        rw [cm, show a + 1 - 1 = a by omega, e] at g1
        exact h3 g1
      · exact k.2 cm
    · exact ad.1 i hi c1 c2
theorem in_wf (hw : wf ns) (hp : plc ns a lv) (hm : pce m lv) : wf (inO ns a m) := by
  have ik := ins_k hw hp hm
  by_cases h3 : (nd m 0).1 = 3
  · have ad := ins_adj hw hp hm
    have m1 : m.length = 1 := hm.2.2.2.2.2.2 (by rw [h3]; decide)
    have p1 := hp.1
    have p2 := hp.2.1
    have hlen := ins_len (m := m) p2
    have e2 : a + m.length - 1 = a := by omega
    rw [e2] at ad
    -- behind the first join
    have k1 := jn_ok (j := a) ik.1 ik.2.1
    have k0 := jn_0 (j := a) ik.2.1
    have kl := (jnO_len (D := insL ns a m) (j := a)).2 ik.2.2
    refine wf_of k1 k0 kl (fun i hi hne => ?_) (fun hi => ?_)
    · unfold jnO at hi ⊢
      by_cases hj : jnb (insL ns a m) a
      · rw [if_pos hj] at hi ⊢
        rw [jn_len hj.1] at hi
        rw [nd_jn hj.1, nd_jn hj.1]
        by_cases c1 : i + 1 < a
        · rw [if_pos (by omega), if_pos c1]
          exact ad.1 i (by omega) (by omega) (by omega)
        · by_cases c3 : i = a
          · rw [if_neg (by omega), if_pos c3, if_neg (by omega), if_neg (by omega), c3]
            exact adjOk_cg (ad.1 (a + 1) (by omega) (by omega) (by omega)) hj.2.2.1.symm hj.2.2.2 rfl rfl
          · rw [if_neg (by omega), if_neg c3, if_neg (by omega), if_neg (by omega)]
            exact ad.1 (i + 1) (by omega) (by omega) (by omega)
      · rw [if_neg hj] at hi ⊢
        by_cases c : i = a
        · rw [c] at hi ⊢
          have k := (ad.2.2 hi).1
          exact ⟨k.1, k.2.1, k.2.2, fun g => hj ⟨hi, g.1, g.2.1, g.2.2⟩⟩
        · exact ad.1 i hi hne c
    · unfold jnO
      by_cases hj : jnb (insL ns a m) a
      · rw [if_pos hj, nd_jn hj.1, nd_jn hj.1, if_pos (by omega), if_neg (by omega), if_pos (by omega)]
        have k := ad.2.1
        rw [show a - 1 + 1 = a by omega] at k
        unfold adjW at k ⊢
        rw [hj.2.1] at k
        exact k
      · rw [if_neg hj]
        exact ad.2.1
  · have g := ins_ne hw hp hm h3
    unfold inO
    rw [g.1]
    unfold jnO
    rw [if_neg g.2.1]
    exact ⟨ik.2.2, ik.2.1, g.2.2, fun i h1 h2 => ⟨ik.1 i h1 h2, (ik.1 i h1 h2).2.2.1⟩⟩
/-- what the reference comes to -/
theorem in_fold (hw : wf ns) (hp : plc ns a lv) (hm : pce m lv) : (ns.drop a).foldl addN (m.foldl addN (ns.take a)) = inO ns a m ∧ (addN (ns.take a) (nd m 0)).length - 1 = (if jnb (jnO (insL ns a m) a) (a - 1) then a - 1 else a) := by
  have p1 := hp.1
  have p2 := hp.2.1
  have m1 := hm.1
  have hlen := ins_len (m := m) p2
  have lt : (ns.take a).length = a := by rw [List.length_take]; omega
  have hnj : nj (ns.drop a) := fun i hi => by
    rw [List.length_drop] at hi
    rw [ndDrop, ndDrop, show a + (i + 1) = a + i + 1 by omega]
    exact hw.2.2.1.nj _ (by omega)
  have lx : nd (ns.take a) ((ns.take a).length - 1) = nd ns (a - 1) := by rw [lt, ndTake, if_pos (by omega)]
  have ea : nd (insL ns a m) a = nd m 0 := by rw [nd_ins p2, if_neg (by omega), if_pos (by omega), Nat.sub_self]
  have eb : nd (insL ns a m) (a - 1) = nd ns (a - 1) := by rw [nd_ins p2, if_pos (by omega)]
  by_cases h3 : (nd m 0).1 = 3
  · -- a text
    have ml : m.length = 1 := hm.2.2.2.2.2.2 (by rw [h3]; decide)
    obtain ⟨t, rfl⟩ : ∃ t, m = [t] := List.length_eq_one_iff.mp ml
    have et : nd [t] 0 = t := rfl
    rw [et] at h3 ea ⊢
    have tlv : t.2.1 = lv := hm.2.2.2.2.1
    have tnm : t.2.2.1 = [] := ((hm.2.2.1 0 (Nat.le_refl _) m1).1.2.2.2.2.2.2.1 h3).1
    rw [List.foldl_cons, List.foldl_nil]
    have xk : (nd ns (a - 1)).1 = 3 → (nd ns (a - 1)).2.2.1 = [] := fun g => (hw.tx (by omega) g).1
    have eT : ns.take a = ns.take (a - 1) ++ [nd ns (a - 1)] := by
      have k := take_nd (ns := ns) (i := a - 1) (by omega)
      rw [show a - 1 + 1 = a by omega] at k
      exact k
    have lP : (ns.take (a - 1)).length = a - 1 := by rw [List.length_take]; omega
    have eI : insL ns a [t] = ns.take (a - 1) ++ nd ns (a - 1) :: t :: ns.drop a := by
      unfold insL
      rw [eT, List.append_assoc, List.append_assoc]
      rfl
    have eI2 : insL ns a [t] = (ns.take (a - 1) ++ [nd ns (a - 1)]) ++ t :: ns.drop a := by
      rw [eI, List.append_assoc]
      rfl
    have lP2 : (ns.take (a - 1) ++ [nd ns (a - 1)]).length = a := by
      rw [List.length_append, lP, List.length_cons, List.length_nil]
      omega
    unfold inO
    rw [eT]
    generalize nd ns (a - 1) = x at xk eI eI2 lP2 ⊢
    generalize ns.take (a - 1) = P at lP eI eI2 lP2 ⊢
    cases hD : ns.drop a with
    | nil =>
      rw [hD] at eI eI2
      have j1 : jnO (insL ns a [t]) a = P ++ x :: t :: [] := by
        rw [eI2]
        unfold jnO
        rw [if_neg (by rw [← lP2]; exact jnb_end), List.append_assoc]
        rfl
      rw [j1, List.foldl_nil, ← lP, jnO_at, addN_at]
      by_cases hA : tt2 x t
      · rw [if_pos hA, if_pos hA, if_pos (jnb_at.mpr hA), xk hA.1, ← hA.2.2]
        refine ⟨rfl, ?_⟩
        rw [List.length_append, List.length_cons, List.length_nil]
        omega
      · rw [if_neg hA, if_neg hA, if_neg (fun g => hA (jnb_at.mp g))]
        refine ⟨rfl, ?_⟩
        rw [List.length_append, List.length_cons, List.length_cons, List.length_nil]
        omega
    | cons y rest =>
      rw [hD] at eI eI2 hnj
      rw [fold_C hnj]
      have j1 : jnO (insL ns a [t]) a = if tt2 t y then P ++ x :: (3, t.2.1, [], t.2.2.2 ++ y.2.2.2) :: rest else P ++ x :: t :: y :: rest := by
        rw [eI2]
        have k := jnO_at (pre := P ++ [x]) (x := t) (v := y) (tl := rest)
        rw [lP2] at k
        rw [k]
        by_cases hB : tt2 t y
        · rw [if_pos hB, if_pos hB, List.append_assoc]
          rfl
        · rw [if_neg hB, if_neg hB, List.append_assoc]
          rfl
      rw [j1, addN_at]
      by_cases hA : tt2 x t
      · rw [if_pos hA, addN_at]
        by_cases hB : tt2 t y
        · have hA2 : tt2 x (3, t.2.1, [], t.2.2.2 ++ y.2.2.2) := ⟨hA.1, rfl, hA.2.2⟩
          have hB2 : tt2 (3, t.2.1, x.2.2.1, x.2.2.2 ++ t.2.2.2) y := ⟨rfl, hB.2.1, hB.2.2⟩
          rw [if_pos hB, if_pos hB2, ← lP, jnO_at, if_pos hA2, if_pos (jnb_at.mpr hA2), xk hA.1, hA.2.2, hB.2.2]
          refine ⟨?_, ?_⟩
          · dsimp only
            rw [List.append_assoc, List.append_assoc]
            rfl
          · rw [List.length_append, List.length_cons, List.length_nil]
            omega
        · have hB2 : ¬ tt2 (3, t.2.1, x.2.2.1, x.2.2.2 ++ t.2.2.2) y := fun g => hB ⟨h3, g.2.1, g.2.2⟩
          rw [if_neg hB, if_neg hB2, ← lP, jnO_at, if_pos hA, if_pos (jnb_at.mpr hA), xk hA.1, hA.2.2]
          refine ⟨?_, ?_⟩
          · rw [List.append_assoc]
            rfl
          · rw [List.length_append, List.length_cons, List.length_nil]
            omega
      · rw [if_neg hA]
        have e9 : P ++ [x, t] = (P ++ [x]) ++ [t] := by
          rw [List.append_assoc]
          rfl
        rw [e9, addN_at]
        by_cases hB : tt2 t y
        · have hA2 : ¬ tt2 x (3, t.2.1, [], t.2.2.2 ++ y.2.2.2) := fun g => hA ⟨g.1, h3, g.2.2⟩
          rw [if_pos hB, if_pos hB, ← lP, jnO_at, if_neg hA2, if_neg (fun g => hA2 (jnb_at.mp g)), tnm, hB.2.2]
          refine ⟨?_, ?_⟩
          · rw [List.append_assoc, List.append_assoc]
            rfl
          · rw [List.length_append, List.length_append, List.length_cons, List.length_cons, List.length_nil]
            omega
        · rw [if_neg hB, if_neg hB, ← lP, jnO_at, if_neg hA, if_neg (fun g => hA (jnb_at.mp g))]
          refine ⟨?_, ?_⟩
          · rw [List.append_assoc, List.append_assoc]
            rfl
          · rw [List.length_append, List.length_append, List.length_cons, List.length_cons, List.length_nil]
            omega
  · have g := ins_ne hw hp hm h3
    have nm : ¬ mgb (ns.take a) (nd m 0) := fun k => h3 k.1
    have f1 : m.foldl addN (ns.take a) = ns.take a ++ m := fold_A m _ (fun _ => nm) hm.2.1.nj
    have f2 : (ns.drop a).foldl addN (ns.take a ++ m) = ns.take a ++ m ++ ns.drop a := fold_A _ _ (fun hne k => by
      have hal : a < ns.length := by
        have := List.length_pos_iff.mpr hne
        rw [List.length_drop] at this
        omega
      have c := g.2.2 (a + m.length - 1) (by omega)
      obtain ⟨k1, k2, k3, k4⟩ := k
      rw [ndDrop, Nat.add_zero] at k1 k4
      have l2 : (ns.take a ++ m).length - 1 = a + m.length - 1 := by rw [List.length_append, lt]
      have e5 : nd (ns.take a ++ m) ((ns.take a ++ m).length - 1) = nd (insL ns a m) (a + m.length - 1) := by
        rw [l2, ndApp, lt, if_neg (by omega), nd_ins p2, if_neg (by omega), if_pos (by omega)]
      have e6 : nd (insL ns a m) (a + m.length - 1 + 1) = nd ns a := by
        rw [nd_ins p2, if_neg (by omega), if_neg (by omega), show a + m.length - 1 + 1 - m.length = a by omega]
      rw [e5] at k3 k4
      rw [e6] at c
      exact c.2.2.2 ⟨k3, k1, k4⟩) hnj
    rw [f1, f2]
    unfold inO
    rw [g.1]
    refine ⟨?_, ?_⟩
    · unfold jnO
      rw [if_neg g.2.1]
      rfl
    · rw [if_neg g.2.1]
      unfold addN
      rw [if_neg nm, List.length_append, lt, List.length_cons, List.length_nil]
      omega
end INS
