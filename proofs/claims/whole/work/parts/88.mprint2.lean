/-! THE REFERENCE PRINTS: heads, comments, ends -/
section EM2
variable {F : Nat} {ns : List Nd}
theorem f204_15_e {e : Nat} {σ : St} (ht : mTr σ ns) (hl : lvOk ns) (he : e < ns.length) : ∀ (m k q : Nat) (g : Bool), q + m = e + 1 → ∃ g2 : Bool, f204_15 F (k + m + 1) (Int32.ofNat e) (b2i g) (Int32.ofNat q) σ = oI (b2i g2) σ ∧ (g2 = true ↔ g = true ∨ ∃ j, q ≤ j ∧ j ≤ e ∧ ¬ (nd ns j).1 = 2) := by
  have hn := hl.1
  intro m
  induction m with
  | zero =>
    intro k q g hq
    refine ⟨g, ?_, fun h => Or.inl h, fun h => h.elim id (fun ⟨j, h1, h2, _⟩ => by omega)⟩
    rw [f204_15.eq_2, if_pos ((oN_lt (by omega) (by omega)).mpr (by omega)), if_pos (b2i_z g)]
  | succ m ih =>
    intro k q g hq
    have hql : q < ns.length := by omega
    have bq := (hl.2 q hql).2
    have st : f204_15 F (k + (m + 1) + 1) (Int32.ofNat e) (b2i g) (Int32.ofNat q) σ = f204_15 F (k + m + 1) (Int32.ofNat e) (b2i (g || !decide ((nd ns q).1 = 2))) (Int32.ofNat (q + 1)) σ := by
      rw [show k + (m + 1) + 1 = (k + m + 1) + 1 by omega, f204_15.eq_2, if_neg (fun g => by have := (oN_lt (by omega) (by omega)).mp g; omega)]
      unfold f204_36 f204_41
      rw [oN_p1]
      cases g with
      | true =>
        rw [if_neg (show ¬ b2i true = 0 by decide), Bool.true_or]
        rfl
      | false =>
        rw [if_pos b2i_f, if_pos (oN_rg (by omega) (by decide)), ltE, oN_n (by omega), (ht.2 q hql).1.1, Bool.false_or]
        by_cases c : (nd ns q).1 = 2
        · rw [if_pos (show Int32.ofNat (nd ns q).1 = 2 by rw [c]; rfl), decide_eq_true c]
          rfl
        · rw [if_neg (fun g => c ((oE2 (by omega)).mp g)), decide_eq_false c]
          rfl
    obtain ⟨g2, a1, a2⟩ := ih k (q + 1) (g || !decide ((nd ns q).1 = 2)) (by omega)
    refine ⟨g2, st.trans a1, ?_⟩
    rw [a2, Bool.or_eq_true]
    constructor
    · rintro ((h | h) | ⟨j, h1, h2, h3⟩)
      · exact Or.inl h
      · refine Or.inr ⟨q, Nat.le_refl _, by omega, fun g => ?_⟩
        rw [decide_eq_true g] at h
        exact absurd h (by decide)
      · exact Or.inr ⟨j, by omega, h2, h3⟩
    · rintro (h | ⟨j, h1, h2, h3⟩)
      · exact Or.inl (Or.inl h)
      · by_cases c : j = q
        · refine Or.inl (Or.inr ?_)
          rw [← c, decide_eq_false h3]
          rfl
        · exact Or.inr ⟨j, by omega, h2, h3⟩
theorem f204_e {p : Nat} {σ : St} (hF : 500 ≤ F) (ht : mTr σ ns) (hl : lvOk ns) (hp : p < ns.length) : f204 F (Int32.ofNat p) σ = oI (b2i (decide (hCh ns p))) σ := by
  have hn := hl.1
  have hz := siz_le hp
  have g1 := skn_ge (f := isAt) (ns := ns) (p := p + 1)
  have g2 := skn_le (f := isAt) (ns := ns) (p := p + 1) (by omega)
  have ka := skn_all (f := isAt) (ns := ns) (skn isAt ns (p + 1) - (p + 1)) (p + 1) (by omega)
  rw [show p + 1 + (skn isAt ns (p + 1) - (p + 1)) = skn isAt ns (p + 1) by omega] at ka
  obtain ⟨k, hk⟩ : ∃ k, F = k + siz ns p + 1 := ⟨F - siz ns p - 1, by omega⟩
  have a0 := f204_15_e (F := F) (e := p + siz ns p) ht hl (by omega) (siz ns p) k (p + 1) false (by omega)
  rw [← hk] at a0
  obtain ⟨gg, a1, a2⟩ := a0
  have a1' : f204_15 F F (Int32.ofNat (p + siz ns p)) 0 (Int32.ofNat (p + 1)) σ = oI (b2i gg) σ := a1
  unfold f204 f185
  rw [if_pos (oN_rg (by omega) (by decide)), ltE, oN_n (by omega), (ht.2 p hp).2.1, cIo, ltE, oN_ad, oN_p1, a1']
  have e : gg = decide (hCh ns p) := by
    by_cases c : hCh ns p
    · have c2 : skn isAt ns (p + 1) ≤ p + siz ns p := c
      rw [decide_eq_true c]
      refine a2.mpr (Or.inr ⟨skn isAt ns (p + 1), by omega, c2, fun g => ?_⟩)
      have k3 := ka.2 (by omega)
      unfold isAt at k3
      rw [decide_eq_false_iff_not] at k3
      exact k3 g
    · have c2 : ¬ skn isAt ns (p + 1) ≤ p + siz ns p := c
      rw [decide_eq_false c, ← Bool.not_eq_true]
      intro hg
      rcases a2.mp hg with h | ⟨j, h1, h2, h3⟩
      · exact absurd h (by decide)
      · have k3 := (ka.1 j h1 (by omega)).2
        unfold isAt at k3
        rw [decide_eq_true_eq] at k3
        exact h3 k3
  rw [e]
theorem f201_15_e {p : Nat} (hF : 5000 ≤ F) (hs : szOk ns) (hw : wf ns) (hol : ∀ i, i < ns.length → (nd ns i).2.2.2.length ≤ 4300) (hp : p < ns.length) (hk : (nd ns p).1 = 1) : ∀ (m k i : Nat), p < i → i + m = skn isAt ns (p + 1) → emM ns (fun σ => f201_15 F (k + m + 1) (Int32.ofNat p) (Int32.ofNat i) σ) (atL ns m i ++ (if hCh ns p then [62] else [47, 62])) := by
  have hn := hs.1.1
  have g1 := skn_ge (f := isAt) (ns := ns) (p := p + 1)
  have g2 := skn_le (f := isAt) (ns := ns) (p := p + 1) (by omega)
  have ka := skn_all (f := isAt) (ns := ns) (skn isAt ns (p + 1) - (p + 1)) (p + 1) (by omega)
  rw [show p + 1 + (skn isAt ns (p + 1) - (p + 1)) = skn isAt ns (p + 1) by omega] at ka
  intro m
  induction m with
  | zero =>
    intro k i h1 h2
    have fin : emM ns (fun σ => f201_73 F (Int32.ofNat p) σ) (if hCh ns p then [62] else [47, 62]) := by
      have e62 : emM ns (fun σ => cV (f199 F 62 σ) fun σ7 => oV σ7) [62] := by
        have z := (f199_e (F := F) (ns := ns) (c := 62)).seq emM.nil
        rw [List.append_nil] at z
        exact z
      by_cases c : hCh ns p
      · rw [if_pos c]
        exact e62.cg (fun σ ht => by unfold f201_73; rw [f204_e (by omega) ht hs.1 hp, cIo, decide_eq_true c, if_neg (show ¬ b2i true = 0 by decide)])
      · rw [if_neg c]
        exact ((f199_e (F := F) (c := 47)).seq e62).cg (fun σ ht => by unfold f201_73; rw [f204_e (by omega) ht hs.1 hp, cIo, decide_eq_false c, if_pos b2i_f])
    unfold atL
    rw [List.nil_append]
    refine fin.cg (fun σ ht => ?_)
    rw [Nat.add_zero, f201_15.eq_2, ltE, ht.1]
    by_cases c : i < ns.length
    · have k3 := ka.2 (by omega)
      rw [← h2, Nat.add_zero] at k3
      unfold isAt at k3
      rw [decide_eq_false_iff_not] at k3
      have bi := (hs.1.2 i c).2
      rw [if_pos ((oN_lt (by omega) (by omega)).mpr c), if_pos (oN_rg (by omega) (by decide)), ltE, oN_n (by omega), (ht.2 i c).1.1, if_neg (fun g => k3 ((oE2 (by omega)).mp g))]
    · rw [if_neg (fun g => c ((oN_lt (by omega) (by omega)).mp g))]
  | succ m ih =>
    intro k i h1 h2
    have i1 := ih k (i + 1) (by omega) (by omega)
    have kr := at_run hw hp hk (i - (p + 1)) (by omega)
    rw [show p + 1 + (i - (p + 1)) = i by omega] at kr
    have ev := f202_e (F := F) (p := i) hF hs (hol i kr.2.2) kr.2.2
    rw [kr.1, show txL 2 (nd ns i).2.2.2 = escL 2 (nd ns i).2.2.2 from if_neg (by decide)] at ev
    have all := (f199_e (F := F) (c := 32)).seq ((f200_e (F := F) hF hs kr.2.2).seq ((f199_e (F := F) (c := 61)).seq ((f199_e (F := F) (c := 34)).seq (ev.seq ((f199_e (F := F) (c := 34)).seq i1)))))
    unfold atL
    have el : [32] ++ (nd ns i).2.2.1 ++ [61, 34] ++ escL 2 (nd ns i).2.2.2 ++ [34] ++ atL ns m (i + 1) ++ (if hCh ns p then [62] else [47, 62]) = [32] ++ ((nd ns i).2.2.1 ++ ([61] ++ ([34] ++ (escL 2 (nd ns i).2.2.2 ++ ([34] ++ (atL ns m (i + 1) ++ (if hCh ns p then [62] else [47, 62]))))))) := by
      simp only [List.append_assoc, List.cons_append, List.nil_append]
    rw [el]
    refine all.cg (fun σ ht => ?_)
    rw [show k + (m + 1) + 1 = (k + m + 1) + 1 by omega, f201_15.eq_2, ltE, ht.1, if_pos ((oN_lt (by omega) (by omega)).mpr kr.2.2), if_pos (oN_rg (by omega) (by decide)), ltE, oN_n (by omega), (ht.2 i kr.2.2).1.1, if_pos (show Int32.ofNat (nd ns i).1 = 2 by rw [kr.1]; rfl), oN_p1]
theorem f201_e {p : Nat} (hF : 5000 ≤ F) (hs : szOk ns) (hw : wf ns) (hol : ∀ i, i < ns.length → (nd ns i).2.2.2.length ≤ 4300) (hp : p < ns.length) (hk : (nd ns p).1 = 1) : emM ns (fun σ => f201 F (Int32.ofNat p) σ) (hdPr ns p) := by
  have hn := hs.1.1
  have g1 := skn_ge (f := isAt) (ns := ns) (p := p + 1)
  have g2 := skn_le (f := isAt) (ns := ns) (p := p + 1) (by omega)
  obtain ⟨k, hk2⟩ : ∃ k, F = k + (skn isAt ns (p + 1) - (p + 1)) + 1 := ⟨F - (skn isAt ns (p + 1) - (p + 1)) - 1, by omega⟩
  have a0 := f201_15_e (F := F) hF hs hw hol hp hk (skn isAt ns (p + 1) - (p + 1)) k (p + 1) (by omega) (by omega)
  rw [← hk2] at a0
  have all := (f199_e (F := F) (c := 60)).seq ((f200_e (F := F) hF hs hp).seq a0)
  unfold hdPr
  have el : [60] ++ (nd ns p).2.2.1 ++ atL ns (skn isAt ns (p + 1) - (p + 1)) (p + 1) ++ (if hCh ns p then [62] else [47, 62]) = [60] ++ ((nd ns p).2.2.1 ++ (atL ns (skn isAt ns (p + 1) - (p + 1)) (p + 1) ++ (if hCh ns p then [62] else [47, 62]))) := by
    simp only [List.append_assoc]
  rw [el]
  exact all.cg (fun σ ht => by unfold f201; rw [oN_p1])
theorem f205_e {p : Nat} (hF : 5000 ≤ F) (hs : szOk ns) (hol : (nd ns p).2.2.2.length ≤ 4300) (hp : p < ns.length) (hk : (nd ns p).1 = 4) : emM ns (fun σ => f205 F (Int32.ofNat p) σ) ([60, 33, 45, 45] ++ (nd ns p).2.2.2 ++ [45, 45, 62]) := by
  have ev := f202_e (F := F) (p := p) hF hs hol hp
  rw [hk, show txL 4 (nd ns p).2.2.2 = (nd ns p).2.2.2 from if_pos rfl] at ev
  have all := (f199_e (F := F) (c := 60)).seq ((f199_e (F := F) (c := 33)).seq ((f199_e (F := F) (c := 45)).seq ((f199_e (F := F) (c := 45)).seq (ev.seq ((f199_e (F := F) (c := 45)).seq ((f199_e (F := F) (c := 45)).seq ((f199_e (F := F) (c := 62)).seq emM.nil)))))))
  have el : [60, 33, 45, 45] ++ (nd ns p).2.2.2 ++ [45, 45, 62] = [60] ++ ([33] ++ ([45] ++ ([45] ++ ((nd ns p).2.2.2 ++ ([45] ++ ([45] ++ ([62] ++ []))))))) := by
    simp only [List.append_assoc, List.cons_append, List.nil_append, List.append_nil]
  rw [el]
  exact all.cg (fun σ ht => by unfold f205; rfl)
theorem f198_e {p : Nat} (hF : 5000 ≤ F) (hs : szOk ns) (hp : p < ns.length) : emM ns (fun σ => f198 F (Int32.ofNat p) σ) (endL ns p) := by
  have all := (f199_e (F := F) (c := 60)).seq ((f199_e (F := F) (c := 47)).seq ((f200_e (F := F) hF hs hp).seq ((f199_e (F := F) (c := 62)).seq emM.nil)))
  have el : endL ns p = [60] ++ ([47] ++ ((nd ns p).2.2.1 ++ ([62] ++ []))) := by
    unfold endL
    simp only [List.append_assoc, List.cons_append, List.nil_append, List.append_nil]
  rw [el]
  exact all.cg (fun σ ht => by unfold f198; rfl)
end EM2
