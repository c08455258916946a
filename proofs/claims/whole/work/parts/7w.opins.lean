/-! THE CALL insert -/
abbrev okP (ns : List Nd) (p : Nat) (w : Int32) : Prop := ((w = 0 ∨ w = 1) ∧ (nd ns p).1 = 1) ∨ ((w = 2 ∨ w = 3) ∧ (nd ns p).1 ≠ 2 ∧ 1 < (nd ns p).2.1)
theorem w_out {w : Int32} (h : ¬ (w = 0 ∨ w = 1 ∨ w = 2 ∨ w = 3)) : w < 0 ∨ 3 < w := by
  by_cases h1 : w < 0
  · exact Or.inl h1
  · by_cases h2 : 3 < w
    · exact Or.inr h2
    · exfalso
      rw [Int32.lt_iff_toInt_lt] at h1 h2
      have e0 : (0 : Int32).toInt = 0 := rfl
      have e3 : (3 : Int32).toInt = 3 := rfl
      rw [e0] at h1
      rw [e3] at h2
      apply h
      have k : w.toInt = 0 ∨ w.toInt = 1 ∨ w.toInt = 2 ∨ w.toInt = 3 := by omega
      rcases k with k | k | k | k
      · exact Or.inl (Int32.toInt_inj.mp (by rw [k]; rfl))
      · exact Or.inr (Or.inl (Int32.toInt_inj.mp (by rw [k]; rfl)))
      · exact Or.inr (Or.inr (Or.inl (Int32.toInt_inj.mp (by rw [k]; rfl))))
      · exact Or.inr (Or.inr (Or.inr (Int32.toInt_inj.mp (by rw [k]; rfl))))
section FPL
variable {F p : Nat} {w : Int32} {σ : St} {ns : List Nd}
theorem f25_e (h : cTr σ ns) (hs : szOk ns) (hp : p < ns.length) : f25 F (Int32.ofNat p) w σ = oI (b2i (decide (okP ns p w))) σ := by
  have hn := hs.1.1
  have b := hs.1.2 p hp
  have i2 : inB (Int32.ofNat p) 30 := oN_rg (by omega) (by decide)
  have q1 := oN_n (show p < 2147483648 by omega)
  have r1 : f25_22 F (Int32.ofNat p) σ = oI (b2i (decide ((nd ns p).1 = 1))) σ := by
    unfold f25_22
    rw [if_pos i2, ltE]
    simp only [q1]
    rw [(h.1.2 p hp).1]
    by_cases c : (nd ns p).1 = 1
    · rw [c, if_pos (by rfl)]
      rfl
    · rw [if_neg (fun g => c ((oE1 (by omega)).mp g)), decide_eq_false c]
      rfl
  have r2 : f25_51 F (Int32.ofNat p) σ = oI (b2i (decide ((nd ns p).1 ≠ 2 ∧ 1 < (nd ns p).2.1))) σ := by
    unfold f25_51
    rw [if_pos i2, ltE]
    simp only [q1]
    rw [(h.1.2 p hp).1]
    by_cases c : (nd ns p).1 = 2
    · rw [c, if_pos (by rfl), decide_eq_false (fun g => g.1 rfl)]
      rfl
    · rw [if_neg (fun g => c ((oE2 (by omega)).mp g)), if_pos i2, ltE, (h.1.2 p hp).2.1]
      by_cases c2 : 1 < (nd ns p).2.1
      · rw [if_pos (show (1 : Int32) < Int32.ofNat (nd ns p).2.1 from (oN_lt (p := 1) (by decide) (by omega)).mpr c2), decide_eq_true ⟨c, c2⟩]
        rfl
      · rw [if_neg (show ¬ (1 : Int32) < Int32.ofNat (nd ns p).2.1 from fun g => c2 ((oN_lt (p := 1) (by decide) (by omega)).mp g)), decide_eq_false (fun g => c2 g.2)]
        rfl
  unfold f25
  rw [f128_y h hn hp, cIo, if_neg (show ¬ (1 : Int32) = 0 by decide), r1, r2]
  by_cases w0 : w = 0
  · rw [if_pos w0, w0]
    congr 2
    simp [okP]
  · rw [if_neg w0]
    by_cases w1 : w = 1
    · rw [if_pos w1, w1]
      congr 2
      simp [okP]
    · rw [if_neg w1]
      by_cases w2 : w = 2
      · rw [if_pos w2, w2]
        congr 2
        simp [okP]
      · rw [if_neg w2]
        by_cases w3 : w = 3
        · rw [if_pos w3, w3]
          congr 2
          simp [okP]
        · rw [if_neg w3, decide_eq_false (show ¬ okP ns p w by rintro (⟨g | g, _⟩ | ⟨g | g, _⟩); exact w0 g; exact w1 g; exact w2 g; exact w3 g)]
          rfl
theorem f181_e (h : mTr σ ns) (hw : wf ns) (hl : lvOk ns) (hp : p < ns.length) : (okP ns p w → f181 F (Int32.ofNat p) w σ = f181_94 F (Int32.ofNat p) w 1 σ) ∧ (¬ okP ns p w → f181 F (Int32.ofNat p) w σ = oI 0 (uI σ 1315 0 1)) := by
  have hn := hl.1
  have b := hl.2 p hp
  have i1 : inB (Int32.ofNat p) 31 := oN_rg (by omega) (by decide)
  have q1 := oN_n (show p < 2147483648 by omega)
  have no : ∀ y, f181_94 F (Int32.ofNat p) y 0 σ = oI 0 (uI σ 1315 0 1) := fun y => by
    unfold f181_94 f172
    rw [if_pos (by rfl), ltE, cIo]
  have bad : (w < 0 ∨ 3 < w) → f181 F (Int32.ofNat p) w σ = oI 0 (uI σ 1315 0 1) := fun hh => by
    unfold f181
    rw [f182_y h hn hp, cIo, if_neg (show ¬ (1 : Int32) = 0 by decide)]
    unfold f181_21 f181_22 f181_51
    rw [no, if_pos (show (0 : Int32) = 0 from rfl), if_pos (show (0 : Int32) = 0 from rfl)]
    by_cases c : w < 0
    · rw [if_pos c]
    · rw [if_neg c, if_pos (hh.elim (fun g => absurd g c) id)]
  have lo : (w = 0 ∨ w = 1) → f181 F (Int32.ofNat p) w σ = if (nd ns p).1 = 1 then f181_94 F (Int32.ofNat p) w 1 σ else oI 0 (uI σ 1315 0 1) := fun hh => by
    have c0 : ¬ w < 0 := by rcases hh with g | g <;> rw [g] <;> decide
    have c3 : ¬ 3 < w := by rcases hh with g | g <;> rw [g] <;> decide
    have c2 : w < 2 := by rcases hh with g | g <;> rw [g] <;> decide
    unfold f181
    rw [f182_y h hn hp, cIo, if_neg (show ¬ (1 : Int32) = 0 by decide), if_neg c0, if_neg c3]
    unfold f181_22 f181_47
    rw [if_neg (show ¬ (1 : Int32) = 0 by decide), if_pos c2, if_pos i1, ltE]
    simp only [q1]
    rw [(h.2 p hp).1.1]
    by_cases c : (nd ns p).1 = 1
    · rw [c, if_pos (by rfl), if_pos (by rfl)]
    · rw [if_neg c, if_neg (fun g => c ((oE1 (by omega)).mp g)), no]
  have hi : (w = 2 ∨ w = 3) → f181 F (Int32.ofNat p) w σ = if (nd ns p).1 ≠ 2 ∧ 1 < (nd ns p).2.1 then f181_94 F (Int32.ofNat p) w 1 σ else oI 0 (uI σ 1315 0 1) := fun hh => by
    have c0 : ¬ w < 0 := by rcases hh with g | g <;> rw [g] <;> decide
    have c3 : ¬ 3 < w := by rcases hh with g | g <;> rw [g] <;> decide
    have c2 : ¬ w < 2 := by rcases hh with g | g <;> rw [g] <;> decide
    unfold f181
    rw [f182_y h hn hp, cIo, if_neg (show ¬ (1 : Int32) = 0 by decide), if_neg c0, if_neg c3]
    unfold f181_22 f181_51 f181_92 f181_93
    rw [if_neg (show ¬ (1 : Int32) = 0 by decide), if_neg c2, if_neg (show ¬ (1 : Int32) = 0 by decide), if_pos i1, ltE]
    simp only [q1]
    rw [(h.2 p hp).1.1, no]
    by_cases z0 : p = 0
    · rw [z0, hw.2.1, if_pos (by rfl), if_neg (fun g => absurd g.2 (by decide))]
    · have h0 : 0 < p := by omega
      have kp := nd_pos hw h0 hp
      rw [if_neg (fun g => by have := (oE0 (by omega)).mp g; omega), if_pos i1, ltE]
      by_cases k2 : (nd ns p).1 = 2
      · rw [k2, if_pos (by rfl), if_neg (fun g => g.1 rfl)]
      · obtain ⟨q, r1, r2, r3, r4⟩ := par_pos2 hw h0 hp
        have rb := (hl.2 q (by omega)).2
        unfold f183
        rw [if_neg (fun g => k2 ((oE2 (by omega)).mp g)), if_pos i1, ltE]
        simp only [q1]
        rw [(h.2 p hp).2.2, r2, cIo, if_pos (oN_rg (by omega) (by decide)), ltE, oN_n (by omega), (h.2 q (by omega)).1.1]
        by_cases lv : 1 < (nd ns p).2.1
        · have q0 : 0 < q := by
            by_cases z : q = 0
            · rw [z, hw.2.1] at r4
              dsimp only at r4
              omega
            · omega
          have kq := (nd_pos hw q0 (by omega)).1
          rw [if_pos (show (nd ns p).1 ≠ 2 ∧ 1 < (nd ns p).2.1 from ⟨k2, lv⟩), show (nd ns q).1 = 1 by omega, if_pos (show Int32.ofNat 1 = 1 from rfl)]
        · have q0 : (nd ns q).1 = 0 := by
            by_cases z : q = 0
            · rw [z, hw.2.1]
            · have := (nd_pos hw (show 0 < q by omega) (by omega)).2
              omega
          rw [if_neg (show ¬ ((nd ns p).1 ≠ 2 ∧ 1 < (nd ns p).2.1) from fun g => lv g.2), q0, if_neg (show ¬ Int32.ofNat 0 = 1 by decide), no]
  by_cases hlow : w = 0 ∨ w = 1
  · rw [lo hlow]
    refine ⟨fun g => ?_, fun g => ?_⟩
    · rcases g with g | g
      · rw [if_pos g.2]
      · exfalso
        rcases hlow with a | a <;> rcases g.1 with c | c <;> rw [a] at c <;> exact absurd c (by decide)
    · rw [if_neg (fun k => g (Or.inl ⟨hlow, k⟩))]
  · by_cases hhi : w = 2 ∨ w = 3
    · rw [hi hhi]
      refine ⟨fun g => ?_, fun g => ?_⟩
      · rcases g with g | g
        · exact absurd g.1 hlow
        · rw [if_pos g.2]
      · rw [if_neg (fun k => g (Or.inr ⟨hhi, k⟩))]
    · have ho := w_out (w := w) (fun g => by
        rcases g with g | g | g | g
        · exact hlow (Or.inl g)
        · exact hlow (Or.inr g)
        · exact hhi (Or.inl g)
        · exact hhi (Or.inr g))
      exact ⟨fun g => by rcases g with g | g; exact absurd g.1 hlow; exact absurd g.1 hhi, fun _ => bad ho⟩
/-- behind the attributes, the reference -/
theorem f181_182_e {y4 : Int32} (h : mTr σ ns) (hl : lvOk ns) : ∀ (m k q : Nat), q ≤ ns.length → skn isAt ns q = q + m → f181_182 F (k + m + 1) y4 (Int32.ofNat q) σ = f181_208 F y4 (Int32.ofNat (q + m)) σ := by
  have hl1 := hl.1
  intro m
  induction m with
  | zero =>
    intro k q hq hs
    rw [f181_182.eq_2, ltE, h.1]
    by_cases hql : q < ns.length
    · have hf : isAt (nd ns q) = false := by
        rcases skn_cases (f := isAt) (ns := ns) (p := q) with ⟨_, _, g⟩ | ⟨g, _⟩
        · have := skn_ge (f := isAt) (ns := ns) (p := q + 1)
          omega
        · exact g hql
      unfold isAt at hf
      rw [decide_eq_false_iff_not] at hf
      have b1 := (hl.2 q hql).2
      rw [if_pos ((oN_lt (by omega) (by omega)).mpr hql), if_pos (oN_rg (by omega) (by decide)), ltE, oN_n (by omega), (h.2 q hql).1.1, if_neg (fun g => hf ((oE2 (by omega)).mp g))]
      rfl
    · rw [if_neg (fun g => hql ((oN_lt (by omega) (by omega)).mp g))]
      rfl
  | succ m ih =>
    intro k q hq hs
    rcases skn_cases (f := isAt) (ns := ns) (p := q) with ⟨hql, hf, g⟩ | ⟨_, g⟩
    · unfold isAt at hf
      rw [decide_eq_true_eq] at hf
      have i1 := ih k (q + 1) (by omega) (by omega)
      rw [show k + (m + 1) + 1 = (k + m + 1) + 1 by omega, f181_182.eq_2, ltE, h.1, if_pos ((oN_lt (by omega) (by omega)).mpr hql), if_pos (oN_rg (by omega) (by decide)), ltE, oN_n (by omega), (h.2 q hql).1.1, hf, if_pos (by rfl), oN_p1, i1, show q + 1 + m = q + (m + 1) by omega]
    · omega
end FPL
