/-! ONE CHARACTER OF A TEXT: what both sides read at p -/
section PLUS
variable {p : Nat}
theorem oN_p4 : Int32.ofNat p + 4 = Int32.ofNat (p + 4) := by
  rw [Int32.ofNat_add]
  rfl
theorem oN_p5 : Int32.ofNat p + 5 = Int32.ofNat (p + 5) := by
  rw [Int32.ofNat_add]
  rfl
theorem oN_p6 : Int32.ofNat p + 6 = Int32.ofNat (p + 6) := by
  rw [Int32.ofNat_add]
  rfl
end PLUS
abbrev enA (b : List Int32) (p : Nat) : Prop := b.getD (p + 1) 0 = 108 ∧ b.getD (p + 2) 0 = 116 ∧ b.getD (p + 3) 0 = 59
abbrev enB (b : List Int32) (p : Nat) : Prop := b.getD (p + 1) 0 = 103 ∧ b.getD (p + 2) 0 = 116 ∧ b.getD (p + 3) 0 = 59
abbrev enC (b : List Int32) (p : Nat) : Prop := b.getD (p + 1) 0 = 97 ∧ b.getD (p + 2) 0 = 109 ∧ b.getD (p + 3) 0 = 112 ∧ b.getD (p + 4) 0 = 59
abbrev enD (b : List Int32) (p : Nat) : Prop := b.getD (p + 1) 0 = 113 ∧ b.getD (p + 2) 0 = 117 ∧ b.getD (p + 3) 0 = 111 ∧ b.getD (p + 4) 0 = 116 ∧ b.getD (p + 5) 0 = 59
abbrev enE (b : List Int32) (p : Nat) : Prop := b.getD (p + 1) 0 = 97 ∧ b.getD (p + 2) 0 = 112 ∧ b.getD (p + 3) 0 = 111 ∧ b.getD (p + 4) 0 = 115 ∧ b.getD (p + 5) 0 = 59
def ent (b : List Int32) (p : Nat) : Int32 := if enA b p then 60 else if enB b p then 62 else if enC b p then 38 else if enD b p then 34 else if enE b p then 39 else 0
def entL (e : Int32) : Nat := if e = 60 then 4 else if e = 62 then 4 else if e = 38 then 5 else 6
def rdCh (b : List Int32) (p : Nat) : Option (Int32 × Nat) := if b.getD p 0 = 60 ∨ b.getD p 0 = 0 then none else if b.getD p 0 = 38 then (if ent b p = 0 then none else some (ent b p, p + entL (ent b p))) else some (b.getD p 0, p + 1)
section ENT
variable {F p : Nat} {b : List Int32} {σ : St}
theorem spl_23 (h : b.getD p 0 = 38) : spl b p 23 0 (slen 23) = decide (enA b p) := by
  rw [show slen 23 = 4 by decide +kernel]
  simp only [spl, show schr 23 0 = 38 by decide +kernel, show schr 23 1 = 108 by decide +kernel, show schr 23 2 = 116 by decide +kernel, show schr 23 3 = 59 by decide +kernel, Nat.zero_add, Nat.add_zero, h, enA, Bool.decide_and, decide_true, Bool.true_and, Bool.and_true]
theorem spl_24 (h : b.getD p 0 = 38) : spl b p 24 0 (slen 24) = decide (enB b p) := by
  rw [show slen 24 = 4 by decide +kernel]
  simp only [spl, show schr 24 0 = 38 by decide +kernel, show schr 24 1 = 103 by decide +kernel, show schr 24 2 = 116 by decide +kernel, show schr 24 3 = 59 by decide +kernel, Nat.zero_add, Nat.add_zero, h, enB, Bool.decide_and, decide_true, Bool.true_and, Bool.and_true]
theorem spl_25 (h : b.getD p 0 = 38) : spl b p 25 0 (slen 25) = decide (enC b p) := by
  rw [show slen 25 = 5 by decide +kernel]
  simp only [spl, show schr 25 0 = 38 by decide +kernel, show schr 25 1 = 97 by decide +kernel, show schr 25 2 = 109 by decide +kernel, show schr 25 3 = 112 by decide +kernel, show schr 25 4 = 59 by decide +kernel, Nat.zero_add, Nat.add_zero, h, enC, Bool.decide_and, decide_true, Bool.true_and, Bool.and_true]
theorem spl_26 (h : b.getD p 0 = 38) : spl b p 26 0 (slen 26) = decide (enD b p) := by
  rw [show slen 26 = 6 by decide +kernel]
  simp only [spl, show schr 26 0 = 38 by decide +kernel, show schr 26 1 = 113 by decide +kernel, show schr 26 2 = 117 by decide +kernel, show schr 26 3 = 111 by decide +kernel, show schr 26 4 = 116 by decide +kernel, show schr 26 5 = 59 by decide +kernel, Nat.zero_add, Nat.add_zero, h, enD, Bool.decide_and, decide_true, Bool.true_and, Bool.and_true]
theorem spl_27 (h : b.getD p 0 = 38) : spl b p 27 0 (slen 27) = decide (enE b p) := by
  rw [show slen 27 = 6 by decide +kernel]
  simp only [spl, show schr 27 0 = 38 by decide +kernel, show schr 27 1 = 97 by decide +kernel, show schr 27 2 = 112 by decide +kernel, show schr 27 3 = 111 by decide +kernel, show schr 27 4 = 115 by decide +kernel, show schr 27 5 = 59 by decide +kernel, Nat.zero_add, Nat.add_zero, h, enE, Bool.decide_and, decide_true, Bool.true_and, Bool.and_true]
theorem f117_e (hF : 500 ≤ F) (hb : b.length ≤ 120) (hB : bufC σ b) (ha : σ.1 1029 2 = Int32.ofNat p) (hp : p ≤ 1000) : f117 F σ = match rdCh b p with
    | none => oT 10 σ
    | some q => oI q.1 (uI σ 1029 2 (Int32.ofNat q.2)) := by
  unfold f117
  simp only [lt]
  rw [ha, f92_e hB hb (by omega), cIo]
  unfold rdCh
  by_cases h1 : b.getD p 0 = 60
  · rw [if_pos h1, if_pos (Or.inl h1)]
  · rw [if_neg h1]
    by_cases h2 : b.getD p 0 = 0
    · rw [if_pos h2, if_pos (Or.inr h2)]
    · rw [if_neg h2, if_neg (show ¬ (b.getD p 0 = 60 ∨ b.getD p 0 = 0) from fun hh => hh.elim h1 h2)]
      by_cases h3 : b.getD p 0 = 38
      · rw [if_pos h3, if_pos h3, ha]
        have g3 := f94_e (w := 23) hF hb hB (by decide) hp (by decide +kernel)
        have g4 := f94_e (w := 24) hF hb hB (by decide) hp (by decide +kernel)
        have g5 := f94_e (w := 25) hF hb hB (by decide) hp (by decide +kernel)
        have g6 := f94_e (w := 26) hF hb hB (by decide) hp (by decide +kernel)
        have g7 := f94_e (w := 27) hF hb hB (by decide) hp (by decide +kernel)
        rw [spl_23 h3] at g3
        rw [spl_24 h3] at g4
        rw [spl_25 h3] at g5
        rw [spl_26 h3] at g6
        rw [spl_27 h3] at g7
        rw [g3, cIo]
        unfold ent
        by_cases a3 : enA b p
        · rw [decide_eq_true a3, if_neg (by decide), if_pos a3, if_neg (by decide), ha, oN_p4]
          rfl
        · rw [decide_eq_false a3, if_pos b2i_f, if_neg a3, ha, g4, cIo]
          by_cases a4 : enB b p
          · rw [decide_eq_true a4, if_neg (by decide), if_pos a4, if_neg (by decide), ha, oN_p4]
            rfl
          · rw [decide_eq_false a4, if_pos b2i_f, if_neg a4, ha, g5, cIo]
            by_cases a5 : enC b p
            · rw [decide_eq_true a5, if_neg (by decide), if_pos a5, if_neg (by decide), ha, oN_p5]
              rfl
            · rw [decide_eq_false a5, if_pos b2i_f, if_neg a5, ha, g6, cIo]
              by_cases a6 : enD b p
              · rw [decide_eq_true a6, if_neg (by decide), if_pos a6, if_neg (by decide), ha, oN_p6]
                rfl
              · rw [decide_eq_false a6, if_pos b2i_f, if_neg a6, ha, g7, cIo]
                by_cases a7 : enE b p
                · rw [decide_eq_true a7, if_neg (by decide), if_pos a7, if_neg (by decide), ha, oN_p6]
                  rfl
                · rw [decide_eq_false a7, if_pos b2i_f, if_neg a7, if_pos rfl]
      · rw [if_neg h3, if_neg h3, ha, oN_p1]
/-- the reference's -/
theorem f168_e (hb : b.length ≤ 120) (hB : bufM σ b) (hp : p ≤ 1000) : f168 F (Int32.ofNat p) σ = oI (ent b p) σ := by
  unfold f168 f168_47 f168_69 f168_107 f168_124 f168_160
  rw [oN_p1, oN_p2, oN_p3, oN_p4, oN_p5]
  rw [f152_e (k := p + 1) hB hb (by omega), cIo, f152_e (k := p + 2) hB hb (by omega), cIo, f152_e (k := p + 3) hB hb (by omega), cIo]
  simp only [f152_e (k := p + 4) (F := F) hB hb (by omega), f152_e (k := p + 5) (F := F) hB hb (by omega), cIo]
  unfold ent enA enB enC enD enE
  generalize b.getD (p + 1) 0 = c1
  generalize b.getD (p + 2) 0 = c2
  generalize b.getD (p + 3) 0 = c3
  generalize b.getD (p + 4) 0 = c4
  generalize b.getD (p + 5) 0 = c5
  by_cases a1 : c1 = 108
  · subst a1
    by_cases a2 : c2 = 116 <;> by_cases a3 : c3 = 59 <;> simp [a2, a3]
  · by_cases a4 : c1 = 103
    · subst a4
      by_cases a2 : c2 = 116 <;> by_cases a3 : c3 = 59 <;> simp [a2, a3]
    · by_cases a5 : c1 = 97
      · subst a5
        by_cases a6 : c2 = 109
        · subst a6
          by_cases a7 : c3 = 112 <;> by_cases a8 : c4 = 59 <;> simp [a7, a8]
        · by_cases a9 : c2 = 112
          · subst a9
            by_cases b1 : c3 = 111 <;> by_cases b2 : c4 = 115 <;> by_cases b3 : c5 = 59 <;> simp [b1, b2, b3]
          · simp [a6, a9]
      · by_cases a6 : c1 = 113
        · subst a6
          by_cases b0 : c2 = 117 <;> by_cases b1 : c3 = 111 <;> by_cases b2 : c4 = 116 <;> by_cases b3 : c5 = 59 <;> simp [b0, b1, b2, b3]
        · simp [a1, a4, a5, a6]
end ENT
