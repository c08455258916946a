/-! THE REFERENCE'S LONGER WORDS, and axes by name -/
theorem okW.sp {l : List Int32} (h : okW l) : okW (sp1 l) ∧ okW (sp2 l) ∧ okW (sp3 l) := ⟨fun c hc => h c (List.mem_of_mem_take hc), fun c hc => h c (List.mem_of_mem_drop (List.mem_of_mem_take hc)), fun c hc => h c (List.mem_of_mem_drop hc)⟩
theorem sp_len {l : List Int32} : (sp1 l).length ≤ 7 ∧ (sp2 l).length ≤ 7 ∧ (l.length ≤ 21 → (sp3 l).length ≤ 7) := by
  unfold sp1 sp2 sp3
  simp only [List.length_take, List.length_drop]
  omega
theorem stre_ln {b : List Int32} {p n : Nat} (h : p + n ≤ b.length) : (stre b p n).length = n := stre_len h
section RW2
variable {F p e : Nat} {b : List Int32} {σ : St}
def spT (b : List Int32) (p n : Nat) (X Y Z : Int64) : Bool := decide (n ≤ 21 ∧ Int64.ofInt (ecL (sp1 (stre b p n)) : Int) = X ∧ Int64.ofInt (ecL (sp2 (stre b p n)) : Int) = Y ∧ Int64.ofInt (ecL (sp3 (stre b p n)) : Int) = Z)
theorem f216_12_e {X Y Z : Int64} (hb : b.length ≤ 120) (ho : okB b) (hB : bufM σ b) (hp : p ≤ e) (he : e ≤ b.length) : ∀ (d kk m : Nat) (z : Int64), m + d = e - p → (m ≤ 21 → z = Int64.ofInt (ecL (sp3 (stre b p m)) : Int)) → f216_12 F (kk + d + 1) (Int32.ofNat p) (Int32.ofNat e) X Y Z (Int64.ofInt (ecL (sp1 (stre b p m)) : Int)) (Int64.ofInt (ecL (sp2 (stre b p m)) : Int)) z (Int32.ofNat (p + m)) σ = oI (b2i (spT b p (e - p) X Y Z)) σ := by
  intro d
  induction d with
  | zero =>
    intro kk m z hm hz
    have e1 : m = e - p := by omega
    subst e1
    rw [f216_12.eq_2, if_neg (fun g => by have := (oN_lt (by omega) (by omega)).mp g; omega), oN_sb hp]
    unfold spT
    by_cases c : e - p ≤ 21
    · rw [if_neg (show ¬ 21 < Int32.ofNat (e - p) from fun g => by have := (oN_lt (p := 21) (by decide) (by omega)).mp g; omega), hz c]
      by_cases c1 : Int64.ofInt (ecL (sp1 (stre b p (e - p))) : Int) = X
      · rw [if_pos ((lg_eq _ _).mpr c1)]
        by_cases c2 : Int64.ofInt (ecL (sp2 (stre b p (e - p))) : Int) = Y
        · rw [if_pos ((lg_eq _ _).mpr c2)]
          by_cases c3 : Int64.ofInt (ecL (sp3 (stre b p (e - p))) : Int) = Z
          · rw [if_pos ((lg_eq _ _).mpr c3), decide_eq_true ⟨c, c1, c2, c3⟩]
            rfl
          · rw [if_neg (fun g => c3 ((lg_eq _ _).mp g)), decide_eq_false (fun g => c3 g.2.2.2)]
            rfl
        · rw [if_neg (fun g => c2 ((lg_eq _ _).mp g)), decide_eq_false (fun g => c2 g.2.2.1)]
          rfl
      · rw [if_neg (fun g => c1 ((lg_eq _ _).mp g)), decide_eq_false (fun g => c1 g.2.1)]
        rfl
    · rw [if_pos (show 21 < Int32.ofNat (e - p) from (oN_lt (p := 21) (by decide) (by omega)).mpr (by omega)), decide_eq_false (fun g => c g.1)]
      rfl
  | succ d ih =>
    intro kk m z hm hz
    have hl : (stre b p m).length = m := stre_len (by omega)
    have sn := stre_sn (b := b) (p := p) (m := m) (by omega)
    obtain ⟨q1, q2, q3, q4, q5, q6, q7⟩ := sp_sn (l := stre b p m) (c := b.getD (p + m) 0)
    rw [hl, ← sn] at q1 q2 q3 q4 q5 q6 q7
    have ok1 := okW_1 ho (show p + m < b.length by omega)
    have rd : (if inB (Int32.ofNat (p + m)) 122 then lt (σ.1 1316 (Int32.ofNat (p + m)).toNatClampNeg) fun c3 => (some (.inl (some (.int c3)), σ) : Rs) else none) = some (.inl (some (.int (b.getD (p + m) 0))), σ) := by
      rw [if_pos (oN_rg (by omega) (by decide)), ltE, oN_n (by omega), hB.2 (p + m) (by omega)]
    have i1 : inB (Int32.ofNat (p + m)) 122 := oN_rg (by omega) (by decide)
    have i2 := oN_n (show p + m < 2147483648 by omega)
    have i3 := hB.2 (p + m) (by omega)
    have lt7 : (Int32.ofNat m < 7) ↔ m < 7 := oN_lt (q := 7) (by omega) (by decide)
    have lt14 : (Int32.ofNat m < 14) ↔ m < 14 := oN_lt (q := 14) (by omega) (by decide)
    rw [show kk + (d + 1) + 1 = (kk + d + 1) + 1 by omega, f216_12.eq_2, if_pos ((oN_lt (by omega) (by omega)).mpr (by omega)), oN_sb (by omega), show p + m - p = m by omega, ltE]
    unfold f216_51 f216_85 f216_87 f216_116
    by_cases c1 : m < 7
    · have x := ih kk (m + 1) z (by omega) (fun g => by rw [q6 (by omega)]; exact hz (by omega))
      rw [q1 c1, q3 c1, ← ec_st ok1] at x
      rw [if_pos (lt7.mpr c1), if_pos i1, ltE, if_pos (lt7.mpr c1), if_pos (lt14.mpr (by omega)), i2, i3, oN_p1]
      exact x
    · rw [if_neg (fun g => c1 (lt7.mp g)), if_neg (fun g => c1 (lt7.mp g))]
      by_cases c2 : m < 14
      · have x := ih kk (m + 1) z (by omega) (fun g => by rw [q6 (by omega)]; exact hz (by omega))
        rw [q2 c1, q4 c1 c2, ← ec_st ok1] at x
        rw [if_pos (lt14.mpr c2), if_pos i1, ltE, if_pos (lt14.mpr c2), i2, i3, oN_p1]
        exact x
      · have x := ih kk (m + 1) (z * 256 + (b.getD (p + m) 0).toInt64) (by omega) (fun g => by rw [q7 c2, ← ec_st ok1, ← hz (by omega)])
        rw [q2 c1, q5 c2] at x
        rw [if_neg (fun g => c2 (lt14.mp g)), if_neg (fun g => c2 (lt14.mp g)), if_pos i1, ltE, i2, i3, oN_p1]
        exact x
theorem f216_e {w : Nat} {X Y Z : Int64} (hF : 500 ≤ F) (hb : b.length ≤ 120) (ho : okB b) (hB : bufM σ b) (hp : p ≤ e) (he : e ≤ b.length) (hw : w ≤ 67) (hs : slen w ≤ 21) (hX : X = Int64.ofInt (ecL (sp1 (lits w)) : Int)) (hY : Y = Int64.ofInt (ecL (sp2 (lits w)) : Int)) (hZ : Z = Int64.ofInt (ecL (sp3 (lits w)) : Int)) : f216 F (Int32.ofNat p) (Int32.ofNat e) X Y Z σ = oI (b2i (decide (stre b p (e - p) = lits w))) σ := by
  have k := f216_12_e (F := F) (X := X) (Y := Y) (Z := Z) hb ho hB hp he (e - p) (F - (e - p) - 1) 0 0 (by omega) (fun _ => rfl)
  rw [show F - (e - p) - 1 + (e - p) + 1 = F by omega] at k
  have k2 : spT b p (e - p) X Y Z = decide (stre b p (e - p) = lits w) := by
    unfold spT
    refine decide_eq_decide.mpr ?_
    have o1 := okW_stre (p := p) (n := e - p) ho
    have o2 := okW_lits w hw
    have n1 := sp_len (l := stre b p (e - p))
    have n2 := sp_len (l := lits w)
    rw [lits_len] at n2
    rw [stre_len (by omega)] at n1
    rw [hX, hY, hZ, sp_eq (l := stre b p (e - p)) (m := lits w)]
    constructor
    · intro ⟨g0, g1, g2, g3⟩
      have n13 := n1.2.2 g0
      have n23 := n2.2.2 hs
      exact ⟨(ecL_inj o1.sp.1 o2.sp.1).mp ((ec64 (ecL_lt o1.sp.1 (by omega)) (ecL_lt o2.sp.1 (by omega))).mp g1), (ecL_inj o1.sp.2.1 o2.sp.2.1).mp ((ec64 (ecL_lt o1.sp.2.1 (by omega)) (ecL_lt o2.sp.2.1 (by omega))).mp g2), (ecL_inj o1.sp.2.2 o2.sp.2.2).mp ((ec64 (ecL_lt o1.sp.2.2 (by omega)) (ecL_lt o2.sp.2.2 (by omega))).mp g3)⟩
    · intro g
      have h := congrArg List.length (sp_eq.mpr g)
      rw [stre_len (by omega), lits_len] at h
      rw [g.1, g.2.1, g.2.2]
      exact ⟨by omega, rfl, rfl, rfl⟩
  rw [k2] at k
  exact k
theorem axN_l : ∀ a, a < 12 → axN (lits (xAxW.getD a 0)) = some a := by decide +kernel
def axC (o : Option Nat) : Int32 := match o with
  | none => -1
  | some a => Int32.ofNat a
theorem axk : Int64.ofInt (ecL (lits 60) : Int) = 426953501796 ∧ Int64.ofInt (ecL (lits 57) : Int) = 123563833388660 ∧ Int64.ofInt (ecL (lits 62) : Int) = 7020658156497039218 ∧ Int64.ofInt (ecL (lits 58) : Int) = 1936026726 := by decide +kernel
theorem f215_e (hF : 500 ≤ F) (hb : b.length ≤ 120) (ho : okB b) (hB : bufM σ b) (hp : p ≤ e) (he : e ≤ b.length) : f215 F (Int32.ofNat p) (Int32.ofNat e) σ = oI (axC (axN (stre b p (e - p)))) σ := by
  have z : ∀ w, w ≤ 67 → slen w ≤ 21 → ∀ X Y Z, X = Int64.ofInt (ecL (sp1 (lits w)) : Int) → Y = Int64.ofInt (ecL (sp2 (lits w)) : Int) → Z = Int64.ofInt (ecL (sp3 (lits w)) : Int) → f216 F (Int32.ofNat p) (Int32.ofNat e) X Y Z σ = oI (b2i (decide (stre b p (e - p) = lits w))) σ := fun w h1 h2 X Y Z hX hY hZ => f216_e hF hb ho hB hp he h1 h2 hX hY hZ
  have w0 := wd_eq (p := p) (e := e) (w := 60) ho (by decide) (by decide +kernel) he axk.1.symm
  have w1 := wd_eq (p := p) (e := e) (w := 57) ho (by decide) (by decide +kernel) he axk.2.1.symm
  have w2 := wd_eq (p := p) (e := e) (w := 62) ho (by decide) (by decide +kernel) he axk.2.2.1.symm
  have w3 := wd_eq (p := p) (e := e) (w := 58) ho (by decide) (by decide +kernel) he axk.2.2.2.symm
  unfold f215
  rw [f214_e hF hb ho hB hp he, cJo]
  generalize hl : stre b p (e - p) = l at *
  by_cases c0 : l = lits 60
  · rw [if_pos (w0.mpr c0), c0, show axN (lits 60) = some 0 from axN_l 0 (by decide)]
    rfl
  · rw [if_neg (fun g => c0 (w0.mp g))]
    by_cases c1 : l = lits 57
    · rw [if_pos (w1.mpr c1), c1, show axN (lits 57) = some 2 from axN_l 2 (by decide)]
      rfl
    · rw [if_neg (fun g => c1 (w1.mp g))]
      by_cases c2 : l = lits 62
      · rw [if_pos (w2.mpr c2), c2, show axN (lits 62) = some 3 from axN_l 3 (by decide)]
        rfl
      · rw [if_neg (fun g => c2 (w2.mp g))]
        by_cases c3 : l = lits 58
        · rw [if_pos (w3.mpr c3), c3, show axN (lits 58) = some 4 from axN_l 4 (by decide)]
          rfl
        · rw [if_neg (fun g => c3 (w3.mp g)), z 61 (by decide) (by decide +kernel) _ _ _ (by decide +kernel) (by decide +kernel) (by decide +kernel), cIo, ifb]
          by_cases c4 : l = lits 61
          · rw [if_pos (decide_eq_true c4), c4, show axN (lits 61) = some 1 from axN_l 1 (by decide)]
            rfl
          · rw [if_neg (by rw [decide_eq_false c4]; decide), z 59 (by decide) (by decide +kernel) _ _ _ (by decide +kernel) (by decide +kernel) (by decide +kernel), cIo, ifb]
            by_cases c5 : l = lits 59
            · rw [if_pos (decide_eq_true c5), c5, show axN (lits 59) = some 5 from axN_l 5 (by decide)]
              rfl
            · rw [if_neg (by rw [decide_eq_false c5]; decide), z 65 (by decide) (by decide +kernel) _ _ _ (by decide +kernel) (by decide +kernel) (by decide +kernel), cIo, ifb]
              by_cases c6 : l = lits 65
              · rw [if_pos (decide_eq_true c6), c6, show axN (lits 65) = some 8 from axN_l 8 (by decide)]
                rfl
              · rw [if_neg (by rw [decide_eq_false c6]; decide), z 66 (by decide) (by decide +kernel) _ _ _ (by decide +kernel) (by decide +kernel) (by decide +kernel), cIo, ifb]
                by_cases c7 : l = lits 66
                · rw [if_pos (decide_eq_true c7), c7, show axN (lits 66) = some 9 from axN_l 9 (by decide)]
                  rfl
                · rw [if_neg (by rw [decide_eq_false c7]; decide), z 63 (by decide) (by decide +kernel) _ _ _ (by decide +kernel) (by decide +kernel) (by decide +kernel), cIo, ifb]
                  by_cases c8 : l = lits 63
                  · rw [if_pos (decide_eq_true c8), c8, show axN (lits 63) = some 6 from axN_l 6 (by decide)]
                    rfl
                  · rw [if_neg (by rw [decide_eq_false c8]; decide), z 64 (by decide) (by decide +kernel) _ _ _ (by decide +kernel) (by decide +kernel) (by decide +kernel), cIo, ifb]
                    by_cases c9 : l = lits 64
                    · rw [if_pos (decide_eq_true c9), c9, show axN (lits 64) = some 7 from axN_l 7 (by decide)]
                      rfl
                    · rw [if_neg (by rw [decide_eq_false c9]; decide), z 56 (by decide) (by decide +kernel) _ _ _ (by decide +kernel) (by decide +kernel) (by decide +kernel), cIo, ifb]
                      by_cases c10 : l = lits 56
                      · rw [if_pos (decide_eq_true c10), c10, show axN (lits 56) = some 10 from axN_l 10 (by decide)]
                        rfl
                      · rw [if_neg (by rw [decide_eq_false c10]; decide), z 67 (by decide) (by decide +kernel) _ _ _ (by decide +kernel) (by decide +kernel) (by decide +kernel), cIo, ifb]
                        by_cases c11 : l = lits 67
                        · rw [if_pos (decide_eq_true c11), c11, show axN (lits 67) = some 11 from axN_l 11 (by decide)]
                          rfl
                        · rw [if_neg (by rw [decide_eq_false c11]; decide)]
                          have e0 : axN l = none := by
                            have x : ∀ j, j < 12 → ¬ l = lits (xAxW.getD j 0) := by
                              intro j hj
                              have hc : j = 0 ∨ j = 1 ∨ j = 2 ∨ j = 3 ∨ j = 4 ∨ j = 5 ∨ j = 6 ∨ j = 7 ∨ j = 8 ∨ j = 9 ∨ j = 10 ∨ j = 11 := by omega
                              rcases hc with rfl | rfl | rfl | rfl | rfl | rfl | rfl | rfl | rfl | rfl | rfl | rfl
                              · exact c0
                              · exact c4
                              · exact c1
                              · exact c2
                              · exact c3
                              · exact c5
                              · exact c8
                              · exact c9
                              · exact c6
                              · exact c7
                              · exact c10
                              · exact c11
                            have y : ∀ m j, j + m = 12 → axF l j m = none := by
                              intro m
                              induction m with
                              | zero => exact fun _ _ => rfl
                              | succ m ih =>
                                intro j hj
                                unfold axF
                                rw [if_neg (x j (by omega))]
                                exact ih (j + 1) (by omega)
                            exact y 12 0 rfl
                          rw [e0]
                          rfl
end RW2
