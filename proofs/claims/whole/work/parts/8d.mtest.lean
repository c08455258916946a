/-! the reference's test of a step -/
/-- the reference's step s -/
def mSt (σ : St) (s a t f n : Nat) : Prop := σ.1 1343 s = Int32.ofNat a ∧ σ.1 1344 s = Int32.ofNat t ∧ σ.1 1345 s = Int32.ofNat f ∧ σ.1 1346 s = Int32.ofNat n
section MTS
variable {F a t f n q s : Nat} {σ : St} {ns : List Nd} {b : List Int32}
theorem f231_64_e (hb : b.length ≤ 120) (hB : bufM σ b) (h : mTr σ ns) (hn : ns.length ≤ 30) (hq : q < ns.length) (hs : s < 130) (hc : mSt σ s a t f n) (ho : f + n ≤ b.length) (hl : (nd ns q).2.2.1.length = n) : ∀ (m k j : Nat) (g : Bool), j + m = n → f231_64 F (k + m + 1) (Int32.ofNat s) (Int32.ofNat q) (b2i g) (Int32.ofNat j) σ = oI (b2i (g && sam (nd ns q).2.2.1 0 b f j m)) σ := by
  have i1 : inB (Int32.ofNat q) 31 := oN_rg (by omega) (by decide)
  have i3 : inB (Int32.ofNat s) 130 := oN_rg (by omega) (by decide)
  have q1 := oN_n (show q < 2147483648 by omega)
  have q3 := oN_n (show s < 2147483648 by omega)
  obtain ⟨m1, m2, m3, m4, na, ta, m5, m6, m7, m8, m9, m10⟩ := (h.2 q hq).1
  intro m
  induction m with
  | zero =>
    intro k j g hj
    rw [f231_64.eq_2]
    simp only [if_pos i3, ltE, q3, hc.2.2.2]
    rw [if_neg (fun g => by have := (oN_lt (by omega) (by omega)).mp g; omega), if_pos (b2i_z g)]
    unfold sam
    rw [Bool.and_true]
  | succ m ih =>
    intro k j g hj
    rw [show k + (m + 1) + 1 = (k + m + 1) + 1 by omega, f231_64.eq_2]
    simp only [if_pos i3, if_pos i1, ltE, q3, q1, hc.2.2.2, hc.2.2.1, m5]
    rw [if_pos ((oN_lt (by omega) (by omega)).mpr (by omega))]
    cases g with
    | false =>
      rw [if_pos b2i_f, if_pos (Or.inl b2i_f), Bool.false_and]
    | true =>
      unfold f231_116 sam
      rw [if_neg (show ¬ b2i true = 0 by decide), oN_ad, oN_ad, if_pos (oN_rg (by omega) (by decide)), if_pos (oN_rg (by omega) (by decide)), oN_n (by omega), oN_n (by omega), m9 j (by omega), hB.2 (f + j) (by omega), oN_p1, Bool.true_and, Nat.zero_add]
      by_cases c : (nd ns q).2.2.1.getD j 0 = b.getD (f + j) 0
      · have i2 := ih k (j + 1) true (by omega)
        rw [Bool.true_and] at i2
        rw [if_pos c, decide_eq_true c, Bool.true_and]
        exact i2
      · have i2 := ih k (j + 1) false (by omega)
        rw [Bool.false_and] at i2
        rw [if_neg c, decide_eq_false c, Bool.false_and]
        exact i2
theorem f231_64_f (hs : s < 130) (hc : mSt σ s a t f n) : ∀ (k : Nat), f231_64 F (k + 1) (Int32.ofNat s) (Int32.ofNat q) 0 0 σ = oI 0 σ := by
  intro k
  have i3 : inB (Int32.ofNat s) 130 := oN_rg (by omega) (by decide)
  rw [f231_64.eq_2]
  simp only [if_pos i3, ltE]
  split <;> rfl
theorem f231_e (hF : 5000 ≤ F) (hb : b.length ≤ 120) (hB : bufM σ b) (h : mTr σ ns) (hw : wf ns) (hz : szOk ns) (hq : q < ns.length) (hs : s < 130) (hc : mSt σ s a t f n) (ho : stOk b a t f n) : f231 F (Int32.ofNat s) (Int32.ofNat q) σ = oI (b2i (psA ns b a t f n q)) σ := by
  have hn := hz.1.1
  have i1 : inB (Int32.ofNat q) 31 := oN_rg (by omega) (by decide)
  have i3 : inB (Int32.ofNat s) 130 := oN_rg (by omega) (by decide)
  have q1 := oN_n (show q < 2147483648 by omega)
  have q3 := oN_n (show s < 2147483648 by omega)
  have l2 := (hz.1.2 q hq).2
  obtain ⟨m1, m2, m3, m4, na, ta, m5, m6, m7, m8, m9, m10⟩ := (h.2 q hq).1
  have key : f231_22 F (Int32.ofNat s) (Int32.ofNat q) (Int32.ofNat t) (Int32.ofNat (prK a)) σ = oI (b2i (psA ns b a t f n q)) σ := by
    have hpk : prK a ≤ 2 := by unfold prK; split <;> omega
    have dk : decide (Int32.ofNat (nd ns q).1 = Int32.ofNat (prK a)) = decide ((nd ns q).1 = prK a) := dce (by omega) (by omega)
    have d3 : decide (Int32.ofNat (nd ns q).1 = 3) = decide ((nd ns q).1 = 3) := decide_eq_decide.mpr (oE3 (by omega))
    have d4 : decide (Int32.ofNat (nd ns q).1 = 4) = decide ((nd ns q).1 = 4) := decide_eq_decide.mpr (oE4 (by omega))
    unfold f231_22
    simp only [if_pos i3, if_pos i1, ltE, q3, q1, hc.2.2.2, m1, m3]
    have hcc : t = 0 ∨ t = 1 ∨ t = 2 ∨ t = 3 ∨ t = 4 := by have := ho.2.1; omega
    rcases hcc with rfl | rfl | rfl | rfl | rfl
    · rw [if_pos (by decide)]
      show _ = oI (b2i (decide ((nd ns q).1 = prK a) && decide ((nd ns q).2.2.1 = stre b f n))) σ
      unfold f231_58 f231_59
      have hF1 : F = (F - 1) + 1 := by omega
      have ff : f231_64 F F (Int32.ofNat s) (Int32.ofNat q) 0 0 σ = oI 0 σ := by
        have := f231_64_f (F := F) (q := q) hs hc (F - 1)
        rw [← hF1] at this
        exact this
      have hol := ho.2.2
      by_cases c1 : (nd ns q).1 = prK a
      · rw [if_pos (by rw [c1]), decide_eq_true c1, Bool.true_and]
        by_cases c2 : (nd ns q).2.2.1.length = n
        · rw [if_pos (by rw [c2])]
          have hF2 : F = (F - 1 - n) + n + 1 := by omega
          have k1 := f231_64_e (F := F) hb hB h hn hq hs hc hol c2 n (F - 1 - n) 0 true (by omega)
          rw [← hF2, Bool.true_and] at k1
          have k2 := sam_eq (l := (nd ns q).2.2.1) (l2 := b) (p := 0) (q := f) (n := n) (n2 := n) (by omega) hol
          rw [decide_eq_true rfl, Bool.true_and] at k2
          rw [k2] at k1
          have k3 : stre (nd ns q).2.2.1 0 n = (nd ns q).2.2.1 := by
            rw [← c2]
            exact stre_all
          rw [k3] at k1
          exact k1
        · rw [if_neg (fun g => c2 ((oN_eq (by omega) (by omega)).mp g)), ff, decide_eq_false]
          · rfl
          · intro g
            exact c2 (by rw [g, stre_len hol])
      · rw [if_neg (fun g => c1 ((oN_eq (by omega) (by omega)).mp g)), decide_eq_false c1, ff]
        rfl
    · rw [if_neg (by decide), if_neg (by decide), if_pos (by decide), ifd, dk]
      rfl
    · rw [if_neg (by decide), if_neg (by decide), if_neg (by decide), if_pos (by decide), ifd, d3]
      rfl
    · rw [if_neg (by decide), if_neg (by decide), if_neg (by decide), if_neg (by decide), ifd, d4]
      rfl
    · rw [if_neg (by decide), if_pos (by decide)]
      rfl
  unfold f231
  simp only [if_pos i3, ltE, q3, hc.1, hc.2.1]
  have ha := ho.1
  by_cases c : a = 5
  · have e : prK a = 2 := by unfold prK; rw [if_pos c]
    rw [e] at key
    rw [if_pos (by rw [c]; rfl)]
    exact key
  · have e : prK a = 1 := by unfold prK; rw [if_neg c]
    rw [e] at key
    rw [if_neg (show ¬ Int32.ofNat a = 5 from fun g => c ((oN_eq (q := 5) (by omega) (by decide)).mp g))]
    exact key
end MTS
