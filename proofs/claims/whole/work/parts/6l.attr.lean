/-! THE CLASS READS AN ATTRIBUTE'S VALUE -/
def stQ (c0 c : Int32) : Bool := decide (c = c0)
section ATV
variable {F R lv : Nat} {b : List Int32} {ns : List Nd} {ts : List Int32} {qu nl : Int32}
theorem f115_115_z {σ : St} {n p j : Nat} {ws : List Int32} (hb : b.length ≤ 120) (h : cRd σ b p R ns ws ts) (hp : p ≤ 1000) (hs : stQ qu (b.getD p 0) = true) : f115_115 F (n + 1) (Int32.ofNat lv) nl qu (Int32.ofNat j) σ = f115_158 F (Int32.ofNat lv) nl qu (Int32.ofNat j) σ := by
  simp only [stQ, decide_eq_true_eq] at hs
  rw [f115_115.eq_2]
  by_cases hj : Int32.ofNat j < 120
  · rw [if_pos hj, ltE, h.2.1, f92_e h.1 hb (by omega), cIo, if_pos hs]
  · rw [if_neg hj]
theorem f115_115_s {σ : St} {n p j : Nat} {ws : List Int32} (hF : 500 ≤ F) (hb : b.length ≤ 120) (h : cRd σ b p R ns ws ts) (hp : p ≤ 1000) (hj : j < 120) (hw : ws.length < 120) (hs : stQ qu (b.getD p 0) = false) : f115_115 F (n + 1) (Int32.ofNat lv) nl qu (Int32.ofNat j) σ = match rdCh b p with
    | none => oT 10 σ
    | some x => f115_115 F n (Int32.ofNat lv) nl qu (Int32.ofNat (j + 1)) (rAdd (uI σ 1029 2 (Int32.ofNat x.2)) 1027 ws.length x.1) := by
  simp only [stQ, decide_eq_false_iff_not] at hs
  rw [f115_115.eq_2, if_pos (show Int32.ofNat j < 120 from (oN_lt (q := 120) (by omega) (by decide)).mpr hj), ltE, h.2.1, f92_e h.1 hb (by omega), cIo, if_neg hs, f117_e hF hb h.1 h.2.1 (by omega)]
  cases hr : rdCh b p with
  | none => rfl
  | some x =>
    dsimp only
    rw [cIo, f90_r (r := 1027) (l := ws) (Or.inr (Or.inr (Or.inr (Or.inr rfl)))) (h.mv (q := x.2)).2.2.2.2.1 (by rw [show capR 1027 = 120 by decide]; exact hw), cVo, oN_p1]
theorem f115_115_e (hF : 500 ≤ F) (hb : b.length ≤ 120) (hO : okB b) : ∀ (n k p j : Nat) (σ : St) (ws : List Int32), cRd σ b p R ns ws ts → p ≤ b.length → b.length - p < n → j + (b.length - p) < 120 → ws.length + (b.length - p) < 120 →
    (rdT b (stQ qu) n p = none ∧ ∃ τ, f115_115 F (k + n) (Int32.ofNat lv) nl qu (Int32.ofNat j) σ = oT 10 τ ∧ agD σ τ) ∨ (∃ q cs τ, rdT b (stQ qu) n p = some (q, cs) ∧ f115_115 F (k + n) (Int32.ofNat lv) nl qu (Int32.ofNat j) σ = f115_158 F (Int32.ofNat lv) nl qu (Int32.ofNat (j + cs.length)) τ ∧ agD σ τ ∧ cRd τ b q R ns (ws ++ cs) ts ∧ p + cs.length ≤ q ∧ q ≤ b.length ∧ b.getD q 0 = qu) := by
  intro n
  induction n with
  | zero => intro k p j σ ws _ _ h; omega
  | succ n ih =>
    intro k p j σ ws h hp hn hj ht
    rw [← Nat.add_assoc]
    unfold rdT
    by_cases hs : stQ qu (b.getD p 0) = true
    · rw [if_pos hs]
      refine Or.inr ⟨p, [], σ, rfl, ?_, agD.refl, ?_, ?_, hp, ?_⟩
      · rw [f115_115_z hb h (by omega) hs]
        rfl
      · rw [List.append_nil]
        exact h
      · exact Nat.le_refl _
      · simpa only [stQ, decide_eq_true_eq] using hs
    · rw [if_neg hs]
      rw [Bool.not_eq_true] at hs
      cases hr : rdCh b p with
      | none =>
        refine Or.inl ⟨rfl, σ, ?_, agD.refl⟩
        rw [f115_115_s hF hb h (by omega) (by omega) (by omega) hs, hr]
      | some x =>
        obtain ⟨c, q⟩ := x
        obtain ⟨g1, g2, g3, g4⟩ := rdCh_ok hO hr
        rw [f115_115_s hF hb h (by omega) (by omega) (by omega) hs, hr]
        dsimp only
        have h2 := (h.mv (q := q)).addW (c := c)
        rw [g3] at h2
        have ag1 : agD σ (rAdd (uI σ 1029 2 (Int32.ofNat q)) 1027 ws.length c) := (agD.refl.uI (by decide)).rAdd (Or.inr rfl)
        rcases ih k q (j + 1) _ _ h2 g2 (by omega) (by omega) (by rw [List.length_append, List.length_cons, List.length_nil]; omega) with ⟨e1, τ, e2, e3⟩ | ⟨q2, cs, τ, e1, e2, e3, e4, e5, e6, e7⟩
        · rw [e1]
          exact Or.inl ⟨rfl, τ, e2, ag1.trans e3⟩
        · rw [e1]
          refine Or.inr ⟨q2, c :: cs, τ, rfl, ?_, ag1.trans e3, ?_, ?_, e6, e7⟩
          · rw [e2, List.length_cons, show j + 1 + cs.length = j + (cs.length + 1) by omega]
          · rw [List.append_assoc] at e4
            exact e4
          · rw [List.length_cons]
            omega
end ATV
