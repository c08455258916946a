/-! THE CLASS READS A TEXT -/
theorem cIt {c : Nat} {σ : St} {kk : Int32 → St → Rs} : cI (oT c σ) kk = oT c σ := rfl
theorem cVt {c : Nat} {σ : St} {kk : St → Rs} : cV (oT c σ) kk = oT c σ := rfl
def stT (c : Int32) : Bool := decide (c = 60) || decide (c = 0)
section TXT
variable {F R lv : Nat} {b : List Int32} {ns : List Nd} {ws : List Int32}
/-- at a stop -/
theorem f119_30_z {σ : St} {n p j : Nat} {ts : List Int32} (hb : b.length ≤ 120) (hO : okB b) (h : cRd σ b p R ns ws ts) (hp : p ≤ b.length) (hs : stT (b.getD p 0) = true) : f119_30 F (n + 1) (Int32.ofNat lv) (Int32.ofNat j) σ = f119_86 F (Int32.ofNat lv) (Int32.ofNat j) σ := by
  simp only [stT, Bool.or_eq_true, decide_eq_true_eq] at hs
  rw [f119_30.eq_2]
  by_cases hj : Int32.ofNat j < 120
  · rw [if_pos hj, ltE, h.2.1, ltE, h.1.1]
    by_cases hl : p < b.length
    · rw [if_pos ((oN_lt (by omega) (by omega)).mpr hl), ltE, f92_e h.1 hb (by omega), cIo, if_pos (hs.elim id (fun hh => absurd hh (okB_nz hO hl)))]
    · rw [if_neg (fun hh => hl ((oN_lt (by omega) (by omega)).mp hh))]
  · rw [if_neg hj]
/-- one character -/
theorem f119_30_s {σ : St} {n p j : Nat} {ts : List Int32} (hF : 500 ≤ F) (hb : b.length ≤ 120) (h : cRd σ b p R ns ws ts) (hj : j < 120) (ht : ts.length < 120) (hs : stT (b.getD p 0) = false) : f119_30 F (n + 1) (Int32.ofNat lv) (Int32.ofNat j) σ = match rdCh b p with
    | none => oT 10 σ
    | some x => f119_30 F n (Int32.ofNat lv) (Int32.ofNat (j + 1)) (rAdd (uI σ 1029 2 (Int32.ofNat x.2)) 1025 ts.length x.1) := by
  simp only [stT, Bool.or_eq_false_iff, decide_eq_false_iff_not] at hs
  have hl : p < b.length := nz_lt hs.2
  rw [f119_30.eq_2, if_pos (show Int32.ofNat j < 120 from (oN_lt (q := 120) (by omega) (by decide)).mpr hj), ltE, h.2.1, ltE, h.1.1, if_pos ((oN_lt (by omega) (by omega)).mpr hl), ltE, f92_e h.1 hb (by omega), cIo, if_neg hs.1, f117_e hF hb h.1 h.2.1 (by omega)]
  cases hr : rdCh b p with
  | none => rfl
  | some x =>
    dsimp only
    rw [cIo, f90_r (r := 1025) (l := ts) (Or.inr (Or.inr (Or.inr (Or.inl rfl)))) (h.mv (q := x.2)).2.2.2.2.2.1 (by rw [show capR 1025 = 120 by decide]; exact ht), cVo, oN_p1]
theorem f119_30_e (hF : 500 ≤ F) (hb : b.length ≤ 120) (hO : okB b) : ∀ (n k p j : Nat) (σ : St) (ts : List Int32), cRd σ b p R ns ws ts → p ≤ b.length → b.length - p < n → j + (b.length - p) ≤ 120 → ts.length + (b.length - p) ≤ 120 →
    (rdT b stT n p = none ∧ ∃ τ, f119_30 F (k + n) (Int32.ofNat lv) (Int32.ofNat j) σ = oT 10 τ ∧ agD σ τ) ∨ (∃ q cs τ, rdT b stT n p = some (q, cs) ∧ f119_30 F (k + n) (Int32.ofNat lv) (Int32.ofNat j) σ = f119_86 F (Int32.ofNat lv) (Int32.ofNat (j + cs.length)) τ ∧ agD σ τ ∧ cRd τ b q R ns ws (ts ++ cs) ∧ p + cs.length ≤ q ∧ q ≤ b.length) := by
  intro n
  induction n with
  | zero => intro k p j σ ts _ _ h; omega
  | succ n ih =>
    intro k p j σ ts h hp hn hj ht
    rw [← Nat.add_assoc]
    unfold rdT
    by_cases hs : stT (b.getD p 0) = true
    · rw [if_pos hs]
      refine Or.inr ⟨p, [], σ, rfl, ?_, agD.refl, ?_, ?_, hp⟩
      · rw [f119_30_z hb hO h hp hs]
        rfl
      · rw [List.append_nil]
        exact h
      · exact Nat.le_refl _
    · rw [if_neg hs]
      rw [Bool.not_eq_true] at hs
      have hl : p < b.length := by
        simp only [stT, Bool.or_eq_false_iff, decide_eq_false_iff_not] at hs
        exact nz_lt hs.2
      rw [f119_30_s hF hb h (by omega) (by omega) hs]
      cases hr : rdCh b p with
      | none => exact Or.inl ⟨rfl, σ, rfl, agD.refl⟩
      | some x =>
        obtain ⟨c, q⟩ := x
        obtain ⟨g1, g2, g3, g4⟩ := rdCh_ok hO hr
        dsimp only
        have h2 := (h.mv (q := q)).addT (c := c)
        rw [g3] at h2
        have ag1 : agD σ (rAdd (uI σ 1029 2 (Int32.ofNat q)) 1025 ts.length c) := (agD.refl.uI (by decide)).rAdd (Or.inl rfl)
        rcases ih k q (j + 1) _ _ h2 g2 (by omega) (by omega) (by rw [List.length_append, List.length_cons, List.length_nil]; omega) with ⟨e1, τ, e2, e3⟩ | ⟨q2, cs, τ, e1, e2, e3, e4, e5, e6⟩
        · rw [e1]
          exact Or.inl ⟨rfl, τ, e2, ag1.trans e3⟩
        · rw [e1]
          refine Or.inr ⟨q2, c :: cs, τ, rfl, ?_, ag1.trans e3, ?_, ?_, e6⟩
          · rw [e2, List.length_cons, show j + 1 + cs.length = j + (cs.length + 1) by omega]
          · rw [List.append_assoc] at e4
            exact e4
          · rw [List.length_cons]
            omega
end TXT
