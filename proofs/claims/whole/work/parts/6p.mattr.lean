/-! THE REFERENCE READS AN ATTRIBUTE'S VALUE -/
section MAV
variable {F : Nat} {b : List Int32} {ds : List Md} {l th y4 y5 y8 qu : Int32}
theorem f165_149_s {σ : St} {n p : Nat} {cs : List Int32} (hb : b.length ≤ 120) (h : mRd σ b p ds cs) (hc : cs.length < 122) (hp : p ≤ 1000) (hs : stQ qu (b.getD p 0) = false) : f165_149 F (n + 1) l th y4 y5 qu y8 σ = match rdCh b p with
    | none => oI 0 (uI σ 1315 33 1)
    | some x => f165_149 F n l th y4 y5 qu y8 (uI (mCh σ cs.length x.1) 1315 32 (Int32.ofNat x.2)) := by
  simp only [stQ, decide_eq_false_iff_not] at hs
  rw [f165_149.eq_2, ltE, h.2.1, f152_e h.1 hb (by omega), cIo, if_neg hs, f167_e hb h hc hp]
  cases rdCh b p with
  | none =>
    dsimp only
    rw [cIo, if_pos rfl]
  | some x =>
    dsimp only
    rw [cIo, if_neg (by decide)]
theorem f165_149_e (hb : b.length ≤ 120) (hO : okB b) : ∀ (n k p : Nat) (σ : St) (cs : List Int32), mRd σ b p ds cs → p ≤ b.length → b.length - p < n → cs.length + (b.length - p) ≤ 121 →
    (rdT b (stQ qu) n p = none ∧ ∃ τ, f165_149 F (k + n) l th y4 y5 qu y8 σ = oI 0 τ ∧ agM σ τ ∧ τ.1 1315 33 = 1) ∨ (∃ q es τ j, rdT b (stQ qu) n p = some (q, es) ∧ f165_149 F (k + n) l th y4 y5 qu y8 σ = f165_149 F (j + 1) l th y4 y5 qu y8 τ ∧ agM σ τ ∧ mRd τ b q ds (cs ++ es) ∧ b.getD q 0 = qu ∧ p + es.length ≤ q ∧ q ≤ b.length) := by
  intro n
  induction n with
  | zero => intro k p σ cs _ _ h; omega
  | succ n ih =>
    intro k p σ cs h hp hn hc
    rw [← Nat.add_assoc]
    unfold rdT
    by_cases hs : stQ qu (b.getD p 0) = true
    · rw [if_pos hs]
      refine Or.inr ⟨p, [], σ, k + n, rfl, rfl, agM.refl, ?_, ?_, Nat.le_refl _, hp⟩
      · rw [List.append_nil]
        exact h
      · simpa only [stQ, decide_eq_true_eq] using hs
    · rw [if_neg hs]
      rw [Bool.not_eq_true] at hs
      rw [f165_149_s hb h (by omega) (by omega) hs]
      cases hr : rdCh b p with
      | none => exact Or.inl ⟨rfl, _, rfl, agM.refl.uF (Or.inr (Or.inr (Or.inr rfl))), u_eq⟩
      | some x =>
        obtain ⟨c, q⟩ := x
        obtain ⟨g1, g2, g3, g4⟩ := rdCh_ok hO hr
        dsimp only
        have h2 := (h.ch (c := c)).mv (q := q)
        have ag1 : agM σ (uI (mCh σ cs.length c) 1315 32 (Int32.ofNat q)) := (mCh_ag agM.refl).uF (Or.inr (Or.inr (Or.inl rfl)))
        rcases ih k q _ _ h2 g2 (by omega) (by rw [List.length_append, List.length_cons, List.length_nil]; omega) with ⟨e1, τ, e2, e3, e4⟩ | ⟨q2, es, τ, j, e1, e2, e3, e4, e5, e6, e7⟩
        · rw [e1]
          exact Or.inl ⟨rfl, τ, e2, ag1.trans e3, e4⟩
        · rw [e1]
          refine Or.inr ⟨q2, c :: es, τ, j, rfl, e2, ag1.trans e3, ?_, e5, ?_, e7⟩
          · rw [List.append_assoc] at e4
            exact e4
          · rw [List.length_cons]
            omega
end MAV
