/-! THE REFERENCE READS AN ATTRIBUTE -/
section MA3
variable {F : Nat} {b : List Int32} {ds : List Md}
theorem f154_w {σ : St} {x : Int32} (h : σ.1 1315 33 = 1) : f154 F x σ = oI 0 (uI σ 1315 33 1) := by
  unfold f154
  rw [ltE, h, if_neg (show ¬ (1 : Int32) = 0 by decide), ltE, ltE]
theorem f165_133_e {σ : St} {p e lv th : Nat} {cs : List Int32} {qu : Int32} (hF : 500 ≤ F) (hb : b.length ≤ 120) (hO : okB b) (h : mRd σ b (e + 1) ds cs) (hd : ds.length ≤ 30) (ht : th ≤ 30) (hc : cs.length ≤ e) (he : e + 1 < b.length) (hpe : p ≤ e) :
    match rdT b (stQ qu) 200 (e + 2) with
    | none => ∃ τ, f165_133 F (Int32.ofNat lv) (Int32.ofNat th) (Int32.ofNat p) (Int32.ofNat e) qu σ = oI 0 τ ∧ agM σ τ ∧ τ.1 1315 33 = 1
    | some x => if ds.length < 30 - th then ∃ τ, f165_133 F (Int32.ofNat lv) (Int32.ofNat th) (Int32.ofNat p) (Int32.ofNat e) qu σ = oI 1 τ ∧ agM σ τ ∧ mRd τ b (x.1 + 1) (ds ++ [(2, lv, p, e - p, cs.length, x.2.length)]) (cs ++ x.2)
      else ∃ τ, f165_133 F (Int32.ofNat lv) (Int32.ofNat th) (Int32.ofNat p) (Int32.ofNat e) qu σ = oI 0 τ ∧ agM σ τ ∧ τ.1 1315 33 = 3 := by
  have h1 := h.mv (q := e + 2)
  have ag1 : agM σ (uI σ 1315 32 (Int32.ofNat (e + 2))) := agM.refl.uF (Or.inr (Or.inr (Or.inl rfl)))
  unfold f165_133
  rw [ltE, h.2.1, oN_p1, show e + 1 + 1 = e + 2 from rfl, ltE, ltE, h1.2.2.2.2.1.1]
  obtain ⟨k, hk2⟩ : ∃ k, F = k + 200 := ⟨F - 200, by omega⟩
  have a0 := f165_149_e (F := F) (l := Int32.ofNat lv) (th := Int32.ofNat th) (y4 := Int32.ofNat p) (y5 := Int32.ofNat e) (y8 := Int32.ofNat cs.length) (qu := qu) hb hO 200 k (e + 2) _ cs h1 (by omega) (by omega) (by omega)
  rw [← hk2] at a0
  rcases a0 with ⟨r1, τ, r2, r3, r4⟩ | ⟨q, es, τ, j, r1, r2, r3, r4, r5, r6, r7⟩
  · rw [r1]
    exact ⟨τ, r2, ag1.trans r3, r4⟩
  · rw [r1]
    dsimp only
    have m := f165_149_z (F := F) (n := j) (p := p) (e := e) (lv := lv) (th := th) hb r4 hd ht (by omega) r5 hpe (by rw [List.length_append]; omega)
    by_cases hk : ds.length < 30 - th
    · rw [if_pos hk] at m ⊢
      obtain ⟨υ, m1, m2, m3⟩ := m
      exact ⟨υ, r2.trans m1, (ag1.trans r3).trans m2, m3⟩
    · rw [if_neg hk] at m ⊢
      obtain ⟨υ, m1, m2, m3⟩ := m
      exact ⟨υ, r2.trans m1, (ag1.trans r3).trans m2, m3⟩
end MA3
