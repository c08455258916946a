/-! THE CLASS READS A COMMENT -/
/-- the next -- or the end -/
def dsh (b : List Int32) : Nat → Nat → Nat
  | 0, p => p
  | n + 1, p => if b.getD p 0 = 0 ∨ (b.getD p 0 = 45 ∧ b.getD (p + 1) 0 = 45) then p else dsh b n (p + 1)
theorem dsh_ge {b : List Int32} : ∀ n p, p ≤ dsh b n p
  | 0, p => Nat.le_refl _
  | n + 1, p => by
    unfold dsh
    split
    · exact Nat.le_refl _
    · have := dsh_ge (b := b) n (p + 1)
      omega
theorem dsh_le {b : List Int32} : ∀ n p, p ≤ b.length → dsh b n p ≤ b.length
  | 0, p, h => h
  | n + 1, p, h => by
    unfold dsh
    split
    · exact h
    · rename_i hh
      exact dsh_le n (p + 1) (nz_lt (fun h0 => hh (Or.inl h0)))
theorem dsh_st {b : List Int32} : ∀ n p, b.length - p < n → b.getD (dsh b n p) 0 = 0 ∨ (b.getD (dsh b n p) 0 = 45 ∧ b.getD (dsh b n p + 1) 0 = 45)
  | 0, p, h => by omega
  | n + 1, p, h => by
    unfold dsh
    split
    · rename_i hh
      exact hh
    · rename_i hh
      have hl : p < b.length := nz_lt (fun h0 => hh (Or.inl h0))
      exact dsh_st n (p + 1) (by omega)
/-- reading a comment at p, where <! stands -/
def sCm (b : List Int32) (R k p : Nat) : Nat ⊕ (Nat × List Int32) := if b.getD (p + 2) 0 = 45 ∧ b.getD (p + 3) 0 = 45 then (if b.getD (dsh b 200 (p + 4)) 0 = 0 then .inl 10 else if b.getD (dsh b 200 (p + 4) + 2) 0 = 62 then (if k < R then .inr (dsh b 200 (p + 4) + 3, (b.drop (p + 4)).take (dsh b 200 (p + 4) - (p + 4))) else .inl 11) else .inl 10) else .inl 10
section CMT
variable {F R : Nat} {b : List Int32} {ns : List Nd} {ws ts : List Int32}
theorem cRd.putW {σ : St} {p q n : Nat} (h : cRd σ b p R ns ws ts) (hq : q + n ≤ b.length) : cRd (rPut σ 1027 1001 ws.length q n ws.length) b p R ns (ws ++ (b.drop q).take n) ts := by
  obtain ⟨h1, h2, h3, h4⟩ := h
  refine ⟨⟨?_, fun j hj => ?_⟩, ?_, ?_, h4.putW h1 hq⟩
  · rw [rPut_oth (by decide) (by decide)]
    exact h1.1
  · rw [rPut_oth (by decide) (by decide)]
    exact h1.2 j hj
  · rw [rPut_oth (by decide) (by decide)]
    exact h2
  · rw [rPut_oth (by decide) (by decide)]
    exact h3
theorem spl_16 {p : Nat} : spl b p 16 0 (slen 16) = decide (b.getD p 0 = 45 ∧ b.getD (p + 1) 0 = 45) := by
  rw [show slen 16 = 2 by decide +kernel]
  simp only [spl, show schr 16 0 = 45 by decide +kernel, show schr 16 1 = 45 by decide +kernel, Nat.zero_add, Nat.add_zero, Bool.decide_and, Bool.and_true]
theorem f109_29_e {lv f : Nat} (hF : 500 ≤ F) (hb : b.length ≤ 120) (hO : okB b) : ∀ (n k p : Nat) (σ : St), cRd σ b p R ns ws ts → p ≤ b.length → b.length - p < n → ∃ τ, f109_29 F (k + n) (Int32.ofNat lv) (Int32.ofNat f) σ = f109_72 F (Int32.ofNat lv) (Int32.ofNat f) τ ∧ agD σ τ ∧ cRd τ b (dsh b n p) R ns ws ts := by
  intro n
  induction n with
  | zero => intro k p σ _ _ h; omega
  | succ n ih =>
    intro k p σ h hp hn
    rw [← Nat.add_assoc, f109_29.eq_2, ltE, h.2.1, ltE, h.1.1]
    unfold dsh
    by_cases hl : p < b.length
    · rw [if_pos ((oN_lt (by omega) (by omega)).mpr hl), ltE, f94_e (w := 16) hF hb h.1 (by decide) (by omega) (by decide +kernel), cIo, spl_16]
      by_cases hd : b.getD p 0 = 45 ∧ b.getD (p + 1) 0 = 45
      · rw [decide_eq_true hd, if_neg (show ¬ b2i true = 0 by decide), if_pos (show b.getD p 0 = 0 ∨ (b.getD p 0 = 45 ∧ b.getD (p + 1) 0 = 45) from Or.inr hd)]
        exact ⟨σ, rfl, agD.refl, h⟩
      · rw [decide_eq_false hd, if_pos b2i_f, if_neg (show ¬ (b.getD p 0 = 0 ∨ (b.getD p 0 = 45 ∧ b.getD (p + 1) 0 = 45)) from fun hh => hh.elim (okB_nz hO hl) hd), ltE, h.2.1, oN_p1, ltE]
        obtain ⟨τ, e1, e2, e3⟩ := ih k (p + 1) _ (h.mv (q := p + 1)) (by omega) (by omega)
        exact ⟨τ, e1, (agD.refl.uI (by decide)).trans e2, e3⟩
    · rw [if_neg (fun hh => hl ((oN_lt (by omega) (by omega)).mp hh)), if_pos (show b.getD p 0 = 0 ∨ (b.getD p 0 = 45 ∧ b.getD (p + 1) 0 = 45) from Or.inl (getD_ge (by omega)))]
      exact ⟨σ, rfl, agD.refl, h⟩
/-- behind the characters: q is where -- stands, or the end -/
theorem f109_72_e {lv f q : Nat} {σ : St} (hb : b.length ≤ 120) (h : cRd σ b q R ns ws ts) (hd : ws = flW ns ∧ ts = flT ns) (hw : ws.length ≤ f) (ht : ts.length ≤ f) (hR : R ≤ 30) (hn : ns.length ≤ 30) (hf : f ≤ q) (hq : q ≤ b.length) (hs : b.getD q 0 = 0 ∨ (b.getD q 0 = 45 ∧ b.getD (q + 1) 0 = 45)) :
    match (if b.getD q 0 = 0 then (.inl 10 : Nat ⊕ (Nat × List Int32)) else if b.getD (q + 2) 0 = 62 then (if ns.length < R then .inr (q + 3, (b.drop f).take (q - f)) else .inl 11) else .inl 10) with
    | .inl c => ∃ τ, f109_72 F (Int32.ofNat lv) (Int32.ofNat f) σ = oT c τ ∧ agD σ τ
    | .inr x => ∃ τ, f109_72 F (Int32.ofNat lv) (Int32.ofNat f) σ = oV τ ∧ agD σ τ ∧ cRd τ b x.1 R (ns ++ [(4, lv, [], x.2)]) (ws ++ x.2) ts ∧ dOk x.1 (ns ++ [(4, lv, [], x.2)]) (ws ++ x.2) ts ∧ q ≤ x.1 ∧ x.1 ≤ b.length := by
  have ag1 : agD σ (uI σ 1029 2 (Int32.ofNat (q + 1))) := agD.refl.uI (by decide)
  have h1 := h.mv (q := q + 1)
  have h2 := h1.mv (q := q + 2)
  have ag2 : agD σ (uI (uI σ 1029 2 (Int32.ofNat (q + 1))) 1029 2 (Int32.ofNat (q + 2))) := ag1.uI (by decide)
  unfold f109_72
  rw [ltE, h.2.1, ltE, oN_sb hf, f110_e hb h (by omega)]
  by_cases h0 : b.getD q 0 = 0
  · rw [if_pos h0, if_neg (show ¬ b.getD q 0 = 45 by rw [h0]; decide), cVt]
    exact ⟨σ, rfl, agD.refl⟩
  · have hd2 : b.getD q 0 = 45 ∧ b.getD (q + 1) 0 = 45 := hs.elim (fun hh => absurd hh h0) id
    have hl1 : q + 1 < b.length := nz_lt (by rw [hd2.2]; decide)
    rw [if_neg h0, if_pos hd2.1, cVo, f110_e hb h1 (by omega), if_pos hd2.2, cVo, show q + 1 + 1 = q + 2 from rfl, ltE, h2.2.1, f92_e h2.1 hb (by omega), cIo]
    by_cases h6 : b.getD (q + 2) 0 = 62
    · have hl2 : q + 2 < b.length := nz_lt (by rw [h6]; decide)
      rw [if_pos h6, if_pos h6, f111_e h2 (by omega) (by omega)]
      by_cases hk : ns.length < R
      · rw [if_pos hk, if_pos hk, cVo]
        dsimp only
        have h3 := h2.mv (q := q + 3)
        have ag3 : agD σ (uI (uI (uI σ 1029 2 (Int32.ofNat (q + 1))) 1029 2 (Int32.ofNat (q + 2))) 1029 2 (Int32.ofNat (q + 3))) := ag2.uI (by decide)
        have w1 : ((b.drop f).take (q - f)).length = q - f := by rw [List.length_take, List.length_drop]; omega
        have h4 := h3.putW (q := f) (n := q - f) (by omega)
        have hw2 : ws ++ (b.drop f).take (q - f) = flW (ns ++ [(4, lv, [], (b.drop f).take (q - f))]) := by
          rw [flW_snoc, ← hd.1]
          simp [wOf]
        have k1 := f124_c (F := F) (x := (4, lv, [], (b.drop f).take (q - f))) h4 (by omega)
        have k2 : f124 F 1016 4 (Int32.ofNat lv) 0 (Int32.ofNat ((b.drop f).take (q - f)).length) _ = _ := k1
        rw [w1] at k2
        refine ⟨_, ?_, (ag3.rPut (Or.inr rfl)).dAdd, h4.add (x := (4, lv, [], (b.drop f).take (q - f))) hw2, ⟨hw2, ?_, ?_, ?_⟩, by omega, by omega⟩
        · unfold f109_111
          rw [f110_e hb h2 (by omega), if_pos h6, cVo, show q + 2 + 1 = q + 3 from rfl, ltE, h3.2.2.2.2.1.1, f95_r (r := 1027) (r2 := 1001) (l := ws) (l2 := b) (Or.inr (Or.inr (Or.inr (Or.inr rfl)))) (Or.inl rfl) h3.2.2.2.2.1 (rowL_buf.mpr h3.1) (by rw [show capR 1027 = 120 by decide]; omega) (Nat.le_refl _) (by omega) (by rw [show capR 1001 = 120 by decide]; omega), cVo, k2, cVo]
          dsimp only
          rw [w1]
        · rw [flT_snoc, ← hd.2]
          simp [tOf]
        · rw [List.length_append, w1]
          omega
        · omega
      · rw [if_neg hk, if_neg hk, cVt]
        exact ⟨_, rfl, ag2⟩
    · rw [if_neg h6, if_neg h6]
      unfold f109_111
      rw [f110_e hb h2 (by omega), if_neg h6, cVt]
      exact ⟨_, rfl, ag2⟩
theorem f109_e {lv p : Nat} {σ : St} (hF : 500 ≤ F) (hb : b.length ≤ 120) (hO : okB b) (h : cRd σ b p R ns ws ts) (hd : dOk p ns ws ts) (hR : R ≤ 30) (hn : ns.length ≤ 30) (h60 : b.getD p 0 = 60) (h33 : b.getD (p + 1) 0 = 33) :
    match sCm b R ns.length p with
    | .inl c => ∃ τ, f109 F (Int32.ofNat lv) σ = oT c τ ∧ agD σ τ
    | .inr x => ∃ τ, f109 F (Int32.ofNat lv) σ = oV τ ∧ agD σ τ ∧ cRd τ b x.1 R (ns ++ [(4, lv, [], x.2)]) (ws ++ x.2) ts ∧ dOk x.1 (ns ++ [(4, lv, [], x.2)]) (ws ++ x.2) ts ∧ p ≤ x.1 ∧ x.1 ≤ b.length := by
  have hl1 : p + 1 < b.length := nz_lt (by rw [h33]; decide)
  have h1 := h.mv (q := p + 1)
  have h2 := h1.mv (q := p + 2)
  have h3 := h2.mv (q := p + 3)
  have h4 := h3.mv (q := p + 4)
  have ag1 : agD σ (uI σ 1029 2 (Int32.ofNat (p + 1))) := agD.refl.uI (by decide)
  have ag2 : agD σ (uI (uI σ 1029 2 (Int32.ofNat (p + 1))) 1029 2 (Int32.ofNat (p + 2))) := ag1.uI (by decide)
  have ag3 : agD σ (uI (uI (uI σ 1029 2 (Int32.ofNat (p + 1))) 1029 2 (Int32.ofNat (p + 2))) 1029 2 (Int32.ofNat (p + 3))) := ag2.uI (by decide)
  have ag4 : agD σ (uI (uI (uI (uI σ 1029 2 (Int32.ofNat (p + 1))) 1029 2 (Int32.ofNat (p + 2))) 1029 2 (Int32.ofNat (p + 3))) 1029 2 (Int32.ofNat (p + 4))) := ag3.uI (by decide)
  unfold f109 sCm
  rw [f110_e hb h (by omega), if_pos h60, cVo, f110_e hb h1 (by omega), if_pos h33, cVo, show p + 1 + 1 = p + 2 from rfl, f110_e hb h2 (by omega)]
  by_cases h45 : b.getD (p + 2) 0 = 45
  · rw [if_pos h45, cVo, show p + 2 + 1 = p + 3 from rfl, f110_e hb h3 (by omega)]
    by_cases h45b : b.getD (p + 3) 0 = 45
    · have hl3 : p + 3 < b.length := nz_lt (by rw [h45b]; decide)
      rw [if_pos h45b, cVo, show p + 3 + 1 = p + 4 from rfl, if_pos (show b.getD (p + 2) 0 = 45 ∧ b.getD (p + 3) 0 = 45 from ⟨h45, h45b⟩), ltE, h4.2.1]
      obtain ⟨k, hk2⟩ : ∃ k, F = k + 200 := ⟨F - 200, by omega⟩
      have a0 := f109_29_e (F := F) (lv := lv) (f := p + 4) hF hb hO 200 k (p + 4) _ h4 (by omega) (by omega)
      have a1 : ∀ G, G = k + 200 → ∃ τ, f109_29 F G (Int32.ofNat lv) (Int32.ofNat (p + 4)) (uI (uI (uI (uI σ 1029 2 (Int32.ofNat (p + 1))) 1029 2 (Int32.ofNat (p + 2))) 1029 2 (Int32.ofNat (p + 3))) 1029 2 (Int32.ofNat (p + 4))) = f109_72 F (Int32.ofNat lv) (Int32.ofNat (p + 4)) τ ∧ agD (uI (uI (uI (uI σ 1029 2 (Int32.ofNat (p + 1))) 1029 2 (Int32.ofNat (p + 2))) 1029 2 (Int32.ofNat (p + 3))) 1029 2 (Int32.ofNat (p + 4))) τ ∧ cRd τ b (dsh b 200 (p + 4)) R ns ws ts := fun G hG => by
        rw [hG]
        exact a0
      obtain ⟨τ, e1, e2, e3⟩ := a1 F hk2
      rw [e1]
      have g1 := dsh_ge (b := b) 200 (p + 4)
      have g2 := dsh_le (b := b) 200 (p + 4) (by omega)
      have g3 := dsh_st (b := b) 200 (p + 4) (by omega)
      have m := f109_72_e (F := F) (lv := lv) (f := p + 4) hb e3 ⟨hd.1, hd.2.1⟩ (by have := hd.2.2.1; omega) (by have := hd.2.2.2; omega) hR hn g1 g2 g3
      generalize (if b.getD (dsh b 200 (p + 4)) 0 = 0 then (.inl 10 : Nat ⊕ (Nat × List Int32)) else if b.getD (dsh b 200 (p + 4) + 2) 0 = 62 then (if ns.length < R then .inr (dsh b 200 (p + 4) + 3, (b.drop (p + 4)).take (dsh b 200 (p + 4) - (p + 4))) else .inl 11) else .inl 10) = r at m ⊢
      cases r with
      | inl c =>
        obtain ⟨υ, m1, m2⟩ := m
        exact ⟨υ, m1, (ag4.trans e2).trans m2⟩
      | inr x =>
        obtain ⟨υ, m1, m2, m3, m4, m5, m6⟩ := m
        exact ⟨υ, m1, (ag4.trans e2).trans m2, m3, m4, by omega, m6⟩
    · rw [if_neg h45b, cVt, if_neg (show ¬ (b.getD (p + 2) 0 = 45 ∧ b.getD (p + 3) 0 = 45) from fun hh => h45b hh.2)]
      exact ⟨_, rfl, ag3⟩
  · rw [if_neg h45, cVt, if_neg (show ¬ (b.getD (p + 2) 0 = 45 ∧ b.getD (p + 3) 0 = 45) from fun hh => h45 hh.1)]
    exact ⟨_, rfl, ag2⟩
end CMT
