/-! WHAT BEGINS AT A <, and the end of an element -/
abbrev uns (b : List Int32) (p : Nat) : Prop := b.getD (p + 1) 0 = 63 ∨ (b.getD (p + 1) 0 = 33 ∧ (b.getD (p + 2) 0 = 68 ∨ b.getD (p + 2) 0 = 91))
def hnm (b : List Int32) (p : Nat) : List Int32 := stre b (p + 1) (nmE b (p + 1) - (p + 1))
def sCl (b : List Int32) (p : Nat) (nm : List Int32) : Option Nat := if stre b (p + 2) (nmE b (p + 2) - (p + 2)) = nm then (if b.getD (skp isBl b (nmE b (p + 2))) 0 = 62 then some (skp isBl b (nmE b (p + 2)) + 1) else none) else none
theorem sCl_ok {b : List Int32} {p q : Nat} {nm : List Int32} (h : sCl b p nm = some q) : p < q ∧ q ≤ b.length := by
  have g1 := nmE_ge (b := b) (p := p + 2)
  have g2 := skp_ge (f := isBl) (b := b) (p := nmE b (p + 2))
  unfold sCl at h
  split at h
  · split at h
    · rename_i h62
      injection h with h
      have k2 : skp isBl b (nmE b (p + 2)) < b.length := nz_lt (by rw [h62]; decide)
      omega
    · cases h
  · cases h
section ODD
variable {b : List Int32} {p : Nat}
theorem spl_10 : spl b p 10 0 (slen 10) = decide (b.getD p 0 = 60 ∧ b.getD (p + 1) 0 = 63) := by
  rw [show slen 10 = 2 by decide +kernel]
  simp only [spl, show schr 10 0 = 60 by decide +kernel, show schr 10 1 = 63 by decide +kernel, Nat.zero_add, Nat.add_zero, Bool.decide_and, Bool.and_true]
theorem spl_11 : spl b p 11 0 (slen 11) = decide (b.getD p 0 = 60 ∧ b.getD (p + 1) 0 = 33 ∧ b.getD (p + 2) 0 = 68) := by
  rw [show slen 11 = 3 by decide +kernel]
  simp only [spl, show schr 11 0 = 60 by decide +kernel, show schr 11 1 = 33 by decide +kernel, show schr 11 2 = 68 by decide +kernel, Nat.zero_add, Nat.add_zero, Bool.decide_and, Bool.and_true]
theorem spl_12 : spl b p 12 0 (slen 12) = decide (b.getD p 0 = 60 ∧ b.getD (p + 1) 0 = 33 ∧ b.getD (p + 2) 0 = 91) := by
  rw [show slen 12 = 3 by decide +kernel]
  simp only [spl, show schr 12 0 = 60 by decide +kernel, show schr 12 1 = 33 by decide +kernel, show schr 12 2 = 91 by decide +kernel, Nat.zero_add, Nat.add_zero, Bool.decide_and, Bool.and_true]
theorem spl_14 : spl b p 14 0 (slen 14) = decide (b.getD p 0 = 60 ∧ b.getD (p + 1) 0 = 33) := by
  rw [show slen 14 = 2 by decide +kernel]
  simp only [spl, show schr 14 0 = 60 by decide +kernel, show schr 14 1 = 33 by decide +kernel, Nat.zero_add, Nat.add_zero, Bool.decide_and, Bool.and_true]
theorem spl_29 : spl b p 29 0 (slen 29) = decide (b.getD p 0 = 60 ∧ b.getD (p + 1) 0 = 47) := by
  rw [show slen 29 = 2 by decide +kernel]
  simp only [spl, show schr 29 0 = 60 by decide +kernel, show schr 29 1 = 47 by decide +kernel, Nat.zero_add, Nat.add_zero, Bool.decide_and, Bool.and_true]
end ODD
section OD2
variable {F R p : Nat} {b : List Int32} {σ : St} {ns : List Nd} {ws ts : List Int32} {ds : List Md} {cs : List Int32}
theorem f108_u (hF : 500 ≤ F) (hb : b.length ≤ 120) (h : cRd σ b p R ns ws ts) (hp : p ≤ 1000) : f108 F σ = if b.getD p 0 = 60 ∧ uns b p then oT 13 σ else oI (b2i (decide (b.getD p 0 = 60 ∧ b.getD (p + 1) 0 = 33))) σ := by
  rw [f108_e hF hb h hp, spl_10, spl_11, spl_12, spl_14]
  by_cases hu : b.getD p 0 = 60 ∧ uns b p
  · rw [if_pos hu]
    obtain ⟨h0, h1 | ⟨h1, h2 | h2⟩⟩ := hu
    · rw [if_pos (Or.inl (decide_eq_true ⟨h0, h1⟩))]
    · rw [if_pos (Or.inr (Or.inl (decide_eq_true ⟨h0, h1, h2⟩)))]
    · rw [if_pos (Or.inr (Or.inr (decide_eq_true ⟨h0, h1, h2⟩)))]
  · rw [if_neg hu, if_neg]
    rintro (k | k | k)
    · have g := of_decide_eq_true k
      exact hu ⟨g.1, Or.inl g.2⟩
    · have g := of_decide_eq_true k
      exact hu ⟨g.1, Or.inr ⟨g.2.1, Or.inl g.2.2⟩⟩
    · have g := of_decide_eq_true k
      exact hu ⟨g.1, Or.inr ⟨g.2.1, Or.inr g.2.2⟩⟩
/-- the reference's oddity -/
def odC (b : List Int32) (p : Nat) (el : Bool) : Nat := if uns b p then 13 else if b.getD (p + 1) 0 = 33 then (if b.getD (p + 2) 0 = 45 ∧ b.getD (p + 3) 0 = 45 then 0 else 10) else if el = true ∧ isLet (b.getD (p + 1) 0) = true then 0 else 10
theorem f155_e {el : Bool} (hb : b.length ≤ 120) (h : mRd σ b p ds cs) (hp : p ≤ 1000) : f155 F (b2i el) σ = oI (if odC b p el = 0 then 0 else wr (odC b p el)) σ := by
  unfold f155
  rw [ltE, h.2.1, oN_p1, f152_e h.1 hb (by omega), cIo, ltE, h.2.1, oN_p2, f152_e h.1 hb (by omega), cIo]
  by_cases h63 : b.getD (p + 1) 0 = 63
  · rw [if_pos h63, show odC b p el = 13 from if_pos (Or.inl h63)]
    rfl
  · rw [if_neg h63]
    by_cases h33 : b.getD (p + 1) 0 = 33
    · rw [if_pos h33]
      by_cases h68 : b.getD (p + 2) 0 = 68
      · rw [if_pos h68, show odC b p el = 13 from if_pos (Or.inr ⟨h33, Or.inl h68⟩)]
        rfl
      · rw [if_neg h68]
        by_cases h91 : b.getD (p + 2) 0 = 91
        · rw [if_pos h91, show odC b p el = 13 from if_pos (Or.inr ⟨h33, Or.inr h91⟩)]
          rfl
        · have hu : ¬ uns b p := by
            rintro (k | ⟨_, k | k⟩)
            · exact h63 k
            · exact h68 k
            · exact h91 k
          rw [if_neg h91]
          unfold f155_48
          rw [if_pos h33]
          by_cases h45 : b.getD (p + 2) 0 = 45
          · rw [if_pos h45, ltE, h.2.1, oN_p3, f152_e h.1 hb (by omega), cIo]
            by_cases h45b : b.getD (p + 3) 0 = 45
            · rw [if_pos h45b, show odC b p el = 0 by unfold odC; rw [if_neg hu, if_pos h33, if_pos ⟨h45, h45b⟩]]
              rfl
            · rw [if_neg h45b, show odC b p el = 10 by unfold odC; rw [if_neg hu, if_pos h33, if_neg (fun hh => h45b hh.2)]]
              rfl
          · rw [if_neg h45, show odC b p el = 10 by unfold odC; rw [if_neg hu, if_pos h33, if_neg (fun hh => h45 hh.1)]]
            rfl
    · have hu : ¬ uns b p := by
        rintro (k | ⟨k, _⟩)
        · exact h63 k
        · exact h33 k
      rw [if_neg h33]
      unfold f155_48
      rw [if_neg h33]
      cases el with
      | false =>
        rw [if_pos b2i_f, show odC b p false = 10 by unfold odC; rw [if_neg hu, if_neg h33, if_neg (fun hh => Bool.false_ne_true hh.1)]]
        rfl
      | true =>
        rw [if_neg (show ¬ b2i true = 0 by decide), f156_e, cIo]
        by_cases hl : isLet (b.getD (p + 1) 0) = true
        · rw [show odC b p true = 0 by unfold odC; rw [if_neg hu, if_neg h33, if_pos ⟨rfl, hl⟩], hl, if_neg (show ¬ b2i true = 0 by decide)]
          rfl
        · rw [show odC b p true = 10 by unfold odC; rw [if_neg hu, if_neg h33, if_neg (fun hh => hl hh.2)]]
          rw [Bool.not_eq_true] at hl
          rw [hl, if_pos b2i_f]
          rfl
/-- the class's end tag -/
theorem f120_e {f n : Nat} (hF : 5000 ≤ F) (hb : b.length ≤ 120) (h : cRd σ b p R ns ws ts) (hd : dOk p ns ws ts) (h60 : b.getD p 0 = 60) (h47 : b.getD (p + 1) 0 = 47) (hf : f + n ≤ b.length) (hn : 0 < n) :
    match sCl b p (stre b f n) with
    | none => ∃ τ, f120 F (Int32.ofNat f) (Int32.ofNat n) σ = oT 10 τ ∧ agD σ τ
    | some q => ∃ τ, f120 F (Int32.ofNat f) (Int32.ofNat n) σ = oV τ ∧ agD σ τ ∧ cRd τ b q R ns ws ts ∧ dOk q ns ws ts := by
  have hl1 : p + 1 < b.length := nz_lt (by rw [h47]; decide)
  have h1 := h.mv (q := p + 1)
  have h2 := h1.mv (q := p + 2)
  have ag1 : agD σ (uI σ 1029 2 (Int32.ofNat (p + 1))) := agD.refl.uI (by decide)
  have ag2 : agD σ (uI (uI σ 1029 2 (Int32.ofNat (p + 1))) 1029 2 (Int32.ofNat (p + 2))) := ag1.uI (by decide)
  have g0 := nmE_ge (b := b) (p := p + 2)
  have g1 := nmE_le (b := b) (p := p + 2) (by omega)
  have g2 := skp_le (f := isBl) g1
  have g3 := skp_ge (f := isBl) (b := b) (p := nmE b (p + 2))
  have hwl := hd.2.2.1
  have htl := hd.2.2.2
  unfold f120 sCl
  rw [f110_e hb h (by omega), if_pos h60, cVo, f110_e hb h1 (by omega), if_pos h47, cVo, show p + 1 + 1 = p + 2 from rfl, ltE, h2.2.1]
  generalize uI (uI σ 1029 2 (Int32.ofNat (p + 1))) 1029 2 (Int32.ofNat (p + 2)) = σ2 at h2 ag2 ⊢
  rw [f113_e (by omega) hb h2 (by omega)]
  by_cases hz : nmE b (p + 2) = p + 2
  · have e1 : ¬ stre b (p + 2) (nmE b (p + 2) - (p + 2)) = stre b f n := by
      intro hh
      have k1 := congrArg List.length hh
      rw [stre_len (by omega), stre_len hf] at k1
      omega
    rw [if_pos hz, cIt, if_neg e1]
    exact ⟨_, rfl, ag2⟩
  · have h3 := h2.mv (q := nmE b (p + 2))
    have ag3 := ag2.uI (a := 1029) (j := 2) (x := Int32.ofNat (nmE b (p + 2))) (by decide)
    rw [if_neg hz, cIo]
    generalize uI σ2 1029 2 (Int32.ofNat (nmE b (p + 2))) = σ3 at h3 ag3 ⊢
    rw [f97_e hF (Or.inl rfl) (Or.inl rfl) (rowL_buf.mpr h3.1) (rowL_buf.mpr h3.1) (by rw [show capR 1001 = 120 by decide]; omega) (by rw [show capR 1001 = 120 by decide]; omega) hf (show p + 2 + (nmE b (p + 2) - (p + 2)) ≤ b.length by omega), cIo, sam_eq hf (show p + 2 + (nmE b (p + 2) - (p + 2)) ≤ b.length by omega)]
    by_cases he : stre b (p + 2) (nmE b (p + 2) - (p + 2)) = stre b f n
    · have h4 := h3.mv (q := skp isBl b (nmE b (p + 2)))
      have ag4 := ag3.uI (a := 1029) (j := 2) (x := Int32.ofNat (skp isBl b (nmE b (p + 2)))) (by decide)
      rw [if_pos he, decide_eq_true he.symm, if_neg (show ¬ b2i true = 0 by decide), ltE, h3.2.1, ltE, h3.1.1, f93_e (by omega) hb h3.1 g1, cIo, ltE, f110_e hb h4 (by omega)]
      by_cases h62 : b.getD (skp isBl b (nmE b (p + 2))) 0 = 62
      · rw [if_pos h62, if_pos h62, cVo]
        exact ⟨_, rfl, ag4.uI (by decide), h4.mv (q := skp isBl b (nmE b (p + 2)) + 1), hd.1, hd.2.1, by omega, by omega⟩
      · rw [if_neg h62, if_neg h62, cVt]
        exact ⟨_, rfl, ag4⟩
    · rw [if_neg he, decide_eq_false (fun hh => he hh.symm), if_pos b2i_f]
      exact ⟨_, rfl, ag3⟩
/-- the reference's -/
theorem f171_e {i : Nat} {x : Md} (hF : 5000 ≤ F) (hb : b.length ≤ 120) (h : mRd σ b p ds cs) (hd : ds.length ≤ 30) (hx : ds[i]? = some x) (hxb : x.2.2.1 + x.2.2.2.1 ≤ b.length) (h47 : b.getD (p + 1) 0 = 47) :
    match sCl b p (stre b x.2.2.1 x.2.2.2.1) with
    | none => ∃ τ, f171 F (Int32.ofNat i) σ = oI 0 τ ∧ agM σ τ ∧ τ.1 1315 33 = 1
    | some q => ∃ τ, f171 F (Int32.ofNat i) σ = oI 1 τ ∧ agM σ τ ∧ mRd τ b q ds cs := by
  have hl1 : p + 1 < b.length := nz_lt (by rw [h47]; decide)
  have g0 := nmE_ge (b := b) (p := p + 2)
  have g1 := nmE_le (b := b) (p := p + 2) (by omega)
  have g2 := skp_le (f := isBl) g1
  have h1 := h.mv (q := nmE b (p + 2))
  have ag1 : agM σ (uI σ 1315 32 (Int32.ofNat (nmE b (p + 2)))) := agM.refl.uF (Or.inr (Or.inr (Or.inl rfl)))
  have hi : i < ds.length := (List.getElem?_eq_some_iff.mp hx).1
  have q1 := oN_n (show i < 2147483648 by omega)
  have i1 : inB (Int32.ofNat i) 31 := oN_rg (by omega) (by decide)
  unfold f171 sCl
  rw [ltE, h.2.1, oN_p2, f163_e (by omega) hb h.1 (by omega), cIo, ltE]
  generalize uI σ 1315 32 (Int32.ofNat (nmE b (p + 2))) = σ1 at h1 ag1 ⊢
  have hh := h1.2.2.2.2.2 i x hx
  rw [if_pos i1, ltE, if_pos i1, ltE, q1, hh.2.2.1, hh.2.2.2.1, oN_sb g0, f166_e (by omega) h1.1 hb (show p + 2 + (nmE b (p + 2) - (p + 2)) ≤ b.length by omega) hxb, cIo, sam_eq (show p + 2 + (nmE b (p + 2) - (p + 2)) ≤ b.length by omega) hxb]
  by_cases he : stre b (p + 2) (nmE b (p + 2) - (p + 2)) = stre b x.2.2.1 x.2.2.2.1
  · have h2 := h1.mv (q := skp isBl b (nmE b (p + 2)))
    have ag2 := ag1.uF (j := 32) (x := Int32.ofNat (skp isBl b (nmE b (p + 2)))) (Or.inr (Or.inr (Or.inl rfl)))
    rw [if_pos he, decide_eq_true he, if_neg (show ¬ b2i true = 0 by decide), f151_e (by omega) hb h1.1 h1.2.1 g1, cVo, f159_e hb h2 (by omega)]
    by_cases h62 : b.getD (skp isBl b (nmE b (p + 2))) 0 = 62
    · rw [if_pos h62, if_pos h62, cIo, if_pos (Or.inr rfl)]
      exact ⟨_, rfl, ag2.uF (Or.inr (Or.inr (Or.inl rfl))), h2.mv (q := skp isBl b (nmE b (p + 2)) + 1)⟩
    · rw [if_neg h62, if_neg h62, cIo, if_pos (Or.inl rfl)]
      exact ⟨_, rfl, ag2.uF (Or.inr (Or.inr (Or.inr rfl))), u_eq⟩
  · rw [if_neg he, decide_eq_false he, if_pos b2i_f, f154_e h1.2.2.1, cIo, if_pos (Or.inl rfl)]
    exact ⟨_, rfl, ag1.uF (Or.inr (Or.inr (Or.inr rfl))), u_eq⟩
end OD2
