/-! THE CLASS READS AN ATTRIBUTE -/
/-- reading an attribute at p, where a name begins; prev: the attributes before it -/
def sAt (b : List Int32) (R k p : Nat) (prev : List Nd) : Nat ⊕ (Nat × List Int32 × List Int32) :=
  if dup prev (stre b p (nmE b p - p)) = true then .inl 10
  else if b.getD (nmE b p) 0 = 61 then (if b.getD (nmE b p + 1) 0 = 34 ∨ b.getD (nmE b p + 1) 0 = 39 then (match rdT b (stQ (b.getD (nmE b p + 1) 0)) 200 (nmE b p + 2) with
    | none => .inl 10
    | some x => if k < R then .inr (x.1 + 1, stre b p (nmE b p - p), x.2) else .inl 11) else .inl 10)
  else .inl 10
section ATR
variable {F R lv : Nat} {b : List Int32} {ns : List Nd}
theorem f115_158_e {σ : St} {q n : Nat} {nm cs ws ts : List Int32} {qu : Int32} (hb : b.length ≤ 120) (h : cRd σ b q R ns ws ts) (hw : ws = flW ns ++ nm ++ cs) (hts : ts = flT ns) (hwl : ws.length ≤ q) (htl : ts.length ≤ q) (hR : R ≤ 30) (hn : ns.length ≤ 30) (hq : q < b.length) (hqu : b.getD q 0 = qu) (hnm : nm.length = n) :
    if ns.length < R then ∃ τ, f115_158 F (Int32.ofNat lv) (Int32.ofNat n) qu (Int32.ofNat cs.length) σ = oV τ ∧ agD σ τ ∧ cRd τ b (q + 1) R (ns ++ [(2, lv, nm, cs)]) ws ts ∧ dOk (q + 1) (ns ++ [(2, lv, nm, cs)]) ws ts
    else ∃ τ, f115_158 F (Int32.ofNat lv) (Int32.ofNat n) qu (Int32.ofNat cs.length) σ = oT 11 τ ∧ agD σ τ := by
  unfold f115_158
  rw [f111_e h (by omega) (by omega)]
  by_cases hk : ns.length < R
  · rw [if_pos hk, if_pos hk, cVo, f110_e hb h (by omega), if_pos hqu, cVo]
    have h1 := h.mv (q := q + 1)
    have ag1 : agD σ (uI σ 1029 2 (Int32.ofNat (q + 1))) := agD.refl.uI (by decide)
    have hw2 : ws = flW (ns ++ [(2, lv, nm, cs)]) := by
      rw [flW_snoc, hw]
      simp [wOf]
    have k1 := f124_c (F := F) (x := (2, lv, nm, cs)) h1 (by omega)
    have k2 : f124 F 1016 2 (Int32.ofNat lv) (Int32.ofNat nm.length) (Int32.ofNat cs.length) _ = _ := k1
    rw [hnm] at k2
    refine ⟨_, ?_, ag1.dAdd, h1.add (x := (2, lv, nm, cs)) hw2, ⟨hw2, ?_, by omega, by omega⟩⟩
    · rw [k2, cVo]
      dsimp only
      rw [hnm]
    · rw [flT_snoc, hts]
      simp [tOf]
  · rw [if_neg hk, if_neg hk, cVt]
    exact ⟨σ, rfl, agD.refl⟩
theorem f115_75_e {σ : St} {p e : Nat} {ws ts : List Int32} (hF : 500 ≤ F) (hb : b.length ≤ 120) (hO : okB b) (h : cRd σ b (e + 1) R ns ws ts) (hd : dOk p ns ws ts) (hR : R ≤ 30) (hn : ns.length ≤ 30) (hpe : p < e) (he : e + 1 < b.length) :
    match rdT b (stQ (b.getD (e + 1) 0)) 200 (e + 2) with
    | none => ∃ τ, f115_75 F (Int32.ofNat lv) (Int32.ofNat p) (Int32.ofNat (e - p)) (b.getD (e + 1) 0) σ = oT 10 τ ∧ agD σ τ
    | some x => if ns.length < R then ∃ τ, f115_75 F (Int32.ofNat lv) (Int32.ofNat p) (Int32.ofNat (e - p)) (b.getD (e + 1) 0) σ = oV τ ∧ agD σ τ ∧ (∃ ws', cRd τ b (x.1 + 1) R (ns ++ [(2, lv, stre b p (e - p), x.2)]) ws' ts ∧ dOk (x.1 + 1) (ns ++ [(2, lv, stre b p (e - p), x.2)]) ws' ts) ∧ e + 2 ≤ x.1 ∧ x.1 < b.length
      else ∃ τ, f115_75 F (Int32.ofNat lv) (Int32.ofNat p) (Int32.ofNat (e - p)) (b.getD (e + 1) 0) σ = oT 11 τ ∧ agD σ τ := by
  have h1 := h.mv (q := e + 2)
  have ag1 : agD σ (uI σ 1029 2 (Int32.ofNat (e + 2))) := agD.refl.uI (by decide)
  have w1 : (stre b p (e - p)).length = e - p := stre_len (by omega)
  have h2 := h1.putW (q := p) (n := e - p) (by omega)
  have ag2 : agD σ (rPut (uI σ 1029 2 (Int32.ofNat (e + 2))) 1027 1001 ws.length p (e - p) ws.length) := ag1.rPut (Or.inr rfl)
  have hwl := hd.2.2.1
  have htl := hd.2.2.2
  unfold f115_75
  rw [ltE, h.2.1, oN_p1, show e + 1 + 1 = e + 2 from rfl, ltE, ltE, h1.2.2.2.2.1.1, f95_r (r := 1027) (r2 := 1001) (l := ws) (l2 := b) (Or.inr (Or.inr (Or.inr (Or.inr rfl)))) (Or.inl rfl) h1.2.2.2.2.1 (rowL_buf.mpr h1.1) (by rw [show capR 1027 = 120 by decide]; omega) (Nat.le_refl _) (by omega) (by rw [show capR 1001 = 120 by decide]; omega), cVo]
  obtain ⟨k, hk2⟩ : ∃ k, F = k + 200 := ⟨F - 200, by omega⟩
  have a0 := f115_115_e (F := F) (lv := lv) (qu := b.getD (e + 1) 0) (nl := Int32.ofNat (e - p)) hF hb hO 200 k (e + 2) 0 _ _ h2 (by omega) (by omega) (by omega) (by rw [List.length_append]; have : ((b.drop p).take (e - p)).length = e - p := w1; omega)
  rw [← hk2] at a0
  rcases a0 with ⟨r1, τ, r2, r3⟩ | ⟨q, cs, τ, r1, r2, r3, r4, r5, r6, r7⟩
  · rw [r1]
    exact ⟨τ, r2, ag2.trans r3⟩
  · rw [r1]
    dsimp only
    rw [Nat.zero_add] at r2
    have hql : q < b.length := nz_lt (by rw [r7]; exact okB_nz hO he)
    have wl : (ws ++ (b.drop p).take (e - p) ++ cs).length = ws.length + (e - p) + cs.length := by
      rw [List.length_append, List.length_append]
      have : ((b.drop p).take (e - p)).length = e - p := w1
      omega
    have m := f115_158_e (F := F) (lv := lv) (n := e - p) (nm := stre b p (e - p)) (cs := cs) (qu := b.getD (e + 1) 0) hb r4 (by rw [← hd.1]; rfl) hd.2.1 (by rw [wl]; omega) (by omega) hR hn hql r7 w1
    by_cases hk : ns.length < R
    · rw [if_pos hk] at m ⊢
      obtain ⟨υ, m1, m2, m3, m4⟩ := m
      exact ⟨υ, r2.trans m1, (ag2.trans r3).trans m2, ⟨_, m3, m4⟩, by omega, hql⟩
    · rw [if_neg hk] at m ⊢
      obtain ⟨υ, m1, m2⟩ := m
      exact ⟨υ, r2.trans m1, (ag2.trans r3).trans m2⟩
/-- an attribute; fa: the number of its element's first one -/
theorem f115_e {σ : St} {p fa : Nat} {ws ts : List Int32} (hF : 5000 ≤ F) (hb : b.length ≤ 120) (hO : okB b) (h : cRd σ b p R ns ws ts) (hd : dOk p ns ws ts) (hR : R ≤ 30) (hn : ns.length ≤ 30) (hfa : 1 ≤ fa) (hfl : fa ≤ ns.length) (hlet : isLet (b.getD p 0) = true) :
    match sAt b R ns.length p (ns.drop fa) with
    | .inl c => ∃ τ, f115 F (Int32.ofNat lv) (Int32.ofNat fa) σ = oT c τ ∧ agD σ τ
    | .inr x => ∃ τ, f115 F (Int32.ofNat lv) (Int32.ofNat fa) σ = oV τ ∧ agD σ τ ∧ (∃ ws', cRd τ b x.1 R (ns ++ [(2, lv, x.2.1, x.2.2)]) ws' ts ∧ dOk x.1 (ns ++ [(2, lv, x.2.1, x.2.2)]) ws' ts) ∧ p < x.1 ∧ x.1 ≤ b.length := by
  have hp := let_lt hlet
  have g0 : p < nmE b p := by
    unfold nmE
    rw [if_pos hlet]
    have := skp_ge (f := isNam) (b := b) (p := p + 1)
    omega
  have g2 := nmE_le (b := b) (p := p) (by omega)
  have h1 := h.mv (q := nmE b p)
  have ag1 : agD σ (uI σ 1029 2 (Int32.ofNat (nmE b p))) := agD.refl.uI (by decide)
  have hwl := hd.2.2.1
  unfold f115 sAt
  rw [ltE, h.2.1, f113_e (by omega) hb h (by omega), if_neg (show ¬ nmE b p = p by omega), cIo, f116_e hF hb h1 hd.1 (by omega) hn (by omega) hfa hfl, cIo]
  by_cases hdp : dup (ns.drop fa) (stre b p (nmE b p - p)) = true
  · rw [if_pos hdp, hdp, if_neg (show ¬ b2i true = 0 by decide)]
    exact ⟨_, rfl, ag1⟩
  · rw [if_neg hdp]
    rw [Bool.not_eq_true] at hdp
    rw [hdp, if_pos b2i_f, f110_e hb h1 (by omega)]
    by_cases h61 : b.getD (nmE b p) 0 = 61
    · have h2 := h1.mv (q := nmE b p + 1)
      have ag2 : agD σ (uI (uI σ 1029 2 (Int32.ofNat (nmE b p))) 1029 2 (Int32.ofNat (nmE b p + 1))) := ag1.uI (by decide)
      rw [if_pos h61, if_pos h61, cVo, ltE, h2.2.1, f92_e h2.1 hb (by omega), cIo]
      by_cases hq : b.getD (nmE b p + 1) 0 = 34 ∨ b.getD (nmE b p + 1) 0 = 39
      · have hl1 : nmE b p + 1 < b.length := nz_lt (by rcases hq with hq | hq <;> rw [hq] <;> decide)
        have m := f115_75_e (F := F) (lv := lv) (by omega) hb hO h2 hd hR hn g0 hl1
        have e1 : (if b.getD (nmE b p + 1) 0 = 34 then f115_75 F (Int32.ofNat lv) (Int32.ofNat p) (Int32.ofNat (nmE b p - p)) (b.getD (nmE b p + 1) 0) (uI (uI σ 1029 2 (Int32.ofNat (nmE b p))) 1029 2 (Int32.ofNat (nmE b p + 1))) else if b.getD (nmE b p + 1) 0 = 39 then f115_75 F (Int32.ofNat lv) (Int32.ofNat p) (Int32.ofNat (nmE b p - p)) (b.getD (nmE b p + 1) 0) (uI (uI σ 1029 2 (Int32.ofNat (nmE b p))) 1029 2 (Int32.ofNat (nmE b p + 1))) else oT 10 (uI (uI σ 1029 2 (Int32.ofNat (nmE b p))) 1029 2 (Int32.ofNat (nmE b p + 1)))) = f115_75 F (Int32.ofNat lv) (Int32.ofNat p) (Int32.ofNat (nmE b p - p)) (b.getD (nmE b p + 1) 0) (uI (uI σ 1029 2 (Int32.ofNat (nmE b p))) 1029 2 (Int32.ofNat (nmE b p + 1))) := by
          by_cases q4 : b.getD (nmE b p + 1) 0 = 34
          · rw [if_pos q4]
          · rw [if_neg q4, if_pos (hq.elim (fun hh => absurd hh q4) id)]
        rw [e1, if_pos hq]
        cases hr : rdT b (stQ (b.getD (nmE b p + 1) 0)) 200 (nmE b p + 2) with
        | none =>
          rw [hr] at m
          obtain ⟨τ, m1, m2⟩ := m
          exact ⟨τ, m1, ag2.trans m2⟩
        | some x =>
          rw [hr] at m
          dsimp only at m ⊢
          by_cases hk : ns.length < R
          · rw [if_pos hk] at m ⊢
            obtain ⟨τ, m1, m2, m3, m4, m5⟩ := m
            exact ⟨τ, m1, ag2.trans m2, m3, by omega, by omega⟩
          · rw [if_neg hk] at m ⊢
            obtain ⟨τ, m1, m2⟩ := m
            exact ⟨τ, m1, ag2.trans m2⟩
      · rw [if_neg hq, if_neg (fun hh => hq (Or.inl hh)), if_neg (fun hh => hq (Or.inr hh))]
        exact ⟨_, rfl, ag2⟩
    · rw [if_neg h61, if_neg h61, cVt]
      exact ⟨_, rfl, ag1⟩
end ATR
