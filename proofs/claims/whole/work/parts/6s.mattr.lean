section MA4
variable {F : Nat} {b : List Int32} {ds : List Md}
theorem f165_e {σ : St} {el p lv th : Nat} {cs : List Int32} {prev : List Nd} (hF : 500 ≤ F) (hb : b.length ≤ 120) (hO : okB b) (h : mRd σ b p ds cs) (hd : ds.length ≤ 30) (ht : th ≤ 30) (hc : cs.length ≤ p) (hel : el + 1 ≤ ds.length) (hds : ∀ (i : Nat) (x : Md), ds[i]? = some x → x.2.2.1 + x.2.2.2.1 ≤ b.length) (hlet : isLet (b.getD p 0) = true) (hpr : dup prev (stre b p (nmE b p - p)) = dupM b (ds.drop (el + 1)) (stre b p (nmE b p - p))) :
    match sAt b (30 - th) ds.length p prev with
    | .inl c => ∃ τ, f165 F (Int32.ofNat el) (Int32.ofNat lv) (Int32.ofNat th) σ = oI 0 τ ∧ agM σ τ ∧ τ.1 1315 33 = (if c = 10 then 1 else 3)
    | .inr x => ∃ τ, f165 F (Int32.ofNat el) (Int32.ofNat lv) (Int32.ofNat th) σ = oI 1 τ ∧ agM σ τ ∧ mRd τ b x.1 (ds ++ [(2, lv, p, nmE b p - p, cs.length, x.2.2.length)]) (cs ++ x.2.2) := by
  have hp := let_lt hlet
  have g0 := nmE_ge (b := b) (p := p)
  have g2 := nmE_le (b := b) (p := p) (by omega)
  have h1 := h.mv (q := nmE b p)
  have ag1 : agM σ (uI σ 1315 32 (Int32.ofNat (nmE b p))) := agM.refl.uF (Or.inr (Or.inr (Or.inl rfl)))
  unfold f165 sAt
  rw [ltE, h.2.1, f163_e hF hb h.1 (by omega), cIo, ltE, oN_p1, hpr]
  obtain ⟨k, hk⟩ : ∃ k, F = k + 1 + (ds.length - (el + 1)) := ⟨F - 1 - (ds.length - (el + 1)), by omega⟩
  have a0 := f165_28_l (F := F) (l := Int32.ofNat lv) (th := Int32.ofNat th) (p := p) (e := nmE b p) hF hb h1 hd g0 g2 hds (ds.length - (el + 1)) (k + 1) (el + 1) false (by omega)
  rw [← hk, Bool.false_or, b2i_f] at a0
  rw [a0, f165_28.eq_2, ltE, h1.2.2.2.1, if_neg (show ¬ Int32.ofNat ds.length < Int32.ofNat ds.length from fun hh => by have := (oN_lt (by omega) (by omega)).mp hh; omega)]
  by_cases htw : dupM b (ds.drop (el + 1)) (stre b p (nmE b p - p)) = true
  · rw [if_pos htw, htw, if_neg (show ¬ b2i true = 0 by decide), f154_e h1.2.2.1, cIo, if_pos (Or.inl rfl)]
    exact ⟨_, rfl, ag1.uF (Or.inr (Or.inr (Or.inr rfl))), u_eq⟩
  · rw [if_neg htw]
    rw [Bool.not_eq_true] at htw
    rw [htw, if_pos b2i_f, f159_e hb h1 (by omega)]
    by_cases h61 : b.getD (nmE b p) 0 = 61
    · have h2 := h1.mv (q := nmE b p + 1)
      have ag2 : agM σ (uI (uI σ 1315 32 (Int32.ofNat (nmE b p))) 1315 32 (Int32.ofNat (nmE b p + 1))) := ag1.uF (Or.inr (Or.inr (Or.inl rfl)))
      rw [if_pos h61, if_pos h61, cIo, if_neg (show ¬ (1 : Int32) = 0 by decide), ltE, h2.2.1, f152_e h2.1 hb (by omega), cIo]
      by_cases hq : b.getD (nmE b p + 1) 0 = 34 ∨ b.getD (nmE b p + 1) 0 = 39
      · have hl1 : nmE b p + 1 < b.length := nz_lt (by rcases hq with hq | hq <;> rw [hq] <;> decide)
        have m := f165_133_e (F := F) (lv := lv) (th := th) (p := p) (qu := b.getD (nmE b p + 1) 0) hF hb hO h2 hd ht (by omega) hl1 g0
        have e1 : ∀ (A B : Rs), (if b.getD (nmE b p + 1) 0 = 34 then A else if b.getD (nmE b p + 1) 0 = 39 then A else B) = A := fun A B => by
          by_cases q4 : b.getD (nmE b p + 1) 0 = 34
          · rw [if_pos q4]
          · rw [if_neg q4, if_pos (hq.elim (fun hh => absurd hh q4) id)]
        rw [e1, if_pos hq]
        cases hr : rdT b (stQ (b.getD (nmE b p + 1) 0)) 200 (nmE b p + 2) with
        | none =>
          rw [hr] at m
          obtain ⟨τ, m1, m2, m3⟩ := m
          exact ⟨τ, m1, ag2.trans m2, m3⟩
        | some x =>
          rw [hr] at m
          dsimp only at m ⊢
          by_cases hk2 : ds.length < 30 - th
          · rw [if_pos hk2] at m ⊢
            obtain ⟨τ, m1, m2, m3⟩ := m
            exact ⟨τ, m1, ag2.trans m2, m3⟩
          · rw [if_neg hk2] at m ⊢
            obtain ⟨τ, m1, m2, m3⟩ := m
            exact ⟨τ, m1, ag2.trans m2, m3⟩
      · rw [if_neg hq, if_neg (show ¬ b.getD (nmE b p + 1) 0 = 34 from fun hh => hq (Or.inl hh)), if_neg (show ¬ b.getD (nmE b p + 1) 0 = 39 from fun hh => hq (Or.inr hh)), f154_e h2.2.2.1, cIo, if_pos (Or.inl rfl)]
        exact ⟨_, rfl, ag2.uF (Or.inr (Or.inr (Or.inr rfl))), u_eq⟩
    · rw [if_neg h61, if_neg h61, cIo, if_pos rfl, f154_w u_eq, cIo, if_pos (Or.inl rfl)]
      exact ⟨_, rfl, (ag1.uF (Or.inr (Or.inr (Or.inr rfl)))).uF (Or.inr (Or.inr (Or.inr rfl))), u_eq⟩
end MA4
