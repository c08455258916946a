/-! THE REFERENCE READS A COMMENT -/
section MCM
variable {F : Nat} {b : List Int32} {ds : List Md}
theorem tk_cons {p q : Nat} (hp : p < b.length) (hq : p + 1 ≤ q) : (b.drop p).take (q - p) = b.getD p 0 :: (b.drop (p + 1)).take (q - (p + 1)) := by
  rw [List.drop_eq_getElem_cons hp, show q - p = (q - (p + 1)) + 1 by omega, List.take_succ_cons, getD_lt hp]
theorem f157_15_z {σ : St} {n p : Nat} {cs : List Int32} {l th s : Int32} (hb : b.length ≤ 120) (h : mRd σ b p ds cs) (hp : p ≤ 1000) (hs : b.getD p 0 = 0 ∨ (b.getD p 0 = 45 ∧ b.getD (p + 1) 0 = 45)) : f157_15 F (n + 1) l th s σ = f157_79 F l th s σ := by
  rw [f157_15.eq_2, ltE, h.2.1, f152_e h.1 hb (by omega), cIo]
  by_cases h0 : b.getD p 0 = 0
  · rw [if_pos h0]
  · have hd := hs.elim (fun hh => absurd hh h0) id
    rw [if_neg h0, ltE, h.2.1, f152_e h.1 hb (by omega), cIo, if_pos hd.1, ltE, h.2.1, oN_p1, f152_e h.1 hb (by omega), cIo, if_pos hd.2]
theorem f157_54_e {σ : St} {p : Nat} {cs : List Int32} {l th s : Int32} {kk : Int32 → Int32 → Int32 → St → Rs} (hb : b.length ≤ 120) (h : mRd σ b p ds cs) (hc : cs.length < 122) (hp : p ≤ 1000) : f157_54 F kk l th s σ = kk l th s (uI (mCh σ cs.length (b.getD p 0)) 1315 32 (Int32.ofNat (p + 1))) := by
  unfold f157_54
  rw [ltE, h.2.1, f152_e h.1 hb (by omega), cIo, f158_e h hc, cVo, ltE, (h.ch (c := b.getD p 0)).2.1, oN_p1, ltE]
theorem f157_15_s {σ : St} {n p : Nat} {cs : List Int32} {l th s : Int32} (hb : b.length ≤ 120) (h : mRd σ b p ds cs) (hc : cs.length < 122) (hp : p ≤ 1000) (hs : ¬ (b.getD p 0 = 0 ∨ (b.getD p 0 = 45 ∧ b.getD (p + 1) 0 = 45))) : f157_15 F (n + 1) l th s σ = f157_15 F n l th s (uI (mCh σ cs.length (b.getD p 0)) 1315 32 (Int32.ofNat (p + 1))) := by
  rw [f157_15.eq_2, ltE, h.2.1, f152_e h.1 hb (by omega), cIo, if_neg (fun hh => hs (Or.inl hh)), ltE, h.2.1, f152_e h.1 hb (by omega), cIo]
  by_cases h1 : b.getD p 0 = 45
  · rw [if_pos h1, ltE, h.2.1, oN_p1, f152_e h.1 hb (by omega), cIo, if_neg (fun hh => hs (Or.inr ⟨h1, hh⟩)), f157_54_e hb h hc hp]
  · rw [if_neg h1, f157_54_e hb h hc hp]
theorem f157_15_e {l th s : Int32} (hb : b.length ≤ 120) : ∀ (n k p : Nat) (σ : St) (cs : List Int32), mRd σ b p ds cs → p ≤ b.length → b.length - p < n → cs.length + (b.length - p) ≤ 121 → ∃ τ, f157_15 F (k + n) l th s σ = f157_79 F l th s τ ∧ agM σ τ ∧ mRd τ b (dsh b n p) ds (cs ++ (b.drop p).take (dsh b n p - p)) := by
  intro n
  induction n with
  | zero => intro k p σ cs _ _ h; omega
  | succ n ih =>
    intro k p σ cs h hp hn hc
    rw [← Nat.add_assoc]
    unfold dsh
    by_cases hs : b.getD p 0 = 0 ∨ (b.getD p 0 = 45 ∧ b.getD (p + 1) 0 = 45)
    · rw [if_pos hs]
      refine ⟨σ, f157_15_z hb h (by omega) hs, agM.refl, ?_⟩
      rw [Nat.sub_self, List.take_zero, List.append_nil]
      exact h
    · rw [if_neg hs]
      have hl : p < b.length := nz_lt (fun hh => hs (Or.inl hh))
      rw [f157_15_s hb h (by omega) (by omega) hs]
      have h2 := (h.ch (c := b.getD p 0)).mv (q := p + 1)
      have ag1 : agM σ (uI (mCh σ cs.length (b.getD p 0)) 1315 32 (Int32.ofNat (p + 1))) := (mCh_ag agM.refl).uF (Or.inr (Or.inr (Or.inl rfl)))
      obtain ⟨τ, e1, e2, e3⟩ := ih k (p + 1) _ _ h2 (by omega) (by omega) (by rw [List.length_append, List.length_cons, List.length_nil]; omega)
      refine ⟨τ, e1, ag1.trans e2, ?_⟩
      rw [List.append_assoc] at e3
      rw [tk_cons hl (dsh_ge n (p + 1))]
      exact e3
theorem f157_79_e {σ : St} {q lv th : Nat} {cs es : List Int32} (hb : b.length ≤ 120) (h : mRd σ b q ds (cs ++ es)) (hd : ds.length ≤ 30) (ht : th ≤ 30) (hq : q ≤ b.length) (hs : b.getD q 0 = 0 ∨ (b.getD q 0 = 45 ∧ b.getD (q + 1) 0 = 45)) (hc : (cs ++ es).length ≤ 121) :
    match (if b.getD q 0 = 0 then (.inl 10 : Nat ⊕ (Nat × List Int32)) else if b.getD (q + 2) 0 = 62 then (if ds.length < 30 - th then .inr (q + 3, es) else .inl 11) else .inl 10) with
    | .inl c => ∃ τ, f157_79 F (Int32.ofNat lv) (Int32.ofNat th) (Int32.ofNat cs.length) σ = oI 0 τ ∧ agM σ τ ∧ τ.1 1315 33 = (if c = 10 then 1 else 3)
    | .inr x => ∃ τ, f157_79 F (Int32.ofNat lv) (Int32.ofNat th) (Int32.ofNat cs.length) σ = oI 1 τ ∧ agM σ τ ∧ mRd τ b x.1 (ds ++ [(4, lv, 0, 0, cs.length, x.2.length)]) (cs ++ es) := by
  unfold f157_79
  rw [ltE, h.2.1, f152_e h.1 hb (by omega), cIo]
  by_cases h0 : b.getD q 0 = 0
  · rw [if_pos h0, if_pos h0, f154_e h.2.2.1, cIo, if_pos (Or.inl rfl)]
    exact ⟨_, rfl, agM.refl.uF (Or.inr (Or.inr (Or.inr rfl))), u_eq⟩
  · have h2 := h.mv (q := q + 2)
    have ag2 : agM σ (uI σ 1315 32 (Int32.ofNat (q + 2))) := agM.refl.uF (Or.inr (Or.inr (Or.inl rfl)))
    rw [if_neg h0, if_neg h0, ltE, h.2.1, oN_p2, ltE, f159_e hb h2 (by omega)]
    by_cases h6 : b.getD (q + 2) 0 = 62
    · have h3 := h2.mv (q := q + 3)
      have ag3 : agM σ (uI (uI σ 1315 32 (Int32.ofNat (q + 2))) 1315 32 (Int32.ofNat (q + 3))) := ag2.uF (Or.inr (Or.inr (Or.inl rfl)))
      have e0 := f160_e (F := F) (k := 4) (lv := lv) (th := th) h3 (by omega) (by omega)
      have e0' : f160 F 4 (Int32.ofNat lv) (Int32.ofNat th) (uI (uI σ 1315 32 (Int32.ofNat (q + 2))) 1315 32 (Int32.ofNat (q + 3))) = _ := e0
      rw [if_pos h6, if_pos h6, cIo, if_neg (show ¬ (1 : Int32) = 0 by decide), show q + 2 + 1 = q + 3 from rfl, e0']
      by_cases hk : th + ds.length < 30
      · rw [if_pos hk, cIo, if_neg (show ¬ (1 : Int32) = 0 by decide), if_pos (show ds.length < 30 - th by omega)]
        dsimp only
        have h4 := h3.mk (k := 4) (lv := lv)
        have ag4 := mMk_ag (n := ds.length) (k := 4) (lv := lv) (ce := (cs ++ es).length) ag3
        have m1 : Int32.ofNat (ds.length + 1) - 1 = Int32.ofNat ds.length := by
          rw [show (1 : Int32) = Int32.ofNat 1 from rfl, oN_sb (by omega)]
          rfl
        have q1 := oN_n (show ds.length < 2147483648 by omega)
        have i1 : inB (Int32.ofNat ds.length) 31 := oN_rg (by omega) (by decide)
        have c4 : (mMk (uI (uI σ 1315 32 (Int32.ofNat (q + 2))) 1315 32 (Int32.ofNat (q + 3))) ds.length 4 lv (cs ++ es).length).1 1315 22 = Int32.ofNat (ds.length + 1) := by
          rw [h4.2.2.2.1, List.length_append]
          rfl
        have h5 := h4.ta (v := cs.length)
        have h6' := h5.tl (v := es.length)
        have ag5 := (ag4.uA (a := 1337) (j := ds.length) (x := Int32.ofNat cs.length) (by decide)).uA (a := 1338) (j := ds.length) (x := Int32.ofNat es.length) (by decide)
        refine ⟨_, ?_, ag5, h6'⟩
        rw [ltE, c4, m1, if_pos i1, ltE, q1, ltE, u_ne (by decide), c4, m1, ltE, h4.2.2.2.2.1.1, if_pos i1, q1, oN_sb (by rw [List.length_append]; omega), List.length_append, show cs.length + es.length - cs.length = es.length by omega, ltE]
      · rw [if_neg hk, cIo, if_pos rfl, if_neg (show ¬ ds.length < 30 - th by omega)]
        exact ⟨_, rfl, ag3.uF (Or.inr (Or.inr (Or.inr rfl))), u_eq⟩
    · rw [if_neg h6, if_neg h6, cIo, if_pos rfl]
      exact ⟨_, rfl, ag2.uF (Or.inr (Or.inr (Or.inr rfl))), u_eq⟩
/-- where <!-- stands -/
theorem f157_e {σ : St} {p lv th : Nat} {cs : List Int32} (hF : 500 ≤ F) (hb : b.length ≤ 120) (h : mRd σ b p ds cs) (hd : ds.length ≤ 30) (ht : th ≤ 30) (hc : cs.length ≤ p) (h2 : b.getD (p + 2) 0 = 45) (h3 : b.getD (p + 3) 0 = 45) :
    match sCm b (30 - th) ds.length p with
    | .inl c => ∃ τ, f157 F (Int32.ofNat lv) (Int32.ofNat th) σ = oI 0 τ ∧ agM σ τ ∧ τ.1 1315 33 = (if c = 10 then 1 else 3)
    | .inr x => ∃ τ, f157 F (Int32.ofNat lv) (Int32.ofNat th) σ = oI 1 τ ∧ agM σ τ ∧ mRd τ b x.1 (ds ++ [(4, lv, 0, 0, cs.length, x.2.length)]) (cs ++ x.2) := by
  have hl3 : p + 3 < b.length := nz_lt (by rw [h3]; decide)
  have h4 := h.mv (q := p + 4)
  have ag4 : agM σ (uI σ 1315 32 (Int32.ofNat (p + 4))) := agM.refl.uF (Or.inr (Or.inr (Or.inl rfl)))
  unfold f157 sCm
  rw [ltE, h.2.1, oN_p4, ltE, ltE, h4.2.2.2.2.1.1, if_pos (show b.getD (p + 2) 0 = 45 ∧ b.getD (p + 3) 0 = 45 from ⟨h2, h3⟩)]
  obtain ⟨k, hk2⟩ : ∃ k, F = k + 200 := ⟨F - 200, by omega⟩
  have a0 := f157_15_e (F := F) (l := Int32.ofNat lv) (th := Int32.ofNat th) (s := Int32.ofNat cs.length) hb 200 k (p + 4) _ cs h4 (by omega) (by omega) (by omega)
  have a1 : ∀ G, G = k + 200 → ∃ τ, f157_15 F G (Int32.ofNat lv) (Int32.ofNat th) (Int32.ofNat cs.length) (uI σ 1315 32 (Int32.ofNat (p + 4))) = f157_79 F (Int32.ofNat lv) (Int32.ofNat th) (Int32.ofNat cs.length) τ ∧ agM (uI σ 1315 32 (Int32.ofNat (p + 4))) τ ∧ mRd τ b (dsh b 200 (p + 4)) ds (cs ++ (b.drop (p + 4)).take (dsh b 200 (p + 4) - (p + 4))) := fun G hG => by
    rw [hG]
    exact a0
  obtain ⟨τ, e1, e2, e3⟩ := a1 F hk2
  rw [e1]
  have g1 := dsh_ge (b := b) 200 (p + 4)
  have g2 := dsh_le (b := b) 200 (p + 4) (by omega)
  have g3 := dsh_st (b := b) 200 (p + 4) (by omega)
  have w1 : ((b.drop (p + 4)).take (dsh b 200 (p + 4) - (p + 4))).length ≤ b.length - (p + 4) := by rw [List.length_take, List.length_drop]; omega
  have m := f157_79_e (F := F) (lv := lv) (th := th) hb e3 hd ht g2 g3 (by rw [List.length_append]; omega)
  by_cases c0 : b.getD (dsh b 200 (p + 4)) 0 = 0
  · rw [if_pos c0] at m ⊢
    obtain ⟨υ, m1, m2, m3⟩ := m
    exact ⟨υ, m1, (ag4.trans e2).trans m2, m3⟩
  · rw [if_neg c0] at m ⊢
    by_cases c1 : b.getD (dsh b 200 (p + 4) + 2) 0 = 62
    · rw [if_pos c1] at m ⊢
      by_cases c2 : ds.length < 30 - th
      · rw [if_pos c2] at m ⊢
        obtain ⟨υ, m1, m2, m3⟩ := m
        exact ⟨υ, m1, (ag4.trans e2).trans m2, m3⟩
      · rw [if_neg c2] at m ⊢
        obtain ⟨υ, m1, m2, m3⟩ := m
        exact ⟨υ, m1, (ag4.trans e2).trans m2, m3⟩
    · rw [if_neg c1] at m ⊢
      obtain ⟨υ, m1, m2, m3⟩ := m
      exact ⟨υ, m1, (ag4.trans e2).trans m2, m3⟩
end MCM
