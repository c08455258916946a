section MA2
variable {F : Nat} {b : List Int32} {ds : List Md}
theorem mRd.last {σ : St} {p : Nat} {cs : List Int32} {x : Md} (h : mRd σ b p (ds ++ [x]) cs) : σ.1 1315 22 - 1 = Int32.ofNat ds.length := by
  rw [h.2.2.2.1, List.length_append, List.length_cons, List.length_nil, show (1 : Int32) = Int32.ofNat 1 from rfl, oN_sb (by omega)]
  rfl
/-- at the quote -/
theorem f165_149_z {σ : St} {n q p e lv th : Nat} {cs es : List Int32} {qu : Int32} (hb : b.length ≤ 120) (h : mRd σ b q ds (cs ++ es)) (hd : ds.length ≤ 30) (ht : th ≤ 30) (hq : q ≤ 1000) (hqu : b.getD q 0 = qu) (hpe : p ≤ e) (hc : (cs ++ es).length ≤ 1000) :
    if ds.length < 30 - th then ∃ τ, f165_149 F (n + 1) (Int32.ofNat lv) (Int32.ofNat th) (Int32.ofNat p) (Int32.ofNat e) qu (Int32.ofNat cs.length) σ = oI 1 τ ∧ agM σ τ ∧ mRd τ b (q + 1) (ds ++ [(2, lv, p, e - p, cs.length, es.length)]) (cs ++ es)
    else ∃ τ, f165_149 F (n + 1) (Int32.ofNat lv) (Int32.ofNat th) (Int32.ofNat p) (Int32.ofNat e) qu (Int32.ofNat cs.length) σ = oI 0 τ ∧ agM σ τ ∧ τ.1 1315 33 = 3 := by
  have e0 := f160_e (F := F) (k := 2) (lv := lv) (th := th) h (by omega) (by omega)
  have e0' : f160 F 2 (Int32.ofNat lv) (Int32.ofNat th) σ = _ := e0
  rw [f165_149.eq_2, ltE, h.2.1, f152_e h.1 hb (by omega), cIo, if_pos hqu, e0']
  by_cases hk : th + ds.length < 30
  · rw [if_pos hk, cIo, if_neg (show ¬ (1 : Int32) = 0 by decide), if_pos (show ds.length < 30 - th by omega)]
    have h4 := h.mk (k := 2) (lv := lv)
    have ag4 := mMk_ag (n := ds.length) (k := 2) (lv := lv) (ce := (cs ++ es).length) (agM.refl (σ := σ))
    have q1 := oN_n (show ds.length < 2147483648 by omega)
    have i1 : inB (Int32.ofNat ds.length) 31 := oN_rg (by omega) (by decide)
    have h5 := h4.mv (q := q + 1)
    have ag5 := ag4.uF (j := 32) (x := Int32.ofNat (q + 1)) (Or.inr (Or.inr (Or.inl rfl)))
    have h6 := h5.na (v := p)
    have ag6 := ag5.uA (a := 1335) (j := ds.length) (x := Int32.ofNat p) (by decide)
    have h7 := h6.nl (v := e - p)
    have ag7 := ag6.uA (a := 1336) (j := ds.length) (x := Int32.ofNat (e - p)) (by decide)
    have h8 := h7.ta (v := cs.length)
    have ag8 := ag7.uA (a := 1337) (j := ds.length) (x := Int32.ofNat cs.length) (by decide)
    have h9 := h8.tl (v := es.length)
    have ag9 := ag8.uA (a := 1338) (j := ds.length) (x := Int32.ofNat es.length) (by decide)
    refine ⟨_, ?_, ag9, h9⟩
    rw [ltE, h4.2.1, oN_p1, ltE]
    rw [ltE, h5.last, if_pos i1, ltE, q1]
    rw [ltE, h6.last, if_pos i1, oN_sb hpe, ltE, q1]
    rw [ltE, h7.last, if_pos i1, ltE, q1]
    rw [ltE, h8.last, ltE, h8.2.2.2.2.1.1, if_pos i1, oN_sb (by rw [List.length_append]; omega), List.length_append, show cs.length + es.length - cs.length = es.length by omega, ltE, q1]
  · rw [if_neg hk, cIo, if_pos rfl, if_neg (show ¬ ds.length < 30 - th by omega)]
    exact ⟨_, rfl, agM.refl.uF (Or.inr (Or.inr (Or.inr rfl))), u_eq⟩
end MA2
