/-! the string-value, both sides -/
section VA2
variable {F c p : Nat} {x : Int32} {σ : St} {b : List Int32} {ns : List Nd}
theorem flT_take_s {q m : Nat} (hq : q < ns.length) : flT ((ns.drop q).take (m + 1)) = tOf (nd ns q) ++ flT ((ns.drop (q + 1)).take m) := by
  have e : ns.drop q = nd ns q :: ns.drop (q + 1) := by
    rw [List.drop_eq_getElem_cons hq]
    congr 1
    have := nd_some hq
    rw [List.getElem?_eq_getElem hq] at this
    injection this
  rw [e, List.take_succ_cons, flT_cons]
theorem f196_54_e (h : mTr σ ns) (hl : lvOk ns) : ∀ (m k q j : Nat), q + m ≤ ns.length → j < 2147483648 → f196_54 F (k + m + 1) (Int32.ofNat j) (Int32.ofNat (q + m) - 1) (Int32.ofNat q) σ = oI ((flT ((ns.drop q).take m)).getD j 0) σ := by
  have hl1 := hl.1
  intro m
  induction m with
  | zero =>
    intro k q j hq hj
    rw [f196_54.eq_2, if_pos]
    · rw [List.take_zero]
      rfl
    · cases q with
      | zero => decide
      | succ q =>
        rw [Nat.add_zero, oN_s1]
        exact (oN_lt (by omega) (by omega)).mpr (by omega)
  | succ m ih =>
    intro k q j hq hj
    have hql : q < ns.length := by omega
    have b1 := (hl.2 q hql).2
    have i1 : inB (Int32.ofNat q) 31 := oN_rg (by omega) (by decide)
    have q1 := oN_n (show q < 2147483648 by omega)
    obtain ⟨m1, m2, m3, m4, na, ta, m5, m6, m7, m8, m9, m10⟩ := (h.2 q hql).1
    rw [show k + (m + 1) + 1 = (k + m + 1) + 1 by omega, f196_54.eq_2, show q + (m + 1) = (q + m) + 1 by omega, oN_s1, if_neg (fun g => by have := (oN_lt (by omega) (by omega)).mp g; omega), if_pos i1, ltE]
    simp only [q1]
    rw [m1, flT_take_s hql]
    unfold f196_108 tOf
    have nx : Int32.ofNat (q + m) = Int32.ofNat (q + 1 + m) - 1 := by
      rw [show q + 1 + m = (q + m) + 1 by omega, oN_s1]
    by_cases k3 : (nd ns q).1 = 3
    · rw [if_pos k3, k3, if_pos (by rfl), if_pos i1, ltE, m4]
      by_cases hj2 : j < (nd ns q).2.2.2.length
      · rw [if_pos ((oN_lt (by omega) (by omega)).mpr hj2), if_pos i1, ltE, m6, oN_ad, if_pos (oN_rg (by omega) (by decide)), ltE, oN_n (by omega), m10 j hj2, getD_app, if_pos hj2]
      · rw [if_neg (fun g => hj2 ((oN_lt (by omega) (by omega)).mp g)), if_pos i1, ltE, ltE, oN_sb (by omega), oN_p1, nx, ih k (q + 1) _ (by omega) (by omega), getD_app, if_neg hj2]
    · rw [if_neg k3, if_neg (fun g => k3 ((oE3 (by omega)).mp g)), oN_p1, nx, ih k (q + 1) j (by omega) hj, List.nil_append]
theorem f196_e {j : Nat} (hF : 500 ≤ F) (h : mTr σ ns) (hl : lvOk ns) (hp : p < ns.length) (hj : j < 2147483648) : f196 F (Int32.ofNat p) (Int32.ofNat j) σ = oI ((sv ns p).getD j 0) σ := by
  have hl1 := hl.1
  have b1 := (hl.2 p hp).2
  have hz := siz_le hp
  have i1 : inB (Int32.ofNat p) 31 := oN_rg (by omega) (by decide)
  have q1 := oN_n (show p < 2147483648 by omega)
  obtain ⟨m1, m2, m3, m4, na, ta, m5, m6, m7, m8, m9, m10⟩ := (h.2 p hp).1
  unfold f196 sv
  rw [if_pos i1, ltE]
  simp only [q1]
  rw [m1]
  by_cases k1 : 1 < (nd ns p).1
  · rw [if_pos k1, if_pos (show (1 : Int32) < Int32.ofNat (nd ns p).1 from (oN_lt (p := 1) (by decide) (by omega)).mpr k1), if_pos i1, ltE, m4]
    by_cases hj2 : j < (nd ns p).2.2.2.length
    · rw [if_pos ((oN_lt (by omega) (by omega)).mpr hj2), if_pos i1, ltE, m6, oN_ad, if_pos (oN_rg (by omega) (by decide)), ltE, oN_n (by omega), m10 j hj2]
    · rw [if_neg (fun g => hj2 ((oN_lt (by omega) (by omega)).mp g)), getD_ge (by omega)]
  · rw [if_neg k1, if_neg (show ¬ (1 : Int32) < Int32.ofNat (nd ns p).1 from fun g => k1 ((oN_lt (p := 1) (by decide) (by omega)).mp g))]
    unfold f185
    obtain ⟨k, hk⟩ : ∃ k, F = k + siz ns p + 1 := ⟨F - siz ns p - 1, by omega⟩
    have a0 := f196_54_e (F := F) h hl (siz ns p) k (p + 1) j (by omega) hj
    rw [← hk, show p + 1 + siz ns p = (p + siz ns p) + 1 by omega, oN_s1] at a0
    rw [if_pos i1, ltE]
    simp only [q1]
    rw [(h.2 p hp).2.1, cIo, ltE, oN_ad, oN_p1, a0]
theorem op_value {y : Int32} (hF : 500 ≤ F) (hc : c ≤ 512) (h : Inv σ b ns c) : ∃ v, f19 F x y σ = oI v σ ∧ f195 F x y σ = oI v (uI σ 1315 0 0) := by
  have hn := h.2.1.2.2.2
  have hs := (h.sz hc).1
  have hm := h.2.1.2.1.th (y := 0)
  have ht := h.2.1.1
  have hw := h.2.1.2.2.1
  unfold f19 f195
  rw [ltE]
  rcases num_cases x ns.length (by omega) with ⟨p, hp, rfl⟩ | hx
  · rw [f128_y ht hn hp, cIo, if_neg (show ¬ (1 : Int32) = 0 by decide), f182_y hm hn hp, cIo, if_neg (show ¬ (1 : Int32) = 0 by decide)]
    by_cases y0 : y < 0
    · exact ⟨0, by rw [if_pos y0], by rw [if_pos y0]⟩
    · obtain ⟨j, hj, rfl⟩ := nn_cases y y0
      have k4 : (nd ns p).1 ≤ 4 := by
        by_cases c0 : p = 0
        · rw [c0, hw.2.1]
          decide
        · exact (hw.2.2.2 p (by omega) hp).1.2.1
      have vs := v_str hw.2.2.1 k4 hp
      have vl : (vLs ns p).length ≤ 4096 := by
        unfold vLs
        split
        · exact hs.2.2
        · exact hs.2.1
      have ve : (sv ns p).length = vTo ns p - vFr ns p := by
        rw [← vs.2.2, stre_len (by omega)]
      refine ⟨(sv ns p).getD j 0, ?_, ?_⟩
      · rw [if_neg y0, f129_e ht hs hp, cIo, f131_e ht hs hp, cIo, oN_sb vs.1]
        by_cases hj2 : j < (sv ns p).length
        · have hrow : rowL σ (vRw ns p) (vLs ns p) ∧ isRw (vRw ns p) ∧ capR (vRw ns p) = 4096 ∧ isO (vRw ns p) 5 = true := by
            unfold vRw vLs
            by_cases c2 : inW ns p
            · rw [if_pos c2, if_pos c2]
              exact ⟨ht.2.1, Or.inr (Or.inr (Or.inl rfl)), by decide, by decide +kernel⟩
            · rw [if_neg c2, if_neg c2]
              exact ⟨ht.2.2.1, Or.inr (Or.inl rfl), by decide, by decide +kernel⟩
          have e2 : (vLs ns p).getD (vFr ns p + j) 0 = (sv ns p).getD j 0 := by
            rw [← vs.2.2, stre_at (by omega)]
          have cr : ∀ (a : Nat) (kk : Nat → St → Rs), cR (some (.inl (some (.ref a)), σ)) kk = kk a σ := fun _ _ => rfl
          rw [if_pos ((oN_lt (by omega) (by omega)).mpr (by omega)), f132_e ht hs hp, cr, if_pos hrow.2.2.2, f131_e ht hs hp, cIo, oN_ad, f92_r hrow.2.1 hrow.1 (by rw [hrow.2.2.1]; omega) (by omega), cIo, e2]
        · rw [if_neg (fun g => hj2 (by have := (oN_lt (by omega) (by omega)).mp g; omega)), getD_ge (by omega)]
      · rw [if_neg y0, f196_e hF hm hs.1 hp hj, cIo]
  · exact ⟨0, by rw [f128_n ht hx, cIo, if_pos (by rfl)], by rw [f182_n hm hx, cIo, if_pos (by rfl)]⟩
end VA2
