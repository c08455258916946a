/-! A WHOLE DOCUMENT, A PIECE: the reference -/
section MDO
variable {F : Nat} {b : List Int32} {σ : St}
theorem f149_e (hB : bufM σ b) : ∃ τ, f149 F σ = oV τ ∧ agM σ τ ∧ mRd τ b 0 [] [] := by
  have ag : agM σ (uI (uI (uI (uI σ 1315 22 0) 1315 23 0) 1315 32 0) 1315 33 0) := (((agM.refl.uF (Or.inl rfl)).uF (Or.inr (Or.inl rfl))).uF (Or.inr (Or.inr (Or.inl rfl)))).uF (Or.inr (Or.inr (Or.inr rfl)))
  refine ⟨_, ?_, ag, ⟨?_, fun j hj => ?_⟩, ?_, u_eq, ?_, ⟨?_, fun j hj => absurd hj (Nat.not_lt_zero _)⟩, fun i x hx => ?_⟩
  · unfold f149
    rw [ltE, ltE, ltE, ltE]
  · rw [ag.2.1 1 (by omega)]
    exact hB.1
  · rw [ag.1 1316 (by omega)]
    exact hB.2 j hj
  · rw [u_at, if_neg (by decide), u_eq]
    rfl
  · rw [u_at, if_neg (by decide), u_at, if_neg (by decide), u_at, if_neg (by decide), u_eq]
    rfl
  · rw [u_at, if_neg (by decide), u_at, if_neg (by decide), u_eq]
    rfl
  · rw [List.getElem?_nil] at hx
    cases hx
theorem f150_e {R p : Nat} {el : Bool} {pre ns : List Nd} {ds : List Md} {cs : List Int32} (hF : 5000 ≤ F) (hb : b.length ≤ 120) (hO : okB b) (hR : R = 29 + pre.length) (hR3 : R ≤ 30) (h : mRd σ b p ds cs) (hr : rel b 1 pre ns ds cs) (hn : ns.length ≤ 30) (hc : cs.length ≤ p) (hp : p ≤ b.length) :
    match sOu b R 200 p ns with
    | .inl c => ∃ τ, f150 F (b2i el) σ = oI 0 τ ∧ agM σ τ ∧ τ.1 1315 33 = wr c
    | .inr x => ((el = true ∧ b.getD x.1 0 = 60 ∧ isLet (b.getD (x.1 + 1) 0) = true) ∨ (el = false ∧ ¬ x.1 < b.length) → ∃ τ ds' cs', f150 F (b2i el) σ = oI 1 τ ∧ agM σ τ ∧ mRd τ b x.1 (ds ++ ds') cs' ∧ rel b 1 pre x.2 (ds ++ ds') cs' ∧ x.2.length ≤ 30 ∧ cs'.length ≤ x.1 ∧ p ≤ x.1 ∧ x.1 ≤ b.length) ∧ (¬ ((el = true ∧ b.getD x.1 0 = 60 ∧ isLet (b.getD (x.1 + 1) 0) = true) ∨ (el = false ∧ ¬ x.1 < b.length)) → ∃ τ, f150 F (b2i el) σ = oI 0 τ ∧ agM σ τ ∧ τ.1 1315 33 = 1) := by
  obtain ⟨k, hk2⟩ : ∃ k, F = k + 200 := ⟨F - 200, by omega⟩
  have m := f150_0_e (F := F) (el := el) hF hb hO hR hR3 200 k p σ ns ds cs h hr hn hc hp (by omega)
  rw [← hk2] at m
  unfold f150
  exact m
theorem f148_e (hF : 5000 ≤ F) (hb : b.length ≤ 120) (hO : okB b) (hB : bufM σ b) :
    match sDoc b with
    | .inl c => ∃ τ, f148 F σ = oI 0 τ ∧ agE σ τ ∧ τ.1 1315 33 = wr c
    | .inr ns => ∃ τ p ds cs, f148 F σ = oI 1 τ ∧ agE σ τ ∧ mRd τ b p ds cs ∧ rel b 1 [doc0] ns ds cs ∧ ns.length ≤ 30 ∧ cs.length ≤ p ∧ p ≤ b.length := by
  obtain ⟨σ1, e1, ag1, h1⟩ := f149_e (F := F) hB
  have hr1 : rel b 1 [doc0] [doc0] [] [] := ⟨rfl, fun x hx => absurd hx List.not_mem_nil⟩
  unfold f148 sDoc
  rw [e1, cVo]
  have m := f150_e (F := F) (R := 30) (el := true) hF hb hO rfl (by omega) h1 hr1 (by decide) (by decide) (by omega)
  rw [b2i_t] at m
  cases hq : sOu b 30 200 0 [doc0] with
  | inl c =>
    rw [hq] at m
    obtain ⟨τ, a1, a2, a3⟩ := m
    dsimp only
    rw [a1, cIo, if_pos rfl]
    exact ⟨τ, rfl, (ag1.trans a2).e, a3⟩
  | inr x =>
    rw [hq] at m
    dsimp only at m ⊢
    by_cases hx : b.getD x.1 0 = 60 ∧ isLet (b.getD (x.1 + 1) 0) = true
    · obtain ⟨τ, ds', cs', a1, a2, a3, a4, a5, a6, a7, a8⟩ := m.1 (Or.inl ⟨rfl, hx⟩)
      rw [a1, cIo, if_neg (show ¬ (1 : Int32) = 0 by decide), if_pos hx.1]
      rw [List.nil_append] at a3 a4
      have ag3 := (ag1.trans a2).e
      have m2 := f161_6_e (F := F) (R := 30) (l0 := 1) (th := 1) (pre := [doc0]) (n := 200) (A := F) (st := []) hF hb hO (by omega) rfl (by omega) (by omega) (by omega) (by omega) (ml_ok (R := 30) (th := 1) (pre := [doc0]) hF hb hO (by omega) rfl (by omega) (by omega) (by omega) 200 (by omega)) a3 a4 trivial a5 a6 (by omega) (by decide) (by omega) hx.2
      have m3 : mOut b 1 [doc0] ds' τ x.1 (sEl b 30 1 (run b 30 1 200) [] x.1 x.2) (f161_6 F F 0 1 1 0 1 τ) := m2
      unfold f161
      cases hq2 : sEl b 30 1 (run b 30 1 200) [] x.1 x.2 with
      | inl c =>
        rw [hq2] at m3
        obtain ⟨υ, k1, k2, k3⟩ := m3
        dsimp only
        rw [k1, cIo, if_pos rfl]
        exact ⟨υ, rfl, ag3.trans k2, k3⟩
      | inr y =>
        rw [hq2] at m3
        obtain ⟨υ, ds2, cs2, k1, k2, k3, k4, k5, k6, k7, k8⟩ := m3
        dsimp only
        rw [k1, cIo, if_neg (show ¬ (1 : Int32) = 0 by decide)]
        have m4 := f150_e (F := F) (R := 30) (el := false) hF hb hO rfl (by omega) k3 k4 k5 k6 k8
        rw [b2i_f] at m4
        cases hq3 : sOu b 30 200 y.1 y.2 with
        | inl c =>
          rw [hq3] at m4
          obtain ⟨φ, j1, j2, j3⟩ := m4
          dsimp only
          rw [j1, cIo, if_pos rfl]
          exact ⟨φ, rfl, (ag3.trans k2).trans j2.e, j3⟩
        | inr z =>
          rw [hq3] at m4
          dsimp only at m4 ⊢
          by_cases hz : z.1 < b.length
          · obtain ⟨φ, j1, j2, j3⟩ := m4.2 (by
              rintro (hh | hh)
              · exact absurd hh.1 (by decide)
              · exact hh.2 hz)
            rw [if_pos hz, j1, cIo, if_pos rfl]
            exact ⟨φ, rfl, (ag3.trans k2).trans j2.e, j3⟩
          · obtain ⟨φ, ds3, cs3, j1, j2, j3, j4, j5, j6, j7, j8⟩ := m4.1 (Or.inr ⟨rfl, hz⟩)
            rw [if_neg hz, j1, cIo, if_neg (show ¬ (1 : Int32) = 0 by decide)]
            exact ⟨φ, z.1, _, cs3, rfl, (ag3.trans k2).trans j2.e, j3, j4, j5, j6, j8⟩
    · obtain ⟨τ, a1, a2, a3⟩ := m.2 (by
        rintro (hh | hh)
        · exact hx hh.2
        · exact absurd hh.1 (by decide))
      rw [a1, cIo, if_pos rfl]
      by_cases h60 : b.getD x.1 0 = 60
      · rw [if_pos h60]
        unfold sEl sHd
        rw [if_neg (fun hh => hx ⟨h60, hh⟩ : ¬ isLet (b.getD (x.1 + 1) 0) = true)]
        exact ⟨τ, rfl, (ag1.trans a2).e, a3⟩
      · rw [if_neg h60]
        exact ⟨τ, rfl, (ag1.trans a2).e, a3⟩
theorem f184_123_e (h : σ.1 1315 33 = 0) : f184_123 F σ = oI 0 (uI σ 1315 33 1) := by
  unfold f184_123
  rw [f154_e h, cIo, if_pos rfl]
theorem f184_123_g (h : ¬ σ.1 1315 33 = 0) : f184_123 F σ = oI 0 (uI σ 1315 33 (σ.1 1315 33)) := by
  unfold f184_123
  rw [f154_g h, cIo, if_pos rfl]
/-- what has been read is all there is -/
theorem f184_62_e {p : Nat} {ds : List Md} {cs : List Int32} (hb : b.length ≤ 120) (h : mRd σ b p ds cs) (hp : p ≤ b.length) : f184_62 F 1 σ = if p < b.length then oI 0 (uI σ 1315 33 1) else oI 1 σ := by
  unfold f184_62
  rw [if_neg (show ¬ (1 : Int32) = 0 by decide), ltE, h.2.1, ltE, h.1.1]
  by_cases hz : p < b.length
  · rw [if_pos hz, if_neg (fun hh => by have := (oN_eq (by omega) (by omega)).mp hh; omega), f154_e h.2.2.1, cIo, if_pos rfl]
  · rw [if_neg hz, if_pos (by rw [show p = b.length by omega])]
theorem f184_e {lv th : Nat} (hF : 5000 ≤ F) (hb : b.length ≤ 120) (hO : okB b) (hB : bufM σ b) (hth : σ.1 1315 3 = Int32.ofNat th) (ht : th ≤ 30) (hlv : 1 ≤ lv) (hlv2 : lv ≤ 100) :
    match sPc b (30 - th) lv with
    | .inl c => ∃ τ, f184 F (Int32.ofNat lv) σ = oI 0 τ ∧ agE σ τ ∧ τ.1 1315 33 = wr c
    | .inr ns => ∃ τ p ds cs, f184 F (Int32.ofNat lv) σ = oI 1 τ ∧ agE σ τ ∧ mRd τ b p ds cs ∧ rel b lv [] ns ds cs ∧ ns.length ≤ 30 ∧ cs.length ≤ p ∧ p ≤ b.length := by
  obtain ⟨σ1, e1, ag1, h1⟩ := f149_e (F := F) hB
  have hth1 : σ1.1 1315 3 = Int32.ofNat th := by rw [ag1.2.1 3 (by omega)]; exact hth
  have hr1 : rel b lv [] [] [] [] := ⟨rfl, fun x hx => absurd hx List.not_mem_nil⟩
  have q0 : f152 F 0 σ1 = oI (b.getD 0 0) σ1 := f152_e (k := 0) h1.1 hb (by omega)
  have q1 : f152 F 1 σ1 = oI (b.getD 1 0) σ1 := f152_e (k := 1) h1.1 hb (by omega)
  have e155 : f155 F 1 σ1 = _ := f155_e (el := true) hb h1 (by omega)
  unfold f184 sPc sPa
  rw [e1, cVo, q0, cIo]
  by_cases h60 : b.getD 0 0 = 60
  · have hpl : 0 < b.length := nz_lt (by rw [h60]; decide)
    rw [if_pos h60, if_pos h60]
    by_cases hu : uns b 0
    · have e2 : f155 F 1 σ1 = oI 2 σ1 := by
        rw [e155, show odC b 0 true = 13 from if_pos hu]
        rfl
      rw [if_pos hu, e2, cIo, if_neg (show ¬ (2 : Int32) = 0 by decide), f154_e h1.2.2.1, cIo, if_pos (Or.inl rfl)]
      exact ⟨_, rfl, (ag1.uF (Or.inr (Or.inr (Or.inr rfl)))).e, u_eq⟩
    · rw [if_neg hu]
      by_cases h33 : b.getD (0 + 1) 0 = 33
      · rw [if_pos h33]
        by_cases h45 : b.getD (0 + 2) 0 = 45 ∧ b.getD (0 + 3) 0 = 45
        · have e2 : f155 F 1 σ1 = oI 0 σ1 := by
            rw [e155, show odC b 0 true = 0 by unfold odC; rw [if_neg hu, if_pos h33, if_pos h45]]
            rfl
          rw [e2, cIo, if_pos rfl, q1, cIo, if_pos h33, ltE, hth1]
          have m := f157_e (F := F) (lv := 0) (th := th) (by omega) hb h1 (by decide) ht (by decide) h45.1 h45.2
          rw [List.length_nil] at m
          rw [List.length_nil]
          cases hq : sCm b (30 - th) 0 0 with
          | inl c =>
            have hcc := sCm_c hq
            rw [hq] at m
            obtain ⟨τ, m1, m2, m3⟩ := m
            have m1' : f157 F 0 (Int32.ofNat th) σ1 = oI 0 τ := m1
            dsimp only
            rw [m1', cIo]
            unfold f184_62
            rw [if_pos rfl]
            exact ⟨τ, rfl, (ag1.trans m2).e, by rw [m3]; exact wr_e hcc⟩
          | inr x =>
            have ok := sCm_ok hq
            rw [hq] at m
            obtain ⟨τ, m1, m2, m3⟩ := m
            have m1' : f157 F 0 (Int32.ofNat th) σ1 = oI 1 τ := m1
            dsimp only
            rw [m1', cIo, f184_62_e hb m3 ok.2.2.2.1, show run b (30 - th) lv 200 [] x.1 ([] ++ [(4, ([] : List (List Int32)).length + lv, [], x.2)]) = .inr (x.1, [] ++ [(4, ([] : List (List Int32)).length + lv, [], x.2)]) from run_nil]
            dsimp only
            by_cases hz : x.1 < b.length
            · rw [if_pos hz, if_pos hz]
              exact ⟨_, rfl, ((ag1.trans m2).uF (Or.inr (Or.inr (Or.inr rfl)))).e, u_eq⟩
            · rw [if_neg hz, if_neg hz]
              exact ⟨τ, x.1, _, _, rfl, (ag1.trans m2).e, m3, hr1.tx (k := 4) (lv := 0) (es := x.2), by rw [List.length_append, List.length_cons, List.length_nil]; omega, by rw [List.nil_append]; have := ok.2.2.1; omega, ok.2.2.2.1⟩
        · have e2 : f155 F 1 σ1 = oI 1 σ1 := by
            rw [e155, show odC b 0 true = 10 by unfold odC; rw [if_neg hu, if_pos h33, if_neg h45]]
            rfl
          rw [e2, cIo, if_neg (show ¬ (1 : Int32) = 0 by decide), f154_e h1.2.2.1, cIo, if_pos (Or.inl rfl)]
          unfold sCm
          rw [if_neg h45]
          exact ⟨_, rfl, (ag1.uF (Or.inr (Or.inr (Or.inr rfl)))).e, u_eq⟩
      · rw [if_neg h33]
        by_cases hlet : isLet (b.getD (0 + 1) 0) = true
        · have e2 : f155 F 1 σ1 = oI 0 σ1 := by
            rw [e155, show odC b 0 true = 0 by unfold odC; rw [if_neg hu, if_neg h33, if_pos ⟨rfl, hlet⟩]]
            rfl
          rw [e2, cIo, if_pos rfl, q1, cIo, if_neg h33, ltE, hth1]
          have m2 := f161_6_e (F := F) (R := 30 - th) (l0 := lv) (th := th) (pre := []) (n := 200) (A := F) (st := []) hF hb hO ht rfl (by omega) hlv hlv2 (by omega) (ml_ok (R := 30 - th) (th := th) (pre := []) hF hb hO ht rfl (by omega) hlv hlv2 200 (by omega)) h1 hr1 trivial (by decide) (by decide) (by omega) (by decide) (by omega) hlet
          have m3 : mOut b lv [] [] σ1 0 (sEl b (30 - th) lv (run b (30 - th) lv 200) [] 0 []) (f161_6 F F 0 (Int32.ofNat lv) (Int32.ofNat th) 0 1 σ1) := m2
          unfold f161
          cases hq2 : sEl b (30 - th) lv (run b (30 - th) lv 200) [] 0 [] with
          | inl c =>
            rw [hq2] at m3
            obtain ⟨υ, k1, k2, k3⟩ := m3
            dsimp only
            rw [k1, cIo]
            unfold f184_62
            rw [if_pos rfl]
            exact ⟨υ, rfl, ag1.e.trans k2, k3⟩
          | inr y =>
            rw [hq2] at m3
            obtain ⟨υ, ds2, cs2, k1, k2, k3, k4, k5, k6, k7, k8⟩ := m3
            dsimp only
            rw [k1, cIo, f184_62_e hb k3 k8]
            by_cases hz : y.1 < b.length
            · rw [if_pos hz, if_pos hz]
              exact ⟨_, rfl, (ag1.e.trans k2).trans (agM.refl.uF (Or.inr (Or.inr (Or.inr rfl)))).e, u_eq⟩
            · rw [if_neg hz, if_neg hz]
              exact ⟨υ, y.1, _, cs2, rfl, ag1.e.trans k2, k3, k4, k5, k6, k8⟩
        · have e2 : f155 F 1 σ1 = oI 1 σ1 := by
            rw [e155, show odC b 0 true = 10 by unfold odC; rw [if_neg hu, if_neg h33, if_neg (fun hh => hlet hh.2)]]
            rfl
          rw [e2, cIo, if_neg (show ¬ (1 : Int32) = 0 by decide), f154_e h1.2.2.1, cIo, if_pos (Or.inl rfl)]
          unfold sEl sHd
          rw [if_neg hlet]
          exact ⟨_, rfl, (ag1.uF (Or.inr (Or.inr (Or.inr rfl)))).e, u_eq⟩
  · rw [if_neg h60, if_neg h60, q0, cIo]
    by_cases h0 : b.getD 0 0 = 0
    · have hpl : ¬ 0 < b.length := fun hh => okB_nz hO hh h0
      rw [if_pos h0, f184_123_e h1.2.2.1]
      unfold sTx
      rw [if_pos hpl]
      exact ⟨_, rfl, (ag1.uF (Or.inr (Or.inr (Or.inr rfl)))).e, u_eq⟩
    · have hpl : 0 < b.length := nz_lt h0
      rw [if_neg h0, ltE, hth1]
      have m := f170_e (F := F) (lv := 0) (th := th) (by omega) hb hO h1 (by decide) ht (by decide) hpl
      rw [List.length_nil] at m
      rw [List.length_nil]
      cases hq : sTx b (30 - th) 0 0 with
      | inl c =>
        have hcc := sTx_c hq
        rw [hq] at m
        obtain ⟨τ, m1, m2, m3⟩ := m
        have m1' : f170 F 0 (Int32.ofNat th) σ1 = oI 0 τ := m1
        rw [wr_e hcc] at m3
        dsimp only
        rw [m1', cIo, if_pos rfl, f184_123_g (by rw [m3]; exact wr_nz c)]
        exact ⟨_, rfl, ((ag1.trans m2).uF (Or.inr (Or.inr (Or.inr rfl)))).e, by rw [u_eq]; exact m3⟩
      | inr x =>
        have ok := sTx_ok hO hq
        rw [hq] at m
        obtain ⟨τ, m1, m2, m3⟩ := m
        have m1' : f170 F 0 (Int32.ofNat th) σ1 = oI 1 τ := m1
        dsimp only
        rw [m1', cIo, if_neg (show ¬ (1 : Int32) = 0 by decide), ltE, m3.2.1, ltE, m3.1.1, show run b (30 - th) lv 200 [] x.1 ([] ++ [(3, ([] : List (List Int32)).length + lv, [], x.2)]) = .inr (x.1, [] ++ [(3, ([] : List (List Int32)).length + lv, [], x.2)]) from run_nil]
        dsimp only
        by_cases hz : x.1 < b.length
        · rw [if_pos hz, if_neg (fun hh => by have := (oN_eq (by omega) (by omega)).mp hh; omega), f184_123_e m3.2.2.1]
          exact ⟨_, rfl, ((ag1.trans m2).uF (Or.inr (Or.inr (Or.inr rfl)))).e, u_eq⟩
        · rw [if_neg hz, if_pos (by rw [show x.1 = b.length by have := ok.2.2.1; omega])]
          exact ⟨τ, x.1, _, _, rfl, (ag1.trans m2).e, m3, hr1.tx (k := 3) (lv := 0) (es := x.2), by rw [List.length_append, List.length_cons, List.length_nil]; omega, by rw [List.nil_append]; have := ok.2.1; omega, ok.2.2.1⟩
end MDO
