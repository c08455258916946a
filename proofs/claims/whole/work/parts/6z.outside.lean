/-! OUTSIDE THE ELEMENT -/
def sOu (b : List Int32) (R : Nat) : Nat → Nat → List Nd → Rr
  | 0, p, ns => .inr (p, ns)
  | n + 1, p, ns => if b.getD (skp isBl b p) 0 = 60 ∧ uns b (skp isBl b p) then .inl 13 else if b.getD (skp isBl b p) 0 = 60 ∧ b.getD (skp isBl b p + 1) 0 = 33 then (match sCm b R ns.length (skp isBl b p) with
    | .inl c => .inl c
    | .inr x => sOu b R n x.1 (ns ++ [(4, 1, [], x.2)])) else .inr (skp isBl b p, ns)
section COU
variable {F R : Nat} {b ts : List Int32}
theorem f107_2_e (hF : 5000 ≤ F) (hb : b.length ≤ 120) (hO : okB b) (hR : R ≤ 30) : ∀ (n k p t : Nat) (σ : St) (ns : List Nd) (ws : List Int32), cRd σ b p R ns ws ts → dOk p ns ws ts → ns.length ≤ 30 → p ≤ b.length → b.length - p < n → 7 * t ≤ p →
    match sOu b R n p ns with
    | .inl c => ∃ τ, f107_2 F (k + n) (Int32.ofNat t) σ = oT c τ ∧ agD σ τ
    | .inr x => ∃ τ ws', f107_2 F (k + n) (Int32.ofNat t) σ = oV τ ∧ agD σ τ ∧ cRd τ b x.1 R x.2 ws' ts ∧ dOk x.1 x.2 ws' ts ∧ x.2.length ≤ 30 ∧ p ≤ x.1 ∧ x.1 ≤ b.length := by
  intro n
  induction n with
  | zero => intro k p t σ ns ws _ _ _ _ hlt; omega
  | succ n ih =>
    intro k p t σ ns ws h hd hn hp hlt ht
    have g1 := skp_ge (f := isBl) (b := b) (p := p)
    have g2 := skp_le (f := isBl) hp
    have h1 := h.mv (q := skp isBl b p)
    have hd1 : dOk (skp isBl b p) ns ws ts := ⟨hd.1, hd.2.1, by have := hd.2.2.1; omega, by have := hd.2.2.2; omega⟩
    have ag1 : agD σ (uI σ 1029 2 (Int32.ofNat (skp isBl b p))) := agD.refl.uI (by decide)
    rw [← Nat.add_assoc, f107_2.eq_2, if_pos (show Int32.ofNat t < 120 from (oN_lt (q := 120) (by omega) (by decide)).mpr (by omega)), ltE, h.2.1, ltE, h.1.1, f93_e (by omega) hb h.1 hp, cIo, ltE]
    generalize uI σ 1029 2 (Int32.ofNat (skp isBl b p)) = σ1 at h1 ag1 ⊢
    rw [f108_u (by omega) hb h1 (by omega)]
    unfold sOu
    by_cases hu : b.getD (skp isBl b p) 0 = 60 ∧ uns b (skp isBl b p)
    · rw [if_pos hu, if_pos hu, cIt]
      exact ⟨σ1, rfl, ag1⟩
    · rw [if_neg hu, if_neg hu, cIo]
      by_cases h33 : b.getD (skp isBl b p) 0 = 60 ∧ b.getD (skp isBl b p + 1) 0 = 33
      · rw [if_pos h33, decide_eq_true h33, if_neg (show ¬ b2i true = 0 by decide)]
        have m1 := f109_e (F := F) (lv := 1) (by omega) hb hO h1 hd1 hR hn h33.1 h33.2
        cases hq : sCm b R ns.length (skp isBl b p) with
        | inl c =>
          rw [hq] at m1
          obtain ⟨τ, a1, a2⟩ := m1
          have a1' : f109 F 1 σ1 = oT c τ := a1
          rw [a1', cVt]
          exact ⟨τ, rfl, ag1.trans a2⟩
        | inr x =>
          have ok := sCm_ok hq
          rw [hq] at m1
          obtain ⟨τ, a1, a2, a3, a4, a5, a6⟩ := m1
          have a1' : f109 F 1 σ1 = oV τ := a1
          rw [a1', cVo, oN_p1]
          dsimp only
          have i1 := ih k x.1 (t + 1) τ _ _ a3 a4 (by rw [List.length_append, List.length_cons, List.length_nil]; omega) a6 (by omega) (by omega)
          cases hq2 : sOu b R n x.1 (ns ++ [(4, 1, [], x.2)]) with
          | inl c =>
            rw [hq2] at i1
            obtain ⟨υ, j1, j2⟩ := i1
            exact ⟨υ, j1, (ag1.trans a2).trans j2⟩
          | inr y =>
            rw [hq2] at i1
            obtain ⟨υ, ws', j1, j2, j3, j4, j5, j6, j7⟩ := i1
            exact ⟨υ, ws', j1, (ag1.trans a2).trans j2, j3, j4, j5, by omega, j7⟩
      · rw [if_neg h33, decide_eq_false h33, if_pos b2i_f]
        exact ⟨σ1, ws, rfl, ag1, h1, hd1, hn, g1, g2⟩
end COU
section MOU
variable {F R : Nat} {b : List Int32} {pre : List Nd} {el : Bool}
theorem f150_32_e {σ : St} (h : σ.1 1315 33 = 0) : f150_32 F σ = oI 0 (uI σ 1315 33 1) := by
  unfold f150_32
  rw [f154_e h, cIo, if_pos rfl]
theorem f150_0_e (hF : 5000 ≤ F) (hb : b.length ≤ 120) (hO : okB b) (hR : R = 29 + pre.length) (hR3 : R ≤ 30) : ∀ (n k p : Nat) (σ : St) (ns : List Nd) (ds : List Md) (cs : List Int32), mRd σ b p ds cs → rel b 1 pre ns ds cs → ns.length ≤ 30 → cs.length ≤ p → p ≤ b.length → b.length - p < n →
    match sOu b R n p ns with
    | .inl c => ∃ τ, f150_0 F (k + n) (b2i el) σ = oI 0 τ ∧ agM σ τ ∧ τ.1 1315 33 = wr c
    | .inr x => ((el = true ∧ b.getD x.1 0 = 60 ∧ isLet (b.getD (x.1 + 1) 0) = true) ∨ (el = false ∧ ¬ x.1 < b.length) → ∃ τ ds' cs', f150_0 F (k + n) (b2i el) σ = oI 1 τ ∧ agM σ τ ∧ mRd τ b x.1 (ds ++ ds') cs' ∧ rel b 1 pre x.2 (ds ++ ds') cs' ∧ x.2.length ≤ 30 ∧ cs'.length ≤ x.1 ∧ p ≤ x.1 ∧ x.1 ≤ b.length) ∧ (¬ ((el = true ∧ b.getD x.1 0 = 60 ∧ isLet (b.getD (x.1 + 1) 0) = true) ∨ (el = false ∧ ¬ x.1 < b.length)) → ∃ τ, f150_0 F (k + n) (b2i el) σ = oI 0 τ ∧ agM σ τ ∧ τ.1 1315 33 = 1) := by
  intro n
  induction n with
  | zero => intro k p σ ns ds cs _ _ _ _ _ hlt; omega
  | succ n ih =>
    intro k p σ ns ds cs h hr hn hc hp hlt
    have g1 := skp_ge (f := isBl) (b := b) (p := p)
    have g2 := skp_le (f := isBl) hp
    have hl := hr.len
    have hcg : ns.length < R ↔ ds.length < 30 - 1 := by omega
    have h1 := h.mv (q := skp isBl b p)
    have ag1 : agM σ (uI σ 1315 32 (Int32.ofNat (skp isBl b p))) := agM.refl.uF (Or.inr (Or.inr (Or.inl rfl)))
    rw [← Nat.add_assoc, f150_0.eq_2, f151_e (by omega) hb h.1 h.2.1 hp, cVo, ltE, h1.2.1, f152_e h1.1 hb (by omega), cIo]
    generalize uI σ 1315 32 (Int32.ofNat (skp isBl b p)) = σ1 at h1 ag1 ⊢
    unfold sOu
    have e155 := f155_e (F := F) (el := el) hb h1 (by omega)
    by_cases h60 : b.getD (skp isBl b p) 0 = 60
    · have hpl : skp isBl b p < b.length := nz_lt (by rw [h60]; decide)
      rw [if_pos h60]
      by_cases hu : uns b (skp isBl b p)
      · have e2 : f155 F (b2i el) σ1 = oI 2 σ1 := by
          rw [e155, show odC b (skp isBl b p) el = 13 from if_pos hu]
          rfl
        rw [if_pos (⟨h60, hu⟩ : b.getD (skp isBl b p) 0 = 60 ∧ uns b (skp isBl b p)), e2, cIo, if_neg (show ¬ (2 : Int32) = 0 by decide), f154_e h1.2.2.1, cIo, if_pos (Or.inl rfl)]
        exact ⟨_, rfl, ag1.uF (Or.inr (Or.inr (Or.inr rfl))), u_eq⟩
      · rw [if_neg (fun hh => hu hh.2 : ¬ (b.getD (skp isBl b p) 0 = 60 ∧ uns b (skp isBl b p)))]
        by_cases h33 : b.getD (skp isBl b p + 1) 0 = 33
        · rw [if_pos (⟨h60, h33⟩ : b.getD (skp isBl b p) 0 = 60 ∧ b.getD (skp isBl b p + 1) 0 = 33)]
          by_cases h45 : b.getD (skp isBl b p + 2) 0 = 45 ∧ b.getD (skp isBl b p + 3) 0 = 45
          · have e2 : f155 F (b2i el) σ1 = oI 0 σ1 := by
              rw [e155, show odC b (skp isBl b p) el = 0 by unfold odC; rw [if_neg hu, if_pos h33, if_pos h45]]
              rfl
            rw [e2, cIo, if_pos rfl, ltE, h1.2.1, oN_p1, f152_e h1.1 hb (by omega), cIo, if_pos h33]
            have m := f157_e (F := F) (lv := 0) (th := 1) (by omega) hb h1 (by omega) (by omega) (by omega) h45.1 h45.2
            rw [← sCm_cg hcg] at m
            cases hq : sCm b R ns.length (skp isBl b p) with
            | inl c =>
              have hcc := sCm_c hq
              rw [hq] at m
              obtain ⟨τ, m1, m2, m3⟩ := m
              have m1' : f157 F 0 1 σ1 = oI 0 τ := m1
              rw [m1', cIo, if_pos rfl]
              exact ⟨τ, rfl, ag1.trans m2, by rw [m3]; exact wr_e hcc⟩
            | inr x =>
              have ok := sCm_ok hq
              rw [hq] at m
              obtain ⟨τ, m1, m2, m3⟩ := m
              have m1' : f157 F 0 1 σ1 = oI 1 τ := m1
              rw [m1', cIo, if_neg (show ¬ (1 : Int32) = 0 by decide)]
              dsimp only
              have i1 := ih k x.1 τ _ _ _ m3 (hr.tx (k := 4) (lv := 0) (es := x.2)) (by rw [List.length_append, List.length_cons, List.length_nil]; omega) (by rw [List.length_append]; omega) ok.2.2.2.1 (by omega)
              rw [show (0 + 1 : Nat) = 1 from rfl] at i1
              cases hq2 : sOu b R n x.1 (ns ++ [(4, 1, [], x.2)]) with
              | inl c =>
                rw [hq2] at i1
                obtain ⟨υ, j1, j2, j3⟩ := i1
                exact ⟨υ, j1, (ag1.trans m2).trans j2, j3⟩
              | inr y =>
                rw [hq2] at i1
                refine ⟨fun hh => ?_, fun hh => ?_⟩
                · obtain ⟨υ, ds', cs', j1, j2, j3, j4, j5, j6, j7, j8⟩ := i1.1 hh
                  rw [List.append_assoc] at j3 j4
                  exact ⟨υ, _, cs', j1, (ag1.trans m2).trans j2, j3, j4, j5, j6, by omega, j8⟩
                · obtain ⟨υ, j1, j2, j3⟩ := i1.2 hh
                  exact ⟨υ, j1, (ag1.trans m2).trans j2, j3⟩
          · have e2 : f155 F (b2i el) σ1 = oI 1 σ1 := by
              rw [e155, show odC b (skp isBl b p) el = 10 by unfold odC; rw [if_neg hu, if_pos h33, if_neg h45]]
              rfl
            rw [e2, cIo, if_neg (show ¬ (1 : Int32) = 0 by decide), f154_e h1.2.2.1, cIo, if_pos (Or.inl rfl)]
            unfold sCm
            rw [if_neg h45]
            exact ⟨_, rfl, ag1.uF (Or.inr (Or.inr (Or.inr rfl))), u_eq⟩
        · rw [if_neg (fun hh => h33 hh.2 : ¬ (b.getD (skp isBl b p) 0 = 60 ∧ b.getD (skp isBl b p + 1) 0 = 33))]
          by_cases hlet : el = true ∧ isLet (b.getD (skp isBl b p + 1) 0) = true
          · have e2 : f155 F (b2i el) σ1 = oI 0 σ1 := by
              rw [e155, show odC b (skp isBl b p) el = 0 by unfold odC; rw [if_neg hu, if_neg h33, if_pos hlet]]
              rfl
            rw [e2, cIo, if_pos rfl, ltE, h1.2.1, oN_p1, f152_e h1.1 hb (by omega), cIo, if_neg h33]
            refine ⟨fun _ => ⟨σ1, [], cs, rfl, ag1, by rw [List.append_nil]; exact h1, by rw [List.append_nil]; exact hr, hn, by dsimp only; omega, g1, g2⟩, fun hh => absurd (Or.inl ⟨hlet.1, h60, hlet.2⟩) hh⟩
          · have e2 : f155 F (b2i el) σ1 = oI 1 σ1 := by
              rw [e155, show odC b (skp isBl b p) el = 10 by unfold odC; rw [if_neg hu, if_neg h33, if_neg hlet]]
              rfl
            rw [e2, cIo, if_neg (show ¬ (1 : Int32) = 0 by decide), f154_e h1.2.2.1, cIo, if_pos (Or.inl rfl)]
            refine ⟨fun hh => ?_, fun _ => ⟨_, rfl, ag1.uF (Or.inr (Or.inr (Or.inr rfl))), u_eq⟩⟩
            rcases hh with hh | hh
            · exact absurd ⟨hh.1, hh.2.2⟩ hlet
            · exact absurd hpl hh.2
    · rw [if_neg h60, if_neg (fun hh => h60 hh.1 : ¬ (b.getD (skp isBl b p) 0 = 60 ∧ uns b (skp isBl b p))), if_neg (fun hh => h60 hh.1 : ¬ (b.getD (skp isBl b p) 0 = 60 ∧ b.getD (skp isBl b p + 1) 0 = 33)), ltE, h1.2.1, f152_e h1.1 hb (by omega), cIo, f150_32_e h1.2.2.1]
      by_cases h0 : b.getD (skp isBl b p) 0 = 0
      · have hpl : ¬ skp isBl b p < b.length := fun hh => okB_nz hO hh h0
        rw [if_pos h0]
        cases el with
        | false =>
          rw [if_pos b2i_f]
          exact ⟨fun _ => ⟨σ1, [], cs, rfl, ag1, by rw [List.append_nil]; exact h1, by rw [List.append_nil]; exact hr, hn, by dsimp only; omega, g1, g2⟩, fun hh => absurd (Or.inr ⟨rfl, hpl⟩) hh⟩
        | true =>
          rw [if_neg (show ¬ b2i true = 0 by decide)]
          refine ⟨fun hh => ?_, fun _ => ⟨_, rfl, ag1.uF (Or.inr (Or.inr (Or.inr rfl))), u_eq⟩⟩
          rcases hh with hh | hh
          · exact absurd hh.2.1 h60
          · exact absurd hh.1 (by decide)
      · have hpl : skp isBl b p < b.length := nz_lt h0
        rw [if_neg h0]
        refine ⟨fun hh => ?_, fun _ => ⟨_, rfl, ag1.uF (Or.inr (Or.inr (Or.inr rfl))), u_eq⟩⟩
        rcases hh with hh | hh
        · exact absurd hh.2.1 h60
        · exact absurd hpl hh.2
end MOU
