/-! A WHOLE DOCUMENT, A PIECE: the class -/
abbrev doc0 : Nd := (0, 0, [], [])
def sDoc (b : List Int32) : Nat ⊕ List Nd := match sOu b 30 200 0 [doc0] with
  | .inl c => .inl c
  | .inr x => if b.getD x.1 0 = 60 then (match sEl b 30 1 (run b 30 1 200) [] x.1 x.2 with
    | .inl c => .inl c
    | .inr y => match sOu b 30 200 y.1 y.2 with
      | .inl c => .inl c
      | .inr z => if z.1 < b.length then .inl 10 else .inr z.2) else .inl 10
def sPc (b : List Int32) (R lv : Nat) : Nat ⊕ List Nd := match sPa b R lv (run b R lv 200) [] 0 [] with
  | .inl c => .inl c
  | .inr y => if y.1 < b.length then .inl 10 else .inr y.2
section CDO
variable {F R : Nat} {b : List Int32} {σ : St}
theorem f106_e (hB : bufC σ b) : ∃ τ, f106 F (Int32.ofNat R) σ = oV τ ∧ agD σ τ ∧ cRd τ b 0 R [] [] [] := by
  have ag : agD σ (uI (uI (uI (uI (uI σ 1025 1 0) 1027 1 0) 1016 10 0) 1029 2 0) 1029 3 (Int32.ofNat R)) := ((((agD.refl.uI (by decide)).uI (by decide)).uI (by decide)).uI (by decide)).uI (by decide)
  refine ⟨_, ?_, ag, ag.buf hB, ?_, u_eq, ?_, ⟨?_, fun j hj => absurd hj (Nat.not_lt_zero _)⟩, ⟨?_, fun j hj => absurd hj (Nat.not_lt_zero _)⟩, fun i x hx => ?_⟩
  · unfold f106 f135
    rw [show rfF 1016 8 = 1025 by decide +kernel, show rfF 1016 9 = 1027 by decide +kernel, f91_r, cVo, f91_r, cVo, ltE, cVo, ltE, ltE]
  · rw [u_at, if_neg (by decide), u_eq]
    rfl
  · rw [u_ne (by decide), u_ne (by decide), u_eq]
    rfl
  · rw [u_ne (by decide), u_ne (by decide), u_ne (by decide), u_eq]
    rfl
  · rw [u_ne (by decide), u_ne (by decide), u_ne (by decide), u_ne (by decide), u_eq]
    rfl
  · rw [List.getElem?_nil] at hx
    cases hx
theorem f107_e {p : Nat} {ns : List Nd} {ws ts : List Int32} (hF : 5000 ≤ F) (hb : b.length ≤ 120) (hO : okB b) (hR : R ≤ 30) (h : cRd σ b p R ns ws ts) (hd : dOk p ns ws ts) (hn : ns.length ≤ 30) (hp : p ≤ b.length) :
    match sOu b R 200 p ns with
    | .inl c => ∃ τ, f107 F σ = oT c τ ∧ agD σ τ
    | .inr x => ∃ τ ws', f107 F σ = oV τ ∧ agD σ τ ∧ cRd τ b x.1 R x.2 ws' ts ∧ dOk x.1 x.2 ws' ts ∧ x.2.length ≤ 30 ∧ p ≤ x.1 ∧ x.1 ≤ b.length := by
  obtain ⟨k, hk2⟩ : ∃ k, F = k + 200 := ⟨F - 200, by omega⟩
  have m := f107_2_e (F := F) hF hb hO hR 200 k p 0 σ ns ws h hd hn hp (by omega) (by omega)
  rw [← hk2] at m
  have z0 : (0 : Int32) = Int32.ofNat 0 := rfl
  rw [← z0] at m
  unfold f107
  exact m
theorem f105_e (hF : 5000 ≤ F) (hb : b.length ≤ 120) (hO : okB b) (hB : bufC σ b) :
    match sDoc b with
    | .inl c => ∃ τ, f105 F σ = oT c τ ∧ agD σ τ
    | .inr ns => ∃ τ p ws ts, f105 F σ = oV τ ∧ agD σ τ ∧ cRd τ b p 30 ns ws ts ∧ dOk p ns ws ts ∧ ns.length ≤ 30 ∧ p ≤ b.length := by
  obtain ⟨σ1, e1, ag1, h1⟩ := f106_e (F := F) (R := 30) hB
  have e1' : f106 F 30 σ = oV σ1 := e1
  have k2 : f124 F 1016 0 0 0 0 σ1 = _ := f124_c (F := F) (x := doc0) h1 (by decide)
  have h2 := h1.add (x := doc0) rfl
  have ag2 := ag1.dAdd (n := 0) (k := 0) (lv := 0) (nl := 0) (ol := 0) (tl := 0) (wl := 0)
  have hd2 : dOk 0 [doc0] [] [] := ⟨rfl, rfl, Nat.le_refl _, Nat.le_refl _⟩
  unfold f105 sDoc
  rw [e1', cVo, k2, cVo]
  dsimp only [List.length_nil] at h2 ag2 ⊢
  rw [List.nil_append] at h2
  generalize dAdd σ1 0 0 0 0 0 0 0 = σ2 at h2 ag2 ⊢
  have m := f107_e (F := F) hF hb hO (by omega) h2 hd2 (by decide) (by omega)
  cases hq : sOu b 30 200 0 [doc0] with
  | inl c =>
    rw [hq] at m
    obtain ⟨τ, a1, a2⟩ := m
    dsimp only
    rw [a1, cVt]
    exact ⟨τ, rfl, ag2.trans a2⟩
  | inr x =>
    rw [hq] at m
    obtain ⟨τ, ws', a1, a2, a3, a4, a5, a6, a7⟩ := m
    dsimp only
    rw [a1, cVo]
    have ag3 := ag2.trans a2
    by_cases h60 : b.getD x.1 0 = 60
    · rw [if_pos h60]
      rcases f112_e (F := F) (R := 30) (l0 := 1) (m := 500) (e := 12) (N := 200) (st := []) hF hb hO (by omega) (by omega) (cl_ok hF hb hO (by omega) 500 (by omega)) a3 a4 a5 (by decide) h60 (by omega) (by decide) (by omega) with ⟨c, υ, j1, j2, j3⟩ | ⟨q, υ, ns', ws2, ts2, N', j1, j2, j3, j4, j5, j6, j7, j8, j9⟩
      · have j1' : f112 F (r118 F 12) 1 τ = oT c υ := j1
        rw [j3, j1', cVt]
        exact ⟨υ, rfl, ag3.trans j2⟩
      · have j1' : f112 F (r118 F 12) 1 τ = oV υ := j1
        obtain ⟨N0, rfl⟩ : ∃ N0, N' = N0 + 1 := ⟨N' - 1, by omega⟩
        rw [j9, run_nil, j1', cVo]
        dsimp only
        have ag4 := ag3.trans j2
        have m2 := f107_e (F := F) hF hb hO (by omega) j3 j4 j5 j7
        cases hq2 : sOu b 30 200 q ns' with
        | inl c =>
          rw [hq2] at m2
          obtain ⟨φ, k1, k3⟩ := m2
          dsimp only
          rw [k1, cVt]
          exact ⟨φ, rfl, ag4.trans k3⟩
        | inr z =>
          rw [hq2] at m2
          obtain ⟨φ, ws3, k1, k3, k4, k5, k6, k7, k8⟩ := m2
          dsimp only
          rw [k1, cVo, f121_e hb k4 (by omega)]
          by_cases hz : z.1 < b.length
          · rw [if_pos hz, if_pos hz, cVt]
            exact ⟨φ, rfl, ag4.trans k3⟩
          · rw [if_neg hz, if_neg hz, cVo]
            exact ⟨φ, z.1, ws3, ts2, rfl, ag4.trans k3, k4, k5, k6, k8⟩
    · rw [if_neg h60, f112_n hb a3 (by omega) h60, cVt]
      exact ⟨τ, rfl, ag3⟩
theorem f122_e {lv : Nat} (hF : 5000 ≤ F) (hb : b.length ≤ 120) (hO : okB b) (hB : bufC σ b) (hR : R ≤ 30) (hlv : lv ≤ 100) :
    match sPc b R lv with
    | .inl c => ∃ τ, f122 F (Int32.ofNat lv) (Int32.ofNat R) σ = oT c τ ∧ agD σ τ
    | .inr ns => ∃ τ p ws ts, f122 F (Int32.ofNat lv) (Int32.ofNat R) σ = oV τ ∧ agD σ τ ∧ cRd τ b p R ns ws ts ∧ dOk p ns ws ts ∧ ns.length ≤ 30 ∧ p ≤ b.length := by
  obtain ⟨σ1, e1, ag1, h1⟩ := f106_e (F := F) (R := R) hB
  have hd1 : dOk 0 [] [] [] := ⟨rfl, rfl, Nat.le_refl _, Nat.le_refl _⟩
  unfold f122 sPc
  rw [e1, cVo]
  have m1 := f118_e (F := F) (R := R) (l0 := lv) (m := 500) (e := 12) (N := 200) (st := []) hF hb hO hR (by omega) (cl_ok hF hb hO hR 500 (by omega)) h1 hd1 (by decide) (by omega) (by rw [List.length_nil]; omega) (by omega) (by omega) (by omega)
  rw [List.length_nil, Nat.zero_add] at m1
  rcases m1 with ⟨c, υ, j1, j2, j3⟩ | ⟨q, υ, ns', ws2, ts2, N', j1, j2, j3, j4, j5, j6, j7, j8, j9⟩
  · rw [j3, j1, cVt]
    exact ⟨υ, rfl, ag1.trans j2⟩
  · obtain ⟨N0, rfl⟩ : ∃ N0, N' = N0 + 1 := ⟨N' - 1, by omega⟩
    rw [j9, run_nil, j1, cVo, f121_e hb j3 (by omega)]
    dsimp only
    by_cases hz : q < b.length
    · rw [if_pos hz, if_pos hz, cVt]
      exact ⟨υ, rfl, ag1.trans j2⟩
    · rw [if_neg hz, if_neg hz, cVo]
      exact ⟨υ, q, ws2, ts2, rfl, ag1.trans j2, j3, j4, j5, j7⟩
end CDO
