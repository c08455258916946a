/-! AN ELEMENT WITH ALL THAT IS IN IT: a machine with a stack of names, and the class's descent -/
abbrev Rr : Type := Nat ⊕ (Nat × List Nd)
def sEl (b : List Int32) (R l0 : Nat) (kk : List (List Int32) → Nat → List Nd → Rr) (st : List (List Int32)) (p : Nat) (ns : List Nd) : Rr := match sHd b R (st.length + l0) p ns with
  | .inl c => .inl c
  | .inr x => if x.2.2 = true then kk (hnm b p :: st) x.1 x.2.1 else kk st x.1 x.2.1
def sPa (b : List Int32) (R l0 : Nat) (kk : List (List Int32) → Nat → List Nd → Rr) (st : List (List Int32)) (p : Nat) (ns : List Nd) : Rr := if b.getD p 0 = 60 then (if uns b p then .inl 13 else if b.getD (p + 1) 0 = 33 then (match sCm b R ns.length p with
    | .inl c => .inl c
    | .inr x => kk st x.1 (ns ++ [(4, st.length + l0, [], x.2)]))
    else sEl b R l0 kk st p ns)
  else match sTx b R ns.length p with
    | .inl c => .inl c
    | .inr x => kk st x.1 (ns ++ [(3, st.length + l0, [], x.2)])
def run (b : List Int32) (R l0 : Nat) : Nat → List (List Int32) → Nat → List Nd → Rr
  | 0, _, _, _ => .inl 0
  | n + 1, st, p, ns => match st with
    | [] => .inr (p, ns)
    | nm :: st' => if b.getD p 0 = 60 ∧ b.getD (p + 1) 0 = 47 then (match sCl b p nm with
        | none => .inl 10
        | some q => run b R l0 n st' q ns)
      else sPa b R l0 (run b R l0 n) (nm :: st') p ns
section RUN
variable {b : List Int32} {R l0 n p : Nat} {st : List (List Int32)} {nm : List Int32} {ns : List Nd}
theorem run_nil : run b R l0 (n + 1) [] p ns = .inr (p, ns) := rfl
theorem run_cl (h : b.getD p 0 = 60 ∧ b.getD (p + 1) 0 = 47) : run b R l0 (n + 1) (nm :: st) p ns = match sCl b p nm with
    | none => .inl 10
    | some q => run b R l0 n st q ns := by
  rw [run.eq_3, if_pos h]
theorem run_pt (h : ¬ (b.getD p 0 = 60 ∧ b.getD (p + 1) 0 = 47)) : run b R l0 (n + 1) (nm :: st) p ns = sPa b R l0 (run b R l0 n) (nm :: st) p ns := by
  rw [run.eq_3, if_neg h]
end RUN
/-- the class's loop over what is in an element -/
def clOk (F R l0 : Nat) (b : List Int32) (m : Nat) : Prop := ∀ (k e t f nl p N : Nat) (σ : St) (ns : List Nd) (ws ts : List Int32) (st : List (List Int32)),
  cRd σ b p R ns ws ts → dOk p ns ws ts → ns.length ≤ 30 → p ≤ b.length → b.length - p < m → t + (b.length - p) < 120 → st.length + l0 ≤ 8 → 9 ≤ st.length + l0 + e → f + nl ≤ b.length → 0 < nl → b.length - p < N →
  (∃ c τ, f112_122 F (r118 F e) (k + m) (Int32.ofNat (st.length + l0)) (Int32.ofNat f) (Int32.ofNat nl) (Int32.ofNat t) σ = oT c τ ∧ agD σ τ ∧ run b R l0 N (stre b f nl :: st) p ns = .inl c) ∨
  (∃ q τ ns' ws' ts' N', f112_122 F (r118 F e) (k + m) (Int32.ofNat (st.length + l0)) (Int32.ofNat f) (Int32.ofNat nl) (Int32.ofNat t) σ = oV τ ∧ agD σ τ ∧ cRd τ b q R ns' ws' ts' ∧ dOk q ns' ws' ts' ∧ ns'.length ≤ 30 ∧ p < q ∧ q ≤ b.length ∧ b.length - q < N' ∧ run b R l0 N (stre b f nl :: st) p ns = run b R l0 N' st q ns')
section CEL
variable {F R l0 : Nat} {b : List Int32}
/-- an element, given its loop -/
theorem f112_e {m e p N : Nat} {σ : St} {ns : List Nd} {ws ts : List Int32} {st : List (List Int32)} (hF : 5000 ≤ F) (hb : b.length ≤ 120) (hO : okB b) (hR : R ≤ 30) (hm : m ≤ 1000) (ih : clOk F R l0 b m) (h : cRd σ b p R ns ws ts) (hd : dOk p ns ws ts) (hn : ns.length ≤ 30) (hlv : st.length + l0 ≤ 1000) (h60 : b.getD p 0 = 60) (hlt : b.length - p ≤ m) (he : 9 ≤ st.length + l0 + e) (hN : b.length - p ≤ N) :
    (∃ c τ, f112 F (r118 F e) (Int32.ofNat (st.length + l0)) σ = oT c τ ∧ agD σ τ ∧ sEl b R l0 (run b R l0 N) st p ns = .inl c) ∨
    (∃ q τ ns' ws' ts' N', f112 F (r118 F e) (Int32.ofNat (st.length + l0)) σ = oV τ ∧ agD σ τ ∧ cRd τ b q R ns' ws' ts' ∧ dOk q ns' ws' ts' ∧ ns'.length ≤ 30 ∧ p < q ∧ q ≤ b.length ∧ b.length - q < N' ∧ sEl b R l0 (run b R l0 N) st p ns = run b R l0 N' st q ns') := by
  have hp : p < b.length := nz_lt (by rw [h60]; decide)
  have m1 := f112_h (F := F) (g := r118 F e) hF hb hO hR h hd hn hlv h60
  unfold sEl
  cases hq : sHd b R (st.length + l0) p ns with
  | inl c =>
    rw [hq] at m1
    obtain ⟨τ, a1, a2⟩ := m1
    exact Or.inl ⟨c, τ, a1, a2, rfl⟩
  | inr x =>
    rw [hq] at m1
    obtain ⟨τ, ws', a1, a2, a3, a4, a5, a6, a7, a8, a9⟩ := m1
    have g2 := nmE_le (b := b) (p := p + 1) (by omega)
    have g3 : p + 1 < nmE b (p + 1) := by
      unfold nmE
      rw [if_pos a8]
      exact skp_ge (f := isNam) (b := b) (p := p + 1 + 1)
    dsimp only
    by_cases hx : x.2.2 = true
    · rw [if_pos hx] at a1
      rw [if_pos hx]
      have i1 := ih (F - m) e 0 (p + 1) (nmE b (p + 1) - (p + 1)) x.1 N τ x.2.1 ws' ts st a3 a4 a5 a7 (by omega) (by omega) a9 he (by omega) (by omega) (by omega)
      rw [show F - m + m = F by omega] at i1
      rcases i1 with ⟨c, υ, j1, j2, j3⟩ | ⟨q, υ, ns', ws2, ts2, N', j1, j2, j3, j4, j5, j6, j7, j8, j9⟩
      · exact Or.inl ⟨c, υ, a1.trans j1, a2.trans j2, j3⟩
      · exact Or.inr ⟨q, υ, ns', ws2, ts2, N', a1.trans j1, a2.trans j2, j3, j4, j5, by omega, j7, j8, j9⟩
    · rw [if_neg hx] at a1
      rw [if_neg hx]
      exact Or.inr ⟨x.1, τ, x.2.1, ws', ts, N, a1, a2, a3, a4, a5, by omega, a7, by omega, rfl⟩
/-- a part, given the loop -/
theorem f118_e {m e p N : Nat} {σ : St} {ns : List Nd} {ws ts : List Int32} {st : List (List Int32)} (hF : 5000 ≤ F) (hb : b.length ≤ 120) (hO : okB b) (hR : R ≤ 30) (hm : m ≤ 1000) (ih : clOk F R l0 b m) (h : cRd σ b p R ns ws ts) (hd : dOk p ns ws ts) (hn : ns.length ≤ 30) (hp : p ≤ b.length) (hlv : st.length + l0 ≤ 1000) (hlt : b.length - p ≤ m) (he : 9 ≤ st.length + l0 + e) (hN : b.length - p ≤ N) :
    (∃ c τ, f118 F (r118 F e) (Int32.ofNat (st.length + l0)) σ = oT c τ ∧ agD σ τ ∧ sPa b R l0 (run b R l0 N) st p ns = .inl c) ∨
    (∃ q τ ns' ws' ts' N', f118 F (r118 F e) (Int32.ofNat (st.length + l0)) σ = oV τ ∧ agD σ τ ∧ cRd τ b q R ns' ws' ts' ∧ dOk q ns' ws' ts' ∧ ns'.length ≤ 30 ∧ p < q ∧ q ≤ b.length ∧ b.length - q < N' ∧ sPa b R l0 (run b R l0 N) st p ns = run b R l0 N' st q ns') := by
  unfold f118 sPa
  rw [ltE, h.2.1, f92_e h.1 hb (by omega), cIo]
  by_cases h60 : b.getD p 0 = 60
  · have hpl : p < b.length := nz_lt (by rw [h60]; decide)
    rw [if_pos h60, if_pos h60, f108_u (by omega) hb h (by omega)]
    by_cases hu : uns b p
    · rw [if_pos hu, if_pos ⟨h60, hu⟩, cIt]
      exact Or.inl ⟨13, σ, rfl, agD.refl, rfl⟩
    · rw [if_neg hu, if_neg (fun hh => hu hh.2), cIo]
      by_cases h33 : b.getD (p + 1) 0 = 33
      · rw [decide_eq_true (show b.getD p 0 = 60 ∧ b.getD (p + 1) 0 = 33 from ⟨h60, h33⟩), if_neg (show ¬ b2i true = 0 by decide), if_pos h33]
        have m1 := f109_e (F := F) (lv := st.length + l0) (by omega) hb hO h hd hR hn h60 h33
        cases hq : sCm b R ns.length p with
        | inl c =>
          rw [hq] at m1
          obtain ⟨τ, a1, a2⟩ := m1
          rw [a1, cVt]
          exact Or.inl ⟨c, τ, rfl, a2, rfl⟩
        | inr x =>
          have ok := sCm_ok hq
          rw [hq] at m1
          obtain ⟨τ, a1, a2, a3, a4, a5, a6⟩ := m1
          rw [a1, cVo]
          exact Or.inr ⟨x.1, τ, _, _, _, N, rfl, a2, a3, a4, by rw [List.length_append, List.length_cons, List.length_nil]; omega, by omega, a6, by omega, rfl⟩
      · rw [decide_eq_false (fun hh => h33 hh.2), if_pos b2i_f, if_neg h33]
        rcases f112_e hF hb hO hR hm ih h hd hn hlv h60 hlt he hN with ⟨c, τ, a1, a2, a3⟩ | ⟨q, τ, ns', ws', ts', N', a1, a2, a3⟩
        · rw [a1, cVt]
          exact Or.inl ⟨c, τ, rfl, a2, a3⟩
        · rw [a1, cVo]
          exact Or.inr ⟨q, τ, ns', ws', ts', N', rfl, a2, a3⟩
  · rw [if_neg h60, if_neg h60]
    have m1 := f119_e (F := F) (lv := st.length + l0) (by omega) hb hO h hd hR hn hp
    cases hq : sTx b R ns.length p with
    | inl c =>
      rw [hq] at m1
      obtain ⟨τ, a1, a2⟩ := m1
      rw [a1, cVt]
      exact Or.inl ⟨c, τ, rfl, a2, rfl⟩
    | inr x =>
      have ok := sTx_ok hO hq
      have ok2 := ok.2.2.2 h60
      rw [hq] at m1
      obtain ⟨τ, a1, a2, a3, a4, a5, a6⟩ := m1
      rw [a1, cVo]
      exact Or.inr ⟨x.1, τ, _, _, _, N, rfl, a2, a3, a4, by rw [List.length_append, List.length_cons, List.length_nil]; omega, ok2, a6, by omega, rfl⟩
theorem cl_ok (hF : 5000 ≤ F) (hb : b.length ≤ 120) (hO : okB b) (hR : R ≤ 30) : ∀ m, m ≤ 1000 → clOk F R l0 b m := by
  intro m
  induction m with
  | zero => intro _ k e t f nl p N σ ns ws ts st _ _ _ _ hlt; omega
  | succ m ih =>
    intro hm k e t f nl p N σ ns ws ts st h hd hn hp hlt ht hlv he hf hnl hN
    have ihm := ih (by omega)
    obtain ⟨N0, rfl⟩ : ∃ N0, N = N0 + 1 := ⟨N - 1, by omega⟩
    rw [← Nat.add_assoc, f112_122.eq_2, if_pos (show Int32.ofNat t < 120 from (oN_lt (q := 120) (by omega) (by decide)).mpr (by omega)), ltE, h.2.1, ltE, h.1.1]
    by_cases hpl : p < b.length
    · rw [if_pos ((oN_lt (by omega) (by omega)).mpr hpl), ltE, f94_e (by omega) hb h.1 (by decide) (by omega) (by decide +kernel), cIo, spl_29]
      by_cases hcl : b.getD p 0 = 60 ∧ b.getD (p + 1) 0 = 47
      · rw [run_cl hcl, decide_eq_true hcl, if_neg (show ¬ b2i true = 0 by decide)]
        have m1 := f120_e (F := F) (f := f) (n := nl) hF hb h hd hcl.1 hcl.2 hf hnl
        cases hq : sCl b p (stre b f nl) with
        | none =>
          rw [hq] at m1
          obtain ⟨τ, a1, a2⟩ := m1
          rw [a1, cVt]
          exact Or.inl ⟨10, τ, rfl, a2, rfl⟩
        | some q =>
          have ok := sCl_ok hq
          rw [hq] at m1
          obtain ⟨τ, a1, a2, a3, a4⟩ := m1
          rw [a1, cVo]
          exact Or.inr ⟨q, τ, ns, ws, ts, N0, rfl, a2, a3, a4, hn, ok.1, ok.2, by omega, rfl⟩
      · rw [run_pt hcl, decide_eq_false hcl, if_pos b2i_f]
        obtain ⟨e0, rfl⟩ : ∃ e0, e = e0 + 1 := ⟨e - 1, by omega⟩
        have m1 := f118_e (F := F) (R := R) (l0 := l0) (e := e0) (N := N0) (st := stre b f nl :: st) hF hb hO hR (by omega) ihm h hd hn hp (by rw [List.length_cons]; omega) (by omega) (by rw [List.length_cons]; omega) (by omega)
        rw [show (stre b f nl :: st).length + l0 = st.length + l0 + 1 by rw [List.length_cons]; omega, ← oN_p1] at m1
        rw [show r118 F (e0 + 1) (Int32.ofNat (st.length + l0) + 1) σ = f118 F (r118 F e0) (Int32.ofNat (st.length + l0) + 1) σ from r118.eq_2 ..]
        rcases m1 with ⟨c, τ, a1, a2, a3⟩ | ⟨q, τ, ns', ws', ts', N', a1, a2, a3, a4, a5, a6, a7, a8, a9⟩
        · rw [a1, cVt]
          exact Or.inl ⟨c, τ, rfl, a2, a3⟩
        · rw [a1, cVo, oN_p1, a9]
          rcases ihm k (e0 + 1) (t + 1) f nl q N' τ ns' ws' ts' st a3 a4 a5 a7 (by omega) (by omega) hlv he hf hnl a8 with ⟨c, υ, j1, j2, j3⟩ | ⟨q2, υ, ns2, ws2, ts2, N2, j1, j2, j3, j4, j5, j6, j7, j8, j9⟩
          · exact Or.inl ⟨c, υ, j1, a2.trans j2, j3⟩
          · exact Or.inr ⟨q2, υ, ns2, ws2, ts2, N2, j1, a2.trans j2, j3, j4, j5, by omega, j7, j8, j9⟩
    · have h0 : b.getD p 0 = 0 := getD_ge (by omega)
      have n60 : ¬ b.getD p 0 = 60 := by rw [h0]; decide
      rw [if_neg (fun hh => hpl ((oN_lt (by omega) (by omega)).mp hh)), run_pt (fun hh => n60 hh.1)]
      unfold f120 sPa sTx
      rw [f110_e hb h (by omega), if_neg n60, cVt, cVt, if_neg n60, if_pos hpl]
      exact Or.inl ⟨10, σ, rfl, agD.refl, rfl⟩
end CEL
