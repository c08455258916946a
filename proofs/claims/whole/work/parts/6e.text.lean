/-! a node added by the reader; a whole text -/
section TX2
variable {F p q R : Nat} {b : List Int32} {σ : St} {ns : List Nd} {ws ts : List Int32}
theorem dAdd_oth {n k lv nl ol tl wl a : Nat} (h : a < 1016 ∨ 1024 < a) : (dAdd σ n k lv nl ol tl wl).1 a = σ.1 a := by
  unfold dAdd
  rw [u_ne (by omega), u_ne (by omega), u_ne (by omega), u_ne (by omega), u_ne (by omega), u_ne (by omega), u_ne (by omega)]
theorem agD.dAdd {τ : St} {n k lv nl ol tl wl : Nat} (h : agD σ τ) : agD σ (dAdd τ n k lv nl ol tl wl) := ⟨fun a ha => by rw [dAdd_oth (by omega)]; exact h.1 a ha, h.2⟩
theorem cRd.add {x : Nd} (h : cRd σ b p R ns ws ts) (hw : ws = flW (ns ++ [x])) : cRd (dAdd σ ns.length x.1 x.2.1 x.2.2.1.length x.2.2.2.length ts.length ws.length) b p R (ns ++ [x]) ws ts := by
  obtain ⟨h1, h2, h3, h4⟩ := h
  refine ⟨⟨?_, fun j hj => ?_⟩, ?_, ?_, h4.add hw⟩
  · rw [dAdd_oth (by decide)]
    exact h1.1
  · rw [dAdd_oth (by decide)]
    exact h1.2 j hj
  · rw [dAdd_oth (by decide)]
    exact h2
  · rw [dAdd_oth (by decide)]
    exact h3
theorem f124_c {x : Nd} (h : cRd σ b p R ns ws ts) (hn : ns.length < 30) : f124 F 1016 (Int32.ofNat x.1) (Int32.ofNat x.2.1) (Int32.ofNat x.2.2.1.length) (Int32.ofNat x.2.2.2.length) σ = oV (dAdd σ ns.length x.1 x.2.1 x.2.2.1.length x.2.2.2.length ts.length ws.length) := f124_e h.2.2.2.1 hn h.2.2.2.2.2.1.1 h.2.2.2.2.1.1
/-- what the draft holds while nothing is half done, at most as much as was read -/
def dOk (p : Nat) (ns : List Nd) (ws ts : List Int32) : Prop := ws = flW ns ∧ ts = flT ns ∧ ws.length ≤ p ∧ ts.length ≤ p
/-- reading a text at p: a code, or where it ends and its characters -/
def sTx (b : List Int32) (R k p : Nat) : Nat ⊕ (Nat × List Int32) := if ¬ p < b.length then .inl 10 else if ¬ k < R then .inl 11 else match rdT b stT 200 p with
  | none => .inl 10
  | some x => .inr x
theorem f119_e {lv : Nat} (hF : 500 ≤ F) (hb : b.length ≤ 120) (hO : okB b) (h : cRd σ b p R ns ws ts) (hd : dOk p ns ws ts) (hR : R ≤ 30) (hn : ns.length ≤ 30) (hp : p ≤ b.length) :
    match sTx b R ns.length p with
    | .inl c => ∃ τ, f119 F (Int32.ofNat lv) σ = oT c τ ∧ agD σ τ
    | .inr x => ∃ τ, f119 F (Int32.ofNat lv) σ = oV τ ∧ agD σ τ ∧ cRd τ b x.1 R (ns ++ [(3, lv, [], x.2)]) ws (ts ++ x.2) ∧ dOk x.1 (ns ++ [(3, lv, [], x.2)]) ws (ts ++ x.2) ∧ p ≤ x.1 ∧ x.1 ≤ b.length := by
  unfold sTx f119
  rw [ltE, h.2.1, ltE, h.1.1]
  by_cases hl : p < b.length
  · rw [if_neg (fun hh => hh hl), if_pos ((oN_lt (by omega) (by omega)).mpr hl), f111_e h (by omega) (by omega)]
    by_cases hk : ns.length < R
    · rw [if_neg (fun hh => hh hk), if_pos hk, cVo]
      obtain ⟨k, hk2⟩ : ∃ k, F = k + 200 := ⟨F - 200, by omega⟩
      have e0 := f119_30_e (F := F) (lv := lv) hF hb hO 200 k p 0 σ ts h hp (by omega) (by omega) (by have := hd.2.2.2; omega)
      have e1 : ∀ G, G = k + 200 → ((rdT b stT 200 p = none ∧ ∃ τ, f119_30 F G (Int32.ofNat lv) 0 σ = oT 10 τ ∧ agD σ τ) ∨ (∃ q cs τ, rdT b stT 200 p = some (q, cs) ∧ f119_30 F G (Int32.ofNat lv) 0 σ = f119_86 F (Int32.ofNat lv) (Int32.ofNat (0 + cs.length)) τ ∧ agD σ τ ∧ cRd τ b q R ns ws (ts ++ cs) ∧ p + cs.length ≤ q ∧ q ≤ b.length)) := fun G hG => by
        rw [hG]
        exact e0
      rcases e1 F hk2 with ⟨a1, τ, a2, a3⟩ | ⟨q, cs, τ, a1, a2, a3, a4, a5, a6⟩
      · rw [a1]
        exact ⟨τ, a2, a3⟩
      · rw [a1]
        dsimp only
        have hw : ws = flW (ns ++ [(3, lv, [], cs)]) := by
          rw [flW_snoc, hd.1]
          simp [wOf]
        have k1 := f124_c (F := F) (x := (3, lv, [], cs)) a4 (by omega)
        refine ⟨_, ?_, a3.dAdd, a4.add (x := (3, lv, [], cs)) hw, ⟨hw, ?_, ?_, ?_⟩, by omega, a6⟩
        · rw [a2, Nat.zero_add]
          unfold f119_86
          have k2 : f124 F 1016 3 (Int32.ofNat lv) 0 (Int32.ofNat cs.length) τ = _ := k1
          rw [k2, cVo]
        · rw [flT_snoc, hd.2.1]
          simp [tOf]
        · have := hd.2.2.1
          omega
        · rw [List.length_append]
          have := hd.2.2.2
          omega
    · rw [if_pos hk, if_neg hk, cVt]
      exact ⟨σ, rfl, agD.refl⟩
  · rw [if_pos hl, if_neg (fun hh => hl ((oN_lt (by omega) (by omega)).mp hh))]
    exact ⟨σ, rfl, agD.refl⟩
end TX2
