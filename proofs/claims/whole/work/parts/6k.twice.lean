/-! A NAME THAT IS THERE ALREADY, class -/
section TWC
variable {F R p0 : Nat} {b : List Int32} {σ : St} {ns : List Nd} {ws ts : List Int32}
theorem f136_e {i p n : Nat} {x : Nd} (hF : 5000 ≤ F) (hb : b.length ≤ 120) (h : cRd σ b p0 R ns ws ts) (hw : ws = flW ns) (hwl : ws.length ≤ 120) (hn : ns.length ≤ 30) (hi : 1 ≤ i) (hx : ns[i]? = some x) (hp : p + n ≤ b.length) : f136 F 1016 (Int32.ofNat i) 1001 (Int32.ofNat p) (Int32.ofNat n) σ = oI (b2i (decide (x.2.2.1 = stre b p n))) σ := by
  have hil := (List.getElem?_eq_some_iff.mp hx).1
  have r2 : rfF 1016 2 = 1019 := by decide +kernel
  have r7 : rfF 1016 7 = 1024 := by decide +kernel
  have r9 : rfF 1016 9 = 1027 := by decide +kernel
  have q1 := oN_n (show i < 2147483648 by omega)
  obtain ⟨h1, h2, h3, h4, h5, h6, h7⟩ := h
  have g1 := (h7 i x hx).2.2.1
  have g2 := (h7 (i - 1) ns[i - 1] (List.getElem?_eq_getElem (by omega))).2.2.2.2
  rw [show i - 1 + 1 = i by omega] at g2
  have k := flW_name (rest := []) hx
  rw [List.append_nil, ← hw] at k
  unfold f136
  rw [if_pos (oN_rg (by omega) (by decide)), ltE, r7, if_pos (oN_rg (by omega) (by decide)), ltE, r2, q1, g2, g1, r9, f97_e (r := 1027) (r2 := 1001) (l := ws) (l2 := b) hF (Or.inr (Or.inr (Or.inr (Or.inr rfl)))) (Or.inl rfl) h5 (rowL_buf.mpr h1) (by rw [show capR 1027 = 120 by decide]; exact hwl) (by rw [show capR 1001 = 120 by decide]; exact hb) k.2 hp, cIo, if_pos (b2i_z _), sam_eq k.2 hp, k.1]
def dup (ns : List Nd) (nm : List Int32) : Bool := ns.any (fun x => decide (x.2.2.1 = nm))
theorem f116_3_e {p n : Nat} (hF : 5000 ≤ F) (hb : b.length ≤ 120) (h : cRd σ b p0 R ns ws ts) (hw : ws = flW ns) (hwl : ws.length ≤ 120) (hn : ns.length ≤ 30) (hp : p + n ≤ b.length) : ∀ (m k i : Nat), 1 ≤ i → i + m = ns.length → f116_3 F (k + m + 1) (Int32.ofNat p) (Int32.ofNat n) (Int32.ofNat i) σ = oI (b2i (dup (ns.drop i) (stre b p n))) σ := by
  intro m
  induction m with
  | zero =>
    intro k i hi him
    rw [f116_3.eq_2, ltE, h.2.2.2.1, if_neg (fun hh => by have := (oN_lt (by omega) (by omega)).mp hh; omega), List.drop_eq_nil_of_le (by omega)]
    rfl
  | succ m ih =>
    intro k i hi him
    have hil : i < ns.length := by omega
    rw [show k + (m + 1) + 1 = (k + m + 1) + 1 by omega, f116_3.eq_2, ltE, h.2.2.2.1, if_pos ((oN_lt (by omega) (by omega)).mpr hil), f136_e hF hb h hw hwl hn hi (List.getElem?_eq_getElem hil) hp, cIo, List.drop_eq_getElem_cons hil]
    unfold dup
    rw [List.any_cons]
    by_cases he : ns[i].2.2.1 = stre b p n
    · rw [decide_eq_true he, if_neg (show ¬ b2i true = 0 by decide), Bool.true_or]
      rfl
    · rw [decide_eq_false he, if_pos b2i_f, oN_p1, ih k (i + 1) (by omega) (by omega), Bool.false_or]
      rfl
theorem f116_e {p n fa : Nat} (hF : 5000 ≤ F) (hb : b.length ≤ 120) (h : cRd σ b p0 R ns ws ts) (hw : ws = flW ns) (hwl : ws.length ≤ 120) (hn : ns.length ≤ 30) (hp : p + n ≤ b.length) (hfa : 1 ≤ fa) (hfl : fa ≤ ns.length) : f116 F (Int32.ofNat fa) (Int32.ofNat p) (Int32.ofNat n) σ = oI (b2i (dup (ns.drop fa) (stre b p n))) σ := by
  unfold f116
  obtain ⟨k, hk⟩ : ∃ k, F = k + (ns.length - fa) + 1 := ⟨F - (ns.length - fa) - 1, by omega⟩
  have e1 : ∀ G, G = k + (ns.length - fa) + 1 → f116_3 F G (Int32.ofNat p) (Int32.ofNat n) (Int32.ofNat fa) σ = oI (b2i (dup (ns.drop fa) (stre b p n))) σ := fun G hG => by
    rw [hG]
    exact f116_3_e hF hb h hw hwl hn hp (ns.length - fa) k fa hfa (by omega)
  exact e1 F hk
end TWC
