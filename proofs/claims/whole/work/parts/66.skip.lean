/-! STRETCHES OF THE BUFFER -/
section UPD
variable {σ : St} {a b i j : Nat} {x y : Int32}
theorem st_ext {σ τ : St} (h1 : σ.1 = τ.1) (h2 : σ.2 = τ.2) : σ = τ := Prod.ext h1 h2
theorem uI_uI : uI (uI σ a j x) a j y = uI σ a j y := by
  refine st_ext ?_ rfl
  funext c k
  by_cases hc : c = a
  · subst hc
    rw [u_at, u_at, u_at]
    split <;> rfl
  · rw [u_ne hc, u_ne hc, u_ne hc]
theorem uI_same (h : σ.1 a j = x) : uI σ a j x = σ := by
  refine st_ext ?_ rfl
  funext c k
  by_cases hc : c = a
  · subst hc
    rw [u_at]
    split
    · rename_i hk
      rw [hk, h]
    · rfl
  · rw [u_ne hc]
end UPD
/-- behind the characters of a kind -/
def skp (f : Int32 → Bool) (b : List Int32) (p : Nat) : Nat := p + ((b.drop p).takeWhile f).length
section SKP
variable {f : Int32 → Bool} {b : List Int32} {p : Nat}
theorem getD_lt (h : p < b.length) : b.getD p 0 = b[p] := by
  rw [List.getD_eq_getElem?_getD, List.getElem?_eq_getElem h]
  rfl
theorem skp_t (hp : p < b.length) (h : f (b.getD p 0) = true) : skp f b p = skp f b (p + 1) := by
  unfold skp
  rw [List.drop_eq_getElem_cons hp, List.takeWhile_cons, ← getD_lt hp, if_pos h, List.length_cons]
  omega
theorem skp_f (h : p < b.length → f (b.getD p 0) = false) : skp f b p = p := by
  unfold skp
  by_cases hp : p < b.length
  · rw [List.drop_eq_getElem_cons hp, List.takeWhile_cons, ← getD_lt hp, h hp]
    rfl
  · rw [List.drop_eq_nil_of_le (by omega)]
    rfl
theorem skp_ge : p ≤ skp f b p := by
  unfold skp
  omega
theorem skp_le (hp : p ≤ b.length) : skp f b p ≤ b.length := by
  unfold skp
  have h := (List.takeWhile_sublist (l := b.drop p) f).length_le
  rw [List.length_drop] at h
  omega
/-- the next character decides -/
theorem skp_cases (h0 : f 0 = false) : (f (b.getD p 0) = true ∧ p < b.length ∧ skp f b p = skp f b (p + 1)) ∨ (f (b.getD p 0) = false ∧ skp f b p = p) := by
  by_cases hp : p < b.length
  · by_cases hf : f (b.getD p 0) = true
    · exact Or.inl ⟨hf, hp, skp_t hp hf⟩
    · rw [Bool.not_eq_true] at hf
      exact Or.inr ⟨hf, skp_f (fun _ => hf)⟩
  · have h1 : f (b.getD p 0) = false := by rw [getD_ge (by omega)]; exact h0
    exact Or.inr ⟨h1, skp_f (fun hh => absurd hh hp)⟩
end SKP
theorem isBl_0 : isBl 0 = false := by decide
theorem isNam_0 : isNam 0 = false := by decide
theorem isLet_0 : isLet 0 = false := by decide
section LOOPS
variable {F : Nat} {b : List Int32}
theorem bufM_at {σ : St} {x : Int32} (h : bufM σ b) : bufM (uI σ 1315 32 x) b := by
  refine ⟨?_, fun j hj => ?_⟩
  · rw [u_at, if_neg (by decide)]
    exact h.1
  · rw [u_ne (by decide)]
    exact h.2 j hj
theorem f151_0_z {σ : St} {n p : Nat} (hb : b.length ≤ 120) (hB : bufM σ b) (ha : σ.1 1315 32 = Int32.ofNat p) (hp : p ≤ 1000) (h : isBl (b.getD p 0) = false) : f151_0 F (n + 1) σ = oV σ := by
  rw [f151_0.eq_2]
  simp only [lt]
  rw [ha, f152_e hB hb (by omega), cIo, f153_e, cIo, h, if_pos b2i_f]
theorem f151_0_s {σ : St} {n p : Nat} (hb : b.length ≤ 120) (hB : bufM σ b) (ha : σ.1 1315 32 = Int32.ofNat p) (hp : p ≤ 1000) (h : isBl (b.getD p 0) = true) : f151_0 F (n + 1) σ = f151_0 F n (uI σ 1315 32 (Int32.ofNat (p + 1))) := by
  rw [f151_0.eq_2]
  simp only [lt]
  rw [ha, f152_e hB hb (by omega), cIo, f153_e, cIo, h, if_neg (by decide), ha, oN_p1]
theorem f151_0_e (hb : b.length ≤ 120) : ∀ (m n p : Nat) (σ : St), bufM σ b → σ.1 1315 32 = Int32.ofNat p → p ≤ 1000 → skp isBl b p = p + m → f151_0 F (n + m + 1) σ = oV (uI σ 1315 32 (Int32.ofNat (p + m))) := by
  intro m
  induction m with
  | zero =>
    intro n p σ hB ha hp hs
    rcases skp_cases (b := b) (p := p) isBl_0 with ⟨h1, h2, h3⟩ | ⟨h1, h2⟩
    · have h4 := skp_ge (f := isBl) (b := b) (p := p + 1)
      omega
    · rw [f151_0_z hb hB ha hp h1, Nat.add_zero, uI_same ha]
  | succ m ih =>
    intro n p σ hB ha hp hs
    rcases skp_cases (b := b) (p := p) isBl_0 with ⟨h1, h2, h3⟩ | ⟨h1, h2⟩
    · have i1 := ih n (p + 1) (uI σ 1315 32 (Int32.ofNat (p + 1))) (bufM_at hB) u_eq (by omega) (by omega)
      rw [uI_uI, show p + 1 + m = p + (m + 1) by omega] at i1
      rw [show n + (m + 1) + 1 = (n + m + 1) + 1 by omega, f151_0_s hb hB ha hp h1, i1]
    · omega
theorem f151_e {σ : St} {p : Nat} (hF : 500 ≤ F) (hb : b.length ≤ 120) (hB : bufM σ b) (ha : σ.1 1315 32 = Int32.ofNat p) (hp : p ≤ b.length) : f151 F σ = oV (uI σ 1315 32 (Int32.ofNat (skp isBl b p))) := by
  have h1 := skp_ge (f := isBl) (b := b) (p := p)
  have h2 := skp_le (f := isBl) hp
  obtain ⟨m, hm⟩ : ∃ m, skp isBl b p = p + m := ⟨skp isBl b p - p, by omega⟩
  obtain ⟨n, rfl⟩ : ∃ n, F = n + m + 1 := ⟨F - m - 1, by omega⟩
  unfold f151
  rw [f151_0_e hb m n p σ hB ha (by omega) hm, hm]
/-- the class's: no change, the place is the answer -/
theorem f93_16_e {σ : St} (hb : b.length ≤ 120) (hB : bufC σ b) : ∀ (m n p : Nat), p ≤ 1000 → skp isBl b p = p + m → f93_16 F (n + m + 1) 1001 (Int32.ofNat b.length) (Int32.ofNat p) σ = oI (Int32.ofNat (p + m)) σ := by
  intro m
  induction m with
  | zero =>
    intro n p hp hs
    rcases skp_cases (b := b) (p := p) isBl_0 with ⟨h1, h2, h3⟩ | ⟨h1, h2⟩
    · have h4 := skp_ge (f := isBl) (b := b) (p := p + 1)
      omega
    · rw [f93_16.eq_2]
      by_cases hl : p < b.length
      · rw [if_pos ((oN_lt (by omega) (by omega)).mpr hl), rf_b, cap_c, if_pos (oN_rg (by omega) (by decide))]
        simp only [lt]
        simp only [oN_n (show p < 2147483648 by omega), hB.2 p hl]
        have h5 : isBl (b.getD p 0) = false := h1
        simp only [isBl, Bool.or_eq_false_iff, decide_eq_false_iff_not] at h5
        rw [if_neg h5.2, if_pos (oN_rg (by omega) (by decide)), if_neg h5.1]
        rfl
      · rw [if_neg (fun hh => hl ((oN_lt (by omega) (by omega)).mp hh))]
        rfl
  | succ m ih =>
    intro n p hp hs
    rcases skp_cases (b := b) (p := p) isBl_0 with ⟨h1, h2, h3⟩ | ⟨h1, h2⟩
    · rw [show n + (m + 1) + 1 = (n + m + 1) + 1 by omega, f93_16.eq_2]
      rw [if_pos ((oN_lt (by omega) (by omega)).mpr h2), rf_b, cap_c, if_pos (oN_rg (by omega) (by decide))]
      unfold f93_43
      simp only [lt]
      simp only [oN_n (show p < 2147483648 by omega), hB.2 p h2]
      have h5 : isBl (b.getD p 0) = true := h1
      simp only [isBl, Bool.or_eq_true, decide_eq_true_eq] at h5
      have i1 := ih n (p + 1) (by omega) (by omega)
      rw [show p + 1 + m = p + (m + 1) by omega, ← oN_p1] at i1
      by_cases h6 : b.getD p 0 = 32
      · rw [if_pos h6, i1]
      · rw [if_neg h6, if_pos (oN_rg (by omega) (by decide)), if_pos (h5.elim id (fun hh => absurd hh h6)), i1]
    · omega
theorem f93_e {σ : St} {p : Nat} (hF : 500 ≤ F) (hb : b.length ≤ 120) (hB : bufC σ b) (hp : p ≤ b.length) : f93 F 1001 (Int32.ofNat p) (Int32.ofNat b.length) σ = oI (Int32.ofNat (skp isBl b p)) σ := by
  have h1 := skp_ge (f := isBl) (b := b) (p := p)
  have h2 := skp_le (f := isBl) hp
  obtain ⟨m, hm⟩ : ∃ m, skp isBl b p = p + m := ⟨skp isBl b p - p, by omega⟩
  obtain ⟨n, rfl⟩ : ∃ n, F = n + m + 1 := ⟨F - m - 1, by omega⟩
  unfold f93
  simp only [lt]
  rw [if_neg (oN_nn (by omega)), hB.1, if_neg (fun hh => by have := (oN_lt (by omega) (by omega)).mp hh; omega), f93_16_e hb hB m n p (by omega) hm, hm]
end LOOPS
