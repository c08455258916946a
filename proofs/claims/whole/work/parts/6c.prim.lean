/-! THE CLASS'S READER: its state, and its small steps -/
/-- characters that can be typed -/
def okB (b : List Int32) : Prop := ∀ p, p < b.length → ∃ k, 0 < k ∧ k < 128 ∧ b.getD p 0 = Int32.ofNat k
theorem okB_nz {b : List Int32} {p : Nat} (h : okB b) (hp : p < b.length) : ¬ b.getD p 0 = 0 := by
  obtain ⟨k, h1, h2, h3⟩ := h p hp
  rw [h3]
  intro hh
  have := (oN_eq (q := 0) (by omega) (by decide)).mp hh
  omega
theorem nz_lt {b : List Int32} {p : Nat} (h : ¬ b.getD p 0 = 0) : p < b.length := by
  by_cases hp : p < b.length
  · exact hp
  · exact absurd (getD_ge (by omega)) h
def cRd (σ : St) (b : List Int32) (p R : Nat) (ns : List Nd) (ws ts : List Int32) : Prop := bufC σ b ∧ σ.1 1029 2 = Int32.ofNat p ∧ σ.1 1029 3 = Int32.ofNat R ∧ drf σ ns ws ts
section PRM
variable {F p q R : Nat} {b : List Int32} {σ : St} {ns : List Nd} {ws ts : List Int32}
theorem cRd.mv (h : cRd σ b p R ns ws ts) : cRd (uI σ 1029 2 (Int32.ofNat q)) b q R ns ws ts := by
  obtain ⟨h1, h2, h3, h4⟩ := h
  refine ⟨⟨?_, fun j hj => ?_⟩, u_eq, ?_, h4.rd⟩
  · rw [u_ne (by decide)]
    exact h1.1
  · rw [u_ne (by decide)]
    exact h1.2 j hj
  · rw [u_at, if_neg (by decide)]
    exact h3
theorem cRd.addT {c : Int32} (h : cRd σ b p R ns ws ts) : cRd (rAdd σ 1025 ts.length c) b p R ns ws (ts ++ [chN c]) := by
  obtain ⟨h1, h2, h3, h4⟩ := h
  refine ⟨⟨?_, fun j hj => ?_⟩, ?_, ?_, h4.addT⟩
  · rw [rAdd_oth (by decide) (by decide)]
    exact h1.1
  · rw [rAdd_oth (by decide) (by decide)]
    exact h1.2 j hj
  · rw [rAdd_oth (by decide) (by decide)]
    exact h2
  · rw [rAdd_oth (by decide) (by decide)]
    exact h3
theorem cRd.addW {c : Int32} (h : cRd σ b p R ns ws ts) : cRd (rAdd σ 1027 ws.length c) b p R ns (ws ++ [chN c]) ts := by
  obtain ⟨h1, h2, h3, h4⟩ := h
  refine ⟨⟨?_, fun j hj => ?_⟩, ?_, ?_, h4.addW⟩
  · rw [rAdd_oth (by decide) (by decide)]
    exact h1.1
  · rw [rAdd_oth (by decide) (by decide)]
    exact h1.2 j hj
  · rw [rAdd_oth (by decide) (by decide)]
    exact h2
  · rw [rAdd_oth (by decide) (by decide)]
    exact h3
theorem f110_e {c : Int32} (hb : b.length ≤ 120) (h : cRd σ b p R ns ws ts) (hp : p ≤ 1000) : f110 F c σ = if b.getD p 0 = c then oV (uI σ 1029 2 (Int32.ofNat (p + 1))) else oT 10 σ := by
  unfold f110
  rw [ltE, h.2.1, f92_e h.1 hb (by omega), cIo, ltE, h.2.1, oN_p1, ltE]
theorem f111_e (h : cRd σ b p R ns ws ts) (hn : ns.length ≤ 1000) (hR : R ≤ 1000) : f111 F σ = if ns.length < R then oV σ else oT 11 σ := by
  unfold f111
  rw [ltE, h.2.2.2.1, ltE, h.2.2.1]
  by_cases hk : ns.length < R
  · rw [if_pos ((oN_lt (by omega) (by omega)).mpr hk), if_pos hk]
  · rw [if_neg (fun hh => hk ((oN_lt (by omega) (by omega)).mp hh)), if_neg hk]
theorem f113_e (hF : 500 ≤ F) (hb : b.length ≤ 120) (h : cRd σ b p R ns ws ts) (hp : p ≤ b.length) : f113 F σ = if nmE b p = p then oT 10 σ else oI (Int32.ofNat (nmE b p - p)) (uI σ 1029 2 (Int32.ofNat (nmE b p))) := by
  have g1 := nmE_ge (b := b) (p := p)
  have g2 := nmE_le (b := b) hp
  unfold f113
  rw [ltE, h.2.1, f96_e hF hb h.1 (by omega), cIo]
  by_cases he : nmE b p = p
  · rw [if_pos he, if_pos]
    rw [he, Nat.sub_self]
    rfl
  · rw [if_neg he, if_neg (fun hh => by have := (oN_eq (q := 0) (by omega) (by decide)).mp hh; omega), ltE, h.2.1, oN_ad, ltE, show p + (nmE b p - p) = nmE b p by omega]
theorem f121_e (hb : b.length ≤ 120) (h : cRd σ b p R ns ws ts) (hp : p ≤ 1000) : f121 F σ = if p < b.length then oT 10 σ else oV σ := by
  unfold f121
  rw [ltE, h.2.1, ltE, h.1.1]
  by_cases hk : p < b.length
  · rw [if_pos ((oN_lt (by omega) (by omega)).mpr hk), if_pos hk]
  · rw [if_neg (fun hh => hk ((oN_lt (by omega) (by omega)).mp hh)), if_neg hk]
theorem f108_e (hF : 500 ≤ F) (hb : b.length ≤ 120) (h : cRd σ b p R ns ws ts) (hp : p ≤ 1000) : f108 F σ = if spl b p 10 0 (slen 10) = true ∨ spl b p 11 0 (slen 11) = true ∨ spl b p 12 0 (slen 12) = true then oT 13 σ else oI (b2i (spl b p 14 0 (slen 14))) σ := by
  have g1 := f94_e (w := 10) hF hb h.1 (by decide) hp (by decide +kernel)
  have g2 := f94_e (w := 11) hF hb h.1 (by decide) hp (by decide +kernel)
  have g3 := f94_e (w := 12) hF hb h.1 (by decide) hp (by decide +kernel)
  have g4 := f94_e (w := 14) hF hb h.1 (by decide) hp (by decide +kernel)
  unfold f108
  rw [ltE, h.2.1, g1, cIo]
  by_cases a1 : spl b p 10 0 (slen 10) = true
  · rw [if_pos (Or.inl a1), a1, if_neg (by decide)]
  · rw [Bool.not_eq_true] at a1
    rw [a1, if_pos b2i_f, ltE, h.2.1, g2, cIo]
    by_cases a2 : spl b p 11 0 (slen 11) = true
    · rw [if_pos (Or.inr (Or.inl a2)), a2, if_neg (by decide)]
    · rw [Bool.not_eq_true] at a2
      rw [a2, if_pos b2i_f, ltE, h.2.1, g3, cIo]
      by_cases a3 : spl b p 12 0 (slen 12) = true
      · rw [if_pos (Or.inr (Or.inr a3)), a3, if_neg (by decide)]
      · rw [Bool.not_eq_true] at a3
        rw [a3, if_pos b2i_f, ltE, h.2.1, g4, cIo, if_pos (b2i_z _), if_neg (by simp)]
end PRM
/-! a stretch of characters up to a stop -/
theorem entL_pos (e : Int32) : 4 ≤ entL e ∧ entL e ≤ 6 := by
  unfold entL
  split
  · decide
  · split
    · decide
    · split <;> decide
theorem rdCh_ok {b : List Int32} {p q : Nat} {c : Int32} (hO : okB b) (h : rdCh b p = some (c, q)) : p < q ∧ q ≤ b.length ∧ chN c = c ∧ c ≠ 0 := by
  unfold rdCh at h
  split at h
  · cases h
  · rename_i h1
    have h0 : p < b.length := nz_lt (fun hh => h1 (Or.inr hh))
    split at h
    · split at h
      · cases h
      · rename_i h2 h3
        simp only [Option.some.injEq, Prod.mk.injEq] at h
        obtain ⟨rfl, rfl⟩ := h
        unfold ent at h3 ⊢
        by_cases a1 : enA b p
        · simp only [if_pos a1] at h3 ⊢
          have k1 : p + 3 < b.length := nz_lt (by rw [a1.2.2]; decide)
          refine ⟨by have := entL_pos 60; omega, ?_, by decide +kernel, by decide⟩
          rw [show entL 60 = 4 by decide]
          omega
        · simp only [if_neg a1] at h3 ⊢
          by_cases a2 : enB b p
          · simp only [if_pos a2] at h3 ⊢
            have k1 : p + 3 < b.length := nz_lt (by rw [a2.2.2]; decide)
            refine ⟨by have := entL_pos 62; omega, ?_, by decide +kernel, by decide⟩
            rw [show entL 62 = 4 by decide]
            omega
          · simp only [if_neg a2] at h3 ⊢
            by_cases a3 : enC b p
            · simp only [if_pos a3] at h3 ⊢
              have k1 : p + 4 < b.length := nz_lt (by rw [a3.2.2.2]; decide)
              refine ⟨by have := entL_pos 38; omega, ?_, by decide +kernel, by decide⟩
              rw [show entL 38 = 5 by decide]
              omega
            · simp only [if_neg a3] at h3 ⊢
              by_cases a4 : enD b p
              · simp only [if_pos a4] at h3 ⊢
                have k1 : p + 5 < b.length := nz_lt (by rw [a4.2.2.2.2]; decide)
                refine ⟨by have := entL_pos 34; omega, ?_, by decide +kernel, by decide⟩
                rw [show entL 34 = 6 by decide]
                omega
              · simp only [if_neg a4] at h3 ⊢
                by_cases a5 : enE b p
                · simp only [if_pos a5] at h3 ⊢
                  have k1 : p + 5 < b.length := nz_lt (by rw [a5.2.2.2.2]; decide)
                  refine ⟨by have := entL_pos 39; omega, ?_, by decide +kernel, by decide⟩
                  rw [show entL 39 = 6 by decide]
                  omega
                · simp only [if_neg a5] at h3
                  exact absurd trivial h3
    · simp only [Option.some.injEq, Prod.mk.injEq] at h
      obtain ⟨rfl, rfl⟩ := h
      obtain ⟨k, k1, k2, k3⟩ := hO p h0
      exact ⟨by omega, by omega, by rw [k3]; exact chN_id k k2, okB_nz hO h0⟩
def rdT (b : List Int32) (stop : Int32 → Bool) : Nat → Nat → Option (Nat × List Int32)
  | 0, _ => none
  | n + 1, p => if stop (b.getD p 0) = true then some (p, []) else match rdCh b p with
    | none => none
    | some x => match rdT b stop n x.2 with
      | none => none
      | some y => some (y.1, x.1 :: y.2)
