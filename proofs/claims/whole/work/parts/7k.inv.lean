/-! WHAT HOLDS BETWEEN TWO CALLS -/
def qrs (σ : St) (n : Nat) : Prop := (σ.1 1315 34 = 0 ∧ σ.1 1000 7 = 0) ∨ (σ.1 1315 34 = 1 ∧ σ.1 1315 35 = σ.1 1000 7 ∧ ∀ j, n ≤ j → j < 30 → bt (σ.1 1000 7) j = false)
def exo (σ : St) (c : Nat) : Prop := σ.2.2.2.length ≤ c ∧ ∀ e ∈ σ.2.2.2, aSl aNs e ≤ 65
def Inv (σ : St) (b : List Int32) (ns : List Nd) (c : Nat) : Prop := (bufC σ b ∧ bufM σ b ∧ b.length ≤ 120 ∧ okB b) ∧ (cTr σ ns ∧ mTr σ ns ∧ wf ns ∧ ns.length ≤ 30) ∧ tot ns + b.length ≤ 8 * c ∧ qrs σ ns.length ∧ exo σ c
theorem Inv.sz {σ : St} {b : List Int32} {ns : List Nd} {c : Nat} (h : Inv σ b ns c) (hc : c ≤ 512) : szOk ns ∧ tot ns + b.length ≤ 4096 := by
  have h1 := h.2.2.1
  have h2 : tot ns = (flW ns).length + (flT ns).length := rfl
  exact ⟨⟨⟨h.2.1.2.2.2, h.2.1.2.2.1.lv⟩, by omega, by omega⟩, by omega⟩
theorem Inv.up {σ : St} {b : List Int32} {ns : List Nd} {c d : Nat} (h : Inv σ b ns c) (hd : c ≤ d) : Inv σ b ns d := ⟨h.1, h.2.1, by have := h.2.2.1; omega, h.2.2.2.1, by have := h.2.2.2.2.1; omega, h.2.2.2.2.2⟩
/-- thrown set to a number -/
theorem Inv.th {σ : St} {b : List Int32} {ns : List Nd} {c : Nat} {x : Int32} (h : Inv σ b ns c) : Inv (uI σ 1315 0 x) b ns c := by
  obtain ⟨⟨h1, h2, h3, h4⟩, ⟨h5, h6, h7, h8⟩, h9, h10, h11⟩ := h
  refine ⟨⟨⟨by rw [u_ne (by decide)]; exact h1.1, fun j hj => by rw [u_ne (by decide)]; exact h1.2 j hj⟩, ⟨by rw [u_at, if_neg (by decide)]; exact h2.1, fun j hj => by rw [u_ne (by decide)]; exact h2.2 j hj⟩, h3, h4⟩, ⟨h5.fr (fun a _ _ => u_ne (by omega)), h6.fr (fun a _ _ => u_ne (by omega)) (by rw [u_at, if_neg (by decide)]), h7, h8⟩, h9, ?_, h11⟩
  unfold qrs
  rw [u_at, if_neg (by decide), u_at, if_neg (by decide), u_ne (by decide)]
  exact h10
theorem num_cases (x : Int32) (n : Nat) (hn : n ≤ 100000) : (∃ p, p < n ∧ x = Int32.ofNat p) ∨ (x < 0 ∨ ¬ x < Int32.ofNat n) := by
  by_cases h1 : x < 0
  · exact Or.inr (Or.inl h1)
  · by_cases h2 : x < Int32.ofNat n
    · refine Or.inl ⟨x.toNatClampNeg, ?_, ?_⟩
      · rw [Int32.lt_iff_toInt_lt] at h1 h2
        rw [oN_i (by omega)] at h2
        have h3 : (0 : Int32).toInt = 0 := rfl
        rw [h3] at h1
        rw [tcn]
        omega
      · rw [Int32.lt_iff_toInt_lt] at h1 h2
        rw [oN_i (by omega)] at h2
        have h3 : (0 : Int32).toInt = 0 := rfl
        rw [h3] at h1
        rw [← Int32.toInt_inj, tcn, oN_i (by omega)]
        omega
    · exact Or.inr (Or.inr h2)
section HAS
variable {F p : Nat} {x : Int32} {σ : St} {ns : List Nd}
theorem f128_y (h : cTr σ ns) (hn : ns.length ≤ 30) (hp : p < ns.length) : f128 F 1003 (Int32.ofNat p) σ = oI 1 σ := by
  unfold f128
  rw [if_neg (oN_nn (by omega)), ltE, h.1.1, if_pos ((oN_lt (by omega) (by omega)).mpr hp)]
theorem f128_n (h : cTr σ ns) (hx : x < 0 ∨ ¬ x < Int32.ofNat ns.length) : f128 F 1003 x σ = oI 0 σ := by
  unfold f128
  by_cases h0 : x < 0
  · rw [if_pos h0]
  · rw [if_neg h0, ltE, h.1.1, if_neg (hx.elim (fun g => absurd g h0) id)]
theorem f182_y (h : mTr σ ns) (hn : ns.length ≤ 30) (hp : p < ns.length) : f182 F (Int32.ofNat p) σ = oI 1 σ := by
  unfold f182
  rw [if_neg (oN_nn (by omega)), ltE, h.1, if_pos ((oN_lt (by omega) (by omega)).mpr hp)]
theorem f182_n (h : mTr σ ns) (hx : x < 0 ∨ ¬ x < Int32.ofNat ns.length) : f182 F x σ = oI 0 σ := by
  unfold f182
  by_cases h0 : x < 0
  · rw [if_pos h0]
  · rw [if_neg h0, ltE, h.1, if_neg (hx.elim (fun g => absurd g h0) id)]
theorem mTr.th {y : Int32} (h : mTr σ ns) : mTr (uI σ 1315 0 y) ns := h.fr (fun a _ _ => u_ne (by omega)) (by rw [u_at, if_neg (by decide)])
end HAS
/-! calls that ask for numbers -/
section OBS
variable {F c : Nat} {x : Int32} {σ : St} {b : List Int32} {ns : List Nd}
theorem op_nodes (h : Inv σ b ns c) : ∃ v, f14 F σ = oI v σ ∧ f190 F σ = oI v (uI σ 1315 0 0) := by
  refine ⟨Int32.ofNat ns.length, ?_, ?_⟩
  · unfold f14
    rw [ltE, h.2.1.1.1.1]
  · unfold f190
    rw [ltE, ltE, h.2.1.2.1.th.1]
theorem op_kind (h : Inv σ b ns c) : ∃ v, f15 F x σ = oI v σ ∧ f191 F x σ = oI v (uI σ 1315 0 0) := by
  have hn := h.2.1.2.2.2
  have hm := h.2.1.2.1.th (y := 0)
  unfold f15 f191
  rw [ltE]
  rcases num_cases x ns.length (by omega) with ⟨p, hp, rfl⟩ | hx
  · refine ⟨Int32.ofNat (nd ns p).1, ?_, ?_⟩
    · rw [f128_y h.2.1.1 hn hp, cIo, if_neg (show ¬ (1 : Int32) = 0 by decide), if_pos (oN_rg (by omega) (by decide)), oN_n (by omega), (h.2.1.1.1.2 p hp).1, ltE]
    · rw [f182_y hm hn hp, cIo, if_neg (show ¬ (1 : Int32) = 0 by decide), if_pos (oN_rg (by omega) (by decide)), oN_n (by omega), (hm.2 p hp).1.1, ltE]
  · refine ⟨-1, ?_, ?_⟩
    · rw [f128_n h.2.1.1 hx, cIo, if_pos (by rfl)]
    · rw [f182_n hm hx, cIo, if_pos (by rfl)]
theorem op_size (h : Inv σ b ns c) : ∃ v, f16 F x σ = oI v σ ∧ f192 F x σ = oI v (uI σ 1315 0 0) := by
  have hn := h.2.1.2.2.2
  have hm := h.2.1.2.1.th (y := 0)
  unfold f16 f192 f185
  rw [ltE]
  rcases num_cases x ns.length (by omega) with ⟨p, hp, rfl⟩ | hx
  · refine ⟨Int32.ofNat (siz ns p), ?_, ?_⟩
    · rw [f128_y h.2.1.1 hn hp, cIo, if_neg (show ¬ (1 : Int32) = 0 by decide), if_pos (oN_rg (by omega) (by decide)), oN_n (by omega), (h.2.1.1.2.2.2.2 p hp).2, ltE]
    · rw [f182_y hm hn hp, cIo, if_neg (show ¬ (1 : Int32) = 0 by decide), if_pos (oN_rg (by omega) (by decide)), oN_n (by omega), (hm.2 p hp).2.1, ltE, cIo]
  · refine ⟨-1, ?_, ?_⟩
    · rw [f128_n h.2.1.1 hx, cIo, if_pos (by rfl)]
    · rw [f182_n hm hx, cIo, if_pos (by rfl)]
theorem op_level (h : Inv σ b ns c) : ∃ v, f17 F x σ = oI v σ ∧ f193 F x σ = oI v (uI σ 1315 0 0) := by
  have hn := h.2.1.2.2.2
  have hm := h.2.1.2.1.th (y := 0)
  unfold f17 f193
  rw [ltE]
  rcases num_cases x ns.length (by omega) with ⟨p, hp, rfl⟩ | hx
  · refine ⟨Int32.ofNat (nd ns p).2.1, ?_, ?_⟩
    · rw [f128_y h.2.1.1 hn hp, cIo, if_neg (show ¬ (1 : Int32) = 0 by decide), if_pos (oN_rg (by omega) (by decide)), oN_n (by omega), (h.2.1.1.1.2 p hp).2.1, ltE]
    · rw [f182_y hm hn hp, cIo, if_neg (show ¬ (1 : Int32) = 0 by decide), if_pos (oN_rg (by omega) (by decide)), oN_n (by omega), (hm.2 p hp).1.2.1, ltE]
  · refine ⟨-1, ?_, ?_⟩
    · rw [f128_n h.2.1.1 hx, cIo, if_pos (by rfl)]
    · rw [f182_n hm hx, cIo, if_pos (by rfl)]
/-- a character of a row -/
theorem f92_r {r k : Nat} {l : List Int32} (hr : isRw r) (h : rowL σ r l) (hl : l.length ≤ capR r) (hk : k < 100000) : f92 F r (Int32.ofNat k) σ = oI (l.getD k 0) σ := by
  have hc := capR_le r
  unfold f92
  rw [if_neg (oN_nn (by omega)), ltE, h.1, (rw_f hr).1, (rw_f hr).2]
  by_cases hkl : k < l.length
  · rw [if_pos ((oN_lt (by omega) (by omega)).mpr hkl), if_pos (oN_rg (by omega) (by omega)), oN_n (by omega), h.2 k hkl, ltE]
  · rw [if_neg (fun g => hkl ((oN_lt (by omega) (by omega)).mp g)), getD_ge (by omega)]
theorem op_name {y : Int32} (hc : c ≤ 512) (h : Inv σ b ns c) : ∃ v, f18 F x y σ = oI v σ ∧ f194 F x y σ = oI v (uI σ 1315 0 0) := by
  have hn := h.2.1.2.2.2
  have hs := (h.sz hc).1
  have hm := h.2.1.2.1.th (y := 0)
  have s2 := hs.2.2
  unfold f18 f194
  rw [ltE]
  rcases num_cases x ns.length (by omega) with ⟨p, hp, rfl⟩ | hx
  · have i1 : inB (Int32.ofNat p) 31 := oN_rg (by omega) (by decide)
    have i2 : inB (Int32.ofNat p) 30 := oN_rg (by omega) (by decide)
    have q1 := oN_n (show p < 2147483648 by omega)
    obtain ⟨m1, m2, m3, m4, na, ta, m5, m6, m7, m8, m9, m10⟩ := (hm.2 p hp).1
    have ww := wF_s hp
    have wl := wF_le (ns := ns) (show p + 1 ≤ ns.length by omega)
    rw [wF_all] at wl
    rcases num_cases y (nd ns p).2.2.1.length (by omega) with ⟨k, hk, rfl⟩ | hy
    · refine ⟨(nd ns p).2.2.1.getD k 0, ?_, ?_⟩
      · have e1 := (flW_name (rest := []) (nd_some hp)).1
        rw [List.append_nil] at e1
        have e2 : (flW ns).getD (wF ns p + k) 0 = (nd ns p).2.2.1.getD k 0 := by
          rw [← stre_at (l := flW ns) (p := wF ns p) (n := (nd ns p).2.2.1.length) hk]
          unfold wF
          rw [e1]
        rw [f128_y h.2.1.1 hn hp, cIo, if_neg (show ¬ (1 : Int32) = 0 by decide), if_neg (oN_nn (by omega)), if_pos i2, ltE]
        simp only [q1]
        rw [(h.2.1.1.1.2 p hp).2.2.1, if_pos ((oN_lt (by omega) (by omega)).mpr hk), if_pos i1, ltE, (h.2.1.1.2.2.2.1 p (by omega)).2, oN_ad, f92_r (Or.inr (Or.inr (Or.inl rfl))) h.2.1.1.2.1 (by rw [show capR 1014 = 4096 by decide]; omega) (by omega), cIo, e2]
      · rw [f182_y hm hn hp, cIo, if_neg (show ¬ (1 : Int32) = 0 by decide), if_neg (oN_nn (by omega)), if_pos i1, ltE]
        simp only [q1]
        rw [m3, if_pos ((oN_lt (by omega) (by omega)).mpr hk), if_pos i1, ltE, m5, oN_ad, if_pos (oN_rg (by omega) (by decide)), oN_n (by omega), m9 k hk, ltE]
    · refine ⟨0, ?_, ?_⟩
      · rw [f128_y h.2.1.1 hn hp, cIo, if_neg (show ¬ (1 : Int32) = 0 by decide)]
        by_cases y0 : y < 0
        · rw [if_pos y0]
        · rw [if_neg y0, if_pos i2, ltE]
          simp only [q1]
          rw [(h.2.1.1.1.2 p hp).2.2.1, if_neg (hy.elim (fun g => absurd g y0) id)]
      · rw [f182_y hm hn hp, cIo, if_neg (show ¬ (1 : Int32) = 0 by decide)]
        by_cases y0 : y < 0
        · rw [if_pos y0]
        · rw [if_neg y0, if_pos i1, ltE]
          simp only [q1]
          rw [m3, if_neg (hy.elim (fun g => absurd g y0) id)]
  · refine ⟨0, ?_, ?_⟩
    · rw [f128_n h.2.1.1 hx, cIo, if_pos rfl]
    · rw [f182_n hm hx, cIo, if_pos rfl]
end OBS
