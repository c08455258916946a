/-! THE CLASS READS axes, tests, functions, comparisons -/
theorem ax_f : ∀ j, j < 12 → isX (100 + 1 * j) = true ∧ isS (xAxW.getD j 0) = true ∧ xAxW.getD j 0 ≤ 67 ∧ 0 < slen (xAxW.getD j 0) := by decide +kernel
theorem sl_f : slen 41 = 2 ∧ schr 41 0 = 58 ∧ schr 41 1 = 58 ∧ 0 < slen 45 ∧ 0 < slen 46 ∧ 0 < slen 47 ∧ 0 < slen 50 ∧ 0 < slen 51 ∧ 0 < slen 52 ∧ 0 < slen 53 := by decide +kernel
section QWD
variable {F p q up us : Nat} {b : List Int32} {σ τ υ : St}
theorem f48_70_e {n : Nat} (hF : 500 ≤ F) (hb : b.length ≤ 120) (hB : bufC σ b) (hp : p + n ≤ b.length) : ∀ (m kk j : Nat), j + m = 12 → f48_70 F (kk + m + 1) (Int32.ofNat n) (Int32.ofNat p) (Int32.ofNat j) σ = match axF (stre b p n) j m with
    | none => oT 10 σ
    | some a => some (.inl (some (.ref (100 + a))), σ) := by
  intro m
  induction m with
  | zero =>
    intro kk j hj
    rw [f48_70.eq_2, if_neg (show ¬ Int32.ofNat j < 12 from fun g => by have := (oN_lt (q := 12) (by omega) (by decide)).mp g; omega)]
    rfl
  | succ m ih =>
    intro kk j hj
    have a := ax_f j (by omega)
    rw [show kk + (m + 1) + 1 = (kk + m + 1) + 1 by omega, f48_70.eq_2, if_pos (show Int32.ofNat j < 12 from (oN_lt (q := 12) (by omega) (by decide)).mpr (by omega)), if_pos (oN_rg (by omega) (by decide)), ltE]
    simp only [oN_n (show j < 2147483648 by omega)]
    rw [if_pos a.1, ltE, show 100 + 1 * j - 100 = j by omega, if_pos a.2.1, f99_e hF hb hB a.2.2.1 a.2.2.2 hp, cIo, ifb]
    unfold axF
    by_cases c : stre b p n = lits (xAxW.getD j 0)
    · rw [if_pos (decide_eq_true c), if_pos c, if_pos (oN_rg (by omega) (by decide)), ltE, if_pos a.1]
      simp only [Nat.one_mul]
    · rw [if_neg (by rw [decide_eq_false c]; decide), if_neg c, oN_p1]
      exact ih kk (j + 1) (by omega)
theorem spl_cc {q : Nat} : spl b q 41 0 (slen 41) = decide (b.getD q 0 = 58 ∧ b.getD (q + 1) 0 = 58) := by
  rw [sl_f.1]
  unfold spl spl spl
  rw [sl_f.2.1, sl_f.2.2.1, Bool.decide_and, Nat.add_zero, Bool.and_true]
def oAx (σ : St) (y : Int32) (o : Option (Nat × Nat)) : Rs := match o with
  | none => oT 10 (uI σ 1030 5 y)
  | some x => some (.inl (some (.ref (100 + x.1))), uI σ 1030 5 (Int32.ofNat x.2))
theorem f48_e (hF : 500 ≤ F) (hb : b.length ≤ 120) (h : cQP b σ p up us) : ∃ y, f48 F σ = oAx σ y (rdA b p) := by
  have hp := h.2.2.2.2.1
  have n1 := nmE_ge (b := b) (p := p)
  have n2 := nmE_le hp
  have same : uI σ 1030 5 (Int32.ofNat p) = σ := uI_same h.2.1
  unfold f48
  rw [f44_e hb h]
  by_cases c1 : b.getD p 0 = 64
  · have e : rdA b p = some (5, p + 1) := by
      unfold rdA
      rw [if_pos c1]
    rw [if_pos c1, cIo, if_neg (by decide), e]
    exact ⟨0, rfl⟩
  · rw [if_neg c1, cIo, if_pos rfl, ltE, h.2.1, f96_e hF hb h.1 (by omega), cIo]
    by_cases c2 : nmE b p = p
    · have e : rdA b p = some (0, p) := by
        unfold rdA
        rw [if_neg c1, if_pos c2]
      rw [c2, Nat.sub_self, if_pos (by rfl), e]
      refine ⟨0, ?_⟩
      unfold oAx
      dsimp only
      rw [same]
    · rw [if_neg (show ¬ Int32.ofNat (nmE b p - p) = 0 from fun g => c2 (by have := (oE0 (by omega)).mp g; omega)), ltE, h.2.1, oN_ad, show p + (nmE b p - p) = nmE b p by omega, f94_e hF hb h.1 (by decide) (by omega) (by rw [sl_f.1]; decide), cIo, spl_cc]
      by_cases c3 : b.getD (nmE b p) 0 = 58 ∧ b.getD (nmE b p + 1) 0 = 58
      · have hB2 : bufC (uI σ 1030 5 (Int32.ofNat (nmE b p + 2))) b := h.1.fr (u_ne (by decide)) (u_ne (by decide))
        have key := f48_70_e (σ := uI σ 1030 5 (Int32.ofNat (nmE b p + 2))) (p := p) (n := nmE b p - p) hF hb hB2 (by omega) 12 (F - 13) 0 (by omega)
        rw [show F - 13 + 12 + 1 = F by omega] at key
        rw [decide_eq_true c3, if_neg (show ¬ b2i true = 0 by decide), ltE, ltE, h.2.1, ltE, oN_p2, oN_ad, show p + (nmE b p - p + 2) = nmE b p + 2 by omega]
        have e : rdA b p = match axF (stre b p (nmE b p - p)) 0 12 with
            | none => none
            | some a => some (a, nmE b p + 2) := by
          unfold rdA
          rw [if_neg c1, if_neg c2, if_pos c3]
          rfl
        refine ⟨Int32.ofNat (nmE b p + 2), ?_⟩
        rw [e]
        refine Eq.trans key ?_
        cases axF (stre b p (nmE b p - p)) 0 12 with
        | none => rfl
        | some a => rfl
      · have e : rdA b p = some (0, p) := by
          unfold rdA
          rw [if_neg c1, if_neg c2, if_neg c3]
        rw [decide_eq_false c3, if_pos b2i_f, e]
        refine ⟨0, ?_⟩
        unfold oAx
        dsimp only
        rw [same]
theorem f51_e {n : Nat} (hF : 500 ≤ F) (hb : b.length ≤ 120) (hB : bufC σ b) (hp : p + n ≤ b.length) : f51 F (Int32.ofNat p) (Int32.ofNat n) σ = match kdT (stre b p n) with
    | none => oT 10 σ
    | some t => oI (Int32.ofNat t) σ := by
  have s := sl_f
  unfold f51 kdT
  rw [f99_e hF hb hB (by decide) s.2.2.2.1 hp, cIo, ifb]
  by_cases c1 : stre b p n = lits 45
  · rw [if_pos (decide_eq_true c1), if_pos c1]
    rfl
  · rw [if_neg (by rw [decide_eq_false c1]; decide), if_neg c1, f99_e hF hb hB (by decide) s.2.2.2.2.1 hp, cIo, ifb]
    by_cases c2 : stre b p n = lits 46
    · rw [if_pos (decide_eq_true c2), if_pos c2]
      rfl
    · rw [if_neg (by rw [decide_eq_false c2]; decide), if_neg c2, f99_e hF hb hB (by decide) s.2.2.2.2.2.1 hp, cIo, ifb]
      by_cases c3 : stre b p n = lits 47
      · rw [if_pos (decide_eq_true c3), if_pos c3]
        rfl
      · rw [if_neg (by rw [decide_eq_false c3]; decide), if_neg c3]
theorem f58_e (hF : 500 ≤ F) (hb : b.length ≤ 120) (h : cQP b σ p up us) : f58 F (Int32.ofNat (nmE b p - p)) σ = oI (if fnW (nmW b p) = 0 then -1 else Int32.ofNat (fnW (nmW b p))) σ := by
  have s := sl_f
  have hp := h.2.2.2.2.1
  have n1 := nmE_ge (b := b) (p := p)
  have n2 := nmE_le hp
  unfold f58 fnW nmW
  simp only [ltE, h.2.1]
  rw [f99_e hF hb h.1 (by decide) s.2.2.2.2.2.2.1 (by omega), cIo, ifb]
  by_cases c1 : stre b p (nmE b p - p) = lits 50
  · rw [if_pos (decide_eq_true c1), if_pos c1]
    rfl
  · rw [if_neg (by rw [decide_eq_false c1]; decide), if_neg c1, h.2.1, f99_e hF hb h.1 (by decide) s.2.2.2.2.2.2.2.1 (by omega), cIo, ifb]
    by_cases c2 : stre b p (nmE b p - p) = lits 51
    · rw [if_pos (decide_eq_true c2), if_pos c2]
      rfl
    · rw [if_neg (by rw [decide_eq_false c2]; decide), if_neg c2, h.2.1, f99_e hF hb h.1 (by decide) s.2.2.2.2.2.2.2.2.1 (by omega), cIo, ifb]
      by_cases c3 : stre b p (nmE b p - p) = lits 52
      · rw [if_pos (decide_eq_true c3), if_pos c3]
        rfl
      · rw [if_neg (by rw [decide_eq_false c3]; decide), if_neg c3, h.2.1, f99_e hF hb h.1 (by decide) s.2.2.2.2.2.2.2.2.2 (by omega), cIo, ifb]
        by_cases c4 : stre b p (nmE b p - p) = lits 53
        · rw [if_pos (decide_eq_true c4), if_pos c4]
          rfl
        · rw [if_neg (by rw [decide_eq_false c4]; decide), if_neg c4]
          rfl
def sgO (z : Option Nat) : Int32 := match z with
  | none => -1
  | some o => Int32.ofNat (8 + o)
def oCm (σ : St) (y : Int32) (o : Option (Option Nat × Nat)) : Rs := match o with
  | none => oT 10 (uI σ 1030 5 y)
  | some z => oI (sgO z.1) (uI σ 1030 5 (Int32.ofNat z.2))
theorem f60_e (hb : b.length ≤ 120) (h : cQP b σ p up us) : ∃ y, f60 F σ = oCm σ y (cmO b p) := by
  have hp := h.2.2.2.2.1
  have same : uI σ 1030 5 (Int32.ofNat p) = σ := uI_same h.2.1
  unfold f60
  rw [f44_e hb h]
  by_cases c1 : b.getD p 0 = 61
  · have e : cmO b p = some (some 0, p + 1) := by
      unfold cmO
      rw [if_pos c1]
    rw [if_pos c1, cIo, if_neg (by decide), e]
    exact ⟨0, rfl⟩
  · rw [if_neg c1, cIo, if_pos rfl, f44_e hb h]
    by_cases c2 : b.getD p 0 = 60
    · have e : cmO b p = some (some 2, p + 1) := by
        unfold cmO
        rw [if_neg c1, if_pos c2]
      rw [if_pos c2, cIo, if_neg (by decide), e]
      exact ⟨0, rfl⟩
    · rw [if_neg c2, cIo, if_pos rfl, f44_e hb h]
      by_cases c3 : b.getD p 0 = 62
      · have e : cmO b p = some (some 3, p + 1) := by
          unfold cmO
          rw [if_neg c1, if_neg c2, if_pos c3]
        rw [if_pos c3, cIo, if_neg (by decide), e]
        exact ⟨0, rfl⟩
      · rw [if_neg c3, cIo, if_pos rfl, f44_e hb h]
        by_cases c4 : b.getD p 0 = 33
        · have hl := ch_lt c4 (by decide)
          rw [if_pos c4, cIo, if_neg (by decide), f50_e hb (h.mv (q := p + 1) (by omega))]
          by_cases c5 : b.getD (p + 1) 0 = 61
          · have e : cmO b p = some (some 1, p + 2) := by
              unfold cmO
              rw [if_neg c1, if_neg c2, if_neg c3, if_pos c4, if_pos c5]
            rw [if_pos c5, cVo, uI_uI, e]
            exact ⟨0, rfl⟩
          · have e : cmO b p = none := by
              unfold cmO
              rw [if_neg c1, if_neg c2, if_neg c3, if_pos c4, if_neg c5]
            rw [if_neg c5, cVt, e]
            exact ⟨_, rfl⟩
        · have e : cmO b p = some (none, p) := by
            unfold cmO
            rw [if_neg c1, if_neg c2, if_neg c3, if_neg c4]
          rw [if_neg c4, cIo, if_pos rfl, e]
          refine ⟨0, ?_⟩
          unfold oCm
          dsimp only
          rw [same]
          rfl
theorem f49_e {i a : Nat} (hF : 500 ≤ F) (hb : b.length ≤ 120) (h : cQP b σ p up us) (hi : i < us) (hc : cSt σ (1033 + 2 * i) a 1 0 0) (h42 : ¬ b.getD p 0 = 42) : (rdK b p = none → ∃ y, f49 F (1033 + 2 * i) σ = oT 10 (uI σ 1030 5 y)) ∧ (∀ x, rdK b p = some x → ∃ τ, f49 F (1033 + 2 * i) σ = oV τ ∧ cQP b τ x.2 up us ∧ cSt τ (1033 + 2 * i) a x.1.1 x.1.2.1 x.1.2.2 ∧ τ.2 = σ.2 ∧ ∀ A j, ¬ A = 1030 → ¬ (A = 1033 + 2 * i ∧ (j = 1 ∨ j = 2 ∨ j = 3)) → τ.1 A j = σ.1 A j) := by
  have hp := h.2.2.2.2.1
  have h7 := h.2.2.2.2.2.2.1
  have n1 := nmE_ge (b := b) (p := p)
  have n2 := nmE_le hp
  obtain ⟨c1, c2, c3, c4⟩ := hc
  unfold f49
  rw [ltE, h.2.1, f96_e hF hb h.1 (by omega), cIo]
  by_cases k1 : nmE b p = p
  · have e : rdK b p = none := by
      unfold rdK
      rw [if_neg h42, if_pos k1]
    rw [e, k1, Nat.sub_self, if_pos (by rfl)]
    exact ⟨fun _ => ⟨Int32.ofNat p, by rw [uI_same h.2.1]⟩, fun x hx => by cases hx⟩
  · have hm := h.mv n2
    rw [if_neg (show ¬ Int32.ofNat (nmE b p - p) = 0 from fun g => k1 (by have := (oE0 (by omega)).mp g; omega)), ltE, ltE, ltE, h.2.1, oN_ad, show p + (nmE b p - p) = nmE b p by omega, f44_e hb hm]
    by_cases k2 : b.getD (nmE b p) 0 = 40
    · have hl := ch_lt k2 (by decide)
      have hm2 := h.mv (q := nmE b p + 1) (by omega)
      rw [if_pos k2, cIo, if_neg (by decide), uI_uI, f50_e hb hm2]
      by_cases k3 : b.getD (nmE b p + 1) 0 = 41
      · have hl3 := ch_lt k3 (by decide)
        have hm3 := h.mv (q := nmE b p + 2) (by omega)
        rw [if_pos k3, cVo, uI_uI, show nmE b p + 1 + 1 = nmE b p + 2 by omega, f51_e hF hb hm3.1 (by omega)]
        cases hk : kdT (stre b p (nmE b p - p)) with
        | none =>
          have e : rdK b p = none := by
            unfold rdK nmW
            rw [if_neg h42, if_neg k1, if_pos k2, if_pos k3, hk]
          rw [e]
          exact ⟨fun _ => ⟨_, rfl⟩, fun x hx => by cases hx⟩
        | some t =>
          have e : rdK b p = some ((t, 0, 0), nmE b p + 2) := by
            unfold rdK nmW
            rw [if_neg h42, if_neg k1, if_pos k2, if_pos k3, hk]
          rw [e]
          refine ⟨fun hx => (by cases hx), fun x hx => ?_⟩
          injection hx with hx
          subst hx
          refine ⟨uI (uI σ 1030 5 (Int32.ofNat (nmE b p + 2))) (1033 + 2 * i) 1 (Int32.ofNat t), rfl, ?_, ?_, rfl, fun A j hA hj => ?_⟩
          · obtain ⟨g1, g2, g3, g4, g5, g6, g7, g8⟩ := hm3
            refine ⟨g1.fr (u_ne (by omega)) (u_ne (by omega)), by rw [u_ne (by omega)]; exact g2, by rw [u_ne (by omega)]; exact g3, by rw [u_ne (by omega)]; exact g4, g5, g6, g7, fun j hj => ?_⟩
            rw [xI1, if_neg (by omega)]
            exact g8 j hj
          · refine ⟨c1, u_eq, ?_, ?_⟩
            · rw [u_at, if_neg (by decide), u_ne (by omega)]
              exact c3
            · rw [u_at, if_neg (by decide), u_ne (by omega)]
              exact c4
          · rw [xI1, xI1, if_neg (by omega), if_neg (by omega)]
      · have e : rdK b p = none := by
          unfold rdK
          rw [if_neg h42, if_neg k1, if_pos k2, if_neg k3]
        rw [if_neg k3, cVt, e]
        exact ⟨fun _ => ⟨_, rfl⟩, fun x hx => by cases hx⟩
    · have e : rdK b p = some ((0, p, nmE b p - p), nmE b p) := by
        unfold rdK
        rw [if_neg h42, if_neg k1, if_neg k2]
      rw [if_neg k2, cIo, if_pos rfl, ltE, ltE, ltE, e]
      refine ⟨fun hx => (by cases hx), fun x hx => ?_⟩
      injection hx with hx
      subst hx
      refine ⟨uI (uI (uI (uI σ 1030 5 (Int32.ofNat (nmE b p))) (1033 + 2 * i) 1 0) (1033 + 2 * i) 2 (Int32.ofNat p)) (1033 + 2 * i) 3 (Int32.ofNat (nmE b p - p)), rfl, ?_, ?_, rfl, fun A j hA hj => ?_⟩
      · obtain ⟨g1, g2, g3, g4, g5, g6, g7, g8⟩ := hm
        refine ⟨g1.fr (by rw [u_ne (by omega), u_ne (by omega), u_ne (by omega)]) (by rw [u_ne (by omega), u_ne (by omega), u_ne (by omega)]), ?_, ?_, ?_, g5, g6, g7, fun j hj => ?_⟩
        · rw [u_ne (by omega), u_ne (by omega), u_ne (by omega)]
          exact g2
        · rw [u_ne (by omega), u_ne (by omega), u_ne (by omega)]
          exact g3
        · rw [u_ne (by omega), u_ne (by omega), u_ne (by omega)]
          exact g4
        · rw [xI1, if_neg (by omega), xI1, if_neg (by omega), xI1, if_neg (by omega)]
          exact g8 j hj
      · refine ⟨c1, ?_, ?_, u_eq⟩
        · rw [u_at, if_neg (by decide), u_at, if_neg (by decide), u_eq]
          rfl
        · rw [u_at, if_neg (by decide), u_eq]
      · rw [xI1, if_neg (by omega), xI1, if_neg (by omega), xI1, if_neg (by omega), xI1, if_neg (by omega)]
end QWD
