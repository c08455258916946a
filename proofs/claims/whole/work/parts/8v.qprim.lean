/-! THE CLASS READS A PATH: small steps -/
theorem uR_at {σ : St} {a j i : Nat} {x : Value} : (uR σ a j x).2.2.1 a i = if i = j then x else σ.2.2.1 a i := by simp [uR, va_up]
theorem uR_ne {σ : St} {a c j : Nat} {x : Value} (h : ¬ c = a) : (uR σ a j x).2.2.1 c = σ.2.2.1 c := by simp [uR, h]
theorem xI1 {σ : St} {a j c i : Nat} {x : Int32} : (uI σ a j x).1 c i = if c = a ∧ i = j then x else σ.1 c i := by
  by_cases h : c = a
  · subst h
    rw [u_at]
    by_cases g : i = j
    · rw [if_pos g, if_pos ⟨rfl, g⟩]
    · rw [if_neg g, if_neg (fun q => g q.2)]
  · rw [u_ne h, if_neg (fun q => h q.1)]
theorem xJ1 {σ : St} {a j : Nat} {x : Int64} : (uJ σ a j x).1 = σ.1 := rfl
theorem xR1 {σ : St} {a j : Nat} {x : Value} : (uR σ a j x).1 = σ.1 := rfl
theorem xI2 {σ : St} {a j : Nat} {x : Int32} : (uI σ a j x).2 = σ.2 := rfl
theorem xR2 {σ : St} {a j : Nat} {x : Value} : (uR σ a j x).2.1 = σ.2.1 := rfl
theorem xR4 {σ : St} {a j : Nat} {x : Value} : (uR σ a j x).2.2.2 = σ.2.2.2 := rfl
theorem xJ3 {σ : St} {a j : Nat} {x : Int64} : (uJ σ a j x).2.2 = σ.2.2 := rfl
theorem xJ2 {σ : St} {a j c i : Nat} {x : Int64} : (uJ σ a j x).2.1 c i = if c = a ∧ i = j then x else σ.2.1 c i := by
  by_cases h : c = a
  · subst h
    by_cases g : i = j
    · subst g
      rw [uJ_at, if_pos ⟨rfl, rfl⟩]
    · rw [if_neg (fun q => g q.2)]
      simp [uJ, vp_updL, g]
  · rw [uJ_ne h, if_neg (fun q => h q.1)]
theorem xR3 {σ : St} {a j c i : Nat} {x : Value} : (uR σ a j x).2.2.1 c i = if c = a ∧ i = j then x else σ.2.2.1 c i := by
  by_cases h : c = a
  · subst h
    rw [uR_at]
    by_cases g : i = j
    · rw [if_pos g, if_pos ⟨rfl, g⟩]
    · rw [if_neg g, if_neg (fun q => g q.2)]
  · rw [uR_ne h, if_neg (fun q => h q.1)]
def cQP (b : List Int32) (σ : St) (p up us : Nat) : Prop := bufC σ b ∧ σ.1 1030 5 = Int32.ofNat p ∧ σ.1 1030 4 = Int32.ofNat up ∧ σ.1 1030 3 = Int32.ofNat us ∧ p ≤ b.length ∧ up ≤ 120 ∧ us ≤ 80 ∧ ∀ i, i < us → σ.1 (1033 + 2 * i) 7 = 0
def aqP (up us : Nat) (σ τ : St) : Prop := τ.2.2.2 = σ.2.2.2 ∧ (∀ A, ¬ (1030 ≤ A ∧ A < 1313) → τ.1 A = σ.1 A) ∧ (∀ i, i < up → τ.1 (1193 + i) = σ.1 (1193 + i) ∧ τ.2.1 (1193 + i) = σ.2.1 (1193 + i) ∧ τ.2.2.1 (1193 + i) = σ.2.2.1 (1193 + i)) ∧ (∀ i, i < us → τ.1 (1033 + 2 * i) = σ.1 (1033 + 2 * i) ∧ τ.2.2.1 (1033 + 2 * i) = σ.2.2.1 (1033 + 2 * i))
section QPR
variable {F p q up us : Nat} {b : List Int32} {σ τ υ : St}
theorem aqP.rf : aqP up us σ σ := ⟨rfl, fun _ _ => rfl, fun _ _ => ⟨rfl, rfl, rfl⟩, fun _ _ => ⟨rfl, rfl⟩⟩
theorem aqP.tr {u2 s2 : Nat} (h : aqP up us σ τ) (g : aqP u2 s2 τ υ) (h1 : up ≤ u2) (h2 : us ≤ s2) : aqP up us σ υ := by
  refine ⟨by rw [g.1, h.1], fun A hA => by rw [g.2.1 A hA, h.2.1 A hA], fun i hi => ?_, fun i hi => ?_⟩
  · have a := h.2.2.1 i hi
    have c := g.2.2.1 i (by omega)
    exact ⟨by rw [c.1, a.1], by rw [c.2.1, a.2.1], by rw [c.2.2, a.2.2]⟩
  · have a := h.2.2.2 i hi
    have c := g.2.2.2 i (by omega)
    exact ⟨by rw [c.1, a.1], by rw [c.2, a.2]⟩
theorem aqP.wk {u2 s2 : Nat} (h : aqP up us σ τ) (h1 : u2 ≤ up) (h2 : s2 ≤ us) : aqP u2 s2 σ τ := ⟨h.1, h.2.1, fun i hi => h.2.2.1 i (by omega), fun i hi => h.2.2.2 i (by omega)⟩
theorem aqP.mv {j : Nat} {x : Int32} : aqP up us σ (uI σ 1030 j x) := by
  refine ⟨rfl, fun A hA => u_ne (by omega), fun i hi => ⟨u_ne (by omega), rfl, rfl⟩, fun i hi => ⟨u_ne (by omega), rfl⟩⟩
theorem cQP.mv (h : cQP b σ p up us) (hq : q ≤ b.length) : cQP b (uI σ 1030 5 (Int32.ofNat q)) q up us := by
  obtain ⟨h1, h2, h3, h4, h5, h6, h7, h8⟩ := h
  refine ⟨h1.fr (u_ne (by decide)) (u_ne (by decide)), u_eq, by rw [u_at, if_neg (by decide)]; exact h3, by rw [u_at, if_neg (by decide)]; exact h4, hq, h6, h7, fun i hi => ?_⟩
  rw [u_ne (by omega)]
  exact h8 i hi
theorem cQP.ch (h : cQP b σ p up us) (hb : b.length ≤ 120) : f92 F 1001 (σ.1 1030 5) σ = oI (b.getD p 0) σ := by
  rw [h.2.1]
  exact f92_e h.1 hb (by have := h.2.2.2.2.1; omega)
theorem f44_e {c : Int32} (hb : b.length ≤ 120) (h : cQP b σ p up us) : f44 F c σ = if b.getD p 0 = c then oI 1 (uI σ 1030 5 (Int32.ofNat (p + 1))) else oI 0 σ := by
  unfold f44
  rw [ltE, h.ch hb, cIo]
  by_cases g : b.getD p 0 = c
  · rw [if_pos g, if_pos g, ltE, ltE, h.2.1, oN_p1]
  · rw [if_neg g, if_neg g]
theorem f50_e {c : Int32} (hb : b.length ≤ 120) (h : cQP b σ p up us) : f50 F c σ = if b.getD p 0 = c then oV (uI σ 1030 5 (Int32.ofNat (p + 1))) else oT 10 σ := by
  unfold f50
  rw [f44_e hb h]
  by_cases g : b.getD p 0 = c
  · rw [if_pos g, if_pos g, cIo, if_neg (by decide)]
  · rw [if_neg g, if_neg g, cIo, if_pos rfl]
theorem f45_e (hb : b.length ≤ 120) (h : cQP b σ p up us) : f45 F σ = oI (b2i (bgS (b.getD p 0))) σ := by
  unfold f45 bgS
  rw [ltE, h.ch hb, cIo, f22_e, cIo, ifb, ifb1, ifdo, ifdo, ifdo]
theorem f59_e (hb : b.length ≤ 120) (h : cQP b σ p up us) : f59 F σ = oI (b2i (decide (b.getD p 0 = 43 ∨ b.getD p 0 = 45))) σ := by
  unfold f59
  rw [ltE, h.ch hb, cIo, ltE, h.ch hb, cIo, ifd, ifdo, Bool.decide_or]
/-- a new part -/
def nwP (σ : St) (up : Nat) (s : Int32) : St := (uI (uI (uI (uJ (uR (uR (uI (uI (uR (uR (uR (uI (uI σ 1030 4 (Int32.ofNat (up + 1))) (1193 + up) 0 s) (1193 + up) 1 .null) (1193 + up) 2 .null) (1193 + up) 3 .null) (1193 + up) 4 0) (1193 + up) 5 0) (1193 + up) 6 .null) (1193 + up) 7 .null) (1193 + up) 8 0) (1193 + up) 9 0) (1193 + up) 10 0) (1193 + up) 11 0)
theorem nwP_1 {s : Int32} {A j : Nat} (h : ¬ A = 1193 + up) (h2 : ¬ (A = 1030 ∧ j = 4)) : (nwP σ up s).1 A j = σ.1 A j := by
  unfold nwP
  simp only [xI1, xJ1, xR1]
  repeat rw [if_neg (by omega)]
theorem nwP_2 {s : Int32} {A : Nat} (h : ¬ A = 1193 + up) : (nwP σ up s).2.1 A = σ.2.1 A := by
  funext j
  unfold nwP
  simp only [xI2, xR2, xJ2]
  repeat rw [if_neg (by omega)]
theorem nwP_3 {s : Int32} {A : Nat} (h : ¬ A = 1193 + up) : (nwP σ up s).2.2.1 A = σ.2.2.1 A := by
  funext j
  unfold nwP
  simp only [xI2, xJ3, xR3]
  repeat rw [if_neg (by omega)]
theorem f43_e {s : Int32} (h : cQP b σ p up us) (hu : up < 120) : f43 F s σ = some (.inl (some (.ref (1193 + up))), nwP σ up s) := by
  unfold f43 f34
  rw [ltE, h.2.2.1, if_pos (show Int32.ofNat up < 120 from (oN_lt (q := 120) (by omega) (by decide)).mpr hu), ltE, if_pos (oN_rg hu (by decide)), ltE, oN_n (by omega), show 1193 + 1 * up = 1193 + up by omega, if_pos (prt_f up hu), ltE, ltE, oN_p1]
  rfl
theorem f43_t {s : Int32} (h : cQP b σ p up us) (hu : ¬ up < 120) : f43 F s σ = oT 10 σ := by
  have h6 := h.2.2.2.2.2.1
  unfold f43
  rw [ltE, h.2.2.1, if_neg (show ¬ Int32.ofNat up < 120 from fun g => hu ((oN_lt (q := 120) (by omega) (by decide)).mp g))]
theorem nwP.ag {s : Int32} (hu : up < 120) (hs : us ≤ 80) : aqP up us σ (nwP σ up s) := by
  refine ⟨rfl, fun A hA => funext fun j => nwP_1 (by omega) (by omega), fun i hi => ⟨funext fun j => nwP_1 (by omega) (by omega), nwP_2 (by omega), nwP_3 (by omega)⟩, fun i hi => ?_⟩
  exact ⟨funext fun j => nwP_1 (by omega) (by omega), nwP_3 (by omega)⟩
theorem nwP.cp {s : Int32} (h : cQP b σ p up us) (hu : up < 120) : cQP b (nwP σ up s) p (up + 1) us := by
  obtain ⟨h1, h2, h3, h4, h5, h6, h7, h8⟩ := h
  refine ⟨h1.fr (funext fun j => nwP_1 (by omega) (by omega)) (funext fun j => nwP_1 (by omega) (by omega)), ?_, ?_, ?_, h5, by omega, h7, fun i hi => ?_⟩
  · rw [nwP_1 (by omega) (by omega)]
    exact h2
  · unfold nwP
    simp only [xI1, xJ1, xR1]
    repeat rw [if_neg (by omega)]
    rw [if_pos (by simp)]
  · rw [nwP_1 (by omega) (by omega)]
    exact h4
  · rw [nwP_1 (by omega) (by omega)]
    exact h8 i hi
theorem nwP.f {s : Int32} : (nwP σ up s).1 (1193 + up) 0 = s ∧ (nwP σ up s).1 (1193 + up) 4 = 0 ∧ (nwP σ up s).1 (1193 + up) 5 = 0 ∧ (nwP σ up s).2.1 (1193 + up) 8 = 0 ∧ (nwP σ up s).2.2.1 (1193 + up) 3 = .null ∧ (nwP σ up s).2.2.1 (1193 + up) 6 = .null ∧ (nwP σ up s).2.2.1 (1193 + up) 7 = .null := by
  unfold nwP
  simp [xI1, xJ1, xR1, xI2, xR2, xJ3, xJ2, xR3]
/-- a new step -/
def nwS (σ : St) (us a : Nat) (t : Int32) : St := uI (uR (uR (uR (uI (uI (uI (uR (uI σ 1030 3 (Int32.ofNat (us + 1))) (1033 + 2 * us) 0 (.ref a)) (1033 + 2 * us) 1 t) (1033 + 2 * us) 2 0) (1033 + 2 * us) 3 0) (1033 + 2 * us) 4 .null) (1033 + 2 * us) 5 .null) (1033 + 2 * us) 6 .null) (1033 + 2 * us) 7 0
theorem nwS_1 {a A j : Nat} {t : Int32} (h : ¬ A = 1033 + 2 * us) (h2 : ¬ (A = 1030 ∧ j = 3)) : (nwS σ us a t).1 A j = σ.1 A j := by
  unfold nwS
  simp only [xI1, xR1]
  repeat rw [if_neg (by omega)]
theorem nwS_2 {a : Nat} {t : Int32} : (nwS σ us a t).2.1 = σ.2.1 := rfl
theorem nwS_3 {a A : Nat} {t : Int32} (h : ¬ A = 1033 + 2 * us) : (nwS σ us a t).2.2.1 A = σ.2.2.1 A := by
  funext j
  unfold nwS
  simp only [xI2, xR3]
  repeat rw [if_neg (by omega)]
theorem f46_e {a : Nat} {t : Int32} (h : cQP b σ p up us) (hu : us < 80) : f46 F a t σ = some (.inl (some (.ref (1033 + 2 * us))), nwS σ us a t) := by
  unfold f46 f102
  rw [ltE, h.2.2.2.1, if_pos (show Int32.ofNat us < 80 from (oN_lt (q := 80) (by omega) (by decide)).mpr hu), ltE, if_pos (oN_rg hu (by decide)), ltE, oN_n (by omega), if_pos (stp_f us hu).2, ltE, ltE, oN_p1]
  rfl
theorem f46_t {a : Nat} {t : Int32} (h : cQP b σ p up us) (hu : ¬ us < 80) : f46 F a t σ = oT 10 σ := by
  have h7 := h.2.2.2.2.2.2.1
  unfold f46
  rw [ltE, h.2.2.2.1, if_neg (show ¬ Int32.ofNat us < 80 from fun g => hu ((oN_lt (q := 80) (by omega) (by decide)).mp g))]
theorem nwS.ag {a : Nat} {t : Int32} (hu : us < 80) : aqP up us σ (nwS σ us a t) := ⟨rfl, fun A hA => funext fun j => nwS_1 (by omega) (by omega), fun i hi => ⟨funext fun j => nwS_1 (by omega) (by omega), rfl, nwS_3 (by omega)⟩, fun i hi => ⟨funext fun j => nwS_1 (by omega) (by omega), nwS_3 (by omega)⟩⟩
theorem nwS.cp {a : Nat} {t : Int32} (h : cQP b σ p up us) (hu : us < 80) : cQP b (nwS σ us a t) p up (us + 1) := by
  obtain ⟨h1, h2, h3, h4, h5, h6, h7, h8⟩ := h
  refine ⟨h1.fr (funext fun j => nwS_1 (by omega) (by omega)) (funext fun j => nwS_1 (by omega) (by omega)), ?_, ?_, ?_, h5, h6, by omega, fun i hi => ?_⟩
  · rw [nwS_1 (by omega) (by omega)]
    exact h2
  · rw [nwS_1 (by omega) (by omega)]
    exact h3
  · unfold nwS
    simp only [xI1, xR1]
    repeat rw [if_neg (by omega)]
    rw [if_pos (by simp)]
  · by_cases c : i = us
    · subst c
      unfold nwS
      rw [xI1, if_pos ⟨rfl, rfl⟩]
    · rw [nwS_1 (by omega) (by omega)]
      exact h8 i (by omega)
theorem nwS.f {a t : Nat} : cSt (nwS σ us (100 + a) (Int32.ofNat t)) (1033 + 2 * us) a t 0 0 ∧ (nwS σ us (100 + a) (Int32.ofNat t)).2.2.1 (1033 + 2 * us) 4 = .null ∧ (nwS σ us (100 + a) (Int32.ofNat t)).2.2.1 (1033 + 2 * us) 5 = .null ∧ (nwS σ us (100 + a) (Int32.ofNat t)).2.2.1 (1033 + 2 * us) 6 = .null := by
  unfold nwS cSt
  simp [xI1, xR1, xI2, xR3]
/-- words -/
theorem lits_len {w : Nat} : (lits w).length = slen w := by simp [lits]
theorem lits_at {w j : Nat} (h : j < slen w) : (lits w).getD j 0 = schr w j := by
  unfold lits
  rw [List.getD_eq_getElem?_getD, List.getElem?_map, List.getElem?_range h]
  rfl
theorem spl_all {w : Nat} : ∀ (m j : Nat), spl b p w j m = true ↔ ∀ i, i < m → b.getD (p + (j + i)) 0 = schr w (j + i)
  | 0, j => ⟨fun _ i hi => absurd hi (Nat.not_lt_zero _), fun _ => rfl⟩
  | m + 1, j => by
    unfold spl
    rw [Bool.and_eq_true, decide_eq_true_eq, spl_all m (j + 1)]
    constructor
    · intro h i hi
      by_cases c : i = 0
      · rw [c]
        exact h.1
      · have := h.2 (i - 1) (by omega)
        rw [show j + 1 + (i - 1) = j + i by omega] at this
        exact this
    · intro h
      refine ⟨h 0 (by omega), fun i hi => ?_⟩
      have := h (i + 1) (by omega)
      rw [show j + (i + 1) = j + 1 + i by omega] at this
      exact this
theorem f99_e {w n : Nat} (hF : 500 ≤ F) (hb : b.length ≤ 120) (hB : bufC σ b) (hw : w ≤ 67) (hn : 0 < slen w) (hp : p + n ≤ b.length) : f99 F 1001 (Int32.ofNat p) (Int32.ofNat n) w σ = oI (b2i (decide (stre b p n = lits w))) σ := by
  have hl := slen_le w
  unfold f99 f248
  rw [cIo]
  by_cases c : n = slen w
  · rw [if_pos (by rw [c]), f94_e hF hb hB hw (by omega) hn, cIo, ifb, ifb1]
    have key : spl b p w 0 (slen w) = decide (stre b p n = lits w) := by
      by_cases g : stre b p n = lits w
      · rw [decide_eq_true g]
        refine (spl_all _ _).mpr (fun i hi => ?_)
        rw [Nat.zero_add, ← stre_at (l := b) (p := p) (n := n) (by omega), g, lits_at hi]
      · rw [decide_eq_false g]
        by_cases g2 : spl b p w 0 (slen w) = true
        · exfalso
          apply g
          have g3 := (spl_all _ _).mp g2
          refine list_getD_ext (by rw [stre_len hp, lits_len, c]) (fun i hi => ?_)
          rw [stre_len hp] at hi
          rw [stre_at hi, lits_at (by omega)]
          have := g3 i (by omega)
          rw [Nat.zero_add] at this
          exact this
        · rw [Bool.not_eq_true] at g2
          exact g2
    rw [key]
  · rw [if_neg (fun g => c ((oN_eq (by omega) (by omega)).mp g)), decide_eq_false]
    · rfl
    · intro g
      have := congrArg List.length g
      rw [stre_len hp, lits_len] at this
      exact c this
end QPR
