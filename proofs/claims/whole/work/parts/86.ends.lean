/-! ELEMENTS THAT END, and the class's whole print -/
section NST
variable {ns : List Nd} {p t i : Nat}
/-- what is below a node ends with it or before -/
theorem nest (ht : t < i) (hi : i ≤ t + siz ns t) : i + siz ns i ≤ t + siz ns t := by
  have a := siz_in ht hi
  by_cases c : i + siz ns i ≤ t + siz ns t
  · exact c
  · exfalso
    have hil : i + siz ns i + 1 ≤ ns.length := siz_le a.1
    have so := siz_out (ns := ns) (p := t) (by omega)
    have si := siz_in (ns := ns) (p := i) (j := t + siz ns t + 1) (by omega) (by omega)
    omega
theorem siz_ge {q : Nat} (hi : i < ns.length) (hq : q < i) (h : ∀ j, q < j → j ≤ i → (nd ns q).2.1 < (nd ns j).2.1) : i ≤ q + siz ns q := by
  by_cases c : i ≤ q + siz ns q
  · exact c
  · exfalso
    have so := siz_out (ns := ns) (p := q) (by omega)
    have := h (q + siz ns q + 1) (by omega) (by omega)
    omega
/-- the parent is the last node that holds i -/
theorem par_last (hw : wf ns) (h0 : 0 < i) (hi : i < ns.length) : ∃ q, q < i ∧ par ns i = Int32.ofNat q ∧ i ≤ q + siz ns q ∧ (nd ns q).2.1 + 1 = (nd ns i).2.1 ∧ (∀ t, q < t → t < i → t + siz ns t < i) := by
  obtain ⟨q, q1, q2, q3, q4⟩ := par_pos2 hw h0 hi
  obtain ⟨r, r1, r2, r3, r4⟩ := par_pos hw h0 hi
  refine ⟨r, r1, r2, siz_ge hi r1 (fun j h1 h2 => ?_), ?_, fun t h1 h2 => ?_⟩
  · by_cases c : j = i
    · rw [c]
      exact r3
    · have := r4 j h1 (by omega)
      omega
  · have a := hw.2.2.1 r (by omega)
    have b : (nd ns i).2.1 ≤ (nd ns (r + 1)).2.1 := by
      by_cases c : r + 1 = i
      · rw [c]
        exact Nat.le_refl _
      · exact r4 (r + 1) (by omega) (by omega)
    have := a.1
    omega
  · by_cases c : t + siz ns t < i
    · exact c
    · have := (siz_in (ns := ns) (p := t) (j := i) h2 (by omega)).2
      have := r4 t h1 h2
      omega
end NST
/-- the elements that end with p, from n down -/
abbrev hasC (ns : List Nd) (t : Nat) : Prop := (nd ns t).1 = 1 ∧ hCh ns t
def enL (ns : List Nd) (p : Nat) : Nat → List Int32
  | 0 => []
  | t + 1 => (if t + 1 + siz ns (t + 1) = p ∧ hasC ns (t + 1) then endL ns (t + 1) else []) ++ enL ns p t
theorem enL_skip {ns : List Nd} {p : Nat} : ∀ (n q : Nat), q ≤ n → (∀ t, q < t → t ≤ n → ¬ t + siz ns t = p) → enL ns p n = enL ns p q
  | 0, q, hq, _ => by rw [show q = 0 by omega]
  | n + 1, q, hq, h => by
    by_cases c : q = n + 1
    · rw [c]
    · unfold enL
      rw [if_neg (fun g => h (n + 1) (by omega) (Nat.le_refl _) g.1), List.nil_append, enL_skip n q (by omega) (fun t h1 h2 => h t h1 (by omega))]
      cases q <;> rfl
def prL (ns : List Nd) : Nat → Nat → List Int32
  | 0, _ => []
  | m + 1, p => bgL ns p ++ enL ns p p ++ prL ns m (p + 1)
section CPR
variable {F : Nat} {ns : List Nd}
theorem endL_e {i : Nat} (hF : 5000 ≤ F) (hs : szOk ns) (hi : i < ns.length) {g : St → Rs} {l : List Int32} (h : emC ns g l) : emC ns (fun σ => cV (f85 F 9 σ) fun σ7 => cV (f83 F (Int32.ofNat i) σ7) fun σ9 => cV (f82 F 62 σ9) fun σ11 => g σ11) (endL ns i ++ l) := by
  have e9 := f85_e (F := F) (ns := ns) (x := 9) (by omega)
  rw [w1.2.2.2.2.2.2.2.2] at e9
  have all := e9.seq ((f83_e (F := F) hF hs hi).seq ((f82_e (F := F) (c := 62)).seq h))
  have el : endL ns i ++ l = [60, 47] ++ ((nd ns i).2.2.1 ++ ([62] ++ l)) := by
    unfold endL
    simp only [List.append_assoc]
  rw [el]
  exact all
/-- the class's loop over what ends with p -/
theorem f87_12_e {p : Nat} (hF : 5000 ≤ F) (hs : szOk ns) (hw : wf ns) (hp : p < ns.length) : ∀ (m i k : Nat), i ≤ m → 0 < i → i ≤ p → emC ns (fun σ => f87_12 F (k + m + 1) (Int32.ofNat p) (Int32.ofNat i) (Int32.ofNat (nd ns i).2.1) σ) (if i + siz ns i = p then enL ns p i else []) := by
  have hn := hs.1.1
  intro m
  induction m with
  | zero => intro i k h1 h2; omega
  | succ m ih =>
    intro i k h1 h0 hip
    have hi : i < ns.length := by omega
    have bi := hs.1.2 i hi
    have lp := (nd_pos hw h0 hi).2
    have i2 : inB (Int32.ofNat i) 30 := oN_rg (by omega) (by decide)
    have q1 := oN_n (show i < 2147483648 by omega)
    have hz := siz_le hi
    obtain ⟨q, r1, r2, r3, r4, r5⟩ := par_last hw h0 hi
    have st : ∀ σ, cTr σ ns → f87_12 F (k + (m + 1) + 1) (Int32.ofNat p) (Int32.ofNat i) (Int32.ofNat (nd ns i).2.1) σ = (if i + siz ns i = p then (if hasC ns i then cV (f85 F 9 σ) fun σ7 => cV (f83 F (Int32.ofNat i) σ7) fun σ9 => cV (f82 F 62 σ9) fun σ11 => f87_72 F (f87_12 F (k + m + 1)) (Int32.ofNat p) (Int32.ofNat i) (Int32.ofNat (nd ns i).2.1) σ11 else f87_72 F (f87_12 F (k + m + 1)) (Int32.ofNat p) (Int32.ofNat i) (Int32.ofNat (nd ns i).2.1) σ) else oV σ) := fun σ ht => by
      rw [show k + (m + 1) + 1 = (k + m + 1) + 1 by omega, f87_12.eq_2, if_pos (show (0 : Int32) < Int32.ofNat (nd ns i).2.1 from (oN_lt (p := 0) (by decide) (by omega)).mpr (by omega)), if_pos i2, ltE]
      simp only [q1]
      rw [(ht.2.2.2.2 i hi).2, oN_ad]
      by_cases c : i + siz ns i = p
      · rw [if_pos (show Int32.ofNat (i + siz ns i) = Int32.ofNat p by rw [c]), if_pos c, if_pos i2, ltE, (ht.1.2 i hi).1]
        by_cases k1 : (nd ns i).1 = 1
        · rw [if_pos (show Int32.ofNat (nd ns i).1 = 1 by rw [k1]; rfl), f134_e (by omega) ht hs hi, cIo]
          by_cases k2 : hCh ns i
          · rw [if_pos (show hasC ns i from ⟨k1, k2⟩), decide_eq_true k2, if_neg (show ¬ b2i true = 0 by decide)]
          · rw [if_neg (show ¬ hasC ns i from fun g => k2 g.2), decide_eq_false k2, if_pos b2i_f]
        · rw [if_neg (show ¬ hasC ns i from fun g => k1 g.1), if_neg (fun g => k1 ((oE1 (by omega)).mp g))]
      · rw [if_neg c, if_neg (fun g => c ((oN_eq (by omega) (by omega)).mp g))]
    by_cases c : i + siz ns i = p
    · -- what is left to end
      have gN : emC ns (fun τ => f87_72 F (f87_12 F (k + m + 1)) (Int32.ofNat p) (Int32.ofNat i) (Int32.ofNat (nd ns i).2.1) τ) (enL ns p q) := by
        have nx : ∀ τ, cTr τ ns → f87_72 F (f87_12 F (k + m + 1)) (Int32.ofNat p) (Int32.ofNat i) (Int32.ofNat (nd ns i).2.1) τ = f87_12 F (k + m + 1) (Int32.ofNat p) (Int32.ofNat q) (Int32.ofNat (nd ns q).2.1) τ := fun τ hτ => by
          unfold f87_72
          rw [if_pos i2, ltE, q1, (hτ.2.2.2.2 i hi).1, r2, ← r4, oN_m1]
        by_cases cq : q = 0
        · rw [cq] at nx ⊢
          refine emC.nil.cg (fun τ hτ => ?_)
          rw [nx τ hτ, hw.2.1, f87_12.eq_2, if_neg (by decide)]
        · have iq := ih q k (by omega) (by omega) (by omega)
          have el : (if q + siz ns q = p then enL ns p q else []) = enL ns p q := by
            by_cases c2 : q + siz ns q = p
            · rw [if_pos c2]
            · rw [if_neg c2]
              have := enL_skip (ns := ns) (p := p) q 0 (Nat.zero_le _) (fun t t1 t2 t3 => by
                by_cases ct : t = q
                · rw [ct] at t3
                  exact c2 t3
                · have n1 := nest (ns := ns) (t := t) (i := q) (by omega) (by omega)
                  have n2 := nest (ns := ns) (t := q) (i := i) r1 r3
                  omega)
              rw [this]
              rfl
          rw [el] at iq
          exact iq.cg nx
      have ei : enL ns p i = (if hasC ns i then endL ns i else []) ++ enL ns p q := by
        obtain ⟨j, rfl⟩ : ∃ j, i = j + 1 := ⟨i - 1, by omega⟩
        have sk := enL_skip (ns := ns) (p := p) j q (by omega) (fun t t1 t2 t3 => by
          have := r5 t t1 (by omega)
          omega)
        unfold enL
        rw [sk]
        by_cases ch : hasC ns (j + 1)
        · rw [if_pos ⟨c, ch⟩, if_pos ch]
          cases q <;> rfl
        · rw [if_neg (fun g => ch g.2), if_neg ch]
          cases q <;> rfl
      rw [if_pos c, ei]
      by_cases ch : hasC ns i
      · rw [if_pos ch]
        exact (endL_e hF hs hi gN).cg (fun σ ht => by rw [st σ ht, if_pos c, if_pos ch])
      · rw [if_neg ch, List.nil_append]
        exact gN.cg (fun σ ht => by rw [st σ ht, if_pos c, if_neg ch])
    · rw [if_neg c]
      exact emC.nil.cg (fun σ ht => by rw [st σ ht, if_neg c])
theorem f87_e {p : Nat} (hF : 5000 ≤ F) (hs : szOk ns) (hw : wf ns) (hp : p < ns.length) (h0 : 0 < p) : emC ns (fun σ => f87 F (Int32.ofNat p) σ) (enL ns p p) := by
  have hn := hs.1.1
  obtain ⟨k, hk⟩ : ∃ k, F = k + p + 1 := ⟨F - p - 1, by omega⟩
  have a0 := f87_12_e (F := F) hF hs hw hp p p k (Nat.le_refl _) h0 (Nat.le_refl _)
  rw [← hk] at a0
  have el : (if p + siz ns p = p then enL ns p p else []) = enL ns p p := by
    by_cases c2 : p + siz ns p = p
    · rw [if_pos c2]
    · rw [if_neg c2]
      have := enL_skip (ns := ns) (p := p) p 0 (Nat.zero_le _) (fun t t1 t2 t3 => by
        by_cases ct : t = p
        · rw [ct] at t3
          exact c2 t3
        · have n1 := nest (ns := ns) (t := t) (i := p) (by omega) (by omega)
          omega)
      rw [this]
      rfl
  rw [el] at a0
  refine a0.cg (fun σ ht => ?_)
  unfold f87
  rw [if_pos (oN_rg (by omega) (by decide)), ltE, oN_n (by omega), (ht.1.2 p hp).2.1]
/-- all of it; once the wanted character is there, the class stops -/
theorem f79_17_e (hF : 5000 ≤ F) (hs : szOk ns) (hw : wf ns) : ∀ (m k p : Nat) (σ : St) (w : Int32) (s : Nat) (ch : Int32), 0 < p → p + m = ns.length → cTr σ ns → cP σ w s ch → s + (prL ns m p).length ≤ 2000000000 → ∃ τ, f79_17 F (k + m + 1) (Int32.ofNat p) σ = oI (pick w s ch (prL ns m p)) τ ∧ agP σ τ := by
  have hn := hs.1.1
  intro m
  induction m with
  | zero =>
    intro k p σ w s ch h0 hp ht h hl
    refine ⟨σ, ?_, agP.refl⟩
    rw [f79_17.eq_2, ltE, ht.1.1, if_neg (fun g => by have := (oN_lt (by omega) (by omega)).mp g; omega), ltE, h.2.2]
    rfl
  | succ m ih =>
    intro k p σ w s ch h0 hp ht h hl
    have hpl : p < ns.length := by omega
    rw [show k + (m + 1) + 1 = (k + m + 1) + 1 by omega, f79_17.eq_2, ltE, ht.1.1, if_pos ((oN_lt (by omega) (by omega)).mpr hpl), ltE, h.2.1, ltE, h.1]
    by_cases c : w < Int32.ofNat s
    · rw [if_pos c, ltE, h.2.2]
      refine ⟨σ, ?_, agP.refl⟩
      rw [pick_out _ s ch (fun i h1 h2 g => by
        rw [← g] at c
        have := (oN_lt (by omega) (by omega)).mp c
        omega)]
    · have a := (f80_e (F := F) hF hs hw hpl h0).seq (f87_e (F := F) hF hs hw hpl h0)
      obtain ⟨τ, a1, a2, a3⟩ := a σ w s ch ht h
      have a1' : cV (f80 F (Int32.ofNat p) σ) (fun σ8 => f87 F (Int32.ofNat p) σ8) = oV τ := a1
      have el : prL ns (m + 1) p = (bgL ns p ++ enL ns p p) ++ prL ns m (p + 1) := rfl
      rw [el, List.length_append] at hl
      obtain ⟨υ, b1, b2⟩ := ih k (p + 1) τ w _ _ (by omega) (by omega) (a2.c ht) a3 (by omega)
      refine ⟨υ, ?_, a2.trans b2⟩
      rw [if_neg c, el, pick_app, ← b1, oN_p1]
      have ca : ∀ (r : Rs) (f g : St → Rs), cV (cV r f) g = cV r fun x => cV (f x) g := fun r f g => by
        unfold cV
        cases r with
        | none => rfl
        | some z =>
          obtain ⟨o, σ'⟩ := z
          cases o with
          | inr d => rfl
          | inl v =>
            cases v with
            | none => rfl
            | some _ => rfl
      rw [← ca, a1', cVo]
theorem f20_e {x : Int32} {σ : St} (hF : 5000 ≤ F) (hs : szOk ns) (hw : wf ns) (ht : cTr σ ns) (hl : (prL ns (ns.length - 1) 1).length ≤ 2000000000) : ∃ τ, f20 F x σ = oI (pick x 0 0 (prL ns (ns.length - 1) 1)) τ ∧ agP σ τ := by
  have hn := hs.1.1
  have hw1 := hw.1
  have ag : agP σ (uI (uI (uI σ 1314 1 x) 1314 2 0) 1314 3 0) := ⟨fun a ha => by rw [u_ne ha, u_ne ha, u_ne ha], rfl⟩
  have cp : cP (uI (uI (uI σ 1314 1 x) 1314 2 0) 1314 3 0) x 0 0 := by
    refine ⟨?_, ?_, u_eq⟩
    · rw [u_at, if_neg (by decide), u_at, if_neg (by decide), u_eq]
    · rw [u_at, if_neg (by decide), u_eq]
      rfl
  obtain ⟨k, hk⟩ : ∃ k, F = k + (ns.length - 1) + 1 := ⟨F - (ns.length - 1) - 1, by omega⟩
  have a0 := f79_17_e (F := F) hF hs hw (ns.length - 1) k 1 _ x 0 0 (by omega) (by omega) (ag.c ht) cp (by omega)
  rw [← hk] at a0
  obtain ⟨τ, a1, a2⟩ := a0
  have a1' : f79_17 F F 1 (uI (uI (uI σ 1314 1 x) 1314 2 0) 1314 3 0) = oI (pick x 0 0 (prL ns (ns.length - 1) 1)) τ := a1
  unfold f20 f79
  rw [ltE, ltE, ltE, a1', cIo]
  exact ⟨τ, rfl, ag.trans a2⟩
end CPR
