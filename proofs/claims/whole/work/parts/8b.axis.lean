/-! AXES: both sides against one table -/
def pln (ns : List Nd) (q : Nat) : Bool := decide (¬ (nd ns q).1 = 2)
def anc (ns : List Nd) (a p : Nat) : Bool := decide (a < p ∧ p ≤ a + siz ns a)
def sib (ns : List Nd) (p q : Nat) : Bool := pln ns p && (pln ns q && decide (par ns p = par ns q))
def onA (ns : List Nd) (a p q : Nat) : Bool :=
  if a = 0 then pln ns q && decide (par ns q = Int32.ofNat p)
  else if a = 1 then pln ns q && anc ns p q
  else if a = 2 then decide (par ns p = Int32.ofNat q)
  else if a = 3 then anc ns q p
  else if a = 4 then decide (p = q)
  else if a = 5 then !pln ns q && decide (par ns q = Int32.ofNat p)
  else if a = 6 then decide (p < q) && sib ns p q
  else if a = 7 then decide (q < p) && sib ns p q
  else if a = 8 then pln ns q && (decide (p < q) && !anc ns p q)
  else if a = 9 then pln ns q && (decide (q < p) && !anc ns q p)
  else if a = 10 then decide (p = q) || (pln ns q && anc ns p q)
  else decide (p = q) || anc ns q p
section AXB
variable {x y : Bool} {A B : Rs} {σ : St}
theorem ifb : (if b2i x = 0 then A else B) = if x = true then B else A := by cases x <;> rfl
theorem ifd {P : Prop} [Decidable P] : (if P then oI 1 σ else oI 0 σ) = oI (b2i (decide P)) σ := by
  by_cases h : P
  · rw [if_pos h, decide_eq_true h]
    rfl
  · rw [if_neg h, decide_eq_false h]
    rfl
theorem ifdn {P : Prop} [Decidable P] : (if P then oI 0 σ else oI 1 σ) = oI (b2i (!decide P)) σ := by
  by_cases h : P
  · rw [if_pos h, decide_eq_true h]
    rfl
  · rw [if_neg h, decide_eq_false h]
    rfl
theorem ifba : (if x = true then oI (b2i y) σ else oI 0 σ) = oI (b2i (x && y)) σ := by cases x <;> rfl
theorem ifbn : (if x = true then oI 0 σ else oI (b2i y) σ) = oI (b2i (!x && y)) σ := by cases x <;> rfl
theorem ifbo : (if x = true then oI 1 σ else oI (b2i y) σ) = oI (b2i (x || y)) σ := by cases x <;> rfl
theorem ifb1 : (if x = true then oI 1 σ else oI 0 σ) = oI (b2i x) σ := by cases x <;> rfl
theorem ifb0 : (if x = true then oI 0 σ else oI 1 σ) = oI (b2i (!x)) σ := by cases x <;> rfl
theorem ifda {P : Prop} [Decidable P] : (if P then oI (b2i y) σ else oI 0 σ) = oI (b2i (decide P && y)) σ := by
  by_cases h : P
  · rw [if_pos h, decide_eq_true h, Bool.true_and]
  · rw [if_neg h, decide_eq_false h]
    rfl
theorem ifdo {P : Prop} [Decidable P] : (if P then oI 1 σ else oI (b2i y) σ) = oI (b2i (decide P || y)) σ := by
  by_cases h : P
  · rw [if_pos h, decide_eq_true h]
    rfl
  · rw [if_neg h, decide_eq_false h, Bool.false_or]
theorem ifz {A : Rs} : (if b2i x = 0 ∨ b2i x = 1 then A else none) = A := if_pos (b2i_z x)
theorem dcl {a b : Nat} (ha : a < 2147483648) (hb : b < 2147483648) : decide (Int32.ofNat a < Int32.ofNat b) = decide (a < b) := decide_eq_decide.mpr (oN_lt ha hb)
theorem dce {a b : Nat} (ha : a < 2147483648) (hb : b < 2147483648) : decide (Int32.ofNat a = Int32.ofNat b) = decide (a = b) := decide_eq_decide.mpr (oN_eq ha hb)
theorem deqc {p q : Nat} : decide (p = q) = decide (q = p) := decide_eq_decide.mpr ⟨Eq.symm, Eq.symm⟩
end AXB
section AXC
variable {F a p q : Nat} {σ : St} {ns : List Nd}
theorem f67_e (h : cTr σ ns) (hn : ns.length ≤ 30) (hl : lvOk ns) (hp : p < ns.length) (hq : q < ns.length) : f67 F (Int32.ofNat p) (Int32.ofNat q) σ = oI (b2i (sib ns p q)) σ := by
  have i1 : inB (Int32.ofNat p) 30 := oN_rg (by omega) (by decide)
  have i2 : inB (Int32.ofNat q) 30 := oN_rg (by omega) (by decide)
  have l1 := (hl.2 p hp).2
  have l2 := (hl.2 q hq).2
  have e1 : (Int32.ofNat p).toNatClampNeg = p := oN_n (by omega)
  have e2 : (Int32.ofNat q).toNatClampNeg = q := oN_n (by omega)
  unfold f67
  simp only [if_pos i1, if_pos i2, ltE, e1, e2, (h.1.2 p hp).1, (h.1.2 q hq).1, (h.2.2.2.2 p hp).1, (h.2.2.2.2 q hq).1, ifd]
  unfold sib pln
  by_cases c1 : (nd ns p).1 = 2
  · rw [if_pos (by rw [c1]; rfl), decide_eq_false (fun g => g c1)]
    rfl
  · rw [if_neg (fun g => c1 ((oE2 (by omega)).mp g)), decide_eq_true c1]
    by_cases c2 : (nd ns q).1 = 2
    · rw [if_pos (by rw [c2]; rfl), decide_eq_false (fun g => g c2)]
      rfl
    · rw [if_neg (fun g => c2 ((oE2 (by omega)).mp g)), decide_eq_true c2]
      rfl
theorem f66_72_e (h : cTr σ ns) (hn : ns.length ≤ 30) (hl : lvOk ns) (hp : p < ns.length) (hq : q < ns.length) (ha : a < 12) : f66_72 F (100 + a) (Int32.ofNat p) (Int32.ofNat q) (b2i (pln ns q)) (b2i (anc ns p q)) (b2i (anc ns q p)) σ = oI (b2i (onA ns a p q)) σ := by
  have i1 : inB (Int32.ofNat p) 30 := oN_rg (by omega) (by decide)
  have i2 : inB (Int32.ofNat q) 30 := oN_rg (by omega) (by decide)
  have e7 := f67_e (F := F) h hn hl hp hq
  have e1 : (Int32.ofNat p).toNatClampNeg = p := oN_n (by omega)
  have e2 : (Int32.ofNat q).toNatClampNeg = q := oN_n (by omega)
  have m1 := (h.2.2.2.2 p hp).1
  have m2 := (h.2.2.2.2 q hq).1
  have d1 : decide (Int32.ofNat p < Int32.ofNat q) = decide (p < q) := dcl (by omega) (by omega)
  have d2 : decide (Int32.ofNat q < Int32.ofNat p) = decide (q < p) := dcl (by omega) (by omega)
  have d3 : decide (Int32.ofNat q = Int32.ofNat p) = decide (p = q) := by
    rw [dce (by omega) (by omega)]
    exact deqc
  unfold f66_72 f255
  rw [cIo, show 100 + a - 100 = a by omega, if_pos (oN_rg ha (by decide)), ltE, oN_n (by omega)]
  have hc : a = 0 ∨ a = 1 ∨ a = 2 ∨ a = 3 ∨ a = 4 ∨ a = 5 ∨ a = 6 ∨ a = 7 ∨ a = 8 ∨ a = 9 ∨ a = 10 ∨ a = 11 := by omega
  rcases hc with rfl | rfl | rfl | rfl | rfl | rfl | rfl | rfl | rfl | rfl | rfl | rfl
  · rw [if_pos (by decide), ifb, if_pos i2, e2, m2, ltE, ifd, ifba]
    rfl
  · rw [if_neg (by decide), if_pos (by decide), ifb, ifb, ifb1, ifba]
    rfl
  · rw [if_neg (by decide), if_neg (by decide), if_pos (by decide), if_pos i1, e1, m1, ltE, ifd]
    rfl
  · rw [if_neg (by decide), if_neg (by decide), if_neg (by decide), if_pos (by decide), ifz]
    rfl
  · rw [if_neg (by decide), if_neg (by decide), if_neg (by decide), if_neg (by decide), if_pos (by decide), ifd, d3]
    rfl
  · rw [if_neg (by decide), if_neg (by decide), if_neg (by decide), if_neg (by decide), if_neg (by decide), if_pos (by decide), ifb, if_pos i2, e2, m2, ltE, ifd, ifbn]
    rfl
  · rw [if_neg (by decide), if_neg (by decide), if_neg (by decide), if_neg (by decide), if_neg (by decide), if_neg (by decide), if_pos (by decide), e7, cIo, ifb, ifb1, ifda, d1]
    rfl
  · rw [if_neg (by decide), if_neg (by decide), if_neg (by decide), if_neg (by decide), if_neg (by decide), if_neg (by decide), if_neg (by decide), if_pos (by decide), e7, cIo, ifb, ifb1, ifda, d2]
    rfl
  · rw [if_neg (by decide), if_neg (by decide), if_neg (by decide), if_neg (by decide), if_neg (by decide), if_neg (by decide), if_neg (by decide), if_neg (by decide), if_pos (by decide), ifb, ifb, ifb0, ifda, ifba, d1]
    rfl
  · rw [if_neg (by decide), if_neg (by decide), if_neg (by decide), if_neg (by decide), if_neg (by decide), if_neg (by decide), if_neg (by decide), if_neg (by decide), if_neg (by decide), if_pos (by decide), ifb, ifb, ifb0, ifda, ifba, d2]
    rfl
  · rw [if_neg (by decide), if_neg (by decide), if_neg (by decide), if_neg (by decide), if_neg (by decide), if_neg (by decide), if_neg (by decide), if_neg (by decide), if_neg (by decide), if_neg (by decide), if_pos (by decide), ifb, ifb, ifb1, ifba, ifdo, d3]
    rfl
  · rw [if_neg (by decide), if_neg (by decide), if_neg (by decide), if_neg (by decide), if_neg (by decide), if_neg (by decide), if_neg (by decide), if_neg (by decide), if_neg (by decide), if_neg (by decide), if_neg (by decide), if_pos (by decide), ifb, ifb1, ifdo, d3]
    rfl
theorem f66_e (h : cTr σ ns) (hn : ns.length ≤ 30) (hl : lvOk ns) (hp : p < ns.length) (hq : q < ns.length) (ha : a < 12) : f66 F (100 + a) (Int32.ofNat p) (Int32.ofNat q) σ = oI (b2i (onA ns a p q)) σ := by
  have i1 : inB (Int32.ofNat p) 30 := oN_rg (by omega) (by decide)
  have i2 : inB (Int32.ofNat q) 30 := oN_rg (by omega) (by decide)
  have e1 : (Int32.ofNat p).toNatClampNeg = p := oN_n (by omega)
  have e2 : (Int32.ofNat q).toNatClampNeg = q := oN_n (by omega)
  have m1 := (h.2.2.2.2 p hp).2
  have m2 := (h.2.2.2.2 q hq).2
  have z1 := siz_le hp
  have z2 := siz_le hq
  have key := f66_72_e (F := F) h hn hl hp hq ha
  have k45 : ∀ z : Bool, z = anc ns p q → f66_45 F (100 + a) (Int32.ofNat p) (Int32.ofNat q) (b2i (pln ns q)) (b2i z) σ = oI (b2i (onA ns a p q)) σ := by
    intro z hz
    subst hz
    unfold f66_45 f66_71
    by_cases c1 : q < p
    · rw [if_pos ((oN_lt (by omega) (by omega)).mpr c1), if_pos i2, e2, m2, ltE, oN_ad]
      by_cases c2 : q + siz ns q < p
      · rw [if_pos ((oN_lt (by omega) (by omega)).mpr c2)]
        have e : anc ns q p = false := decide_eq_false (by omega)
        rw [e] at key
        exact key
      · rw [if_neg (fun g => c2 ((oN_lt (by omega) (by omega)).mp g))]
        have e : anc ns q p = true := decide_eq_true (by omega)
        rw [e] at key
        exact key
    · rw [if_neg (fun g => c1 ((oN_lt (by omega) (by omega)).mp g))]
      have e : anc ns q p = false := decide_eq_false (by omega)
      rw [e] at key
      exact key
  have k18 : f66_18 F (100 + a) (Int32.ofNat p) (Int32.ofNat q) (b2i (pln ns q)) σ = oI (b2i (onA ns a p q)) σ := by
    unfold f66_18 f66_44
    by_cases c1 : p < q
    · rw [if_pos ((oN_lt (by omega) (by omega)).mpr c1), if_pos i1, e1, m1, ltE, oN_ad]
      by_cases c2 : p + siz ns p < q
      · rw [if_pos ((oN_lt (by omega) (by omega)).mpr c2)]
        exact k45 false (by symm; exact decide_eq_false (by omega))
      · rw [if_neg (fun g => c2 ((oN_lt (by omega) (by omega)).mp g))]
        exact k45 true (by symm; exact decide_eq_true (by omega))
    · rw [if_neg (fun g => c1 ((oN_lt (by omega) (by omega)).mp g))]
      exact k45 false (by symm; exact decide_eq_false (by omega))
  have l2 := (hl.2 q hq).2
  unfold f66
  rw [if_pos i2, ltE, e2, (h.1.2 q hq).1]
  by_cases c : (nd ns q).1 = 2
  · rw [if_pos (by rw [c]; rfl)]
    have e : pln ns q = false := decide_eq_false (fun g => g c)
    rw [e] at k18
    exact k18
  · rw [if_neg (fun g => c ((oE2 (by omega)).mp g))]
    have e : pln ns q = true := decide_eq_true c
    rw [e] at k18
    exact k18
end AXC
