/-! the reference's axes, and tests of a step on both sides -/
theorem wf.k0 {ns : List Nd} (h : wf ns) {q : Nat} (hq : q < ns.length) : (nd ns q).1 = 0 ↔ q = 0 := by
  constructor
  · intro e
    by_cases c : q = 0
    · exact c
    · have := (h.2.2.2 q (by omega) hq).1.1
      omega
  · intro e
    rw [e, h.2.1]
theorem wf.p0 {ns : List Nd} : par ns 0 = -1 := rfl
section AXM
variable {F a p q : Nat} {σ : St} {ns : List Nd}
theorem f229_e (h : mTr σ ns) (hn : ns.length ≤ 30) (hp : p < ns.length) (hq : q < ns.length) : f229 F (Int32.ofNat p) (Int32.ofNat q) σ = oI (b2i (anc ns p q)) σ := by
  have i1 : inB (Int32.ofNat p) 31 := oN_rg (by omega) (by decide)
  have z1 := siz_le hp
  unfold f229 f185 anc
  by_cases c : p < q
  · rw [if_pos ((oN_lt (by omega) (by omega)).mpr c), if_pos i1, oN_n (by omega), (h.2 p hp).2.1, ltE, cIo, oN_ad]
    by_cases c2 : p + siz ns p < q
    · rw [if_pos ((oN_lt (by omega) (by omega)).mpr c2), decide_eq_false (by omega)]
      rfl
    · rw [if_neg (fun g => c2 ((oN_lt (by omega) (by omega)).mp g)), decide_eq_true (by omega)]
      rfl
  · rw [if_neg (fun g => c ((oN_lt (by omega) (by omega)).mp g)), decide_eq_false (by omega)]
    rfl
theorem f230_e (hw : wf ns) (h : mTr σ ns) (hn : ns.length ≤ 30) (hp : p < ns.length) (hq : q < ns.length) : f230 F (Int32.ofNat p) (Int32.ofNat q) σ = oI (b2i (decide (¬ p = q) && sib ns p q)) σ := by
  have i1 : inB (Int32.ofNat p) 31 := oN_rg (by omega) (by decide)
  have i2 : inB (Int32.ofNat q) 31 := oN_rg (by omega) (by decide)
  have e1 : (Int32.ofNat p).toNatClampNeg = p := oN_n (by omega)
  have e2 : (Int32.ofNat q).toNatClampNeg = q := oN_n (by omega)
  have l1 := (hw.lv p hp).2
  have l2 := (hw.lv q hq).2
  have k1 := hw.k0 hp
  have k2 := hw.k0 hq
  have hd : ∀ {u v : Nat}, u = 0 → ¬ u = v → v < ns.length → ¬ par ns u = par ns v ∧ ¬ par ns v = par ns u := by
    intro u v hu hv hvl
    obtain ⟨w, hw1, hw2, _⟩ := par_pos hw (show 0 < v by omega) hvl
    rw [hw2, hu, wf.p0]
    have : ¬ (-1 : Int32) = Int32.ofNat w := by
      intro g
      have g2 := congrArg Int32.toInt g
      rw [oN_i (by omega)] at g2
      have : (-1 : Int32).toInt = -1 := rfl
      omega
    exact ⟨this, fun g => this g.symm⟩
  unfold f230 f183
  simp only [if_pos i1, if_pos i2, ltE, e1, e2, (h.2 p hp).1.1, (h.2 q hq).1.1, (h.2 p hp).2.2, (h.2 q hq).2.2, cIo, ifd]
  unfold sib pln
  by_cases c : p = q
  · rw [if_pos (by rw [c]), decide_eq_false (fun g => g c)]
    rfl
  · rw [if_neg (fun g => c ((oN_eq (by omega) (by omega)).mp g)), decide_eq_true c, Bool.true_and]
    by_cases c1 : (nd ns p).1 = 2
    · rw [if_pos (by rw [c1]; rfl), decide_eq_false (fun g => g c1)]
      rfl
    · rw [if_neg (fun g => c1 ((oE2 (by omega)).mp g)), decide_eq_true c1, Bool.true_and]
      by_cases c2 : (nd ns p).1 = 0
      · rw [if_pos (by rw [c2]; rfl), decide_eq_false (hd (k1.mp c2) c hq).1, Bool.and_false]
        rfl
      · rw [if_neg (fun g => c2 ((oE0 (by omega)).mp g))]
        by_cases c3 : (nd ns q).1 = 2
        · rw [if_pos (by rw [c3]; rfl), decide_eq_false (fun g => g c3)]
          rfl
        · rw [if_neg (fun g => c3 ((oE2 (by omega)).mp g)), decide_eq_true c3, Bool.true_and]
          by_cases c4 : (nd ns q).1 = 0
          · rw [if_pos (by rw [c4]; rfl), decide_eq_false (hd (k2.mp c4) (fun g => c g.symm) hp).2]
            rfl
          · rw [if_neg (fun g => c4 ((oE0 (by omega)).mp g))]
theorem sbl (x : Bool) : (decide (¬ p = q) && x && decide (p < q)) = (decide (p < q) && x) := by
  by_cases c : p < q
  · rw [decide_eq_true c, decide_eq_true (show ¬ p = q by omega)]
    cases x <;> rfl
  · rw [decide_eq_false c, Bool.and_false, Bool.false_and]
theorem sbg (x : Bool) : (decide (¬ p = q) && x && decide (q < p)) = (decide (q < p) && x) := by
  by_cases c : q < p
  · rw [decide_eq_true c, decide_eq_true (show ¬ p = q by omega)]
    cases x <;> rfl
  · rw [decide_eq_false c, Bool.and_false, Bool.false_and]
theorem f228_15_e (hw : wf ns) (h : mTr σ ns) (hn : ns.length ≤ 30) (hp : p < ns.length) (hq : q < ns.length) (ha : a < 12) : f228_15 F (Int32.ofNat a) (Int32.ofNat p) (Int32.ofNat q) (b2i (!pln ns q)) σ = oI (b2i (onA ns a p q)) σ := by
  have i1 : inB (Int32.ofNat p) 31 := oN_rg (by omega) (by decide)
  have i2 : inB (Int32.ofNat q) 31 := oN_rg (by omega) (by decide)
  have e1 : (Int32.ofNat p).toNatClampNeg = p := oN_n (by omega)
  have e2 : (Int32.ofNat q).toNatClampNeg = q := oN_n (by omega)
  have m1 := (h.2 p hp).2.2
  have m2 := (h.2 q hq).2.2
  have x1 : f183 F (Int32.ofNat p) σ = oI (par ns p) σ := by
    unfold f183
    rw [if_pos i1, ltE, e1, m1]
  have x2 : f183 F (Int32.ofNat q) σ = oI (par ns q) σ := by
    unfold f183
    rw [if_pos i2, ltE, e2, m2]
  have y1 := f229_e (F := F) h hn hp hq
  have y2 := f229_e (F := F) h hn hq hp
  have z := f230_e (F := F) hw h hn hp hq
  have z1 := siz_le hp
  have d1 : decide (Int32.ofNat p < Int32.ofNat q) = decide (p < q) := dcl (by omega) (by omega)
  have d2 : decide (Int32.ofNat q < Int32.ofNat p) = decide (q < p) := dcl (by omega) (by omega)
  have d3 : decide (Int32.ofNat p = Int32.ofNat q) = decide (p = q) := dce (by omega) (by omega)
  have ifn : ∀ {A B : Rs}, (if b2i (!pln ns q) = 0 then A else B) = if pln ns q = true then A else B := by
    intro A B
    cases pln ns q <;> rfl
  unfold f228_15
  have hc : a = 0 ∨ a = 1 ∨ a = 2 ∨ a = 3 ∨ a = 4 ∨ a = 5 ∨ a = 6 ∨ a = 7 ∨ a = 8 ∨ a = 9 ∨ a = 10 ∨ a = 11 := by omega
  rcases hc with rfl | rfl | rfl | rfl | rfl | rfl | rfl | rfl | rfl | rfl | rfl | rfl
  · rw [if_pos (by decide), ifn, x2, cIo, ifd, ifba]
    rfl
  · rw [if_neg (by decide), if_pos (by decide), ifn, y1, cIo, ifb, ifb1, ifba]
    rfl
  · rw [if_neg (by decide), if_neg (by decide), if_pos (by decide), x1, cIo, ifd]
    rfl
  · rw [if_neg (by decide), if_neg (by decide), if_neg (by decide), if_pos (by decide), y2, cIo, ifz]
    rfl
  · rw [if_neg (by decide), if_neg (by decide), if_neg (by decide), if_neg (by decide), if_pos (by decide), ifd, d3]
    rfl
  · rw [if_neg (by decide), if_neg (by decide), if_neg (by decide), if_neg (by decide), if_neg (by decide), if_pos (by decide), ifn, x2, cIo, ifd, ifbn]
    rfl
  · rw [if_neg (by decide), if_neg (by decide), if_neg (by decide), if_neg (by decide), if_neg (by decide), if_neg (by decide), if_pos (by decide), z, cIo, ifb, ifd, ifba, d1, sbl]
    rfl
  · rw [if_neg (by decide), if_neg (by decide), if_neg (by decide), if_neg (by decide), if_neg (by decide), if_neg (by decide), if_neg (by decide), if_pos (by decide), z, cIo, ifb, ifd, ifba, d2, sbg]
    rfl
  · have w : decide (Int32.ofNat (p + siz ns p) < Int32.ofNat q) = (decide (p < q) && !anc ns p q) := by
      rw [dcl (by omega) (by omega)]
      unfold anc
      by_cases c1 : p < q
      · by_cases c2 : p + siz ns p < q
        · rw [decide_eq_true c1, decide_eq_true c2, decide_eq_false (by omega)]
          rfl
        · rw [decide_eq_true c1, decide_eq_false c2, decide_eq_true (by omega)]
          rfl
      · rw [decide_eq_false c1, decide_eq_false (by omega)]
        rfl
    have x3 : f185 F (Int32.ofNat p) σ = oI (Int32.ofNat (siz ns p)) σ := by
      unfold f185
      rw [if_pos i1, ltE, e1, (h.2 p hp).2.1]
    rw [if_neg (by decide), if_neg (by decide), if_neg (by decide), if_neg (by decide), if_neg (by decide), if_neg (by decide), if_neg (by decide), if_neg (by decide), if_pos (by decide), ifn, x3, cIo, oN_ad, ifd, ifba, w]
    rfl
  · rw [if_neg (by decide), if_neg (by decide), if_neg (by decide), if_neg (by decide), if_neg (by decide), if_neg (by decide), if_neg (by decide), if_neg (by decide), if_neg (by decide), if_pos (by decide), ifn, y2, cIo, ifb, ifb0, ifda, ifba, d2]
    rfl
  · rw [if_neg (by decide), if_neg (by decide), if_neg (by decide), if_neg (by decide), if_neg (by decide), if_neg (by decide), if_neg (by decide), if_neg (by decide), if_neg (by decide), if_neg (by decide), if_pos (by decide), ifn, y1, cIo, ifb, ifb1, ifba, ifdo, d3]
    rfl
  · rw [if_neg (by decide), if_neg (by decide), if_neg (by decide), if_neg (by decide), if_neg (by decide), if_neg (by decide), if_neg (by decide), if_neg (by decide), if_neg (by decide), if_neg (by decide), if_neg (by decide), y2, cIo, ifb, ifb1, ifdo, d3]
    rfl
theorem f228_e (hw : wf ns) (h : mTr σ ns) (hn : ns.length ≤ 30) (hp : p < ns.length) (hq : q < ns.length) (ha : a < 12) : f228 F (Int32.ofNat a) (Int32.ofNat p) (Int32.ofNat q) σ = oI (b2i (onA ns a p q)) σ := by
  have i2 : inB (Int32.ofNat q) 31 := oN_rg (by omega) (by decide)
  have key := f228_15_e (F := F) hw h hn hp hq ha
  have l2 := (hw.lv q hq).2
  unfold f228
  rw [if_pos i2, ltE, oN_n (by omega), (h.2 q hq).1.1]
  by_cases c : (nd ns q).1 = 2
  · rw [if_pos (by rw [c]; rfl)]
    have e : pln ns q = false := decide_eq_false (fun g => g c)
    rw [e] at key
    exact key
  · rw [if_neg (fun g => c ((oE2 (by omega)).mp g))]
    have e : pln ns q = true := decide_eq_true c
    rw [e] at key
    exact key
end AXM
/-! tests -/
def prK (a : Nat) : Nat := if a = 5 then 2 else 1
def psA (ns : List Nd) (b : List Int32) (a t f n q : Nat) : Bool :=
  if t = 0 then decide ((nd ns q).1 = prK a) && decide ((nd ns q).2.2.1 = stre b f n)
  else if t = 1 then decide ((nd ns q).1 = prK a)
  else if t = 2 then decide ((nd ns q).1 = 3)
  else if t = 3 then decide ((nd ns q).1 = 4)
  else true
section TST
variable {F a t f n q s : Nat} {σ : St} {ns : List Nd} {b : List Int32}
/-- the class's step at address s -/
def cSt (σ : St) (s a t f n : Nat) : Prop := σ.2.2.1 s 0 = .ref (100 + a) ∧ σ.1 s 1 = Int32.ofNat t ∧ σ.1 s 2 = Int32.ofNat f ∧ σ.1 s 3 = Int32.ofNat n
/-- what a step is held to -/
def stOk (b : List Int32) (a t f n : Nat) : Prop := a < 12 ∧ t < 5 ∧ f + n ≤ b.length
theorem f68_15_e (hF : 5000 ≤ F) (hb : b.length ≤ 120) (hB : bufC σ b) (h : cTr σ ns) (hs : szOk ns) (hq : q < ns.length) (hc : cSt σ s a t f n) (ho : stOk b a t f n) : f68_15 F s (Int32.ofNat q) (Int32.ofNat (prK a)) σ = oI (b2i (psA ns b a t f n q)) σ := by
  have hn := hs.1.1
  have i2 : inB (Int32.ofNat q) 30 := oN_rg (by omega) (by decide)
  have e2 : (Int32.ofNat q).toNatClampNeg = q := oN_n (by omega)
  have l2 := (hs.1.2 q hq).2
  have hpk : prK a ≤ 2 := by unfold prK; split <;> omega
  have dk : decide (Int32.ofNat (nd ns q).1 = Int32.ofNat (prK a)) = decide ((nd ns q).1 = prK a) := dce (by omega) (by omega)
  have d3 : decide (Int32.ofNat (nd ns q).1 = 3) = decide ((nd ns q).1 = 3) := decide_eq_decide.mpr (oE3 (by omega))
  have d4 : decide (Int32.ofNat (nd ns q).1 = 4) = decide ((nd ns q).1 = 4) := decide_eq_decide.mpr (oE4 (by omega))
  unfold f68_15
  rw [ltE, hc.2.1]
  have hcc : t = 0 ∨ t = 1 ∨ t = 2 ∨ t = 3 ∨ t = 4 := by have := ho.2.1; omega
  simp only [if_pos i2, ltE, e2, (h.1.2 q hq).1, hc.2.2.1, hc.2.2.2]
  rcases hcc with rfl | rfl | rfl | rfl | rfl
  · rw [if_pos (by decide), f136_t hF hb hB h hs hq ho.2.2, cIo, ifb, ifb1, ifda, dk]
    rfl
  · rw [if_neg (by decide), if_pos (by decide), ifd, dk]
    rfl
  · rw [if_neg (by decide), if_neg (by decide), if_pos (by decide), ifd, d3]
    rfl
  · rw [if_neg (by decide), if_neg (by decide), if_neg (by decide), if_pos (by decide), ifd, d4]
    rfl
  · rw [if_neg (by decide), if_neg (by decide), if_neg (by decide), if_neg (by decide)]
    rfl
theorem f68_e (hF : 5000 ≤ F) (hb : b.length ≤ 120) (hB : bufC σ b) (h : cTr σ ns) (hs : szOk ns) (hq : q < ns.length) (hc : cSt σ s a t f n) (ho : stOk b a t f n) : f68 F s (Int32.ofNat q) σ = oI (b2i (psA ns b a t f n q)) σ := by
  have key := f68_15_e hF hb hB h hs hq hc ho
  have ha := ho.1
  unfold f68 mR
  rw [hc.1]
  show (if isX (100 + a) = true then _ else none) = _
  rw [if_pos (show isX (100 + a) = true by unfold isX; simp; omega), if_pos (show aCp (100 + a) 105 = true by unfold aCp; simp; omega)]
  by_cases c : a = 5
  · rw [if_pos (by omega)]
    have e : prK a = 2 := by unfold prK; rw [if_pos c]
    rw [e] at key
    exact key
  · rw [if_neg (by omega)]
    have e : prK a = 1 := by unfold prK; rw [if_neg c]
    rw [e] at key
    exact key
end TST
