/-! A NAME THAT ANOTHER ATTRIBUTE HAS -/
def tkn (ns : List Nd) (p : Nat) (b : List Int32) : Prop := ∃ q, q < ns.length ∧ q ≠ p ∧ (nd ns q).1 = 2 ∧ par ns q = par ns p ∧ (nd ns q).2.2.1 = b
section TKN
variable {F e p : Nat} {b : List Int32} {ns : List Nd} {σ : St}
/-- the attributes of an element stand right behind it -/
theorem at_run (hw : wf ns) (hp : e < ns.length) (hk : (nd ns e).1 = 1) : ∀ d, e + 1 + d < skn isAt ns (e + 1) → (nd ns (e + 1 + d)).1 = 2 ∧ (nd ns (e + 1 + d)).2.1 = (nd ns e).2.1 + 1 ∧ e + 1 + d < ns.length := by
  have g1 := skn_ge (f := isAt) (ns := ns) (p := e + 1)
  have g2 := skn_le (f := isAt) (ns := ns) (p := e + 1) (by omega)
  have ka := skn_all (f := isAt) (ns := ns) (skn isAt ns (e + 1) - (e + 1)) (e + 1) (by omega)
  intro d
  induction d with
  | zero =>
    intro hd
    have k := ka.1 (e + 1) (by omega) (by omega)
    have k2 := k.2
    unfold isAt at k2
    rw [decide_eq_true_eq] at k2
    have ad := (hw.2.2.1 e k.1).2.2.1 k2
    rcases ad with w | w
    · exact ⟨k2, w.2, k.1⟩
    · rw [hk] at w
      exact absurd w.1 (by decide)
  | succ d ih =>
    intro hd
    have i1 := ih (by omega)
    have k := ka.1 (e + 1 + (d + 1)) (by omega) (by omega)
    have k2 := k.2
    unfold isAt at k2
    rw [decide_eq_true_eq] at k2
    have ad := (hw.2.2.1 (e + 1 + d) (by omega)).2.2.1 k2
    rcases ad with w | w
    · omega
    · exact ⟨k2, by have := w.2; rw [show e + 1 + (d + 1) = e + 1 + d + 1 by omega]; omega, k.1⟩
/-- an attribute's parent is an element, and it is one of those right behind it -/
theorem at_par (hw : wf ns) : ∀ q, q < ns.length → (nd ns q).1 = 2 → ∃ e, e < q ∧ (nd ns e).1 = 1 ∧ (nd ns q).2.1 = (nd ns e).2.1 + 1 ∧ (∀ j, e < j → j ≤ q → (nd ns j).1 = 2 ∧ (nd ns j).2.1 = (nd ns q).2.1) := by
  intro q
  induction q with
  | zero =>
    intro h0 h2
    rw [hw.2.1] at h2
    exact absurd h2 (by decide)
  | succ q ih =>
    intro hq h2
    rcases (hw.2.2.1 q hq).2.2.1 h2 with w | w
    · refine ⟨q, by omega, w.1, w.2, fun j h1 h3 => ?_⟩
      rw [show j = q + 1 by omega]
      exact ⟨h2, rfl⟩
    · obtain ⟨e, e1, e2, e3, e4⟩ := ih (by omega) w.1
      refine ⟨e, by omega, e2, by omega, fun j h1 h3 => ?_⟩
      by_cases c : j = q + 1
      · rw [c]
        exact ⟨h2, rfl⟩
      · have := e4 j h1 (by omega)
        exact ⟨this.1, by omega⟩
theorem par_is (hw : wf ns) {q : Nat} (hq : q < ns.length) (he : e < q) (h1 : (nd ns e).2.1 < (nd ns q).2.1) (h2 : ∀ j, e < j → j < q → (nd ns q).2.1 ≤ (nd ns j).2.1) : par ns q = Int32.ofNat e := by
  have g : ∀ n, e < n → n ≤ q → parS ns (nd ns q).2.1 n = Int32.ofNat e := by
    intro n
    induction n with
    | zero => intro h; omega
    | succ n ih =>
      intro h3 h4
      unfold parS
      by_cases c : n = e
      · rw [c, if_pos h1]
      · rw [if_neg (by have := h2 n (by omega) (by omega); omega)]
        exact ih (by omega) (by omega)
  exact g q he (Nat.le_refl _)
theorem at_in (hw : wf ns) (hn : ns.length ≤ 30) {q : Nat} (hp : e < ns.length) (hk : (nd ns e).1 = 1) : (e < q ∧ q < skn isAt ns (e + 1)) ↔ (q < ns.length ∧ (nd ns q).1 = 2 ∧ par ns q = Int32.ofNat e) := by
  have g1 := skn_ge (f := isAt) (ns := ns) (p := e + 1)
  have g2 := skn_le (f := isAt) (ns := ns) (p := e + 1) (by omega)
  constructor
  · rintro ⟨h1, h2⟩
    have k := at_run hw hp hk (q - (e + 1)) (by omega)
    rw [show e + 1 + (q - (e + 1)) = q by omega] at k
    refine ⟨k.2.2, k.1, par_is hw k.2.2 h1 (by omega) (fun j h3 h4 => ?_)⟩
    have k2 := at_run hw hp hk (j - (e + 1)) (by omega)
    rw [show e + 1 + (j - (e + 1)) = j by omega] at k2
    omega
  · rintro ⟨h1, h2, h3⟩
    obtain ⟨d, d1, d2, d3, d4⟩ := at_par hw q h1 h2
    have pd : par ns q = Int32.ofNat d := par_is hw h1 d1 (by omega) (fun j h4 h5 => by have := (d4 j h4 (by omega)).2; omega)
    have ed : d = e := by
      rw [pd] at h3
      exact (oN_eq (by omega) (by omega)).mp h3
    rw [ed] at d1 d4
    refine ⟨d1, ?_⟩
    -- all from e + 1 to q are attributes
    have all : ∀ m j, e < j → j + m = q + 1 → q < skn isAt ns j := by
      intro m
      induction m with
      | zero =>
        intro j h4 h5
        have := skn_ge (f := isAt) (ns := ns) (p := j)
        omega
      | succ m ih =>
        intro j h4 h5
        have k := (d4 j h4 (by omega)).1
        rw [skn_t (show j < ns.length by omega) (by unfold isAt; rw [decide_eq_true_eq]; exact k)]
        by_cases c : m = 0
        · have := skn_ge (f := isAt) (ns := ns) (p := j + 1)
          omega
        · exact ih (j + 1) (by omega) (by omega)
    exact all (q - e) (e + 1) (by omega) (by omega)
theorem f136_t {i f n : Nat} (hF : 5000 ≤ F) (hb : b.length ≤ 120) (hB : bufC σ b) (h : cTr σ ns) (hs : szOk ns) (hi : i < ns.length) (hp : f + n ≤ b.length) : f136 F 1003 (Int32.ofNat i) 1001 (Int32.ofNat f) (Int32.ofNat n) σ = oI (b2i (decide ((nd ns i).2.2.1 = stre b f n))) σ := by
  have hn := hs.1.1
  have k : stre (flW ns) (wF ns i) (nd ns i).2.2.1.length = (nd ns i).2.2.1 ∧ wF ns i + (nd ns i).2.2.1.length ≤ (flW ns).length := by
    have k0 := flW_name (rest := []) (nd_some hi)
    rw [List.append_nil] at k0
    exact k0
  unfold f136
  rw [if_pos (oN_rg (by omega) (by decide)), ltE, rfT.2.2.2.2.2.2.2.1, if_pos (oN_rg (by omega) (by decide)), ltE, rfT.2.2.1, oN_n (by omega), (h.2.2.2.1 i (by omega)).2, (h.1.2 i hi).2.2.1, rfT.2.2.2.2.2.2.2.2.2, f97_e (r := 1014) (r2 := 1001) (l := flW ns) (l2 := b) hF (Or.inr (Or.inr (Or.inl rfl))) (Or.inl rfl) h.2.1 (rowL_buf.mpr hB) (by rw [show capR 1014 = 4096 by decide]; exact hs.2.2) (by rw [show capR 1001 = 120 by decide]; exact hb) k.2 hp, cIo, if_pos (b2i_z _), sam_eq k.2 hp, k.1]
theorem stre_all : stre b 0 b.length = b := by
  unfold stre
  rw [List.drop_zero, List.take_length]
/-- the class's loop -/
theorem f29_29_e (hF : 5000 ≤ F) (hb : b.length ≤ 120) (hB : bufC σ b) (h : cTr σ ns) (hs : szOk ns) (he : e < ns.length) (hp : p < ns.length) : ∀ (m k i : Nat), e < i → i + m = skn isAt ns (e + 1) → (f29_29 F (k + m + 1) (Int32.ofNat p) (Int32.ofNat e) (Int32.ofNat i) σ = oI 1 σ ∧ ∃ q, i ≤ q ∧ q < skn isAt ns (e + 1) ∧ q ≠ p ∧ (nd ns q).2.2.1 = b) ∨ (f29_29 F (k + m + 1) (Int32.ofNat p) (Int32.ofNat e) (Int32.ofNat i) σ = oI 0 σ ∧ ∀ q, i ≤ q → q < skn isAt ns (e + 1) → q ≠ p → ¬ (nd ns q).2.2.1 = b) := by
  have hn := hs.1.1
  have g2 := skn_le (f := isAt) (ns := ns) (p := e + 1) (by omega)
  intro m
  induction m with
  | zero =>
    intro k i h1 h2
    right
    refine ⟨?_, fun q h3 h4 => by omega⟩
    rw [f29_29.eq_2, f133_e (by omega) h.1 hs.1 he, cIo, if_neg (fun g => by have := (oN_lt (by omega) (by omega)).mp g; omega)]
  | succ m ih =>
    intro k i h1 h2
    have st : f29_29 F (k + (m + 1) + 1) (Int32.ofNat p) (Int32.ofNat e) (Int32.ofNat i) σ = if i = p then f29_29 F (k + m + 1) (Int32.ofNat p) (Int32.ofNat e) (Int32.ofNat (i + 1)) σ else if (nd ns i).2.2.1 = b then oI 1 σ else f29_29 F (k + m + 1) (Int32.ofNat p) (Int32.ofNat e) (Int32.ofNat (i + 1)) σ := by
      rw [show k + (m + 1) + 1 = (k + m + 1) + 1 by omega, f29_29.eq_2, f133_e (by omega) h.1 hs.1 he, cIo, if_pos ((oN_lt (by omega) (by omega)).mpr (by omega))]
      unfold f29_71
      rw [oN_p1]
      by_cases c : i = p
      · rw [if_pos (by rw [c]), if_pos c]
      · have fe : f136 F 1003 (Int32.ofNat i) 1001 0 (Int32.ofNat b.length) σ = _ := f136_t (F := F) (f := 0) hF hb hB h hs (show i < ns.length by omega) (by omega)
        rw [if_neg (fun g => c ((oN_eq (by omega) (by omega)).mp g)), if_neg c, ltE, hB.1, fe, cIo, stre_all]
        by_cases c2 : (nd ns i).2.2.1 = b
        · rw [if_pos c2, decide_eq_true c2, if_neg (show ¬ b2i true = 0 by decide)]
        · rw [if_neg c2, decide_eq_false c2, if_pos b2i_f]
    rw [st]
    by_cases c : i = p
    · rw [if_pos c]
      rcases ih k (i + 1) (by omega) (by omega) with ⟨a1, q, q1, q2, q3, q4⟩ | ⟨a1, a2⟩
      · exact Or.inl ⟨a1, q, by omega, q2, q3, q4⟩
      · exact Or.inr ⟨a1, fun q h3 h4 h5 => a2 q (by omega) h4 h5⟩
    · rw [if_neg c]
      by_cases c2 : (nd ns i).2.2.1 = b
      · rw [if_pos c2]
        exact Or.inl ⟨rfl, i, Nat.le_refl _, by omega, c, c2⟩
      · rw [if_neg c2]
        rcases ih k (i + 1) (by omega) (by omega) with ⟨a1, q, q1, q2, q3, q4⟩ | ⟨a1, a2⟩
        · exact Or.inl ⟨a1, q, by omega, q2, q3, q4⟩
        · refine Or.inr ⟨a1, fun q h3 h4 h5 => ?_⟩
          by_cases cq : q = i
          · rw [cq]
            exact c2
          · exact a2 q (by omega) h4 h5
/-- is the name taken, class -/
theorem f29_e (hF : 5000 ≤ F) (hb : b.length ≤ 120) (hB : bufC σ b) (h : cTr σ ns) (hs : szOk ns) (hw : wf ns) (hp : p < ns.length) : (f29 F (Int32.ofNat p) σ = oI 1 σ ∧ (nd ns p).1 = 2 ∧ tkn ns p b) ∨ (f29 F (Int32.ofNat p) σ = oI 0 σ ∧ ¬ ((nd ns p).1 = 2 ∧ tkn ns p b)) := by
  have hn := hs.1.1
  have bk := (hs.1.2 p hp).2
  have i2 : inB (Int32.ofNat p) 30 := oN_rg (by omega) (by decide)
  have q1 := oN_n (show p < 2147483648 by omega)
  unfold f29
  rw [if_pos i2, ltE]
  simp only [q1]
  rw [(h.1.2 p hp).1]
  by_cases c : (nd ns p).1 = 2
  · obtain ⟨e, e1, e2, e3, e4⟩ := at_par hw p hp c
    have pe : par ns p = Int32.ofNat e := par_is hw hp e1 (by omega) (fun j h4 h5 => by have := (e4 j h4 (by omega)).2; omega)
    have g1 := skn_ge (f := isAt) (ns := ns) (p := e + 1)
    have g2 := skn_le (f := isAt) (ns := ns) (p := e + 1) (by omega)
    rw [c, if_pos (by rfl), if_pos i2, ltE, (h.2.2.2.2 p hp).1, pe, oN_p1]
    obtain ⟨k, hk⟩ : ∃ k, F = k + (skn isAt ns (e + 1) - (e + 1)) + 1 := ⟨F - (skn isAt ns (e + 1) - (e + 1)) - 1, by omega⟩
    have a0 := f29_29_e (F := F) (p := p) hF hb hB h hs (show e < ns.length by omega) hp (skn isAt ns (e + 1) - (e + 1)) k (e + 1) (by omega) (by omega)
    rw [← hk] at a0
    rcases a0 with ⟨a1, q, r1, r2, r3, r4⟩ | ⟨a1, a2⟩
    · have k2 := (at_in hw hn (show e < ns.length by omega) e2).mp ⟨show e < q by omega, r2⟩
      exact Or.inl ⟨a1, rfl, q, k2.1, r3, k2.2.1, by rw [k2.2.2, pe], r4⟩
    · refine Or.inr ⟨a1, fun g => ?_⟩
      obtain ⟨q, t1, t2, t3, t4, t5⟩ := g.2
      have k2 := (at_in hw hn (show e < ns.length by omega) e2).mpr ⟨t1, t3, by rw [t4, pe]⟩
      exact a2 q (by omega) k2.2 t2 t5
  · rw [if_neg (fun g => c ((oE2 (by omega)).mp g))]
    exact Or.inr ⟨rfl, fun g => c g.1⟩
end TKN
