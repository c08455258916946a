/-! THE CLASS'S TREE: nodes in document order, and what is measured of them -/
theorem oE0 {x : Nat} (h : x < 2147483648) : Int32.ofNat x = 0 ↔ x = 0 := oN_eq (q := 0) h (by decide)
theorem oE1 {x : Nat} (h : x < 2147483648) : Int32.ofNat x = 1 ↔ x = 1 := oN_eq (q := 1) h (by decide)
theorem oE2 {x : Nat} (h : x < 2147483648) : Int32.ofNat x = 2 ↔ x = 2 := oN_eq (q := 2) h (by decide)
theorem oE3 {x : Nat} (h : x < 2147483648) : Int32.ofNat x = 3 ↔ x = 3 := oN_eq (q := 3) h (by decide)
theorem oE4 {x : Nat} (h : x < 2147483648) : Int32.ofNat x = 4 ↔ x = 4 := oN_eq (q := 4) h (by decide)
abbrev nd (ns : List Nd) (i : Nat) : Nd := ns.getD i doc0
theorem nd_of {ns : List Nd} {i : Nat} {x : Nd} (h : ns[i]? = some x) : nd ns i = x := by
  unfold nd
  rw [List.getD_eq_getElem?_getD, h]
  rfl
theorem nd_some {ns : List Nd} {i : Nat} (h : i < ns.length) : ns[i]? = some (nd ns i) := by
  unfold nd
  rw [List.getD_eq_getElem?_getD, List.getElem?_eq_getElem h]
  rfl
/-- behind the nodes of a kind -/
def skn (f : Nd → Bool) (ns : List Nd) (p : Nat) : Nat := p + ((ns.drop p).takeWhile f).length
section SKN
variable {f : Nd → Bool} {ns : List Nd} {p : Nat} {x : Nd}
theorem skn_t (hp : p < ns.length) (h : f (nd ns p) = true) : skn f ns p = skn f ns (p + 1) := by
  have e : nd ns p = ns[p] := by
    unfold nd
    rw [List.getD_eq_getElem?_getD, List.getElem?_eq_getElem hp]
    rfl
  unfold skn
  rw [List.drop_eq_getElem_cons hp, List.takeWhile_cons, ← e, if_pos h, List.length_cons]
  omega
theorem skn_f (h : p < ns.length → f (nd ns p) = false) : skn f ns p = p := by
  unfold skn
  by_cases hp : p < ns.length
  · have e : nd ns p = ns[p] := by
      unfold nd
      rw [List.getD_eq_getElem?_getD, List.getElem?_eq_getElem hp]
      rfl
    rw [List.drop_eq_getElem_cons hp, List.takeWhile_cons, ← e, h hp]
    rfl
  · rw [List.drop_eq_nil_of_le (by omega)]
    rfl
theorem skn_ge : p ≤ skn f ns p := by
  unfold skn
  omega
theorem skn_le (hp : p ≤ ns.length) : skn f ns p ≤ ns.length := by
  unfold skn
  have h := (List.takeWhile_sublist (l := ns.drop p) f).length_le
  rw [List.length_drop] at h
  omega
theorem skn_cases : (p < ns.length ∧ f (nd ns p) = true ∧ skn f ns p = skn f ns (p + 1)) ∨ ((p < ns.length → f (nd ns p) = false) ∧ skn f ns p = p) := by
  by_cases hp : p < ns.length
  · by_cases hf : f (nd ns p) = true
    · exact Or.inl ⟨hp, hf, skn_t hp hf⟩
    · rw [Bool.not_eq_true] at hf
      exact Or.inr ⟨fun _ => hf, skn_f (fun _ => hf)⟩
  · exact Or.inr ⟨fun hh => absurd hh hp, skn_f (fun hh => absurd hh hp)⟩
end SKN
def deeper (lv : Nat) (y : Nd) : Bool := decide (lv < y.2.1)
def isAt (y : Nd) : Bool := decide (y.1 = 2)
/-- the number of nodes below p -/
def siz (ns : List Nd) (p : Nat) : Nat := skn (deeper (nd ns p).2.1) ns (p + 1) - p - 1
/-- the last node before q that is higher than lv -/
def parS (ns : List Nd) (lv : Nat) : Nat → Int32
  | 0 => -1
  | q + 1 => if (nd ns q).2.1 < lv then Int32.ofNat q else parS ns lv q
def par (ns : List Nd) (p : Nat) : Int32 := parS ns (nd ns p).2.1 p
theorem rfT : rfF 1003 0 = 1004 ∧ rfF 1003 1 = 1005 ∧ rfF 1003 2 = 1006 ∧ rfF 1003 3 = 1007 ∧ rfF 1003 4 = 1008 ∧ rfF 1003 5 = 1009 ∧ rfF 1003 6 = 1010 ∧ rfF 1003 7 = 1011 ∧ rfF 1003 8 = 1012 ∧ rfF 1003 9 = 1014 := by decide +kernel
def bTr (σ : St) (ns : List Nd) : Prop := σ.1 1003 10 = Int32.ofNat ns.length ∧ ∀ i, i < ns.length → σ.1 1004 i = Int32.ofNat (nd ns i).1 ∧ σ.1 1005 i = Int32.ofNat (nd ns i).2.1 ∧ σ.1 1006 i = Int32.ofNat (nd ns i).2.2.1.length ∧ σ.1 1007 i = Int32.ofNat (nd ns i).2.2.2.length
def lvOk (ns : List Nd) : Prop := ns.length ≤ 30 ∧ ∀ i, i < ns.length → (nd ns i).2.1 ≤ 1000 ∧ (nd ns i).1 ≤ 1000
theorem oN_mm {x : Int32} : x + Int32.ofInt (-1) = x - 1 := by
  rw [Int32.sub_eq_add_neg]
  rfl
section MEA
variable {F p : Nat} {ns : List Nd} {σ : St}
theorem f126_4_e (h : bTr σ ns) (hl : lvOk ns) (hp : p < ns.length) : ∀ (q k : Nat), q ≤ p → f126_4 F (k + q + 1) 1003 (Int32.ofNat p) (Int32.ofNat q - 1) σ = oI (parS ns (nd ns p).2.1 q) σ := by
  have hl1 := hl.1
  intro q
  induction q with
  | zero =>
    intro k _
    rw [f126_4.eq_2, if_pos (by decide)]
    rfl
  | succ q ih =>
    intro k hq
    have h1 := (h.2 q (by omega)).2.1
    have h2 := (h.2 p hp).2.1
    have b1 := (hl.2 q (by omega)).1
    have b2 := (hl.2 p hp).1
    rw [show k + (q + 1) + 1 = (k + q + 1) + 1 by omega, f126_4.eq_2, oN_s1, if_neg (oN_nn (by omega)), if_pos (oN_rg (by omega) (by decide)), ltE, if_pos (oN_rg (by omega) (by decide)), ltE, rfT.2.1, oN_n (by omega), oN_n (by omega), h1, h2]
    unfold parS
    by_cases hh : (nd ns q).2.1 < (nd ns p).2.1
    · rw [if_pos hh, if_pos ((oN_lt (by omega) (by omega)).mpr hh)]
    · rw [if_neg hh, if_neg (fun g => hh ((oN_lt (by omega) (by omega)).mp g)), oN_mm, ih k (by omega)]
theorem f126_e (hF : 500 ≤ F) (h : bTr σ ns) (hl : lvOk ns) (hp : p < ns.length) : f126 F 1003 (Int32.ofNat p) σ = oI (par ns p) σ := by
  have hl1 := hl.1
  obtain ⟨k, hk⟩ : ∃ k, F = k + p + 1 := ⟨F - p - 1, by omega⟩
  have a0 := f126_4_e (F := F) h hl hp p k (Nat.le_refl _)
  rw [← hk] at a0
  unfold f126
  exact a0
theorem f127_4_e (h : bTr σ ns) (hl : lvOk ns) (hp : p < ns.length) : ∀ (m k q : Nat), p < q → q ≤ ns.length → skn (deeper (nd ns p).2.1) ns q = q + m → f127_4 F (k + m + 1) 1003 (Int32.ofNat p) (Int32.ofNat q) σ = oI (Int32.ofNat (q + m - p - 1)) σ := by
  have hl1 := hl.1
  have h2 := (h.2 p hp).2.1
  have b2 := (hl.2 p hp).1
  intro m
  induction m with
  | zero =>
    intro k q hpq hq hs
    have e1 : (Int32.ofNat q - Int32.ofNat p) - 1 = Int32.ofNat (q + 0 - p - 1) := by
      rw [oN_sb (by omega), show (1 : Int32) = Int32.ofNat 1 from rfl, oN_sb (by omega)]
      rfl
    rw [f127_4.eq_2, ltE, h.1]
    by_cases hql : q < ns.length
    · have hf : deeper (nd ns p).2.1 (nd ns q) = false := by
        rcases skn_cases (f := deeper (nd ns p).2.1) (ns := ns) (p := q) with ⟨_, _, g⟩ | ⟨g, _⟩
        · have := skn_ge (f := deeper (nd ns p).2.1) (ns := ns) (p := q + 1)
          omega
        · exact g hql
      unfold deeper at hf
      rw [decide_eq_false_iff_not] at hf
      have b1 := (hl.2 q hql).1
      rw [if_pos ((oN_lt (by omega) (by omega)).mpr hql), if_pos (oN_rg (by omega) (by decide)), ltE, if_pos (oN_rg (by omega) (by decide)), ltE, rfT.2.1, oN_n (by omega), oN_n (by omega), (h.2 q hql).2.1, h2, if_neg (fun g => hf ((oN_lt (by omega) (by omega)).mp g)), e1]
    · rw [if_neg (fun g => hql ((oN_lt (by omega) (by omega)).mp g)), e1]
  | succ m ih =>
    intro k q hpq hq hs
    rcases skn_cases (f := deeper (nd ns p).2.1) (ns := ns) (p := q) with ⟨hql, hf, g⟩ | ⟨_, g⟩
    · unfold deeper at hf
      rw [decide_eq_true_eq] at hf
      have b1 := (hl.2 q hql).1
      have i1 := ih k (q + 1) (by omega) (by omega) (by omega)
      rw [show k + (m + 1) + 1 = (k + m + 1) + 1 by omega, f127_4.eq_2, ltE, h.1, if_pos ((oN_lt (by omega) (by omega)).mpr hql), if_pos (oN_rg (by omega) (by decide)), ltE, if_pos (oN_rg (by omega) (by decide)), ltE, rfT.2.1, oN_n (by omega), oN_n (by omega), (h.2 q hql).2.1, h2, if_pos ((oN_lt (by omega) (by omega)).mpr hf), oN_p1, i1, show q + 1 + m = q + (m + 1) by omega]
    · omega
theorem siz_le (hp : p < ns.length) : p + siz ns p + 1 ≤ ns.length := by
  have h1 := skn_ge (f := deeper (nd ns p).2.1) (ns := ns) (p := p + 1)
  have h2 := skn_le (f := deeper (nd ns p).2.1) (ns := ns) (p := p + 1) (by omega)
  unfold siz
  omega
theorem f127_e (hF : 500 ≤ F) (h : bTr σ ns) (hl : lvOk ns) (hp : p < ns.length) : f127 F 1003 (Int32.ofNat p) σ = oI (Int32.ofNat (siz ns p)) σ := by
  have hl1 := hl.1
  have h1 := skn_ge (f := deeper (nd ns p).2.1) (ns := ns) (p := p + 1)
  have h2 := skn_le (f := deeper (nd ns p).2.1) (ns := ns) (p := p + 1) (by omega)
  obtain ⟨m, hm⟩ : ∃ m, skn (deeper (nd ns p).2.1) ns (p + 1) = p + 1 + m := ⟨skn (deeper (nd ns p).2.1) ns (p + 1) - (p + 1), by omega⟩
  obtain ⟨k, hk⟩ : ∃ k, F = k + m + 1 := ⟨F - m - 1, by omega⟩
  have a0 := f127_4_e (F := F) h hl hp m k (p + 1) (by omega) (by omega) hm
  rw [← hk, ← hm] at a0
  unfold f127 siz
  rw [oN_p1]
  exact a0
/-- behind the attributes -/
theorem f133_4_e (h : bTr σ ns) (hl : lvOk ns) : ∀ (m k q : Nat), q ≤ ns.length → skn isAt ns q = q + m → f133_4 F (k + m + 1) 1003 (Int32.ofNat q) σ = oI (Int32.ofNat (q + m)) σ := by
  have hl1 := hl.1
  intro m
  induction m with
  | zero =>
    intro k q hq hs
    rw [f133_4.eq_2, ltE, h.1]
    by_cases hql : q < ns.length
    · have hf : isAt (nd ns q) = false := by
        rcases skn_cases (f := isAt) (ns := ns) (p := q) with ⟨_, _, g⟩ | ⟨g, _⟩
        · have := skn_ge (f := isAt) (ns := ns) (p := q + 1)
          omega
        · exact g hql
      unfold isAt at hf
      rw [decide_eq_false_iff_not] at hf
      have b1 := (hl.2 q hql).2
      rw [if_pos ((oN_lt (by omega) (by omega)).mpr hql), if_pos (oN_rg (by omega) (by decide)), ltE, rfT.1, oN_n (by omega), (h.2 q hql).1, if_neg (fun g => hf ((oE2 (by omega)).mp g))]
      rfl
    · rw [if_neg (fun g => hql ((oN_lt (by omega) (by omega)).mp g))]
      rfl
  | succ m ih =>
    intro k q hq hs
    rcases skn_cases (f := isAt) (ns := ns) (p := q) with ⟨hql, hf, g⟩ | ⟨_, g⟩
    · unfold isAt at hf
      rw [decide_eq_true_eq] at hf
      have i1 := ih k (q + 1) (by omega) (by omega)
      rw [show k + (m + 1) + 1 = (k + m + 1) + 1 by omega, f133_4.eq_2, ltE, h.1, if_pos ((oN_lt (by omega) (by omega)).mpr hql), if_pos (oN_rg (by omega) (by decide)), ltE, rfT.1, oN_n (by omega), (h.2 q hql).1, hf, if_pos (by rfl), oN_p1, i1, show q + 1 + m = q + (m + 1) by omega]
    · omega
theorem f133_e (hF : 500 ≤ F) (h : bTr σ ns) (hl : lvOk ns) (hp : p < ns.length) : f133 F 1003 (Int32.ofNat p) σ = oI (Int32.ofNat (skn isAt ns (p + 1))) σ := by
  have hl1 := hl.1
  have h1 := skn_ge (f := isAt) (ns := ns) (p := p + 1)
  have h2 := skn_le (f := isAt) (ns := ns) (p := p + 1) (by omega)
  obtain ⟨m, hm⟩ : ∃ m, skn isAt ns (p + 1) = p + 1 + m := ⟨skn isAt ns (p + 1) - (p + 1), by omega⟩
  obtain ⟨k, hk⟩ : ∃ k, F = k + m + 1 := ⟨F - m - 1, by omega⟩
  have a0 := f133_4_e (F := F) h hl m k (p + 1) (by omega) hm
  rw [← hk, ← hm] at a0
  unfold f133
  rw [oN_p1]
  exact a0
end MEA
