/-! THE REFERENCE'S WORDS: characters packed in longs -/
def ecR : List Int32 → Nat
  | [] => 0
  | c :: l => ecR l * 256 + c.toNatClampNeg
def ecL (l : List Int32) : Nat := ecR l.reverse
def okW (l : List Int32) : Prop := ∀ c, c ∈ l → ∃ k, 0 < k ∧ k < 128 ∧ c = Int32.ofNat k
theorem okW.cn {c : Int32} {l : List Int32} (h : okW (c :: l)) : 0 < c.toNatClampNeg ∧ c.toNatClampNeg < 128 ∧ c = Int32.ofNat c.toNatClampNeg := by
  obtain ⟨k, h1, h2, h3⟩ := h c (List.mem_cons_self ..)
  have : c.toNatClampNeg = k := by rw [h3, oN_n (by omega)]
  rw [this]
  exact ⟨h1, h2, h3⟩
theorem ecR_inj : ∀ (l m : List Int32), okW l → okW m → ecR l = ecR m → l = m
  | [], [], _, _, _ => rfl
  | [], c :: m, _, hm, h => by
    have := hm.cn
    unfold ecR at h
    omega
  | c :: l, [], hl, _, h => by
    have := hl.cn
    unfold ecR at h
    omega
  | c :: l, d :: m, hl, hm, h => by
    have h1 := hl.cn
    have h2 := hm.cn
    unfold ecR at h
    have e1 : c.toNatClampNeg = d.toNatClampNeg := by omega
    have e2 : ecR l = ecR m := by omega
    have e3 := ecR_inj l m (fun z hz => hl z (List.mem_cons_of_mem _ hz)) (fun z hz => hm z (List.mem_cons_of_mem _ hz)) e2
    rw [e3, h1.2.2, h2.2.2, e1]
theorem okW.rv {l : List Int32} (h : okW l) : okW l.reverse := fun c hc => h c (List.mem_reverse.mp hc)
theorem ecL_inj {l m : List Int32} (hl : okW l) (hm : okW m) : ecL l = ecL m ↔ l = m := ⟨fun h => List.reverse_inj.mp (ecR_inj _ _ hl.rv hm.rv h), fun h => by rw [h]⟩
theorem ecL_sn {l : List Int32} {c : Int32} : ecL (l ++ [c]) = ecL l * 256 + c.toNatClampNeg := by
  unfold ecL
  rw [List.reverse_append]
  rfl
theorem ecR_lt : ∀ (n : Nat) (l : List Int32), okW l → l.length ≤ n + 1 → ecR l < 128 * 256 ^ n
  | n, [], _, _ => by
    have : 0 < 256 ^ n := Nat.pow_pos (by decide)
    show 0 < _
    omega
  | 0, c :: l, h, hl => by
    have := h.cn
    have : l = [] := List.eq_nil_of_length_eq_zero (by rw [List.length_cons] at hl; omega)
    subst this
    show 0 * 256 + c.toNatClampNeg < 128 * 1
    omega
  | n + 1, c :: l, h, hl => by
    have h1 := h.cn
    have h2 := ecR_lt n l (fun z hz => h z (List.mem_cons_of_mem _ hz)) (by rw [List.length_cons] at hl; omega)
    show ecR l * 256 + c.toNatClampNeg < 128 * 256 ^ (n + 1)
    rw [Nat.pow_succ]
    omega
theorem ecL_lt {l : List Int32} (h : okW l) (hl : l.length ≤ 8) : ecL l < 9223372036854775808 := by
  have := ecR_lt 7 l.reverse h.rv (by rw [List.length_reverse]; omega)
  exact this
theorem ec64 {x y : Nat} (hx : x < 9223372036854775808) (hy : y < 9223372036854775808) : Int64.ofInt (x : Int) = Int64.ofInt (y : Int) ↔ x = y := by
  constructor
  · intro h
    have := congrArg Int64.toInt h
    rw [Int64.toInt_ofInt_of_le (by omega) (by omega), Int64.toInt_ofInt_of_le (by omega) (by omega)] at this
    omega
  · intro h
    rw [h]
theorem okW_lits : ∀ w, w ≤ 67 → okW (lits w) := by
  have h : ∀ w, w ≤ 67 → ∀ c, c ∈ lits w → 0 < c.toNatClampNeg ∧ c.toNatClampNeg < 128 ∧ c = Int32.ofNat c.toNatClampNeg := by decide +kernel
  intro w hw c hc
  have := h w hw c hc
  exact ⟨_, this.1, this.2.1, this.2.2⟩
theorem okW_stre {b : List Int32} {p n : Nat} (h : okB b) : okW (stre b p n) := by
  intro c hc
  obtain ⟨i, hi, e⟩ := List.getElem_of_mem hc
  have h1 := okB_stre (p := p) (n := n) h i hi
  rw [getD_lt hi, e] at h1
  exact h1
theorem stre_sn {b : List Int32} {p m : Nat} (h : p + m < b.length) : stre b p (m + 1) = stre b p m ++ [b.getD (p + m) 0] := by
  unfold stre
  rw [List.take_add_one, List.getElem?_drop, List.getElem?_eq_getElem h, getD_lt h]
  rfl
theorem ec_st {l : List Int32} {c : Int32} (h : okW [c]) : Int64.ofInt (ecL l : Int) * 256 + c.toInt64 = Int64.ofInt (ecL (l ++ [c]) : Int) := by
  obtain ⟨h1, h2, h3⟩ := h.cn
  rw [ecL_sn, t64]
  have e1 : c.toInt = (c.toNatClampNeg : Int) := by
    rw [h3, oN_i (by omega), oN_n (by omega)]
  rw [e1, show (256 : Int64) = Int64.ofInt 256 from rfl, ← Int64.ofInt_mul, ← Int64.ofInt_add]
  congr 1
theorem okW_1 {b : List Int32} {p : Nat} (h : okB b) (hp : p < b.length) : okW [b.getD p 0] := by
  intro c hc
  rw [List.mem_singleton] at hc
  rw [hc]
  exact h p hp
section RWD
variable {F p e : Nat} {b : List Int32} {σ : St}
def wdV (b : List Int32) (p n : Nat) : Int64 := if 8 < n then -1 else Int64.ofInt (ecL (stre b p n) : Int)
theorem f214_e (hF : 500 ≤ F) (hb : b.length ≤ 120) (ho : okB b) (hB : bufM σ b) (hp : p ≤ e) (he : e ≤ b.length) : f214 F (Int32.ofNat p) (Int32.ofNat e) σ = oJ (wdV b p (e - p)) σ := by
  have fin : ∀ m, (m = e - p ∨ (m = 8 ∧ 8 < e - p)) → f214_41 F (Int32.ofNat p) (Int32.ofNat e) (Int64.ofInt (ecL (stre b p m) : Int)) σ = oJ (wdV b p (e - p)) σ := by
    intro m hm
    unfold f214_41 wdV
    rw [oN_sb hp]
    by_cases c : 8 < e - p
    · rw [if_pos (show 8 < Int32.ofNat (e - p) from (oN_lt (p := 8) (by decide) (by omega)).mpr c), if_pos c]
    · rw [if_neg (show ¬ 8 < Int32.ofNat (e - p) from fun g => c ((oN_lt (p := 8) (by decide) (by omega)).mp g)), if_neg c, show m = e - p by omega]
  have key : ∀ (d kk m : Nat), m + d = 8 → m ≤ e - p → f214_5 F (kk + d + 1) (Int32.ofNat p) (Int32.ofNat e) (Int64.ofInt (ecL (stre b p m) : Int)) (Int32.ofNat (p + m)) σ = oJ (wdV b p (e - p)) σ := by
    intro d
    induction d with
    | zero =>
      intro kk m hm hme
      rw [f214_5.eq_2]
      by_cases c : p + m < e
      · rw [if_pos ((oN_lt (by omega) (by omega)).mpr c), show (8 : Int32) = Int32.ofNat 8 from rfl, oN_ad, if_neg (fun g => by have := (oN_lt (by omega) (by omega)).mp g; omega)]
        exact fin m (by omega)
      · rw [if_neg (fun g => c ((oN_lt (by omega) (by omega)).mp g))]
        exact fin m (by omega)
    | succ d ih =>
      intro kk m hm hme
      rw [show kk + (d + 1) + 1 = (kk + d + 1) + 1 by omega, f214_5.eq_2]
      by_cases c : p + m < e
      · rw [if_pos ((oN_lt (by omega) (by omega)).mpr c), show (8 : Int32) = Int32.ofNat 8 from rfl, oN_ad, if_pos ((oN_lt (by omega) (by omega)).mpr (by omega)), if_pos (oN_rg (by omega) (by decide)), ltE, oN_n (by omega), hB.2 (p + m) (by omega), ltE, ec_st (okW_1 ho (by omega)), ← stre_sn (by omega), oN_p1]
        exact ih kk (m + 1) (by omega) (by omega)
      · rw [if_neg (fun g => c ((oN_lt (by omega) (by omega)).mp g))]
        exact fin m (by omega)
  have := key 8 (F - 9) 0 (by omega) (by omega)
  rw [show F - 9 + 8 + 1 = F by omega] at this
  exact this
theorem wd_eq {w : Nat} {X : Int64} (ho : okB b) (hw : w ≤ 67) (hs : slen w ≤ 8) (he : e ≤ b.length) (hX : X = Int64.ofInt (ecL (lits w) : Int)) : lg_cmp (wdV b p (e - p)) X = 0 ↔ stre b p (e - p) = lits w := by
  rw [lg_eq, hX]
  unfold wdV
  have l2 := ecL_lt (okW_lits w hw) (by rw [lits_len]; exact hs)
  by_cases c : 8 < e - p
  · rw [if_pos c]
    constructor
    · intro h
      have h2 := congrArg Int64.toInt h
      rw [Int64.toInt_ofInt_of_le (by omega) (by omega)] at h2
      have : (-1 : Int64).toInt = -1 := by decide
      omega
    · intro h
      have h2 := congrArg List.length h
      rw [stre_len (by omega), lits_len] at h2
      omega
  · rw [if_neg c]
    have l1 : ecL (stre b p (e - p)) < 9223372036854775808 := by
      refine ecL_lt (okW_stre ho) ?_
      unfold stre
      rw [List.length_take]
      omega
    rw [ec64 l1 l2]
    exact ecL_inj (okW_stre ho) (okW_lits w hw)
theorem f213_e {w : Nat} {X : Int64} (hF : 500 ≤ F) (hb : b.length ≤ 120) (ho : okB b) (hB : bufM σ b) (hp : p ≤ e) (he : e ≤ b.length) (hw : w ≤ 67) (hs : slen w ≤ 8) (hX : X = Int64.ofInt (ecL (lits w) : Int)) : f213 F (Int32.ofNat p) (Int32.ofNat e) X σ = oI (b2i (decide (stre b p (e - p) = lits w))) σ := by
  unfold f213
  rw [f214_e hF hb ho hB hp he, cJo]
  have k := wd_eq (p := p) ho hw hs he hX
  by_cases c : stre b p (e - p) = lits w
  · rw [if_pos (k.mpr c), decide_eq_true c]
    rfl
  · rw [if_neg (fun g => c (k.mp g)), decide_eq_false c]
    rfl
def sp1 (l : List Int32) : List Int32 := l.take 7
def sp2 (l : List Int32) : List Int32 := (l.drop 7).take 7
def sp3 (l : List Int32) : List Int32 := l.drop 14
theorem sp_eq {l m : List Int32} : l = m ↔ sp1 l = sp1 m ∧ sp2 l = sp2 m ∧ sp3 l = sp3 m := by
  constructor
  · intro h
    rw [h]
    exact ⟨rfl, rfl, rfl⟩
  · intro ⟨h1, h2, h3⟩
    have k : ∀ u : List Int32, u = sp1 u ++ (sp2 u ++ sp3 u) := by
      intro u
      unfold sp1 sp2 sp3
      have : u.drop 14 = (u.drop 7).drop 7 := by rw [List.drop_drop]
      rw [this, List.take_append_drop, List.take_append_drop]
    rw [k l, k m, h1, h2, h3]
theorem sp_sn {l : List Int32} {c : Int32} : (l.length < 7 → sp1 (l ++ [c]) = sp1 l ++ [c]) ∧ (¬ l.length < 7 → sp1 (l ++ [c]) = sp1 l) ∧ (l.length < 7 → sp2 (l ++ [c]) = sp2 l) ∧ (¬ l.length < 7 → l.length < 14 → sp2 (l ++ [c]) = sp2 l ++ [c]) ∧ (¬ l.length < 14 → sp2 (l ++ [c]) = sp2 l) ∧ (l.length < 14 → sp3 (l ++ [c]) = sp3 l) ∧ (¬ l.length < 14 → sp3 (l ++ [c]) = sp3 l ++ [c]) := by
  unfold sp1 sp2 sp3
  refine ⟨fun h => ?_, fun h => ?_, fun h => ?_, fun h g => ?_, fun h => ?_, fun h => ?_, fun h => ?_⟩
  · rw [List.take_of_length_le (by simp; omega), List.take_of_length_le (by omega)]
  · rw [List.take_append_of_le_length (by omega)]
  · rw [List.drop_eq_nil_of_le (by simp; omega), List.drop_eq_nil_of_le (by omega)]
  · rw [List.drop_append_of_le_length (by omega), List.take_of_length_le (by simp; omega), List.take_of_length_le (by simp; omega)]
  · rw [List.drop_append_of_le_length (by omega), List.take_append_of_le_length (by simp; omega)]
  · rw [List.drop_eq_nil_of_le (by simp; omega), List.drop_eq_nil_of_le (by omega)]
  · rw [List.drop_append_of_le_length (by omega)]
end RWD
