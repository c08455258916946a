/-! HOW MANY BITS, the class's way: byte by byte -/
def pop (y : Nat) : Nat → Nat
  | 0 => 0
  | n + 1 => y % 2 + pop (y / 2) n
theorem pop_end : ∀ (n y : Nat), pop y (n + 1) = pop y n + (y / 2 ^ n) % 2
  | 0, y => by
    show y % 2 + 0 = 0 + (y / 1) % 2
    omega
  | n + 1, y => by
    show y % 2 + pop (y / 2) (n + 1) = y % 2 + pop (y / 2) n + (y / 2 ^ (n + 1)) % 2
    rw [pop_end n (y / 2), Nat.div_div_eq_div_mul, Nat.pow_succ, Nat.mul_comm 2 (2 ^ n)]
    omega
theorem cntB_pop {x : Int32} : ∀ n, cntB x n = pop x.toBitVec.toNat n
  | 0 => rfl
  | n + 1 => by
    rw [pop_end]
    unfold cntB
    rw [cntB_pop n]
    congr 1
    unfold bt
    have e : x.toBitVec.getLsbD n = decide (x.toBitVec.toNat / 2 ^ n % 2 = 1) := by
      show Nat.testBit _ _ = _
      rw [Nat.testBit_eq_decide_div_mod_eq]
    rw [e]
    by_cases c : x.toBitVec.toNat / 2 ^ n % 2 = 1
    · rw [if_pos (by simp [c]), c]
    · rw [if_neg (by simp [c])]
      omega
theorem pop_byte {h l n : Nat} (hl : l < 256) : pop (256 * h + l) (n + 8) = pop l 8 + pop h n := by
  have e : ∀ y, pop y (n + 8) = y % 2 + (y / 2 % 2 + (y / 2 / 2 % 2 + (y / 2 / 2 / 2 % 2 + (y / 2 / 2 / 2 / 2 % 2 + (y / 2 / 2 / 2 / 2 / 2 % 2 + (y / 2 / 2 / 2 / 2 / 2 / 2 % 2 + (y / 2 / 2 / 2 / 2 / 2 / 2 / 2 % 2 + pop (y / 2 / 2 / 2 / 2 / 2 / 2 / 2 / 2) n))))))) := fun y => rfl
  have e2 : ∀ y, pop y 8 = y % 2 + (y / 2 % 2 + (y / 2 / 2 % 2 + (y / 2 / 2 / 2 % 2 + (y / 2 / 2 / 2 / 2 % 2 + (y / 2 / 2 / 2 / 2 / 2 % 2 + (y / 2 / 2 / 2 / 2 / 2 / 2 % 2 + (y / 2 / 2 / 2 / 2 / 2 / 2 / 2 % 2 + 0))))))) := fun y => rfl
  rw [e, e2, show (256 * h + l) / 2 / 2 / 2 / 2 / 2 / 2 / 2 / 2 = h by omega]
  omega
theorem and_byte {h l m n : Nat} (hl : l < 256) (hn : n < 256) : (256 * h + l) &&& (256 * m + n) = 256 * (h &&& m) + (l &&& n) := by
  have hln : l &&& n < 2 ^ 8 := Nat.and_lt_two_pow l (show n < 2 ^ 8 from hn)
  apply Nat.eq_of_testBit_eq
  intro i
  rw [Nat.testBit_and]
  rw [show (256 : Nat) = 2 ^ 8 from rfl] at *
  rw [Nat.testBit_two_pow_mul_add _ hl, Nat.testBit_two_pow_mul_add _ hn, Nat.testBit_two_pow_mul_add _ hln]
  split
  · rw [Nat.testBit_and]
  · rw [Nat.testBit_and]
def c1 (m x : Nat) : Nat := x - ((x / 2) &&& m)
def c2 (m x : Nat) : Nat := (x &&& m) + ((x / 4) &&& m)
def c3 (m x : Nat) : Nat := (x + x / 16) &&& m
theorem c1_b : ∀ r, r < 2 → ∀ l, l < 256 → (r * 128 + l / 2) &&& 85 = (l / 2) &&& 85 := by decide +kernel
theorem c2_b : ∀ r, r < 4 → ∀ l, l < 256 → (r * 64 + l / 4) &&& 51 = (l / 4) &&& 51 := by decide +kernel
theorem c1_s {m h l : Nat} (hl : l < 256) : c1 (256 * m + 85) (256 * h + l) = 256 * c1 m h + c1 85 l := by
  unfold c1
  rw [show (256 * h + l) / 2 = 256 * (h / 2) + (h % 2 * 128 + l / 2) by omega, and_byte (by omega) (by decide), c1_b (h % 2) (by omega) l hl]
  have a1 : (h / 2) &&& m ≤ h / 2 := Nat.and_le_left
  have a2 : (l / 2) &&& 85 ≤ l / 2 := Nat.and_le_left
  omega
theorem c2_s {m h l : Nat} (hl : l < 256) : c2 (256 * m + 51) (256 * h + l) = 256 * c2 m h + c2 51 l := by
  unfold c2
  rw [show (256 * h + l) / 4 = 256 * (h / 4) + (h % 4 * 64 + l / 4) by omega, and_byte (by omega) (by decide), and_byte (by omega) (by decide), c2_b (h % 4) (by omega) l hl]
  omega
theorem and15 (y : Nat) : y &&& 15 = y % 16 := Nat.and_two_pow_sub_one_eq_mod y 4
theorem c3_s {m h l : Nat} (hl : l ≤ 68) (hh : h % 16 ≤ 4) : c3 (256 * m + 15) (256 * h + l) = 256 * c3 m h + c3 15 l := by
  unfold c3
  rw [show 256 * h + l + (256 * h + l) / 16 = 256 * (h + h / 16) + (l + l / 16 + h % 16 * 16) by omega, and_byte (by omega) (by decide), and15, and15]
  omega
def c12 (y : Nat) : Nat := c2 51 (c1 85 y)
theorem byte_ok : ∀ y, y < 256 → c1 85 y < 256 ∧ c12 y ≤ 68 ∧ c12 y % 16 ≤ 4 ∧ c3 15 (c12 y) = pop y 8 ∧ pop y 8 ≤ 8 := by decide +kernel
theorem c_0 : c1 0 0 = 0 ∧ c2 0 0 = 0 ∧ c3 0 0 = 0 := by decide
theorem c123 {a b c d : Nat} (ha : a < 256) (hb : b < 256) (hc : c < 256) (hd : d < 256) : c3 252645135 (c2 858993459 (c1 1431655765 (256 * (256 * (256 * d + c) + b) + a))) = 256 * (256 * (256 * pop d 8 + pop c 8) + pop b 8) + pop a 8 := by
  obtain ⟨a1, a2, a3, a4, a5⟩ := byte_ok a ha
  obtain ⟨b1, b2, b3, b4, b5⟩ := byte_ok b hb
  obtain ⟨e1, e2, e3, e4, e5⟩ := byte_ok c hc
  obtain ⟨d1, d2, d3, d4, d5⟩ := byte_ok d hd
  have x1 : c1 1431655765 (256 * (256 * (256 * d + c) + b) + a) = 256 * (256 * (256 * c1 85 d + c1 85 c) + c1 85 b) + c1 85 a := by
    rw [show 1431655765 = 256 * (256 * (256 * 85 + 85) + 85) + 85 by rfl, c1_s ha, c1_s hb, c1_s hc]
  have x2 : c2 858993459 (256 * (256 * (256 * c1 85 d + c1 85 c) + c1 85 b) + c1 85 a) = 256 * (256 * (256 * c12 d + c12 c) + c12 b) + c12 a := by
    rw [show 858993459 = 256 * (256 * (256 * 51 + 51) + 51) + 51 by rfl, c2_s a1, c2_s b1, c2_s e1]
    rfl
  rw [x1, x2, show 252645135 = 256 * (256 * (256 * 15 + 15) + 15) + 15 by rfl, c3_s a2 (by omega), c3_s b2 (by omega), c3_s e2 (by omega), a4, b4, e4, d4]
theorem pop_32 {a b c d : Nat} (ha : a < 256) (hb : b < 256) (hc : c < 256) : pop (256 * (256 * (256 * d + c) + b) + a) (24 + 8) = pop a 8 + (pop b 8 + (pop c 8 + pop d 8)) := by
  have e1 := pop_byte (h := 256 * (256 * d + c) + b) (n := 24) ha
  have e2 := pop_byte (h := 256 * d + c) (n := 16) hb
  have e3 := pop_byte (h := d) (n := 8) hc
  rw [e1]
  rw [show pop (256 * (256 * d + c) + b) 24 = pop b 8 + pop (256 * d + c) 16 from e2]
  rw [show pop (256 * d + c) 16 = pop c 8 + pop d 8 from e3]
theorem digs {z : Nat} (hz : z < 4294967296) : ∃ a b c d, a < 256 ∧ b < 256 ∧ c < 256 ∧ d < 256 ∧ z = 256 * (256 * (256 * d + c) + b) + a := ⟨z % 256, z / 256 % 256, z / 65536 % 256, z / 16777216, by omega, by omega, by omega, by omega, by omega⟩
def c45 (z : Nat) : Nat := z + z / 256 + (z + z / 256) / 65536
theorem c45_e {a b c d : Nat} (ha : a ≤ 8) (hb : b ≤ 8) (hc : c ≤ 8) (hd : d ≤ 8) : c45 (256 * (256 * (256 * d + c) + b) + a) % 64 = a + (b + (c + d)) := by
  have q1 : (256 * (256 * (256 * d + c) + b) + a) / 256 = 65536 * d + 256 * c + b := by omega
  have q2 : (256 * (256 * (256 * d + c) + b) + a + (65536 * d + 256 * c + b)) / 65536 = 256 * d + (c + d) := by omega
  unfold c45
  rw [q1, q2]
  have e : 256 * (256 * (256 * d + c) + b) + a + (65536 * d + 256 * c + b) + (256 * d + (c + d)) = 64 * (262144 * d + 1024 * (c + d) + 4 * (b + c + d)) + (a + (b + (c + d))) := by omega
  rw [e, Nat.mul_add_mod]
  exact Nat.mod_eq_of_lt (by omega)
theorem nat_ok {z : Nat} (hz : z < 4294967296) : c1 1431655765 z < 4294967296 ∧ (z / 2) &&& 1431655765 ≤ z ∧ c2 858993459 (c1 1431655765 z) < 4294967296 ∧ c2 858993459 (c1 1431655765 z) + c2 858993459 (c1 1431655765 z) / 16 < 4294967296 ∧ c45 (c3 252645135 (c2 858993459 (c1 1431655765 z))) % 64 = pop z (24 + 8) ∧ c3 252645135 (c2 858993459 (c1 1431655765 z)) ≤ 134744072 := by
  obtain ⟨a, b, c, d, ha, hb, hc, hd, rfl⟩ := digs hz
  obtain ⟨a1, a2, a3, a4, a5⟩ := byte_ok a ha
  obtain ⟨b1, b2, b3, b4, b5⟩ := byte_ok b hb
  obtain ⟨e1, e2, e3, e4, e5⟩ := byte_ok c hc
  obtain ⟨d1, d2, d3, d4, d5⟩ := byte_ok d hd
  have k3 := c123 ha hb hc hd
  have x1 : c1 1431655765 (256 * (256 * (256 * d + c) + b) + a) = 256 * (256 * (256 * c1 85 d + c1 85 c) + c1 85 b) + c1 85 a := by
    rw [show 1431655765 = 256 * (256 * (256 * 85 + 85) + 85) + 85 by rfl, c1_s ha, c1_s hb, c1_s hc]
  have x2 : c2 858993459 (256 * (256 * (256 * c1 85 d + c1 85 c) + c1 85 b) + c1 85 a) = 256 * (256 * (256 * c12 d + c12 c) + c12 b) + c12 a := by
    rw [show 858993459 = 256 * (256 * (256 * 51 + 51) + 51) + 51 by rfl, c2_s a1, c2_s b1, c2_s e1]
    rfl
  have p32 := pop_32 (d := d) ha hb hc
  have al : ((256 * (256 * (256 * d + c) + b) + a) / 2) &&& 1431655765 ≤ (256 * (256 * (256 * d + c) + b) + a) / 2 := Nat.and_le_left
  rw [p32, k3]
  rw [x1, x2]
  generalize c1 85 a = ya at *
  generalize c1 85 b = yb at *
  generalize c1 85 c = yc at *
  generalize c1 85 d = yd at *
  generalize c12 a = za at *
  generalize c12 b = zb at *
  generalize c12 c = zc at *
  generalize c12 d = zd at *
  generalize pop a 8 = pa at *
  generalize pop b 8 = pb at *
  generalize pop c 8 = pc at *
  generalize pop d 8 = pd at *
  refine ⟨by omega, by omega, by omega, by omega, c45_e a5 b5 e5 d5, by omega⟩
def bcB (z : BitVec 32) : BitVec 32 :=
  let u := z - ((z >>> 1) &&& 1431655765#32)
  let v := (u &&& 858993459#32) + ((u >>> 2) &&& 858993459#32)
  let w := (v + (v >>> 4)) &&& 252645135#32
  let s := w + (w >>> 8)
  let t := s + (s >>> 16)
  t &&& 63#32
theorem bv_sh {z : BitVec 32} {n : Nat} : (z >>> n).toNat = z.toNat / 2 ^ n := by
  rw [BitVec.toNat_ushiftRight, Nat.shiftRight_eq_div_pow]
theorem bv_add {x y : BitVec 32} (h : x.toNat + y.toNat < 4294967296) : (x + y).toNat = x.toNat + y.toNat := by
  rw [BitVec.toNat_add]
  exact Nat.mod_eq_of_lt h
theorem bv_sub {x y : BitVec 32} (h : y.toNat ≤ x.toNat) : (x - y).toNat = x.toNat - y.toNat := BitVec.toNat_sub_of_le h
theorem bcB_ok (z : BitVec 32) : (bcB z).toNat = pop z.toNat (24 + 8) := by
  obtain ⟨k1, k2, k3, k4, k5, k6⟩ := nat_ok z.isLt
  have u1 : (z - ((z >>> 1) &&& 1431655765#32)).toNat = c1 1431655765 z.toNat := by
    rw [bv_sub (by rw [BitVec.toNat_and, bv_sh]; exact k2), BitVec.toNat_and, bv_sh]
    rfl
  unfold bcB
  generalize z - ((z >>> 1) &&& 1431655765#32) = u at u1 ⊢
  show (((((u &&& 858993459#32) + ((u >>> 2) &&& 858993459#32)) + (((u &&& 858993459#32) + ((u >>> 2) &&& 858993459#32)) >>> 4)) &&& 252645135#32) + (((((u &&& 858993459#32) + ((u >>> 2) &&& 858993459#32)) + (((u &&& 858993459#32) + ((u >>> 2) &&& 858993459#32)) >>> 4)) &&& 252645135#32) >>> 8) + ((((((u &&& 858993459#32) + ((u >>> 2) &&& 858993459#32)) + (((u &&& 858993459#32) + ((u >>> 2) &&& 858993459#32)) >>> 4)) &&& 252645135#32) + (((((u &&& 858993459#32) + ((u >>> 2) &&& 858993459#32)) + (((u &&& 858993459#32) + ((u >>> 2) &&& 858993459#32)) >>> 4)) &&& 252645135#32) >>> 8)) >>> 16) &&& 63#32).toNat = _
  have v1 : ((u &&& 858993459#32) + ((u >>> 2) &&& 858993459#32)).toNat = c2 858993459 u.toNat := by
    have e1 : (u &&& 858993459#32).toNat = u.toNat &&& 858993459 := BitVec.toNat_and ..
    have e2 : ((u >>> 2) &&& 858993459#32).toNat = (u.toNat / 4) &&& 858993459 := by
      rw [BitVec.toNat_and, bv_sh]
      rfl
    rw [bv_add, e1, e2]
    · rfl
    · rw [e1, e2]
      rw [u1]
      exact k3
  rw [u1] at v1
  generalize (u &&& 858993459#32) + ((u >>> 2) &&& 858993459#32) = v at v1 ⊢
  have w1 : ((v + (v >>> 4)) &&& 252645135#32).toNat = c3 252645135 v.toNat := by
    have e1 : (v >>> 4).toNat = v.toNat / 16 := bv_sh
    rw [BitVec.toNat_and, bv_add, e1]
    · rfl
    · rw [e1, v1]
      exact k4
  rw [v1] at w1
  generalize (v + (v >>> 4)) &&& 252645135#32 = w at w1 ⊢
  rw [← w1] at k5 k6
  have e1 : (w >>> 8).toNat = w.toNat / 256 := bv_sh
  have s1 : (w + (w >>> 8)).toNat = w.toNat + w.toNat / 256 := by
    rw [bv_add, e1]
    rw [e1]
    omega
  generalize w + (w >>> 8) = s at s1 ⊢
  have e2 : (s >>> 16).toNat = s.toNat / 65536 := bv_sh
  have t1 : (s + (s >>> 16)).toNat = c45 w.toNat := by
    rw [bv_add, e2, s1]
    · rfl
    · rw [e2, s1]
      omega
  rw [BitVec.toNat_and, t1, ← k5]
  exact Nat.and_two_pow_sub_one_eq_mod _ 6
theorem f256_e {F : Nat} {x : Int32} {σ : St} : f256 F x σ = oI (Int32.ofNat (cntB x 32)) σ := by
  have k := bcB_ok x.toBitVec
  rw [← cntB_pop (x := x)] at k
  have hle := cntB_le (x := x) 32
  have e : f256 F x σ = oI (Int32.ofBitVec (bcB x.toBitVec)) σ := rfl
  rw [e]
  congr 1
  rw [← Int32.toBitVec_inj]
  show bcB x.toBitVec = BitVec.ofNat 32 _
  apply BitVec.eq_of_toNat_eq
  rw [k, BitVec.toNat_ofNat]
  have : cntB x (24 + 8) ≤ 32 := hle
  exact (Nat.mod_eq_of_lt (by omega)).symm
