/-! the class's number of a stretch, and the reference's number of a text -/
section NUD
variable {F r f e : Nat} {σ : St} {L s : List Int32}
theorem neg64 (v : Int) : -(Int64.ofInt v) = Int64.ofInt (-v) := (Int64.ofInt_neg v).symm
theorem ifbJ {x : Bool} {A B : Rs} : (if b2i x = 0 then A else B) = if x = true then B else A := ifb
/-- the digits done: n of them from k on -/
theorem f100_98_e {n k : Nat} {m : Bool} {y5 : Int64} (hF : 5000 ≤ F) (hr : isRw r) (h : rowL σ r L) (hl : L.length ≤ capR r) (he : e ≤ L.length) (hf : f ≤ e) (hs : s = stre L f (e - f)) (hk : k + n ≤ e - f) (hn : n ≤ 10) (h9 : n ≤ 9 → y5 = Int64.ofInt (dgN s k n)) : f100_98 F r (Int32.ofNat e) (Int32.ofNat (f + (k + n))) (b2i m) y5 (Int32.ofNat n) σ = oJ (eC (if n < 1 then none else if 9 < n then none else if skp isBl s (k + n) < s.length then none else some (if m = true then -(dgN s k n : Int) else (dgN s k n : Int)))) σ := by
  have hc := capR_le r
  have sl : s.length = e - f := by rw [hs]; exact stre_len (by omega)
  have h2 := skp_le (f := isBl) (b := s) (p := k + n) (by omega)
  unfold f100_98
  by_cases c1 : n < 1
  · rw [if_pos (show Int32.ofNat n < 1 from (oN_lt (q := 1) (by omega) (by decide)).mpr c1), if_pos c1]
    rfl
  · rw [if_neg (show ¬ Int32.ofNat n < 1 from fun g => c1 ((oN_lt (q := 1) (by omega) (by decide)).mp g)), if_neg c1]
    by_cases c2 : 9 < n
    · rw [if_pos (show 9 < Int32.ofNat n from (oN_lt (p := 9) (by decide) (by omega)).mpr c2), if_pos c2]
      rfl
    · rw [if_neg (show ¬ 9 < Int32.ofNat n from fun g => c2 ((oN_lt (p := 9) (by decide) (by omega)).mp g)), if_neg c2, f93_r hF hr h hl he hf hk, ← hs, cIo, h9 (by omega)]
      by_cases c3 : skp isBl s (k + n) < s.length
      · rw [if_pos ((oN_lt (by omega) (by omega)).mpr (by omega)), if_pos c3]
        rfl
      · rw [if_neg (fun g => c3 (by have := (oN_lt (by omega) (by omega)).mp g; omega)), if_neg c3, ifbJ]
        cases m
        · rfl
        · rw [if_pos rfl, if_pos rfl, neg64]
          rfl
theorem f100_48_e {k : Nat} {m : Bool} (hF : 5000 ≤ F) (hr : isRw r) (h : rowL σ r L) (hl : L.length ≤ capR r) (he : e ≤ L.length) (hf : f ≤ e) (hs : s = stre L f (e - f)) (hk : k ≤ e - f) : ∀ (d j n : Nat) (y5 : Int64), n + d = 10 → k + n ≤ skp isDig s k → skp isDig s (k + n) = skp isDig s k → (n ≤ 9 → y5 = Int64.ofInt (dgN s k n)) → f100_48 F (j + d + 1) r (Int32.ofNat e) (Int32.ofNat (f + (k + n))) (b2i m) y5 (Int32.ofNat n) σ = oJ (eC (if skp isDig s k - k < 1 then none else if 9 < skp isDig s k - k then none else if skp isBl s (skp isDig s k) < s.length then none else some (if m = true then -(dgN s k (skp isDig s k - k) : Int) else (dgN s k (skp isDig s k - k) : Int)))) σ := by
  have hc := capR_le r
  have sl : s.length = e - f := by rw [hs]; exact stre_len (by omega)
  have hle := skp_le (f := isDig) (b := s) (p := k) (by omega)
  have stop : ∀ (n : Nat) (y5 : Int64), n ≤ 10 → k + n = skp isDig s k → (n ≤ 9 → y5 = Int64.ofInt (dgN s k n)) → f100_98 F r (Int32.ofNat e) (Int32.ofNat (f + (k + n))) (b2i m) y5 (Int32.ofNat n) σ = oJ (eC (if skp isDig s k - k < 1 then none else if 9 < skp isDig s k - k then none else if skp isBl s (skp isDig s k) < s.length then none else some (if m = true then -(dgN s k (skp isDig s k - k) : Int) else (dgN s k (skp isDig s k - k) : Int)))) σ := by
    intro n y5 hn hkn h9
    have := f100_98_e (F := F) (m := m) hF hr h hl he hf hs (k := k) (n := n) (by omega) hn h9
    rw [← hkn, show k + n - k = n by omega]
    exact this
  intro d
  induction d with
  | zero =>
    intro j n y5 hn hkn hsk h9
    have hn10 : n = 10 := by omega
    have fin : f100_98 F r (Int32.ofNat e) (Int32.ofNat (f + (k + n))) (b2i m) y5 (Int32.ofNat n) σ = oJ (eC (if skp isDig s k - k < 1 then none else if 9 < skp isDig s k - k then none else if skp isBl s (skp isDig s k) < s.length then none else some (if m = true then -(dgN s k (skp isDig s k - k) : Int) else (dgN s k (skp isDig s k - k) : Int)))) σ := by
      have := f100_98_e (F := F) (m := m) hF hr h hl he hf hs (k := k) (n := n) (y5 := y5) (by omega) (by omega) (fun g => by omega)
      rw [this, if_neg (by omega), if_pos (by omega), if_neg (by omega), if_pos (by omega)]
    rw [f100_48.eq_2]
    by_cases c : f + (k + n) < e
    · rw [if_pos ((oN_lt (by omega) (by omega)).mpr c), if_pos (show 9 < Int32.ofNat n from (oN_lt (p := 9) (by decide) (by omega)).mpr (by omega))]
      exact fin
    · rw [if_neg (fun g => c ((oN_lt (by omega) (by omega)).mp g))]
      exact fin
  | succ d ih =>
    intro j n y5 hn hkn hsk h9
    rw [show j + (d + 1) + 1 = (j + d + 1) + 1 by omega, f100_48.eq_2]
    by_cases c : f + (k + n) < e
    · rw [if_pos ((oN_lt (by omega) (by omega)).mpr c), if_neg (show ¬ 9 < Int32.ofNat n from fun g => by have := (oN_lt (p := 9) (by decide) (by omega)).mp g; omega), f92_r hr h hl (by omega), cIo, f23_e, cIo]
      have e1 : L.getD (f + (k + n)) 0 = s.getD (k + n) 0 := by rw [hs, stre_at (by omega)]
      rw [e1]
      rcases skp_cases (b := s) (p := k + n) isDig_0 with ⟨h1, h2, h3⟩ | ⟨h1, h2⟩
      · rw [h1, if_neg (show ¬ b2i true = 0 by decide), f92_r hr h hl (by omega), cIo, ltE, e1, h9 (by omega), dg_cls h1, oN_p1, oN_p1]
        have h4 := skp_ge (f := isDig) (b := s) (p := k + n + 1)
        have i2 := ih j (n + 1) (Int64.ofInt (dgN s k (n + 1))) (by omega) (by omega) (by rw [show k + (n + 1) = k + n + 1 by omega, ← h3]; exact hsk) (fun _ => rfl)
        rw [show f + (k + (n + 1)) = f + (k + n) + 1 by omega] at i2
        exact i2
      · rw [h1, if_pos b2i_f]
        exact stop n y5 (by omega) (by omega) h9
    · rw [if_neg (fun g => c ((oN_lt (by omega) (by omega)).mp g))]
      have : skp isDig s (k + n) = k + n := skp_f (fun g => by omega)
      exact stop n y5 (by omega) (by omega) h9
theorem f100_e (hF : 5000 ≤ F) (hr : isRw r) (h : rowL σ r L) (hl : L.length ≤ capR r) (he : e ≤ L.length) (hf : f ≤ e) : f100 F r (Int32.ofNat f) (Int32.ofNat e) σ = oJ (eC (numT (stre L f (e - f)))) σ := by
  have hc := capR_le r
  have sl : (stre L f (e - f)).length = e - f := stre_len (by omega)
  generalize hs : stre L f (e - f) = s at sl
  have key : ∀ (k : Nat) (m : Bool), k ≤ e - f → f100_48 F F r (Int32.ofNat e) (Int32.ofNat (f + k)) (b2i m) 0 0 σ = oJ (eC (if skp isDig s k - k < 1 then none else if 9 < skp isDig s k - k then none else if skp isBl s (skp isDig s k) < s.length then none else some (if m = true then -(dgN s k (skp isDig s k - k) : Int) else (dgN s k (skp isDig s k - k) : Int)))) σ := by
    intro k m hk
    have := f100_48_e (F := F) (m := m) hF hr h hl he hf hs.symm hk 10 (F - 11) 0 0 (by omega) skp_ge rfl (fun _ => rfl)
    rw [show F - 11 + 10 + 1 = F by omega] at this
    exact this
  have b1 := f93_r hF hr h hl he hf (p := 0) (by omega)
  rw [hs] at b1
  have b2 := skp_le (f := isBl) (b := s) (p := 0) (by omega)
  have e0 : skp isBl s 0 = nuB s := rfl
  rw [e0] at b1 b2
  unfold f100 f100_26 f100_27 f100_40
  rw [show f = f + 0 from rfl, b1, cIo]
  have t1 : numT s = if skp isDig s (nuK s) - nuK s < 1 then none else if 9 < skp isDig s (nuK s) - nuK s then none else if skp isBl s (skp isDig s (nuK s)) < s.length then none else some (if nuM s = true then -(dgN s (nuK s) (skp isDig s (nuK s) - nuK s) : Int) else (dgN s (nuK s) (skp isDig s (nuK s) - nuK s) : Int)) := rfl
  by_cases c : f + nuB s < e
  · rw [if_pos ((oN_lt (by omega) (by omega)).mpr c), f92_r hr h hl (by omega), cIo]
    have e1 : L.getD (f + nuB s) 0 = s.getD (nuB s) 0 := by
      have e2 := stre_at (l := L) (p := f) (n := e - f) (i := nuB s) (by omega)
      rw [hs] at e2
      exact e2.symm
    rw [e1]
    by_cases c2 : s.getD (nuB s) 0 = 45
    · have hm : nuM s = true := decide_eq_true c2
      have hk : nuK s = nuB s + 1 := by unfold nuK; rw [if_pos hm]
      rw [if_pos c2, if_neg (by decide), ltE, oN_p1, t1, hk, hm]
      exact key (nuB s + 1) true (by omega)
    · have hm : nuM s = false := decide_eq_false c2
      have hk : nuK s = nuB s := by unfold nuK; rw [if_neg (by rw [hm]; decide)]
      rw [if_neg c2, if_pos rfl, ltE, t1, hk, hm, show Int32.ofNat (f + nuB s) + 0 = Int32.ofNat (f + nuB s) from Int32.add_zero _]
      exact key (nuB s) false (by omega)
  · have g0 : s.getD (nuB s) 0 = 0 := getD_ge (by omega)
    have hm : nuM s = false := decide_eq_false (by rw [g0]; decide)
    have hk : nuK s = nuB s := by unfold nuK; rw [if_neg (by rw [hm]; decide)]
    rw [if_neg (fun g => c ((oN_lt (by omega) (by omega)).mp g)), if_pos rfl, ltE, t1, hk, hm, show Int32.ofNat (f + nuB s) + 0 = Int32.ofNat (f + nuB s) from Int32.add_zero _]
    exact key (nuB s) false (by omega)
end NUD
