/-! A PREDICATE GOES THROUGH A SET, forward or backward: what both loops keep -/
def qAt (n : Nat) (k : Bool) (i : Nat) : Nat := if k = true then n - 1 - i else i
def pAt (n : Nat) (k : Bool) (x : Int32) (i : Nat) : Nat := if k = true then cntB x n - cntB x (n - i) else cntB x i
def dAt (n : Nat) (k : Bool) (i j : Nat) : Bool := if k = true then decide (n - i ≤ j ∧ j < n) else decide (j < i)
def fmb (n : Nat) (k : Bool) (x : Int32) (e : Ev) (j : Nat) : Bool := bt x j && keepV (e j (rnk n k x j) (cntB x n)) (rnk n k x j)
def fIv (n : Nat) (k : Bool) (x : Int32) (e : Ev) (i : Nat) (left : Int32) : Prop := ∀ j, bt left j = (dAt n k i j && fmb n k x e j)
section RNK
variable {n i : Nat} {k : Bool} {x left : Int32} {e : Ev}
theorem cnt_le_n (h : i ≤ n) : cntB x i ≤ cntB x n := by
  have := cntB_mono (x := x) (n := i) (n - i)
  rw [show i + (n - i) = n by omega] at this
  exact this
theorem qAt_lt (h : i < n) : qAt n k i < n := by
  unfold qAt
  split <;> omega
theorem pAt_0 : pAt n k x 0 = 0 := by
  unfold pAt
  split
  · exact Nat.sub_self _
  · rfl
theorem pAt_s (h : i < n) : pAt n k x (i + 1) = pAt n k x i + (if bt x (qAt n k i) = true then 1 else 0) := by
  unfold pAt qAt
  cases k with
  | true =>
    rw [if_pos rfl, if_pos rfl, if_pos rfl]
    have e1 : cntB x (n - i) = cntB x (n - 1 - i) + (if bt x (n - 1 - i) = true then 1 else 0) := by
      obtain ⟨m, hm⟩ : ∃ m, n - i = m + 1 := ⟨n - i - 1, by omega⟩
      rw [hm, show n - 1 - i = m by omega]
      rfl
    have e2 : n - (i + 1) = n - 1 - i := by omega
    have e3 := cnt_le_n (x := x) (show n - i ≤ n by omega)
    rw [e2]
    split at e1 <;> split <;> first | omega | contradiction
  | false => rfl
theorem pAt_le (h : i ≤ n) : pAt n k x i ≤ cntB x n := by
  unfold pAt
  split
  · omega
  · exact cnt_le_n h
theorem rnk_q (h : i < n) (hb : bt x (qAt n k i) = true) : rnk n k x (qAt n k i) = pAt n k x i + 1 := by
  have h1 := pAt_s (k := k) (x := x) h
  rw [if_pos hb] at h1
  rw [← h1]
  unfold rnk pAt qAt
  cases k with
  | true =>
    rw [if_pos rfl, if_pos rfl, if_pos rfl, show n - (i + 1) = n - 1 - i by omega]
  | false =>
    rw [if_neg (by decide), if_neg (by decide), if_neg (by decide)]
theorem dAt_s (h : i < n) (j : Nat) : dAt n k (i + 1) j = (dAt n k i j || decide (j = qAt n k i)) := by
  unfold dAt qAt
  cases k with
  | true =>
    rw [if_pos rfl, if_pos rfl, if_pos rfl, ← Bool.decide_or]
    exact decide_eq_decide.mpr (by omega)
  | false =>
    rw [if_neg (by decide), if_neg (by decide), if_neg (by decide), ← Bool.decide_or]
    exact decide_eq_decide.mpr (by omega)
theorem fIv_0 : fIv n k x e 0 0 := by
  intro j
  have h : dAt n k 0 j = false := by
    unfold dAt
    split
    · exact decide_eq_false (by omega)
    · exact decide_eq_false (by omega)
  rw [bt_0, h]
  rfl
theorem fIv_no (h : i < n) (hI : fIv n k x e i left) (hf : fmb n k x e (qAt n k i) = false) : fIv n k x e (i + 1) left := by
  intro j
  rw [hI j, dAt_s h]
  by_cases c : j = qAt n k i
  · rw [c, hf, Bool.and_false, Bool.and_false]
  · rw [decide_eq_false c, Bool.or_false]
theorem fIv_yes (h : i < n) (hn : n ≤ 32) (hI : fIv n k x e i left) (hf : fmb n k x e (qAt n k i) = true) : fIv n k x e (i + 1) (left ||| one (qAt n k i)) := by
  intro j
  have hq := qAt_lt (k := k) h
  rw [bt_or, bt_one (by omega), hI j, dAt_s h]
  by_cases c : j = qAt n k i
  · rw [c, hf, decide_eq_true rfl, Bool.or_true, Bool.or_true]
    rfl
  · rw [decide_eq_false c, Bool.or_false, Bool.or_false]
theorem fIv_end (hn : n ≤ 32) (hI : fIv n k x e n left) : left = filt n k x e := by
  refine bt_ext (fun j hj => ?_)
  unfold filt
  rw [hI j, bt_mk n hn]
  have h : dAt n k n j = decide (j < n) := by
    unfold dAt
    split
    · exact decide_eq_decide.mpr (by omega)
    · rfl
  rw [h]
  rfl
theorem qAt_i (h : i < n) (hn : n ≤ 30) : (if b2i k = 0 then Int32.ofNat i else (Int32.ofNat n - 1) - Int32.ofNat i) = Int32.ofNat (qAt n k i) := by
  unfold qAt
  cases k with
  | true =>
    rw [if_neg (show ¬ b2i true = 0 by decide), if_pos rfl, show (1 : Int32) = Int32.ofNat 1 from rfl, oN_sb (by omega), oN_sb (by omega)]
  | false => rfl
end RNK
