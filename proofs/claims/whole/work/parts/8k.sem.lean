/-! WHAT A QUERY MEANS: values, comparisons, sums, steps, paths -/
abbrev Ev := Nat → Nat → Nat → Vl
abbrev Sm := Nat → Int32
def vN (o : Option Int) : Vl := (0, o, 0, [])
def vT (s : List Int32) : Vl := (1, none, 0, s)
def vB (b : Bool) : Vl := (2, some (if b = true then 1 else 0), 0, [])
def vS (x : Int32) : Vl := (3, none, x, [])
def tru (v : Vl) : Bool := if v.1 = 3 then !decide (v.2.2.1 = 0) else if v.1 = 1 then !decide (v.2.2.2 = []) else !decide (v.2.1 = some 0) && !decide (v.2.1 = none)
def lowS (x : Int32) : Nat → Nat → Option Nat
  | 0, _ => none
  | m + 1, j => if bt x j = true then some j else lowS x m (j + 1)
def numP (ns : List Nd) (o : Option Nat) : Option Int := match o with
  | none => none
  | some p => numT (sv ns p)
def nmV (ns : List Nd) (v : Vl) : Option Int := if v.1 = 1 then numT v.2.2.2 else if v.1 = 3 then numP ns (lowS v.2.2.1 ns.length 0) else v.2.1
def cmpV (ns : List Nd) (o : Nat) (v w : Vl) : Bool :=
  if 2 ≤ o then cmpN o (nmV ns v) (nmV ns w)
  else if v.1 = 2 ∨ w.1 = 2 then decide (decide (tru v = tru w) = decide (o = 0))
  else if v.1 = 0 ∨ w.1 = 0 then cmpN o (nmV ns v) (nmV ns w)
  else decide (decide (v.2.2.2 = w.2.2.2) = decide (o = 0))
def anyF (f : Nat → Bool) : Nat → Nat → Bool
  | _, 0 => false
  | j, m + 1 => f j || anyF f (j + 1) m
def memV (v : Vl) (p : Nat) : Bool := if v.1 = 3 then bt v.2.2.1 p else decide (p = 0)
def pikV (ns : List Nd) (v : Vl) (p : Nat) : Vl := if v.1 = 3 then vT (sv ns p) else v
def mixV (v w : Vl) : Prop := (v.1 = 2 ∧ w.1 = 3) ∨ (v.1 = 3 ∧ w.1 = 2)
def cmpS (ns : List Nd) (o : Nat) (v w : Vl) : Bool :=
  if (v.1 = 2 ∧ w.1 = 3) ∨ (v.1 = 3 ∧ w.1 = 2) then cmpV ns o (vB (tru v)) (vB (tru w))
  else anyF (fun p => memV v p && anyF (fun q => memV w q && cmpV ns o (pikV ns v p) (pikV ns w q)) 0 ns.length) 0 ns.length
def addO (s : Bool) (x y : Option Int) : Option Int := match x with
  | none => none
  | some v => match y with
    | none => none
    | some w => some (if s = true then v - w else v + w)
def sumO (ns : List Nd) (n p t : Nat) : List (Bool × Ev) → Option Int → Option Int
  | [], a => a
  | x :: l, a => sumO ns n p t l (addO x.1 a (nmV ns (x.2 n p t)))
def smM (ns : List Nd) (l : List (Bool × Ev)) : Ev := fun n p t => vN (sumO ns n p t l (some 0))
def cmM (ns : List Nd) (o : Nat) (e e2 : Ev) : Ev := fun n p t => vB (cmpS ns o (e n p t) (e2 n p t))
def ntM (e : Ev) : Ev := fun n p t => vB (!tru (e n p t))
def ctM (ns : List Nd) (m : Sm) : Ev := fun n _ _ => vN (some (cntB (m n) ns.length : Int))
def ptM (m : Sm) : Ev := fun n _ _ => vS (m n)
def keepV (v : Vl) (p : Nat) : Bool := if v.1 = 0 then decide (v.2.1 = some (p : Int)) else tru v
def rnk (n : Nat) (back : Bool) (x : Int32) (q : Nat) : Nat := if back = true then cntB x n - cntB x q else cntB x (q + 1)
def filt (n : Nat) (back : Bool) (x : Int32) (e : Ev) : Int32 := mkS (fun q => bt x q && keepV (e q (rnk n back x q) (cntB x n)) (rnk n back x q)) n
def bkA (a : Nat) : Bool := decide (a = 2 ∨ a = 3 ∨ a = 7 ∨ a = 9 ∨ a = 11)
def stpM (ns : List Nd) (b : List Int32) (a t f k : Nat) (es : List Ev) : Sm := fun p => es.foldl (filt ns.length (bkA a)) (mkS (fun q => onA ns a p q && psA ns b a t f k q) ns.length)
def uni (s : Sm) (x : Int32) : Nat → Int32
  | 0 => 0
  | n + 1 => if bt x n = true then uni s x n ||| s n else uni s x n
def pthF (n : Nat) (ss : List Sm) (x : Int32) : Int32 := ss.foldl (fun x s => uni s x n) x
def pthM (ns : List Nd) (r : Bool) (ss : List Sm) : Sm := fun p => pthF ns.length ss (one (if r = true then 0 else p))
/-- no bit from n on -/
def inN (n : Nat) (x : Int32) : Prop := ∀ j, n ≤ j → bt x j = false
theorem inN_mk {f : Nat → Bool} {n : Nat} (h : n ≤ 32) : inN n (mkS f n) := fun j hj => by
  rw [bt_mk n h, decide_eq_false (by omega)]
  rfl
theorem inN_o {n p : Nat} (hp : p < n) (hn : n ≤ 32) : inN n (one p) := fun j hj => by
  rw [bt_one (by omega), decide_eq_false (by omega)]
theorem inN_z {n : Nat} : inN n 0 := fun j _ => bt_0
theorem inN.or {n : Nat} {x y : Int32} (h : inN n x) (g : inN n y) : inN n (x ||| y) := fun j hj => by
  rw [bt_or, h j hj, g j hj]
  rfl
theorem inN_uni {n : Nat} {s : Sm} {x : Int32} : ∀ m, (∀ j, j < m → inN n (s j)) → inN n (uni s x m)
  | 0, _ => inN_z
  | m + 1, h => by
    unfold uni
    split
    · exact (inN_uni m (fun j hj => h j (by omega))).or (h m (by omega))
    · exact inN_uni m (fun j hj => h j (by omega))
theorem inN_filt {n : Nat} {k : Bool} {x : Int32} {e : Ev} (hn : n ≤ 32) : inN n (filt n k x e) := inN_mk hn
theorem inN_fold {n : Nat} {k : Bool} (hn : n ≤ 32) : ∀ (es : List Ev) (x : Int32), inN n x → inN n (es.foldl (filt n k) x)
  | [], _, h => h
  | _ :: es, _, _ => inN_fold hn es _ (inN_filt hn)
theorem inN_stp {ns : List Nd} {b : List Int32} {a t f k p : Nat} {es : List Ev} (hn : ns.length ≤ 32) : inN ns.length (stpM ns b a t f k es p) := inN_fold hn es _ (inN_mk hn)
theorem inN_pthF {n : Nat} : ∀ (ss : List Sm) (x : Int32), inN n x → (∀ s, s ∈ ss → ∀ j, j < n → inN n (s j)) → inN n (pthF n ss x)
  | [], _, h, _ => h
  | s :: ss, _, _, g => inN_pthF ss _ (inN_uni n (g s (List.mem_cons_self ..))) (fun t ht => g t (List.mem_cons_of_mem _ ht))
theorem cnt_in {n m : Nat} {x : Int32} (h : inN n x) (hm : n ≤ m) : cntB x m = cntB x n := by
  have := cntB_add (x := x) (n := n) (m - n) (fun j h1 _ => h j h1)
  rw [show n + (m - n) = m by omega] at this
  exact this
theorem cntB_mono {x : Int32} {n : Nat} : ∀ m, cntB x n ≤ cntB x (n + m)
  | 0 => Nat.le_refl _
  | m + 1 => by
    have := cntB_mono (x := x) (n := n) m
    show _ ≤ cntB x (n + m) + _
    omega
theorem set0 {n : Nat} {x : Int32} (h : inN n x) (hn : n ≤ 32) : x = 0 ↔ lowS x n 0 = none := by
  have key : ∀ m j, j + m = n → (lowS x m j = none ↔ ∀ i, j ≤ i → bt x i = false) := by
    intro m
    induction m with
    | zero =>
      intro j hj
      exact ⟨fun _ i hi => h i (by omega), fun _ => rfl⟩
    | succ m ih =>
      intro j hj
      unfold lowS
      by_cases c : bt x j = true
      · rw [if_pos c]
        exact ⟨fun g => absurd g (by simp), fun g => absurd (g j (Nat.le_refl _)) (by rw [c]; decide)⟩
      · rw [if_neg c, ih (j + 1) (by omega)]
        rw [Bool.not_eq_true] at c
        constructor
        · intro g i hi
          by_cases e : i = j
          · rw [e]
            exact c
          · exact g i (by omega)
        · exact fun g i hi => g i (by omega)
  rw [key n 0 (by omega)]
  constructor
  · intro g i _
    rw [g]
    exact bt_0
  · intro g
    exact bt_ext (fun j _ => by rw [g j (by omega), bt_0])
theorem lowS_lt {x : Int32} {p : Nat} : ∀ m j, lowS x m j = some p → j ≤ p ∧ p < j + m ∧ bt x p = true
  | 0, _, h => by cases h
  | m + 1, j, h => by
    unfold lowS at h
    by_cases c : bt x j = true
    · rw [if_pos c] at h
      injection h with h
      subst h
      exact ⟨Nat.le_refl _, by omega, c⟩
    · rw [if_neg c] at h
      obtain ⟨h1, h2, h3⟩ := lowS_lt m (j + 1) h
      exact ⟨by omega, by omega, h3⟩
/-- what a value is held to -/
def vOK (ns : List Nd) (v : Vl) : Prop := (v.1 = 0 ∧ nOk v.2.1) ∨ (v.1 = 1 ∧ okB v.2.2.2 ∧ v.2.2.2.length ≤ 5000) ∨ (v.1 = 2 ∧ (v.2.1 = some 0 ∨ v.2.1 = some 1)) ∨ (v.1 = 3 ∧ inN ns.length v.2.2.1)
theorem numT_n {s : List Int32} : nOk (numT s) := fun v h => by
  have := numT_ok v h
  omega
theorem numP_n {ns : List Nd} {o : Option Nat} : nOk (numP ns o) := by
  cases o with
  | none => exact fun v h => by cases h
  | some p => exact numT_n
theorem vOK.n {ns : List Nd} {v : Vl} (h : vOK ns v) : nOk (nmV ns v) := by
  unfold nmV
  rcases h with ⟨h, g⟩ | ⟨h, g⟩ | ⟨h, g⟩ | ⟨h, g⟩
  · rw [h, if_neg (by decide), if_neg (by decide)]
    exact g
  · rw [h, if_pos rfl]
    exact numT_n
  · rw [h, if_neg (by decide), if_neg (by decide)]
    rcases g with g | g <;> rw [g] <;> intro v hv <;> injection hv with hv <;> omega
  · rw [h, if_neg (by decide), if_pos rfl]
    exact numP_n
theorem vOK.b {ns : List Nd} {b : Bool} : vOK ns (vB b) := Or.inr (Or.inr (Or.inl ⟨rfl, by cases b <;> simp [vB]⟩))
theorem vOK.s {ns : List Nd} {x : Int32} (h : inN ns.length x) : vOK ns (vS x) := Or.inr (Or.inr (Or.inr ⟨rfl, h⟩))
theorem vOK.t {ns : List Nd} {s : List Int32} (h : okB s) (hl : s.length ≤ 5000) : vOK ns (vT s) := Or.inr (Or.inl ⟨rfl, h, hl⟩)
/-- neither a set: one comparison -/
theorem any_0 {f : Nat → Bool} {n : Nat} : ∀ m j, 0 < j → anyF (fun p => decide (p = 0) && f p) j m = false
  | 0, _, _ => rfl
  | m + 1, j, h => by
    unfold anyF
    rw [any_0 (f := f) (n := n) m (j + 1) (by omega), decide_eq_false (by omega)]
    rfl
theorem any_1 {f : Nat → Bool} {n : Nat} (hn : 0 < n) : anyF (fun p => decide (p = 0) && f p) 0 n = f 0 := by
  obtain ⟨m, rfl⟩ : ∃ m, n = m + 1 := ⟨n - 1, by omega⟩
  unfold anyF
  rw [any_0 (n := m) m 1 (by omega)]
  cases f 0 <;> rfl
theorem cmpS_n {ns : List Nd} {o : Nat} {v w : Vl} (hn : 0 < ns.length) (hv : ¬ v.1 = 3) (hw : ¬ w.1 = 3) : cmpS ns o v w = cmpV ns o v w := by
  unfold cmpS memV pikV
  rw [if_neg (by omega)]
  simp only [if_neg hv, if_neg hw]
  rw [any_1 (f := fun p => anyF (fun q => decide (q = 0) && cmpV ns o v w) 0 ns.length) hn, any_1 (f := fun q => cmpV ns o v w) hn]
