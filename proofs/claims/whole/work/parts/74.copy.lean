/-! NODES COPIED IN THE CLASS'S TREE -/
section NDL
variable {a b l : List Nd} {j n : Nat}
theorem ndApp : nd (a ++ b) j = if j < a.length then nd a j else nd b (j - a.length) := by
  unfold nd
  rw [List.getD_eq_getElem?_getD, List.getD_eq_getElem?_getD, List.getD_eq_getElem?_getD, List.getElem?_append]
  split <;> rfl
theorem ndTake : nd (l.take n) j = if j < n then nd l j else doc0 := by
  unfold nd
  rw [List.getD_eq_getElem?_getD, List.getD_eq_getElem?_getD, List.getElem?_take]
  split <;> rfl
theorem ndDrop : nd (l.drop n) j = nd l (n + j) := by
  unfold nd
  rw [List.getD_eq_getElem?_getD, List.getD_eq_getElem?_getD, List.getElem?_drop]
end NDL
def insL (ns : List Nd) (a : Nat) (m : List Nd) : List Nd := ns.take a ++ m ++ ns.drop a
def delL (ns : List Nd) (p n : Nat) : List Nd := ns.take p ++ ns.drop (p + n)
section IDL
variable {ns m : List Nd} {a p n j : Nat}
theorem nd_ins (ha : a ≤ ns.length) : nd (insL ns a m) j = if j < a then nd ns j else if j < a + m.length then nd m (j - a) else nd ns (j - m.length) := by
  have w1 : (ns.take a).length = a := by rw [List.length_take]; omega
  unfold insL
  rw [ndApp, ndApp, List.length_append, w1, ndTake, ndDrop]
  by_cases c1 : j < a
  · rw [if_pos (by omega), if_pos c1, if_pos c1, if_pos c1]
  · by_cases c2 : j < a + m.length
    · rw [if_pos c2, if_neg c1, if_neg c1, if_pos c2]
    · rw [if_neg c2, if_neg c1, if_neg c2, show a + (j - (a + m.length)) = j - m.length by omega]
theorem ins_len (ha : a ≤ ns.length) : (insL ns a m).length = ns.length + m.length := by
  unfold insL
  rw [List.length_append, List.length_append, List.length_take, List.length_drop]
  omega
theorem nd_del (hp : p ≤ ns.length) : nd (delL ns p n) j = if j < p then nd ns j else nd ns (j + n) := by
  have w1 : (ns.take p).length = p := by rw [List.length_take]; omega
  unfold delL
  rw [ndApp, w1, ndTake, ndDrop]
  by_cases c1 : j < p
  · rw [if_pos c1, if_pos c1, if_pos c1]
  · rw [if_neg c1, if_neg c1, show p + n + (j - p) = j + n by omega]
theorem del_len (hp : p + n ≤ ns.length) : (delL ns p n).length = ns.length - n := by
  unfold delL
  rw [List.length_append, List.length_take, List.length_drop]
  omega
theorem flT_app {c d : List Nd} : flT (c ++ d) = flT c ++ flT d := by
  unfold flT
  rw [List.map_append, List.flatten_append]
theorem flW_tk : (flW ns).take (wF ns a) = flW (ns.take a) ∧ (flW ns).drop (wF ns a) = flW (ns.drop a) := by
  have e : flW ns = flW (ns.take a) ++ flW (ns.drop a) := by rw [← flW_app, List.take_append_drop]
  unfold wF
  constructor
  · conv => lhs; rw [e]
    exact List.take_left
  · conv => lhs; rw [e]
    exact List.drop_left
theorem flT_tk : (flT ns).take (tF ns a) = flT (ns.take a) ∧ (flT ns).drop (tF ns a) = flT (ns.drop a) := by
  have e : flT ns = flT (ns.take a) ++ flT (ns.drop a) := by rw [← flT_app, List.take_append_drop]
  unfold tF
  constructor
  · conv => lhs; rw [e]
    exact List.take_left
  · conv => lhs; rw [e]
    exact List.drop_left
end IDL
/-- nothing but the tree's cells has changed -/
def agC (σ τ : St) : Prop := (∀ a, a < 1003 ∨ 1015 < a → τ.1 a = σ.1 a) ∧ τ.2 = σ.2
theorem agC.refl {σ : St} : agC σ σ := ⟨fun _ _ => rfl, rfl⟩
theorem agC.trans {σ τ υ : St} (h : agC σ τ) (g : agC τ υ) : agC σ υ := ⟨fun a ha => (g.1 a ha).trans (h.1 a ha), g.2.trans h.2⟩
theorem agC.uI {σ τ : St} {a j : Nat} {x : Int32} (h : agC σ τ) (ha : 1003 ≤ a ∧ a ≤ 1015) : agC σ (uI τ a j x) := ⟨fun c hc => by rw [u_ne (by omega)]; exact h.1 c hc, h.2⟩
theorem agT.c {σ τ : St} (h : agT σ τ) : agC σ τ := ⟨fun a ha => h.1 a (by omega), h.2⟩
theorem agC.rPut {σ τ : St} {r r2 p q n len : Nat} (h : agC σ τ) (hr : r = 1012 ∨ r = 1014) : agC σ (rPut τ r r2 p q n len) := ⟨fun c hc => by rw [rPut_oth (by omega) (by omega)]; exact h.1 c hc, by rw [rPut_2]; exact h.2⟩
theorem agC.rCut {σ τ : St} {r p n len : Nat} (h : agC σ τ) (hr : r = 1012 ∨ r = 1014) : agC σ (rCut τ r p n len) := ⟨fun c hc => by rw [rCut_oth (by omega) (by omega)]; exact h.1 c hc, by rw [rCut_2]; exact h.2⟩
def cpN (σ : St) (x f t n : Nat) : St := uF (uF (uF (uF σ 1004 (va_cpy (σ.1 (x + 1)) (σ.1 1004) f t n)) 1005 (va_cpy (σ.1 (x + 2)) (σ.1 1005) f t n)) 1006 (va_cpy (σ.1 (x + 3)) (σ.1 1006) f t n)) 1007 (va_cpy (σ.1 (x + 4)) (σ.1 1007) f t n)
theorem rfD : rfF 1016 0 = 1017 ∧ rfF 1016 1 = 1018 ∧ rfF 1016 2 = 1019 ∧ rfF 1016 3 = 1020 ∧ rfF 1016 8 = 1025 ∧ rfF 1016 9 = 1027 := by decide +kernel
section CPN
variable {F x f t n j : Nat} {σ : St} {y : Nd}
theorem f139_e (hx : x = 1003 ∨ x = 1016) (hf : f + n ≤ 30) (ht : t + n ≤ 30) : f139 F 1003 x (Int32.ofNat f) (Int32.ofNat t) (Int32.ofNat n) σ = oV (cpN σ x f t n) := by
  have q1 := oN_n (show f < 2147483648 by omega)
  have q2 := oN_n (show t < 2147483648 by omega)
  have q3 := oN_n (show n < 2147483648 by omega)
  have z1 := oN_nn (show f < 2147483648 by omega)
  have z2 := oN_nn (show t < 2147483648 by omega)
  have z3 := oN_nn (show n < 2147483648 by omega)
  have c : cpB (Int32.ofNat f) (Int32.ofNat t) (Int32.ofNat n) 30 30 := ⟨fun hh => hh.elim z1 (fun hh => hh.elim z2 z3), by omega, by omega⟩
  unfold f139 cpN
  rw [if_pos c, ltE, if_pos c, ltE, if_pos c, ltE, if_pos c, ltE, q1, q2, q3, rfT.1, rfT.2.1, rfT.2.2.1, rfT.2.2.2.1]
  rcases hx with rfl | rfl
  · rw [rfT.1, rfT.2.1, rfT.2.2.1, rfT.2.2.2.1]
    repeat rw [uF_ne (by decide)]
    all_goals rfl
  · rw [rfD.1, rfD.2.1, rfD.2.2.1, rfD.2.2.2.1]
    repeat rw [uF_ne (by decide)]
    all_goals rfl
theorem cpN_oth {a : Nat} (h : a < 1004 ∨ 1007 < a) : (cpN σ x f t n).1 a = σ.1 a := by
  unfold cpN
  rw [uF_ne (by omega), uF_ne (by omega), uF_ne (by omega), uF_ne (by omega)]
theorem cpN_2 : (cpN σ x f t n).2 = σ.2 := rfl
theorem agC.cpN {τ : St} (h : agC σ τ) : agC σ (cpN τ x f t n) := ⟨fun c hc => by rw [cpN_oth (by omega)]; exact h.1 c hc, by rw [cpN_2]; exact h.2⟩
def nD (σ : St) (x i : Nat) (y : Nd) : Prop := σ.1 (x + 1) i = Int32.ofNat y.1 ∧ σ.1 (x + 2) i = Int32.ofNat y.2.1 ∧ σ.1 (x + 3) i = Int32.ofNat y.2.2.1.length ∧ σ.1 (x + 4) i = Int32.ofNat y.2.2.2.length
theorem cpN_all : (cpN σ x f t n).1 1004 = va_cpy (σ.1 (x + 1)) (σ.1 1004) f t n ∧ (cpN σ x f t n).1 1005 = va_cpy (σ.1 (x + 2)) (σ.1 1005) f t n ∧ (cpN σ x f t n).1 1006 = va_cpy (σ.1 (x + 3)) (σ.1 1006) f t n ∧ (cpN σ x f t n).1 1007 = va_cpy (σ.1 (x + 4)) (σ.1 1007) f t n := by
  unfold cpN
  refine ⟨?_, ?_, ?_, ?_⟩
  · rw [uF_ne (by decide), uF_ne (by decide), uF_ne (by decide), uF_eq]
  · rw [uF_ne (by decide), uF_ne (by decide), uF_eq]
  · rw [uF_ne (by decide), uF_eq]
  · rw [uF_eq]
theorem cpN_in (h1 : t ≤ j) (h2 : j < t + n) (h : nD σ x (f + (j - t)) y) : nD (cpN σ x f t n) 1003 j y := by
  have k := cpN_all (σ := σ) (x := x) (f := f) (t := t) (n := n)
  unfold nD at h ⊢
  rw [show 1003 + 1 = 1004 from rfl, show 1003 + 2 = 1005 from rfl, show 1003 + 3 = 1006 from rfl, show 1003 + 4 = 1007 from rfl, k.1, k.2.1, k.2.2.1, k.2.2.2]
  unfold va_cpy
  rw [if_pos ⟨h1, h2⟩, if_pos ⟨h1, h2⟩, if_pos ⟨h1, h2⟩, if_pos ⟨h1, h2⟩]
  exact h
theorem cpN_out (h1 : ¬ (t ≤ j ∧ j < t + n)) (h : nD σ 1003 j y) : nD (cpN σ x f t n) 1003 j y := by
  have k := cpN_all (σ := σ) (x := x) (f := f) (t := t) (n := n)
  unfold nD at h ⊢
  rw [show 1003 + 1 = 1004 from rfl, show 1003 + 2 = 1005 from rfl, show 1003 + 3 = 1006 from rfl, show 1003 + 4 = 1007 from rfl, k.1, k.2.1, k.2.2.1, k.2.2.2]
  unfold va_cpy
  rw [if_neg h1, if_neg h1, if_neg h1, if_neg h1]
  exact h
end CPN
