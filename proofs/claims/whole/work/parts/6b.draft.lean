theorem ltE {α : Type} {x : α} {kk : α → Rs} : lt x kk = kk x := rfl
/-! THE CLASS'S DRAFT: nodes (kind, level, name, own characters) -/
abbrev Nd : Type := Nat × Nat × List Int32 × List Int32
def wOf (x : Nd) : List Int32 := x.2.2.1 ++ (if x.1 = 3 then [] else x.2.2.2)
def tOf (x : Nd) : List Int32 := if x.1 = 3 then x.2.2.2 else []
def flW (ns : List Nd) : List Int32 := (ns.map wOf).flatten
def flT (ns : List Nd) : List Int32 := (ns.map tOf).flatten
theorem flW_snoc {ns : List Nd} {x : Nd} : flW (ns ++ [x]) = flW ns ++ wOf x := by simp [flW]
theorem flT_snoc {ns : List Nd} {x : Nd} : flT (ns ++ [x]) = flT ns ++ tOf x := by simp [flT]
def drf (σ : St) (ns : List Nd) (ws ts : List Int32) : Prop := σ.1 1016 10 = Int32.ofNat ns.length ∧ rowL σ 1027 ws ∧ rowL σ 1025 ts ∧ ∀ (i : Nat) (x : Nd), ns[i]? = some x → σ.1 1017 i = Int32.ofNat x.1 ∧ σ.1 1018 i = Int32.ofNat x.2.1 ∧ σ.1 1019 i = Int32.ofNat x.2.2.1.length ∧ σ.1 1020 i = Int32.ofNat x.2.2.2.length ∧ σ.1 1024 (i + 1) = Int32.ofNat (flW (ns.take (i + 1))).length
/-- nothing but the draft and the reader has changed -/
def agD (σ τ : St) : Prop := (∀ a, a < 1016 ∨ 1029 < a → τ.1 a = σ.1 a) ∧ τ.2 = σ.2
theorem agD.refl {σ : St} : agD σ σ := ⟨fun _ _ => rfl, rfl⟩
theorem agD.trans {σ τ υ : St} (h : agD σ τ) (g : agD τ υ) : agD σ υ := ⟨fun a ha => (g.1 a ha).trans (h.1 a ha), g.2.trans h.2⟩
theorem agD.uI {σ τ : St} {a j : Nat} {x : Int32} (h : agD σ τ) (ha : 1016 ≤ a ∧ a ≤ 1029) : agD σ (uI τ a j x) := ⟨fun b hb => by rw [u_ne (by omega)]; exact h.1 b hb, h.2⟩
theorem agD.buf {σ τ : St} {b : List Int32} (h : agD σ τ) (hB : bufC σ b) : bufC τ b := ⟨by rw [h.1 1001 (by decide)]; exact hB.1, fun j hj => by rw [h.1 1002 (by decide)]; exact hB.2 j hj⟩
theorem agD.rAdd {σ τ : St} {r n : Nat} {c : Int32} (h : agD σ τ) (hr : r = 1025 ∨ r = 1027) : agD σ (rAdd τ r n c) := ⟨fun b hb => by rw [rAdd_oth (by omega) (by omega)]; exact h.1 b hb, h.2⟩
theorem agD.rPut {σ τ : St} {r r2 p q n len : Nat} (h : agD σ τ) (hr : r = 1025 ∨ r = 1027) : agD σ (rPut τ r r2 p q n len) := ⟨fun b hb => by rw [rPut_oth (by omega) (by omega)]; exact h.1 b hb, h.2⟩
section DRF
variable {F : Nat} {σ : St} {ns : List Nd} {ws ts : List Int32}
/-- a change of the reader alone -/
theorem drf.rd {j : Nat} {x : Int32} (h : drf σ ns ws ts) : drf (uI σ 1029 j x) ns ws ts := by
  obtain ⟨h1, h2, h3, h4⟩ := h
  refine ⟨by rw [u_ne (by decide)]; exact h1, rowL_fr (u_ne (by decide)) (u_ne (by decide)) h2, rowL_fr (u_ne (by decide)) (u_ne (by decide)) h3, fun i x hx => ?_⟩
  rw [u_ne (by decide), u_ne (by decide), u_ne (by decide), u_ne (by decide), u_ne (by decide)]
  exact h4 i x hx
/-- characters added to the words, or to the texts -/
theorem drf.addW {c : Int32} (h : drf σ ns ws ts) : drf (rAdd σ 1027 ws.length c) ns (ws ++ [chN c]) ts := by
  obtain ⟨h1, h2, h3, h4⟩ := h
  refine ⟨by rw [rAdd_oth (by decide) (by decide)]; exact h1, rAdd_row h2, rowL_fr (rAdd_oth (by decide) (by decide)) (rAdd_oth (by decide) (by decide)) h3, fun i x hx => ?_⟩
  rw [rAdd_oth (by decide) (by decide), rAdd_oth (by decide) (by decide), rAdd_oth (by decide) (by decide), rAdd_oth (by decide) (by decide), rAdd_oth (by decide) (by decide)]
  exact h4 i x hx
theorem drf.addT {c : Int32} (h : drf σ ns ws ts) : drf (rAdd σ 1025 ts.length c) ns ws (ts ++ [chN c]) := by
  obtain ⟨h1, h2, h3, h4⟩ := h
  refine ⟨by rw [rAdd_oth (by decide) (by decide)]; exact h1, rowL_fr (rAdd_oth (by decide) (by decide)) (rAdd_oth (by decide) (by decide)) h2, rAdd_row h3, fun i x hx => ?_⟩
  rw [rAdd_oth (by decide) (by decide), rAdd_oth (by decide) (by decide), rAdd_oth (by decide) (by decide), rAdd_oth (by decide) (by decide), rAdd_oth (by decide) (by decide)]
  exact h4 i x hx
/-- a stretch of the buffer put behind the words -/
theorem drf.putW {q n : Nat} {b : List Int32} (h : drf σ ns ws ts) (hB : bufC σ b) (hq : q + n ≤ b.length) : drf (rPut σ 1027 1001 ws.length q n ws.length) ns (ws ++ (b.drop q).take n) ts := by
  obtain ⟨h1, h2, h3, h4⟩ := h
  have k := rPut_row (r := 1027) (r2 := 1001) (p := ws.length) (q := q) (n := n) (l2 := b) (by decide) h2 (rowL_buf.mpr hB) (Nat.le_refl _) hq
  rw [List.take_length, List.drop_length, List.append_nil] at k
  refine ⟨by rw [rPut_oth (by decide) (by decide)]; exact h1, k, rowL_fr (rPut_oth (by decide) (by decide)) (rPut_oth (by decide) (by decide)) h3, fun i x hx => ?_⟩
  rw [rPut_oth (by decide) (by decide), rPut_oth (by decide) (by decide), rPut_oth (by decide) (by decide), rPut_oth (by decide) (by decide), rPut_oth (by decide) (by decide)]
  exact h4 i x hx
def dAdd (σ : St) (n k lv nl ol tl wl : Nat) : St := uI (uI (uI (uI (uI (uI (uI σ 1017 n (Int32.ofNat k)) 1018 n (Int32.ofNat lv)) 1019 n (Int32.ofNat nl)) 1020 n (Int32.ofNat ol)) 1016 10 (Int32.ofNat (n + 1))) 1023 (n + 1) (Int32.ofNat tl)) 1024 (n + 1) (Int32.ofNat wl)
theorem f124_e {n k lv nl ol tl wl : Nat} (h1 : σ.1 1016 10 = Int32.ofNat n) (hn : n < 30) (h2 : σ.1 1025 1 = Int32.ofNat tl) (h3 : σ.1 1027 1 = Int32.ofNat wl) : f124 F 1016 (Int32.ofNat k) (Int32.ofNat lv) (Int32.ofNat nl) (Int32.ofNat ol) σ = oV (dAdd σ n k lv nl ol tl wl) := by
  have r0 : rfF 1016 0 = 1017 := by decide +kernel
  have r1 : rfF 1016 1 = 1018 := by decide +kernel
  have r2 : rfF 1016 2 = 1019 := by decide +kernel
  have r3 : rfF 1016 3 = 1020 := by decide +kernel
  have r6 : rfF 1016 6 = 1023 := by decide +kernel
  have r7 : rfF 1016 7 = 1024 := by decide +kernel
  have r8 : rfF 1016 8 = 1025 := by decide +kernel
  have r9 : rfF 1016 9 = 1027 := by decide +kernel
  have q1 := oN_n (show n < 2147483648 by omega)
  have q2 := oN_n (show n + 1 < 2147483648 by omega)
  have i1 : inB (Int32.ofNat n) 30 := oN_rg hn (by decide)
  have i2 : inB (Int32.ofNat (n + 1)) 31 := oN_rg (by omega) (by decide)
  have hlt : Int32.ofNat n < 30 := (oN_lt (q := 30) (by omega) (by decide)).mpr hn
  unfold f124
  rw [ltE, h1, if_pos hlt, ltE, if_pos i1, ltE, q1, r0]
  unfold dAdd
  generalize e3 : uI σ 1017 n (Int32.ofNat k) = σ3
  have c3 : σ3.1 1016 10 = Int32.ofNat n := by rw [← e3, u_ne (by decide)]; exact h1
  rw [ltE, c3, if_pos i1, ltE, q1, r1]
  generalize e5 : uI σ3 1018 n (Int32.ofNat lv) = σ5
  have c5 : σ5.1 1016 10 = Int32.ofNat n := by rw [← e5, u_ne (by decide)]; exact c3
  rw [ltE, c5, if_pos i1, ltE, q1, r2]
  generalize e7 : uI σ5 1019 n (Int32.ofNat nl) = σ7
  have c7 : σ7.1 1016 10 = Int32.ofNat n := by rw [← e7, u_ne (by decide)]; exact c5
  rw [ltE, c7, if_pos i1, ltE, q1, r3]
  generalize e9 : uI σ7 1020 n (Int32.ofNat ol) = σ9
  have c9 : σ9.1 1016 10 = Int32.ofNat n := by rw [← e9, u_ne (by decide)]; exact c7
  have t9 : σ9.1 1025 1 = Int32.ofNat tl := by rw [← e9, u_ne (by decide), ← e7, u_ne (by decide), ← e5, u_ne (by decide), ← e3, u_ne (by decide)]; exact h2
  have w9 : σ9.1 1027 1 = Int32.ofNat wl := by rw [← e9, u_ne (by decide), ← e7, u_ne (by decide), ← e5, u_ne (by decide), ← e3, u_ne (by decide)]; exact h3
  rw [ltE, c9, oN_p1, ltE]
  generalize e11 : uI σ9 1016 10 (Int32.ofNat (n + 1)) = σ11
  have c11 : σ11.1 1016 10 = Int32.ofNat (n + 1) := by rw [← e11, u_eq]
  have t11 : σ11.1 1025 1 = Int32.ofNat tl := by rw [← e11, u_ne (by decide)]; exact t9
  have w11 : σ11.1 1027 1 = Int32.ofNat wl := by rw [← e11, u_ne (by decide)]; exact w9
  rw [ltE, c11, ltE, r8, t11, if_pos i2, ltE, q2, r6]
  generalize e14 : uI σ11 1023 (n + 1) (Int32.ofNat tl) = σ14
  have c14 : σ14.1 1016 10 = Int32.ofNat (n + 1) := by rw [← e14, u_ne (by decide)]; exact c11
  have w14 : σ14.1 1027 1 = Int32.ofNat wl := by rw [← e14, u_ne (by decide)]; exact w11
  rw [ltE, c14, ltE, r9, w14, if_pos i2, ltE, q2, r7]
/-- a node added whose characters stand in the rows already -/
theorem drf.add {x : Nd} (h : drf σ ns ws ts) (hw : ws = flW (ns ++ [x])) : drf (dAdd σ ns.length x.1 x.2.1 x.2.2.1.length x.2.2.2.length ts.length ws.length) (ns ++ [x]) ws ts := by
  obtain ⟨h1, h2, h3, h4⟩ := h
  unfold dAdd
  refine ⟨?_, ?_, ?_, fun i y hy => ?_⟩
  · rw [u_ne (by decide), u_ne (by decide), u_eq, List.length_append]
    rfl
  · refine rowL_fr ?_ ?_ h2
    · rw [u_ne (by decide), u_ne (by decide), u_ne (by decide), u_ne (by decide), u_ne (by decide), u_ne (by decide), u_ne (by decide)]
    · rw [u_ne (by decide), u_ne (by decide), u_ne (by decide), u_ne (by decide), u_ne (by decide), u_ne (by decide), u_ne (by decide)]
  · refine rowL_fr ?_ ?_ h3
    · rw [u_ne (by decide), u_ne (by decide), u_ne (by decide), u_ne (by decide), u_ne (by decide), u_ne (by decide), u_ne (by decide)]
    · rw [u_ne (by decide), u_ne (by decide), u_ne (by decide), u_ne (by decide), u_ne (by decide), u_ne (by decide), u_ne (by decide)]
  · have k1 : ∀ σ : St, (uI (uI (uI (uI (uI (uI (uI σ 1017 ns.length (Int32.ofNat x.1)) 1018 ns.length (Int32.ofNat x.2.1)) 1019 ns.length (Int32.ofNat x.2.2.1.length)) 1020 ns.length (Int32.ofNat x.2.2.2.length)) 1016 10 (Int32.ofNat (ns.length + 1))) 1023 (ns.length + 1) (Int32.ofNat ts.length)) 1024 (ns.length + 1) (Int32.ofNat ws.length)).1 1017 i = if i = ns.length then Int32.ofNat x.1 else σ.1 1017 i := fun σ => by
      rw [u_ne (by decide), u_ne (by decide), u_ne (by decide), u_ne (by decide), u_ne (by decide), u_ne (by decide), u_at]
    have k2 : ∀ σ : St, (uI (uI (uI (uI (uI (uI (uI σ 1017 ns.length (Int32.ofNat x.1)) 1018 ns.length (Int32.ofNat x.2.1)) 1019 ns.length (Int32.ofNat x.2.2.1.length)) 1020 ns.length (Int32.ofNat x.2.2.2.length)) 1016 10 (Int32.ofNat (ns.length + 1))) 1023 (ns.length + 1) (Int32.ofNat ts.length)) 1024 (ns.length + 1) (Int32.ofNat ws.length)).1 1018 i = if i = ns.length then Int32.ofNat x.2.1 else σ.1 1018 i := fun σ => by
      rw [u_ne (by decide), u_ne (by decide), u_ne (by decide), u_ne (by decide), u_ne (by decide), u_at, u_ne (by decide)]
    have k3 : ∀ σ : St, (uI (uI (uI (uI (uI (uI (uI σ 1017 ns.length (Int32.ofNat x.1)) 1018 ns.length (Int32.ofNat x.2.1)) 1019 ns.length (Int32.ofNat x.2.2.1.length)) 1020 ns.length (Int32.ofNat x.2.2.2.length)) 1016 10 (Int32.ofNat (ns.length + 1))) 1023 (ns.length + 1) (Int32.ofNat ts.length)) 1024 (ns.length + 1) (Int32.ofNat ws.length)).1 1019 i = if i = ns.length then Int32.ofNat x.2.2.1.length else σ.1 1019 i := fun σ => by
      rw [u_ne (by decide), u_ne (by decide), u_ne (by decide), u_ne (by decide), u_at, u_ne (by decide), u_ne (by decide)]
    have k4 : ∀ σ : St, (uI (uI (uI (uI (uI (uI (uI σ 1017 ns.length (Int32.ofNat x.1)) 1018 ns.length (Int32.ofNat x.2.1)) 1019 ns.length (Int32.ofNat x.2.2.1.length)) 1020 ns.length (Int32.ofNat x.2.2.2.length)) 1016 10 (Int32.ofNat (ns.length + 1))) 1023 (ns.length + 1) (Int32.ofNat ts.length)) 1024 (ns.length + 1) (Int32.ofNat ws.length)).1 1020 i = if i = ns.length then Int32.ofNat x.2.2.2.length else σ.1 1020 i := fun σ => by
      rw [u_ne (by decide), u_ne (by decide), u_ne (by decide), u_at, u_ne (by decide), u_ne (by decide), u_ne (by decide)]
    have k5 : ∀ σ : St, (uI (uI (uI (uI (uI (uI (uI σ 1017 ns.length (Int32.ofNat x.1)) 1018 ns.length (Int32.ofNat x.2.1)) 1019 ns.length (Int32.ofNat x.2.2.1.length)) 1020 ns.length (Int32.ofNat x.2.2.2.length)) 1016 10 (Int32.ofNat (ns.length + 1))) 1023 (ns.length + 1) (Int32.ofNat ts.length)) 1024 (ns.length + 1) (Int32.ofNat ws.length)).1 1024 (i + 1) = if i + 1 = ns.length + 1 then Int32.ofNat ws.length else σ.1 1024 (i + 1) := fun σ => by
      rw [u_at, u_ne (by decide), u_ne (by decide), u_ne (by decide), u_ne (by decide), u_ne (by decide), u_ne (by decide)]
    rw [k1, k2, k3, k4, k5]
    by_cases hi : i = ns.length
    · subst hi
      rw [List.getElem?_append_right (Nat.le_refl _), Nat.sub_self] at hy
      cases hy
      rw [if_pos rfl, if_pos rfl, if_pos rfl, if_pos rfl, if_pos rfl, hw, List.take_of_length_le (by rw [List.length_append]; exact Nat.le_refl _)]
      exact ⟨rfl, rfl, rfl, rfl, rfl⟩
    · have hl : i < ns.length := by
        have h5 := (List.getElem?_eq_some_iff.mp hy).1
        rw [List.length_append, List.length_cons, List.length_nil] at h5
        omega
      rw [List.getElem?_append_left hl] at hy
      rw [if_neg hi, if_neg hi, if_neg hi, if_neg hi, if_neg (by omega), List.take_append_of_le_length (by omega)]
      exact h4 i y hy
end DRF
