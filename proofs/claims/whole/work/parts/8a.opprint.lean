/-! THE CALL print -/
section OPR
variable {F c : Nat} {x : Int32} {σ : St} {b : List Int32} {ns : List Nd}
theorem escL_len {k : Nat} : ∀ l : List Int32, (escL k l).length ≤ 6 * l.length
  | [] => Nat.le_refl _
  | a :: l => by
    have i := escL_len (k := k) l
    have e : (escC k a).length ≤ 6 := by
      unfold escC
      split
      · exact (by decide : 5 ≤ 6)
      · split
        · exact (by decide : 4 ≤ 6)
        · split
          · exact (by decide : 6 ≤ 6)
          · exact (by decide : 1 ≤ 6)
    unfold escL
    simp only [List.length_append, List.length_cons, List.length_nil]
    omega
theorem atL_len (h : ∀ i, (nd ns i).2.2.1.length ≤ 4096 ∧ (nd ns i).2.2.2.length ≤ 4096) : ∀ m i, (atL ns m i).length ≤ 30000 * m
  | 0, _ => Nat.le_refl _
  | m + 1, i => by
    have k := atL_len h m (i + 1)
    have e := escL_len (k := 2) (nd ns i).2.2.2
    have hi := h i
    unfold atL
    simp only [List.length_append, List.length_cons, List.length_nil]
    omega
theorem enL_len (h : ∀ i, (nd ns i).2.2.1.length ≤ 4096 ∧ (nd ns i).2.2.2.length ≤ 4096) {p : Nat} : ∀ n, (enL ns p n).length ≤ 5000 * n
  | 0 => Nat.le_refl _
  | n + 1 => by
    have k := enL_len h (p := p) n
    have hi := h (n + 1)
    unfold enL
    rw [List.length_append]
    by_cases g : n + 1 + siz ns (n + 1) = p ∧ hasC ns (n + 1)
    · rw [if_pos g]
      unfold endL
      simp only [List.length_append, List.length_cons, List.length_nil]
      omega
    · rw [if_neg g, List.length_nil]
      omega
theorem bgL_len (h : ∀ i, (nd ns i).2.2.1.length ≤ 4096 ∧ (nd ns i).2.2.2.length ≤ 4096) (hn : ns.length ≤ 30) {p : Nat} (hp : p < ns.length) : (bgL ns p).length ≤ 1000000 := by
  have hi := h p
  have e := escL_len (k := 3) (nd ns p).2.2.2
  have g2 := skn_le (f := isAt) (ns := ns) (p := p + 1) (by omega)
  unfold bgL
  split
  · have a := atL_len h (skn isAt ns (p + 1) - (p + 1)) (p + 1)
    unfold hdPr
    simp only [List.length_append, List.length_cons, List.length_nil]
    split
    · simp only [List.length_append, List.length_cons, List.length_nil]
      omega
    · simp only [List.length_append, List.length_cons, List.length_nil]
      omega
  · split
    · omega
    · split
      · simp only [List.length_append, List.length_cons, List.length_nil]
        omega
      · rw [List.length_nil]
        omega
theorem prL_len (h : ∀ i, (nd ns i).2.2.1.length ≤ 4096 ∧ (nd ns i).2.2.2.length ≤ 4096) (hn : ns.length ≤ 30) : ∀ m p, p + m ≤ ns.length → (prL ns m p).length ≤ 2000000 * m
  | 0, _, _ => Nat.le_refl _
  | m + 1, p, hp => by
    have k := prL_len h hn m (p + 1) (by omega)
    have b1 := bgL_len h hn (show p < ns.length by omega)
    have e1 := enL_len h (p := p) p
    unfold prL
    simp only [List.length_append, List.length_cons, List.length_nil]
    omega
theorem lens (hs : szOk ns) : ∀ i, (nd ns i).2.2.1.length ≤ 4096 ∧ (nd ns i).2.2.2.length ≤ 4096 := fun i => by
  by_cases hi : i < ns.length
  · have a := wF_s hi
    have a2 := wF_le (ns := ns) (show i + 1 ≤ ns.length by omega)
    have t := tF_s hi
    have t2 := tF_le (ns := ns) (show i + 1 ≤ ns.length by omega)
    rw [wF_all] at a2
    rw [tF_all] at t2
    have s1 := hs.2.1
    have s2 := hs.2.2
    by_cases k : (nd ns i).1 = 3
    · rw [if_pos k] at a t
      omega
    · rw [if_neg k] at a t
      omega
  · have e : nd ns i = doc0 := by
      unfold nd
      rw [List.getD_eq_getElem?_getD, List.getElem?_eq_none (by omega)]
      rfl
    rw [e]
    exact ⟨by decide, by decide⟩
theorem op_print (hF : 5000 ≤ F) (hc : c ≤ 512) (h : Inv σ b ns c) : ∃ v σ1 σ2, f20 F x σ = oI v σ1 ∧ f197 F x σ1 = oI v σ2 ∧ Inv σ2 b ns (c + 1) := by
  have hn := h.2.1.2.2.2
  have hs := (h.sz hc).1
  have hw := h.2.1.2.2.1
  have hw1 := hw.1
  have le := lens hs
  have pl := prL_len le hn (ns.length - 1) 1 (by omega)
  obtain ⟨τ, a1, a2⟩ := f20_e (F := F) (x := x) hF hs hw h.2.1.1 (by omega)
  have mt : mTr τ ns := h.2.1.2.1.fr (fun e _ _ => a2.1 e (by omega)) (by rw [a2.1 1315 (by decide)])
  obtain ⟨υ, b1, b2, b3, b4⟩ := f197_e (F := F) (x := x) hF hs hw (fun i _ => by have := (le i).2; omega) mt
  have e0 : ∀ d, d ≠ 1314 → d ≠ 1315 → d ≠ 1340 → υ.1 d = σ.1 d := fun d h1 h2 h3 => (b2 d h2 h3).trans (a2.1 d h1)
  have ef : ∀ j, j ≠ 0 → j < 62 → υ.1 1315 j = σ.1 1315 j := fun j h1 h2 => by rw [b3 j h1 h2, a2.1 1315 (by decide)]
  refine ⟨_, τ, υ, a1, b1, ⟨⟨?_, ?_, h.1.2.2.1, h.1.2.2.2⟩, ⟨?_, ?_, hw, hn⟩, ?_, ?_, ?_⟩⟩
  · exact h.1.1.fr (e0 1001 (by decide) (by decide) (by decide)) (e0 1002 (by decide) (by decide) (by decide))
  · exact h.1.2.1.fr (ef 1 (by decide) (by decide)) (e0 1316 (by decide) (by decide) (by decide))
  · exact h.2.1.1.fr (fun d h1 h2 => e0 d (by omega) (by omega) (by omega))
  · exact h.2.1.2.1.fr (fun d h1 h2 => e0 d (by omega) (by omega) (by omega)) (ef 3 (by decide) (by decide))
  · have := h.2.2.1
    omega
  · have q := h.2.2.2.1
    unfold qrs at q ⊢
    rw [ef 34 (by decide) (by decide), ef 35 (by decide) (by decide), e0 1000 (by decide) (by decide) (by decide)]
    exact q
  · exact h.2.2.2.2.up (by rw [b4, a2.2]) (by omega)
end OPR
