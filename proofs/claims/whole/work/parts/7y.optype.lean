/-! THE CALLS type, wipe, load -/
def chs (e : Int64) : Nat → List Int32
  | 0 => []
  | k + 1 => (if bAt e (sh (k + 1)) = 0 then [] else [bAt e (sh (k + 1))]) ++ chs e k
theorem okc_n {c : Int32} (h : okc c) (h0 : ¬ c = 0) : ∃ k, 0 < k ∧ k < 128 ∧ c = Int32.ofNat k := by
  rcases h with h | h | ⟨h1, h2⟩
  · exact absurd h h0
  · exact ⟨10, by decide, by decide, h⟩
  · rw [Int32.lt_iff_toInt_lt] at h1 h2
    have e1 : (32 : Int32).toInt = 32 := rfl
    have e2 : (126 : Int32).toInt = 126 := rfl
    rw [e1] at h1
    rw [e2] at h2
    refine ⟨c.toNatClampNeg, by rw [tcn]; omega, by rw [tcn]; omega, ?_⟩
    rw [← Int32.toInt_inj, tcn, oN_i (by omega)]
    omega
theorem chs_len (e : Int64) : ∀ k, (chs e k).length = cnt e k
  | 0 => rfl
  | k + 1 => by
    unfold chs cnt
    rw [List.length_append, chs_len e k]
    split <;> rfl
theorem chs_ok (e : Int64) : ∀ k, allOk e k = true → okB (chs e k)
  | 0, _ => okB_nil
  | k + 1, h => by
    unfold allOk at h
    rw [Bool.and_eq_true, decide_eq_true_eq] at h
    unfold chs
    refine okB_app ?_ (chs_ok e k h.2)
    by_cases c : bAt e (sh (k + 1)) = 0
    · rw [if_pos c]
      exact okB_nil
    · rw [if_neg c]
      intro j hj
      rw [List.length_cons, List.length_nil] at hj
      rw [show j = 0 by omega]
      exact okc_n h.1 c
theorem addC_row {e : Int64} : ∀ (k : Nat) (σ : St) (b : List Int32), allOk e k = true → bufC σ b → b.length + cnt e k ≤ 120 → bufC (addC e k σ) (b ++ chs e k)
  | 0, σ, b, _, h, _ => by
    unfold chs addC
    rw [List.append_nil]
    exact h
  | k + 1, σ, b, ho, h, hl => by
    unfold allOk at ho
    rw [Bool.and_eq_true, decide_eq_true_eq] at ho
    unfold chs addC
    unfold cnt at hl
    by_cases c : bAt e (sh (k + 1)) = 0
    · rw [if_pos c] at hl
      rw [if_pos c, if_pos c, List.nil_append]
      exact addC_row k σ b ho.2 h (by omega)
    · rw [if_neg c] at hl
      rw [if_neg c, if_neg c, ← List.append_assoc]
      obtain ⟨w, w1, w2, w3⟩ := okc_n ho.1 c
      have n1 : vp_nar .char (((bAt e (sh (k + 1)) : Int32).toUInt32 % 65536).toInt32) = bAt e (sh (k + 1)) := by
        rw [w3]
        exact chN_id w w2
      refine addC_row k _ _ ho.2 ⟨?_, fun j hj => ?_⟩ (by rw [List.length_append, List.length_cons, List.length_nil]; omega)
      · unfold addR
        rw [u_eq, h.1, oN_p1, List.length_append]
        rfl
      · rw [List.length_append, List.length_cons, List.length_nil] at hj
        unfold addR
        rw [u_ne (by decide), u_at, h.1, oN_n (by omega), n1, getD_app]
        by_cases cj : j = b.length
        · rw [if_pos cj, if_neg (by omega), cj, Nat.sub_self]
          rfl
        · rw [if_neg cj, if_pos (by omega)]
          exact h.2 j (by omega)
theorem addD_oth {e : Int64} {d : Nat} (h1 : d ≠ 1315) (h2 : d ≠ 1316) : ∀ (k : Nat) (σ : St), (addD e k σ).1 d = σ.1 d
  | 0, σ => rfl
  | k + 1, σ => by
    unfold addD
    rw [addD_oth h1 h2 k]
    split
    · rfl
    · unfold addM
      rw [u_ne h1, u_ne h2]
theorem addD_f {e : Int64} {j : Nat} (h1 : j ≠ 1) : ∀ (k : Nat) (σ : St), (addD e k σ).1 1315 j = σ.1 1315 j
  | 0, σ => rfl
  | k + 1, σ => by
    unfold addD
    rw [addD_f h1 k]
    split
    · rfl
    · unfold addM
      rw [u_at, if_neg h1, u_ne (by decide)]
theorem addD_row {e : Int64} : ∀ (k : Nat) (σ : St) (b : List Int32), bufM σ b → b.length + cnt e k ≤ 120 → bufM (addD e k σ) (b ++ chs e k)
  | 0, σ, b, h, _ => by
    unfold chs addD
    rw [List.append_nil]
    exact h
  | k + 1, σ, b, h, hl => by
    unfold chs addD
    unfold cnt at hl
    by_cases c : bAt e (sh (k + 1)) = 0
    · rw [if_pos c] at hl
      rw [if_pos c, if_pos c, List.nil_append]
      exact addD_row k σ b h (by omega)
    · rw [if_neg c] at hl
      rw [if_neg c, if_neg c, ← List.append_assoc]
      refine addD_row k _ _ ⟨?_, fun j hj => ?_⟩ (by rw [List.length_append, List.length_cons, List.length_nil]; omega)
      · unfold addM
        rw [u_eq, h.1, oN_p1, List.length_append]
        rfl
      · rw [List.length_append, List.length_cons, List.length_nil] at hj
        unfold addM
        rw [u_ne (by decide), u_at, h.1, oN_n (by omega), getD_app]
        by_cases cj : j = b.length
        · rw [if_pos cj, if_neg (by omega), cj, Nat.sub_self]
          rfl
        · rw [if_neg cj, if_pos (by omega)]
          exact h.2 j (by omega)
section OTY
variable {F c : Nat} {σ : St} {b : List Int32} {ns : List Nd}
theorem op_type {e : Int64} (hF : 9 ≤ F) (hc : c ≤ 512) (h : Inv σ b ns c) : ∃ v σ1 σ2, f10 F e σ = oI v σ1 ∧ f145 F e σ1 = oI v σ2 ∧ ∃ b', Inv σ2 b' ns (c + 1) := by
  have hb := h.1.2.2.1
  have hO := h.1.2.2.2
  obtain ⟨n, rfl⟩ : ∃ n, F = n + 8 + 1 := ⟨F - 9, by omega⟩
  have a1 := t10_6 (n + 8 + 1) e σ 8 n 0 (Nat.le_refl _)
  have a2 := fun σ => t145_14 (n + 8 + 1) e σ 8 n 0 1 (Nat.le_refl _)
  rw [sh_8, Int32.zero_add] at a1
  simp only [sh_8, Int32.zero_add] at a2
  rw [f10_e, a1]
  have nothing : ∀ (hh : f145 (n + 8 + 1) e σ = oI 0 (uI σ 1315 0 0)), ∃ v σ1 σ2, (oI 0 σ : Rs) = oI v σ1 ∧ f145 (n + 8 + 1) e σ1 = oI v σ2 ∧ ∃ b', Inv σ2 b' ns (c + 1) := fun hh => ⟨0, σ, _, rfl, hh, b, (h.up (by omega)).th⟩
  by_cases hk : allOk e 8 = true
  · rw [if_pos hk]
    have hcn := cnt_le e 8
    have hk2 : ¬ ((1 : Int32) = 0 ∨ allOk e 8 = false) := fun hh => hh.elim (fun hh => absurd hh (by decide)) (fun hh => absurd hk (by rw [hh]; decide))
    unfold T10
    rw [t89, h.1.1.1, oN_ad]
    by_cases hl : 120 < b.length + cnt e 8
    · have hl2 : (120 : Int32) < Int32.ofNat (b.length + cnt e 8) := (oN_lt (p := 120) (by decide) (by omega)).mpr hl
      rw [if_pos hl2, cIo, if_pos (by rfl)]
      apply nothing
      have o1 : (uI σ 1315 0 0).1 1315 1 = Int32.ofNat b.length := by rw [u_at, if_neg (by decide)]; exact h.1.2.1.1
      rw [f145_e, a2, if_neg hk2, T14_e o1, oN_ad, if_pos hl2]
    · have hl2 : ¬ (120 : Int32) < Int32.ofNat (b.length + cnt e 8) := fun g => hl ((oN_lt (p := 120) (by decide) (by omega)).mp g)
      rw [if_neg hl2, cIo, if_neg (by decide)]
      have b1 := t10_70 (n + 8 + 1) e 8 n σ (Nat.le_refl _) (by rw [h.1.1.1, oN_i (by omega)]; omega) (by rw [h.1.1.1, oN_i (by omega)]; omega)
      rw [sh_8] at b1
      have o1 : (uI (addC e 8 σ) 1315 0 0).1 1315 1 = Int32.ofNat b.length := by
        rw [u_at, if_neg (by decide), addC_oth (by decide) (by decide)]
        exact h.1.2.1.1
      have b2 := t145_109 (n + 8 + 1) e 8 n (uI (addC e 8 σ) 1315 0 0) (Nat.le_refl _) (by rw [o1, oN_i (by omega)]; omega) (by rw [o1, oN_i (by omega)]; omega)
      rw [sh_8] at b2
      have cl := chs_len e 8
      have mb : bufM (uI (addC e 8 σ) 1315 0 0) b := ⟨o1, fun j hj => by rw [u_ne (by decide), addC_oth (by decide) (by decide)]; exact h.1.2.1.2 j hj⟩
      have cb := addC_row 8 σ b hk h.1.1 (by omega)
      have e0 : ∀ d, d ≠ 1001 → d ≠ 1002 → d ≠ 1315 → d ≠ 1316 → (addD e 8 (uI (addC e 8 σ) 1315 0 0)).1 d = σ.1 d := fun d h1 h2 h3 h4 => by rw [addD_oth h3 h4, u_ne h3, addC_oth h1 h2]
      have ef : ∀ j, j ≠ 0 → j ≠ 1 → (addD e 8 (uI (addC e 8 σ) 1315 0 0)).1 1315 j = σ.1 1315 j := fun j h0 h1 => by rw [addD_f h1, u_at, if_neg h0, addC_oth (by decide) (by decide)]
      refine ⟨1, addC e 8 σ, addD e 8 (uI (addC e 8 σ) 1315 0 0), b1, ?_, b ++ chs e 8, ⟨⟨?_, addD_row 8 _ b mb (by omega), by rw [List.length_append]; omega, okB_app hO (chs_ok e 8 hk)⟩, ⟨?_, ?_, h.2.1.2.2.1, h.2.1.2.2.2⟩, ?_, ?_, ?_⟩⟩
      · rw [f145_e, a2, if_neg hk2, T14_e o1, oN_ad, if_neg hl2, b2]
      · exact cb.fr (by rw [addD_oth (by decide) (by decide), u_ne (by decide)]) (by rw [addD_oth (by decide) (by decide), u_ne (by decide)])
      · exact h.2.1.1.fr (fun d h1 h2 => e0 d (by omega) (by omega) (by omega) (by omega))
      · exact h.2.1.2.1.fr (fun d h1 h2 => e0 d (by omega) (by omega) (by omega) (by omega)) (ef 3 (by decide) (by decide))
      · have := h.2.2.1
        rw [List.length_append]
        omega
      · have q := h.2.2.2.1
        unfold qrs at q ⊢
        rw [ef 34 (by decide) (by decide), ef 35 (by decide) (by decide), e0 1000 (by decide) (by decide) (by decide) (by decide)]
        exact q
      · exact h.2.2.2.2.up (by rw [addD_X]; show (addC e 8 σ).2.2.2 = _; rw [addC_X]) (by omega)
  · rw [if_neg hk]
    apply nothing
    rw [f145_e, a2, if_pos (Or.inr (by rw [← Bool.not_eq_true]; exact hk))]
theorem op_wipe (h : Inv σ b ns c) : ∃ σ1 σ2, f13 F σ = oV σ1 ∧ f146 F σ1 = oV σ2 ∧ Inv σ2 [] ns (c + 1) := by
  refine ⟨uI σ 1001 1 0, uI (uI (uI σ 1001 1 0) 1315 0 0) 1315 1 0, ?_, ?_, ⟨⟨⟨?_, fun j hj => absurd hj (Nat.not_lt_zero _)⟩, ⟨u_eq, fun j hj => absurd hj (Nat.not_lt_zero _)⟩, by decide, okB_nil⟩, ⟨h.2.1.1.fr (fun d h1 h2 => by rw [u_ne (by omega), u_ne (by omega), u_ne (by omega)]), h.2.1.2.1.fr (fun d h1 h2 => by rw [u_ne (by omega), u_ne (by omega), u_ne (by omega)]) (by rw [u_at, if_neg (by decide), u_at, if_neg (by decide), u_ne (by decide)]), h.2.1.2.2.1, h.2.1.2.2.2⟩, ?_, ?_, ?_⟩⟩
  · unfold f13
    rw [f91_r, cVo]
  · unfold f146
    rw [ltE, ltE]
  · rw [u_ne (by decide), u_ne (by decide), u_eq]
    rfl
  · have := h.2.2.1
    rw [List.length_nil]
    omega
  · have q := h.2.2.2.1
    unfold qrs at q ⊢
    rw [u_at, if_neg (by decide), u_at, if_neg (by decide), u_ne (by decide), u_at, if_neg (by decide), u_at, if_neg (by decide), u_ne (by decide), u_ne (by decide), u_ne (by decide), u_ne (by decide)]
    exact q
  · exact h.2.2.2.2.up rfl (by omega)
theorem op_load (hF : 5000 ≤ F) (hc : c ≤ 512) (h : Inv σ b ns c) : opR (f3 F σ) (f147 F) (fun τ => ∃ b' ns', Inv τ b' ns' (c + 1)) := by
  have ht := h.2.1.1
  have hm := h.2.1.2.1
  have hw := h.2.1.2.2.1
  have hb := h.1.2.2.1
  have hO := h.1.2.2.2
  have m0 := f21_e (F := F) hF hb hO h.1.1 ht
  unfold f3
  cases hq : sDoc b with
  | inl d =>
    have dc := sDoc_c hO hb hq
    rw [hq] at m0
    obtain ⟨τ, a1, a2⟩ := m0
    rw [a1, cHt]
    have mt : mTr (uX τ d) ns := hm.fr (fun e h1 _ => a2.1 e (by omega)) (congrFun (a2.1 1315 (by omega)) 3)
    have mb : bufM (uX τ d) b := h.1.2.1.fr (congrFun (a2.1 1315 (by omega)) 1) (a2.1 1316 (by omega))
    have m1 := f147_e (F := F) hF hb hO mb mt hw
    rw [hq] at m1
    obtain ⟨υ, b1, b0, b2, b3, b4, b5, b6⟩ := m1
    refine ⟨wr d, uX τ d, 0, υ, ?_, b1, b2, fun g => absurd g (wr_nz d), b, ns, ⟨⟨?_, b5, hb, hO⟩, ⟨?_, b4, hw, h.2.1.2.2.2⟩, ?_, ?_, ?_⟩⟩
    · rcases dc with e | e | e <;> rw [e] <;> rfl
    · exact h.1.1.fr (by rw [b3.1 1001 (by omega)]; exact a2.1 1001 (by omega)) (by rw [b3.1 1002 (by omega)]; exact a2.1 1002 (by omega))
    · exact (a2.c ht).fr (fun e h1 h2 => b3.1 e (by omega))
    · have := h.2.2.1
      omega
    · have q := h.2.2.2.1
      unfold qrs at q ⊢
      rw [b6 34 (by omega), b6 35 (by omega), b3.1 1000 (by omega)]
      rw [show (uX τ d).1 = τ.1 from rfl, a2.1 1315 (by omega), a2.1 1000 (by omega)]
      exact q
    · have e1 : exo (uX τ d) (c + 1) := h.2.2.2.2.x (by rw [a2.2]) (by rcases dc with e | e | e <;> rw [e] <;> decide)
      exact e1.up (by rw [b3.2]) (Nat.le_refl _)
  | inr m =>
    have hwm := sDoc_wf hO hq
    have htm := sDoc_tot hO hq
    rw [hq] at m0
    obtain ⟨τ, a1, a2, a3, a4, a5, a6, a7⟩ := m0
    rw [a1, cHo, if_pos in01, t0, ltE]
    have mt : mTr (uJ τ 1361 0 (Int32.ofNat m.length).toInt64) ns := hm.fr (fun e h1 _ => a2.1 e (by omega)) (congrFun (a2.1 1315 (by omega)) 3)
    have mb : bufM (uJ τ 1361 0 (Int32.ofNat m.length).toInt64) b := h.1.2.1.fr (congrFun (a2.1 1315 (by omega)) 1) (a2.1 1316 (by omega))
    have m1 := f147_e (F := F) hF hb hO mb mt hw
    rw [hq] at m1
    obtain ⟨υ, b1, b2, b3, b4, b5, b6⟩ := m1
    refine ⟨0, _, _, υ, rfl, b1, b6, fun _ => by rw [b2.2]; exact uJ_j, [], m, ⟨⟨a4.fr (b2.1 1001 (by omega)) (b2.1 1002 (by omega)), b4, by decide, okB_nil⟩, ⟨a3.fr (fun e h1 h2 => b2.1 e (by omega)), b3, hwm, a6.1.1⟩, ?_, Or.inl ⟨b5, by rw [b2.1 1000 (by omega)]; exact a5⟩, ?_⟩⟩
    · have := h.2.2.1
      rw [List.length_nil]
      omega
    · exact h.2.2.2.2.up (by rw [b2.2]; exact congrArg (fun z => z.2.2) a2.2) (by omega)
end OTY
