/-! THE CALL query -/
section OQU
variable {F c d : Nat} {x : Int32} {σ τ : St} {b : List Int32} {ns : List Nd}
theorem Inv.w (h : Inv σ b ns c) (h1 : ∀ A, 1000 ≤ A → A ≤ 1015 → τ.1 A = σ.1 A) (h2 : ∀ A, 1316 ≤ A → A ≤ 1325 → τ.1 A = σ.1 A) (h3 : ∀ j, j = 1 ∨ j = 3 ∨ j = 34 ∨ j = 35 → τ.1 1315 j = σ.1 1315 j) (hd : c ≤ d) (hx : exo τ d) : Inv τ b ns d := by
  obtain ⟨⟨g1, g2, g3, g4⟩, ⟨g5, g6, g7, g8⟩, g9, g10, g11⟩ := h
  refine ⟨⟨g1.fr (h1 1001 (by decide) (by decide)) (h1 1002 (by decide) (by decide)), g2.fr (h3 1 (by decide)) (h2 1316 (by decide) (by decide)), g3, g4⟩, ⟨g5.fr (fun a q1 q2 => h1 a (by omega) (by omega)), g6.fr (fun a q1 q2 => h2 a (by omega) (by omega)) (h3 3 (by decide)), g7, g8⟩, by omega, ?_, hx⟩
  unfold qrs
  rw [h3 34 (by decide), h3 35 (by decide), h1 1000 (by decide) (by decide)]
  exact g10
theorem op_query (hF : 20000 ≤ F) (hc : c ≤ 512) (h : Inv σ b ns c) : opR (f7 F x σ) (f206 F x) (fun τ => ∃ b', Inv τ b' ns (c + 1)) := by
  have hn := h.2.1.2.2.2
  have hs := (h.sz hc).1
  have ht := h.2.1.1
  have hm := h.2.1.2.1
  have hw := h.2.1.2.2.1
  have hq : qOk ns b := ⟨hw, hs, h.1.2.2.2, h.1.2.2.1⟩
  have wrap : ∀ {f : Rs} {g : St → Rs}, opR f g (fun τ => Inv τ b ns (c + 1)) → opR f g (fun τ => ∃ b', Inv τ b' ns (c + 1)) := fun ⟨k, σ1, v, σ2, a1, a2, a3, a4, a5⟩ => ⟨k, σ1, v, σ2, a1, a2, a3, a4, b, a5⟩
  unfold f7
  rcases num_cases x ns.length (by omega) with ⟨q, hqn, rfl⟩ | hx
  · have fc := f30_e (F := F) hF hq h.1.1 ht hqn
    cases hm2 : qry ns b with
    | none =>
      obtain ⟨τ, t1, t2, t3⟩ := fc.1 hm2
      rw [t1, cHt, if_neg (by decide), if_pos (by rfl)]
      have e1 : (uX τ 10).1 = τ.1 := rfl
      obtain ⟨ρ, r1, r2, r3, r4⟩ := (f206_e (F := F) (σ := uX τ 10) (by omega) hq (h.1.2.1.fr (by rw [e1, t3 1315 (by omega)]) (by rw [e1, t3 1316 (by omega)])) (hm.fr (fun a q1 q2 => by rw [e1, t3 a (by omega)]) (by rw [e1, t3 1315 (by omega)])) hqn).1 hm2
      have ex : exo ρ (c + 1) := (h.2.2.2.2.x (e := 10) t2 (by decide)).up (by rw [r2]) (Nat.le_refl _)
      refine ⟨2, _, 0, _, rfl, r1, u_eq, fun g => absurd g (by decide), b, ?_⟩
      exact (h.w (τ := ρ) (fun A q1 q2 => by rw [r3 A (by omega) (by omega), e1, t3 A (by omega)]) (fun A q1 q2 => by rw [r3 A (by omega) (by omega), e1, t3 A (by omega)]) (fun j hj => by rw [r4 j (by omega), e1, t3 1315 (by omega)]) (by omega) ex).th
    | some m =>
      obtain ⟨hin, τ, t1, t2, t3, t4, t5⟩ := fc.2 m hm2
      rw [t1, cHo, if_pos in01, t0, ltE]
      have e1 : (uJ τ 1361 0 (Int32.ofNat (cntB (m q) ns.length)).toInt64).1 = τ.1 := rfl
      have o : ∀ A, ¬ (1030 ≤ A ∧ A < 1313) → ¬ A = 1000 → ¬ A = 1001 → τ.1 A = σ.1 A := fun A q1 q2 q3 => by
        funext j
        exact t3 A j q1 (by omega) (by omega)
      have mt : mTr (uJ τ 1361 0 (Int32.ofNat (cntB (m q) ns.length)).toInt64) ns := hm.fr (fun a q1 q2 => by rw [e1, o a (by omega) (by omega) (by omega)]) (by rw [e1, o 1315 (by omega) (by omega) (by omega)])
      obtain ⟨ρ, υ, r1, ⟨r2, r3, r4⟩, ⟨⟨g1, g2⟩, g3, g4⟩, r5, r6, r7⟩ := (f206_e (F := F) (by omega) hq (h.1.2.1.fr (τ := uJ τ 1361 0 (Int32.ofNat (cntB (m q) ns.length)).toInt64) (by rw [e1, o 1315 (by omega) (by omega) (by omega)]) (by rw [e1, o 1316 (by omega) (by omega) (by omega)])) mt hqn).2 m hm2
      have k : ∀ A, ¬ A = 1315 → ¬ (1341 ≤ A ∧ A ≤ 1359) → υ.1 A = τ.1 A := fun A q1 q2 => by rw [g3 A q1 (by omega) (by omega), r3 A q1 (by omega), e1]
      refine ⟨0, _, _, _, rfl, r1, by rw [u_at, if_neg (by decide)]; exact r5, fun _ => ?_, [], ⟨⟨⟨?_, fun j hj => absurd hj (Nat.not_lt_zero _)⟩, ⟨u_eq, fun j hj => absurd hj (Nat.not_lt_zero _)⟩, by decide, fun _ hj => absurd hj (by simp)⟩, ⟨?_, ?_, hw, hn⟩, ?_, Or.inr ⟨?_, ?_, fun j hj _ => ?_⟩, ?_⟩⟩
      · show υ.2.1 1361 0 = _
        rw [g2 1361 (by decide), r2]
        exact uJ_j
      · rw [u_ne (by decide), k 1001 (by decide) (by omega)]
        exact t5
      · exact ht.fr (fun a q1 q2 => by rw [u_ne (by omega), k a (by omega) (by omega), o a (by omega) (by omega) (by omega)])
      · exact mt.fr (fun a q1 q2 => by rw [u_ne (by omega), k a (by omega) (by omega), e1]) (by rw [u_at, if_neg (by decide), g4 3 (by decide), r4 3 (by decide)])
      · have := h.2.2.1
        have l : ([] : List Int32).length = 0 := rfl
        omega
      · rw [u_at, if_neg (by decide)]
        exact r6
      · rw [u_at, if_neg (by decide), u_ne (by decide), r7, k 1000 (by decide) (by omega), t4]
      · rw [u_ne (by decide), k 1000 (by decide) (by omega), t4]
        exact hin j hj
      · exact h.2.2.2.2.up (show υ.2.2.2 = σ.2.2.2 by rw [g1, r2]; exact t2) (by omega)
  · unfold f30
    rw [f128_n ht hx, cIo, if_pos (by rfl), cHt, if_pos (by rfl)]
    refine wrap (opR.no (F := F) h (by decide) (by decide) (fun τ hτ => ?_))
    have hmt : mTr τ ns := hm.fr (fun a _ _ => by rw [hτ]) (by rw [hτ])
    unfold f206 f172
    rw [f182_n hmt hx, cIo, if_pos (by rfl), ltE, cIo]
end OQU
