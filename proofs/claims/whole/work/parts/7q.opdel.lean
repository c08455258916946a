/-! THE CALL delete -/
theorem cHo {x : Int32} {σ : St} {kk : Int32 → St → Rs} {kh : Nat → St → Rs} : cHI (oI x σ) kk kh = kk x σ := rfl
theorem cHt {c : Nat} {σ : St} {kk : Int32 → St → Rs} {kh : Nat → St → Rs} : cHI (oT c σ) kk kh = kh c (uX σ c) := rfl
theorem ex_65 : ∀ e, e < 14 → 10 ≤ e → aSl aNs (.inr (e, [])) ≤ 65 := by decide +kernel
theorem exo.x {σ τ : St} {c e : Nat} (h : exo σ c) (ht : τ.2.2.2 = σ.2.2.2) (he : 10 ≤ e ∧ e ≤ 13) : exo (uX τ e) (c + 1) := by
  have e1 : (uX τ e).2.2.2 = σ.2.2.2 ++ [.inr (e, [])] := by
    unfold uX
    rw [ht]
  refine ⟨by rw [e1, List.length_append, List.length_cons, List.length_nil]; have := h.1; omega, fun x hx => ?_⟩
  rw [e1, List.mem_append, List.mem_singleton] at hx
  rcases hx with hx | hx
  · exact h.2 x hx
  · rw [hx]
    exact ex_65 e (by omega) he.1
theorem exo.up {σ τ : St} {c d : Nat} (h : exo σ c) (ht : τ.2.2.2 = σ.2.2.2) (hd : c ≤ d) : exo τ d := ⟨by rw [ht]; have := h.1; omega, by rw [ht]; exact h.2⟩
/-- what a call that can throw comes to, on both sides -/
def opR (f : Rs) (g : St → Rs) (Q : St → Prop) : Prop := ∃ k σ1 v σ2, f = oI k σ1 ∧ g σ1 = oI v σ2 ∧ σ2.1 1315 0 = k ∧ (k = 0 → σ2.2.1 1361 0 = v.toInt64) ∧ Q σ2
theorem uJ_1 {σ : St} {x : Int64} : (uJ σ 1361 0 x).1 = σ.1 := rfl
theorem uJ_4 {σ : St} {x : Int64} : (uJ σ 1361 0 x).2.2.2 = σ.2.2.2 := rfl
theorem uJ_j {σ : St} {x : Int64} : (uJ σ 1361 0 x).2.1 1361 0 = x := by simp [uJ, vp_updL]
theorem in01 : inB 0 1 := oN_rg (p := 0) (n := 1) (by decide) (by decide)
theorem t0 : (0 : Int32).toNatClampNeg = 0 := rfl
/-- the ints alone matter -/
theorem Inv.i {σ τ : St} {b : List Int32} {ns : List Nd} {c d : Nat} (h : Inv σ b ns c) (h1 : τ.1 = σ.1) (hd : c ≤ d) (hx : exo τ d) : Inv τ b ns d := by
  obtain ⟨⟨g1, g2, g3, g4⟩, ⟨g5, g6, g7, g8⟩, g9, g10, g11⟩ := h
  refine ⟨⟨⟨by rw [h1]; exact g1.1, fun j hj => by rw [h1]; exact g1.2 j hj⟩, ⟨by rw [h1]; exact g2.1, fun j hj => by rw [h1]; exact g2.2 j hj⟩, g3, g4⟩, ⟨g5.fr (fun a _ _ => by rw [h1]), g6.fr (fun a _ _ => by rw [h1]) (by rw [h1]), g7, g8⟩, by omega, ?_, hx⟩
  unfold qrs
  rw [h1]
  exact g10
/-- a call that is refused and changes nothing -/
theorem opR.no {F c e : Nat} {k : Int32} {σ : St} {b : List Int32} {ns : List Nd} {g : St → Rs} (h : Inv σ b ns c) (he : 10 ≤ e ∧ e ≤ 13) (hk : k ≠ 0) (hg : ∀ τ : St, τ.1 = σ.1 → g τ = oI 0 (uI τ 1315 0 k)) : opR (oI k (uX σ e)) g (fun τ => Inv τ b ns (c + 1)) := by
  refine ⟨k, uX σ e, 0, _, rfl, hg _ rfl, u_eq, fun g => absurd g hk, ?_⟩
  exact (h.i (τ := uX σ e) rfl (by omega) (h.2.2.2.2.x rfl he)).th
section ODL
variable {F c : Nat} {x : Int32} {σ : St} {b : List Int32} {ns : List Nd}
theorem bufC.fr {τ : St} (h : bufC σ b) (h1 : τ.1 1001 = σ.1 1001) (h2 : τ.1 1002 = σ.1 1002) : bufC τ b := ⟨by rw [h1]; exact h.1, fun j hj => by rw [h2]; exact h.2 j hj⟩
theorem bufM.fr {τ : St} (h : bufM σ b) (h1 : τ.1 1315 1 = σ.1 1315 1) (h2 : τ.1 1316 = σ.1 1316) : bufM τ b := ⟨by rw [h1]; exact h.1, fun j hj => by rw [h2]; exact h.2 j hj⟩
theorem op_delete (hF : 5000 ≤ F) (hc : c ≤ 512) (h : Inv σ b ns c) : opR (f5 F x σ) (f186 F x) (fun τ => ∃ ns', Inv τ b ns' (c + 1)) := by
  have hn := h.2.1.2.2.2
  have hs := (h.sz hc).1
  have htt := (h.sz hc).2
  have ht := h.2.1.1
  have hm := h.2.1.2.1
  have hw := h.2.1.2.2.1
  have wrap : ∀ {f : Rs} {g : St → Rs}, opR f g (fun τ => Inv τ b ns (c + 1)) → opR f g (fun τ => ∃ ns', Inv τ b ns' (c + 1)) := fun ⟨k, σ1, v, σ2, a1, a2, a3, a4, a5⟩ => ⟨k, σ1, v, σ2, a1, a2, a3, a4, ns, a5⟩
  unfold f5
  rcases num_cases x ns.length (by omega) with ⟨p, hp, rfl⟩ | hx
  · have i1 : inB (Int32.ofNat p) 31 := oN_rg (by omega) (by decide)
    have q1 := oN_n (show p < 2147483648 by omega)
    have b1 := (hs.1.2 p hp).2
    have fe := f27_e (F := F) (by omega) ht hs hw hp
    by_cases hd : dlB ns p
    · rw [fe.1 hd, cHt, if_neg (by decide), if_pos (by rfl)]
      refine wrap (opR.no (F := F) h (by decide) (by decide) (fun τ hτ => ?_))
      have hmt : mTr τ ns := hm.fr (fun a _ _ => by rw [hτ]) (by rw [hτ])
      unfold f186 f172
      rw [f182_y hmt hn hp, cIo, if_neg (show ¬ (1 : Int32) = 0 by decide), if_pos i1, ltE]
      simp only [q1]
      rw [(hmt.2 p hp).1.1]
      rcases hd with c0 | ⟨c1, c2⟩
      · rw [c0, hw.2.1, if_pos (by rfl), ltE, cIo]
      · have h0 : 0 < p := by
          by_cases c0 : p = 0
          · rw [c0, hw.2.1] at c1
            exact absurd c1 (by decide)
          · omega
        unfold f183
        rw [c1, if_neg (by decide), if_pos i1, ltE, if_pos (by rfl), if_pos i1, ltE]
        simp only [q1]
        rw [(hmt.2 p hp).2.2, c2, cIo, if_pos (show inB 0 31 from oN_rg (p := 0) (n := 31) (by decide) (by decide)), ltE, t0, (hmt.2 0 hw.1).1.1, hw.2.1, if_pos (by rfl), ltE, cIo]
    · have h0 : 0 < p := by
        by_cases c0 : p = 0
        · exact absurd (Or.inl c0) hd
        · omega
      rw [fe.2 hd]
      obtain ⟨τ, a1, a2, a3, a4, a5⟩ := f27_60_e (F := F) (by omega) ht hs hw h0 hp
      rw [a1, cHo, if_pos in01, t0, ltE]
      have hwn := dl_wf hw h0 hp
      have tl : tot (jnO (dlL ns p) (p - 1)) ≤ tot ns := by
        rw [jnO_tot (dl_nm hw h0 hp)]
        have z := siz_le hp
        unfold dlL delL tot
        have e1 : flT ns = flT (ns.take p) ++ (flT ((ns.drop p).take (siz ns p + 1)) ++ flT (ns.drop (p + (siz ns p + 1)))) := by rw [← flT_app, ← flT_app, ← List.drop_drop, List.take_append_drop, List.take_append_drop]
        have e2 : flW ns = flW (ns.take p) ++ (flW ((ns.drop p).take (siz ns p + 1)) ++ flW (ns.drop (p + (siz ns p + 1)))) := by rw [← flW_app, ← flW_app, ← List.drop_drop, List.take_append_drop, List.take_append_drop]
        rw [flW_app, flT_app]
        have l1 := congrArg List.length e1
        have l2 := congrArg List.length e2
        rw [List.length_append, List.length_append] at l1 l2
        rw [List.length_append, List.length_append]
        omega
      have e1 : (uJ τ 1361 0 ((Int32.ofNat (ns.length - (jnO (dlL ns p) (p - 1)).length)).toInt64)).1 = τ.1 := rfl
      have mt : mTr (uI (uJ τ 1361 0 ((Int32.ofNat (ns.length - (jnO (dlL ns p) (p - 1)).length)).toInt64)) 1315 0 0) ns := (hm.fr (τ := uJ τ 1361 0 ((Int32.ofNat (ns.length - (jnO (dlL ns p) (p - 1)).length)).toInt64)) (fun a _ _ => by rw [e1]; exact a2.1 a (by omega)) (by rw [e1]; exact congrFun (a2.1 1315 (by omega)) 3)).th
      have rest : ∃ υ, f186 F (Int32.ofNat p) (uJ τ 1361 0 ((Int32.ofNat (ns.length - (jnO (dlL ns p) (p - 1)).length)).toInt64)) = oI (Int32.ofNat (ns.length - (jnO (dlL ns p) (p - 1)).length)) υ ∧ agQ (uJ τ 1361 0 ((Int32.ofNat (ns.length - (jnO (dlL ns p) (p - 1)).length)).toInt64)) υ ∧ mTr υ (jnO (dlL ns p) (p - 1)) ∧ υ.1 1315 34 = 0 ∧ υ.1 1315 0 = 0 ∧ υ.1 1315 1 = τ.1 1315 1 ∧ υ.1 1316 = τ.1 1316 := by
        have hmt : mTr (uJ τ 1361 0 ((Int32.ofNat (ns.length - (jnO (dlL ns p) (p - 1)).length)).toInt64)) ns := hm.fr (fun a _ _ => by rw [e1]; exact a2.1 a (by omega)) (by rw [e1]; exact congrFun (a2.1 1315 (by omega)) 3)
        have fin : ∃ υ, f186_52 F (Int32.ofNat p) (uJ τ 1361 0 ((Int32.ofNat (ns.length - (jnO (dlL ns p) (p - 1)).length)).toInt64)) = oI (Int32.ofNat (ns.length - (jnO (dlL ns p) (p - 1)).length)) υ ∧ agQ (uJ τ 1361 0 ((Int32.ofNat (ns.length - (jnO (dlL ns p) (p - 1)).length)).toInt64)) υ ∧ mTr υ (jnO (dlL ns p) (p - 1)) ∧ υ.1 1315 34 = 0 ∧ υ.1 1315 0 = 0 ∧ υ.1 1315 1 = τ.1 1315 1 ∧ υ.1 1316 = τ.1 1316 := by
          unfold f186_52 f185 f173
          rw [ltE, ltE, mt.1, if_pos i1, ltE]
          simp only [q1]
          rw [(mt.2 p hp).2.1, cIo, ltE, oN_ad, ltE, ltE, cVo]
          have m3 : mTr (uI (uI (uI (uJ τ 1361 0 ((Int32.ofNat (ns.length - (jnO (dlL ns p) (p - 1)).length)).toInt64)) 1315 0 0) 1315 13 0) 1315 14 0) ns := mt.fr (fun a _ _ => by rw [u_ne (by omega), u_ne (by omega)]) (by rw [u_at, if_neg (by decide), u_at, if_neg (by decide)])
          obtain ⟨υ, c1, c2, c3, c4, c5, c6⟩ := f186_77_e (F := F) hF m3 hw hs.1 (by omega) h0 hp (by rw [u_at, if_neg (by decide), u_eq]) u_eq
          have qq : agQ (uJ τ 1361 0 ((Int32.ofNat (ns.length - (jnO (dlL ns p) (p - 1)).length)).toInt64)) (uI (uI (uI (uJ τ 1361 0 ((Int32.ofNat (ns.length - (jnO (dlL ns p) (p - 1)).length)).toInt64)) 1315 0 0) 1315 13 0) 1315 14 0) := ((agQ.uI ⟨fun _ _ => rfl, rfl⟩ (by decide)).uI (by decide)).uI (by decide)
          refine ⟨υ, c1, qq.trans c2, c3, c4, ?_, ?_, ?_⟩
          · rw [c5 0 (by decide) (by decide) (by decide) (by decide), u_at, if_neg (by decide), u_at, if_neg (by decide), u_eq]
          · rw [c5 1 (by decide) (by decide) (by decide) (by decide), u_at, if_neg (by decide), u_at, if_neg (by decide), u_at, if_neg (by decide)]
            rfl
          · rw [c6, u_ne (by decide), u_ne (by decide), u_ne (by decide)]
            rfl
        unfold f186
        rw [f182_y hmt hn hp, cIo, if_neg (show ¬ (1 : Int32) = 0 by decide), if_pos i1, ltE]
        simp only [q1]
        rw [(hmt.2 p hp).1.1, if_neg (fun g => by have := (oE0 (by omega)).mp g; have := (nd_pos hw h0 hp).1; omega), if_pos i1, ltE]
        by_cases c1 : (nd ns p).1 = 1
        · have cp : ¬ par ns p = 0 := fun g => hd (Or.inr ⟨c1, g⟩)
          obtain ⟨q, r1, r2, r3, r4⟩ := par_pos hw h0 hp
          have rk : ¬ (nd ns q).1 = 0 := fun g => cp ((par0 hw h0 hp hn).mpr ⟨q, r1, r2, g⟩)
          have rb := (hs.1.2 q (by omega)).2
          unfold f183
          rw [c1, if_pos (by rfl), if_pos i1, ltE]
          simp only [q1]
          rw [(hmt.2 p hp).2.2, r2, cIo, if_pos (oN_rg (by omega) (by decide)), ltE, oN_n (by omega), (hmt.2 q (by omega)).1.1, if_neg (fun g => rk ((oE0 (by omega)).mp g))]
          exact fin
        · rw [if_neg (fun g => c1 ((oE1 (by omega)).mp g))]
          exact fin
      obtain ⟨υ, c1, c2, c3, c4, c5, c6, c7⟩ := rest
      refine ⟨0, _, _, υ, rfl, c1, c5, fun _ => ?_, jnO (dlL ns p) (p - 1), ⟨⟨?_, ?_, h.1.2.2.1, h.1.2.2.2⟩, ⟨?_, c3, hwn, ?_⟩, ?_, ?_, ?_⟩⟩
      · rw [c2.2]
        exact uJ_j
      · exact h.1.1.fr (by rw [c2.1 1001 (by omega), e1]; exact a3 1001 (Or.inl rfl)) (by rw [c2.1 1002 (by omega), e1]; exact a3 1002 (Or.inr rfl))
      · exact h.1.2.1.fr (by rw [c6]; exact congrFun (a2.1 1315 (by omega)) 1) (by rw [c7]; exact a2.1 1316 (by omega))
      · exact a4.fr (fun a h1 h2 => by rw [c2.1 a (by omega), e1])
      · have l1 := (jnO_len (D := dlL ns p) (j := p - 1)).1
        have l2 : (dlL ns p).length = ns.length - (siz ns p + 1) := del_len (by have := siz_le hp; omega)
        omega
      · have := h.2.2.1
        omega
      · exact Or.inl ⟨c4, by rw [c2.1 1000 (by omega), e1]; exact a5⟩
      · exact h.2.2.2.2.up (by rw [c2.2]; exact congrArg (fun z => z.2.2) a2.2) (by omega)
  · unfold f27
    rw [f128_n ht hx, cIo, if_pos (by rfl), cHt, if_pos (by rfl)]
    refine wrap (opR.no (F := F) h (by decide) (by decide) (fun τ hτ => ?_))
    have hmt : mTr τ ns := hm.fr (fun a _ _ => by rw [hτ]) (by rw [hτ])
    unfold f186 f172
    rw [f182_n hmt hx, cIo, if_pos (by rfl), ltE, cIo]
end ODL
