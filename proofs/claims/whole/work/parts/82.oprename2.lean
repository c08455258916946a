section ORM
variable {F c : Nat} {x : Int32} {b : List Int32} {ns : List Nd} {σ : St}
theorem f187_137_0 {y : Int32} : f187_137 F y 0 σ = oI 0 (uI σ 1315 0 3) := by
  unfold f187_137 f172
  rw [if_pos (by rfl), ltE, cIo]
theorem op_rename (hF : 5000 ≤ F) (hc : c ≤ 512) (h : Inv σ b ns c) : opR (f6 F x σ) (f187 F x) (fun τ => ∃ b' ns', Inv τ b' ns' (c + 1)) := by
  have hn := h.2.1.2.2.2
  have hs := (h.sz hc).1
  have htt := (h.sz hc).2
  have ht := h.2.1.1
  have hm := h.2.1.2.1
  have hw := h.2.1.2.2.1
  have hb := h.1.2.2.1
  have hO := h.1.2.2.2
  have wrap : ∀ {f : Rs} {g : St → Rs}, opR f g (fun τ => Inv τ b ns (c + 1)) → opR f g (fun τ => ∃ b' ns', Inv τ b' ns' (c + 1)) := fun ⟨k, σ1, v, σ2, a1, a2, a3, a4, a5⟩ => ⟨k, σ1, v, σ2, a1, a2, a3, a4, b, ns, a5⟩
  unfold f6 f28
  rcases num_cases x ns.length (by omega) with ⟨p, hp, rfl⟩ | hx
  · have i1 : inB (Int32.ofNat p) 31 := oN_rg (by omega) (by decide)
    have i2 : inB (Int32.ofNat p) 30 := oN_rg (by omega) (by decide)
    have q1 := oN_n (show p < 2147483648 by omega)
    have bk := (hs.1.2 p hp).2
    have nlen : ∀ i, i < ns.length → (nd ns i).2.2.1.length ≤ 100000 := fun i hi => by
      have k := (flW_name (rest := []) (nd_some hi)).2
      have := hs.2.2
      omega
    rw [f128_y ht hn hp, cIo, if_neg (show ¬ (1 : Int32) = 0 by decide), if_pos i2, ltE]
    simp only [q1]
    rw [(ht.1.2 p hp).1]
    -- the reference up to the name
    have rf : ∀ τ : St, mTr τ ns → ((nd ns p).1 = 1 ∨ (nd ns p).1 = 2) → f187 F (Int32.ofNat p) τ = f187_40 F (Int32.ofNat p) τ := fun τ hτ hk => by
      unfold f187
      rw [f182_y hτ hn hp, cIo, if_neg (show ¬ (1 : Int32) = 0 by decide), if_pos i1, ltE]
      simp only [q1]
      rw [(hτ.2 p hp).1.1]
      rcases hk with k | k
      · rw [k, if_pos (by rfl)]
      · rw [k, if_neg (by decide), if_pos i1, ltE, if_pos (by rfl)]
    by_cases hk : (nd ns p).1 = 1 ∨ (nd ns p).1 = 2
    · have h0 : 0 < p := by
        by_cases z : p = 0
        · rw [z, hw.2.1] at hk
          exact absurd hk (by decide)
        · omega
      have both : (if Int32.ofNat (nd ns p).1 = 1 then f28_57 F (Int32.ofNat p) σ else if inB (Int32.ofNat p) 30 then lt (Int32.ofNat (nd ns p).1) fun c16 => if c16 = 2 then f28_57 F (Int32.ofNat p) σ else oT 11 σ else none) = f28_57 F (Int32.ofNat p) σ := by
        rcases hk with k | k
        · rw [k, if_pos (by rfl)]
        · rw [k, if_neg (by decide), if_pos i2, ltE, if_pos (by rfl)]
      rw [both]
      have e96 : f96 F 1001 0 σ = oI (Int32.ofNat (nmE b 0 - 0)) σ := f96_e (p := 0) (by omega) hb h.1.1 (by omega)
      have nl := nmE_le (b := b) (p := 0) (Nat.zero_le _)
      have bad : ∀ τ : St, τ.1 = σ.1 → ¬ (0 < b.length ∧ nmE b 0 = b.length) → f187 F (Int32.ofNat p) τ = oI 0 (uI τ 1315 0 3) := fun τ hτ hg => by
        have mt : mTr τ ns := hm.fr (fun a _ _ => by rw [hτ]) (by rw [hτ])
        have mb : bufM τ b := h.1.2.1.fr (by rw [hτ]) (by rw [hτ])
        obtain ⟨k, hk9⟩ : ∃ k, F = k + 1 := ⟨F - 1, by omega⟩
        have z : ∀ G, G = k + 1 → f187_67 F G (Int32.ofNat p) 0 0 τ = oI 0 (uI τ 1315 0 3) := fun G hG => by
          rw [hG, f187_67.eq_2, ltE, mt.1, if_pos (show (0 : Int32) < Int32.ofNat ns.length from (oN_lt (p := 0) (by decide) (by omega)).mpr hw.1), if_pos (by rfl), f187_137_0]
        rw [rf τ mt hk]
        unfold f187_40 f187_63 f187_64
        rw [z F hk9, ltE, mb.1]
        by_cases c0 : 0 < b.length
        · have e63 : f163 F 0 τ = oI (Int32.ofNat (nmE b 0)) τ := f163_e (p := 0) (by omega) hb mb (by omega)
          rw [if_pos (show (0 : Int32) < Int32.ofNat b.length from (oN_lt (p := 0) (by decide) (by omega)).mpr c0), e63, cIo, ltE, mb.1, if_neg (fun g => hg ⟨c0, (oN_eq (by omega) (by omega)).mp g⟩)]
          exact z F hk9
        · rw [if_neg (show ¬ (0 : Int32) < Int32.ofNat b.length from fun g => c0 ((oN_lt (p := 0) (by decide) (by omega)).mp g))]
      have good1 : ∀ τ : St, mTr τ ns → bufM τ b → 0 < b.length ∧ nmE b 0 = b.length → f187 F (Int32.ofNat p) τ = f187_67 F F (Int32.ofNat p) 1 0 τ := fun τ mt mb hg => by
        have e63 : f163 F 0 τ = oI (Int32.ofNat (nmE b 0)) τ := f163_e (p := 0) (by omega) hb mb (by omega)
        rw [rf τ mt hk]
        unfold f187_40 f187_64
        rw [ltE, mb.1, if_pos (show (0 : Int32) < Int32.ofNat b.length from (oN_lt (p := 0) (by decide) (by omega)).mpr hg.1), e63, cIo, ltE, mb.1, if_pos (by rw [hg.2])]
      unfold f28_57
      rw [e96, cIo, Nat.sub_zero]
      by_cases hz : nmE b 0 = 0
      · rw [if_pos (by rw [hz]; rfl), cHt, if_neg (by decide), if_neg (by decide), if_pos (by rfl)]
        exact wrap (opR.no (F := F) h (by decide) (by decide) (fun τ hτ => bad τ hτ (fun g => by omega)))
      · rw [if_neg (fun g => hz ((oE0 (by omega)).mp g)), ltE, h.1.1.1]
        by_cases hg : nmE b 0 = b.length
        · have hgg : 0 < b.length ∧ nmE b 0 = b.length := ⟨by omega, hg⟩
          rw [if_pos (by rw [hg]), hg]
          rcases f29_e (F := F) hF hb h.1.1 ht hs hw hp with ⟨a1, a2, a3⟩ | ⟨a1, a2⟩
          · rw [a1, cIo, if_neg (show ¬ (1 : Int32) = 0 by decide), cHt, if_neg (by decide), if_neg (by decide), if_pos (by rfl)]
            refine wrap (opR.no (F := F) h (by decide) (by decide) (fun τ hτ => ?_))
            have mt : mTr τ ns := hm.fr (fun a _ _ => by rw [hτ]) (by rw [hτ])
            have mb : bufM τ b := h.1.2.1.fr (by rw [hτ]) (by rw [hτ])
            obtain ⟨k, hk9⟩ : ∃ k, F = k + ns.length + 1 := ⟨F - ns.length - 1, by omega⟩
            have m0 := f187_67_e (F := F) (by omega) hb mb mt hw hs.1 nlen hp a2 ns.length k 0 true (by omega)
            rw [← hk9] at m0
            obtain ⟨g2, b1, b2⟩ := m0
            have b1' : f187_67 F F (Int32.ofNat p) 1 0 τ = f187_137 F (Int32.ofNat p) (b2i g2) τ := b1
            have g2f : g2 = false := by
              rw [← Bool.not_eq_true]
              intro hh
              obtain ⟨q, t1, t2, t3, t4, t5⟩ := a3
              exact (b2.mp hh).2 q (Nat.zero_le _) t1 ⟨t2, t3, t4, t5⟩
            rw [good1 τ mt mb hgg, b1', g2f]
            exact f187_137_0
          · have c4 : capR 1014 = 4096 := by decide
            have tn : tot ns = (flW ns).length + (flT ns).length := rfl
            rw [a1, cIo, if_pos (by rfl), f89_r (Or.inr (Or.inr (Or.inl rfl))) ht.2.1 (by rw [c4]; omega) (by omega), cIo, c4, decide_eq_true (by omega), if_neg (show ¬ b2i true = 0 by decide)]
            have hk3 : (nd ns p).1 ≠ 3 := by omega
            have fl := nm_fl (b := b) hp hk3
            have wn := nm_wf hw h0 hp hk hO
            have lnm := nmL_len (b := b) hp
            have twn : tot (nmL ns p b) + (nd ns p).2.2.1.length = tot ns + b.length := by
              have k := (flW_name (rest := []) (nd_some hp)).2
              have k2 : wF ns p + (nd ns p).2.2.1.length ≤ (flW ns).length := k
              unfold tot
              rw [fl.1, fl.2, List.length_append, List.length_append, List.length_take, List.length_drop]
              omega
            have tw2 : tot (nmL ns p b) = (flW (nmL ns p b)).length + (flT (nmL ns p b)).length := rfl
            have hs2 : szOk (nmL ns p b) := ⟨⟨by omega, wn.lv⟩, by omega, by omega⟩
            obtain ⟨τ, b1, b2, b3⟩ := f142_e (F := F) (by omega) ht hs h.1.1 hb hp hk3 hs2 (by omega)
            rw [b1, cVo, f91_r, cVo, ltE, cHo, if_pos in01, t0, ltE]
            have c3 : cTr (uI (uI τ 1001 1 0) 1000 7 0) (nmL ns p b) := b3.fr (fun a h1 h2 => by rw [u_ne (by omega), u_ne (by omega)])
            have ag : agL σ (uI (uI τ 1001 1 0) 1000 7 0) := (b2.l.uI (by decide)).uI (by decide)
            have f7 : (uI (uI τ 1001 1 0) 1000 7 0).1 1000 7 = 0 := u_eq
            have fb : bufC (uI (uI τ 1001 1 0) 1000 7 0) [] := ⟨by rw [u_ne (by decide), u_eq]; rfl, fun j hj => absurd hj (Nat.not_lt_zero _)⟩
            generalize uI (uI τ 1001 1 0) 1000 7 0 = σ4 at c3 ag f7 fb ⊢
            have e1 : (uJ σ4 1361 0 (Int32.ofNat b.length).toInt64).1 = σ4.1 := rfl
            have mt : mTr (uJ σ4 1361 0 (Int32.ofNat b.length).toInt64) ns := hm.fr (fun e h1 _ => ag.1 e (by omega)) (congrFun (ag.1 1315 (by omega)) 3)
            have mb : bufM (uJ σ4 1361 0 (Int32.ofNat b.length).toInt64) b := h.1.2.1.fr (congrFun (ag.1 1315 (by omega)) 1) (ag.1 1316 (by omega))
            have fin : f187 F (Int32.ofNat p) (uJ σ4 1361 0 (Int32.ofNat b.length).toInt64) = f187_137 F (Int32.ofNat p) 1 (uJ σ4 1361 0 (Int32.ofNat b.length).toInt64) := by
              rw [good1 _ mt mb hgg]
              by_cases k2 : (nd ns p).1 = 2
              · obtain ⟨k, hk9⟩ : ∃ k, F = k + ns.length + 1 := ⟨F - ns.length - 1, by omega⟩
                have m0 := f187_67_e (F := F) (by omega) hb mb mt hw hs.1 nlen hp k2 ns.length k 0 true (by omega)
                rw [← hk9] at m0
                obtain ⟨g2, d1, d2⟩ := m0
                have g2t : g2 = true := d2.mpr ⟨rfl, fun i _ h4 g => a2 ⟨k2, i, h4, g.1, g.2.1, g.2.2.1, g.2.2.2⟩⟩
                rw [g2t] at d1
                exact d1
              · obtain ⟨k, hk9⟩ : ∃ k, F = k + 1 := ⟨F - 1, by omega⟩
                have z : ∀ G, G = k + 1 → f187_67 F G (Int32.ofNat p) 1 0 (uJ σ4 1361 0 (Int32.ofNat b.length).toInt64) = f187_137 F (Int32.ofNat p) 1 (uJ σ4 1361 0 (Int32.ofNat b.length).toInt64) := fun G hG => by
                  rw [hG, f187_67.eq_2, ltE, mt.1, if_pos (show (0 : Int32) < Int32.ofNat ns.length from (oN_lt (p := 0) (by decide) (by omega)).mpr hw.1), if_neg (by decide), if_pos i1, ltE]
                  simp only [q1]
                  rw [(mt.2 p hp).1.1, if_neg (fun g => k2 ((oE2 (by omega)).mp g))]
                exact z F hk9
            have mt3 : mTr (uI (uI (uI (uJ σ4 1361 0 (Int32.ofNat b.length).toInt64) 1315 0 0) 1315 13 0) 1315 14 0) ns := mt.fr (fun a _ _ => by rw [u_ne (by omega), u_ne (by omega), u_ne (by omega)]) (by rw [u_at, if_neg (by decide), u_at, if_neg (by decide), u_at, if_neg (by decide)])
            have mb3 : bufM (uI (uI (uI (uJ σ4 1361 0 (Int32.ofNat b.length).toInt64) 1315 0 0) 1315 13 0) 1315 14 0) b := mb.fr (by rw [u_at, if_neg (by decide), u_at, if_neg (by decide), u_at, if_neg (by decide)]) (by rw [u_ne (by decide), u_ne (by decide), u_ne (by decide)])
            obtain ⟨υ, d1, d2, d3, d4, d5, d6⟩ := f187_158_e (F := F) hF hb hO mb3 mt3 hw hs.1 h0 hp hk (by omega) (by rw [u_at, if_neg (by decide), u_eq]) u_eq
            have qq : agQ (uJ σ4 1361 0 (Int32.ofNat b.length).toInt64) (uI (uI (uI (uJ σ4 1361 0 (Int32.ofNat b.length).toInt64) 1315 0 0) 1315 13 0) 1315 14 0) := ((agQ.uI ⟨fun _ _ => rfl, rfl⟩ (by decide)).uI (by decide)).uI (by decide)
            have q2 := qq.trans d2
            refine ⟨0, _, _, υ, rfl, ?_, ?_, fun _ => by rw [q2.2]; exact uJ_j, [], nmL ns p b, ⟨⟨fb.fr (q2.1 1001 (by omega)) (q2.1 1002 (by omega)), d5, by decide, okB_nil⟩, ⟨c3.fr (fun e h1 h2 => q2.1 e (by omega)), d3, wn, by omega⟩, ?_, Or.inl ⟨d4, by rw [q2.1 1000 (by omega)]; exact f7⟩, ?_⟩⟩
            · rw [fin]
              unfold f187_137 f173
              rw [if_neg (show ¬ (1 : Int32) = 0 by decide), ltE, ltE, ltE, cVo]
              exact d1
            · rw [d6, u_at, if_neg (by decide), u_at, if_neg (by decide), u_eq]
            · have := h.2.2.1
              rw [List.length_nil]
              omega
            · exact h.2.2.2.2.up (by rw [q2.2]; exact congrArg (fun z => z.2.2) ag.2) (by omega)
        · rw [if_neg (fun g => hg ((oN_eq (by omega) (by omega)).mp g)), cHt, if_neg (by decide), if_neg (by decide), if_pos (by rfl)]
          exact wrap (opR.no (F := F) h (by decide) (by decide) (fun τ hτ => bad τ hτ (fun g => hg g.2)))
    · rw [if_neg (fun g => hk (Or.inl ((oE1 (by omega)).mp g))), if_pos i2, ltE, if_neg (fun g => hk (Or.inr ((oE2 (by omega)).mp g))), cHt, if_neg (by decide), if_pos (by rfl)]
      refine wrap (opR.no (F := F) h (by decide) (by decide) (fun τ hτ => ?_))
      have mt : mTr τ ns := hm.fr (fun a _ _ => by rw [hτ]) (by rw [hτ])
      unfold f187 f172
      rw [f182_y mt hn hp, cIo, if_neg (show ¬ (1 : Int32) = 0 by decide), if_pos i1, ltE]
      simp only [q1]
      rw [(mt.2 p hp).1.1, if_neg (fun g => hk (Or.inl ((oE1 (by omega)).mp g))), if_pos i1, ltE, if_neg (fun g => hk (Or.inr ((oE2 (by omega)).mp g))), ltE, cIo]
  · rw [f128_n ht hx, cIo, if_pos (by rfl), cHt, if_pos (by rfl)]
    refine wrap (opR.no (F := F) h (by decide) (by decide) (fun τ hτ => ?_))
    have hmt : mTr τ ns := hm.fr (fun a _ _ => by rw [hτ]) (by rw [hτ])
    unfold f187 f172
    rw [f182_n hmt hx, cIo, if_pos (by rfl), ltE, cIo]
end ORM
