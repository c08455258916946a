section OIN
variable {F c : Nat} {x w : Int32} {σ : St} {b : List Int32} {ns : List Nd}
theorem mRd.th {p : Nat} {ds : List Md} {cs : List Int32} {v : Int32} (h : mRd σ b p ds cs) : mRd (uI σ 1315 0 v) b p ds cs := by
  obtain ⟨h1, h2, h3, h4, ⟨h5, h6⟩, h7⟩ := h
  refine ⟨⟨?_, fun j hj => ?_⟩, ?_, ?_, ?_, ⟨?_, fun j hj => ?_⟩, fun i x hx => ?_⟩
  · rw [u_at, if_neg (by decide)]
    exact h1.1
  · rw [u_ne (by decide)]
    exact h1.2 j hj
  · rw [u_at, if_neg (by decide)]
    exact h2
  · rw [u_at, if_neg (by decide)]
    exact h3
  · rw [u_at, if_neg (by decide)]
    exact h4
  · rw [u_at, if_neg (by decide)]
    exact h5
  · rw [u_ne (by decide)]
    exact h6 j hj
  · rw [u_ne (by decide), u_ne (by decide), u_ne (by decide), u_ne (by decide), u_ne (by decide), u_ne (by decide)]
    exact h7 i x hx
theorem wr_p1 {d : Nat} (h : okC d) : wr d + 1 = (if d = 10 then 2 else if d = 13 then 3 else 4) := by
  rcases h with h | h | h <;> rw [h] <;> rfl
/-- the reference, once the place is known -/
theorem f181_126_e {p a lv : Nat} {σ : St} (hF : 5000 ≤ F) (hb : b.length ≤ 120) (hO : okB b) (hB : bufM σ b) (h : mTr σ ns) (hw : wf ns) (hl : lvOk ns) (hp : p < ns.length) (hlv : 1 ≤ lv) (hlv9 : lv ≤ 9) (hpl : plc ns a lv) (ht : tot ns + b.length ≤ 4096) (ha : (w = 0 ∧ a = skn isAt ns (p + 1)) ∨ (w = 2 ∧ a = p) ∨ (w ≠ 0 ∧ w ≠ 2 ∧ a = p + siz ns p + 1)) :
    match sPc b (30 - ns.length) lv with
    | .inl d => ∃ τ, f181_126 F (Int32.ofNat p) w (Int32.ofNat lv) σ = oI 0 τ ∧ τ.1 1315 0 = wr d + 1 ∧ agQ σ τ ∧ mTr τ ns ∧ bufM τ b ∧ (∀ j, 33 < j → τ.1 1315 j = σ.1 1315 j)
    | .inr m => ∃ τ, f181_126 F (Int32.ofNat p) w (Int32.ofNat lv) σ = oI (Int32.ofNat (if jnb (jnO (insL ns a m) a) (a - 1) then a - 1 else a)) τ ∧ agQ σ τ ∧ mTr τ (inO ns a m) ∧ τ.1 1315 34 = 0 ∧ bufM τ [] ∧ τ.1 1315 0 = 0 := by
  have hn := hl.1
  have i1 : inB (Int32.ofNat p) 31 := oN_rg (by omega) (by decide)
  have q1 := oN_n (show p < 2147483648 by omega)
  have m0 := f184_e (F := F) (lv := lv) (th := ns.length) hF hb hO hB h.1 hn hlv (by omega)
  unfold f181_126
  cases hq : sPc b (30 - ns.length) lv with
  | inl d =>
    rw [hq] at m0
    obtain ⟨τ, a1, a2, a3⟩ := m0
    dsimp only
    unfold f172
    rw [a1, cIo, if_pos (by rfl), ltE, a3, ltE, cIo]
    refine ⟨_, rfl, u_eq, a2.q.uI (by decide), h.fr (fun a h1 h2 => by rw [u_ne (by omega)]; exact a2.1 a (by omega)) (by rw [u_at, if_neg (by decide)]; exact a2.2.1 3 (by omega)), ⟨?_, fun j hj => ?_⟩, fun j hj => ?_⟩
    · rw [u_at, if_neg (by decide), a2.2.1 1 (by omega)]
      exact hB.1
    · rw [u_ne (by decide), a2.1 1316 (by omega)]
      exact hB.2 j hj
    · rw [u_at, if_neg (by omega)]
      exact a2.2.1 j (by omega)
  | inr m =>
    have pm : pce m lv := sPc_wf hO hlv hlv9 hq
    have ml := sPc_len hO hq
    have mt := sPc_tot hO hq
    have hm0 := pm.1
    rw [hq] at m0
    obtain ⟨τ, p2, ds, cs, a1, a2, a3, a4, a5, a6, a7⟩ := m0
    dsimp only
    rw [a1, cIo, if_neg (show ¬ (1 : Int32) = 0 by decide), ltE]
    have h1 : mTr (uI τ 1315 0 0) ns := (h.fr (fun a h1 h2 => a2.1 a (by omega)) (a2.2.1 3 (by omega))).th
    have z0 : (uI τ 1315 0 0).1 1315 0 = 0 := u_eq
    have aq : agQ σ (uI τ 1315 0 0) := a2.q.uI (by decide)
    have rd := a3.th (v := 0)
    generalize uI τ 1315 0 0 = σ1 at h1 z0 aq rd ⊢
    obtain ⟨υ, c1, c2, c3, c4, c5, c6⟩ := f181_208_e (F := F) (a := a) hF hb (by omega) h1 hw hl hpl pm rd a4 (by omega) (by omega)
    refine ⟨υ, ?_, aq.trans c2, c3, c4, c5, by rw [c6]; exact z0⟩
    rw [← c1]
    unfold f181_171 f185
    rcases ha with ⟨w0, ea⟩ | ⟨w2, ea⟩ | ⟨w0, w2, ea⟩
    · have g1 := skn_ge (f := isAt) (ns := ns) (p := p + 1)
      have g2 := skn_le (f := isAt) (ns := ns) (p := p + 1) (by omega)
      obtain ⟨m2, hm2⟩ : ∃ m2, skn isAt ns (p + 1) = p + 1 + m2 := ⟨skn isAt ns (p + 1) - (p + 1), by omega⟩
      obtain ⟨k, hk⟩ : ∃ k, F = k + m2 + 1 := ⟨F - m2 - 1, by omega⟩
      have k0 := f181_182_e (F := F) (y4 := Int32.ofNat lv) h1 hl m2 k (p + 1) (by omega) hm2
      rw [← hk, ← hm2, ← ea] at k0
      rw [w0, if_neg (by decide), if_pos i1, ltE, cIo, if_pos (by rfl), oN_p1, k0]
    · rw [w2, if_pos (by rfl), if_neg (by decide), ea]
    · rw [if_neg w2, if_pos i1, ltE]
      simp only [q1]
      rw [(h1.2 p hp).2.1, cIo, if_neg w0, oN_ad, oN_p1, ea]
theorem op_insert (hF : 5000 ≤ F) (hc : c ≤ 512) (h : Inv σ b ns c) : opR (f4 F x w σ) (f181 F x w) (fun τ => ∃ b' ns', Inv τ b' ns' (c + 1)) := by
  have hn := h.2.1.2.2.2
  have hs := (h.sz hc).1
  have htt := (h.sz hc).2
  have ht := h.2.1.1
  have hm := h.2.1.2.1
  have hw := h.2.1.2.2.1
  have hb := h.1.2.2.1
  have hO := h.1.2.2.2
  have wrap : ∀ {f : Rs} {g : St → Rs}, opR f g (fun τ => Inv τ b ns (c + 1)) → opR f g (fun τ => ∃ b' ns', Inv τ b' ns' (c + 1)) := fun ⟨k, σ1, v, σ2, a1, a2, a3, a4, a5⟩ => ⟨k, σ1, v, σ2, a1, a2, a3, a4, b, ns, a5⟩
  unfold f4 f24
  rcases num_cases x ns.length (by omega) with ⟨p, hp, rfl⟩ | hx
  · rw [f25_e ht hs hp, cIo]
    by_cases hk : okP ns p w
    · rw [decide_eq_true hk, if_neg (show ¬ b2i true = 0 by decide)]
      have i2 : inB (Int32.ofNat p) 30 := oN_rg (by omega) (by decide)
      have i1 : inB (Int32.ofNat p) 31 := oN_rg (by omega) (by decide)
      have q1 := oN_n (show p < 2147483648 by omega)
      -- the place and its level
      have key : ∃ a lv, 1 ≤ lv ∧ lv ≤ 9 ∧ plc ns a lv ∧ ((w = 0 ∧ a = skn isAt ns (p + 1)) ∨ (w = 2 ∧ a = p) ∨ (w ≠ 0 ∧ w ≠ 2 ∧ a = p + siz ns p + 1)) ∧ (((w = 0 ∨ w = 1) ∧ lv = (nd ns p).2.1 + 1) ∨ ((w = 2 ∨ w = 3) ∧ lv = (nd ns p).2.1)) := by
        rcases hk with ⟨hw01, k1⟩ | ⟨hw23, k2, k3⟩
        · have h0 : 0 < p := by
            by_cases z : p = 0
            · rw [z, hw.2.1] at k1
              exact absurd k1 (by decide)
            · omega
          have kk := (hw.2.2.2 p h0 hp).1
          have l8 := (kk.2.2.2.2.2.2.2.2 k1).2
          rcases hw01 with e | e
          · exact ⟨_, _, by omega, by omega, plc_0 hw hp k1, Or.inl ⟨e, rfl⟩, Or.inl ⟨Or.inl e, rfl⟩⟩
          · exact ⟨_, _, by omega, by omega, plc_e hw hp (Or.inl ⟨rfl, k1⟩), Or.inr (Or.inr ⟨by rw [e]; decide, by rw [e]; decide, rfl⟩), Or.inl ⟨Or.inr e, rfl⟩⟩
        · have h0 : 0 < p := by
            by_cases z : p = 0
            · rw [z, hw.2.1] at k3
              exact absurd k3 (by decide)
            · omega
          have kk := (hw.2.2.2 p h0 hp).1
          have l9 := kk.2.2.2.1
          rcases hw23 with e | e
          · exact ⟨_, _, by omega, l9, plc_b hw h0 hp k2, Or.inr (Or.inl ⟨e, rfl⟩), Or.inr ⟨Or.inl e, rfl⟩⟩
          · exact ⟨_, _, by omega, l9, plc_e hw hp (Or.inr ⟨rfl, k2⟩), Or.inr (Or.inr ⟨by rw [e]; decide, by rw [e]; decide, rfl⟩), Or.inr ⟨Or.inr e, rfl⟩⟩
      obtain ⟨a, lv, l1, l9, pl, ha, hlv⟩ := key
      have haf : ∀ τ : St, cTr τ ns → f26 F (Int32.ofNat p) w τ = oI (Int32.ofNat a) τ := fun τ hτ => by
        rcases ha with ⟨w0, ea⟩ | ⟨w2, ea⟩ | ⟨w0, w2, ea⟩
        · rw [w0, ea]
          exact f26_0 (by omega) hτ hs hp
        · rw [w2, ea]
          exact f26_2
        · rw [ea]
          exact f26_e hτ hs hp w0 w2
      -- the class
      have cl : ∃ z1 z2, z1 + z2 = Int32.ofNat lv ∧ (if w = 0 then f24_28 F (Int32.ofNat p) w σ else if w = 1 then f24_28 F (Int32.ofNat p) w σ else f24_33 F (Int32.ofNat p) w 0 σ) = f24_56 F (Int32.ofNat p) w z1 z2 σ := by
        rcases hlv with ⟨e, el⟩ | ⟨e, el⟩
        · refine ⟨Int32.ofNat (nd ns p).2.1, 1, by rw [oN_p1, el], ?_⟩
          have z : f24_28 F (Int32.ofNat p) w σ = f24_56 F (Int32.ofNat p) w (Int32.ofNat (nd ns p).2.1) 1 σ := by
            unfold f24_28 f24_33
            rw [if_pos i2, ltE]
            simp only [q1]
            rw [(ht.1.2 p hp).2.1, if_neg (show ¬ (1 : Int32) = 0 by decide)]
          rcases e with e | e
          · rw [if_pos e, z]
          · rw [if_neg (by rw [e]; decide), if_pos e, z]
        · refine ⟨Int32.ofNat (nd ns p).2.1, 0, by rw [Int32.add_zero, el], ?_⟩
          have n0 : ¬ w = 0 := by rcases e with e | e <;> rw [e] <;> decide
          have n1 : ¬ w = 1 := by rcases e with e | e <;> rw [e] <;> decide
          rw [if_neg n0, if_neg n1]
          unfold f24_33
          rw [if_pos i2, ltE]
          simp only [q1]
          rw [(ht.1.2 p hp).2.1, if_pos trivial]
      obtain ⟨z1, z2, hz, ez⟩ := cl
      rw [ez]
      have m0 := f24_56_e (F := F) (y1 := Int32.ofNat p) (y2 := w) hF hb hO h.1.1 ht hs hw htt l1 l9 hz pl haf
      -- the reference, on whatever the class leaves
      have rf : ∀ τ : St, (∀ d, 1315 ≤ d → τ.1 d = σ.1 d) → f181 F (Int32.ofNat p) w τ = f181_126 F (Int32.ofNat p) w (Int32.ofNat lv) τ ∧ bufM τ b ∧ mTr τ ns := fun τ hτ => by
        have mt : mTr τ ns := hm.fr (fun d h1 _ => hτ d (by omega)) (by rw [hτ 1315 (by omega)])
        refine ⟨?_, h.1.2.1.fr (by rw [hτ 1315 (by omega)]) (hτ 1316 (by omega)), mt⟩
        rw [(f181_e (F := F) mt hw hs.1 hp).1 hk]
        unfold f181_94
        rw [if_neg (show ¬ (1 : Int32) = 0 by decide), if_pos i1, if_pos i1]
        simp only [q1]
        rw [(mt.2 p hp).1.2.1, ltE, ltE, oN_p1]
        rcases hlv with ⟨e, el⟩ | ⟨e, el⟩
        · rw [if_pos (by rcases e with e | e <;> rw [e] <;> decide), el]
        · rw [if_neg (by rcases e with e | e <;> rw [e] <;> decide), el]
      cases hq : sPc b (30 - ns.length) lv with
      | inl d =>
        have dc := sPc_c hO hb hq
        rw [hq] at m0
        obtain ⟨τ, a1, a2⟩ := m0
        rw [a1, cHt]
        have hτ : ∀ e, 1315 ≤ e → (uX τ d).1 e = σ.1 e := fun e he => a2.1 e (by omega)
        obtain ⟨r1, r2, r3⟩ := rf (uX τ d) hτ
        have m1 := f181_126_e (F := F) (w := w) (a := a) hF hb hO r2 r3 hw hs.1 hp l1 l9 pl htt ha
        rw [hq] at m1
        obtain ⟨υ, b1, b2, b3, b4, b5, b6⟩ := m1
        rw [wr_p1 dc] at b2
        refine ⟨(if d = 10 then 2 else if d = 13 then 3 else 4), uX τ d, 0, υ, ?_, by rw [r1]; exact b1, b2, fun g => ?_, b, ns, ⟨⟨?_, b5, hb, hO⟩, ⟨?_, b4, hw, hn⟩, ?_, ?_, ?_⟩⟩
        · rcases dc with e | e | e <;> rw [e] <;> rfl
        · rcases dc with e | e | e <;> rw [e] at g <;> exact absurd g (by decide)
        · exact h.1.1.fr (by rw [b3.1 1001 (by omega)]; exact a2.1 1001 (by omega)) (by rw [b3.1 1002 (by omega)]; exact a2.1 1002 (by omega))
        · exact (a2.c ht).fr (fun e h1 h2 => b3.1 e (by omega))
        · have := h.2.2.1
          omega
        · have q := h.2.2.2.1
          unfold qrs at q ⊢
          rw [b6 34 (by omega), b6 35 (by omega), b3.1 1000 (by omega)]
          rw [show (uX τ d).1 = τ.1 from rfl, a2.1 1315 (by omega), a2.1 1000 (by omega)]
          exact q
        · have e1 : exo (uX τ d) (c + 1) := h.2.2.2.2.x (by rw [a2.2]) (by rcases dc with e | e | e <;> rw [e] <;> decide)
          exact e1.up (by rw [b3.2]) (Nat.le_refl _)
      | inr m =>
        rw [hq] at m0
        obtain ⟨τ, a1, a2, a3, a4, a5⟩ := m0
        rw [a1, cHo, if_pos in01, t0, ltE]
        generalize hv : Int32.ofNat (if jnb (jnO (insL ns a m) a) (a - 1) then a - 1 else a) = v at a1
        have hτ : ∀ e, 1315 ≤ e → (uJ τ 1361 0 v.toInt64).1 e = σ.1 e := fun e he => a2.1 e (by omega)
        obtain ⟨r1, r2, r3⟩ := rf (uJ τ 1361 0 v.toInt64) hτ
        have m1 := f181_126_e (F := F) (w := w) (a := a) hF hb hO r2 r3 hw hs.1 hp l1 l9 pl htt ha
        rw [hq] at m1
        obtain ⟨υ, b1, b2, b3, b4, b5, b6⟩ := m1
        rw [hv] at b1
        have pm : pce m lv := sPc_wf hO l1 l9 hq
        have ml := sPc_len hO hq
        have mt := sPc_tot hO hq
        have ik := ins_k hw pl pm
        have tl : tot (inO ns a m) = tot ns + tot m := by
          unfold inO
          rw [jnO_tot (nm_of (jn_ok (j := a) ik.1 ik.2.1) (jn_0 (j := a) ik.2.1)), jnO_tot (nm_of ik.1 ik.2.1)]
          unfold insL tot
          have e1 : flW ns = flW (ns.take a) ++ flW (ns.drop a) := by rw [← flW_app, List.take_append_drop]
          have e2 : flT ns = flT (ns.take a) ++ flT (ns.drop a) := by rw [← flT_app, List.take_append_drop]
          have l1 := congrArg List.length e1
          have l2 := congrArg List.length e2
          rw [List.length_append] at l1 l2
          rw [flW_app, flW_app, flT_app, flT_app, List.length_append, List.length_append, List.length_append, List.length_append]
          omega
        refine ⟨0, uJ τ 1361 0 v.toInt64, v, υ, rfl, by rw [r1]; exact b1, b6, fun _ => ?_, [], inO ns a m, ⟨⟨?_, b5, by decide, okB_nil⟩, ⟨?_, b3, in_wf hw pl pm, ?_⟩, ?_, Or.inl ⟨b4, ?_⟩, ?_⟩⟩
        · rw [b2.2]
          exact uJ_j
        · exact a4.fr (b2.1 1001 (by omega)) (b2.1 1002 (by omega))
        · exact a3.fr (fun e h1 h2 => b2.1 e (by omega))
        · have j1 := (jnO_len (D := jnO (insL ns a m) a) (j := a - 1)).1
          have j2 := (jnO_len (D := insL ns a m) (j := a)).1
          have j3 := ins_len (m := m) pl.2.1
          unfold inO
          have := pm.1
          omega
        · have := h.2.2.1
          rw [tl, List.length_nil]
          omega
        · rw [b2.1 1000 (by omega)]
          exact a5
        · exact h.2.2.2.2.up (by rw [b2.2]; exact congrArg (fun z => z.2.2) a2.2) (by omega)
    · rw [decide_eq_false hk, if_pos b2i_f, cHt, if_pos (by rfl)]
      refine wrap (opR.no (F := F) h (by decide) (by decide) (fun τ hτ => ?_))
      have hmt : mTr τ ns := hm.fr (fun a _ _ => by rw [hτ]) (by rw [hτ])
      exact (f181_e (F := F) hmt hw hs.1 hp).2 hk
  · unfold f25
    rw [f128_n ht hx, cIo, if_pos (by rfl), cIo, if_pos (by rfl), cHt, if_pos (by rfl)]
    refine wrap (opR.no (F := F) h (by decide) (by decide) (fun τ hτ => ?_))
    have hmt : mTr τ ns := hm.fr (fun a _ _ => by rw [hτ]) (by rw [hτ])
    unfold f181
    rw [f182_n hmt hx, cIo, if_pos (by rfl)]
    unfold f181_21 f181_22 f181_51 f181_94 f172
    rw [if_pos (by rfl), if_pos (by rfl), if_pos (by rfl), ltE, cIo]
end OIN
