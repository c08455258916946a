def f188_18 (F : Nat) (y1 : Int32) (z0 : Int32) (σ : St) : Rs := f188_21 F F y1 z0 0 σ
theorem s188_18 {sc : aSc} (hv : vOk sc) (F : Nat) (y1 : Int32) (z0 : Int32) (σ : St) : bEx sc 0 188 18 [some (.ref 1315), some (.int y1), none, none] [.int z0] σ (f188_18 F y1 z0 σ) := by
  unfold f188_18
  refine b_run [(18, .istore_n 2, 0, 0, .null), (19, .iconst 0, 0, 0, .null), (20, .istore_n 3, 0, 0, .null)] (pc' := 21) (ls' := [some (.ref 1315), some (.int y1), some (.int z0), some (.int 0)]) (st' := []) (by decide +kernel) rfl ?_
  exact b_wk (wS (wS (wS (wS w0)))) (s188_21 hv F F y1 z0 0 σ)
/-- TreeStoreModel.namedSo(I)Z -/
def f188 (F : Nat) (x1 : Int32) (σ : St) : Rs := if inB x1 31 then lt (σ.1 1320 x1.toNatClampNeg) fun c1 => 
    lt (σ.1 1315 1) fun c2 => 
    if c1 = c2 then f188_18 F x1 1 σ
    else f188_18 F x1 0 σ else none
theorem s188 {sc : aSc} (hv : vOk sc) (F : Nat) (x1 : Int32) (σ : St) : bEx sc 0 188 0 [some (.ref 1315), some (.int x1), none, none] [] σ (f188 F x1 σ) := by
  unfold f188
  refine b_run [(0, .aload_n 0, 0, 0, .null)] (pc' := 1) (ls' := [some (.ref 1315), some (.int x1), none, none]) (st' := [.ref 1315]) (by decide +kernel) rfl ?_
  refine b_getC (b := 1320) (q := 22) (ci := 9) (k := 7) (w := .null) (by decide +kernel) (by decide +kernel) ?_
  refine b_run [(4, .iload_n 1, 0, 0, .null)] (pc' := 5) (ls' := [some (.ref 1315), some (.int x1), none, none]) (st' := [.int x1, .ref 1320]) (by decide +kernel) rfl ?_
  refine b_guard (fun hb => ?_)
  refine b_aI (ci := 0) (y := 0) (w := .null) (by decide +kernel) (by decide +kernel) hb (fun c1 => ?_)
  refine b_run [(6, .aload_n 0, 0, 0, .null)] (pc' := 7) (ls' := [some (.ref 1315), some (.int x1), none, none]) (st' := [.ref 1315, .int c1]) (by decide +kernel) rfl ?_
  refine b_gI (q := 155) (ci := 9) (k := 1) (w := .null) (by decide +kernel) (by decide +kernel) (fun c2 => ?_)
  refine b_icF (c := .ne) (o := 7) (t := 17) (y := 0) (w := .null) (by decide +kernel) cmp_ne (fun _ => ?_) (fun _ => ?_)
  · refine b_run [(13, .iconst 1, 0, 0, .null), (14, .goto 4, 18, 0, .null)] (pc' := 18) (ls' := [some (.ref 1315), some (.int x1), none, none]) (st' := [.int 1]) (by decide +kernel) rfl ?_
    exact b_wk (wS (wS (wN (wN w0)))) (s188_18 hv F x1 1 σ)
  · refine b_run [(17, .iconst 0, 0, 0, .null)] (pc' := 18) (ls' := [some (.ref 1315), some (.int x1), none, none]) (st' := [.int 0]) (by decide +kernel) rfl ?_
    exact b_wk (wS (wS (wN (wN w0)))) (s188_18 hv F x1 0 σ)
def f189_22 (F : Nat) : Nat → Int32 → St → Rs
  | 0, _, _ => none
  | n + 1, y2, σ => lt (σ.1 1315 1) fun c5 => 
    if y2 < c5 then 
    lt (σ.1 1315 14) fun c6 => 
    if inB y2 122 then lt (σ.1 1316 y2.toNatClampNeg) fun c7 => 
    if inB c6 4300 then lt (uI σ 1332 c6.toNatClampNeg (vp_nar .char (((c7 : Int32).toUInt32 % 65536).toInt32))) fun σ8 => lt (σ8.1 1315 14) fun c9 => lt (uI σ8 1315 14 (c9 + 1)) fun σ10 => f189_22 F n (y2 + 1) σ10 else none else none
    else oV σ
theorem s189_22 {sc : aSc} (hv : vOk sc) (F : Nat) : ∀ (n : Nat) (y2 : Int32) (σ : St), bEx sc 0 189 22 [some (.ref 1315), none, some (.int y2)] [] σ (f189_22 F n y2 σ) := by
  intro n
  induction n with
  | zero => intro y2 σ; exact b_none
  | succ n ih =>
    intro y2 σ
    rw [f189_22.eq_2]
    refine b_run [(22, .iload_n 2, 0, 0, .null), (23, .aload_n 0, 0, 0, .null)] (pc' := 24) (ls' := [some (.ref 1315), none, some (.int y2)]) (st' := [.ref 1315, .int y2]) (by decide +kernel) rfl ?_
    refine b_gI (q := 155) (ci := 9) (k := 1) (w := .null) (by decide +kernel) (by decide +kernel) (fun c5 => ?_)
    refine b_icF (c := .ge) (o := 35) (t := 62) (y := 0) (w := .null) (by decide +kernel) cmp_ge (fun _ => ?_) (fun _ => ?_)
    · refine b_run [(30, .aload_n 0, 0, 0, .null)] (pc' := 31) (ls' := [some (.ref 1315), none, some (.int y2)]) (st' := [.ref 1315]) (by decide +kernel) rfl ?_
      refine b_getC (b := 1332) (q := 59) (ci := 9) (k := 21) (w := .null) (by decide +kernel) (by decide +kernel) ?_
      refine b_run [(34, .aload_n 0, 0, 0, .null)] (pc' := 35) (ls' := [some (.ref 1315), none, some (.int y2)]) (st' := [.ref 1315, .ref 1332]) (by decide +kernel) rfl ?_
      refine b_gI (q := 252) (ci := 9) (k := 14) (w := .null) (by decide +kernel) (by decide +kernel) (fun c6 => ?_)
      refine b_run [(38, .aload_n 0, 0, 0, .null)] (pc' := 39) (ls' := [some (.ref 1315), none, some (.int y2)]) (st' := [.ref 1315, .int c6, .ref 1332]) (by decide +kernel) rfl ?_
      refine b_getC (b := 1316) (q := 7) (ci := 9) (k := 2) (w := .null) (by decide +kernel) (by decide +kernel) ?_
      refine b_run [(42, .iload_n 2, 0, 0, .null)] (pc' := 43) (ls' := [some (.ref 1315), none, some (.int y2)]) (st' := [.int y2, .ref 1316, .int c6, .ref 1332]) (by decide +kernel) rfl ?_
      refine b_guard (fun hb => ?_)
      refine b_aI (ci := 0) (y := 0) (w := .null) (by decide +kernel) (by decide +kernel) hb (fun c7 => ?_)
      refine b_run [(44, .i2c, 0, 0, .null)] (pc' := 45) (ls' := [some (.ref 1315), none, some (.int y2)]) (st' := [.int (((c7 : Int32).toUInt32 % 65536).toInt32), .int c6, .ref 1332]) (by decide +kernel) rfl ?_
      refine b_guard (fun hb => ?_)
      refine b_sC (ci := 0) (y := 0) (w := .null) (by decide +kernel) (by decide +kernel) hb (fun σ8 => ?_)
      refine b_run [(46, .aload_n 0, 0, 0, .null), (47, .dup, 0, 0, .null)] (pc' := 48) (ls' := [some (.ref 1315), none, some (.int y2)]) (st' := [.ref 1315, .ref 1315]) (by decide +kernel) rfl ?_
      refine b_gI (q := 252) (ci := 9) (k := 14) (w := .null) (by decide +kernel) (by decide +kernel) (fun c9 => ?_)
      refine b_run [(51, .iconst 1, 0, 0, .null), (52, .iadd, 0, 0, .null)] (pc' := 53) (ls' := [some (.ref 1315), none, some (.int y2)]) (st' := [.int (c9 + 1), .ref 1315]) (by decide +kernel) rfl ?_
      refine b_pI (q := 252) (ci := 9) (k := 14) (w := .null) (by decide +kernel) (by decide +kernel) (fit_I _) (fun σ10 => ?_)
      refine b_run [(56, .iinc 2 1, 0, 0, .null), (59, .goto (-37), 22, 0, .null)] (pc' := 22) (ls' := [some (.ref 1315), none, some (.int (y2 + 1))]) (st' := []) (by decide +kernel) rfl ?_
      exact b_wk (wS (wN (wS w0))) (ih (y2 + 1) σ10)
    · exact b_ret0 (i := (.return_, 0, 0, .null)) (by decide +kernel) rfl rfl
/-- TreeStoreModel.nameOver(I)V -/
def f189 (F : Nat) (x1 : Int32) (σ : St) : Rs := lt (σ.1 1315 14) fun c1 => 
    if inB x1 31 then lt (uI σ 1328 x1.toNatClampNeg c1) fun σ2 => lt (σ2.1 1315 1) fun c3 => if inB x1 31 then lt (uI σ2 1329 x1.toNatClampNeg c3) fun σ4 => f189_22 F F 0 σ4 else none else none
theorem s189 {sc : aSc} (hv : vOk sc) (F : Nat) (x1 : Int32) (σ : St) : bEx sc 0 189 0 [some (.ref 1315), some (.int x1), none] [] σ (f189 F x1 σ) := by
  unfold f189
  refine b_run [(0, .aload_n 0, 0, 0, .null)] (pc' := 1) (ls' := [some (.ref 1315), some (.int x1), none]) (st' := [.ref 1315]) (by decide +kernel) rfl ?_
  refine b_getC (b := 1328) (q := 47) (ci := 9) (k := 17) (w := .null) (by decide +kernel) (by decide +kernel) ?_
  refine b_run [(4, .iload_n 1, 0, 0, .null), (5, .aload_n 0, 0, 0, .null)] (pc' := 6) (ls' := [some (.ref 1315), some (.int x1), none]) (st' := [.ref 1315, .int x1, .ref 1328]) (by decide +kernel) rfl ?_
  refine b_gI (q := 252) (ci := 9) (k := 14) (w := .null) (by decide +kernel) (by decide +kernel) (fun c1 => ?_)
  refine b_guard (fun hb => ?_)
  refine b_sI (ci := 0) (y := 0) (w := .null) (by decide +kernel) (by decide +kernel) hb (fun σ2 => ?_)
  refine b_run [(10, .aload_n 0, 0, 0, .null)] (pc' := 11) (ls' := [some (.ref 1315), some (.int x1), none]) (st' := [.ref 1315]) (by decide +kernel) rfl ?_
  refine b_getC (b := 1329) (q := 50) (ci := 9) (k := 18) (w := .null) (by decide +kernel) (by decide +kernel) ?_
  refine b_run [(14, .iload_n 1, 0, 0, .null), (15, .aload_n 0, 0, 0, .null)] (pc' := 16) (ls' := [some (.ref 1315), some (.int x1), none]) (st' := [.ref 1315, .int x1, .ref 1329]) (by decide +kernel) rfl ?_
  refine b_gI (q := 155) (ci := 9) (k := 1) (w := .null) (by decide +kernel) (by decide +kernel) (fun c3 => ?_)
  refine b_guard (fun hb => ?_)
  refine b_sI (ci := 0) (y := 0) (w := .null) (by decide +kernel) (by decide +kernel) hb (fun σ4 => ?_)
  refine b_run [(20, .iconst 0, 0, 0, .null), (21, .istore_n 2, 0, 0, .null)] (pc' := 22) (ls' := [some (.ref 1315), some (.int x1), some (.int 0)]) (st' := []) (by decide +kernel) rfl ?_
  exact b_wk (wS (wN (wS w0))) (s189_22 hv F F 0 σ4)
def f187_186 (F : Nat) (k158 : Int32 → Int32 → St → Rs) (y1 : Int32) (y3 : Int32) (σ : St) : Rs := k158 y1 (y3 + 1) σ
theorem s187_186 {sc : aSc} (hv : vOk sc) (F : Nat) (k158 : Int32 → Int32 → St → Rs) (hk158 : ∀ y1 y3 σ, bEx sc 3 187 158 [some (.ref 1315), some (.int y1), none, some (.int y3)] [] σ (k158 y1 y3 σ)) (y1 : Int32) (y3 : Int32) (σ : St) : bEx sc 3 187 186 [some (.ref 1315), some (.int y1), none, some (.int y3)] [] σ (f187_186 F k158 y1 y3 σ) := by
  unfold f187_186
  refine b_run [(186, .iinc 3 1, 0, 0, .null), (189, .goto (-31), 158, 0, .null)] (pc' := 158) (ls' := [some (.ref 1315), some (.int y1), none, some (.int (y3 + 1))]) (st' := []) (by decide +kernel) rfl ?_
  exact b_wk (wS (wS (wN (wS w0)))) (hk158 y1 (y3 + 1) σ)
def f187_158 (F : Nat) : Nat → Int32 → Int32 → St → Rs
  | 0, _, _, _ => none
  | n + 1, y1, y3, σ => lt (σ.1 1315 3) fun c16 => 
    if y3 < c16 then 
    cV (f174 F y3 σ) fun σ17 => 
    if y3 = y1 then lt (σ17.1 1315 13) fun c19 => cV (f189 F (c19 - 1) σ17) fun σ20 => f187_186 F (f187_158 F n) y1 y3 σ20
    else f187_186 F (f187_158 F n) y1 y3 σ17
    else cV (f178 F σ) fun σ22 => lt (σ22.1 1315 1) fun c24 => lt (uI σ22 1315 1 0) fun σ25 => oI c24 σ25
theorem s187_158 {sc : aSc} (hv : vOk sc) (F : Nat) : ∀ (n : Nat) (y1 : Int32) (y3 : Int32) (σ : St), bEx sc 3 187 158 [some (.ref 1315), some (.int y1), none, some (.int y3)] [] σ (f187_158 F n y1 y3 σ) := by
  intro n
  induction n with
  | zero => intro y1 y3 σ; exact b_none
  | succ n ih =>
    intro y1 y3 σ
    rw [f187_158.eq_2]
    refine b_run [(158, .iload_n 3, 0, 0, .null), (159, .aload_n 0, 0, 0, .null)] (pc' := 160) (ls' := [some (.ref 1315), some (.int y1), none, some (.int y3)]) (st' := [.ref 1315, .int y3]) (by decide +kernel) rfl ?_
    refine b_gI (q := 148) (ci := 9) (k := 3) (w := .null) (by decide +kernel) (by decide +kernel) (fun c16 => ?_)
    refine b_icF (c := .ge) (o := 29) (t := 192) (y := 0) (w := .null) (by decide +kernel) cmp_ge (fun _ => ?_) (fun _ => ?_)
    · refine b_run [(166, .aload_n 0, 0, 0, .null), (167, .iload_n 3, 0, 0, .null)] (pc' := 168) (ls' := [some (.ref 1315), some (.int y1), none, some (.int y3)]) (st' := [.int y3, .ref 1315]) (by decide +kernel) rfl ?_
      refine b_callV 174 2 [.ref 1315, .int y3] (rest := []) (by decide +kernel) rfl rfl rfl (go_O rfl (by decide +kernel) (by decide +kernel : isO 1315 9 = true)) rfl (s174 hv F y3 σ) (by decide) (fun σ17 => ?_)
      refine b_run [(171, .iload_n 3, 0, 0, .null), (172, .iload_n 1, 0, 0, .null)] (pc' := 173) (ls' := [some (.ref 1315), some (.int y1), none, some (.int y3)]) (st' := [.int y1, .int y3]) (by decide +kernel) rfl ?_
      refine b_icF (c := .ne) (o := 13) (t := 186) (y := 0) (w := .null) (by decide +kernel) cmp_ne (fun _ => ?_) (fun _ => ?_)
      · refine b_run [(176, .aload_n 0, 0, 0, .null), (177, .aload_n 0, 0, 0, .null)] (pc' := 178) (ls' := [some (.ref 1315), some (.int y1), none, some (.int y3)]) (st' := [.ref 1315, .ref 1315]) (by decide +kernel) rfl ?_
        refine b_gI (q := 249) (ci := 9) (k := 13) (w := .null) (by decide +kernel) (by decide +kernel) (fun c19 => ?_)
        refine b_run [(181, .iconst 1, 0, 0, .null), (182, .isub, 0, 0, .null)] (pc' := 183) (ls' := [some (.ref 1315), some (.int y1), none, some (.int y3)]) (st' := [.int (c19 - 1), .ref 1315]) (by decide +kernel) rfl ?_
        refine b_callV 189 2 [.ref 1315, .int (c19 - 1)] (rest := []) (by decide +kernel) rfl rfl rfl (go_O rfl (by decide +kernel) (by decide +kernel : isO 1315 9 = true)) rfl (s189 hv F (c19 - 1) σ17) (by decide) (fun σ20 => ?_)
        exact b_wk (wS (wS (wN (wS w0)))) (s187_186 hv F (f187_158 F n) ih y1 y3 σ20)
      · exact b_wk (wS (wS (wN (wS w0)))) (s187_186 hv F (f187_158 F n) ih y1 y3 σ17)
    · refine b_run [(192, .aload_n 0, 0, 0, .null)] (pc' := 193) (ls' := [some (.ref 1315), some (.int y1), none, some (.int y3)]) (st' := [.ref 1315]) (by decide +kernel) rfl ?_
      refine b_callV 178 1 [.ref 1315] (rest := []) (by decide +kernel) rfl rfl rfl (go_O rfl (by decide +kernel) (by decide +kernel : isO 1315 9 = true)) rfl (s178 hv F σ) (by decide) (fun σ22 => ?_)
      refine b_run [(196, .aload_n 0, 0, 0, .null)] (pc' := 197) (ls' := [some (.ref 1315), some (.int y1), none, some (.int y3)]) (st' := [.ref 1315]) (by decide +kernel) rfl ?_
      refine b_gI (q := 155) (ci := 9) (k := 1) (w := .null) (by decide +kernel) (by decide +kernel) (fun c24 => ?_)
      refine b_run [(200, .istore_n 3, 0, 0, .null), (201, .aload_n 0, 0, 0, .null), (202, .iconst 0, 0, 0, .null)] (pc' := 203) (ls' := [some (.ref 1315), some (.int y1), none, some (.int c24)]) (st' := [.int 0, .ref 1315]) (by decide +kernel) rfl ?_
      refine b_pI (q := 155) (ci := 9) (k := 1) (w := .null) (by decide +kernel) (by decide +kernel) (fit_I _) (fun σ25 => ?_)
      refine b_run [(206, .iload_n 3, 0, 0, .null)] (pc' := 207) (ls' := [some (.ref 1315), some (.int y1), none, some (.int c24)]) (st' := [.int c24]) (by decide +kernel) rfl ?_
      exact b_ret (i := (.ireturn, 0, 0, .null)) (by decide +kernel) rfl rfl (fit_I _)
def f187_137 (F : Nat) (y1 : Int32) (y2 : Int32) (σ : St) : Rs := if y2 = 0 then cI (f172 F 3 σ) fun c12 σ11 => oI c12 σ11
    else lt (uI σ 1315 0 0) fun σ13 => cV (f173 F σ13) fun σ14 => f187_158 F F y1 0 σ14
theorem s187_137 {sc : aSc} (hv : vOk sc) (F : Nat) (y1 : Int32) (y2 : Int32) (σ : St) : bEx sc 3 187 137 [some (.ref 1315), some (.int y1), some (.int y2), none] [] σ (f187_137 F y1 y2 σ) := by
  unfold f187_137
  refine b_run [(137, .iload_n 2, 0, 0, .null)] (pc' := 138) (ls' := [some (.ref 1315), some (.int y1), some (.int y2), none]) (st' := [.int y2]) (by decide +kernel) rfl ?_
  refine b_izF (c := .ne) (o := 9) (t := 147) (y := 0) (w := .null) (by decide +kernel) cmp_ne (fun _ => ?_) (fun _ => ?_)
  · refine b_run [(141, .aload_n 0, 0, 0, .null), (142, .iconst 3, 0, 0, .null)] (pc' := 143) (ls' := [some (.ref 1315), some (.int y1), some (.int y2), none]) (st' := [.int 3, .ref 1315]) (by decide +kernel) rfl ?_
    refine b_callI 172 2 [.ref 1315, .int 3] (rest := []) (by decide +kernel) rfl rfl rfl (go_O rfl (by decide +kernel) (by decide +kernel : isO 1315 9 = true)) rfl (s172 hv F 3 σ) (by decide) (fun c12 σ11 => ?_)
    exact b_ret (i := (.ireturn, 0, 0, .null)) (by decide +kernel) rfl rfl (fit_I _)
  · refine b_run [(147, .aload_n 0, 0, 0, .null), (148, .iconst 0, 0, 0, .null)] (pc' := 149) (ls' := [some (.ref 1315), some (.int y1), some (.int y2), none]) (st' := [.int 0, .ref 1315]) (by decide +kernel) rfl ?_
    refine b_pI (q := 152) (ci := 9) (k := 0) (w := .null) (by decide +kernel) (by decide +kernel) (fit_I _) (fun σ13 => ?_)
    refine b_run [(152, .aload_n 0, 0, 0, .null)] (pc' := 153) (ls' := [some (.ref 1315), some (.int y1), some (.int y2), none]) (st' := [.ref 1315]) (by decide +kernel) rfl ?_
    refine b_callV 173 1 [.ref 1315] (rest := []) (by decide +kernel) rfl rfl rfl (go_O rfl (by decide +kernel) (by decide +kernel : isO 1315 9 = true)) rfl (s173 hv F σ13) (by decide) (fun σ14 => ?_)
    refine b_run [(156, .iconst 0, 0, 0, .null), (157, .istore_n 3, 0, 0, .null)] (pc' := 158) (ls' := [some (.ref 1315), some (.int y1), some (.int y2), some (.int 0)]) (st' := []) (by decide +kernel) rfl ?_
    exact b_wk (wS (wS (wN (wS w0)))) (s187_158 hv F F y1 0 σ14)
def f187_130 (F : Nat) (k67 : Int32 → Int32 → Int32 → St → Rs) (y1 : Int32) (y3 : Int32) (z0 : Int32) (σ : St) : Rs := k67 y1 z0 (y3 + 1) σ
theorem s187_130 {sc : aSc} (hv : vOk sc) (F : Nat) (k67 : Int32 → Int32 → Int32 → St → Rs) (hk67 : ∀ y1 y2 y3 σ, bEx sc 3 187 67 [some (.ref 1315), some (.int y1), some (.int y2), some (.int y3)] [] σ (k67 y1 y2 y3 σ)) (y1 : Int32) (y3 : Int32) (z0 : Int32) (σ : St) : bEx sc 3 187 130 [some (.ref 1315), some (.int y1), none, some (.int y3)] [.int z0] σ (f187_130 F k67 y1 y3 z0 σ) := by
  unfold f187_130
  refine b_run [(130, .istore_n 2, 0, 0, .null), (131, .iinc 3 1, 0, 0, .null), (134, .goto (-67), 67, 0, .null)] (pc' := 67) (ls' := [some (.ref 1315), some (.int y1), some (.int z0), some (.int (y3 + 1))]) (st' := []) (by decide +kernel) rfl ?_
  exact b_wk (wS (wS (wS (wS w0)))) (hk67 y1 z0 (y3 + 1) σ)
def f187_125 (F : Nat) (k67 : Int32 → Int32 → Int32 → St → Rs) (y1 : Int32) (y3 : Int32) (σ : St) : Rs := f187_130 F k67 y1 y3 1 σ
theorem s187_125 {sc : aSc} (hv : vOk sc) (F : Nat) (k67 : Int32 → Int32 → Int32 → St → Rs) (hk67 : ∀ y1 y2 y3 σ, bEx sc 3 187 67 [some (.ref 1315), some (.int y1), some (.int y2), some (.int y3)] [] σ (k67 y1 y2 y3 σ)) (y1 : Int32) (y3 : Int32) (σ : St) : bEx sc 3 187 125 [some (.ref 1315), some (.int y1), none, some (.int y3)] [] σ (f187_125 F k67 y1 y3 σ) := by
  unfold f187_125
  refine b_run [(125, .iconst 1, 0, 0, .null), (126, .goto 4, 130, 0, .null)] (pc' := 130) (ls' := [some (.ref 1315), some (.int y1), none, some (.int y3)]) (st' := [.int 1]) (by decide +kernel) rfl ?_
  exact b_wk (wS (wS (wN (wS w0)))) (s187_130 hv F k67 hk67 y1 y3 1 σ)
def f187_67 (F : Nat) : Nat → Int32 → Int32 → Int32 → St → Rs
  | 0, _, _, _, _ => none
  | n + 1, y1, y2, y3, σ => lt (σ.1 1315 3) fun c10 => 
    if y3 < c10 then 
    if y2 = 0 then f187_137 F y1 y2 σ
    else if inB y1 31 then lt (σ.1 1317 y1.toNatClampNeg) fun c26 => 
    if c26 = 2 then 
    if y3 = y1 then f187_125 F (f187_67 F n) y1 y3 σ
    else if inB y3 31 then lt (σ.1 1317 y3.toNatClampNeg) fun c27 => 
    if c27 = 2 then 
    cI (f183 F y3 σ) fun c29 σ28 => 
    cI (f183 F y1 σ28) fun c31 σ30 => 
    if c29 = c31 then 
    cI (f188 F y3 σ30) fun c33 σ32 => 
    if c33 = 0 then f187_125 F (f187_67 F n) y1 y3 σ32
    else f187_130 F (f187_67 F n) y1 y3 0 σ32
    else f187_125 F (f187_67 F n) y1 y3 σ30
    else f187_125 F (f187_67 F n) y1 y3 σ else none
    else f187_137 F y1 y2 σ else none
    else f187_137 F y1 y2 σ
theorem s187_67 {sc : aSc} (hv : vOk sc) (F : Nat) : ∀ (n : Nat) (y1 : Int32) (y2 : Int32) (y3 : Int32) (σ : St), bEx sc 3 187 67 [some (.ref 1315), some (.int y1), some (.int y2), some (.int y3)] [] σ (f187_67 F n y1 y2 y3 σ) := by
  intro n
  induction n with
  | zero => intro y1 y2 y3 σ; exact b_none
  | succ n ih =>
    intro y1 y2 y3 σ
    rw [f187_67.eq_2]
    refine b_run [(67, .iload_n 3, 0, 0, .null), (68, .aload_n 0, 0, 0, .null)] (pc' := 69) (ls' := [some (.ref 1315), some (.int y1), some (.int y2), some (.int y3)]) (st' := [.ref 1315, .int y3]) (by decide +kernel) rfl ?_
    refine b_gI (q := 148) (ci := 9) (k := 3) (w := .null) (by decide +kernel) (by decide +kernel) (fun c10 => ?_)
    refine b_icF (c := .ge) (o := 65) (t := 137) (y := 0) (w := .null) (by decide +kernel) cmp_ge (fun _ => ?_) (fun _ => ?_)
    · refine b_run [(75, .iload_n 2, 0, 0, .null)] (pc' := 76) (ls' := [some (.ref 1315), some (.int y1), some (.int y2), some (.int y3)]) (st' := [.int y2]) (by decide +kernel) rfl ?_
      refine b_izT (c := .eq) (o := 61) (t := 137) (y := 0) (w := .null) (by decide +kernel) cmp_eq (fun _ => ?_) (fun _ => ?_)
      · exact b_wk (wS (wS (wS (wN w0)))) (s187_137 hv F y1 y2 σ)
      · refine b_run [(79, .aload_n 0, 0, 0, .null)] (pc' := 80) (ls' := [some (.ref 1315), some (.int y1), some (.int y2), some (.int y3)]) (st' := [.ref 1315]) (by decide +kernel) rfl ?_
        refine b_getC (b := 1317) (q := 13) (ci := 9) (k := 4) (w := .null) (by decide +kernel) (by decide +kernel) ?_
        refine b_run [(83, .iload_n 1, 0, 0, .null)] (pc' := 84) (ls' := [some (.ref 1315), some (.int y1), some (.int y2), some (.int y3)]) (st' := [.int y1, .ref 1317]) (by decide +kernel) rfl ?_
        refine b_guard (fun hb => ?_)
        refine b_aI (ci := 0) (y := 0) (w := .null) (by decide +kernel) (by decide +kernel) hb (fun c26 => ?_)
        refine b_run [(85, .iconst 2, 0, 0, .null)] (pc' := 86) (ls' := [some (.ref 1315), some (.int y1), some (.int y2), some (.int y3)]) (st' := [.int 2, .int c26]) (by decide +kernel) rfl ?_
        refine b_icF (c := .ne) (o := 51) (t := 137) (y := 0) (w := .null) (by decide +kernel) cmp_ne (fun _ => ?_) (fun _ => ?_)
        · refine b_run [(89, .iload_n 3, 0, 0, .null), (90, .iload_n 1, 0, 0, .null)] (pc' := 91) (ls' := [some (.ref 1315), some (.int y1), some (.int y2), some (.int y3)]) (st' := [.int y1, .int y3]) (by decide +kernel) rfl ?_
          refine b_icT (c := .eq) (o := 34) (t := 125) (y := 0) (w := .null) (by decide +kernel) cmp_eq (fun _ => ?_) (fun _ => ?_)
          · exact b_wk (wS (wS (wN (wS w0)))) (s187_125 hv F (f187_67 F n) ih y1 y3 σ)
          · refine b_run [(94, .aload_n 0, 0, 0, .null)] (pc' := 95) (ls' := [some (.ref 1315), some (.int y1), some (.int y2), some (.int y3)]) (st' := [.ref 1315]) (by decide +kernel) rfl ?_
            refine b_getC (b := 1317) (q := 13) (ci := 9) (k := 4) (w := .null) (by decide +kernel) (by decide +kernel) ?_
            refine b_run [(98, .iload_n 3, 0, 0, .null)] (pc' := 99) (ls' := [some (.ref 1315), some (.int y1), some (.int y2), some (.int y3)]) (st' := [.int y3, .ref 1317]) (by decide +kernel) rfl ?_
            refine b_guard (fun hb => ?_)
            refine b_aI (ci := 0) (y := 0) (w := .null) (by decide +kernel) (by decide +kernel) hb (fun c27 => ?_)
            refine b_run [(100, .iconst 2, 0, 0, .null)] (pc' := 101) (ls' := [some (.ref 1315), some (.int y1), some (.int y2), some (.int y3)]) (st' := [.int 2, .int c27]) (by decide +kernel) rfl ?_
            refine b_icF (c := .ne) (o := 24) (t := 125) (y := 0) (w := .null) (by decide +kernel) cmp_ne (fun _ => ?_) (fun _ => ?_)
            · refine b_run [(104, .aload_n 0, 0, 0, .null), (105, .iload_n 3, 0, 0, .null)] (pc' := 106) (ls' := [some (.ref 1315), some (.int y1), some (.int y2), some (.int y3)]) (st' := [.int y3, .ref 1315]) (by decide +kernel) rfl ?_
              refine b_callI 183 2 [.ref 1315, .int y3] (rest := []) (by decide +kernel) rfl rfl rfl (go_O rfl (by decide +kernel) (by decide +kernel : isO 1315 9 = true)) rfl (s183 hv F y3 σ) (by decide) (fun c29 σ28 => ?_)
              refine b_run [(109, .aload_n 0, 0, 0, .null), (110, .iload_n 1, 0, 0, .null)] (pc' := 111) (ls' := [some (.ref 1315), some (.int y1), some (.int y2), some (.int y3)]) (st' := [.int y1, .ref 1315, .int c29]) (by decide +kernel) rfl ?_
              refine b_callI 183 2 [.ref 1315, .int y1] (rest := [.int c29]) (by decide +kernel) rfl rfl rfl (go_O rfl (by decide +kernel) (by decide +kernel : isO 1315 9 = true)) rfl (s183 hv F y1 σ28) (by decide) (fun c31 σ30 => ?_)
              refine b_icF (c := .ne) (o := 11) (t := 125) (y := 0) (w := .null) (by decide +kernel) cmp_ne (fun _ => ?_) (fun _ => ?_)
              · refine b_run [(117, .aload_n 0, 0, 0, .null), (118, .iload_n 3, 0, 0, .null)] (pc' := 119) (ls' := [some (.ref 1315), some (.int y1), some (.int y2), some (.int y3)]) (st' := [.int y3, .ref 1315]) (by decide +kernel) rfl ?_
                refine b_callI 188 2 [.ref 1315, .int y3] (rest := []) (by decide +kernel) rfl rfl rfl (go_O rfl (by decide +kernel) (by decide +kernel : isO 1315 9 = true)) rfl (s188 hv F y3 σ30) (by decide) (fun c33 σ32 => ?_)
                refine b_izF (c := .ne) (o := 7) (t := 129) (y := 0) (w := .null) (by decide +kernel) cmp_ne (fun _ => ?_) (fun _ => ?_)
                · exact b_wk (wS (wS (wN (wS w0)))) (s187_125 hv F (f187_67 F n) ih y1 y3 σ32)
                · refine b_run [(129, .iconst 0, 0, 0, .null)] (pc' := 130) (ls' := [some (.ref 1315), some (.int y1), some (.int y2), some (.int y3)]) (st' := [.int 0]) (by decide +kernel) rfl ?_
                  exact b_wk (wS (wS (wN (wS w0)))) (s187_130 hv F (f187_67 F n) ih y1 y3 0 σ32)
              · exact b_wk (wS (wS (wN (wS w0)))) (s187_125 hv F (f187_67 F n) ih y1 y3 σ30)
            · exact b_wk (wS (wS (wN (wS w0)))) (s187_125 hv F (f187_67 F n) ih y1 y3 σ)
        · exact b_wk (wS (wS (wS (wN w0)))) (s187_137 hv F y1 y2 σ)
    · exact b_wk (wS (wS (wS (wN w0)))) (s187_137 hv F y1 y2 σ)
def f187_64 (F : Nat) (y1 : Int32) (z0 : Int32) (σ : St) : Rs := f187_67 F F y1 z0 0 σ
theorem s187_64 {sc : aSc} (hv : vOk sc) (F : Nat) (y1 : Int32) (z0 : Int32) (σ : St) : bEx sc 3 187 64 [some (.ref 1315), some (.int y1), none, none] [.int z0] σ (f187_64 F y1 z0 σ) := by
  unfold f187_64
  refine b_run [(64, .istore_n 2, 0, 0, .null), (65, .iconst 0, 0, 0, .null), (66, .istore_n 3, 0, 0, .null)] (pc' := 67) (ls' := [some (.ref 1315), some (.int y1), some (.int z0), some (.int 0)]) (st' := []) (by decide +kernel) rfl ?_
  exact b_wk (wS (wS (wS (wS w0)))) (s187_67 hv F F y1 z0 0 σ)
def f187_63 (F : Nat) (y1 : Int32) (σ : St) : Rs := f187_64 F y1 0 σ
theorem s187_63 {sc : aSc} (hv : vOk sc) (F : Nat) (y1 : Int32) (σ : St) : bEx sc 3 187 63 [some (.ref 1315), some (.int y1), none, none] [] σ (f187_63 F y1 σ) := by
  unfold f187_63
  refine b_run [(63, .iconst 0, 0, 0, .null)] (pc' := 64) (ls' := [some (.ref 1315), some (.int y1), none, none]) (st' := [.int 0]) (by decide +kernel) rfl ?_
  exact b_wk (wS (wS (wN (wN w0)))) (s187_64 hv F y1 0 σ)
def f187_40 (F : Nat) (y1 : Int32) (σ : St) : Rs := lt (σ.1 1315 1) fun c6 => 
    if 0 < c6 then 
    cI (f163 F 0 σ) fun c8 σ7 => 
    lt (σ7.1 1315 1) fun c9 => 
    if c8 = c9 then f187_64 F y1 1 σ7
    else f187_63 F y1 σ7
    else f187_63 F y1 σ
theorem s187_40 {sc : aSc} (hv : vOk sc) (F : Nat) (y1 : Int32) (σ : St) : bEx sc 3 187 40 [some (.ref 1315), some (.int y1), none, none] [] σ (f187_40 F y1 σ) := by
  unfold f187_40
  refine b_run [(40, .aload_n 0, 0, 0, .null)] (pc' := 41) (ls' := [some (.ref 1315), some (.int y1), none, none]) (st' := [.ref 1315]) (by decide +kernel) rfl ?_
  refine b_gI (q := 155) (ci := 9) (k := 1) (w := .null) (by decide +kernel) (by decide +kernel) (fun c6 => ?_)
  refine b_izF (c := .le) (o := 19) (t := 63) (y := 0) (w := .null) (by decide +kernel) cmp_le (fun _ => ?_) (fun _ => ?_)
  · refine b_run [(47, .aload_n 0, 0, 0, .null), (48, .iconst 0, 0, 0, .null)] (pc' := 49) (ls' := [some (.ref 1315), some (.int y1), none, none]) (st' := [.int 0, .ref 1315]) (by decide +kernel) rfl ?_
    refine b_callI 163 2 [.ref 1315, .int 0] (rest := []) (by decide +kernel) rfl rfl rfl (go_O rfl (by decide +kernel) (by decide +kernel : isO 1315 9 = true)) rfl (s163 hv F 0 σ) (by decide) (fun c8 σ7 => ?_)
    refine b_run [(52, .aload_n 0, 0, 0, .null)] (pc' := 53) (ls' := [some (.ref 1315), some (.int y1), none, none]) (st' := [.ref 1315, .int c8]) (by decide +kernel) rfl ?_
    refine b_gI (q := 155) (ci := 9) (k := 1) (w := .null) (by decide +kernel) (by decide +kernel) (fun c9 => ?_)
    refine b_icF (c := .ne) (o := 7) (t := 63) (y := 0) (w := .null) (by decide +kernel) cmp_ne (fun _ => ?_) (fun _ => ?_)
    · refine b_run [(59, .iconst 1, 0, 0, .null), (60, .goto 4, 64, 0, .null)] (pc' := 64) (ls' := [some (.ref 1315), some (.int y1), none, none]) (st' := [.int 1]) (by decide +kernel) rfl ?_
      exact b_wk (wS (wS (wN (wN w0)))) (s187_64 hv F y1 1 σ7)
    · exact b_wk (wS (wS (wN (wN w0)))) (s187_63 hv F y1 σ7)
  · exact b_wk (wS (wS (wN (wN w0)))) (s187_63 hv F y1 σ)
/-- TreeStoreModel.rename(I)I -/
def f187 (F : Nat) (x1 : Int32) (σ : St) : Rs := cI (f182 F x1 σ) fun c2 σ1 => 
    if c2 = 0 then cI (f172 F 1 σ1) fun c4 σ3 => oI c4 σ3
    else if inB x1 31 then lt (σ1.1 1317 x1.toNatClampNeg) fun c5 => 
    if c5 = 1 then f187_40 F x1 σ1
    else if inB x1 31 then lt (σ1.1 1317 x1.toNatClampNeg) fun c34 => 
    if c34 = 2 then f187_40 F x1 σ1
    else cI (f172 F 2 σ1) fun c36 σ35 => oI c36 σ35 else none else none
theorem s187 {sc : aSc} (hv : vOk sc) (F : Nat) (x1 : Int32) (σ : St) : bEx sc 3 187 0 [some (.ref 1315), some (.int x1), none, none] [] σ (f187 F x1 σ) := by
  unfold f187
  refine b_run [(0, .aload_n 0, 0, 0, .null), (1, .iload_n 1, 0, 0, .null)] (pc' := 2) (ls' := [some (.ref 1315), some (.int x1), none, none]) (st' := [.int x1, .ref 1315]) (by decide +kernel) rfl ?_
  refine b_callI 182 2 [.ref 1315, .int x1] (rest := []) (by decide +kernel) rfl rfl rfl (go_O rfl (by decide +kernel) (by decide +kernel : isO 1315 9 = true)) rfl (s182 hv F x1 σ) (by decide) (fun c2 σ1 => ?_)
  refine b_izF (c := .ne) (o := 9) (t := 14) (y := 0) (w := .null) (by decide +kernel) cmp_ne (fun _ => ?_) (fun _ => ?_)
  · refine b_run [(8, .aload_n 0, 0, 0, .null), (9, .iconst 1, 0, 0, .null)] (pc' := 10) (ls' := [some (.ref 1315), some (.int x1), none, none]) (st' := [.int 1, .ref 1315]) (by decide +kernel) rfl ?_
    refine b_callI 172 2 [.ref 1315, .int 1] (rest := []) (by decide +kernel) rfl rfl rfl (go_O rfl (by decide +kernel) (by decide +kernel : isO 1315 9 = true)) rfl (s172 hv F 1 σ1) (by decide) (fun c4 σ3 => ?_)
    exact b_ret (i := (.ireturn, 0, 0, .null)) (by decide +kernel) rfl rfl (fit_I _)
  · refine b_run [(14, .aload_n 0, 0, 0, .null)] (pc' := 15) (ls' := [some (.ref 1315), some (.int x1), none, none]) (st' := [.ref 1315]) (by decide +kernel) rfl ?_
    refine b_getC (b := 1317) (q := 13) (ci := 9) (k := 4) (w := .null) (by decide +kernel) (by decide +kernel) ?_
    refine b_run [(18, .iload_n 1, 0, 0, .null)] (pc' := 19) (ls' := [some (.ref 1315), some (.int x1), none, none]) (st' := [.int x1, .ref 1317]) (by decide +kernel) rfl ?_
    refine b_guard (fun hb => ?_)
    refine b_aI (ci := 0) (y := 0) (w := .null) (by decide +kernel) (by decide +kernel) hb (fun c5 => ?_)
    refine b_run [(20, .iconst 1, 0, 0, .null)] (pc' := 21) (ls' := [some (.ref 1315), some (.int x1), none, none]) (st' := [.int 1, .int c5]) (by decide +kernel) rfl ?_
    refine b_icT (c := .eq) (o := 19) (t := 40) (y := 0) (w := .null) (by decide +kernel) cmp_eq (fun _ => ?_) (fun _ => ?_)
    · exact b_wk (wS (wS (wN (wN w0)))) (s187_40 hv F x1 σ1)
    · refine b_run [(24, .aload_n 0, 0, 0, .null)] (pc' := 25) (ls' := [some (.ref 1315), some (.int x1), none, none]) (st' := [.ref 1315]) (by decide +kernel) rfl ?_
      refine b_getC (b := 1317) (q := 13) (ci := 9) (k := 4) (w := .null) (by decide +kernel) (by decide +kernel) ?_
      refine b_run [(28, .iload_n 1, 0, 0, .null)] (pc' := 29) (ls' := [some (.ref 1315), some (.int x1), none, none]) (st' := [.int x1, .ref 1317]) (by decide +kernel) rfl ?_
      refine b_guard (fun hb => ?_)
      refine b_aI (ci := 0) (y := 0) (w := .null) (by decide +kernel) (by decide +kernel) hb (fun c34 => ?_)
      refine b_run [(30, .iconst 2, 0, 0, .null)] (pc' := 31) (ls' := [some (.ref 1315), some (.int x1), none, none]) (st' := [.int 2, .int c34]) (by decide +kernel) rfl ?_
      refine b_icT (c := .eq) (o := 9) (t := 40) (y := 0) (w := .null) (by decide +kernel) cmp_eq (fun _ => ?_) (fun _ => ?_)
      · exact b_wk (wS (wS (wN (wN w0)))) (s187_40 hv F x1 σ1)
      · refine b_run [(34, .aload_n 0, 0, 0, .null), (35, .iconst 2, 0, 0, .null)] (pc' := 36) (ls' := [some (.ref 1315), some (.int x1), none, none]) (st' := [.int 2, .ref 1315]) (by decide +kernel) rfl ?_
        refine b_callI 172 2 [.ref 1315, .int 2] (rest := []) (by decide +kernel) rfl rfl rfl (go_O rfl (by decide +kernel) (by decide +kernel : isO 1315 9 = true)) rfl (s172 hv F 2 σ1) (by decide) (fun c36 σ35 => ?_)
        exact b_ret (i := (.ireturn, 0, 0, .null)) (by decide +kernel) rfl rfl (fit_I _)
/-- TreeStoreModel.nodes()I -/
def f190 (F : Nat) (σ : St) : Rs := lt (uI σ 1315 0 0) fun σ1 => lt (σ1.1 1315 3) fun c2 => oI c2 σ1
theorem s190 {sc : aSc} (hv : vOk sc) (F : Nat) (σ : St) : bEx sc 0 190 0 [some (.ref 1315)] [] σ (f190 F σ) := by
  unfold f190
  refine b_run [(0, .aload_n 0, 0, 0, .null), (1, .iconst 0, 0, 0, .null)] (pc' := 2) (ls' := [some (.ref 1315)]) (st' := [.int 0, .ref 1315]) (by decide +kernel) rfl ?_
  refine b_pI (q := 152) (ci := 9) (k := 0) (w := .null) (by decide +kernel) (by decide +kernel) (fit_I _) (fun σ1 => ?_)
  refine b_run [(5, .aload_n 0, 0, 0, .null)] (pc' := 6) (ls' := [some (.ref 1315)]) (st' := [.ref 1315]) (by decide +kernel) rfl ?_
  refine b_gI (q := 148) (ci := 9) (k := 3) (w := .null) (by decide +kernel) (by decide +kernel) (fun c2 => ?_)
  exact b_ret (i := (.ireturn, 0, 0, .null)) (by decide +kernel) rfl rfl (fit_I _)
/-- TreeStoreModel.kind(I)I -/
def f191 (F : Nat) (x1 : Int32) (σ : St) : Rs := lt (uI σ 1315 0 0) fun σ1 => 
    cI (f182 F x1 σ1) fun c3 σ2 => 
    if c3 = 0 then oI ((-1)) σ2
    else if inB x1 31 then lt (σ2.1 1317 x1.toNatClampNeg) fun c4 => oI c4 σ2 else none
theorem s191 {sc : aSc} (hv : vOk sc) (F : Nat) (x1 : Int32) (σ : St) : bEx sc 1 191 0 [some (.ref 1315), some (.int x1)] [] σ (f191 F x1 σ) := by
  unfold f191
  refine b_run [(0, .aload_n 0, 0, 0, .null), (1, .iconst 0, 0, 0, .null)] (pc' := 2) (ls' := [some (.ref 1315), some (.int x1)]) (st' := [.int 0, .ref 1315]) (by decide +kernel) rfl ?_
  refine b_pI (q := 152) (ci := 9) (k := 0) (w := .null) (by decide +kernel) (by decide +kernel) (fit_I _) (fun σ1 => ?_)
  refine b_run [(5, .aload_n 0, 0, 0, .null), (6, .iload_n 1, 0, 0, .null)] (pc' := 7) (ls' := [some (.ref 1315), some (.int x1)]) (st' := [.int x1, .ref 1315]) (by decide +kernel) rfl ?_
  refine b_callI 182 2 [.ref 1315, .int x1] (rest := []) (by decide +kernel) rfl rfl rfl (go_O rfl (by decide +kernel) (by decide +kernel : isO 1315 9 = true)) rfl (s182 hv F x1 σ1) (by decide) (fun c3 σ2 => ?_)
  refine b_izT (c := .eq) (o := 12) (t := 22) (y := 0) (w := .null) (by decide +kernel) cmp_eq (fun _ => ?_) (fun _ => ?_)
  · refine b_run [(22, .iconst (-1), 0, 0, .null)] (pc' := 23) (ls' := [some (.ref 1315), some (.int x1)]) (st' := [.int ((-1))]) (by decide +kernel) rfl ?_
    exact b_ret (i := (.ireturn, 0, 0, .null)) (by decide +kernel) rfl rfl (fit_I _)
  · refine b_run [(13, .aload_n 0, 0, 0, .null)] (pc' := 14) (ls' := [some (.ref 1315), some (.int x1)]) (st' := [.ref 1315]) (by decide +kernel) rfl ?_
    refine b_getC (b := 1317) (q := 13) (ci := 9) (k := 4) (w := .null) (by decide +kernel) (by decide +kernel) ?_
    refine b_run [(17, .iload_n 1, 0, 0, .null)] (pc' := 18) (ls' := [some (.ref 1315), some (.int x1)]) (st' := [.int x1, .ref 1317]) (by decide +kernel) rfl ?_
    refine b_guard (fun hb => ?_)
    refine b_aI (ci := 0) (y := 0) (w := .null) (by decide +kernel) (by decide +kernel) hb (fun c4 => ?_)
    refine b_run [(19, .goto 4, 23, 0, .null)] (pc' := 23) (ls' := [some (.ref 1315), some (.int x1)]) (st' := [.int c4]) (by decide +kernel) rfl ?_
    exact b_ret (i := (.ireturn, 0, 0, .null)) (by decide +kernel) rfl rfl (fit_I _)
/-- TreeStoreModel.size(I)I -/
def f192 (F : Nat) (x1 : Int32) (σ : St) : Rs := lt (uI σ 1315 0 0) fun σ1 => 
    cI (f182 F x1 σ1) fun c3 σ2 => 
    if c3 = 0 then oI ((-1)) σ2
    else cI (f185 F x1 σ2) fun c5 σ4 => oI c5 σ4
theorem s192 {sc : aSc} (hv : vOk sc) (F : Nat) (x1 : Int32) (σ : St) : bEx sc 1 192 0 [some (.ref 1315), some (.int x1)] [] σ (f192 F x1 σ) := by
  unfold f192
  refine b_run [(0, .aload_n 0, 0, 0, .null), (1, .iconst 0, 0, 0, .null)] (pc' := 2) (ls' := [some (.ref 1315), some (.int x1)]) (st' := [.int 0, .ref 1315]) (by decide +kernel) rfl ?_
  refine b_pI (q := 152) (ci := 9) (k := 0) (w := .null) (by decide +kernel) (by decide +kernel) (fit_I _) (fun σ1 => ?_)
  refine b_run [(5, .aload_n 0, 0, 0, .null), (6, .iload_n 1, 0, 0, .null)] (pc' := 7) (ls' := [some (.ref 1315), some (.int x1)]) (st' := [.int x1, .ref 1315]) (by decide +kernel) rfl ?_
  refine b_callI 182 2 [.ref 1315, .int x1] (rest := []) (by decide +kernel) rfl rfl rfl (go_O rfl (by decide +kernel) (by decide +kernel : isO 1315 9 = true)) rfl (s182 hv F x1 σ1) (by decide) (fun c3 σ2 => ?_)
  refine b_izT (c := .eq) (o := 11) (t := 21) (y := 0) (w := .null) (by decide +kernel) cmp_eq (fun _ => ?_) (fun _ => ?_)
  · refine b_run [(21, .iconst (-1), 0, 0, .null)] (pc' := 22) (ls' := [some (.ref 1315), some (.int x1)]) (st' := [.int ((-1))]) (by decide +kernel) rfl ?_
    exact b_ret (i := (.ireturn, 0, 0, .null)) (by decide +kernel) rfl rfl (fit_I _)
  · refine b_run [(13, .aload_n 0, 0, 0, .null), (14, .iload_n 1, 0, 0, .null)] (pc' := 15) (ls' := [some (.ref 1315), some (.int x1)]) (st' := [.int x1, .ref 1315]) (by decide +kernel) rfl ?_
    refine b_callI 185 2 [.ref 1315, .int x1] (rest := []) (by decide +kernel) rfl rfl rfl (go_O rfl (by decide +kernel) (by decide +kernel : isO 1315 9 = true)) rfl (s185 hv F x1 σ2) (by decide) (fun c5 σ4 => ?_)
    refine b_run [(18, .goto 4, 22, 0, .null)] (pc' := 22) (ls' := [some (.ref 1315), some (.int x1)]) (st' := [.int c5]) (by decide +kernel) rfl ?_
    exact b_ret (i := (.ireturn, 0, 0, .null)) (by decide +kernel) rfl rfl (fit_I _)
/-- TreeStoreModel.level(I)I -/
def f193 (F : Nat) (x1 : Int32) (σ : St) : Rs := lt (uI σ 1315 0 0) fun σ1 => 
    cI (f182 F x1 σ1) fun c3 σ2 => 
    if c3 = 0 then oI ((-1)) σ2
    else if inB x1 31 then lt (σ2.1 1318 x1.toNatClampNeg) fun c4 => oI c4 σ2 else none
theorem s193 {sc : aSc} (hv : vOk sc) (F : Nat) (x1 : Int32) (σ : St) : bEx sc 1 193 0 [some (.ref 1315), some (.int x1)] [] σ (f193 F x1 σ) := by
  unfold f193
  refine b_run [(0, .aload_n 0, 0, 0, .null), (1, .iconst 0, 0, 0, .null)] (pc' := 2) (ls' := [some (.ref 1315), some (.int x1)]) (st' := [.int 0, .ref 1315]) (by decide +kernel) rfl ?_
  refine b_pI (q := 152) (ci := 9) (k := 0) (w := .null) (by decide +kernel) (by decide +kernel) (fit_I _) (fun σ1 => ?_)
  refine b_run [(5, .aload_n 0, 0, 0, .null), (6, .iload_n 1, 0, 0, .null)] (pc' := 7) (ls' := [some (.ref 1315), some (.int x1)]) (st' := [.int x1, .ref 1315]) (by decide +kernel) rfl ?_
  refine b_callI 182 2 [.ref 1315, .int x1] (rest := []) (by decide +kernel) rfl rfl rfl (go_O rfl (by decide +kernel) (by decide +kernel : isO 1315 9 = true)) rfl (s182 hv F x1 σ1) (by decide) (fun c3 σ2 => ?_)
  refine b_izT (c := .eq) (o := 12) (t := 22) (y := 0) (w := .null) (by decide +kernel) cmp_eq (fun _ => ?_) (fun _ => ?_)
  · refine b_run [(22, .iconst (-1), 0, 0, .null)] (pc' := 23) (ls' := [some (.ref 1315), some (.int x1)]) (st' := [.int ((-1))]) (by decide +kernel) rfl ?_
    exact b_ret (i := (.ireturn, 0, 0, .null)) (by decide +kernel) rfl rfl (fit_I _)
  · refine b_run [(13, .aload_n 0, 0, 0, .null)] (pc' := 14) (ls' := [some (.ref 1315), some (.int x1)]) (st' := [.ref 1315]) (by decide +kernel) rfl ?_
    refine b_getC (b := 1318) (q := 16) (ci := 9) (k := 5) (w := .null) (by decide +kernel) (by decide +kernel) ?_
    refine b_run [(17, .iload_n 1, 0, 0, .null)] (pc' := 18) (ls' := [some (.ref 1315), some (.int x1)]) (st' := [.int x1, .ref 1318]) (by decide +kernel) rfl ?_
    refine b_guard (fun hb => ?_)
    refine b_aI (ci := 0) (y := 0) (w := .null) (by decide +kernel) (by decide +kernel) hb (fun c4 => ?_)
    refine b_run [(19, .goto 4, 23, 0, .null)] (pc' := 23) (ls' := [some (.ref 1315), some (.int x1)]) (st' := [.int c4]) (by decide +kernel) rfl ?_
    exact b_ret (i := (.ireturn, 0, 0, .null)) (by decide +kernel) rfl rfl (fit_I _)
/-- TreeStoreModel.name(II)I -/
def f194 (F : Nat) (x1 : Int32) (x2 : Int32) (σ : St) : Rs := lt (uI σ 1315 0 0) fun σ1 => 
    cI (f182 F x1 σ1) fun c3 σ2 => 
    if c3 = 0 then oI 0 σ2
    else if x2 < 0 then oI 0 σ2
    else if inB x1 31 then lt (σ2.1 1320 x1.toNatClampNeg) fun c4 => 
    if x2 < c4 then 
    if inB x1 31 then lt (σ2.1 1319 x1.toNatClampNeg) fun c5 => if inB (c5 + x2) 4300 then lt (σ2.1 1323 (c5 + x2).toNatClampNeg) fun c6 => oI c6 σ2 else none else none
    else oI 0 σ2 else none
theorem s194 {sc : aSc} (hv : vOk sc) (F : Nat) (x1 : Int32) (x2 : Int32) (σ : St) : bEx sc 1 194 0 [some (.ref 1315), some (.int x1), some (.int x2)] [] σ (f194 F x1 x2 σ) := by
  unfold f194
  refine b_run [(0, .aload_n 0, 0, 0, .null), (1, .iconst 0, 0, 0, .null)] (pc' := 2) (ls' := [some (.ref 1315), some (.int x1), some (.int x2)]) (st' := [.int 0, .ref 1315]) (by decide +kernel) rfl ?_
  refine b_pI (q := 152) (ci := 9) (k := 0) (w := .null) (by decide +kernel) (by decide +kernel) (fit_I _) (fun σ1 => ?_)
  refine b_run [(5, .aload_n 0, 0, 0, .null), (6, .iload_n 1, 0, 0, .null)] (pc' := 7) (ls' := [some (.ref 1315), some (.int x1), some (.int x2)]) (st' := [.int x1, .ref 1315]) (by decide +kernel) rfl ?_
  refine b_callI 182 2 [.ref 1315, .int x1] (rest := []) (by decide +kernel) rfl rfl rfl (go_O rfl (by decide +kernel) (by decide +kernel : isO 1315 9 = true)) rfl (s182 hv F x1 σ1) (by decide) (fun c3 σ2 => ?_)
  refine b_izT (c := .eq) (o := 33) (t := 43) (y := 0) (w := .null) (by decide +kernel) cmp_eq (fun _ => ?_) (fun _ => ?_)
  · refine b_run [(43, .iconst 0, 0, 0, .null)] (pc' := 44) (ls' := [some (.ref 1315), some (.int x1), some (.int x2)]) (st' := [.int 0]) (by decide +kernel) rfl ?_
    exact b_ret (i := (.ireturn, 0, 0, .null)) (by decide +kernel) rfl rfl (fit_I _)
  · refine b_run [(13, .iload_n 2, 0, 0, .null)] (pc' := 14) (ls' := [some (.ref 1315), some (.int x1), some (.int x2)]) (st' := [.int x2]) (by decide +kernel) rfl ?_
    refine b_izT (c := .lt) (o := 29) (t := 43) (y := 0) (w := .null) (by decide +kernel) cmp_lt (fun _ => ?_) (fun _ => ?_)
    · refine b_run [(43, .iconst 0, 0, 0, .null)] (pc' := 44) (ls' := [some (.ref 1315), some (.int x1), some (.int x2)]) (st' := [.int 0]) (by decide +kernel) rfl ?_
      exact b_ret (i := (.ireturn, 0, 0, .null)) (by decide +kernel) rfl rfl (fit_I _)
    · refine b_run [(17, .iload_n 2, 0, 0, .null), (18, .aload_n 0, 0, 0, .null)] (pc' := 19) (ls' := [some (.ref 1315), some (.int x1), some (.int x2)]) (st' := [.ref 1315, .int x2]) (by decide +kernel) rfl ?_
      refine b_getC (b := 1320) (q := 22) (ci := 9) (k := 7) (w := .null) (by decide +kernel) (by decide +kernel) ?_
      refine b_run [(22, .iload_n 1, 0, 0, .null)] (pc' := 23) (ls' := [some (.ref 1315), some (.int x1), some (.int x2)]) (st' := [.int x1, .ref 1320, .int x2]) (by decide +kernel) rfl ?_
      refine b_guard (fun hb => ?_)
      refine b_aI (ci := 0) (y := 0) (w := .null) (by decide +kernel) (by decide +kernel) hb (fun c4 => ?_)
      refine b_icF (c := .ge) (o := 19) (t := 43) (y := 0) (w := .null) (by decide +kernel) cmp_ge (fun _ => ?_) (fun _ => ?_)
      · refine b_run [(27, .aload_n 0, 0, 0, .null)] (pc' := 28) (ls' := [some (.ref 1315), some (.int x1), some (.int x2)]) (st' := [.ref 1315]) (by decide +kernel) rfl ?_
        refine b_getC (b := 1323) (q := 31) (ci := 9) (k := 10) (w := .null) (by decide +kernel) (by decide +kernel) ?_
        refine b_run [(31, .aload_n 0, 0, 0, .null)] (pc' := 32) (ls' := [some (.ref 1315), some (.int x1), some (.int x2)]) (st' := [.ref 1315, .ref 1323]) (by decide +kernel) rfl ?_
        refine b_getC (b := 1319) (q := 19) (ci := 9) (k := 6) (w := .null) (by decide +kernel) (by decide +kernel) ?_
        refine b_run [(35, .iload_n 1, 0, 0, .null)] (pc' := 36) (ls' := [some (.ref 1315), some (.int x1), some (.int x2)]) (st' := [.int x1, .ref 1319, .ref 1323]) (by decide +kernel) rfl ?_
        refine b_guard (fun hb => ?_)
        refine b_aI (ci := 0) (y := 0) (w := .null) (by decide +kernel) (by decide +kernel) hb (fun c5 => ?_)
        refine b_run [(37, .iload_n 2, 0, 0, .null), (38, .iadd, 0, 0, .null)] (pc' := 39) (ls' := [some (.ref 1315), some (.int x1), some (.int x2)]) (st' := [.int (c5 + x2), .ref 1323]) (by decide +kernel) rfl ?_
        refine b_guard (fun hb => ?_)
        refine b_aC (ci := 0) (y := 0) (w := .null) (by decide +kernel) (by decide +kernel) hb (fun c6 => ?_)
        refine b_run [(40, .goto 4, 44, 0, .null)] (pc' := 44) (ls' := [some (.ref 1315), some (.int x1), some (.int x2)]) (st' := [.int c6]) (by decide +kernel) rfl ?_
        exact b_ret (i := (.ireturn, 0, 0, .null)) (by decide +kernel) rfl rfl (fit_I _)
      · refine b_run [(43, .iconst 0, 0, 0, .null)] (pc' := 44) (ls' := [some (.ref 1315), some (.int x1), some (.int x2)]) (st' := [.int 0]) (by decide +kernel) rfl ?_
        exact b_ret (i := (.ireturn, 0, 0, .null)) (by decide +kernel) rfl rfl (fit_I _)
def f196_108 (F : Nat) (k54 : Int32 → Int32 → Int32 → St → Rs) (y3 : Int32) (y4 : Int32) (y5 : Int32) (σ : St) : Rs := k54 y3 y4 (y5 + 1) σ
theorem s196_108 {sc : aSc} (hv : vOk sc) (F : Nat) (k54 : Int32 → Int32 → Int32 → St → Rs) (hk54 : ∀ y3 y4 y5 σ, bEx sc 1 196 54 [some (.ref 1315), none, none, some (.int y3), some (.int y4), some (.int y5)] [] σ (k54 y3 y4 y5 σ)) (y3 : Int32) (y4 : Int32) (y5 : Int32) (σ : St) : bEx sc 1 196 108 [some (.ref 1315), none, none, some (.int y3), some (.int y4), some (.int y5)] [] σ (f196_108 F k54 y3 y4 y5 σ) := by
  unfold f196_108
  refine b_run [(108, .iinc 5 1, 0, 0, .null), (111, .goto (-57), 54, 0, .null)] (pc' := 54) (ls' := [some (.ref 1315), none, none, some (.int y3), some (.int y4), some (.int (y5 + 1))]) (st' := []) (by decide +kernel) rfl ?_
  exact b_wk (wS (wN (wN (wS (wS (wS w0)))))) (hk54 y3 y4 (y5 + 1) σ)
def f196_54 (F : Nat) : Nat → Int32 → Int32 → Int32 → St → Rs
  | 0, _, _, _, _ => none
  | n + 1, y3, y4, y5, σ => if y4 < y5 then oI 0 σ
    else if inB y5 31 then lt (σ.1 1317 y5.toNatClampNeg) fun c8 => 
    if c8 = 3 then 
    if inB y5 31 then lt (σ.1 1322 y5.toNatClampNeg) fun c9 => 
    if y3 < c9 then 
    if inB y5 31 then lt (σ.1 1321 y5.toNatClampNeg) fun c10 => if inB (c10 + y3) 4300 then lt (σ.1 1323 (c10 + y3).toNatClampNeg) fun c11 => oI c11 σ else none else none
    else if inB y5 31 then lt (σ.1 1322 y5.toNatClampNeg) fun c12 => lt (y3 - c12) fun c13 => f196_108 F (f196_54 F n) c13 y4 y5 σ else none else none
    else f196_108 F (f196_54 F n) y3 y4 y5 σ else none
theorem s196_54 {sc : aSc} (hv : vOk sc) (F : Nat) : ∀ (n : Nat) (y3 : Int32) (y4 : Int32) (y5 : Int32) (σ : St), bEx sc 1 196 54 [some (.ref 1315), none, none, some (.int y3), some (.int y4), some (.int y5)] [] σ (f196_54 F n y3 y4 y5 σ) := by
  intro n
  induction n with
  | zero => intro y3 y4 y5 σ; exact b_none
  | succ n ih =>
    intro y3 y4 y5 σ
    rw [f196_54.eq_2]
    refine b_run [(54, .iload 5, 0, 0, .null), (56, .iload 4, 0, 0, .null)] (pc' := 58) (ls' := [some (.ref 1315), none, none, some (.int y3), some (.int y4), some (.int y5)]) (st' := [.int y4, .int y5]) (by decide +kernel) rfl ?_
    refine b_icT (c := .gt) (o := 56) (t := 114) (y := 0) (w := .null) (by decide +kernel) cmp_gt (fun _ => ?_) (fun _ => ?_)
    · refine b_run [(114, .iconst 0, 0, 0, .null)] (pc' := 115) (ls' := [some (.ref 1315), none, none, some (.int y3), some (.int y4), some (.int y5)]) (st' := [.int 0]) (by decide +kernel) rfl ?_
      exact b_ret (i := (.ireturn, 0, 0, .null)) (by decide +kernel) rfl rfl (fit_I _)
    · refine b_run [(61, .aload_n 0, 0, 0, .null)] (pc' := 62) (ls' := [some (.ref 1315), none, none, some (.int y3), some (.int y4), some (.int y5)]) (st' := [.ref 1315]) (by decide +kernel) rfl ?_
      refine b_getC (b := 1317) (q := 13) (ci := 9) (k := 4) (w := .null) (by decide +kernel) (by decide +kernel) ?_
      refine b_run [(65, .iload 5, 0, 0, .null)] (pc' := 67) (ls' := [some (.ref 1315), none, none, some (.int y3), some (.int y4), some (.int y5)]) (st' := [.int y5, .ref 1317]) (by decide +kernel) rfl ?_
      refine b_guard (fun hb => ?_)
      refine b_aI (ci := 0) (y := 0) (w := .null) (by decide +kernel) (by decide +kernel) hb (fun c8 => ?_)
      refine b_run [(68, .iconst 3, 0, 0, .null)] (pc' := 69) (ls' := [some (.ref 1315), none, none, some (.int y3), some (.int y4), some (.int y5)]) (st' := [.int 3, .int c8]) (by decide +kernel) rfl ?_
      refine b_icF (c := .ne) (o := 39) (t := 108) (y := 0) (w := .null) (by decide +kernel) cmp_ne (fun _ => ?_) (fun _ => ?_)
      · refine b_run [(72, .iload_n 3, 0, 0, .null), (73, .aload_n 0, 0, 0, .null)] (pc' := 74) (ls' := [some (.ref 1315), none, none, some (.int y3), some (.int y4), some (.int y5)]) (st' := [.ref 1315, .int y3]) (by decide +kernel) rfl ?_
        refine b_getC (b := 1322) (q := 28) (ci := 9) (k := 9) (w := .null) (by decide +kernel) (by decide +kernel) ?_
        refine b_run [(77, .iload 5, 0, 0, .null)] (pc' := 79) (ls' := [some (.ref 1315), none, none, some (.int y3), some (.int y4), some (.int y5)]) (st' := [.int y5, .ref 1322, .int y3]) (by decide +kernel) rfl ?_
        refine b_guard (fun hb => ?_)
        refine b_aI (ci := 0) (y := 0) (w := .null) (by decide +kernel) (by decide +kernel) hb (fun c9 => ?_)
        refine b_icF (c := .ge) (o := 18) (t := 98) (y := 0) (w := .null) (by decide +kernel) cmp_ge (fun _ => ?_) (fun _ => ?_)
        · refine b_run [(83, .aload_n 0, 0, 0, .null)] (pc' := 84) (ls' := [some (.ref 1315), none, none, some (.int y3), some (.int y4), some (.int y5)]) (st' := [.ref 1315]) (by decide +kernel) rfl ?_
          refine b_getC (b := 1323) (q := 31) (ci := 9) (k := 10) (w := .null) (by decide +kernel) (by decide +kernel) ?_
          refine b_run [(87, .aload_n 0, 0, 0, .null)] (pc' := 88) (ls' := [some (.ref 1315), none, none, some (.int y3), some (.int y4), some (.int y5)]) (st' := [.ref 1315, .ref 1323]) (by decide +kernel) rfl ?_
          refine b_getC (b := 1321) (q := 25) (ci := 9) (k := 8) (w := .null) (by decide +kernel) (by decide +kernel) ?_
          refine b_run [(91, .iload 5, 0, 0, .null)] (pc' := 93) (ls' := [some (.ref 1315), none, none, some (.int y3), some (.int y4), some (.int y5)]) (st' := [.int y5, .ref 1321, .ref 1323]) (by decide +kernel) rfl ?_
          refine b_guard (fun hb => ?_)
          refine b_aI (ci := 0) (y := 0) (w := .null) (by decide +kernel) (by decide +kernel) hb (fun c10 => ?_)
          refine b_run [(94, .iload_n 3, 0, 0, .null), (95, .iadd, 0, 0, .null)] (pc' := 96) (ls' := [some (.ref 1315), none, none, some (.int y3), some (.int y4), some (.int y5)]) (st' := [.int (c10 + y3), .ref 1323]) (by decide +kernel) rfl ?_
          refine b_guard (fun hb => ?_)
          refine b_aC (ci := 0) (y := 0) (w := .null) (by decide +kernel) (by decide +kernel) hb (fun c11 => ?_)
          exact b_ret (i := (.ireturn, 0, 0, .null)) (by decide +kernel) rfl rfl (fit_I _)
        · refine b_run [(98, .iload_n 3, 0, 0, .null), (99, .aload_n 0, 0, 0, .null)] (pc' := 100) (ls' := [some (.ref 1315), none, none, some (.int y3), some (.int y4), some (.int y5)]) (st' := [.ref 1315, .int y3]) (by decide +kernel) rfl ?_
          refine b_getC (b := 1322) (q := 28) (ci := 9) (k := 9) (w := .null) (by decide +kernel) (by decide +kernel) ?_
          refine b_run [(103, .iload 5, 0, 0, .null)] (pc' := 105) (ls' := [some (.ref 1315), none, none, some (.int y3), some (.int y4), some (.int y5)]) (st' := [.int y5, .ref 1322, .int y3]) (by decide +kernel) rfl ?_
          refine b_guard (fun hb => ?_)
          refine b_aI (ci := 0) (y := 0) (w := .null) (by decide +kernel) (by decide +kernel) hb (fun c12 => ?_)
          refine b_run [(106, .isub, 0, 0, .null), (107, .istore_n 3, 0, 0, .null)] (pc' := 108) (ls' := [some (.ref 1315), none, none, some (.int (y3 - c12)), some (.int y4), some (.int y5)]) (st' := []) (by decide +kernel) rfl ?_
          refine b_let (y3 - c12) (L := fun c13 => [some (.ref 1315), none, none, some (.int c13), some (.int y4), some (.int y5)]) (S := fun _ => []) (fun c13 => ?_)
          exact b_wk (wS (wN (wN (wS (wS (wS w0)))))) (s196_108 hv F (f196_54 F n) ih c13 y4 y5 σ)
      · exact b_wk (wS (wN (wN (wS (wS (wS w0)))))) (s196_108 hv F (f196_54 F n) ih y3 y4 y5 σ)
/-- TreeStoreModel.stringAt(II)I -/
def f196 (F : Nat) (x1 : Int32) (x2 : Int32) (σ : St) : Rs := if inB x1 31 then lt (σ.1 1317 x1.toNatClampNeg) fun c1 => 
    if 1 < c1 then 
    if inB x1 31 then lt (σ.1 1322 x1.toNatClampNeg) fun c2 => 
    if x2 < c2 then 
    if inB x1 31 then lt (σ.1 1321 x1.toNatClampNeg) fun c3 => if inB (c3 + x2) 4300 then lt (σ.1 1323 (c3 + x2).toNatClampNeg) fun c4 => oI c4 σ else none else none
    else oI 0 σ else none
    else cI (f185 F x1 σ) fun c6 σ5 => lt (x1 + c6) fun c7 => f196_54 F F x2 c7 (x1 + 1) σ5 else none
theorem s196 {sc : aSc} (hv : vOk sc) (F : Nat) (x1 : Int32) (x2 : Int32) (σ : St) : bEx sc 1 196 0 [some (.ref 1315), some (.int x1), some (.int x2), none, none, none] [] σ (f196 F x1 x2 σ) := by
  unfold f196
  refine b_run [(0, .aload_n 0, 0, 0, .null)] (pc' := 1) (ls' := [some (.ref 1315), some (.int x1), some (.int x2), none, none, none]) (st' := [.ref 1315]) (by decide +kernel) rfl ?_
  refine b_getC (b := 1317) (q := 13) (ci := 9) (k := 4) (w := .null) (by decide +kernel) (by decide +kernel) ?_
  refine b_run [(4, .iload_n 1, 0, 0, .null)] (pc' := 5) (ls' := [some (.ref 1315), some (.int x1), some (.int x2), none, none, none]) (st' := [.int x1, .ref 1317]) (by decide +kernel) rfl ?_
  refine b_guard (fun hb => ?_)
  refine b_aI (ci := 0) (y := 0) (w := .null) (by decide +kernel) (by decide +kernel) hb (fun c1 => ?_)
  refine b_run [(6, .iconst 1, 0, 0, .null)] (pc' := 7) (ls' := [some (.ref 1315), some (.int x1), some (.int x2), none, none, none]) (st' := [.int 1, .int c1]) (by decide +kernel) rfl ?_
  refine b_icF (c := .le) (o := 31) (t := 38) (y := 0) (w := .null) (by decide +kernel) cmp_le (fun _ => ?_) (fun _ => ?_)
  · refine b_run [(10, .iload_n 2, 0, 0, .null), (11, .aload_n 0, 0, 0, .null)] (pc' := 12) (ls' := [some (.ref 1315), some (.int x1), some (.int x2), none, none, none]) (st' := [.ref 1315, .int x2]) (by decide +kernel) rfl ?_
    refine b_getC (b := 1322) (q := 28) (ci := 9) (k := 9) (w := .null) (by decide +kernel) (by decide +kernel) ?_
    refine b_run [(15, .iload_n 1, 0, 0, .null)] (pc' := 16) (ls' := [some (.ref 1315), some (.int x1), some (.int x2), none, none, none]) (st' := [.int x1, .ref 1322, .int x2]) (by decide +kernel) rfl ?_
    refine b_guard (fun hb => ?_)
    refine b_aI (ci := 0) (y := 0) (w := .null) (by decide +kernel) (by decide +kernel) hb (fun c2 => ?_)
    refine b_icF (c := .ge) (o := 19) (t := 36) (y := 0) (w := .null) (by decide +kernel) cmp_ge (fun _ => ?_) (fun _ => ?_)
    · refine b_run [(20, .aload_n 0, 0, 0, .null)] (pc' := 21) (ls' := [some (.ref 1315), some (.int x1), some (.int x2), none, none, none]) (st' := [.ref 1315]) (by decide +kernel) rfl ?_
      refine b_getC (b := 1323) (q := 31) (ci := 9) (k := 10) (w := .null) (by decide +kernel) (by decide +kernel) ?_
      refine b_run [(24, .aload_n 0, 0, 0, .null)] (pc' := 25) (ls' := [some (.ref 1315), some (.int x1), some (.int x2), none, none, none]) (st' := [.ref 1315, .ref 1323]) (by decide +kernel) rfl ?_
      refine b_getC (b := 1321) (q := 25) (ci := 9) (k := 8) (w := .null) (by decide +kernel) (by decide +kernel) ?_
      refine b_run [(28, .iload_n 1, 0, 0, .null)] (pc' := 29) (ls' := [some (.ref 1315), some (.int x1), some (.int x2), none, none, none]) (st' := [.int x1, .ref 1321, .ref 1323]) (by decide +kernel) rfl ?_
      refine b_guard (fun hb => ?_)
      refine b_aI (ci := 0) (y := 0) (w := .null) (by decide +kernel) (by decide +kernel) hb (fun c3 => ?_)
      refine b_run [(30, .iload_n 2, 0, 0, .null), (31, .iadd, 0, 0, .null)] (pc' := 32) (ls' := [some (.ref 1315), some (.int x1), some (.int x2), none, none, none]) (st' := [.int (c3 + x2), .ref 1323]) (by decide +kernel) rfl ?_
      refine b_guard (fun hb => ?_)
      refine b_aC (ci := 0) (y := 0) (w := .null) (by decide +kernel) (by decide +kernel) hb (fun c4 => ?_)
      refine b_run [(33, .goto 4, 37, 0, .null)] (pc' := 37) (ls' := [some (.ref 1315), some (.int x1), some (.int x2), none, none, none]) (st' := [.int c4]) (by decide +kernel) rfl ?_
      exact b_ret (i := (.ireturn, 0, 0, .null)) (by decide +kernel) rfl rfl (fit_I _)
    · refine b_run [(36, .iconst 0, 0, 0, .null)] (pc' := 37) (ls' := [some (.ref 1315), some (.int x1), some (.int x2), none, none, none]) (st' := [.int 0]) (by decide +kernel) rfl ?_
      exact b_ret (i := (.ireturn, 0, 0, .null)) (by decide +kernel) rfl rfl (fit_I _)
  · refine b_run [(38, .iload_n 2, 0, 0, .null), (39, .istore_n 3, 0, 0, .null), (40, .iload_n 1, 0, 0, .null), (41, .aload_n 0, 0, 0, .null), (42, .iload_n 1, 0, 0, .null)] (pc' := 43) (ls' := [some (.ref 1315), some (.int x1), some (.int x2), some (.int x2), none, none]) (st' := [.int x1, .ref 1315, .int x1]) (by decide +kernel) rfl ?_
    refine b_callI 185 2 [.ref 1315, .int x1] (rest := [.int x1]) (by decide +kernel) rfl rfl rfl (go_O rfl (by decide +kernel) (by decide +kernel : isO 1315 9 = true)) rfl (s185 hv F x1 σ) (by decide) (fun c6 σ5 => ?_)
    refine b_run [(46, .iadd, 0, 0, .null), (47, .istore 4, 0, 0, .null)] (pc' := 49) (ls' := [some (.ref 1315), some (.int x1), some (.int x2), some (.int x2), some (.int (x1 + c6)), none]) (st' := []) (by decide +kernel) rfl ?_
    refine b_let (x1 + c6) (L := fun c7 => [some (.ref 1315), some (.int x1), some (.int x2), some (.int x2), some (.int c7), none]) (S := fun _ => []) (fun c7 => ?_)
    refine b_run [(49, .iload_n 1, 0, 0, .null), (50, .iconst 1, 0, 0, .null), (51, .iadd, 0, 0, .null), (52, .istore 5, 0, 0, .null)] (pc' := 54) (ls' := [some (.ref 1315), some (.int x1), some (.int x2), some (.int x2), some (.int c7), some (.int (x1 + 1))]) (st' := []) (by decide +kernel) rfl ?_
    exact b_wk (wS (wN (wN (wS (wS (wS w0)))))) (s196_54 hv F F x2 c7 (x1 + 1) σ5)
/-- TreeStoreModel.value(II)I -/
def f195 (F : Nat) (x1 : Int32) (x2 : Int32) (σ : St) : Rs := lt (uI σ 1315 0 0) fun σ1 => 
    cI (f182 F x1 σ1) fun c3 σ2 => 
    if c3 = 0 then oI 0 σ2
    else if x2 < 0 then oI 0 σ2
    else cI (f196 F x1 x2 σ2) fun c5 σ4 => oI c5 σ4
theorem s195 {sc : aSc} (hv : vOk sc) (F : Nat) (x1 : Int32) (x2 : Int32) (σ : St) : bEx sc 2 195 0 [some (.ref 1315), some (.int x1), some (.int x2)] [] σ (f195 F x1 x2 σ) := by
  unfold f195
  refine b_run [(0, .aload_n 0, 0, 0, .null), (1, .iconst 0, 0, 0, .null)] (pc' := 2) (ls' := [some (.ref 1315), some (.int x1), some (.int x2)]) (st' := [.int 0, .ref 1315]) (by decide +kernel) rfl ?_
  refine b_pI (q := 152) (ci := 9) (k := 0) (w := .null) (by decide +kernel) (by decide +kernel) (fit_I _) (fun σ1 => ?_)
  refine b_run [(5, .aload_n 0, 0, 0, .null), (6, .iload_n 1, 0, 0, .null)] (pc' := 7) (ls' := [some (.ref 1315), some (.int x1), some (.int x2)]) (st' := [.int x1, .ref 1315]) (by decide +kernel) rfl ?_
  refine b_callI 182 2 [.ref 1315, .int x1] (rest := []) (by decide +kernel) rfl rfl rfl (go_O rfl (by decide +kernel) (by decide +kernel : isO 1315 9 = true)) rfl (s182 hv F x1 σ1) (by decide) (fun c3 σ2 => ?_)
  refine b_izT (c := .eq) (o := 16) (t := 26) (y := 0) (w := .null) (by decide +kernel) cmp_eq (fun _ => ?_) (fun _ => ?_)
  · refine b_run [(26, .iconst 0, 0, 0, .null)] (pc' := 27) (ls' := [some (.ref 1315), some (.int x1), some (.int x2)]) (st' := [.int 0]) (by decide +kernel) rfl ?_
    exact b_ret (i := (.ireturn, 0, 0, .null)) (by decide +kernel) rfl rfl (fit_I _)
  · refine b_run [(13, .iload_n 2, 0, 0, .null)] (pc' := 14) (ls' := [some (.ref 1315), some (.int x1), some (.int x2)]) (st' := [.int x2]) (by decide +kernel) rfl ?_
    refine b_izT (c := .lt) (o := 12) (t := 26) (y := 0) (w := .null) (by decide +kernel) cmp_lt (fun _ => ?_) (fun _ => ?_)
    · refine b_run [(26, .iconst 0, 0, 0, .null)] (pc' := 27) (ls' := [some (.ref 1315), some (.int x1), some (.int x2)]) (st' := [.int 0]) (by decide +kernel) rfl ?_
      exact b_ret (i := (.ireturn, 0, 0, .null)) (by decide +kernel) rfl rfl (fit_I _)
    · refine b_run [(17, .aload_n 0, 0, 0, .null), (18, .iload_n 1, 0, 0, .null), (19, .iload_n 2, 0, 0, .null)] (pc' := 20) (ls' := [some (.ref 1315), some (.int x1), some (.int x2)]) (st' := [.int x2, .int x1, .ref 1315]) (by decide +kernel) rfl ?_
      refine b_callI 196 3 [.ref 1315, .int x1, .int x2] (rest := []) (by decide +kernel) rfl rfl rfl (go_O rfl (by decide +kernel) (by decide +kernel : isO 1315 9 = true)) rfl (s196 hv F x1 x2 σ2) (by decide) (fun c5 σ4 => ?_)
      refine b_run [(23, .goto 4, 27, 0, .null)] (pc' := 27) (ls' := [some (.ref 1315), some (.int x1), some (.int x2)]) (st' := [.int c5]) (by decide +kernel) rfl ?_
      exact b_ret (i := (.ireturn, 0, 0, .null)) (by decide +kernel) rfl rfl (fit_I _)
/-- TreeStoreModel.out(I)V -/
def f199 (F : Nat) (x1 : Int32) (σ : St) : Rs := lt (σ.1 1315 63) fun c1 => 
    lt (σ.1 1315 62) fun c2 => 
    if c1 = c2 then lt (uI σ 1315 64 x1) fun σ3 => lt (σ3.1 1315 63) fun c4 => lt (uI σ3 1315 63 (c4 + 1)) fun σ5 => oV σ5
    else lt (σ.1 1315 64) fun c6 => lt (uI σ 1315 64 c6) fun σ7 => lt (σ7.1 1315 63) fun c8 => lt (uI σ7 1315 63 (c8 + 1)) fun σ9 => oV σ9
theorem s199 {sc : aSc} (hv : vOk sc) (F : Nat) (x1 : Int32) (σ : St) : bEx sc 0 199 0 [some (.ref 1315), some (.int x1)] [] σ (f199 F x1 σ) := by
  unfold f199
  refine b_run [(0, .aload_n 0, 0, 0, .null), (1, .aload_n 0, 0, 0, .null)] (pc' := 2) (ls' := [some (.ref 1315), some (.int x1)]) (st' := [.ref 1315, .ref 1315]) (by decide +kernel) rfl ?_
  refine b_gI (q := 312) (ci := 9) (k := 63) (w := .null) (by decide +kernel) (by decide +kernel) (fun c1 => ?_)
  refine b_run [(5, .aload_n 0, 0, 0, .null)] (pc' := 6) (ls' := [some (.ref 1315), some (.int x1)]) (st' := [.ref 1315, .int c1, .ref 1315]) (by decide +kernel) rfl ?_
  refine b_gI (q := 315) (ci := 9) (k := 62) (w := .null) (by decide +kernel) (by decide +kernel) (fun c2 => ?_)
  refine b_icF (c := .ne) (o := 7) (t := 16) (y := 0) (w := .null) (by decide +kernel) cmp_ne (fun _ => ?_) (fun _ => ?_)
  · refine b_run [(12, .iload_n 1, 0, 0, .null), (13, .goto 7, 20, 0, .null)] (pc' := 20) (ls' := [some (.ref 1315), some (.int x1)]) (st' := [.int x1, .ref 1315]) (by decide +kernel) rfl ?_
    refine b_pI (q := 318) (ci := 9) (k := 64) (w := .null) (by decide +kernel) (by decide +kernel) (fit_I _) (fun σ3 => ?_)
    refine b_run [(23, .aload_n 0, 0, 0, .null), (24, .dup, 0, 0, .null)] (pc' := 25) (ls' := [some (.ref 1315), some (.int x1)]) (st' := [.ref 1315, .ref 1315]) (by decide +kernel) rfl ?_
    refine b_gI (q := 312) (ci := 9) (k := 63) (w := .null) (by decide +kernel) (by decide +kernel) (fun c4 => ?_)
    refine b_run [(28, .iconst 1, 0, 0, .null), (29, .iadd, 0, 0, .null)] (pc' := 30) (ls' := [some (.ref 1315), some (.int x1)]) (st' := [.int (c4 + 1), .ref 1315]) (by decide +kernel) rfl ?_
    refine b_pI (q := 312) (ci := 9) (k := 63) (w := .null) (by decide +kernel) (by decide +kernel) (fit_I _) (fun σ5 => ?_)
    exact b_ret0 (i := (.return_, 0, 0, .null)) (by decide +kernel) rfl rfl
  · refine b_run [(16, .aload_n 0, 0, 0, .null)] (pc' := 17) (ls' := [some (.ref 1315), some (.int x1)]) (st' := [.ref 1315, .ref 1315]) (by decide +kernel) rfl ?_
    refine b_gI (q := 318) (ci := 9) (k := 64) (w := .null) (by decide +kernel) (by decide +kernel) (fun c6 => ?_)
    refine b_pI (q := 318) (ci := 9) (k := 64) (w := .null) (by decide +kernel) (by decide +kernel) (fit_I _) (fun σ7 => ?_)
    refine b_run [(23, .aload_n 0, 0, 0, .null), (24, .dup, 0, 0, .null)] (pc' := 25) (ls' := [some (.ref 1315), some (.int x1)]) (st' := [.ref 1315, .ref 1315]) (by decide +kernel) rfl ?_
    refine b_gI (q := 312) (ci := 9) (k := 63) (w := .null) (by decide +kernel) (by decide +kernel) (fun c8 => ?_)
    refine b_run [(28, .iconst 1, 0, 0, .null), (29, .iadd, 0, 0, .null)] (pc' := 30) (ls' := [some (.ref 1315), some (.int x1)]) (st' := [.int (c8 + 1), .ref 1315]) (by decide +kernel) rfl ?_
    refine b_pI (q := 312) (ci := 9) (k := 63) (w := .null) (by decide +kernel) (by decide +kernel) (fit_I _) (fun σ9 => ?_)
    exact b_ret0 (i := (.return_, 0, 0, .null)) (by decide +kernel) rfl rfl
def f200_2 (F : Nat) : Nat → Int32 → Int32 → St → Rs
  | 0, _, _, _ => none
  | n + 1, y1, y2, σ => if inB y1 31 then lt (σ.1 1320 y1.toNatClampNeg) fun c1 => 
    if y2 < c1 then 
    if inB y1 31 then lt (σ.1 1319 y1.toNatClampNeg) fun c2 => 
    if inB (c2 + y2) 4300 then lt (σ.1 1323 (c2 + y2).toNatClampNeg) fun c3 => cV (f199 F c3 σ) fun σ4 => f200_2 F n y1 (y2 + 1) σ4 else none else none
    else oV σ else none
theorem s200_2 {sc : aSc} (hv : vOk sc) (F : Nat) : ∀ (n : Nat) (y1 : Int32) (y2 : Int32) (σ : St), bEx sc 1 200 2 [some (.ref 1315), some (.int y1), some (.int y2)] [] σ (f200_2 F n y1 y2 σ) := by
  intro n
  induction n with
  | zero => intro y1 y2 σ; exact b_none
  | succ n ih =>
    intro y1 y2 σ
    rw [f200_2.eq_2]
    refine b_run [(2, .iload_n 2, 0, 0, .null), (3, .aload_n 0, 0, 0, .null)] (pc' := 4) (ls' := [some (.ref 1315), some (.int y1), some (.int y2)]) (st' := [.ref 1315, .int y2]) (by decide +kernel) rfl ?_
    refine b_getC (b := 1320) (q := 22) (ci := 9) (k := 7) (w := .null) (by decide +kernel) (by decide +kernel) ?_
    refine b_run [(7, .iload_n 1, 0, 0, .null)] (pc' := 8) (ls' := [some (.ref 1315), some (.int y1), some (.int y2)]) (st' := [.int y1, .ref 1320, .int y2]) (by decide +kernel) rfl ?_
    refine b_guard (fun hb => ?_)
    refine b_aI (ci := 0) (y := 0) (w := .null) (by decide +kernel) (by decide +kernel) hb (fun c1 => ?_)
    refine b_icF (c := .ge) (o := 26) (t := 35) (y := 0) (w := .null) (by decide +kernel) cmp_ge (fun _ => ?_) (fun _ => ?_)
    · refine b_run [(12, .aload_n 0, 0, 0, .null), (13, .aload_n 0, 0, 0, .null)] (pc' := 14) (ls' := [some (.ref 1315), some (.int y1), some (.int y2)]) (st' := [.ref 1315, .ref 1315]) (by decide +kernel) rfl ?_
      refine b_getC (b := 1323) (q := 31) (ci := 9) (k := 10) (w := .null) (by decide +kernel) (by decide +kernel) ?_
      refine b_run [(17, .aload_n 0, 0, 0, .null)] (pc' := 18) (ls' := [some (.ref 1315), some (.int y1), some (.int y2)]) (st' := [.ref 1315, .ref 1323, .ref 1315]) (by decide +kernel) rfl ?_
      refine b_getC (b := 1319) (q := 19) (ci := 9) (k := 6) (w := .null) (by decide +kernel) (by decide +kernel) ?_
      refine b_run [(21, .iload_n 1, 0, 0, .null)] (pc' := 22) (ls' := [some (.ref 1315), some (.int y1), some (.int y2)]) (st' := [.int y1, .ref 1319, .ref 1323, .ref 1315]) (by decide +kernel) rfl ?_
      refine b_guard (fun hb => ?_)
      refine b_aI (ci := 0) (y := 0) (w := .null) (by decide +kernel) (by decide +kernel) hb (fun c2 => ?_)
      refine b_run [(23, .iload_n 2, 0, 0, .null), (24, .iadd, 0, 0, .null)] (pc' := 25) (ls' := [some (.ref 1315), some (.int y1), some (.int y2)]) (st' := [.int (c2 + y2), .ref 1323, .ref 1315]) (by decide +kernel) rfl ?_
      refine b_guard (fun hb => ?_)
      refine b_aC (ci := 0) (y := 0) (w := .null) (by decide +kernel) (by decide +kernel) hb (fun c3 => ?_)
      refine b_callV 199 2 [.ref 1315, .int c3] (rest := []) (by decide +kernel) rfl rfl rfl (go_O rfl (by decide +kernel) (by decide +kernel : isO 1315 9 = true)) rfl (s199 hv F c3 σ) (by decide) (fun σ4 => ?_)
      refine b_run [(29, .iinc 2 1, 0, 0, .null), (32, .goto (-30), 2, 0, .null)] (pc' := 2) (ls' := [some (.ref 1315), some (.int y1), some (.int (y2 + 1))]) (st' := []) (by decide +kernel) rfl ?_
      exact b_wk (wS (wS (wS w0))) (ih y1 (y2 + 1) σ4)
    · exact b_ret0 (i := (.return_, 0, 0, .null)) (by decide +kernel) rfl rfl
/-- TreeStoreModel.outName(I)V -/
def f200 (F : Nat) (x1 : Int32) (σ : St) : Rs := f200_2 F F x1 0 σ
theorem s200 {sc : aSc} (hv : vOk sc) (F : Nat) (x1 : Int32) (σ : St) : bEx sc 1 200 0 [some (.ref 1315), some (.int x1), none] [] σ (f200 F x1 σ) := by
  unfold f200
  refine b_run [(0, .iconst 0, 0, 0, .null), (1, .istore_n 2, 0, 0, .null)] (pc' := 2) (ls' := [some (.ref 1315), some (.int x1), some (.int 0)]) (st' := []) (by decide +kernel) rfl ?_
  exact b_wk (wS (wS (wS w0))) (s200_2 hv F F x1 0 σ)
/-- TreeStoreModel.outEnd(I)V -/
def f198 (F : Nat) (x1 : Int32) (σ : St) : Rs := cV (f199 F 60 σ) fun σ1 => cV (f199 F 47 σ1) fun σ3 => cV (f200 F x1 σ3) fun σ5 => cV (f199 F 62 σ5) fun σ7 => oV σ7
theorem s198 {sc : aSc} (hv : vOk sc) (F : Nat) (x1 : Int32) (σ : St) : bEx sc 2 198 0 [some (.ref 1315), some (.int x1)] [] σ (f198 F x1 σ) := by
  unfold f198
  refine b_run [(0, .aload_n 0, 0, 0, .null), (1, .bipush 60, 0, 0, .null)] (pc' := 3) (ls' := [some (.ref 1315), some (.int x1)]) (st' := [.int 60, .ref 1315]) (by decide +kernel) rfl ?_
  refine b_callV 199 2 [.ref 1315, .int 60] (rest := []) (by decide +kernel) rfl rfl rfl (go_O rfl (by decide +kernel) (by decide +kernel : isO 1315 9 = true)) rfl (s199 hv F 60 σ) (by decide) (fun σ1 => ?_)
  refine b_run [(6, .aload_n 0, 0, 0, .null), (7, .bipush 47, 0, 0, .null)] (pc' := 9) (ls' := [some (.ref 1315), some (.int x1)]) (st' := [.int 47, .ref 1315]) (by decide +kernel) rfl ?_
  refine b_callV 199 2 [.ref 1315, .int 47] (rest := []) (by decide +kernel) rfl rfl rfl (go_O rfl (by decide +kernel) (by decide +kernel : isO 1315 9 = true)) rfl (s199 hv F 47 σ1) (by decide) (fun σ3 => ?_)
  refine b_run [(12, .aload_n 0, 0, 0, .null), (13, .iload_n 1, 0, 0, .null)] (pc' := 14) (ls' := [some (.ref 1315), some (.int x1)]) (st' := [.int x1, .ref 1315]) (by decide +kernel) rfl ?_
  refine b_callV 200 2 [.ref 1315, .int x1] (rest := []) (by decide +kernel) rfl rfl rfl (go_O rfl (by decide +kernel) (by decide +kernel : isO 1315 9 = true)) rfl (s200 hv F x1 σ3) (by decide) (fun σ5 => ?_)
  refine b_run [(17, .aload_n 0, 0, 0, .null), (18, .bipush 62, 0, 0, .null)] (pc' := 20) (ls' := [some (.ref 1315), some (.int x1)]) (st' := [.int 62, .ref 1315]) (by decide +kernel) rfl ?_
  refine b_callV 199 2 [.ref 1315, .int 62] (rest := []) (by decide +kernel) rfl rfl rfl (go_O rfl (by decide +kernel) (by decide +kernel : isO 1315 9 = true)) rfl (s199 hv F 62 σ5) (by decide) (fun σ7 => ?_)
  exact b_ret0 (i := (.return_, 0, 0, .null)) (by decide +kernel) rfl rfl
def f203_25 (F : Nat) (y4 : Int32) (σ : St) : Rs := if y4 = 0 then cV (f199 F 59 σ) fun σ7 => oV σ7
    else cV (f199 F y4 σ) fun σ9 => cV (f199 F 59 σ9) fun σ11 => oV σ11
theorem s203_25 {sc : aSc} (hv : vOk sc) (F : Nat) (y4 : Int32) (σ : St) : bEx sc 1 203 25 [some (.ref 1315), none, none, none, some (.int y4)] [] σ (f203_25 F y4 σ) := by
  unfold f203_25
  refine b_run [(25, .iload 4, 0, 0, .null)] (pc' := 27) (ls' := [some (.ref 1315), none, none, none, some (.int y4)]) (st' := [.int y4]) (by decide +kernel) rfl ?_
  refine b_izT (c := .eq) (o := 9) (t := 36) (y := 0) (w := .null) (by decide +kernel) cmp_eq (fun _ => ?_) (fun _ => ?_)
  · refine b_run [(36, .aload_n 0, 0, 0, .null), (37, .bipush 59, 0, 0, .null)] (pc' := 39) (ls' := [some (.ref 1315), none, none, none, some (.int y4)]) (st' := [.int 59, .ref 1315]) (by decide +kernel) rfl ?_
    refine b_callV 199 2 [.ref 1315, .int 59] (rest := []) (by decide +kernel) rfl rfl rfl (go_O rfl (by decide +kernel) (by decide +kernel : isO 1315 9 = true)) rfl (s199 hv F 59 σ) (by decide) (fun σ7 => ?_)
    exact b_ret0 (i := (.return_, 0, 0, .null)) (by decide +kernel) rfl rfl
  · refine b_run [(30, .aload_n 0, 0, 0, .null), (31, .iload 4, 0, 0, .null)] (pc' := 33) (ls' := [some (.ref 1315), none, none, none, some (.int y4)]) (st' := [.int y4, .ref 1315]) (by decide +kernel) rfl ?_
    refine b_callV 199 2 [.ref 1315, .int y4] (rest := []) (by decide +kernel) rfl rfl rfl (go_O rfl (by decide +kernel) (by decide +kernel : isO 1315 9 = true)) rfl (s199 hv F y4 σ) (by decide) (fun σ9 => ?_)
    refine b_run [(36, .aload_n 0, 0, 0, .null), (37, .bipush 59, 0, 0, .null)] (pc' := 39) (ls' := [some (.ref 1315), none, none, none, some (.int y4)]) (st' := [.int 59, .ref 1315]) (by decide +kernel) rfl ?_
    refine b_callV 199 2 [.ref 1315, .int 59] (rest := []) (by decide +kernel) rfl rfl rfl (go_O rfl (by decide +kernel) (by decide +kernel : isO 1315 9 = true)) rfl (s199 hv F 59 σ9) (by decide) (fun σ11 => ?_)
    exact b_ret0 (i := (.return_, 0, 0, .null)) (by decide +kernel) rfl rfl
/-- TreeStoreModel.outEntity(IIII)V -/
def f203 (F : Nat) (x1 : Int32) (x2 : Int32) (x3 : Int32) (x4 : Int32) (σ : St) : Rs := cV (f199 F 38 σ) fun σ1 => 
    cV (f199 F x1 σ1) fun σ3 => 
    cV (f199 F x2 σ3) fun σ5 => 
    if x3 = 0 then f203_25 F x4 σ5
    else cV (f199 F x3 σ5) fun σ13 => f203_25 F x4 σ13
theorem s203 {sc : aSc} (hv : vOk sc) (F : Nat) (x1 : Int32) (x2 : Int32) (x3 : Int32) (x4 : Int32) (σ : St) : bEx sc 1 203 0 [some (.ref 1315), some (.int x1), some (.int x2), some (.int x3), some (.int x4)] [] σ (f203 F x1 x2 x3 x4 σ) := by
  unfold f203
  refine b_run [(0, .aload_n 0, 0, 0, .null), (1, .bipush 38, 0, 0, .null)] (pc' := 3) (ls' := [some (.ref 1315), some (.int x1), some (.int x2), some (.int x3), some (.int x4)]) (st' := [.int 38, .ref 1315]) (by decide +kernel) rfl ?_
  refine b_callV 199 2 [.ref 1315, .int 38] (rest := []) (by decide +kernel) rfl rfl rfl (go_O rfl (by decide +kernel) (by decide +kernel : isO 1315 9 = true)) rfl (s199 hv F 38 σ) (by decide) (fun σ1 => ?_)
  refine b_run [(6, .aload_n 0, 0, 0, .null), (7, .iload_n 1, 0, 0, .null)] (pc' := 8) (ls' := [some (.ref 1315), some (.int x1), some (.int x2), some (.int x3), some (.int x4)]) (st' := [.int x1, .ref 1315]) (by decide +kernel) rfl ?_
  refine b_callV 199 2 [.ref 1315, .int x1] (rest := []) (by decide +kernel) rfl rfl rfl (go_O rfl (by decide +kernel) (by decide +kernel : isO 1315 9 = true)) rfl (s199 hv F x1 σ1) (by decide) (fun σ3 => ?_)
  refine b_run [(11, .aload_n 0, 0, 0, .null), (12, .iload_n 2, 0, 0, .null)] (pc' := 13) (ls' := [some (.ref 1315), some (.int x1), some (.int x2), some (.int x3), some (.int x4)]) (st' := [.int x2, .ref 1315]) (by decide +kernel) rfl ?_
  refine b_callV 199 2 [.ref 1315, .int x2] (rest := []) (by decide +kernel) rfl rfl rfl (go_O rfl (by decide +kernel) (by decide +kernel : isO 1315 9 = true)) rfl (s199 hv F x2 σ3) (by decide) (fun σ5 => ?_)
  refine b_run [(16, .iload_n 3, 0, 0, .null)] (pc' := 17) (ls' := [some (.ref 1315), some (.int x1), some (.int x2), some (.int x3), some (.int x4)]) (st' := [.int x3]) (by decide +kernel) rfl ?_
  refine b_izT (c := .eq) (o := 8) (t := 25) (y := 0) (w := .null) (by decide +kernel) cmp_eq (fun _ => ?_) (fun _ => ?_)
  · exact b_wk (wS (wN (wN (wN (wS w0))))) (s203_25 hv F x4 σ5)
  · refine b_run [(20, .aload_n 0, 0, 0, .null), (21, .iload_n 3, 0, 0, .null)] (pc' := 22) (ls' := [some (.ref 1315), some (.int x1), some (.int x2), some (.int x3), some (.int x4)]) (st' := [.int x3, .ref 1315]) (by decide +kernel) rfl ?_
    refine b_callV 199 2 [.ref 1315, .int x3] (rest := []) (by decide +kernel) rfl rfl rfl (go_O rfl (by decide +kernel) (by decide +kernel : isO 1315 9 = true)) rfl (s199 hv F x3 σ5) (by decide) (fun σ13 => ?_)
    exact b_wk (wS (wN (wN (wN (wS w0))))) (s203_25 hv F x4 σ13)
def f202_128 (F : Nat) (k2 : Int32 → Int32 → St → Rs) (y1 : Int32) (y2 : Int32) (σ : St) : Rs := k2 y1 (y2 + 1) σ
theorem s202_128 {sc : aSc} (hv : vOk sc) (F : Nat) (k2 : Int32 → Int32 → St → Rs) (hk2 : ∀ y1 y2 σ, bEx sc 2 202 2 [some (.ref 1315), some (.int y1), some (.int y2), none, none] [] σ (k2 y1 y2 σ)) (y1 : Int32) (y2 : Int32) (σ : St) : bEx sc 2 202 128 [some (.ref 1315), some (.int y1), some (.int y2), none, none] [] σ (f202_128 F k2 y1 y2 σ) := by
  unfold f202_128
  refine b_run [(128, .iinc 2 1, 0, 0, .null), (131, .goto (-129), 2, 0, .null)] (pc' := 2) (ls' := [some (.ref 1315), some (.int y1), some (.int (y2 + 1)), none, none]) (st' := []) (by decide +kernel) rfl ?_
  exact b_wk (wS (wS (wS (wN (wN w0))))) (hk2 y1 (y2 + 1) σ)
def f202_123 (F : Nat) (k2 : Int32 → Int32 → St → Rs) (y1 : Int32) (y2 : Int32) (y3 : Int32) (σ : St) : Rs := cV (f199 F y3 σ) fun σ12 => f202_128 F k2 y1 y2 σ12
theorem s202_123 {sc : aSc} (hv : vOk sc) (F : Nat) (k2 : Int32 → Int32 → St → Rs) (hk2 : ∀ y1 y2 σ, bEx sc 2 202 2 [some (.ref 1315), some (.int y1), some (.int y2), none, none] [] σ (k2 y1 y2 σ)) (y1 : Int32) (y2 : Int32) (y3 : Int32) (σ : St) : bEx sc 2 202 123 [some (.ref 1315), some (.int y1), some (.int y2), some (.int y3), none] [] σ (f202_123 F k2 y1 y2 y3 σ) := by
  unfold f202_123
  refine b_run [(123, .aload_n 0, 0, 0, .null), (124, .iload_n 3, 0, 0, .null)] (pc' := 125) (ls' := [some (.ref 1315), some (.int y1), some (.int y2), some (.int y3), none]) (st' := [.int y3, .ref 1315]) (by decide +kernel) rfl ?_
  refine b_callV 199 2 [.ref 1315, .int y3] (rest := []) (by decide +kernel) rfl rfl rfl (go_O rfl (by decide +kernel) (by decide +kernel : isO 1315 9 = true)) rfl (s199 hv F y3 σ) (by decide) (fun σ12 => ?_)
  exact b_wk (wS (wS (wS (wN (wN w0))))) (s202_128 hv F k2 hk2 y1 y2 σ12)
def f202_92 (F : Nat) (k2 : Int32 → Int32 → St → Rs) (y1 : Int32) (y2 : Int32) (y3 : Int32) (σ : St) : Rs := if y3 = 34 then 
    if inB y1 31 then lt (σ.1 1317 y1.toNatClampNeg) fun c9 => 
    if c9 = 2 then cV (f203 F 113 117 111 116 σ) fun σ10 => f202_128 F k2 y1 y2 σ10
    else f202_123 F k2 y1 y2 y3 σ else none
    else f202_123 F k2 y1 y2 y3 σ
theorem s202_92 {sc : aSc} (hv : vOk sc) (F : Nat) (k2 : Int32 → Int32 → St → Rs) (hk2 : ∀ y1 y2 σ, bEx sc 2 202 2 [some (.ref 1315), some (.int y1), some (.int y2), none, none] [] σ (k2 y1 y2 σ)) (y1 : Int32) (y2 : Int32) (y3 : Int32) (σ : St) : bEx sc 2 202 92 [some (.ref 1315), some (.int y1), some (.int y2), some (.int y3), none] [] σ (f202_92 F k2 y1 y2 y3 σ) := by
  unfold f202_92
  refine b_run [(92, .iload_n 3, 0, 0, .null), (93, .bipush 34, 0, 0, .null)] (pc' := 95) (ls' := [some (.ref 1315), some (.int y1), some (.int y2), some (.int y3), none]) (st' := [.int 34, .int y3]) (by decide +kernel) rfl ?_
  refine b_icF (c := .ne) (o := 28) (t := 123) (y := 0) (w := .null) (by decide +kernel) cmp_ne (fun _ => ?_) (fun _ => ?_)
  · refine b_run [(98, .aload_n 0, 0, 0, .null)] (pc' := 99) (ls' := [some (.ref 1315), some (.int y1), some (.int y2), some (.int y3), none]) (st' := [.ref 1315]) (by decide +kernel) rfl ?_
    refine b_getC (b := 1317) (q := 13) (ci := 9) (k := 4) (w := .null) (by decide +kernel) (by decide +kernel) ?_
    refine b_run [(102, .iload_n 1, 0, 0, .null)] (pc' := 103) (ls' := [some (.ref 1315), some (.int y1), some (.int y2), some (.int y3), none]) (st' := [.int y1, .ref 1317]) (by decide +kernel) rfl ?_
    refine b_guard (fun hb => ?_)
    refine b_aI (ci := 0) (y := 0) (w := .null) (by decide +kernel) (by decide +kernel) hb (fun c9 => ?_)
    refine b_run [(104, .iconst 2, 0, 0, .null)] (pc' := 105) (ls' := [some (.ref 1315), some (.int y1), some (.int y2), some (.int y3), none]) (st' := [.int 2, .int c9]) (by decide +kernel) rfl ?_
    refine b_icF (c := .ne) (o := 18) (t := 123) (y := 0) (w := .null) (by decide +kernel) cmp_ne (fun _ => ?_) (fun _ => ?_)
    · refine b_run [(108, .aload_n 0, 0, 0, .null), (109, .bipush 113, 0, 0, .null), (111, .bipush 117, 0, 0, .null), (113, .bipush 111, 0, 0, .null), (115, .bipush 116, 0, 0, .null)] (pc' := 117) (ls' := [some (.ref 1315), some (.int y1), some (.int y2), some (.int y3), none]) (st' := [.int 116, .int 111, .int 117, .int 113, .ref 1315]) (by decide +kernel) rfl ?_
      refine b_callV 203 5 [.ref 1315, .int 113, .int 117, .int 111, .int 116] (rest := []) (by decide +kernel) rfl rfl rfl (go_O rfl (by decide +kernel) (by decide +kernel : isO 1315 9 = true)) rfl (s203 hv F 113 117 111 116 σ) (by decide) (fun σ10 => ?_)
      refine b_run [(120, .goto 8, 128, 0, .null)] (pc' := 128) (ls' := [some (.ref 1315), some (.int y1), some (.int y2), some (.int y3), none]) (st' := []) (by decide +kernel) rfl ?_
      exact b_wk (wS (wS (wS (wN (wN w0))))) (s202_128 hv F k2 hk2 y1 y2 σ10)
    · exact b_wk (wS (wS (wS (wS (wN w0))))) (s202_123 hv F k2 hk2 y1 y2 y3 σ)
  · exact b_wk (wS (wS (wS (wS (wN w0))))) (s202_123 hv F k2 hk2 y1 y2 y3 σ)
def f202_68 (F : Nat) (k2 : Int32 → Int32 → St → Rs) (y1 : Int32) (y2 : Int32) (y3 : Int32) (y4 : Int32) (σ : St) : Rs := if y3 = 60 then 
    if y4 = 0 then cV (f203 F 108 116 0 0 σ) fun σ7 => f202_128 F k2 y1 y2 σ7
    else f202_92 F k2 y1 y2 y3 σ
    else f202_92 F k2 y1 y2 y3 σ
theorem s202_68 {sc : aSc} (hv : vOk sc) (F : Nat) (k2 : Int32 → Int32 → St → Rs) (hk2 : ∀ y1 y2 σ, bEx sc 2 202 2 [some (.ref 1315), some (.int y1), some (.int y2), none, none] [] σ (k2 y1 y2 σ)) (y1 : Int32) (y2 : Int32) (y3 : Int32) (y4 : Int32) (σ : St) : bEx sc 2 202 68 [some (.ref 1315), some (.int y1), some (.int y2), some (.int y3), some (.int y4)] [] σ (f202_68 F k2 y1 y2 y3 y4 σ) := by
  unfold f202_68
  refine b_run [(68, .iload_n 3, 0, 0, .null), (69, .bipush 60, 0, 0, .null)] (pc' := 71) (ls' := [some (.ref 1315), some (.int y1), some (.int y2), some (.int y3), some (.int y4)]) (st' := [.int 60, .int y3]) (by decide +kernel) rfl ?_
  refine b_icF (c := .ne) (o := 21) (t := 92) (y := 0) (w := .null) (by decide +kernel) cmp_ne (fun _ => ?_) (fun _ => ?_)
  · refine b_run [(74, .iload 4, 0, 0, .null)] (pc' := 76) (ls' := [some (.ref 1315), some (.int y1), some (.int y2), some (.int y3), some (.int y4)]) (st' := [.int y4]) (by decide +kernel) rfl ?_
    refine b_izF (c := .ne) (o := 16) (t := 92) (y := 0) (w := .null) (by decide +kernel) cmp_ne (fun _ => ?_) (fun _ => ?_)
    · refine b_run [(79, .aload_n 0, 0, 0, .null), (80, .bipush 108, 0, 0, .null), (82, .bipush 116, 0, 0, .null), (84, .iconst 0, 0, 0, .null), (85, .iconst 0, 0, 0, .null)] (pc' := 86) (ls' := [some (.ref 1315), some (.int y1), some (.int y2), some (.int y3), some (.int y4)]) (st' := [.int 0, .int 0, .int 116, .int 108, .ref 1315]) (by decide +kernel) rfl ?_
      refine b_callV 203 5 [.ref 1315, .int 108, .int 116, .int 0, .int 0] (rest := []) (by decide +kernel) rfl rfl rfl (go_O rfl (by decide +kernel) (by decide +kernel : isO 1315 9 = true)) rfl (s203 hv F 108 116 0 0 σ) (by decide) (fun σ7 => ?_)
      refine b_run [(89, .goto 39, 128, 0, .null)] (pc' := 128) (ls' := [some (.ref 1315), some (.int y1), some (.int y2), some (.int y3), some (.int y4)]) (st' := []) (by decide +kernel) rfl ?_
      exact b_wk (wS (wS (wS (wN (wN w0))))) (s202_128 hv F k2 hk2 y1 y2 σ7)
    · exact b_wk (wS (wS (wS (wS (wN w0))))) (s202_92 hv F k2 hk2 y1 y2 y3 σ)
  · exact b_wk (wS (wS (wS (wS (wN w0))))) (s202_92 hv F k2 hk2 y1 y2 y3 σ)
def f202_41 (F : Nat) (k2 : Int32 → Int32 → St → Rs) (y1 : Int32) (y2 : Int32) (y3 : Int32) (z0 : Int32) (σ : St) : Rs := if y3 = 38 then 
    if z0 = 0 then cV (f203 F 97 109 112 0 σ) fun σ5 => f202_128 F k2 y1 y2 σ5
    else f202_68 F k2 y1 y2 y3 z0 σ
    else f202_68 F k2 y1 y2 y3 z0 σ
theorem s202_41 {sc : aSc} (hv : vOk sc) (F : Nat) (k2 : Int32 → Int32 → St → Rs) (hk2 : ∀ y1 y2 σ, bEx sc 2 202 2 [some (.ref 1315), some (.int y1), some (.int y2), none, none] [] σ (k2 y1 y2 σ)) (y1 : Int32) (y2 : Int32) (y3 : Int32) (z0 : Int32) (σ : St) : bEx sc 2 202 41 [some (.ref 1315), some (.int y1), some (.int y2), some (.int y3), none] [.int z0] σ (f202_41 F k2 y1 y2 y3 z0 σ) := by
  unfold f202_41
  refine b_run [(41, .istore 4, 0, 0, .null), (43, .iload_n 3, 0, 0, .null), (44, .bipush 38, 0, 0, .null)] (pc' := 46) (ls' := [some (.ref 1315), some (.int y1), some (.int y2), some (.int y3), some (.int z0)]) (st' := [.int 38, .int y3]) (by decide +kernel) rfl ?_
  refine b_icF (c := .ne) (o := 22) (t := 68) (y := 0) (w := .null) (by decide +kernel) cmp_ne (fun _ => ?_) (fun _ => ?_)
  · refine b_run [(49, .iload 4, 0, 0, .null)] (pc' := 51) (ls' := [some (.ref 1315), some (.int y1), some (.int y2), some (.int y3), some (.int z0)]) (st' := [.int z0]) (by decide +kernel) rfl ?_
    refine b_izF (c := .ne) (o := 17) (t := 68) (y := 0) (w := .null) (by decide +kernel) cmp_ne (fun _ => ?_) (fun _ => ?_)
    · refine b_run [(54, .aload_n 0, 0, 0, .null), (55, .bipush 97, 0, 0, .null), (57, .bipush 109, 0, 0, .null), (59, .bipush 112, 0, 0, .null), (61, .iconst 0, 0, 0, .null)] (pc' := 62) (ls' := [some (.ref 1315), some (.int y1), some (.int y2), some (.int y3), some (.int z0)]) (st' := [.int 0, .int 112, .int 109, .int 97, .ref 1315]) (by decide +kernel) rfl ?_
      refine b_callV 203 5 [.ref 1315, .int 97, .int 109, .int 112, .int 0] (rest := []) (by decide +kernel) rfl rfl rfl (go_O rfl (by decide +kernel) (by decide +kernel : isO 1315 9 = true)) rfl (s203 hv F 97 109 112 0 σ) (by decide) (fun σ5 => ?_)
      refine b_run [(65, .goto 63, 128, 0, .null)] (pc' := 128) (ls' := [some (.ref 1315), some (.int y1), some (.int y2), some (.int y3), some (.int z0)]) (st' := []) (by decide +kernel) rfl ?_
      exact b_wk (wS (wS (wS (wN (wN w0))))) (s202_128 hv F k2 hk2 y1 y2 σ5)
    · exact b_wk (wS (wS (wS (wS (wS w0))))) (s202_68 hv F k2 hk2 y1 y2 y3 z0 σ)
  · exact b_wk (wS (wS (wS (wS (wS w0))))) (s202_68 hv F k2 hk2 y1 y2 y3 z0 σ)
def f202_2 (F : Nat) : Nat → Int32 → Int32 → St → Rs
  | 0, _, _, _ => none
  | n + 1, y1, y2, σ => if inB y1 31 then lt (σ.1 1322 y1.toNatClampNeg) fun c1 => 
    if y2 < c1 then 
    if inB y1 31 then lt (σ.1 1321 y1.toNatClampNeg) fun c2 => 
    if inB (c2 + y2) 4300 then lt (σ.1 1323 (c2 + y2).toNatClampNeg) fun c3 => 
    if inB y1 31 then lt (σ.1 1317 y1.toNatClampNeg) fun c4 => 
    if c4 = 4 then f202_41 F (f202_2 F n) y1 y2 c3 1 σ
    else f202_41 F (f202_2 F n) y1 y2 c3 0 σ else none else none else none
    else oV σ else none
theorem s202_2 {sc : aSc} (hv : vOk sc) (F : Nat) : ∀ (n : Nat) (y1 : Int32) (y2 : Int32) (σ : St), bEx sc 2 202 2 [some (.ref 1315), some (.int y1), some (.int y2), none, none] [] σ (f202_2 F n y1 y2 σ) := by
  intro n
  induction n with
  | zero => intro y1 y2 σ; exact b_none
  | succ n ih =>
    intro y1 y2 σ
    rw [f202_2.eq_2]
    refine b_run [(2, .iload_n 2, 0, 0, .null), (3, .aload_n 0, 0, 0, .null)] (pc' := 4) (ls' := [some (.ref 1315), some (.int y1), some (.int y2), none, none]) (st' := [.ref 1315, .int y2]) (by decide +kernel) rfl ?_
    refine b_getC (b := 1322) (q := 28) (ci := 9) (k := 9) (w := .null) (by decide +kernel) (by decide +kernel) ?_
    refine b_run [(7, .iload_n 1, 0, 0, .null)] (pc' := 8) (ls' := [some (.ref 1315), some (.int y1), some (.int y2), none, none]) (st' := [.int y1, .ref 1322, .int y2]) (by decide +kernel) rfl ?_
    refine b_guard (fun hb => ?_)
    refine b_aI (ci := 0) (y := 0) (w := .null) (by decide +kernel) (by decide +kernel) hb (fun c1 => ?_)
    refine b_icF (c := .ge) (o := 125) (t := 134) (y := 0) (w := .null) (by decide +kernel) cmp_ge (fun _ => ?_) (fun _ => ?_)
    · refine b_run [(12, .aload_n 0, 0, 0, .null)] (pc' := 13) (ls' := [some (.ref 1315), some (.int y1), some (.int y2), none, none]) (st' := [.ref 1315]) (by decide +kernel) rfl ?_
      refine b_getC (b := 1323) (q := 31) (ci := 9) (k := 10) (w := .null) (by decide +kernel) (by decide +kernel) ?_
      refine b_run [(16, .aload_n 0, 0, 0, .null)] (pc' := 17) (ls' := [some (.ref 1315), some (.int y1), some (.int y2), none, none]) (st' := [.ref 1315, .ref 1323]) (by decide +kernel) rfl ?_
      refine b_getC (b := 1321) (q := 25) (ci := 9) (k := 8) (w := .null) (by decide +kernel) (by decide +kernel) ?_
      refine b_run [(20, .iload_n 1, 0, 0, .null)] (pc' := 21) (ls' := [some (.ref 1315), some (.int y1), some (.int y2), none, none]) (st' := [.int y1, .ref 1321, .ref 1323]) (by decide +kernel) rfl ?_
      refine b_guard (fun hb => ?_)
      refine b_aI (ci := 0) (y := 0) (w := .null) (by decide +kernel) (by decide +kernel) hb (fun c2 => ?_)
      refine b_run [(22, .iload_n 2, 0, 0, .null), (23, .iadd, 0, 0, .null)] (pc' := 24) (ls' := [some (.ref 1315), some (.int y1), some (.int y2), none, none]) (st' := [.int (c2 + y2), .ref 1323]) (by decide +kernel) rfl ?_
      refine b_guard (fun hb => ?_)
      refine b_aC (ci := 0) (y := 0) (w := .null) (by decide +kernel) (by decide +kernel) hb (fun c3 => ?_)
      refine b_run [(25, .istore_n 3, 0, 0, .null), (26, .aload_n 0, 0, 0, .null)] (pc' := 27) (ls' := [some (.ref 1315), some (.int y1), some (.int y2), some (.int c3), none]) (st' := [.ref 1315]) (by decide +kernel) rfl ?_
      refine b_getC (b := 1317) (q := 13) (ci := 9) (k := 4) (w := .null) (by decide +kernel) (by decide +kernel) ?_
      refine b_run [(30, .iload_n 1, 0, 0, .null)] (pc' := 31) (ls' := [some (.ref 1315), some (.int y1), some (.int y2), some (.int c3), none]) (st' := [.int y1, .ref 1317]) (by decide +kernel) rfl ?_
      refine b_guard (fun hb => ?_)
      refine b_aI (ci := 0) (y := 0) (w := .null) (by decide +kernel) (by decide +kernel) hb (fun c4 => ?_)
      refine b_run [(32, .iconst 4, 0, 0, .null)] (pc' := 33) (ls' := [some (.ref 1315), some (.int y1), some (.int y2), some (.int c3), none]) (st' := [.int 4, .int c4]) (by decide +kernel) rfl ?_
      refine b_icF (c := .ne) (o := 7) (t := 40) (y := 0) (w := .null) (by decide +kernel) cmp_ne (fun _ => ?_) (fun _ => ?_)
      · refine b_run [(36, .iconst 1, 0, 0, .null), (37, .goto 4, 41, 0, .null)] (pc' := 41) (ls' := [some (.ref 1315), some (.int y1), some (.int y2), some (.int c3), none]) (st' := [.int 1]) (by decide +kernel) rfl ?_
        exact b_wk (wS (wS (wS (wS (wN w0))))) (s202_41 hv F (f202_2 F n) ih y1 y2 c3 1 σ)
      · refine b_run [(40, .iconst 0, 0, 0, .null)] (pc' := 41) (ls' := [some (.ref 1315), some (.int y1), some (.int y2), some (.int c3), none]) (st' := [.int 0]) (by decide +kernel) rfl ?_
        exact b_wk (wS (wS (wS (wS (wN w0))))) (s202_41 hv F (f202_2 F n) ih y1 y2 c3 0 σ)
    · exact b_ret0 (i := (.return_, 0, 0, .null)) (by decide +kernel) rfl rfl
/-- TreeStoreModel.outText(I)V -/
def f202 (F : Nat) (x1 : Int32) (σ : St) : Rs := f202_2 F F x1 0 σ
theorem s202 {sc : aSc} (hv : vOk sc) (F : Nat) (x1 : Int32) (σ : St) : bEx sc 2 202 0 [some (.ref 1315), some (.int x1), none, none, none] [] σ (f202 F x1 σ) := by
  unfold f202
  refine b_run [(0, .iconst 0, 0, 0, .null), (1, .istore_n 2, 0, 0, .null)] (pc' := 2) (ls' := [some (.ref 1315), some (.int x1), some (.int 0), none, none]) (st' := []) (by decide +kernel) rfl ?_
  exact b_wk (wS (wS (wS (wN (wN w0))))) (s202_2 hv F F x1 0 σ)
def f204_41 (F : Nat) (k15 : Int32 → Int32 → Int32 → St → Rs) (y2 : Int32) (y4 : Int32) (z0 : Int32) (σ : St) : Rs := k15 y2 z0 (y4 + 1) σ
theorem s204_41 {sc : aSc} (hv : vOk sc) (F : Nat) (k15 : Int32 → Int32 → Int32 → St → Rs) (hk15 : ∀ y2 y3 y4 σ, bEx sc 1 204 15 [some (.ref 1315), none, some (.int y2), some (.int y3), some (.int y4)] [] σ (k15 y2 y3 y4 σ)) (y2 : Int32) (y4 : Int32) (z0 : Int32) (σ : St) : bEx sc 1 204 41 [some (.ref 1315), none, some (.int y2), none, some (.int y4)] [.int z0] σ (f204_41 F k15 y2 y4 z0 σ) := by
  unfold f204_41
  refine b_run [(41, .istore_n 3, 0, 0, .null), (42, .iinc 4 1, 0, 0, .null), (45, .goto (-30), 15, 0, .null)] (pc' := 15) (ls' := [some (.ref 1315), none, some (.int y2), some (.int z0), some (.int (y4 + 1))]) (st' := []) (by decide +kernel) rfl ?_
  exact b_wk (wS (wN (wS (wS (wS w0))))) (hk15 y2 z0 (y4 + 1) σ)
def f204_36 (F : Nat) (k15 : Int32 → Int32 → Int32 → St → Rs) (y2 : Int32) (y4 : Int32) (σ : St) : Rs := f204_41 F k15 y2 y4 1 σ
theorem s204_36 {sc : aSc} (hv : vOk sc) (F : Nat) (k15 : Int32 → Int32 → Int32 → St → Rs) (hk15 : ∀ y2 y3 y4 σ, bEx sc 1 204 15 [some (.ref 1315), none, some (.int y2), some (.int y3), some (.int y4)] [] σ (k15 y2 y3 y4 σ)) (y2 : Int32) (y4 : Int32) (σ : St) : bEx sc 1 204 36 [some (.ref 1315), none, some (.int y2), none, some (.int y4)] [] σ (f204_36 F k15 y2 y4 σ) := by
  unfold f204_36
  refine b_run [(36, .iconst 1, 0, 0, .null), (37, .goto 4, 41, 0, .null)] (pc' := 41) (ls' := [some (.ref 1315), none, some (.int y2), none, some (.int y4)]) (st' := [.int 1]) (by decide +kernel) rfl ?_
  exact b_wk (wS (wN (wS (wN (wS w0))))) (s204_41 hv F k15 hk15 y2 y4 1 σ)
def f204_15 (F : Nat) : Nat → Int32 → Int32 → Int32 → St → Rs
  | 0, _, _, _, _ => none
  | n + 1, y2, y3, y4, σ => if y2 < y4 then if y3 = 0 ∨ y3 = 1 then oI y3 σ else none
    else if y3 = 0 then 
    if inB y4 31 then lt (σ.1 1317 y4.toNatClampNeg) fun c4 => 
    if c4 = 2 then f204_41 F (f204_15 F n) y2 y4 0 σ
    else f204_36 F (f204_15 F n) y2 y4 σ else none
    else f204_36 F (f204_15 F n) y2 y4 σ
theorem s204_15 {sc : aSc} (hv : vOk sc) (F : Nat) : ∀ (n : Nat) (y2 : Int32) (y3 : Int32) (y4 : Int32) (σ : St), bEx sc 1 204 15 [some (.ref 1315), none, some (.int y2), some (.int y3), some (.int y4)] [] σ (f204_15 F n y2 y3 y4 σ) := by
  intro n
  induction n with
  | zero => intro y2 y3 y4 σ; exact b_none
  | succ n ih =>
    intro y2 y3 y4 σ
    rw [f204_15.eq_2]
    refine b_run [(15, .iload 4, 0, 0, .null), (17, .iload_n 2, 0, 0, .null)] (pc' := 18) (ls' := [some (.ref 1315), none, some (.int y2), some (.int y3), some (.int y4)]) (st' := [.int y2, .int y4]) (by decide +kernel) rfl ?_
    refine b_icT (c := .gt) (o := 30) (t := 48) (y := 0) (w := .null) (by decide +kernel) cmp_gt (fun _ => ?_) (fun _ => ?_)
    · refine b_run [(48, .iload_n 3, 0, 0, .null)] (pc' := 49) (ls' := [some (.ref 1315), none, some (.int y2), some (.int y3), some (.int y4)]) (st' := [.int y3]) (by decide +kernel) rfl ?_
      exact b_guard (fun hz => b_ret (i := (.ireturn, 0, 0, .null)) (by decide +kernel) rfl rfl (fit_Z hz))
    · refine b_run [(21, .iload_n 3, 0, 0, .null)] (pc' := 22) (ls' := [some (.ref 1315), none, some (.int y2), some (.int y3), some (.int y4)]) (st' := [.int y3]) (by decide +kernel) rfl ?_
      refine b_izF (c := .ne) (o := 14) (t := 36) (y := 0) (w := .null) (by decide +kernel) cmp_ne (fun _ => ?_) (fun _ => ?_)
      · refine b_run [(25, .aload_n 0, 0, 0, .null)] (pc' := 26) (ls' := [some (.ref 1315), none, some (.int y2), some (.int y3), some (.int y4)]) (st' := [.ref 1315]) (by decide +kernel) rfl ?_
        refine b_getC (b := 1317) (q := 13) (ci := 9) (k := 4) (w := .null) (by decide +kernel) (by decide +kernel) ?_
        refine b_run [(29, .iload 4, 0, 0, .null)] (pc' := 31) (ls' := [some (.ref 1315), none, some (.int y2), some (.int y3), some (.int y4)]) (st' := [.int y4, .ref 1317]) (by decide +kernel) rfl ?_
        refine b_guard (fun hb => ?_)
        refine b_aI (ci := 0) (y := 0) (w := .null) (by decide +kernel) (by decide +kernel) hb (fun c4 => ?_)
        refine b_run [(32, .iconst 2, 0, 0, .null)] (pc' := 33) (ls' := [some (.ref 1315), none, some (.int y2), some (.int y3), some (.int y4)]) (st' := [.int 2, .int c4]) (by decide +kernel) rfl ?_
        refine b_icT (c := .eq) (o := 7) (t := 40) (y := 0) (w := .null) (by decide +kernel) cmp_eq (fun _ => ?_) (fun _ => ?_)
        · refine b_run [(40, .iconst 0, 0, 0, .null)] (pc' := 41) (ls' := [some (.ref 1315), none, some (.int y2), some (.int y3), some (.int y4)]) (st' := [.int 0]) (by decide +kernel) rfl ?_
          exact b_wk (wS (wN (wS (wN (wS w0))))) (s204_41 hv F (f204_15 F n) ih y2 y4 0 σ)
        · exact b_wk (wS (wN (wS (wN (wS w0))))) (s204_36 hv F (f204_15 F n) ih y2 y4 σ)
      · exact b_wk (wS (wN (wS (wN (wS w0))))) (s204_36 hv F (f204_15 F n) ih y2 y4 σ)
/-- TreeStoreModel.hasChildren(I)Z -/
def f204 (F : Nat) (x1 : Int32) (σ : St) : Rs := cI (f185 F x1 σ) fun c2 σ1 => lt (x1 + c2) fun c3 => f204_15 F F c3 0 (x1 + 1) σ1
theorem s204 {sc : aSc} (hv : vOk sc) (F : Nat) (x1 : Int32) (σ : St) : bEx sc 1 204 0 [some (.ref 1315), some (.int x1), none, none, none] [] σ (f204 F x1 σ) := by
  unfold f204
  refine b_run [(0, .iload_n 1, 0, 0, .null), (1, .aload_n 0, 0, 0, .null), (2, .iload_n 1, 0, 0, .null)] (pc' := 3) (ls' := [some (.ref 1315), some (.int x1), none, none, none]) (st' := [.int x1, .ref 1315, .int x1]) (by decide +kernel) rfl ?_
  refine b_callI 185 2 [.ref 1315, .int x1] (rest := [.int x1]) (by decide +kernel) rfl rfl rfl (go_O rfl (by decide +kernel) (by decide +kernel : isO 1315 9 = true)) rfl (s185 hv F x1 σ) (by decide) (fun c2 σ1 => ?_)
  refine b_run [(6, .iadd, 0, 0, .null), (7, .istore_n 2, 0, 0, .null)] (pc' := 8) (ls' := [some (.ref 1315), some (.int x1), some (.int (x1 + c2)), none, none]) (st' := []) (by decide +kernel) rfl ?_
  refine b_let (x1 + c2) (L := fun c3 => [some (.ref 1315), some (.int x1), some (.int c3), none, none]) (S := fun _ => []) (fun c3 => ?_)
  refine b_run [(8, .iconst 0, 0, 0, .null), (9, .istore_n 3, 0, 0, .null), (10, .iload_n 1, 0, 0, .null), (11, .iconst 1, 0, 0, .null), (12, .iadd, 0, 0, .null), (13, .istore 4, 0, 0, .null)] (pc' := 15) (ls' := [some (.ref 1315), some (.int x1), some (.int c3), some (.int 0), some (.int (x1 + 1))]) (st' := []) (by decide +kernel) rfl ?_
  exact b_wk (wS (wN (wS (wS (wS w0))))) (s204_15 hv F F c3 0 (x1 + 1) σ1)
def f201_73 (F : Nat) (y1 : Int32) (σ : St) : Rs := cI (f204 F y1 σ) fun c20 σ19 => 
    if c20 = 0 then cV (f199 F 47 σ19) fun σ21 => cV (f199 F 62 σ21) fun σ23 => oV σ23
    else cV (f199 F 62 σ19) fun σ25 => oV σ25
theorem s201_73 {sc : aSc} (hv : vOk sc) (F : Nat) (y1 : Int32) (σ : St) : bEx sc 3 201 73 [some (.ref 1315), some (.int y1), none] [] σ (f201_73 F y1 σ) := by
  unfold f201_73
  refine b_run [(73, .aload_n 0, 0, 0, .null), (74, .iload_n 1, 0, 0, .null)] (pc' := 75) (ls' := [some (.ref 1315), some (.int y1), none]) (st' := [.int y1, .ref 1315]) (by decide +kernel) rfl ?_
  refine b_callI 204 2 [.ref 1315, .int y1] (rest := []) (by decide +kernel) rfl rfl rfl (go_O rfl (by decide +kernel) (by decide +kernel : isO 1315 9 = true)) rfl (s204 hv F y1 σ) (by decide) (fun c20 σ19 => ?_)
  refine b_izF (c := .ne) (o := 9) (t := 87) (y := 0) (w := .null) (by decide +kernel) cmp_ne (fun _ => ?_) (fun _ => ?_)
  · refine b_run [(81, .aload_n 0, 0, 0, .null), (82, .bipush 47, 0, 0, .null)] (pc' := 84) (ls' := [some (.ref 1315), some (.int y1), none]) (st' := [.int 47, .ref 1315]) (by decide +kernel) rfl ?_
    refine b_callV 199 2 [.ref 1315, .int 47] (rest := []) (by decide +kernel) rfl rfl rfl (go_O rfl (by decide +kernel) (by decide +kernel : isO 1315 9 = true)) rfl (s199 hv F 47 σ19) (by decide) (fun σ21 => ?_)
    refine b_run [(87, .aload_n 0, 0, 0, .null), (88, .bipush 62, 0, 0, .null)] (pc' := 90) (ls' := [some (.ref 1315), some (.int y1), none]) (st' := [.int 62, .ref 1315]) (by decide +kernel) rfl ?_
    refine b_callV 199 2 [.ref 1315, .int 62] (rest := []) (by decide +kernel) rfl rfl rfl (go_O rfl (by decide +kernel) (by decide +kernel : isO 1315 9 = true)) rfl (s199 hv F 62 σ21) (by decide) (fun σ23 => ?_)
    exact b_ret0 (i := (.return_, 0, 0, .null)) (by decide +kernel) rfl rfl
  · refine b_run [(87, .aload_n 0, 0, 0, .null), (88, .bipush 62, 0, 0, .null)] (pc' := 90) (ls' := [some (.ref 1315), some (.int y1), none]) (st' := [.int 62, .ref 1315]) (by decide +kernel) rfl ?_
    refine b_callV 199 2 [.ref 1315, .int 62] (rest := []) (by decide +kernel) rfl rfl rfl (go_O rfl (by decide +kernel) (by decide +kernel : isO 1315 9 = true)) rfl (s199 hv F 62 σ19) (by decide) (fun σ25 => ?_)
    exact b_ret0 (i := (.return_, 0, 0, .null)) (by decide +kernel) rfl rfl
def f201_15 (F : Nat) : Nat → Int32 → Int32 → St → Rs
  | 0, _, _, _ => none
  | n + 1, y1, y2, σ => lt (σ.1 1315 3) fun c5 => 
    if y2 < c5 then 
    if inB y2 31 then lt (σ.1 1317 y2.toNatClampNeg) fun c6 => 
    if c6 = 2 then 
    cV (f199 F 32 σ) fun σ7 => 
    cV (f200 F y2 σ7) fun σ9 => 
    cV (f199 F 61 σ9) fun σ11 => cV (f199 F 34 σ11) fun σ13 => cV (f202 F y2 σ13) fun σ15 => cV (f199 F 34 σ15) fun σ17 => f201_15 F n y1 (y2 + 1) σ17
    else f201_73 F y1 σ else none
    else f201_73 F y1 σ
theorem s201_15 {sc : aSc} (hv : vOk sc) (F : Nat) : ∀ (n : Nat) (y1 : Int32) (y2 : Int32) (σ : St), bEx sc 3 201 15 [some (.ref 1315), some (.int y1), some (.int y2)] [] σ (f201_15 F n y1 y2 σ) := by
  intro n
  induction n with
  | zero => intro y1 y2 σ; exact b_none
  | succ n ih =>
    intro y1 y2 σ
    rw [f201_15.eq_2]
    refine b_run [(15, .iload_n 2, 0, 0, .null), (16, .aload_n 0, 0, 0, .null)] (pc' := 17) (ls' := [some (.ref 1315), some (.int y1), some (.int y2)]) (st' := [.ref 1315, .int y2]) (by decide +kernel) rfl ?_
    refine b_gI (q := 148) (ci := 9) (k := 3) (w := .null) (by decide +kernel) (by decide +kernel) (fun c5 => ?_)
    refine b_icF (c := .ge) (o := 53) (t := 73) (y := 0) (w := .null) (by decide +kernel) cmp_ge (fun _ => ?_) (fun _ => ?_)
    · refine b_run [(23, .aload_n 0, 0, 0, .null)] (pc' := 24) (ls' := [some (.ref 1315), some (.int y1), some (.int y2)]) (st' := [.ref 1315]) (by decide +kernel) rfl ?_
      refine b_getC (b := 1317) (q := 13) (ci := 9) (k := 4) (w := .null) (by decide +kernel) (by decide +kernel) ?_
      refine b_run [(27, .iload_n 2, 0, 0, .null)] (pc' := 28) (ls' := [some (.ref 1315), some (.int y1), some (.int y2)]) (st' := [.int y2, .ref 1317]) (by decide +kernel) rfl ?_
      refine b_guard (fun hb => ?_)
      refine b_aI (ci := 0) (y := 0) (w := .null) (by decide +kernel) (by decide +kernel) hb (fun c6 => ?_)
      refine b_run [(29, .iconst 2, 0, 0, .null)] (pc' := 30) (ls' := [some (.ref 1315), some (.int y1), some (.int y2)]) (st' := [.int 2, .int c6]) (by decide +kernel) rfl ?_
      refine b_icF (c := .ne) (o := 43) (t := 73) (y := 0) (w := .null) (by decide +kernel) cmp_ne (fun _ => ?_) (fun _ => ?_)
      · refine b_run [(33, .aload_n 0, 0, 0, .null), (34, .bipush 32, 0, 0, .null)] (pc' := 36) (ls' := [some (.ref 1315), some (.int y1), some (.int y2)]) (st' := [.int 32, .ref 1315]) (by decide +kernel) rfl ?_
        refine b_callV 199 2 [.ref 1315, .int 32] (rest := []) (by decide +kernel) rfl rfl rfl (go_O rfl (by decide +kernel) (by decide +kernel : isO 1315 9 = true)) rfl (s199 hv F 32 σ) (by decide) (fun σ7 => ?_)
        refine b_run [(39, .aload_n 0, 0, 0, .null), (40, .iload_n 2, 0, 0, .null)] (pc' := 41) (ls' := [some (.ref 1315), some (.int y1), some (.int y2)]) (st' := [.int y2, .ref 1315]) (by decide +kernel) rfl ?_
        refine b_callV 200 2 [.ref 1315, .int y2] (rest := []) (by decide +kernel) rfl rfl rfl (go_O rfl (by decide +kernel) (by decide +kernel : isO 1315 9 = true)) rfl (s200 hv F y2 σ7) (by decide) (fun σ9 => ?_)
        refine b_run [(44, .aload_n 0, 0, 0, .null), (45, .bipush 61, 0, 0, .null)] (pc' := 47) (ls' := [some (.ref 1315), some (.int y1), some (.int y2)]) (st' := [.int 61, .ref 1315]) (by decide +kernel) rfl ?_
        refine b_callV 199 2 [.ref 1315, .int 61] (rest := []) (by decide +kernel) rfl rfl rfl (go_O rfl (by decide +kernel) (by decide +kernel : isO 1315 9 = true)) rfl (s199 hv F 61 σ9) (by decide) (fun σ11 => ?_)
        refine b_run [(50, .aload_n 0, 0, 0, .null), (51, .bipush 34, 0, 0, .null)] (pc' := 53) (ls' := [some (.ref 1315), some (.int y1), some (.int y2)]) (st' := [.int 34, .ref 1315]) (by decide +kernel) rfl ?_
        refine b_callV 199 2 [.ref 1315, .int 34] (rest := []) (by decide +kernel) rfl rfl rfl (go_O rfl (by decide +kernel) (by decide +kernel : isO 1315 9 = true)) rfl (s199 hv F 34 σ11) (by decide) (fun σ13 => ?_)
        refine b_run [(56, .aload_n 0, 0, 0, .null), (57, .iload_n 2, 0, 0, .null)] (pc' := 58) (ls' := [some (.ref 1315), some (.int y1), some (.int y2)]) (st' := [.int y2, .ref 1315]) (by decide +kernel) rfl ?_
        refine b_callV 202 2 [.ref 1315, .int y2] (rest := []) (by decide +kernel) rfl rfl rfl (go_O rfl (by decide +kernel) (by decide +kernel : isO 1315 9 = true)) rfl (s202 hv F y2 σ13) (by decide) (fun σ15 => ?_)
        refine b_run [(61, .aload_n 0, 0, 0, .null), (62, .bipush 34, 0, 0, .null)] (pc' := 64) (ls' := [some (.ref 1315), some (.int y1), some (.int y2)]) (st' := [.int 34, .ref 1315]) (by decide +kernel) rfl ?_
        refine b_callV 199 2 [.ref 1315, .int 34] (rest := []) (by decide +kernel) rfl rfl rfl (go_O rfl (by decide +kernel) (by decide +kernel : isO 1315 9 = true)) rfl (s199 hv F 34 σ15) (by decide) (fun σ17 => ?_)
        refine b_run [(67, .iinc 2 1, 0, 0, .null), (70, .goto (-55), 15, 0, .null)] (pc' := 15) (ls' := [some (.ref 1315), some (.int y1), some (.int (y2 + 1))]) (st' := []) (by decide +kernel) rfl ?_
        exact b_wk (wS (wS (wS w0))) (ih y1 (y2 + 1) σ17)
      · exact b_wk (wS (wS (wN w0))) (s201_73 hv F y1 σ)
    · exact b_wk (wS (wS (wN w0))) (s201_73 hv F y1 σ)
/-- TreeStoreModel.outHead(I)V -/
def f201 (F : Nat) (x1 : Int32) (σ : St) : Rs := cV (f199 F 60 σ) fun σ1 => cV (f200 F x1 σ1) fun σ3 => f201_15 F F x1 (x1 + 1) σ3
theorem s201 {sc : aSc} (hv : vOk sc) (F : Nat) (x1 : Int32) (σ : St) : bEx sc 3 201 0 [some (.ref 1315), some (.int x1), none] [] σ (f201 F x1 σ) := by
  unfold f201
  refine b_run [(0, .aload_n 0, 0, 0, .null), (1, .bipush 60, 0, 0, .null)] (pc' := 3) (ls' := [some (.ref 1315), some (.int x1), none]) (st' := [.int 60, .ref 1315]) (by decide +kernel) rfl ?_
  refine b_callV 199 2 [.ref 1315, .int 60] (rest := []) (by decide +kernel) rfl rfl rfl (go_O rfl (by decide +kernel) (by decide +kernel : isO 1315 9 = true)) rfl (s199 hv F 60 σ) (by decide) (fun σ1 => ?_)
  refine b_run [(6, .aload_n 0, 0, 0, .null), (7, .iload_n 1, 0, 0, .null)] (pc' := 8) (ls' := [some (.ref 1315), some (.int x1), none]) (st' := [.int x1, .ref 1315]) (by decide +kernel) rfl ?_
  refine b_callV 200 2 [.ref 1315, .int x1] (rest := []) (by decide +kernel) rfl rfl rfl (go_O rfl (by decide +kernel) (by decide +kernel : isO 1315 9 = true)) rfl (s200 hv F x1 σ1) (by decide) (fun σ3 => ?_)
  refine b_run [(11, .iload_n 1, 0, 0, .null), (12, .iconst 1, 0, 0, .null), (13, .iadd, 0, 0, .null), (14, .istore_n 2, 0, 0, .null)] (pc' := 15) (ls' := [some (.ref 1315), some (.int x1), some (.int (x1 + 1))]) (st' := []) (by decide +kernel) rfl ?_
  exact b_wk (wS (wS (wS w0))) (s201_15 hv F F x1 (x1 + 1) σ3)
/-- TreeStoreModel.outComment(I)V -/
def f205 (F : Nat) (x1 : Int32) (σ : St) : Rs := cV (f199 F 60 σ) fun σ1 => 
    cV (f199 F 33 σ1) fun σ3 => 
    cV (f199 F 45 σ3) fun σ5 => 
    cV (f199 F 45 σ5) fun σ7 => 
    cV (f202 F x1 σ7) fun σ9 => cV (f199 F 45 σ9) fun σ11 => cV (f199 F 45 σ11) fun σ13 => cV (f199 F 62 σ13) fun σ15 => oV σ15
theorem s205 {sc : aSc} (hv : vOk sc) (F : Nat) (x1 : Int32) (σ : St) : bEx sc 3 205 0 [some (.ref 1315), some (.int x1)] [] σ (f205 F x1 σ) := by
  unfold f205
  refine b_run [(0, .aload_n 0, 0, 0, .null), (1, .bipush 60, 0, 0, .null)] (pc' := 3) (ls' := [some (.ref 1315), some (.int x1)]) (st' := [.int 60, .ref 1315]) (by decide +kernel) rfl ?_
  refine b_callV 199 2 [.ref 1315, .int 60] (rest := []) (by decide +kernel) rfl rfl rfl (go_O rfl (by decide +kernel) (by decide +kernel : isO 1315 9 = true)) rfl (s199 hv F 60 σ) (by decide) (fun σ1 => ?_)
  refine b_run [(6, .aload_n 0, 0, 0, .null), (7, .bipush 33, 0, 0, .null)] (pc' := 9) (ls' := [some (.ref 1315), some (.int x1)]) (st' := [.int 33, .ref 1315]) (by decide +kernel) rfl ?_
  refine b_callV 199 2 [.ref 1315, .int 33] (rest := []) (by decide +kernel) rfl rfl rfl (go_O rfl (by decide +kernel) (by decide +kernel : isO 1315 9 = true)) rfl (s199 hv F 33 σ1) (by decide) (fun σ3 => ?_)
  refine b_run [(12, .aload_n 0, 0, 0, .null), (13, .bipush 45, 0, 0, .null)] (pc' := 15) (ls' := [some (.ref 1315), some (.int x1)]) (st' := [.int 45, .ref 1315]) (by decide +kernel) rfl ?_
  refine b_callV 199 2 [.ref 1315, .int 45] (rest := []) (by decide +kernel) rfl rfl rfl (go_O rfl (by decide +kernel) (by decide +kernel : isO 1315 9 = true)) rfl (s199 hv F 45 σ3) (by decide) (fun σ5 => ?_)
  refine b_run [(18, .aload_n 0, 0, 0, .null), (19, .bipush 45, 0, 0, .null)] (pc' := 21) (ls' := [some (.ref 1315), some (.int x1)]) (st' := [.int 45, .ref 1315]) (by decide +kernel) rfl ?_
  refine b_callV 199 2 [.ref 1315, .int 45] (rest := []) (by decide +kernel) rfl rfl rfl (go_O rfl (by decide +kernel) (by decide +kernel : isO 1315 9 = true)) rfl (s199 hv F 45 σ5) (by decide) (fun σ7 => ?_)
  refine b_run [(24, .aload_n 0, 0, 0, .null), (25, .iload_n 1, 0, 0, .null)] (pc' := 26) (ls' := [some (.ref 1315), some (.int x1)]) (st' := [.int x1, .ref 1315]) (by decide +kernel) rfl ?_
  refine b_callV 202 2 [.ref 1315, .int x1] (rest := []) (by decide +kernel) rfl rfl rfl (go_O rfl (by decide +kernel) (by decide +kernel : isO 1315 9 = true)) rfl (s202 hv F x1 σ7) (by decide) (fun σ9 => ?_)
  refine b_run [(29, .aload_n 0, 0, 0, .null), (30, .bipush 45, 0, 0, .null)] (pc' := 32) (ls' := [some (.ref 1315), some (.int x1)]) (st' := [.int 45, .ref 1315]) (by decide +kernel) rfl ?_
  refine b_callV 199 2 [.ref 1315, .int 45] (rest := []) (by decide +kernel) rfl rfl rfl (go_O rfl (by decide +kernel) (by decide +kernel : isO 1315 9 = true)) rfl (s199 hv F 45 σ9) (by decide) (fun σ11 => ?_)
  refine b_run [(35, .aload_n 0, 0, 0, .null), (36, .bipush 45, 0, 0, .null)] (pc' := 38) (ls' := [some (.ref 1315), some (.int x1)]) (st' := [.int 45, .ref 1315]) (by decide +kernel) rfl ?_
  refine b_callV 199 2 [.ref 1315, .int 45] (rest := []) (by decide +kernel) rfl rfl rfl (go_O rfl (by decide +kernel) (by decide +kernel : isO 1315 9 = true)) rfl (s199 hv F 45 σ11) (by decide) (fun σ13 => ?_)
  refine b_run [(41, .aload_n 0, 0, 0, .null), (42, .bipush 62, 0, 0, .null)] (pc' := 44) (ls' := [some (.ref 1315), some (.int x1)]) (st' := [.int 62, .ref 1315]) (by decide +kernel) rfl ?_
  refine b_callV 199 2 [.ref 1315, .int 62] (rest := []) (by decide +kernel) rfl rfl rfl (go_O rfl (by decide +kernel) (by decide +kernel : isO 1315 9 = true)) rfl (s199 hv F 62 σ13) (by decide) (fun σ15 => ?_)
  exact b_ret0 (i := (.return_, 0, 0, .null)) (by decide +kernel) rfl rfl
def f197_146 (F : Nat) (k24 : Int32 → Int32 → St → Rs) (y2 : Int32) (y3 : Int32) (σ : St) : Rs := k24 y2 (y3 + 1) σ
theorem s197_146 {sc : aSc} (hv : vOk sc) (F : Nat) (k24 : Int32 → Int32 → St → Rs) (hk24 : ∀ y2 y3 σ, bEx sc 4 197 24 [some (.ref 1315), none, some (.int y2), some (.int y3)] [] σ (k24 y2 y3 σ)) (y2 : Int32) (y3 : Int32) (σ : St) : bEx sc 4 197 146 [some (.ref 1315), none, some (.int y2), some (.int y3)] [] σ (f197_146 F k24 y2 y3 σ) := by
  unfold f197_146
  refine b_run [(146, .iinc 3 1, 0, 0, .null), (149, .goto (-125), 24, 0, .null)] (pc' := 24) (ls' := [some (.ref 1315), none, some (.int y2), some (.int (y3 + 1))]) (st' := []) (by decide +kernel) rfl ?_
  exact b_wk (wS (wN (wS (wS w0)))) (hk24 y2 (y3 + 1) σ)
def f197_77 (F : Nat) (k24 : Int32 → Int32 → St → Rs) (y2 : Int32) (y3 : Int32) (σ : St) : Rs := if inB y3 31 then lt (σ.1 1317 y3.toNatClampNeg) fun c13 => 
    if c13 = 1 then 
    cV (f201 F y3 σ) fun σ14 => 
    cI (f204 F y3 σ14) fun c17 σ16 => 
    if c17 = 0 then f197_146 F k24 y2 y3 σ16
    else if inB y2 9 then lt (uI σ16 1340 y2.toNatClampNeg y3) fun σ18 => f197_146 F k24 (y2 + 1) y3 σ18 else none
    else if inB y3 31 then lt (σ.1 1317 y3.toNatClampNeg) fun c19 => 
    if c19 = 3 then cV (f202 F y3 σ) fun σ20 => f197_146 F k24 y2 y3 σ20
    else if inB y3 31 then lt (σ.1 1317 y3.toNatClampNeg) fun c22 => 
    if c22 = 4 then cV (f205 F y3 σ) fun σ23 => f197_146 F k24 y2 y3 σ23
    else f197_146 F k24 y2 y3 σ else none else none else none
theorem s197_77 {sc : aSc} (hv : vOk sc) (F : Nat) (k24 : Int32 → Int32 → St → Rs) (hk24 : ∀ y2 y3 σ, bEx sc 4 197 24 [some (.ref 1315), none, some (.int y2), some (.int y3)] [] σ (k24 y2 y3 σ)) (y2 : Int32) (y3 : Int32) (σ : St) : bEx sc 4 197 77 [some (.ref 1315), none, some (.int y2), some (.int y3)] [] σ (f197_77 F k24 y2 y3 σ) := by
  unfold f197_77
  refine b_run [(77, .aload_n 0, 0, 0, .null)] (pc' := 78) (ls' := [some (.ref 1315), none, some (.int y2), some (.int y3)]) (st' := [.ref 1315]) (by decide +kernel) rfl ?_
  refine b_getC (b := 1317) (q := 13) (ci := 9) (k := 4) (w := .null) (by decide +kernel) (by decide +kernel) ?_
  refine b_run [(81, .iload_n 3, 0, 0, .null)] (pc' := 82) (ls' := [some (.ref 1315), none, some (.int y2), some (.int y3)]) (st' := [.int y3, .ref 1317]) (by decide +kernel) rfl ?_
  refine b_guard (fun hb => ?_)
  refine b_aI (ci := 0) (y := 0) (w := .null) (by decide +kernel) (by decide +kernel) hb (fun c13 => ?_)
  refine b_run [(83, .iconst 1, 0, 0, .null)] (pc' := 84) (ls' := [some (.ref 1315), none, some (.int y2), some (.int y3)]) (st' := [.int 1, .int c13]) (by decide +kernel) rfl ?_
  refine b_icF (c := .ne) (o := 29) (t := 113) (y := 0) (w := .null) (by decide +kernel) cmp_ne (fun _ => ?_) (fun _ => ?_)
  · refine b_run [(87, .aload_n 0, 0, 0, .null), (88, .iload_n 3, 0, 0, .null)] (pc' := 89) (ls' := [some (.ref 1315), none, some (.int y2), some (.int y3)]) (st' := [.int y3, .ref 1315]) (by decide +kernel) rfl ?_
    refine b_callV 201 2 [.ref 1315, .int y3] (rest := []) (by decide +kernel) rfl rfl rfl (go_O rfl (by decide +kernel) (by decide +kernel : isO 1315 9 = true)) rfl (s201 hv F y3 σ) (by decide) (fun σ14 => ?_)
    refine b_run [(92, .aload_n 0, 0, 0, .null), (93, .iload_n 3, 0, 0, .null)] (pc' := 94) (ls' := [some (.ref 1315), none, some (.int y2), some (.int y3)]) (st' := [.int y3, .ref 1315]) (by decide +kernel) rfl ?_
    refine b_callI 204 2 [.ref 1315, .int y3] (rest := []) (by decide +kernel) rfl rfl rfl (go_O rfl (by decide +kernel) (by decide +kernel : isO 1315 9 = true)) rfl (s204 hv F y3 σ14) (by decide) (fun c17 σ16 => ?_)
    refine b_izT (c := .eq) (o := 49) (t := 146) (y := 0) (w := .null) (by decide +kernel) cmp_eq (fun _ => ?_) (fun _ => ?_)
    · exact b_wk (wS (wN (wS (wS w0)))) (s197_146 hv F k24 hk24 y2 y3 σ16)
    · refine b_run [(100, .aload_n 0, 0, 0, .null)] (pc' := 101) (ls' := [some (.ref 1315), none, some (.int y2), some (.int y3)]) (st' := [.ref 1315]) (by decide +kernel) rfl ?_
      refine b_getC (b := 1340) (q := 83) (ci := 9) (k := 31) (w := .null) (by decide +kernel) (by decide +kernel) ?_
      refine b_run [(104, .iload_n 2, 0, 0, .null), (105, .iload_n 3, 0, 0, .null)] (pc' := 106) (ls' := [some (.ref 1315), none, some (.int y2), some (.int y3)]) (st' := [.int y3, .int y2, .ref 1340]) (by decide +kernel) rfl ?_
      refine b_guard (fun hb => ?_)
      refine b_sI (ci := 0) (y := 0) (w := .null) (by decide +kernel) (by decide +kernel) hb (fun σ18 => ?_)
      refine b_run [(107, .iinc 2 1, 0, 0, .null), (110, .goto 36, 146, 0, .null)] (pc' := 146) (ls' := [some (.ref 1315), none, some (.int (y2 + 1)), some (.int y3)]) (st' := []) (by decide +kernel) rfl ?_
      exact b_wk (wS (wN (wS (wS w0)))) (s197_146 hv F k24 hk24 (y2 + 1) y3 σ18)
  · refine b_run [(113, .aload_n 0, 0, 0, .null)] (pc' := 114) (ls' := [some (.ref 1315), none, some (.int y2), some (.int y3)]) (st' := [.ref 1315]) (by decide +kernel) rfl ?_
    refine b_getC (b := 1317) (q := 13) (ci := 9) (k := 4) (w := .null) (by decide +kernel) (by decide +kernel) ?_
    refine b_run [(117, .iload_n 3, 0, 0, .null)] (pc' := 118) (ls' := [some (.ref 1315), none, some (.int y2), some (.int y3)]) (st' := [.int y3, .ref 1317]) (by decide +kernel) rfl ?_
    refine b_guard (fun hb => ?_)
    refine b_aI (ci := 0) (y := 0) (w := .null) (by decide +kernel) (by decide +kernel) hb (fun c19 => ?_)
    refine b_run [(119, .iconst 3, 0, 0, .null)] (pc' := 120) (ls' := [some (.ref 1315), none, some (.int y2), some (.int y3)]) (st' := [.int 3, .int c19]) (by decide +kernel) rfl ?_
    refine b_icF (c := .ne) (o := 11) (t := 131) (y := 0) (w := .null) (by decide +kernel) cmp_ne (fun _ => ?_) (fun _ => ?_)
    · refine b_run [(123, .aload_n 0, 0, 0, .null), (124, .iload_n 3, 0, 0, .null)] (pc' := 125) (ls' := [some (.ref 1315), none, some (.int y2), some (.int y3)]) (st' := [.int y3, .ref 1315]) (by decide +kernel) rfl ?_
      refine b_callV 202 2 [.ref 1315, .int y3] (rest := []) (by decide +kernel) rfl rfl rfl (go_O rfl (by decide +kernel) (by decide +kernel : isO 1315 9 = true)) rfl (s202 hv F y3 σ) (by decide) (fun σ20 => ?_)
      refine b_run [(128, .goto 18, 146, 0, .null)] (pc' := 146) (ls' := [some (.ref 1315), none, some (.int y2), some (.int y3)]) (st' := []) (by decide +kernel) rfl ?_
      exact b_wk (wS (wN (wS (wS w0)))) (s197_146 hv F k24 hk24 y2 y3 σ20)
    · refine b_run [(131, .aload_n 0, 0, 0, .null)] (pc' := 132) (ls' := [some (.ref 1315), none, some (.int y2), some (.int y3)]) (st' := [.ref 1315]) (by decide +kernel) rfl ?_
      refine b_getC (b := 1317) (q := 13) (ci := 9) (k := 4) (w := .null) (by decide +kernel) (by decide +kernel) ?_
      refine b_run [(135, .iload_n 3, 0, 0, .null)] (pc' := 136) (ls' := [some (.ref 1315), none, some (.int y2), some (.int y3)]) (st' := [.int y3, .ref 1317]) (by decide +kernel) rfl ?_
      refine b_guard (fun hb => ?_)
      refine b_aI (ci := 0) (y := 0) (w := .null) (by decide +kernel) (by decide +kernel) hb (fun c22 => ?_)
      refine b_run [(137, .iconst 4, 0, 0, .null)] (pc' := 138) (ls' := [some (.ref 1315), none, some (.int y2), some (.int y3)]) (st' := [.int 4, .int c22]) (by decide +kernel) rfl ?_
      refine b_icF (c := .ne) (o := 8) (t := 146) (y := 0) (w := .null) (by decide +kernel) cmp_ne (fun _ => ?_) (fun _ => ?_)
      · refine b_run [(141, .aload_n 0, 0, 0, .null), (142, .iload_n 3, 0, 0, .null)] (pc' := 143) (ls' := [some (.ref 1315), none, some (.int y2), some (.int y3)]) (st' := [.int y3, .ref 1315]) (by decide +kernel) rfl ?_
        refine b_callV 205 2 [.ref 1315, .int y3] (rest := []) (by decide +kernel) rfl rfl rfl (go_O rfl (by decide +kernel) (by decide +kernel : isO 1315 9 = true)) rfl (s205 hv F y3 σ) (by decide) (fun σ23 => ?_)
        exact b_wk (wS (wN (wS (wS w0)))) (s197_146 hv F k24 hk24 y2 y3 σ23)
      · exact b_wk (wS (wN (wS (wS w0)))) (s197_146 hv F k24 hk24 y2 y3 σ)
def f197_32 (F : Nat) (k24 : Int32 → Int32 → St → Rs) : Nat → Int32 → Int32 → St → Rs
  | 0, _, _, _ => none
  | n + 1, y2, y3, σ => if 0 < y2 then 
    if inB (y2 - 1) 9 then lt (σ.1 1340 (y2 - 1).toNatClampNeg) fun c6 => 
    if inB (y2 - 1) 9 then lt (σ.1 1340 (y2 - 1).toNatClampNeg) fun c7 => 
    cI (f185 F c7 σ) fun c9 σ8 => 
    if c6 + c9 < y3 then 
    if inB (y2 + Int32.ofInt (-1)) 9 then lt (σ8.1 1340 (y2 + Int32.ofInt (-1)).toNatClampNeg) fun c10 => cV (f198 F c10 σ8) fun σ11 => f197_32 F k24 n (y2 + Int32.ofInt (-1)) y3 σ11 else none
    else f197_77 F k24 y2 y3 σ8 else none else none
    else f197_77 F k24 y2 y3 σ
theorem s197_32 {sc : aSc} (hv : vOk sc) (F : Nat) (k24 : Int32 → Int32 → St → Rs) (hk24 : ∀ y2 y3 σ, bEx sc 4 197 24 [some (.ref 1315), none, some (.int y2), some (.int y3)] [] σ (k24 y2 y3 σ)) : ∀ (n : Nat) (y2 : Int32) (y3 : Int32) (σ : St), bEx sc 4 197 32 [some (.ref 1315), none, some (.int y2), some (.int y3)] [] σ (f197_32 F k24 n y2 y3 σ) := by
  intro n
  induction n with
  | zero => intro y2 y3 σ; exact b_none
  | succ n ih =>
    intro y2 y3 σ
    rw [f197_32.eq_2]
    refine b_run [(32, .iload_n 2, 0, 0, .null)] (pc' := 33) (ls' := [some (.ref 1315), none, some (.int y2), some (.int y3)]) (st' := [.int y2]) (by decide +kernel) rfl ?_
    refine b_izF (c := .le) (o := 44) (t := 77) (y := 0) (w := .null) (by decide +kernel) cmp_le (fun _ => ?_) (fun _ => ?_)
    · refine b_run [(36, .iload_n 3, 0, 0, .null), (37, .aload_n 0, 0, 0, .null)] (pc' := 38) (ls' := [some (.ref 1315), none, some (.int y2), some (.int y3)]) (st' := [.ref 1315, .int y3]) (by decide +kernel) rfl ?_
      refine b_getC (b := 1340) (q := 83) (ci := 9) (k := 31) (w := .null) (by decide +kernel) (by decide +kernel) ?_
      refine b_run [(41, .iload_n 2, 0, 0, .null), (42, .iconst 1, 0, 0, .null), (43, .isub, 0, 0, .null)] (pc' := 44) (ls' := [some (.ref 1315), none, some (.int y2), some (.int y3)]) (st' := [.int (y2 - 1), .ref 1340, .int y3]) (by decide +kernel) rfl ?_
      refine b_guard (fun hb => ?_)
      refine b_aI (ci := 0) (y := 0) (w := .null) (by decide +kernel) (by decide +kernel) hb (fun c6 => ?_)
      refine b_run [(45, .aload_n 0, 0, 0, .null), (46, .aload_n 0, 0, 0, .null)] (pc' := 47) (ls' := [some (.ref 1315), none, some (.int y2), some (.int y3)]) (st' := [.ref 1315, .ref 1315, .int c6, .int y3]) (by decide +kernel) rfl ?_
      refine b_getC (b := 1340) (q := 83) (ci := 9) (k := 31) (w := .null) (by decide +kernel) (by decide +kernel) ?_
      refine b_run [(50, .iload_n 2, 0, 0, .null), (51, .iconst 1, 0, 0, .null), (52, .isub, 0, 0, .null)] (pc' := 53) (ls' := [some (.ref 1315), none, some (.int y2), some (.int y3)]) (st' := [.int (y2 - 1), .ref 1340, .ref 1315, .int c6, .int y3]) (by decide +kernel) rfl ?_
      refine b_guard (fun hb => ?_)
      refine b_aI (ci := 0) (y := 0) (w := .null) (by decide +kernel) (by decide +kernel) hb (fun c7 => ?_)
      refine b_callI 185 2 [.ref 1315, .int c7] (rest := [.int c6, .int y3]) (by decide +kernel) rfl rfl rfl (go_O rfl (by decide +kernel) (by decide +kernel : isO 1315 9 = true)) rfl (s185 hv F c7 σ) (by decide) (fun c9 σ8 => ?_)
      refine b_run [(57, .iadd, 0, 0, .null)] (pc' := 58) (ls' := [some (.ref 1315), none, some (.int y2), some (.int y3)]) (st' := [.int (c6 + c9), .int y3]) (by decide +kernel) rfl ?_
      refine b_icF (c := .le) (o := 19) (t := 77) (y := 0) (w := .null) (by decide +kernel) cmp_le (fun _ => ?_) (fun _ => ?_)
      · refine b_run [(61, .iinc 2 (-1), 0, 0, .null), (64, .aload_n 0, 0, 0, .null), (65, .aload_n 0, 0, 0, .null)] (pc' := 66) (ls' := [some (.ref 1315), none, some (.int (y2 + Int32.ofInt (-1))), some (.int y3)]) (st' := [.ref 1315, .ref 1315]) (by decide +kernel) rfl ?_
        refine b_getC (b := 1340) (q := 83) (ci := 9) (k := 31) (w := .null) (by decide +kernel) (by decide +kernel) ?_
        refine b_run [(69, .iload_n 2, 0, 0, .null)] (pc' := 70) (ls' := [some (.ref 1315), none, some (.int (y2 + Int32.ofInt (-1))), some (.int y3)]) (st' := [.int (y2 + Int32.ofInt (-1)), .ref 1340, .ref 1315]) (by decide +kernel) rfl ?_
        refine b_guard (fun hb => ?_)
        refine b_aI (ci := 0) (y := 0) (w := .null) (by decide +kernel) (by decide +kernel) hb (fun c10 => ?_)
        refine b_callV 198 2 [.ref 1315, .int c10] (rest := []) (by decide +kernel) rfl rfl rfl (go_O rfl (by decide +kernel) (by decide +kernel : isO 1315 9 = true)) rfl (s198 hv F c10 σ8) (by decide) (fun σ11 => ?_)
        refine b_run [(74, .goto (-42), 32, 0, .null)] (pc' := 32) (ls' := [some (.ref 1315), none, some (.int (y2 + Int32.ofInt (-1))), some (.int y3)]) (st' := []) (by decide +kernel) rfl ?_
        exact b_wk (wS (wN (wS (wS w0)))) (ih (y2 + Int32.ofInt (-1)) y3 σ11)
      · exact b_wk (wS (wN (wS (wS w0)))) (s197_77 hv F k24 hk24 y2 y3 σ8)
    · exact b_wk (wS (wN (wS (wS w0)))) (s197_77 hv F k24 hk24 y2 y3 σ)
def f197_152 (F : Nat) : Nat → Int32 → St → Rs
  | 0, _, _ => none
  | n + 1, y2, σ => if 0 < y2 then 
    if inB (y2 + Int32.ofInt (-1)) 9 then lt (σ.1 1340 (y2 + Int32.ofInt (-1)).toNatClampNeg) fun c25 => cV (f198 F c25 σ) fun σ26 => f197_152 F n (y2 + Int32.ofInt (-1)) σ26 else none
    else lt (σ.1 1315 64) fun c28 => oI c28 σ
theorem s197_152 {sc : aSc} (hv : vOk sc) (F : Nat) : ∀ (n : Nat) (y2 : Int32) (σ : St), bEx sc 4 197 152 [some (.ref 1315), none, some (.int y2), none] [] σ (f197_152 F n y2 σ) := by
  intro n
  induction n with
  | zero => intro y2 σ; exact b_none
  | succ n ih =>
    intro y2 σ
    rw [f197_152.eq_2]
    refine b_run [(152, .iload_n 2, 0, 0, .null)] (pc' := 153) (ls' := [some (.ref 1315), none, some (.int y2), none]) (st' := [.int y2]) (by decide +kernel) rfl ?_
    refine b_izF (c := .le) (o := 19) (t := 172) (y := 0) (w := .null) (by decide +kernel) cmp_le (fun _ => ?_) (fun _ => ?_)
    · refine b_run [(156, .iinc 2 (-1), 0, 0, .null), (159, .aload_n 0, 0, 0, .null), (160, .aload_n 0, 0, 0, .null)] (pc' := 161) (ls' := [some (.ref 1315), none, some (.int (y2 + Int32.ofInt (-1))), none]) (st' := [.ref 1315, .ref 1315]) (by decide +kernel) rfl ?_
      refine b_getC (b := 1340) (q := 83) (ci := 9) (k := 31) (w := .null) (by decide +kernel) (by decide +kernel) ?_
      refine b_run [(164, .iload_n 2, 0, 0, .null)] (pc' := 165) (ls' := [some (.ref 1315), none, some (.int (y2 + Int32.ofInt (-1))), none]) (st' := [.int (y2 + Int32.ofInt (-1)), .ref 1340, .ref 1315]) (by decide +kernel) rfl ?_
      refine b_guard (fun hb => ?_)
      refine b_aI (ci := 0) (y := 0) (w := .null) (by decide +kernel) (by decide +kernel) hb (fun c25 => ?_)
      refine b_callV 198 2 [.ref 1315, .int c25] (rest := []) (by decide +kernel) rfl rfl rfl (go_O rfl (by decide +kernel) (by decide +kernel : isO 1315 9 = true)) rfl (s198 hv F c25 σ) (by decide) (fun σ26 => ?_)
      refine b_run [(169, .goto (-17), 152, 0, .null)] (pc' := 152) (ls' := [some (.ref 1315), none, some (.int (y2 + Int32.ofInt (-1))), none]) (st' := []) (by decide +kernel) rfl ?_
      exact b_wk (wS (wN (wS (wN w0)))) (ih (y2 + Int32.ofInt (-1)) σ26)
    · refine b_run [(172, .aload_n 0, 0, 0, .null)] (pc' := 173) (ls' := [some (.ref 1315), none, some (.int y2), none]) (st' := [.ref 1315]) (by decide +kernel) rfl ?_
      refine b_gI (q := 318) (ci := 9) (k := 64) (w := .null) (by decide +kernel) (by decide +kernel) (fun c28 => ?_)
      exact b_ret (i := (.ireturn, 0, 0, .null)) (by decide +kernel) rfl rfl (fit_I _)
def f197_24 (F : Nat) : Nat → Int32 → Int32 → St → Rs
  | 0, _, _, _ => none
  | n + 1, y2, y3, σ => lt (σ.1 1315 3) fun c5 => 
    if y3 < c5 then f197_32 F (f197_24 F n) F y2 y3 σ
    else f197_152 F F y2 σ
theorem s197_24 {sc : aSc} (hv : vOk sc) (F : Nat) : ∀ (n : Nat) (y2 : Int32) (y3 : Int32) (σ : St), bEx sc 4 197 24 [some (.ref 1315), none, some (.int y2), some (.int y3)] [] σ (f197_24 F n y2 y3 σ) := by
  intro n
  induction n with
  | zero => intro y2 y3 σ; exact b_none
  | succ n ih =>
    intro y2 y3 σ
    rw [f197_24.eq_2]
    refine b_run [(24, .iload_n 3, 0, 0, .null), (25, .aload_n 0, 0, 0, .null)] (pc' := 26) (ls' := [some (.ref 1315), none, some (.int y2), some (.int y3)]) (st' := [.ref 1315, .int y3]) (by decide +kernel) rfl ?_
    refine b_gI (q := 148) (ci := 9) (k := 3) (w := .null) (by decide +kernel) (by decide +kernel) (fun c5 => ?_)
    refine b_icF (c := .ge) (o := 123) (t := 152) (y := 0) (w := .null) (by decide +kernel) cmp_ge (fun _ => ?_) (fun _ => ?_)
    · exact b_wk (wS (wN (wS (wS w0)))) (s197_32 hv F (f197_24 F n) ih F y2 y3 σ)
    · exact b_wk (wS (wN (wS (wN w0)))) (s197_152 hv F F y2 σ)
/-- TreeStoreModel.print(I)I -/
def f197 (F : Nat) (x1 : Int32) (σ : St) : Rs := lt (uI σ 1315 0 0) fun σ1 => lt (uI σ1 1315 62 x1) fun σ2 => lt (uI σ2 1315 63 0) fun σ3 => lt (uI σ3 1315 64 0) fun σ4 => f197_24 F F 0 1 σ4
theorem s197 {sc : aSc} (hv : vOk sc) (F : Nat) (x1 : Int32) (σ : St) : bEx sc 4 197 0 [some (.ref 1315), some (.int x1), none, none] [] σ (f197 F x1 σ) := by
  unfold f197
  refine b_run [(0, .aload_n 0, 0, 0, .null), (1, .iconst 0, 0, 0, .null)] (pc' := 2) (ls' := [some (.ref 1315), some (.int x1), none, none]) (st' := [.int 0, .ref 1315]) (by decide +kernel) rfl ?_
  refine b_pI (q := 152) (ci := 9) (k := 0) (w := .null) (by decide +kernel) (by decide +kernel) (fit_I _) (fun σ1 => ?_)
  refine b_run [(5, .aload_n 0, 0, 0, .null), (6, .iload_n 1, 0, 0, .null)] (pc' := 7) (ls' := [some (.ref 1315), some (.int x1), none, none]) (st' := [.int x1, .ref 1315]) (by decide +kernel) rfl ?_
  refine b_pI (q := 315) (ci := 9) (k := 62) (w := .null) (by decide +kernel) (by decide +kernel) (fit_I _) (fun σ2 => ?_)
  refine b_run [(10, .aload_n 0, 0, 0, .null), (11, .iconst 0, 0, 0, .null)] (pc' := 12) (ls' := [some (.ref 1315), some (.int x1), none, none]) (st' := [.int 0, .ref 1315]) (by decide +kernel) rfl ?_
  refine b_pI (q := 312) (ci := 9) (k := 63) (w := .null) (by decide +kernel) (by decide +kernel) (fit_I _) (fun σ3 => ?_)
  refine b_run [(15, .aload_n 0, 0, 0, .null), (16, .iconst 0, 0, 0, .null)] (pc' := 17) (ls' := [some (.ref 1315), some (.int x1), none, none]) (st' := [.int 0, .ref 1315]) (by decide +kernel) rfl ?_
  refine b_pI (q := 318) (ci := 9) (k := 64) (w := .null) (by decide +kernel) (by decide +kernel) (fit_I _) (fun σ4 => ?_)
  refine b_run [(20, .iconst 0, 0, 0, .null), (21, .istore_n 2, 0, 0, .null), (22, .iconst 1, 0, 0, .null), (23, .istore_n 3, 0, 0, .null)] (pc' := 24) (ls' := [some (.ref 1315), some (.int x1), some (.int 0), some (.int 1)]) (st' := []) (by decide +kernel) rfl ?_
  exact b_wk (wS (wN (wS (wS w0)))) (s197_24 hv F F 0 1 σ4)
/-- TreeStoreModel.backward(I)Z -/
def f232 (F : Nat) (x0 : Int32) (σ : St) : Rs := if x0 = 2 then oI 1 σ
    else if x0 = 3 then oI 1 σ
    else if x0 = 7 then oI 1 σ
    else if x0 = 9 then oI 1 σ
    else if x0 = 11 then oI 1 σ
    else oI 0 σ
theorem s232 {sc : aSc} (hv : vOk sc) (F : Nat) (x0 : Int32) (σ : St) : bEx sc 0 232 0 [some (.int x0)] [] σ (f232 F x0 σ) := by
  unfold f232
  refine b_run [(0, .iload_n 0, 0, 0, .null), (1, .iconst 2, 0, 0, .null)] (pc' := 2) (ls' := [some (.int x0)]) (st' := [.int 2, .int x0]) (by decide +kernel) rfl ?_
  refine b_icT (c := .eq) (o := 26) (t := 28) (y := 0) (w := .null) (by decide +kernel) cmp_eq (fun _ => ?_) (fun _ => ?_)
  · refine b_run [(28, .iconst 1, 0, 0, .null), (29, .goto 4, 33, 0, .null)] (pc' := 33) (ls' := [some (.int x0)]) (st' := [.int 1]) (by decide +kernel) rfl ?_
    exact b_ret (i := (.ireturn, 0, 0, .null)) (by decide +kernel) rfl rfl (by decide +kernel)
  · refine b_run [(5, .iload_n 0, 0, 0, .null), (6, .iconst 3, 0, 0, .null)] (pc' := 7) (ls' := [some (.int x0)]) (st' := [.int 3, .int x0]) (by decide +kernel) rfl ?_
    refine b_icT (c := .eq) (o := 21) (t := 28) (y := 0) (w := .null) (by decide +kernel) cmp_eq (fun _ => ?_) (fun _ => ?_)
    · refine b_run [(28, .iconst 1, 0, 0, .null), (29, .goto 4, 33, 0, .null)] (pc' := 33) (ls' := [some (.int x0)]) (st' := [.int 1]) (by decide +kernel) rfl ?_
      exact b_ret (i := (.ireturn, 0, 0, .null)) (by decide +kernel) rfl rfl (by decide +kernel)
    · refine b_run [(10, .iload_n 0, 0, 0, .null), (11, .bipush 7, 0, 0, .null)] (pc' := 13) (ls' := [some (.int x0)]) (st' := [.int 7, .int x0]) (by decide +kernel) rfl ?_
      refine b_icT (c := .eq) (o := 15) (t := 28) (y := 0) (w := .null) (by decide +kernel) cmp_eq (fun _ => ?_) (fun _ => ?_)
      · refine b_run [(28, .iconst 1, 0, 0, .null), (29, .goto 4, 33, 0, .null)] (pc' := 33) (ls' := [some (.int x0)]) (st' := [.int 1]) (by decide +kernel) rfl ?_
        exact b_ret (i := (.ireturn, 0, 0, .null)) (by decide +kernel) rfl rfl (by decide +kernel)
      · refine b_run [(16, .iload_n 0, 0, 0, .null), (17, .bipush 9, 0, 0, .null)] (pc' := 19) (ls' := [some (.int x0)]) (st' := [.int 9, .int x0]) (by decide +kernel) rfl ?_
        refine b_icT (c := .eq) (o := 9) (t := 28) (y := 0) (w := .null) (by decide +kernel) cmp_eq (fun _ => ?_) (fun _ => ?_)
        · refine b_run [(28, .iconst 1, 0, 0, .null), (29, .goto 4, 33, 0, .null)] (pc' := 33) (ls' := [some (.int x0)]) (st' := [.int 1]) (by decide +kernel) rfl ?_
          exact b_ret (i := (.ireturn, 0, 0, .null)) (by decide +kernel) rfl rfl (by decide +kernel)
        · refine b_run [(22, .iload_n 0, 0, 0, .null), (23, .bipush 11, 0, 0, .null)] (pc' := 25) (ls' := [some (.int x0)]) (st' := [.int 11, .int x0]) (by decide +kernel) rfl ?_
          refine b_icF (c := .ne) (o := 7) (t := 32) (y := 0) (w := .null) (by decide +kernel) cmp_ne (fun _ => ?_) (fun _ => ?_)
          · refine b_run [(28, .iconst 1, 0, 0, .null), (29, .goto 4, 33, 0, .null)] (pc' := 33) (ls' := [some (.int x0)]) (st' := [.int 1]) (by decide +kernel) rfl ?_
            exact b_ret (i := (.ireturn, 0, 0, .null)) (by decide +kernel) rfl rfl (by decide +kernel)
          · refine b_run [(32, .iconst 0, 0, 0, .null)] (pc' := 33) (ls' := [some (.int x0)]) (st' := [.int 0]) (by decide +kernel) rfl ?_
            exact b_ret (i := (.ireturn, 0, 0, .null)) (by decide +kernel) rfl rfl (by decide +kernel)
def f234_4 (F : Nat) : Nat → Int32 → Int32 → Int32 → St → Rs
  | 0, _, _, _, _ => none
  | n + 1, y0, y1, y2, σ => if y2 < 31 then lt (y1 + ((y0 >>> (y2 &&& 31)) &&& 1)) fun c1 => f234_4 F n y0 c1 (y2 + 1) σ
    else oI y1 σ
theorem s234_4 {sc : aSc} (hv : vOk sc) (F : Nat) : ∀ (n : Nat) (y0 : Int32) (y1 : Int32) (y2 : Int32) (σ : St), bEx sc 0 234 4 [some (.int y0), some (.int y1), some (.int y2)] [] σ (f234_4 F n y0 y1 y2 σ) := by
  intro n
  induction n with
  | zero => intro y0 y1 y2 σ; exact b_none
  | succ n ih =>
    intro y0 y1 y2 σ
    rw [f234_4.eq_2]
    refine b_run [(4, .iload_n 2, 0, 0, .null), (5, .bipush 31, 0, 0, .null)] (pc' := 7) (ls' := [some (.int y0), some (.int y1), some (.int y2)]) (st' := [.int 31, .int y2]) (by decide +kernel) rfl ?_
    refine b_icF (c := .ge) (o := 17) (t := 24) (y := 0) (w := .null) (by decide +kernel) cmp_ge (fun _ => ?_) (fun _ => ?_)
    · refine b_run [(10, .iload_n 1, 0, 0, .null), (11, .iload_n 0, 0, 0, .null), (12, .iload_n 2, 0, 0, .null), (13, .ishr, 0, 0, .null), (14, .iconst 1, 0, 0, .null), (15, .iand, 0, 0, .null), (16, .iadd, 0, 0, .null), (17, .istore_n 1, 0, 0, .null)] (pc' := 18) (ls' := [some (.int y0), some (.int (y1 + ((y0 >>> (y2 &&& 31)) &&& 1))), some (.int y2)]) (st' := []) (by decide +kernel) rfl ?_
      refine b_let (y1 + ((y0 >>> (y2 &&& 31)) &&& 1)) (L := fun c1 => [some (.int y0), some (.int c1), some (.int y2)]) (S := fun _ => []) (fun c1 => ?_)
      refine b_run [(18, .iinc 2 1, 0, 0, .null), (21, .goto (-17), 4, 0, .null)] (pc' := 4) (ls' := [some (.int y0), some (.int c1), some (.int (y2 + 1))]) (st' := []) (by decide +kernel) rfl ?_
      exact b_wk (wS (wS (wS w0))) (ih y0 c1 (y2 + 1) σ)
    · refine b_run [(24, .iload_n 1, 0, 0, .null)] (pc' := 25) (ls' := [some (.int y0), some (.int y1), some (.int y2)]) (st' := [.int y1]) (by decide +kernel) rfl ?_
      exact b_ret (i := (.ireturn, 0, 0, .null)) (by decide +kernel) rfl rfl (fit_I _)
/-- TreeStoreModel.bits(I)I -/
def f234 (F : Nat) (x0 : Int32) (σ : St) : Rs := f234_4 F F x0 0 0 σ
theorem s234 {sc : aSc} (hv : vOk sc) (F : Nat) (x0 : Int32) (σ : St) : bEx sc 0 234 0 [some (.int x0), none, none] [] σ (f234 F x0 σ) := by
  unfold f234
  refine b_run [(0, .iconst 0, 0, 0, .null), (1, .istore_n 1, 0, 0, .null), (2, .iconst 0, 0, 0, .null), (3, .istore_n 2, 0, 0, .null)] (pc' := 4) (ls' := [some (.int x0), some (.int 0), some (.int 0)]) (st' := []) (by decide +kernel) rfl ?_
  exact b_wk (wS (wS (wS w0))) (s234_4 hv F F x0 0 0 σ)
/-- TreeStoreModel.push(IJ)V -/
def f236 (F : Nat) (x1 : Int32) (x2 : Int64) (σ : St) : Rs := lt (σ.1 1315 59) fun c1 => 
    if inB c1 130 then lt (uI σ 1359 c1.toNatClampNeg x1) fun σ2 => 
    lt (σ2.1 1315 59) fun c3 => 
    if inB c3 130 then lt (uJ σ2 1360 c3.toNatClampNeg x2) fun σ4 => lt (σ4.1 1315 59) fun c5 => lt (uI σ4 1315 59 (c5 + 1)) fun σ6 => oV σ6 else none else none
theorem s236 {sc : aSc} (hv : vOk sc) (F : Nat) (x1 : Int32) (x2 : Int64) (σ : St) : bEx sc 0 236 0 [some (.ref 1315), some (.int x1), some (.long x2), none] [] σ (f236 F x1 x2 σ) := by
  unfold f236
  refine b_run [(0, .aload_n 0, 0, 0, .null)] (pc' := 1) (ls' := [some (.ref 1315), some (.int x1), some (.long x2), none]) (st' := [.ref 1315]) (by decide +kernel) rfl ?_
  refine b_getC (b := 1359) (q := 141) (ci := 9) (k := 60) (w := .null) (by decide +kernel) (by decide +kernel) ?_
  refine b_run [(4, .aload_n 0, 0, 0, .null)] (pc' := 5) (ls' := [some (.ref 1315), some (.int x1), some (.long x2), none]) (st' := [.ref 1315, .ref 1359]) (by decide +kernel) rfl ?_
  refine b_gI (q := 500) (ci := 9) (k := 59) (w := .null) (by decide +kernel) (by decide +kernel) (fun c1 => ?_)
  refine b_run [(8, .iload_n 1, 0, 0, .null)] (pc' := 9) (ls' := [some (.ref 1315), some (.int x1), some (.long x2), none]) (st' := [.int x1, .int c1, .ref 1359]) (by decide +kernel) rfl ?_
  refine b_guard (fun hb => ?_)
  refine b_sI (ci := 0) (y := 0) (w := .null) (by decide +kernel) (by decide +kernel) hb (fun σ2 => ?_)
  refine b_run [(10, .aload_n 0, 0, 0, .null)] (pc' := 11) (ls' := [some (.ref 1315), some (.int x1), some (.long x2), none]) (st' := [.ref 1315]) (by decide +kernel) rfl ?_
  refine b_getC (b := 1360) (q := 144) (ci := 9) (k := 61) (w := .null) (by decide +kernel) (by decide +kernel) ?_
  refine b_run [(14, .aload_n 0, 0, 0, .null)] (pc' := 15) (ls' := [some (.ref 1315), some (.int x1), some (.long x2), none]) (st' := [.ref 1315, .ref 1360]) (by decide +kernel) rfl ?_
  refine b_gI (q := 500) (ci := 9) (k := 59) (w := .null) (by decide +kernel) (by decide +kernel) (fun c3 => ?_)
  refine b_run [(18, .lload_n 2, 0, 0, .null)] (pc' := 19) (ls' := [some (.ref 1315), some (.int x1), some (.long x2), none]) (st' := [.long x2, .int c3, .ref 1360]) (by decide +kernel) rfl ?_
  refine b_guard (fun hb => ?_)
  refine b_sL (ci := 0) (y := 0) (w := .null) (by decide +kernel) (by decide +kernel) hb (fun σ4 => ?_)
  refine b_run [(20, .aload_n 0, 0, 0, .null), (21, .dup, 0, 0, .null)] (pc' := 22) (ls' := [some (.ref 1315), some (.int x1), some (.long x2), none]) (st' := [.ref 1315, .ref 1315]) (by decide +kernel) rfl ?_
  refine b_gI (q := 500) (ci := 9) (k := 59) (w := .null) (by decide +kernel) (by decide +kernel) (fun c5 => ?_)
  refine b_run [(25, .iconst 1, 0, 0, .null), (26, .iadd, 0, 0, .null)] (pc' := 27) (ls' := [some (.ref 1315), some (.int x1), some (.long x2), none]) (st' := [.int (c5 + 1), .ref 1315]) (by decide +kernel) rfl ?_
  refine b_pI (q := 500) (ci := 9) (k := 59) (w := .null) (by decide +kernel) (by decide +kernel) (fit_I _) (fun σ6 => ?_)
  exact b_ret0 (i := (.return_, 0, 0, .null)) (by decide +kernel) rfl rfl
/-- TreeStoreModel.textChar(JI)I -/
def f238 (F : Nat) (x1 : Int64) (x3 : Int32) (σ : St) : Rs := if lg_cmp x1 0 < 0 then 
    lt ((((-1)) - x1 : Int64).toInt32) fun c1 => 
    if inB c1 130 then lt (σ.1 1351 c1.toNatClampNeg) fun c2 => 
    if x3 < c2 then 
    if inB c1 130 then lt (σ.1 1350 c1.toNatClampNeg) fun c3 => if inB (c3 + x3) 122 then lt (σ.1 1316 (c3 + x3).toNatClampNeg) fun c4 => oI c4 σ else none else none
    else oI 0 σ else none
    else cI (f196 F ((x1 : Int64).toInt32) x3 σ) fun c6 σ5 => oI c6 σ5
theorem s238 {sc : aSc} (hv : vOk sc) (F : Nat) (x1 : Int64) (x3 : Int32) (σ : St) : bEx sc 2 238 0 [some (.ref 1315), some (.long x1), none, some (.int x3), none] [] σ (f238 F x1 x3 σ) := by
  unfold f238
  refine b_run [(0, .lload_n 1, 0, 0, .null), (1, .lconst 0, 0, 0, .null), (2, .lcmp, 0, 0, .null)] (pc' := 3) (ls' := [some (.ref 1315), some (.long x1), none, some (.int x3), none]) (st' := [.int (lg_cmp x1 0)]) (by decide +kernel) rfl ?_
  refine b_izT (c := .lt) (o := 11) (t := 14) (y := 0) (w := .null) (by decide +kernel) cmp_lt (fun _ => ?_) (fun _ => ?_)
  · refine b_run [(14, .ldc2_w 348, 0, 0, .long (-1)), (17, .lload_n 1, 0, 0, .null), (18, .lsub, 0, 0, .null), (19, .l2i, 0, 0, .null), (20, .istore 4, 0, 0, .null)] (pc' := 22) (ls' := [some (.ref 1315), some (.long x1), none, some (.int x3), some (.int ((((-1)) - x1 : Int64).toInt32))]) (st' := []) (by decide +kernel) rfl ?_
    refine b_let ((((-1)) - x1 : Int64).toInt32) (L := fun c1 => [some (.ref 1315), some (.long x1), none, some (.int x3), some (.int c1)]) (S := fun _ => []) (fun c1 => ?_)
    refine b_run [(22, .iload_n 3, 0, 0, .null), (23, .aload_n 0, 0, 0, .null)] (pc' := 24) (ls' := [some (.ref 1315), some (.long x1), none, some (.int x3), some (.int c1)]) (st' := [.ref 1315, .int x3]) (by decide +kernel) rfl ?_
    refine b_getC (b := 1351) (q := 117) (ci := 9) (k := 50) (w := .null) (by decide +kernel) (by decide +kernel) ?_
    refine b_run [(27, .iload 4, 0, 0, .null)] (pc' := 29) (ls' := [some (.ref 1315), some (.long x1), none, some (.int x3), some (.int c1)]) (st' := [.int c1, .ref 1351, .int x3]) (by decide +kernel) rfl ?_
    refine b_guard (fun hb => ?_)
    refine b_aI (ci := 0) (y := 0) (w := .null) (by decide +kernel) (by decide +kernel) hb (fun c2 => ?_)
    refine b_icF (c := .ge) (o := 20) (t := 50) (y := 0) (w := .null) (by decide +kernel) cmp_ge (fun _ => ?_) (fun _ => ?_)
    · refine b_run [(33, .aload_n 0, 0, 0, .null)] (pc' := 34) (ls' := [some (.ref 1315), some (.long x1), none, some (.int x3), some (.int c1)]) (st' := [.ref 1315]) (by decide +kernel) rfl ?_
      refine b_getC (b := 1316) (q := 7) (ci := 9) (k := 2) (w := .null) (by decide +kernel) (by decide +kernel) ?_
      refine b_run [(37, .aload_n 0, 0, 0, .null)] (pc' := 38) (ls' := [some (.ref 1315), some (.long x1), none, some (.int x3), some (.int c1)]) (st' := [.ref 1315, .ref 1316]) (by decide +kernel) rfl ?_
      refine b_getC (b := 1350) (q := 114) (ci := 9) (k := 49) (w := .null) (by decide +kernel) (by decide +kernel) ?_
      refine b_run [(41, .iload 4, 0, 0, .null)] (pc' := 43) (ls' := [some (.ref 1315), some (.long x1), none, some (.int x3), some (.int c1)]) (st' := [.int c1, .ref 1350, .ref 1316]) (by decide +kernel) rfl ?_
      refine b_guard (fun hb => ?_)
      refine b_aI (ci := 0) (y := 0) (w := .null) (by decide +kernel) (by decide +kernel) hb (fun c3 => ?_)
      refine b_run [(44, .iload_n 3, 0, 0, .null), (45, .iadd, 0, 0, .null)] (pc' := 46) (ls' := [some (.ref 1315), some (.long x1), none, some (.int x3), some (.int c1)]) (st' := [.int (c3 + x3), .ref 1316]) (by decide +kernel) rfl ?_
      refine b_guard (fun hb => ?_)
      refine b_aI (ci := 0) (y := 0) (w := .null) (by decide +kernel) (by decide +kernel) hb (fun c4 => ?_)
      refine b_run [(47, .goto 4, 51, 0, .null)] (pc' := 51) (ls' := [some (.ref 1315), some (.long x1), none, some (.int x3), some (.int c1)]) (st' := [.int c4]) (by decide +kernel) rfl ?_
      exact b_ret (i := (.ireturn, 0, 0, .null)) (by decide +kernel) rfl rfl (fit_I _)
    · refine b_run [(50, .iconst 0, 0, 0, .null)] (pc' := 51) (ls' := [some (.ref 1315), some (.long x1), none, some (.int x3), some (.int c1)]) (st' := [.int 0]) (by decide +kernel) rfl ?_
      exact b_ret (i := (.ireturn, 0, 0, .null)) (by decide +kernel) rfl rfl (fit_I _)
  · refine b_run [(6, .aload_n 0, 0, 0, .null), (7, .lload_n 1, 0, 0, .null), (8, .l2i, 0, 0, .null), (9, .iload_n 3, 0, 0, .null)] (pc' := 10) (ls' := [some (.ref 1315), some (.long x1), none, some (.int x3), none]) (st' := [.int x3, .int ((x1 : Int64).toInt32), .ref 1315]) (by decide +kernel) rfl ?_
    refine b_callI 196 3 [.ref 1315, .int ((x1 : Int64).toInt32), .int x3] (rest := []) (by decide +kernel) rfl rfl rfl (go_O rfl (by decide +kernel) (by decide +kernel : isO 1315 9 = true)) rfl (s196 hv F ((x1 : Int64).toInt32) x3 σ) (by decide) (fun c6 σ5 => ?_)
    exact b_ret (i := (.ireturn, 0, 0, .null)) (by decide +kernel) rfl rfl (fit_I _)
/-- TreeStoreModel.asTrue(IJ)Z -/
def f237 (F : Nat) (x1 : Int32) (x2 : Int64) (σ : St) : Rs := if x1 = 1 then 
    cI (f238 F x2 0 σ) fun c2 σ1 => 
    if c2 = 0 then oI 0 σ1
    else oI 1 σ1
    else if x1 = 0 then 
    if lg_cmp x2 0 = 0 then oI 0 σ
    else if lg_cmp x2 ((-1000000000000000)) = 0 then oI 0 σ
    else oI 1 σ
    else if lg_cmp x2 0 = 0 then oI 0 σ
    else oI 1 σ
theorem s237 {sc : aSc} (hv : vOk sc) (F : Nat) (x1 : Int32) (x2 : Int64) (σ : St) : bEx sc 3 237 0 [some (.ref 1315), some (.int x1), some (.long x2), none] [] σ (f237 F x1 x2 σ) := by
  unfold f237
  refine b_run [(0, .iload_n 1, 0, 0, .null), (1, .iconst 1, 0, 0, .null)] (pc' := 2) (ls' := [some (.ref 1315), some (.int x1), some (.long x2), none]) (st' := [.int 1, .int x1]) (by decide +kernel) rfl ?_
  refine b_icF (c := .ne) (o := 18) (t := 20) (y := 0) (w := .null) (by decide +kernel) cmp_ne (fun _ => ?_) (fun _ => ?_)
  · refine b_run [(5, .aload_n 0, 0, 0, .null), (6, .lload_n 2, 0, 0, .null), (7, .iconst 0, 0, 0, .null)] (pc' := 8) (ls' := [some (.ref 1315), some (.int x1), some (.long x2), none]) (st' := [.int 0, .long x2, .ref 1315]) (by decide +kernel) rfl ?_
    refine b_callI 238 3 [.ref 1315, .long x2, .int 0] (rest := []) (by decide +kernel) rfl rfl rfl (go_O rfl (by decide +kernel) (by decide +kernel : isO 1315 9 = true)) rfl (s238 hv F x2 0 σ) (by decide) (fun c2 σ1 => ?_)
    refine b_izT (c := .eq) (o := 7) (t := 18) (y := 0) (w := .null) (by decide +kernel) cmp_eq (fun _ => ?_) (fun _ => ?_)
    · refine b_run [(18, .iconst 0, 0, 0, .null)] (pc' := 19) (ls' := [some (.ref 1315), some (.int x1), some (.long x2), none]) (st' := [.int 0]) (by decide +kernel) rfl ?_
      exact b_ret (i := (.ireturn, 0, 0, .null)) (by decide +kernel) rfl rfl (by decide +kernel)
    · refine b_run [(14, .iconst 1, 0, 0, .null), (15, .goto 4, 19, 0, .null)] (pc' := 19) (ls' := [some (.ref 1315), some (.int x1), some (.long x2), none]) (st' := [.int 1]) (by decide +kernel) rfl ?_
      exact b_ret (i := (.ireturn, 0, 0, .null)) (by decide +kernel) rfl rfl (by decide +kernel)
  · refine b_run [(20, .iload_n 1, 0, 0, .null)] (pc' := 21) (ls' := [some (.ref 1315), some (.int x1), some (.long x2), none]) (st' := [.int x1]) (by decide +kernel) rfl ?_
    refine b_izF (c := .ne) (o := 25) (t := 46) (y := 0) (w := .null) (by decide +kernel) cmp_ne (fun _ => ?_) (fun _ => ?_)
    · refine b_run [(24, .lload_n 2, 0, 0, .null), (25, .lconst 0, 0, 0, .null), (26, .lcmp, 0, 0, .null)] (pc' := 27) (ls' := [some (.ref 1315), some (.int x1), some (.long x2), none]) (st' := [.int (lg_cmp x2 0)]) (by decide +kernel) rfl ?_
      refine b_izT (c := .eq) (o := 15) (t := 42) (y := 0) (w := .null) (by decide +kernel) cmp_eq (fun _ => ?_) (fun _ => ?_)
      · refine b_run [(42, .iconst 0, 0, 0, .null), (43, .goto 14, 57, 0, .null)] (pc' := 57) (ls' := [some (.ref 1315), some (.int x1), some (.long x2), none]) (st' := [.int 0]) (by decide +kernel) rfl ?_
        exact b_ret (i := (.ireturn, 0, 0, .null)) (by decide +kernel) rfl rfl (by decide +kernel)
      · refine b_run [(30, .lload_n 2, 0, 0, .null), (31, .ldc2_w 511, 0, 0, .long (-1000000000000000)), (34, .lcmp, 0, 0, .null)] (pc' := 35) (ls' := [some (.ref 1315), some (.int x1), some (.long x2), none]) (st' := [.int (lg_cmp x2 ((-1000000000000000)))]) (by decide +kernel) rfl ?_
        refine b_izT (c := .eq) (o := 7) (t := 42) (y := 0) (w := .null) (by decide +kernel) cmp_eq (fun _ => ?_) (fun _ => ?_)
        · refine b_run [(42, .iconst 0, 0, 0, .null), (43, .goto 14, 57, 0, .null)] (pc' := 57) (ls' := [some (.ref 1315), some (.int x1), some (.long x2), none]) (st' := [.int 0]) (by decide +kernel) rfl ?_
          exact b_ret (i := (.ireturn, 0, 0, .null)) (by decide +kernel) rfl rfl (by decide +kernel)
        · refine b_run [(38, .iconst 1, 0, 0, .null), (39, .goto 18, 57, 0, .null)] (pc' := 57) (ls' := [some (.ref 1315), some (.int x1), some (.long x2), none]) (st' := [.int 1]) (by decide +kernel) rfl ?_
          exact b_ret (i := (.ireturn, 0, 0, .null)) (by decide +kernel) rfl rfl (by decide +kernel)
    · refine b_run [(46, .lload_n 2, 0, 0, .null), (47, .lconst 0, 0, 0, .null), (48, .lcmp, 0, 0, .null)] (pc' := 49) (ls' := [some (.ref 1315), some (.int x1), some (.long x2), none]) (st' := [.int (lg_cmp x2 0)]) (by decide +kernel) rfl ?_
      refine b_izT (c := .eq) (o := 7) (t := 56) (y := 0) (w := .null) (by decide +kernel) cmp_eq (fun _ => ?_) (fun _ => ?_)
      · refine b_run [(56, .iconst 0, 0, 0, .null)] (pc' := 57) (ls' := [some (.ref 1315), some (.int x1), some (.long x2), none]) (st' := [.int 0]) (by decide +kernel) rfl ?_
        exact b_ret (i := (.ireturn, 0, 0, .null)) (by decide +kernel) rfl rfl (by decide +kernel)
      · refine b_run [(52, .iconst 1, 0, 0, .null), (53, .goto 4, 57, 0, .null)] (pc' := 57) (ls' := [some (.ref 1315), some (.int x1), some (.long x2), none]) (st' := [.int 1]) (by decide +kernel) rfl ?_
        exact b_ret (i := (.ireturn, 0, 0, .null)) (by decide +kernel) rfl rfl (by decide +kernel)
def f241_120 (F : Nat) : Nat → Int64 → Int32 → Int32 → Int64 → Int32 → St → Rs
  | 0, _, _, _, _, _, _ => none
  | n + 1, y1, y3, y4, y5, y7, σ => cI (f238 F y1 y3 σ) fun c10 σ9 => 
    cI (f153 F c10 σ9) fun c12 σ11 => 
    if c12 = 0 then 
    if y7 < 1 then oJ ((-1000000000000000)) σ11
    else if 9 < y7 then oJ ((-1000000000000000)) σ11
    else cI (f238 F y1 y3 σ11) fun c14 σ13 => 
    if c14 = 0 then 
    if y4 = 0 then oJ y5 σ13
    else oJ (-y5) σ13
    else oJ ((-1000000000000000)) σ13
    else f241_120 F n y1 (y3 + 1) y4 y5 y7 σ11
theorem s241_120 {sc : aSc} (hv : vOk sc) (F : Nat) : ∀ (n : Nat) (y1 : Int64) (y3 : Int32) (y4 : Int32) (y5 : Int64) (y7 : Int32) (σ : St), bEx sc 3 241 120 [some (.ref 1315), some (.long y1), none, some (.int y3), some (.int y4), some (.long y5), none, some (.int y7)] [] σ (f241_120 F n y1 y3 y4 y5 y7 σ) := by
  intro n
  induction n with
  | zero => intro y1 y3 y4 y5 y7 σ; exact b_none
  | succ n ih =>
    intro y1 y3 y4 y5 y7 σ
    rw [f241_120.eq_2]
    refine b_run [(120, .aload_n 0, 0, 0, .null), (121, .lload_n 1, 0, 0, .null), (122, .iload_n 3, 0, 0, .null)] (pc' := 123) (ls' := [some (.ref 1315), some (.long y1), none, some (.int y3), some (.int y4), some (.long y5), none, some (.int y7)]) (st' := [.int y3, .long y1, .ref 1315]) (by decide +kernel) rfl ?_
    refine b_callI 238 3 [.ref 1315, .long y1, .int y3] (rest := []) (by decide +kernel) rfl rfl rfl (go_O rfl (by decide +kernel) (by decide +kernel : isO 1315 9 = true)) rfl (s238 hv F y1 y3 σ) (by decide) (fun c10 σ9 => ?_)
    refine b_callI 153 1 [.int c10] (rest := []) (by decide +kernel) rfl rfl rfl (go_S rfl (by decide +kernel)) rfl (s153 hv F c10 σ9) (by decide) (fun c12 σ11 => ?_)
    refine b_izT (c := .eq) (o := 9) (t := 138) (y := 0) (w := .null) (by decide +kernel) cmp_eq (fun _ => ?_) (fun _ => ?_)
    · refine b_run [(138, .iload 7, 0, 0, .null), (140, .iconst 1, 0, 0, .null)] (pc' := 141) (ls' := [some (.ref 1315), some (.long y1), none, some (.int y3), some (.int y4), some (.long y5), none, some (.int y7)]) (st' := [.int 1, .int y7]) (by decide +kernel) rfl ?_
      refine b_icT (c := .lt) (o := 19) (t := 160) (y := 0) (w := .null) (by decide +kernel) cmp_lt (fun _ => ?_) (fun _ => ?_)
      · refine b_run [(160, .ldc2_w 511, 0, 0, .long (-1000000000000000)), (163, .goto 16, 179, 0, .null)] (pc' := 179) (ls' := [some (.ref 1315), some (.long y1), none, some (.int y3), some (.int y4), some (.long y5), none, some (.int y7)]) (st' := [.long ((-1000000000000000))]) (by decide +kernel) rfl ?_
        exact b_ret (i := (.lreturn, 0, 0, .null)) (by decide +kernel) rfl rfl (fit_J _)
      · refine b_run [(144, .iload 7, 0, 0, .null), (146, .bipush 9, 0, 0, .null)] (pc' := 148) (ls' := [some (.ref 1315), some (.long y1), none, some (.int y3), some (.int y4), some (.long y5), none, some (.int y7)]) (st' := [.int 9, .int y7]) (by decide +kernel) rfl ?_
        refine b_icT (c := .gt) (o := 12) (t := 160) (y := 0) (w := .null) (by decide +kernel) cmp_gt (fun _ => ?_) (fun _ => ?_)
        · refine b_run [(160, .ldc2_w 511, 0, 0, .long (-1000000000000000)), (163, .goto 16, 179, 0, .null)] (pc' := 179) (ls' := [some (.ref 1315), some (.long y1), none, some (.int y3), some (.int y4), some (.long y5), none, some (.int y7)]) (st' := [.long ((-1000000000000000))]) (by decide +kernel) rfl ?_
          exact b_ret (i := (.lreturn, 0, 0, .null)) (by decide +kernel) rfl rfl (fit_J _)
        · refine b_run [(151, .aload_n 0, 0, 0, .null), (152, .lload_n 1, 0, 0, .null), (153, .iload_n 3, 0, 0, .null)] (pc' := 154) (ls' := [some (.ref 1315), some (.long y1), none, some (.int y3), some (.int y4), some (.long y5), none, some (.int y7)]) (st' := [.int y3, .long y1, .ref 1315]) (by decide +kernel) rfl ?_
          refine b_callI 238 3 [.ref 1315, .long y1, .int y3] (rest := []) (by decide +kernel) rfl rfl rfl (go_O rfl (by decide +kernel) (by decide +kernel : isO 1315 9 = true)) rfl (s238 hv F y1 y3 σ11) (by decide) (fun c14 σ13 => ?_)
          refine b_izT (c := .eq) (o := 9) (t := 166) (y := 0) (w := .null) (by decide +kernel) cmp_eq (fun _ => ?_) (fun _ => ?_)
          · refine b_run [(166, .iload 4, 0, 0, .null)] (pc' := 168) (ls' := [some (.ref 1315), some (.long y1), none, some (.int y3), some (.int y4), some (.long y5), none, some (.int y7)]) (st' := [.int y4]) (by decide +kernel) rfl ?_
            refine b_izT (c := .eq) (o := 9) (t := 177) (y := 0) (w := .null) (by decide +kernel) cmp_eq (fun _ => ?_) (fun _ => ?_)
            · refine b_run [(177, .lload 5, 0, 0, .null)] (pc' := 179) (ls' := [some (.ref 1315), some (.long y1), none, some (.int y3), some (.int y4), some (.long y5), none, some (.int y7)]) (st' := [.long y5]) (by decide +kernel) rfl ?_
              exact b_ret (i := (.lreturn, 0, 0, .null)) (by decide +kernel) rfl rfl (fit_J _)
            · refine b_run [(171, .lload 5, 0, 0, .null), (173, .lneg, 0, 0, .null), (174, .goto 5, 179, 0, .null)] (pc' := 179) (ls' := [some (.ref 1315), some (.long y1), none, some (.int y3), some (.int y4), some (.long y5), none, some (.int y7)]) (st' := [.long (-y5)]) (by decide +kernel) rfl ?_
              exact b_ret (i := (.lreturn, 0, 0, .null)) (by decide +kernel) rfl rfl (fit_J _)
          · refine b_run [(160, .ldc2_w 511, 0, 0, .long (-1000000000000000)), (163, .goto 16, 179, 0, .null)] (pc' := 179) (ls' := [some (.ref 1315), some (.long y1), none, some (.int y3), some (.int y4), some (.long y5), none, some (.int y7)]) (st' := [.long ((-1000000000000000))]) (by decide +kernel) rfl ?_
            exact b_ret (i := (.lreturn, 0, 0, .null)) (by decide +kernel) rfl rfl (fit_J _)
    · refine b_run [(132, .iinc 3 1, 0, 0, .null), (135, .goto (-15), 120, 0, .null)] (pc' := 120) (ls' := [some (.ref 1315), some (.long y1), none, some (.int (y3 + 1)), some (.int y4), some (.long y5), none, some (.int y7)]) (st' := []) (by decide +kernel) rfl ?_
      exact b_wk (wS (wS (wN (wS (wS (wS (wN (wS w0)))))))) (ih y1 (y3 + 1) y4 y5 y7 σ11)
