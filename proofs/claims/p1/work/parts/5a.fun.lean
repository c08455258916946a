/-- TreeStore.byteAt(JI)I -/
def f11 (F : Nat) (x0 : Int64) (x2 : Int32) (σ : St) : Rs := oI (((((x0 : Int64).toUInt64 >>> ((x2 : Int32).toInt64.toUInt64 &&& Int64.toUInt64 63)).toInt64 : Int64).toInt32) &&& 255) σ
theorem s11 {sc : aSc} (hv : vOk sc) (F : Nat) (x0 : Int64) (x2 : Int32) (σ : St) : bEx sc 0 11 0 [some (.long x0), none, some (.int x2)] [] σ (f11 F x0 x2 σ) := by
  unfold f11
  refine b_run [(0, .lload_n 0, 0, 0, .null), (1, .iload_n 2, 0, 0, .null), (2, .lushr, 0, 0, .null), (3, .l2i, 0, 0, .null), (4, .sipush 255, 0, 0, .null), (7, .iand, 0, 0, .null)] (pc' := 8) (ls' := [some (.long x0), none, some (.int x2)]) (st' := [.int (((((x0 : Int64).toUInt64 >>> ((x2 : Int32).toInt64.toUInt64 &&& Int64.toUInt64 63)).toInt64 : Int64).toInt32) &&& 255)]) (by decide +kernel) rfl ?_
  exact b_ret (i := (.ireturn, 0, 0, .null)) (by decide +kernel) rfl rfl (fit_I _)
/-- TreeStore.isCharacter(I)Z -/
def f12 (F : Nat) (x0 : Int32) (σ : St) : Rs := if x0 = 10 then oI 1 σ
    else if x0 < 32 then oI 0 σ
    else if 126 < x0 then oI 0 σ
    else oI 1 σ
theorem s12 {sc : aSc} (hv : vOk sc) (F : Nat) (x0 : Int32) (σ : St) : bEx sc 0 12 0 [some (.int x0)] [] σ (f12 F x0 σ) := by
  unfold f12
  refine b_run [(0, .iload_n 0, 0, 0, .null), (1, .bipush 10, 0, 0, .null)] (pc' := 3) (ls' := [some (.int x0)]) (st' := [.int 10, .int x0]) (by decide +kernel) rfl ?_
  refine b_icT (c := .eq) (o := 15) (t := 18) (y := 0) (w := .null) (by decide +kernel) cmp_eq (fun _ => ?_) (fun _ => ?_)
  · refine b_run [(18, .iconst 1, 0, 0, .null), (19, .goto 4, 23, 0, .null)] (pc' := 23) (ls' := [some (.int x0)]) (st' := [.int 1]) (by decide +kernel) rfl ?_
    exact b_ret (i := (.ireturn, 0, 0, .null)) (by decide +kernel) rfl rfl (by decide +kernel)
  · refine b_run [(6, .iload_n 0, 0, 0, .null), (7, .bipush 32, 0, 0, .null)] (pc' := 9) (ls' := [some (.int x0)]) (st' := [.int 32, .int x0]) (by decide +kernel) rfl ?_
    refine b_icT (c := .lt) (o := 13) (t := 22) (y := 0) (w := .null) (by decide +kernel) cmp_lt (fun _ => ?_) (fun _ => ?_)
    · refine b_run [(22, .iconst 0, 0, 0, .null)] (pc' := 23) (ls' := [some (.int x0)]) (st' := [.int 0]) (by decide +kernel) rfl ?_
      exact b_ret (i := (.ireturn, 0, 0, .null)) (by decide +kernel) rfl rfl (by decide +kernel)
    · refine b_run [(12, .iload_n 0, 0, 0, .null), (13, .bipush 126, 0, 0, .null)] (pc' := 15) (ls' := [some (.int x0)]) (st' := [.int 126, .int x0]) (by decide +kernel) rfl ?_
      refine b_icT (c := .gt) (o := 7) (t := 22) (y := 0) (w := .null) (by decide +kernel) cmp_gt (fun _ => ?_) (fun _ => ?_)
      · refine b_run [(22, .iconst 0, 0, 0, .null)] (pc' := 23) (ls' := [some (.int x0)]) (st' := [.int 0]) (by decide +kernel) rfl ?_
        exact b_ret (i := (.ireturn, 0, 0, .null)) (by decide +kernel) rfl rfl (by decide +kernel)
      · refine b_run [(18, .iconst 1, 0, 0, .null), (19, .goto 4, 23, 0, .null)] (pc' := 23) (ls' := [some (.int x0)]) (st' := [.int 1]) (by decide +kernel) rfl ?_
        exact b_ret (i := (.ireturn, 0, 0, .null)) (by decide +kernel) rfl rfl (by decide +kernel)
/-- TreeStore$Row.hasRoomFor(I)Z -/
def f89 (F : Nat) (x0 : Nat) (x1 : Int32) (σ : St) : Rs := lt (σ.1 x0 1) fun c1 => 
    if Int32.ofNat (laN ((rfF x0 0))) < c1 + x1 then oI 0 σ
    else oI 1 σ
theorem s89 {sc : aSc} (hv : vOk sc) (F : Nat) (x0 : Nat) (x1 : Int32) (σ : St) (hx0 : isO x0 5 = true) : bEx sc 0 89 0 [some (.ref x0), some (.int x1)] [] σ (f89 F x0 x1 σ) := by
  unfold f89
  refine b_run [(0, .aload_n 0, 0, 0, .null)] (pc' := 1) (ls' := [some (.ref x0), some (.int x1)]) (st' := [.ref x0]) (by decide +kernel) rfl ?_
  refine b_gI (q := 15) (ci := 5) (k := 1) (w := .null) (by decide +kernel) (fk_I5_1 hx0) (fun c1 => ?_)
  refine b_run [(4, .iload_n 1, 0, 0, .null), (5, .iadd, 0, 0, .null), (6, .aload_n 0, 0, 0, .null)] (pc' := 7) (ls' := [some (.ref x0), some (.int x1)]) (st' := [.ref x0, .int (c1 + x1)]) (by decide +kernel) rfl ?_
  refine b_getC (q := 9) (ci := 5) (k := 0) (w := .null) (by decide +kernel) (fk_C5_0 hx0) ?_
  refine b_len (ci := 0) (y := 0) (w := .null) (n := (laN ((rfF x0 0)))) (by decide +kernel) (fk_A5_0 hx0) ?_
  refine b_icT (c := .gt) (o := 7) (t := 18) (y := 0) (w := .null) (by decide +kernel) cmp_gt (fun _ => ?_) (fun _ => ?_)
  · refine b_run [(18, .iconst 0, 0, 0, .null)] (pc' := 19) (ls' := [some (.ref x0), some (.int x1)]) (st' := [.int 0]) (by decide +kernel) rfl ?_
    exact b_ret (i := (.ireturn, 0, 0, .null)) (by decide +kernel) rfl rfl (by decide +kernel)
  · refine b_run [(14, .iconst 1, 0, 0, .null), (15, .goto 4, 19, 0, .null)] (pc' := 19) (ls' := [some (.ref x0), some (.int x1)]) (st' := [.int 1]) (by decide +kernel) rfl ?_
    exact b_ret (i := (.ireturn, 0, 0, .null)) (by decide +kernel) rfl rfl (by decide +kernel)
/-- TreeStore$Row.add(I)V -/
def f90 (F : Nat) (x0 : Nat) (x1 : Int32) (σ : St) : Rs := cI (f89 F x0 1 σ) fun c2 σ1 => 
    if c2 = 0 then oV σ1
    else lt (σ1.1 x0 1) fun c3 => 
    if inB c3 (laN ((rfF x0 0))) then lt (uI σ1 (rfF x0 0) c3.toNatClampNeg (vp_nar .char (((x1 : Int32).toUInt32 % 65536).toInt32))) fun σ4 => lt (σ4.1 x0 1) fun c5 => lt (uI σ4 x0 1 (c5 + 1)) fun σ6 => oV σ6 else none
theorem s90 {sc : aSc} (hv : vOk sc) (F : Nat) (x0 : Nat) (x1 : Int32) (σ : St) (hx0 : isO x0 5 = true) : bEx sc 1 90 0 [some (.ref x0), some (.int x1)] [] σ (f90 F x0 x1 σ) := by
  unfold f90
  refine b_run [(0, .aload_n 0, 0, 0, .null), (1, .iconst 1, 0, 0, .null)] (pc' := 2) (ls' := [some (.ref x0), some (.int x1)]) (st' := [.int 1, .ref x0]) (by decide +kernel) rfl ?_
  refine b_callI 89 2 [.ref x0, .int 1] (rest := []) (by decide +kernel) rfl rfl rfl (go_O rfl (by decide +kernel) hx0) rfl (s89 hv F x0 1 σ hx0) (by decide) (fun c2 σ1 => ?_)
  refine b_izT (c := .eq) (o := 24) (t := 29) (y := 0) (w := .null) (by decide +kernel) cmp_eq (fun _ => ?_) (fun _ => ?_)
  · exact b_ret0 (i := (.return_, 0, 0, .null)) (by decide +kernel) rfl rfl
  · refine b_run [(8, .aload_n 0, 0, 0, .null)] (pc' := 9) (ls' := [some (.ref x0), some (.int x1)]) (st' := [.ref x0]) (by decide +kernel) rfl ?_
    refine b_getC (q := 9) (ci := 5) (k := 0) (w := .null) (by decide +kernel) (fk_C5_0 hx0) ?_
    refine b_run [(12, .aload_n 0, 0, 0, .null)] (pc' := 13) (ls' := [some (.ref x0), some (.int x1)]) (st' := [.ref x0, .ref ((rfF x0 0))]) (by decide +kernel) rfl ?_
    refine b_gI (q := 15) (ci := 5) (k := 1) (w := .null) (by decide +kernel) (fk_I5_1 hx0) (fun c3 => ?_)
    refine b_run [(16, .iload_n 1, 0, 0, .null), (17, .i2c, 0, 0, .null)] (pc' := 18) (ls' := [some (.ref x0), some (.int x1)]) (st' := [.int (((x1 : Int32).toUInt32 % 65536).toInt32), .int c3, .ref ((rfF x0 0))]) (by decide +kernel) rfl ?_
    refine b_guard (fun hb => ?_)
    refine b_sC (ci := 0) (y := 0) (w := .null) (by decide +kernel) (fk_A5_0 hx0) hb (fun σ4 => ?_)
    refine b_run [(19, .aload_n 0, 0, 0, .null), (20, .dup, 0, 0, .null)] (pc' := 21) (ls' := [some (.ref x0), some (.int x1)]) (st' := [.ref x0, .ref x0]) (by decide +kernel) rfl ?_
    refine b_gI (q := 15) (ci := 5) (k := 1) (w := .null) (by decide +kernel) (fk_I5_1 hx0) (fun c5 => ?_)
    refine b_run [(24, .iconst 1, 0, 0, .null), (25, .iadd, 0, 0, .null)] (pc' := 26) (ls' := [some (.ref x0), some (.int x1)]) (st' := [.int (c5 + 1), .ref x0]) (by decide +kernel) rfl ?_
    refine b_pI (q := 15) (ci := 5) (k := 1) (w := .null) (by decide +kernel) (fk_I5_1 hx0) (fit_I _) (fun σ6 => ?_)
    exact b_ret0 (i := (.return_, 0, 0, .null)) (by decide +kernel) rfl rfl
def f10_97 (F : Nat) (k70 : Int64 → Int32 → St → Rs) (y1 : Int64) (y4 : Int32) (σ : St) : Rs := k70 y1 (y4 + Int32.ofInt (-8)) σ
theorem s10_97 {sc : aSc} (hv : vOk sc) (F : Nat) (k70 : Int64 → Int32 → St → Rs) (hk70 : ∀ y1 y4 σ, bEx sc 2 10 70 [some (.ref 1000), some (.long y1), none, none, some (.int y4), none] [] σ (k70 y1 y4 σ)) (y1 : Int64) (y4 : Int32) (σ : St) : bEx sc 2 10 97 [some (.ref 1000), some (.long y1), none, none, some (.int y4), none] [] σ (f10_97 F k70 y1 y4 σ) := by
  unfold f10_97
  refine b_run [(97, .iinc 4 (-8), 0, 0, .null), (100, .goto (-30), 70, 0, .null)] (pc' := 70) (ls' := [some (.ref 1000), some (.long y1), none, none, some (.int (y4 + Int32.ofInt (-8))), none]) (st' := []) (by decide +kernel) rfl ?_
  exact b_wk (wS (wS (wN (wN (wS (wN w0)))))) (hk70 y1 (y4 + Int32.ofInt (-8)) σ)
def f10_70 (F : Nat) : Nat → Int64 → Int32 → St → Rs
  | 0, _, _, _ => none
  | n + 1, y1, y4, σ => if y4 < 0 then oI 1 σ
    else cI (f11 F y1 y4 σ) fun c4 σ3 => 
    if c4 = 0 then f10_97 F (f10_70 F n) y1 y4 σ3
    else cV (f90 F 1001 c4 σ3) fun σ5 => f10_97 F (f10_70 F n) y1 y4 σ5
theorem s10_70 {sc : aSc} (hv : vOk sc) (F : Nat) : ∀ (n : Nat) (y1 : Int64) (y4 : Int32) (σ : St), bEx sc 2 10 70 [some (.ref 1000), some (.long y1), none, none, some (.int y4), none] [] σ (f10_70 F n y1 y4 σ) := by
  intro n
  induction n with
  | zero => intro y1 y4 σ; exact b_none
  | succ n ih =>
    intro y1 y4 σ
    rw [f10_70.eq_2]
    refine b_run [(70, .iload 4, 0, 0, .null)] (pc' := 72) (ls' := [some (.ref 1000), some (.long y1), none, none, some (.int y4), none]) (st' := [.int y4]) (by decide +kernel) rfl ?_
    refine b_izT (c := .lt) (o := 31) (t := 103) (y := 0) (w := .null) (by decide +kernel) cmp_lt (fun _ => ?_) (fun _ => ?_)
    · refine b_run [(103, .iconst 1, 0, 0, .null)] (pc' := 104) (ls' := [some (.ref 1000), some (.long y1), none, none, some (.int y4), none]) (st' := [.int 1]) (by decide +kernel) rfl ?_
      exact b_ret (i := (.ireturn, 0, 0, .null)) (by decide +kernel) rfl rfl (by decide +kernel)
    · refine b_run [(75, .lload_n 1, 0, 0, .null), (76, .iload 4, 0, 0, .null)] (pc' := 78) (ls' := [some (.ref 1000), some (.long y1), none, none, some (.int y4), none]) (st' := [.int y4, .long y1]) (by decide +kernel) rfl ?_
      refine b_callI 11 2 [.long y1, .int y4] (rest := []) (by decide +kernel) rfl rfl rfl (go_S rfl (by decide +kernel)) rfl (s11 hv F y1 y4 σ) (by decide) (fun c4 σ3 => ?_)
      refine b_run [(81, .istore 5, 0, 0, .null), (83, .iload 5, 0, 0, .null)] (pc' := 85) (ls' := [some (.ref 1000), some (.long y1), none, none, some (.int y4), some (.int c4)]) (st' := [.int c4]) (by decide +kernel) rfl ?_
      refine b_izT (c := .eq) (o := 12) (t := 97) (y := 0) (w := .null) (by decide +kernel) cmp_eq (fun _ => ?_) (fun _ => ?_)
      · exact b_wk (wS (wS (wN (wN (wS (wN w0)))))) (s10_97 hv F (f10_70 F n) ih y1 y4 σ3)
      · refine b_run [(88, .aload_n 0, 0, 0, .null)] (pc' := 89) (ls' := [some (.ref 1000), some (.long y1), none, none, some (.int y4), some (.int c4)]) (st' := [.ref 1000]) (by decide +kernel) rfl ?_
        refine b_getC (b := 1001) (q := 14) (ci := 0) (k := 0) (w := .null) (by decide +kernel) (by decide +kernel) ?_
        refine b_run [(92, .iload 5, 0, 0, .null)] (pc' := 94) (ls' := [some (.ref 1000), some (.long y1), none, none, some (.int y4), some (.int c4)]) (st' := [.int c4, .ref 1001]) (by decide +kernel) rfl ?_
        refine b_callV 90 2 [.ref 1001, .int c4] (rest := []) (by decide +kernel) rfl rfl rfl (go_O rfl (by decide +kernel) (by decide +kernel : isO 1001 5 = true)) rfl (s90 hv F 1001 c4 σ3 (by decide +kernel : isO 1001 5 = true)) (by decide) (fun σ5 => ?_)
        exact b_wk (wS (wS (wN (wN (wS (wN w0)))))) (s10_97 hv F (f10_70 F n) ih y1 y4 σ5)
def f10_45 (F : Nat) (k6 : Int64 → Int32 → Int32 → St → Rs) (y1 : Int64) (y4 : Int32) (z0 : Int32) (z1 : Int32) (σ : St) : Rs := lt (z0 + z1) fun c9 => k6 y1 c9 (y4 + Int32.ofInt (-8)) σ
theorem s10_45 {sc : aSc} (hv : vOk sc) (F : Nat) (k6 : Int64 → Int32 → Int32 → St → Rs) (hk6 : ∀ y1 y3 y4 σ, bEx sc 2 10 6 [some (.ref 1000), some (.long y1), none, some (.int y3), some (.int y4), none] [] σ (k6 y1 y3 y4 σ)) (y1 : Int64) (y4 : Int32) (z0 : Int32) (z1 : Int32) (σ : St) : bEx sc 2 10 45 [some (.ref 1000), some (.long y1), none, none, some (.int y4), none] [.int z1, .int z0] σ (f10_45 F k6 y1 y4 z0 z1 σ) := by
  unfold f10_45
  refine b_run [(45, .iadd, 0, 0, .null), (46, .istore_n 3, 0, 0, .null)] (pc' := 47) (ls' := [some (.ref 1000), some (.long y1), none, some (.int (z0 + z1)), some (.int y4), none]) (st' := []) (by decide +kernel) rfl ?_
  refine b_let (z0 + z1) (L := fun c9 => [some (.ref 1000), some (.long y1), none, some (.int c9), some (.int y4), none]) (S := fun _ => []) (fun c9 => ?_)
  refine b_run [(47, .iinc 4 (-8), 0, 0, .null), (50, .goto (-44), 6, 0, .null)] (pc' := 6) (ls' := [some (.ref 1000), some (.long y1), none, some (.int c9), some (.int (y4 + Int32.ofInt (-8))), none]) (st' := []) (by decide +kernel) rfl ?_
  exact b_wk (wS (wS (wN (wS (wS (wN w0)))))) (hk6 y1 c9 (y4 + Int32.ofInt (-8)) σ)
def f10_34 (F : Nat) (k6 : Int64 → Int32 → Int32 → St → Rs) (y1 : Int64) (y3 : Int32) (y4 : Int32) (y5 : Int32) (σ : St) : Rs := if y5 = 0 then f10_45 F k6 y1 y4 y3 0 σ
    else f10_45 F k6 y1 y4 y3 1 σ
theorem s10_34 {sc : aSc} (hv : vOk sc) (F : Nat) (k6 : Int64 → Int32 → Int32 → St → Rs) (hk6 : ∀ y1 y3 y4 σ, bEx sc 2 10 6 [some (.ref 1000), some (.long y1), none, some (.int y3), some (.int y4), none] [] σ (k6 y1 y3 y4 σ)) (y1 : Int64) (y3 : Int32) (y4 : Int32) (y5 : Int32) (σ : St) : bEx sc 2 10 34 [some (.ref 1000), some (.long y1), none, some (.int y3), some (.int y4), some (.int y5)] [] σ (f10_34 F k6 y1 y3 y4 y5 σ) := by
  unfold f10_34
  refine b_run [(34, .iload_n 3, 0, 0, .null), (35, .iload 5, 0, 0, .null)] (pc' := 37) (ls' := [some (.ref 1000), some (.long y1), none, some (.int y3), some (.int y4), some (.int y5)]) (st' := [.int y5, .int y3]) (by decide +kernel) rfl ?_
  refine b_izT (c := .eq) (o := 7) (t := 44) (y := 0) (w := .null) (by decide +kernel) cmp_eq (fun _ => ?_) (fun _ => ?_)
  · refine b_run [(44, .iconst 0, 0, 0, .null)] (pc' := 45) (ls' := [some (.ref 1000), some (.long y1), none, some (.int y3), some (.int y4), some (.int y5)]) (st' := [.int 0, .int y3]) (by decide +kernel) rfl ?_
    exact b_wk (wS (wS (wN (wN (wS (wN w0)))))) (s10_45 hv F k6 hk6 y1 y4 y3 0 σ)
  · refine b_run [(40, .iconst 1, 0, 0, .null), (41, .goto 4, 45, 0, .null)] (pc' := 45) (ls' := [some (.ref 1000), some (.long y1), none, some (.int y3), some (.int y4), some (.int y5)]) (st' := [.int 1, .int y3]) (by decide +kernel) rfl ?_
    exact b_wk (wS (wS (wN (wN (wS (wN w0)))))) (s10_45 hv F k6 hk6 y1 y4 y3 1 σ)
def f10_6 (F : Nat) : Nat → Int64 → Int32 → Int32 → St → Rs
  | 0, _, _, _, _ => none
  | n + 1, y1, y3, y4, σ => if y4 < 0 then 
    cI (f89 F 1001 y3 σ) fun c2 σ1 => 
    if c2 = 0 then oI 0 σ1
    else f10_70 F F y1 56 σ1
    else cI (f11 F y1 y4 σ) fun c8 σ7 => 
    if c8 = 0 then f10_34 F (f10_6 F n) y1 y3 y4 c8 σ7
    else cI (f12 F c8 σ7) fun c11 σ10 => 
    if c11 = 0 then oI 0 σ10
    else f10_34 F (f10_6 F n) y1 y3 y4 c8 σ10
theorem s10_6 {sc : aSc} (hv : vOk sc) (F : Nat) : ∀ (n : Nat) (y1 : Int64) (y3 : Int32) (y4 : Int32) (σ : St), bEx sc 2 10 6 [some (.ref 1000), some (.long y1), none, some (.int y3), some (.int y4), none] [] σ (f10_6 F n y1 y3 y4 σ) := by
  intro n
  induction n with
  | zero => intro y1 y3 y4 σ; exact b_none
  | succ n ih =>
    intro y1 y3 y4 σ
    rw [f10_6.eq_2]
    refine b_run [(6, .iload 4, 0, 0, .null)] (pc' := 8) (ls' := [some (.ref 1000), some (.long y1), none, some (.int y3), some (.int y4), none]) (st' := [.int y4]) (by decide +kernel) rfl ?_
    refine b_izT (c := .lt) (o := 45) (t := 53) (y := 0) (w := .null) (by decide +kernel) cmp_lt (fun _ => ?_) (fun _ => ?_)
    · refine b_run [(53, .aload_n 0, 0, 0, .null)] (pc' := 54) (ls' := [some (.ref 1000), some (.long y1), none, some (.int y3), some (.int y4), none]) (st' := [.ref 1000]) (by decide +kernel) rfl ?_
      refine b_getC (b := 1001) (q := 14) (ci := 0) (k := 0) (w := .null) (by decide +kernel) (by decide +kernel) ?_
      refine b_run [(57, .iload_n 3, 0, 0, .null)] (pc' := 58) (ls' := [some (.ref 1000), some (.long y1), none, some (.int y3), some (.int y4), none]) (st' := [.int y3, .ref 1001]) (by decide +kernel) rfl ?_
      refine b_callI 89 2 [.ref 1001, .int y3] (rest := []) (by decide +kernel) rfl rfl rfl (go_O rfl (by decide +kernel) (by decide +kernel : isO 1001 5 = true)) rfl (s89 hv F 1001 y3 σ (by decide +kernel : isO 1001 5 = true)) (by decide) (fun c2 σ1 => ?_)
      refine b_izF (c := .ne) (o := 5) (t := 66) (y := 0) (w := .null) (by decide +kernel) cmp_ne (fun _ => ?_) (fun _ => ?_)
      · refine b_run [(64, .iconst 0, 0, 0, .null)] (pc' := 65) (ls' := [some (.ref 1000), some (.long y1), none, some (.int y3), some (.int y4), none]) (st' := [.int 0]) (by decide +kernel) rfl ?_
        exact b_ret (i := (.ireturn, 0, 0, .null)) (by decide +kernel) rfl rfl (by decide +kernel)
      · refine b_run [(66, .bipush 56, 0, 0, .null), (68, .istore 4, 0, 0, .null)] (pc' := 70) (ls' := [some (.ref 1000), some (.long y1), none, some (.int y3), some (.int 56), none]) (st' := []) (by decide +kernel) rfl ?_
        exact b_wk (wS (wS (wN (wN (wS (wN w0)))))) (s10_70 hv F F y1 56 σ1)
    · refine b_run [(11, .lload_n 1, 0, 0, .null), (12, .iload 4, 0, 0, .null)] (pc' := 14) (ls' := [some (.ref 1000), some (.long y1), none, some (.int y3), some (.int y4), none]) (st' := [.int y4, .long y1]) (by decide +kernel) rfl ?_
      refine b_callI 11 2 [.long y1, .int y4] (rest := []) (by decide +kernel) rfl rfl rfl (go_S rfl (by decide +kernel)) rfl (s11 hv F y1 y4 σ) (by decide) (fun c8 σ7 => ?_)
      refine b_run [(17, .istore 5, 0, 0, .null), (19, .iload 5, 0, 0, .null)] (pc' := 21) (ls' := [some (.ref 1000), some (.long y1), none, some (.int y3), some (.int y4), some (.int c8)]) (st' := [.int c8]) (by decide +kernel) rfl ?_
      refine b_izT (c := .eq) (o := 13) (t := 34) (y := 0) (w := .null) (by decide +kernel) cmp_eq (fun _ => ?_) (fun _ => ?_)
      · exact b_wk (wS (wS (wN (wS (wS (wS w0)))))) (s10_34 hv F (f10_6 F n) ih y1 y3 y4 c8 σ7)
      · refine b_run [(24, .iload 5, 0, 0, .null)] (pc' := 26) (ls' := [some (.ref 1000), some (.long y1), none, some (.int y3), some (.int y4), some (.int c8)]) (st' := [.int c8]) (by decide +kernel) rfl ?_
        refine b_callI 12 1 [.int c8] (rest := []) (by decide +kernel) rfl rfl rfl (go_S rfl (by decide +kernel)) rfl (s12 hv F c8 σ7) (by decide) (fun c11 σ10 => ?_)
        refine b_izF (c := .ne) (o := 5) (t := 34) (y := 0) (w := .null) (by decide +kernel) cmp_ne (fun _ => ?_) (fun _ => ?_)
        · refine b_run [(32, .iconst 0, 0, 0, .null)] (pc' := 33) (ls' := [some (.ref 1000), some (.long y1), none, some (.int y3), some (.int y4), some (.int c8)]) (st' := [.int 0]) (by decide +kernel) rfl ?_
          exact b_ret (i := (.ireturn, 0, 0, .null)) (by decide +kernel) rfl rfl (by decide +kernel)
        · exact b_wk (wS (wS (wN (wS (wS (wS w0)))))) (s10_34 hv F (f10_6 F n) ih y1 y3 y4 c8 σ10)
/-- TreeStore.type(J)Z -/
def f10 (F : Nat) (x1 : Int64) (σ : St) : Rs := f10_6 F F x1 0 56 σ
theorem s10 {sc : aSc} (hv : vOk sc) (F : Nat) (x1 : Int64) (σ : St) : bEx sc 2 10 0 [some (.ref 1000), some (.long x1), none, none, none, none] [] σ (f10 F x1 σ) := by
  unfold f10
  refine b_run [(0, .iconst 0, 0, 0, .null), (1, .istore_n 3, 0, 0, .null), (2, .bipush 56, 0, 0, .null), (4, .istore 4, 0, 0, .null)] (pc' := 6) (ls' := [some (.ref 1000), some (.long x1), none, some (.int 0), some (.int 56), none]) (st' := []) (by decide +kernel) rfl ?_
  exact b_wk (wS (wS (wN (wS (wS (wN w0)))))) (s10_6 hv F F x1 0 56 σ)
def f145_151 (F : Nat) (k109 : Int64 → Int32 → St → Rs) (y1 : Int64) (y5 : Int32) (σ : St) : Rs := k109 y1 (y5 + Int32.ofInt (-8)) σ
theorem s145_151 {sc : aSc} (hv : vOk sc) (F : Nat) (k109 : Int64 → Int32 → St → Rs) (hk109 : ∀ y1 y5 σ, bEx sc 0 145 109 [some (.ref 1315), some (.long y1), none, none, none, some (.int y5), none] [] σ (k109 y1 y5 σ)) (y1 : Int64) (y5 : Int32) (σ : St) : bEx sc 0 145 151 [some (.ref 1315), some (.long y1), none, none, none, some (.int y5), none] [] σ (f145_151 F k109 y1 y5 σ) := by
  unfold f145_151
  refine b_run [(151, .iinc 5 (-8), 0, 0, .null), (154, .goto (-45), 109, 0, .null)] (pc' := 109) (ls' := [some (.ref 1315), some (.long y1), none, none, none, some (.int (y5 + Int32.ofInt (-8))), none]) (st' := []) (by decide +kernel) rfl ?_
  exact b_wk (wS (wS (wN (wN (wN (wS (wN w0))))))) (hk109 y1 (y5 + Int32.ofInt (-8)) σ)
def f145_109 (F : Nat) : Nat → Int64 → Int32 → St → Rs
  | 0, _, _, _ => none
  | n + 1, y1, y5, σ => if y5 < 0 then oI 1 σ
    else lt (((((y1 : Int64).toUInt64 >>> ((y5 : Int32).toInt64.toUInt64 &&& Int64.toUInt64 63)).toInt64 : Int64).toInt32) &&& 255) fun c3 => 
    if c3 = 0 then f145_151 F (f145_109 F n) y1 y5 σ
    else lt (σ.1 1315 1) fun c4 => 
    if inB c4 122 then lt (uI σ 1316 c4.toNatClampNeg c3) fun σ5 => lt (σ5.1 1315 1) fun c6 => lt (uI σ5 1315 1 (c6 + 1)) fun σ7 => f145_151 F (f145_109 F n) y1 y5 σ7 else none
theorem s145_109 {sc : aSc} (hv : vOk sc) (F : Nat) : ∀ (n : Nat) (y1 : Int64) (y5 : Int32) (σ : St), bEx sc 0 145 109 [some (.ref 1315), some (.long y1), none, none, none, some (.int y5), none] [] σ (f145_109 F n y1 y5 σ) := by
  intro n
  induction n with
  | zero => intro y1 y5 σ; exact b_none
  | succ n ih =>
    intro y1 y5 σ
    rw [f145_109.eq_2]
    refine b_run [(109, .iload 5, 0, 0, .null)] (pc' := 111) (ls' := [some (.ref 1315), some (.long y1), none, none, none, some (.int y5), none]) (st' := [.int y5]) (by decide +kernel) rfl ?_
    refine b_izT (c := .lt) (o := 46) (t := 157) (y := 0) (w := .null) (by decide +kernel) cmp_lt (fun _ => ?_) (fun _ => ?_)
    · refine b_run [(157, .iconst 1, 0, 0, .null)] (pc' := 158) (ls' := [some (.ref 1315), some (.long y1), none, none, none, some (.int y5), none]) (st' := [.int 1]) (by decide +kernel) rfl ?_
      exact b_ret (i := (.ireturn, 0, 0, .null)) (by decide +kernel) rfl rfl (by decide +kernel)
    · refine b_run [(114, .lload_n 1, 0, 0, .null), (115, .iload 5, 0, 0, .null), (117, .lushr, 0, 0, .null), (118, .l2i, 0, 0, .null), (119, .sipush 255, 0, 0, .null), (122, .iand, 0, 0, .null), (123, .istore 6, 0, 0, .null)] (pc' := 125) (ls' := [some (.ref 1315), some (.long y1), none, none, none, some (.int y5), some (.int (((((y1 : Int64).toUInt64 >>> ((y5 : Int32).toInt64.toUInt64 &&& Int64.toUInt64 63)).toInt64 : Int64).toInt32) &&& 255))]) (st' := []) (by decide +kernel) rfl ?_
      refine b_let (((((y1 : Int64).toUInt64 >>> ((y5 : Int32).toInt64.toUInt64 &&& Int64.toUInt64 63)).toInt64 : Int64).toInt32) &&& 255) (L := fun c3 => [some (.ref 1315), some (.long y1), none, none, none, some (.int y5), some (.int c3)]) (S := fun _ => []) (fun c3 => ?_)
      refine b_run [(125, .iload 6, 0, 0, .null)] (pc' := 127) (ls' := [some (.ref 1315), some (.long y1), none, none, none, some (.int y5), some (.int c3)]) (st' := [.int c3]) (by decide +kernel) rfl ?_
      refine b_izT (c := .eq) (o := 24) (t := 151) (y := 0) (w := .null) (by decide +kernel) cmp_eq (fun _ => ?_) (fun _ => ?_)
      · exact b_wk (wS (wS (wN (wN (wN (wS (wN w0))))))) (s145_151 hv F (f145_109 F n) ih y1 y5 σ)
      · refine b_run [(130, .aload_n 0, 0, 0, .null)] (pc' := 131) (ls' := [some (.ref 1315), some (.long y1), none, none, none, some (.int y5), some (.int c3)]) (st' := [.ref 1315]) (by decide +kernel) rfl ?_
        refine b_getC (b := 1316) (q := 7) (ci := 9) (k := 2) (w := .null) (by decide +kernel) (by decide +kernel) ?_
        refine b_run [(134, .aload_n 0, 0, 0, .null)] (pc' := 135) (ls' := [some (.ref 1315), some (.long y1), none, none, none, some (.int y5), some (.int c3)]) (st' := [.ref 1315, .ref 1316]) (by decide +kernel) rfl ?_
        refine b_gI (q := 155) (ci := 9) (k := 1) (w := .null) (by decide +kernel) (by decide +kernel) (fun c4 => ?_)
        refine b_run [(138, .iload 6, 0, 0, .null)] (pc' := 140) (ls' := [some (.ref 1315), some (.long y1), none, none, none, some (.int y5), some (.int c3)]) (st' := [.int c3, .int c4, .ref 1316]) (by decide +kernel) rfl ?_
        refine b_guard (fun hb => ?_)
        refine b_sI (ci := 0) (y := 0) (w := .null) (by decide +kernel) (by decide +kernel) hb (fun σ5 => ?_)
        refine b_run [(141, .aload_n 0, 0, 0, .null), (142, .dup, 0, 0, .null)] (pc' := 143) (ls' := [some (.ref 1315), some (.long y1), none, none, none, some (.int y5), some (.int c3)]) (st' := [.ref 1315, .ref 1315]) (by decide +kernel) rfl ?_
        refine b_gI (q := 155) (ci := 9) (k := 1) (w := .null) (by decide +kernel) (by decide +kernel) (fun c6 => ?_)
        refine b_run [(146, .iconst 1, 0, 0, .null), (147, .iadd, 0, 0, .null)] (pc' := 148) (ls' := [some (.ref 1315), some (.long y1), none, none, none, some (.int y5), some (.int c3)]) (st' := [.int (c6 + 1), .ref 1315]) (by decide +kernel) rfl ?_
        refine b_pI (q := 155) (ci := 9) (k := 1) (w := .null) (by decide +kernel) (by decide +kernel) (fit_I _) (fun σ7 => ?_)
        exact b_wk (wS (wS (wN (wN (wN (wS (wN w0))))))) (s145_151 hv F (f145_109 F n) ih y1 y5 σ7)
def f145_80 (F : Nat) (k14 : Int64 → Int32 → Int32 → Int32 → St → Rs) (y1 : Int64) (y4 : Int32) (y5 : Int32) (z0 : Int32) (σ : St) : Rs := k14 y1 z0 y4 (y5 + Int32.ofInt (-8)) σ
theorem s145_80 {sc : aSc} (hv : vOk sc) (F : Nat) (k14 : Int64 → Int32 → Int32 → Int32 → St → Rs) (hk14 : ∀ y1 y3 y4 y5 σ, bEx sc 0 145 14 [some (.ref 1315), some (.long y1), none, some (.int y3), some (.int y4), some (.int y5), none] [] σ (k14 y1 y3 y4 y5 σ)) (y1 : Int64) (y4 : Int32) (y5 : Int32) (z0 : Int32) (σ : St) : bEx sc 0 145 80 [some (.ref 1315), some (.long y1), none, none, some (.int y4), some (.int y5), none] [.int z0] σ (f145_80 F k14 y1 y4 y5 z0 σ) := by
  unfold f145_80
  refine b_run [(80, .istore_n 3, 0, 0, .null), (81, .iinc 5 (-8), 0, 0, .null), (84, .goto (-70), 14, 0, .null)] (pc' := 14) (ls' := [some (.ref 1315), some (.long y1), none, some (.int z0), some (.int y4), some (.int (y5 + Int32.ofInt (-8))), none]) (st' := []) (by decide +kernel) rfl ?_
  exact b_wk (wS (wS (wN (wS (wS (wS (wN w0))))))) (hk14 y1 z0 y4 (y5 + Int32.ofInt (-8)) σ)
def f145_66 (F : Nat) (k14 : Int64 → Int32 → Int32 → Int32 → St → Rs) (y1 : Int64) (y3 : Int32) (y5 : Int32) (y6 : Int32) (z0 : Int32) (σ : St) : Rs := if y6 = 0 then f145_80 F k14 y1 z0 y5 y3 σ
    else f145_80 F k14 y1 z0 y5 (y3 + 1) σ
theorem s145_66 {sc : aSc} (hv : vOk sc) (F : Nat) (k14 : Int64 → Int32 → Int32 → Int32 → St → Rs) (hk14 : ∀ y1 y3 y4 y5 σ, bEx sc 0 145 14 [some (.ref 1315), some (.long y1), none, some (.int y3), some (.int y4), some (.int y5), none] [] σ (k14 y1 y3 y4 y5 σ)) (y1 : Int64) (y3 : Int32) (y5 : Int32) (y6 : Int32) (z0 : Int32) (σ : St) : bEx sc 0 145 66 [some (.ref 1315), some (.long y1), none, some (.int y3), none, some (.int y5), some (.int y6)] [.int z0] σ (f145_66 F k14 y1 y3 y5 y6 z0 σ) := by
  unfold f145_66
  refine b_run [(66, .istore 4, 0, 0, .null), (68, .iload 6, 0, 0, .null)] (pc' := 70) (ls' := [some (.ref 1315), some (.long y1), none, some (.int y3), some (.int z0), some (.int y5), some (.int y6)]) (st' := [.int y6]) (by decide +kernel) rfl ?_
  refine b_izF (c := .ne) (o := 7) (t := 77) (y := 0) (w := .null) (by decide +kernel) cmp_ne (fun _ => ?_) (fun _ => ?_)
  · refine b_run [(73, .iload_n 3, 0, 0, .null), (74, .goto 6, 80, 0, .null)] (pc' := 80) (ls' := [some (.ref 1315), some (.long y1), none, some (.int y3), some (.int z0), some (.int y5), some (.int y6)]) (st' := [.int y3]) (by decide +kernel) rfl ?_
    exact b_wk (wS (wS (wN (wN (wS (wS (wN w0))))))) (s145_80 hv F k14 hk14 y1 z0 y5 y3 σ)
  · refine b_run [(77, .iload_n 3, 0, 0, .null), (78, .iconst 1, 0, 0, .null), (79, .iadd, 0, 0, .null)] (pc' := 80) (ls' := [some (.ref 1315), some (.long y1), none, some (.int y3), some (.int z0), some (.int y5), some (.int y6)]) (st' := [.int (y3 + 1)]) (by decide +kernel) rfl ?_
    exact b_wk (wS (wS (wN (wN (wS (wS (wN w0))))))) (s145_80 hv F k14 hk14 y1 z0 y5 (y3 + 1) σ)
def f145_65 (F : Nat) (k14 : Int64 → Int32 → Int32 → Int32 → St → Rs) (y1 : Int64) (y3 : Int32) (y5 : Int32) (y6 : Int32) (σ : St) : Rs := f145_66 F k14 y1 y3 y5 y6 0 σ
theorem s145_65 {sc : aSc} (hv : vOk sc) (F : Nat) (k14 : Int64 → Int32 → Int32 → Int32 → St → Rs) (hk14 : ∀ y1 y3 y4 y5 σ, bEx sc 0 145 14 [some (.ref 1315), some (.long y1), none, some (.int y3), some (.int y4), some (.int y5), none] [] σ (k14 y1 y3 y4 y5 σ)) (y1 : Int64) (y3 : Int32) (y5 : Int32) (y6 : Int32) (σ : St) : bEx sc 0 145 65 [some (.ref 1315), some (.long y1), none, some (.int y3), none, some (.int y5), some (.int y6)] [] σ (f145_65 F k14 y1 y3 y5 y6 σ) := by
  unfold f145_65
  refine b_run [(65, .iconst 0, 0, 0, .null)] (pc' := 66) (ls' := [some (.ref 1315), some (.long y1), none, some (.int y3), none, some (.int y5), some (.int y6)]) (st' := [.int 0]) (by decide +kernel) rfl ?_
  exact b_wk (wS (wS (wN (wS (wN (wS (wS w0))))))) (s145_66 hv F k14 hk14 y1 y3 y5 y6 0 σ)
def f145_61 (F : Nat) (k14 : Int64 → Int32 → Int32 → Int32 → St → Rs) (y1 : Int64) (y3 : Int32) (y5 : Int32) (y6 : Int32) (σ : St) : Rs := f145_66 F k14 y1 y3 y5 y6 1 σ
theorem s145_61 {sc : aSc} (hv : vOk sc) (F : Nat) (k14 : Int64 → Int32 → Int32 → Int32 → St → Rs) (hk14 : ∀ y1 y3 y4 y5 σ, bEx sc 0 145 14 [some (.ref 1315), some (.long y1), none, some (.int y3), some (.int y4), some (.int y5), none] [] σ (k14 y1 y3 y4 y5 σ)) (y1 : Int64) (y3 : Int32) (y5 : Int32) (y6 : Int32) (σ : St) : bEx sc 0 145 61 [some (.ref 1315), some (.long y1), none, some (.int y3), none, some (.int y5), some (.int y6)] [] σ (f145_61 F k14 y1 y3 y5 y6 σ) := by
  unfold f145_61
  refine b_run [(61, .iconst 1, 0, 0, .null), (62, .goto 4, 66, 0, .null)] (pc' := 66) (ls' := [some (.ref 1315), some (.long y1), none, some (.int y3), none, some (.int y5), some (.int y6)]) (st' := [.int 1]) (by decide +kernel) rfl ?_
  exact b_wk (wS (wS (wN (wS (wN (wS (wS w0))))))) (s145_66 hv F k14 hk14 y1 y3 y5 y6 1 σ)
def f145_14 (F : Nat) : Nat → Int64 → Int32 → Int32 → Int32 → St → Rs
  | 0, _, _, _, _, _ => none
  | n + 1, y1, y3, y4, y5, σ => if y5 < 0 then 
    if y4 = 0 then oI 0 σ
    else lt (σ.1 1315 1) fun c2 => 
    if 120 < c2 + y3 then oI 0 σ
    else f145_109 F F y1 56 σ
    else lt (((((y1 : Int64).toUInt64 >>> ((y5 : Int32).toInt64.toUInt64 &&& Int64.toUInt64 63)).toInt64 : Int64).toInt32) &&& 255) fun c8 => 
    if y4 = 0 then f145_65 F (f145_14 F n) y1 y3 y5 c8 σ
    else if c8 = 0 then f145_61 F (f145_14 F n) y1 y3 y5 c8 σ
    else if c8 = 10 then f145_61 F (f145_14 F n) y1 y3 y5 c8 σ
    else if c8 < 32 then f145_65 F (f145_14 F n) y1 y3 y5 c8 σ
    else if 126 < c8 then f145_65 F (f145_14 F n) y1 y3 y5 c8 σ
    else f145_61 F (f145_14 F n) y1 y3 y5 c8 σ
theorem s145_14 {sc : aSc} (hv : vOk sc) (F : Nat) : ∀ (n : Nat) (y1 : Int64) (y3 : Int32) (y4 : Int32) (y5 : Int32) (σ : St), bEx sc 0 145 14 [some (.ref 1315), some (.long y1), none, some (.int y3), some (.int y4), some (.int y5), none] [] σ (f145_14 F n y1 y3 y4 y5 σ) := by
  intro n
  induction n with
  | zero => intro y1 y3 y4 y5 σ; exact b_none
  | succ n ih =>
    intro y1 y3 y4 y5 σ
    rw [f145_14.eq_2]
    refine b_run [(14, .iload 5, 0, 0, .null)] (pc' := 16) (ls' := [some (.ref 1315), some (.long y1), none, some (.int y3), some (.int y4), some (.int y5), none]) (st' := [.int y5]) (by decide +kernel) rfl ?_
    refine b_izT (c := .lt) (o := 71) (t := 87) (y := 0) (w := .null) (by decide +kernel) cmp_lt (fun _ => ?_) (fun _ => ?_)
    · refine b_run [(87, .iload 4, 0, 0, .null)] (pc' := 89) (ls' := [some (.ref 1315), some (.long y1), none, some (.int y3), some (.int y4), some (.int y5), none]) (st' := [.int y4]) (by decide +kernel) rfl ?_
      refine b_izT (c := .eq) (o := 14) (t := 103) (y := 0) (w := .null) (by decide +kernel) cmp_eq (fun _ => ?_) (fun _ => ?_)
      · refine b_run [(103, .iconst 0, 0, 0, .null)] (pc' := 104) (ls' := [some (.ref 1315), some (.long y1), none, some (.int y3), some (.int y4), some (.int y5), none]) (st' := [.int 0]) (by decide +kernel) rfl ?_
        exact b_ret (i := (.ireturn, 0, 0, .null)) (by decide +kernel) rfl rfl (by decide +kernel)
      · refine b_run [(92, .aload_n 0, 0, 0, .null)] (pc' := 93) (ls' := [some (.ref 1315), some (.long y1), none, some (.int y3), some (.int y4), some (.int y5), none]) (st' := [.ref 1315]) (by decide +kernel) rfl ?_
        refine b_gI (q := 155) (ci := 9) (k := 1) (w := .null) (by decide +kernel) (by decide +kernel) (fun c2 => ?_)
        refine b_run [(96, .iload_n 3, 0, 0, .null), (97, .iadd, 0, 0, .null), (98, .bipush 120, 0, 0, .null)] (pc' := 100) (ls' := [some (.ref 1315), some (.long y1), none, some (.int y3), some (.int y4), some (.int y5), none]) (st' := [.int 120, .int (c2 + y3)]) (by decide +kernel) rfl ?_
        refine b_icF (c := .le) (o := 5) (t := 105) (y := 0) (w := .null) (by decide +kernel) cmp_le (fun _ => ?_) (fun _ => ?_)
        · refine b_run [(103, .iconst 0, 0, 0, .null)] (pc' := 104) (ls' := [some (.ref 1315), some (.long y1), none, some (.int y3), some (.int y4), some (.int y5), none]) (st' := [.int 0]) (by decide +kernel) rfl ?_
          exact b_ret (i := (.ireturn, 0, 0, .null)) (by decide +kernel) rfl rfl (by decide +kernel)
        · refine b_run [(105, .bipush 56, 0, 0, .null), (107, .istore 5, 0, 0, .null)] (pc' := 109) (ls' := [some (.ref 1315), some (.long y1), none, some (.int y3), some (.int y4), some (.int 56), none]) (st' := []) (by decide +kernel) rfl ?_
          exact b_wk (wS (wS (wN (wN (wN (wS (wN w0))))))) (s145_109 hv F F y1 56 σ)
    · refine b_run [(19, .lload_n 1, 0, 0, .null), (20, .iload 5, 0, 0, .null), (22, .lushr, 0, 0, .null), (23, .l2i, 0, 0, .null), (24, .sipush 255, 0, 0, .null), (27, .iand, 0, 0, .null), (28, .istore 6, 0, 0, .null)] (pc' := 30) (ls' := [some (.ref 1315), some (.long y1), none, some (.int y3), some (.int y4), some (.int y5), some (.int (((((y1 : Int64).toUInt64 >>> ((y5 : Int32).toInt64.toUInt64 &&& Int64.toUInt64 63)).toInt64 : Int64).toInt32) &&& 255))]) (st' := []) (by decide +kernel) rfl ?_
      refine b_let (((((y1 : Int64).toUInt64 >>> ((y5 : Int32).toInt64.toUInt64 &&& Int64.toUInt64 63)).toInt64 : Int64).toInt32) &&& 255) (L := fun c8 => [some (.ref 1315), some (.long y1), none, some (.int y3), some (.int y4), some (.int y5), some (.int c8)]) (S := fun _ => []) (fun c8 => ?_)
      refine b_run [(30, .iload 4, 0, 0, .null)] (pc' := 32) (ls' := [some (.ref 1315), some (.long y1), none, some (.int y3), some (.int y4), some (.int y5), some (.int c8)]) (st' := [.int y4]) (by decide +kernel) rfl ?_
      refine b_izT (c := .eq) (o := 33) (t := 65) (y := 0) (w := .null) (by decide +kernel) cmp_eq (fun _ => ?_) (fun _ => ?_)
      · exact b_wk (wS (wS (wN (wS (wN (wS (wS w0))))))) (s145_65 hv F (f145_14 F n) ih y1 y3 y5 c8 σ)
      · refine b_run [(35, .iload 6, 0, 0, .null)] (pc' := 37) (ls' := [some (.ref 1315), some (.long y1), none, some (.int y3), some (.int y4), some (.int y5), some (.int c8)]) (st' := [.int c8]) (by decide +kernel) rfl ?_
        refine b_izT (c := .eq) (o := 24) (t := 61) (y := 0) (w := .null) (by decide +kernel) cmp_eq (fun _ => ?_) (fun _ => ?_)
        · exact b_wk (wS (wS (wN (wS (wN (wS (wS w0))))))) (s145_61 hv F (f145_14 F n) ih y1 y3 y5 c8 σ)
        · refine b_run [(40, .iload 6, 0, 0, .null), (42, .bipush 10, 0, 0, .null)] (pc' := 44) (ls' := [some (.ref 1315), some (.long y1), none, some (.int y3), some (.int y4), some (.int y5), some (.int c8)]) (st' := [.int 10, .int c8]) (by decide +kernel) rfl ?_
          refine b_icT (c := .eq) (o := 17) (t := 61) (y := 0) (w := .null) (by decide +kernel) cmp_eq (fun _ => ?_) (fun _ => ?_)
          · exact b_wk (wS (wS (wN (wS (wN (wS (wS w0))))))) (s145_61 hv F (f145_14 F n) ih y1 y3 y5 c8 σ)
          · refine b_run [(47, .iload 6, 0, 0, .null), (49, .bipush 32, 0, 0, .null)] (pc' := 51) (ls' := [some (.ref 1315), some (.long y1), none, some (.int y3), some (.int y4), some (.int y5), some (.int c8)]) (st' := [.int 32, .int c8]) (by decide +kernel) rfl ?_
            refine b_icT (c := .lt) (o := 14) (t := 65) (y := 0) (w := .null) (by decide +kernel) cmp_lt (fun _ => ?_) (fun _ => ?_)
            · exact b_wk (wS (wS (wN (wS (wN (wS (wS w0))))))) (s145_65 hv F (f145_14 F n) ih y1 y3 y5 c8 σ)
            · refine b_run [(54, .iload 6, 0, 0, .null), (56, .bipush 126, 0, 0, .null)] (pc' := 58) (ls' := [some (.ref 1315), some (.long y1), none, some (.int y3), some (.int y4), some (.int y5), some (.int c8)]) (st' := [.int 126, .int c8]) (by decide +kernel) rfl ?_
              refine b_icT (c := .gt) (o := 7) (t := 65) (y := 0) (w := .null) (by decide +kernel) cmp_gt (fun _ => ?_) (fun _ => ?_)
              · exact b_wk (wS (wS (wN (wS (wN (wS (wS w0))))))) (s145_65 hv F (f145_14 F n) ih y1 y3 y5 c8 σ)
              · exact b_wk (wS (wS (wN (wS (wN (wS (wS w0))))))) (s145_61 hv F (f145_14 F n) ih y1 y3 y5 c8 σ)
/-- TreeStoreModel.type(J)Z -/
def f145 (F : Nat) (x1 : Int64) (σ : St) : Rs := lt (uI σ 1315 0 0) fun σ1 => f145_14 F F x1 0 1 56 σ1
theorem s145 {sc : aSc} (hv : vOk sc) (F : Nat) (x1 : Int64) (σ : St) : bEx sc 0 145 0 [some (.ref 1315), some (.long x1), none, none, none, none, none] [] σ (f145 F x1 σ) := by
  unfold f145
  refine b_run [(0, .aload_n 0, 0, 0, .null), (1, .iconst 0, 0, 0, .null)] (pc' := 2) (ls' := [some (.ref 1315), some (.long x1), none, none, none, none, none]) (st' := [.int 0, .ref 1315]) (by decide +kernel) rfl ?_
  refine b_pI (q := 152) (ci := 9) (k := 0) (w := .null) (by decide +kernel) (by decide +kernel) (fit_I _) (fun σ1 => ?_)
  refine b_run [(5, .iconst 0, 0, 0, .null), (6, .istore_n 3, 0, 0, .null), (7, .iconst 1, 0, 0, .null), (8, .istore 4, 0, 0, .null), (10, .bipush 56, 0, 0, .null), (12, .istore 5, 0, 0, .null)] (pc' := 14) (ls' := [some (.ref 1315), some (.long x1), none, some (.int 0), some (.int 1), some (.int 56), none]) (st' := []) (by decide +kernel) rfl ?_
  exact b_wk (wS (wS (wN (wS (wS (wS (wN w0))))))) (s145_14 hv F F x1 0 1 56 σ1)
def f79_17 (F : Nat) : Nat → Int32 → St → Rs
  | 0, _, _ => none
  | n + 1, y2, σ => lt (σ.1 1003 10) fun c4 => 
    if y2 < c4 then 
    lt (σ.1 1314 2) fun c5 => 
    lt (σ.1 1314 1) fun c6 => 
    if c6 < c5 then lt (σ.1 1314 3) fun c7 => oI c7 σ
    else none
    else lt (σ.1 1314 3) fun c8 => oI c8 σ
theorem s79_17 {sc : aSc} (hv : vOk sc) (F : Nat) : ∀ (n : Nat) (y2 : Int32) (σ : St), bEx sc 1 79 17 [some (.ref 1314), none, some (.int y2)] [] σ (f79_17 F n y2 σ) := by
  intro n
  induction n with
  | zero => intro y2 σ; exact b_none
  | succ n ih =>
    intro y2 σ
    rw [f79_17.eq_2]
    refine b_run [(17, .iload_n 2, 0, 0, .null), (18, .aload_n 0, 0, 0, .null)] (pc' := 19) (ls' := [some (.ref 1314), none, some (.int y2)]) (st' := [.ref 1314, .int y2]) (by decide +kernel) rfl ?_
    refine b_getC (b := 1003) (q := 9) (ci := 4) (k := 0) (w := .null) (by decide +kernel) (by decide +kernel) ?_
    refine b_gI (q := 25) (ci := 8) (k := 10) (w := .null) (by decide +kernel) (by decide +kernel) (fun c4 => ?_)
    refine b_icF (c := .ge) (o := 30) (t := 55) (y := 0) (w := .null) (by decide +kernel) cmp_ge (fun _ => ?_) (fun _ => ?_)
    · refine b_run [(28, .aload_n 0, 0, 0, .null)] (pc' := 29) (ls' := [some (.ref 1314), none, some (.int y2)]) (st' := [.ref 1314]) (by decide +kernel) rfl ?_
      refine b_gI (q := 19) (ci := 4) (k := 2) (w := .null) (by decide +kernel) (by decide +kernel) (fun c5 => ?_)
      refine b_run [(32, .aload_n 0, 0, 0, .null)] (pc' := 33) (ls' := [some (.ref 1314), none, some (.int y2)]) (st' := [.ref 1314, .int c5]) (by decide +kernel) rfl ?_
      refine b_gI (q := 15) (ci := 4) (k := 1) (w := .null) (by decide +kernel) (by decide +kernel) (fun c6 => ?_)
      refine b_icT (c := .gt) (o := 19) (t := 55) (y := 0) (w := .null) (by decide +kernel) cmp_gt (fun _ => ?_) (fun _ => ?_)
      · refine b_run [(55, .aload_n 0, 0, 0, .null)] (pc' := 56) (ls' := [some (.ref 1314), none, some (.int y2)]) (st' := [.ref 1314]) (by decide +kernel) rfl ?_
        refine b_gI (q := 22) (ci := 4) (k := 3) (w := .null) (by decide +kernel) (by decide +kernel) (fun c7 => ?_)
        exact b_ret (i := (.ireturn, 0, 0, .null)) (by decide +kernel) rfl rfl (fit_I _)
      · refine b_run [(39, .aload_n 0, 0, 0, .null), (40, .iload_n 2, 0, 0, .null)] (pc' := 41) (ls' := [some (.ref 1314), none, some (.int y2)]) (st' := [.int y2, .ref 1314]) (by decide +kernel) rfl ?_
        exact b_none
    · refine b_run [(55, .aload_n 0, 0, 0, .null)] (pc' := 56) (ls' := [some (.ref 1314), none, some (.int y2)]) (st' := [.ref 1314]) (by decide +kernel) rfl ?_
      refine b_gI (q := 22) (ci := 4) (k := 3) (w := .null) (by decide +kernel) (by decide +kernel) (fun c8 => ?_)
      exact b_ret (i := (.ireturn, 0, 0, .null)) (by decide +kernel) rfl rfl (fit_I _)
/-- TreeStore$Printer.printed(I)I -/
def f79 (F : Nat) (x1 : Int32) (σ : St) : Rs := lt (uI σ 1314 1 x1) fun σ1 => lt (uI σ1 1314 2 0) fun σ2 => lt (uI σ2 1314 3 0) fun σ3 => f79_17 F F 1 σ3
theorem s79 {sc : aSc} (hv : vOk sc) (F : Nat) (x1 : Int32) (σ : St) : bEx sc 1 79 0 [some (.ref 1314), some (.int x1), none] [] σ (f79 F x1 σ) := by
  unfold f79
  refine b_run [(0, .aload_n 0, 0, 0, .null), (1, .iload_n 1, 0, 0, .null)] (pc' := 2) (ls' := [some (.ref 1314), some (.int x1), none]) (st' := [.int x1, .ref 1314]) (by decide +kernel) rfl ?_
  refine b_pI (q := 15) (ci := 4) (k := 1) (w := .null) (by decide +kernel) (by decide +kernel) (fit_I _) (fun σ1 => ?_)
  refine b_run [(5, .aload_n 0, 0, 0, .null), (6, .iconst 0, 0, 0, .null)] (pc' := 7) (ls' := [some (.ref 1314), some (.int x1), none]) (st' := [.int 0, .ref 1314]) (by decide +kernel) rfl ?_
  refine b_pI (q := 19) (ci := 4) (k := 2) (w := .null) (by decide +kernel) (by decide +kernel) (fit_I _) (fun σ2 => ?_)
  refine b_run [(10, .aload_n 0, 0, 0, .null), (11, .iconst 0, 0, 0, .null)] (pc' := 12) (ls' := [some (.ref 1314), some (.int x1), none]) (st' := [.int 0, .ref 1314]) (by decide +kernel) rfl ?_
  refine b_pI (q := 22) (ci := 4) (k := 3) (w := .null) (by decide +kernel) (by decide +kernel) (fit_I _) (fun σ3 => ?_)
  refine b_run [(15, .iconst 1, 0, 0, .null), (16, .istore_n 2, 0, 0, .null)] (pc' := 17) (ls' := [some (.ref 1314), some (.int x1), some (.int 1)]) (st' := []) (by decide +kernel) rfl ?_
  exact b_wk (wS (wN (wS w0))) (s79_17 hv F F 1 σ3)
/-- TreeStore.print(I)I -/
def f20 (F : Nat) (x1 : Int32) (σ : St) : Rs := cI (f79 F x1 σ) fun c2 σ1 => oI c2 σ1
theorem s20 {sc : aSc} (hv : vOk sc) (F : Nat) (x1 : Int32) (σ : St) : bEx sc 2 20 0 [some (.ref 1000), some (.int x1)] [] σ (f20 F x1 σ) := by
  unfold f20
  refine b_run [(0, .aload_n 0, 0, 0, .null)] (pc' := 1) (ls' := [some (.ref 1000), some (.int x1)]) (st' := [.ref 1000]) (by decide +kernel) rfl ?_
  refine b_getC (b := 1314) (q := 58) (ci := 0) (k := 6) (w := .null) (by decide +kernel) (by decide +kernel) ?_
  refine b_run [(4, .iload_n 1, 0, 0, .null)] (pc' := 5) (ls' := [some (.ref 1000), some (.int x1)]) (st' := [.int x1, .ref 1314]) (by decide +kernel) rfl ?_
  refine b_callI 79 2 [.ref 1314, .int x1] (rest := []) (by decide +kernel) rfl rfl rfl (go_O rfl (by decide +kernel) (by decide +kernel : isO 1314 4 = true)) rfl (s79 hv F x1 σ) (by decide) (fun c2 σ1 => ?_)
  exact b_ret (i := (.ireturn, 0, 0, .null)) (by decide +kernel) rfl rfl (fit_I _)
def f197_146 (F : Nat) (k24 : Int32 → Int32 → St → Rs) (y2 : Int32) (y3 : Int32) (σ : St) : Rs := k24 y2 (y3 + 1) σ
theorem s197_146 {sc : aSc} (hv : vOk sc) (F : Nat) (k24 : Int32 → Int32 → St → Rs) (hk24 : ∀ y2 y3 σ, bEx sc 1 197 24 [some (.ref 1315), none, some (.int y2), some (.int y3)] [] σ (k24 y2 y3 σ)) (y2 : Int32) (y3 : Int32) (σ : St) : bEx sc 1 197 146 [some (.ref 1315), none, some (.int y2), some (.int y3)] [] σ (f197_146 F k24 y2 y3 σ) := by
  unfold f197_146
  refine b_run [(146, .iinc 3 1, 0, 0, .null), (149, .goto (-125), 24, 0, .null)] (pc' := 24) (ls' := [some (.ref 1315), none, some (.int y2), some (.int (y3 + 1))]) (st' := []) (by decide +kernel) rfl ?_
  exact b_wk (wS (wN (wS (wS w0)))) (hk24 y2 (y3 + 1) σ)
def f197_77 (F : Nat) (k24 : Int32 → Int32 → St → Rs) (y2 : Int32) (y3 : Int32) (σ : St) : Rs := if inB y3 31 then lt (σ.1 1317 y3.toNatClampNeg) fun c8 => 
    if c8 = 1 then none
    else if inB y3 31 then lt (σ.1 1317 y3.toNatClampNeg) fun c9 => 
    if c9 = 3 then none
    else if inB y3 31 then lt (σ.1 1317 y3.toNatClampNeg) fun c10 => 
    if c10 = 4 then none
    else f197_146 F k24 y2 y3 σ else none else none else none
theorem s197_77 {sc : aSc} (hv : vOk sc) (F : Nat) (k24 : Int32 → Int32 → St → Rs) (hk24 : ∀ y2 y3 σ, bEx sc 1 197 24 [some (.ref 1315), none, some (.int y2), some (.int y3)] [] σ (k24 y2 y3 σ)) (y2 : Int32) (y3 : Int32) (σ : St) : bEx sc 1 197 77 [some (.ref 1315), none, some (.int y2), some (.int y3)] [] σ (f197_77 F k24 y2 y3 σ) := by
  unfold f197_77
  refine b_run [(77, .aload_n 0, 0, 0, .null)] (pc' := 78) (ls' := [some (.ref 1315), none, some (.int y2), some (.int y3)]) (st' := [.ref 1315]) (by decide +kernel) rfl ?_
  refine b_getC (b := 1317) (q := 13) (ci := 9) (k := 4) (w := .null) (by decide +kernel) (by decide +kernel) ?_
  refine b_run [(81, .iload_n 3, 0, 0, .null)] (pc' := 82) (ls' := [some (.ref 1315), none, some (.int y2), some (.int y3)]) (st' := [.int y3, .ref 1317]) (by decide +kernel) rfl ?_
  refine b_guard (fun hb => ?_)
  refine b_aI (ci := 0) (y := 0) (w := .null) (by decide +kernel) (by decide +kernel) hb (fun c8 => ?_)
  refine b_run [(83, .iconst 1, 0, 0, .null)] (pc' := 84) (ls' := [some (.ref 1315), none, some (.int y2), some (.int y3)]) (st' := [.int 1, .int c8]) (by decide +kernel) rfl ?_
  refine b_icF (c := .ne) (o := 29) (t := 113) (y := 0) (w := .null) (by decide +kernel) cmp_ne (fun _ => ?_) (fun _ => ?_)
  · refine b_run [(87, .aload_n 0, 0, 0, .null), (88, .iload_n 3, 0, 0, .null)] (pc' := 89) (ls' := [some (.ref 1315), none, some (.int y2), some (.int y3)]) (st' := [.int y3, .ref 1315]) (by decide +kernel) rfl ?_
    exact b_none
  · refine b_run [(113, .aload_n 0, 0, 0, .null)] (pc' := 114) (ls' := [some (.ref 1315), none, some (.int y2), some (.int y3)]) (st' := [.ref 1315]) (by decide +kernel) rfl ?_
    refine b_getC (b := 1317) (q := 13) (ci := 9) (k := 4) (w := .null) (by decide +kernel) (by decide +kernel) ?_
    refine b_run [(117, .iload_n 3, 0, 0, .null)] (pc' := 118) (ls' := [some (.ref 1315), none, some (.int y2), some (.int y3)]) (st' := [.int y3, .ref 1317]) (by decide +kernel) rfl ?_
    refine b_guard (fun hb => ?_)
    refine b_aI (ci := 0) (y := 0) (w := .null) (by decide +kernel) (by decide +kernel) hb (fun c9 => ?_)
    refine b_run [(119, .iconst 3, 0, 0, .null)] (pc' := 120) (ls' := [some (.ref 1315), none, some (.int y2), some (.int y3)]) (st' := [.int 3, .int c9]) (by decide +kernel) rfl ?_
    refine b_icF (c := .ne) (o := 11) (t := 131) (y := 0) (w := .null) (by decide +kernel) cmp_ne (fun _ => ?_) (fun _ => ?_)
    · refine b_run [(123, .aload_n 0, 0, 0, .null), (124, .iload_n 3, 0, 0, .null)] (pc' := 125) (ls' := [some (.ref 1315), none, some (.int y2), some (.int y3)]) (st' := [.int y3, .ref 1315]) (by decide +kernel) rfl ?_
      exact b_none
    · refine b_run [(131, .aload_n 0, 0, 0, .null)] (pc' := 132) (ls' := [some (.ref 1315), none, some (.int y2), some (.int y3)]) (st' := [.ref 1315]) (by decide +kernel) rfl ?_
      refine b_getC (b := 1317) (q := 13) (ci := 9) (k := 4) (w := .null) (by decide +kernel) (by decide +kernel) ?_
      refine b_run [(135, .iload_n 3, 0, 0, .null)] (pc' := 136) (ls' := [some (.ref 1315), none, some (.int y2), some (.int y3)]) (st' := [.int y3, .ref 1317]) (by decide +kernel) rfl ?_
      refine b_guard (fun hb => ?_)
      refine b_aI (ci := 0) (y := 0) (w := .null) (by decide +kernel) (by decide +kernel) hb (fun c10 => ?_)
      refine b_run [(137, .iconst 4, 0, 0, .null)] (pc' := 138) (ls' := [some (.ref 1315), none, some (.int y2), some (.int y3)]) (st' := [.int 4, .int c10]) (by decide +kernel) rfl ?_
      refine b_icF (c := .ne) (o := 8) (t := 146) (y := 0) (w := .null) (by decide +kernel) cmp_ne (fun _ => ?_) (fun _ => ?_)
      · refine b_run [(141, .aload_n 0, 0, 0, .null), (142, .iload_n 3, 0, 0, .null)] (pc' := 143) (ls' := [some (.ref 1315), none, some (.int y2), some (.int y3)]) (st' := [.int y3, .ref 1315]) (by decide +kernel) rfl ?_
        exact b_none
      · exact b_wk (wS (wN (wS (wS w0)))) (s197_146 hv F k24 hk24 y2 y3 σ)
def f197_32 (F : Nat) (k24 : Int32 → Int32 → St → Rs) : Nat → Int32 → Int32 → St → Rs
  | 0, _, _, _ => none
  | n + 1, y2, y3, σ => if 0 < y2 then 
    if inB (y2 - 1) 9 then lt (σ.1 1340 (y2 - 1).toNatClampNeg) fun c6 => if inB (y2 - 1) 9 then lt (σ.1 1340 (y2 - 1).toNatClampNeg) fun c7 => none else none else none
    else f197_77 F k24 y2 y3 σ
theorem s197_32 {sc : aSc} (hv : vOk sc) (F : Nat) (k24 : Int32 → Int32 → St → Rs) (hk24 : ∀ y2 y3 σ, bEx sc 1 197 24 [some (.ref 1315), none, some (.int y2), some (.int y3)] [] σ (k24 y2 y3 σ)) : ∀ (n : Nat) (y2 : Int32) (y3 : Int32) (σ : St), bEx sc 1 197 32 [some (.ref 1315), none, some (.int y2), some (.int y3)] [] σ (f197_32 F k24 n y2 y3 σ) := by
  intro n
  induction n with
  | zero => intro y2 y3 σ; exact b_none
  | succ n ih =>
    intro y2 y3 σ
    rw [f197_32.eq_2]
    refine b_run [(32, .iload_n 2, 0, 0, .null)] (pc' := 33) (ls' := [some (.ref 1315), none, some (.int y2), some (.int y3)]) (st' := [.int y2]) (by decide +kernel) rfl ?_
    refine b_izF (c := .le) (o := 44) (t := 77) (y := 0) (w := .null) (by decide +kernel) cmp_le (fun _ => ?_) (fun _ => ?_)
    · refine b_run [(36, .iload_n 3, 0, 0, .null), (37, .aload_n 0, 0, 0, .null)] (pc' := 38) (ls' := [some (.ref 1315), none, some (.int y2), some (.int y3)]) (st' := [.ref 1315, .int y3]) (by decide +kernel) rfl ?_
      refine b_getC (b := 1340) (q := 83) (ci := 9) (k := 31) (w := .null) (by decide +kernel) (by decide +kernel) ?_
      refine b_run [(41, .iload_n 2, 0, 0, .null), (42, .iconst 1, 0, 0, .null), (43, .isub, 0, 0, .null)] (pc' := 44) (ls' := [some (.ref 1315), none, some (.int y2), some (.int y3)]) (st' := [.int (y2 - 1), .ref 1340, .int y3]) (by decide +kernel) rfl ?_
      refine b_guard (fun hb => ?_)
      refine b_aI (ci := 0) (y := 0) (w := .null) (by decide +kernel) (by decide +kernel) hb (fun c6 => ?_)
      refine b_run [(45, .aload_n 0, 0, 0, .null), (46, .aload_n 0, 0, 0, .null)] (pc' := 47) (ls' := [some (.ref 1315), none, some (.int y2), some (.int y3)]) (st' := [.ref 1315, .ref 1315, .int c6, .int y3]) (by decide +kernel) rfl ?_
      refine b_getC (b := 1340) (q := 83) (ci := 9) (k := 31) (w := .null) (by decide +kernel) (by decide +kernel) ?_
      refine b_run [(50, .iload_n 2, 0, 0, .null), (51, .iconst 1, 0, 0, .null), (52, .isub, 0, 0, .null)] (pc' := 53) (ls' := [some (.ref 1315), none, some (.int y2), some (.int y3)]) (st' := [.int (y2 - 1), .ref 1340, .ref 1315, .int c6, .int y3]) (by decide +kernel) rfl ?_
      refine b_guard (fun hb => ?_)
      refine b_aI (ci := 0) (y := 0) (w := .null) (by decide +kernel) (by decide +kernel) hb (fun c7 => ?_)
      exact b_none
    · exact b_wk (wS (wN (wS (wS w0)))) (s197_77 hv F k24 hk24 y2 y3 σ)
def f197_152 (F : Nat) : Nat → Int32 → St → Rs
  | 0, _, _ => none
  | n + 1, y2, σ => if 0 < y2 then if inB (y2 + Int32.ofInt (-1)) 9 then lt (σ.1 1340 (y2 + Int32.ofInt (-1)).toNatClampNeg) fun c11 => none else none
    else lt (σ.1 1315 64) fun c12 => oI c12 σ
theorem s197_152 {sc : aSc} (hv : vOk sc) (F : Nat) : ∀ (n : Nat) (y2 : Int32) (σ : St), bEx sc 1 197 152 [some (.ref 1315), none, some (.int y2), none] [] σ (f197_152 F n y2 σ) := by
  intro n
  induction n with
  | zero => intro y2 σ; exact b_none
  | succ n ih =>
    intro y2 σ
    rw [f197_152.eq_2]
    refine b_run [(152, .iload_n 2, 0, 0, .null)] (pc' := 153) (ls' := [some (.ref 1315), none, some (.int y2), none]) (st' := [.int y2]) (by decide +kernel) rfl ?_
    refine b_izF (c := .le) (o := 19) (t := 172) (y := 0) (w := .null) (by decide +kernel) cmp_le (fun _ => ?_) (fun _ => ?_)
    · refine b_run [(156, .iinc 2 (-1), 0, 0, .null), (159, .aload_n 0, 0, 0, .null), (160, .aload_n 0, 0, 0, .null)] (pc' := 161) (ls' := [some (.ref 1315), none, some (.int (y2 + Int32.ofInt (-1))), none]) (st' := [.ref 1315, .ref 1315]) (by decide +kernel) rfl ?_
      refine b_getC (b := 1340) (q := 83) (ci := 9) (k := 31) (w := .null) (by decide +kernel) (by decide +kernel) ?_
      refine b_run [(164, .iload_n 2, 0, 0, .null)] (pc' := 165) (ls' := [some (.ref 1315), none, some (.int (y2 + Int32.ofInt (-1))), none]) (st' := [.int (y2 + Int32.ofInt (-1)), .ref 1340, .ref 1315]) (by decide +kernel) rfl ?_
      refine b_guard (fun hb => ?_)
      refine b_aI (ci := 0) (y := 0) (w := .null) (by decide +kernel) (by decide +kernel) hb (fun c11 => ?_)
      exact b_none
    · refine b_run [(172, .aload_n 0, 0, 0, .null)] (pc' := 173) (ls' := [some (.ref 1315), none, some (.int y2), none]) (st' := [.ref 1315]) (by decide +kernel) rfl ?_
      refine b_gI (q := 318) (ci := 9) (k := 64) (w := .null) (by decide +kernel) (by decide +kernel) (fun c12 => ?_)
      exact b_ret (i := (.ireturn, 0, 0, .null)) (by decide +kernel) rfl rfl (fit_I _)
def f197_24 (F : Nat) : Nat → Int32 → Int32 → St → Rs
  | 0, _, _, _ => none
  | n + 1, y2, y3, σ => lt (σ.1 1315 3) fun c5 => 
    if y3 < c5 then f197_32 F (f197_24 F n) F y2 y3 σ
    else f197_152 F F y2 σ
theorem s197_24 {sc : aSc} (hv : vOk sc) (F : Nat) : ∀ (n : Nat) (y2 : Int32) (y3 : Int32) (σ : St), bEx sc 1 197 24 [some (.ref 1315), none, some (.int y2), some (.int y3)] [] σ (f197_24 F n y2 y3 σ) := by
  intro n
  induction n with
  | zero => intro y2 y3 σ; exact b_none
  | succ n ih =>
    intro y2 y3 σ
    rw [f197_24.eq_2]
    refine b_run [(24, .iload_n 3, 0, 0, .null), (25, .aload_n 0, 0, 0, .null)] (pc' := 26) (ls' := [some (.ref 1315), none, some (.int y2), some (.int y3)]) (st' := [.ref 1315, .int y3]) (by decide +kernel) rfl ?_
    refine b_gI (q := 148) (ci := 9) (k := 3) (w := .null) (by decide +kernel) (by decide +kernel) (fun c5 => ?_)
    refine b_icF (c := .ge) (o := 123) (t := 152) (y := 0) (w := .null) (by decide +kernel) cmp_ge (fun _ => ?_) (fun _ => ?_)
    · exact b_wk (wS (wN (wS (wS w0)))) (s197_32 hv F (f197_24 F n) ih F y2 y3 σ)
    · exact b_wk (wS (wN (wS (wN w0)))) (s197_152 hv F F y2 σ)
/-- TreeStoreModel.print(I)I -/
def f197 (F : Nat) (x1 : Int32) (σ : St) : Rs := lt (uI σ 1315 0 0) fun σ1 => lt (uI σ1 1315 62 x1) fun σ2 => lt (uI σ2 1315 63 0) fun σ3 => lt (uI σ3 1315 64 0) fun σ4 => f197_24 F F 0 1 σ4
theorem s197 {sc : aSc} (hv : vOk sc) (F : Nat) (x1 : Int32) (σ : St) : bEx sc 1 197 0 [some (.ref 1315), some (.int x1), none, none] [] σ (f197 F x1 σ) := by
  unfold f197
  refine b_run [(0, .aload_n 0, 0, 0, .null), (1, .iconst 0, 0, 0, .null)] (pc' := 2) (ls' := [some (.ref 1315), some (.int x1), none, none]) (st' := [.int 0, .ref 1315]) (by decide +kernel) rfl ?_
  refine b_pI (q := 152) (ci := 9) (k := 0) (w := .null) (by decide +kernel) (by decide +kernel) (fit_I _) (fun σ1 => ?_)
  refine b_run [(5, .aload_n 0, 0, 0, .null), (6, .iload_n 1, 0, 0, .null)] (pc' := 7) (ls' := [some (.ref 1315), some (.int x1), none, none]) (st' := [.int x1, .ref 1315]) (by decide +kernel) rfl ?_
  refine b_pI (q := 315) (ci := 9) (k := 62) (w := .null) (by decide +kernel) (by decide +kernel) (fit_I _) (fun σ2 => ?_)
  refine b_run [(10, .aload_n 0, 0, 0, .null), (11, .iconst 0, 0, 0, .null)] (pc' := 12) (ls' := [some (.ref 1315), some (.int x1), none, none]) (st' := [.int 0, .ref 1315]) (by decide +kernel) rfl ?_
  refine b_pI (q := 312) (ci := 9) (k := 63) (w := .null) (by decide +kernel) (by decide +kernel) (fit_I _) (fun σ3 => ?_)
  refine b_run [(15, .aload_n 0, 0, 0, .null), (16, .iconst 0, 0, 0, .null)] (pc' := 17) (ls' := [some (.ref 1315), some (.int x1), none, none]) (st' := [.int 0, .ref 1315]) (by decide +kernel) rfl ?_
  refine b_pI (q := 318) (ci := 9) (k := 64) (w := .null) (by decide +kernel) (by decide +kernel) (fit_I _) (fun σ4 => ?_)
  refine b_run [(20, .iconst 0, 0, 0, .null), (21, .istore_n 2, 0, 0, .null), (22, .iconst 1, 0, 0, .null), (23, .istore_n 3, 0, 0, .null)] (pc' := 24) (ls' := [some (.ref 1315), some (.int x1), some (.int 0), some (.int 1)]) (st' := []) (by decide +kernel) rfl ?_
  exact b_wk (wS (wN (wS (wS w0)))) (s197_24 hv F F 0 1 σ4)
def f2_703 (F : Nat) (sc : aSc) (k23 : Int32 → St → Rs) (y4 : Int32) (σ : St) : Rs := k23 (y4 + 3) σ
theorem s2_703 (F : Nat) (sc : aSc) (hv : vOk sc) (hL : ¬ sc.1 = 99999) (k23 : Int32 → St → Rs) (hk23 : ∀ y4 σ, bEx sc 3 2 23 [some (.ref 0), some (.ref 1000), some (.ref 1315), some (.ref 1361), some (.int y4), none, none] [] σ (k23 y4 σ)) (y4 : Int32) (σ : St) : bEx sc 3 2 703 [some (.ref 0), some (.ref 1000), some (.ref 1315), some (.ref 1361), some (.int y4), none, none] [] σ (f2_703 F sc k23 y4 σ) := by
  unfold f2_703
  refine b_run [(703, .iinc 4 3, 0, 0, .null), (706, .goto (-683), 23, 0, .null)] (pc' := 23) (ls' := [some (.ref 0), some (.ref 1000), some (.ref 1315), some (.ref 1361), some (.int (y4 + 3)), none, none]) (st' := []) (by decide +kernel) rfl ?_
  exact b_wk (wS (wS (wS (wS (wS (wN (wN w0))))))) (hk23 (y4 + 3) σ)
def f2_23 (F : Nat) (sc : aSc) : Nat → Int32 → St → Rs
  | 0, _, _ => none
  | n + 1, y4, σ => if (Int32.ofNat sc.1) - 3 < y4 then oI 1 σ
    else if inB y4 sc.1 then lt (sc.2.1 y4.toNatClampNeg) fun c1 => 
    if c1 &&& 15 = 0 then 
    if inB (y4 + 1) sc.1 then lt (sc.2.1 (y4 + 1).toNatClampNeg) fun c2 => 
    if inB (y4 + 2) sc.1 then lt (sc.2.1 (y4 + 2).toNatClampNeg) fun c3 => 
    cI (f10 F ((((c2 : Int32).toInt64) <<< ((32 : Int32).toInt64 &&& 63)) ||| (((c3 : Int32).toInt64) &&& 4294967295)) σ) fun c5 σ4 => 
    if inB (y4 + 1) sc.1 then lt (sc.2.1 (y4 + 1).toNatClampNeg) fun c6 => 
    if inB (y4 + 2) sc.1 then lt (sc.2.1 (y4 + 2).toNatClampNeg) fun c7 => 
    cI (f145 F ((((c6 : Int32).toInt64) <<< ((32 : Int32).toInt64 &&& 63)) ||| (((c7 : Int32).toInt64) &&& 4294967295)) σ4) fun c9 σ8 => 
    if c5 = c9 then f2_703 F sc (f2_23 F sc n) y4 σ8
    else oI 0 σ8 else none else none else none else none
    else if c1 &&& 15 = 1 then none
    else if c1 &&& 15 = 2 then none
    else if c1 &&& 15 = 3 then 
    if inB (y4 + 1) sc.1 then lt (sc.2.1 (y4 + 1).toNatClampNeg) fun c10 => if inB (y4 + 2) sc.1 then lt (sc.2.1 (y4 + 2).toNatClampNeg) fun c11 => none else none else none
    else if c1 &&& 15 = 4 then if inB (y4 + 1) sc.1 then lt (sc.2.1 (y4 + 1).toNatClampNeg) fun c12 => none else none
    else if c1 &&& 15 = 5 then if inB (y4 + 1) sc.1 then lt (sc.2.1 (y4 + 1).toNatClampNeg) fun c13 => none else none
    else if c1 &&& 15 = 6 then if inB (y4 + 1) sc.1 then lt (sc.2.1 (y4 + 1).toNatClampNeg) fun c14 => none else none
    else if c1 &&& 15 = 7 then if inB (y4 + 1) sc.1 then lt (sc.2.1 (y4 + 1).toNatClampNeg) fun c15 => none else none
    else if c1 &&& 15 = 8 then none
    else if c1 &&& 15 = 9 then if inB (y4 + 1) sc.1 then lt (sc.2.1 (y4 + 1).toNatClampNeg) fun c16 => none else none
    else if c1 &&& 15 = 10 then if inB (y4 + 1) sc.1 then lt (sc.2.1 (y4 + 1).toNatClampNeg) fun c17 => none else none
    else if c1 &&& 15 = 11 then if inB (y4 + 1) sc.1 then lt (sc.2.1 (y4 + 1).toNatClampNeg) fun c18 => none else none
    else if c1 &&& 15 = 12 then 
    if inB (y4 + 1) sc.1 then lt (sc.2.1 (y4 + 1).toNatClampNeg) fun c19 => if inB (y4 + 2) sc.1 then lt (sc.2.1 (y4 + 2).toNatClampNeg) fun c20 => none else none else none
    else if c1 &&& 15 = 13 then 
    if inB (y4 + 1) sc.1 then lt (sc.2.1 (y4 + 1).toNatClampNeg) fun c21 => if inB (y4 + 2) sc.1 then lt (sc.2.1 (y4 + 2).toNatClampNeg) fun c22 => none else none else none
    else if c1 &&& 15 = 14 then 
    if inB (y4 + 1) sc.1 then lt (sc.2.1 (y4 + 1).toNatClampNeg) fun c23 => 
    cI (f20 F c23 σ) fun c25 σ24 => 
    if inB (y4 + 1) sc.1 then lt (sc.2.1 (y4 + 1).toNatClampNeg) fun c26 => 
    cI (f197 F c26 σ24) fun c28 σ27 => 
    if c25 = c28 then f2_703 F sc (f2_23 F sc n) y4 σ27
    else oI 0 σ27 else none else none
    else f2_703 F sc (f2_23 F sc n) y4 σ else none
theorem s2_23 (F : Nat) (sc : aSc) (hv : vOk sc) (hL : ¬ sc.1 = 99999) : ∀ (n : Nat) (y4 : Int32) (σ : St), bEx sc 3 2 23 [some (.ref 0), some (.ref 1000), some (.ref 1315), some (.ref 1361), some (.int y4), none, none] [] σ (f2_23 F sc n y4 σ) := by
  intro n
  induction n with
  | zero => intro y4 σ; exact b_none
  | succ n ih =>
    intro y4 σ
    rw [f2_23.eq_2]
    refine b_run [(23, .iload 4, 0, 0, .null), (25, .aload_n 0, 0, 0, .null)] (pc' := 26) (ls' := [some (.ref 0), some (.ref 1000), some (.ref 1315), some (.ref 1361), some (.int y4), none, none]) (st' := [.ref 0, .int y4]) (by decide +kernel) rfl ?_
    refine b_scL hL (ci := 0) (y := 0) (w := .null) (by decide +kernel) ?_
    refine b_run [(27, .iconst 3, 0, 0, .null), (28, .isub, 0, 0, .null)] (pc' := 29) (ls' := [some (.ref 0), some (.ref 1000), some (.ref 1315), some (.ref 1361), some (.int y4), none, none]) (st' := [.int ((Int32.ofNat sc.1) - 3), .int y4]) (by decide +kernel) rfl ?_
    refine b_icT (c := .gt) (o := 680) (t := 709) (y := 0) (w := .null) (by decide +kernel) cmp_gt (fun _ => ?_) (fun _ => ?_)
    · refine b_run [(709, .iconst 1, 0, 0, .null)] (pc' := 710) (ls' := [some (.ref 0), some (.ref 1000), some (.ref 1315), some (.ref 1361), some (.int y4), none, none]) (st' := [.int 1]) (by decide +kernel) rfl ?_
      exact b_ret (i := (.ireturn, 0, 0, .null)) (by decide +kernel) rfl rfl (by decide +kernel)
    · refine b_run [(32, .aload_n 0, 0, 0, .null), (33, .iload 4, 0, 0, .null)] (pc' := 35) (ls' := [some (.ref 0), some (.ref 1000), some (.ref 1315), some (.ref 1361), some (.int y4), none, none]) (st' := [.int y4, .ref 0]) (by decide +kernel) rfl ?_
      refine b_guard (fun hb => ?_)
      refine b_scI hL (ci := 0) (y := 0) (w := .null) (by decide +kernel) hb (fun c1 => ?_)
      refine b_run [(36, .bipush 15, 0, 0, .null), (38, .iand, 0, 0, .null)] (pc' := 39) (ls' := [some (.ref 0), some (.ref 1000), some (.ref 1315), some (.ref 1361), some (.int y4), none, none]) (st' := [.int (c1 &&& 15)]) (by decide +kernel) rfl ?_
      refine b_ite (fun e0 => ?_) (fun e0 => ?_)
      · refine b_sw (dl := 664) (lo := 0) (hi' := 14) (offs := #[73, 130, 141, 185, 253, 309, 365, 421, 477, 490, 515, 540, 565, 602, 639]) (t := 73) (y := 0) (w := .null) (by decide +kernel) (swE e0 (by decide +kernel : aSw 39 664 0 14 #[73, 130, 141, 185, 253, 309, 365, 421, 477, 490, 515, 540, 565, 602, 639] 0 = some 112)) ?_
        refine b_run [(112, .aload_n 1, 0, 0, .null), (113, .aload_n 0, 0, 0, .null), (114, .iload 4, 0, 0, .null), (116, .iconst 1, 0, 0, .null), (117, .iadd, 0, 0, .null)] (pc' := 118) (ls' := [some (.ref 0), some (.ref 1000), some (.ref 1315), some (.ref 1361), some (.int y4), none, none]) (st' := [.int (y4 + 1), .ref 0, .ref 1000]) (by decide +kernel) rfl ?_
        refine b_guard (fun hb => ?_)
        refine b_scI hL (ci := 0) (y := 0) (w := .null) (by decide +kernel) hb (fun c2 => ?_)
        refine b_run [(119, .i2l, 0, 0, .null), (120, .bipush 32, 0, 0, .null), (122, .lshl, 0, 0, .null), (123, .aload_n 0, 0, 0, .null), (124, .iload 4, 0, 0, .null), (126, .iconst 2, 0, 0, .null), (127, .iadd, 0, 0, .null)] (pc' := 128) (ls' := [some (.ref 0), some (.ref 1000), some (.ref 1315), some (.ref 1361), some (.int y4), none, none]) (st' := [.int (y4 + 2), .ref 0, .long (((c2 : Int32).toInt64) <<< ((32 : Int32).toInt64 &&& 63)), .ref 1000]) (by decide +kernel) rfl ?_
        refine b_guard (fun hb => ?_)
        refine b_scI hL (ci := 0) (y := 0) (w := .null) (by decide +kernel) hb (fun c3 => ?_)
        refine b_run [(129, .i2l, 0, 0, .null), (130, .ldc2_w 42, 0, 0, .long 4294967295), (133, .land, 0, 0, .null), (134, .lor, 0, 0, .null)] (pc' := 135) (ls' := [some (.ref 0), some (.ref 1000), some (.ref 1315), some (.ref 1361), some (.int y4), none, none]) (st' := [.long ((((c2 : Int32).toInt64) <<< ((32 : Int32).toInt64 &&& 63)) ||| (((c3 : Int32).toInt64) &&& 4294967295)), .ref 1000]) (by decide +kernel) rfl ?_
        refine b_callI 10 2 [.ref 1000, .long ((((c2 : Int32).toInt64) <<< ((32 : Int32).toInt64 &&& 63)) ||| (((c3 : Int32).toInt64) &&& 4294967295))] (rest := []) (by decide +kernel) rfl rfl rfl (go_O rfl (by decide +kernel) (by decide +kernel : isO 1000 0 = true)) rfl (s10 hv F ((((c2 : Int32).toInt64) <<< ((32 : Int32).toInt64 &&& 63)) ||| (((c3 : Int32).toInt64) &&& 4294967295)) σ) (by decide) (fun c5 σ4 => ?_)
        refine b_run [(138, .aload_n 2, 0, 0, .null), (139, .aload_n 0, 0, 0, .null), (140, .iload 4, 0, 0, .null), (142, .iconst 1, 0, 0, .null), (143, .iadd, 0, 0, .null)] (pc' := 144) (ls' := [some (.ref 0), some (.ref 1000), some (.ref 1315), some (.ref 1361), some (.int y4), none, none]) (st' := [.int (y4 + 1), .ref 0, .ref 1315, .int c5]) (by decide +kernel) rfl ?_
        refine b_guard (fun hb => ?_)
        refine b_scI hL (ci := 0) (y := 0) (w := .null) (by decide +kernel) hb (fun c6 => ?_)
        refine b_run [(145, .i2l, 0, 0, .null), (146, .bipush 32, 0, 0, .null), (148, .lshl, 0, 0, .null), (149, .aload_n 0, 0, 0, .null), (150, .iload 4, 0, 0, .null), (152, .iconst 2, 0, 0, .null), (153, .iadd, 0, 0, .null)] (pc' := 154) (ls' := [some (.ref 0), some (.ref 1000), some (.ref 1315), some (.ref 1361), some (.int y4), none, none]) (st' := [.int (y4 + 2), .ref 0, .long (((c6 : Int32).toInt64) <<< ((32 : Int32).toInt64 &&& 63)), .ref 1315, .int c5]) (by decide +kernel) rfl ?_
        refine b_guard (fun hb => ?_)
        refine b_scI hL (ci := 0) (y := 0) (w := .null) (by decide +kernel) hb (fun c7 => ?_)
        refine b_run [(155, .i2l, 0, 0, .null), (156, .ldc2_w 42, 0, 0, .long 4294967295), (159, .land, 0, 0, .null), (160, .lor, 0, 0, .null)] (pc' := 161) (ls' := [some (.ref 0), some (.ref 1000), some (.ref 1315), some (.ref 1361), some (.int y4), none, none]) (st' := [.long ((((c6 : Int32).toInt64) <<< ((32 : Int32).toInt64 &&& 63)) ||| (((c7 : Int32).toInt64) &&& 4294967295)), .ref 1315, .int c5]) (by decide +kernel) rfl ?_
        refine b_callI 145 2 [.ref 1315, .long ((((c6 : Int32).toInt64) <<< ((32 : Int32).toInt64 &&& 63)) ||| (((c7 : Int32).toInt64) &&& 4294967295))] (rest := [.int c5]) (by decide +kernel) rfl rfl rfl (go_O rfl (by decide +kernel) (by decide +kernel : isO 1315 9 = true)) rfl (s145 hv F ((((c6 : Int32).toInt64) <<< ((32 : Int32).toInt64 &&& 63)) ||| (((c7 : Int32).toInt64) &&& 4294967295)) σ4) (by decide) (fun c9 σ8 => ?_)
        refine b_icT (c := .eq) (o := 539) (t := 703) (y := 0) (w := .null) (by decide +kernel) cmp_eq (fun _ => ?_) (fun _ => ?_)
        · exact b_wk (wS (wS (wS (wS (wS (wN (wN w0))))))) (s2_703 F sc hv hL (f2_23 F sc n) ih y4 σ8)
        · refine b_run [(167, .iconst 0, 0, 0, .null)] (pc' := 168) (ls' := [some (.ref 0), some (.ref 1000), some (.ref 1315), some (.ref 1361), some (.int y4), none, none]) (st' := [.int 0]) (by decide +kernel) rfl ?_
          exact b_ret (i := (.ireturn, 0, 0, .null)) (by decide +kernel) rfl rfl (by decide +kernel)
      refine b_ite (fun e1 => ?_) (fun e1 => ?_)
      · refine b_sw (dl := 664) (lo := 0) (hi' := 14) (offs := #[73, 130, 141, 185, 253, 309, 365, 421, 477, 490, 515, 540, 565, 602, 639]) (t := 73) (y := 0) (w := .null) (by decide +kernel) (swE e1 (by decide +kernel : aSw 39 664 0 14 #[73, 130, 141, 185, 253, 309, 365, 421, 477, 490, 515, 540, 565, 602, 639] 1 = some 169)) ?_
        refine b_run [(169, .aload_n 1, 0, 0, .null)] (pc' := 170) (ls' := [some (.ref 0), some (.ref 1000), some (.ref 1315), some (.ref 1361), some (.int y4), none, none]) (st' := [.ref 1000]) (by decide +kernel) rfl ?_
        exact b_none
      refine b_ite (fun e2 => ?_) (fun e2 => ?_)
      · refine b_sw (dl := 664) (lo := 0) (hi' := 14) (offs := #[73, 130, 141, 185, 253, 309, 365, 421, 477, 490, 515, 540, 565, 602, 639]) (t := 73) (y := 0) (w := .null) (by decide +kernel) (swE e2 (by decide +kernel : aSw 39 664 0 14 #[73, 130, 141, 185, 253, 309, 365, 421, 477, 490, 515, 540, 565, 602, 639] 2 = some 180)) ?_
        refine b_run [(180, .aload_n 1, 0, 0, .null), (181, .aload_n 3, 0, 0, .null)] (pc' := 182) (ls' := [some (.ref 0), some (.ref 1000), some (.ref 1315), some (.ref 1361), some (.int y4), none, none]) (st' := [.ref 1361, .ref 1000]) (by decide +kernel) rfl ?_
        exact b_none
      refine b_ite (fun e3 => ?_) (fun e3 => ?_)
      · refine b_sw (dl := 664) (lo := 0) (hi' := 14) (offs := #[73, 130, 141, 185, 253, 309, 365, 421, 477, 490, 515, 540, 565, 602, 639]) (t := 73) (y := 0) (w := .null) (by decide +kernel) (swE e3 (by decide +kernel : aSw 39 664 0 14 #[73, 130, 141, 185, 253, 309, 365, 421, 477, 490, 515, 540, 565, 602, 639] 3 = some 224)) ?_
        refine b_run [(224, .aload_n 1, 0, 0, .null), (225, .aload_n 0, 0, 0, .null), (226, .iload 4, 0, 0, .null), (228, .iconst 1, 0, 0, .null), (229, .iadd, 0, 0, .null)] (pc' := 230) (ls' := [some (.ref 0), some (.ref 1000), some (.ref 1315), some (.ref 1361), some (.int y4), none, none]) (st' := [.int (y4 + 1), .ref 0, .ref 1000]) (by decide +kernel) rfl ?_
        refine b_guard (fun hb => ?_)
        refine b_scI hL (ci := 0) (y := 0) (w := .null) (by decide +kernel) hb (fun c10 => ?_)
        refine b_run [(231, .aload_n 0, 0, 0, .null), (232, .iload 4, 0, 0, .null), (234, .iconst 2, 0, 0, .null), (235, .iadd, 0, 0, .null)] (pc' := 236) (ls' := [some (.ref 0), some (.ref 1000), some (.ref 1315), some (.ref 1361), some (.int y4), none, none]) (st' := [.int (y4 + 2), .ref 0, .int c10, .ref 1000]) (by decide +kernel) rfl ?_
        refine b_guard (fun hb => ?_)
        refine b_scI hL (ci := 0) (y := 0) (w := .null) (by decide +kernel) hb (fun c11 => ?_)
        refine b_run [(237, .aload_n 3, 0, 0, .null)] (pc' := 238) (ls' := [some (.ref 0), some (.ref 1000), some (.ref 1315), some (.ref 1361), some (.int y4), none, none]) (st' := [.ref 1361, .int c11, .int c10, .ref 1000]) (by decide +kernel) rfl ?_
        exact b_none
      refine b_ite (fun e4 => ?_) (fun e4 => ?_)
      · refine b_sw (dl := 664) (lo := 0) (hi' := 14) (offs := #[73, 130, 141, 185, 253, 309, 365, 421, 477, 490, 515, 540, 565, 602, 639]) (t := 73) (y := 0) (w := .null) (by decide +kernel) (swE e4 (by decide +kernel : aSw 39 664 0 14 #[73, 130, 141, 185, 253, 309, 365, 421, 477, 490, 515, 540, 565, 602, 639] 4 = some 292)) ?_
        refine b_run [(292, .aload_n 1, 0, 0, .null), (293, .aload_n 0, 0, 0, .null), (294, .iload 4, 0, 0, .null), (296, .iconst 1, 0, 0, .null), (297, .iadd, 0, 0, .null)] (pc' := 298) (ls' := [some (.ref 0), some (.ref 1000), some (.ref 1315), some (.ref 1361), some (.int y4), none, none]) (st' := [.int (y4 + 1), .ref 0, .ref 1000]) (by decide +kernel) rfl ?_
        refine b_guard (fun hb => ?_)
        refine b_scI hL (ci := 0) (y := 0) (w := .null) (by decide +kernel) hb (fun c12 => ?_)
        refine b_run [(299, .aload_n 3, 0, 0, .null)] (pc' := 300) (ls' := [some (.ref 0), some (.ref 1000), some (.ref 1315), some (.ref 1361), some (.int y4), none, none]) (st' := [.ref 1361, .int c12, .ref 1000]) (by decide +kernel) rfl ?_
        exact b_none
      refine b_ite (fun e5 => ?_) (fun e5 => ?_)
      · refine b_sw (dl := 664) (lo := 0) (hi' := 14) (offs := #[73, 130, 141, 185, 253, 309, 365, 421, 477, 490, 515, 540, 565, 602, 639]) (t := 73) (y := 0) (w := .null) (by decide +kernel) (swE e5 (by decide +kernel : aSw 39 664 0 14 #[73, 130, 141, 185, 253, 309, 365, 421, 477, 490, 515, 540, 565, 602, 639] 5 = some 348)) ?_
        refine b_run [(348, .aload_n 1, 0, 0, .null), (349, .aload_n 0, 0, 0, .null), (350, .iload 4, 0, 0, .null), (352, .iconst 1, 0, 0, .null), (353, .iadd, 0, 0, .null)] (pc' := 354) (ls' := [some (.ref 0), some (.ref 1000), some (.ref 1315), some (.ref 1361), some (.int y4), none, none]) (st' := [.int (y4 + 1), .ref 0, .ref 1000]) (by decide +kernel) rfl ?_
        refine b_guard (fun hb => ?_)
        refine b_scI hL (ci := 0) (y := 0) (w := .null) (by decide +kernel) hb (fun c13 => ?_)
        refine b_run [(355, .aload_n 3, 0, 0, .null)] (pc' := 356) (ls' := [some (.ref 0), some (.ref 1000), some (.ref 1315), some (.ref 1361), some (.int y4), none, none]) (st' := [.ref 1361, .int c13, .ref 1000]) (by decide +kernel) rfl ?_
        exact b_none
      refine b_ite (fun e6 => ?_) (fun e6 => ?_)
      · refine b_sw (dl := 664) (lo := 0) (hi' := 14) (offs := #[73, 130, 141, 185, 253, 309, 365, 421, 477, 490, 515, 540, 565, 602, 639]) (t := 73) (y := 0) (w := .null) (by decide +kernel) (swE e6 (by decide +kernel : aSw 39 664 0 14 #[73, 130, 141, 185, 253, 309, 365, 421, 477, 490, 515, 540, 565, 602, 639] 6 = some 404)) ?_
        refine b_run [(404, .aload_n 1, 0, 0, .null), (405, .aload_n 0, 0, 0, .null), (406, .iload 4, 0, 0, .null), (408, .iconst 1, 0, 0, .null), (409, .iadd, 0, 0, .null)] (pc' := 410) (ls' := [some (.ref 0), some (.ref 1000), some (.ref 1315), some (.ref 1361), some (.int y4), none, none]) (st' := [.int (y4 + 1), .ref 0, .ref 1000]) (by decide +kernel) rfl ?_
        refine b_guard (fun hb => ?_)
        refine b_scI hL (ci := 0) (y := 0) (w := .null) (by decide +kernel) hb (fun c14 => ?_)
        refine b_run [(411, .aload_n 3, 0, 0, .null)] (pc' := 412) (ls' := [some (.ref 0), some (.ref 1000), some (.ref 1315), some (.ref 1361), some (.int y4), none, none]) (st' := [.ref 1361, .int c14, .ref 1000]) (by decide +kernel) rfl ?_
        exact b_none
      refine b_ite (fun e7 => ?_) (fun e7 => ?_)
      · refine b_sw (dl := 664) (lo := 0) (hi' := 14) (offs := #[73, 130, 141, 185, 253, 309, 365, 421, 477, 490, 515, 540, 565, 602, 639]) (t := 73) (y := 0) (w := .null) (by decide +kernel) (swE e7 (by decide +kernel : aSw 39 664 0 14 #[73, 130, 141, 185, 253, 309, 365, 421, 477, 490, 515, 540, 565, 602, 639] 7 = some 460)) ?_
        refine b_run [(460, .aload_n 1, 0, 0, .null), (461, .aload_n 0, 0, 0, .null), (462, .iload 4, 0, 0, .null), (464, .iconst 1, 0, 0, .null), (465, .iadd, 0, 0, .null)] (pc' := 466) (ls' := [some (.ref 0), some (.ref 1000), some (.ref 1315), some (.ref 1361), some (.int y4), none, none]) (st' := [.int (y4 + 1), .ref 0, .ref 1000]) (by decide +kernel) rfl ?_
        refine b_guard (fun hb => ?_)
        refine b_scI hL (ci := 0) (y := 0) (w := .null) (by decide +kernel) hb (fun c15 => ?_)
        refine b_run [(467, .aload_n 3, 0, 0, .null)] (pc' := 468) (ls' := [some (.ref 0), some (.ref 1000), some (.ref 1315), some (.ref 1361), some (.int y4), none, none]) (st' := [.ref 1361, .int c15, .ref 1000]) (by decide +kernel) rfl ?_
        exact b_none
      refine b_ite (fun e8 => ?_) (fun e8 => ?_)
      · refine b_sw (dl := 664) (lo := 0) (hi' := 14) (offs := #[73, 130, 141, 185, 253, 309, 365, 421, 477, 490, 515, 540, 565, 602, 639]) (t := 73) (y := 0) (w := .null) (by decide +kernel) (swE e8 (by decide +kernel : aSw 39 664 0 14 #[73, 130, 141, 185, 253, 309, 365, 421, 477, 490, 515, 540, 565, 602, 639] 8 = some 516)) ?_
        refine b_run [(516, .aload_n 1, 0, 0, .null)] (pc' := 517) (ls' := [some (.ref 0), some (.ref 1000), some (.ref 1315), some (.ref 1361), some (.int y4), none, none]) (st' := [.ref 1000]) (by decide +kernel) rfl ?_
        exact b_none
      refine b_ite (fun e9 => ?_) (fun e9 => ?_)
      · refine b_sw (dl := 664) (lo := 0) (hi' := 14) (offs := #[73, 130, 141, 185, 253, 309, 365, 421, 477, 490, 515, 540, 565, 602, 639]) (t := 73) (y := 0) (w := .null) (by decide +kernel) (swE e9 (by decide +kernel : aSw 39 664 0 14 #[73, 130, 141, 185, 253, 309, 365, 421, 477, 490, 515, 540, 565, 602, 639] 9 = some 529)) ?_
        refine b_run [(529, .aload_n 1, 0, 0, .null), (530, .aload_n 0, 0, 0, .null), (531, .iload 4, 0, 0, .null), (533, .iconst 1, 0, 0, .null), (534, .iadd, 0, 0, .null)] (pc' := 535) (ls' := [some (.ref 0), some (.ref 1000), some (.ref 1315), some (.ref 1361), some (.int y4), none, none]) (st' := [.int (y4 + 1), .ref 0, .ref 1000]) (by decide +kernel) rfl ?_
        refine b_guard (fun hb => ?_)
        refine b_scI hL (ci := 0) (y := 0) (w := .null) (by decide +kernel) hb (fun c16 => ?_)
        exact b_none
      refine b_ite (fun e10 => ?_) (fun e10 => ?_)
      · refine b_sw (dl := 664) (lo := 0) (hi' := 14) (offs := #[73, 130, 141, 185, 253, 309, 365, 421, 477, 490, 515, 540, 565, 602, 639]) (t := 73) (y := 0) (w := .null) (by decide +kernel) (swE e10 (by decide +kernel : aSw 39 664 0 14 #[73, 130, 141, 185, 253, 309, 365, 421, 477, 490, 515, 540, 565, 602, 639] 10 = some 554)) ?_
        refine b_run [(554, .aload_n 1, 0, 0, .null), (555, .aload_n 0, 0, 0, .null), (556, .iload 4, 0, 0, .null), (558, .iconst 1, 0, 0, .null), (559, .iadd, 0, 0, .null)] (pc' := 560) (ls' := [some (.ref 0), some (.ref 1000), some (.ref 1315), some (.ref 1361), some (.int y4), none, none]) (st' := [.int (y4 + 1), .ref 0, .ref 1000]) (by decide +kernel) rfl ?_
        refine b_guard (fun hb => ?_)
        refine b_scI hL (ci := 0) (y := 0) (w := .null) (by decide +kernel) hb (fun c17 => ?_)
        exact b_none
      refine b_ite (fun e11 => ?_) (fun e11 => ?_)
      · refine b_sw (dl := 664) (lo := 0) (hi' := 14) (offs := #[73, 130, 141, 185, 253, 309, 365, 421, 477, 490, 515, 540, 565, 602, 639]) (t := 73) (y := 0) (w := .null) (by decide +kernel) (swE e11 (by decide +kernel : aSw 39 664 0 14 #[73, 130, 141, 185, 253, 309, 365, 421, 477, 490, 515, 540, 565, 602, 639] 11 = some 579)) ?_
        refine b_run [(579, .aload_n 1, 0, 0, .null), (580, .aload_n 0, 0, 0, .null), (581, .iload 4, 0, 0, .null), (583, .iconst 1, 0, 0, .null), (584, .iadd, 0, 0, .null)] (pc' := 585) (ls' := [some (.ref 0), some (.ref 1000), some (.ref 1315), some (.ref 1361), some (.int y4), none, none]) (st' := [.int (y4 + 1), .ref 0, .ref 1000]) (by decide +kernel) rfl ?_
        refine b_guard (fun hb => ?_)
        refine b_scI hL (ci := 0) (y := 0) (w := .null) (by decide +kernel) hb (fun c18 => ?_)
        exact b_none
      refine b_ite (fun e12 => ?_) (fun e12 => ?_)
      · refine b_sw (dl := 664) (lo := 0) (hi' := 14) (offs := #[73, 130, 141, 185, 253, 309, 365, 421, 477, 490, 515, 540, 565, 602, 639]) (t := 73) (y := 0) (w := .null) (by decide +kernel) (swE e12 (by decide +kernel : aSw 39 664 0 14 #[73, 130, 141, 185, 253, 309, 365, 421, 477, 490, 515, 540, 565, 602, 639] 12 = some 604)) ?_
        refine b_run [(604, .aload_n 1, 0, 0, .null), (605, .aload_n 0, 0, 0, .null), (606, .iload 4, 0, 0, .null), (608, .iconst 1, 0, 0, .null), (609, .iadd, 0, 0, .null)] (pc' := 610) (ls' := [some (.ref 0), some (.ref 1000), some (.ref 1315), some (.ref 1361), some (.int y4), none, none]) (st' := [.int (y4 + 1), .ref 0, .ref 1000]) (by decide +kernel) rfl ?_
        refine b_guard (fun hb => ?_)
        refine b_scI hL (ci := 0) (y := 0) (w := .null) (by decide +kernel) hb (fun c19 => ?_)
        refine b_run [(611, .aload_n 0, 0, 0, .null), (612, .iload 4, 0, 0, .null), (614, .iconst 2, 0, 0, .null), (615, .iadd, 0, 0, .null)] (pc' := 616) (ls' := [some (.ref 0), some (.ref 1000), some (.ref 1315), some (.ref 1361), some (.int y4), none, none]) (st' := [.int (y4 + 2), .ref 0, .int c19, .ref 1000]) (by decide +kernel) rfl ?_
        refine b_guard (fun hb => ?_)
        refine b_scI hL (ci := 0) (y := 0) (w := .null) (by decide +kernel) hb (fun c20 => ?_)
        exact b_none
      refine b_ite (fun e13 => ?_) (fun e13 => ?_)
      · refine b_sw (dl := 664) (lo := 0) (hi' := 14) (offs := #[73, 130, 141, 185, 253, 309, 365, 421, 477, 490, 515, 540, 565, 602, 639]) (t := 73) (y := 0) (w := .null) (by decide +kernel) (swE e13 (by decide +kernel : aSw 39 664 0 14 #[73, 130, 141, 185, 253, 309, 365, 421, 477, 490, 515, 540, 565, 602, 639] 13 = some 641)) ?_
        refine b_run [(641, .aload_n 1, 0, 0, .null), (642, .aload_n 0, 0, 0, .null), (643, .iload 4, 0, 0, .null), (645, .iconst 1, 0, 0, .null), (646, .iadd, 0, 0, .null)] (pc' := 647) (ls' := [some (.ref 0), some (.ref 1000), some (.ref 1315), some (.ref 1361), some (.int y4), none, none]) (st' := [.int (y4 + 1), .ref 0, .ref 1000]) (by decide +kernel) rfl ?_
        refine b_guard (fun hb => ?_)
        refine b_scI hL (ci := 0) (y := 0) (w := .null) (by decide +kernel) hb (fun c21 => ?_)
        refine b_run [(648, .aload_n 0, 0, 0, .null), (649, .iload 4, 0, 0, .null), (651, .iconst 2, 0, 0, .null), (652, .iadd, 0, 0, .null)] (pc' := 653) (ls' := [some (.ref 0), some (.ref 1000), some (.ref 1315), some (.ref 1361), some (.int y4), none, none]) (st' := [.int (y4 + 2), .ref 0, .int c21, .ref 1000]) (by decide +kernel) rfl ?_
        refine b_guard (fun hb => ?_)
        refine b_scI hL (ci := 0) (y := 0) (w := .null) (by decide +kernel) hb (fun c22 => ?_)
        exact b_none
      refine b_ite (fun e14 => ?_) (fun e14 => ?_)
      · refine b_sw (dl := 664) (lo := 0) (hi' := 14) (offs := #[73, 130, 141, 185, 253, 309, 365, 421, 477, 490, 515, 540, 565, 602, 639]) (t := 73) (y := 0) (w := .null) (by decide +kernel) (swE e14 (by decide +kernel : aSw 39 664 0 14 #[73, 130, 141, 185, 253, 309, 365, 421, 477, 490, 515, 540, 565, 602, 639] 14 = some 678)) ?_
        refine b_run [(678, .aload_n 1, 0, 0, .null), (679, .aload_n 0, 0, 0, .null), (680, .iload 4, 0, 0, .null), (682, .iconst 1, 0, 0, .null), (683, .iadd, 0, 0, .null)] (pc' := 684) (ls' := [some (.ref 0), some (.ref 1000), some (.ref 1315), some (.ref 1361), some (.int y4), none, none]) (st' := [.int (y4 + 1), .ref 0, .ref 1000]) (by decide +kernel) rfl ?_
        refine b_guard (fun hb => ?_)
        refine b_scI hL (ci := 0) (y := 0) (w := .null) (by decide +kernel) hb (fun c23 => ?_)
        refine b_callI 20 2 [.ref 1000, .int c23] (rest := []) (by decide +kernel) rfl rfl rfl (go_O rfl (by decide +kernel) (by decide +kernel : isO 1000 0 = true)) rfl (s20 hv F c23 σ) (by decide) (fun c25 σ24 => ?_)
        refine b_run [(688, .aload_n 2, 0, 0, .null), (689, .aload_n 0, 0, 0, .null), (690, .iload 4, 0, 0, .null), (692, .iconst 1, 0, 0, .null), (693, .iadd, 0, 0, .null)] (pc' := 694) (ls' := [some (.ref 0), some (.ref 1000), some (.ref 1315), some (.ref 1361), some (.int y4), none, none]) (st' := [.int (y4 + 1), .ref 0, .ref 1315, .int c25]) (by decide +kernel) rfl ?_
        refine b_guard (fun hb => ?_)
        refine b_scI hL (ci := 0) (y := 0) (w := .null) (by decide +kernel) hb (fun c26 => ?_)
        refine b_callI 197 2 [.ref 1315, .int c26] (rest := [.int c25]) (by decide +kernel) rfl rfl rfl (go_O rfl (by decide +kernel) (by decide +kernel : isO 1315 9 = true)) rfl (s197 hv F c26 σ24) (by decide) (fun c28 σ27 => ?_)
        refine b_icT (c := .eq) (o := 5) (t := 703) (y := 0) (w := .null) (by decide +kernel) cmp_eq (fun _ => ?_) (fun _ => ?_)
        · exact b_wk (wS (wS (wS (wS (wS (wN (wN w0))))))) (s2_703 F sc hv hL (f2_23 F sc n) ih y4 σ27)
        · refine b_run [(701, .iconst 0, 0, 0, .null)] (pc' := 702) (ls' := [some (.ref 0), some (.ref 1000), some (.ref 1315), some (.ref 1361), some (.int y4), none, none]) (st' := [.int 0]) (by decide +kernel) rfl ?_
          exact b_ret (i := (.ireturn, 0, 0, .null)) (by decide +kernel) rfl rfl (by decide +kernel)
      refine b_sw (dl := 664) (lo := 0) (hi' := 14) (offs := #[73, 130, 141, 185, 253, 309, 365, 421, 477, 490, 515, 540, 565, 602, 639]) (t := 73) (y := 0) (w := .null) (by decide +kernel) (swD (pc' := 703) (by have q0 : (c1 &&& 15 : Int32).toInt ≠ 0 := swN e0; have q1 : (c1 &&& 15 : Int32).toInt ≠ 1 := swN e1; have q2 : (c1 &&& 15 : Int32).toInt ≠ 2 := swN e2; have q3 : (c1 &&& 15 : Int32).toInt ≠ 3 := swN e3; have q4 : (c1 &&& 15 : Int32).toInt ≠ 4 := swN e4; have q5 : (c1 &&& 15 : Int32).toInt ≠ 5 := swN e5; have q6 : (c1 &&& 15 : Int32).toInt ≠ 6 := swN e6; have q7 : (c1 &&& 15 : Int32).toInt ≠ 7 := swN e7; have q8 : (c1 &&& 15 : Int32).toInt ≠ 8 := swN e8; have q9 : (c1 &&& 15 : Int32).toInt ≠ 9 := swN e9; have q10 : (c1 &&& 15 : Int32).toInt ≠ 10 := swN e10; have q11 : (c1 &&& 15 : Int32).toInt ≠ 11 := swN e11; have q12 : (c1 &&& 15 : Int32).toInt ≠ 12 := swN e12; have q13 : (c1 &&& 15 : Int32).toInt ≠ 13 := swN e13; have q14 : (c1 &&& 15 : Int32).toInt ≠ 14 := swN e14; omega) rfl) ?_
      exact b_wk (wS (wS (wS (wS (wS (wN (wN w0))))))) (s2_703 F sc hv hL (f2_23 F sc n) ih y4 σ)
