/-- TreeStoreModel.atPath()I -/
def f208 (F : Nat) (σ : St) : Rs := lt (σ.1 1315 52) fun c1 => 
    lt (σ.1 1315 36) fun c2 => 
    if inB c1 6 then lt (uI σ 1354 c1.toNatClampNeg c2) fun σ3 => 
    lt (σ3.1 1315 36) fun c4 => 
    lt (σ3.1 1315 32) fun c5 => 
    cI (f152 F c5 σ3) fun c7 σ6 => 
    if c7 = 47 then f208_39 F c4 1 σ6
    else f208_39 F c4 0 σ6 else none
theorem s208 {sc : aSc} (hv : vOk sc) (F : Nat) (σ : St) : bEx sc 2 208 0 [some (.ref 1315)] [] σ (f208 F σ) := by
  unfold f208
  refine b_run [(0, .aload_n 0, 0, 0, .null)] (pc' := 1) (ls' := [some (.ref 1315)]) (st' := [.ref 1315]) (by decide +kernel) rfl ?_
  refine b_getC (b := 1354) (q := 126) (ci := 9) (k := 54) (w := .null) (by decide +kernel) (by decide +kernel) ?_
  refine b_run [(4, .aload_n 0, 0, 0, .null)] (pc' := 5) (ls' := [some (.ref 1315)]) (st' := [.ref 1315, .ref 1354]) (by decide +kernel) rfl ?_
  refine b_gI (q := 395) (ci := 9) (k := 52) (w := .null) (by decide +kernel) (by decide +kernel) (fun c1 => ?_)
  refine b_run [(8, .aload_n 0, 0, 0, .null)] (pc' := 9) (ls' := [some (.ref 1315)]) (st' := [.ref 1315, .int c1, .ref 1354]) (by decide +kernel) rfl ?_
  refine b_gI (q := 401) (ci := 9) (k := 36) (w := .null) (by decide +kernel) (by decide +kernel) (fun c2 => ?_)
  refine b_guard (fun hb => ?_)
  refine b_sI (ci := 0) (y := 0) (w := .null) (by decide +kernel) (by decide +kernel) hb (fun σ3 => ?_)
  refine b_run [(13, .aload_n 0, 0, 0, .null)] (pc' := 14) (ls' := [some (.ref 1315)]) (st' := [.ref 1315]) (by decide +kernel) rfl ?_
  refine b_getC (b := 1341) (q := 86) (ci := 9) (k := 37) (w := .null) (by decide +kernel) (by decide +kernel) ?_
  refine b_run [(17, .aload_n 0, 0, 0, .null)] (pc' := 18) (ls' := [some (.ref 1315)]) (st' := [.ref 1315, .ref 1341]) (by decide +kernel) rfl ?_
  refine b_gI (q := 401) (ci := 9) (k := 36) (w := .null) (by decide +kernel) (by decide +kernel) (fun c4 => ?_)
  refine b_run [(21, .aload_n 0, 0, 0, .null), (22, .aload_n 0, 0, 0, .null)] (pc' := 23) (ls' := [some (.ref 1315)]) (st' := [.ref 1315, .ref 1315, .int c4, .ref 1341]) (by decide +kernel) rfl ?_
  refine b_gI (q := 181) (ci := 9) (k := 32) (w := .null) (by decide +kernel) (by decide +kernel) (fun c5 => ?_)
  refine b_callI 152 2 [.ref 1315, .int c5] (rest := [.int c4, .ref 1341]) (by decide +kernel) rfl rfl rfl (go_O rfl (by decide +kernel) (by decide +kernel : isO 1315 9 = true)) rfl (s152 hv F c5 σ3) (by decide) (fun c7 σ6 => ?_)
  refine b_run [(29, .bipush 47, 0, 0, .null)] (pc' := 31) (ls' := [some (.ref 1315)]) (st' := [.int 47, .int c7, .int c4, .ref 1341]) (by decide +kernel) rfl ?_
  refine b_icF (c := .ne) (o := 7) (t := 38) (y := 0) (w := .null) (by decide +kernel) cmp_ne (fun _ => ?_) (fun _ => ?_)
  · refine b_run [(34, .iconst 1, 0, 0, .null), (35, .goto 4, 39, 0, .null)] (pc' := 39) (ls' := [some (.ref 1315)]) (st' := [.int 1, .int c4, .ref 1341]) (by decide +kernel) rfl ?_
    exact b_wk (wS w0) (s208_39 hv F c4 1 σ6)
  · refine b_run [(38, .iconst 0, 0, 0, .null)] (pc' := 39) (ls' := [some (.ref 1315)]) (st' := [.int 0, .int c4, .ref 1341]) (by decide +kernel) rfl ?_
    exact b_wk (wS w0) (s208_39 hv F c4 0 σ6)
def f214_41 (F : Nat) (y1 : Int32) (y2 : Int32) (y3 : Int64) (σ : St) : Rs := if 8 < y2 - y1 then oJ ((-1)) σ
    else oJ y3 σ
theorem s214_41 {sc : aSc} (hv : vOk sc) (F : Nat) (y1 : Int32) (y2 : Int32) (y3 : Int64) (σ : St) : bEx sc 0 214 41 [none, some (.int y1), some (.int y2), some (.long y3), none, none] [] σ (f214_41 F y1 y2 y3 σ) := by
  unfold f214_41
  refine b_run [(41, .iload_n 2, 0, 0, .null), (42, .iload_n 1, 0, 0, .null), (43, .isub, 0, 0, .null), (44, .bipush 8, 0, 0, .null)] (pc' := 46) (ls' := [none, some (.int y1), some (.int y2), some (.long y3), none, none]) (st' := [.int 8, .int (y2 - y1)]) (by decide +kernel) rfl ?_
  refine b_icF (c := .le) (o := 9) (t := 55) (y := 0) (w := .null) (by decide +kernel) cmp_le (fun _ => ?_) (fun _ => ?_)
  · refine b_run [(49, .ldc2_w 348, 0, 0, .long (-1)), (52, .goto 4, 56, 0, .null)] (pc' := 56) (ls' := [none, some (.int y1), some (.int y2), some (.long y3), none, none]) (st' := [.long ((-1))]) (by decide +kernel) rfl ?_
    exact b_ret (i := (.lreturn, 0, 0, .null)) (by decide +kernel) rfl rfl (fit_J _)
  · refine b_run [(55, .lload_n 3, 0, 0, .null)] (pc' := 56) (ls' := [none, some (.int y1), some (.int y2), some (.long y3), none, none]) (st' := [.long y3]) (by decide +kernel) rfl ?_
    exact b_ret (i := (.lreturn, 0, 0, .null)) (by decide +kernel) rfl rfl (fit_J _)
def f214_5 (F : Nat) : Nat → Int32 → Int32 → Int64 → Int32 → St → Rs
  | 0, _, _, _, _, _ => none
  | n + 1, y1, y2, y3, y5, σ => if y5 < y2 then 
    if y5 < y1 + 8 then 
    if inB y5 122 then lt (σ.1 1316 y5.toNatClampNeg) fun c1 => lt ((y3 * 256) + ((c1 : Int32).toInt64)) fun c2 => f214_5 F n y1 y2 c2 (y5 + 1) σ else none
    else f214_41 F y1 y2 y3 σ
    else f214_41 F y1 y2 y3 σ
theorem s214_5 {sc : aSc} (hv : vOk sc) (F : Nat) : ∀ (n : Nat) (y1 : Int32) (y2 : Int32) (y3 : Int64) (y5 : Int32) (σ : St), bEx sc 0 214 5 [some (.ref 1315), some (.int y1), some (.int y2), some (.long y3), none, some (.int y5)] [] σ (f214_5 F n y1 y2 y3 y5 σ) := by
  intro n
  induction n with
  | zero => intro y1 y2 y3 y5 σ; exact b_none
  | succ n ih =>
    intro y1 y2 y3 y5 σ
    rw [f214_5.eq_2]
    refine b_run [(5, .iload 5, 0, 0, .null), (7, .iload_n 2, 0, 0, .null)] (pc' := 8) (ls' := [some (.ref 1315), some (.int y1), some (.int y2), some (.long y3), none, some (.int y5)]) (st' := [.int y2, .int y5]) (by decide +kernel) rfl ?_
    refine b_icF (c := .ge) (o := 33) (t := 41) (y := 0) (w := .null) (by decide +kernel) cmp_ge (fun _ => ?_) (fun _ => ?_)
    · refine b_run [(11, .iload 5, 0, 0, .null), (13, .iload_n 1, 0, 0, .null), (14, .bipush 8, 0, 0, .null), (16, .iadd, 0, 0, .null)] (pc' := 17) (ls' := [some (.ref 1315), some (.int y1), some (.int y2), some (.long y3), none, some (.int y5)]) (st' := [.int (y1 + 8), .int y5]) (by decide +kernel) rfl ?_
      refine b_icF (c := .ge) (o := 24) (t := 41) (y := 0) (w := .null) (by decide +kernel) cmp_ge (fun _ => ?_) (fun _ => ?_)
      · refine b_run [(20, .lload_n 3, 0, 0, .null), (21, .ldc2_w 346, 0, 0, .long 256), (24, .lmul, 0, 0, .null), (25, .aload_n 0, 0, 0, .null)] (pc' := 26) (ls' := [some (.ref 1315), some (.int y1), some (.int y2), some (.long y3), none, some (.int y5)]) (st' := [.ref 1315, .long (y3 * 256)]) (by decide +kernel) rfl ?_
        refine b_getC (b := 1316) (q := 7) (ci := 9) (k := 2) (w := .null) (by decide +kernel) (by decide +kernel) ?_
        refine b_run [(29, .iload 5, 0, 0, .null)] (pc' := 31) (ls' := [some (.ref 1315), some (.int y1), some (.int y2), some (.long y3), none, some (.int y5)]) (st' := [.int y5, .ref 1316, .long (y3 * 256)]) (by decide +kernel) rfl ?_
        refine b_guard (fun hb => ?_)
        refine b_aI (ci := 0) (y := 0) (w := .null) (by decide +kernel) (by decide +kernel) hb (fun c1 => ?_)
        refine b_run [(32, .i2l, 0, 0, .null), (33, .ladd, 0, 0, .null), (34, .lstore_n 3, 0, 0, .null)] (pc' := 35) (ls' := [some (.ref 1315), some (.int y1), some (.int y2), some (.long ((y3 * 256) + ((c1 : Int32).toInt64))), none, some (.int y5)]) (st' := []) (by decide +kernel) rfl ?_
        refine b_let ((y3 * 256) + ((c1 : Int32).toInt64)) (L := fun c2 => [some (.ref 1315), some (.int y1), some (.int y2), some (.long c2), none, some (.int y5)]) (S := fun _ => []) (fun c2 => ?_)
        refine b_run [(35, .iinc 5 1, 0, 0, .null), (38, .goto (-33), 5, 0, .null)] (pc' := 5) (ls' := [some (.ref 1315), some (.int y1), some (.int y2), some (.long c2), none, some (.int (y5 + 1))]) (st' := []) (by decide +kernel) rfl ?_
        exact b_wk (wS (wS (wS (wS (wN (wS w0)))))) (ih y1 y2 c2 (y5 + 1) σ)
      · exact b_wk (wN (wS (wS (wS (wN (wN w0)))))) (s214_41 hv F y1 y2 y3 σ)
    · exact b_wk (wN (wS (wS (wS (wN (wN w0)))))) (s214_41 hv F y1 y2 y3 σ)
/-- TreeStoreModel.word(II)J -/
def f214 (F : Nat) (x1 : Int32) (x2 : Int32) (σ : St) : Rs := f214_5 F F x1 x2 0 x1 σ
theorem s214 {sc : aSc} (hv : vOk sc) (F : Nat) (x1 : Int32) (x2 : Int32) (σ : St) : bEx sc 0 214 0 [some (.ref 1315), some (.int x1), some (.int x2), none, none, none] [] σ (f214 F x1 x2 σ) := by
  unfold f214
  refine b_run [(0, .lconst 0, 0, 0, .null), (1, .lstore_n 3, 0, 0, .null), (2, .iload_n 1, 0, 0, .null), (3, .istore 5, 0, 0, .null)] (pc' := 5) (ls' := [some (.ref 1315), some (.int x1), some (.int x2), some (.long 0), none, some (.int x1)]) (st' := []) (by decide +kernel) rfl ?_
  exact b_wk (wS (wS (wS (wS (wN (wS w0)))))) (s214_5 hv F F x1 x2 0 x1 σ)
/-- TreeStoreModel.isWord(IIJ)Z -/
def f213 (F : Nat) (x1 : Int32) (x2 : Int32) (x3 : Int64) (σ : St) : Rs := cJ (f214 F x1 x2 σ) fun c2 σ1 => 
    if lg_cmp c2 x3 = 0 then oI 1 σ1
    else oI 0 σ1
theorem s213 {sc : aSc} (hv : vOk sc) (F : Nat) (x1 : Int32) (x2 : Int32) (x3 : Int64) (σ : St) : bEx sc 1 213 0 [some (.ref 1315), some (.int x1), some (.int x2), some (.long x3), none] [] σ (f213 F x1 x2 x3 σ) := by
  unfold f213
  refine b_run [(0, .aload_n 0, 0, 0, .null), (1, .iload_n 1, 0, 0, .null), (2, .iload_n 2, 0, 0, .null)] (pc' := 3) (ls' := [some (.ref 1315), some (.int x1), some (.int x2), some (.long x3), none]) (st' := [.int x2, .int x1, .ref 1315]) (by decide +kernel) rfl ?_
  refine b_callJ 214 3 [.ref 1315, .int x1, .int x2] (rest := []) (by decide +kernel) rfl rfl rfl (go_O rfl (by decide +kernel) (by decide +kernel : isO 1315 9 = true)) rfl (s214 hv F x1 x2 σ) (by decide) (fun c2 σ1 => ?_)
  refine b_run [(6, .lload_n 3, 0, 0, .null), (7, .lcmp, 0, 0, .null)] (pc' := 8) (ls' := [some (.ref 1315), some (.int x1), some (.int x2), some (.long x3), none]) (st' := [.int (lg_cmp c2 x3)]) (by decide +kernel) rfl ?_
  refine b_izF (c := .ne) (o := 7) (t := 15) (y := 0) (w := .null) (by decide +kernel) cmp_ne (fun _ => ?_) (fun _ => ?_)
  · refine b_run [(11, .iconst 1, 0, 0, .null), (12, .goto 4, 16, 0, .null)] (pc' := 16) (ls' := [some (.ref 1315), some (.int x1), some (.int x2), some (.long x3), none]) (st' := [.int 1]) (by decide +kernel) rfl ?_
    exact b_ret (i := (.ireturn, 0, 0, .null)) (by decide +kernel) rfl rfl (by decide +kernel)
  · refine b_run [(15, .iconst 0, 0, 0, .null)] (pc' := 16) (ls' := [some (.ref 1315), some (.int x1), some (.int x2), some (.long x3), none]) (st' := [.int 0]) (by decide +kernel) rfl ?_
    exact b_ret (i := (.ireturn, 0, 0, .null)) (by decide +kernel) rfl rfl (by decide +kernel)
def f212_144 (F : Nat) (y1 : Int32) (y2 : Int32) (z0 : Int32) (σ : St) : Rs := if z0 < 0 then oI 8 σ
    else cI (f152 F (y2 + 1) σ) fun c24 σ23 => 
    if c24 = 41 then lt (uI σ23 1315 32 (y2 + 2)) fun σ25 => cV (f209 F y1 z0 0 0 σ25) fun σ26 => oI 3 σ26
    else oI 8 σ23
theorem s212_144 {sc : aSc} (hv : vOk sc) (F : Nat) (y1 : Int32) (y2 : Int32) (z0 : Int32) (σ : St) : bEx sc 3 212 144 [some (.ref 1315), some (.int y1), some (.int y2), none] [.int z0] σ (f212_144 F y1 y2 z0 σ) := by
  unfold f212_144
  refine b_run [(144, .istore_n 3, 0, 0, .null), (145, .iload_n 3, 0, 0, .null)] (pc' := 146) (ls' := [some (.ref 1315), some (.int y1), some (.int y2), some (.int z0)]) (st' := [.int z0]) (by decide +kernel) rfl ?_
  refine b_izT (c := .lt) (o := 15) (t := 161) (y := 0) (w := .null) (by decide +kernel) cmp_lt (fun _ => ?_) (fun _ => ?_)
  · refine b_run [(161, .bipush 8, 0, 0, .null)] (pc' := 163) (ls' := [some (.ref 1315), some (.int y1), some (.int y2), some (.int z0)]) (st' := [.int 8]) (by decide +kernel) rfl ?_
    exact b_ret (i := (.ireturn, 0, 0, .null)) (by decide +kernel) rfl rfl (fit_I _)
  · refine b_run [(149, .aload_n 0, 0, 0, .null), (150, .iload_n 2, 0, 0, .null), (151, .iconst 1, 0, 0, .null), (152, .iadd, 0, 0, .null)] (pc' := 153) (ls' := [some (.ref 1315), some (.int y1), some (.int y2), some (.int z0)]) (st' := [.int (y2 + 1), .ref 1315]) (by decide +kernel) rfl ?_
    refine b_callI 152 2 [.ref 1315, .int (y2 + 1)] (rest := []) (by decide +kernel) rfl rfl rfl (go_O rfl (by decide +kernel) (by decide +kernel : isO 1315 9 = true)) rfl (s152 hv F (y2 + 1) σ) (by decide) (fun c24 σ23 => ?_)
    refine b_run [(156, .bipush 41, 0, 0, .null)] (pc' := 158) (ls' := [some (.ref 1315), some (.int y1), some (.int y2), some (.int z0)]) (st' := [.int 41, .int c24]) (by decide +kernel) rfl ?_
    refine b_icT (c := .eq) (o := 6) (t := 164) (y := 0) (w := .null) (by decide +kernel) cmp_eq (fun _ => ?_) (fun _ => ?_)
    · refine b_run [(164, .aload_n 0, 0, 0, .null), (165, .iload_n 2, 0, 0, .null), (166, .iconst 2, 0, 0, .null), (167, .iadd, 0, 0, .null)] (pc' := 168) (ls' := [some (.ref 1315), some (.int y1), some (.int y2), some (.int z0)]) (st' := [.int (y2 + 2), .ref 1315]) (by decide +kernel) rfl ?_
      refine b_pI (q := 181) (ci := 9) (k := 32) (w := .null) (by decide +kernel) (by decide +kernel) (fit_I _) (fun σ25 => ?_)
      refine b_run [(171, .aload_n 0, 0, 0, .null), (172, .iload_n 1, 0, 0, .null), (173, .iload_n 3, 0, 0, .null), (174, .iconst 0, 0, 0, .null), (175, .iconst 0, 0, 0, .null)] (pc' := 176) (ls' := [some (.ref 1315), some (.int y1), some (.int y2), some (.int z0)]) (st' := [.int 0, .int 0, .int z0, .int y1, .ref 1315]) (by decide +kernel) rfl ?_
      refine b_callV 209 5 [.ref 1315, .int y1, .int z0, .int 0, .int 0] (rest := []) (by decide +kernel) rfl rfl rfl (go_O rfl (by decide +kernel) (by decide +kernel : isO 1315 9 = true)) rfl (s209 hv F y1 z0 0 0 σ25) (by decide) (fun σ26 => ?_)
      refine b_run [(179, .iconst 3, 0, 0, .null)] (pc' := 180) (ls' := [some (.ref 1315), some (.int y1), some (.int y2), some (.int z0)]) (st' := [.int 3]) (by decide +kernel) rfl ?_
      exact b_ret (i := (.ireturn, 0, 0, .null)) (by decide +kernel) rfl rfl (fit_I _)
    · refine b_run [(161, .bipush 8, 0, 0, .null)] (pc' := 163) (ls' := [some (.ref 1315), some (.int y1), some (.int y2), some (.int z0)]) (st' := [.int 8]) (by decide +kernel) rfl ?_
      exact b_ret (i := (.ireturn, 0, 0, .null)) (by decide +kernel) rfl rfl (fit_I _)
/-- TreeStoreModel.test(I)I -/
def f212 (F : Nat) (x1 : Int32) (σ : St) : Rs := lt (σ.1 1315 32) fun c1 => 
    cI (f152 F c1 σ) fun c3 σ2 => 
    if c3 = 42 then lt (σ2.1 1315 32) fun c4 => lt (uI σ2 1315 32 (c4 + 1)) fun σ5 => cV (f209 F x1 1 0 0 σ5) fun σ6 => oI 3 σ6
    else lt (σ2.1 1315 32) fun c8 => 
    cI (f163 F c8 σ2) fun c10 σ9 => 
    lt (σ9.1 1315 32) fun c11 => 
    if c10 = c11 then oI 8 σ9
    else cI (f152 F c10 σ9) fun c13 σ12 => 
    if c13 = 40 then 
    lt (σ12.1 1315 32) fun c14 => 
    cI (f213 F c14 c10 1952807028 σ12) fun c16 σ15 => 
    if c16 = 0 then 
    lt (σ15.1 1315 32) fun c17 => 
    cI (f213 F c17 c10 27988538471837300 σ15) fun c19 σ18 => 
    if c19 = 0 then 
    lt (σ18.1 1315 32) fun c20 => 
    cI (f213 F c20 c10 1852793957 σ18) fun c22 σ21 => 
    if c22 = 0 then f212_144 F x1 c10 ((-1)) σ21
    else f212_144 F x1 c10 4 σ21
    else f212_144 F x1 c10 3 σ18
    else f212_144 F x1 c10 2 σ15
    else lt (σ12.1 1315 32) fun c28 => 
    lt (σ12.1 1315 32) fun c29 => cV (f209 F x1 0 c28 (c10 - c29) σ12) fun σ30 => lt (uI σ30 1315 32 c10) fun σ32 => oI 3 σ32
theorem s212 {sc : aSc} (hv : vOk sc) (F : Nat) (x1 : Int32) (σ : St) : bEx sc 3 212 0 [some (.ref 1315), some (.int x1), none, none] [] σ (f212 F x1 σ) := by
  unfold f212
  refine b_run [(0, .aload_n 0, 0, 0, .null), (1, .aload_n 0, 0, 0, .null)] (pc' := 2) (ls' := [some (.ref 1315), some (.int x1), none, none]) (st' := [.ref 1315, .ref 1315]) (by decide +kernel) rfl ?_
  refine b_gI (q := 181) (ci := 9) (k := 32) (w := .null) (by decide +kernel) (by decide +kernel) (fun c1 => ?_)
  refine b_callI 152 2 [.ref 1315, .int c1] (rest := []) (by decide +kernel) rfl rfl rfl (go_O rfl (by decide +kernel) (by decide +kernel : isO 1315 9 = true)) rfl (s152 hv F c1 σ) (by decide) (fun c3 σ2 => ?_)
  refine b_run [(8, .bipush 42, 0, 0, .null)] (pc' := 10) (ls' := [some (.ref 1315), some (.int x1), none, none]) (st' := [.int 42, .int c3]) (by decide +kernel) rfl ?_
  refine b_icF (c := .ne) (o := 23) (t := 33) (y := 0) (w := .null) (by decide +kernel) cmp_ne (fun _ => ?_) (fun _ => ?_)
  · refine b_run [(13, .aload_n 0, 0, 0, .null), (14, .dup, 0, 0, .null)] (pc' := 15) (ls' := [some (.ref 1315), some (.int x1), none, none]) (st' := [.ref 1315, .ref 1315]) (by decide +kernel) rfl ?_
    refine b_gI (q := 181) (ci := 9) (k := 32) (w := .null) (by decide +kernel) (by decide +kernel) (fun c4 => ?_)
    refine b_run [(18, .iconst 1, 0, 0, .null), (19, .iadd, 0, 0, .null)] (pc' := 20) (ls' := [some (.ref 1315), some (.int x1), none, none]) (st' := [.int (c4 + 1), .ref 1315]) (by decide +kernel) rfl ?_
    refine b_pI (q := 181) (ci := 9) (k := 32) (w := .null) (by decide +kernel) (by decide +kernel) (fit_I _) (fun σ5 => ?_)
    refine b_run [(23, .aload_n 0, 0, 0, .null), (24, .iload_n 1, 0, 0, .null), (25, .iconst 1, 0, 0, .null), (26, .iconst 0, 0, 0, .null), (27, .iconst 0, 0, 0, .null)] (pc' := 28) (ls' := [some (.ref 1315), some (.int x1), none, none]) (st' := [.int 0, .int 0, .int 1, .int x1, .ref 1315]) (by decide +kernel) rfl ?_
    refine b_callV 209 5 [.ref 1315, .int x1, .int 1, .int 0, .int 0] (rest := []) (by decide +kernel) rfl rfl rfl (go_O rfl (by decide +kernel) (by decide +kernel : isO 1315 9 = true)) rfl (s209 hv F x1 1 0 0 σ5) (by decide) (fun σ6 => ?_)
    refine b_run [(31, .iconst 3, 0, 0, .null)] (pc' := 32) (ls' := [some (.ref 1315), some (.int x1), none, none]) (st' := [.int 3]) (by decide +kernel) rfl ?_
    exact b_ret (i := (.ireturn, 0, 0, .null)) (by decide +kernel) rfl rfl (fit_I _)
  · refine b_run [(33, .aload_n 0, 0, 0, .null), (34, .aload_n 0, 0, 0, .null)] (pc' := 35) (ls' := [some (.ref 1315), some (.int x1), none, none]) (st' := [.ref 1315, .ref 1315]) (by decide +kernel) rfl ?_
    refine b_gI (q := 181) (ci := 9) (k := 32) (w := .null) (by decide +kernel) (by decide +kernel) (fun c8 => ?_)
    refine b_callI 163 2 [.ref 1315, .int c8] (rest := []) (by decide +kernel) rfl rfl rfl (go_O rfl (by decide +kernel) (by decide +kernel : isO 1315 9 = true)) rfl (s163 hv F c8 σ2) (by decide) (fun c10 σ9 => ?_)
    refine b_run [(41, .istore_n 2, 0, 0, .null), (42, .iload_n 2, 0, 0, .null), (43, .aload_n 0, 0, 0, .null)] (pc' := 44) (ls' := [some (.ref 1315), some (.int x1), some (.int c10), none]) (st' := [.ref 1315, .int c10]) (by decide +kernel) rfl ?_
    refine b_gI (q := 181) (ci := 9) (k := 32) (w := .null) (by decide +kernel) (by decide +kernel) (fun c11 => ?_)
    refine b_icF (c := .ne) (o := 6) (t := 53) (y := 0) (w := .null) (by decide +kernel) cmp_ne (fun _ => ?_) (fun _ => ?_)
    · refine b_run [(50, .bipush 8, 0, 0, .null)] (pc' := 52) (ls' := [some (.ref 1315), some (.int x1), some (.int c10), none]) (st' := [.int 8]) (by decide +kernel) rfl ?_
      exact b_ret (i := (.ireturn, 0, 0, .null)) (by decide +kernel) rfl rfl (fit_I _)
    · refine b_run [(53, .aload_n 0, 0, 0, .null), (54, .iload_n 2, 0, 0, .null)] (pc' := 55) (ls' := [some (.ref 1315), some (.int x1), some (.int c10), none]) (st' := [.int c10, .ref 1315]) (by decide +kernel) rfl ?_
      refine b_callI 152 2 [.ref 1315, .int c10] (rest := []) (by decide +kernel) rfl rfl rfl (go_O rfl (by decide +kernel) (by decide +kernel : isO 1315 9 = true)) rfl (s152 hv F c10 σ9) (by decide) (fun c13 σ12 => ?_)
      refine b_run [(58, .bipush 40, 0, 0, .null)] (pc' := 60) (ls' := [some (.ref 1315), some (.int x1), some (.int c10), none]) (st' := [.int 40, .int c13]) (by decide +kernel) rfl ?_
      refine b_icT (c := .eq) (o := 26) (t := 86) (y := 0) (w := .null) (by decide +kernel) cmp_eq (fun _ => ?_) (fun _ => ?_)
      · refine b_run [(86, .aload_n 0, 0, 0, .null), (87, .aload_n 0, 0, 0, .null)] (pc' := 88) (ls' := [some (.ref 1315), some (.int x1), some (.int c10), none]) (st' := [.ref 1315, .ref 1315]) (by decide +kernel) rfl ?_
        refine b_gI (q := 181) (ci := 9) (k := 32) (w := .null) (by decide +kernel) (by decide +kernel) (fun c14 => ?_)
        refine b_run [(91, .iload_n 2, 0, 0, .null), (92, .ldc2_w 410, 0, 0, .long 1952807028)] (pc' := 95) (ls' := [some (.ref 1315), some (.int x1), some (.int c10), none]) (st' := [.long 1952807028, .int c10, .int c14, .ref 1315]) (by decide +kernel) rfl ?_
        refine b_callI 213 4 [.ref 1315, .int c14, .int c10, .long 1952807028] (rest := []) (by decide +kernel) rfl rfl rfl (go_O rfl (by decide +kernel) (by decide +kernel : isO 1315 9 = true)) rfl (s213 hv F c14 c10 1952807028 σ12) (by decide) (fun c16 σ15 => ?_)
        refine b_izT (c := .eq) (o := 7) (t := 105) (y := 0) (w := .null) (by decide +kernel) cmp_eq (fun _ => ?_) (fun _ => ?_)
        · refine b_run [(105, .aload_n 0, 0, 0, .null), (106, .aload_n 0, 0, 0, .null)] (pc' := 107) (ls' := [some (.ref 1315), some (.int x1), some (.int c10), none]) (st' := [.ref 1315, .ref 1315]) (by decide +kernel) rfl ?_
          refine b_gI (q := 181) (ci := 9) (k := 32) (w := .null) (by decide +kernel) (by decide +kernel) (fun c17 => ?_)
          refine b_run [(110, .iload_n 2, 0, 0, .null), (111, .ldc2_w 416, 0, 0, .long 27988538471837300)] (pc' := 114) (ls' := [some (.ref 1315), some (.int x1), some (.int c10), none]) (st' := [.long 27988538471837300, .int c10, .int c17, .ref 1315]) (by decide +kernel) rfl ?_
          refine b_callI 213 4 [.ref 1315, .int c17, .int c10, .long 27988538471837300] (rest := []) (by decide +kernel) rfl rfl rfl (go_O rfl (by decide +kernel) (by decide +kernel : isO 1315 9 = true)) rfl (s213 hv F c17 c10 27988538471837300 σ15) (by decide) (fun c19 σ18 => ?_)
          refine b_izT (c := .eq) (o := 7) (t := 124) (y := 0) (w := .null) (by decide +kernel) cmp_eq (fun _ => ?_) (fun _ => ?_)
          · refine b_run [(124, .aload_n 0, 0, 0, .null), (125, .aload_n 0, 0, 0, .null)] (pc' := 126) (ls' := [some (.ref 1315), some (.int x1), some (.int c10), none]) (st' := [.ref 1315, .ref 1315]) (by decide +kernel) rfl ?_
            refine b_gI (q := 181) (ci := 9) (k := 32) (w := .null) (by decide +kernel) (by decide +kernel) (fun c20 => ?_)
            refine b_run [(129, .iload_n 2, 0, 0, .null), (130, .ldc2_w 418, 0, 0, .long 1852793957)] (pc' := 133) (ls' := [some (.ref 1315), some (.int x1), some (.int c10), none]) (st' := [.long 1852793957, .int c10, .int c20, .ref 1315]) (by decide +kernel) rfl ?_
            refine b_callI 213 4 [.ref 1315, .int c20, .int c10, .long 1852793957] (rest := []) (by decide +kernel) rfl rfl rfl (go_O rfl (by decide +kernel) (by decide +kernel : isO 1315 9 = true)) rfl (s213 hv F c20 c10 1852793957 σ18) (by decide) (fun c22 σ21 => ?_)
            refine b_izT (c := .eq) (o := 7) (t := 143) (y := 0) (w := .null) (by decide +kernel) cmp_eq (fun _ => ?_) (fun _ => ?_)
            · refine b_run [(143, .iconst (-1), 0, 0, .null)] (pc' := 144) (ls' := [some (.ref 1315), some (.int x1), some (.int c10), none]) (st' := [.int ((-1))]) (by decide +kernel) rfl ?_
              exact b_wk (wS (wS (wS (wN w0)))) (s212_144 hv F x1 c10 ((-1)) σ21)
            · refine b_run [(139, .iconst 4, 0, 0, .null), (140, .goto 4, 144, 0, .null)] (pc' := 144) (ls' := [some (.ref 1315), some (.int x1), some (.int c10), none]) (st' := [.int 4]) (by decide +kernel) rfl ?_
              exact b_wk (wS (wS (wS (wN w0)))) (s212_144 hv F x1 c10 4 σ21)
          · refine b_run [(120, .iconst 3, 0, 0, .null), (121, .goto 23, 144, 0, .null)] (pc' := 144) (ls' := [some (.ref 1315), some (.int x1), some (.int c10), none]) (st' := [.int 3]) (by decide +kernel) rfl ?_
            exact b_wk (wS (wS (wS (wN w0)))) (s212_144 hv F x1 c10 3 σ18)
        · refine b_run [(101, .iconst 2, 0, 0, .null), (102, .goto 42, 144, 0, .null)] (pc' := 144) (ls' := [some (.ref 1315), some (.int x1), some (.int c10), none]) (st' := [.int 2]) (by decide +kernel) rfl ?_
          exact b_wk (wS (wS (wS (wN w0)))) (s212_144 hv F x1 c10 2 σ15)
      · refine b_run [(63, .aload_n 0, 0, 0, .null), (64, .iload_n 1, 0, 0, .null), (65, .iconst 0, 0, 0, .null), (66, .aload_n 0, 0, 0, .null)] (pc' := 67) (ls' := [some (.ref 1315), some (.int x1), some (.int c10), none]) (st' := [.ref 1315, .int 0, .int x1, .ref 1315]) (by decide +kernel) rfl ?_
        refine b_gI (q := 181) (ci := 9) (k := 32) (w := .null) (by decide +kernel) (by decide +kernel) (fun c28 => ?_)
        refine b_run [(70, .iload_n 2, 0, 0, .null), (71, .aload_n 0, 0, 0, .null)] (pc' := 72) (ls' := [some (.ref 1315), some (.int x1), some (.int c10), none]) (st' := [.ref 1315, .int c10, .int c28, .int 0, .int x1, .ref 1315]) (by decide +kernel) rfl ?_
        refine b_gI (q := 181) (ci := 9) (k := 32) (w := .null) (by decide +kernel) (by decide +kernel) (fun c29 => ?_)
        refine b_run [(75, .isub, 0, 0, .null)] (pc' := 76) (ls' := [some (.ref 1315), some (.int x1), some (.int c10), none]) (st' := [.int (c10 - c29), .int c28, .int 0, .int x1, .ref 1315]) (by decide +kernel) rfl ?_
        refine b_callV 209 5 [.ref 1315, .int x1, .int 0, .int c28, .int (c10 - c29)] (rest := []) (by decide +kernel) rfl rfl rfl (go_O rfl (by decide +kernel) (by decide +kernel : isO 1315 9 = true)) rfl (s209 hv F x1 0 c28 (c10 - c29) σ12) (by decide) (fun σ30 => ?_)
        refine b_run [(79, .aload_n 0, 0, 0, .null), (80, .iload_n 2, 0, 0, .null)] (pc' := 81) (ls' := [some (.ref 1315), some (.int x1), some (.int c10), none]) (st' := [.int c10, .ref 1315]) (by decide +kernel) rfl ?_
        refine b_pI (q := 181) (ci := 9) (k := 32) (w := .null) (by decide +kernel) (by decide +kernel) (fit_I _) (fun σ32 => ?_)
        refine b_run [(84, .iconst 3, 0, 0, .null)] (pc' := 85) (ls' := [some (.ref 1315), some (.int x1), some (.int c10), none]) (st' := [.int 3]) (by decide +kernel) rfl ?_
        exact b_ret (i := (.ireturn, 0, 0, .null)) (by decide +kernel) rfl rfl (fit_I _)
def f216_116 (F : Nat) (k12 : Int32 → Int32 → Int64 → Int64 → Int64 → Int64 → Int64 → Int64 → Int32 → St → Rs) (y1 : Int32) (y2 : Int32) (y3 : Int64) (y5 : Int64) (y7 : Int64) (y9 : Int64) (y11 : Int64) (y15 : Int32) (z0 : Int64) (σ : St) : Rs := k12 y1 y2 y3 y5 y7 y9 y11 z0 (y15 + 1) σ
theorem s216_116 {sc : aSc} (hv : vOk sc) (F : Nat) (k12 : Int32 → Int32 → Int64 → Int64 → Int64 → Int64 → Int64 → Int64 → Int32 → St → Rs) (hk12 : ∀ y1 y2 y3 y5 y7 y9 y11 y13 y15 σ, bEx sc 0 216 12 [some (.ref 1315), some (.int y1), some (.int y2), some (.long y3), none, some (.long y5), none, some (.long y7), none, some (.long y9), none, some (.long y11), none, some (.long y13), none, some (.int y15), none] [] σ (k12 y1 y2 y3 y5 y7 y9 y11 y13 y15 σ)) (y1 : Int32) (y2 : Int32) (y3 : Int64) (y5 : Int64) (y7 : Int64) (y9 : Int64) (y11 : Int64) (y15 : Int32) (z0 : Int64) (σ : St) : bEx sc 0 216 116 [some (.ref 1315), some (.int y1), some (.int y2), some (.long y3), none, some (.long y5), none, some (.long y7), none, some (.long y9), none, some (.long y11), none, none, none, some (.int y15), none] [.long z0] σ (f216_116 F k12 y1 y2 y3 y5 y7 y9 y11 y15 z0 σ) := by
  unfold f216_116
  refine b_run [(116, .lstore 13, 0, 0, .null), (118, .iinc 15 1, 0, 0, .null), (121, .goto (-109), 12, 0, .null)] (pc' := 12) (ls' := [some (.ref 1315), some (.int y1), some (.int y2), some (.long y3), none, some (.long y5), none, some (.long y7), none, some (.long y9), none, some (.long y11), none, some (.long z0), none, some (.int (y15 + 1)), none]) (st' := []) (by decide +kernel) rfl ?_
  exact b_wk (wS (wS (wS (wS (wN (wS (wN (wS (wN (wS (wN (wS (wN (wS (wN (wS (wN w0))))))))))))))))) (hk12 y1 y2 y3 y5 y7 y9 y11 z0 (y15 + 1) σ)
def f216_87 (F : Nat) (k12 : Int32 → Int32 → Int64 → Int64 → Int64 → Int64 → Int64 → Int64 → Int32 → St → Rs) (y1 : Int32) (y2 : Int32) (y3 : Int64) (y5 : Int64) (y7 : Int64) (y9 : Int64) (y13 : Int64) (y15 : Int32) (y16 : Int32) (z0 : Int64) (σ : St) : Rs := if y16 < 14 then f216_116 F k12 y1 y2 y3 y5 y7 y9 z0 y15 y13 σ
    else if inB y15 122 then lt (σ.1 1316 y15.toNatClampNeg) fun c3 => f216_116 F k12 y1 y2 y3 y5 y7 y9 z0 y15 ((y13 * 256) + ((c3 : Int32).toInt64)) σ else none
theorem s216_87 {sc : aSc} (hv : vOk sc) (F : Nat) (k12 : Int32 → Int32 → Int64 → Int64 → Int64 → Int64 → Int64 → Int64 → Int32 → St → Rs) (hk12 : ∀ y1 y2 y3 y5 y7 y9 y11 y13 y15 σ, bEx sc 0 216 12 [some (.ref 1315), some (.int y1), some (.int y2), some (.long y3), none, some (.long y5), none, some (.long y7), none, some (.long y9), none, some (.long y11), none, some (.long y13), none, some (.int y15), none] [] σ (k12 y1 y2 y3 y5 y7 y9 y11 y13 y15 σ)) (y1 : Int32) (y2 : Int32) (y3 : Int64) (y5 : Int64) (y7 : Int64) (y9 : Int64) (y13 : Int64) (y15 : Int32) (y16 : Int32) (z0 : Int64) (σ : St) : bEx sc 0 216 87 [some (.ref 1315), some (.int y1), some (.int y2), some (.long y3), none, some (.long y5), none, some (.long y7), none, some (.long y9), none, none, none, some (.long y13), none, some (.int y15), some (.int y16)] [.long z0] σ (f216_87 F k12 y1 y2 y3 y5 y7 y9 y13 y15 y16 z0 σ) := by
  unfold f216_87
  refine b_run [(87, .lstore 11, 0, 0, .null), (89, .iload 16, 0, 0, .null), (91, .bipush 14, 0, 0, .null)] (pc' := 93) (ls' := [some (.ref 1315), some (.int y1), some (.int y2), some (.long y3), none, some (.long y5), none, some (.long y7), none, some (.long y9), none, some (.long z0), none, some (.long y13), none, some (.int y15), some (.int y16)]) (st' := [.int 14, .int y16]) (by decide +kernel) rfl ?_
  refine b_icT (c := .lt) (o := 21) (t := 114) (y := 0) (w := .null) (by decide +kernel) cmp_lt (fun _ => ?_) (fun _ => ?_)
  · refine b_run [(114, .lload 13, 0, 0, .null)] (pc' := 116) (ls' := [some (.ref 1315), some (.int y1), some (.int y2), some (.long y3), none, some (.long y5), none, some (.long y7), none, some (.long y9), none, some (.long z0), none, some (.long y13), none, some (.int y15), some (.int y16)]) (st' := [.long y13]) (by decide +kernel) rfl ?_
    exact b_wk (wS (wS (wS (wS (wN (wS (wN (wS (wN (wS (wN (wS (wN (wN (wN (wS (wN w0))))))))))))))))) (s216_116 hv F k12 hk12 y1 y2 y3 y5 y7 y9 z0 y15 y13 σ)
  · refine b_run [(96, .lload 13, 0, 0, .null), (98, .ldc2_w 346, 0, 0, .long 256), (101, .lmul, 0, 0, .null), (102, .aload_n 0, 0, 0, .null)] (pc' := 103) (ls' := [some (.ref 1315), some (.int y1), some (.int y2), some (.long y3), none, some (.long y5), none, some (.long y7), none, some (.long y9), none, some (.long z0), none, some (.long y13), none, some (.int y15), some (.int y16)]) (st' := [.ref 1315, .long (y13 * 256)]) (by decide +kernel) rfl ?_
    refine b_getC (b := 1316) (q := 7) (ci := 9) (k := 2) (w := .null) (by decide +kernel) (by decide +kernel) ?_
    refine b_run [(106, .iload 15, 0, 0, .null)] (pc' := 108) (ls' := [some (.ref 1315), some (.int y1), some (.int y2), some (.long y3), none, some (.long y5), none, some (.long y7), none, some (.long y9), none, some (.long z0), none, some (.long y13), none, some (.int y15), some (.int y16)]) (st' := [.int y15, .ref 1316, .long (y13 * 256)]) (by decide +kernel) rfl ?_
    refine b_guard (fun hb => ?_)
    refine b_aI (ci := 0) (y := 0) (w := .null) (by decide +kernel) (by decide +kernel) hb (fun c3 => ?_)
    refine b_run [(109, .i2l, 0, 0, .null), (110, .ladd, 0, 0, .null), (111, .goto 5, 116, 0, .null)] (pc' := 116) (ls' := [some (.ref 1315), some (.int y1), some (.int y2), some (.long y3), none, some (.long y5), none, some (.long y7), none, some (.long y9), none, some (.long z0), none, some (.long y13), none, some (.int y15), some (.int y16)]) (st' := [.long ((y13 * 256) + ((c3 : Int32).toInt64))]) (by decide +kernel) rfl ?_
    exact b_wk (wS (wS (wS (wS (wN (wS (wN (wS (wN (wS (wN (wS (wN (wN (wN (wS (wN w0))))))))))))))))) (s216_116 hv F k12 hk12 y1 y2 y3 y5 y7 y9 z0 y15 ((y13 * 256) + ((c3 : Int32).toInt64)) σ)
def f216_85 (F : Nat) (k12 : Int32 → Int32 → Int64 → Int64 → Int64 → Int64 → Int64 → Int64 → Int32 → St → Rs) (y1 : Int32) (y2 : Int32) (y3 : Int64) (y5 : Int64) (y7 : Int64) (y9 : Int64) (y11 : Int64) (y13 : Int64) (y15 : Int32) (y16 : Int32) (σ : St) : Rs := f216_87 F k12 y1 y2 y3 y5 y7 y9 y13 y15 y16 y11 σ
theorem s216_85 {sc : aSc} (hv : vOk sc) (F : Nat) (k12 : Int32 → Int32 → Int64 → Int64 → Int64 → Int64 → Int64 → Int64 → Int32 → St → Rs) (hk12 : ∀ y1 y2 y3 y5 y7 y9 y11 y13 y15 σ, bEx sc 0 216 12 [some (.ref 1315), some (.int y1), some (.int y2), some (.long y3), none, some (.long y5), none, some (.long y7), none, some (.long y9), none, some (.long y11), none, some (.long y13), none, some (.int y15), none] [] σ (k12 y1 y2 y3 y5 y7 y9 y11 y13 y15 σ)) (y1 : Int32) (y2 : Int32) (y3 : Int64) (y5 : Int64) (y7 : Int64) (y9 : Int64) (y11 : Int64) (y13 : Int64) (y15 : Int32) (y16 : Int32) (σ : St) : bEx sc 0 216 85 [some (.ref 1315), some (.int y1), some (.int y2), some (.long y3), none, some (.long y5), none, some (.long y7), none, some (.long y9), none, some (.long y11), none, some (.long y13), none, some (.int y15), some (.int y16)] [] σ (f216_85 F k12 y1 y2 y3 y5 y7 y9 y11 y13 y15 y16 σ) := by
  unfold f216_85
  refine b_run [(85, .lload 11, 0, 0, .null)] (pc' := 87) (ls' := [some (.ref 1315), some (.int y1), some (.int y2), some (.long y3), none, some (.long y5), none, some (.long y7), none, some (.long y9), none, some (.long y11), none, some (.long y13), none, some (.int y15), some (.int y16)]) (st' := [.long y11]) (by decide +kernel) rfl ?_
  exact b_wk (wS (wS (wS (wS (wN (wS (wN (wS (wN (wS (wN (wN (wN (wS (wN (wS (wS w0))))))))))))))))) (s216_87 hv F k12 hk12 y1 y2 y3 y5 y7 y9 y13 y15 y16 y11 σ)
def f216_51 (F : Nat) (k12 : Int32 → Int32 → Int64 → Int64 → Int64 → Int64 → Int64 → Int64 → Int32 → St → Rs) (y1 : Int32) (y2 : Int32) (y3 : Int64) (y5 : Int64) (y7 : Int64) (y11 : Int64) (y13 : Int64) (y15 : Int32) (y16 : Int32) (z0 : Int64) (σ : St) : Rs := if y16 < 7 then f216_85 F k12 y1 y2 y3 y5 y7 z0 y11 y13 y15 y16 σ
    else if y16 < 14 then 
    if inB y15 122 then lt (σ.1 1316 y15.toNatClampNeg) fun c4 => f216_87 F k12 y1 y2 y3 y5 y7 z0 y13 y15 y16 ((y11 * 256) + ((c4 : Int32).toInt64)) σ else none
    else f216_85 F k12 y1 y2 y3 y5 y7 z0 y11 y13 y15 y16 σ
theorem s216_51 {sc : aSc} (hv : vOk sc) (F : Nat) (k12 : Int32 → Int32 → Int64 → Int64 → Int64 → Int64 → Int64 → Int64 → Int32 → St → Rs) (hk12 : ∀ y1 y2 y3 y5 y7 y9 y11 y13 y15 σ, bEx sc 0 216 12 [some (.ref 1315), some (.int y1), some (.int y2), some (.long y3), none, some (.long y5), none, some (.long y7), none, some (.long y9), none, some (.long y11), none, some (.long y13), none, some (.int y15), none] [] σ (k12 y1 y2 y3 y5 y7 y9 y11 y13 y15 σ)) (y1 : Int32) (y2 : Int32) (y3 : Int64) (y5 : Int64) (y7 : Int64) (y11 : Int64) (y13 : Int64) (y15 : Int32) (y16 : Int32) (z0 : Int64) (σ : St) : bEx sc 0 216 51 [some (.ref 1315), some (.int y1), some (.int y2), some (.long y3), none, some (.long y5), none, some (.long y7), none, none, none, some (.long y11), none, some (.long y13), none, some (.int y15), some (.int y16)] [.long z0] σ (f216_51 F k12 y1 y2 y3 y5 y7 y11 y13 y15 y16 z0 σ) := by
  unfold f216_51
  refine b_run [(51, .lstore 9, 0, 0, .null), (53, .iload 16, 0, 0, .null), (55, .bipush 7, 0, 0, .null)] (pc' := 57) (ls' := [some (.ref 1315), some (.int y1), some (.int y2), some (.long y3), none, some (.long y5), none, some (.long y7), none, some (.long z0), none, some (.long y11), none, some (.long y13), none, some (.int y15), some (.int y16)]) (st' := [.int 7, .int y16]) (by decide +kernel) rfl ?_
  refine b_icT (c := .lt) (o := 28) (t := 85) (y := 0) (w := .null) (by decide +kernel) cmp_lt (fun _ => ?_) (fun _ => ?_)
  · exact b_wk (wS (wS (wS (wS (wN (wS (wN (wS (wN (wS (wN (wS (wN (wS (wN (wS (wS w0))))))))))))))))) (s216_85 hv F k12 hk12 y1 y2 y3 y5 y7 z0 y11 y13 y15 y16 σ)
  · refine b_run [(60, .iload 16, 0, 0, .null), (62, .bipush 14, 0, 0, .null)] (pc' := 64) (ls' := [some (.ref 1315), some (.int y1), some (.int y2), some (.long y3), none, some (.long y5), none, some (.long y7), none, some (.long z0), none, some (.long y11), none, some (.long y13), none, some (.int y15), some (.int y16)]) (st' := [.int 14, .int y16]) (by decide +kernel) rfl ?_
    refine b_icF (c := .ge) (o := 21) (t := 85) (y := 0) (w := .null) (by decide +kernel) cmp_ge (fun _ => ?_) (fun _ => ?_)
    · refine b_run [(67, .lload 11, 0, 0, .null), (69, .ldc2_w 346, 0, 0, .long 256), (72, .lmul, 0, 0, .null), (73, .aload_n 0, 0, 0, .null)] (pc' := 74) (ls' := [some (.ref 1315), some (.int y1), some (.int y2), some (.long y3), none, some (.long y5), none, some (.long y7), none, some (.long z0), none, some (.long y11), none, some (.long y13), none, some (.int y15), some (.int y16)]) (st' := [.ref 1315, .long (y11 * 256)]) (by decide +kernel) rfl ?_
      refine b_getC (b := 1316) (q := 7) (ci := 9) (k := 2) (w := .null) (by decide +kernel) (by decide +kernel) ?_
      refine b_run [(77, .iload 15, 0, 0, .null)] (pc' := 79) (ls' := [some (.ref 1315), some (.int y1), some (.int y2), some (.long y3), none, some (.long y5), none, some (.long y7), none, some (.long z0), none, some (.long y11), none, some (.long y13), none, some (.int y15), some (.int y16)]) (st' := [.int y15, .ref 1316, .long (y11 * 256)]) (by decide +kernel) rfl ?_
      refine b_guard (fun hb => ?_)
      refine b_aI (ci := 0) (y := 0) (w := .null) (by decide +kernel) (by decide +kernel) hb (fun c4 => ?_)
      refine b_run [(80, .i2l, 0, 0, .null), (81, .ladd, 0, 0, .null), (82, .goto 5, 87, 0, .null)] (pc' := 87) (ls' := [some (.ref 1315), some (.int y1), some (.int y2), some (.long y3), none, some (.long y5), none, some (.long y7), none, some (.long z0), none, some (.long y11), none, some (.long y13), none, some (.int y15), some (.int y16)]) (st' := [.long ((y11 * 256) + ((c4 : Int32).toInt64))]) (by decide +kernel) rfl ?_
      exact b_wk (wS (wS (wS (wS (wN (wS (wN (wS (wN (wS (wN (wN (wN (wS (wN (wS (wS w0))))))))))))))))) (s216_87 hv F k12 hk12 y1 y2 y3 y5 y7 z0 y13 y15 y16 ((y11 * 256) + ((c4 : Int32).toInt64)) σ)
    · exact b_wk (wS (wS (wS (wS (wN (wS (wN (wS (wN (wS (wN (wS (wN (wS (wN (wS (wS w0))))))))))))))))) (s216_85 hv F k12 hk12 y1 y2 y3 y5 y7 z0 y11 y13 y15 y16 σ)
def f216_12 (F : Nat) : Nat → Int32 → Int32 → Int64 → Int64 → Int64 → Int64 → Int64 → Int64 → Int32 → St → Rs
  | 0, _, _, _, _, _, _, _, _, _, _ => none
  | n + 1, y1, y2, y3, y5, y7, y9, y11, y13, y15, σ => if y15 < y2 then 
    lt (y15 - y1) fun c1 => 
    if c1 < 7 then 
    if inB y15 122 then lt (σ.1 1316 y15.toNatClampNeg) fun c2 => f216_51 F (f216_12 F n) y1 y2 y3 y5 y7 y11 y13 y15 c1 ((y9 * 256) + ((c2 : Int32).toInt64)) σ else none
    else f216_51 F (f216_12 F n) y1 y2 y3 y5 y7 y11 y13 y15 c1 y9 σ
    else if 21 < y2 - y1 then oI 0 σ
    else if lg_cmp y9 y3 = 0 then 
    if lg_cmp y11 y5 = 0 then 
    if lg_cmp y13 y7 = 0 then oI 1 σ
    else oI 0 σ
    else oI 0 σ
    else oI 0 σ
theorem s216_12 {sc : aSc} (hv : vOk sc) (F : Nat) : ∀ (n : Nat) (y1 : Int32) (y2 : Int32) (y3 : Int64) (y5 : Int64) (y7 : Int64) (y9 : Int64) (y11 : Int64) (y13 : Int64) (y15 : Int32) (σ : St), bEx sc 0 216 12 [some (.ref 1315), some (.int y1), some (.int y2), some (.long y3), none, some (.long y5), none, some (.long y7), none, some (.long y9), none, some (.long y11), none, some (.long y13), none, some (.int y15), none] [] σ (f216_12 F n y1 y2 y3 y5 y7 y9 y11 y13 y15 σ) := by
  intro n
  induction n with
  | zero => intro y1 y2 y3 y5 y7 y9 y11 y13 y15 σ; exact b_none
  | succ n ih =>
    intro y1 y2 y3 y5 y7 y9 y11 y13 y15 σ
    rw [f216_12.eq_2]
    refine b_run [(12, .iload 15, 0, 0, .null), (14, .iload_n 2, 0, 0, .null)] (pc' := 15) (ls' := [some (.ref 1315), some (.int y1), some (.int y2), some (.long y3), none, some (.long y5), none, some (.long y7), none, some (.long y9), none, some (.long y11), none, some (.long y13), none, some (.int y15), none]) (st' := [.int y2, .int y15]) (by decide +kernel) rfl ?_
    refine b_icF (c := .ge) (o := 109) (t := 124) (y := 0) (w := .null) (by decide +kernel) cmp_ge (fun _ => ?_) (fun _ => ?_)
    · refine b_run [(18, .iload 15, 0, 0, .null), (20, .iload_n 1, 0, 0, .null), (21, .isub, 0, 0, .null), (22, .istore 16, 0, 0, .null)] (pc' := 24) (ls' := [some (.ref 1315), some (.int y1), some (.int y2), some (.long y3), none, some (.long y5), none, some (.long y7), none, some (.long y9), none, some (.long y11), none, some (.long y13), none, some (.int y15), some (.int (y15 - y1))]) (st' := []) (by decide +kernel) rfl ?_
      refine b_let (y15 - y1) (L := fun c1 => [some (.ref 1315), some (.int y1), some (.int y2), some (.long y3), none, some (.long y5), none, some (.long y7), none, some (.long y9), none, some (.long y11), none, some (.long y13), none, some (.int y15), some (.int c1)]) (S := fun _ => []) (fun c1 => ?_)
      refine b_run [(24, .iload 16, 0, 0, .null), (26, .bipush 7, 0, 0, .null)] (pc' := 28) (ls' := [some (.ref 1315), some (.int y1), some (.int y2), some (.long y3), none, some (.long y5), none, some (.long y7), none, some (.long y9), none, some (.long y11), none, some (.long y13), none, some (.int y15), some (.int c1)]) (st' := [.int 7, .int c1]) (by decide +kernel) rfl ?_
      refine b_icF (c := .ge) (o := 21) (t := 49) (y := 0) (w := .null) (by decide +kernel) cmp_ge (fun _ => ?_) (fun _ => ?_)
      · refine b_run [(31, .lload 9, 0, 0, .null), (33, .ldc2_w 346, 0, 0, .long 256), (36, .lmul, 0, 0, .null), (37, .aload_n 0, 0, 0, .null)] (pc' := 38) (ls' := [some (.ref 1315), some (.int y1), some (.int y2), some (.long y3), none, some (.long y5), none, some (.long y7), none, some (.long y9), none, some (.long y11), none, some (.long y13), none, some (.int y15), some (.int c1)]) (st' := [.ref 1315, .long (y9 * 256)]) (by decide +kernel) rfl ?_
        refine b_getC (b := 1316) (q := 7) (ci := 9) (k := 2) (w := .null) (by decide +kernel) (by decide +kernel) ?_
        refine b_run [(41, .iload 15, 0, 0, .null)] (pc' := 43) (ls' := [some (.ref 1315), some (.int y1), some (.int y2), some (.long y3), none, some (.long y5), none, some (.long y7), none, some (.long y9), none, some (.long y11), none, some (.long y13), none, some (.int y15), some (.int c1)]) (st' := [.int y15, .ref 1316, .long (y9 * 256)]) (by decide +kernel) rfl ?_
        refine b_guard (fun hb => ?_)
        refine b_aI (ci := 0) (y := 0) (w := .null) (by decide +kernel) (by decide +kernel) hb (fun c2 => ?_)
        refine b_run [(44, .i2l, 0, 0, .null), (45, .ladd, 0, 0, .null), (46, .goto 5, 51, 0, .null)] (pc' := 51) (ls' := [some (.ref 1315), some (.int y1), some (.int y2), some (.long y3), none, some (.long y5), none, some (.long y7), none, some (.long y9), none, some (.long y11), none, some (.long y13), none, some (.int y15), some (.int c1)]) (st' := [.long ((y9 * 256) + ((c2 : Int32).toInt64))]) (by decide +kernel) rfl ?_
        exact b_wk (wS (wS (wS (wS (wN (wS (wN (wS (wN (wN (wN (wS (wN (wS (wN (wS (wS w0))))))))))))))))) (s216_51 hv F (f216_12 F n) ih y1 y2 y3 y5 y7 y11 y13 y15 c1 ((y9 * 256) + ((c2 : Int32).toInt64)) σ)
      · refine b_run [(49, .lload 9, 0, 0, .null)] (pc' := 51) (ls' := [some (.ref 1315), some (.int y1), some (.int y2), some (.long y3), none, some (.long y5), none, some (.long y7), none, some (.long y9), none, some (.long y11), none, some (.long y13), none, some (.int y15), some (.int c1)]) (st' := [.long y9]) (by decide +kernel) rfl ?_
        exact b_wk (wS (wS (wS (wS (wN (wS (wN (wS (wN (wN (wN (wS (wN (wS (wN (wS (wS w0))))))))))))))))) (s216_51 hv F (f216_12 F n) ih y1 y2 y3 y5 y7 y11 y13 y15 c1 y9 σ)
    · refine b_run [(124, .iload_n 2, 0, 0, .null), (125, .iload_n 1, 0, 0, .null), (126, .isub, 0, 0, .null), (127, .bipush 21, 0, 0, .null)] (pc' := 129) (ls' := [some (.ref 1315), some (.int y1), some (.int y2), some (.long y3), none, some (.long y5), none, some (.long y7), none, some (.long y9), none, some (.long y11), none, some (.long y13), none, some (.int y15), none]) (st' := [.int 21, .int (y2 - y1)]) (by decide +kernel) rfl ?_
      refine b_icT (c := .gt) (o := 30) (t := 159) (y := 0) (w := .null) (by decide +kernel) cmp_gt (fun _ => ?_) (fun _ => ?_)
      · refine b_run [(159, .iconst 0, 0, 0, .null)] (pc' := 160) (ls' := [some (.ref 1315), some (.int y1), some (.int y2), some (.long y3), none, some (.long y5), none, some (.long y7), none, some (.long y9), none, some (.long y11), none, some (.long y13), none, some (.int y15), none]) (st' := [.int 0]) (by decide +kernel) rfl ?_
        exact b_ret (i := (.ireturn, 0, 0, .null)) (by decide +kernel) rfl rfl (by decide +kernel)
      · refine b_run [(132, .lload 9, 0, 0, .null), (134, .lload_n 3, 0, 0, .null), (135, .lcmp, 0, 0, .null)] (pc' := 136) (ls' := [some (.ref 1315), some (.int y1), some (.int y2), some (.long y3), none, some (.long y5), none, some (.long y7), none, some (.long y9), none, some (.long y11), none, some (.long y13), none, some (.int y15), none]) (st' := [.int (lg_cmp y9 y3)]) (by decide +kernel) rfl ?_
        refine b_izF (c := .ne) (o := 23) (t := 159) (y := 0) (w := .null) (by decide +kernel) cmp_ne (fun _ => ?_) (fun _ => ?_)
        · refine b_run [(139, .lload 11, 0, 0, .null), (141, .lload 5, 0, 0, .null), (143, .lcmp, 0, 0, .null)] (pc' := 144) (ls' := [some (.ref 1315), some (.int y1), some (.int y2), some (.long y3), none, some (.long y5), none, some (.long y7), none, some (.long y9), none, some (.long y11), none, some (.long y13), none, some (.int y15), none]) (st' := [.int (lg_cmp y11 y5)]) (by decide +kernel) rfl ?_
          refine b_izF (c := .ne) (o := 15) (t := 159) (y := 0) (w := .null) (by decide +kernel) cmp_ne (fun _ => ?_) (fun _ => ?_)
          · refine b_run [(147, .lload 13, 0, 0, .null), (149, .lload 7, 0, 0, .null), (151, .lcmp, 0, 0, .null)] (pc' := 152) (ls' := [some (.ref 1315), some (.int y1), some (.int y2), some (.long y3), none, some (.long y5), none, some (.long y7), none, some (.long y9), none, some (.long y11), none, some (.long y13), none, some (.int y15), none]) (st' := [.int (lg_cmp y13 y7)]) (by decide +kernel) rfl ?_
            refine b_izF (c := .ne) (o := 7) (t := 159) (y := 0) (w := .null) (by decide +kernel) cmp_ne (fun _ => ?_) (fun _ => ?_)
            · refine b_run [(155, .iconst 1, 0, 0, .null), (156, .goto 4, 160, 0, .null)] (pc' := 160) (ls' := [some (.ref 1315), some (.int y1), some (.int y2), some (.long y3), none, some (.long y5), none, some (.long y7), none, some (.long y9), none, some (.long y11), none, some (.long y13), none, some (.int y15), none]) (st' := [.int 1]) (by decide +kernel) rfl ?_
              exact b_ret (i := (.ireturn, 0, 0, .null)) (by decide +kernel) rfl rfl (by decide +kernel)
            · refine b_run [(159, .iconst 0, 0, 0, .null)] (pc' := 160) (ls' := [some (.ref 1315), some (.int y1), some (.int y2), some (.long y3), none, some (.long y5), none, some (.long y7), none, some (.long y9), none, some (.long y11), none, some (.long y13), none, some (.int y15), none]) (st' := [.int 0]) (by decide +kernel) rfl ?_
              exact b_ret (i := (.ireturn, 0, 0, .null)) (by decide +kernel) rfl rfl (by decide +kernel)
          · refine b_run [(159, .iconst 0, 0, 0, .null)] (pc' := 160) (ls' := [some (.ref 1315), some (.int y1), some (.int y2), some (.long y3), none, some (.long y5), none, some (.long y7), none, some (.long y9), none, some (.long y11), none, some (.long y13), none, some (.int y15), none]) (st' := [.int 0]) (by decide +kernel) rfl ?_
            exact b_ret (i := (.ireturn, 0, 0, .null)) (by decide +kernel) rfl rfl (by decide +kernel)
        · refine b_run [(159, .iconst 0, 0, 0, .null)] (pc' := 160) (ls' := [some (.ref 1315), some (.int y1), some (.int y2), some (.long y3), none, some (.long y5), none, some (.long y7), none, some (.long y9), none, some (.long y11), none, some (.long y13), none, some (.int y15), none]) (st' := [.int 0]) (by decide +kernel) rfl ?_
          exact b_ret (i := (.ireturn, 0, 0, .null)) (by decide +kernel) rfl rfl (by decide +kernel)
/-- TreeStoreModel.spells(IIJJJ)Z -/
def f216 (F : Nat) (x1 : Int32) (x2 : Int32) (x3 : Int64) (x5 : Int64) (x7 : Int64) (σ : St) : Rs := f216_12 F F x1 x2 x3 x5 x7 0 0 0 x1 σ
theorem s216 {sc : aSc} (hv : vOk sc) (F : Nat) (x1 : Int32) (x2 : Int32) (x3 : Int64) (x5 : Int64) (x7 : Int64) (σ : St) : bEx sc 0 216 0 [some (.ref 1315), some (.int x1), some (.int x2), some (.long x3), none, some (.long x5), none, some (.long x7), none, none, none, none, none, none, none, none, none] [] σ (f216 F x1 x2 x3 x5 x7 σ) := by
  unfold f216
  refine b_run [(0, .lconst 0, 0, 0, .null), (1, .lstore 9, 0, 0, .null), (3, .lconst 0, 0, 0, .null), (4, .lstore 11, 0, 0, .null), (6, .lconst 0, 0, 0, .null), (7, .lstore 13, 0, 0, .null), (9, .iload_n 1, 0, 0, .null), (10, .istore 15, 0, 0, .null)] (pc' := 12) (ls' := [some (.ref 1315), some (.int x1), some (.int x2), some (.long x3), none, some (.long x5), none, some (.long x7), none, some (.long 0), none, some (.long 0), none, some (.long 0), none, some (.int x1), none]) (st' := []) (by decide +kernel) rfl ?_
  exact b_wk (wS (wS (wS (wS (wN (wS (wN (wS (wN (wS (wN (wS (wN (wS (wN (wS (wN w0))))))))))))))))) (s216_12 hv F F x1 x2 x3 x5 x7 0 0 0 x1 σ)
/-- TreeStoreModel.axis(II)I -/
def f215 (F : Nat) (x1 : Int32) (x2 : Int32) (σ : St) : Rs := cJ (f214 F x1 x2 σ) fun c2 σ1 => 
    if lg_cmp c2 426953501796 = 0 then oI 0 σ1
    else if lg_cmp c2 123563833388660 = 0 then oI 2 σ1
    else if lg_cmp c2 7020658156497039218 = 0 then oI 3 σ1
    else if lg_cmp c2 1936026726 = 0 then oI 4 σ1
    else cI (f216 F x1 x2 28259043934301796 6385268 0 σ1) fun c4 σ3 => 
    if c4 = 0 then 
    cI (f216 F x1 x2 27431116225471093 29797 0 σ3) fun c6 σ5 => 
    if c6 = 0 then 
    cI (f216 F x1 x2 28832959090882409 28263 0 σ5) fun c8 σ7 => 
    if c8 = 0 then 
    cI (f216 F x1 x2 31650977176446057 28263 0 σ7) fun c10 σ9 => 
    if c10 = 0 then 
    cI (f216 F x1 x2 28832959090882409 31075692345647724 6909543 σ9) fun c12 σ11 => 
    if c12 = 0 then 
    cI (f216 F x1 x2 31650977176446057 31075692345647724 6909543 σ11) fun c14 σ13 => 
    if c14 = 0 then 
    cI (f216 F x1 x2 28259043934301796 27424517998473773 1936026726 σ13) fun c16 σ15 => 
    if c16 = 0 then 
    cI (f216 F x1 x2 27424445923816559 32138104025215845 27750 σ15) fun c18 σ17 => 
    if c18 = 0 then oI ((-1)) σ17
    else oI 11 σ17
    else oI 10 σ15
    else oI 7 σ13
    else oI 6 σ11
    else oI 9 σ9
    else oI 8 σ7
    else oI 5 σ5
    else oI 1 σ3
theorem s215 {sc : aSc} (hv : vOk sc) (F : Nat) (x1 : Int32) (x2 : Int32) (σ : St) : bEx sc 1 215 0 [some (.ref 1315), some (.int x1), some (.int x2), none, none] [] σ (f215 F x1 x2 σ) := by
  unfold f215
  refine b_run [(0, .aload_n 0, 0, 0, .null), (1, .iload_n 1, 0, 0, .null), (2, .iload_n 2, 0, 0, .null)] (pc' := 3) (ls' := [some (.ref 1315), some (.int x1), some (.int x2), none, none]) (st' := [.int x2, .int x1, .ref 1315]) (by decide +kernel) rfl ?_
  refine b_callJ 214 3 [.ref 1315, .int x1, .int x2] (rest := []) (by decide +kernel) rfl rfl rfl (go_O rfl (by decide +kernel) (by decide +kernel : isO 1315 9 = true)) rfl (s214 hv F x1 x2 σ) (by decide) (fun c2 σ1 => ?_)
  refine b_run [(6, .lstore_n 3, 0, 0, .null), (7, .lload_n 3, 0, 0, .null), (8, .ldc2_w 354, 0, 0, .long 426953501796), (11, .lcmp, 0, 0, .null)] (pc' := 12) (ls' := [some (.ref 1315), some (.int x1), some (.int x2), some (.long c2), none]) (st' := [.int (lg_cmp c2 426953501796)]) (by decide +kernel) rfl ?_
  refine b_izF (c := .ne) (o := 5) (t := 17) (y := 0) (w := .null) (by decide +kernel) cmp_ne (fun _ => ?_) (fun _ => ?_)
  · refine b_run [(15, .iconst 0, 0, 0, .null)] (pc' := 16) (ls' := [some (.ref 1315), some (.int x1), some (.int x2), some (.long c2), none]) (st' := [.int 0]) (by decide +kernel) rfl ?_
    exact b_ret (i := (.ireturn, 0, 0, .null)) (by decide +kernel) rfl rfl (fit_I _)
  · refine b_run [(17, .lload_n 3, 0, 0, .null), (18, .ldc2_w 356, 0, 0, .long 123563833388660), (21, .lcmp, 0, 0, .null)] (pc' := 22) (ls' := [some (.ref 1315), some (.int x1), some (.int x2), some (.long c2), none]) (st' := [.int (lg_cmp c2 123563833388660)]) (by decide +kernel) rfl ?_
    refine b_izF (c := .ne) (o := 5) (t := 27) (y := 0) (w := .null) (by decide +kernel) cmp_ne (fun _ => ?_) (fun _ => ?_)
    · refine b_run [(25, .iconst 2, 0, 0, .null)] (pc' := 26) (ls' := [some (.ref 1315), some (.int x1), some (.int x2), some (.long c2), none]) (st' := [.int 2]) (by decide +kernel) rfl ?_
      exact b_ret (i := (.ireturn, 0, 0, .null)) (by decide +kernel) rfl rfl (fit_I _)
    · refine b_run [(27, .lload_n 3, 0, 0, .null), (28, .ldc2_w 358, 0, 0, .long 7020658156497039218), (31, .lcmp, 0, 0, .null)] (pc' := 32) (ls' := [some (.ref 1315), some (.int x1), some (.int x2), some (.long c2), none]) (st' := [.int (lg_cmp c2 7020658156497039218)]) (by decide +kernel) rfl ?_
      refine b_izF (c := .ne) (o := 5) (t := 37) (y := 0) (w := .null) (by decide +kernel) cmp_ne (fun _ => ?_) (fun _ => ?_)
      · refine b_run [(35, .iconst 3, 0, 0, .null)] (pc' := 36) (ls' := [some (.ref 1315), some (.int x1), some (.int x2), some (.long c2), none]) (st' := [.int 3]) (by decide +kernel) rfl ?_
        exact b_ret (i := (.ireturn, 0, 0, .null)) (by decide +kernel) rfl rfl (fit_I _)
      · refine b_run [(37, .lload_n 3, 0, 0, .null), (38, .ldc2_w 360, 0, 0, .long 1936026726), (41, .lcmp, 0, 0, .null)] (pc' := 42) (ls' := [some (.ref 1315), some (.int x1), some (.int x2), some (.long c2), none]) (st' := [.int (lg_cmp c2 1936026726)]) (by decide +kernel) rfl ?_
        refine b_izF (c := .ne) (o := 5) (t := 47) (y := 0) (w := .null) (by decide +kernel) cmp_ne (fun _ => ?_) (fun _ => ?_)
        · refine b_run [(45, .iconst 4, 0, 0, .null)] (pc' := 46) (ls' := [some (.ref 1315), some (.int x1), some (.int x2), some (.long c2), none]) (st' := [.int 4]) (by decide +kernel) rfl ?_
          exact b_ret (i := (.ireturn, 0, 0, .null)) (by decide +kernel) rfl rfl (fit_I _)
        · refine b_run [(47, .aload_n 0, 0, 0, .null), (48, .iload_n 1, 0, 0, .null), (49, .iload_n 2, 0, 0, .null), (50, .ldc2_w 362, 0, 0, .long 28259043934301796), (53, .ldc2_w 364, 0, 0, .long 6385268), (56, .lconst 0, 0, 0, .null)] (pc' := 57) (ls' := [some (.ref 1315), some (.int x1), some (.int x2), some (.long c2), none]) (st' := [.long 0, .long 6385268, .long 28259043934301796, .int x2, .int x1, .ref 1315]) (by decide +kernel) rfl ?_
          refine b_callI 216 6 [.ref 1315, .int x1, .int x2, .long 28259043934301796, .long 6385268, .long 0] (rest := []) (by decide +kernel) rfl rfl rfl (go_O rfl (by decide +kernel) (by decide +kernel : isO 1315 9 = true)) rfl (s216 hv F x1 x2 28259043934301796 6385268 0 σ1) (by decide) (fun c4 σ3 => ?_)
          refine b_izT (c := .eq) (o := 5) (t := 65) (y := 0) (w := .null) (by decide +kernel) cmp_eq (fun _ => ?_) (fun _ => ?_)
          · refine b_run [(65, .aload_n 0, 0, 0, .null), (66, .iload_n 1, 0, 0, .null), (67, .iload_n 2, 0, 0, .null), (68, .ldc2_w 370, 0, 0, .long 27431116225471093), (71, .ldc2_w 372, 0, 0, .long 29797), (74, .lconst 0, 0, 0, .null)] (pc' := 75) (ls' := [some (.ref 1315), some (.int x1), some (.int x2), some (.long c2), none]) (st' := [.long 0, .long 29797, .long 27431116225471093, .int x2, .int x1, .ref 1315]) (by decide +kernel) rfl ?_
            refine b_callI 216 6 [.ref 1315, .int x1, .int x2, .long 27431116225471093, .long 29797, .long 0] (rest := []) (by decide +kernel) rfl rfl rfl (go_O rfl (by decide +kernel) (by decide +kernel : isO 1315 9 = true)) rfl (s216 hv F x1 x2 27431116225471093 29797 0 σ3) (by decide) (fun c6 σ5 => ?_)
            refine b_izT (c := .eq) (o := 5) (t := 83) (y := 0) (w := .null) (by decide +kernel) cmp_eq (fun _ => ?_) (fun _ => ?_)
            · refine b_run [(83, .aload_n 0, 0, 0, .null), (84, .iload_n 1, 0, 0, .null), (85, .iload_n 2, 0, 0, .null), (86, .ldc2_w 374, 0, 0, .long 28832959090882409), (89, .ldc2_w 376, 0, 0, .long 28263), (92, .lconst 0, 0, 0, .null)] (pc' := 93) (ls' := [some (.ref 1315), some (.int x1), some (.int x2), some (.long c2), none]) (st' := [.long 0, .long 28263, .long 28832959090882409, .int x2, .int x1, .ref 1315]) (by decide +kernel) rfl ?_
              refine b_callI 216 6 [.ref 1315, .int x1, .int x2, .long 28832959090882409, .long 28263, .long 0] (rest := []) (by decide +kernel) rfl rfl rfl (go_O rfl (by decide +kernel) (by decide +kernel : isO 1315 9 = true)) rfl (s216 hv F x1 x2 28832959090882409 28263 0 σ5) (by decide) (fun c8 σ7 => ?_)
              refine b_izT (c := .eq) (o := 6) (t := 102) (y := 0) (w := .null) (by decide +kernel) cmp_eq (fun _ => ?_) (fun _ => ?_)
              · refine b_run [(102, .aload_n 0, 0, 0, .null), (103, .iload_n 1, 0, 0, .null), (104, .iload_n 2, 0, 0, .null), (105, .ldc2_w 378, 0, 0, .long 31650977176446057), (108, .ldc2_w 376, 0, 0, .long 28263), (111, .lconst 0, 0, 0, .null)] (pc' := 112) (ls' := [some (.ref 1315), some (.int x1), some (.int x2), some (.long c2), none]) (st' := [.long 0, .long 28263, .long 31650977176446057, .int x2, .int x1, .ref 1315]) (by decide +kernel) rfl ?_
                refine b_callI 216 6 [.ref 1315, .int x1, .int x2, .long 31650977176446057, .long 28263, .long 0] (rest := []) (by decide +kernel) rfl rfl rfl (go_O rfl (by decide +kernel) (by decide +kernel : isO 1315 9 = true)) rfl (s216 hv F x1 x2 31650977176446057 28263 0 σ7) (by decide) (fun c10 σ9 => ?_)
                refine b_izT (c := .eq) (o := 6) (t := 121) (y := 0) (w := .null) (by decide +kernel) cmp_eq (fun _ => ?_) (fun _ => ?_)
                · refine b_run [(121, .aload_n 0, 0, 0, .null), (122, .iload_n 1, 0, 0, .null), (123, .iload_n 2, 0, 0, .null), (124, .ldc2_w 374, 0, 0, .long 28832959090882409), (127, .ldc2_w 380, 0, 0, .long 31075692345647724), (130, .ldc2_w 382, 0, 0, .long 6909543)] (pc' := 133) (ls' := [some (.ref 1315), some (.int x1), some (.int x2), some (.long c2), none]) (st' := [.long 6909543, .long 31075692345647724, .long 28832959090882409, .int x2, .int x1, .ref 1315]) (by decide +kernel) rfl ?_
                  refine b_callI 216 6 [.ref 1315, .int x1, .int x2, .long 28832959090882409, .long 31075692345647724, .long 6909543] (rest := []) (by decide +kernel) rfl rfl rfl (go_O rfl (by decide +kernel) (by decide +kernel : isO 1315 9 = true)) rfl (s216 hv F x1 x2 28832959090882409 31075692345647724 6909543 σ9) (by decide) (fun c12 σ11 => ?_)
                  refine b_izT (c := .eq) (o := 6) (t := 142) (y := 0) (w := .null) (by decide +kernel) cmp_eq (fun _ => ?_) (fun _ => ?_)
                  · refine b_run [(142, .aload_n 0, 0, 0, .null), (143, .iload_n 1, 0, 0, .null), (144, .iload_n 2, 0, 0, .null), (145, .ldc2_w 378, 0, 0, .long 31650977176446057), (148, .ldc2_w 380, 0, 0, .long 31075692345647724), (151, .ldc2_w 382, 0, 0, .long 6909543)] (pc' := 154) (ls' := [some (.ref 1315), some (.int x1), some (.int x2), some (.long c2), none]) (st' := [.long 6909543, .long 31075692345647724, .long 31650977176446057, .int x2, .int x1, .ref 1315]) (by decide +kernel) rfl ?_
                    refine b_callI 216 6 [.ref 1315, .int x1, .int x2, .long 31650977176446057, .long 31075692345647724, .long 6909543] (rest := []) (by decide +kernel) rfl rfl rfl (go_O rfl (by decide +kernel) (by decide +kernel : isO 1315 9 = true)) rfl (s216 hv F x1 x2 31650977176446057 31075692345647724 6909543 σ11) (by decide) (fun c14 σ13 => ?_)
                    refine b_izT (c := .eq) (o := 6) (t := 163) (y := 0) (w := .null) (by decide +kernel) cmp_eq (fun _ => ?_) (fun _ => ?_)
                    · refine b_run [(163, .aload_n 0, 0, 0, .null), (164, .iload_n 1, 0, 0, .null), (165, .iload_n 2, 0, 0, .null), (166, .ldc2_w 362, 0, 0, .long 28259043934301796), (169, .ldc2_w 384, 0, 0, .long 27424517998473773), (172, .ldc2_w 360, 0, 0, .long 1936026726)] (pc' := 175) (ls' := [some (.ref 1315), some (.int x1), some (.int x2), some (.long c2), none]) (st' := [.long 1936026726, .long 27424517998473773, .long 28259043934301796, .int x2, .int x1, .ref 1315]) (by decide +kernel) rfl ?_
                      refine b_callI 216 6 [.ref 1315, .int x1, .int x2, .long 28259043934301796, .long 27424517998473773, .long 1936026726] (rest := []) (by decide +kernel) rfl rfl rfl (go_O rfl (by decide +kernel) (by decide +kernel : isO 1315 9 = true)) rfl (s216 hv F x1 x2 28259043934301796 27424517998473773 1936026726 σ13) (by decide) (fun c16 σ15 => ?_)
                      refine b_izT (c := .eq) (o := 6) (t := 184) (y := 0) (w := .null) (by decide +kernel) cmp_eq (fun _ => ?_) (fun _ => ?_)
                      · refine b_run [(184, .aload_n 0, 0, 0, .null), (185, .iload_n 1, 0, 0, .null), (186, .iload_n 2, 0, 0, .null), (187, .ldc2_w 386, 0, 0, .long 27424445923816559), (190, .ldc2_w 388, 0, 0, .long 32138104025215845), (193, .ldc2_w 390, 0, 0, .long 27750)] (pc' := 196) (ls' := [some (.ref 1315), some (.int x1), some (.int x2), some (.long c2), none]) (st' := [.long 27750, .long 32138104025215845, .long 27424445923816559, .int x2, .int x1, .ref 1315]) (by decide +kernel) rfl ?_
                        refine b_callI 216 6 [.ref 1315, .int x1, .int x2, .long 27424445923816559, .long 32138104025215845, .long 27750] (rest := []) (by decide +kernel) rfl rfl rfl (go_O rfl (by decide +kernel) (by decide +kernel : isO 1315 9 = true)) rfl (s216 hv F x1 x2 27424445923816559 32138104025215845 27750 σ15) (by decide) (fun c18 σ17 => ?_)
                        refine b_izT (c := .eq) (o := 8) (t := 207) (y := 0) (w := .null) (by decide +kernel) cmp_eq (fun _ => ?_) (fun _ => ?_)
                        · refine b_run [(207, .iconst (-1), 0, 0, .null)] (pc' := 208) (ls' := [some (.ref 1315), some (.int x1), some (.int x2), some (.long c2), none]) (st' := [.int ((-1))]) (by decide +kernel) rfl ?_
                          exact b_ret (i := (.ireturn, 0, 0, .null)) (by decide +kernel) rfl rfl (fit_I _)
                        · refine b_run [(202, .bipush 11, 0, 0, .null), (204, .goto 4, 208, 0, .null)] (pc' := 208) (ls' := [some (.ref 1315), some (.int x1), some (.int x2), some (.long c2), none]) (st' := [.int 11]) (by decide +kernel) rfl ?_
                          exact b_ret (i := (.ireturn, 0, 0, .null)) (by decide +kernel) rfl rfl (fit_I _)
                      · refine b_run [(181, .bipush 10, 0, 0, .null)] (pc' := 183) (ls' := [some (.ref 1315), some (.int x1), some (.int x2), some (.long c2), none]) (st' := [.int 10]) (by decide +kernel) rfl ?_
                        exact b_ret (i := (.ireturn, 0, 0, .null)) (by decide +kernel) rfl rfl (fit_I _)
                    · refine b_run [(160, .bipush 7, 0, 0, .null)] (pc' := 162) (ls' := [some (.ref 1315), some (.int x1), some (.int x2), some (.long c2), none]) (st' := [.int 7]) (by decide +kernel) rfl ?_
                      exact b_ret (i := (.ireturn, 0, 0, .null)) (by decide +kernel) rfl rfl (fit_I _)
                  · refine b_run [(139, .bipush 6, 0, 0, .null)] (pc' := 141) (ls' := [some (.ref 1315), some (.int x1), some (.int x2), some (.long c2), none]) (st' := [.int 6]) (by decide +kernel) rfl ?_
                    exact b_ret (i := (.ireturn, 0, 0, .null)) (by decide +kernel) rfl rfl (fit_I _)
                · refine b_run [(118, .bipush 9, 0, 0, .null)] (pc' := 120) (ls' := [some (.ref 1315), some (.int x1), some (.int x2), some (.long c2), none]) (st' := [.int 9]) (by decide +kernel) rfl ?_
                  exact b_ret (i := (.ireturn, 0, 0, .null)) (by decide +kernel) rfl rfl (fit_I _)
              · refine b_run [(99, .bipush 8, 0, 0, .null)] (pc' := 101) (ls' := [some (.ref 1315), some (.int x1), some (.int x2), some (.long c2), none]) (st' := [.int 8]) (by decide +kernel) rfl ?_
                exact b_ret (i := (.ireturn, 0, 0, .null)) (by decide +kernel) rfl rfl (fit_I _)
            · refine b_run [(81, .iconst 5, 0, 0, .null)] (pc' := 82) (ls' := [some (.ref 1315), some (.int x1), some (.int x2), some (.long c2), none]) (st' := [.int 5]) (by decide +kernel) rfl ?_
              exact b_ret (i := (.ireturn, 0, 0, .null)) (by decide +kernel) rfl rfl (fit_I _)
          · refine b_run [(63, .iconst 1, 0, 0, .null)] (pc' := 64) (ls' := [some (.ref 1315), some (.int x1), some (.int x2), some (.long c2), none]) (st' := [.int 1]) (by decide +kernel) rfl ?_
            exact b_ret (i := (.ireturn, 0, 0, .null)) (by decide +kernel) rfl rfl (fit_I _)
def f211_50 (F : Nat) (y2 : Int32) (z1 : Int32) (z2 : Int32) (σ : St) : Rs := lt (uI σ 1315 32 (z1 + z2)) fun σ8 => 
    if y2 = 0 then cV (f209 F 4 4 0 0 σ8) fun σ9 => oI 4 σ9
    else cV (f209 F 2 4 0 0 σ8) fun σ11 => oI 4 σ11
theorem s211_50 {sc : aSc} (hv : vOk sc) (F : Nat) (y2 : Int32) (z1 : Int32) (z2 : Int32) (σ : St) : bEx sc 4 211 50 [some (.ref 1315), none, some (.int y2), none] [.int z2, .int z1, .ref 1315] σ (f211_50 F y2 z1 z2 σ) := by
  unfold f211_50
  refine b_run [(50, .iadd, 0, 0, .null)] (pc' := 51) (ls' := [some (.ref 1315), none, some (.int y2), none]) (st' := [.int (z1 + z2), .ref 1315]) (by decide +kernel) rfl ?_
  refine b_pI (q := 181) (ci := 9) (k := 32) (w := .null) (by decide +kernel) (by decide +kernel) (fit_I _) (fun σ8 => ?_)
  refine b_run [(54, .aload_n 0, 0, 0, .null), (55, .iload_n 2, 0, 0, .null)] (pc' := 56) (ls' := [some (.ref 1315), none, some (.int y2), none]) (st' := [.int y2, .ref 1315]) (by decide +kernel) rfl ?_
  refine b_izT (c := .eq) (o := 7) (t := 63) (y := 0) (w := .null) (by decide +kernel) cmp_eq (fun _ => ?_) (fun _ => ?_)
  · refine b_run [(63, .iconst 4, 0, 0, .null), (64, .iconst 4, 0, 0, .null), (65, .iconst 0, 0, 0, .null), (66, .iconst 0, 0, 0, .null)] (pc' := 67) (ls' := [some (.ref 1315), none, some (.int y2), none]) (st' := [.int 0, .int 0, .int 4, .int 4, .ref 1315]) (by decide +kernel) rfl ?_
    refine b_callV 209 5 [.ref 1315, .int 4, .int 4, .int 0, .int 0] (rest := []) (by decide +kernel) rfl rfl rfl (go_O rfl (by decide +kernel) (by decide +kernel : isO 1315 9 = true)) rfl (s209 hv F 4 4 0 0 σ8) (by decide) (fun σ9 => ?_)
    refine b_run [(70, .iconst 4, 0, 0, .null)] (pc' := 71) (ls' := [some (.ref 1315), none, some (.int y2), none]) (st' := [.int 4]) (by decide +kernel) rfl ?_
    exact b_ret (i := (.ireturn, 0, 0, .null)) (by decide +kernel) rfl rfl (fit_I _)
  · refine b_run [(59, .iconst 2, 0, 0, .null), (60, .goto 4, 64, 0, .null), (64, .iconst 4, 0, 0, .null), (65, .iconst 0, 0, 0, .null), (66, .iconst 0, 0, 0, .null)] (pc' := 67) (ls' := [some (.ref 1315), none, some (.int y2), none]) (st' := [.int 0, .int 0, .int 4, .int 2, .ref 1315]) (by decide +kernel) rfl ?_
    refine b_callV 209 5 [.ref 1315, .int 2, .int 4, .int 0, .int 0] (rest := []) (by decide +kernel) rfl rfl rfl (go_O rfl (by decide +kernel) (by decide +kernel : isO 1315 9 = true)) rfl (s209 hv F 2 4 0 0 σ8) (by decide) (fun σ11 => ?_)
    refine b_run [(70, .iconst 4, 0, 0, .null)] (pc' := 71) (ls' := [some (.ref 1315), none, some (.int y2), none]) (st' := [.int 4]) (by decide +kernel) rfl ?_
    exact b_ret (i := (.ireturn, 0, 0, .null)) (by decide +kernel) rfl rfl (fit_I _)
def f211_35 (F : Nat) (z0 : Int32) (σ : St) : Rs := lt (σ.1 1315 32) fun c7 => 
    if z0 = 0 then f211_50 F z0 c7 1 σ
    else f211_50 F z0 c7 2 σ
theorem s211_35 {sc : aSc} (hv : vOk sc) (F : Nat) (z0 : Int32) (σ : St) : bEx sc 4 211 35 [some (.ref 1315), none, none, none] [.int z0] σ (f211_35 F z0 σ) := by
  unfold f211_35
  refine b_run [(35, .istore_n 2, 0, 0, .null), (36, .aload_n 0, 0, 0, .null), (37, .dup, 0, 0, .null)] (pc' := 38) (ls' := [some (.ref 1315), none, some (.int z0), none]) (st' := [.ref 1315, .ref 1315]) (by decide +kernel) rfl ?_
  refine b_gI (q := 181) (ci := 9) (k := 32) (w := .null) (by decide +kernel) (by decide +kernel) (fun c7 => ?_)
  refine b_run [(41, .iload_n 2, 0, 0, .null)] (pc' := 42) (ls' := [some (.ref 1315), none, some (.int z0), none]) (st' := [.int z0, .int c7, .ref 1315]) (by decide +kernel) rfl ?_
  refine b_izT (c := .eq) (o := 7) (t := 49) (y := 0) (w := .null) (by decide +kernel) cmp_eq (fun _ => ?_) (fun _ => ?_)
  · refine b_run [(49, .iconst 1, 0, 0, .null)] (pc' := 50) (ls' := [some (.ref 1315), none, some (.int z0), none]) (st' := [.int 1, .int c7, .ref 1315]) (by decide +kernel) rfl ?_
    exact b_wk (wS (wN (wS (wN w0)))) (s211_50 hv F z0 c7 1 σ)
  · refine b_run [(45, .iconst 2, 0, 0, .null), (46, .goto 4, 50, 0, .null)] (pc' := 50) (ls' := [some (.ref 1315), none, some (.int z0), none]) (st' := [.int 2, .int c7, .ref 1315]) (by decide +kernel) rfl ?_
    exact b_wk (wS (wN (wS (wN w0)))) (s211_50 hv F z0 c7 2 σ)
/-- TreeStoreModel.atStep()I -/
def f211 (F : Nat) (σ : St) : Rs := lt (σ.1 1315 32) fun c1 => 
    cI (f152 F c1 σ) fun c3 σ2 => 
    if c3 = 46 then 
    lt (σ2.1 1315 32) fun c4 => 
    cI (f152 F (c4 + 1) σ2) fun c6 σ5 => 
    if c6 = 46 then f211_35 F 1 σ5
    else f211_35 F 0 σ5
    else if c3 = 64 then lt (σ2.1 1315 32) fun c13 => lt (uI σ2 1315 32 (c13 + 1)) fun σ14 => cI (f212 F 5 σ14) fun c16 σ15 => oI c16 σ15
    else lt (σ2.1 1315 32) fun c17 => 
    cI (f163 F c17 σ2) fun c19 σ18 => 
    lt (σ18.1 1315 32) fun c20 => 
    if c20 < c19 then 
    cI (f152 F c19 σ18) fun c22 σ21 => 
    if c22 = 58 then 
    cI (f152 F (c19 + 1) σ21) fun c24 σ23 => 
    if c24 = 58 then 
    lt (σ23.1 1315 32) fun c25 => 
    cI (f215 F c25 c19 σ23) fun c27 σ26 => 
    lt (uI σ26 1315 32 (c19 + 2)) fun σ28 => 
    if c27 < 0 then oI 8 σ28
    else cI (f212 F c27 σ28) fun c30 σ29 => oI c30 σ29
    else cI (f212 F 0 σ23) fun c32 σ31 => oI c32 σ31
    else cI (f212 F 0 σ21) fun c34 σ33 => oI c34 σ33
    else cI (f212 F 0 σ18) fun c36 σ35 => oI c36 σ35
theorem s211 {sc : aSc} (hv : vOk sc) (F : Nat) (σ : St) : bEx sc 4 211 0 [some (.ref 1315), none, none, none] [] σ (f211 F σ) := by
  unfold f211
  refine b_run [(0, .aload_n 0, 0, 0, .null), (1, .aload_n 0, 0, 0, .null)] (pc' := 2) (ls' := [some (.ref 1315), none, none, none]) (st' := [.ref 1315, .ref 1315]) (by decide +kernel) rfl ?_
  refine b_gI (q := 181) (ci := 9) (k := 32) (w := .null) (by decide +kernel) (by decide +kernel) (fun c1 => ?_)
  refine b_callI 152 2 [.ref 1315, .int c1] (rest := []) (by decide +kernel) rfl rfl rfl (go_O rfl (by decide +kernel) (by decide +kernel : isO 1315 9 = true)) rfl (s152 hv F c1 σ) (by decide) (fun c3 σ2 => ?_)
  refine b_run [(8, .istore_n 1, 0, 0, .null), (9, .iload_n 1, 0, 0, .null), (10, .bipush 46, 0, 0, .null)] (pc' := 12) (ls' := [some (.ref 1315), some (.int c3), none, none]) (st' := [.int 46, .int c3]) (by decide +kernel) rfl ?_
  refine b_icF (c := .ne) (o := 60) (t := 72) (y := 0) (w := .null) (by decide +kernel) cmp_ne (fun _ => ?_) (fun _ => ?_)
  · refine b_run [(15, .aload_n 0, 0, 0, .null), (16, .aload_n 0, 0, 0, .null)] (pc' := 17) (ls' := [some (.ref 1315), some (.int c3), none, none]) (st' := [.ref 1315, .ref 1315]) (by decide +kernel) rfl ?_
    refine b_gI (q := 181) (ci := 9) (k := 32) (w := .null) (by decide +kernel) (by decide +kernel) (fun c4 => ?_)
    refine b_run [(20, .iconst 1, 0, 0, .null), (21, .iadd, 0, 0, .null)] (pc' := 22) (ls' := [some (.ref 1315), some (.int c3), none, none]) (st' := [.int (c4 + 1), .ref 1315]) (by decide +kernel) rfl ?_
    refine b_callI 152 2 [.ref 1315, .int (c4 + 1)] (rest := []) (by decide +kernel) rfl rfl rfl (go_O rfl (by decide +kernel) (by decide +kernel : isO 1315 9 = true)) rfl (s152 hv F (c4 + 1) σ2) (by decide) (fun c6 σ5 => ?_)
    refine b_run [(25, .bipush 46, 0, 0, .null)] (pc' := 27) (ls' := [some (.ref 1315), some (.int c3), none, none]) (st' := [.int 46, .int c6]) (by decide +kernel) rfl ?_
    refine b_icF (c := .ne) (o := 7) (t := 34) (y := 0) (w := .null) (by decide +kernel) cmp_ne (fun _ => ?_) (fun _ => ?_)
    · refine b_run [(30, .iconst 1, 0, 0, .null), (31, .goto 4, 35, 0, .null)] (pc' := 35) (ls' := [some (.ref 1315), some (.int c3), none, none]) (st' := [.int 1]) (by decide +kernel) rfl ?_
      exact b_wk (wS (wN (wN (wN w0)))) (s211_35 hv F 1 σ5)
    · refine b_run [(34, .iconst 0, 0, 0, .null)] (pc' := 35) (ls' := [some (.ref 1315), some (.int c3), none, none]) (st' := [.int 0]) (by decide +kernel) rfl ?_
      exact b_wk (wS (wN (wN (wN w0)))) (s211_35 hv F 0 σ5)
  · refine b_run [(72, .iload_n 1, 0, 0, .null), (73, .bipush 64, 0, 0, .null)] (pc' := 75) (ls' := [some (.ref 1315), some (.int c3), none, none]) (st' := [.int 64, .int c3]) (by decide +kernel) rfl ?_
    refine b_icF (c := .ne) (o := 19) (t := 94) (y := 0) (w := .null) (by decide +kernel) cmp_ne (fun _ => ?_) (fun _ => ?_)
    · refine b_run [(78, .aload_n 0, 0, 0, .null), (79, .dup, 0, 0, .null)] (pc' := 80) (ls' := [some (.ref 1315), some (.int c3), none, none]) (st' := [.ref 1315, .ref 1315]) (by decide +kernel) rfl ?_
      refine b_gI (q := 181) (ci := 9) (k := 32) (w := .null) (by decide +kernel) (by decide +kernel) (fun c13 => ?_)
      refine b_run [(83, .iconst 1, 0, 0, .null), (84, .iadd, 0, 0, .null)] (pc' := 85) (ls' := [some (.ref 1315), some (.int c3), none, none]) (st' := [.int (c13 + 1), .ref 1315]) (by decide +kernel) rfl ?_
      refine b_pI (q := 181) (ci := 9) (k := 32) (w := .null) (by decide +kernel) (by decide +kernel) (fit_I _) (fun σ14 => ?_)
      refine b_run [(88, .aload_n 0, 0, 0, .null), (89, .iconst 5, 0, 0, .null)] (pc' := 90) (ls' := [some (.ref 1315), some (.int c3), none, none]) (st' := [.int 5, .ref 1315]) (by decide +kernel) rfl ?_
      refine b_callI 212 2 [.ref 1315, .int 5] (rest := []) (by decide +kernel) rfl rfl rfl (go_O rfl (by decide +kernel) (by decide +kernel : isO 1315 9 = true)) rfl (s212 hv F 5 σ14) (by decide) (fun c16 σ15 => ?_)
      exact b_ret (i := (.ireturn, 0, 0, .null)) (by decide +kernel) rfl rfl (fit_I _)
    · refine b_run [(94, .aload_n 0, 0, 0, .null), (95, .aload_n 0, 0, 0, .null)] (pc' := 96) (ls' := [some (.ref 1315), some (.int c3), none, none]) (st' := [.ref 1315, .ref 1315]) (by decide +kernel) rfl ?_
      refine b_gI (q := 181) (ci := 9) (k := 32) (w := .null) (by decide +kernel) (by decide +kernel) (fun c17 => ?_)
      refine b_callI 163 2 [.ref 1315, .int c17] (rest := []) (by decide +kernel) rfl rfl rfl (go_O rfl (by decide +kernel) (by decide +kernel : isO 1315 9 = true)) rfl (s163 hv F c17 σ2) (by decide) (fun c19 σ18 => ?_)
      refine b_run [(102, .istore_n 2, 0, 0, .null), (103, .iload_n 2, 0, 0, .null), (104, .aload_n 0, 0, 0, .null)] (pc' := 105) (ls' := [some (.ref 1315), some (.int c3), some (.int c19), none]) (st' := [.ref 1315, .int c19]) (by decide +kernel) rfl ?_
      refine b_gI (q := 181) (ci := 9) (k := 32) (w := .null) (by decide +kernel) (by decide +kernel) (fun c20 => ?_)
      refine b_icF (c := .le) (o := 57) (t := 165) (y := 0) (w := .null) (by decide +kernel) cmp_le (fun _ => ?_) (fun _ => ?_)
      · refine b_run [(111, .aload_n 0, 0, 0, .null), (112, .iload_n 2, 0, 0, .null)] (pc' := 113) (ls' := [some (.ref 1315), some (.int c3), some (.int c19), none]) (st' := [.int c19, .ref 1315]) (by decide +kernel) rfl ?_
        refine b_callI 152 2 [.ref 1315, .int c19] (rest := []) (by decide +kernel) rfl rfl rfl (go_O rfl (by decide +kernel) (by decide +kernel : isO 1315 9 = true)) rfl (s152 hv F c19 σ18) (by decide) (fun c22 σ21 => ?_)
        refine b_run [(116, .bipush 58, 0, 0, .null)] (pc' := 118) (ls' := [some (.ref 1315), some (.int c3), some (.int c19), none]) (st' := [.int 58, .int c22]) (by decide +kernel) rfl ?_
        refine b_icF (c := .ne) (o := 47) (t := 165) (y := 0) (w := .null) (by decide +kernel) cmp_ne (fun _ => ?_) (fun _ => ?_)
        · refine b_run [(121, .aload_n 0, 0, 0, .null), (122, .iload_n 2, 0, 0, .null), (123, .iconst 1, 0, 0, .null), (124, .iadd, 0, 0, .null)] (pc' := 125) (ls' := [some (.ref 1315), some (.int c3), some (.int c19), none]) (st' := [.int (c19 + 1), .ref 1315]) (by decide +kernel) rfl ?_
          refine b_callI 152 2 [.ref 1315, .int (c19 + 1)] (rest := []) (by decide +kernel) rfl rfl rfl (go_O rfl (by decide +kernel) (by decide +kernel : isO 1315 9 = true)) rfl (s152 hv F (c19 + 1) σ21) (by decide) (fun c24 σ23 => ?_)
          refine b_run [(128, .bipush 58, 0, 0, .null)] (pc' := 130) (ls' := [some (.ref 1315), some (.int c3), some (.int c19), none]) (st' := [.int 58, .int c24]) (by decide +kernel) rfl ?_
          refine b_icF (c := .ne) (o := 35) (t := 165) (y := 0) (w := .null) (by decide +kernel) cmp_ne (fun _ => ?_) (fun _ => ?_)
          · refine b_run [(133, .aload_n 0, 0, 0, .null), (134, .aload_n 0, 0, 0, .null)] (pc' := 135) (ls' := [some (.ref 1315), some (.int c3), some (.int c19), none]) (st' := [.ref 1315, .ref 1315]) (by decide +kernel) rfl ?_
            refine b_gI (q := 181) (ci := 9) (k := 32) (w := .null) (by decide +kernel) (by decide +kernel) (fun c25 => ?_)
            refine b_run [(138, .iload_n 2, 0, 0, .null)] (pc' := 139) (ls' := [some (.ref 1315), some (.int c3), some (.int c19), none]) (st' := [.int c19, .int c25, .ref 1315]) (by decide +kernel) rfl ?_
            refine b_callI 215 3 [.ref 1315, .int c25, .int c19] (rest := []) (by decide +kernel) rfl rfl rfl (go_O rfl (by decide +kernel) (by decide +kernel : isO 1315 9 = true)) rfl (s215 hv F c25 c19 σ23) (by decide) (fun c27 σ26 => ?_)
            refine b_run [(142, .istore_n 3, 0, 0, .null), (143, .aload_n 0, 0, 0, .null), (144, .iload_n 2, 0, 0, .null), (145, .iconst 2, 0, 0, .null), (146, .iadd, 0, 0, .null)] (pc' := 147) (ls' := [some (.ref 1315), some (.int c3), some (.int c19), some (.int c27)]) (st' := [.int (c19 + 2), .ref 1315]) (by decide +kernel) rfl ?_
            refine b_pI (q := 181) (ci := 9) (k := 32) (w := .null) (by decide +kernel) (by decide +kernel) (fit_I _) (fun σ28 => ?_)
            refine b_run [(150, .iload_n 3, 0, 0, .null)] (pc' := 151) (ls' := [some (.ref 1315), some (.int c3), some (.int c19), some (.int c27)]) (st' := [.int c27]) (by decide +kernel) rfl ?_
            refine b_izF (c := .ge) (o := 8) (t := 159) (y := 0) (w := .null) (by decide +kernel) cmp_ge (fun _ => ?_) (fun _ => ?_)
            · refine b_run [(154, .bipush 8, 0, 0, .null), (156, .goto 8, 164, 0, .null)] (pc' := 164) (ls' := [some (.ref 1315), some (.int c3), some (.int c19), some (.int c27)]) (st' := [.int 8]) (by decide +kernel) rfl ?_
              exact b_ret (i := (.ireturn, 0, 0, .null)) (by decide +kernel) rfl rfl (fit_I _)
            · refine b_run [(159, .aload_n 0, 0, 0, .null), (160, .iload_n 3, 0, 0, .null)] (pc' := 161) (ls' := [some (.ref 1315), some (.int c3), some (.int c19), some (.int c27)]) (st' := [.int c27, .ref 1315]) (by decide +kernel) rfl ?_
              refine b_callI 212 2 [.ref 1315, .int c27] (rest := []) (by decide +kernel) rfl rfl rfl (go_O rfl (by decide +kernel) (by decide +kernel : isO 1315 9 = true)) rfl (s212 hv F c27 σ28) (by decide) (fun c30 σ29 => ?_)
              exact b_ret (i := (.ireturn, 0, 0, .null)) (by decide +kernel) rfl rfl (fit_I _)
          · refine b_run [(165, .aload_n 0, 0, 0, .null), (166, .iconst 0, 0, 0, .null)] (pc' := 167) (ls' := [some (.ref 1315), some (.int c3), some (.int c19), none]) (st' := [.int 0, .ref 1315]) (by decide +kernel) rfl ?_
            refine b_callI 212 2 [.ref 1315, .int 0] (rest := []) (by decide +kernel) rfl rfl rfl (go_O rfl (by decide +kernel) (by decide +kernel : isO 1315 9 = true)) rfl (s212 hv F 0 σ23) (by decide) (fun c32 σ31 => ?_)
            exact b_ret (i := (.ireturn, 0, 0, .null)) (by decide +kernel) rfl rfl (fit_I _)
        · refine b_run [(165, .aload_n 0, 0, 0, .null), (166, .iconst 0, 0, 0, .null)] (pc' := 167) (ls' := [some (.ref 1315), some (.int c3), some (.int c19), none]) (st' := [.int 0, .ref 1315]) (by decide +kernel) rfl ?_
          refine b_callI 212 2 [.ref 1315, .int 0] (rest := []) (by decide +kernel) rfl rfl rfl (go_O rfl (by decide +kernel) (by decide +kernel : isO 1315 9 = true)) rfl (s212 hv F 0 σ21) (by decide) (fun c34 σ33 => ?_)
          exact b_ret (i := (.ireturn, 0, 0, .null)) (by decide +kernel) rfl rfl (fit_I _)
      · refine b_run [(165, .aload_n 0, 0, 0, .null), (166, .iconst 0, 0, 0, .null)] (pc' := 167) (ls' := [some (.ref 1315), some (.int c3), some (.int c19), none]) (st' := [.int 0, .ref 1315]) (by decide +kernel) rfl ?_
        refine b_callI 212 2 [.ref 1315, .int 0] (rest := []) (by decide +kernel) rfl rfl rfl (go_O rfl (by decide +kernel) (by decide +kernel : isO 1315 9 = true)) rfl (s212 hv F 0 σ18) (by decide) (fun c36 σ35 => ?_)
        exact b_ret (i := (.ireturn, 0, 0, .null)) (by decide +kernel) rfl rfl (fit_I _)
/-- TreeStoreModel.openFrame(II)V -/
def f218 (F : Nat) (x1 : Int32) (x2 : Int32) (σ : St) : Rs := lt (σ.1 1315 52) fun c1 => 
    lt (uI σ 1315 52 (c1 + 1)) fun σ2 => 
    lt (σ2.1 1315 52) fun c3 => 
    if inB c3 6 then lt (uI σ2 1353 c3.toNatClampNeg x1) fun σ4 => 
    lt (σ4.1 1315 52) fun c5 => 
    if inB c5 6 then lt (uI σ4 1356 c5.toNatClampNeg x2) fun σ6 => 
    lt (σ6.1 1315 52) fun c7 => 
    if inB c7 6 then lt (uI σ6 1357 c7.toNatClampNeg 0) fun σ8 => lt (σ8.1 1315 52) fun c9 => if inB c9 6 then lt (uI σ8 1358 c9.toNatClampNeg 0) fun σ10 => oV σ10 else none else none else none else none
theorem s218 {sc : aSc} (hv : vOk sc) (F : Nat) (x1 : Int32) (x2 : Int32) (σ : St) : bEx sc 0 218 0 [some (.ref 1315), some (.int x1), some (.int x2)] [] σ (f218 F x1 x2 σ) := by
  unfold f218
  refine b_run [(0, .aload_n 0, 0, 0, .null), (1, .dup, 0, 0, .null)] (pc' := 2) (ls' := [some (.ref 1315), some (.int x1), some (.int x2)]) (st' := [.ref 1315, .ref 1315]) (by decide +kernel) rfl ?_
  refine b_gI (q := 395) (ci := 9) (k := 52) (w := .null) (by decide +kernel) (by decide +kernel) (fun c1 => ?_)
  refine b_run [(5, .iconst 1, 0, 0, .null), (6, .iadd, 0, 0, .null)] (pc' := 7) (ls' := [some (.ref 1315), some (.int x1), some (.int x2)]) (st' := [.int (c1 + 1), .ref 1315]) (by decide +kernel) rfl ?_
  refine b_pI (q := 395) (ci := 9) (k := 52) (w := .null) (by decide +kernel) (by decide +kernel) (fit_I _) (fun σ2 => ?_)
  refine b_run [(10, .aload_n 0, 0, 0, .null)] (pc' := 11) (ls' := [some (.ref 1315), some (.int x1), some (.int x2)]) (st' := [.ref 1315]) (by decide +kernel) rfl ?_
  refine b_getC (b := 1353) (q := 123) (ci := 9) (k := 53) (w := .null) (by decide +kernel) (by decide +kernel) ?_
  refine b_run [(14, .aload_n 0, 0, 0, .null)] (pc' := 15) (ls' := [some (.ref 1315), some (.int x1), some (.int x2)]) (st' := [.ref 1315, .ref 1353]) (by decide +kernel) rfl ?_
  refine b_gI (q := 395) (ci := 9) (k := 52) (w := .null) (by decide +kernel) (by decide +kernel) (fun c3 => ?_)
  refine b_run [(18, .iload_n 1, 0, 0, .null)] (pc' := 19) (ls' := [some (.ref 1315), some (.int x1), some (.int x2)]) (st' := [.int x1, .int c3, .ref 1353]) (by decide +kernel) rfl ?_
  refine b_guard (fun hb => ?_)
  refine b_sI (ci := 0) (y := 0) (w := .null) (by decide +kernel) (by decide +kernel) hb (fun σ4 => ?_)
  refine b_run [(20, .aload_n 0, 0, 0, .null)] (pc' := 21) (ls' := [some (.ref 1315), some (.int x1), some (.int x2)]) (st' := [.ref 1315]) (by decide +kernel) rfl ?_
  refine b_getC (b := 1356) (q := 132) (ci := 9) (k := 56) (w := .null) (by decide +kernel) (by decide +kernel) ?_
  refine b_run [(24, .aload_n 0, 0, 0, .null)] (pc' := 25) (ls' := [some (.ref 1315), some (.int x1), some (.int x2)]) (st' := [.ref 1315, .ref 1356]) (by decide +kernel) rfl ?_
  refine b_gI (q := 395) (ci := 9) (k := 52) (w := .null) (by decide +kernel) (by decide +kernel) (fun c5 => ?_)
  refine b_run [(28, .iload_n 2, 0, 0, .null)] (pc' := 29) (ls' := [some (.ref 1315), some (.int x1), some (.int x2)]) (st' := [.int x2, .int c5, .ref 1356]) (by decide +kernel) rfl ?_
  refine b_guard (fun hb => ?_)
  refine b_sI (ci := 0) (y := 0) (w := .null) (by decide +kernel) (by decide +kernel) hb (fun σ6 => ?_)
  refine b_run [(30, .aload_n 0, 0, 0, .null)] (pc' := 31) (ls' := [some (.ref 1315), some (.int x1), some (.int x2)]) (st' := [.ref 1315]) (by decide +kernel) rfl ?_
  refine b_getC (b := 1357) (q := 135) (ci := 9) (k := 57) (w := .null) (by decide +kernel) (by decide +kernel) ?_
  refine b_run [(34, .aload_n 0, 0, 0, .null)] (pc' := 35) (ls' := [some (.ref 1315), some (.int x1), some (.int x2)]) (st' := [.ref 1315, .ref 1357]) (by decide +kernel) rfl ?_
  refine b_gI (q := 395) (ci := 9) (k := 52) (w := .null) (by decide +kernel) (by decide +kernel) (fun c7 => ?_)
  refine b_run [(38, .iconst 0, 0, 0, .null)] (pc' := 39) (ls' := [some (.ref 1315), some (.int x1), some (.int x2)]) (st' := [.int 0, .int c7, .ref 1357]) (by decide +kernel) rfl ?_
  refine b_guard (fun hb => ?_)
  refine b_sI (ci := 0) (y := 0) (w := .null) (by decide +kernel) (by decide +kernel) hb (fun σ8 => ?_)
  refine b_run [(40, .aload_n 0, 0, 0, .null)] (pc' := 41) (ls' := [some (.ref 1315), some (.int x1), some (.int x2)]) (st' := [.ref 1315]) (by decide +kernel) rfl ?_
  refine b_getC (b := 1358) (q := 138) (ci := 9) (k := 58) (w := .null) (by decide +kernel) (by decide +kernel) ?_
  refine b_run [(44, .aload_n 0, 0, 0, .null)] (pc' := 45) (ls' := [some (.ref 1315), some (.int x1), some (.int x2)]) (st' := [.ref 1315, .ref 1358]) (by decide +kernel) rfl ?_
  refine b_gI (q := 395) (ci := 9) (k := 52) (w := .null) (by decide +kernel) (by decide +kernel) (fun c9 => ?_)
  refine b_run [(48, .iconst 0, 0, 0, .null)] (pc' := 49) (ls' := [some (.ref 1315), some (.int x1), some (.int x2)]) (st' := [.int 0, .int c9, .ref 1358]) (by decide +kernel) rfl ?_
  refine b_guard (fun hb => ?_)
  refine b_sI (ci := 0) (y := 0) (w := .null) (by decide +kernel) (by decide +kernel) hb (fun σ10 => ?_)
  exact b_ret0 (i := (.return_, 0, 0, .null)) (by decide +kernel) rfl rfl
/-- TreeStoreModel.behindStep()I -/
def f217 (F : Nat) (σ : St) : Rs := lt (σ.1 1315 32) fun c1 => 
    cI (f152 F c1 σ) fun c3 σ2 => 
    if c3 = 91 then 
    lt (σ2.1 1315 52) fun c4 => 
    if c4 = 4 then oI 8 σ2
    else lt (σ2.1 1315 32) fun c5 => 
    lt (uI σ2 1315 32 (c5 + 1)) fun σ6 => 
    lt (σ6.1 1315 44) fun c7 => 
    lt (σ6.1 1315 52) fun c8 => 
    if inB c8 6 then lt (σ6.1 1355 c8.toNatClampNeg) fun c9 => 
    if inB c7 130 then lt (uI σ6 1347 c7.toNatClampNeg c9) fun σ10 => 
    lt (σ10.1 1315 44) fun c11 => lt (uI σ10 1315 44 (c11 + 1)) fun σ12 => lt (σ12.1 1315 44) fun c13 => cV (f218 F 1 (c13 - 1) σ12) fun σ14 => oI 6 σ14 else none else none
    else oI 4 σ2
theorem s217 {sc : aSc} (hv : vOk sc) (F : Nat) (σ : St) : bEx sc 1 217 0 [some (.ref 1315)] [] σ (f217 F σ) := by
  unfold f217
  refine b_run [(0, .aload_n 0, 0, 0, .null), (1, .aload_n 0, 0, 0, .null)] (pc' := 2) (ls' := [some (.ref 1315)]) (st' := [.ref 1315, .ref 1315]) (by decide +kernel) rfl ?_
  refine b_gI (q := 181) (ci := 9) (k := 32) (w := .null) (by decide +kernel) (by decide +kernel) (fun c1 => ?_)
  refine b_callI 152 2 [.ref 1315, .int c1] (rest := []) (by decide +kernel) rfl rfl rfl (go_O rfl (by decide +kernel) (by decide +kernel : isO 1315 9 = true)) rfl (s152 hv F c1 σ) (by decide) (fun c3 σ2 => ?_)
  refine b_run [(8, .bipush 91, 0, 0, .null)] (pc' := 10) (ls' := [some (.ref 1315)]) (st' := [.int 91, .int c3]) (by decide +kernel) rfl ?_
  refine b_icT (c := .eq) (o := 5) (t := 15) (y := 0) (w := .null) (by decide +kernel) cmp_eq (fun _ => ?_) (fun _ => ?_)
  · refine b_run [(15, .aload_n 0, 0, 0, .null)] (pc' := 16) (ls' := [some (.ref 1315)]) (st' := [.ref 1315]) (by decide +kernel) rfl ?_
    refine b_gI (q := 395) (ci := 9) (k := 52) (w := .null) (by decide +kernel) (by decide +kernel) (fun c4 => ?_)
    refine b_run [(19, .iconst 4, 0, 0, .null)] (pc' := 20) (ls' := [some (.ref 1315)]) (st' := [.int 4, .int c4]) (by decide +kernel) rfl ?_
    refine b_icF (c := .ne) (o := 6) (t := 26) (y := 0) (w := .null) (by decide +kernel) cmp_ne (fun _ => ?_) (fun _ => ?_)
    · refine b_run [(23, .bipush 8, 0, 0, .null)] (pc' := 25) (ls' := [some (.ref 1315)]) (st' := [.int 8]) (by decide +kernel) rfl ?_
      exact b_ret (i := (.ireturn, 0, 0, .null)) (by decide +kernel) rfl rfl (fit_I _)
    · refine b_run [(26, .aload_n 0, 0, 0, .null), (27, .dup, 0, 0, .null)] (pc' := 28) (ls' := [some (.ref 1315)]) (st' := [.ref 1315, .ref 1315]) (by decide +kernel) rfl ?_
      refine b_gI (q := 181) (ci := 9) (k := 32) (w := .null) (by decide +kernel) (by decide +kernel) (fun c5 => ?_)
      refine b_run [(31, .iconst 1, 0, 0, .null), (32, .iadd, 0, 0, .null)] (pc' := 33) (ls' := [some (.ref 1315)]) (st' := [.int (c5 + 1), .ref 1315]) (by decide +kernel) rfl ?_
      refine b_pI (q := 181) (ci := 9) (k := 32) (w := .null) (by decide +kernel) (by decide +kernel) (fit_I _) (fun σ6 => ?_)
      refine b_run [(36, .aload_n 0, 0, 0, .null)] (pc' := 37) (ls' := [some (.ref 1315)]) (st' := [.ref 1315]) (by decide +kernel) rfl ?_
      refine b_getC (b := 1347) (q := 105) (ci := 9) (k := 45) (w := .null) (by decide +kernel) (by decide +kernel) ?_
      refine b_run [(40, .aload_n 0, 0, 0, .null)] (pc' := 41) (ls' := [some (.ref 1315)]) (st' := [.ref 1315, .ref 1347]) (by decide +kernel) rfl ?_
      refine b_gI (q := 426) (ci := 9) (k := 44) (w := .null) (by decide +kernel) (by decide +kernel) (fun c7 => ?_)
      refine b_run [(44, .aload_n 0, 0, 0, .null)] (pc' := 45) (ls' := [some (.ref 1315)]) (st' := [.ref 1315, .int c7, .ref 1347]) (by decide +kernel) rfl ?_
      refine b_getC (b := 1355) (q := 129) (ci := 9) (k := 55) (w := .null) (by decide +kernel) (by decide +kernel) ?_
      refine b_run [(48, .aload_n 0, 0, 0, .null)] (pc' := 49) (ls' := [some (.ref 1315)]) (st' := [.ref 1315, .ref 1355, .int c7, .ref 1347]) (by decide +kernel) rfl ?_
      refine b_gI (q := 395) (ci := 9) (k := 52) (w := .null) (by decide +kernel) (by decide +kernel) (fun c8 => ?_)
      refine b_guard (fun hb => ?_)
      refine b_aI (ci := 0) (y := 0) (w := .null) (by decide +kernel) (by decide +kernel) hb (fun c9 => ?_)
      refine b_guard (fun hb => ?_)
      refine b_sI (ci := 0) (y := 0) (w := .null) (by decide +kernel) (by decide +kernel) hb (fun σ10 => ?_)
      refine b_run [(54, .aload_n 0, 0, 0, .null), (55, .dup, 0, 0, .null)] (pc' := 56) (ls' := [some (.ref 1315)]) (st' := [.ref 1315, .ref 1315]) (by decide +kernel) rfl ?_
      refine b_gI (q := 426) (ci := 9) (k := 44) (w := .null) (by decide +kernel) (by decide +kernel) (fun c11 => ?_)
      refine b_run [(59, .iconst 1, 0, 0, .null), (60, .iadd, 0, 0, .null)] (pc' := 61) (ls' := [some (.ref 1315)]) (st' := [.int (c11 + 1), .ref 1315]) (by decide +kernel) rfl ?_
      refine b_pI (q := 426) (ci := 9) (k := 44) (w := .null) (by decide +kernel) (by decide +kernel) (fit_I _) (fun σ12 => ?_)
      refine b_run [(64, .aload_n 0, 0, 0, .null), (65, .iconst 1, 0, 0, .null), (66, .aload_n 0, 0, 0, .null)] (pc' := 67) (ls' := [some (.ref 1315)]) (st' := [.ref 1315, .int 1, .ref 1315]) (by decide +kernel) rfl ?_
      refine b_gI (q := 426) (ci := 9) (k := 44) (w := .null) (by decide +kernel) (by decide +kernel) (fun c13 => ?_)
      refine b_run [(70, .iconst 1, 0, 0, .null), (71, .isub, 0, 0, .null)] (pc' := 72) (ls' := [some (.ref 1315)]) (st' := [.int (c13 - 1), .int 1, .ref 1315]) (by decide +kernel) rfl ?_
      refine b_callV 218 3 [.ref 1315, .int 1, .int (c13 - 1)] (rest := []) (by decide +kernel) rfl rfl rfl (go_O rfl (by decide +kernel) (by decide +kernel : isO 1315 9 = true)) rfl (s218 hv F 1 (c13 - 1) σ12) (by decide) (fun σ14 => ?_)
      refine b_run [(75, .bipush 6, 0, 0, .null)] (pc' := 77) (ls' := [some (.ref 1315)]) (st' := [.int 6]) (by decide +kernel) rfl ?_
      exact b_ret (i := (.ireturn, 0, 0, .null)) (by decide +kernel) rfl rfl (fit_I _)
  · refine b_run [(13, .iconst 4, 0, 0, .null)] (pc' := 14) (ls' := [some (.ref 1315)]) (st' := [.int 4]) (by decide +kernel) rfl ?_
    exact b_ret (i := (.ireturn, 0, 0, .null)) (by decide +kernel) rfl rfl (fit_I _)
/-- TreeStoreModel.behindDot()I -/
def f219 (F : Nat) (σ : St) : Rs := lt (σ.1 1315 32) fun c1 => 
    cI (f152 F c1 σ) fun c3 σ2 => 
    if c3 = 47 then 
    lt (σ2.1 1315 32) fun c4 => 
    lt (uI σ2 1315 32 (c4 + 1)) fun σ5 => 
    lt (σ5.1 1315 32) fun c6 => 
    cI (f152 F c6 σ5) fun c8 σ7 => 
    if c8 = 47 then lt (σ7.1 1315 32) fun c9 => lt (uI σ7 1315 32 (c9 + 1)) fun σ10 => cV (f209 F 10 4 0 0 σ10) fun σ11 => oI 2 σ11
    else oI 2 σ7
    else oI 5 σ2
theorem s219 {sc : aSc} (hv : vOk sc) (F : Nat) (σ : St) : bEx sc 1 219 0 [some (.ref 1315)] [] σ (f219 F σ) := by
  unfold f219
  refine b_run [(0, .aload_n 0, 0, 0, .null), (1, .aload_n 0, 0, 0, .null)] (pc' := 2) (ls' := [some (.ref 1315)]) (st' := [.ref 1315, .ref 1315]) (by decide +kernel) rfl ?_
  refine b_gI (q := 181) (ci := 9) (k := 32) (w := .null) (by decide +kernel) (by decide +kernel) (fun c1 => ?_)
  refine b_callI 152 2 [.ref 1315, .int c1] (rest := []) (by decide +kernel) rfl rfl rfl (go_O rfl (by decide +kernel) (by decide +kernel : isO 1315 9 = true)) rfl (s152 hv F c1 σ) (by decide) (fun c3 σ2 => ?_)
  refine b_run [(8, .bipush 47, 0, 0, .null)] (pc' := 10) (ls' := [some (.ref 1315)]) (st' := [.int 47, .int c3]) (by decide +kernel) rfl ?_
  refine b_icT (c := .eq) (o := 5) (t := 15) (y := 0) (w := .null) (by decide +kernel) cmp_eq (fun _ => ?_) (fun _ => ?_)
  · refine b_run [(15, .aload_n 0, 0, 0, .null), (16, .dup, 0, 0, .null)] (pc' := 17) (ls' := [some (.ref 1315)]) (st' := [.ref 1315, .ref 1315]) (by decide +kernel) rfl ?_
    refine b_gI (q := 181) (ci := 9) (k := 32) (w := .null) (by decide +kernel) (by decide +kernel) (fun c4 => ?_)
    refine b_run [(20, .iconst 1, 0, 0, .null), (21, .iadd, 0, 0, .null)] (pc' := 22) (ls' := [some (.ref 1315)]) (st' := [.int (c4 + 1), .ref 1315]) (by decide +kernel) rfl ?_
    refine b_pI (q := 181) (ci := 9) (k := 32) (w := .null) (by decide +kernel) (by decide +kernel) (fit_I _) (fun σ5 => ?_)
    refine b_run [(25, .aload_n 0, 0, 0, .null), (26, .aload_n 0, 0, 0, .null)] (pc' := 27) (ls' := [some (.ref 1315)]) (st' := [.ref 1315, .ref 1315]) (by decide +kernel) rfl ?_
    refine b_gI (q := 181) (ci := 9) (k := 32) (w := .null) (by decide +kernel) (by decide +kernel) (fun c6 => ?_)
    refine b_callI 152 2 [.ref 1315, .int c6] (rest := []) (by decide +kernel) rfl rfl rfl (go_O rfl (by decide +kernel) (by decide +kernel : isO 1315 9 = true)) rfl (s152 hv F c6 σ5) (by decide) (fun c8 σ7 => ?_)
    refine b_run [(33, .bipush 47, 0, 0, .null)] (pc' := 35) (ls' := [some (.ref 1315)]) (st' := [.int 47, .int c8]) (by decide +kernel) rfl ?_
    refine b_icF (c := .ne) (o := 22) (t := 57) (y := 0) (w := .null) (by decide +kernel) cmp_ne (fun _ => ?_) (fun _ => ?_)
    · refine b_run [(38, .aload_n 0, 0, 0, .null), (39, .dup, 0, 0, .null)] (pc' := 40) (ls' := [some (.ref 1315)]) (st' := [.ref 1315, .ref 1315]) (by decide +kernel) rfl ?_
      refine b_gI (q := 181) (ci := 9) (k := 32) (w := .null) (by decide +kernel) (by decide +kernel) (fun c9 => ?_)
      refine b_run [(43, .iconst 1, 0, 0, .null), (44, .iadd, 0, 0, .null)] (pc' := 45) (ls' := [some (.ref 1315)]) (st' := [.int (c9 + 1), .ref 1315]) (by decide +kernel) rfl ?_
      refine b_pI (q := 181) (ci := 9) (k := 32) (w := .null) (by decide +kernel) (by decide +kernel) (fit_I _) (fun σ10 => ?_)
      refine b_run [(48, .aload_n 0, 0, 0, .null), (49, .bipush 10, 0, 0, .null), (51, .iconst 4, 0, 0, .null), (52, .iconst 0, 0, 0, .null), (53, .iconst 0, 0, 0, .null)] (pc' := 54) (ls' := [some (.ref 1315)]) (st' := [.int 0, .int 0, .int 4, .int 10, .ref 1315]) (by decide +kernel) rfl ?_
      refine b_callV 209 5 [.ref 1315, .int 10, .int 4, .int 0, .int 0] (rest := []) (by decide +kernel) rfl rfl rfl (go_O rfl (by decide +kernel) (by decide +kernel : isO 1315 9 = true)) rfl (s209 hv F 10 4 0 0 σ10) (by decide) (fun σ11 => ?_)
      refine b_run [(57, .iconst 2, 0, 0, .null)] (pc' := 58) (ls' := [some (.ref 1315)]) (st' := [.int 2]) (by decide +kernel) rfl ?_
      exact b_ret (i := (.ireturn, 0, 0, .null)) (by decide +kernel) rfl rfl (fit_I _)
    · refine b_run [(57, .iconst 2, 0, 0, .null)] (pc' := 58) (ls' := [some (.ref 1315)]) (st' := [.int 2]) (by decide +kernel) rfl ?_
      exact b_ret (i := (.ireturn, 0, 0, .null)) (by decide +kernel) rfl rfl (fit_I _)
  · refine b_run [(13, .iconst 5, 0, 0, .null)] (pc' := 14) (ls' := [some (.ref 1315)]) (st' := [.int 5]) (by decide +kernel) rfl ?_
    exact b_ret (i := (.ireturn, 0, 0, .null)) (by decide +kernel) rfl rfl (fit_I _)
/-- TreeStoreModel.pathEnds()I -/
def f220 (F : Nat) (σ : St) : Rs := lt (σ.1 1315 52) fun c1 => 
    if inB c1 6 then lt (σ.1 1354 c1.toNatClampNeg) fun c2 => 
    lt (σ.1 1315 52) fun c3 => 
    if inB c3 6 then lt (σ.1 1353 c3.toNatClampNeg) fun c4 => 
    if c4 = 0 then 
    lt (σ.1 1315 32) fun c5 => 
    lt (σ.1 1315 1) fun c6 => 
    if c5 = c6 then oI 0 σ
    else oI 8 σ
    else lt (σ.1 1315 52) fun c7 => 
    if inB c7 6 then lt (σ.1 1353 c7.toNatClampNeg) fun c8 => 
    if c8 = 2 then 
    lt (σ.1 1315 32) fun c9 => 
    cI (f152 F c9 σ) fun c11 σ10 => 
    if c11 = 41 then 
    lt (σ10.1 1315 32) fun c12 => 
    lt (uI σ10 1315 32 (c12 + 1)) fun σ13 => lt (σ13.1 1315 52) fun c14 => lt (uI σ13 1315 52 (c14 - 1)) fun σ15 => cV (f221 F 4 c2 0 σ15) fun σ16 => oI 7 σ16
    else oI 8 σ10
    else cV (f221 F 5 c2 0 σ) fun σ18 => oI 7 σ18 else none else none else none
theorem s220 {sc : aSc} (hv : vOk sc) (F : Nat) (σ : St) : bEx sc 1 220 0 [some (.ref 1315), none] [] σ (f220 F σ) := by
  unfold f220
  refine b_run [(0, .aload_n 0, 0, 0, .null)] (pc' := 1) (ls' := [some (.ref 1315), none]) (st' := [.ref 1315]) (by decide +kernel) rfl ?_
  refine b_getC (b := 1354) (q := 126) (ci := 9) (k := 54) (w := .null) (by decide +kernel) (by decide +kernel) ?_
  refine b_run [(4, .aload_n 0, 0, 0, .null)] (pc' := 5) (ls' := [some (.ref 1315), none]) (st' := [.ref 1315, .ref 1354]) (by decide +kernel) rfl ?_
  refine b_gI (q := 395) (ci := 9) (k := 52) (w := .null) (by decide +kernel) (by decide +kernel) (fun c1 => ?_)
  refine b_guard (fun hb => ?_)
  refine b_aI (ci := 0) (y := 0) (w := .null) (by decide +kernel) (by decide +kernel) hb (fun c2 => ?_)
  refine b_run [(9, .istore_n 1, 0, 0, .null), (10, .aload_n 0, 0, 0, .null)] (pc' := 11) (ls' := [some (.ref 1315), some (.int c2)]) (st' := [.ref 1315]) (by decide +kernel) rfl ?_
  refine b_getC (b := 1353) (q := 123) (ci := 9) (k := 53) (w := .null) (by decide +kernel) (by decide +kernel) ?_
  refine b_run [(14, .aload_n 0, 0, 0, .null)] (pc' := 15) (ls' := [some (.ref 1315), some (.int c2)]) (st' := [.ref 1315, .ref 1353]) (by decide +kernel) rfl ?_
  refine b_gI (q := 395) (ci := 9) (k := 52) (w := .null) (by decide +kernel) (by decide +kernel) (fun c3 => ?_)
  refine b_guard (fun hb => ?_)
  refine b_aI (ci := 0) (y := 0) (w := .null) (by decide +kernel) (by decide +kernel) hb (fun c4 => ?_)
  refine b_izF (c := .ne) (o := 21) (t := 40) (y := 0) (w := .null) (by decide +kernel) cmp_ne (fun _ => ?_) (fun _ => ?_)
  · refine b_run [(22, .aload_n 0, 0, 0, .null)] (pc' := 23) (ls' := [some (.ref 1315), some (.int c2)]) (st' := [.ref 1315]) (by decide +kernel) rfl ?_
    refine b_gI (q := 181) (ci := 9) (k := 32) (w := .null) (by decide +kernel) (by decide +kernel) (fun c5 => ?_)
    refine b_run [(26, .aload_n 0, 0, 0, .null)] (pc' := 27) (ls' := [some (.ref 1315), some (.int c2)]) (st' := [.ref 1315, .int c5]) (by decide +kernel) rfl ?_
    refine b_gI (q := 155) (ci := 9) (k := 1) (w := .null) (by decide +kernel) (by decide +kernel) (fun c6 => ?_)
    refine b_icF (c := .ne) (o := 7) (t := 37) (y := 0) (w := .null) (by decide +kernel) cmp_ne (fun _ => ?_) (fun _ => ?_)
    · refine b_run [(33, .iconst 0, 0, 0, .null), (34, .goto 5, 39, 0, .null)] (pc' := 39) (ls' := [some (.ref 1315), some (.int c2)]) (st' := [.int 0]) (by decide +kernel) rfl ?_
      exact b_ret (i := (.ireturn, 0, 0, .null)) (by decide +kernel) rfl rfl (fit_I _)
    · refine b_run [(37, .bipush 8, 0, 0, .null)] (pc' := 39) (ls' := [some (.ref 1315), some (.int c2)]) (st' := [.int 8]) (by decide +kernel) rfl ?_
      exact b_ret (i := (.ireturn, 0, 0, .null)) (by decide +kernel) rfl rfl (fit_I _)
  · refine b_run [(40, .aload_n 0, 0, 0, .null)] (pc' := 41) (ls' := [some (.ref 1315), some (.int c2)]) (st' := [.ref 1315]) (by decide +kernel) rfl ?_
    refine b_getC (b := 1353) (q := 123) (ci := 9) (k := 53) (w := .null) (by decide +kernel) (by decide +kernel) ?_
    refine b_run [(44, .aload_n 0, 0, 0, .null)] (pc' := 45) (ls' := [some (.ref 1315), some (.int c2)]) (st' := [.ref 1315, .ref 1353]) (by decide +kernel) rfl ?_
    refine b_gI (q := 395) (ci := 9) (k := 52) (w := .null) (by decide +kernel) (by decide +kernel) (fun c7 => ?_)
    refine b_guard (fun hb => ?_)
    refine b_aI (ci := 0) (y := 0) (w := .null) (by decide +kernel) (by decide +kernel) hb (fun c8 => ?_)
    refine b_run [(49, .iconst 2, 0, 0, .null)] (pc' := 50) (ls' := [some (.ref 1315), some (.int c2)]) (st' := [.int 2, .int c8]) (by decide +kernel) rfl ?_
    refine b_icF (c := .ne) (o := 49) (t := 99) (y := 0) (w := .null) (by decide +kernel) cmp_ne (fun _ => ?_) (fun _ => ?_)
    · refine b_run [(53, .aload_n 0, 0, 0, .null), (54, .aload_n 0, 0, 0, .null)] (pc' := 55) (ls' := [some (.ref 1315), some (.int c2)]) (st' := [.ref 1315, .ref 1315]) (by decide +kernel) rfl ?_
      refine b_gI (q := 181) (ci := 9) (k := 32) (w := .null) (by decide +kernel) (by decide +kernel) (fun c9 => ?_)
      refine b_callI 152 2 [.ref 1315, .int c9] (rest := []) (by decide +kernel) rfl rfl rfl (go_O rfl (by decide +kernel) (by decide +kernel : isO 1315 9 = true)) rfl (s152 hv F c9 σ) (by decide) (fun c11 σ10 => ?_)
      refine b_run [(61, .bipush 41, 0, 0, .null)] (pc' := 63) (ls' := [some (.ref 1315), some (.int c2)]) (st' := [.int 41, .int c11]) (by decide +kernel) rfl ?_
      refine b_icT (c := .eq) (o := 6) (t := 69) (y := 0) (w := .null) (by decide +kernel) cmp_eq (fun _ => ?_) (fun _ => ?_)
      · refine b_run [(69, .aload_n 0, 0, 0, .null), (70, .dup, 0, 0, .null)] (pc' := 71) (ls' := [some (.ref 1315), some (.int c2)]) (st' := [.ref 1315, .ref 1315]) (by decide +kernel) rfl ?_
        refine b_gI (q := 181) (ci := 9) (k := 32) (w := .null) (by decide +kernel) (by decide +kernel) (fun c12 => ?_)
        refine b_run [(74, .iconst 1, 0, 0, .null), (75, .iadd, 0, 0, .null)] (pc' := 76) (ls' := [some (.ref 1315), some (.int c2)]) (st' := [.int (c12 + 1), .ref 1315]) (by decide +kernel) rfl ?_
        refine b_pI (q := 181) (ci := 9) (k := 32) (w := .null) (by decide +kernel) (by decide +kernel) (fit_I _) (fun σ13 => ?_)
        refine b_run [(79, .aload_n 0, 0, 0, .null), (80, .dup, 0, 0, .null)] (pc' := 81) (ls' := [some (.ref 1315), some (.int c2)]) (st' := [.ref 1315, .ref 1315]) (by decide +kernel) rfl ?_
        refine b_gI (q := 395) (ci := 9) (k := 52) (w := .null) (by decide +kernel) (by decide +kernel) (fun c14 => ?_)
        refine b_run [(84, .iconst 1, 0, 0, .null), (85, .isub, 0, 0, .null)] (pc' := 86) (ls' := [some (.ref 1315), some (.int c2)]) (st' := [.int (c14 - 1), .ref 1315]) (by decide +kernel) rfl ?_
        refine b_pI (q := 395) (ci := 9) (k := 52) (w := .null) (by decide +kernel) (by decide +kernel) (fit_I _) (fun σ15 => ?_)
        refine b_run [(89, .aload_n 0, 0, 0, .null), (90, .iconst 4, 0, 0, .null), (91, .iload_n 1, 0, 0, .null), (92, .iconst 0, 0, 0, .null)] (pc' := 93) (ls' := [some (.ref 1315), some (.int c2)]) (st' := [.int 0, .int c2, .int 4, .ref 1315]) (by decide +kernel) rfl ?_
        refine b_callV 221 4 [.ref 1315, .int 4, .int c2, .int 0] (rest := []) (by decide +kernel) rfl rfl rfl (go_O rfl (by decide +kernel) (by decide +kernel : isO 1315 9 = true)) rfl (s221 hv F 4 c2 0 σ15) (by decide) (fun σ16 => ?_)
        refine b_run [(96, .bipush 7, 0, 0, .null)] (pc' := 98) (ls' := [some (.ref 1315), some (.int c2)]) (st' := [.int 7]) (by decide +kernel) rfl ?_
        exact b_ret (i := (.ireturn, 0, 0, .null)) (by decide +kernel) rfl rfl (fit_I _)
      · refine b_run [(66, .bipush 8, 0, 0, .null)] (pc' := 68) (ls' := [some (.ref 1315), some (.int c2)]) (st' := [.int 8]) (by decide +kernel) rfl ?_
        exact b_ret (i := (.ireturn, 0, 0, .null)) (by decide +kernel) rfl rfl (fit_I _)
    · refine b_run [(99, .aload_n 0, 0, 0, .null), (100, .iconst 5, 0, 0, .null), (101, .iload_n 1, 0, 0, .null), (102, .iconst 0, 0, 0, .null)] (pc' := 103) (ls' := [some (.ref 1315), some (.int c2)]) (st' := [.int 0, .int c2, .int 5, .ref 1315]) (by decide +kernel) rfl ?_
      refine b_callV 221 4 [.ref 1315, .int 5, .int c2, .int 0] (rest := []) (by decide +kernel) rfl rfl rfl (go_O rfl (by decide +kernel) (by decide +kernel : isO 1315 9 = true)) rfl (s221 hv F 5 c2 0 σ) (by decide) (fun σ18 => ?_)
      refine b_run [(106, .bipush 7, 0, 0, .null)] (pc' := 108) (ls' := [some (.ref 1315), some (.int c2)]) (st' := [.int 7]) (by decide +kernel) rfl ?_
      exact b_ret (i := (.ireturn, 0, 0, .null)) (by decide +kernel) rfl rfl (fit_I _)
def f224_33 (F : Nat) (y1 : Int32) (y2 : Int32) (σ : St) : Rs := lt (uI σ 1315 32 (y2 + 1)) fun σ4 => 
    cV (f221 F 1 y1 (y2 - y1) σ4) fun σ5 => 
    cI (f152 F y2 σ5) fun c8 σ7 => 
    if c8 = 0 then oI 8 σ7
    else oI 7 σ7
theorem s224_33 {sc : aSc} (hv : vOk sc) (F : Nat) (y1 : Int32) (y2 : Int32) (σ : St) : bEx sc 1 224 33 [some (.ref 1315), some (.int y1), some (.int y2)] [] σ (f224_33 F y1 y2 σ) := by
  unfold f224_33
  refine b_run [(33, .aload_n 0, 0, 0, .null), (34, .iload_n 2, 0, 0, .null), (35, .iconst 1, 0, 0, .null), (36, .iadd, 0, 0, .null)] (pc' := 37) (ls' := [some (.ref 1315), some (.int y1), some (.int y2)]) (st' := [.int (y2 + 1), .ref 1315]) (by decide +kernel) rfl ?_
  refine b_pI (q := 181) (ci := 9) (k := 32) (w := .null) (by decide +kernel) (by decide +kernel) (fit_I _) (fun σ4 => ?_)
  refine b_run [(40, .aload_n 0, 0, 0, .null), (41, .iconst 1, 0, 0, .null), (42, .iload_n 1, 0, 0, .null), (43, .iload_n 2, 0, 0, .null), (44, .iload_n 1, 0, 0, .null), (45, .isub, 0, 0, .null)] (pc' := 46) (ls' := [some (.ref 1315), some (.int y1), some (.int y2)]) (st' := [.int (y2 - y1), .int y1, .int 1, .ref 1315]) (by decide +kernel) rfl ?_
  refine b_callV 221 4 [.ref 1315, .int 1, .int y1, .int (y2 - y1)] (rest := []) (by decide +kernel) rfl rfl rfl (go_O rfl (by decide +kernel) (by decide +kernel : isO 1315 9 = true)) rfl (s221 hv F 1 y1 (y2 - y1) σ4) (by decide) (fun σ5 => ?_)
  refine b_run [(49, .aload_n 0, 0, 0, .null), (50, .iload_n 2, 0, 0, .null)] (pc' := 51) (ls' := [some (.ref 1315), some (.int y1), some (.int y2)]) (st' := [.int y2, .ref 1315]) (by decide +kernel) rfl ?_
  refine b_callI 152 2 [.ref 1315, .int y2] (rest := []) (by decide +kernel) rfl rfl rfl (go_O rfl (by decide +kernel) (by decide +kernel : isO 1315 9 = true)) rfl (s152 hv F y2 σ5) (by decide) (fun c8 σ7 => ?_)
  refine b_izF (c := .ne) (o := 8) (t := 62) (y := 0) (w := .null) (by decide +kernel) cmp_ne (fun _ => ?_) (fun _ => ?_)
  · refine b_run [(57, .bipush 8, 0, 0, .null), (59, .goto 5, 64, 0, .null)] (pc' := 64) (ls' := [some (.ref 1315), some (.int y1), some (.int y2)]) (st' := [.int 8]) (by decide +kernel) rfl ?_
    exact b_ret (i := (.ireturn, 0, 0, .null)) (by decide +kernel) rfl rfl (fit_I _)
  · refine b_run [(62, .bipush 7, 0, 0, .null)] (pc' := 64) (ls' := [some (.ref 1315), some (.int y1), some (.int y2)]) (st' := [.int 7]) (by decide +kernel) rfl ?_
    exact b_ret (i := (.ireturn, 0, 0, .null)) (by decide +kernel) rfl rfl (fit_I _)
def f224_9 (F : Nat) : Nat → Int32 → Int32 → St → Rs
  | 0, _, _, _ => none
  | n + 1, y1, y2, σ => cI (f152 F y2 σ) fun c3 σ2 => 
    if c3 = 0 then f224_33 F y1 y2 σ2
    else cI (f152 F y2 σ2) fun c10 σ9 => 
    if c10 = 39 then f224_33 F y1 y2 σ9
    else f224_9 F n y1 (y2 + 1) σ9
theorem s224_9 {sc : aSc} (hv : vOk sc) (F : Nat) : ∀ (n : Nat) (y1 : Int32) (y2 : Int32) (σ : St), bEx sc 1 224 9 [some (.ref 1315), some (.int y1), some (.int y2)] [] σ (f224_9 F n y1 y2 σ) := by
  intro n
  induction n with
  | zero => intro y1 y2 σ; exact b_none
  | succ n ih =>
    intro y1 y2 σ
    rw [f224_9.eq_2]
    refine b_run [(9, .aload_n 0, 0, 0, .null), (10, .iload_n 2, 0, 0, .null)] (pc' := 11) (ls' := [some (.ref 1315), some (.int y1), some (.int y2)]) (st' := [.int y2, .ref 1315]) (by decide +kernel) rfl ?_
    refine b_callI 152 2 [.ref 1315, .int y2] (rest := []) (by decide +kernel) rfl rfl rfl (go_O rfl (by decide +kernel) (by decide +kernel : isO 1315 9 = true)) rfl (s152 hv F y2 σ) (by decide) (fun c3 σ2 => ?_)
    refine b_izT (c := .eq) (o := 19) (t := 33) (y := 0) (w := .null) (by decide +kernel) cmp_eq (fun _ => ?_) (fun _ => ?_)
    · exact b_wk (wS (wS (wS w0))) (s224_33 hv F y1 y2 σ2)
    · refine b_run [(17, .aload_n 0, 0, 0, .null), (18, .iload_n 2, 0, 0, .null)] (pc' := 19) (ls' := [some (.ref 1315), some (.int y1), some (.int y2)]) (st' := [.int y2, .ref 1315]) (by decide +kernel) rfl ?_
      refine b_callI 152 2 [.ref 1315, .int y2] (rest := []) (by decide +kernel) rfl rfl rfl (go_O rfl (by decide +kernel) (by decide +kernel : isO 1315 9 = true)) rfl (s152 hv F y2 σ2) (by decide) (fun c10 σ9 => ?_)
      refine b_run [(22, .bipush 39, 0, 0, .null)] (pc' := 24) (ls' := [some (.ref 1315), some (.int y1), some (.int y2)]) (st' := [.int 39, .int c10]) (by decide +kernel) rfl ?_
      refine b_icT (c := .eq) (o := 9) (t := 33) (y := 0) (w := .null) (by decide +kernel) cmp_eq (fun _ => ?_) (fun _ => ?_)
      · exact b_wk (wS (wS (wS w0))) (s224_33 hv F y1 y2 σ9)
      · refine b_run [(27, .iinc 2 1, 0, 0, .null), (30, .goto (-21), 9, 0, .null)] (pc' := 9) (ls' := [some (.ref 1315), some (.int y1), some (.int (y2 + 1))]) (st' := []) (by decide +kernel) rfl ?_
        exact b_wk (wS (wS (wS w0))) (ih y1 (y2 + 1) σ9)
/-- TreeStoreModel.atLiteral()I -/
def f224 (F : Nat) (σ : St) : Rs := lt (σ.1 1315 32) fun c1 => f224_9 F F (c1 + 1) (c1 + 1) σ
theorem s224 {sc : aSc} (hv : vOk sc) (F : Nat) (σ : St) : bEx sc 1 224 0 [some (.ref 1315), none, none] [] σ (f224 F σ) := by
  unfold f224
  refine b_run [(0, .aload_n 0, 0, 0, .null)] (pc' := 1) (ls' := [some (.ref 1315), none, none]) (st' := [.ref 1315]) (by decide +kernel) rfl ?_
  refine b_gI (q := 181) (ci := 9) (k := 32) (w := .null) (by decide +kernel) (by decide +kernel) (fun c1 => ?_)
  refine b_run [(4, .iconst 1, 0, 0, .null), (5, .iadd, 0, 0, .null), (6, .istore_n 1, 0, 0, .null), (7, .iload_n 1, 0, 0, .null), (8, .istore_n 2, 0, 0, .null)] (pc' := 9) (ls' := [some (.ref 1315), some (.int (c1 + 1)), some (.int (c1 + 1))]) (st' := []) (by decide +kernel) rfl ?_
  exact b_wk (wS (wS (wS w0))) (s224_9 hv F F (c1 + 1) (c1 + 1) σ)
def f223_69 (F : Nat) (y1 : Int32) (y2 : Int32) (σ : St) : Rs := cV (f221 F 0 y1 0 σ) fun σ4 => 
    if 6 < y2 then oI 8 σ4
    else oI 7 σ4
theorem s223_69 {sc : aSc} (hv : vOk sc) (F : Nat) (y1 : Int32) (y2 : Int32) (σ : St) : bEx sc 1 223 69 [some (.ref 1315), some (.int y1), some (.int y2)] [] σ (f223_69 F y1 y2 σ) := by
  unfold f223_69
  refine b_run [(69, .aload_n 0, 0, 0, .null), (70, .iconst 0, 0, 0, .null), (71, .iload_n 1, 0, 0, .null), (72, .iconst 0, 0, 0, .null)] (pc' := 73) (ls' := [some (.ref 1315), some (.int y1), some (.int y2)]) (st' := [.int 0, .int y1, .int 0, .ref 1315]) (by decide +kernel) rfl ?_
  refine b_callV 221 4 [.ref 1315, .int 0, .int y1, .int 0] (rest := []) (by decide +kernel) rfl rfl rfl (go_O rfl (by decide +kernel) (by decide +kernel : isO 1315 9 = true)) rfl (s221 hv F 0 y1 0 σ) (by decide) (fun σ4 => ?_)
  refine b_run [(76, .iload_n 2, 0, 0, .null), (77, .bipush 6, 0, 0, .null)] (pc' := 79) (ls' := [some (.ref 1315), some (.int y1), some (.int y2)]) (st' := [.int 6, .int y2]) (by decide +kernel) rfl ?_
  refine b_icF (c := .le) (o := 8) (t := 87) (y := 0) (w := .null) (by decide +kernel) cmp_le (fun _ => ?_) (fun _ => ?_)
  · refine b_run [(82, .bipush 8, 0, 0, .null), (84, .goto 5, 89, 0, .null)] (pc' := 89) (ls' := [some (.ref 1315), some (.int y1), some (.int y2)]) (st' := [.int 8]) (by decide +kernel) rfl ?_
    exact b_ret (i := (.ireturn, 0, 0, .null)) (by decide +kernel) rfl rfl (fit_I _)
  · refine b_run [(87, .bipush 7, 0, 0, .null)] (pc' := 89) (ls' := [some (.ref 1315), some (.int y1), some (.int y2)]) (st' := [.int 7]) (by decide +kernel) rfl ?_
    exact b_ret (i := (.ireturn, 0, 0, .null)) (by decide +kernel) rfl rfl (fit_I _)
def f223_4 (F : Nat) : Nat → Int32 → Int32 → St → Rs
  | 0, _, _, _ => none
  | n + 1, y1, y2, σ => lt (σ.1 1315 32) fun c1 => 
    cI (f152 F c1 σ) fun c3 σ2 => 
    if c3 < 48 then f223_69 F y1 y2 σ2
    else lt (σ2.1 1315 32) fun c6 => 
    cI (f152 F c6 σ2) fun c8 σ7 => 
    if 57 < c8 then f223_69 F y1 y2 σ7
    else if y2 < 7 then 
    lt (σ7.1 1315 32) fun c9 => 
    cI (f152 F c9 σ7) fun c11 σ10 => 
    lt (((10 * y1) + c11) - 48) fun c12 => lt (σ10.1 1315 32) fun c13 => lt (uI σ10 1315 32 (c13 + 1)) fun σ14 => f223_4 F n c12 (y2 + 1) σ14
    else f223_69 F y1 y2 σ7
theorem s223_4 {sc : aSc} (hv : vOk sc) (F : Nat) : ∀ (n : Nat) (y1 : Int32) (y2 : Int32) (σ : St), bEx sc 1 223 4 [some (.ref 1315), some (.int y1), some (.int y2)] [] σ (f223_4 F n y1 y2 σ) := by
  intro n
  induction n with
  | zero => intro y1 y2 σ; exact b_none
  | succ n ih =>
    intro y1 y2 σ
    rw [f223_4.eq_2]
    refine b_run [(4, .aload_n 0, 0, 0, .null), (5, .aload_n 0, 0, 0, .null)] (pc' := 6) (ls' := [some (.ref 1315), some (.int y1), some (.int y2)]) (st' := [.ref 1315, .ref 1315]) (by decide +kernel) rfl ?_
    refine b_gI (q := 181) (ci := 9) (k := 32) (w := .null) (by decide +kernel) (by decide +kernel) (fun c1 => ?_)
    refine b_callI 152 2 [.ref 1315, .int c1] (rest := []) (by decide +kernel) rfl rfl rfl (go_O rfl (by decide +kernel) (by decide +kernel : isO 1315 9 = true)) rfl (s152 hv F c1 σ) (by decide) (fun c3 σ2 => ?_)
    refine b_run [(12, .bipush 48, 0, 0, .null)] (pc' := 14) (ls' := [some (.ref 1315), some (.int y1), some (.int y2)]) (st' := [.int 48, .int c3]) (by decide +kernel) rfl ?_
    refine b_icT (c := .lt) (o := 55) (t := 69) (y := 0) (w := .null) (by decide +kernel) cmp_lt (fun _ => ?_) (fun _ => ?_)
    · exact b_wk (wS (wS (wS w0))) (s223_69 hv F y1 y2 σ2)
    · refine b_run [(17, .aload_n 0, 0, 0, .null), (18, .aload_n 0, 0, 0, .null)] (pc' := 19) (ls' := [some (.ref 1315), some (.int y1), some (.int y2)]) (st' := [.ref 1315, .ref 1315]) (by decide +kernel) rfl ?_
      refine b_gI (q := 181) (ci := 9) (k := 32) (w := .null) (by decide +kernel) (by decide +kernel) (fun c6 => ?_)
      refine b_callI 152 2 [.ref 1315, .int c6] (rest := []) (by decide +kernel) rfl rfl rfl (go_O rfl (by decide +kernel) (by decide +kernel : isO 1315 9 = true)) rfl (s152 hv F c6 σ2) (by decide) (fun c8 σ7 => ?_)
      refine b_run [(25, .bipush 57, 0, 0, .null)] (pc' := 27) (ls' := [some (.ref 1315), some (.int y1), some (.int y2)]) (st' := [.int 57, .int c8]) (by decide +kernel) rfl ?_
      refine b_icT (c := .gt) (o := 42) (t := 69) (y := 0) (w := .null) (by decide +kernel) cmp_gt (fun _ => ?_) (fun _ => ?_)
      · exact b_wk (wS (wS (wS w0))) (s223_69 hv F y1 y2 σ7)
      · refine b_run [(30, .iload_n 2, 0, 0, .null), (31, .bipush 7, 0, 0, .null)] (pc' := 33) (ls' := [some (.ref 1315), some (.int y1), some (.int y2)]) (st' := [.int 7, .int y2]) (by decide +kernel) rfl ?_
        refine b_icF (c := .ge) (o := 36) (t := 69) (y := 0) (w := .null) (by decide +kernel) cmp_ge (fun _ => ?_) (fun _ => ?_)
        · refine b_run [(36, .bipush 10, 0, 0, .null), (38, .iload_n 1, 0, 0, .null), (39, .imul, 0, 0, .null), (40, .aload_n 0, 0, 0, .null), (41, .aload_n 0, 0, 0, .null)] (pc' := 42) (ls' := [some (.ref 1315), some (.int y1), some (.int y2)]) (st' := [.ref 1315, .ref 1315, .int (10 * y1)]) (by decide +kernel) rfl ?_
          refine b_gI (q := 181) (ci := 9) (k := 32) (w := .null) (by decide +kernel) (by decide +kernel) (fun c9 => ?_)
          refine b_callI 152 2 [.ref 1315, .int c9] (rest := [.int (10 * y1)]) (by decide +kernel) rfl rfl rfl (go_O rfl (by decide +kernel) (by decide +kernel : isO 1315 9 = true)) rfl (s152 hv F c9 σ7) (by decide) (fun c11 σ10 => ?_)
          refine b_run [(48, .iadd, 0, 0, .null), (49, .bipush 48, 0, 0, .null), (51, .isub, 0, 0, .null), (52, .istore_n 1, 0, 0, .null)] (pc' := 53) (ls' := [some (.ref 1315), some (.int (((10 * y1) + c11) - 48)), some (.int y2)]) (st' := []) (by decide +kernel) rfl ?_
          refine b_let (((10 * y1) + c11) - 48) (L := fun c12 => [some (.ref 1315), some (.int c12), some (.int y2)]) (S := fun _ => []) (fun c12 => ?_)
          refine b_run [(53, .aload_n 0, 0, 0, .null), (54, .dup, 0, 0, .null)] (pc' := 55) (ls' := [some (.ref 1315), some (.int c12), some (.int y2)]) (st' := [.ref 1315, .ref 1315]) (by decide +kernel) rfl ?_
          refine b_gI (q := 181) (ci := 9) (k := 32) (w := .null) (by decide +kernel) (by decide +kernel) (fun c13 => ?_)
          refine b_run [(58, .iconst 1, 0, 0, .null), (59, .iadd, 0, 0, .null)] (pc' := 60) (ls' := [some (.ref 1315), some (.int c12), some (.int y2)]) (st' := [.int (c13 + 1), .ref 1315]) (by decide +kernel) rfl ?_
          refine b_pI (q := 181) (ci := 9) (k := 32) (w := .null) (by decide +kernel) (by decide +kernel) (fit_I _) (fun σ14 => ?_)
          refine b_run [(63, .iinc 2 1, 0, 0, .null), (66, .goto (-62), 4, 0, .null)] (pc' := 4) (ls' := [some (.ref 1315), some (.int c12), some (.int (y2 + 1))]) (st' := []) (by decide +kernel) rfl ?_
          exact b_wk (wS (wS (wS w0))) (ih c12 (y2 + 1) σ14)
        · exact b_wk (wS (wS (wS w0))) (s223_69 hv F y1 y2 σ7)
/-- TreeStoreModel.atNumber()I -/
def f223 (F : Nat) (σ : St) : Rs := f223_4 F F 0 0 σ
theorem s223 {sc : aSc} (hv : vOk sc) (F : Nat) (σ : St) : bEx sc 1 223 0 [some (.ref 1315), none, none] [] σ (f223 F σ) := by
  unfold f223
  refine b_run [(0, .iconst 0, 0, 0, .null), (1, .istore_n 1, 0, 0, .null), (2, .iconst 0, 0, 0, .null), (3, .istore_n 2, 0, 0, .null)] (pc' := 4) (ls' := [some (.ref 1315), some (.int 0), some (.int 0)]) (st' := []) (by decide +kernel) rfl ?_
  exact b_wk (wS (wS (wS w0))) (s223_4 hv F F 0 0 σ)
def f222_203 (F : Nat) (y4 : Int32) (z1 : Int32) (σ : St) : Rs := lt (σ.1 1315 52) fun c26 => 
    if inB c26 6 then lt (σ.1 1356 c26.toNatClampNeg) fun c27 => 
    cV (f218 F z1 c27 σ) fun σ28 => 
    if y4 = 0 then oI 6 σ28
    else oI 1 σ28 else none
theorem s222_203 {sc : aSc} (hv : vOk sc) (F : Nat) (y4 : Int32) (z1 : Int32) (σ : St) : bEx sc 3 222 203 [some (.ref 1315), none, none, none, some (.int y4)] [.int z1, .ref 1315] σ (f222_203 F y4 z1 σ) := by
  unfold f222_203
  refine b_run [(203, .aload_n 0, 0, 0, .null)] (pc' := 204) (ls' := [some (.ref 1315), none, none, none, some (.int y4)]) (st' := [.ref 1315, .int z1, .ref 1315]) (by decide +kernel) rfl ?_
  refine b_getC (b := 1356) (q := 132) (ci := 9) (k := 56) (w := .null) (by decide +kernel) (by decide +kernel) ?_
  refine b_run [(207, .aload_n 0, 0, 0, .null)] (pc' := 208) (ls' := [some (.ref 1315), none, none, none, some (.int y4)]) (st' := [.ref 1315, .ref 1356, .int z1, .ref 1315]) (by decide +kernel) rfl ?_
  refine b_gI (q := 395) (ci := 9) (k := 52) (w := .null) (by decide +kernel) (by decide +kernel) (fun c26 => ?_)
  refine b_guard (fun hb => ?_)
  refine b_aI (ci := 0) (y := 0) (w := .null) (by decide +kernel) (by decide +kernel) hb (fun c27 => ?_)
  refine b_callV 218 3 [.ref 1315, .int z1, .int c27] (rest := []) (by decide +kernel) rfl rfl rfl (go_O rfl (by decide +kernel) (by decide +kernel : isO 1315 9 = true)) rfl (s218 hv F z1 c27 σ) (by decide) (fun σ28 => ?_)
  refine b_run [(215, .iload 4, 0, 0, .null)] (pc' := 217) (ls' := [some (.ref 1315), none, none, none, some (.int y4)]) (st' := [.int y4]) (by decide +kernel) rfl ?_
  refine b_izT (c := .eq) (o := 7) (t := 224) (y := 0) (w := .null) (by decide +kernel) cmp_eq (fun _ => ?_) (fun _ => ?_)
  · refine b_run [(224, .bipush 6, 0, 0, .null)] (pc' := 226) (ls' := [some (.ref 1315), none, none, none, some (.int y4)]) (st' := [.int 6]) (by decide +kernel) rfl ?_
    exact b_ret (i := (.ireturn, 0, 0, .null)) (by decide +kernel) rfl rfl (fit_I _)
  · refine b_run [(220, .iconst 1, 0, 0, .null), (221, .goto 5, 226, 0, .null)] (pc' := 226) (ls' := [some (.ref 1315), none, none, none, some (.int y4)]) (st' := [.int 1]) (by decide +kernel) rfl ?_
    exact b_ret (i := (.ireturn, 0, 0, .null)) (by decide +kernel) rfl rfl (fit_I _)
def f222_174 (F : Nat) (y2 : Int32) (y4 : Int32) (σ : St) : Rs := lt (σ.1 1315 52) fun c24 => 
    if c24 = 4 then oI 8 σ
    else lt (uI σ 1315 32 (y2 + 1)) fun σ25 => 
    if y4 = 0 then f222_203 F y4 3 σ25
    else f222_203 F y4 2 σ25
theorem s222_174 {sc : aSc} (hv : vOk sc) (F : Nat) (y2 : Int32) (y4 : Int32) (σ : St) : bEx sc 3 222 174 [some (.ref 1315), none, some (.int y2), none, some (.int y4)] [] σ (f222_174 F y2 y4 σ) := by
  unfold f222_174
  refine b_run [(174, .aload_n 0, 0, 0, .null)] (pc' := 175) (ls' := [some (.ref 1315), none, some (.int y2), none, some (.int y4)]) (st' := [.ref 1315]) (by decide +kernel) rfl ?_
  refine b_gI (q := 395) (ci := 9) (k := 52) (w := .null) (by decide +kernel) (by decide +kernel) (fun c24 => ?_)
  refine b_run [(178, .iconst 4, 0, 0, .null)] (pc' := 179) (ls' := [some (.ref 1315), none, some (.int y2), none, some (.int y4)]) (st' := [.int 4, .int c24]) (by decide +kernel) rfl ?_
  refine b_icF (c := .ne) (o := 6) (t := 185) (y := 0) (w := .null) (by decide +kernel) cmp_ne (fun _ => ?_) (fun _ => ?_)
  · refine b_run [(182, .bipush 8, 0, 0, .null)] (pc' := 184) (ls' := [some (.ref 1315), none, some (.int y2), none, some (.int y4)]) (st' := [.int 8]) (by decide +kernel) rfl ?_
    exact b_ret (i := (.ireturn, 0, 0, .null)) (by decide +kernel) rfl rfl (fit_I _)
  · refine b_run [(185, .aload_n 0, 0, 0, .null), (186, .iload_n 2, 0, 0, .null), (187, .iconst 1, 0, 0, .null), (188, .iadd, 0, 0, .null)] (pc' := 189) (ls' := [some (.ref 1315), none, some (.int y2), none, some (.int y4)]) (st' := [.int (y2 + 1), .ref 1315]) (by decide +kernel) rfl ?_
    refine b_pI (q := 181) (ci := 9) (k := 32) (w := .null) (by decide +kernel) (by decide +kernel) (fit_I _) (fun σ25 => ?_)
    refine b_run [(192, .aload_n 0, 0, 0, .null), (193, .iload 4, 0, 0, .null)] (pc' := 195) (ls' := [some (.ref 1315), none, some (.int y2), none, some (.int y4)]) (st' := [.int y4, .ref 1315]) (by decide +kernel) rfl ?_
    refine b_izT (c := .eq) (o := 7) (t := 202) (y := 0) (w := .null) (by decide +kernel) cmp_eq (fun _ => ?_) (fun _ => ?_)
    · refine b_run [(202, .iconst 3, 0, 0, .null)] (pc' := 203) (ls' := [some (.ref 1315), none, some (.int y2), none, some (.int y4)]) (st' := [.int 3, .ref 1315]) (by decide +kernel) rfl ?_
      exact b_wk (wS (wN (wN (wN (wS w0))))) (s222_203 hv F y4 3 σ25)
    · refine b_run [(198, .iconst 2, 0, 0, .null), (199, .goto 4, 203, 0, .null)] (pc' := 203) (ls' := [some (.ref 1315), none, some (.int y2), none, some (.int y4)]) (st' := [.int 2, .ref 1315]) (by decide +kernel) rfl ?_
      exact b_wk (wS (wN (wN (wN (wS w0))))) (s222_203 hv F y4 2 σ25)
def f222_115 (F : Nat) (y2 : Int32) (z1 : Int32) (σ : St) : Rs := cV (f221 F z1 0 0 σ) fun σ31 => 
    cI (f152 F (y2 + 1) σ31) fun c34 σ33 => 
    if c34 = 41 then oI 7 σ33
    else oI 8 σ33
theorem s222_115 {sc : aSc} (hv : vOk sc) (F : Nat) (y2 : Int32) (z1 : Int32) (σ : St) : bEx sc 3 222 115 [some (.ref 1315), none, some (.int y2), none, none] [.int z1, .ref 1315] σ (f222_115 F y2 z1 σ) := by
  unfold f222_115
  refine b_run [(115, .iconst 0, 0, 0, .null), (116, .iconst 0, 0, 0, .null)] (pc' := 117) (ls' := [some (.ref 1315), none, some (.int y2), none, none]) (st' := [.int 0, .int 0, .int z1, .ref 1315]) (by decide +kernel) rfl ?_
  refine b_callV 221 4 [.ref 1315, .int z1, .int 0, .int 0] (rest := []) (by decide +kernel) rfl rfl rfl (go_O rfl (by decide +kernel) (by decide +kernel : isO 1315 9 = true)) rfl (s221 hv F z1 0 0 σ) (by decide) (fun σ31 => ?_)
  refine b_run [(120, .aload_n 0, 0, 0, .null), (121, .iload_n 2, 0, 0, .null), (122, .iconst 1, 0, 0, .null), (123, .iadd, 0, 0, .null)] (pc' := 124) (ls' := [some (.ref 1315), none, some (.int y2), none, none]) (st' := [.int (y2 + 1), .ref 1315]) (by decide +kernel) rfl ?_
  refine b_callI 152 2 [.ref 1315, .int (y2 + 1)] (rest := []) (by decide +kernel) rfl rfl rfl (go_O rfl (by decide +kernel) (by decide +kernel : isO 1315 9 = true)) rfl (s152 hv F (y2 + 1) σ31) (by decide) (fun c34 σ33 => ?_)
  refine b_run [(127, .bipush 41, 0, 0, .null)] (pc' := 129) (ls' := [some (.ref 1315), none, some (.int y2), none, none]) (st' := [.int 41, .int c34]) (by decide +kernel) rfl ?_
  refine b_icF (c := .ne) (o := 8) (t := 137) (y := 0) (w := .null) (by decide +kernel) cmp_ne (fun _ => ?_) (fun _ => ?_)
  · refine b_run [(132, .bipush 7, 0, 0, .null), (134, .goto 5, 139, 0, .null)] (pc' := 139) (ls' := [some (.ref 1315), none, some (.int y2), none, none]) (st' := [.int 7]) (by decide +kernel) rfl ?_
    exact b_ret (i := (.ireturn, 0, 0, .null)) (by decide +kernel) rfl rfl (fit_I _)
  · refine b_run [(137, .bipush 8, 0, 0, .null)] (pc' := 139) (ls' := [some (.ref 1315), none, some (.int y2), none, none]) (st' := [.int 8]) (by decide +kernel) rfl ?_
    exact b_ret (i := (.ireturn, 0, 0, .null)) (by decide +kernel) rfl rfl (fit_I _)
def f222_98 (F : Nat) (y2 : Int32) (y3 : Int32) (σ : St) : Rs := lt (uI σ 1315 32 (y2 + 2)) fun σ30 => 
    if y3 = 0 then f222_115 F y2 3 σ30
    else f222_115 F y2 2 σ30
theorem s222_98 {sc : aSc} (hv : vOk sc) (F : Nat) (y2 : Int32) (y3 : Int32) (σ : St) : bEx sc 3 222 98 [some (.ref 1315), none, some (.int y2), some (.int y3), none] [] σ (f222_98 F y2 y3 σ) := by
  unfold f222_98
  refine b_run [(98, .aload_n 0, 0, 0, .null), (99, .iload_n 2, 0, 0, .null), (100, .iconst 2, 0, 0, .null), (101, .iadd, 0, 0, .null)] (pc' := 102) (ls' := [some (.ref 1315), none, some (.int y2), some (.int y3), none]) (st' := [.int (y2 + 2), .ref 1315]) (by decide +kernel) rfl ?_
  refine b_pI (q := 181) (ci := 9) (k := 32) (w := .null) (by decide +kernel) (by decide +kernel) (fit_I _) (fun σ30 => ?_)
  refine b_run [(105, .aload_n 0, 0, 0, .null), (106, .iload_n 3, 0, 0, .null)] (pc' := 107) (ls' := [some (.ref 1315), none, some (.int y2), some (.int y3), none]) (st' := [.int y3, .ref 1315]) (by decide +kernel) rfl ?_
  refine b_izT (c := .eq) (o := 7) (t := 114) (y := 0) (w := .null) (by decide +kernel) cmp_eq (fun _ => ?_) (fun _ => ?_)
  · refine b_run [(114, .iconst 3, 0, 0, .null)] (pc' := 115) (ls' := [some (.ref 1315), none, some (.int y2), some (.int y3), none]) (st' := [.int 3, .ref 1315]) (by decide +kernel) rfl ?_
    exact b_wk (wS (wN (wS (wN (wN w0))))) (s222_115 hv F y2 3 σ30)
  · refine b_run [(110, .iconst 2, 0, 0, .null), (111, .goto 4, 115, 0, .null)] (pc' := 115) (ls' := [some (.ref 1315), none, some (.int y2), some (.int y3), none]) (st' := [.int 2, .ref 1315]) (by decide +kernel) rfl ?_
    exact b_wk (wS (wN (wS (wN (wN w0))))) (s222_115 hv F y2 2 σ30)
def f222_26 (F : Nat) (y1 : Int32) (σ : St) : Rs := if y1 = 39 then cI (f224 F σ) fun c5 σ4 => oI c5 σ4
    else lt (σ.1 1315 32) fun c6 => 
    cI (f163 F c6 σ) fun c8 σ7 => 
    lt (σ7.1 1315 32) fun c9 => 
    if c8 = c9 then oI 1 σ7
    else cI (f152 F c8 σ7) fun c11 σ10 => 
    if c11 = 40 then 
    lt (σ10.1 1315 32) fun c12 => 
    cI (f213 F c12 c8 8101821151424638830 σ10) fun c14 σ13 => 
    if c14 = 0 then 
    lt (σ13.1 1315 32) fun c15 => 
    cI (f213 F c15 c8 1818325876 σ13) fun c17 σ16 => 
    if c17 = 0 then 
    lt (σ16.1 1315 32) fun c18 => 
    cI (f213 F c18 c8 427071729268 σ16) fun c20 σ19 => 
    if c20 = 0 then 
    lt (σ19.1 1315 32) fun c21 => 
    cI (f213 F c21 c8 7237492 σ19) fun c23 σ22 => 
    if c23 = 0 then oI 1 σ22
    else f222_174 F c8 c20 σ22
    else f222_174 F c8 c20 σ19
    else f222_98 F c8 c14 σ16
    else f222_98 F c8 c14 σ13
    else oI 1 σ10
theorem s222_26 {sc : aSc} (hv : vOk sc) (F : Nat) (y1 : Int32) (σ : St) : bEx sc 3 222 26 [some (.ref 1315), some (.int y1), none, none, none] [] σ (f222_26 F y1 σ) := by
  unfold f222_26
  refine b_run [(26, .iload_n 1, 0, 0, .null), (27, .bipush 39, 0, 0, .null)] (pc' := 29) (ls' := [some (.ref 1315), some (.int y1), none, none, none]) (st' := [.int 39, .int y1]) (by decide +kernel) rfl ?_
  refine b_icF (c := .ne) (o := 8) (t := 37) (y := 0) (w := .null) (by decide +kernel) cmp_ne (fun _ => ?_) (fun _ => ?_)
  · refine b_run [(32, .aload_n 0, 0, 0, .null)] (pc' := 33) (ls' := [some (.ref 1315), some (.int y1), none, none, none]) (st' := [.ref 1315]) (by decide +kernel) rfl ?_
    refine b_callI 224 1 [.ref 1315] (rest := []) (by decide +kernel) rfl rfl rfl (go_O rfl (by decide +kernel) (by decide +kernel : isO 1315 9 = true)) rfl (s224 hv F σ) (by decide) (fun c5 σ4 => ?_)
    exact b_ret (i := (.ireturn, 0, 0, .null)) (by decide +kernel) rfl rfl (fit_I _)
  · refine b_run [(37, .aload_n 0, 0, 0, .null), (38, .aload_n 0, 0, 0, .null)] (pc' := 39) (ls' := [some (.ref 1315), some (.int y1), none, none, none]) (st' := [.ref 1315, .ref 1315]) (by decide +kernel) rfl ?_
    refine b_gI (q := 181) (ci := 9) (k := 32) (w := .null) (by decide +kernel) (by decide +kernel) (fun c6 => ?_)
    refine b_callI 163 2 [.ref 1315, .int c6] (rest := []) (by decide +kernel) rfl rfl rfl (go_O rfl (by decide +kernel) (by decide +kernel : isO 1315 9 = true)) rfl (s163 hv F c6 σ) (by decide) (fun c8 σ7 => ?_)
    refine b_run [(45, .istore_n 2, 0, 0, .null), (46, .iload_n 2, 0, 0, .null), (47, .aload_n 0, 0, 0, .null)] (pc' := 48) (ls' := [some (.ref 1315), some (.int y1), some (.int c8), none, none]) (st' := [.ref 1315, .int c8]) (by decide +kernel) rfl ?_
    refine b_gI (q := 181) (ci := 9) (k := 32) (w := .null) (by decide +kernel) (by decide +kernel) (fun c9 => ?_)
    refine b_icT (c := .eq) (o := 13) (t := 64) (y := 0) (w := .null) (by decide +kernel) cmp_eq (fun _ => ?_) (fun _ => ?_)
    · refine b_run [(64, .iconst 1, 0, 0, .null)] (pc' := 65) (ls' := [some (.ref 1315), some (.int y1), some (.int c8), none, none]) (st' := [.int 1]) (by decide +kernel) rfl ?_
      exact b_ret (i := (.ireturn, 0, 0, .null)) (by decide +kernel) rfl rfl (fit_I _)
    · refine b_run [(54, .aload_n 0, 0, 0, .null), (55, .iload_n 2, 0, 0, .null)] (pc' := 56) (ls' := [some (.ref 1315), some (.int y1), some (.int c8), none, none]) (st' := [.int c8, .ref 1315]) (by decide +kernel) rfl ?_
      refine b_callI 152 2 [.ref 1315, .int c8] (rest := []) (by decide +kernel) rfl rfl rfl (go_O rfl (by decide +kernel) (by decide +kernel : isO 1315 9 = true)) rfl (s152 hv F c8 σ7) (by decide) (fun c11 σ10 => ?_)
      refine b_run [(59, .bipush 40, 0, 0, .null)] (pc' := 61) (ls' := [some (.ref 1315), some (.int y1), some (.int c8), none, none]) (st' := [.int 40, .int c11]) (by decide +kernel) rfl ?_
      refine b_icT (c := .eq) (o := 5) (t := 66) (y := 0) (w := .null) (by decide +kernel) cmp_eq (fun _ => ?_) (fun _ => ?_)
      · refine b_run [(66, .aload_n 0, 0, 0, .null), (67, .aload_n 0, 0, 0, .null)] (pc' := 68) (ls' := [some (.ref 1315), some (.int y1), some (.int c8), none, none]) (st' := [.ref 1315, .ref 1315]) (by decide +kernel) rfl ?_
        refine b_gI (q := 181) (ci := 9) (k := 32) (w := .null) (by decide +kernel) (by decide +kernel) (fun c12 => ?_)
        refine b_run [(71, .iload_n 2, 0, 0, .null), (72, .ldc2_w 443, 0, 0, .long 8101821151424638830)] (pc' := 75) (ls' := [some (.ref 1315), some (.int y1), some (.int c8), none, none]) (st' := [.long 8101821151424638830, .int c8, .int c12, .ref 1315]) (by decide +kernel) rfl ?_
        refine b_callI 213 4 [.ref 1315, .int c12, .int c8, .long 8101821151424638830] (rest := []) (by decide +kernel) rfl rfl rfl (go_O rfl (by decide +kernel) (by decide +kernel : isO 1315 9 = true)) rfl (s213 hv F c12 c8 8101821151424638830 σ10) (by decide) (fun c14 σ13 => ?_)
        refine b_run [(78, .istore_n 3, 0, 0, .null), (79, .iload_n 3, 0, 0, .null)] (pc' := 80) (ls' := [some (.ref 1315), some (.int y1), some (.int c8), some (.int c14), none]) (st' := [.int c14]) (by decide +kernel) rfl ?_
        refine b_izF (c := .ne) (o := 18) (t := 98) (y := 0) (w := .null) (by decide +kernel) cmp_ne (fun _ => ?_) (fun _ => ?_)
        · refine b_run [(83, .aload_n 0, 0, 0, .null), (84, .aload_n 0, 0, 0, .null)] (pc' := 85) (ls' := [some (.ref 1315), some (.int y1), some (.int c8), some (.int c14), none]) (st' := [.ref 1315, .ref 1315]) (by decide +kernel) rfl ?_
          refine b_gI (q := 181) (ci := 9) (k := 32) (w := .null) (by decide +kernel) (by decide +kernel) (fun c15 => ?_)
          refine b_run [(88, .iload_n 2, 0, 0, .null), (89, .ldc2_w 445, 0, 0, .long 1818325876)] (pc' := 92) (ls' := [some (.ref 1315), some (.int y1), some (.int c8), some (.int c14), none]) (st' := [.long 1818325876, .int c8, .int c15, .ref 1315]) (by decide +kernel) rfl ?_
          refine b_callI 213 4 [.ref 1315, .int c15, .int c8, .long 1818325876] (rest := []) (by decide +kernel) rfl rfl rfl (go_O rfl (by decide +kernel) (by decide +kernel : isO 1315 9 = true)) rfl (s213 hv F c15 c8 1818325876 σ13) (by decide) (fun c17 σ16 => ?_)
          refine b_izT (c := .eq) (o := 45) (t := 140) (y := 0) (w := .null) (by decide +kernel) cmp_eq (fun _ => ?_) (fun _ => ?_)
          · refine b_run [(140, .aload_n 0, 0, 0, .null), (141, .aload_n 0, 0, 0, .null)] (pc' := 142) (ls' := [some (.ref 1315), some (.int y1), some (.int c8), some (.int c14), none]) (st' := [.ref 1315, .ref 1315]) (by decide +kernel) rfl ?_
            refine b_gI (q := 181) (ci := 9) (k := 32) (w := .null) (by decide +kernel) (by decide +kernel) (fun c18 => ?_)
            refine b_run [(145, .iload_n 2, 0, 0, .null), (146, .ldc2_w 447, 0, 0, .long 427071729268)] (pc' := 149) (ls' := [some (.ref 1315), some (.int y1), some (.int c8), some (.int c14), none]) (st' := [.long 427071729268, .int c8, .int c18, .ref 1315]) (by decide +kernel) rfl ?_
            refine b_callI 213 4 [.ref 1315, .int c18, .int c8, .long 427071729268] (rest := []) (by decide +kernel) rfl rfl rfl (go_O rfl (by decide +kernel) (by decide +kernel : isO 1315 9 = true)) rfl (s213 hv F c18 c8 427071729268 σ16) (by decide) (fun c20 σ19 => ?_)
            refine b_run [(152, .istore 4, 0, 0, .null), (154, .iload 4, 0, 0, .null)] (pc' := 156) (ls' := [some (.ref 1315), some (.int y1), some (.int c8), some (.int c14), some (.int c20)]) (st' := [.int c20]) (by decide +kernel) rfl ?_
            refine b_izF (c := .ne) (o := 18) (t := 174) (y := 0) (w := .null) (by decide +kernel) cmp_ne (fun _ => ?_) (fun _ => ?_)
            · refine b_run [(159, .aload_n 0, 0, 0, .null), (160, .aload_n 0, 0, 0, .null)] (pc' := 161) (ls' := [some (.ref 1315), some (.int y1), some (.int c8), some (.int c14), some (.int c20)]) (st' := [.ref 1315, .ref 1315]) (by decide +kernel) rfl ?_
              refine b_gI (q := 181) (ci := 9) (k := 32) (w := .null) (by decide +kernel) (by decide +kernel) (fun c21 => ?_)
              refine b_run [(164, .iload_n 2, 0, 0, .null), (165, .ldc2_w 449, 0, 0, .long 7237492)] (pc' := 168) (ls' := [some (.ref 1315), some (.int y1), some (.int c8), some (.int c14), some (.int c20)]) (st' := [.long 7237492, .int c8, .int c21, .ref 1315]) (by decide +kernel) rfl ?_
              refine b_callI 213 4 [.ref 1315, .int c21, .int c8, .long 7237492] (rest := []) (by decide +kernel) rfl rfl rfl (go_O rfl (by decide +kernel) (by decide +kernel : isO 1315 9 = true)) rfl (s213 hv F c21 c8 7237492 σ19) (by decide) (fun c23 σ22 => ?_)
              refine b_izT (c := .eq) (o := 56) (t := 227) (y := 0) (w := .null) (by decide +kernel) cmp_eq (fun _ => ?_) (fun _ => ?_)
              · refine b_run [(227, .iconst 1, 0, 0, .null)] (pc' := 228) (ls' := [some (.ref 1315), some (.int y1), some (.int c8), some (.int c14), some (.int c20)]) (st' := [.int 1]) (by decide +kernel) rfl ?_
                exact b_ret (i := (.ireturn, 0, 0, .null)) (by decide +kernel) rfl rfl (fit_I _)
              · exact b_wk (wS (wN (wS (wN (wS w0))))) (s222_174 hv F c8 c20 σ22)
            · exact b_wk (wS (wN (wS (wN (wS w0))))) (s222_174 hv F c8 c20 σ19)
          · exact b_wk (wS (wN (wS (wS (wN w0))))) (s222_98 hv F c8 c14 σ16)
        · exact b_wk (wS (wN (wS (wS (wN w0))))) (s222_98 hv F c8 c14 σ13)
      · refine b_run [(64, .iconst 1, 0, 0, .null)] (pc' := 65) (ls' := [some (.ref 1315), some (.int y1), some (.int c8), none, none]) (st' := [.int 1]) (by decide +kernel) rfl ?_
        exact b_ret (i := (.ireturn, 0, 0, .null)) (by decide +kernel) rfl rfl (fit_I _)
/-- TreeStoreModel.atValue()I -/
def f222 (F : Nat) (σ : St) : Rs := lt (σ.1 1315 32) fun c1 => 
    cI (f152 F c1 σ) fun c3 σ2 => 
    if c3 < 48 then f222_26 F c3 σ2
    else if 57 < c3 then f222_26 F c3 σ2
    else cI (f223 F σ2) fun c36 σ35 => oI c36 σ35
theorem s222 {sc : aSc} (hv : vOk sc) (F : Nat) (σ : St) : bEx sc 3 222 0 [some (.ref 1315), none, none, none, none] [] σ (f222 F σ) := by
  unfold f222
  refine b_run [(0, .aload_n 0, 0, 0, .null), (1, .aload_n 0, 0, 0, .null)] (pc' := 2) (ls' := [some (.ref 1315), none, none, none, none]) (st' := [.ref 1315, .ref 1315]) (by decide +kernel) rfl ?_
  refine b_gI (q := 181) (ci := 9) (k := 32) (w := .null) (by decide +kernel) (by decide +kernel) (fun c1 => ?_)
  refine b_callI 152 2 [.ref 1315, .int c1] (rest := []) (by decide +kernel) rfl rfl rfl (go_O rfl (by decide +kernel) (by decide +kernel : isO 1315 9 = true)) rfl (s152 hv F c1 σ) (by decide) (fun c3 σ2 => ?_)
  refine b_run [(8, .istore_n 1, 0, 0, .null), (9, .iload_n 1, 0, 0, .null), (10, .bipush 48, 0, 0, .null)] (pc' := 12) (ls' := [some (.ref 1315), some (.int c3), none, none, none]) (st' := [.int 48, .int c3]) (by decide +kernel) rfl ?_
  refine b_icT (c := .lt) (o := 14) (t := 26) (y := 0) (w := .null) (by decide +kernel) cmp_lt (fun _ => ?_) (fun _ => ?_)
  · exact b_wk (wS (wS (wN (wN (wN w0))))) (s222_26 hv F c3 σ2)
  · refine b_run [(15, .iload_n 1, 0, 0, .null), (16, .bipush 57, 0, 0, .null)] (pc' := 18) (ls' := [some (.ref 1315), some (.int c3), none, none, none]) (st' := [.int 57, .int c3]) (by decide +kernel) rfl ?_
    refine b_icT (c := .gt) (o := 8) (t := 26) (y := 0) (w := .null) (by decide +kernel) cmp_gt (fun _ => ?_) (fun _ => ?_)
    · exact b_wk (wS (wS (wN (wN (wN w0))))) (s222_26 hv F c3 σ2)
    · refine b_run [(21, .aload_n 0, 0, 0, .null)] (pc' := 22) (ls' := [some (.ref 1315), some (.int c3), none, none, none]) (st' := [.ref 1315]) (by decide +kernel) rfl ?_
      refine b_callI 223 1 [.ref 1315] (rest := []) (by decide +kernel) rfl rfl rfl (go_O rfl (by decide +kernel) (by decide +kernel : isO 1315 9 = true)) rfl (s223 hv F σ2) (by decide) (fun c36 σ35 => ?_)
      exact b_ret (i := (.ireturn, 0, 0, .null)) (by decide +kernel) rfl rfl (fit_I _)
def f207_133 (F : Nat) (k46 : Int32 → St → Rs) (z0 : Int32) (σ : St) : Rs := k46 z0 σ
theorem s207_133 {sc : aSc} (hv : vOk sc) (F : Nat) (k46 : Int32 → St → Rs) (hk46 : ∀ y1 σ, bEx sc 5 207 46 [some (.ref 1315), some (.int y1)] [] σ (k46 y1 σ)) (z0 : Int32) (σ : St) : bEx sc 5 207 133 [some (.ref 1315), none] [.int z0] σ (f207_133 F k46 z0 σ) := by
  unfold f207_133
  refine b_run [(133, .istore_n 1, 0, 0, .null), (134, .goto (-88), 46, 0, .null)] (pc' := 46) (ls' := [some (.ref 1315), some (.int z0)]) (st' := []) (by decide +kernel) rfl ?_
  exact b_wk (wS (wS w0)) (hk46 z0 σ)
def f207_46 (F : Nat) : Nat → Int32 → St → Rs
  | 0, _, _ => none
  | n + 1, y1, σ => if y1 = 0 then 
    if y1 = 0 then oI 1 σ
    else oI 0 σ
    else if y1 = 8 then 
    if y1 = 0 then oI 1 σ
    else oI 0 σ
    else if y1 = 1 then cI (f208 F σ) fun c10 σ9 => f207_133 F (f207_46 F n) c10 σ9
    else if y1 = 2 then cI (f211 F σ) fun c12 σ11 => f207_133 F (f207_46 F n) c12 σ11
    else if y1 = 3 then cI (f217 F σ) fun c14 σ13 => f207_133 F (f207_46 F n) c14 σ13
    else if y1 = 4 then cI (f219 F σ) fun c16 σ15 => f207_133 F (f207_46 F n) c16 σ15
    else if y1 = 5 then cI (f220 F σ) fun c18 σ17 => f207_133 F (f207_46 F n) c18 σ17
    else if y1 = 6 then cI (f222 F σ) fun c20 σ19 => f207_133 F (f207_46 F n) c20 σ19
    else cI (f225 F σ) fun c22 σ21 => f207_133 F (f207_46 F n) c22 σ21
theorem s207_46 {sc : aSc} (hv : vOk sc) (F : Nat) : ∀ (n : Nat) (y1 : Int32) (σ : St), bEx sc 5 207 46 [some (.ref 1315), some (.int y1)] [] σ (f207_46 F n y1 σ) := by
  intro n
  induction n with
  | zero => intro y1 σ; exact b_none
  | succ n ih =>
    intro y1 σ
    rw [f207_46.eq_2]
    refine b_run [(46, .iload_n 1, 0, 0, .null)] (pc' := 47) (ls' := [some (.ref 1315), some (.int y1)]) (st' := [.int y1]) (by decide +kernel) rfl ?_
    refine b_izT (c := .eq) (o := 90) (t := 137) (y := 0) (w := .null) (by decide +kernel) cmp_eq (fun _ => ?_) (fun _ => ?_)
    · refine b_run [(137, .iload_n 1, 0, 0, .null)] (pc' := 138) (ls' := [some (.ref 1315), some (.int y1)]) (st' := [.int y1]) (by decide +kernel) rfl ?_
      refine b_izF (c := .ne) (o := 7) (t := 145) (y := 0) (w := .null) (by decide +kernel) cmp_ne (fun _ => ?_) (fun _ => ?_)
      · refine b_run [(141, .iconst 1, 0, 0, .null), (142, .goto 4, 146, 0, .null)] (pc' := 146) (ls' := [some (.ref 1315), some (.int y1)]) (st' := [.int 1]) (by decide +kernel) rfl ?_
        exact b_ret (i := (.ireturn, 0, 0, .null)) (by decide +kernel) rfl rfl (by decide +kernel)
      · refine b_run [(145, .iconst 0, 0, 0, .null)] (pc' := 146) (ls' := [some (.ref 1315), some (.int y1)]) (st' := [.int 0]) (by decide +kernel) rfl ?_
        exact b_ret (i := (.ireturn, 0, 0, .null)) (by decide +kernel) rfl rfl (by decide +kernel)
    · refine b_run [(50, .iload_n 1, 0, 0, .null), (51, .bipush 8, 0, 0, .null)] (pc' := 53) (ls' := [some (.ref 1315), some (.int y1)]) (st' := [.int 8, .int y1]) (by decide +kernel) rfl ?_
      refine b_icT (c := .eq) (o := 84) (t := 137) (y := 0) (w := .null) (by decide +kernel) cmp_eq (fun _ => ?_) (fun _ => ?_)
      · refine b_run [(137, .iload_n 1, 0, 0, .null)] (pc' := 138) (ls' := [some (.ref 1315), some (.int y1)]) (st' := [.int y1]) (by decide +kernel) rfl ?_
        refine b_izF (c := .ne) (o := 7) (t := 145) (y := 0) (w := .null) (by decide +kernel) cmp_ne (fun _ => ?_) (fun _ => ?_)
        · refine b_run [(141, .iconst 1, 0, 0, .null), (142, .goto 4, 146, 0, .null)] (pc' := 146) (ls' := [some (.ref 1315), some (.int y1)]) (st' := [.int 1]) (by decide +kernel) rfl ?_
          exact b_ret (i := (.ireturn, 0, 0, .null)) (by decide +kernel) rfl rfl (by decide +kernel)
        · refine b_run [(145, .iconst 0, 0, 0, .null)] (pc' := 146) (ls' := [some (.ref 1315), some (.int y1)]) (st' := [.int 0]) (by decide +kernel) rfl ?_
          exact b_ret (i := (.ireturn, 0, 0, .null)) (by decide +kernel) rfl rfl (by decide +kernel)
      · refine b_run [(56, .iload_n 1, 0, 0, .null), (57, .iconst 1, 0, 0, .null)] (pc' := 58) (ls' := [some (.ref 1315), some (.int y1)]) (st' := [.int 1, .int y1]) (by decide +kernel) rfl ?_
        refine b_icF (c := .ne) (o := 10) (t := 68) (y := 0) (w := .null) (by decide +kernel) cmp_ne (fun _ => ?_) (fun _ => ?_)
        · refine b_run [(61, .aload_n 0, 0, 0, .null)] (pc' := 62) (ls' := [some (.ref 1315), some (.int y1)]) (st' := [.ref 1315]) (by decide +kernel) rfl ?_
          refine b_callI 208 1 [.ref 1315] (rest := []) (by decide +kernel) rfl rfl rfl (go_O rfl (by decide +kernel) (by decide +kernel : isO 1315 9 = true)) rfl (s208 hv F σ) (by decide) (fun c10 σ9 => ?_)
          refine b_run [(65, .goto 68, 133, 0, .null)] (pc' := 133) (ls' := [some (.ref 1315), some (.int y1)]) (st' := [.int c10]) (by decide +kernel) rfl ?_
          exact b_wk (wS (wN w0)) (s207_133 hv F (f207_46 F n) ih c10 σ9)
        · refine b_run [(68, .iload_n 1, 0, 0, .null), (69, .iconst 2, 0, 0, .null)] (pc' := 70) (ls' := [some (.ref 1315), some (.int y1)]) (st' := [.int 2, .int y1]) (by decide +kernel) rfl ?_
          refine b_icF (c := .ne) (o := 10) (t := 80) (y := 0) (w := .null) (by decide +kernel) cmp_ne (fun _ => ?_) (fun _ => ?_)
          · refine b_run [(73, .aload_n 0, 0, 0, .null)] (pc' := 74) (ls' := [some (.ref 1315), some (.int y1)]) (st' := [.ref 1315]) (by decide +kernel) rfl ?_
            refine b_callI 211 1 [.ref 1315] (rest := []) (by decide +kernel) rfl rfl rfl (go_O rfl (by decide +kernel) (by decide +kernel : isO 1315 9 = true)) rfl (s211 hv F σ) (by decide) (fun c12 σ11 => ?_)
            refine b_run [(77, .goto 56, 133, 0, .null)] (pc' := 133) (ls' := [some (.ref 1315), some (.int y1)]) (st' := [.int c12]) (by decide +kernel) rfl ?_
            exact b_wk (wS (wN w0)) (s207_133 hv F (f207_46 F n) ih c12 σ11)
          · refine b_run [(80, .iload_n 1, 0, 0, .null), (81, .iconst 3, 0, 0, .null)] (pc' := 82) (ls' := [some (.ref 1315), some (.int y1)]) (st' := [.int 3, .int y1]) (by decide +kernel) rfl ?_
            refine b_icF (c := .ne) (o := 10) (t := 92) (y := 0) (w := .null) (by decide +kernel) cmp_ne (fun _ => ?_) (fun _ => ?_)
            · refine b_run [(85, .aload_n 0, 0, 0, .null)] (pc' := 86) (ls' := [some (.ref 1315), some (.int y1)]) (st' := [.ref 1315]) (by decide +kernel) rfl ?_
              refine b_callI 217 1 [.ref 1315] (rest := []) (by decide +kernel) rfl rfl rfl (go_O rfl (by decide +kernel) (by decide +kernel : isO 1315 9 = true)) rfl (s217 hv F σ) (by decide) (fun c14 σ13 => ?_)
              refine b_run [(89, .goto 44, 133, 0, .null)] (pc' := 133) (ls' := [some (.ref 1315), some (.int y1)]) (st' := [.int c14]) (by decide +kernel) rfl ?_
              exact b_wk (wS (wN w0)) (s207_133 hv F (f207_46 F n) ih c14 σ13)
            · refine b_run [(92, .iload_n 1, 0, 0, .null), (93, .iconst 4, 0, 0, .null)] (pc' := 94) (ls' := [some (.ref 1315), some (.int y1)]) (st' := [.int 4, .int y1]) (by decide +kernel) rfl ?_
              refine b_icF (c := .ne) (o := 10) (t := 104) (y := 0) (w := .null) (by decide +kernel) cmp_ne (fun _ => ?_) (fun _ => ?_)
              · refine b_run [(97, .aload_n 0, 0, 0, .null)] (pc' := 98) (ls' := [some (.ref 1315), some (.int y1)]) (st' := [.ref 1315]) (by decide +kernel) rfl ?_
                refine b_callI 219 1 [.ref 1315] (rest := []) (by decide +kernel) rfl rfl rfl (go_O rfl (by decide +kernel) (by decide +kernel : isO 1315 9 = true)) rfl (s219 hv F σ) (by decide) (fun c16 σ15 => ?_)
                refine b_run [(101, .goto 32, 133, 0, .null)] (pc' := 133) (ls' := [some (.ref 1315), some (.int y1)]) (st' := [.int c16]) (by decide +kernel) rfl ?_
                exact b_wk (wS (wN w0)) (s207_133 hv F (f207_46 F n) ih c16 σ15)
              · refine b_run [(104, .iload_n 1, 0, 0, .null), (105, .iconst 5, 0, 0, .null)] (pc' := 106) (ls' := [some (.ref 1315), some (.int y1)]) (st' := [.int 5, .int y1]) (by decide +kernel) rfl ?_
                refine b_icF (c := .ne) (o := 10) (t := 116) (y := 0) (w := .null) (by decide +kernel) cmp_ne (fun _ => ?_) (fun _ => ?_)
                · refine b_run [(109, .aload_n 0, 0, 0, .null)] (pc' := 110) (ls' := [some (.ref 1315), some (.int y1)]) (st' := [.ref 1315]) (by decide +kernel) rfl ?_
                  refine b_callI 220 1 [.ref 1315] (rest := []) (by decide +kernel) rfl rfl rfl (go_O rfl (by decide +kernel) (by decide +kernel : isO 1315 9 = true)) rfl (s220 hv F σ) (by decide) (fun c18 σ17 => ?_)
                  refine b_run [(113, .goto 20, 133, 0, .null)] (pc' := 133) (ls' := [some (.ref 1315), some (.int y1)]) (st' := [.int c18]) (by decide +kernel) rfl ?_
                  exact b_wk (wS (wN w0)) (s207_133 hv F (f207_46 F n) ih c18 σ17)
                · refine b_run [(116, .iload_n 1, 0, 0, .null), (117, .bipush 6, 0, 0, .null)] (pc' := 119) (ls' := [some (.ref 1315), some (.int y1)]) (st' := [.int 6, .int y1]) (by decide +kernel) rfl ?_
                  refine b_icF (c := .ne) (o := 10) (t := 129) (y := 0) (w := .null) (by decide +kernel) cmp_ne (fun _ => ?_) (fun _ => ?_)
                  · refine b_run [(122, .aload_n 0, 0, 0, .null)] (pc' := 123) (ls' := [some (.ref 1315), some (.int y1)]) (st' := [.ref 1315]) (by decide +kernel) rfl ?_
                    refine b_callI 222 1 [.ref 1315] (rest := []) (by decide +kernel) rfl rfl rfl (go_O rfl (by decide +kernel) (by decide +kernel : isO 1315 9 = true)) rfl (s222 hv F σ) (by decide) (fun c20 σ19 => ?_)
                    refine b_run [(126, .goto 7, 133, 0, .null)] (pc' := 133) (ls' := [some (.ref 1315), some (.int y1)]) (st' := [.int c20]) (by decide +kernel) rfl ?_
                    exact b_wk (wS (wN w0)) (s207_133 hv F (f207_46 F n) ih c20 σ19)
                  · refine b_run [(129, .aload_n 0, 0, 0, .null)] (pc' := 130) (ls' := [some (.ref 1315), some (.int y1)]) (st' := [.ref 1315]) (by decide +kernel) rfl ?_
                    refine b_callI 225 1 [.ref 1315] (rest := []) (by decide +kernel) rfl rfl rfl (go_O rfl (by decide +kernel) (by decide +kernel : isO 1315 9 = true)) rfl (s225 hv F σ) (by decide) (fun c22 σ21 => ?_)
                    exact b_wk (wS (wN w0)) (s207_133 hv F (f207_46 F n) ih c22 σ21)
/-- TreeStoreModel.isPath()Z -/
def f207 (F : Nat) (σ : St) : Rs := lt (uI σ 1315 36 0) fun σ1 => 
    lt (uI σ1 1315 38 0) fun σ2 => 
    lt (uI σ2 1315 44 0) fun σ3 => 
    lt (uI σ3 1315 46 0) fun σ4 => 
    lt (uI σ4 1315 52 0) fun σ5 => 
    if inB 0 6 then lt (uI σ5 1353 (0 : Int32).toNatClampNeg 0) fun σ6 => 
    if inB 0 6 then lt (uI σ6 1356 (0 : Int32).toNatClampNeg ((-1))) fun σ7 => lt (uI σ7 1315 32 0) fun σ8 => f207_46 F F 1 σ8 else none else none
theorem s207 {sc : aSc} (hv : vOk sc) (F : Nat) (σ : St) : bEx sc 5 207 0 [some (.ref 1315), none] [] σ (f207 F σ) := by
  unfold f207
  refine b_run [(0, .aload_n 0, 0, 0, .null), (1, .iconst 0, 0, 0, .null)] (pc' := 2) (ls' := [some (.ref 1315), none]) (st' := [.int 0, .ref 1315]) (by decide +kernel) rfl ?_
  refine b_pI (q := 401) (ci := 9) (k := 36) (w := .null) (by decide +kernel) (by decide +kernel) (fit_I _) (fun σ1 => ?_)
  refine b_run [(5, .aload_n 0, 0, 0, .null), (6, .iconst 0, 0, 0, .null)] (pc' := 7) (ls' := [some (.ref 1315), none]) (st' := [.int 0, .ref 1315]) (by decide +kernel) rfl ?_
  refine b_pI (q := 392) (ci := 9) (k := 38) (w := .null) (by decide +kernel) (by decide +kernel) (fit_I _) (fun σ2 => ?_)
  refine b_run [(10, .aload_n 0, 0, 0, .null), (11, .iconst 0, 0, 0, .null)] (pc' := 12) (ls' := [some (.ref 1315), none]) (st' := [.int 0, .ref 1315]) (by decide +kernel) rfl ?_
  refine b_pI (q := 426) (ci := 9) (k := 44) (w := .null) (by decide +kernel) (by decide +kernel) (fit_I _) (fun σ3 => ?_)
  refine b_run [(15, .aload_n 0, 0, 0, .null), (16, .iconst 0, 0, 0, .null)] (pc' := 17) (ls' := [some (.ref 1315), none]) (st' := [.int 0, .ref 1315]) (by decide +kernel) rfl ?_
  refine b_pI (q := 398) (ci := 9) (k := 46) (w := .null) (by decide +kernel) (by decide +kernel) (fit_I _) (fun σ4 => ?_)
  refine b_run [(20, .aload_n 0, 0, 0, .null), (21, .iconst 0, 0, 0, .null)] (pc' := 22) (ls' := [some (.ref 1315), none]) (st' := [.int 0, .ref 1315]) (by decide +kernel) rfl ?_
  refine b_pI (q := 395) (ci := 9) (k := 52) (w := .null) (by decide +kernel) (by decide +kernel) (fit_I _) (fun σ5 => ?_)
  refine b_run [(25, .aload_n 0, 0, 0, .null)] (pc' := 26) (ls' := [some (.ref 1315), none]) (st' := [.ref 1315]) (by decide +kernel) rfl ?_
  refine b_getC (b := 1353) (q := 123) (ci := 9) (k := 53) (w := .null) (by decide +kernel) (by decide +kernel) ?_
  refine b_run [(29, .iconst 0, 0, 0, .null), (30, .iconst 0, 0, 0, .null)] (pc' := 31) (ls' := [some (.ref 1315), none]) (st' := [.int 0, .int 0, .ref 1353]) (by decide +kernel) rfl ?_
  refine b_guard (fun hb => ?_)
  refine b_sI (ci := 0) (y := 0) (w := .null) (by decide +kernel) (by decide +kernel) hb (fun σ6 => ?_)
  refine b_run [(32, .aload_n 0, 0, 0, .null)] (pc' := 33) (ls' := [some (.ref 1315), none]) (st' := [.ref 1315]) (by decide +kernel) rfl ?_
  refine b_getC (b := 1356) (q := 132) (ci := 9) (k := 56) (w := .null) (by decide +kernel) (by decide +kernel) ?_
  refine b_run [(36, .iconst 0, 0, 0, .null), (37, .iconst (-1), 0, 0, .null)] (pc' := 38) (ls' := [some (.ref 1315), none]) (st' := [.int ((-1)), .int 0, .ref 1356]) (by decide +kernel) rfl ?_
  refine b_guard (fun hb => ?_)
  refine b_sI (ci := 0) (y := 0) (w := .null) (by decide +kernel) (by decide +kernel) hb (fun σ7 => ?_)
  refine b_run [(39, .aload_n 0, 0, 0, .null), (40, .iconst 0, 0, 0, .null)] (pc' := 41) (ls' := [some (.ref 1315), none]) (st' := [.int 0, .ref 1315]) (by decide +kernel) rfl ?_
  refine b_pI (q := 181) (ci := 9) (k := 32) (w := .null) (by decide +kernel) (by decide +kernel) (fit_I _) (fun σ8 => ?_)
  refine b_run [(44, .iconst 1, 0, 0, .null), (45, .istore_n 1, 0, 0, .null)] (pc' := 46) (ls' := [some (.ref 1315), some (.int 1)]) (st' := []) (by decide +kernel) rfl ?_
  exact b_wk (wS (wS w0)) (s207_46 hv F F 1 σ8)
