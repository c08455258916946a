def f241_109 (F : Nat) (k57 : Int64 → Int32 → Int32 → Int64 → Int32 → St → Rs) (y1 : Int64) (y3 : Int32) (y4 : Int32) (y7 : Int32) (z0 : Int64) (σ : St) : Rs := k57 y1 (y3 + 1) y4 z0 (y7 + 1) σ
theorem s241_109 {sc : aSc} (hv : vOk sc) (F : Nat) (k57 : Int64 → Int32 → Int32 → Int64 → Int32 → St → Rs) (hk57 : ∀ y1 y3 y4 y5 y7 σ, bEx sc 3 241 57 [some (.ref 1315), some (.long y1), none, some (.int y3), some (.int y4), some (.long y5), none, some (.int y7)] [] σ (k57 y1 y3 y4 y5 y7 σ)) (y1 : Int64) (y3 : Int32) (y4 : Int32) (y7 : Int32) (z0 : Int64) (σ : St) : bEx sc 3 241 109 [some (.ref 1315), some (.long y1), none, some (.int y3), some (.int y4), none, none, some (.int y7)] [.long z0] σ (f241_109 F k57 y1 y3 y4 y7 z0 σ) := by
  unfold f241_109
  refine b_run [(109, .lstore 5, 0, 0, .null), (111, .iinc 7 1, 0, 0, .null), (114, .iinc 3 1, 0, 0, .null), (117, .goto (-60), 57, 0, .null)] (pc' := 57) (ls' := [some (.ref 1315), some (.long y1), none, some (.int (y3 + 1)), some (.int y4), some (.long z0), none, some (.int (y7 + 1))]) (st' := []) (by decide +kernel) rfl ?_
  exact b_wk (wS (wS (wN (wS (wS (wS (wN (wS w0)))))))) (hk57 y1 (y3 + 1) y4 z0 (y7 + 1) σ)
def f241_57 (F : Nat) : Nat → Int64 → Int32 → Int32 → Int64 → Int32 → St → Rs
  | 0, _, _, _, _, _, _ => none
  | n + 1, y1, y3, y4, y5, y7, σ => cI (f238 F y1 y3 σ) fun c8 σ7 => 
    if c8 < 48 then f241_120 F F y1 y3 y4 y5 y7 σ7
    else cI (f238 F y1 y3 σ7) fun c16 σ15 => 
    if 57 < c16 then f241_120 F F y1 y3 y4 y5 y7 σ15
    else if y7 < 10 then 
    cI (f238 F y1 y3 σ15) fun c18 σ17 => f241_109 F (f241_57 F n) y1 y3 y4 y7 (((10 * y5) + ((c18 : Int32).toInt64)) - 48) σ17
    else f241_109 F (f241_57 F n) y1 y3 y4 y7 y5 σ15
theorem s241_57 {sc : aSc} (hv : vOk sc) (F : Nat) : ∀ (n : Nat) (y1 : Int64) (y3 : Int32) (y4 : Int32) (y5 : Int64) (y7 : Int32) (σ : St), bEx sc 3 241 57 [some (.ref 1315), some (.long y1), none, some (.int y3), some (.int y4), some (.long y5), none, some (.int y7)] [] σ (f241_57 F n y1 y3 y4 y5 y7 σ) := by
  intro n
  induction n with
  | zero => intro y1 y3 y4 y5 y7 σ; exact b_none
  | succ n ih =>
    intro y1 y3 y4 y5 y7 σ
    rw [f241_57.eq_2]
    refine b_run [(57, .aload_n 0, 0, 0, .null), (58, .lload_n 1, 0, 0, .null), (59, .iload_n 3, 0, 0, .null)] (pc' := 60) (ls' := [some (.ref 1315), some (.long y1), none, some (.int y3), some (.int y4), some (.long y5), none, some (.int y7)]) (st' := [.int y3, .long y1, .ref 1315]) (by decide +kernel) rfl ?_
    refine b_callI 238 3 [.ref 1315, .long y1, .int y3] (rest := []) (by decide +kernel) rfl rfl rfl (go_O rfl (by decide +kernel) (by decide +kernel : isO 1315 9 = true)) rfl (s238 hv F y1 y3 σ) (by decide) (fun c8 σ7 => ?_)
    refine b_run [(63, .bipush 48, 0, 0, .null)] (pc' := 65) (ls' := [some (.ref 1315), some (.long y1), none, some (.int y3), some (.int y4), some (.long y5), none, some (.int y7)]) (st' := [.int 48, .int c8]) (by decide +kernel) rfl ?_
    refine b_icT (c := .lt) (o := 55) (t := 120) (y := 0) (w := .null) (by decide +kernel) cmp_lt (fun _ => ?_) (fun _ => ?_)
    · exact b_wk (wS (wS (wN (wS (wS (wS (wN (wS w0)))))))) (s241_120 hv F F y1 y3 y4 y5 y7 σ7)
    · refine b_run [(68, .aload_n 0, 0, 0, .null), (69, .lload_n 1, 0, 0, .null), (70, .iload_n 3, 0, 0, .null)] (pc' := 71) (ls' := [some (.ref 1315), some (.long y1), none, some (.int y3), some (.int y4), some (.long y5), none, some (.int y7)]) (st' := [.int y3, .long y1, .ref 1315]) (by decide +kernel) rfl ?_
      refine b_callI 238 3 [.ref 1315, .long y1, .int y3] (rest := []) (by decide +kernel) rfl rfl rfl (go_O rfl (by decide +kernel) (by decide +kernel : isO 1315 9 = true)) rfl (s238 hv F y1 y3 σ7) (by decide) (fun c16 σ15 => ?_)
      refine b_run [(74, .bipush 57, 0, 0, .null)] (pc' := 76) (ls' := [some (.ref 1315), some (.long y1), none, some (.int y3), some (.int y4), some (.long y5), none, some (.int y7)]) (st' := [.int 57, .int c16]) (by decide +kernel) rfl ?_
      refine b_icT (c := .gt) (o := 44) (t := 120) (y := 0) (w := .null) (by decide +kernel) cmp_gt (fun _ => ?_) (fun _ => ?_)
      · exact b_wk (wS (wS (wN (wS (wS (wS (wN (wS w0)))))))) (s241_120 hv F F y1 y3 y4 y5 y7 σ15)
      · refine b_run [(79, .iload 7, 0, 0, .null), (81, .bipush 10, 0, 0, .null)] (pc' := 83) (ls' := [some (.ref 1315), some (.long y1), none, some (.int y3), some (.int y4), some (.long y5), none, some (.int y7)]) (st' := [.int 10, .int y7]) (by decide +kernel) rfl ?_
        refine b_icF (c := .ge) (o := 24) (t := 107) (y := 0) (w := .null) (by decide +kernel) cmp_ge (fun _ => ?_) (fun _ => ?_)
        · refine b_run [(86, .ldc2_w 507, 0, 0, .long 10), (89, .lload 5, 0, 0, .null), (91, .lmul, 0, 0, .null), (92, .aload_n 0, 0, 0, .null), (93, .lload_n 1, 0, 0, .null), (94, .iload_n 3, 0, 0, .null)] (pc' := 95) (ls' := [some (.ref 1315), some (.long y1), none, some (.int y3), some (.int y4), some (.long y5), none, some (.int y7)]) (st' := [.int y3, .long y1, .ref 1315, .long (10 * y5)]) (by decide +kernel) rfl ?_
          refine b_callI 238 3 [.ref 1315, .long y1, .int y3] (rest := [.long (10 * y5)]) (by decide +kernel) rfl rfl rfl (go_O rfl (by decide +kernel) (by decide +kernel : isO 1315 9 = true)) rfl (s238 hv F y1 y3 σ15) (by decide) (fun c18 σ17 => ?_)
          refine b_run [(98, .i2l, 0, 0, .null), (99, .ladd, 0, 0, .null), (100, .ldc2_w 509, 0, 0, .long 48), (103, .lsub, 0, 0, .null), (104, .goto 5, 109, 0, .null)] (pc' := 109) (ls' := [some (.ref 1315), some (.long y1), none, some (.int y3), some (.int y4), some (.long y5), none, some (.int y7)]) (st' := [.long (((10 * y5) + ((c18 : Int32).toInt64)) - 48)]) (by decide +kernel) rfl ?_
          exact b_wk (wS (wS (wN (wS (wS (wN (wN (wS w0)))))))) (s241_109 hv F (f241_57 F n) ih y1 y3 y4 y7 (((10 * y5) + ((c18 : Int32).toInt64)) - 48) σ17)
        · refine b_run [(107, .lload 5, 0, 0, .null)] (pc' := 109) (ls' := [some (.ref 1315), some (.long y1), none, some (.int y3), some (.int y4), some (.long y5), none, some (.int y7)]) (st' := [.long y5]) (by decide +kernel) rfl ?_
          exact b_wk (wS (wS (wN (wS (wS (wN (wN (wS w0)))))))) (s241_109 hv F (f241_57 F n) ih y1 y3 y4 y7 y5 σ15)
def f241_50 (F : Nat) (y1 : Int64) (y4 : Int32) (z0 : Int32) (σ : St) : Rs := f241_57 F F y1 z0 y4 0 0 σ
theorem s241_50 {sc : aSc} (hv : vOk sc) (F : Nat) (y1 : Int64) (y4 : Int32) (z0 : Int32) (σ : St) : bEx sc 3 241 50 [some (.ref 1315), some (.long y1), none, none, some (.int y4), none, none, none] [.int z0] σ (f241_50 F y1 y4 z0 σ) := by
  unfold f241_50
  refine b_run [(50, .istore_n 3, 0, 0, .null), (51, .lconst 0, 0, 0, .null), (52, .lstore 5, 0, 0, .null), (54, .iconst 0, 0, 0, .null), (55, .istore 7, 0, 0, .null)] (pc' := 57) (ls' := [some (.ref 1315), some (.long y1), none, some (.int z0), some (.int y4), some (.long 0), none, some (.int 0)]) (st' := []) (by decide +kernel) rfl ?_
  exact b_wk (wS (wS (wN (wS (wS (wS (wN (wS w0)))))))) (s241_57 hv F F y1 z0 y4 0 0 σ)
def f241_36 (F : Nat) (y1 : Int64) (y3 : Int32) (z0 : Int32) (σ : St) : Rs := if z0 = 0 then f241_50 F y1 z0 y3 σ
    else f241_50 F y1 z0 (y3 + 1) σ
theorem s241_36 {sc : aSc} (hv : vOk sc) (F : Nat) (y1 : Int64) (y3 : Int32) (z0 : Int32) (σ : St) : bEx sc 3 241 36 [some (.ref 1315), some (.long y1), none, some (.int y3), none, none, none, none] [.int z0] σ (f241_36 F y1 y3 z0 σ) := by
  unfold f241_36
  refine b_run [(36, .istore 4, 0, 0, .null), (38, .iload 4, 0, 0, .null)] (pc' := 40) (ls' := [some (.ref 1315), some (.long y1), none, some (.int y3), some (.int z0), none, none, none]) (st' := [.int z0]) (by decide +kernel) rfl ?_
  refine b_izT (c := .eq) (o := 9) (t := 49) (y := 0) (w := .null) (by decide +kernel) cmp_eq (fun _ => ?_) (fun _ => ?_)
  · refine b_run [(49, .iload_n 3, 0, 0, .null)] (pc' := 50) (ls' := [some (.ref 1315), some (.long y1), none, some (.int y3), some (.int z0), none, none, none]) (st' := [.int y3]) (by decide +kernel) rfl ?_
    exact b_wk (wS (wS (wN (wN (wS (wN (wN (wN w0)))))))) (s241_50 hv F y1 z0 y3 σ)
  · refine b_run [(43, .iload_n 3, 0, 0, .null), (44, .iconst 1, 0, 0, .null), (45, .iadd, 0, 0, .null), (46, .goto 4, 50, 0, .null)] (pc' := 50) (ls' := [some (.ref 1315), some (.long y1), none, some (.int y3), some (.int z0), none, none, none]) (st' := [.int (y3 + 1)]) (by decide +kernel) rfl ?_
    exact b_wk (wS (wS (wN (wN (wS (wN (wN (wN w0)))))))) (s241_50 hv F y1 z0 (y3 + 1) σ)
def f241_2 (F : Nat) : Nat → Int64 → Int32 → St → Rs
  | 0, _, _, _ => none
  | n + 1, y1, y3, σ => cI (f238 F y1 y3 σ) fun c2 σ1 => 
    cI (f153 F c2 σ1) fun c4 σ3 => 
    if c4 = 0 then 
    cI (f238 F y1 y3 σ3) fun c6 σ5 => 
    if c6 = 45 then f241_36 F y1 y3 1 σ5
    else f241_36 F y1 y3 0 σ5
    else f241_2 F n y1 (y3 + 1) σ3
theorem s241_2 {sc : aSc} (hv : vOk sc) (F : Nat) : ∀ (n : Nat) (y1 : Int64) (y3 : Int32) (σ : St), bEx sc 3 241 2 [some (.ref 1315), some (.long y1), none, some (.int y3), none, none, none, none] [] σ (f241_2 F n y1 y3 σ) := by
  intro n
  induction n with
  | zero => intro y1 y3 σ; exact b_none
  | succ n ih =>
    intro y1 y3 σ
    rw [f241_2.eq_2]
    refine b_run [(2, .aload_n 0, 0, 0, .null), (3, .lload_n 1, 0, 0, .null), (4, .iload_n 3, 0, 0, .null)] (pc' := 5) (ls' := [some (.ref 1315), some (.long y1), none, some (.int y3), none, none, none, none]) (st' := [.int y3, .long y1, .ref 1315]) (by decide +kernel) rfl ?_
    refine b_callI 238 3 [.ref 1315, .long y1, .int y3] (rest := []) (by decide +kernel) rfl rfl rfl (go_O rfl (by decide +kernel) (by decide +kernel : isO 1315 9 = true)) rfl (s238 hv F y1 y3 σ) (by decide) (fun c2 σ1 => ?_)
    refine b_callI 153 1 [.int c2] (rest := []) (by decide +kernel) rfl rfl rfl (go_S rfl (by decide +kernel)) rfl (s153 hv F c2 σ1) (by decide) (fun c4 σ3 => ?_)
    refine b_izT (c := .eq) (o := 9) (t := 20) (y := 0) (w := .null) (by decide +kernel) cmp_eq (fun _ => ?_) (fun _ => ?_)
    · refine b_run [(20, .aload_n 0, 0, 0, .null), (21, .lload_n 1, 0, 0, .null), (22, .iload_n 3, 0, 0, .null)] (pc' := 23) (ls' := [some (.ref 1315), some (.long y1), none, some (.int y3), none, none, none, none]) (st' := [.int y3, .long y1, .ref 1315]) (by decide +kernel) rfl ?_
      refine b_callI 238 3 [.ref 1315, .long y1, .int y3] (rest := []) (by decide +kernel) rfl rfl rfl (go_O rfl (by decide +kernel) (by decide +kernel : isO 1315 9 = true)) rfl (s238 hv F y1 y3 σ3) (by decide) (fun c6 σ5 => ?_)
      refine b_run [(26, .bipush 45, 0, 0, .null)] (pc' := 28) (ls' := [some (.ref 1315), some (.long y1), none, some (.int y3), none, none, none, none]) (st' := [.int 45, .int c6]) (by decide +kernel) rfl ?_
      refine b_icF (c := .ne) (o := 7) (t := 35) (y := 0) (w := .null) (by decide +kernel) cmp_ne (fun _ => ?_) (fun _ => ?_)
      · refine b_run [(31, .iconst 1, 0, 0, .null), (32, .goto 4, 36, 0, .null)] (pc' := 36) (ls' := [some (.ref 1315), some (.long y1), none, some (.int y3), none, none, none, none]) (st' := [.int 1]) (by decide +kernel) rfl ?_
        exact b_wk (wS (wS (wN (wS (wN (wN (wN (wN w0)))))))) (s241_36 hv F y1 y3 1 σ5)
      · refine b_run [(35, .iconst 0, 0, 0, .null)] (pc' := 36) (ls' := [some (.ref 1315), some (.long y1), none, some (.int y3), none, none, none, none]) (st' := [.int 0]) (by decide +kernel) rfl ?_
        exact b_wk (wS (wS (wN (wS (wN (wN (wN (wN w0)))))))) (s241_36 hv F y1 y3 0 σ5)
    · refine b_run [(14, .iinc 3 1, 0, 0, .null), (17, .goto (-15), 2, 0, .null)] (pc' := 2) (ls' := [some (.ref 1315), some (.long y1), none, some (.int (y3 + 1)), none, none, none, none]) (st' := []) (by decide +kernel) rfl ?_
      exact b_wk (wS (wS (wN (wS (wN (wN (wN (wN w0)))))))) (ih y1 (y3 + 1) σ3)
/-- TreeStoreModel.numberOfText(J)J -/
def f241 (F : Nat) (x1 : Int64) (σ : St) : Rs := f241_2 F F x1 0 σ
theorem s241 {sc : aSc} (hv : vOk sc) (F : Nat) (x1 : Int64) (σ : St) : bEx sc 3 241 0 [some (.ref 1315), some (.long x1), none, none, none, none, none, none] [] σ (f241 F x1 σ) := by
  unfold f241
  refine b_run [(0, .iconst 0, 0, 0, .null), (1, .istore_n 3, 0, 0, .null)] (pc' := 2) (ls' := [some (.ref 1315), some (.long x1), none, some (.int 0), none, none, none, none]) (st' := []) (by decide +kernel) rfl ?_
  exact b_wk (wS (wS (wN (wS (wN (wN (wN (wN w0)))))))) (s241_2 hv F F x1 0 σ)
def f242_2 (F : Nat) : Nat → Int32 → Int32 → St → Rs
  | 0, _, _, _ => none
  | n + 1, y0, y1, σ => if (y0 >>> (y1 &&& 31)) &&& 1 = 0 then f242_2 F n y0 (y1 + 1) σ
    else oI y1 σ
theorem s242_2 {sc : aSc} (hv : vOk sc) (F : Nat) : ∀ (n : Nat) (y0 : Int32) (y1 : Int32) (σ : St), bEx sc 0 242 2 [some (.int y0), some (.int y1)] [] σ (f242_2 F n y0 y1 σ) := by
  intro n
  induction n with
  | zero => intro y0 y1 σ; exact b_none
  | succ n ih =>
    intro y0 y1 σ
    rw [f242_2.eq_2]
    refine b_run [(2, .iload_n 0, 0, 0, .null), (3, .iload_n 1, 0, 0, .null), (4, .ishr, 0, 0, .null), (5, .iconst 1, 0, 0, .null), (6, .iand, 0, 0, .null)] (pc' := 7) (ls' := [some (.int y0), some (.int y1)]) (st' := [.int ((y0 >>> (y1 &&& 31)) &&& 1)]) (by decide +kernel) rfl ?_
    refine b_izF (c := .ne) (o := 9) (t := 16) (y := 0) (w := .null) (by decide +kernel) cmp_ne (fun _ => ?_) (fun _ => ?_)
    · refine b_run [(10, .iinc 1 1, 0, 0, .null), (13, .goto (-11), 2, 0, .null)] (pc' := 2) (ls' := [some (.int y0), some (.int (y1 + 1))]) (st' := []) (by decide +kernel) rfl ?_
      exact b_wk (wS (wS w0)) (ih y0 (y1 + 1) σ)
    · refine b_run [(16, .iload_n 1, 0, 0, .null)] (pc' := 17) (ls' := [some (.int y0), some (.int y1)]) (st' := [.int y1]) (by decide +kernel) rfl ?_
      exact b_ret (i := (.ireturn, 0, 0, .null)) (by decide +kernel) rfl rfl (fit_I _)
/-- TreeStoreModel.lowest(I)I -/
def f242 (F : Nat) (x0 : Int32) (σ : St) : Rs := f242_2 F F x0 0 σ
theorem s242 {sc : aSc} (hv : vOk sc) (F : Nat) (x0 : Int32) (σ : St) : bEx sc 0 242 0 [some (.int x0), none] [] σ (f242 F x0 σ) := by
  unfold f242
  refine b_run [(0, .iconst 0, 0, 0, .null), (1, .istore_n 1, 0, 0, .null)] (pc' := 2) (ls' := [some (.int x0), some (.int 0)]) (st' := []) (by decide +kernel) rfl ?_
  exact b_wk (wS (wS w0)) (s242_2 hv F F x0 0 σ)
/-- TreeStoreModel.asNumber(IJ)J -/
def f240 (F : Nat) (x1 : Int32) (x2 : Int64) (σ : St) : Rs := if x1 = 1 then cJ (f241 F x2 σ) fun c2 σ1 => oJ c2 σ1
    else if x1 = 3 then 
    if lg_cmp x2 0 = 0 then oJ ((-1000000000000000)) σ
    else cI (f242 F ((x2 : Int64).toInt32) σ) fun c4 σ3 => cJ (f241 F ((c4 : Int32).toInt64) σ3) fun c6 σ5 => oJ c6 σ5
    else oJ x2 σ
theorem s240 {sc : aSc} (hv : vOk sc) (F : Nat) (x1 : Int32) (x2 : Int64) (σ : St) : bEx sc 4 240 0 [some (.ref 1315), some (.int x1), some (.long x2), none] [] σ (f240 F x1 x2 σ) := by
  unfold f240
  refine b_run [(0, .iload_n 1, 0, 0, .null), (1, .iconst 1, 0, 0, .null)] (pc' := 2) (ls' := [some (.ref 1315), some (.int x1), some (.long x2), none]) (st' := [.int 1, .int x1]) (by decide +kernel) rfl ?_
  refine b_icF (c := .ne) (o := 9) (t := 11) (y := 0) (w := .null) (by decide +kernel) cmp_ne (fun _ => ?_) (fun _ => ?_)
  · refine b_run [(5, .aload_n 0, 0, 0, .null), (6, .lload_n 2, 0, 0, .null)] (pc' := 7) (ls' := [some (.ref 1315), some (.int x1), some (.long x2), none]) (st' := [.long x2, .ref 1315]) (by decide +kernel) rfl ?_
    refine b_callJ 241 2 [.ref 1315, .long x2] (rest := []) (by decide +kernel) rfl rfl rfl (go_O rfl (by decide +kernel) (by decide +kernel : isO 1315 9 = true)) rfl (s241 hv F x2 σ) (by decide) (fun c2 σ1 => ?_)
    exact b_ret (i := (.lreturn, 0, 0, .null)) (by decide +kernel) rfl rfl (fit_J _)
  · refine b_run [(11, .iload_n 1, 0, 0, .null), (12, .iconst 3, 0, 0, .null)] (pc' := 13) (ls' := [some (.ref 1315), some (.int x1), some (.long x2), none]) (st' := [.int 3, .int x1]) (by decide +kernel) rfl ?_
    refine b_icT (c := .eq) (o := 7) (t := 20) (y := 0) (w := .null) (by decide +kernel) cmp_eq (fun _ => ?_) (fun _ => ?_)
    · refine b_run [(20, .lload_n 2, 0, 0, .null), (21, .lconst 0, 0, 0, .null), (22, .lcmp, 0, 0, .null)] (pc' := 23) (ls' := [some (.ref 1315), some (.int x1), some (.long x2), none]) (st' := [.int (lg_cmp x2 0)]) (by decide +kernel) rfl ?_
      refine b_izF (c := .ne) (o := 9) (t := 32) (y := 0) (w := .null) (by decide +kernel) cmp_ne (fun _ => ?_) (fun _ => ?_)
      · refine b_run [(26, .ldc2_w 511, 0, 0, .long (-1000000000000000)), (29, .goto 13, 42, 0, .null)] (pc' := 42) (ls' := [some (.ref 1315), some (.int x1), some (.long x2), none]) (st' := [.long ((-1000000000000000))]) (by decide +kernel) rfl ?_
        exact b_ret (i := (.lreturn, 0, 0, .null)) (by decide +kernel) rfl rfl (fit_J _)
      · refine b_run [(32, .aload_n 0, 0, 0, .null), (33, .lload_n 2, 0, 0, .null), (34, .l2i, 0, 0, .null)] (pc' := 35) (ls' := [some (.ref 1315), some (.int x1), some (.long x2), none]) (st' := [.int ((x2 : Int64).toInt32), .ref 1315]) (by decide +kernel) rfl ?_
        refine b_callI 242 1 [.int ((x2 : Int64).toInt32)] (rest := [.ref 1315]) (by decide +kernel) rfl rfl rfl (go_S rfl (by decide +kernel)) rfl (s242 hv F ((x2 : Int64).toInt32) σ) (by decide) (fun c4 σ3 => ?_)
        refine b_run [(38, .i2l, 0, 0, .null)] (pc' := 39) (ls' := [some (.ref 1315), some (.int x1), some (.long x2), none]) (st' := [.long ((c4 : Int32).toInt64), .ref 1315]) (by decide +kernel) rfl ?_
        refine b_callJ 241 2 [.ref 1315, .long ((c4 : Int32).toInt64)] (rest := []) (by decide +kernel) rfl rfl rfl (go_O rfl (by decide +kernel) (by decide +kernel : isO 1315 9 = true)) rfl (s241 hv F ((c4 : Int32).toInt64) σ3) (by decide) (fun c6 σ5 => ?_)
        exact b_ret (i := (.lreturn, 0, 0, .null)) (by decide +kernel) rfl rfl (fit_J _)
    · refine b_run [(16, .lload_n 2, 0, 0, .null), (17, .goto 25, 42, 0, .null)] (pc' := 42) (ls' := [some (.ref 1315), some (.int x1), some (.long x2), none]) (st' := [.long x2]) (by decide +kernel) rfl ?_
      exact b_ret (i := (.lreturn, 0, 0, .null)) (by decide +kernel) rfl rfl (fit_J _)
/-- TreeStoreModel.numbers(IJJ)Z -/
def f245 (F : Nat) (x0 : Int32) (x1 : Int64) (x3 : Int64) (σ : St) : Rs := if lg_cmp x1 ((-1000000000000000)) = 0 then 
    if x0 = 10 then oI 1 σ
    else oI 0 σ
    else if lg_cmp x3 ((-1000000000000000)) = 0 then 
    if x0 = 10 then oI 1 σ
    else oI 0 σ
    else if x0 = 9 then 
    if lg_cmp x1 x3 = 0 then oI 1 σ
    else oI 0 σ
    else if x0 = 10 then 
    if lg_cmp x1 x3 = 0 then oI 0 σ
    else oI 1 σ
    else if x0 = 11 then 
    if lg_cmp x1 x3 < 0 then oI 1 σ
    else oI 0 σ
    else if 0 < lg_cmp x1 x3 then oI 1 σ
    else oI 0 σ
theorem s245 {sc : aSc} (hv : vOk sc) (F : Nat) (x0 : Int32) (x1 : Int64) (x3 : Int64) (σ : St) : bEx sc 0 245 0 [some (.int x0), some (.long x1), none, some (.long x3), none] [] σ (f245 F x0 x1 x3 σ) := by
  unfold f245
  refine b_run [(0, .lload_n 1, 0, 0, .null), (1, .ldc2_w 511, 0, 0, .long (-1000000000000000)), (4, .lcmp, 0, 0, .null)] (pc' := 5) (ls' := [some (.int x0), some (.long x1), none, some (.long x3), none]) (st' := [.int (lg_cmp x1 ((-1000000000000000)))]) (by decide +kernel) rfl ?_
  refine b_izT (c := .eq) (o := 11) (t := 16) (y := 0) (w := .null) (by decide +kernel) cmp_eq (fun _ => ?_) (fun _ => ?_)
  · refine b_run [(16, .iload_n 0, 0, 0, .null), (17, .bipush 10, 0, 0, .null)] (pc' := 19) (ls' := [some (.int x0), some (.long x1), none, some (.long x3), none]) (st' := [.int 10, .int x0]) (by decide +kernel) rfl ?_
    refine b_icF (c := .ne) (o := 7) (t := 26) (y := 0) (w := .null) (by decide +kernel) cmp_ne (fun _ => ?_) (fun _ => ?_)
    · refine b_run [(22, .iconst 1, 0, 0, .null), (23, .goto 4, 27, 0, .null)] (pc' := 27) (ls' := [some (.int x0), some (.long x1), none, some (.long x3), none]) (st' := [.int 1]) (by decide +kernel) rfl ?_
      exact b_ret (i := (.ireturn, 0, 0, .null)) (by decide +kernel) rfl rfl (by decide +kernel)
    · refine b_run [(26, .iconst 0, 0, 0, .null)] (pc' := 27) (ls' := [some (.int x0), some (.long x1), none, some (.long x3), none]) (st' := [.int 0]) (by decide +kernel) rfl ?_
      exact b_ret (i := (.ireturn, 0, 0, .null)) (by decide +kernel) rfl rfl (by decide +kernel)
  · refine b_run [(8, .lload_n 3, 0, 0, .null), (9, .ldc2_w 511, 0, 0, .long (-1000000000000000)), (12, .lcmp, 0, 0, .null)] (pc' := 13) (ls' := [some (.int x0), some (.long x1), none, some (.long x3), none]) (st' := [.int (lg_cmp x3 ((-1000000000000000)))]) (by decide +kernel) rfl ?_
    refine b_izF (c := .ne) (o := 15) (t := 28) (y := 0) (w := .null) (by decide +kernel) cmp_ne (fun _ => ?_) (fun _ => ?_)
    · refine b_run [(16, .iload_n 0, 0, 0, .null), (17, .bipush 10, 0, 0, .null)] (pc' := 19) (ls' := [some (.int x0), some (.long x1), none, some (.long x3), none]) (st' := [.int 10, .int x0]) (by decide +kernel) rfl ?_
      refine b_icF (c := .ne) (o := 7) (t := 26) (y := 0) (w := .null) (by decide +kernel) cmp_ne (fun _ => ?_) (fun _ => ?_)
      · refine b_run [(22, .iconst 1, 0, 0, .null), (23, .goto 4, 27, 0, .null)] (pc' := 27) (ls' := [some (.int x0), some (.long x1), none, some (.long x3), none]) (st' := [.int 1]) (by decide +kernel) rfl ?_
        exact b_ret (i := (.ireturn, 0, 0, .null)) (by decide +kernel) rfl rfl (by decide +kernel)
      · refine b_run [(26, .iconst 0, 0, 0, .null)] (pc' := 27) (ls' := [some (.int x0), some (.long x1), none, some (.long x3), none]) (st' := [.int 0]) (by decide +kernel) rfl ?_
        exact b_ret (i := (.ireturn, 0, 0, .null)) (by decide +kernel) rfl rfl (by decide +kernel)
    · refine b_run [(28, .iload_n 0, 0, 0, .null), (29, .bipush 9, 0, 0, .null)] (pc' := 31) (ls' := [some (.int x0), some (.long x1), none, some (.long x3), none]) (st' := [.int 9, .int x0]) (by decide +kernel) rfl ?_
      refine b_icF (c := .ne) (o := 17) (t := 48) (y := 0) (w := .null) (by decide +kernel) cmp_ne (fun _ => ?_) (fun _ => ?_)
      · refine b_run [(34, .lload_n 1, 0, 0, .null), (35, .lload_n 3, 0, 0, .null), (36, .lcmp, 0, 0, .null)] (pc' := 37) (ls' := [some (.int x0), some (.long x1), none, some (.long x3), none]) (st' := [.int (lg_cmp x1 x3)]) (by decide +kernel) rfl ?_
        refine b_izF (c := .ne) (o := 7) (t := 44) (y := 0) (w := .null) (by decide +kernel) cmp_ne (fun _ => ?_) (fun _ => ?_)
        · refine b_run [(40, .iconst 1, 0, 0, .null), (41, .goto 58, 99, 0, .null)] (pc' := 99) (ls' := [some (.int x0), some (.long x1), none, some (.long x3), none]) (st' := [.int 1]) (by decide +kernel) rfl ?_
          exact b_ret (i := (.ireturn, 0, 0, .null)) (by decide +kernel) rfl rfl (by decide +kernel)
        · refine b_run [(44, .iconst 0, 0, 0, .null), (45, .goto 54, 99, 0, .null)] (pc' := 99) (ls' := [some (.int x0), some (.long x1), none, some (.long x3), none]) (st' := [.int 0]) (by decide +kernel) rfl ?_
          exact b_ret (i := (.ireturn, 0, 0, .null)) (by decide +kernel) rfl rfl (by decide +kernel)
      · refine b_run [(48, .iload_n 0, 0, 0, .null), (49, .bipush 10, 0, 0, .null)] (pc' := 51) (ls' := [some (.int x0), some (.long x1), none, some (.long x3), none]) (st' := [.int 10, .int x0]) (by decide +kernel) rfl ?_
        refine b_icF (c := .ne) (o := 17) (t := 68) (y := 0) (w := .null) (by decide +kernel) cmp_ne (fun _ => ?_) (fun _ => ?_)
        · refine b_run [(54, .lload_n 1, 0, 0, .null), (55, .lload_n 3, 0, 0, .null), (56, .lcmp, 0, 0, .null)] (pc' := 57) (ls' := [some (.int x0), some (.long x1), none, some (.long x3), none]) (st' := [.int (lg_cmp x1 x3)]) (by decide +kernel) rfl ?_
          refine b_izT (c := .eq) (o := 7) (t := 64) (y := 0) (w := .null) (by decide +kernel) cmp_eq (fun _ => ?_) (fun _ => ?_)
          · refine b_run [(64, .iconst 0, 0, 0, .null), (65, .goto 34, 99, 0, .null)] (pc' := 99) (ls' := [some (.int x0), some (.long x1), none, some (.long x3), none]) (st' := [.int 0]) (by decide +kernel) rfl ?_
            exact b_ret (i := (.ireturn, 0, 0, .null)) (by decide +kernel) rfl rfl (by decide +kernel)
          · refine b_run [(60, .iconst 1, 0, 0, .null), (61, .goto 38, 99, 0, .null)] (pc' := 99) (ls' := [some (.int x0), some (.long x1), none, some (.long x3), none]) (st' := [.int 1]) (by decide +kernel) rfl ?_
            exact b_ret (i := (.ireturn, 0, 0, .null)) (by decide +kernel) rfl rfl (by decide +kernel)
        · refine b_run [(68, .iload_n 0, 0, 0, .null), (69, .bipush 11, 0, 0, .null)] (pc' := 71) (ls' := [some (.int x0), some (.long x1), none, some (.long x3), none]) (st' := [.int 11, .int x0]) (by decide +kernel) rfl ?_
          refine b_icF (c := .ne) (o := 17) (t := 88) (y := 0) (w := .null) (by decide +kernel) cmp_ne (fun _ => ?_) (fun _ => ?_)
          · refine b_run [(74, .lload_n 1, 0, 0, .null), (75, .lload_n 3, 0, 0, .null), (76, .lcmp, 0, 0, .null)] (pc' := 77) (ls' := [some (.int x0), some (.long x1), none, some (.long x3), none]) (st' := [.int (lg_cmp x1 x3)]) (by decide +kernel) rfl ?_
            refine b_izF (c := .ge) (o := 7) (t := 84) (y := 0) (w := .null) (by decide +kernel) cmp_ge (fun _ => ?_) (fun _ => ?_)
            · refine b_run [(80, .iconst 1, 0, 0, .null), (81, .goto 18, 99, 0, .null)] (pc' := 99) (ls' := [some (.int x0), some (.long x1), none, some (.long x3), none]) (st' := [.int 1]) (by decide +kernel) rfl ?_
              exact b_ret (i := (.ireturn, 0, 0, .null)) (by decide +kernel) rfl rfl (by decide +kernel)
            · refine b_run [(84, .iconst 0, 0, 0, .null), (85, .goto 14, 99, 0, .null)] (pc' := 99) (ls' := [some (.int x0), some (.long x1), none, some (.long x3), none]) (st' := [.int 0]) (by decide +kernel) rfl ?_
              exact b_ret (i := (.ireturn, 0, 0, .null)) (by decide +kernel) rfl rfl (by decide +kernel)
          · refine b_run [(88, .lload_n 1, 0, 0, .null), (89, .lload_n 3, 0, 0, .null), (90, .lcmp, 0, 0, .null)] (pc' := 91) (ls' := [some (.int x0), some (.long x1), none, some (.long x3), none]) (st' := [.int (lg_cmp x1 x3)]) (by decide +kernel) rfl ?_
            refine b_izF (c := .le) (o := 7) (t := 98) (y := 0) (w := .null) (by decide +kernel) cmp_le (fun _ => ?_) (fun _ => ?_)
            · refine b_run [(94, .iconst 1, 0, 0, .null), (95, .goto 4, 99, 0, .null)] (pc' := 99) (ls' := [some (.int x0), some (.long x1), none, some (.long x3), none]) (st' := [.int 1]) (by decide +kernel) rfl ?_
              exact b_ret (i := (.ireturn, 0, 0, .null)) (by decide +kernel) rfl rfl (by decide +kernel)
            · refine b_run [(98, .iconst 0, 0, 0, .null)] (pc' := 99) (ls' := [some (.int x0), some (.long x1), none, some (.long x3), none]) (st' := [.int 0]) (by decide +kernel) rfl ?_
              exact b_ret (i := (.ireturn, 0, 0, .null)) (by decide +kernel) rfl rfl (by decide +kernel)
def f246_36 (F : Nat) (y1 : Int64) (y3 : Int64) (y5 : Int32) (σ : St) : Rs := cI (f238 F y1 y5 σ) fun c4 σ3 => 
    cI (f238 F y3 y5 σ3) fun c6 σ5 => 
    if c4 = c6 then oI 1 σ5
    else oI 0 σ5
theorem s246_36 {sc : aSc} (hv : vOk sc) (F : Nat) (y1 : Int64) (y3 : Int64) (y5 : Int32) (σ : St) : bEx sc 3 246 36 [some (.ref 1315), some (.long y1), none, some (.long y3), none, some (.int y5)] [] σ (f246_36 F y1 y3 y5 σ) := by
  unfold f246_36
  refine b_run [(36, .aload_n 0, 0, 0, .null), (37, .lload_n 1, 0, 0, .null), (38, .iload 5, 0, 0, .null)] (pc' := 40) (ls' := [some (.ref 1315), some (.long y1), none, some (.long y3), none, some (.int y5)]) (st' := [.int y5, .long y1, .ref 1315]) (by decide +kernel) rfl ?_
  refine b_callI 238 3 [.ref 1315, .long y1, .int y5] (rest := []) (by decide +kernel) rfl rfl rfl (go_O rfl (by decide +kernel) (by decide +kernel : isO 1315 9 = true)) rfl (s238 hv F y1 y5 σ) (by decide) (fun c4 σ3 => ?_)
  refine b_run [(43, .aload_n 0, 0, 0, .null), (44, .lload_n 3, 0, 0, .null), (45, .iload 5, 0, 0, .null)] (pc' := 47) (ls' := [some (.ref 1315), some (.long y1), none, some (.long y3), none, some (.int y5)]) (st' := [.int y5, .long y3, .ref 1315, .int c4]) (by decide +kernel) rfl ?_
  refine b_callI 238 3 [.ref 1315, .long y3, .int y5] (rest := [.int c4]) (by decide +kernel) rfl rfl rfl (go_O rfl (by decide +kernel) (by decide +kernel : isO 1315 9 = true)) rfl (s238 hv F y3 y5 σ3) (by decide) (fun c6 σ5 => ?_)
  refine b_icF (c := .ne) (o := 7) (t := 57) (y := 0) (w := .null) (by decide +kernel) cmp_ne (fun _ => ?_) (fun _ => ?_)
  · refine b_run [(53, .iconst 1, 0, 0, .null), (54, .goto 4, 58, 0, .null)] (pc' := 58) (ls' := [some (.ref 1315), some (.long y1), none, some (.long y3), none, some (.int y5)]) (st' := [.int 1]) (by decide +kernel) rfl ?_
    exact b_ret (i := (.ireturn, 0, 0, .null)) (by decide +kernel) rfl rfl (by decide +kernel)
  · refine b_run [(57, .iconst 0, 0, 0, .null)] (pc' := 58) (ls' := [some (.ref 1315), some (.long y1), none, some (.long y3), none, some (.int y5)]) (st' := [.int 0]) (by decide +kernel) rfl ?_
    exact b_ret (i := (.ireturn, 0, 0, .null)) (by decide +kernel) rfl rfl (by decide +kernel)
def f246_3 (F : Nat) : Nat → Int64 → Int64 → Int32 → St → Rs
  | 0, _, _, _, _ => none
  | n + 1, y1, y3, y5, σ => cI (f238 F y1 y5 σ) fun c2 σ1 => 
    if c2 = 0 then f246_36 F y1 y3 y5 σ1
    else cI (f238 F y1 y5 σ1) fun c8 σ7 => 
    cI (f238 F y3 y5 σ7) fun c10 σ9 => 
    if c8 = c10 then f246_3 F n y1 y3 (y5 + 1) σ9
    else f246_36 F y1 y3 y5 σ9
theorem s246_3 {sc : aSc} (hv : vOk sc) (F : Nat) : ∀ (n : Nat) (y1 : Int64) (y3 : Int64) (y5 : Int32) (σ : St), bEx sc 3 246 3 [some (.ref 1315), some (.long y1), none, some (.long y3), none, some (.int y5)] [] σ (f246_3 F n y1 y3 y5 σ) := by
  intro n
  induction n with
  | zero => intro y1 y3 y5 σ; exact b_none
  | succ n ih =>
    intro y1 y3 y5 σ
    rw [f246_3.eq_2]
    refine b_run [(3, .aload_n 0, 0, 0, .null), (4, .lload_n 1, 0, 0, .null), (5, .iload 5, 0, 0, .null)] (pc' := 7) (ls' := [some (.ref 1315), some (.long y1), none, some (.long y3), none, some (.int y5)]) (st' := [.int y5, .long y1, .ref 1315]) (by decide +kernel) rfl ?_
    refine b_callI 238 3 [.ref 1315, .long y1, .int y5] (rest := []) (by decide +kernel) rfl rfl rfl (go_O rfl (by decide +kernel) (by decide +kernel : isO 1315 9 = true)) rfl (s238 hv F y1 y5 σ) (by decide) (fun c2 σ1 => ?_)
    refine b_izT (c := .eq) (o := 26) (t := 36) (y := 0) (w := .null) (by decide +kernel) cmp_eq (fun _ => ?_) (fun _ => ?_)
    · exact b_wk (wS (wS (wN (wS (wN (wS w0)))))) (s246_36 hv F y1 y3 y5 σ1)
    · refine b_run [(13, .aload_n 0, 0, 0, .null), (14, .lload_n 1, 0, 0, .null), (15, .iload 5, 0, 0, .null)] (pc' := 17) (ls' := [some (.ref 1315), some (.long y1), none, some (.long y3), none, some (.int y5)]) (st' := [.int y5, .long y1, .ref 1315]) (by decide +kernel) rfl ?_
      refine b_callI 238 3 [.ref 1315, .long y1, .int y5] (rest := []) (by decide +kernel) rfl rfl rfl (go_O rfl (by decide +kernel) (by decide +kernel : isO 1315 9 = true)) rfl (s238 hv F y1 y5 σ1) (by decide) (fun c8 σ7 => ?_)
      refine b_run [(20, .aload_n 0, 0, 0, .null), (21, .lload_n 3, 0, 0, .null), (22, .iload 5, 0, 0, .null)] (pc' := 24) (ls' := [some (.ref 1315), some (.long y1), none, some (.long y3), none, some (.int y5)]) (st' := [.int y5, .long y3, .ref 1315, .int c8]) (by decide +kernel) rfl ?_
      refine b_callI 238 3 [.ref 1315, .long y3, .int y5] (rest := [.int c8]) (by decide +kernel) rfl rfl rfl (go_O rfl (by decide +kernel) (by decide +kernel : isO 1315 9 = true)) rfl (s238 hv F y3 y5 σ7) (by decide) (fun c10 σ9 => ?_)
      refine b_icF (c := .ne) (o := 9) (t := 36) (y := 0) (w := .null) (by decide +kernel) cmp_ne (fun _ => ?_) (fun _ => ?_)
      · refine b_run [(30, .iinc 5 1, 0, 0, .null), (33, .goto (-30), 3, 0, .null)] (pc' := 3) (ls' := [some (.ref 1315), some (.long y1), none, some (.long y3), none, some (.int (y5 + 1))]) (st' := []) (by decide +kernel) rfl ?_
        exact b_wk (wS (wS (wN (wS (wN (wS w0)))))) (ih y1 y3 (y5 + 1) σ9)
      · exact b_wk (wS (wS (wN (wS (wN (wS w0)))))) (s246_36 hv F y1 y3 y5 σ9)
/-- TreeStoreModel.sameText(JJ)Z -/
def f246 (F : Nat) (x1 : Int64) (x3 : Int64) (σ : St) : Rs := f246_3 F F x1 x3 0 σ
theorem s246 {sc : aSc} (hv : vOk sc) (F : Nat) (x1 : Int64) (x3 : Int64) (σ : St) : bEx sc 3 246 0 [some (.ref 1315), some (.long x1), none, some (.long x3), none, none] [] σ (f246 F x1 x3 σ) := by
  unfold f246
  refine b_run [(0, .iconst 0, 0, 0, .null), (1, .istore 5, 0, 0, .null)] (pc' := 3) (ls' := [some (.ref 1315), some (.long x1), none, some (.long x3), none, some (.int 0)]) (st' := []) (by decide +kernel) rfl ?_
  exact b_wk (wS (wS (wN (wS (wN (wS w0)))))) (s246_3 hv F F x1 x3 0 σ)
def f244_32 (F : Nat) (y1 : Int32) (y2 : Int32) (y3 : Int64) (y5 : Int32) (y6 : Int64) (σ : St) : Rs := cJ (f240 F y2 y3 σ) fun c2 σ1 => cJ (f240 F y5 y6 σ1) fun c4 σ3 => cI (f245 F y1 c2 c4 σ3) fun c6 σ5 => if c6 = 0 ∨ c6 = 1 then oI c6 σ5 else none
theorem s244_32 {sc : aSc} (hv : vOk sc) (F : Nat) (y1 : Int32) (y2 : Int32) (y3 : Int64) (y5 : Int32) (y6 : Int64) (σ : St) : bEx sc 5 244 32 [some (.ref 1315), some (.int y1), some (.int y2), some (.long y3), none, some (.int y5), some (.long y6), none, none, none, none, none] [] σ (f244_32 F y1 y2 y3 y5 y6 σ) := by
  unfold f244_32
  refine b_run [(32, .aload_n 0, 0, 0, .null), (33, .iload_n 2, 0, 0, .null), (34, .lload_n 3, 0, 0, .null)] (pc' := 35) (ls' := [some (.ref 1315), some (.int y1), some (.int y2), some (.long y3), none, some (.int y5), some (.long y6), none, none, none, none, none]) (st' := [.long y3, .int y2, .ref 1315]) (by decide +kernel) rfl ?_
  refine b_callJ 240 3 [.ref 1315, .int y2, .long y3] (rest := []) (by decide +kernel) rfl rfl rfl (go_O rfl (by decide +kernel) (by decide +kernel : isO 1315 9 = true)) rfl (s240 hv F y2 y3 σ) (by decide) (fun c2 σ1 => ?_)
  refine b_run [(38, .lstore 8, 0, 0, .null), (40, .aload_n 0, 0, 0, .null), (41, .iload 5, 0, 0, .null), (43, .lload 6, 0, 0, .null)] (pc' := 45) (ls' := [some (.ref 1315), some (.int y1), some (.int y2), some (.long y3), none, some (.int y5), some (.long y6), none, some (.long c2), none, none, none]) (st' := [.long y6, .int y5, .ref 1315]) (by decide +kernel) rfl ?_
  refine b_callJ 240 3 [.ref 1315, .int y5, .long y6] (rest := []) (by decide +kernel) rfl rfl rfl (go_O rfl (by decide +kernel) (by decide +kernel : isO 1315 9 = true)) rfl (s240 hv F y5 y6 σ1) (by decide) (fun c4 σ3 => ?_)
  refine b_run [(48, .lstore 10, 0, 0, .null), (50, .iload_n 1, 0, 0, .null), (51, .lload 8, 0, 0, .null), (53, .lload 10, 0, 0, .null)] (pc' := 55) (ls' := [some (.ref 1315), some (.int y1), some (.int y2), some (.long y3), none, some (.int y5), some (.long y6), none, some (.long c2), none, some (.long c4), none]) (st' := [.long c4, .long c2, .int y1]) (by decide +kernel) rfl ?_
  refine b_callI 245 3 [.int y1, .long c2, .long c4] (rest := []) (by decide +kernel) rfl rfl rfl (go_S rfl (by decide +kernel)) rfl (s245 hv F y1 c2 c4 σ3) (by decide) (fun c6 σ5 => ?_)
  exact b_guard (fun hz => b_ret (i := (.ireturn, 0, 0, .null)) (by decide +kernel) rfl rfl (fit_Z hz))
def f244_102 (F : Nat) (y1 : Int32) (z0 : Int32) (σ : St) : Rs := if y1 = 9 then 
    if z0 = 1 then oI 1 σ
    else oI 0 σ
    else if z0 = 0 then oI 1 σ
    else oI 0 σ
theorem s244_102 {sc : aSc} (hv : vOk sc) (F : Nat) (y1 : Int32) (z0 : Int32) (σ : St) : bEx sc 5 244 102 [none, some (.int y1), none, none, none, none, none, none, none, none, none, none] [.int z0] σ (f244_102 F y1 z0 σ) := by
  unfold f244_102
  refine b_run [(102, .istore 8, 0, 0, .null), (104, .iload 8, 0, 0, .null), (106, .iload_n 1, 0, 0, .null), (107, .bipush 9, 0, 0, .null)] (pc' := 109) (ls' := [none, some (.int y1), none, none, none, none, none, none, some (.int z0), none, none, none]) (st' := [.int 9, .int y1, .int z0]) (by decide +kernel) rfl ?_
  refine b_icF (c := .ne) (o := 7) (t := 116) (y := 0) (w := .null) (by decide +kernel) cmp_ne (fun _ => ?_) (fun _ => ?_)
  · refine b_run [(112, .iconst 1, 0, 0, .null), (113, .goto 4, 117, 0, .null)] (pc' := 117) (ls' := [none, some (.int y1), none, none, none, none, none, none, some (.int z0), none, none, none]) (st' := [.int 1, .int z0]) (by decide +kernel) rfl ?_
    refine b_icF (c := .ne) (o := 7) (t := 124) (y := 0) (w := .null) (by decide +kernel) cmp_ne (fun _ => ?_) (fun _ => ?_)
    · refine b_run [(120, .iconst 1, 0, 0, .null), (121, .goto 4, 125, 0, .null)] (pc' := 125) (ls' := [none, some (.int y1), none, none, none, none, none, none, some (.int z0), none, none, none]) (st' := [.int 1]) (by decide +kernel) rfl ?_
      exact b_ret (i := (.ireturn, 0, 0, .null)) (by decide +kernel) rfl rfl (by decide +kernel)
    · refine b_run [(124, .iconst 0, 0, 0, .null)] (pc' := 125) (ls' := [none, some (.int y1), none, none, none, none, none, none, some (.int z0), none, none, none]) (st' := [.int 0]) (by decide +kernel) rfl ?_
      exact b_ret (i := (.ireturn, 0, 0, .null)) (by decide +kernel) rfl rfl (by decide +kernel)
  · refine b_run [(116, .iconst 0, 0, 0, .null)] (pc' := 117) (ls' := [none, some (.int y1), none, none, none, none, none, none, some (.int z0), none, none, none]) (st' := [.int 0, .int z0]) (by decide +kernel) rfl ?_
    refine b_icF (c := .ne) (o := 7) (t := 124) (y := 0) (w := .null) (by decide +kernel) cmp_ne (fun _ => ?_) (fun _ => ?_)
    · refine b_run [(120, .iconst 1, 0, 0, .null), (121, .goto 4, 125, 0, .null)] (pc' := 125) (ls' := [none, some (.int y1), none, none, none, none, none, none, some (.int z0), none, none, none]) (st' := [.int 1]) (by decide +kernel) rfl ?_
      exact b_ret (i := (.ireturn, 0, 0, .null)) (by decide +kernel) rfl rfl (by decide +kernel)
    · refine b_run [(124, .iconst 0, 0, 0, .null)] (pc' := 125) (ls' := [none, some (.int y1), none, none, none, none, none, none, some (.int z0), none, none, none]) (st' := [.int 0]) (by decide +kernel) rfl ?_
      exact b_ret (i := (.ireturn, 0, 0, .null)) (by decide +kernel) rfl rfl (by decide +kernel)
def f244_70 (F : Nat) (y1 : Int32) (y2 : Int32) (y3 : Int64) (y5 : Int32) (y6 : Int64) (σ : St) : Rs := cI (f237 F y2 y3 σ) fun c8 σ7 => 
    cI (f237 F y5 y6 σ7) fun c10 σ9 => 
    if c8 = c10 then f244_102 F y1 1 σ9
    else f244_102 F y1 0 σ9
theorem s244_70 {sc : aSc} (hv : vOk sc) (F : Nat) (y1 : Int32) (y2 : Int32) (y3 : Int64) (y5 : Int32) (y6 : Int64) (σ : St) : bEx sc 5 244 70 [some (.ref 1315), some (.int y1), some (.int y2), some (.long y3), none, some (.int y5), some (.long y6), none, none, none, none, none] [] σ (f244_70 F y1 y2 y3 y5 y6 σ) := by
  unfold f244_70
  refine b_run [(70, .aload_n 0, 0, 0, .null), (71, .iload_n 2, 0, 0, .null), (72, .lload_n 3, 0, 0, .null)] (pc' := 73) (ls' := [some (.ref 1315), some (.int y1), some (.int y2), some (.long y3), none, some (.int y5), some (.long y6), none, none, none, none, none]) (st' := [.long y3, .int y2, .ref 1315]) (by decide +kernel) rfl ?_
  refine b_callI 237 3 [.ref 1315, .int y2, .long y3] (rest := []) (by decide +kernel) rfl rfl rfl (go_O rfl (by decide +kernel) (by decide +kernel : isO 1315 9 = true)) rfl (s237 hv F y2 y3 σ) (by decide) (fun c8 σ7 => ?_)
  refine b_run [(76, .aload_n 0, 0, 0, .null), (77, .iload 5, 0, 0, .null), (79, .lload 6, 0, 0, .null)] (pc' := 81) (ls' := [some (.ref 1315), some (.int y1), some (.int y2), some (.long y3), none, some (.int y5), some (.long y6), none, none, none, none, none]) (st' := [.long y6, .int y5, .ref 1315, .int c8]) (by decide +kernel) rfl ?_
  refine b_callI 237 3 [.ref 1315, .int y5, .long y6] (rest := [.int c8]) (by decide +kernel) rfl rfl rfl (go_O rfl (by decide +kernel) (by decide +kernel : isO 1315 9 = true)) rfl (s237 hv F y5 y6 σ7) (by decide) (fun c10 σ9 => ?_)
  refine b_icF (c := .ne) (o := 7) (t := 91) (y := 0) (w := .null) (by decide +kernel) cmp_ne (fun _ => ?_) (fun _ => ?_)
  · refine b_run [(87, .iconst 1, 0, 0, .null), (88, .goto 14, 102, 0, .null)] (pc' := 102) (ls' := [some (.ref 1315), some (.int y1), some (.int y2), some (.long y3), none, some (.int y5), some (.long y6), none, none, none, none, none]) (st' := [.int 1]) (by decide +kernel) rfl ?_
    exact b_wk (wN (wS (wN (wN (wN (wN (wN (wN (wN (wN (wN (wN w0)))))))))))) (s244_102 hv F y1 1 σ9)
  · refine b_run [(91, .iconst 0, 0, 0, .null), (92, .goto 10, 102, 0, .null)] (pc' := 102) (ls' := [some (.ref 1315), some (.int y1), some (.int y2), some (.long y3), none, some (.int y5), some (.long y6), none, none, none, none, none]) (st' := [.int 0]) (by decide +kernel) rfl ?_
    exact b_wk (wN (wS (wN (wN (wN (wN (wN (wN (wN (wN (wN (wN w0)))))))))))) (s244_102 hv F y1 0 σ9)
def f244_59 (F : Nat) (y1 : Int32) (y2 : Int32) (y3 : Int64) (y5 : Int32) (y6 : Int64) (σ : St) : Rs := if y2 = 2 then f244_70 F y1 y2 y3 y5 y6 σ
    else if y5 = 2 then f244_70 F y1 y2 y3 y5 y6 σ
    else cI (f246 F y3 y6 σ) fun c12 σ11 => f244_102 F y1 c12 σ11
theorem s244_59 {sc : aSc} (hv : vOk sc) (F : Nat) (y1 : Int32) (y2 : Int32) (y3 : Int64) (y5 : Int32) (y6 : Int64) (σ : St) : bEx sc 5 244 59 [some (.ref 1315), some (.int y1), some (.int y2), some (.long y3), none, some (.int y5), some (.long y6), none, none, none, none, none] [] σ (f244_59 F y1 y2 y3 y5 y6 σ) := by
  unfold f244_59
  refine b_run [(59, .iload_n 2, 0, 0, .null), (60, .iconst 2, 0, 0, .null)] (pc' := 61) (ls' := [some (.ref 1315), some (.int y1), some (.int y2), some (.long y3), none, some (.int y5), some (.long y6), none, none, none, none, none]) (st' := [.int 2, .int y2]) (by decide +kernel) rfl ?_
  refine b_icT (c := .eq) (o := 9) (t := 70) (y := 0) (w := .null) (by decide +kernel) cmp_eq (fun _ => ?_) (fun _ => ?_)
  · exact b_wk (wS (wS (wS (wS (wN (wS (wS (wN (wN (wN (wN (wN w0)))))))))))) (s244_70 hv F y1 y2 y3 y5 y6 σ)
  · refine b_run [(64, .iload 5, 0, 0, .null), (66, .iconst 2, 0, 0, .null)] (pc' := 67) (ls' := [some (.ref 1315), some (.int y1), some (.int y2), some (.long y3), none, some (.int y5), some (.long y6), none, none, none, none, none]) (st' := [.int 2, .int y5]) (by decide +kernel) rfl ?_
    refine b_icF (c := .ne) (o := 28) (t := 95) (y := 0) (w := .null) (by decide +kernel) cmp_ne (fun _ => ?_) (fun _ => ?_)
    · exact b_wk (wS (wS (wS (wS (wN (wS (wS (wN (wN (wN (wN (wN w0)))))))))))) (s244_70 hv F y1 y2 y3 y5 y6 σ)
    · refine b_run [(95, .aload_n 0, 0, 0, .null), (96, .lload_n 3, 0, 0, .null), (97, .lload 6, 0, 0, .null)] (pc' := 99) (ls' := [some (.ref 1315), some (.int y1), some (.int y2), some (.long y3), none, some (.int y5), some (.long y6), none, none, none, none, none]) (st' := [.long y6, .long y3, .ref 1315]) (by decide +kernel) rfl ?_
      refine b_callI 246 3 [.ref 1315, .long y3, .long y6] (rest := []) (by decide +kernel) rfl rfl rfl (go_O rfl (by decide +kernel) (by decide +kernel : isO 1315 9 = true)) rfl (s246 hv F y3 y6 σ) (by decide) (fun c12 σ11 => ?_)
      exact b_wk (wN (wS (wN (wN (wN (wN (wN (wN (wN (wN (wN (wN w0)))))))))))) (s244_102 hv F y1 c12 σ11)
/-- TreeStoreModel.compared(IIJIJ)Z -/
def f244 (F : Nat) (x1 : Int32) (x2 : Int32) (x3 : Int64) (x5 : Int32) (x6 : Int64) (σ : St) : Rs := if x1 = 11 then f244_32 F x1 x2 x3 x5 x6 σ
    else if x1 = 12 then f244_32 F x1 x2 x3 x5 x6 σ
    else if x2 = 2 then f244_59 F x1 x2 x3 x5 x6 σ
    else if x5 = 2 then f244_59 F x1 x2 x3 x5 x6 σ
    else if x2 = 0 then f244_32 F x1 x2 x3 x5 x6 σ
    else if x5 = 0 then f244_32 F x1 x2 x3 x5 x6 σ
    else f244_59 F x1 x2 x3 x5 x6 σ
theorem s244 {sc : aSc} (hv : vOk sc) (F : Nat) (x1 : Int32) (x2 : Int32) (x3 : Int64) (x5 : Int32) (x6 : Int64) (σ : St) : bEx sc 5 244 0 [some (.ref 1315), some (.int x1), some (.int x2), some (.long x3), none, some (.int x5), some (.long x6), none, none, none, none, none] [] σ (f244 F x1 x2 x3 x5 x6 σ) := by
  unfold f244
  refine b_run [(0, .iload_n 1, 0, 0, .null), (1, .bipush 11, 0, 0, .null)] (pc' := 3) (ls' := [some (.ref 1315), some (.int x1), some (.int x2), some (.long x3), none, some (.int x5), some (.long x6), none, none, none, none, none]) (st' := [.int 11, .int x1]) (by decide +kernel) rfl ?_
  refine b_icT (c := .eq) (o := 29) (t := 32) (y := 0) (w := .null) (by decide +kernel) cmp_eq (fun _ => ?_) (fun _ => ?_)
  · exact b_wk (wS (wS (wS (wS (wN (wS (wS (wN (wN (wN (wN (wN w0)))))))))))) (s244_32 hv F x1 x2 x3 x5 x6 σ)
  · refine b_run [(6, .iload_n 1, 0, 0, .null), (7, .bipush 12, 0, 0, .null)] (pc' := 9) (ls' := [some (.ref 1315), some (.int x1), some (.int x2), some (.long x3), none, some (.int x5), some (.long x6), none, none, none, none, none]) (st' := [.int 12, .int x1]) (by decide +kernel) rfl ?_
    refine b_icT (c := .eq) (o := 23) (t := 32) (y := 0) (w := .null) (by decide +kernel) cmp_eq (fun _ => ?_) (fun _ => ?_)
    · exact b_wk (wS (wS (wS (wS (wN (wS (wS (wN (wN (wN (wN (wN w0)))))))))))) (s244_32 hv F x1 x2 x3 x5 x6 σ)
    · refine b_run [(12, .iload_n 2, 0, 0, .null), (13, .iconst 2, 0, 0, .null)] (pc' := 14) (ls' := [some (.ref 1315), some (.int x1), some (.int x2), some (.long x3), none, some (.int x5), some (.long x6), none, none, none, none, none]) (st' := [.int 2, .int x2]) (by decide +kernel) rfl ?_
      refine b_icT (c := .eq) (o := 45) (t := 59) (y := 0) (w := .null) (by decide +kernel) cmp_eq (fun _ => ?_) (fun _ => ?_)
      · exact b_wk (wS (wS (wS (wS (wN (wS (wS (wN (wN (wN (wN (wN w0)))))))))))) (s244_59 hv F x1 x2 x3 x5 x6 σ)
      · refine b_run [(17, .iload 5, 0, 0, .null), (19, .iconst 2, 0, 0, .null)] (pc' := 20) (ls' := [some (.ref 1315), some (.int x1), some (.int x2), some (.long x3), none, some (.int x5), some (.long x6), none, none, none, none, none]) (st' := [.int 2, .int x5]) (by decide +kernel) rfl ?_
        refine b_icT (c := .eq) (o := 39) (t := 59) (y := 0) (w := .null) (by decide +kernel) cmp_eq (fun _ => ?_) (fun _ => ?_)
        · exact b_wk (wS (wS (wS (wS (wN (wS (wS (wN (wN (wN (wN (wN w0)))))))))))) (s244_59 hv F x1 x2 x3 x5 x6 σ)
        · refine b_run [(23, .iload_n 2, 0, 0, .null)] (pc' := 24) (ls' := [some (.ref 1315), some (.int x1), some (.int x2), some (.long x3), none, some (.int x5), some (.long x6), none, none, none, none, none]) (st' := [.int x2]) (by decide +kernel) rfl ?_
          refine b_izT (c := .eq) (o := 8) (t := 32) (y := 0) (w := .null) (by decide +kernel) cmp_eq (fun _ => ?_) (fun _ => ?_)
          · exact b_wk (wS (wS (wS (wS (wN (wS (wS (wN (wN (wN (wN (wN w0)))))))))))) (s244_32 hv F x1 x2 x3 x5 x6 σ)
          · refine b_run [(27, .iload 5, 0, 0, .null)] (pc' := 29) (ls' := [some (.ref 1315), some (.int x1), some (.int x2), some (.long x3), none, some (.int x5), some (.long x6), none, none, none, none, none]) (st' := [.int x5]) (by decide +kernel) rfl ?_
            refine b_izF (c := .ne) (o := 30) (t := 59) (y := 0) (w := .null) (by decide +kernel) cmp_ne (fun _ => ?_) (fun _ => ?_)
            · exact b_wk (wS (wS (wS (wS (wN (wS (wS (wN (wN (wN (wN (wN w0)))))))))))) (s244_32 hv F x1 x2 x3 x5 x6 σ)
            · exact b_wk (wS (wS (wS (wS (wN (wS (wS (wN (wN (wN (wN (wN w0)))))))))))) (s244_59 hv F x1 x2 x3 x5 x6 σ)
def f243_272 (F : Nat) (k93 : Int32 → Int32 → Int64 → Int32 → Int64 → Int32 → Int32 → St → Rs) (y1 : Int32) (y2 : Int32) (y3 : Int64) (y5 : Int32) (y6 : Int64) (y8 : Int32) (y9 : Int32) (σ : St) : Rs := k93 y1 y2 y3 y5 y6 y8 (y9 + 1) σ
theorem s243_272 {sc : aSc} (hv : vOk sc) (F : Nat) (k93 : Int32 → Int32 → Int64 → Int32 → Int64 → Int32 → Int32 → St → Rs) (hk93 : ∀ y1 y2 y3 y5 y6 y8 y9 σ, bEx sc 6 243 93 [some (.ref 1315), some (.int y1), some (.int y2), some (.long y3), none, some (.int y5), some (.long y6), none, some (.int y8), some (.int y9), none, none, none] [] σ (k93 y1 y2 y3 y5 y6 y8 y9 σ)) (y1 : Int32) (y2 : Int32) (y3 : Int64) (y5 : Int32) (y6 : Int64) (y8 : Int32) (y9 : Int32) (σ : St) : bEx sc 6 243 272 [some (.ref 1315), some (.int y1), some (.int y2), some (.long y3), none, some (.int y5), some (.long y6), none, some (.int y8), some (.int y9), none, none, none] [] σ (f243_272 F k93 y1 y2 y3 y5 y6 y8 y9 σ) := by
  unfold f243_272
  refine b_run [(272, .iinc 9 1, 0, 0, .null), (275, .goto (-182), 93, 0, .null)] (pc' := 93) (ls' := [some (.ref 1315), some (.int y1), some (.int y2), some (.long y3), none, some (.int y5), some (.long y6), none, some (.int y8), some (.int (y9 + 1)), none, none, none]) (st' := []) (by decide +kernel) rfl ?_
  exact b_wk (wS (wS (wS (wS (wN (wS (wS (wN (wS (wS (wN (wN (wN w0))))))))))))) (hk93 y1 y2 y3 y5 y6 y8 (y9 + 1) σ)
def f243_264 (F : Nat) (k93 : Int32 → Int32 → Int64 → Int32 → Int64 → Int32 → Int32 → St → Rs) (k141 : Int32 → Int32 → Int64 → Int32 → Int64 → Int32 → Int32 → Int32 → Int32 → St → Rs) (y1 : Int32) (y2 : Int32) (y3 : Int64) (y5 : Int32) (y6 : Int64) (y9 : Int32) (y10 : Int32) (y11 : Int32) (z0 : Int32) (σ : St) : Rs := k141 y1 y2 y3 y5 y6 z0 y9 y10 (y11 + 1) σ
theorem s243_264 {sc : aSc} (hv : vOk sc) (F : Nat) (k93 : Int32 → Int32 → Int64 → Int32 → Int64 → Int32 → Int32 → St → Rs) (k141 : Int32 → Int32 → Int64 → Int32 → Int64 → Int32 → Int32 → Int32 → Int32 → St → Rs) (hk93 : ∀ y1 y2 y3 y5 y6 y8 y9 σ, bEx sc 6 243 93 [some (.ref 1315), some (.int y1), some (.int y2), some (.long y3), none, some (.int y5), some (.long y6), none, some (.int y8), some (.int y9), none, none, none] [] σ (k93 y1 y2 y3 y5 y6 y8 y9 σ)) (hk141 : ∀ y1 y2 y3 y5 y6 y8 y9 y10 y11 σ, bEx sc 6 243 141 [some (.ref 1315), some (.int y1), some (.int y2), some (.long y3), none, some (.int y5), some (.long y6), none, some (.int y8), some (.int y9), some (.int y10), some (.int y11), none] [] σ (k141 y1 y2 y3 y5 y6 y8 y9 y10 y11 σ)) (y1 : Int32) (y2 : Int32) (y3 : Int64) (y5 : Int32) (y6 : Int64) (y9 : Int32) (y10 : Int32) (y11 : Int32) (z0 : Int32) (σ : St) : bEx sc 6 243 264 [some (.ref 1315), some (.int y1), some (.int y2), some (.long y3), none, some (.int y5), some (.long y6), none, none, some (.int y9), some (.int y10), some (.int y11), none] [.int z0] σ (f243_264 F k93 k141 y1 y2 y3 y5 y6 y9 y10 y11 z0 σ) := by
  unfold f243_264
  refine b_run [(264, .istore 8, 0, 0, .null), (266, .iinc 11 1, 0, 0, .null), (269, .goto (-128), 141, 0, .null)] (pc' := 141) (ls' := [some (.ref 1315), some (.int y1), some (.int y2), some (.long y3), none, some (.int y5), some (.long y6), none, some (.int z0), some (.int y9), some (.int y10), some (.int (y11 + 1)), none]) (st' := []) (by decide +kernel) rfl ?_
  exact b_wk (wS (wS (wS (wS (wN (wS (wS (wN (wS (wS (wS (wS (wN w0))))))))))))) (hk141 y1 y2 y3 y5 y6 z0 y9 y10 (y11 + 1) σ)
def f243_263 (F : Nat) (k93 : Int32 → Int32 → Int64 → Int32 → Int64 → Int32 → Int32 → St → Rs) (k141 : Int32 → Int32 → Int64 → Int32 → Int64 → Int32 → Int32 → Int32 → Int32 → St → Rs) (y1 : Int32) (y2 : Int32) (y3 : Int64) (y5 : Int32) (y6 : Int64) (y9 : Int32) (y10 : Int32) (y11 : Int32) (σ : St) : Rs := f243_264 F k93 k141 y1 y2 y3 y5 y6 y9 y10 y11 0 σ
theorem s243_263 {sc : aSc} (hv : vOk sc) (F : Nat) (k93 : Int32 → Int32 → Int64 → Int32 → Int64 → Int32 → Int32 → St → Rs) (k141 : Int32 → Int32 → Int64 → Int32 → Int64 → Int32 → Int32 → Int32 → Int32 → St → Rs) (hk93 : ∀ y1 y2 y3 y5 y6 y8 y9 σ, bEx sc 6 243 93 [some (.ref 1315), some (.int y1), some (.int y2), some (.long y3), none, some (.int y5), some (.long y6), none, some (.int y8), some (.int y9), none, none, none] [] σ (k93 y1 y2 y3 y5 y6 y8 y9 σ)) (hk141 : ∀ y1 y2 y3 y5 y6 y8 y9 y10 y11 σ, bEx sc 6 243 141 [some (.ref 1315), some (.int y1), some (.int y2), some (.long y3), none, some (.int y5), some (.long y6), none, some (.int y8), some (.int y9), some (.int y10), some (.int y11), none] [] σ (k141 y1 y2 y3 y5 y6 y8 y9 y10 y11 σ)) (y1 : Int32) (y2 : Int32) (y3 : Int64) (y5 : Int32) (y6 : Int64) (y9 : Int32) (y10 : Int32) (y11 : Int32) (σ : St) : bEx sc 6 243 263 [some (.ref 1315), some (.int y1), some (.int y2), some (.long y3), none, some (.int y5), some (.long y6), none, none, some (.int y9), some (.int y10), some (.int y11), none] [] σ (f243_263 F k93 k141 y1 y2 y3 y5 y6 y9 y10 y11 σ) := by
  unfold f243_263
  refine b_run [(263, .iconst 0, 0, 0, .null)] (pc' := 264) (ls' := [some (.ref 1315), some (.int y1), some (.int y2), some (.long y3), none, some (.int y5), some (.long y6), none, none, some (.int y9), some (.int y10), some (.int y11), none]) (st' := [.int 0]) (by decide +kernel) rfl ?_
  exact b_wk (wS (wS (wS (wS (wN (wS (wS (wN (wN (wS (wS (wS (wN w0))))))))))))) (s243_264 hv F k93 k141 hk93 hk141 y1 y2 y3 y5 y6 y9 y10 y11 0 σ)
def f243_259 (F : Nat) (k93 : Int32 → Int32 → Int64 → Int32 → Int64 → Int32 → Int32 → St → Rs) (k141 : Int32 → Int32 → Int64 → Int32 → Int64 → Int32 → Int32 → Int32 → Int32 → St → Rs) (y1 : Int32) (y2 : Int32) (y3 : Int64) (y5 : Int32) (y6 : Int64) (y9 : Int32) (y10 : Int32) (y11 : Int32) (σ : St) : Rs := f243_264 F k93 k141 y1 y2 y3 y5 y6 y9 y10 y11 1 σ
theorem s243_259 {sc : aSc} (hv : vOk sc) (F : Nat) (k93 : Int32 → Int32 → Int64 → Int32 → Int64 → Int32 → Int32 → St → Rs) (k141 : Int32 → Int32 → Int64 → Int32 → Int64 → Int32 → Int32 → Int32 → Int32 → St → Rs) (hk93 : ∀ y1 y2 y3 y5 y6 y8 y9 σ, bEx sc 6 243 93 [some (.ref 1315), some (.int y1), some (.int y2), some (.long y3), none, some (.int y5), some (.long y6), none, some (.int y8), some (.int y9), none, none, none] [] σ (k93 y1 y2 y3 y5 y6 y8 y9 σ)) (hk141 : ∀ y1 y2 y3 y5 y6 y8 y9 y10 y11 σ, bEx sc 6 243 141 [some (.ref 1315), some (.int y1), some (.int y2), some (.long y3), none, some (.int y5), some (.long y6), none, some (.int y8), some (.int y9), some (.int y10), some (.int y11), none] [] σ (k141 y1 y2 y3 y5 y6 y8 y9 y10 y11 σ)) (y1 : Int32) (y2 : Int32) (y3 : Int64) (y5 : Int32) (y6 : Int64) (y9 : Int32) (y10 : Int32) (y11 : Int32) (σ : St) : bEx sc 6 243 259 [some (.ref 1315), some (.int y1), some (.int y2), some (.long y3), none, some (.int y5), some (.long y6), none, none, some (.int y9), some (.int y10), some (.int y11), none] [] σ (f243_259 F k93 k141 y1 y2 y3 y5 y6 y9 y10 y11 σ) := by
  unfold f243_259
  refine b_run [(259, .iconst 1, 0, 0, .null), (260, .goto 4, 264, 0, .null)] (pc' := 264) (ls' := [some (.ref 1315), some (.int y1), some (.int y2), some (.long y3), none, some (.int y5), some (.long y6), none, none, some (.int y9), some (.int y10), some (.int y11), none]) (st' := [.int 1]) (by decide +kernel) rfl ?_
  exact b_wk (wS (wS (wS (wS (wN (wS (wS (wN (wN (wS (wS (wS (wN w0))))))))))))) (s243_264 hv F k93 k141 hk93 hk141 y1 y2 y3 y5 y6 y9 y10 y11 1 σ)
def f243_253 (F : Nat) (k93 : Int32 → Int32 → Int64 → Int32 → Int64 → Int32 → Int32 → St → Rs) (k141 : Int32 → Int32 → Int64 → Int32 → Int64 → Int32 → Int32 → Int32 → Int32 → St → Rs) (y1 : Int32) (y2 : Int32) (y3 : Int64) (y5 : Int32) (y6 : Int64) (y9 : Int32) (y10 : Int32) (y11 : Int32) (z1 : Int32) (z2 : Int32) (z3 : Int64) (z4 : Int32) (z5 : Int64) (σ : St) : Rs := cI (f244 F z1 z2 z3 z4 z5 σ) fun c12 σ11 => 
    if c12 = 0 then f243_263 F k93 k141 y1 y2 y3 y5 y6 y9 y10 y11 σ11
    else f243_259 F k93 k141 y1 y2 y3 y5 y6 y9 y10 y11 σ11
theorem s243_253 {sc : aSc} (hv : vOk sc) (F : Nat) (k93 : Int32 → Int32 → Int64 → Int32 → Int64 → Int32 → Int32 → St → Rs) (k141 : Int32 → Int32 → Int64 → Int32 → Int64 → Int32 → Int32 → Int32 → Int32 → St → Rs) (hk93 : ∀ y1 y2 y3 y5 y6 y8 y9 σ, bEx sc 6 243 93 [some (.ref 1315), some (.int y1), some (.int y2), some (.long y3), none, some (.int y5), some (.long y6), none, some (.int y8), some (.int y9), none, none, none] [] σ (k93 y1 y2 y3 y5 y6 y8 y9 σ)) (hk141 : ∀ y1 y2 y3 y5 y6 y8 y9 y10 y11 σ, bEx sc 6 243 141 [some (.ref 1315), some (.int y1), some (.int y2), some (.long y3), none, some (.int y5), some (.long y6), none, some (.int y8), some (.int y9), some (.int y10), some (.int y11), none] [] σ (k141 y1 y2 y3 y5 y6 y8 y9 y10 y11 σ)) (y1 : Int32) (y2 : Int32) (y3 : Int64) (y5 : Int32) (y6 : Int64) (y9 : Int32) (y10 : Int32) (y11 : Int32) (z1 : Int32) (z2 : Int32) (z3 : Int64) (z4 : Int32) (z5 : Int64) (σ : St) : bEx sc 6 243 253 [some (.ref 1315), some (.int y1), some (.int y2), some (.long y3), none, some (.int y5), some (.long y6), none, none, some (.int y9), some (.int y10), some (.int y11), none] [.long z5, .int z4, .long z3, .int z2, .int z1, .ref 1315] σ (f243_253 F k93 k141 y1 y2 y3 y5 y6 y9 y10 y11 z1 z2 z3 z4 z5 σ) := by
  unfold f243_253
  refine b_callI 244 6 [.ref 1315, .int z1, .int z2, .long z3, .int z4, .long z5] (rest := []) (by decide +kernel) rfl rfl rfl (go_O rfl (by decide +kernel) (by decide +kernel : isO 1315 9 = true)) rfl (s244 hv F z1 z2 z3 z4 z5 σ) (by decide) (fun c12 σ11 => ?_)
  refine b_izT (c := .eq) (o := 7) (t := 263) (y := 0) (w := .null) (by decide +kernel) cmp_eq (fun _ => ?_) (fun _ => ?_)
  · exact b_wk (wS (wS (wS (wS (wN (wS (wS (wN (wN (wS (wS (wS (wN w0))))))))))))) (s243_263 hv F k93 k141 hk93 hk141 y1 y2 y3 y5 y6 y9 y10 y11 σ11)
  · exact b_wk (wS (wS (wS (wS (wN (wS (wS (wN (wN (wS (wS (wS (wN w0))))))))))))) (s243_259 hv F k93 k141 hk93 hk141 y1 y2 y3 y5 y6 y9 y10 y11 σ11)
def f243_239 (F : Nat) (k93 : Int32 → Int32 → Int64 → Int32 → Int64 → Int32 → Int32 → St → Rs) (k141 : Int32 → Int32 → Int64 → Int32 → Int64 → Int32 → Int32 → Int32 → Int32 → St → Rs) (y1 : Int32) (y2 : Int32) (y3 : Int64) (y5 : Int32) (y6 : Int64) (y9 : Int32) (y10 : Int32) (y11 : Int32) (z1 : Int32) (z2 : Int32) (z3 : Int64) (z4 : Int32) (σ : St) : Rs := if y5 = 3 then f243_253 F k93 k141 y1 y2 y3 y5 y6 y9 y10 y11 z1 z2 z3 z4 ((y11 : Int32).toInt64) σ
    else f243_253 F k93 k141 y1 y2 y3 y5 y6 y9 y10 y11 z1 z2 z3 z4 y6 σ
theorem s243_239 {sc : aSc} (hv : vOk sc) (F : Nat) (k93 : Int32 → Int32 → Int64 → Int32 → Int64 → Int32 → Int32 → St → Rs) (k141 : Int32 → Int32 → Int64 → Int32 → Int64 → Int32 → Int32 → Int32 → Int32 → St → Rs) (hk93 : ∀ y1 y2 y3 y5 y6 y8 y9 σ, bEx sc 6 243 93 [some (.ref 1315), some (.int y1), some (.int y2), some (.long y3), none, some (.int y5), some (.long y6), none, some (.int y8), some (.int y9), none, none, none] [] σ (k93 y1 y2 y3 y5 y6 y8 y9 σ)) (hk141 : ∀ y1 y2 y3 y5 y6 y8 y9 y10 y11 σ, bEx sc 6 243 141 [some (.ref 1315), some (.int y1), some (.int y2), some (.long y3), none, some (.int y5), some (.long y6), none, some (.int y8), some (.int y9), some (.int y10), some (.int y11), none] [] σ (k141 y1 y2 y3 y5 y6 y8 y9 y10 y11 σ)) (y1 : Int32) (y2 : Int32) (y3 : Int64) (y5 : Int32) (y6 : Int64) (y9 : Int32) (y10 : Int32) (y11 : Int32) (z1 : Int32) (z2 : Int32) (z3 : Int64) (z4 : Int32) (σ : St) : bEx sc 6 243 239 [some (.ref 1315), some (.int y1), some (.int y2), some (.long y3), none, some (.int y5), some (.long y6), none, none, some (.int y9), some (.int y10), some (.int y11), none] [.int z4, .long z3, .int z2, .int z1, .ref 1315] σ (f243_239 F k93 k141 y1 y2 y3 y5 y6 y9 y10 y11 z1 z2 z3 z4 σ) := by
  unfold f243_239
  refine b_run [(239, .iload 5, 0, 0, .null), (241, .iconst 3, 0, 0, .null)] (pc' := 242) (ls' := [some (.ref 1315), some (.int y1), some (.int y2), some (.long y3), none, some (.int y5), some (.long y6), none, none, some (.int y9), some (.int y10), some (.int y11), none]) (st' := [.int 3, .int y5, .int z4, .long z3, .int z2, .int z1, .ref 1315]) (by decide +kernel) rfl ?_
  refine b_icF (c := .ne) (o := 9) (t := 251) (y := 0) (w := .null) (by decide +kernel) cmp_ne (fun _ => ?_) (fun _ => ?_)
  · refine b_run [(245, .iload 11, 0, 0, .null), (247, .i2l, 0, 0, .null), (248, .goto 5, 253, 0, .null)] (pc' := 253) (ls' := [some (.ref 1315), some (.int y1), some (.int y2), some (.long y3), none, some (.int y5), some (.long y6), none, none, some (.int y9), some (.int y10), some (.int y11), none]) (st' := [.long ((y11 : Int32).toInt64), .int z4, .long z3, .int z2, .int z1, .ref 1315]) (by decide +kernel) rfl ?_
    exact b_wk (wS (wS (wS (wS (wN (wS (wS (wN (wN (wS (wS (wS (wN w0))))))))))))) (s243_253 hv F k93 k141 hk93 hk141 y1 y2 y3 y5 y6 y9 y10 y11 z1 z2 z3 z4 ((y11 : Int32).toInt64) σ)
  · refine b_run [(251, .lload 6, 0, 0, .null)] (pc' := 253) (ls' := [some (.ref 1315), some (.int y1), some (.int y2), some (.long y3), none, some (.int y5), some (.long y6), none, none, some (.int y9), some (.int y10), some (.int y11), none]) (st' := [.long y6, .int z4, .long z3, .int z2, .int z1, .ref 1315]) (by decide +kernel) rfl ?_
    exact b_wk (wS (wS (wS (wS (wN (wS (wS (wN (wN (wS (wS (wS (wN w0))))))))))))) (s243_253 hv F k93 k141 hk93 hk141 y1 y2 y3 y5 y6 y9 y10 y11 z1 z2 z3 z4 y6 σ)
def f243_227 (F : Nat) (k93 : Int32 → Int32 → Int64 → Int32 → Int64 → Int32 → Int32 → St → Rs) (k141 : Int32 → Int32 → Int64 → Int32 → Int64 → Int32 → Int32 → Int32 → Int32 → St → Rs) (y1 : Int32) (y2 : Int32) (y3 : Int64) (y5 : Int32) (y6 : Int64) (y9 : Int32) (y10 : Int32) (y11 : Int32) (z1 : Int32) (z2 : Int32) (z3 : Int64) (σ : St) : Rs := if y5 = 3 then f243_239 F k93 k141 y1 y2 y3 y5 y6 y9 y10 y11 z1 z2 z3 1 σ
    else f243_239 F k93 k141 y1 y2 y3 y5 y6 y9 y10 y11 z1 z2 z3 y5 σ
theorem s243_227 {sc : aSc} (hv : vOk sc) (F : Nat) (k93 : Int32 → Int32 → Int64 → Int32 → Int64 → Int32 → Int32 → St → Rs) (k141 : Int32 → Int32 → Int64 → Int32 → Int64 → Int32 → Int32 → Int32 → Int32 → St → Rs) (hk93 : ∀ y1 y2 y3 y5 y6 y8 y9 σ, bEx sc 6 243 93 [some (.ref 1315), some (.int y1), some (.int y2), some (.long y3), none, some (.int y5), some (.long y6), none, some (.int y8), some (.int y9), none, none, none] [] σ (k93 y1 y2 y3 y5 y6 y8 y9 σ)) (hk141 : ∀ y1 y2 y3 y5 y6 y8 y9 y10 y11 σ, bEx sc 6 243 141 [some (.ref 1315), some (.int y1), some (.int y2), some (.long y3), none, some (.int y5), some (.long y6), none, some (.int y8), some (.int y9), some (.int y10), some (.int y11), none] [] σ (k141 y1 y2 y3 y5 y6 y8 y9 y10 y11 σ)) (y1 : Int32) (y2 : Int32) (y3 : Int64) (y5 : Int32) (y6 : Int64) (y9 : Int32) (y10 : Int32) (y11 : Int32) (z1 : Int32) (z2 : Int32) (z3 : Int64) (σ : St) : bEx sc 6 243 227 [some (.ref 1315), some (.int y1), some (.int y2), some (.long y3), none, some (.int y5), some (.long y6), none, none, some (.int y9), some (.int y10), some (.int y11), none] [.long z3, .int z2, .int z1, .ref 1315] σ (f243_227 F k93 k141 y1 y2 y3 y5 y6 y9 y10 y11 z1 z2 z3 σ) := by
  unfold f243_227
  refine b_run [(227, .iload 5, 0, 0, .null), (229, .iconst 3, 0, 0, .null)] (pc' := 230) (ls' := [some (.ref 1315), some (.int y1), some (.int y2), some (.long y3), none, some (.int y5), some (.long y6), none, none, some (.int y9), some (.int y10), some (.int y11), none]) (st' := [.int 3, .int y5, .long z3, .int z2, .int z1, .ref 1315]) (by decide +kernel) rfl ?_
  refine b_icF (c := .ne) (o := 7) (t := 237) (y := 0) (w := .null) (by decide +kernel) cmp_ne (fun _ => ?_) (fun _ => ?_)
  · refine b_run [(233, .iconst 1, 0, 0, .null), (234, .goto 5, 239, 0, .null)] (pc' := 239) (ls' := [some (.ref 1315), some (.int y1), some (.int y2), some (.long y3), none, some (.int y5), some (.long y6), none, none, some (.int y9), some (.int y10), some (.int y11), none]) (st' := [.int 1, .long z3, .int z2, .int z1, .ref 1315]) (by decide +kernel) rfl ?_
    exact b_wk (wS (wS (wS (wS (wN (wS (wS (wN (wN (wS (wS (wS (wN w0))))))))))))) (s243_239 hv F k93 k141 hk93 hk141 y1 y2 y3 y5 y6 y9 y10 y11 z1 z2 z3 1 σ)
  · refine b_run [(237, .iload 5, 0, 0, .null)] (pc' := 239) (ls' := [some (.ref 1315), some (.int y1), some (.int y2), some (.long y3), none, some (.int y5), some (.long y6), none, none, some (.int y9), some (.int y10), some (.int y11), none]) (st' := [.int y5, .long z3, .int z2, .int z1, .ref 1315]) (by decide +kernel) rfl ?_
    exact b_wk (wS (wS (wS (wS (wN (wS (wS (wN (wN (wS (wS (wS (wN w0))))))))))))) (s243_239 hv F k93 k141 hk93 hk141 y1 y2 y3 y5 y6 y9 y10 y11 z1 z2 z3 y5 σ)
def f243_215 (F : Nat) (k93 : Int32 → Int32 → Int64 → Int32 → Int64 → Int32 → Int32 → St → Rs) (k141 : Int32 → Int32 → Int64 → Int32 → Int64 → Int32 → Int32 → Int32 → Int32 → St → Rs) (y1 : Int32) (y2 : Int32) (y3 : Int64) (y5 : Int32) (y6 : Int64) (y9 : Int32) (y10 : Int32) (y11 : Int32) (z1 : Int32) (z2 : Int32) (σ : St) : Rs := if y2 = 3 then f243_227 F k93 k141 y1 y2 y3 y5 y6 y9 y10 y11 z1 z2 ((y9 : Int32).toInt64) σ
    else f243_227 F k93 k141 y1 y2 y3 y5 y6 y9 y10 y11 z1 z2 y3 σ
theorem s243_215 {sc : aSc} (hv : vOk sc) (F : Nat) (k93 : Int32 → Int32 → Int64 → Int32 → Int64 → Int32 → Int32 → St → Rs) (k141 : Int32 → Int32 → Int64 → Int32 → Int64 → Int32 → Int32 → Int32 → Int32 → St → Rs) (hk93 : ∀ y1 y2 y3 y5 y6 y8 y9 σ, bEx sc 6 243 93 [some (.ref 1315), some (.int y1), some (.int y2), some (.long y3), none, some (.int y5), some (.long y6), none, some (.int y8), some (.int y9), none, none, none] [] σ (k93 y1 y2 y3 y5 y6 y8 y9 σ)) (hk141 : ∀ y1 y2 y3 y5 y6 y8 y9 y10 y11 σ, bEx sc 6 243 141 [some (.ref 1315), some (.int y1), some (.int y2), some (.long y3), none, some (.int y5), some (.long y6), none, some (.int y8), some (.int y9), some (.int y10), some (.int y11), none] [] σ (k141 y1 y2 y3 y5 y6 y8 y9 y10 y11 σ)) (y1 : Int32) (y2 : Int32) (y3 : Int64) (y5 : Int32) (y6 : Int64) (y9 : Int32) (y10 : Int32) (y11 : Int32) (z1 : Int32) (z2 : Int32) (σ : St) : bEx sc 6 243 215 [some (.ref 1315), some (.int y1), some (.int y2), some (.long y3), none, some (.int y5), some (.long y6), none, none, some (.int y9), some (.int y10), some (.int y11), none] [.int z2, .int z1, .ref 1315] σ (f243_215 F k93 k141 y1 y2 y3 y5 y6 y9 y10 y11 z1 z2 σ) := by
  unfold f243_215
  refine b_run [(215, .iload_n 2, 0, 0, .null), (216, .iconst 3, 0, 0, .null)] (pc' := 217) (ls' := [some (.ref 1315), some (.int y1), some (.int y2), some (.long y3), none, some (.int y5), some (.long y6), none, none, some (.int y9), some (.int y10), some (.int y11), none]) (st' := [.int 3, .int y2, .int z2, .int z1, .ref 1315]) (by decide +kernel) rfl ?_
  refine b_icF (c := .ne) (o := 9) (t := 226) (y := 0) (w := .null) (by decide +kernel) cmp_ne (fun _ => ?_) (fun _ => ?_)
  · refine b_run [(220, .iload 9, 0, 0, .null), (222, .i2l, 0, 0, .null), (223, .goto 4, 227, 0, .null)] (pc' := 227) (ls' := [some (.ref 1315), some (.int y1), some (.int y2), some (.long y3), none, some (.int y5), some (.long y6), none, none, some (.int y9), some (.int y10), some (.int y11), none]) (st' := [.long ((y9 : Int32).toInt64), .int z2, .int z1, .ref 1315]) (by decide +kernel) rfl ?_
    exact b_wk (wS (wS (wS (wS (wN (wS (wS (wN (wN (wS (wS (wS (wN w0))))))))))))) (s243_227 hv F k93 k141 hk93 hk141 y1 y2 y3 y5 y6 y9 y10 y11 z1 z2 ((y9 : Int32).toInt64) σ)
  · refine b_run [(226, .lload_n 3, 0, 0, .null)] (pc' := 227) (ls' := [some (.ref 1315), some (.int y1), some (.int y2), some (.long y3), none, some (.int y5), some (.long y6), none, none, some (.int y9), some (.int y10), some (.int y11), none]) (st' := [.long y3, .int z2, .int z1, .ref 1315]) (by decide +kernel) rfl ?_
    exact b_wk (wS (wS (wS (wS (wN (wS (wS (wN (wN (wS (wS (wS (wN w0))))))))))))) (s243_227 hv F k93 k141 hk93 hk141 y1 y2 y3 y5 y6 y9 y10 y11 z1 z2 y3 σ)
def f243_191 (F : Nat) (k93 : Int32 → Int32 → Int64 → Int32 → Int64 → Int32 → Int32 → St → Rs) (k141 : Int32 → Int32 → Int64 → Int32 → Int64 → Int32 → Int32 → Int32 → Int32 → St → Rs) (y1 : Int32) (y2 : Int32) (y3 : Int64) (y5 : Int32) (y6 : Int64) (y8 : Int32) (y9 : Int32) (y10 : Int32) (y11 : Int32) (z0 : Int32) (σ : St) : Rs := if y8 = 0 then 
    if z0 = 0 then f243_263 F k93 k141 y1 y2 y3 y5 y6 y9 y10 y11 σ
    else if y2 = 3 then f243_215 F k93 k141 y1 y2 y3 y5 y6 y9 y10 y11 y1 1 σ
    else f243_215 F k93 k141 y1 y2 y3 y5 y6 y9 y10 y11 y1 y2 σ
    else f243_259 F k93 k141 y1 y2 y3 y5 y6 y9 y10 y11 σ
theorem s243_191 {sc : aSc} (hv : vOk sc) (F : Nat) (k93 : Int32 → Int32 → Int64 → Int32 → Int64 → Int32 → Int32 → St → Rs) (k141 : Int32 → Int32 → Int64 → Int32 → Int64 → Int32 → Int32 → Int32 → Int32 → St → Rs) (hk93 : ∀ y1 y2 y3 y5 y6 y8 y9 σ, bEx sc 6 243 93 [some (.ref 1315), some (.int y1), some (.int y2), some (.long y3), none, some (.int y5), some (.long y6), none, some (.int y8), some (.int y9), none, none, none] [] σ (k93 y1 y2 y3 y5 y6 y8 y9 σ)) (hk141 : ∀ y1 y2 y3 y5 y6 y8 y9 y10 y11 σ, bEx sc 6 243 141 [some (.ref 1315), some (.int y1), some (.int y2), some (.long y3), none, some (.int y5), some (.long y6), none, some (.int y8), some (.int y9), some (.int y10), some (.int y11), none] [] σ (k141 y1 y2 y3 y5 y6 y8 y9 y10 y11 σ)) (y1 : Int32) (y2 : Int32) (y3 : Int64) (y5 : Int32) (y6 : Int64) (y8 : Int32) (y9 : Int32) (y10 : Int32) (y11 : Int32) (z0 : Int32) (σ : St) : bEx sc 6 243 191 [some (.ref 1315), some (.int y1), some (.int y2), some (.long y3), none, some (.int y5), some (.long y6), none, some (.int y8), some (.int y9), some (.int y10), some (.int y11), none] [.int z0] σ (f243_191 F k93 k141 y1 y2 y3 y5 y6 y8 y9 y10 y11 z0 σ) := by
  unfold f243_191
  refine b_run [(191, .istore 12, 0, 0, .null), (193, .iload 8, 0, 0, .null)] (pc' := 195) (ls' := [some (.ref 1315), some (.int y1), some (.int y2), some (.long y3), none, some (.int y5), some (.long y6), none, some (.int y8), some (.int y9), some (.int y10), some (.int y11), some (.int z0)]) (st' := [.int y8]) (by decide +kernel) rfl ?_
  refine b_izF (c := .ne) (o := 64) (t := 259) (y := 0) (w := .null) (by decide +kernel) cmp_ne (fun _ => ?_) (fun _ => ?_)
  · refine b_run [(198, .iload 12, 0, 0, .null)] (pc' := 200) (ls' := [some (.ref 1315), some (.int y1), some (.int y2), some (.long y3), none, some (.int y5), some (.long y6), none, some (.int y8), some (.int y9), some (.int y10), some (.int y11), some (.int z0)]) (st' := [.int z0]) (by decide +kernel) rfl ?_
    refine b_izT (c := .eq) (o := 63) (t := 263) (y := 0) (w := .null) (by decide +kernel) cmp_eq (fun _ => ?_) (fun _ => ?_)
    · exact b_wk (wS (wS (wS (wS (wN (wS (wS (wN (wN (wS (wS (wS (wN w0))))))))))))) (s243_263 hv F k93 k141 hk93 hk141 y1 y2 y3 y5 y6 y9 y10 y11 σ)
    · refine b_run [(203, .aload_n 0, 0, 0, .null), (204, .iload_n 1, 0, 0, .null), (205, .iload_n 2, 0, 0, .null), (206, .iconst 3, 0, 0, .null)] (pc' := 207) (ls' := [some (.ref 1315), some (.int y1), some (.int y2), some (.long y3), none, some (.int y5), some (.long y6), none, some (.int y8), some (.int y9), some (.int y10), some (.int y11), some (.int z0)]) (st' := [.int 3, .int y2, .int y1, .ref 1315]) (by decide +kernel) rfl ?_
      refine b_icF (c := .ne) (o := 7) (t := 214) (y := 0) (w := .null) (by decide +kernel) cmp_ne (fun _ => ?_) (fun _ => ?_)
      · refine b_run [(210, .iconst 1, 0, 0, .null), (211, .goto 4, 215, 0, .null)] (pc' := 215) (ls' := [some (.ref 1315), some (.int y1), some (.int y2), some (.long y3), none, some (.int y5), some (.long y6), none, some (.int y8), some (.int y9), some (.int y10), some (.int y11), some (.int z0)]) (st' := [.int 1, .int y1, .ref 1315]) (by decide +kernel) rfl ?_
        exact b_wk (wS (wS (wS (wS (wN (wS (wS (wN (wN (wS (wS (wS (wN w0))))))))))))) (s243_215 hv F k93 k141 hk93 hk141 y1 y2 y3 y5 y6 y9 y10 y11 y1 1 σ)
      · refine b_run [(214, .iload_n 2, 0, 0, .null)] (pc' := 215) (ls' := [some (.ref 1315), some (.int y1), some (.int y2), some (.long y3), none, some (.int y5), some (.long y6), none, some (.int y8), some (.int y9), some (.int y10), some (.int y11), some (.int z0)]) (st' := [.int y2, .int y1, .ref 1315]) (by decide +kernel) rfl ?_
        exact b_wk (wS (wS (wS (wS (wN (wS (wS (wN (wN (wS (wS (wS (wN w0))))))))))))) (s243_215 hv F k93 k141 hk93 hk141 y1 y2 y3 y5 y6 y9 y10 y11 y1 y2 σ)
  · exact b_wk (wS (wS (wS (wS (wN (wS (wS (wN (wN (wS (wS (wS (wN w0))))))))))))) (s243_259 hv F k93 k141 hk93 hk141 y1 y2 y3 y5 y6 y9 y10 y11 σ)
def f243_141 (F : Nat) (k93 : Int32 → Int32 → Int64 → Int32 → Int64 → Int32 → Int32 → St → Rs) : Nat → Int32 → Int32 → Int64 → Int32 → Int64 → Int32 → Int32 → Int32 → Int32 → St → Rs
  | 0, _, _, _, _, _, _, _, _, _, _ => none
  | n + 1, y1, y2, y3, y5, y6, y8, y9, y10, y11, σ => lt (σ.1 1315 3) fun c10 => 
    if y11 < c10 then 
    if y10 = 0 then f243_272 F k93 y1 y2 y3 y5 y6 y8 y9 σ
    else if y5 = 3 then 
    if lg_cmp ((y6 >>> ((y11 : Int32).toInt64 &&& 63)) &&& 1) 1 = 0 then f243_191 F k93 (f243_141 F k93 n) y1 y2 y3 y5 y6 y8 y9 y10 y11 1 σ
    else f243_191 F k93 (f243_141 F k93 n) y1 y2 y3 y5 y6 y8 y9 y10 y11 0 σ
    else if y11 = 0 then f243_191 F k93 (f243_141 F k93 n) y1 y2 y3 y5 y6 y8 y9 y10 y11 1 σ
    else f243_191 F k93 (f243_141 F k93 n) y1 y2 y3 y5 y6 y8 y9 y10 y11 0 σ
    else f243_272 F k93 y1 y2 y3 y5 y6 y8 y9 σ
theorem s243_141 {sc : aSc} (hv : vOk sc) (F : Nat) (k93 : Int32 → Int32 → Int64 → Int32 → Int64 → Int32 → Int32 → St → Rs) (hk93 : ∀ y1 y2 y3 y5 y6 y8 y9 σ, bEx sc 6 243 93 [some (.ref 1315), some (.int y1), some (.int y2), some (.long y3), none, some (.int y5), some (.long y6), none, some (.int y8), some (.int y9), none, none, none] [] σ (k93 y1 y2 y3 y5 y6 y8 y9 σ)) : ∀ (n : Nat) (y1 : Int32) (y2 : Int32) (y3 : Int64) (y5 : Int32) (y6 : Int64) (y8 : Int32) (y9 : Int32) (y10 : Int32) (y11 : Int32) (σ : St), bEx sc 6 243 141 [some (.ref 1315), some (.int y1), some (.int y2), some (.long y3), none, some (.int y5), some (.long y6), none, some (.int y8), some (.int y9), some (.int y10), some (.int y11), none] [] σ (f243_141 F k93 n y1 y2 y3 y5 y6 y8 y9 y10 y11 σ) := by
  intro n
  induction n with
  | zero => intro y1 y2 y3 y5 y6 y8 y9 y10 y11 σ; exact b_none
  | succ n ih =>
    intro y1 y2 y3 y5 y6 y8 y9 y10 y11 σ
    rw [f243_141.eq_2]
    refine b_run [(141, .iload 11, 0, 0, .null), (143, .aload_n 0, 0, 0, .null)] (pc' := 144) (ls' := [some (.ref 1315), some (.int y1), some (.int y2), some (.long y3), none, some (.int y5), some (.long y6), none, some (.int y8), some (.int y9), some (.int y10), some (.int y11), none]) (st' := [.ref 1315, .int y11]) (by decide +kernel) rfl ?_
    refine b_gI (q := 148) (ci := 9) (k := 3) (w := .null) (by decide +kernel) (by decide +kernel) (fun c10 => ?_)
    refine b_icF (c := .ge) (o := 125) (t := 272) (y := 0) (w := .null) (by decide +kernel) cmp_ge (fun _ => ?_) (fun _ => ?_)
    · refine b_run [(150, .iload 10, 0, 0, .null)] (pc' := 152) (ls' := [some (.ref 1315), some (.int y1), some (.int y2), some (.long y3), none, some (.int y5), some (.long y6), none, some (.int y8), some (.int y9), some (.int y10), some (.int y11), none]) (st' := [.int y10]) (by decide +kernel) rfl ?_
      refine b_izT (c := .eq) (o := 120) (t := 272) (y := 0) (w := .null) (by decide +kernel) cmp_eq (fun _ => ?_) (fun _ => ?_)
      · exact b_wk (wS (wS (wS (wS (wN (wS (wS (wN (wS (wS (wN (wN (wN w0))))))))))))) (s243_272 hv F k93 hk93 y1 y2 y3 y5 y6 y8 y9 σ)
      · refine b_run [(155, .iload 5, 0, 0, .null), (157, .iconst 3, 0, 0, .null)] (pc' := 158) (ls' := [some (.ref 1315), some (.int y1), some (.int y2), some (.long y3), none, some (.int y5), some (.long y6), none, some (.int y8), some (.int y9), some (.int y10), some (.int y11), none]) (st' := [.int 3, .int y5]) (by decide +kernel) rfl ?_
        refine b_icT (c := .eq) (o := 16) (t := 174) (y := 0) (w := .null) (by decide +kernel) cmp_eq (fun _ => ?_) (fun _ => ?_)
        · refine b_run [(174, .lload 6, 0, 0, .null), (176, .iload 11, 0, 0, .null), (178, .lshr, 0, 0, .null), (179, .lconst 1, 0, 0, .null), (180, .land, 0, 0, .null), (181, .lconst 1, 0, 0, .null), (182, .lcmp, 0, 0, .null)] (pc' := 183) (ls' := [some (.ref 1315), some (.int y1), some (.int y2), some (.long y3), none, some (.int y5), some (.long y6), none, some (.int y8), some (.int y9), some (.int y10), some (.int y11), none]) (st' := [.int (lg_cmp ((y6 >>> ((y11 : Int32).toInt64 &&& 63)) &&& 1) 1)]) (by decide +kernel) rfl ?_
          refine b_izF (c := .ne) (o := 7) (t := 190) (y := 0) (w := .null) (by decide +kernel) cmp_ne (fun _ => ?_) (fun _ => ?_)
          · refine b_run [(186, .iconst 1, 0, 0, .null), (187, .goto 4, 191, 0, .null)] (pc' := 191) (ls' := [some (.ref 1315), some (.int y1), some (.int y2), some (.long y3), none, some (.int y5), some (.long y6), none, some (.int y8), some (.int y9), some (.int y10), some (.int y11), none]) (st' := [.int 1]) (by decide +kernel) rfl ?_
            exact b_wk (wS (wS (wS (wS (wN (wS (wS (wN (wS (wS (wS (wS (wN w0))))))))))))) (s243_191 hv F k93 (f243_141 F k93 n) hk93 ih y1 y2 y3 y5 y6 y8 y9 y10 y11 1 σ)
          · refine b_run [(190, .iconst 0, 0, 0, .null)] (pc' := 191) (ls' := [some (.ref 1315), some (.int y1), some (.int y2), some (.long y3), none, some (.int y5), some (.long y6), none, some (.int y8), some (.int y9), some (.int y10), some (.int y11), none]) (st' := [.int 0]) (by decide +kernel) rfl ?_
            exact b_wk (wS (wS (wS (wS (wN (wS (wS (wN (wS (wS (wS (wS (wN w0))))))))))))) (s243_191 hv F k93 (f243_141 F k93 n) hk93 ih y1 y2 y3 y5 y6 y8 y9 y10 y11 0 σ)
        · refine b_run [(161, .iload 11, 0, 0, .null)] (pc' := 163) (ls' := [some (.ref 1315), some (.int y1), some (.int y2), some (.long y3), none, some (.int y5), some (.long y6), none, some (.int y8), some (.int y9), some (.int y10), some (.int y11), none]) (st' := [.int y11]) (by decide +kernel) rfl ?_
          refine b_izF (c := .ne) (o := 7) (t := 170) (y := 0) (w := .null) (by decide +kernel) cmp_ne (fun _ => ?_) (fun _ => ?_)
          · refine b_run [(166, .iconst 1, 0, 0, .null), (167, .goto 24, 191, 0, .null)] (pc' := 191) (ls' := [some (.ref 1315), some (.int y1), some (.int y2), some (.long y3), none, some (.int y5), some (.long y6), none, some (.int y8), some (.int y9), some (.int y10), some (.int y11), none]) (st' := [.int 1]) (by decide +kernel) rfl ?_
            exact b_wk (wS (wS (wS (wS (wN (wS (wS (wN (wS (wS (wS (wS (wN w0))))))))))))) (s243_191 hv F k93 (f243_141 F k93 n) hk93 ih y1 y2 y3 y5 y6 y8 y9 y10 y11 1 σ)
          · refine b_run [(170, .iconst 0, 0, 0, .null), (171, .goto 20, 191, 0, .null)] (pc' := 191) (ls' := [some (.ref 1315), some (.int y1), some (.int y2), some (.long y3), none, some (.int y5), some (.long y6), none, some (.int y8), some (.int y9), some (.int y10), some (.int y11), none]) (st' := [.int 0]) (by decide +kernel) rfl ?_
            exact b_wk (wS (wS (wS (wS (wN (wS (wS (wN (wS (wS (wS (wS (wN w0))))))))))))) (s243_191 hv F k93 (f243_141 F k93 n) hk93 ih y1 y2 y3 y5 y6 y8 y9 y10 y11 0 σ)
    · exact b_wk (wS (wS (wS (wS (wN (wS (wS (wN (wS (wS (wN (wN (wN w0))))))))))))) (s243_272 hv F k93 hk93 y1 y2 y3 y5 y6 y8 y9 σ)
def f243_136 (F : Nat) (k93 : Int32 → Int32 → Int64 → Int32 → Int64 → Int32 → Int32 → St → Rs) (y1 : Int32) (y2 : Int32) (y3 : Int64) (y5 : Int32) (y6 : Int64) (y8 : Int32) (y9 : Int32) (z0 : Int32) (σ : St) : Rs := f243_141 F k93 F y1 y2 y3 y5 y6 y8 y9 z0 0 σ
theorem s243_136 {sc : aSc} (hv : vOk sc) (F : Nat) (k93 : Int32 → Int32 → Int64 → Int32 → Int64 → Int32 → Int32 → St → Rs) (hk93 : ∀ y1 y2 y3 y5 y6 y8 y9 σ, bEx sc 6 243 93 [some (.ref 1315), some (.int y1), some (.int y2), some (.long y3), none, some (.int y5), some (.long y6), none, some (.int y8), some (.int y9), none, none, none] [] σ (k93 y1 y2 y3 y5 y6 y8 y9 σ)) (y1 : Int32) (y2 : Int32) (y3 : Int64) (y5 : Int32) (y6 : Int64) (y8 : Int32) (y9 : Int32) (z0 : Int32) (σ : St) : bEx sc 6 243 136 [some (.ref 1315), some (.int y1), some (.int y2), some (.long y3), none, some (.int y5), some (.long y6), none, some (.int y8), some (.int y9), none, none, none] [.int z0] σ (f243_136 F k93 y1 y2 y3 y5 y6 y8 y9 z0 σ) := by
  unfold f243_136
  refine b_run [(136, .istore 10, 0, 0, .null), (138, .iconst 0, 0, 0, .null), (139, .istore 11, 0, 0, .null)] (pc' := 141) (ls' := [some (.ref 1315), some (.int y1), some (.int y2), some (.long y3), none, some (.int y5), some (.long y6), none, some (.int y8), some (.int y9), some (.int z0), some (.int 0), none]) (st' := []) (by decide +kernel) rfl ?_
  exact b_wk (wS (wS (wS (wS (wN (wS (wS (wN (wS (wS (wS (wS (wN w0))))))))))))) (s243_141 hv F k93 hk93 F y1 y2 y3 y5 y6 y8 y9 z0 0 σ)
def f243_93 (F : Nat) : Nat → Int32 → Int32 → Int64 → Int32 → Int64 → Int32 → Int32 → St → Rs
  | 0, _, _, _, _, _, _, _, _ => none
  | n + 1, y1, y2, y3, y5, y6, y8, y9, σ => lt (σ.1 1315 3) fun c9 => 
    if y9 < c9 then 
    if y2 = 3 then 
    if lg_cmp ((y3 >>> ((y9 : Int32).toInt64 &&& 63)) &&& 1) 1 = 0 then f243_136 F (f243_93 F n) y1 y2 y3 y5 y6 y8 y9 1 σ
    else f243_136 F (f243_93 F n) y1 y2 y3 y5 y6 y8 y9 0 σ
    else if y9 = 0 then f243_136 F (f243_93 F n) y1 y2 y3 y5 y6 y8 y9 1 σ
    else f243_136 F (f243_93 F n) y1 y2 y3 y5 y6 y8 y9 0 σ
    else if y8 = 0 ∨ y8 = 1 then oI y8 σ else none
theorem s243_93 {sc : aSc} (hv : vOk sc) (F : Nat) : ∀ (n : Nat) (y1 : Int32) (y2 : Int32) (y3 : Int64) (y5 : Int32) (y6 : Int64) (y8 : Int32) (y9 : Int32) (σ : St), bEx sc 6 243 93 [some (.ref 1315), some (.int y1), some (.int y2), some (.long y3), none, some (.int y5), some (.long y6), none, some (.int y8), some (.int y9), none, none, none] [] σ (f243_93 F n y1 y2 y3 y5 y6 y8 y9 σ) := by
  intro n
  induction n with
  | zero => intro y1 y2 y3 y5 y6 y8 y9 σ; exact b_none
  | succ n ih =>
    intro y1 y2 y3 y5 y6 y8 y9 σ
    rw [f243_93.eq_2]
    refine b_run [(93, .iload 9, 0, 0, .null), (95, .aload_n 0, 0, 0, .null)] (pc' := 96) (ls' := [some (.ref 1315), some (.int y1), some (.int y2), some (.long y3), none, some (.int y5), some (.long y6), none, some (.int y8), some (.int y9), none, none, none]) (st' := [.ref 1315, .int y9]) (by decide +kernel) rfl ?_
    refine b_gI (q := 148) (ci := 9) (k := 3) (w := .null) (by decide +kernel) (by decide +kernel) (fun c9 => ?_)
    refine b_icF (c := .ge) (o := 179) (t := 278) (y := 0) (w := .null) (by decide +kernel) cmp_ge (fun _ => ?_) (fun _ => ?_)
    · refine b_run [(102, .iload_n 2, 0, 0, .null), (103, .iconst 3, 0, 0, .null)] (pc' := 104) (ls' := [some (.ref 1315), some (.int y1), some (.int y2), some (.long y3), none, some (.int y5), some (.long y6), none, some (.int y8), some (.int y9), none, none, none]) (st' := [.int 3, .int y2]) (by decide +kernel) rfl ?_
      refine b_icT (c := .eq) (o := 16) (t := 120) (y := 0) (w := .null) (by decide +kernel) cmp_eq (fun _ => ?_) (fun _ => ?_)
      · refine b_run [(120, .lload_n 3, 0, 0, .null), (121, .iload 9, 0, 0, .null), (123, .lshr, 0, 0, .null), (124, .lconst 1, 0, 0, .null), (125, .land, 0, 0, .null), (126, .lconst 1, 0, 0, .null), (127, .lcmp, 0, 0, .null)] (pc' := 128) (ls' := [some (.ref 1315), some (.int y1), some (.int y2), some (.long y3), none, some (.int y5), some (.long y6), none, some (.int y8), some (.int y9), none, none, none]) (st' := [.int (lg_cmp ((y3 >>> ((y9 : Int32).toInt64 &&& 63)) &&& 1) 1)]) (by decide +kernel) rfl ?_
        refine b_izF (c := .ne) (o := 7) (t := 135) (y := 0) (w := .null) (by decide +kernel) cmp_ne (fun _ => ?_) (fun _ => ?_)
        · refine b_run [(131, .iconst 1, 0, 0, .null), (132, .goto 4, 136, 0, .null)] (pc' := 136) (ls' := [some (.ref 1315), some (.int y1), some (.int y2), some (.long y3), none, some (.int y5), some (.long y6), none, some (.int y8), some (.int y9), none, none, none]) (st' := [.int 1]) (by decide +kernel) rfl ?_
          exact b_wk (wS (wS (wS (wS (wN (wS (wS (wN (wS (wS (wN (wN (wN w0))))))))))))) (s243_136 hv F (f243_93 F n) ih y1 y2 y3 y5 y6 y8 y9 1 σ)
        · refine b_run [(135, .iconst 0, 0, 0, .null)] (pc' := 136) (ls' := [some (.ref 1315), some (.int y1), some (.int y2), some (.long y3), none, some (.int y5), some (.long y6), none, some (.int y8), some (.int y9), none, none, none]) (st' := [.int 0]) (by decide +kernel) rfl ?_
          exact b_wk (wS (wS (wS (wS (wN (wS (wS (wN (wS (wS (wN (wN (wN w0))))))))))))) (s243_136 hv F (f243_93 F n) ih y1 y2 y3 y5 y6 y8 y9 0 σ)
      · refine b_run [(107, .iload 9, 0, 0, .null)] (pc' := 109) (ls' := [some (.ref 1315), some (.int y1), some (.int y2), some (.long y3), none, some (.int y5), some (.long y6), none, some (.int y8), some (.int y9), none, none, none]) (st' := [.int y9]) (by decide +kernel) rfl ?_
        refine b_izF (c := .ne) (o := 7) (t := 116) (y := 0) (w := .null) (by decide +kernel) cmp_ne (fun _ => ?_) (fun _ => ?_)
        · refine b_run [(112, .iconst 1, 0, 0, .null), (113, .goto 23, 136, 0, .null)] (pc' := 136) (ls' := [some (.ref 1315), some (.int y1), some (.int y2), some (.long y3), none, some (.int y5), some (.long y6), none, some (.int y8), some (.int y9), none, none, none]) (st' := [.int 1]) (by decide +kernel) rfl ?_
          exact b_wk (wS (wS (wS (wS (wN (wS (wS (wN (wS (wS (wN (wN (wN w0))))))))))))) (s243_136 hv F (f243_93 F n) ih y1 y2 y3 y5 y6 y8 y9 1 σ)
        · refine b_run [(116, .iconst 0, 0, 0, .null), (117, .goto 19, 136, 0, .null)] (pc' := 136) (ls' := [some (.ref 1315), some (.int y1), some (.int y2), some (.long y3), none, some (.int y5), some (.long y6), none, some (.int y8), some (.int y9), none, none, none]) (st' := [.int 0]) (by decide +kernel) rfl ?_
          exact b_wk (wS (wS (wS (wS (wN (wS (wS (wN (wS (wS (wN (wN (wN w0))))))))))))) (s243_136 hv F (f243_93 F n) ih y1 y2 y3 y5 y6 y8 y9 0 σ)
    · refine b_run [(278, .iload 8, 0, 0, .null)] (pc' := 280) (ls' := [some (.ref 1315), some (.int y1), some (.int y2), some (.long y3), none, some (.int y5), some (.long y6), none, some (.int y8), some (.int y9), none, none, none]) (st' := [.int y8]) (by decide +kernel) rfl ?_
      exact b_guard (fun hz => b_ret (i := (.ireturn, 0, 0, .null)) (by decide +kernel) rfl rfl (fit_Z hz))
def f243_87 (F : Nat) (y1 : Int32) (y2 : Int32) (y3 : Int64) (y5 : Int32) (y6 : Int64) (σ : St) : Rs := f243_93 F F y1 y2 y3 y5 y6 0 0 σ
theorem s243_87 {sc : aSc} (hv : vOk sc) (F : Nat) (y1 : Int32) (y2 : Int32) (y3 : Int64) (y5 : Int32) (y6 : Int64) (σ : St) : bEx sc 6 243 87 [some (.ref 1315), some (.int y1), some (.int y2), some (.long y3), none, some (.int y5), some (.long y6), none, none, none, none, none, none] [] σ (f243_87 F y1 y2 y3 y5 y6 σ) := by
  unfold f243_87
  refine b_run [(87, .iconst 0, 0, 0, .null), (88, .istore 8, 0, 0, .null), (90, .iconst 0, 0, 0, .null), (91, .istore 9, 0, 0, .null)] (pc' := 93) (ls' := [some (.ref 1315), some (.int y1), some (.int y2), some (.long y3), none, some (.int y5), some (.long y6), none, some (.int 0), some (.int 0), none, none, none]) (st' := []) (by decide +kernel) rfl ?_
  exact b_wk (wS (wS (wS (wS (wN (wS (wS (wN (wS (wS (wN (wN (wN w0))))))))))))) (s243_93 hv F F y1 y2 y3 y5 y6 0 0 σ)
def f243_64 (F : Nat) (y1 : Int32) (y2 : Int32) (y3 : Int64) (y5 : Int32) (y6 : Int64) (σ : St) : Rs := if y2 = 3 then f243_87 F y1 y2 y3 y5 y6 σ
    else if y5 = 3 then f243_87 F y1 y2 y3 y5 y6 σ
    else cI (f244 F y1 y2 y3 y5 y6 σ) fun c14 σ13 => if c14 = 0 ∨ c14 = 1 then oI c14 σ13 else none
theorem s243_64 {sc : aSc} (hv : vOk sc) (F : Nat) (y1 : Int32) (y2 : Int32) (y3 : Int64) (y5 : Int32) (y6 : Int64) (σ : St) : bEx sc 6 243 64 [some (.ref 1315), some (.int y1), some (.int y2), some (.long y3), none, some (.int y5), some (.long y6), none, none, none, none, none, none] [] σ (f243_64 F y1 y2 y3 y5 y6 σ) := by
  unfold f243_64
  refine b_run [(64, .iload_n 2, 0, 0, .null), (65, .iconst 3, 0, 0, .null)] (pc' := 66) (ls' := [some (.ref 1315), some (.int y1), some (.int y2), some (.long y3), none, some (.int y5), some (.long y6), none, none, none, none, none, none]) (st' := [.int 3, .int y2]) (by decide +kernel) rfl ?_
  refine b_icT (c := .eq) (o := 21) (t := 87) (y := 0) (w := .null) (by decide +kernel) cmp_eq (fun _ => ?_) (fun _ => ?_)
  · exact b_wk (wS (wS (wS (wS (wN (wS (wS (wN (wN (wN (wN (wN (wN w0))))))))))))) (s243_87 hv F y1 y2 y3 y5 y6 σ)
  · refine b_run [(69, .iload 5, 0, 0, .null), (71, .iconst 3, 0, 0, .null)] (pc' := 72) (ls' := [some (.ref 1315), some (.int y1), some (.int y2), some (.long y3), none, some (.int y5), some (.long y6), none, none, none, none, none, none]) (st' := [.int 3, .int y5]) (by decide +kernel) rfl ?_
    refine b_icT (c := .eq) (o := 15) (t := 87) (y := 0) (w := .null) (by decide +kernel) cmp_eq (fun _ => ?_) (fun _ => ?_)
    · exact b_wk (wS (wS (wS (wS (wN (wS (wS (wN (wN (wN (wN (wN (wN w0))))))))))))) (s243_87 hv F y1 y2 y3 y5 y6 σ)
    · refine b_run [(75, .aload_n 0, 0, 0, .null), (76, .iload_n 1, 0, 0, .null), (77, .iload_n 2, 0, 0, .null), (78, .lload_n 3, 0, 0, .null), (79, .iload 5, 0, 0, .null), (81, .lload 6, 0, 0, .null)] (pc' := 83) (ls' := [some (.ref 1315), some (.int y1), some (.int y2), some (.long y3), none, some (.int y5), some (.long y6), none, none, none, none, none, none]) (st' := [.long y6, .int y5, .long y3, .int y2, .int y1, .ref 1315]) (by decide +kernel) rfl ?_
      refine b_callI 244 6 [.ref 1315, .int y1, .int y2, .long y3, .int y5, .long y6] (rest := []) (by decide +kernel) rfl rfl rfl (go_O rfl (by decide +kernel) (by decide +kernel : isO 1315 9 = true)) rfl (s244 hv F y1 y2 y3 y5 y6 σ) (by decide) (fun c14 σ13 => ?_)
      exact b_guard (fun hz => b_ret (i := (.ireturn, 0, 0, .null)) (by decide +kernel) rfl rfl (fit_Z hz))
def f243_32 (F : Nat) (y1 : Int32) (y2 : Int32) (y3 : Int64) (y5 : Int32) (y6 : Int64) (σ : St) : Rs := if y2 = 2 then 
    if y5 = 3 then 
    if lg_cmp y6 0 = 0 then cI (f244 F y1 2 y3 2 0 σ) fun c6 σ5 => if c6 = 0 ∨ c6 = 1 then oI c6 σ5 else none
    else cI (f244 F y1 2 y3 2 1 σ) fun c8 σ7 => if c8 = 0 ∨ c8 = 1 then oI c8 σ7 else none
    else f243_64 F y1 y2 y3 y5 y6 σ
    else f243_64 F y1 y2 y3 y5 y6 σ
theorem s243_32 {sc : aSc} (hv : vOk sc) (F : Nat) (y1 : Int32) (y2 : Int32) (y3 : Int64) (y5 : Int32) (y6 : Int64) (σ : St) : bEx sc 6 243 32 [some (.ref 1315), some (.int y1), some (.int y2), some (.long y3), none, some (.int y5), some (.long y6), none, none, none, none, none, none] [] σ (f243_32 F y1 y2 y3 y5 y6 σ) := by
  unfold f243_32
  refine b_run [(32, .iload_n 2, 0, 0, .null), (33, .iconst 2, 0, 0, .null)] (pc' := 34) (ls' := [some (.ref 1315), some (.int y1), some (.int y2), some (.long y3), none, some (.int y5), some (.long y6), none, none, none, none, none, none]) (st' := [.int 2, .int y2]) (by decide +kernel) rfl ?_
  refine b_icF (c := .ne) (o := 30) (t := 64) (y := 0) (w := .null) (by decide +kernel) cmp_ne (fun _ => ?_) (fun _ => ?_)
  · refine b_run [(37, .iload 5, 0, 0, .null), (39, .iconst 3, 0, 0, .null)] (pc' := 40) (ls' := [some (.ref 1315), some (.int y1), some (.int y2), some (.long y3), none, some (.int y5), some (.long y6), none, none, none, none, none, none]) (st' := [.int 3, .int y5]) (by decide +kernel) rfl ?_
    refine b_icF (c := .ne) (o := 24) (t := 64) (y := 0) (w := .null) (by decide +kernel) cmp_ne (fun _ => ?_) (fun _ => ?_)
    · refine b_run [(43, .aload_n 0, 0, 0, .null), (44, .iload_n 1, 0, 0, .null), (45, .iconst 2, 0, 0, .null), (46, .lload_n 3, 0, 0, .null), (47, .iconst 2, 0, 0, .null), (48, .lload 6, 0, 0, .null), (50, .lconst 0, 0, 0, .null), (51, .lcmp, 0, 0, .null)] (pc' := 52) (ls' := [some (.ref 1315), some (.int y1), some (.int y2), some (.long y3), none, some (.int y5), some (.long y6), none, none, none, none, none, none]) (st' := [.int (lg_cmp y6 0), .int 2, .long y3, .int 2, .int y1, .ref 1315]) (by decide +kernel) rfl ?_
      refine b_izT (c := .eq) (o := 7) (t := 59) (y := 0) (w := .null) (by decide +kernel) cmp_eq (fun _ => ?_) (fun _ => ?_)
      · refine b_run [(59, .lconst 0, 0, 0, .null)] (pc' := 60) (ls' := [some (.ref 1315), some (.int y1), some (.int y2), some (.long y3), none, some (.int y5), some (.long y6), none, none, none, none, none, none]) (st' := [.long 0, .int 2, .long y3, .int 2, .int y1, .ref 1315]) (by decide +kernel) rfl ?_
        refine b_callI 244 6 [.ref 1315, .int y1, .int 2, .long y3, .int 2, .long 0] (rest := []) (by decide +kernel) rfl rfl rfl (go_O rfl (by decide +kernel) (by decide +kernel : isO 1315 9 = true)) rfl (s244 hv F y1 2 y3 2 0 σ) (by decide) (fun c6 σ5 => ?_)
        exact b_guard (fun hz => b_ret (i := (.ireturn, 0, 0, .null)) (by decide +kernel) rfl rfl (fit_Z hz))
      · refine b_run [(55, .lconst 1, 0, 0, .null), (56, .goto 4, 60, 0, .null)] (pc' := 60) (ls' := [some (.ref 1315), some (.int y1), some (.int y2), some (.long y3), none, some (.int y5), some (.long y6), none, none, none, none, none, none]) (st' := [.long 1, .int 2, .long y3, .int 2, .int y1, .ref 1315]) (by decide +kernel) rfl ?_
        refine b_callI 244 6 [.ref 1315, .int y1, .int 2, .long y3, .int 2, .long 1] (rest := []) (by decide +kernel) rfl rfl rfl (go_O rfl (by decide +kernel) (by decide +kernel : isO 1315 9 = true)) rfl (s244 hv F y1 2 y3 2 1 σ) (by decide) (fun c8 σ7 => ?_)
        exact b_guard (fun hz => b_ret (i := (.ireturn, 0, 0, .null)) (by decide +kernel) rfl rfl (fit_Z hz))
    · exact b_wk (wS (wS (wS (wS (wN (wS (wS (wN (wN (wN (wN (wN (wN w0))))))))))))) (s243_64 hv F y1 y2 y3 y5 y6 σ)
  · exact b_wk (wS (wS (wS (wS (wN (wS (wS (wN (wN (wN (wN (wN (wN w0))))))))))))) (s243_64 hv F y1 y2 y3 y5 y6 σ)
/-- TreeStoreModel.comparison(IIJIJ)Z -/
def f243 (F : Nat) (x1 : Int32) (x2 : Int32) (x3 : Int64) (x5 : Int32) (x6 : Int64) (σ : St) : Rs := if x2 = 3 then 
    if x5 = 2 then 
    if lg_cmp x3 0 = 0 then cI (f244 F x1 2 0 2 x6 σ) fun c2 σ1 => if c2 = 0 ∨ c2 = 1 then oI c2 σ1 else none
    else cI (f244 F x1 2 1 2 x6 σ) fun c4 σ3 => if c4 = 0 ∨ c4 = 1 then oI c4 σ3 else none
    else f243_32 F x1 x2 x3 x5 x6 σ
    else f243_32 F x1 x2 x3 x5 x6 σ
theorem s243 {sc : aSc} (hv : vOk sc) (F : Nat) (x1 : Int32) (x2 : Int32) (x3 : Int64) (x5 : Int32) (x6 : Int64) (σ : St) : bEx sc 6 243 0 [some (.ref 1315), some (.int x1), some (.int x2), some (.long x3), none, some (.int x5), some (.long x6), none, none, none, none, none, none] [] σ (f243 F x1 x2 x3 x5 x6 σ) := by
  unfold f243
  refine b_run [(0, .iload_n 2, 0, 0, .null), (1, .iconst 3, 0, 0, .null)] (pc' := 2) (ls' := [some (.ref 1315), some (.int x1), some (.int x2), some (.long x3), none, some (.int x5), some (.long x6), none, none, none, none, none, none]) (st' := [.int 3, .int x2]) (by decide +kernel) rfl ?_
  refine b_icF (c := .ne) (o := 30) (t := 32) (y := 0) (w := .null) (by decide +kernel) cmp_ne (fun _ => ?_) (fun _ => ?_)
  · refine b_run [(5, .iload 5, 0, 0, .null), (7, .iconst 2, 0, 0, .null)] (pc' := 8) (ls' := [some (.ref 1315), some (.int x1), some (.int x2), some (.long x3), none, some (.int x5), some (.long x6), none, none, none, none, none, none]) (st' := [.int 2, .int x5]) (by decide +kernel) rfl ?_
    refine b_icF (c := .ne) (o := 24) (t := 32) (y := 0) (w := .null) (by decide +kernel) cmp_ne (fun _ => ?_) (fun _ => ?_)
    · refine b_run [(11, .aload_n 0, 0, 0, .null), (12, .iload_n 1, 0, 0, .null), (13, .iconst 2, 0, 0, .null), (14, .lload_n 3, 0, 0, .null), (15, .lconst 0, 0, 0, .null), (16, .lcmp, 0, 0, .null)] (pc' := 17) (ls' := [some (.ref 1315), some (.int x1), some (.int x2), some (.long x3), none, some (.int x5), some (.long x6), none, none, none, none, none, none]) (st' := [.int (lg_cmp x3 0), .int 2, .int x1, .ref 1315]) (by decide +kernel) rfl ?_
      refine b_izT (c := .eq) (o := 7) (t := 24) (y := 0) (w := .null) (by decide +kernel) cmp_eq (fun _ => ?_) (fun _ => ?_)
      · refine b_run [(24, .lconst 0, 0, 0, .null), (25, .iconst 2, 0, 0, .null), (26, .lload 6, 0, 0, .null)] (pc' := 28) (ls' := [some (.ref 1315), some (.int x1), some (.int x2), some (.long x3), none, some (.int x5), some (.long x6), none, none, none, none, none, none]) (st' := [.long x6, .int 2, .long 0, .int 2, .int x1, .ref 1315]) (by decide +kernel) rfl ?_
        refine b_callI 244 6 [.ref 1315, .int x1, .int 2, .long 0, .int 2, .long x6] (rest := []) (by decide +kernel) rfl rfl rfl (go_O rfl (by decide +kernel) (by decide +kernel : isO 1315 9 = true)) rfl (s244 hv F x1 2 0 2 x6 σ) (by decide) (fun c2 σ1 => ?_)
        exact b_guard (fun hz => b_ret (i := (.ireturn, 0, 0, .null)) (by decide +kernel) rfl rfl (fit_Z hz))
      · refine b_run [(20, .lconst 1, 0, 0, .null), (21, .goto 4, 25, 0, .null), (25, .iconst 2, 0, 0, .null), (26, .lload 6, 0, 0, .null)] (pc' := 28) (ls' := [some (.ref 1315), some (.int x1), some (.int x2), some (.long x3), none, some (.int x5), some (.long x6), none, none, none, none, none, none]) (st' := [.long x6, .int 2, .long 1, .int 2, .int x1, .ref 1315]) (by decide +kernel) rfl ?_
        refine b_callI 244 6 [.ref 1315, .int x1, .int 2, .long 1, .int 2, .long x6] (rest := []) (by decide +kernel) rfl rfl rfl (go_O rfl (by decide +kernel) (by decide +kernel : isO 1315 9 = true)) rfl (s244 hv F x1 2 1 2 x6 σ) (by decide) (fun c4 σ3 => ?_)
        exact b_guard (fun hz => b_ret (i := (.ireturn, 0, 0, .null)) (by decide +kernel) rfl rfl (fit_Z hz))
    · exact b_wk (wS (wS (wS (wS (wN (wS (wS (wN (wN (wN (wN (wN (wN w0))))))))))))) (s243_32 hv F x1 x2 x3 x5 x6 σ)
  · exact b_wk (wS (wS (wS (wS (wN (wS (wS (wN (wN (wN (wN (wN (wN w0))))))))))))) (s243_32 hv F x1 x2 x3 x5 x6 σ)
def f239_68 (F : Nat) (y1 : Int32) (y2 : Int32) (y3 : Int64) (y5 : Int32) (y6 : Int64) (σ : St) : Rs := cJ (f240 F y2 y3 σ) fun c12 σ11 => 
    cJ (f240 F y5 y6 σ11) fun c14 σ13 => 
    if lg_cmp c12 ((-1000000000000000)) = 0 then cV (f236 F 0 ((-1000000000000000)) σ13) fun σ15 => oV σ15
    else if lg_cmp c14 ((-1000000000000000)) = 0 then cV (f236 F 0 ((-1000000000000000)) σ13) fun σ17 => oV σ17
    else if y1 = 7 then cV (f236 F 0 (c12 + c14) σ13) fun σ19 => oV σ19
    else cV (f236 F 0 (c12 - c14) σ13) fun σ21 => oV σ21
theorem s239_68 {sc : aSc} (hv : vOk sc) (F : Nat) (y1 : Int32) (y2 : Int32) (y3 : Int64) (y5 : Int32) (y6 : Int64) (σ : St) : bEx sc 7 239 68 [some (.ref 1315), some (.int y1), some (.int y2), some (.long y3), none, some (.int y5), some (.long y6), none, none, none, none, none] [] σ (f239_68 F y1 y2 y3 y5 y6 σ) := by
  unfold f239_68
  refine b_run [(68, .aload_n 0, 0, 0, .null), (69, .iload_n 2, 0, 0, .null), (70, .lload_n 3, 0, 0, .null)] (pc' := 71) (ls' := [some (.ref 1315), some (.int y1), some (.int y2), some (.long y3), none, some (.int y5), some (.long y6), none, none, none, none, none]) (st' := [.long y3, .int y2, .ref 1315]) (by decide +kernel) rfl ?_
  refine b_callJ 240 3 [.ref 1315, .int y2, .long y3] (rest := []) (by decide +kernel) rfl rfl rfl (go_O rfl (by decide +kernel) (by decide +kernel : isO 1315 9 = true)) rfl (s240 hv F y2 y3 σ) (by decide) (fun c12 σ11 => ?_)
  refine b_run [(74, .lstore 8, 0, 0, .null), (76, .aload_n 0, 0, 0, .null), (77, .iload 5, 0, 0, .null), (79, .lload 6, 0, 0, .null)] (pc' := 81) (ls' := [some (.ref 1315), some (.int y1), some (.int y2), some (.long y3), none, some (.int y5), some (.long y6), none, some (.long c12), none, none, none]) (st' := [.long y6, .int y5, .ref 1315]) (by decide +kernel) rfl ?_
  refine b_callJ 240 3 [.ref 1315, .int y5, .long y6] (rest := []) (by decide +kernel) rfl rfl rfl (go_O rfl (by decide +kernel) (by decide +kernel : isO 1315 9 = true)) rfl (s240 hv F y5 y6 σ11) (by decide) (fun c14 σ13 => ?_)
  refine b_run [(84, .lstore 10, 0, 0, .null), (86, .aload_n 0, 0, 0, .null), (87, .iconst 0, 0, 0, .null), (88, .lload 8, 0, 0, .null), (90, .ldc2_w 511, 0, 0, .long (-1000000000000000)), (93, .lcmp, 0, 0, .null)] (pc' := 94) (ls' := [some (.ref 1315), some (.int y1), some (.int y2), some (.long y3), none, some (.int y5), some (.long y6), none, some (.long c12), none, some (.long c14), none]) (st' := [.int (lg_cmp c12 ((-1000000000000000))), .int 0, .ref 1315]) (by decide +kernel) rfl ?_
  refine b_izT (c := .eq) (o := 12) (t := 106) (y := 0) (w := .null) (by decide +kernel) cmp_eq (fun _ => ?_) (fun _ => ?_)
  · refine b_run [(106, .ldc2_w 511, 0, 0, .long (-1000000000000000)), (109, .goto 22, 131, 0, .null)] (pc' := 131) (ls' := [some (.ref 1315), some (.int y1), some (.int y2), some (.long y3), none, some (.int y5), some (.long y6), none, some (.long c12), none, some (.long c14), none]) (st' := [.long ((-1000000000000000)), .int 0, .ref 1315]) (by decide +kernel) rfl ?_
    refine b_callV 236 3 [.ref 1315, .int 0, .long ((-1000000000000000))] (rest := []) (by decide +kernel) rfl rfl rfl (go_O rfl (by decide +kernel) (by decide +kernel : isO 1315 9 = true)) rfl (s236 hv F 0 ((-1000000000000000)) σ13) (by decide) (fun σ15 => ?_)
    refine b_run [(134, .goto 31, 165, 0, .null)] (pc' := 165) (ls' := [some (.ref 1315), some (.int y1), some (.int y2), some (.long y3), none, some (.int y5), some (.long y6), none, some (.long c12), none, some (.long c14), none]) (st' := []) (by decide +kernel) rfl ?_
    exact b_ret0 (i := (.return_, 0, 0, .null)) (by decide +kernel) rfl rfl
  · refine b_run [(97, .lload 10, 0, 0, .null), (99, .ldc2_w 511, 0, 0, .long (-1000000000000000)), (102, .lcmp, 0, 0, .null)] (pc' := 103) (ls' := [some (.ref 1315), some (.int y1), some (.int y2), some (.long y3), none, some (.int y5), some (.long y6), none, some (.long c12), none, some (.long c14), none]) (st' := [.int (lg_cmp c14 ((-1000000000000000))), .int 0, .ref 1315]) (by decide +kernel) rfl ?_
    refine b_izF (c := .ne) (o := 9) (t := 112) (y := 0) (w := .null) (by decide +kernel) cmp_ne (fun _ => ?_) (fun _ => ?_)
    · refine b_run [(106, .ldc2_w 511, 0, 0, .long (-1000000000000000)), (109, .goto 22, 131, 0, .null)] (pc' := 131) (ls' := [some (.ref 1315), some (.int y1), some (.int y2), some (.long y3), none, some (.int y5), some (.long y6), none, some (.long c12), none, some (.long c14), none]) (st' := [.long ((-1000000000000000)), .int 0, .ref 1315]) (by decide +kernel) rfl ?_
      refine b_callV 236 3 [.ref 1315, .int 0, .long ((-1000000000000000))] (rest := []) (by decide +kernel) rfl rfl rfl (go_O rfl (by decide +kernel) (by decide +kernel : isO 1315 9 = true)) rfl (s236 hv F 0 ((-1000000000000000)) σ13) (by decide) (fun σ17 => ?_)
      refine b_run [(134, .goto 31, 165, 0, .null)] (pc' := 165) (ls' := [some (.ref 1315), some (.int y1), some (.int y2), some (.long y3), none, some (.int y5), some (.long y6), none, some (.long c12), none, some (.long c14), none]) (st' := []) (by decide +kernel) rfl ?_
      exact b_ret0 (i := (.return_, 0, 0, .null)) (by decide +kernel) rfl rfl
    · refine b_run [(112, .iload_n 1, 0, 0, .null), (113, .bipush 7, 0, 0, .null)] (pc' := 115) (ls' := [some (.ref 1315), some (.int y1), some (.int y2), some (.long y3), none, some (.int y5), some (.long y6), none, some (.long c12), none, some (.long c14), none]) (st' := [.int 7, .int y1, .int 0, .ref 1315]) (by decide +kernel) rfl ?_
      refine b_icF (c := .ne) (o := 11) (t := 126) (y := 0) (w := .null) (by decide +kernel) cmp_ne (fun _ => ?_) (fun _ => ?_)
      · refine b_run [(118, .lload 8, 0, 0, .null), (120, .lload 10, 0, 0, .null), (122, .ladd, 0, 0, .null), (123, .goto 8, 131, 0, .null)] (pc' := 131) (ls' := [some (.ref 1315), some (.int y1), some (.int y2), some (.long y3), none, some (.int y5), some (.long y6), none, some (.long c12), none, some (.long c14), none]) (st' := [.long (c12 + c14), .int 0, .ref 1315]) (by decide +kernel) rfl ?_
        refine b_callV 236 3 [.ref 1315, .int 0, .long (c12 + c14)] (rest := []) (by decide +kernel) rfl rfl rfl (go_O rfl (by decide +kernel) (by decide +kernel : isO 1315 9 = true)) rfl (s236 hv F 0 (c12 + c14) σ13) (by decide) (fun σ19 => ?_)
        refine b_run [(134, .goto 31, 165, 0, .null)] (pc' := 165) (ls' := [some (.ref 1315), some (.int y1), some (.int y2), some (.long y3), none, some (.int y5), some (.long y6), none, some (.long c12), none, some (.long c14), none]) (st' := []) (by decide +kernel) rfl ?_
        exact b_ret0 (i := (.return_, 0, 0, .null)) (by decide +kernel) rfl rfl
      · refine b_run [(126, .lload 8, 0, 0, .null), (128, .lload 10, 0, 0, .null), (130, .lsub, 0, 0, .null)] (pc' := 131) (ls' := [some (.ref 1315), some (.int y1), some (.int y2), some (.long y3), none, some (.int y5), some (.long y6), none, some (.long c12), none, some (.long c14), none]) (st' := [.long (c12 - c14), .int 0, .ref 1315]) (by decide +kernel) rfl ?_
        refine b_callV 236 3 [.ref 1315, .int 0, .long (c12 - c14)] (rest := []) (by decide +kernel) rfl rfl rfl (go_O rfl (by decide +kernel) (by decide +kernel : isO 1315 9 = true)) rfl (s236 hv F 0 (c12 - c14) σ13) (by decide) (fun σ21 => ?_)
        refine b_run [(134, .goto 31, 165, 0, .null)] (pc' := 165) (ls' := [some (.ref 1315), some (.int y1), some (.int y2), some (.long y3), none, some (.int y5), some (.long y6), none, some (.long c12), none, some (.long c14), none]) (st' := []) (by decide +kernel) rfl ?_
        exact b_ret0 (i := (.return_, 0, 0, .null)) (by decide +kernel) rfl rfl
/-- TreeStoreModel.two(I)V -/
def f239 (F : Nat) (x1 : Int32) (σ : St) : Rs := lt (σ.1 1315 59) fun c1 => 
    lt (uI σ 1315 59 (c1 - 2)) fun σ2 => 
    lt (σ2.1 1315 59) fun c3 => 
    if inB c3 130 then lt (σ2.1 1359 c3.toNatClampNeg) fun c4 => 
    lt (σ2.1 1315 59) fun c5 => 
    if inB c5 130 then lt (σ2.2.1 1360 c5.toNatClampNeg) fun c6 => 
    lt (σ2.1 1315 59) fun c7 => 
    if inB (c7 + 1) 130 then lt (σ2.1 1359 (c7 + 1).toNatClampNeg) fun c8 => 
    lt (σ2.1 1315 59) fun c9 => 
    if inB (c9 + 1) 130 then lt (σ2.2.1 1360 (c9 + 1).toNatClampNeg) fun c10 => 
    if x1 = 7 then f239_68 F x1 c4 c6 c8 c10 σ2
    else if x1 = 8 then f239_68 F x1 c4 c6 c8 c10 σ2
    else cI (f243 F x1 c4 c6 c8 c10 σ2) fun c24 σ23 => 
    if c24 = 0 then cV (f236 F 2 0 σ23) fun σ25 => oV σ25
    else cV (f236 F 2 1 σ23) fun σ27 => oV σ27 else none else none else none else none
theorem s239 {sc : aSc} (hv : vOk sc) (F : Nat) (x1 : Int32) (σ : St) : bEx sc 7 239 0 [some (.ref 1315), some (.int x1), none, none, none, none, none, none, none, none, none, none] [] σ (f239 F x1 σ) := by
  unfold f239
  refine b_run [(0, .aload_n 0, 0, 0, .null), (1, .dup, 0, 0, .null)] (pc' := 2) (ls' := [some (.ref 1315), some (.int x1), none, none, none, none, none, none, none, none, none, none]) (st' := [.ref 1315, .ref 1315]) (by decide +kernel) rfl ?_
  refine b_gI (q := 500) (ci := 9) (k := 59) (w := .null) (by decide +kernel) (by decide +kernel) (fun c1 => ?_)
  refine b_run [(5, .iconst 2, 0, 0, .null), (6, .isub, 0, 0, .null)] (pc' := 7) (ls' := [some (.ref 1315), some (.int x1), none, none, none, none, none, none, none, none, none, none]) (st' := [.int (c1 - 2), .ref 1315]) (by decide +kernel) rfl ?_
  refine b_pI (q := 500) (ci := 9) (k := 59) (w := .null) (by decide +kernel) (by decide +kernel) (fit_I _) (fun σ2 => ?_)
  refine b_run [(10, .aload_n 0, 0, 0, .null)] (pc' := 11) (ls' := [some (.ref 1315), some (.int x1), none, none, none, none, none, none, none, none, none, none]) (st' := [.ref 1315]) (by decide +kernel) rfl ?_
  refine b_getC (b := 1359) (q := 141) (ci := 9) (k := 60) (w := .null) (by decide +kernel) (by decide +kernel) ?_
  refine b_run [(14, .aload_n 0, 0, 0, .null)] (pc' := 15) (ls' := [some (.ref 1315), some (.int x1), none, none, none, none, none, none, none, none, none, none]) (st' := [.ref 1315, .ref 1359]) (by decide +kernel) rfl ?_
  refine b_gI (q := 500) (ci := 9) (k := 59) (w := .null) (by decide +kernel) (by decide +kernel) (fun c3 => ?_)
  refine b_guard (fun hb => ?_)
  refine b_aI (ci := 0) (y := 0) (w := .null) (by decide +kernel) (by decide +kernel) hb (fun c4 => ?_)
  refine b_run [(19, .istore_n 2, 0, 0, .null), (20, .aload_n 0, 0, 0, .null)] (pc' := 21) (ls' := [some (.ref 1315), some (.int x1), some (.int c4), none, none, none, none, none, none, none, none, none]) (st' := [.ref 1315]) (by decide +kernel) rfl ?_
  refine b_getC (b := 1360) (q := 144) (ci := 9) (k := 61) (w := .null) (by decide +kernel) (by decide +kernel) ?_
  refine b_run [(24, .aload_n 0, 0, 0, .null)] (pc' := 25) (ls' := [some (.ref 1315), some (.int x1), some (.int c4), none, none, none, none, none, none, none, none, none]) (st' := [.ref 1315, .ref 1360]) (by decide +kernel) rfl ?_
  refine b_gI (q := 500) (ci := 9) (k := 59) (w := .null) (by decide +kernel) (by decide +kernel) (fun c5 => ?_)
  refine b_guard (fun hb => ?_)
  refine b_aL (ci := 0) (y := 0) (w := .null) (by decide +kernel) (by decide +kernel) hb (fun c6 => ?_)
  refine b_run [(29, .lstore_n 3, 0, 0, .null), (30, .aload_n 0, 0, 0, .null)] (pc' := 31) (ls' := [some (.ref 1315), some (.int x1), some (.int c4), some (.long c6), none, none, none, none, none, none, none, none]) (st' := [.ref 1315]) (by decide +kernel) rfl ?_
  refine b_getC (b := 1359) (q := 141) (ci := 9) (k := 60) (w := .null) (by decide +kernel) (by decide +kernel) ?_
  refine b_run [(34, .aload_n 0, 0, 0, .null)] (pc' := 35) (ls' := [some (.ref 1315), some (.int x1), some (.int c4), some (.long c6), none, none, none, none, none, none, none, none]) (st' := [.ref 1315, .ref 1359]) (by decide +kernel) rfl ?_
  refine b_gI (q := 500) (ci := 9) (k := 59) (w := .null) (by decide +kernel) (by decide +kernel) (fun c7 => ?_)
  refine b_run [(38, .iconst 1, 0, 0, .null), (39, .iadd, 0, 0, .null)] (pc' := 40) (ls' := [some (.ref 1315), some (.int x1), some (.int c4), some (.long c6), none, none, none, none, none, none, none, none]) (st' := [.int (c7 + 1), .ref 1359]) (by decide +kernel) rfl ?_
  refine b_guard (fun hb => ?_)
  refine b_aI (ci := 0) (y := 0) (w := .null) (by decide +kernel) (by decide +kernel) hb (fun c8 => ?_)
  refine b_run [(41, .istore 5, 0, 0, .null), (43, .aload_n 0, 0, 0, .null)] (pc' := 44) (ls' := [some (.ref 1315), some (.int x1), some (.int c4), some (.long c6), none, some (.int c8), none, none, none, none, none, none]) (st' := [.ref 1315]) (by decide +kernel) rfl ?_
  refine b_getC (b := 1360) (q := 144) (ci := 9) (k := 61) (w := .null) (by decide +kernel) (by decide +kernel) ?_
  refine b_run [(47, .aload_n 0, 0, 0, .null)] (pc' := 48) (ls' := [some (.ref 1315), some (.int x1), some (.int c4), some (.long c6), none, some (.int c8), none, none, none, none, none, none]) (st' := [.ref 1315, .ref 1360]) (by decide +kernel) rfl ?_
  refine b_gI (q := 500) (ci := 9) (k := 59) (w := .null) (by decide +kernel) (by decide +kernel) (fun c9 => ?_)
  refine b_run [(51, .iconst 1, 0, 0, .null), (52, .iadd, 0, 0, .null)] (pc' := 53) (ls' := [some (.ref 1315), some (.int x1), some (.int c4), some (.long c6), none, some (.int c8), none, none, none, none, none, none]) (st' := [.int (c9 + 1), .ref 1360]) (by decide +kernel) rfl ?_
  refine b_guard (fun hb => ?_)
  refine b_aL (ci := 0) (y := 0) (w := .null) (by decide +kernel) (by decide +kernel) hb (fun c10 => ?_)
  refine b_run [(54, .lstore 6, 0, 0, .null), (56, .iload_n 1, 0, 0, .null), (57, .bipush 7, 0, 0, .null)] (pc' := 59) (ls' := [some (.ref 1315), some (.int x1), some (.int c4), some (.long c6), none, some (.int c8), some (.long c10), none, none, none, none, none]) (st' := [.int 7, .int x1]) (by decide +kernel) rfl ?_
  refine b_icT (c := .eq) (o := 9) (t := 68) (y := 0) (w := .null) (by decide +kernel) cmp_eq (fun _ => ?_) (fun _ => ?_)
  · exact b_wk (wS (wS (wS (wS (wN (wS (wS (wN (wN (wN (wN (wN w0)))))))))))) (s239_68 hv F x1 c4 c6 c8 c10 σ2)
  · refine b_run [(62, .iload_n 1, 0, 0, .null), (63, .bipush 8, 0, 0, .null)] (pc' := 65) (ls' := [some (.ref 1315), some (.int x1), some (.int c4), some (.long c6), none, some (.int c8), some (.long c10), none, none, none, none, none]) (st' := [.int 8, .int x1]) (by decide +kernel) rfl ?_
    refine b_icF (c := .ne) (o := 72) (t := 137) (y := 0) (w := .null) (by decide +kernel) cmp_ne (fun _ => ?_) (fun _ => ?_)
    · exact b_wk (wS (wS (wS (wS (wN (wS (wS (wN (wN (wN (wN (wN w0)))))))))))) (s239_68 hv F x1 c4 c6 c8 c10 σ2)
    · refine b_run [(137, .aload_n 0, 0, 0, .null), (138, .iload_n 1, 0, 0, .null), (139, .iload_n 2, 0, 0, .null), (140, .lload_n 3, 0, 0, .null), (141, .iload 5, 0, 0, .null), (143, .lload 6, 0, 0, .null)] (pc' := 145) (ls' := [some (.ref 1315), some (.int x1), some (.int c4), some (.long c6), none, some (.int c8), some (.long c10), none, none, none, none, none]) (st' := [.long c10, .int c8, .long c6, .int c4, .int x1, .ref 1315]) (by decide +kernel) rfl ?_
      refine b_callI 243 6 [.ref 1315, .int x1, .int c4, .long c6, .int c8, .long c10] (rest := []) (by decide +kernel) rfl rfl rfl (go_O rfl (by decide +kernel) (by decide +kernel : isO 1315 9 = true)) rfl (s243 hv F x1 c4 c6 c8 c10 σ2) (by decide) (fun c24 σ23 => ?_)
      refine b_run [(148, .istore 8, 0, 0, .null), (150, .aload_n 0, 0, 0, .null), (151, .iconst 2, 0, 0, .null), (152, .iload 8, 0, 0, .null)] (pc' := 154) (ls' := [some (.ref 1315), some (.int x1), some (.int c4), some (.long c6), none, some (.int c8), some (.long c10), none, some (.int c24), none, none, none]) (st' := [.int c24, .int 2, .ref 1315]) (by decide +kernel) rfl ?_
      refine b_izT (c := .eq) (o := 7) (t := 161) (y := 0) (w := .null) (by decide +kernel) cmp_eq (fun _ => ?_) (fun _ => ?_)
      · refine b_run [(161, .lconst 0, 0, 0, .null)] (pc' := 162) (ls' := [some (.ref 1315), some (.int x1), some (.int c4), some (.long c6), none, some (.int c8), some (.long c10), none, some (.int c24), none, none, none]) (st' := [.long 0, .int 2, .ref 1315]) (by decide +kernel) rfl ?_
        refine b_callV 236 3 [.ref 1315, .int 2, .long 0] (rest := []) (by decide +kernel) rfl rfl rfl (go_O rfl (by decide +kernel) (by decide +kernel : isO 1315 9 = true)) rfl (s236 hv F 2 0 σ23) (by decide) (fun σ25 => ?_)
        exact b_ret0 (i := (.return_, 0, 0, .null)) (by decide +kernel) rfl rfl
      · refine b_run [(157, .lconst 1, 0, 0, .null), (158, .goto 4, 162, 0, .null)] (pc' := 162) (ls' := [some (.ref 1315), some (.int x1), some (.int c4), some (.long c6), none, some (.int c8), some (.long c10), none, some (.int c24), none, none, none]) (st' := [.long 1, .int 2, .ref 1315]) (by decide +kernel) rfl ?_
        refine b_callV 236 3 [.ref 1315, .int 2, .long 1] (rest := []) (by decide +kernel) rfl rfl rfl (go_O rfl (by decide +kernel) (by decide +kernel : isO 1315 9 = true)) rfl (s236 hv F 2 1 σ23) (by decide) (fun σ27 => ?_)
        exact b_ret0 (i := (.return_, 0, 0, .null)) (by decide +kernel) rfl rfl
def f235_245 (F : Nat) (k8 : Int32 → Int32 → Int32 → Int32 → Int32 → St → Rs) (y1 : Int32) (y2 : Int32) (y3 : Int32) (y4 : Int32) (y5 : Int32) (σ : St) : Rs := k8 y1 y2 y3 y4 (y5 + 1) σ
theorem s235_245 {sc : aSc} (hv : vOk sc) (F : Nat) (k8 : Int32 → Int32 → Int32 → Int32 → Int32 → St → Rs) (hk8 : ∀ y1 y2 y3 y4 y5 σ, bEx sc 8 235 8 [some (.ref 1315), some (.int y1), some (.int y2), some (.int y3), some (.int y4), some (.int y5), none, none] [] σ (k8 y1 y2 y3 y4 y5 σ)) (y1 : Int32) (y2 : Int32) (y3 : Int32) (y4 : Int32) (y5 : Int32) (σ : St) : bEx sc 8 235 245 [some (.ref 1315), some (.int y1), some (.int y2), some (.int y3), some (.int y4), some (.int y5), none, none] [] σ (f235_245 F k8 y1 y2 y3 y4 y5 σ) := by
  unfold f235_245
  refine b_run [(245, .iinc 5 1, 0, 0, .null), (248, .goto (-240), 8, 0, .null)] (pc' := 8) (ls' := [some (.ref 1315), some (.int y1), some (.int y2), some (.int y3), some (.int y4), some (.int (y5 + 1)), none, none]) (st' := []) (by decide +kernel) rfl ?_
  exact b_wk (wS (wS (wS (wS (wS (wS (wN (wN w0)))))))) (hk8 y1 y2 y3 y4 (y5 + 1) σ)
def f235_107 (F : Nat) (k8 : Int32 → Int32 → Int32 → Int32 → Int32 → St → Rs) (y1 : Int32) (y2 : Int32) (y3 : Int32) (y4 : Int32) (y5 : Int32) (z1 : Int32) (z2 : Int64) (σ : St) : Rs := cV (f236 F z1 z2 σ) fun σ10 => f235_245 F k8 y1 y2 y3 y4 y5 σ10
theorem s235_107 {sc : aSc} (hv : vOk sc) (F : Nat) (k8 : Int32 → Int32 → Int32 → Int32 → Int32 → St → Rs) (hk8 : ∀ y1 y2 y3 y4 y5 σ, bEx sc 8 235 8 [some (.ref 1315), some (.int y1), some (.int y2), some (.int y3), some (.int y4), some (.int y5), none, none] [] σ (k8 y1 y2 y3 y4 y5 σ)) (y1 : Int32) (y2 : Int32) (y3 : Int32) (y4 : Int32) (y5 : Int32) (z1 : Int32) (z2 : Int64) (σ : St) : bEx sc 8 235 107 [some (.ref 1315), some (.int y1), some (.int y2), some (.int y3), some (.int y4), some (.int y5), none, none] [.long z2, .int z1, .ref 1315] σ (f235_107 F k8 y1 y2 y3 y4 y5 z1 z2 σ) := by
  unfold f235_107
  refine b_callV 236 3 [.ref 1315, .int z1, .long z2] (rest := []) (by decide +kernel) rfl rfl rfl (go_O rfl (by decide +kernel) (by decide +kernel : isO 1315 9 = true)) rfl (s236 hv F z1 z2 σ) (by decide) (fun σ10 => ?_)
  refine b_run [(110, .goto 135, 245, 0, .null)] (pc' := 245) (ls' := [some (.ref 1315), some (.int y1), some (.int y2), some (.int y3), some (.int y4), some (.int y5), none, none]) (st' := []) (by decide +kernel) rfl ?_
  exact b_wk (wS (wS (wS (wS (wS (wS (wN (wN w0)))))))) (s235_245 hv F k8 hk8 y1 y2 y3 y4 y5 σ10)
def f235_91 (F : Nat) (k8 : Int32 → Int32 → Int32 → Int32 → Int32 → St → Rs) (y1 : Int32) (y2 : Int32) (y3 : Int32) (y4 : Int32) (y5 : Int32) (y6 : Int32) (σ : St) : Rs := if y6 = 2 then f235_107 F k8 y1 y2 y3 y4 y5 0 ((y3 : Int32).toInt64) σ
    else f235_107 F k8 y1 y2 y3 y4 y5 0 ((y4 : Int32).toInt64) σ
theorem s235_91 {sc : aSc} (hv : vOk sc) (F : Nat) (k8 : Int32 → Int32 → Int32 → Int32 → Int32 → St → Rs) (hk8 : ∀ y1 y2 y3 y4 y5 σ, bEx sc 8 235 8 [some (.ref 1315), some (.int y1), some (.int y2), some (.int y3), some (.int y4), some (.int y5), none, none] [] σ (k8 y1 y2 y3 y4 y5 σ)) (y1 : Int32) (y2 : Int32) (y3 : Int32) (y4 : Int32) (y5 : Int32) (y6 : Int32) (σ : St) : bEx sc 8 235 91 [some (.ref 1315), some (.int y1), some (.int y2), some (.int y3), some (.int y4), some (.int y5), some (.int y6), none] [] σ (f235_91 F k8 y1 y2 y3 y4 y5 y6 σ) := by
  unfold f235_91
  refine b_run [(91, .aload_n 0, 0, 0, .null), (92, .iconst 0, 0, 0, .null), (93, .iload 6, 0, 0, .null), (95, .iconst 2, 0, 0, .null)] (pc' := 96) (ls' := [some (.ref 1315), some (.int y1), some (.int y2), some (.int y3), some (.int y4), some (.int y5), some (.int y6), none]) (st' := [.int 2, .int y6, .int 0, .ref 1315]) (by decide +kernel) rfl ?_
  refine b_icF (c := .ne) (o := 8) (t := 104) (y := 0) (w := .null) (by decide +kernel) cmp_ne (fun _ => ?_) (fun _ => ?_)
  · refine b_run [(99, .iload_n 3, 0, 0, .null), (100, .i2l, 0, 0, .null), (101, .goto 6, 107, 0, .null)] (pc' := 107) (ls' := [some (.ref 1315), some (.int y1), some (.int y2), some (.int y3), some (.int y4), some (.int y5), some (.int y6), none]) (st' := [.long ((y3 : Int32).toInt64), .int 0, .ref 1315]) (by decide +kernel) rfl ?_
    exact b_wk (wS (wS (wS (wS (wS (wS (wN (wN w0)))))))) (s235_107 hv F k8 hk8 y1 y2 y3 y4 y5 0 ((y3 : Int32).toInt64) σ)
  · refine b_run [(104, .iload 4, 0, 0, .null), (106, .i2l, 0, 0, .null)] (pc' := 107) (ls' := [some (.ref 1315), some (.int y1), some (.int y2), some (.int y3), some (.int y4), some (.int y5), some (.int y6), none]) (st' := [.long ((y4 : Int32).toInt64), .int 0, .ref 1315]) (by decide +kernel) rfl ?_
    exact b_wk (wS (wS (wS (wS (wS (wS (wN (wN w0)))))))) (s235_107 hv F k8 hk8 y1 y2 y3 y4 y5 0 ((y4 : Int32).toInt64) σ)
def f235_174 (F : Nat) (k8 : Int32 → Int32 → Int32 → Int32 → Int32 → St → Rs) (y1 : Int32) (y2 : Int32) (y3 : Int32) (y4 : Int32) (y5 : Int32) (z1 : Int32) (z2 : Int64) (σ : St) : Rs := cV (f236 F z1 z2 σ) fun σ16 => f235_245 F k8 y1 y2 y3 y4 y5 σ16
theorem s235_174 {sc : aSc} (hv : vOk sc) (F : Nat) (k8 : Int32 → Int32 → Int32 → Int32 → Int32 → St → Rs) (hk8 : ∀ y1 y2 y3 y4 y5 σ, bEx sc 8 235 8 [some (.ref 1315), some (.int y1), some (.int y2), some (.int y3), some (.int y4), some (.int y5), none, none] [] σ (k8 y1 y2 y3 y4 y5 σ)) (y1 : Int32) (y2 : Int32) (y3 : Int32) (y4 : Int32) (y5 : Int32) (z1 : Int32) (z2 : Int64) (σ : St) : bEx sc 8 235 174 [some (.ref 1315), some (.int y1), some (.int y2), some (.int y3), some (.int y4), some (.int y5), none, none] [.long z2, .int z1, .ref 1315] σ (f235_174 F k8 y1 y2 y3 y4 y5 z1 z2 σ) := by
  unfold f235_174
  refine b_callV 236 3 [.ref 1315, .int z1, .long z2] (rest := []) (by decide +kernel) rfl rfl rfl (go_O rfl (by decide +kernel) (by decide +kernel : isO 1315 9 = true)) rfl (s236 hv F z1 z2 σ) (by decide) (fun σ16 => ?_)
  refine b_run [(177, .goto 68, 245, 0, .null)] (pc' := 245) (ls' := [some (.ref 1315), some (.int y1), some (.int y2), some (.int y3), some (.int y4), some (.int y5), none, none]) (st' := []) (by decide +kernel) rfl ?_
  exact b_wk (wS (wS (wS (wS (wS (wS (wN (wN w0)))))))) (s235_245 hv F k8 hk8 y1 y2 y3 y4 y5 σ16)
def f235_156 (F : Nat) (k8 : Int32 → Int32 → Int32 → Int32 → Int32 → St → Rs) (y1 : Int32) (y2 : Int32) (y3 : Int32) (y4 : Int32) (y5 : Int32) (y6 : Int32) (y7 : Int32) (z1 : Int32) (σ : St) : Rs := if y6 = 4 then cI (f234 F y7 σ) fun c15 σ14 => f235_174 F k8 y1 y2 y3 y4 y5 z1 ((c15 : Int32).toInt64) σ14
    else f235_174 F k8 y1 y2 y3 y4 y5 z1 ((y7 : Int32).toInt64) σ
theorem s235_156 {sc : aSc} (hv : vOk sc) (F : Nat) (k8 : Int32 → Int32 → Int32 → Int32 → Int32 → St → Rs) (hk8 : ∀ y1 y2 y3 y4 y5 σ, bEx sc 8 235 8 [some (.ref 1315), some (.int y1), some (.int y2), some (.int y3), some (.int y4), some (.int y5), none, none] [] σ (k8 y1 y2 y3 y4 y5 σ)) (y1 : Int32) (y2 : Int32) (y3 : Int32) (y4 : Int32) (y5 : Int32) (y6 : Int32) (y7 : Int32) (z1 : Int32) (σ : St) : bEx sc 8 235 156 [some (.ref 1315), some (.int y1), some (.int y2), some (.int y3), some (.int y4), some (.int y5), some (.int y6), some (.int y7)] [.int z1, .ref 1315] σ (f235_156 F k8 y1 y2 y3 y4 y5 y6 y7 z1 σ) := by
  unfold f235_156
  refine b_run [(156, .iload 6, 0, 0, .null), (158, .iconst 4, 0, 0, .null)] (pc' := 159) (ls' := [some (.ref 1315), some (.int y1), some (.int y2), some (.int y3), some (.int y4), some (.int y5), some (.int y6), some (.int y7)]) (st' := [.int 4, .int y6, .int z1, .ref 1315]) (by decide +kernel) rfl ?_
  refine b_icF (c := .ne) (o := 12) (t := 171) (y := 0) (w := .null) (by decide +kernel) cmp_ne (fun _ => ?_) (fun _ => ?_)
  · refine b_run [(162, .iload 7, 0, 0, .null)] (pc' := 164) (ls' := [some (.ref 1315), some (.int y1), some (.int y2), some (.int y3), some (.int y4), some (.int y5), some (.int y6), some (.int y7)]) (st' := [.int y7, .int z1, .ref 1315]) (by decide +kernel) rfl ?_
    refine b_callI 234 1 [.int y7] (rest := [.int z1, .ref 1315]) (by decide +kernel) rfl rfl rfl (go_S rfl (by decide +kernel)) rfl (s234 hv F y7 σ) (by decide) (fun c15 σ14 => ?_)
    refine b_run [(167, .i2l, 0, 0, .null), (168, .goto 6, 174, 0, .null)] (pc' := 174) (ls' := [some (.ref 1315), some (.int y1), some (.int y2), some (.int y3), some (.int y4), some (.int y5), some (.int y6), some (.int y7)]) (st' := [.long ((c15 : Int32).toInt64), .int z1, .ref 1315]) (by decide +kernel) rfl ?_
    exact b_wk (wS (wS (wS (wS (wS (wS (wN (wN w0)))))))) (s235_174 hv F k8 hk8 y1 y2 y3 y4 y5 z1 ((c15 : Int32).toInt64) σ14)
  · refine b_run [(171, .iload 7, 0, 0, .null), (173, .i2l, 0, 0, .null)] (pc' := 174) (ls' := [some (.ref 1315), some (.int y1), some (.int y2), some (.int y3), some (.int y4), some (.int y5), some (.int y6), some (.int y7)]) (st' := [.long ((y7 : Int32).toInt64), .int z1, .ref 1315]) (by decide +kernel) rfl ?_
    exact b_wk (wS (wS (wS (wS (wS (wS (wN (wN w0)))))))) (s235_174 hv F k8 hk8 y1 y2 y3 y4 y5 z1 ((y7 : Int32).toInt64) σ)
def f235_125 (F : Nat) (k8 : Int32 → Int32 → Int32 → Int32 → Int32 → St → Rs) (y1 : Int32) (y2 : Int32) (y3 : Int32) (y4 : Int32) (y5 : Int32) (y6 : Int32) (σ : St) : Rs := if inB y5 130 then lt (σ.1 1350 y5.toNatClampNeg) fun c12 => 
    if inB ((30 * c12) + y2) 3900 then lt (σ.1 1352 ((30 * c12) + y2).toNatClampNeg) fun c13 => 
    if y6 = 4 then f235_156 F k8 y1 y2 y3 y4 y5 y6 c13 0 σ
    else f235_156 F k8 y1 y2 y3 y4 y5 y6 c13 3 σ else none else none
theorem s235_125 {sc : aSc} (hv : vOk sc) (F : Nat) (k8 : Int32 → Int32 → Int32 → Int32 → Int32 → St → Rs) (hk8 : ∀ y1 y2 y3 y4 y5 σ, bEx sc 8 235 8 [some (.ref 1315), some (.int y1), some (.int y2), some (.int y3), some (.int y4), some (.int y5), none, none] [] σ (k8 y1 y2 y3 y4 y5 σ)) (y1 : Int32) (y2 : Int32) (y3 : Int32) (y4 : Int32) (y5 : Int32) (y6 : Int32) (σ : St) : bEx sc 8 235 125 [some (.ref 1315), some (.int y1), some (.int y2), some (.int y3), some (.int y4), some (.int y5), some (.int y6), none] [] σ (f235_125 F k8 y1 y2 y3 y4 y5 y6 σ) := by
  unfold f235_125
  refine b_run [(125, .aload_n 0, 0, 0, .null)] (pc' := 126) (ls' := [some (.ref 1315), some (.int y1), some (.int y2), some (.int y3), some (.int y4), some (.int y5), some (.int y6), none]) (st' := [.ref 1315]) (by decide +kernel) rfl ?_
  refine b_getC (b := 1352) (q := 120) (ci := 9) (k := 51) (w := .null) (by decide +kernel) (by decide +kernel) ?_
  refine b_run [(129, .bipush 30, 0, 0, .null), (131, .aload_n 0, 0, 0, .null)] (pc' := 132) (ls' := [some (.ref 1315), some (.int y1), some (.int y2), some (.int y3), some (.int y4), some (.int y5), some (.int y6), none]) (st' := [.ref 1315, .int 30, .ref 1352]) (by decide +kernel) rfl ?_
  refine b_getC (b := 1350) (q := 114) (ci := 9) (k := 49) (w := .null) (by decide +kernel) (by decide +kernel) ?_
  refine b_run [(135, .iload 5, 0, 0, .null)] (pc' := 137) (ls' := [some (.ref 1315), some (.int y1), some (.int y2), some (.int y3), some (.int y4), some (.int y5), some (.int y6), none]) (st' := [.int y5, .ref 1350, .int 30, .ref 1352]) (by decide +kernel) rfl ?_
  refine b_guard (fun hb => ?_)
  refine b_aI (ci := 0) (y := 0) (w := .null) (by decide +kernel) (by decide +kernel) hb (fun c12 => ?_)
  refine b_run [(138, .imul, 0, 0, .null), (139, .iload_n 2, 0, 0, .null), (140, .iadd, 0, 0, .null)] (pc' := 141) (ls' := [some (.ref 1315), some (.int y1), some (.int y2), some (.int y3), some (.int y4), some (.int y5), some (.int y6), none]) (st' := [.int ((30 * c12) + y2), .ref 1352]) (by decide +kernel) rfl ?_
  refine b_guard (fun hb => ?_)
  refine b_aI (ci := 0) (y := 0) (w := .null) (by decide +kernel) (by decide +kernel) hb (fun c13 => ?_)
  refine b_run [(142, .istore 7, 0, 0, .null), (144, .aload_n 0, 0, 0, .null), (145, .iload 6, 0, 0, .null), (147, .iconst 4, 0, 0, .null)] (pc' := 148) (ls' := [some (.ref 1315), some (.int y1), some (.int y2), some (.int y3), some (.int y4), some (.int y5), some (.int y6), some (.int c13)]) (st' := [.int 4, .int y6, .ref 1315]) (by decide +kernel) rfl ?_
  refine b_icF (c := .ne) (o := 7) (t := 155) (y := 0) (w := .null) (by decide +kernel) cmp_ne (fun _ => ?_) (fun _ => ?_)
  · refine b_run [(151, .iconst 0, 0, 0, .null), (152, .goto 4, 156, 0, .null)] (pc' := 156) (ls' := [some (.ref 1315), some (.int y1), some (.int y2), some (.int y3), some (.int y4), some (.int y5), some (.int y6), some (.int c13)]) (st' := [.int 0, .ref 1315]) (by decide +kernel) rfl ?_
    exact b_wk (wS (wS (wS (wS (wS (wS (wS (wS w0)))))))) (s235_156 hv F k8 hk8 y1 y2 y3 y4 y5 y6 c13 0 σ)
  · refine b_run [(155, .iconst 3, 0, 0, .null)] (pc' := 156) (ls' := [some (.ref 1315), some (.int y1), some (.int y2), some (.int y3), some (.int y4), some (.int y5), some (.int y6), some (.int c13)]) (st' := [.int 3, .ref 1315]) (by decide +kernel) rfl ?_
    exact b_wk (wS (wS (wS (wS (wS (wS (wS (wS w0)))))))) (s235_156 hv F k8 hk8 y1 y2 y3 y4 y5 y6 c13 3 σ)
def f235_233 (F : Nat) (k8 : Int32 → Int32 → Int32 → Int32 → Int32 → St → Rs) (y1 : Int32) (y2 : Int32) (y3 : Int32) (y4 : Int32) (y5 : Int32) (z1 : Int32) (z2 : Int64) (σ : St) : Rs := cV (f236 F z1 z2 σ) fun σ26 => f235_245 F k8 y1 y2 y3 y4 y5 σ26
theorem s235_233 {sc : aSc} (hv : vOk sc) (F : Nat) (k8 : Int32 → Int32 → Int32 → Int32 → Int32 → St → Rs) (hk8 : ∀ y1 y2 y3 y4 y5 σ, bEx sc 8 235 8 [some (.ref 1315), some (.int y1), some (.int y2), some (.int y3), some (.int y4), some (.int y5), none, none] [] σ (k8 y1 y2 y3 y4 y5 σ)) (y1 : Int32) (y2 : Int32) (y3 : Int32) (y4 : Int32) (y5 : Int32) (z1 : Int32) (z2 : Int64) (σ : St) : bEx sc 8 235 233 [some (.ref 1315), some (.int y1), some (.int y2), some (.int y3), some (.int y4), some (.int y5), none, none] [.long z2, .int z1, .ref 1315] σ (f235_233 F k8 y1 y2 y3 y4 y5 z1 z2 σ) := by
  unfold f235_233
  refine b_callV 236 3 [.ref 1315, .int z1, .long z2] (rest := []) (by decide +kernel) rfl rfl rfl (go_O rfl (by decide +kernel) (by decide +kernel : isO 1315 9 = true)) rfl (s236 hv F z1 z2 σ) (by decide) (fun σ26 => ?_)
  refine b_run [(236, .goto 9, 245, 0, .null)] (pc' := 245) (ls' := [some (.ref 1315), some (.int y1), some (.int y2), some (.int y3), some (.int y4), some (.int y5), none, none]) (st' := []) (by decide +kernel) rfl ?_
  exact b_wk (wS (wS (wS (wS (wS (wS (wN (wN w0)))))))) (s235_245 hv F k8 hk8 y1 y2 y3 y4 y5 σ26)
def f235_8 (F : Nat) : Nat → Int32 → Int32 → Int32 → Int32 → Int32 → St → Rs
  | 0, _, _, _, _, _, _ => none
  | n + 1, y1, y2, y3, y4, y5, σ => lt (σ.1 1315 46) fun c2 => 
    if y5 < c2 then 
    if inB y5 130 then lt (σ.1 1348 y5.toNatClampNeg) fun c3 => 
    if c3 = y1 then 
    if inB y5 130 then lt (σ.1 1349 y5.toNatClampNeg) fun c4 => 
    if c4 = 0 then 
    if inB y5 130 then lt (σ.1 1350 y5.toNatClampNeg) fun c5 => cV (f236 F 0 ((c5 : Int32).toInt64) σ) fun σ6 => f235_245 F (f235_8 F n) y1 y2 y3 y4 y5 σ6 else none
    else if c4 = 1 then cV (f236 F 1 (((-1)) - ((y5 : Int32).toInt64)) σ) fun σ8 => f235_245 F (f235_8 F n) y1 y2 y3 y4 y5 σ8
    else if c4 = 2 then f235_91 F (f235_8 F n) y1 y2 y3 y4 y5 c4 σ
    else if c4 = 3 then f235_91 F (f235_8 F n) y1 y2 y3 y4 y5 c4 σ
    else if c4 = 4 then f235_125 F (f235_8 F n) y1 y2 y3 y4 y5 c4 σ
    else if c4 = 5 then f235_125 F (f235_8 F n) y1 y2 y3 y4 y5 c4 σ
    else if c4 = 6 then 
    lt (σ.1 1315 59) fun c18 => 
    lt (uI σ 1315 59 (c18 - 1)) fun σ19 => 
    lt (σ19.1 1315 59) fun c20 => 
    if inB c20 130 then lt (σ19.1 1359 c20.toNatClampNeg) fun c21 => 
    lt (σ19.1 1315 59) fun c22 => 
    if inB c22 130 then lt (σ19.2.1 1360 c22.toNatClampNeg) fun c23 => 
    cI (f237 F c21 c23 σ19) fun c25 σ24 => 
    if c25 = 0 then f235_233 F (f235_8 F n) y1 y2 y3 y4 y5 2 1 σ24
    else f235_233 F (f235_8 F n) y1 y2 y3 y4 y5 2 0 σ24 else none else none
    else cV (f239 F c4 σ) fun σ28 => f235_245 F (f235_8 F n) y1 y2 y3 y4 y5 σ28 else none
    else f235_245 F (f235_8 F n) y1 y2 y3 y4 y5 σ else none
    else if inB 0 130 then lt (σ.1 1359 (0 : Int32).toNatClampNeg) fun c30 => 
    if c30 = 0 then 
    if inB 0 130 then lt (σ.2.1 1360 (0 : Int32).toNatClampNeg) fun c31 => 
    if lg_cmp c31 ((y3 : Int32).toInt64) = 0 then oI 1 σ
    else oI 0 σ else none
    else if inB 0 130 then lt (σ.1 1359 (0 : Int32).toNatClampNeg) fun c32 => 
    if inB 0 130 then lt (σ.2.1 1360 (0 : Int32).toNatClampNeg) fun c33 => cI (f237 F c32 c33 σ) fun c35 σ34 => if c35 = 0 ∨ c35 = 1 then oI c35 σ34 else none else none else none else none
theorem s235_8 {sc : aSc} (hv : vOk sc) (F : Nat) : ∀ (n : Nat) (y1 : Int32) (y2 : Int32) (y3 : Int32) (y4 : Int32) (y5 : Int32) (σ : St), bEx sc 8 235 8 [some (.ref 1315), some (.int y1), some (.int y2), some (.int y3), some (.int y4), some (.int y5), none, none] [] σ (f235_8 F n y1 y2 y3 y4 y5 σ) := by
  intro n
  induction n with
  | zero => intro y1 y2 y3 y4 y5 σ; exact b_none
  | succ n ih =>
    intro y1 y2 y3 y4 y5 σ
    rw [f235_8.eq_2]
    refine b_run [(8, .iload 5, 0, 0, .null), (10, .aload_n 0, 0, 0, .null)] (pc' := 11) (ls' := [some (.ref 1315), some (.int y1), some (.int y2), some (.int y3), some (.int y4), some (.int y5), none, none]) (st' := [.ref 1315, .int y5]) (by decide +kernel) rfl ?_
    refine b_gI (q := 398) (ci := 9) (k := 46) (w := .null) (by decide +kernel) (by decide +kernel) (fun c2 => ?_)
    refine b_icF (c := .ge) (o := 237) (t := 251) (y := 0) (w := .null) (by decide +kernel) cmp_ge (fun _ => ?_) (fun _ => ?_)
    · refine b_run [(17, .aload_n 0, 0, 0, .null)] (pc' := 18) (ls' := [some (.ref 1315), some (.int y1), some (.int y2), some (.int y3), some (.int y4), some (.int y5), none, none]) (st' := [.ref 1315]) (by decide +kernel) rfl ?_
      refine b_getC (b := 1348) (q := 108) (ci := 9) (k := 47) (w := .null) (by decide +kernel) (by decide +kernel) ?_
      refine b_run [(21, .iload 5, 0, 0, .null)] (pc' := 23) (ls' := [some (.ref 1315), some (.int y1), some (.int y2), some (.int y3), some (.int y4), some (.int y5), none, none]) (st' := [.int y5, .ref 1348]) (by decide +kernel) rfl ?_
      refine b_guard (fun hb => ?_)
      refine b_aI (ci := 0) (y := 0) (w := .null) (by decide +kernel) (by decide +kernel) hb (fun c3 => ?_)
      refine b_run [(24, .iload_n 1, 0, 0, .null)] (pc' := 25) (ls' := [some (.ref 1315), some (.int y1), some (.int y2), some (.int y3), some (.int y4), some (.int y5), none, none]) (st' := [.int y1, .int c3]) (by decide +kernel) rfl ?_
      refine b_icF (c := .ne) (o := 220) (t := 245) (y := 0) (w := .null) (by decide +kernel) cmp_ne (fun _ => ?_) (fun _ => ?_)
      · refine b_run [(28, .aload_n 0, 0, 0, .null)] (pc' := 29) (ls' := [some (.ref 1315), some (.int y1), some (.int y2), some (.int y3), some (.int y4), some (.int y5), none, none]) (st' := [.ref 1315]) (by decide +kernel) rfl ?_
        refine b_getC (b := 1349) (q := 111) (ci := 9) (k := 48) (w := .null) (by decide +kernel) (by decide +kernel) ?_
        refine b_run [(32, .iload 5, 0, 0, .null)] (pc' := 34) (ls' := [some (.ref 1315), some (.int y1), some (.int y2), some (.int y3), some (.int y4), some (.int y5), none, none]) (st' := [.int y5, .ref 1349]) (by decide +kernel) rfl ?_
        refine b_guard (fun hb => ?_)
        refine b_aI (ci := 0) (y := 0) (w := .null) (by decide +kernel) (by decide +kernel) hb (fun c4 => ?_)
        refine b_run [(35, .istore 6, 0, 0, .null), (37, .iload 6, 0, 0, .null)] (pc' := 39) (ls' := [some (.ref 1315), some (.int y1), some (.int y2), some (.int y3), some (.int y4), some (.int y5), some (.int c4), none]) (st' := [.int c4]) (by decide +kernel) rfl ?_
        refine b_izF (c := .ne) (o := 19) (t := 58) (y := 0) (w := .null) (by decide +kernel) cmp_ne (fun _ => ?_) (fun _ => ?_)
        · refine b_run [(42, .aload_n 0, 0, 0, .null), (43, .iconst 0, 0, 0, .null), (44, .aload_n 0, 0, 0, .null)] (pc' := 45) (ls' := [some (.ref 1315), some (.int y1), some (.int y2), some (.int y3), some (.int y4), some (.int y5), some (.int c4), none]) (st' := [.ref 1315, .int 0, .ref 1315]) (by decide +kernel) rfl ?_
          refine b_getC (b := 1350) (q := 114) (ci := 9) (k := 49) (w := .null) (by decide +kernel) (by decide +kernel) ?_
          refine b_run [(48, .iload 5, 0, 0, .null)] (pc' := 50) (ls' := [some (.ref 1315), some (.int y1), some (.int y2), some (.int y3), some (.int y4), some (.int y5), some (.int c4), none]) (st' := [.int y5, .ref 1350, .int 0, .ref 1315]) (by decide +kernel) rfl ?_
          refine b_guard (fun hb => ?_)
          refine b_aI (ci := 0) (y := 0) (w := .null) (by decide +kernel) (by decide +kernel) hb (fun c5 => ?_)
          refine b_run [(51, .i2l, 0, 0, .null)] (pc' := 52) (ls' := [some (.ref 1315), some (.int y1), some (.int y2), some (.int y3), some (.int y4), some (.int y5), some (.int c4), none]) (st' := [.long ((c5 : Int32).toInt64), .int 0, .ref 1315]) (by decide +kernel) rfl ?_
          refine b_callV 236 3 [.ref 1315, .int 0, .long ((c5 : Int32).toInt64)] (rest := []) (by decide +kernel) rfl rfl rfl (go_O rfl (by decide +kernel) (by decide +kernel : isO 1315 9 = true)) rfl (s236 hv F 0 ((c5 : Int32).toInt64) σ) (by decide) (fun σ6 => ?_)
          refine b_run [(55, .goto 190, 245, 0, .null)] (pc' := 245) (ls' := [some (.ref 1315), some (.int y1), some (.int y2), some (.int y3), some (.int y4), some (.int y5), some (.int c4), none]) (st' := []) (by decide +kernel) rfl ?_
          exact b_wk (wS (wS (wS (wS (wS (wS (wN (wN w0)))))))) (s235_245 hv F (f235_8 F n) ih y1 y2 y3 y4 y5 σ6)
        · refine b_run [(58, .iload 6, 0, 0, .null), (60, .iconst 1, 0, 0, .null)] (pc' := 61) (ls' := [some (.ref 1315), some (.int y1), some (.int y2), some (.int y3), some (.int y4), some (.int y5), some (.int c4), none]) (st' := [.int 1, .int c4]) (by decide +kernel) rfl ?_
          refine b_icF (c := .ne) (o := 18) (t := 79) (y := 0) (w := .null) (by decide +kernel) cmp_ne (fun _ => ?_) (fun _ => ?_)
          · refine b_run [(64, .aload_n 0, 0, 0, .null), (65, .iconst 1, 0, 0, .null), (66, .ldc2_w 348, 0, 0, .long (-1)), (69, .iload 5, 0, 0, .null), (71, .i2l, 0, 0, .null), (72, .lsub, 0, 0, .null)] (pc' := 73) (ls' := [some (.ref 1315), some (.int y1), some (.int y2), some (.int y3), some (.int y4), some (.int y5), some (.int c4), none]) (st' := [.long (((-1)) - ((y5 : Int32).toInt64)), .int 1, .ref 1315]) (by decide +kernel) rfl ?_
            refine b_callV 236 3 [.ref 1315, .int 1, .long (((-1)) - ((y5 : Int32).toInt64))] (rest := []) (by decide +kernel) rfl rfl rfl (go_O rfl (by decide +kernel) (by decide +kernel : isO 1315 9 = true)) rfl (s236 hv F 1 (((-1)) - ((y5 : Int32).toInt64)) σ) (by decide) (fun σ8 => ?_)
            refine b_run [(76, .goto 169, 245, 0, .null)] (pc' := 245) (ls' := [some (.ref 1315), some (.int y1), some (.int y2), some (.int y3), some (.int y4), some (.int y5), some (.int c4), none]) (st' := []) (by decide +kernel) rfl ?_
            exact b_wk (wS (wS (wS (wS (wS (wS (wN (wN w0)))))))) (s235_245 hv F (f235_8 F n) ih y1 y2 y3 y4 y5 σ8)
          · refine b_run [(79, .iload 6, 0, 0, .null), (81, .iconst 2, 0, 0, .null)] (pc' := 82) (ls' := [some (.ref 1315), some (.int y1), some (.int y2), some (.int y3), some (.int y4), some (.int y5), some (.int c4), none]) (st' := [.int 2, .int c4]) (by decide +kernel) rfl ?_
            refine b_icT (c := .eq) (o := 9) (t := 91) (y := 0) (w := .null) (by decide +kernel) cmp_eq (fun _ => ?_) (fun _ => ?_)
            · exact b_wk (wS (wS (wS (wS (wS (wS (wS (wN w0)))))))) (s235_91 hv F (f235_8 F n) ih y1 y2 y3 y4 y5 c4 σ)
            · refine b_run [(85, .iload 6, 0, 0, .null), (87, .iconst 3, 0, 0, .null)] (pc' := 88) (ls' := [some (.ref 1315), some (.int y1), some (.int y2), some (.int y3), some (.int y4), some (.int y5), some (.int c4), none]) (st' := [.int 3, .int c4]) (by decide +kernel) rfl ?_
              refine b_icF (c := .ne) (o := 25) (t := 113) (y := 0) (w := .null) (by decide +kernel) cmp_ne (fun _ => ?_) (fun _ => ?_)
              · exact b_wk (wS (wS (wS (wS (wS (wS (wS (wN w0)))))))) (s235_91 hv F (f235_8 F n) ih y1 y2 y3 y4 y5 c4 σ)
              · refine b_run [(113, .iload 6, 0, 0, .null), (115, .iconst 4, 0, 0, .null)] (pc' := 116) (ls' := [some (.ref 1315), some (.int y1), some (.int y2), some (.int y3), some (.int y4), some (.int y5), some (.int c4), none]) (st' := [.int 4, .int c4]) (by decide +kernel) rfl ?_
                refine b_icT (c := .eq) (o := 9) (t := 125) (y := 0) (w := .null) (by decide +kernel) cmp_eq (fun _ => ?_) (fun _ => ?_)
                · exact b_wk (wS (wS (wS (wS (wS (wS (wS (wN w0)))))))) (s235_125 hv F (f235_8 F n) ih y1 y2 y3 y4 y5 c4 σ)
                · refine b_run [(119, .iload 6, 0, 0, .null), (121, .iconst 5, 0, 0, .null)] (pc' := 122) (ls' := [some (.ref 1315), some (.int y1), some (.int y2), some (.int y3), some (.int y4), some (.int y5), some (.int c4), none]) (st' := [.int 5, .int c4]) (by decide +kernel) rfl ?_
                  refine b_icF (c := .ne) (o := 58) (t := 180) (y := 0) (w := .null) (by decide +kernel) cmp_ne (fun _ => ?_) (fun _ => ?_)
                  · exact b_wk (wS (wS (wS (wS (wS (wS (wS (wN w0)))))))) (s235_125 hv F (f235_8 F n) ih y1 y2 y3 y4 y5 c4 σ)
                  · refine b_run [(180, .iload 6, 0, 0, .null), (182, .bipush 6, 0, 0, .null)] (pc' := 184) (ls' := [some (.ref 1315), some (.int y1), some (.int y2), some (.int y3), some (.int y4), some (.int y5), some (.int c4), none]) (st' := [.int 6, .int c4]) (by decide +kernel) rfl ?_
                    refine b_icF (c := .ne) (o := 55) (t := 239) (y := 0) (w := .null) (by decide +kernel) cmp_ne (fun _ => ?_) (fun _ => ?_)
                    · refine b_run [(187, .aload_n 0, 0, 0, .null), (188, .dup, 0, 0, .null)] (pc' := 189) (ls' := [some (.ref 1315), some (.int y1), some (.int y2), some (.int y3), some (.int y4), some (.int y5), some (.int c4), none]) (st' := [.ref 1315, .ref 1315]) (by decide +kernel) rfl ?_
                      refine b_gI (q := 500) (ci := 9) (k := 59) (w := .null) (by decide +kernel) (by decide +kernel) (fun c18 => ?_)
                      refine b_run [(192, .iconst 1, 0, 0, .null), (193, .isub, 0, 0, .null)] (pc' := 194) (ls' := [some (.ref 1315), some (.int y1), some (.int y2), some (.int y3), some (.int y4), some (.int y5), some (.int c4), none]) (st' := [.int (c18 - 1), .ref 1315]) (by decide +kernel) rfl ?_
                      refine b_pI (q := 500) (ci := 9) (k := 59) (w := .null) (by decide +kernel) (by decide +kernel) (fit_I _) (fun σ19 => ?_)
                      refine b_run [(197, .aload_n 0, 0, 0, .null), (198, .aload_n 0, 0, 0, .null)] (pc' := 199) (ls' := [some (.ref 1315), some (.int y1), some (.int y2), some (.int y3), some (.int y4), some (.int y5), some (.int c4), none]) (st' := [.ref 1315, .ref 1315]) (by decide +kernel) rfl ?_
                      refine b_getC (b := 1359) (q := 141) (ci := 9) (k := 60) (w := .null) (by decide +kernel) (by decide +kernel) ?_
                      refine b_run [(202, .aload_n 0, 0, 0, .null)] (pc' := 203) (ls' := [some (.ref 1315), some (.int y1), some (.int y2), some (.int y3), some (.int y4), some (.int y5), some (.int c4), none]) (st' := [.ref 1315, .ref 1359, .ref 1315]) (by decide +kernel) rfl ?_
                      refine b_gI (q := 500) (ci := 9) (k := 59) (w := .null) (by decide +kernel) (by decide +kernel) (fun c20 => ?_)
                      refine b_guard (fun hb => ?_)
                      refine b_aI (ci := 0) (y := 0) (w := .null) (by decide +kernel) (by decide +kernel) hb (fun c21 => ?_)
                      refine b_run [(207, .aload_n 0, 0, 0, .null)] (pc' := 208) (ls' := [some (.ref 1315), some (.int y1), some (.int y2), some (.int y3), some (.int y4), some (.int y5), some (.int c4), none]) (st' := [.ref 1315, .int c21, .ref 1315]) (by decide +kernel) rfl ?_
                      refine b_getC (b := 1360) (q := 144) (ci := 9) (k := 61) (w := .null) (by decide +kernel) (by decide +kernel) ?_
                      refine b_run [(211, .aload_n 0, 0, 0, .null)] (pc' := 212) (ls' := [some (.ref 1315), some (.int y1), some (.int y2), some (.int y3), some (.int y4), some (.int y5), some (.int c4), none]) (st' := [.ref 1315, .ref 1360, .int c21, .ref 1315]) (by decide +kernel) rfl ?_
                      refine b_gI (q := 500) (ci := 9) (k := 59) (w := .null) (by decide +kernel) (by decide +kernel) (fun c22 => ?_)
                      refine b_guard (fun hb => ?_)
                      refine b_aL (ci := 0) (y := 0) (w := .null) (by decide +kernel) (by decide +kernel) hb (fun c23 => ?_)
                      refine b_callI 237 3 [.ref 1315, .int c21, .long c23] (rest := []) (by decide +kernel) rfl rfl rfl (go_O rfl (by decide +kernel) (by decide +kernel : isO 1315 9 = true)) rfl (s237 hv F c21 c23 σ19) (by decide) (fun c25 σ24 => ?_)
                      refine b_run [(219, .istore 7, 0, 0, .null), (221, .aload_n 0, 0, 0, .null), (222, .iconst 2, 0, 0, .null), (223, .iload 7, 0, 0, .null)] (pc' := 225) (ls' := [some (.ref 1315), some (.int y1), some (.int y2), some (.int y3), some (.int y4), some (.int y5), some (.int c4), some (.int c25)]) (st' := [.int c25, .int 2, .ref 1315]) (by decide +kernel) rfl ?_
                      refine b_izT (c := .eq) (o := 7) (t := 232) (y := 0) (w := .null) (by decide +kernel) cmp_eq (fun _ => ?_) (fun _ => ?_)
                      · refine b_run [(232, .lconst 1, 0, 0, .null)] (pc' := 233) (ls' := [some (.ref 1315), some (.int y1), some (.int y2), some (.int y3), some (.int y4), some (.int y5), some (.int c4), some (.int c25)]) (st' := [.long 1, .int 2, .ref 1315]) (by decide +kernel) rfl ?_
                        exact b_wk (wS (wS (wS (wS (wS (wS (wN (wN w0)))))))) (s235_233 hv F (f235_8 F n) ih y1 y2 y3 y4 y5 2 1 σ24)
                      · refine b_run [(228, .lconst 0, 0, 0, .null), (229, .goto 4, 233, 0, .null)] (pc' := 233) (ls' := [some (.ref 1315), some (.int y1), some (.int y2), some (.int y3), some (.int y4), some (.int y5), some (.int c4), some (.int c25)]) (st' := [.long 0, .int 2, .ref 1315]) (by decide +kernel) rfl ?_
                        exact b_wk (wS (wS (wS (wS (wS (wS (wN (wN w0)))))))) (s235_233 hv F (f235_8 F n) ih y1 y2 y3 y4 y5 2 0 σ24)
                    · refine b_run [(239, .aload_n 0, 0, 0, .null), (240, .iload 6, 0, 0, .null)] (pc' := 242) (ls' := [some (.ref 1315), some (.int y1), some (.int y2), some (.int y3), some (.int y4), some (.int y5), some (.int c4), none]) (st' := [.int c4, .ref 1315]) (by decide +kernel) rfl ?_
                      refine b_callV 239 2 [.ref 1315, .int c4] (rest := []) (by decide +kernel) rfl rfl rfl (go_O rfl (by decide +kernel) (by decide +kernel : isO 1315 9 = true)) rfl (s239 hv F c4 σ) (by decide) (fun σ28 => ?_)
                      exact b_wk (wS (wS (wS (wS (wS (wS (wN (wN w0)))))))) (s235_245 hv F (f235_8 F n) ih y1 y2 y3 y4 y5 σ28)
      · exact b_wk (wS (wS (wS (wS (wS (wS (wN (wN w0)))))))) (s235_245 hv F (f235_8 F n) ih y1 y2 y3 y4 y5 σ)
    · refine b_run [(251, .aload_n 0, 0, 0, .null)] (pc' := 252) (ls' := [some (.ref 1315), some (.int y1), some (.int y2), some (.int y3), some (.int y4), some (.int y5), none, none]) (st' := [.ref 1315]) (by decide +kernel) rfl ?_
      refine b_getC (b := 1359) (q := 141) (ci := 9) (k := 60) (w := .null) (by decide +kernel) (by decide +kernel) ?_
      refine b_run [(255, .iconst 0, 0, 0, .null)] (pc' := 256) (ls' := [some (.ref 1315), some (.int y1), some (.int y2), some (.int y3), some (.int y4), some (.int y5), none, none]) (st' := [.int 0, .ref 1359]) (by decide +kernel) rfl ?_
      refine b_guard (fun hb => ?_)
      refine b_aI (ci := 0) (y := 0) (w := .null) (by decide +kernel) (by decide +kernel) hb (fun c30 => ?_)
      refine b_izF (c := .ne) (o := 23) (t := 280) (y := 0) (w := .null) (by decide +kernel) cmp_ne (fun _ => ?_) (fun _ => ?_)
      · refine b_run [(260, .aload_n 0, 0, 0, .null)] (pc' := 261) (ls' := [some (.ref 1315), some (.int y1), some (.int y2), some (.int y3), some (.int y4), some (.int y5), none, none]) (st' := [.ref 1315]) (by decide +kernel) rfl ?_
        refine b_getC (b := 1360) (q := 144) (ci := 9) (k := 61) (w := .null) (by decide +kernel) (by decide +kernel) ?_
        refine b_run [(264, .iconst 0, 0, 0, .null)] (pc' := 265) (ls' := [some (.ref 1315), some (.int y1), some (.int y2), some (.int y3), some (.int y4), some (.int y5), none, none]) (st' := [.int 0, .ref 1360]) (by decide +kernel) rfl ?_
        refine b_guard (fun hb => ?_)
        refine b_aL (ci := 0) (y := 0) (w := .null) (by decide +kernel) (by decide +kernel) hb (fun c31 => ?_)
        refine b_run [(266, .iload_n 3, 0, 0, .null), (267, .i2l, 0, 0, .null), (268, .lcmp, 0, 0, .null)] (pc' := 269) (ls' := [some (.ref 1315), some (.int y1), some (.int y2), some (.int y3), some (.int y4), some (.int y5), none, none]) (st' := [.int (lg_cmp c31 ((y3 : Int32).toInt64))]) (by decide +kernel) rfl ?_
        refine b_izF (c := .ne) (o := 7) (t := 276) (y := 0) (w := .null) (by decide +kernel) cmp_ne (fun _ => ?_) (fun _ => ?_)
        · refine b_run [(272, .iconst 1, 0, 0, .null), (273, .goto 23, 296, 0, .null)] (pc' := 296) (ls' := [some (.ref 1315), some (.int y1), some (.int y2), some (.int y3), some (.int y4), some (.int y5), none, none]) (st' := [.int 1]) (by decide +kernel) rfl ?_
          exact b_ret (i := (.ireturn, 0, 0, .null)) (by decide +kernel) rfl rfl (by decide +kernel)
        · refine b_run [(276, .iconst 0, 0, 0, .null), (277, .goto 19, 296, 0, .null)] (pc' := 296) (ls' := [some (.ref 1315), some (.int y1), some (.int y2), some (.int y3), some (.int y4), some (.int y5), none, none]) (st' := [.int 0]) (by decide +kernel) rfl ?_
          exact b_ret (i := (.ireturn, 0, 0, .null)) (by decide +kernel) rfl rfl (by decide +kernel)
      · refine b_run [(280, .aload_n 0, 0, 0, .null), (281, .aload_n 0, 0, 0, .null)] (pc' := 282) (ls' := [some (.ref 1315), some (.int y1), some (.int y2), some (.int y3), some (.int y4), some (.int y5), none, none]) (st' := [.ref 1315, .ref 1315]) (by decide +kernel) rfl ?_
        refine b_getC (b := 1359) (q := 141) (ci := 9) (k := 60) (w := .null) (by decide +kernel) (by decide +kernel) ?_
        refine b_run [(285, .iconst 0, 0, 0, .null)] (pc' := 286) (ls' := [some (.ref 1315), some (.int y1), some (.int y2), some (.int y3), some (.int y4), some (.int y5), none, none]) (st' := [.int 0, .ref 1359, .ref 1315]) (by decide +kernel) rfl ?_
        refine b_guard (fun hb => ?_)
        refine b_aI (ci := 0) (y := 0) (w := .null) (by decide +kernel) (by decide +kernel) hb (fun c32 => ?_)
        refine b_run [(287, .aload_n 0, 0, 0, .null)] (pc' := 288) (ls' := [some (.ref 1315), some (.int y1), some (.int y2), some (.int y3), some (.int y4), some (.int y5), none, none]) (st' := [.ref 1315, .int c32, .ref 1315]) (by decide +kernel) rfl ?_
        refine b_getC (b := 1360) (q := 144) (ci := 9) (k := 61) (w := .null) (by decide +kernel) (by decide +kernel) ?_
        refine b_run [(291, .iconst 0, 0, 0, .null)] (pc' := 292) (ls' := [some (.ref 1315), some (.int y1), some (.int y2), some (.int y3), some (.int y4), some (.int y5), none, none]) (st' := [.int 0, .ref 1360, .int c32, .ref 1315]) (by decide +kernel) rfl ?_
        refine b_guard (fun hb => ?_)
        refine b_aL (ci := 0) (y := 0) (w := .null) (by decide +kernel) (by decide +kernel) hb (fun c33 => ?_)
        refine b_callI 237 3 [.ref 1315, .int c32, .long c33] (rest := []) (by decide +kernel) rfl rfl rfl (go_O rfl (by decide +kernel) (by decide +kernel : isO 1315 9 = true)) rfl (s237 hv F c32 c33 σ) (by decide) (fun c35 σ34 => ?_)
        exact b_guard (fun hz => b_ret (i := (.ireturn, 0, 0, .null)) (by decide +kernel) rfl rfl (fit_Z hz))
/-- TreeStoreModel.holds(IIII)Z -/
def f235 (F : Nat) (x1 : Int32) (x2 : Int32) (x3 : Int32) (x4 : Int32) (σ : St) : Rs := lt (uI σ 1315 59 0) fun σ1 => f235_8 F F x1 x2 x3 x4 0 σ1
theorem s235 {sc : aSc} (hv : vOk sc) (F : Nat) (x1 : Int32) (x2 : Int32) (x3 : Int32) (x4 : Int32) (σ : St) : bEx sc 8 235 0 [some (.ref 1315), some (.int x1), some (.int x2), some (.int x3), some (.int x4), none, none, none] [] σ (f235 F x1 x2 x3 x4 σ) := by
  unfold f235
  refine b_run [(0, .aload_n 0, 0, 0, .null), (1, .iconst 0, 0, 0, .null)] (pc' := 2) (ls' := [some (.ref 1315), some (.int x1), some (.int x2), some (.int x3), some (.int x4), none, none, none]) (st' := [.int 0, .ref 1315]) (by decide +kernel) rfl ?_
  refine b_pI (q := 500) (ci := 9) (k := 59) (w := .null) (by decide +kernel) (by decide +kernel) (fit_I _) (fun σ1 => ?_)
  refine b_run [(5, .iconst 0, 0, 0, .null), (6, .istore 5, 0, 0, .null)] (pc' := 8) (ls' := [some (.ref 1315), some (.int x1), some (.int x2), some (.int x3), some (.int x4), some (.int 0), none, none]) (st' := []) (by decide +kernel) rfl ?_
  exact b_wk (wS (wS (wS (wS (wS (wS (wN (wN w0)))))))) (s235_8 hv F F x1 x2 x3 x4 0 σ1)
def f233_84 (F : Nat) (k15 : Int32 → Int32 → Int32 → Int32 → Int32 → Int32 → Int32 → St → Rs) (y1 : Int32) (y2 : Int32) (y3 : Int32) (y4 : Int32) (y5 : Int32) (y6 : Int32) (y7 : Int32) (σ : St) : Rs := k15 y1 y2 y3 y4 y5 y6 (y7 + 1) σ
theorem s233_84 {sc : aSc} (hv : vOk sc) (F : Nat) (k15 : Int32 → Int32 → Int32 → Int32 → Int32 → Int32 → Int32 → St → Rs) (hk15 : ∀ y1 y2 y3 y4 y5 y6 y7 σ, bEx sc 9 233 15 [some (.ref 1315), some (.int y1), some (.int y2), some (.int y3), some (.int y4), some (.int y5), some (.int y6), some (.int y7), none] [] σ (k15 y1 y2 y3 y4 y5 y6 y7 σ)) (y1 : Int32) (y2 : Int32) (y3 : Int32) (y4 : Int32) (y5 : Int32) (y6 : Int32) (y7 : Int32) (σ : St) : bEx sc 9 233 84 [some (.ref 1315), some (.int y1), some (.int y2), some (.int y3), some (.int y4), some (.int y5), some (.int y6), some (.int y7), none] [] σ (f233_84 F k15 y1 y2 y3 y4 y5 y6 y7 σ) := by
  unfold f233_84
  refine b_run [(84, .iinc 7 1, 0, 0, .null), (87, .goto (-72), 15, 0, .null)] (pc' := 15) (ls' := [some (.ref 1315), some (.int y1), some (.int y2), some (.int y3), some (.int y4), some (.int y5), some (.int y6), some (.int (y7 + 1)), none]) (st' := []) (by decide +kernel) rfl ?_
  exact b_wk (wS (wS (wS (wS (wS (wS (wS (wS (wN w0))))))))) (hk15 y1 y2 y3 y4 y5 y6 (y7 + 1) σ)
