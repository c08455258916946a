/-- TreeStore.type(J)Z -/
def f10 (F : Nat) (x1 : Int64) (σ : St) : Rs := f10_6 F F x1 0 56 σ
theorem s10 {sc : aSc} (hv : vOk sc) (F : Nat) (x1 : Int64) (σ : St) : bEx sc 2 10 0 [some (.ref 1000), some (.long x1), none, none, none, none] [] σ (f10 F x1 σ) := by
  unfold f10
  refine b_run [(0, .iconst 0, 0, 0, .null), (1, .istore_n 3, 0, 0, .null), (2, .bipush 56, 0, 0, .null), (4, .istore 4, 0, 0, .null)] (pc' := 6) (ls' := [some (.ref 1000), some (.long x1), none, some (.int 0), some (.int 56), none]) (st' := []) (by decide +kernel) rfl ?_
  exact b_wk (wS (wS (wN (wS (wS (wN w0)))))) (s10_6 hv F F x1 0 56 σ)
/-- TreeStore.wipe()V -/
def f13 (F : Nat) (σ : St) : Rs := cV (f91 F 1001 σ) fun σ1 => oV σ1
theorem s13 {sc : aSc} (hv : vOk sc) (F : Nat) (σ : St) : bEx sc 1 13 0 [some (.ref 1000)] [] σ (f13 F σ) := by
  unfold f13
  refine b_run [(0, .aload_n 0, 0, 0, .null)] (pc' := 1) (ls' := [some (.ref 1000)]) (st' := [.ref 1000]) (by decide +kernel) rfl ?_
  refine b_getC (b := 1001) (q := 14) (ci := 0) (k := 0) (w := .null) (by decide +kernel) (by decide +kernel) ?_
  refine b_callV 91 1 [.ref 1001] (rest := []) (by decide +kernel) rfl rfl rfl (go_O rfl (by decide +kernel) (by decide +kernel : isO 1001 5 = true)) rfl (s91 hv F 1001 σ (by decide +kernel : isO 1001 5 = true)) (by decide) (fun σ1 => ?_)
  exact b_ret0 (i := (.return_, 0, 0, .null)) (by decide +kernel) rfl rfl
/-- TreeStore.nodes()I -/
def f14 (F : Nat) (σ : St) : Rs := lt (σ.1 1003 10) fun c1 => oI c1 σ
theorem s14 {sc : aSc} (hv : vOk sc) (F : Nat) (σ : St) : bEx sc 0 14 0 [some (.ref 1000)] [] σ (f14 F σ) := by
  unfold f14
  refine b_run [(0, .aload_n 0, 0, 0, .null)] (pc' := 1) (ls' := [some (.ref 1000)]) (st' := [.ref 1000]) (by decide +kernel) rfl ?_
  refine b_getC (b := 1003) (q := 21) (ci := 0) (k := 1) (w := .null) (by decide +kernel) (by decide +kernel) ?_
  refine b_gI (q := 97) (ci := 8) (k := 10) (w := .null) (by decide +kernel) (by decide +kernel) (fun c1 => ?_)
  exact b_ret (i := (.ireturn, 0, 0, .null)) (by decide +kernel) rfl rfl (fit_I _)
/-- TreeStoreModel.thrown()I -/
def f144 (F : Nat) (σ : St) : Rs := lt (σ.1 1315 0) fun c1 => oI c1 σ
theorem s144 {sc : aSc} (hv : vOk sc) (F : Nat) (σ : St) : bEx sc 0 144 0 [some (.ref 1315)] [] σ (f144 F σ) := by
  unfold f144
  refine b_run [(0, .aload_n 0, 0, 0, .null)] (pc' := 1) (ls' := [some (.ref 1315)]) (st' := [.ref 1315]) (by decide +kernel) rfl ?_
  refine b_gI (q := 152) (ci := 9) (k := 0) (w := .null) (by decide +kernel) (by decide +kernel) (fun c1 => ?_)
  exact b_ret (i := (.ireturn, 0, 0, .null)) (by decide +kernel) rfl rfl (fit_I _)
def f145_151 (F : Nat) (k109 : Int64 → Int32 → St → Rs) (y1 : Int64) (y5 : Int32) (σ : St) : Rs := k109 y1 (y5 + Int32.ofInt (-8)) σ
theorem s145_151 {sc : aSc} (hv : vOk sc) (F : Nat) (k109 : Int64 → Int32 → St → Rs) (hk109 : ∀ y1 y5 σ, bEx sc 0 145 109 [some (.ref 1315), some (.long y1), none, none, none, some (.int y5), none] [] σ (k109 y1 y5 σ)) (y1 : Int64) (y5 : Int32) (σ : St) : bEx sc 0 145 151 [some (.ref 1315), some (.long y1), none, none, none, some (.int y5), none] [] σ (f145_151 F k109 y1 y5 σ) := by
  unfold f145_151
  refine b_run [(151, .iinc 5 (-8), 0, 0, .null), (154, .goto (-45), 109, 0, .null)] (pc' := 109) (ls' := [some (.ref 1315), some (.long y1), none, none, none, some (.int (y5 + Int32.ofInt (-8))), none]) (st' := []) (by decide +kernel) rfl ?_
  exact b_wk (wS (wS (wN (wN (wN (wS (wN w0))))))) (hk109 y1 (y5 + Int32.ofInt (-8)) σ)
def f145_109 (F : Nat) : Nat → Int64 → Int32 → St → Rs
  | 0, _, _, _ => none
  | n + 1, y1, y5, σ => if y5 < 0 then oI 1 σ
    else lt (((((y1 : Int64).toUInt64 >>> ((y5 : Int32).toInt64.toUInt64 &&& Int64.toUInt64 63)).toInt64 : Int64).toInt32) &&& 255) fun c3 => 
    if c3 = 0 then f145_151 F (f145_109 F n) y1 y5 σ
    else lt (σ.1 1315 1) fun c4 => 
    if inB c4 122 then lt (uI σ 1316 c4.toNatClampNeg c3) fun σ5 => lt (σ5.1 1315 1) fun c6 => lt (uI σ5 1315 1 (c6 + 1)) fun σ7 => f145_151 F (f145_109 F n) y1 y5 σ7 else none
theorem s145_109 {sc : aSc} (hv : vOk sc) (F : Nat) : ∀ (n : Nat) (y1 : Int64) (y5 : Int32) (σ : St), bEx sc 0 145 109 [some (.ref 1315), some (.long y1), none, none, none, some (.int y5), none] [] σ (f145_109 F n y1 y5 σ) := by
  intro n
  induction n with
  | zero => intro y1 y5 σ; exact b_none
  | succ n ih =>
    intro y1 y5 σ
    rw [f145_109.eq_2]
    refine b_run [(109, .iload 5, 0, 0, .null)] (pc' := 111) (ls' := [some (.ref 1315), some (.long y1), none, none, none, some (.int y5), none]) (st' := [.int y5]) (by decide +kernel) rfl ?_
    refine b_izT (c := .lt) (o := 46) (t := 157) (y := 0) (w := .null) (by decide +kernel) cmp_lt (fun _ => ?_) (fun _ => ?_)
    · refine b_run [(157, .iconst 1, 0, 0, .null)] (pc' := 158) (ls' := [some (.ref 1315), some (.long y1), none, none, none, some (.int y5), none]) (st' := [.int 1]) (by decide +kernel) rfl ?_
      exact b_ret (i := (.ireturn, 0, 0, .null)) (by decide +kernel) rfl rfl (by decide +kernel)
    · refine b_run [(114, .lload_n 1, 0, 0, .null), (115, .iload 5, 0, 0, .null), (117, .lushr, 0, 0, .null), (118, .l2i, 0, 0, .null), (119, .sipush 255, 0, 0, .null), (122, .iand, 0, 0, .null), (123, .istore 6, 0, 0, .null)] (pc' := 125) (ls' := [some (.ref 1315), some (.long y1), none, none, none, some (.int y5), some (.int (((((y1 : Int64).toUInt64 >>> ((y5 : Int32).toInt64.toUInt64 &&& Int64.toUInt64 63)).toInt64 : Int64).toInt32) &&& 255))]) (st' := []) (by decide +kernel) rfl ?_
      refine b_let (((((y1 : Int64).toUInt64 >>> ((y5 : Int32).toInt64.toUInt64 &&& Int64.toUInt64 63)).toInt64 : Int64).toInt32) &&& 255) (L := fun c3 => [some (.ref 1315), some (.long y1), none, none, none, some (.int y5), some (.int c3)]) (S := fun _ => []) (fun c3 => ?_)
      refine b_run [(125, .iload 6, 0, 0, .null)] (pc' := 127) (ls' := [some (.ref 1315), some (.long y1), none, none, none, some (.int y5), some (.int c3)]) (st' := [.int c3]) (by decide +kernel) rfl ?_
      refine b_izT (c := .eq) (o := 24) (t := 151) (y := 0) (w := .null) (by decide +kernel) cmp_eq (fun _ => ?_) (fun _ => ?_)
      · exact b_wk (wS (wS (wN (wN (wN (wS (wN w0))))))) (s145_151 hv F (f145_109 F n) ih y1 y5 σ)
      · refine b_run [(130, .aload_n 0, 0, 0, .null)] (pc' := 131) (ls' := [some (.ref 1315), some (.long y1), none, none, none, some (.int y5), some (.int c3)]) (st' := [.ref 1315]) (by decide +kernel) rfl ?_
        refine b_getC (b := 1316) (q := 7) (ci := 9) (k := 2) (w := .null) (by decide +kernel) (by decide +kernel) ?_
        refine b_run [(134, .aload_n 0, 0, 0, .null)] (pc' := 135) (ls' := [some (.ref 1315), some (.long y1), none, none, none, some (.int y5), some (.int c3)]) (st' := [.ref 1315, .ref 1316]) (by decide +kernel) rfl ?_
        refine b_gI (q := 155) (ci := 9) (k := 1) (w := .null) (by decide +kernel) (by decide +kernel) (fun c4 => ?_)
        refine b_run [(138, .iload 6, 0, 0, .null)] (pc' := 140) (ls' := [some (.ref 1315), some (.long y1), none, none, none, some (.int y5), some (.int c3)]) (st' := [.int c3, .int c4, .ref 1316]) (by decide +kernel) rfl ?_
        refine b_guard (fun hb => ?_)
        refine b_sI (ci := 0) (y := 0) (w := .null) (by decide +kernel) (by decide +kernel) hb (fun σ5 => ?_)
        refine b_run [(141, .aload_n 0, 0, 0, .null), (142, .dup, 0, 0, .null)] (pc' := 143) (ls' := [some (.ref 1315), some (.long y1), none, none, none, some (.int y5), some (.int c3)]) (st' := [.ref 1315, .ref 1315]) (by decide +kernel) rfl ?_
        refine b_gI (q := 155) (ci := 9) (k := 1) (w := .null) (by decide +kernel) (by decide +kernel) (fun c6 => ?_)
        refine b_run [(146, .iconst 1, 0, 0, .null), (147, .iadd, 0, 0, .null)] (pc' := 148) (ls' := [some (.ref 1315), some (.long y1), none, none, none, some (.int y5), some (.int c3)]) (st' := [.int (c6 + 1), .ref 1315]) (by decide +kernel) rfl ?_
        refine b_pI (q := 155) (ci := 9) (k := 1) (w := .null) (by decide +kernel) (by decide +kernel) (fit_I _) (fun σ7 => ?_)
        exact b_wk (wS (wS (wN (wN (wN (wS (wN w0))))))) (s145_151 hv F (f145_109 F n) ih y1 y5 σ7)
def f145_80 (F : Nat) (k14 : Int64 → Int32 → Int32 → Int32 → St → Rs) (y1 : Int64) (y4 : Int32) (y5 : Int32) (z0 : Int32) (σ : St) : Rs := k14 y1 z0 y4 (y5 + Int32.ofInt (-8)) σ
theorem s145_80 {sc : aSc} (hv : vOk sc) (F : Nat) (k14 : Int64 → Int32 → Int32 → Int32 → St → Rs) (hk14 : ∀ y1 y3 y4 y5 σ, bEx sc 0 145 14 [some (.ref 1315), some (.long y1), none, some (.int y3), some (.int y4), some (.int y5), none] [] σ (k14 y1 y3 y4 y5 σ)) (y1 : Int64) (y4 : Int32) (y5 : Int32) (z0 : Int32) (σ : St) : bEx sc 0 145 80 [some (.ref 1315), some (.long y1), none, none, some (.int y4), some (.int y5), none] [.int z0] σ (f145_80 F k14 y1 y4 y5 z0 σ) := by
  unfold f145_80
  refine b_run [(80, .istore_n 3, 0, 0, .null), (81, .iinc 5 (-8), 0, 0, .null), (84, .goto (-70), 14, 0, .null)] (pc' := 14) (ls' := [some (.ref 1315), some (.long y1), none, some (.int z0), some (.int y4), some (.int (y5 + Int32.ofInt (-8))), none]) (st' := []) (by decide +kernel) rfl ?_
  exact b_wk (wS (wS (wN (wS (wS (wS (wN w0))))))) (hk14 y1 z0 y4 (y5 + Int32.ofInt (-8)) σ)
def f145_66 (F : Nat) (k14 : Int64 → Int32 → Int32 → Int32 → St → Rs) (y1 : Int64) (y3 : Int32) (y5 : Int32) (y6 : Int32) (z0 : Int32) (σ : St) : Rs := if y6 = 0 then f145_80 F k14 y1 z0 y5 y3 σ
    else f145_80 F k14 y1 z0 y5 (y3 + 1) σ
theorem s145_66 {sc : aSc} (hv : vOk sc) (F : Nat) (k14 : Int64 → Int32 → Int32 → Int32 → St → Rs) (hk14 : ∀ y1 y3 y4 y5 σ, bEx sc 0 145 14 [some (.ref 1315), some (.long y1), none, some (.int y3), some (.int y4), some (.int y5), none] [] σ (k14 y1 y3 y4 y5 σ)) (y1 : Int64) (y3 : Int32) (y5 : Int32) (y6 : Int32) (z0 : Int32) (σ : St) : bEx sc 0 145 66 [some (.ref 1315), some (.long y1), none, some (.int y3), none, some (.int y5), some (.int y6)] [.int z0] σ (f145_66 F k14 y1 y3 y5 y6 z0 σ) := by
  unfold f145_66
  refine b_run [(66, .istore 4, 0, 0, .null), (68, .iload 6, 0, 0, .null)] (pc' := 70) (ls' := [some (.ref 1315), some (.long y1), none, some (.int y3), some (.int z0), some (.int y5), some (.int y6)]) (st' := [.int y6]) (by decide +kernel) rfl ?_
  refine b_izF (c := .ne) (o := 7) (t := 77) (y := 0) (w := .null) (by decide +kernel) cmp_ne (fun _ => ?_) (fun _ => ?_)
  · refine b_run [(73, .iload_n 3, 0, 0, .null), (74, .goto 6, 80, 0, .null)] (pc' := 80) (ls' := [some (.ref 1315), some (.long y1), none, some (.int y3), some (.int z0), some (.int y5), some (.int y6)]) (st' := [.int y3]) (by decide +kernel) rfl ?_
    exact b_wk (wS (wS (wN (wN (wS (wS (wN w0))))))) (s145_80 hv F k14 hk14 y1 z0 y5 y3 σ)
  · refine b_run [(77, .iload_n 3, 0, 0, .null), (78, .iconst 1, 0, 0, .null), (79, .iadd, 0, 0, .null)] (pc' := 80) (ls' := [some (.ref 1315), some (.long y1), none, some (.int y3), some (.int z0), some (.int y5), some (.int y6)]) (st' := [.int (y3 + 1)]) (by decide +kernel) rfl ?_
    exact b_wk (wS (wS (wN (wN (wS (wS (wN w0))))))) (s145_80 hv F k14 hk14 y1 z0 y5 (y3 + 1) σ)
def f145_65 (F : Nat) (k14 : Int64 → Int32 → Int32 → Int32 → St → Rs) (y1 : Int64) (y3 : Int32) (y5 : Int32) (y6 : Int32) (σ : St) : Rs := f145_66 F k14 y1 y3 y5 y6 0 σ
theorem s145_65 {sc : aSc} (hv : vOk sc) (F : Nat) (k14 : Int64 → Int32 → Int32 → Int32 → St → Rs) (hk14 : ∀ y1 y3 y4 y5 σ, bEx sc 0 145 14 [some (.ref 1315), some (.long y1), none, some (.int y3), some (.int y4), some (.int y5), none] [] σ (k14 y1 y3 y4 y5 σ)) (y1 : Int64) (y3 : Int32) (y5 : Int32) (y6 : Int32) (σ : St) : bEx sc 0 145 65 [some (.ref 1315), some (.long y1), none, some (.int y3), none, some (.int y5), some (.int y6)] [] σ (f145_65 F k14 y1 y3 y5 y6 σ) := by
  unfold f145_65
  refine b_run [(65, .iconst 0, 0, 0, .null)] (pc' := 66) (ls' := [some (.ref 1315), some (.long y1), none, some (.int y3), none, some (.int y5), some (.int y6)]) (st' := [.int 0]) (by decide +kernel) rfl ?_
  exact b_wk (wS (wS (wN (wS (wN (wS (wS w0))))))) (s145_66 hv F k14 hk14 y1 y3 y5 y6 0 σ)
def f145_61 (F : Nat) (k14 : Int64 → Int32 → Int32 → Int32 → St → Rs) (y1 : Int64) (y3 : Int32) (y5 : Int32) (y6 : Int32) (σ : St) : Rs := f145_66 F k14 y1 y3 y5 y6 1 σ
theorem s145_61 {sc : aSc} (hv : vOk sc) (F : Nat) (k14 : Int64 → Int32 → Int32 → Int32 → St → Rs) (hk14 : ∀ y1 y3 y4 y5 σ, bEx sc 0 145 14 [some (.ref 1315), some (.long y1), none, some (.int y3), some (.int y4), some (.int y5), none] [] σ (k14 y1 y3 y4 y5 σ)) (y1 : Int64) (y3 : Int32) (y5 : Int32) (y6 : Int32) (σ : St) : bEx sc 0 145 61 [some (.ref 1315), some (.long y1), none, some (.int y3), none, some (.int y5), some (.int y6)] [] σ (f145_61 F k14 y1 y3 y5 y6 σ) := by
  unfold f145_61
  refine b_run [(61, .iconst 1, 0, 0, .null), (62, .goto 4, 66, 0, .null)] (pc' := 66) (ls' := [some (.ref 1315), some (.long y1), none, some (.int y3), none, some (.int y5), some (.int y6)]) (st' := [.int 1]) (by decide +kernel) rfl ?_
  exact b_wk (wS (wS (wN (wS (wN (wS (wS w0))))))) (s145_66 hv F k14 hk14 y1 y3 y5 y6 1 σ)
def f145_14 (F : Nat) : Nat → Int64 → Int32 → Int32 → Int32 → St → Rs
  | 0, _, _, _, _, _ => none
  | n + 1, y1, y3, y4, y5, σ => if y5 < 0 then 
    if y4 = 0 then oI 0 σ
    else lt (σ.1 1315 1) fun c2 => 
    if 120 < c2 + y3 then oI 0 σ
    else f145_109 F F y1 56 σ
    else lt (((((y1 : Int64).toUInt64 >>> ((y5 : Int32).toInt64.toUInt64 &&& Int64.toUInt64 63)).toInt64 : Int64).toInt32) &&& 255) fun c8 => 
    if y4 = 0 then f145_65 F (f145_14 F n) y1 y3 y5 c8 σ
    else if c8 = 0 then f145_61 F (f145_14 F n) y1 y3 y5 c8 σ
    else if c8 = 10 then f145_61 F (f145_14 F n) y1 y3 y5 c8 σ
    else if c8 < 32 then f145_65 F (f145_14 F n) y1 y3 y5 c8 σ
    else if 126 < c8 then f145_65 F (f145_14 F n) y1 y3 y5 c8 σ
    else f145_61 F (f145_14 F n) y1 y3 y5 c8 σ
theorem s145_14 {sc : aSc} (hv : vOk sc) (F : Nat) : ∀ (n : Nat) (y1 : Int64) (y3 : Int32) (y4 : Int32) (y5 : Int32) (σ : St), bEx sc 0 145 14 [some (.ref 1315), some (.long y1), none, some (.int y3), some (.int y4), some (.int y5), none] [] σ (f145_14 F n y1 y3 y4 y5 σ) := by
  intro n
  induction n with
  | zero => intro y1 y3 y4 y5 σ; exact b_none
  | succ n ih =>
    intro y1 y3 y4 y5 σ
    rw [f145_14.eq_2]
    refine b_run [(14, .iload 5, 0, 0, .null)] (pc' := 16) (ls' := [some (.ref 1315), some (.long y1), none, some (.int y3), some (.int y4), some (.int y5), none]) (st' := [.int y5]) (by decide +kernel) rfl ?_
    refine b_izT (c := .lt) (o := 71) (t := 87) (y := 0) (w := .null) (by decide +kernel) cmp_lt (fun _ => ?_) (fun _ => ?_)
    · refine b_run [(87, .iload 4, 0, 0, .null)] (pc' := 89) (ls' := [some (.ref 1315), some (.long y1), none, some (.int y3), some (.int y4), some (.int y5), none]) (st' := [.int y4]) (by decide +kernel) rfl ?_
      refine b_izT (c := .eq) (o := 14) (t := 103) (y := 0) (w := .null) (by decide +kernel) cmp_eq (fun _ => ?_) (fun _ => ?_)
      · refine b_run [(103, .iconst 0, 0, 0, .null)] (pc' := 104) (ls' := [some (.ref 1315), some (.long y1), none, some (.int y3), some (.int y4), some (.int y5), none]) (st' := [.int 0]) (by decide +kernel) rfl ?_
        exact b_ret (i := (.ireturn, 0, 0, .null)) (by decide +kernel) rfl rfl (by decide +kernel)
      · refine b_run [(92, .aload_n 0, 0, 0, .null)] (pc' := 93) (ls' := [some (.ref 1315), some (.long y1), none, some (.int y3), some (.int y4), some (.int y5), none]) (st' := [.ref 1315]) (by decide +kernel) rfl ?_
        refine b_gI (q := 155) (ci := 9) (k := 1) (w := .null) (by decide +kernel) (by decide +kernel) (fun c2 => ?_)
        refine b_run [(96, .iload_n 3, 0, 0, .null), (97, .iadd, 0, 0, .null), (98, .bipush 120, 0, 0, .null)] (pc' := 100) (ls' := [some (.ref 1315), some (.long y1), none, some (.int y3), some (.int y4), some (.int y5), none]) (st' := [.int 120, .int (c2 + y3)]) (by decide +kernel) rfl ?_
        refine b_icF (c := .le) (o := 5) (t := 105) (y := 0) (w := .null) (by decide +kernel) cmp_le (fun _ => ?_) (fun _ => ?_)
        · refine b_run [(103, .iconst 0, 0, 0, .null)] (pc' := 104) (ls' := [some (.ref 1315), some (.long y1), none, some (.int y3), some (.int y4), some (.int y5), none]) (st' := [.int 0]) (by decide +kernel) rfl ?_
          exact b_ret (i := (.ireturn, 0, 0, .null)) (by decide +kernel) rfl rfl (by decide +kernel)
        · refine b_run [(105, .bipush 56, 0, 0, .null), (107, .istore 5, 0, 0, .null)] (pc' := 109) (ls' := [some (.ref 1315), some (.long y1), none, some (.int y3), some (.int y4), some (.int 56), none]) (st' := []) (by decide +kernel) rfl ?_
          exact b_wk (wS (wS (wN (wN (wN (wS (wN w0))))))) (s145_109 hv F F y1 56 σ)
    · refine b_run [(19, .lload_n 1, 0, 0, .null), (20, .iload 5, 0, 0, .null), (22, .lushr, 0, 0, .null), (23, .l2i, 0, 0, .null), (24, .sipush 255, 0, 0, .null), (27, .iand, 0, 0, .null), (28, .istore 6, 0, 0, .null)] (pc' := 30) (ls' := [some (.ref 1315), some (.long y1), none, some (.int y3), some (.int y4), some (.int y5), some (.int (((((y1 : Int64).toUInt64 >>> ((y5 : Int32).toInt64.toUInt64 &&& Int64.toUInt64 63)).toInt64 : Int64).toInt32) &&& 255))]) (st' := []) (by decide +kernel) rfl ?_
      refine b_let (((((y1 : Int64).toUInt64 >>> ((y5 : Int32).toInt64.toUInt64 &&& Int64.toUInt64 63)).toInt64 : Int64).toInt32) &&& 255) (L := fun c8 => [some (.ref 1315), some (.long y1), none, some (.int y3), some (.int y4), some (.int y5), some (.int c8)]) (S := fun _ => []) (fun c8 => ?_)
      refine b_run [(30, .iload 4, 0, 0, .null)] (pc' := 32) (ls' := [some (.ref 1315), some (.long y1), none, some (.int y3), some (.int y4), some (.int y5), some (.int c8)]) (st' := [.int y4]) (by decide +kernel) rfl ?_
      refine b_izT (c := .eq) (o := 33) (t := 65) (y := 0) (w := .null) (by decide +kernel) cmp_eq (fun _ => ?_) (fun _ => ?_)
      · exact b_wk (wS (wS (wN (wS (wN (wS (wS w0))))))) (s145_65 hv F (f145_14 F n) ih y1 y3 y5 c8 σ)
      · refine b_run [(35, .iload 6, 0, 0, .null)] (pc' := 37) (ls' := [some (.ref 1315), some (.long y1), none, some (.int y3), some (.int y4), some (.int y5), some (.int c8)]) (st' := [.int c8]) (by decide +kernel) rfl ?_
        refine b_izT (c := .eq) (o := 24) (t := 61) (y := 0) (w := .null) (by decide +kernel) cmp_eq (fun _ => ?_) (fun _ => ?_)
        · exact b_wk (wS (wS (wN (wS (wN (wS (wS w0))))))) (s145_61 hv F (f145_14 F n) ih y1 y3 y5 c8 σ)
        · refine b_run [(40, .iload 6, 0, 0, .null), (42, .bipush 10, 0, 0, .null)] (pc' := 44) (ls' := [some (.ref 1315), some (.long y1), none, some (.int y3), some (.int y4), some (.int y5), some (.int c8)]) (st' := [.int 10, .int c8]) (by decide +kernel) rfl ?_
          refine b_icT (c := .eq) (o := 17) (t := 61) (y := 0) (w := .null) (by decide +kernel) cmp_eq (fun _ => ?_) (fun _ => ?_)
          · exact b_wk (wS (wS (wN (wS (wN (wS (wS w0))))))) (s145_61 hv F (f145_14 F n) ih y1 y3 y5 c8 σ)
          · refine b_run [(47, .iload 6, 0, 0, .null), (49, .bipush 32, 0, 0, .null)] (pc' := 51) (ls' := [some (.ref 1315), some (.long y1), none, some (.int y3), some (.int y4), some (.int y5), some (.int c8)]) (st' := [.int 32, .int c8]) (by decide +kernel) rfl ?_
            refine b_icT (c := .lt) (o := 14) (t := 65) (y := 0) (w := .null) (by decide +kernel) cmp_lt (fun _ => ?_) (fun _ => ?_)
            · exact b_wk (wS (wS (wN (wS (wN (wS (wS w0))))))) (s145_65 hv F (f145_14 F n) ih y1 y3 y5 c8 σ)
            · refine b_run [(54, .iload 6, 0, 0, .null), (56, .bipush 126, 0, 0, .null)] (pc' := 58) (ls' := [some (.ref 1315), some (.long y1), none, some (.int y3), some (.int y4), some (.int y5), some (.int c8)]) (st' := [.int 126, .int c8]) (by decide +kernel) rfl ?_
              refine b_icT (c := .gt) (o := 7) (t := 65) (y := 0) (w := .null) (by decide +kernel) cmp_gt (fun _ => ?_) (fun _ => ?_)
              · exact b_wk (wS (wS (wN (wS (wN (wS (wS w0))))))) (s145_65 hv F (f145_14 F n) ih y1 y3 y5 c8 σ)
              · exact b_wk (wS (wS (wN (wS (wN (wS (wS w0))))))) (s145_61 hv F (f145_14 F n) ih y1 y3 y5 c8 σ)
/-- TreeStoreModel.type(J)Z -/
def f145 (F : Nat) (x1 : Int64) (σ : St) : Rs := lt (uI σ 1315 0 0) fun σ1 => f145_14 F F x1 0 1 56 σ1
theorem s145 {sc : aSc} (hv : vOk sc) (F : Nat) (x1 : Int64) (σ : St) : bEx sc 0 145 0 [some (.ref 1315), some (.long x1), none, none, none, none, none] [] σ (f145 F x1 σ) := by
  unfold f145
  refine b_run [(0, .aload_n 0, 0, 0, .null), (1, .iconst 0, 0, 0, .null)] (pc' := 2) (ls' := [some (.ref 1315), some (.long x1), none, none, none, none, none]) (st' := [.int 0, .ref 1315]) (by decide +kernel) rfl ?_
  refine b_pI (q := 152) (ci := 9) (k := 0) (w := .null) (by decide +kernel) (by decide +kernel) (fit_I _) (fun σ1 => ?_)
  refine b_run [(5, .iconst 0, 0, 0, .null), (6, .istore_n 3, 0, 0, .null), (7, .iconst 1, 0, 0, .null), (8, .istore 4, 0, 0, .null), (10, .bipush 56, 0, 0, .null), (12, .istore 5, 0, 0, .null)] (pc' := 14) (ls' := [some (.ref 1315), some (.long x1), none, some (.int 0), some (.int 1), some (.int 56), none]) (st' := []) (by decide +kernel) rfl ?_
  exact b_wk (wS (wS (wN (wS (wS (wS (wN w0))))))) (s145_14 hv F F x1 0 1 56 σ1)
/-- TreeStoreModel.wipe()V -/
def f146 (F : Nat) (σ : St) : Rs := lt (uI σ 1315 0 0) fun σ1 => lt (uI σ1 1315 1 0) fun σ2 => oV σ2
theorem s146 {sc : aSc} (hv : vOk sc) (F : Nat) (σ : St) : bEx sc 0 146 0 [some (.ref 1315)] [] σ (f146 F σ) := by
  unfold f146
  refine b_run [(0, .aload_n 0, 0, 0, .null), (1, .iconst 0, 0, 0, .null)] (pc' := 2) (ls' := [some (.ref 1315)]) (st' := [.int 0, .ref 1315]) (by decide +kernel) rfl ?_
  refine b_pI (q := 152) (ci := 9) (k := 0) (w := .null) (by decide +kernel) (by decide +kernel) (fit_I _) (fun σ1 => ?_)
  refine b_run [(5, .aload_n 0, 0, 0, .null), (6, .iconst 0, 0, 0, .null)] (pc' := 7) (ls' := [some (.ref 1315)]) (st' := [.int 0, .ref 1315]) (by decide +kernel) rfl ?_
  refine b_pI (q := 155) (ci := 9) (k := 1) (w := .null) (by decide +kernel) (by decide +kernel) (fit_I _) (fun σ2 => ?_)
  exact b_ret0 (i := (.return_, 0, 0, .null)) (by decide +kernel) rfl rfl
/-- TreeStoreModel.raise(I)I -/
def f172 (F : Nat) (x1 : Int32) (σ : St) : Rs := lt (uI σ 1315 0 x1) fun σ1 => oI 0 σ1
theorem s172 {sc : aSc} (hv : vOk sc) (F : Nat) (x1 : Int32) (σ : St) : bEx sc 0 172 0 [some (.ref 1315), some (.int x1)] [] σ (f172 F x1 σ) := by
  unfold f172
  refine b_run [(0, .aload_n 0, 0, 0, .null), (1, .iload_n 1, 0, 0, .null)] (pc' := 2) (ls' := [some (.ref 1315), some (.int x1)]) (st' := [.int x1, .ref 1315]) (by decide +kernel) rfl ?_
  refine b_pI (q := 152) (ci := 9) (k := 0) (w := .null) (by decide +kernel) (by decide +kernel) (fit_I _) (fun σ1 => ?_)
  refine b_run [(5, .iconst 0, 0, 0, .null)] (pc' := 6) (ls' := [some (.ref 1315), some (.int x1)]) (st' := [.int 0]) (by decide +kernel) rfl ?_
  exact b_ret (i := (.ireturn, 0, 0, .null)) (by decide +kernel) rfl rfl (fit_I _)
/-- TreeStoreModel.beginTree()V -/
def f173 (F : Nat) (σ : St) : Rs := lt (uI σ 1315 13 0) fun σ1 => lt (uI σ1 1315 14 0) fun σ2 => oV σ2
theorem s173 {sc : aSc} (hv : vOk sc) (F : Nat) (σ : St) : bEx sc 0 173 0 [some (.ref 1315)] [] σ (f173 F σ) := by
  unfold f173
  refine b_run [(0, .aload_n 0, 0, 0, .null), (1, .iconst 0, 0, 0, .null)] (pc' := 2) (ls' := [some (.ref 1315)]) (st' := [.int 0, .ref 1315]) (by decide +kernel) rfl ?_
  refine b_pI (q := 249) (ci := 9) (k := 13) (w := .null) (by decide +kernel) (by decide +kernel) (fit_I _) (fun σ1 => ?_)
  refine b_run [(5, .aload_n 0, 0, 0, .null), (6, .iconst 0, 0, 0, .null)] (pc' := 7) (ls' := [some (.ref 1315)]) (st' := [.int 0, .ref 1315]) (by decide +kernel) rfl ?_
  refine b_pI (q := 252) (ci := 9) (k := 14) (w := .null) (by decide +kernel) (by decide +kernel) (fit_I _) (fun σ2 => ?_)
  exact b_ret0 (i := (.return_, 0, 0, .null)) (by decide +kernel) rfl rfl
def f176_2 (F : Nat) : Nat → Int32 → Int32 → Int32 → St → Rs
  | 0, _, _, _, _ => none
  | n + 1, y1, y2, y3, σ => if y3 < y2 then 
    lt (σ.1 1315 14) fun c1 => 
    if inB (y1 + y3) 4300 then lt (σ.1 1323 (y1 + y3).toNatClampNeg) fun c2 => 
    if inB c1 4300 then lt (uI σ 1332 c1.toNatClampNeg (vp_nar .char c2)) fun σ3 => lt (σ3.1 1315 14) fun c4 => lt (uI σ3 1315 14 (c4 + 1)) fun σ5 => f176_2 F n y1 y2 (y3 + 1) σ5 else none else none
    else oV σ
theorem s176_2 {sc : aSc} (hv : vOk sc) (F : Nat) : ∀ (n : Nat) (y1 : Int32) (y2 : Int32) (y3 : Int32) (σ : St), bEx sc 0 176 2 [some (.ref 1315), some (.int y1), some (.int y2), some (.int y3)] [] σ (f176_2 F n y1 y2 y3 σ) := by
  intro n
  induction n with
  | zero => intro y1 y2 y3 σ; exact b_none
  | succ n ih =>
    intro y1 y2 y3 σ
    rw [f176_2.eq_2]
    refine b_run [(2, .iload_n 3, 0, 0, .null), (3, .iload_n 2, 0, 0, .null)] (pc' := 4) (ls' := [some (.ref 1315), some (.int y1), some (.int y2), some (.int y3)]) (st' := [.int y2, .int y3]) (by decide +kernel) rfl ?_
    refine b_icF (c := .ge) (o := 36) (t := 40) (y := 0) (w := .null) (by decide +kernel) cmp_ge (fun _ => ?_) (fun _ => ?_)
    · refine b_run [(7, .aload_n 0, 0, 0, .null)] (pc' := 8) (ls' := [some (.ref 1315), some (.int y1), some (.int y2), some (.int y3)]) (st' := [.ref 1315]) (by decide +kernel) rfl ?_
      refine b_getC (b := 1332) (q := 59) (ci := 9) (k := 21) (w := .null) (by decide +kernel) (by decide +kernel) ?_
      refine b_run [(11, .aload_n 0, 0, 0, .null)] (pc' := 12) (ls' := [some (.ref 1315), some (.int y1), some (.int y2), some (.int y3)]) (st' := [.ref 1315, .ref 1332]) (by decide +kernel) rfl ?_
      refine b_gI (q := 252) (ci := 9) (k := 14) (w := .null) (by decide +kernel) (by decide +kernel) (fun c1 => ?_)
      refine b_run [(15, .aload_n 0, 0, 0, .null)] (pc' := 16) (ls' := [some (.ref 1315), some (.int y1), some (.int y2), some (.int y3)]) (st' := [.ref 1315, .int c1, .ref 1332]) (by decide +kernel) rfl ?_
      refine b_getC (b := 1323) (q := 31) (ci := 9) (k := 10) (w := .null) (by decide +kernel) (by decide +kernel) ?_
      refine b_run [(19, .iload_n 1, 0, 0, .null), (20, .iload_n 3, 0, 0, .null), (21, .iadd, 0, 0, .null)] (pc' := 22) (ls' := [some (.ref 1315), some (.int y1), some (.int y2), some (.int y3)]) (st' := [.int (y1 + y3), .ref 1323, .int c1, .ref 1332]) (by decide +kernel) rfl ?_
      refine b_guard (fun hb => ?_)
      refine b_aC (ci := 0) (y := 0) (w := .null) (by decide +kernel) (by decide +kernel) hb (fun c2 => ?_)
      refine b_guard (fun hb => ?_)
      refine b_sC (ci := 0) (y := 0) (w := .null) (by decide +kernel) (by decide +kernel) hb (fun σ3 => ?_)
      refine b_run [(24, .aload_n 0, 0, 0, .null), (25, .dup, 0, 0, .null)] (pc' := 26) (ls' := [some (.ref 1315), some (.int y1), some (.int y2), some (.int y3)]) (st' := [.ref 1315, .ref 1315]) (by decide +kernel) rfl ?_
      refine b_gI (q := 252) (ci := 9) (k := 14) (w := .null) (by decide +kernel) (by decide +kernel) (fun c4 => ?_)
      refine b_run [(29, .iconst 1, 0, 0, .null), (30, .iadd, 0, 0, .null)] (pc' := 31) (ls' := [some (.ref 1315), some (.int y1), some (.int y2), some (.int y3)]) (st' := [.int (c4 + 1), .ref 1315]) (by decide +kernel) rfl ?_
      refine b_pI (q := 252) (ci := 9) (k := 14) (w := .null) (by decide +kernel) (by decide +kernel) (fit_I _) (fun σ5 => ?_)
      refine b_run [(34, .iinc 3 1, 0, 0, .null), (37, .goto (-35), 2, 0, .null)] (pc' := 2) (ls' := [some (.ref 1315), some (.int y1), some (.int y2), some (.int (y3 + 1))]) (st' := []) (by decide +kernel) rfl ?_
      exact b_wk (wS (wS (wS (wS w0)))) (ih y1 y2 (y3 + 1) σ5)
    · exact b_ret0 (i := (.return_, 0, 0, .null)) (by decide +kernel) rfl rfl
/-- TreeStoreModel.copyOld(II)V -/
def f176 (F : Nat) (x1 : Int32) (x2 : Int32) (σ : St) : Rs := f176_2 F F x1 x2 0 σ
theorem s176 {sc : aSc} (hv : vOk sc) (F : Nat) (x1 : Int32) (x2 : Int32) (σ : St) : bEx sc 0 176 0 [some (.ref 1315), some (.int x1), some (.int x2), none] [] σ (f176 F x1 x2 σ) := by
  unfold f176
  refine b_run [(0, .iconst 0, 0, 0, .null), (1, .istore_n 3, 0, 0, .null)] (pc' := 2) (ls' := [some (.ref 1315), some (.int x1), some (.int x2), some (.int 0)]) (st' := []) (by decide +kernel) rfl ?_
  exact b_wk (wS (wS (wS (wS w0)))) (s176_2 hv F F x1 x2 0 σ)
def f175_49 (F : Nat) (y1 : Int32) (y2 : Int32) (σ : St) : Rs := lt (σ.1 1315 13) fun c7 => 
    if inB c7 31 then lt (uI σ 1326 c7.toNatClampNeg y1) fun σ8 => 
    lt (σ8.1 1315 13) fun c9 => 
    if inB c9 31 then lt (uI σ8 1327 c9.toNatClampNeg y2) fun σ10 => 
    lt (σ10.1 1315 13) fun c11 => 
    lt (σ10.1 1315 14) fun c12 => 
    if inB c11 31 then lt (uI σ10 1328 c11.toNatClampNeg c12) fun σ13 => 
    lt (σ13.1 1315 13) fun c14 => 
    if inB c14 31 then lt (uI σ13 1329 c14.toNatClampNeg 0) fun σ15 => 
    lt (σ15.1 1315 13) fun c16 => 
    lt (σ15.1 1315 14) fun c17 => 
    if inB c16 31 then lt (uI σ15 1330 c16.toNatClampNeg c17) fun σ18 => 
    lt (σ18.1 1315 13) fun c19 => 
    if inB c19 31 then lt (uI σ18 1331 c19.toNatClampNeg 0) fun σ20 => lt (σ20.1 1315 13) fun c21 => lt (uI σ20 1315 13 (c21 + 1)) fun σ22 => lt (σ22.1 1315 13) fun c23 => oI (c23 - 1) σ22 else none else none else none else none else none else none
theorem s175_49 {sc : aSc} (hv : vOk sc) (F : Nat) (y1 : Int32) (y2 : Int32) (σ : St) : bEx sc 0 175 49 [some (.ref 1315), some (.int y1), some (.int y2)] [] σ (f175_49 F y1 y2 σ) := by
  unfold f175_49
  refine b_run [(49, .aload_n 0, 0, 0, .null)] (pc' := 50) (ls' := [some (.ref 1315), some (.int y1), some (.int y2)]) (st' := [.ref 1315]) (by decide +kernel) rfl ?_
  refine b_getC (b := 1326) (q := 41) (ci := 9) (k := 15) (w := .null) (by decide +kernel) (by decide +kernel) ?_
  refine b_run [(53, .aload_n 0, 0, 0, .null)] (pc' := 54) (ls' := [some (.ref 1315), some (.int y1), some (.int y2)]) (st' := [.ref 1315, .ref 1326]) (by decide +kernel) rfl ?_
  refine b_gI (q := 249) (ci := 9) (k := 13) (w := .null) (by decide +kernel) (by decide +kernel) (fun c7 => ?_)
  refine b_run [(57, .iload_n 1, 0, 0, .null)] (pc' := 58) (ls' := [some (.ref 1315), some (.int y1), some (.int y2)]) (st' := [.int y1, .int c7, .ref 1326]) (by decide +kernel) rfl ?_
  refine b_guard (fun hb => ?_)
  refine b_sI (ci := 0) (y := 0) (w := .null) (by decide +kernel) (by decide +kernel) hb (fun σ8 => ?_)
  refine b_run [(59, .aload_n 0, 0, 0, .null)] (pc' := 60) (ls' := [some (.ref 1315), some (.int y1), some (.int y2)]) (st' := [.ref 1315]) (by decide +kernel) rfl ?_
  refine b_getC (b := 1327) (q := 44) (ci := 9) (k := 16) (w := .null) (by decide +kernel) (by decide +kernel) ?_
  refine b_run [(63, .aload_n 0, 0, 0, .null)] (pc' := 64) (ls' := [some (.ref 1315), some (.int y1), some (.int y2)]) (st' := [.ref 1315, .ref 1327]) (by decide +kernel) rfl ?_
  refine b_gI (q := 249) (ci := 9) (k := 13) (w := .null) (by decide +kernel) (by decide +kernel) (fun c9 => ?_)
  refine b_run [(67, .iload_n 2, 0, 0, .null)] (pc' := 68) (ls' := [some (.ref 1315), some (.int y1), some (.int y2)]) (st' := [.int y2, .int c9, .ref 1327]) (by decide +kernel) rfl ?_
  refine b_guard (fun hb => ?_)
  refine b_sI (ci := 0) (y := 0) (w := .null) (by decide +kernel) (by decide +kernel) hb (fun σ10 => ?_)
  refine b_run [(69, .aload_n 0, 0, 0, .null)] (pc' := 70) (ls' := [some (.ref 1315), some (.int y1), some (.int y2)]) (st' := [.ref 1315]) (by decide +kernel) rfl ?_
  refine b_getC (b := 1328) (q := 47) (ci := 9) (k := 17) (w := .null) (by decide +kernel) (by decide +kernel) ?_
  refine b_run [(73, .aload_n 0, 0, 0, .null)] (pc' := 74) (ls' := [some (.ref 1315), some (.int y1), some (.int y2)]) (st' := [.ref 1315, .ref 1328]) (by decide +kernel) rfl ?_
  refine b_gI (q := 249) (ci := 9) (k := 13) (w := .null) (by decide +kernel) (by decide +kernel) (fun c11 => ?_)
  refine b_run [(77, .aload_n 0, 0, 0, .null)] (pc' := 78) (ls' := [some (.ref 1315), some (.int y1), some (.int y2)]) (st' := [.ref 1315, .int c11, .ref 1328]) (by decide +kernel) rfl ?_
  refine b_gI (q := 252) (ci := 9) (k := 14) (w := .null) (by decide +kernel) (by decide +kernel) (fun c12 => ?_)
  refine b_guard (fun hb => ?_)
  refine b_sI (ci := 0) (y := 0) (w := .null) (by decide +kernel) (by decide +kernel) hb (fun σ13 => ?_)
  refine b_run [(82, .aload_n 0, 0, 0, .null)] (pc' := 83) (ls' := [some (.ref 1315), some (.int y1), some (.int y2)]) (st' := [.ref 1315]) (by decide +kernel) rfl ?_
  refine b_getC (b := 1329) (q := 50) (ci := 9) (k := 18) (w := .null) (by decide +kernel) (by decide +kernel) ?_
  refine b_run [(86, .aload_n 0, 0, 0, .null)] (pc' := 87) (ls' := [some (.ref 1315), some (.int y1), some (.int y2)]) (st' := [.ref 1315, .ref 1329]) (by decide +kernel) rfl ?_
  refine b_gI (q := 249) (ci := 9) (k := 13) (w := .null) (by decide +kernel) (by decide +kernel) (fun c14 => ?_)
  refine b_run [(90, .iconst 0, 0, 0, .null)] (pc' := 91) (ls' := [some (.ref 1315), some (.int y1), some (.int y2)]) (st' := [.int 0, .int c14, .ref 1329]) (by decide +kernel) rfl ?_
  refine b_guard (fun hb => ?_)
  refine b_sI (ci := 0) (y := 0) (w := .null) (by decide +kernel) (by decide +kernel) hb (fun σ15 => ?_)
  refine b_run [(92, .aload_n 0, 0, 0, .null)] (pc' := 93) (ls' := [some (.ref 1315), some (.int y1), some (.int y2)]) (st' := [.ref 1315]) (by decide +kernel) rfl ?_
  refine b_getC (b := 1330) (q := 53) (ci := 9) (k := 19) (w := .null) (by decide +kernel) (by decide +kernel) ?_
  refine b_run [(96, .aload_n 0, 0, 0, .null)] (pc' := 97) (ls' := [some (.ref 1315), some (.int y1), some (.int y2)]) (st' := [.ref 1315, .ref 1330]) (by decide +kernel) rfl ?_
  refine b_gI (q := 249) (ci := 9) (k := 13) (w := .null) (by decide +kernel) (by decide +kernel) (fun c16 => ?_)
  refine b_run [(100, .aload_n 0, 0, 0, .null)] (pc' := 101) (ls' := [some (.ref 1315), some (.int y1), some (.int y2)]) (st' := [.ref 1315, .int c16, .ref 1330]) (by decide +kernel) rfl ?_
  refine b_gI (q := 252) (ci := 9) (k := 14) (w := .null) (by decide +kernel) (by decide +kernel) (fun c17 => ?_)
  refine b_guard (fun hb => ?_)
  refine b_sI (ci := 0) (y := 0) (w := .null) (by decide +kernel) (by decide +kernel) hb (fun σ18 => ?_)
  refine b_run [(105, .aload_n 0, 0, 0, .null)] (pc' := 106) (ls' := [some (.ref 1315), some (.int y1), some (.int y2)]) (st' := [.ref 1315]) (by decide +kernel) rfl ?_
  refine b_getC (b := 1331) (q := 56) (ci := 9) (k := 20) (w := .null) (by decide +kernel) (by decide +kernel) ?_
  refine b_run [(109, .aload_n 0, 0, 0, .null)] (pc' := 110) (ls' := [some (.ref 1315), some (.int y1), some (.int y2)]) (st' := [.ref 1315, .ref 1331]) (by decide +kernel) rfl ?_
  refine b_gI (q := 249) (ci := 9) (k := 13) (w := .null) (by decide +kernel) (by decide +kernel) (fun c19 => ?_)
  refine b_run [(113, .iconst 0, 0, 0, .null)] (pc' := 114) (ls' := [some (.ref 1315), some (.int y1), some (.int y2)]) (st' := [.int 0, .int c19, .ref 1331]) (by decide +kernel) rfl ?_
  refine b_guard (fun hb => ?_)
  refine b_sI (ci := 0) (y := 0) (w := .null) (by decide +kernel) (by decide +kernel) hb (fun σ20 => ?_)
  refine b_run [(115, .aload_n 0, 0, 0, .null), (116, .dup, 0, 0, .null)] (pc' := 117) (ls' := [some (.ref 1315), some (.int y1), some (.int y2)]) (st' := [.ref 1315, .ref 1315]) (by decide +kernel) rfl ?_
  refine b_gI (q := 249) (ci := 9) (k := 13) (w := .null) (by decide +kernel) (by decide +kernel) (fun c21 => ?_)
  refine b_run [(120, .iconst 1, 0, 0, .null), (121, .iadd, 0, 0, .null)] (pc' := 122) (ls' := [some (.ref 1315), some (.int y1), some (.int y2)]) (st' := [.int (c21 + 1), .ref 1315]) (by decide +kernel) rfl ?_
  refine b_pI (q := 249) (ci := 9) (k := 13) (w := .null) (by decide +kernel) (by decide +kernel) (fit_I _) (fun σ22 => ?_)
  refine b_run [(125, .aload_n 0, 0, 0, .null)] (pc' := 126) (ls' := [some (.ref 1315), some (.int y1), some (.int y2)]) (st' := [.ref 1315]) (by decide +kernel) rfl ?_
  refine b_gI (q := 249) (ci := 9) (k := 13) (w := .null) (by decide +kernel) (by decide +kernel) (fun c23 => ?_)
  refine b_run [(129, .iconst 1, 0, 0, .null), (130, .isub, 0, 0, .null)] (pc' := 131) (ls' := [some (.ref 1315), some (.int y1), some (.int y2)]) (st' := [.int (c23 - 1)]) (by decide +kernel) rfl ?_
  exact b_ret (i := (.ireturn, 0, 0, .null)) (by decide +kernel) rfl rfl (fit_I _)
/-- TreeStoreModel.place(II)I -/
def f175 (F : Nat) (x1 : Int32) (x2 : Int32) (σ : St) : Rs := if x1 = 3 then 
    lt (σ.1 1315 13) fun c1 => 
    if 0 < c1 then 
    lt (σ.1 1315 13) fun c2 => 
    if inB (c2 - 1) 31 then lt (σ.1 1326 (c2 - 1).toNatClampNeg) fun c3 => 
    if c3 = 3 then 
    lt (σ.1 1315 13) fun c4 => 
    if inB (c4 - 1) 31 then lt (σ.1 1327 (c4 - 1).toNatClampNeg) fun c5 => 
    if c5 = x2 then lt (σ.1 1315 13) fun c6 => oI (c6 - 1) σ
    else f175_49 F x1 x2 σ else none
    else f175_49 F x1 x2 σ else none
    else f175_49 F x1 x2 σ
    else f175_49 F x1 x2 σ
theorem s175 {sc : aSc} (hv : vOk sc) (F : Nat) (x1 : Int32) (x2 : Int32) (σ : St) : bEx sc 0 175 0 [some (.ref 1315), some (.int x1), some (.int x2)] [] σ (f175 F x1 x2 σ) := by
  unfold f175
  refine b_run [(0, .iload_n 1, 0, 0, .null), (1, .iconst 3, 0, 0, .null)] (pc' := 2) (ls' := [some (.ref 1315), some (.int x1), some (.int x2)]) (st' := [.int 3, .int x1]) (by decide +kernel) rfl ?_
  refine b_icF (c := .ne) (o := 47) (t := 49) (y := 0) (w := .null) (by decide +kernel) cmp_ne (fun _ => ?_) (fun _ => ?_)
  · refine b_run [(5, .aload_n 0, 0, 0, .null)] (pc' := 6) (ls' := [some (.ref 1315), some (.int x1), some (.int x2)]) (st' := [.ref 1315]) (by decide +kernel) rfl ?_
    refine b_gI (q := 249) (ci := 9) (k := 13) (w := .null) (by decide +kernel) (by decide +kernel) (fun c1 => ?_)
    refine b_izF (c := .le) (o := 40) (t := 49) (y := 0) (w := .null) (by decide +kernel) cmp_le (fun _ => ?_) (fun _ => ?_)
    · refine b_run [(12, .aload_n 0, 0, 0, .null)] (pc' := 13) (ls' := [some (.ref 1315), some (.int x1), some (.int x2)]) (st' := [.ref 1315]) (by decide +kernel) rfl ?_
      refine b_getC (b := 1326) (q := 41) (ci := 9) (k := 15) (w := .null) (by decide +kernel) (by decide +kernel) ?_
      refine b_run [(16, .aload_n 0, 0, 0, .null)] (pc' := 17) (ls' := [some (.ref 1315), some (.int x1), some (.int x2)]) (st' := [.ref 1315, .ref 1326]) (by decide +kernel) rfl ?_
      refine b_gI (q := 249) (ci := 9) (k := 13) (w := .null) (by decide +kernel) (by decide +kernel) (fun c2 => ?_)
      refine b_run [(20, .iconst 1, 0, 0, .null), (21, .isub, 0, 0, .null)] (pc' := 22) (ls' := [some (.ref 1315), some (.int x1), some (.int x2)]) (st' := [.int (c2 - 1), .ref 1326]) (by decide +kernel) rfl ?_
      refine b_guard (fun hb => ?_)
      refine b_aI (ci := 0) (y := 0) (w := .null) (by decide +kernel) (by decide +kernel) hb (fun c3 => ?_)
      refine b_run [(23, .iconst 3, 0, 0, .null)] (pc' := 24) (ls' := [some (.ref 1315), some (.int x1), some (.int x2)]) (st' := [.int 3, .int c3]) (by decide +kernel) rfl ?_
      refine b_icF (c := .ne) (o := 25) (t := 49) (y := 0) (w := .null) (by decide +kernel) cmp_ne (fun _ => ?_) (fun _ => ?_)
      · refine b_run [(27, .aload_n 0, 0, 0, .null)] (pc' := 28) (ls' := [some (.ref 1315), some (.int x1), some (.int x2)]) (st' := [.ref 1315]) (by decide +kernel) rfl ?_
        refine b_getC (b := 1327) (q := 44) (ci := 9) (k := 16) (w := .null) (by decide +kernel) (by decide +kernel) ?_
        refine b_run [(31, .aload_n 0, 0, 0, .null)] (pc' := 32) (ls' := [some (.ref 1315), some (.int x1), some (.int x2)]) (st' := [.ref 1315, .ref 1327]) (by decide +kernel) rfl ?_
        refine b_gI (q := 249) (ci := 9) (k := 13) (w := .null) (by decide +kernel) (by decide +kernel) (fun c4 => ?_)
        refine b_run [(35, .iconst 1, 0, 0, .null), (36, .isub, 0, 0, .null)] (pc' := 37) (ls' := [some (.ref 1315), some (.int x1), some (.int x2)]) (st' := [.int (c4 - 1), .ref 1327]) (by decide +kernel) rfl ?_
        refine b_guard (fun hb => ?_)
        refine b_aI (ci := 0) (y := 0) (w := .null) (by decide +kernel) (by decide +kernel) hb (fun c5 => ?_)
        refine b_run [(38, .iload_n 2, 0, 0, .null)] (pc' := 39) (ls' := [some (.ref 1315), some (.int x1), some (.int x2)]) (st' := [.int x2, .int c5]) (by decide +kernel) rfl ?_
        refine b_icF (c := .ne) (o := 10) (t := 49) (y := 0) (w := .null) (by decide +kernel) cmp_ne (fun _ => ?_) (fun _ => ?_)
        · refine b_run [(42, .aload_n 0, 0, 0, .null)] (pc' := 43) (ls' := [some (.ref 1315), some (.int x1), some (.int x2)]) (st' := [.ref 1315]) (by decide +kernel) rfl ?_
          refine b_gI (q := 249) (ci := 9) (k := 13) (w := .null) (by decide +kernel) (by decide +kernel) (fun c6 => ?_)
          refine b_run [(46, .iconst 1, 0, 0, .null), (47, .isub, 0, 0, .null)] (pc' := 48) (ls' := [some (.ref 1315), some (.int x1), some (.int x2)]) (st' := [.int (c6 - 1)]) (by decide +kernel) rfl ?_
          exact b_ret (i := (.ireturn, 0, 0, .null)) (by decide +kernel) rfl rfl (fit_I _)
        · exact b_wk (wS (wS (wS w0))) (s175_49 hv F x1 x2 σ)
      · exact b_wk (wS (wS (wS w0))) (s175_49 hv F x1 x2 σ)
    · exact b_wk (wS (wS (wS w0))) (s175_49 hv F x1 x2 σ)
  · exact b_wk (wS (wS (wS w0))) (s175_49 hv F x1 x2 σ)
def f174_74 (F : Nat) (y1 : Int32) (y2 : Int32) (σ : St) : Rs := if inB y1 31 then lt (σ.1 1321 y1.toNatClampNeg) fun c16 => 
    if inB y1 31 then lt (σ.1 1322 y1.toNatClampNeg) fun c17 => 
    cV (f176 F c16 c17 σ) fun σ18 => 
    if inB y2 31 then lt (σ18.1 1331 y2.toNatClampNeg) fun c20 => 
    if inB y1 31 then lt (σ18.1 1322 y1.toNatClampNeg) fun c21 => if inB y2 31 then lt (uI σ18 1331 y2.toNatClampNeg (c20 + c21)) fun σ22 => oV σ22 else none else none else none else none else none
theorem s174_74 {sc : aSc} (hv : vOk sc) (F : Nat) (y1 : Int32) (y2 : Int32) (σ : St) : bEx sc 1 174 74 [some (.ref 1315), some (.int y1), some (.int y2)] [] σ (f174_74 F y1 y2 σ) := by
  unfold f174_74
  refine b_run [(74, .aload_n 0, 0, 0, .null), (75, .aload_n 0, 0, 0, .null)] (pc' := 76) (ls' := [some (.ref 1315), some (.int y1), some (.int y2)]) (st' := [.ref 1315, .ref 1315]) (by decide +kernel) rfl ?_
  refine b_getC (b := 1321) (q := 25) (ci := 9) (k := 8) (w := .null) (by decide +kernel) (by decide +kernel) ?_
  refine b_run [(79, .iload_n 1, 0, 0, .null)] (pc' := 80) (ls' := [some (.ref 1315), some (.int y1), some (.int y2)]) (st' := [.int y1, .ref 1321, .ref 1315]) (by decide +kernel) rfl ?_
  refine b_guard (fun hb => ?_)
  refine b_aI (ci := 0) (y := 0) (w := .null) (by decide +kernel) (by decide +kernel) hb (fun c16 => ?_)
  refine b_run [(81, .aload_n 0, 0, 0, .null)] (pc' := 82) (ls' := [some (.ref 1315), some (.int y1), some (.int y2)]) (st' := [.ref 1315, .int c16, .ref 1315]) (by decide +kernel) rfl ?_
  refine b_getC (b := 1322) (q := 28) (ci := 9) (k := 9) (w := .null) (by decide +kernel) (by decide +kernel) ?_
  refine b_run [(85, .iload_n 1, 0, 0, .null)] (pc' := 86) (ls' := [some (.ref 1315), some (.int y1), some (.int y2)]) (st' := [.int y1, .ref 1322, .int c16, .ref 1315]) (by decide +kernel) rfl ?_
  refine b_guard (fun hb => ?_)
  refine b_aI (ci := 0) (y := 0) (w := .null) (by decide +kernel) (by decide +kernel) hb (fun c17 => ?_)
  refine b_callV 176 3 [.ref 1315, .int c16, .int c17] (rest := []) (by decide +kernel) rfl rfl rfl (go_O rfl (by decide +kernel) (by decide +kernel : isO 1315 9 = true)) rfl (s176 hv F c16 c17 σ) (by decide) (fun σ18 => ?_)
  refine b_run [(90, .aload_n 0, 0, 0, .null)] (pc' := 91) (ls' := [some (.ref 1315), some (.int y1), some (.int y2)]) (st' := [.ref 1315]) (by decide +kernel) rfl ?_
  refine b_getC (b := 1331) (q := 56) (ci := 9) (k := 20) (w := .null) (by decide +kernel) (by decide +kernel) ?_
  refine b_run [(94, .iload_n 2, 0, 0, .null), (95, .dup2, 0, 0, .null)] (pc' := 96) (ls' := [some (.ref 1315), some (.int y1), some (.int y2)]) (st' := [.int y2, .ref 1331, .int y2, .ref 1331]) (by decide +kernel) rfl ?_
  refine b_guard (fun hb => ?_)
  refine b_aI (ci := 0) (y := 0) (w := .null) (by decide +kernel) (by decide +kernel) hb (fun c20 => ?_)
  refine b_run [(97, .aload_n 0, 0, 0, .null)] (pc' := 98) (ls' := [some (.ref 1315), some (.int y1), some (.int y2)]) (st' := [.ref 1315, .int c20, .int y2, .ref 1331]) (by decide +kernel) rfl ?_
  refine b_getC (b := 1322) (q := 28) (ci := 9) (k := 9) (w := .null) (by decide +kernel) (by decide +kernel) ?_
  refine b_run [(101, .iload_n 1, 0, 0, .null)] (pc' := 102) (ls' := [some (.ref 1315), some (.int y1), some (.int y2)]) (st' := [.int y1, .ref 1322, .int c20, .int y2, .ref 1331]) (by decide +kernel) rfl ?_
  refine b_guard (fun hb => ?_)
  refine b_aI (ci := 0) (y := 0) (w := .null) (by decide +kernel) (by decide +kernel) hb (fun c21 => ?_)
  refine b_run [(103, .iadd, 0, 0, .null)] (pc' := 104) (ls' := [some (.ref 1315), some (.int y1), some (.int y2)]) (st' := [.int (c20 + c21), .int y2, .ref 1331]) (by decide +kernel) rfl ?_
  refine b_guard (fun hb => ?_)
  refine b_sI (ci := 0) (y := 0) (w := .null) (by decide +kernel) (by decide +kernel) hb (fun σ22 => ?_)
  exact b_ret0 (i := (.return_, 0, 0, .null)) (by decide +kernel) rfl rfl
/-- TreeStoreModel.addOld(I)V -/
def f174 (F : Nat) (x1 : Int32) (σ : St) : Rs := if inB x1 31 then lt (σ.1 1317 x1.toNatClampNeg) fun c1 => 
    if inB x1 31 then lt (σ.1 1318 x1.toNatClampNeg) fun c2 => 
    cI (f175 F c1 c2 σ) fun c4 σ3 => 
    if inB c4 31 then lt (σ3.1 1331 c4.toNatClampNeg) fun c5 => 
    if c5 = 0 then 
    lt (σ3.1 1315 14) fun c6 => 
    if inB c4 31 then lt (uI σ3 1328 c4.toNatClampNeg c6) fun σ7 => 
    if inB x1 31 then lt (σ7.1 1319 x1.toNatClampNeg) fun c8 => 
    if inB x1 31 then lt (σ7.1 1320 x1.toNatClampNeg) fun c9 => 
    cV (f176 F c8 c9 σ7) fun σ10 => 
    if inB x1 31 then lt (σ10.1 1320 x1.toNatClampNeg) fun c12 => 
    if inB c4 31 then lt (uI σ10 1329 c4.toNatClampNeg c12) fun σ13 => 
    lt (σ13.1 1315 14) fun c14 => if inB c4 31 then lt (uI σ13 1330 c4.toNatClampNeg c14) fun σ15 => f174_74 F x1 c4 σ15 else none else none else none else none else none else none
    else f174_74 F x1 c4 σ3 else none else none else none
theorem s174 {sc : aSc} (hv : vOk sc) (F : Nat) (x1 : Int32) (σ : St) : bEx sc 1 174 0 [some (.ref 1315), some (.int x1), none] [] σ (f174 F x1 σ) := by
  unfold f174
  refine b_run [(0, .aload_n 0, 0, 0, .null), (1, .aload_n 0, 0, 0, .null)] (pc' := 2) (ls' := [some (.ref 1315), some (.int x1), none]) (st' := [.ref 1315, .ref 1315]) (by decide +kernel) rfl ?_
  refine b_getC (b := 1317) (q := 13) (ci := 9) (k := 4) (w := .null) (by decide +kernel) (by decide +kernel) ?_
  refine b_run [(5, .iload_n 1, 0, 0, .null)] (pc' := 6) (ls' := [some (.ref 1315), some (.int x1), none]) (st' := [.int x1, .ref 1317, .ref 1315]) (by decide +kernel) rfl ?_
  refine b_guard (fun hb => ?_)
  refine b_aI (ci := 0) (y := 0) (w := .null) (by decide +kernel) (by decide +kernel) hb (fun c1 => ?_)
  refine b_run [(7, .aload_n 0, 0, 0, .null)] (pc' := 8) (ls' := [some (.ref 1315), some (.int x1), none]) (st' := [.ref 1315, .int c1, .ref 1315]) (by decide +kernel) rfl ?_
  refine b_getC (b := 1318) (q := 16) (ci := 9) (k := 5) (w := .null) (by decide +kernel) (by decide +kernel) ?_
  refine b_run [(11, .iload_n 1, 0, 0, .null)] (pc' := 12) (ls' := [some (.ref 1315), some (.int x1), none]) (st' := [.int x1, .ref 1318, .int c1, .ref 1315]) (by decide +kernel) rfl ?_
  refine b_guard (fun hb => ?_)
  refine b_aI (ci := 0) (y := 0) (w := .null) (by decide +kernel) (by decide +kernel) hb (fun c2 => ?_)
  refine b_callI 175 3 [.ref 1315, .int c1, .int c2] (rest := []) (by decide +kernel) rfl rfl rfl (go_O rfl (by decide +kernel) (by decide +kernel : isO 1315 9 = true)) rfl (s175 hv F c1 c2 σ) (by decide) (fun c4 σ3 => ?_)
  refine b_run [(16, .istore_n 2, 0, 0, .null), (17, .aload_n 0, 0, 0, .null)] (pc' := 18) (ls' := [some (.ref 1315), some (.int x1), some (.int c4)]) (st' := [.ref 1315]) (by decide +kernel) rfl ?_
  refine b_getC (b := 1331) (q := 56) (ci := 9) (k := 20) (w := .null) (by decide +kernel) (by decide +kernel) ?_
  refine b_run [(21, .iload_n 2, 0, 0, .null)] (pc' := 22) (ls' := [some (.ref 1315), some (.int x1), some (.int c4)]) (st' := [.int c4, .ref 1331]) (by decide +kernel) rfl ?_
  refine b_guard (fun hb => ?_)
  refine b_aI (ci := 0) (y := 0) (w := .null) (by decide +kernel) (by decide +kernel) hb (fun c5 => ?_)
  refine b_izF (c := .ne) (o := 51) (t := 74) (y := 0) (w := .null) (by decide +kernel) cmp_ne (fun _ => ?_) (fun _ => ?_)
  · refine b_run [(26, .aload_n 0, 0, 0, .null)] (pc' := 27) (ls' := [some (.ref 1315), some (.int x1), some (.int c4)]) (st' := [.ref 1315]) (by decide +kernel) rfl ?_
    refine b_getC (b := 1328) (q := 47) (ci := 9) (k := 17) (w := .null) (by decide +kernel) (by decide +kernel) ?_
    refine b_run [(30, .iload_n 2, 0, 0, .null), (31, .aload_n 0, 0, 0, .null)] (pc' := 32) (ls' := [some (.ref 1315), some (.int x1), some (.int c4)]) (st' := [.ref 1315, .int c4, .ref 1328]) (by decide +kernel) rfl ?_
    refine b_gI (q := 252) (ci := 9) (k := 14) (w := .null) (by decide +kernel) (by decide +kernel) (fun c6 => ?_)
    refine b_guard (fun hb => ?_)
    refine b_sI (ci := 0) (y := 0) (w := .null) (by decide +kernel) (by decide +kernel) hb (fun σ7 => ?_)
    refine b_run [(36, .aload_n 0, 0, 0, .null), (37, .aload_n 0, 0, 0, .null)] (pc' := 38) (ls' := [some (.ref 1315), some (.int x1), some (.int c4)]) (st' := [.ref 1315, .ref 1315]) (by decide +kernel) rfl ?_
    refine b_getC (b := 1319) (q := 19) (ci := 9) (k := 6) (w := .null) (by decide +kernel) (by decide +kernel) ?_
    refine b_run [(41, .iload_n 1, 0, 0, .null)] (pc' := 42) (ls' := [some (.ref 1315), some (.int x1), some (.int c4)]) (st' := [.int x1, .ref 1319, .ref 1315]) (by decide +kernel) rfl ?_
    refine b_guard (fun hb => ?_)
    refine b_aI (ci := 0) (y := 0) (w := .null) (by decide +kernel) (by decide +kernel) hb (fun c8 => ?_)
    refine b_run [(43, .aload_n 0, 0, 0, .null)] (pc' := 44) (ls' := [some (.ref 1315), some (.int x1), some (.int c4)]) (st' := [.ref 1315, .int c8, .ref 1315]) (by decide +kernel) rfl ?_
    refine b_getC (b := 1320) (q := 22) (ci := 9) (k := 7) (w := .null) (by decide +kernel) (by decide +kernel) ?_
    refine b_run [(47, .iload_n 1, 0, 0, .null)] (pc' := 48) (ls' := [some (.ref 1315), some (.int x1), some (.int c4)]) (st' := [.int x1, .ref 1320, .int c8, .ref 1315]) (by decide +kernel) rfl ?_
    refine b_guard (fun hb => ?_)
    refine b_aI (ci := 0) (y := 0) (w := .null) (by decide +kernel) (by decide +kernel) hb (fun c9 => ?_)
    refine b_callV 176 3 [.ref 1315, .int c8, .int c9] (rest := []) (by decide +kernel) rfl rfl rfl (go_O rfl (by decide +kernel) (by decide +kernel : isO 1315 9 = true)) rfl (s176 hv F c8 c9 σ7) (by decide) (fun σ10 => ?_)
    refine b_run [(52, .aload_n 0, 0, 0, .null)] (pc' := 53) (ls' := [some (.ref 1315), some (.int x1), some (.int c4)]) (st' := [.ref 1315]) (by decide +kernel) rfl ?_
    refine b_getC (b := 1329) (q := 50) (ci := 9) (k := 18) (w := .null) (by decide +kernel) (by decide +kernel) ?_
    refine b_run [(56, .iload_n 2, 0, 0, .null), (57, .aload_n 0, 0, 0, .null)] (pc' := 58) (ls' := [some (.ref 1315), some (.int x1), some (.int c4)]) (st' := [.ref 1315, .int c4, .ref 1329]) (by decide +kernel) rfl ?_
    refine b_getC (b := 1320) (q := 22) (ci := 9) (k := 7) (w := .null) (by decide +kernel) (by decide +kernel) ?_
    refine b_run [(61, .iload_n 1, 0, 0, .null)] (pc' := 62) (ls' := [some (.ref 1315), some (.int x1), some (.int c4)]) (st' := [.int x1, .ref 1320, .int c4, .ref 1329]) (by decide +kernel) rfl ?_
    refine b_guard (fun hb => ?_)
    refine b_aI (ci := 0) (y := 0) (w := .null) (by decide +kernel) (by decide +kernel) hb (fun c12 => ?_)
    refine b_guard (fun hb => ?_)
    refine b_sI (ci := 0) (y := 0) (w := .null) (by decide +kernel) (by decide +kernel) hb (fun σ13 => ?_)
    refine b_run [(64, .aload_n 0, 0, 0, .null)] (pc' := 65) (ls' := [some (.ref 1315), some (.int x1), some (.int c4)]) (st' := [.ref 1315]) (by decide +kernel) rfl ?_
    refine b_getC (b := 1330) (q := 53) (ci := 9) (k := 19) (w := .null) (by decide +kernel) (by decide +kernel) ?_
    refine b_run [(68, .iload_n 2, 0, 0, .null), (69, .aload_n 0, 0, 0, .null)] (pc' := 70) (ls' := [some (.ref 1315), some (.int x1), some (.int c4)]) (st' := [.ref 1315, .int c4, .ref 1330]) (by decide +kernel) rfl ?_
    refine b_gI (q := 252) (ci := 9) (k := 14) (w := .null) (by decide +kernel) (by decide +kernel) (fun c14 => ?_)
    refine b_guard (fun hb => ?_)
    refine b_sI (ci := 0) (y := 0) (w := .null) (by decide +kernel) (by decide +kernel) hb (fun σ15 => ?_)
    exact b_wk (wS (wS (wS w0))) (s174_74 hv F x1 c4 σ15)
  · exact b_wk (wS (wS (wS w0))) (s174_74 hv F x1 c4 σ3)
def f177_117 (F : Nat) : Nat → Int32 → Int32 → Int32 → St → Rs
  | 0, _, _, _, _ => none
  | n + 1, y1, y3, y4, σ => if inB y1 31 then lt (σ.1 1338 y1.toNatClampNeg) fun c19 => 
    if y4 < c19 then 
    lt (σ.1 1315 14) fun c20 => 
    if inB y1 31 then lt (σ.1 1337 y1.toNatClampNeg) fun c21 => 
    if inB (c21 + y4) 122 then lt (σ.1 1339 (c21 + y4).toNatClampNeg) fun c22 => 
    if inB c20 4300 then lt (uI σ 1332 c20.toNatClampNeg (vp_nar .char (((c22 : Int32).toUInt32 % 65536).toInt32))) fun σ23 => lt (σ23.1 1315 14) fun c24 => lt (uI σ23 1315 14 (c24 + 1)) fun σ25 => f177_117 F n y1 y3 (y4 + 1) σ25 else none else none else none
    else if inB y3 31 then lt (σ.1 1331 y3.toNatClampNeg) fun c26 => 
    if inB y1 31 then lt (σ.1 1338 y1.toNatClampNeg) fun c27 => if inB y3 31 then lt (uI σ 1331 y3.toNatClampNeg (c26 + c27)) fun σ28 => oI y3 σ28 else none else none else none else none
theorem s177_117 {sc : aSc} (hv : vOk sc) (F : Nat) : ∀ (n : Nat) (y1 : Int32) (y3 : Int32) (y4 : Int32) (σ : St), bEx sc 1 177 117 [some (.ref 1315), some (.int y1), none, some (.int y3), some (.int y4)] [] σ (f177_117 F n y1 y3 y4 σ) := by
  intro n
  induction n with
  | zero => intro y1 y3 y4 σ; exact b_none
  | succ n ih =>
    intro y1 y3 y4 σ
    rw [f177_117.eq_2]
    refine b_run [(117, .iload 4, 0, 0, .null), (119, .aload_n 0, 0, 0, .null)] (pc' := 120) (ls' := [some (.ref 1315), some (.int y1), none, some (.int y3), some (.int y4)]) (st' := [.ref 1315, .int y4]) (by decide +kernel) rfl ?_
    refine b_getC (b := 1338) (q := 77) (ci := 9) (k := 29) (w := .null) (by decide +kernel) (by decide +kernel) ?_
    refine b_run [(123, .iload_n 1, 0, 0, .null)] (pc' := 124) (ls' := [some (.ref 1315), some (.int y1), none, some (.int y3), some (.int y4)]) (st' := [.int y1, .ref 1338, .int y4]) (by decide +kernel) rfl ?_
    refine b_guard (fun hb => ?_)
    refine b_aI (ci := 0) (y := 0) (w := .null) (by decide +kernel) (by decide +kernel) hb (fun c19 => ?_)
    refine b_icF (c := .ge) (o := 43) (t := 168) (y := 0) (w := .null) (by decide +kernel) cmp_ge (fun _ => ?_) (fun _ => ?_)
    · refine b_run [(128, .aload_n 0, 0, 0, .null)] (pc' := 129) (ls' := [some (.ref 1315), some (.int y1), none, some (.int y3), some (.int y4)]) (st' := [.ref 1315]) (by decide +kernel) rfl ?_
      refine b_getC (b := 1332) (q := 59) (ci := 9) (k := 21) (w := .null) (by decide +kernel) (by decide +kernel) ?_
      refine b_run [(132, .aload_n 0, 0, 0, .null)] (pc' := 133) (ls' := [some (.ref 1315), some (.int y1), none, some (.int y3), some (.int y4)]) (st' := [.ref 1315, .ref 1332]) (by decide +kernel) rfl ?_
      refine b_gI (q := 252) (ci := 9) (k := 14) (w := .null) (by decide +kernel) (by decide +kernel) (fun c20 => ?_)
      refine b_run [(136, .aload_n 0, 0, 0, .null)] (pc' := 137) (ls' := [some (.ref 1315), some (.int y1), none, some (.int y3), some (.int y4)]) (st' := [.ref 1315, .int c20, .ref 1332]) (by decide +kernel) rfl ?_
      refine b_getC (b := 1339) (q := 80) (ci := 9) (k := 30) (w := .null) (by decide +kernel) (by decide +kernel) ?_
      refine b_run [(140, .aload_n 0, 0, 0, .null)] (pc' := 141) (ls' := [some (.ref 1315), some (.int y1), none, some (.int y3), some (.int y4)]) (st' := [.ref 1315, .ref 1339, .int c20, .ref 1332]) (by decide +kernel) rfl ?_
      refine b_getC (b := 1337) (q := 74) (ci := 9) (k := 28) (w := .null) (by decide +kernel) (by decide +kernel) ?_
      refine b_run [(144, .iload_n 1, 0, 0, .null)] (pc' := 145) (ls' := [some (.ref 1315), some (.int y1), none, some (.int y3), some (.int y4)]) (st' := [.int y1, .ref 1337, .ref 1339, .int c20, .ref 1332]) (by decide +kernel) rfl ?_
      refine b_guard (fun hb => ?_)
      refine b_aI (ci := 0) (y := 0) (w := .null) (by decide +kernel) (by decide +kernel) hb (fun c21 => ?_)
      refine b_run [(146, .iload 4, 0, 0, .null), (148, .iadd, 0, 0, .null)] (pc' := 149) (ls' := [some (.ref 1315), some (.int y1), none, some (.int y3), some (.int y4)]) (st' := [.int (c21 + y4), .ref 1339, .int c20, .ref 1332]) (by decide +kernel) rfl ?_
      refine b_guard (fun hb => ?_)
      refine b_aI (ci := 0) (y := 0) (w := .null) (by decide +kernel) (by decide +kernel) hb (fun c22 => ?_)
      refine b_run [(150, .i2c, 0, 0, .null)] (pc' := 151) (ls' := [some (.ref 1315), some (.int y1), none, some (.int y3), some (.int y4)]) (st' := [.int (((c22 : Int32).toUInt32 % 65536).toInt32), .int c20, .ref 1332]) (by decide +kernel) rfl ?_
      refine b_guard (fun hb => ?_)
      refine b_sC (ci := 0) (y := 0) (w := .null) (by decide +kernel) (by decide +kernel) hb (fun σ23 => ?_)
      refine b_run [(152, .aload_n 0, 0, 0, .null), (153, .dup, 0, 0, .null)] (pc' := 154) (ls' := [some (.ref 1315), some (.int y1), none, some (.int y3), some (.int y4)]) (st' := [.ref 1315, .ref 1315]) (by decide +kernel) rfl ?_
      refine b_gI (q := 252) (ci := 9) (k := 14) (w := .null) (by decide +kernel) (by decide +kernel) (fun c24 => ?_)
      refine b_run [(157, .iconst 1, 0, 0, .null), (158, .iadd, 0, 0, .null)] (pc' := 159) (ls' := [some (.ref 1315), some (.int y1), none, some (.int y3), some (.int y4)]) (st' := [.int (c24 + 1), .ref 1315]) (by decide +kernel) rfl ?_
      refine b_pI (q := 252) (ci := 9) (k := 14) (w := .null) (by decide +kernel) (by decide +kernel) (fit_I _) (fun σ25 => ?_)
      refine b_run [(162, .iinc 4 1, 0, 0, .null), (165, .goto (-48), 117, 0, .null)] (pc' := 117) (ls' := [some (.ref 1315), some (.int y1), none, some (.int y3), some (.int (y4 + 1))]) (st' := []) (by decide +kernel) rfl ?_
      exact b_wk (wS (wS (wN (wS (wS w0))))) (ih y1 y3 (y4 + 1) σ25)
    · refine b_run [(168, .aload_n 0, 0, 0, .null)] (pc' := 169) (ls' := [some (.ref 1315), some (.int y1), none, some (.int y3), some (.int y4)]) (st' := [.ref 1315]) (by decide +kernel) rfl ?_
      refine b_getC (b := 1331) (q := 56) (ci := 9) (k := 20) (w := .null) (by decide +kernel) (by decide +kernel) ?_
      refine b_run [(172, .iload_n 3, 0, 0, .null), (173, .dup2, 0, 0, .null)] (pc' := 174) (ls' := [some (.ref 1315), some (.int y1), none, some (.int y3), some (.int y4)]) (st' := [.int y3, .ref 1331, .int y3, .ref 1331]) (by decide +kernel) rfl ?_
      refine b_guard (fun hb => ?_)
      refine b_aI (ci := 0) (y := 0) (w := .null) (by decide +kernel) (by decide +kernel) hb (fun c26 => ?_)
      refine b_run [(175, .aload_n 0, 0, 0, .null)] (pc' := 176) (ls' := [some (.ref 1315), some (.int y1), none, some (.int y3), some (.int y4)]) (st' := [.ref 1315, .int c26, .int y3, .ref 1331]) (by decide +kernel) rfl ?_
      refine b_getC (b := 1338) (q := 77) (ci := 9) (k := 29) (w := .null) (by decide +kernel) (by decide +kernel) ?_
      refine b_run [(179, .iload_n 1, 0, 0, .null)] (pc' := 180) (ls' := [some (.ref 1315), some (.int y1), none, some (.int y3), some (.int y4)]) (st' := [.int y1, .ref 1338, .int c26, .int y3, .ref 1331]) (by decide +kernel) rfl ?_
      refine b_guard (fun hb => ?_)
      refine b_aI (ci := 0) (y := 0) (w := .null) (by decide +kernel) (by decide +kernel) hb (fun c27 => ?_)
      refine b_run [(181, .iadd, 0, 0, .null)] (pc' := 182) (ls' := [some (.ref 1315), some (.int y1), none, some (.int y3), some (.int y4)]) (st' := [.int (c26 + c27), .int y3, .ref 1331]) (by decide +kernel) rfl ?_
      refine b_guard (fun hb => ?_)
      refine b_sI (ci := 0) (y := 0) (w := .null) (by decide +kernel) (by decide +kernel) hb (fun σ28 => ?_)
      refine b_run [(183, .iload_n 3, 0, 0, .null)] (pc' := 184) (ls' := [some (.ref 1315), some (.int y1), none, some (.int y3), some (.int y4)]) (st' := [.int y3]) (by decide +kernel) rfl ?_
      exact b_ret (i := (.ireturn, 0, 0, .null)) (by decide +kernel) rfl rfl (fit_I _)
def f177_114 (F : Nat) (y1 : Int32) (y3 : Int32) (σ : St) : Rs := f177_117 F F y1 y3 0 σ
theorem s177_114 {sc : aSc} (hv : vOk sc) (F : Nat) (y1 : Int32) (y3 : Int32) (σ : St) : bEx sc 1 177 114 [some (.ref 1315), some (.int y1), none, some (.int y3), none] [] σ (f177_114 F y1 y3 σ) := by
  unfold f177_114
  refine b_run [(114, .iconst 0, 0, 0, .null), (115, .istore 4, 0, 0, .null)] (pc' := 117) (ls' := [some (.ref 1315), some (.int y1), none, some (.int y3), some (.int 0)]) (st' := []) (by decide +kernel) rfl ?_
  exact b_wk (wS (wS (wN (wS (wS w0))))) (s177_117 hv F F y1 y3 0 σ)
def f177_41 (F : Nat) : Nat → Int32 → Int32 → Int32 → St → Rs
  | 0, _, _, _, _ => none
  | n + 1, y1, y3, y4, σ => if inB y1 31 then lt (σ.1 1336 y1.toNatClampNeg) fun c8 => 
    if y4 < c8 then 
    lt (σ.1 1315 14) fun c9 => 
    if inB y1 31 then lt (σ.1 1335 y1.toNatClampNeg) fun c10 => 
    if inB (c10 + y4) 122 then lt (σ.1 1316 (c10 + y4).toNatClampNeg) fun c11 => 
    if inB c9 4300 then lt (uI σ 1332 c9.toNatClampNeg (vp_nar .char (((c11 : Int32).toUInt32 % 65536).toInt32))) fun σ12 => lt (σ12.1 1315 14) fun c13 => lt (uI σ12 1315 14 (c13 + 1)) fun σ14 => f177_41 F n y1 y3 (y4 + 1) σ14 else none else none else none
    else if inB y1 31 then lt (σ.1 1336 y1.toNatClampNeg) fun c15 => 
    if inB y3 31 then lt (uI σ 1329 y3.toNatClampNeg c15) fun σ16 => 
    lt (σ16.1 1315 14) fun c17 => if inB y3 31 then lt (uI σ16 1330 y3.toNatClampNeg c17) fun σ18 => f177_114 F y1 y3 σ18 else none else none else none else none
theorem s177_41 {sc : aSc} (hv : vOk sc) (F : Nat) : ∀ (n : Nat) (y1 : Int32) (y3 : Int32) (y4 : Int32) (σ : St), bEx sc 1 177 41 [some (.ref 1315), some (.int y1), none, some (.int y3), some (.int y4)] [] σ (f177_41 F n y1 y3 y4 σ) := by
  intro n
  induction n with
  | zero => intro y1 y3 y4 σ; exact b_none
  | succ n ih =>
    intro y1 y3 y4 σ
    rw [f177_41.eq_2]
    refine b_run [(41, .iload 4, 0, 0, .null), (43, .aload_n 0, 0, 0, .null)] (pc' := 44) (ls' := [some (.ref 1315), some (.int y1), none, some (.int y3), some (.int y4)]) (st' := [.ref 1315, .int y4]) (by decide +kernel) rfl ?_
    refine b_getC (b := 1336) (q := 71) (ci := 9) (k := 27) (w := .null) (by decide +kernel) (by decide +kernel) ?_
    refine b_run [(47, .iload_n 1, 0, 0, .null)] (pc' := 48) (ls' := [some (.ref 1315), some (.int y1), none, some (.int y3), some (.int y4)]) (st' := [.int y1, .ref 1336, .int y4]) (by decide +kernel) rfl ?_
    refine b_guard (fun hb => ?_)
    refine b_aI (ci := 0) (y := 0) (w := .null) (by decide +kernel) (by decide +kernel) hb (fun c8 => ?_)
    refine b_icF (c := .ge) (o := 43) (t := 92) (y := 0) (w := .null) (by decide +kernel) cmp_ge (fun _ => ?_) (fun _ => ?_)
    · refine b_run [(52, .aload_n 0, 0, 0, .null)] (pc' := 53) (ls' := [some (.ref 1315), some (.int y1), none, some (.int y3), some (.int y4)]) (st' := [.ref 1315]) (by decide +kernel) rfl ?_
      refine b_getC (b := 1332) (q := 59) (ci := 9) (k := 21) (w := .null) (by decide +kernel) (by decide +kernel) ?_
      refine b_run [(56, .aload_n 0, 0, 0, .null)] (pc' := 57) (ls' := [some (.ref 1315), some (.int y1), none, some (.int y3), some (.int y4)]) (st' := [.ref 1315, .ref 1332]) (by decide +kernel) rfl ?_
      refine b_gI (q := 252) (ci := 9) (k := 14) (w := .null) (by decide +kernel) (by decide +kernel) (fun c9 => ?_)
      refine b_run [(60, .aload_n 0, 0, 0, .null)] (pc' := 61) (ls' := [some (.ref 1315), some (.int y1), none, some (.int y3), some (.int y4)]) (st' := [.ref 1315, .int c9, .ref 1332]) (by decide +kernel) rfl ?_
      refine b_getC (b := 1316) (q := 7) (ci := 9) (k := 2) (w := .null) (by decide +kernel) (by decide +kernel) ?_
      refine b_run [(64, .aload_n 0, 0, 0, .null)] (pc' := 65) (ls' := [some (.ref 1315), some (.int y1), none, some (.int y3), some (.int y4)]) (st' := [.ref 1315, .ref 1316, .int c9, .ref 1332]) (by decide +kernel) rfl ?_
      refine b_getC (b := 1335) (q := 68) (ci := 9) (k := 26) (w := .null) (by decide +kernel) (by decide +kernel) ?_
      refine b_run [(68, .iload_n 1, 0, 0, .null)] (pc' := 69) (ls' := [some (.ref 1315), some (.int y1), none, some (.int y3), some (.int y4)]) (st' := [.int y1, .ref 1335, .ref 1316, .int c9, .ref 1332]) (by decide +kernel) rfl ?_
      refine b_guard (fun hb => ?_)
      refine b_aI (ci := 0) (y := 0) (w := .null) (by decide +kernel) (by decide +kernel) hb (fun c10 => ?_)
      refine b_run [(70, .iload 4, 0, 0, .null), (72, .iadd, 0, 0, .null)] (pc' := 73) (ls' := [some (.ref 1315), some (.int y1), none, some (.int y3), some (.int y4)]) (st' := [.int (c10 + y4), .ref 1316, .int c9, .ref 1332]) (by decide +kernel) rfl ?_
      refine b_guard (fun hb => ?_)
      refine b_aI (ci := 0) (y := 0) (w := .null) (by decide +kernel) (by decide +kernel) hb (fun c11 => ?_)
      refine b_run [(74, .i2c, 0, 0, .null)] (pc' := 75) (ls' := [some (.ref 1315), some (.int y1), none, some (.int y3), some (.int y4)]) (st' := [.int (((c11 : Int32).toUInt32 % 65536).toInt32), .int c9, .ref 1332]) (by decide +kernel) rfl ?_
      refine b_guard (fun hb => ?_)
      refine b_sC (ci := 0) (y := 0) (w := .null) (by decide +kernel) (by decide +kernel) hb (fun σ12 => ?_)
      refine b_run [(76, .aload_n 0, 0, 0, .null), (77, .dup, 0, 0, .null)] (pc' := 78) (ls' := [some (.ref 1315), some (.int y1), none, some (.int y3), some (.int y4)]) (st' := [.ref 1315, .ref 1315]) (by decide +kernel) rfl ?_
      refine b_gI (q := 252) (ci := 9) (k := 14) (w := .null) (by decide +kernel) (by decide +kernel) (fun c13 => ?_)
      refine b_run [(81, .iconst 1, 0, 0, .null), (82, .iadd, 0, 0, .null)] (pc' := 83) (ls' := [some (.ref 1315), some (.int y1), none, some (.int y3), some (.int y4)]) (st' := [.int (c13 + 1), .ref 1315]) (by decide +kernel) rfl ?_
      refine b_pI (q := 252) (ci := 9) (k := 14) (w := .null) (by decide +kernel) (by decide +kernel) (fit_I _) (fun σ14 => ?_)
      refine b_run [(86, .iinc 4 1, 0, 0, .null), (89, .goto (-48), 41, 0, .null)] (pc' := 41) (ls' := [some (.ref 1315), some (.int y1), none, some (.int y3), some (.int (y4 + 1))]) (st' := []) (by decide +kernel) rfl ?_
      exact b_wk (wS (wS (wN (wS (wS w0))))) (ih y1 y3 (y4 + 1) σ14)
    · refine b_run [(92, .aload_n 0, 0, 0, .null)] (pc' := 93) (ls' := [some (.ref 1315), some (.int y1), none, some (.int y3), some (.int y4)]) (st' := [.ref 1315]) (by decide +kernel) rfl ?_
      refine b_getC (b := 1329) (q := 50) (ci := 9) (k := 18) (w := .null) (by decide +kernel) (by decide +kernel) ?_
      refine b_run [(96, .iload_n 3, 0, 0, .null), (97, .aload_n 0, 0, 0, .null)] (pc' := 98) (ls' := [some (.ref 1315), some (.int y1), none, some (.int y3), some (.int y4)]) (st' := [.ref 1315, .int y3, .ref 1329]) (by decide +kernel) rfl ?_
      refine b_getC (b := 1336) (q := 71) (ci := 9) (k := 27) (w := .null) (by decide +kernel) (by decide +kernel) ?_
      refine b_run [(101, .iload_n 1, 0, 0, .null)] (pc' := 102) (ls' := [some (.ref 1315), some (.int y1), none, some (.int y3), some (.int y4)]) (st' := [.int y1, .ref 1336, .int y3, .ref 1329]) (by decide +kernel) rfl ?_
      refine b_guard (fun hb => ?_)
      refine b_aI (ci := 0) (y := 0) (w := .null) (by decide +kernel) (by decide +kernel) hb (fun c15 => ?_)
      refine b_guard (fun hb => ?_)
      refine b_sI (ci := 0) (y := 0) (w := .null) (by decide +kernel) (by decide +kernel) hb (fun σ16 => ?_)
      refine b_run [(104, .aload_n 0, 0, 0, .null)] (pc' := 105) (ls' := [some (.ref 1315), some (.int y1), none, some (.int y3), some (.int y4)]) (st' := [.ref 1315]) (by decide +kernel) rfl ?_
      refine b_getC (b := 1330) (q := 53) (ci := 9) (k := 19) (w := .null) (by decide +kernel) (by decide +kernel) ?_
      refine b_run [(108, .iload_n 3, 0, 0, .null), (109, .aload_n 0, 0, 0, .null)] (pc' := 110) (ls' := [some (.ref 1315), some (.int y1), none, some (.int y3), some (.int y4)]) (st' := [.ref 1315, .int y3, .ref 1330]) (by decide +kernel) rfl ?_
      refine b_gI (q := 252) (ci := 9) (k := 14) (w := .null) (by decide +kernel) (by decide +kernel) (fun c17 => ?_)
      refine b_guard (fun hb => ?_)
      refine b_sI (ci := 0) (y := 0) (w := .null) (by decide +kernel) (by decide +kernel) hb (fun σ18 => ?_)
      exact b_wk (wS (wS (wN (wS (wN w0))))) (s177_114 hv F y1 y3 σ18)
/-- TreeStoreModel.addMade(II)I -/
def f177 (F : Nat) (x1 : Int32) (x2 : Int32) (σ : St) : Rs := if inB x1 31 then lt (σ.1 1333 x1.toNatClampNeg) fun c1 => 
    if inB x1 31 then lt (σ.1 1334 x1.toNatClampNeg) fun c2 => 
    cI (f175 F c1 (x2 + c2) σ) fun c4 σ3 => 
    if inB c4 31 then lt (σ3.1 1331 c4.toNatClampNeg) fun c5 => 
    if c5 = 0 then 
    lt (σ3.1 1315 14) fun c6 => if inB c4 31 then lt (uI σ3 1328 c4.toNatClampNeg c6) fun σ7 => f177_41 F F x1 c4 0 σ7 else none
    else f177_114 F x1 c4 σ3 else none else none else none
theorem s177 {sc : aSc} (hv : vOk sc) (F : Nat) (x1 : Int32) (x2 : Int32) (σ : St) : bEx sc 1 177 0 [some (.ref 1315), some (.int x1), some (.int x2), none, none] [] σ (f177 F x1 x2 σ) := by
  unfold f177
  refine b_run [(0, .aload_n 0, 0, 0, .null), (1, .aload_n 0, 0, 0, .null)] (pc' := 2) (ls' := [some (.ref 1315), some (.int x1), some (.int x2), none, none]) (st' := [.ref 1315, .ref 1315]) (by decide +kernel) rfl ?_
  refine b_getC (b := 1333) (q := 62) (ci := 9) (k := 24) (w := .null) (by decide +kernel) (by decide +kernel) ?_
  refine b_run [(5, .iload_n 1, 0, 0, .null)] (pc' := 6) (ls' := [some (.ref 1315), some (.int x1), some (.int x2), none, none]) (st' := [.int x1, .ref 1333, .ref 1315]) (by decide +kernel) rfl ?_
  refine b_guard (fun hb => ?_)
  refine b_aI (ci := 0) (y := 0) (w := .null) (by decide +kernel) (by decide +kernel) hb (fun c1 => ?_)
  refine b_run [(7, .iload_n 2, 0, 0, .null), (8, .aload_n 0, 0, 0, .null)] (pc' := 9) (ls' := [some (.ref 1315), some (.int x1), some (.int x2), none, none]) (st' := [.ref 1315, .int x2, .int c1, .ref 1315]) (by decide +kernel) rfl ?_
  refine b_getC (b := 1334) (q := 65) (ci := 9) (k := 25) (w := .null) (by decide +kernel) (by decide +kernel) ?_
  refine b_run [(12, .iload_n 1, 0, 0, .null)] (pc' := 13) (ls' := [some (.ref 1315), some (.int x1), some (.int x2), none, none]) (st' := [.int x1, .ref 1334, .int x2, .int c1, .ref 1315]) (by decide +kernel) rfl ?_
  refine b_guard (fun hb => ?_)
  refine b_aI (ci := 0) (y := 0) (w := .null) (by decide +kernel) (by decide +kernel) hb (fun c2 => ?_)
  refine b_run [(14, .iadd, 0, 0, .null)] (pc' := 15) (ls' := [some (.ref 1315), some (.int x1), some (.int x2), none, none]) (st' := [.int (x2 + c2), .int c1, .ref 1315]) (by decide +kernel) rfl ?_
  refine b_callI 175 3 [.ref 1315, .int c1, .int (x2 + c2)] (rest := []) (by decide +kernel) rfl rfl rfl (go_O rfl (by decide +kernel) (by decide +kernel : isO 1315 9 = true)) rfl (s175 hv F c1 (x2 + c2) σ) (by decide) (fun c4 σ3 => ?_)
  refine b_run [(18, .istore_n 3, 0, 0, .null), (19, .aload_n 0, 0, 0, .null)] (pc' := 20) (ls' := [some (.ref 1315), some (.int x1), some (.int x2), some (.int c4), none]) (st' := [.ref 1315]) (by decide +kernel) rfl ?_
  refine b_getC (b := 1331) (q := 56) (ci := 9) (k := 20) (w := .null) (by decide +kernel) (by decide +kernel) ?_
  refine b_run [(23, .iload_n 3, 0, 0, .null)] (pc' := 24) (ls' := [some (.ref 1315), some (.int x1), some (.int x2), some (.int c4), none]) (st' := [.int c4, .ref 1331]) (by decide +kernel) rfl ?_
  refine b_guard (fun hb => ?_)
  refine b_aI (ci := 0) (y := 0) (w := .null) (by decide +kernel) (by decide +kernel) hb (fun c5 => ?_)
  refine b_izF (c := .ne) (o := 89) (t := 114) (y := 0) (w := .null) (by decide +kernel) cmp_ne (fun _ => ?_) (fun _ => ?_)
  · refine b_run [(28, .aload_n 0, 0, 0, .null)] (pc' := 29) (ls' := [some (.ref 1315), some (.int x1), some (.int x2), some (.int c4), none]) (st' := [.ref 1315]) (by decide +kernel) rfl ?_
    refine b_getC (b := 1328) (q := 47) (ci := 9) (k := 17) (w := .null) (by decide +kernel) (by decide +kernel) ?_
    refine b_run [(32, .iload_n 3, 0, 0, .null), (33, .aload_n 0, 0, 0, .null)] (pc' := 34) (ls' := [some (.ref 1315), some (.int x1), some (.int x2), some (.int c4), none]) (st' := [.ref 1315, .int c4, .ref 1328]) (by decide +kernel) rfl ?_
    refine b_gI (q := 252) (ci := 9) (k := 14) (w := .null) (by decide +kernel) (by decide +kernel) (fun c6 => ?_)
    refine b_guard (fun hb => ?_)
    refine b_sI (ci := 0) (y := 0) (w := .null) (by decide +kernel) (by decide +kernel) hb (fun σ7 => ?_)
    refine b_run [(38, .iconst 0, 0, 0, .null), (39, .istore 4, 0, 0, .null)] (pc' := 41) (ls' := [some (.ref 1315), some (.int x1), some (.int x2), some (.int c4), some (.int 0)]) (st' := []) (by decide +kernel) rfl ?_
    exact b_wk (wS (wS (wN (wS (wS w0))))) (s177_41 hv F F x1 c4 0 σ7)
  · exact b_wk (wS (wS (wN (wS (wN w0))))) (s177_114 hv F x1 c4 σ3)
def f179_14 (F : Nat) : Nat → Int32 → Int32 → St → Rs
  | 0, _, _, _ => none
  | n + 1, y1, y2, σ => lt (σ.1 1315 3) fun c2 => 
    if (y1 + y2) + 1 < c2 then 
    if inB ((y1 + y2) + 1) 31 then lt (σ.1 1318 ((y1 + y2) + 1).toNatClampNeg) fun c3 => 
    if inB y1 31 then lt (σ.1 1318 y1.toNatClampNeg) fun c4 => 
    if c4 < c3 then f179_14 F n y1 (y2 + 1) σ
    else oI y2 σ else none else none
    else oI y2 σ
theorem s179_14 {sc : aSc} (hv : vOk sc) (F : Nat) : ∀ (n : Nat) (y1 : Int32) (y2 : Int32) (σ : St), bEx sc 0 179 14 [some (.ref 1315), some (.int y1), some (.int y2)] [] σ (f179_14 F n y1 y2 σ) := by
  intro n
  induction n with
  | zero => intro y1 y2 σ; exact b_none
  | succ n ih =>
    intro y1 y2 σ
    rw [f179_14.eq_2]
    refine b_run [(14, .iload_n 1, 0, 0, .null), (15, .iload_n 2, 0, 0, .null), (16, .iadd, 0, 0, .null), (17, .iconst 1, 0, 0, .null), (18, .iadd, 0, 0, .null), (19, .aload_n 0, 0, 0, .null)] (pc' := 20) (ls' := [some (.ref 1315), some (.int y1), some (.int y2)]) (st' := [.ref 1315, .int ((y1 + y2) + 1)]) (by decide +kernel) rfl ?_
    refine b_gI (q := 148) (ci := 9) (k := 3) (w := .null) (by decide +kernel) (by decide +kernel) (fun c2 => ?_)
    refine b_icF (c := .ge) (o := 28) (t := 51) (y := 0) (w := .null) (by decide +kernel) cmp_ge (fun _ => ?_) (fun _ => ?_)
    · refine b_run [(26, .aload_n 0, 0, 0, .null)] (pc' := 27) (ls' := [some (.ref 1315), some (.int y1), some (.int y2)]) (st' := [.ref 1315]) (by decide +kernel) rfl ?_
      refine b_getC (b := 1318) (q := 16) (ci := 9) (k := 5) (w := .null) (by decide +kernel) (by decide +kernel) ?_
      refine b_run [(30, .iload_n 1, 0, 0, .null), (31, .iload_n 2, 0, 0, .null), (32, .iadd, 0, 0, .null), (33, .iconst 1, 0, 0, .null), (34, .iadd, 0, 0, .null)] (pc' := 35) (ls' := [some (.ref 1315), some (.int y1), some (.int y2)]) (st' := [.int ((y1 + y2) + 1), .ref 1318]) (by decide +kernel) rfl ?_
      refine b_guard (fun hb => ?_)
      refine b_aI (ci := 0) (y := 0) (w := .null) (by decide +kernel) (by decide +kernel) hb (fun c3 => ?_)
      refine b_run [(36, .aload_n 0, 0, 0, .null)] (pc' := 37) (ls' := [some (.ref 1315), some (.int y1), some (.int y2)]) (st' := [.ref 1315, .int c3]) (by decide +kernel) rfl ?_
      refine b_getC (b := 1318) (q := 16) (ci := 9) (k := 5) (w := .null) (by decide +kernel) (by decide +kernel) ?_
      refine b_run [(40, .iload_n 1, 0, 0, .null)] (pc' := 41) (ls' := [some (.ref 1315), some (.int y1), some (.int y2)]) (st' := [.int y1, .ref 1318, .int c3]) (by decide +kernel) rfl ?_
      refine b_guard (fun hb => ?_)
      refine b_aI (ci := 0) (y := 0) (w := .null) (by decide +kernel) (by decide +kernel) hb (fun c4 => ?_)
      refine b_icF (c := .le) (o := 9) (t := 51) (y := 0) (w := .null) (by decide +kernel) cmp_le (fun _ => ?_) (fun _ => ?_)
      · refine b_run [(45, .iinc 2 1, 0, 0, .null), (48, .goto (-34), 14, 0, .null)] (pc' := 14) (ls' := [some (.ref 1315), some (.int y1), some (.int (y2 + 1))]) (st' := []) (by decide +kernel) rfl ?_
        exact b_wk (wS (wS (wS w0))) (ih y1 (y2 + 1) σ)
      · refine b_run [(51, .iload_n 2, 0, 0, .null)] (pc' := 52) (ls' := [some (.ref 1315), some (.int y1), some (.int y2)]) (st' := [.int y2]) (by decide +kernel) rfl ?_
        exact b_ret (i := (.ireturn, 0, 0, .null)) (by decide +kernel) rfl rfl (fit_I _)
    · refine b_run [(51, .iload_n 2, 0, 0, .null)] (pc' := 52) (ls' := [some (.ref 1315), some (.int y1), some (.int y2)]) (st' := [.int y2]) (by decide +kernel) rfl ?_
      exact b_ret (i := (.ireturn, 0, 0, .null)) (by decide +kernel) rfl rfl (fit_I _)
/-- TreeStoreModel.countBelow(I)I -/
def f179 (F : Nat) (x1 : Int32) (σ : St) : Rs := if inB x1 31 then lt (σ.1 1317 x1.toNatClampNeg) fun c1 => 
    if 1 < c1 then oI 0 σ
    else f179_14 F F x1 0 σ else none
theorem s179 {sc : aSc} (hv : vOk sc) (F : Nat) (x1 : Int32) (σ : St) : bEx sc 0 179 0 [some (.ref 1315), some (.int x1), none] [] σ (f179 F x1 σ) := by
  unfold f179
  refine b_run [(0, .aload_n 0, 0, 0, .null)] (pc' := 1) (ls' := [some (.ref 1315), some (.int x1), none]) (st' := [.ref 1315]) (by decide +kernel) rfl ?_
  refine b_getC (b := 1317) (q := 13) (ci := 9) (k := 4) (w := .null) (by decide +kernel) (by decide +kernel) ?_
  refine b_run [(4, .iload_n 1, 0, 0, .null)] (pc' := 5) (ls' := [some (.ref 1315), some (.int x1), none]) (st' := [.int x1, .ref 1317]) (by decide +kernel) rfl ?_
  refine b_guard (fun hb => ?_)
  refine b_aI (ci := 0) (y := 0) (w := .null) (by decide +kernel) (by decide +kernel) hb (fun c1 => ?_)
  refine b_run [(6, .iconst 1, 0, 0, .null)] (pc' := 7) (ls' := [some (.ref 1315), some (.int x1), none]) (st' := [.int 1, .int c1]) (by decide +kernel) rfl ?_
  refine b_icF (c := .le) (o := 5) (t := 12) (y := 0) (w := .null) (by decide +kernel) cmp_le (fun _ => ?_) (fun _ => ?_)
  · refine b_run [(10, .iconst 0, 0, 0, .null)] (pc' := 11) (ls' := [some (.ref 1315), some (.int x1), none]) (st' := [.int 0]) (by decide +kernel) rfl ?_
    exact b_ret (i := (.ireturn, 0, 0, .null)) (by decide +kernel) rfl rfl (fit_I _)
  · refine b_run [(12, .iconst 0, 0, 0, .null), (13, .istore_n 2, 0, 0, .null)] (pc' := 14) (ls' := [some (.ref 1315), some (.int x1), some (.int 0)]) (st' := []) (by decide +kernel) rfl ?_
    exact b_wk (wS (wS (wS w0))) (s179_14 hv F F x1 0 σ)
def f180_35 (F : Nat) (k4 : Int32 → Int32 → St → Rs) (y1 : Int32) (y2 : Int32) (σ : St) : Rs := k4 y1 (y2 + Int32.ofInt (-1)) σ
theorem s180_35 {sc : aSc} (hv : vOk sc) (F : Nat) (k4 : Int32 → Int32 → St → Rs) (hk4 : ∀ y1 y2 σ, bEx sc 0 180 4 [some (.ref 1315), some (.int y1), some (.int y2)] [] σ (k4 y1 y2 σ)) (y1 : Int32) (y2 : Int32) (σ : St) : bEx sc 0 180 35 [some (.ref 1315), some (.int y1), some (.int y2)] [] σ (f180_35 F k4 y1 y2 σ) := by
  unfold f180_35
  refine b_run [(35, .iinc 2 (-1), 0, 0, .null), (38, .goto (-34), 4, 0, .null)] (pc' := 4) (ls' := [some (.ref 1315), some (.int y1), some (.int (y2 + Int32.ofInt (-1)))]) (st' := []) (by decide +kernel) rfl ?_
  exact b_wk (wS (wS (wS w0))) (hk4 y1 (y2 + Int32.ofInt (-1)) σ)
def f180_4 (F : Nat) : Nat → Int32 → Int32 → St → Rs
  | 0, _, _, _ => none
  | n + 1, y1, y2, σ => if y2 < 0 then oI y2 σ
    else if inB y2 31 then lt (σ.1 1317 y2.toNatClampNeg) fun c1 => 
    if 1 < c1 then f180_35 F (f180_4 F n) y1 y2 σ
    else if inB y2 31 then lt (σ.1 1318 y2.toNatClampNeg) fun c2 => 
    if inB y1 31 then lt (σ.1 1318 y1.toNatClampNeg) fun c3 => 
    if c2 = c3 - 1 then oI y2 σ
    else f180_35 F (f180_4 F n) y1 y2 σ else none else none else none
theorem s180_4 {sc : aSc} (hv : vOk sc) (F : Nat) : ∀ (n : Nat) (y1 : Int32) (y2 : Int32) (σ : St), bEx sc 0 180 4 [some (.ref 1315), some (.int y1), some (.int y2)] [] σ (f180_4 F n y1 y2 σ) := by
  intro n
  induction n with
  | zero => intro y1 y2 σ; exact b_none
  | succ n ih =>
    intro y1 y2 σ
    rw [f180_4.eq_2]
    refine b_run [(4, .iload_n 2, 0, 0, .null)] (pc' := 5) (ls' := [some (.ref 1315), some (.int y1), some (.int y2)]) (st' := [.int y2]) (by decide +kernel) rfl ?_
    refine b_izT (c := .lt) (o := 36) (t := 41) (y := 0) (w := .null) (by decide +kernel) cmp_lt (fun _ => ?_) (fun _ => ?_)
    · refine b_run [(41, .iload_n 2, 0, 0, .null)] (pc' := 42) (ls' := [some (.ref 1315), some (.int y1), some (.int y2)]) (st' := [.int y2]) (by decide +kernel) rfl ?_
      exact b_ret (i := (.ireturn, 0, 0, .null)) (by decide +kernel) rfl rfl (fit_I _)
    · refine b_run [(8, .aload_n 0, 0, 0, .null)] (pc' := 9) (ls' := [some (.ref 1315), some (.int y1), some (.int y2)]) (st' := [.ref 1315]) (by decide +kernel) rfl ?_
      refine b_getC (b := 1317) (q := 13) (ci := 9) (k := 4) (w := .null) (by decide +kernel) (by decide +kernel) ?_
      refine b_run [(12, .iload_n 2, 0, 0, .null)] (pc' := 13) (ls' := [some (.ref 1315), some (.int y1), some (.int y2)]) (st' := [.int y2, .ref 1317]) (by decide +kernel) rfl ?_
      refine b_guard (fun hb => ?_)
      refine b_aI (ci := 0) (y := 0) (w := .null) (by decide +kernel) (by decide +kernel) hb (fun c1 => ?_)
      refine b_run [(14, .iconst 1, 0, 0, .null)] (pc' := 15) (ls' := [some (.ref 1315), some (.int y1), some (.int y2)]) (st' := [.int 1, .int c1]) (by decide +kernel) rfl ?_
      refine b_icT (c := .gt) (o := 20) (t := 35) (y := 0) (w := .null) (by decide +kernel) cmp_gt (fun _ => ?_) (fun _ => ?_)
      · exact b_wk (wS (wS (wS w0))) (s180_35 hv F (f180_4 F n) ih y1 y2 σ)
      · refine b_run [(18, .aload_n 0, 0, 0, .null)] (pc' := 19) (ls' := [some (.ref 1315), some (.int y1), some (.int y2)]) (st' := [.ref 1315]) (by decide +kernel) rfl ?_
        refine b_getC (b := 1318) (q := 16) (ci := 9) (k := 5) (w := .null) (by decide +kernel) (by decide +kernel) ?_
        refine b_run [(22, .iload_n 2, 0, 0, .null)] (pc' := 23) (ls' := [some (.ref 1315), some (.int y1), some (.int y2)]) (st' := [.int y2, .ref 1318]) (by decide +kernel) rfl ?_
        refine b_guard (fun hb => ?_)
        refine b_aI (ci := 0) (y := 0) (w := .null) (by decide +kernel) (by decide +kernel) hb (fun c2 => ?_)
        refine b_run [(24, .aload_n 0, 0, 0, .null)] (pc' := 25) (ls' := [some (.ref 1315), some (.int y1), some (.int y2)]) (st' := [.ref 1315, .int c2]) (by decide +kernel) rfl ?_
        refine b_getC (b := 1318) (q := 16) (ci := 9) (k := 5) (w := .null) (by decide +kernel) (by decide +kernel) ?_
        refine b_run [(28, .iload_n 1, 0, 0, .null)] (pc' := 29) (ls' := [some (.ref 1315), some (.int y1), some (.int y2)]) (st' := [.int y1, .ref 1318, .int c2]) (by decide +kernel) rfl ?_
        refine b_guard (fun hb => ?_)
        refine b_aI (ci := 0) (y := 0) (w := .null) (by decide +kernel) (by decide +kernel) hb (fun c3 => ?_)
        refine b_run [(30, .iconst 1, 0, 0, .null), (31, .isub, 0, 0, .null)] (pc' := 32) (ls' := [some (.ref 1315), some (.int y1), some (.int y2)]) (st' := [.int (c3 - 1), .int c2]) (by decide +kernel) rfl ?_
        refine b_icT (c := .eq) (o := 9) (t := 41) (y := 0) (w := .null) (by decide +kernel) cmp_eq (fun _ => ?_) (fun _ => ?_)
        · refine b_run [(41, .iload_n 2, 0, 0, .null)] (pc' := 42) (ls' := [some (.ref 1315), some (.int y1), some (.int y2)]) (st' := [.int y2]) (by decide +kernel) rfl ?_
          exact b_ret (i := (.ireturn, 0, 0, .null)) (by decide +kernel) rfl rfl (fit_I _)
        · exact b_wk (wS (wS (wS w0))) (s180_35 hv F (f180_4 F n) ih y1 y2 σ)
/-- TreeStoreModel.findParent(I)I -/
def f180 (F : Nat) (x1 : Int32) (σ : St) : Rs := f180_4 F F x1 (x1 - 1) σ
theorem s180 {sc : aSc} (hv : vOk sc) (F : Nat) (x1 : Int32) (σ : St) : bEx sc 0 180 0 [some (.ref 1315), some (.int x1), none] [] σ (f180 F x1 σ) := by
  unfold f180
  refine b_run [(0, .iload_n 1, 0, 0, .null), (1, .iconst 1, 0, 0, .null), (2, .isub, 0, 0, .null), (3, .istore_n 2, 0, 0, .null)] (pc' := 4) (ls' := [some (.ref 1315), some (.int x1), some (.int (x1 - 1))]) (st' := []) (by decide +kernel) rfl ?_
  exact b_wk (wS (wS (wS w0))) (s180_4 hv F F x1 (x1 - 1) σ)
def f178_126 (F : Nat) : Nat → Int32 → St → Rs
  | 0, _, _ => none
  | n + 1, y1, σ => lt (σ.1 1315 3) fun c19 => 
    if y1 < c19 then 
    cI (f179 F y1 σ) fun c21 σ20 => 
    if inB y1 31 then lt (uI σ20 1324 y1.toNatClampNeg c21) fun σ22 => 
    cI (f180 F y1 σ22) fun c24 σ23 => if inB y1 31 then lt (uI σ23 1325 y1.toNatClampNeg c24) fun σ25 => f178_126 F n (y1 + 1) σ25 else none else none
    else lt (uI σ 1315 34 0) fun σ26 => oV σ26
theorem s178_126 {sc : aSc} (hv : vOk sc) (F : Nat) : ∀ (n : Nat) (y1 : Int32) (σ : St), bEx sc 1 178 126 [some (.ref 1315), some (.int y1)] [] σ (f178_126 F n y1 σ) := by
  intro n
  induction n with
  | zero => intro y1 σ; exact b_none
  | succ n ih =>
    intro y1 σ
    rw [f178_126.eq_2]
    refine b_run [(126, .iload_n 1, 0, 0, .null), (127, .aload_n 0, 0, 0, .null)] (pc' := 128) (ls' := [some (.ref 1315), some (.int y1)]) (st' := [.ref 1315, .int y1]) (by decide +kernel) rfl ?_
    refine b_gI (q := 148) (ci := 9) (k := 3) (w := .null) (by decide +kernel) (by decide +kernel) (fun c19 => ?_)
    refine b_icF (c := .ge) (o := 31) (t := 162) (y := 0) (w := .null) (by decide +kernel) cmp_ge (fun _ => ?_) (fun _ => ?_)
    · refine b_run [(134, .aload_n 0, 0, 0, .null)] (pc' := 135) (ls' := [some (.ref 1315), some (.int y1)]) (st' := [.ref 1315]) (by decide +kernel) rfl ?_
      refine b_getC (b := 1324) (q := 35) (ci := 9) (k := 11) (w := .null) (by decide +kernel) (by decide +kernel) ?_
      refine b_run [(138, .iload_n 1, 0, 0, .null), (139, .aload_n 0, 0, 0, .null), (140, .iload_n 1, 0, 0, .null)] (pc' := 141) (ls' := [some (.ref 1315), some (.int y1)]) (st' := [.int y1, .ref 1315, .int y1, .ref 1324]) (by decide +kernel) rfl ?_
      refine b_callI 179 2 [.ref 1315, .int y1] (rest := [.int y1, .ref 1324]) (by decide +kernel) rfl rfl rfl (go_O rfl (by decide +kernel) (by decide +kernel : isO 1315 9 = true)) rfl (s179 hv F y1 σ) (by decide) (fun c21 σ20 => ?_)
      refine b_guard (fun hb => ?_)
      refine b_sI (ci := 0) (y := 0) (w := .null) (by decide +kernel) (by decide +kernel) hb (fun σ22 => ?_)
      refine b_run [(145, .aload_n 0, 0, 0, .null)] (pc' := 146) (ls' := [some (.ref 1315), some (.int y1)]) (st' := [.ref 1315]) (by decide +kernel) rfl ?_
      refine b_getC (b := 1325) (q := 38) (ci := 9) (k := 12) (w := .null) (by decide +kernel) (by decide +kernel) ?_
      refine b_run [(149, .iload_n 1, 0, 0, .null), (150, .aload_n 0, 0, 0, .null), (151, .iload_n 1, 0, 0, .null)] (pc' := 152) (ls' := [some (.ref 1315), some (.int y1)]) (st' := [.int y1, .ref 1315, .int y1, .ref 1325]) (by decide +kernel) rfl ?_
      refine b_callI 180 2 [.ref 1315, .int y1] (rest := [.int y1, .ref 1325]) (by decide +kernel) rfl rfl rfl (go_O rfl (by decide +kernel) (by decide +kernel : isO 1315 9 = true)) rfl (s180 hv F y1 σ22) (by decide) (fun c24 σ23 => ?_)
      refine b_guard (fun hb => ?_)
      refine b_sI (ci := 0) (y := 0) (w := .null) (by decide +kernel) (by decide +kernel) hb (fun σ25 => ?_)
      refine b_run [(156, .iinc 1 1, 0, 0, .null), (159, .goto (-33), 126, 0, .null)] (pc' := 126) (ls' := [some (.ref 1315), some (.int (y1 + 1))]) (st' := []) (by decide +kernel) rfl ?_
      exact b_wk (wS (wS w0)) (ih (y1 + 1) σ25)
    · refine b_run [(162, .aload_n 0, 0, 0, .null), (163, .iconst 0, 0, 0, .null)] (pc' := 164) (ls' := [some (.ref 1315), some (.int y1)]) (st' := [.int 0, .ref 1315]) (by decide +kernel) rfl ?_
      refine b_pI (q := 269) (ci := 9) (k := 34) (w := .null) (by decide +kernel) (by decide +kernel) (by decide +kernel) (fun σ26 => ?_)
      exact b_ret0 (i := (.return_, 0, 0, .null)) (by decide +kernel) rfl rfl
def f178_98 (F : Nat) : Nat → Int32 → St → Rs
  | 0, _, _ => none
  | n + 1, y1, σ => lt (σ.1 1315 14) fun c16 => 
    if y1 < c16 then 
    if inB y1 4300 then lt (σ.1 1332 y1.toNatClampNeg) fun c17 => if inB y1 4300 then lt (uI σ 1323 y1.toNatClampNeg (vp_nar .char c17)) fun σ18 => f178_98 F n (y1 + 1) σ18 else none else none
    else f178_126 F F 0 σ
theorem s178_98 {sc : aSc} (hv : vOk sc) (F : Nat) : ∀ (n : Nat) (y1 : Int32) (σ : St), bEx sc 1 178 98 [some (.ref 1315), some (.int y1)] [] σ (f178_98 F n y1 σ) := by
  intro n
  induction n with
  | zero => intro y1 σ; exact b_none
  | succ n ih =>
    intro y1 σ
    rw [f178_98.eq_2]
    refine b_run [(98, .iload_n 1, 0, 0, .null), (99, .aload_n 0, 0, 0, .null)] (pc' := 100) (ls' := [some (.ref 1315), some (.int y1)]) (st' := [.ref 1315, .int y1]) (by decide +kernel) rfl ?_
    refine b_gI (q := 252) (ci := 9) (k := 14) (w := .null) (by decide +kernel) (by decide +kernel) (fun c16 => ?_)
    refine b_icF (c := .ge) (o := 21) (t := 124) (y := 0) (w := .null) (by decide +kernel) cmp_ge (fun _ => ?_) (fun _ => ?_)
    · refine b_run [(106, .aload_n 0, 0, 0, .null)] (pc' := 107) (ls' := [some (.ref 1315), some (.int y1)]) (st' := [.ref 1315]) (by decide +kernel) rfl ?_
      refine b_getC (b := 1323) (q := 31) (ci := 9) (k := 10) (w := .null) (by decide +kernel) (by decide +kernel) ?_
      refine b_run [(110, .iload_n 1, 0, 0, .null), (111, .aload_n 0, 0, 0, .null)] (pc' := 112) (ls' := [some (.ref 1315), some (.int y1)]) (st' := [.ref 1315, .int y1, .ref 1323]) (by decide +kernel) rfl ?_
      refine b_getC (b := 1332) (q := 59) (ci := 9) (k := 21) (w := .null) (by decide +kernel) (by decide +kernel) ?_
      refine b_run [(115, .iload_n 1, 0, 0, .null)] (pc' := 116) (ls' := [some (.ref 1315), some (.int y1)]) (st' := [.int y1, .ref 1332, .int y1, .ref 1323]) (by decide +kernel) rfl ?_
      refine b_guard (fun hb => ?_)
      refine b_aC (ci := 0) (y := 0) (w := .null) (by decide +kernel) (by decide +kernel) hb (fun c17 => ?_)
      refine b_guard (fun hb => ?_)
      refine b_sC (ci := 0) (y := 0) (w := .null) (by decide +kernel) (by decide +kernel) hb (fun σ18 => ?_)
      refine b_run [(118, .iinc 1 1, 0, 0, .null), (121, .goto (-23), 98, 0, .null)] (pc' := 98) (ls' := [some (.ref 1315), some (.int (y1 + 1))]) (st' := []) (by decide +kernel) rfl ?_
      exact b_wk (wS (wS w0)) (ih (y1 + 1) σ18)
    · refine b_run [(124, .iconst 0, 0, 0, .null), (125, .istore_n 1, 0, 0, .null)] (pc' := 126) (ls' := [some (.ref 1315), some (.int 0)]) (st' := []) (by decide +kernel) rfl ?_
      exact b_wk (wS (wS w0)) (s178_126 hv F F 0 σ)
def f178_10 (F : Nat) : Nat → Int32 → St → Rs
  | 0, _, _ => none
  | n + 1, y1, σ => lt (σ.1 1315 3) fun c3 => 
    if y1 < c3 then 
    if inB y1 31 then lt (σ.1 1326 y1.toNatClampNeg) fun c4 => 
    if inB y1 31 then lt (uI σ 1317 y1.toNatClampNeg c4) fun σ5 => 
    if inB y1 31 then lt (σ5.1 1327 y1.toNatClampNeg) fun c6 => 
    if inB y1 31 then lt (uI σ5 1318 y1.toNatClampNeg c6) fun σ7 => 
    if inB y1 31 then lt (σ7.1 1328 y1.toNatClampNeg) fun c8 => 
    if inB y1 31 then lt (uI σ7 1319 y1.toNatClampNeg c8) fun σ9 => 
    if inB y1 31 then lt (σ9.1 1329 y1.toNatClampNeg) fun c10 => 
    if inB y1 31 then lt (uI σ9 1320 y1.toNatClampNeg c10) fun σ11 => 
    if inB y1 31 then lt (σ11.1 1330 y1.toNatClampNeg) fun c12 => 
    if inB y1 31 then lt (uI σ11 1321 y1.toNatClampNeg c12) fun σ13 => 
    if inB y1 31 then lt (σ13.1 1331 y1.toNatClampNeg) fun c14 => if inB y1 31 then lt (uI σ13 1322 y1.toNatClampNeg c14) fun σ15 => f178_10 F n (y1 + 1) σ15 else none else none else none else none else none else none else none else none else none else none else none else none
    else f178_98 F F 0 σ
theorem s178_10 {sc : aSc} (hv : vOk sc) (F : Nat) : ∀ (n : Nat) (y1 : Int32) (σ : St), bEx sc 1 178 10 [some (.ref 1315), some (.int y1)] [] σ (f178_10 F n y1 σ) := by
  intro n
  induction n with
  | zero => intro y1 σ; exact b_none
  | succ n ih =>
    intro y1 σ
    rw [f178_10.eq_2]
    refine b_run [(10, .iload_n 1, 0, 0, .null), (11, .aload_n 0, 0, 0, .null)] (pc' := 12) (ls' := [some (.ref 1315), some (.int y1)]) (st' := [.ref 1315, .int y1]) (by decide +kernel) rfl ?_
    refine b_gI (q := 148) (ci := 9) (k := 3) (w := .null) (by decide +kernel) (by decide +kernel) (fun c3 => ?_)
    refine b_icF (c := .ge) (o := 81) (t := 96) (y := 0) (w := .null) (by decide +kernel) cmp_ge (fun _ => ?_) (fun _ => ?_)
    · refine b_run [(18, .aload_n 0, 0, 0, .null)] (pc' := 19) (ls' := [some (.ref 1315), some (.int y1)]) (st' := [.ref 1315]) (by decide +kernel) rfl ?_
      refine b_getC (b := 1317) (q := 13) (ci := 9) (k := 4) (w := .null) (by decide +kernel) (by decide +kernel) ?_
      refine b_run [(22, .iload_n 1, 0, 0, .null), (23, .aload_n 0, 0, 0, .null)] (pc' := 24) (ls' := [some (.ref 1315), some (.int y1)]) (st' := [.ref 1315, .int y1, .ref 1317]) (by decide +kernel) rfl ?_
      refine b_getC (b := 1326) (q := 41) (ci := 9) (k := 15) (w := .null) (by decide +kernel) (by decide +kernel) ?_
      refine b_run [(27, .iload_n 1, 0, 0, .null)] (pc' := 28) (ls' := [some (.ref 1315), some (.int y1)]) (st' := [.int y1, .ref 1326, .int y1, .ref 1317]) (by decide +kernel) rfl ?_
      refine b_guard (fun hb => ?_)
      refine b_aI (ci := 0) (y := 0) (w := .null) (by decide +kernel) (by decide +kernel) hb (fun c4 => ?_)
      refine b_guard (fun hb => ?_)
      refine b_sI (ci := 0) (y := 0) (w := .null) (by decide +kernel) (by decide +kernel) hb (fun σ5 => ?_)
      refine b_run [(30, .aload_n 0, 0, 0, .null)] (pc' := 31) (ls' := [some (.ref 1315), some (.int y1)]) (st' := [.ref 1315]) (by decide +kernel) rfl ?_
      refine b_getC (b := 1318) (q := 16) (ci := 9) (k := 5) (w := .null) (by decide +kernel) (by decide +kernel) ?_
      refine b_run [(34, .iload_n 1, 0, 0, .null), (35, .aload_n 0, 0, 0, .null)] (pc' := 36) (ls' := [some (.ref 1315), some (.int y1)]) (st' := [.ref 1315, .int y1, .ref 1318]) (by decide +kernel) rfl ?_
      refine b_getC (b := 1327) (q := 44) (ci := 9) (k := 16) (w := .null) (by decide +kernel) (by decide +kernel) ?_
      refine b_run [(39, .iload_n 1, 0, 0, .null)] (pc' := 40) (ls' := [some (.ref 1315), some (.int y1)]) (st' := [.int y1, .ref 1327, .int y1, .ref 1318]) (by decide +kernel) rfl ?_
      refine b_guard (fun hb => ?_)
      refine b_aI (ci := 0) (y := 0) (w := .null) (by decide +kernel) (by decide +kernel) hb (fun c6 => ?_)
      refine b_guard (fun hb => ?_)
      refine b_sI (ci := 0) (y := 0) (w := .null) (by decide +kernel) (by decide +kernel) hb (fun σ7 => ?_)
      refine b_run [(42, .aload_n 0, 0, 0, .null)] (pc' := 43) (ls' := [some (.ref 1315), some (.int y1)]) (st' := [.ref 1315]) (by decide +kernel) rfl ?_
      refine b_getC (b := 1319) (q := 19) (ci := 9) (k := 6) (w := .null) (by decide +kernel) (by decide +kernel) ?_
      refine b_run [(46, .iload_n 1, 0, 0, .null), (47, .aload_n 0, 0, 0, .null)] (pc' := 48) (ls' := [some (.ref 1315), some (.int y1)]) (st' := [.ref 1315, .int y1, .ref 1319]) (by decide +kernel) rfl ?_
      refine b_getC (b := 1328) (q := 47) (ci := 9) (k := 17) (w := .null) (by decide +kernel) (by decide +kernel) ?_
      refine b_run [(51, .iload_n 1, 0, 0, .null)] (pc' := 52) (ls' := [some (.ref 1315), some (.int y1)]) (st' := [.int y1, .ref 1328, .int y1, .ref 1319]) (by decide +kernel) rfl ?_
      refine b_guard (fun hb => ?_)
      refine b_aI (ci := 0) (y := 0) (w := .null) (by decide +kernel) (by decide +kernel) hb (fun c8 => ?_)
      refine b_guard (fun hb => ?_)
      refine b_sI (ci := 0) (y := 0) (w := .null) (by decide +kernel) (by decide +kernel) hb (fun σ9 => ?_)
      refine b_run [(54, .aload_n 0, 0, 0, .null)] (pc' := 55) (ls' := [some (.ref 1315), some (.int y1)]) (st' := [.ref 1315]) (by decide +kernel) rfl ?_
      refine b_getC (b := 1320) (q := 22) (ci := 9) (k := 7) (w := .null) (by decide +kernel) (by decide +kernel) ?_
      refine b_run [(58, .iload_n 1, 0, 0, .null), (59, .aload_n 0, 0, 0, .null)] (pc' := 60) (ls' := [some (.ref 1315), some (.int y1)]) (st' := [.ref 1315, .int y1, .ref 1320]) (by decide +kernel) rfl ?_
      refine b_getC (b := 1329) (q := 50) (ci := 9) (k := 18) (w := .null) (by decide +kernel) (by decide +kernel) ?_
      refine b_run [(63, .iload_n 1, 0, 0, .null)] (pc' := 64) (ls' := [some (.ref 1315), some (.int y1)]) (st' := [.int y1, .ref 1329, .int y1, .ref 1320]) (by decide +kernel) rfl ?_
      refine b_guard (fun hb => ?_)
      refine b_aI (ci := 0) (y := 0) (w := .null) (by decide +kernel) (by decide +kernel) hb (fun c10 => ?_)
      refine b_guard (fun hb => ?_)
      refine b_sI (ci := 0) (y := 0) (w := .null) (by decide +kernel) (by decide +kernel) hb (fun σ11 => ?_)
      refine b_run [(66, .aload_n 0, 0, 0, .null)] (pc' := 67) (ls' := [some (.ref 1315), some (.int y1)]) (st' := [.ref 1315]) (by decide +kernel) rfl ?_
      refine b_getC (b := 1321) (q := 25) (ci := 9) (k := 8) (w := .null) (by decide +kernel) (by decide +kernel) ?_
      refine b_run [(70, .iload_n 1, 0, 0, .null), (71, .aload_n 0, 0, 0, .null)] (pc' := 72) (ls' := [some (.ref 1315), some (.int y1)]) (st' := [.ref 1315, .int y1, .ref 1321]) (by decide +kernel) rfl ?_
      refine b_getC (b := 1330) (q := 53) (ci := 9) (k := 19) (w := .null) (by decide +kernel) (by decide +kernel) ?_
      refine b_run [(75, .iload_n 1, 0, 0, .null)] (pc' := 76) (ls' := [some (.ref 1315), some (.int y1)]) (st' := [.int y1, .ref 1330, .int y1, .ref 1321]) (by decide +kernel) rfl ?_
      refine b_guard (fun hb => ?_)
      refine b_aI (ci := 0) (y := 0) (w := .null) (by decide +kernel) (by decide +kernel) hb (fun c12 => ?_)
      refine b_guard (fun hb => ?_)
      refine b_sI (ci := 0) (y := 0) (w := .null) (by decide +kernel) (by decide +kernel) hb (fun σ13 => ?_)
      refine b_run [(78, .aload_n 0, 0, 0, .null)] (pc' := 79) (ls' := [some (.ref 1315), some (.int y1)]) (st' := [.ref 1315]) (by decide +kernel) rfl ?_
      refine b_getC (b := 1322) (q := 28) (ci := 9) (k := 9) (w := .null) (by decide +kernel) (by decide +kernel) ?_
      refine b_run [(82, .iload_n 1, 0, 0, .null), (83, .aload_n 0, 0, 0, .null)] (pc' := 84) (ls' := [some (.ref 1315), some (.int y1)]) (st' := [.ref 1315, .int y1, .ref 1322]) (by decide +kernel) rfl ?_
      refine b_getC (b := 1331) (q := 56) (ci := 9) (k := 20) (w := .null) (by decide +kernel) (by decide +kernel) ?_
      refine b_run [(87, .iload_n 1, 0, 0, .null)] (pc' := 88) (ls' := [some (.ref 1315), some (.int y1)]) (st' := [.int y1, .ref 1331, .int y1, .ref 1322]) (by decide +kernel) rfl ?_
      refine b_guard (fun hb => ?_)
      refine b_aI (ci := 0) (y := 0) (w := .null) (by decide +kernel) (by decide +kernel) hb (fun c14 => ?_)
      refine b_guard (fun hb => ?_)
      refine b_sI (ci := 0) (y := 0) (w := .null) (by decide +kernel) (by decide +kernel) hb (fun σ15 => ?_)
      refine b_run [(90, .iinc 1 1, 0, 0, .null), (93, .goto (-83), 10, 0, .null)] (pc' := 10) (ls' := [some (.ref 1315), some (.int (y1 + 1))]) (st' := []) (by decide +kernel) rfl ?_
      exact b_wk (wS (wS w0)) (ih (y1 + 1) σ15)
    · refine b_run [(96, .iconst 0, 0, 0, .null), (97, .istore_n 1, 0, 0, .null)] (pc' := 98) (ls' := [some (.ref 1315), some (.int 0)]) (st' := []) (by decide +kernel) rfl ?_
      exact b_wk (wS (wS w0)) (s178_98 hv F F 0 σ)
/-- TreeStoreModel.adopt()V -/
def f178 (F : Nat) (σ : St) : Rs := lt (σ.1 1315 13) fun c1 => lt (uI σ 1315 3 c1) fun σ2 => f178_10 F F 0 σ2
theorem s178 {sc : aSc} (hv : vOk sc) (F : Nat) (σ : St) : bEx sc 1 178 0 [some (.ref 1315), none] [] σ (f178 F σ) := by
  unfold f178
  refine b_run [(0, .aload_n 0, 0, 0, .null), (1, .aload_n 0, 0, 0, .null)] (pc' := 2) (ls' := [some (.ref 1315), none]) (st' := [.ref 1315, .ref 1315]) (by decide +kernel) rfl ?_
  refine b_gI (q := 249) (ci := 9) (k := 13) (w := .null) (by decide +kernel) (by decide +kernel) (fun c1 => ?_)
  refine b_pI (q := 148) (ci := 9) (k := 3) (w := .null) (by decide +kernel) (by decide +kernel) (fit_I _) (fun σ2 => ?_)
  refine b_run [(8, .iconst 0, 0, 0, .null), (9, .istore_n 1, 0, 0, .null)] (pc' := 10) (ls' := [some (.ref 1315), some (.int 0)]) (st' := []) (by decide +kernel) rfl ?_
  exact b_wk (wS (wS w0)) (s178_10 hv F F 0 σ2)
/-- TreeStoreModel.fail(I)Z -/
def f154 (F : Nat) (x1 : Int32) (σ : St) : Rs := lt (σ.1 1315 33) fun c1 => 
    if c1 = 0 then lt (uI σ 1315 33 x1) fun σ2 => oI 0 σ2
    else lt (σ.1 1315 33) fun c3 => lt (uI σ 1315 33 c3) fun σ4 => oI 0 σ4
theorem s154 {sc : aSc} (hv : vOk sc) (F : Nat) (x1 : Int32) (σ : St) : bEx sc 0 154 0 [some (.ref 1315), some (.int x1)] [] σ (f154 F x1 σ) := by
  unfold f154
  refine b_run [(0, .aload_n 0, 0, 0, .null), (1, .aload_n 0, 0, 0, .null)] (pc' := 2) (ls' := [some (.ref 1315), some (.int x1)]) (st' := [.ref 1315, .ref 1315]) (by decide +kernel) rfl ?_
  refine b_gI (q := 169) (ci := 9) (k := 33) (w := .null) (by decide +kernel) (by decide +kernel) (fun c1 => ?_)
  refine b_izF (c := .ne) (o := 7) (t := 12) (y := 0) (w := .null) (by decide +kernel) cmp_ne (fun _ => ?_) (fun _ => ?_)
  · refine b_run [(8, .iload_n 1, 0, 0, .null), (9, .goto 7, 16, 0, .null)] (pc' := 16) (ls' := [some (.ref 1315), some (.int x1)]) (st' := [.int x1, .ref 1315]) (by decide +kernel) rfl ?_
    refine b_pI (q := 169) (ci := 9) (k := 33) (w := .null) (by decide +kernel) (by decide +kernel) (fit_I _) (fun σ2 => ?_)
    refine b_run [(19, .iconst 0, 0, 0, .null)] (pc' := 20) (ls' := [some (.ref 1315), some (.int x1)]) (st' := [.int 0]) (by decide +kernel) rfl ?_
    exact b_ret (i := (.ireturn, 0, 0, .null)) (by decide +kernel) rfl rfl (by decide +kernel)
  · refine b_run [(12, .aload_n 0, 0, 0, .null)] (pc' := 13) (ls' := [some (.ref 1315), some (.int x1)]) (st' := [.ref 1315, .ref 1315]) (by decide +kernel) rfl ?_
    refine b_gI (q := 169) (ci := 9) (k := 33) (w := .null) (by decide +kernel) (by decide +kernel) (fun c3 => ?_)
    refine b_pI (q := 169) (ci := 9) (k := 33) (w := .null) (by decide +kernel) (by decide +kernel) (fit_I _) (fun σ4 => ?_)
    refine b_run [(19, .iconst 0, 0, 0, .null)] (pc' := 20) (ls' := [some (.ref 1315), some (.int x1)]) (st' := [.int 0]) (by decide +kernel) rfl ?_
    exact b_ret (i := (.ireturn, 0, 0, .null)) (by decide +kernel) rfl rfl (by decide +kernel)
/-- TreeStoreModel.make(III)Z -/
def f160 (F : Nat) (x1 : Int32) (x2 : Int32) (x3 : Int32) (σ : St) : Rs := lt (σ.1 1315 22) fun c1 => 
    if x3 + c1 < 30 then 
    lt (σ.1 1315 22) fun c2 => 
    if inB c2 31 then lt (uI σ 1333 c2.toNatClampNeg x1) fun σ3 => 
    lt (σ3.1 1315 22) fun c4 => 
    if inB c4 31 then lt (uI σ3 1334 c4.toNatClampNeg x2) fun σ5 => 
    lt (σ5.1 1315 22) fun c6 => 
    if inB c6 31 then lt (uI σ5 1335 c6.toNatClampNeg 0) fun σ7 => 
    lt (σ7.1 1315 22) fun c8 => 
    if inB c8 31 then lt (uI σ7 1336 c8.toNatClampNeg 0) fun σ9 => 
    lt (σ9.1 1315 22) fun c10 => 
    lt (σ9.1 1315 23) fun c11 => 
    if inB c10 31 then lt (uI σ9 1337 c10.toNatClampNeg c11) fun σ12 => 
    lt (σ12.1 1315 22) fun c13 => 
    if inB c13 31 then lt (uI σ12 1338 c13.toNatClampNeg 0) fun σ14 => lt (σ14.1 1315 22) fun c15 => lt (uI σ14 1315 22 (c15 + 1)) fun σ16 => oI 1 σ16 else none else none else none else none else none else none
    else cI (f154 F 3 σ) fun c18 σ17 => if c18 = 0 ∨ c18 = 1 then oI c18 σ17 else none
theorem s160 {sc : aSc} (hv : vOk sc) (F : Nat) (x1 : Int32) (x2 : Int32) (x3 : Int32) (σ : St) : bEx sc 1 160 0 [some (.ref 1315), some (.int x1), some (.int x2), some (.int x3)] [] σ (f160 F x1 x2 x3 σ) := by
  unfold f160
  refine b_run [(0, .iload_n 3, 0, 0, .null), (1, .aload_n 0, 0, 0, .null)] (pc' := 2) (ls' := [some (.ref 1315), some (.int x1), some (.int x2), some (.int x3)]) (st' := [.ref 1315, .int x3]) (by decide +kernel) rfl ?_
  refine b_gI (q := 172) (ci := 9) (k := 22) (w := .null) (by decide +kernel) (by decide +kernel) (fun c1 => ?_)
  refine b_run [(5, .iadd, 0, 0, .null), (6, .bipush 30, 0, 0, .null)] (pc' := 8) (ls' := [some (.ref 1315), some (.int x1), some (.int x2), some (.int x3)]) (st' := [.int 30, .int (x3 + c1)]) (by decide +kernel) rfl ?_
  refine b_icT (c := .lt) (o := 9) (t := 17) (y := 0) (w := .null) (by decide +kernel) cmp_lt (fun _ => ?_) (fun _ => ?_)
  · refine b_run [(17, .aload_n 0, 0, 0, .null)] (pc' := 18) (ls' := [some (.ref 1315), some (.int x1), some (.int x2), some (.int x3)]) (st' := [.ref 1315]) (by decide +kernel) rfl ?_
    refine b_getC (b := 1333) (q := 62) (ci := 9) (k := 24) (w := .null) (by decide +kernel) (by decide +kernel) ?_
    refine b_run [(21, .aload_n 0, 0, 0, .null)] (pc' := 22) (ls' := [some (.ref 1315), some (.int x1), some (.int x2), some (.int x3)]) (st' := [.ref 1315, .ref 1333]) (by decide +kernel) rfl ?_
    refine b_gI (q := 172) (ci := 9) (k := 22) (w := .null) (by decide +kernel) (by decide +kernel) (fun c2 => ?_)
    refine b_run [(25, .iload_n 1, 0, 0, .null)] (pc' := 26) (ls' := [some (.ref 1315), some (.int x1), some (.int x2), some (.int x3)]) (st' := [.int x1, .int c2, .ref 1333]) (by decide +kernel) rfl ?_
    refine b_guard (fun hb => ?_)
    refine b_sI (ci := 0) (y := 0) (w := .null) (by decide +kernel) (by decide +kernel) hb (fun σ3 => ?_)
    refine b_run [(27, .aload_n 0, 0, 0, .null)] (pc' := 28) (ls' := [some (.ref 1315), some (.int x1), some (.int x2), some (.int x3)]) (st' := [.ref 1315]) (by decide +kernel) rfl ?_
    refine b_getC (b := 1334) (q := 65) (ci := 9) (k := 25) (w := .null) (by decide +kernel) (by decide +kernel) ?_
    refine b_run [(31, .aload_n 0, 0, 0, .null)] (pc' := 32) (ls' := [some (.ref 1315), some (.int x1), some (.int x2), some (.int x3)]) (st' := [.ref 1315, .ref 1334]) (by decide +kernel) rfl ?_
    refine b_gI (q := 172) (ci := 9) (k := 22) (w := .null) (by decide +kernel) (by decide +kernel) (fun c4 => ?_)
    refine b_run [(35, .iload_n 2, 0, 0, .null)] (pc' := 36) (ls' := [some (.ref 1315), some (.int x1), some (.int x2), some (.int x3)]) (st' := [.int x2, .int c4, .ref 1334]) (by decide +kernel) rfl ?_
    refine b_guard (fun hb => ?_)
    refine b_sI (ci := 0) (y := 0) (w := .null) (by decide +kernel) (by decide +kernel) hb (fun σ5 => ?_)
    refine b_run [(37, .aload_n 0, 0, 0, .null)] (pc' := 38) (ls' := [some (.ref 1315), some (.int x1), some (.int x2), some (.int x3)]) (st' := [.ref 1315]) (by decide +kernel) rfl ?_
    refine b_getC (b := 1335) (q := 68) (ci := 9) (k := 26) (w := .null) (by decide +kernel) (by decide +kernel) ?_
    refine b_run [(41, .aload_n 0, 0, 0, .null)] (pc' := 42) (ls' := [some (.ref 1315), some (.int x1), some (.int x2), some (.int x3)]) (st' := [.ref 1315, .ref 1335]) (by decide +kernel) rfl ?_
    refine b_gI (q := 172) (ci := 9) (k := 22) (w := .null) (by decide +kernel) (by decide +kernel) (fun c6 => ?_)
    refine b_run [(45, .iconst 0, 0, 0, .null)] (pc' := 46) (ls' := [some (.ref 1315), some (.int x1), some (.int x2), some (.int x3)]) (st' := [.int 0, .int c6, .ref 1335]) (by decide +kernel) rfl ?_
    refine b_guard (fun hb => ?_)
    refine b_sI (ci := 0) (y := 0) (w := .null) (by decide +kernel) (by decide +kernel) hb (fun σ7 => ?_)
    refine b_run [(47, .aload_n 0, 0, 0, .null)] (pc' := 48) (ls' := [some (.ref 1315), some (.int x1), some (.int x2), some (.int x3)]) (st' := [.ref 1315]) (by decide +kernel) rfl ?_
    refine b_getC (b := 1336) (q := 71) (ci := 9) (k := 27) (w := .null) (by decide +kernel) (by decide +kernel) ?_
    refine b_run [(51, .aload_n 0, 0, 0, .null)] (pc' := 52) (ls' := [some (.ref 1315), some (.int x1), some (.int x2), some (.int x3)]) (st' := [.ref 1315, .ref 1336]) (by decide +kernel) rfl ?_
    refine b_gI (q := 172) (ci := 9) (k := 22) (w := .null) (by decide +kernel) (by decide +kernel) (fun c8 => ?_)
    refine b_run [(55, .iconst 0, 0, 0, .null)] (pc' := 56) (ls' := [some (.ref 1315), some (.int x1), some (.int x2), some (.int x3)]) (st' := [.int 0, .int c8, .ref 1336]) (by decide +kernel) rfl ?_
    refine b_guard (fun hb => ?_)
    refine b_sI (ci := 0) (y := 0) (w := .null) (by decide +kernel) (by decide +kernel) hb (fun σ9 => ?_)
    refine b_run [(57, .aload_n 0, 0, 0, .null)] (pc' := 58) (ls' := [some (.ref 1315), some (.int x1), some (.int x2), some (.int x3)]) (st' := [.ref 1315]) (by decide +kernel) rfl ?_
    refine b_getC (b := 1337) (q := 74) (ci := 9) (k := 28) (w := .null) (by decide +kernel) (by decide +kernel) ?_
    refine b_run [(61, .aload_n 0, 0, 0, .null)] (pc' := 62) (ls' := [some (.ref 1315), some (.int x1), some (.int x2), some (.int x3)]) (st' := [.ref 1315, .ref 1337]) (by decide +kernel) rfl ?_
    refine b_gI (q := 172) (ci := 9) (k := 22) (w := .null) (by decide +kernel) (by decide +kernel) (fun c10 => ?_)
    refine b_run [(65, .aload_n 0, 0, 0, .null)] (pc' := 66) (ls' := [some (.ref 1315), some (.int x1), some (.int x2), some (.int x3)]) (st' := [.ref 1315, .int c10, .ref 1337]) (by decide +kernel) rfl ?_
    refine b_gI (q := 178) (ci := 9) (k := 23) (w := .null) (by decide +kernel) (by decide +kernel) (fun c11 => ?_)
    refine b_guard (fun hb => ?_)
    refine b_sI (ci := 0) (y := 0) (w := .null) (by decide +kernel) (by decide +kernel) hb (fun σ12 => ?_)
    refine b_run [(70, .aload_n 0, 0, 0, .null)] (pc' := 71) (ls' := [some (.ref 1315), some (.int x1), some (.int x2), some (.int x3)]) (st' := [.ref 1315]) (by decide +kernel) rfl ?_
    refine b_getC (b := 1338) (q := 77) (ci := 9) (k := 29) (w := .null) (by decide +kernel) (by decide +kernel) ?_
    refine b_run [(74, .aload_n 0, 0, 0, .null)] (pc' := 75) (ls' := [some (.ref 1315), some (.int x1), some (.int x2), some (.int x3)]) (st' := [.ref 1315, .ref 1338]) (by decide +kernel) rfl ?_
    refine b_gI (q := 172) (ci := 9) (k := 22) (w := .null) (by decide +kernel) (by decide +kernel) (fun c13 => ?_)
    refine b_run [(78, .iconst 0, 0, 0, .null)] (pc' := 79) (ls' := [some (.ref 1315), some (.int x1), some (.int x2), some (.int x3)]) (st' := [.int 0, .int c13, .ref 1338]) (by decide +kernel) rfl ?_
    refine b_guard (fun hb => ?_)
    refine b_sI (ci := 0) (y := 0) (w := .null) (by decide +kernel) (by decide +kernel) hb (fun σ14 => ?_)
    refine b_run [(80, .aload_n 0, 0, 0, .null), (81, .dup, 0, 0, .null)] (pc' := 82) (ls' := [some (.ref 1315), some (.int x1), some (.int x2), some (.int x3)]) (st' := [.ref 1315, .ref 1315]) (by decide +kernel) rfl ?_
    refine b_gI (q := 172) (ci := 9) (k := 22) (w := .null) (by decide +kernel) (by decide +kernel) (fun c15 => ?_)
    refine b_run [(85, .iconst 1, 0, 0, .null), (86, .iadd, 0, 0, .null)] (pc' := 87) (ls' := [some (.ref 1315), some (.int x1), some (.int x2), some (.int x3)]) (st' := [.int (c15 + 1), .ref 1315]) (by decide +kernel) rfl ?_
    refine b_pI (q := 172) (ci := 9) (k := 22) (w := .null) (by decide +kernel) (by decide +kernel) (fit_I _) (fun σ16 => ?_)
    refine b_run [(90, .iconst 1, 0, 0, .null)] (pc' := 91) (ls' := [some (.ref 1315), some (.int x1), some (.int x2), some (.int x3)]) (st' := [.int 1]) (by decide +kernel) rfl ?_
    exact b_ret (i := (.ireturn, 0, 0, .null)) (by decide +kernel) rfl rfl (by decide +kernel)
  · refine b_run [(11, .aload_n 0, 0, 0, .null), (12, .iconst 3, 0, 0, .null)] (pc' := 13) (ls' := [some (.ref 1315), some (.int x1), some (.int x2), some (.int x3)]) (st' := [.int 3, .ref 1315]) (by decide +kernel) rfl ?_
    refine b_callI 154 2 [.ref 1315, .int 3] (rest := []) (by decide +kernel) rfl rfl rfl (go_O rfl (by decide +kernel) (by decide +kernel : isO 1315 9 = true)) rfl (s154 hv F 3 σ) (by decide) (fun c18 σ17 => ?_)
    exact b_guard (fun hz => b_ret (i := (.ireturn, 0, 0, .null)) (by decide +kernel) rfl rfl (fit_Z hz))
/-- TreeStoreModel.ch(I)I -/
def f152 (F : Nat) (x1 : Int32) (σ : St) : Rs := lt (σ.1 1315 1) fun c1 => 
    if x1 < c1 then if inB x1 122 then lt (σ.1 1316 x1.toNatClampNeg) fun c2 => oI c2 σ else none
    else oI 0 σ
theorem s152 {sc : aSc} (hv : vOk sc) (F : Nat) (x1 : Int32) (σ : St) : bEx sc 0 152 0 [some (.ref 1315), some (.int x1)] [] σ (f152 F x1 σ) := by
  unfold f152
  refine b_run [(0, .iload_n 1, 0, 0, .null), (1, .aload_n 0, 0, 0, .null)] (pc' := 2) (ls' := [some (.ref 1315), some (.int x1)]) (st' := [.ref 1315, .int x1]) (by decide +kernel) rfl ?_
  refine b_gI (q := 155) (ci := 9) (k := 1) (w := .null) (by decide +kernel) (by decide +kernel) (fun c1 => ?_)
  refine b_icF (c := .ge) (o := 12) (t := 17) (y := 0) (w := .null) (by decide +kernel) cmp_ge (fun _ => ?_) (fun _ => ?_)
  · refine b_run [(8, .aload_n 0, 0, 0, .null)] (pc' := 9) (ls' := [some (.ref 1315), some (.int x1)]) (st' := [.ref 1315]) (by decide +kernel) rfl ?_
    refine b_getC (b := 1316) (q := 7) (ci := 9) (k := 2) (w := .null) (by decide +kernel) (by decide +kernel) ?_
    refine b_run [(12, .iload_n 1, 0, 0, .null)] (pc' := 13) (ls' := [some (.ref 1315), some (.int x1)]) (st' := [.int x1, .ref 1316]) (by decide +kernel) rfl ?_
    refine b_guard (fun hb => ?_)
    refine b_aI (ci := 0) (y := 0) (w := .null) (by decide +kernel) (by decide +kernel) hb (fun c2 => ?_)
    refine b_run [(14, .goto 4, 18, 0, .null)] (pc' := 18) (ls' := [some (.ref 1315), some (.int x1)]) (st' := [.int c2]) (by decide +kernel) rfl ?_
    exact b_ret (i := (.ireturn, 0, 0, .null)) (by decide +kernel) rfl rfl (fit_I _)
  · refine b_run [(17, .iconst 0, 0, 0, .null)] (pc' := 18) (ls' := [some (.ref 1315), some (.int x1)]) (st' := [.int 0]) (by decide +kernel) rfl ?_
    exact b_ret (i := (.ireturn, 0, 0, .null)) (by decide +kernel) rfl rfl (fit_I _)
def f156_12 (F : Nat) (y0 : Int32) (σ : St) : Rs := if y0 < 65 then oI 0 σ
    else if 90 < y0 then oI 0 σ
    else oI 1 σ
theorem s156_12 {sc : aSc} (hv : vOk sc) (F : Nat) (y0 : Int32) (σ : St) : bEx sc 0 156 12 [some (.int y0)] [] σ (f156_12 F y0 σ) := by
  unfold f156_12
  refine b_run [(12, .iload_n 0, 0, 0, .null), (13, .bipush 65, 0, 0, .null)] (pc' := 15) (ls' := [some (.int y0)]) (st' := [.int 65, .int y0]) (by decide +kernel) rfl ?_
  refine b_icT (c := .lt) (o := 13) (t := 28) (y := 0) (w := .null) (by decide +kernel) cmp_lt (fun _ => ?_) (fun _ => ?_)
  · refine b_run [(28, .iconst 0, 0, 0, .null)] (pc' := 29) (ls' := [some (.int y0)]) (st' := [.int 0]) (by decide +kernel) rfl ?_
    exact b_ret (i := (.ireturn, 0, 0, .null)) (by decide +kernel) rfl rfl (by decide +kernel)
  · refine b_run [(18, .iload_n 0, 0, 0, .null), (19, .bipush 90, 0, 0, .null)] (pc' := 21) (ls' := [some (.int y0)]) (st' := [.int 90, .int y0]) (by decide +kernel) rfl ?_
    refine b_icT (c := .gt) (o := 7) (t := 28) (y := 0) (w := .null) (by decide +kernel) cmp_gt (fun _ => ?_) (fun _ => ?_)
    · refine b_run [(28, .iconst 0, 0, 0, .null)] (pc' := 29) (ls' := [some (.int y0)]) (st' := [.int 0]) (by decide +kernel) rfl ?_
      exact b_ret (i := (.ireturn, 0, 0, .null)) (by decide +kernel) rfl rfl (by decide +kernel)
    · refine b_run [(24, .iconst 1, 0, 0, .null), (25, .goto 4, 29, 0, .null)] (pc' := 29) (ls' := [some (.int y0)]) (st' := [.int 1]) (by decide +kernel) rfl ?_
      exact b_ret (i := (.ireturn, 0, 0, .null)) (by decide +kernel) rfl rfl (by decide +kernel)
/-- TreeStoreModel.isLetter(I)Z -/
def f156 (F : Nat) (x0 : Int32) (σ : St) : Rs := if x0 < 97 then f156_12 F x0 σ
    else if 122 < x0 then f156_12 F x0 σ
    else oI 1 σ
theorem s156 {sc : aSc} (hv : vOk sc) (F : Nat) (x0 : Int32) (σ : St) : bEx sc 0 156 0 [some (.int x0)] [] σ (f156 F x0 σ) := by
  unfold f156
  refine b_run [(0, .iload_n 0, 0, 0, .null), (1, .bipush 97, 0, 0, .null)] (pc' := 3) (ls' := [some (.int x0)]) (st' := [.int 97, .int x0]) (by decide +kernel) rfl ?_
  refine b_icT (c := .lt) (o := 9) (t := 12) (y := 0) (w := .null) (by decide +kernel) cmp_lt (fun _ => ?_) (fun _ => ?_)
  · exact b_wk (wS w0) (s156_12 hv F x0 σ)
  · refine b_run [(6, .iload_n 0, 0, 0, .null), (7, .bipush 122, 0, 0, .null)] (pc' := 9) (ls' := [some (.int x0)]) (st' := [.int 122, .int x0]) (by decide +kernel) rfl ?_
    refine b_icF (c := .le) (o := 15) (t := 24) (y := 0) (w := .null) (by decide +kernel) cmp_le (fun _ => ?_) (fun _ => ?_)
    · exact b_wk (wS w0) (s156_12 hv F x0 σ)
    · refine b_run [(24, .iconst 1, 0, 0, .null), (25, .goto 4, 29, 0, .null)] (pc' := 29) (ls' := [some (.int x0)]) (st' := [.int 1]) (by decide +kernel) rfl ?_
      exact b_ret (i := (.ireturn, 0, 0, .null)) (by decide +kernel) rfl rfl (by decide +kernel)
def f164_19 (F : Nat) (y0 : Int32) (σ : St) : Rs := if y0 = 45 then oI 1 σ
    else if y0 = 95 then oI 1 σ
    else oI 0 σ
theorem s164_19 {sc : aSc} (hv : vOk sc) (F : Nat) (y0 : Int32) (σ : St) : bEx sc 1 164 19 [some (.int y0)] [] σ (f164_19 F y0 σ) := by
  unfold f164_19
  refine b_run [(19, .iload_n 0, 0, 0, .null), (20, .bipush 45, 0, 0, .null)] (pc' := 22) (ls' := [some (.int y0)]) (st' := [.int 45, .int y0]) (by decide +kernel) rfl ?_
  refine b_icT (c := .eq) (o := 9) (t := 31) (y := 0) (w := .null) (by decide +kernel) cmp_eq (fun _ => ?_) (fun _ => ?_)
  · refine b_run [(31, .iconst 1, 0, 0, .null), (32, .goto 4, 36, 0, .null)] (pc' := 36) (ls' := [some (.int y0)]) (st' := [.int 1]) (by decide +kernel) rfl ?_
    exact b_ret (i := (.ireturn, 0, 0, .null)) (by decide +kernel) rfl rfl (by decide +kernel)
  · refine b_run [(25, .iload_n 0, 0, 0, .null), (26, .bipush 95, 0, 0, .null)] (pc' := 28) (ls' := [some (.int y0)]) (st' := [.int 95, .int y0]) (by decide +kernel) rfl ?_
    refine b_icF (c := .ne) (o := 7) (t := 35) (y := 0) (w := .null) (by decide +kernel) cmp_ne (fun _ => ?_) (fun _ => ?_)
    · refine b_run [(31, .iconst 1, 0, 0, .null), (32, .goto 4, 36, 0, .null)] (pc' := 36) (ls' := [some (.int y0)]) (st' := [.int 1]) (by decide +kernel) rfl ?_
      exact b_ret (i := (.ireturn, 0, 0, .null)) (by decide +kernel) rfl rfl (by decide +kernel)
    · refine b_run [(35, .iconst 0, 0, 0, .null)] (pc' := 36) (ls' := [some (.int y0)]) (st' := [.int 0]) (by decide +kernel) rfl ?_
      exact b_ret (i := (.ireturn, 0, 0, .null)) (by decide +kernel) rfl rfl (by decide +kernel)
/-- TreeStoreModel.isNamePart(I)Z -/
def f164 (F : Nat) (x0 : Int32) (σ : St) : Rs := cI (f156 F x0 σ) fun c2 σ1 => 
    if c2 = 0 then 
    if x0 < 48 then f164_19 F x0 σ1
    else if 57 < x0 then f164_19 F x0 σ1
    else oI 1 σ1
    else oI 1 σ1
theorem s164 {sc : aSc} (hv : vOk sc) (F : Nat) (x0 : Int32) (σ : St) : bEx sc 1 164 0 [some (.int x0)] [] σ (f164 F x0 σ) := by
  unfold f164
  refine b_run [(0, .iload_n 0, 0, 0, .null)] (pc' := 1) (ls' := [some (.int x0)]) (st' := [.int x0]) (by decide +kernel) rfl ?_
  refine b_callI 156 1 [.int x0] (rest := []) (by decide +kernel) rfl rfl rfl (go_S rfl (by decide +kernel)) rfl (s156 hv F x0 σ) (by decide) (fun c2 σ1 => ?_)
  refine b_izF (c := .ne) (o := 27) (t := 31) (y := 0) (w := .null) (by decide +kernel) cmp_ne (fun _ => ?_) (fun _ => ?_)
  · refine b_run [(7, .iload_n 0, 0, 0, .null), (8, .bipush 48, 0, 0, .null)] (pc' := 10) (ls' := [some (.int x0)]) (st' := [.int 48, .int x0]) (by decide +kernel) rfl ?_
    refine b_icT (c := .lt) (o := 9) (t := 19) (y := 0) (w := .null) (by decide +kernel) cmp_lt (fun _ => ?_) (fun _ => ?_)
    · exact b_wk (wS w0) (s164_19 hv F x0 σ1)
    · refine b_run [(13, .iload_n 0, 0, 0, .null), (14, .bipush 57, 0, 0, .null)] (pc' := 16) (ls' := [some (.int x0)]) (st' := [.int 57, .int x0]) (by decide +kernel) rfl ?_
      refine b_icF (c := .le) (o := 15) (t := 31) (y := 0) (w := .null) (by decide +kernel) cmp_le (fun _ => ?_) (fun _ => ?_)
      · exact b_wk (wS w0) (s164_19 hv F x0 σ1)
      · refine b_run [(31, .iconst 1, 0, 0, .null), (32, .goto 4, 36, 0, .null)] (pc' := 36) (ls' := [some (.int x0)]) (st' := [.int 1]) (by decide +kernel) rfl ?_
        exact b_ret (i := (.ireturn, 0, 0, .null)) (by decide +kernel) rfl rfl (by decide +kernel)
  · refine b_run [(31, .iconst 1, 0, 0, .null), (32, .goto 4, 36, 0, .null)] (pc' := 36) (ls' := [some (.int x0)]) (st' := [.int 1]) (by decide +kernel) rfl ?_
    exact b_ret (i := (.ireturn, 0, 0, .null)) (by decide +kernel) rfl rfl (by decide +kernel)
def f163_17 (F : Nat) : Nat → Int32 → St → Rs
  | 0, _, _ => none
  | n + 1, y2, σ => cI (f152 F y2 σ) fun c6 σ5 => 
    cI (f164 F c6 σ5) fun c8 σ7 => 
    if c8 = 0 then oI y2 σ7
    else f163_17 F n (y2 + 1) σ7
theorem s163_17 {sc : aSc} (hv : vOk sc) (F : Nat) : ∀ (n : Nat) (y2 : Int32) (σ : St), bEx sc 2 163 17 [some (.ref 1315), none, some (.int y2)] [] σ (f163_17 F n y2 σ) := by
  intro n
  induction n with
  | zero => intro y2 σ; exact b_none
  | succ n ih =>
    intro y2 σ
    rw [f163_17.eq_2]
    refine b_run [(17, .aload_n 0, 0, 0, .null), (18, .iload_n 2, 0, 0, .null)] (pc' := 19) (ls' := [some (.ref 1315), none, some (.int y2)]) (st' := [.int y2, .ref 1315]) (by decide +kernel) rfl ?_
    refine b_callI 152 2 [.ref 1315, .int y2] (rest := []) (by decide +kernel) rfl rfl rfl (go_O rfl (by decide +kernel) (by decide +kernel : isO 1315 9 = true)) rfl (s152 hv F y2 σ) (by decide) (fun c6 σ5 => ?_)
    refine b_callI 164 1 [.int c6] (rest := []) (by decide +kernel) rfl rfl rfl (go_S rfl (by decide +kernel)) rfl (s164 hv F c6 σ5) (by decide) (fun c8 σ7 => ?_)
    refine b_izT (c := .eq) (o := 9) (t := 34) (y := 0) (w := .null) (by decide +kernel) cmp_eq (fun _ => ?_) (fun _ => ?_)
    · refine b_run [(34, .iload_n 2, 0, 0, .null)] (pc' := 35) (ls' := [some (.ref 1315), none, some (.int y2)]) (st' := [.int y2]) (by decide +kernel) rfl ?_
      exact b_ret (i := (.ireturn, 0, 0, .null)) (by decide +kernel) rfl rfl (fit_I _)
    · refine b_run [(28, .iinc 2 1, 0, 0, .null), (31, .goto (-14), 17, 0, .null)] (pc' := 17) (ls' := [some (.ref 1315), none, some (.int (y2 + 1))]) (st' := []) (by decide +kernel) rfl ?_
      exact b_wk (wS (wN (wS w0))) (ih (y2 + 1) σ7)
/-- TreeStoreModel.nameEnd(I)I -/
def f163 (F : Nat) (x1 : Int32) (σ : St) : Rs := cI (f152 F x1 σ) fun c2 σ1 => 
    cI (f156 F c2 σ1) fun c4 σ3 => 
    if c4 = 0 then oI x1 σ3
    else f163_17 F F (x1 + 1) σ3
theorem s163 {sc : aSc} (hv : vOk sc) (F : Nat) (x1 : Int32) (σ : St) : bEx sc 2 163 0 [some (.ref 1315), some (.int x1), none] [] σ (f163 F x1 σ) := by
  unfold f163
  refine b_run [(0, .aload_n 0, 0, 0, .null), (1, .iload_n 1, 0, 0, .null)] (pc' := 2) (ls' := [some (.ref 1315), some (.int x1), none]) (st' := [.int x1, .ref 1315]) (by decide +kernel) rfl ?_
  refine b_callI 152 2 [.ref 1315, .int x1] (rest := []) (by decide +kernel) rfl rfl rfl (go_O rfl (by decide +kernel) (by decide +kernel : isO 1315 9 = true)) rfl (s152 hv F x1 σ) (by decide) (fun c2 σ1 => ?_)
  refine b_callI 156 1 [.int c2] (rest := []) (by decide +kernel) rfl rfl rfl (go_S rfl (by decide +kernel)) rfl (s156 hv F c2 σ1) (by decide) (fun c4 σ3 => ?_)
  refine b_izF (c := .ne) (o := 5) (t := 13) (y := 0) (w := .null) (by decide +kernel) cmp_ne (fun _ => ?_) (fun _ => ?_)
  · refine b_run [(11, .iload_n 1, 0, 0, .null)] (pc' := 12) (ls' := [some (.ref 1315), some (.int x1), none]) (st' := [.int x1]) (by decide +kernel) rfl ?_
    exact b_ret (i := (.ireturn, 0, 0, .null)) (by decide +kernel) rfl rfl (fit_I _)
  · refine b_run [(13, .iload_n 1, 0, 0, .null), (14, .iconst 1, 0, 0, .null), (15, .iadd, 0, 0, .null), (16, .istore_n 2, 0, 0, .null)] (pc' := 17) (ls' := [some (.ref 1315), some (.int x1), some (.int (x1 + 1))]) (st' := []) (by decide +kernel) rfl ?_
    exact b_wk (wS (wN (wS w0))) (s163_17 hv F F (x1 + 1) σ3)
def f166_53 (F : Nat) (k16 : Int32 → Int32 → Int32 → Int32 → Int32 → St → Rs) (y1 : Int32) (y2 : Int32) (y3 : Int32) (y6 : Int32) (z0 : Int32) (σ : St) : Rs := k16 y1 y2 y3 z0 (y6 + 1) σ
theorem s166_53 {sc : aSc} (hv : vOk sc) (F : Nat) (k16 : Int32 → Int32 → Int32 → Int32 → Int32 → St → Rs) (hk16 : ∀ y1 y2 y3 y5 y6 σ, bEx sc 0 166 16 [some (.ref 1315), some (.int y1), some (.int y2), some (.int y3), none, some (.int y5), some (.int y6)] [] σ (k16 y1 y2 y3 y5 y6 σ)) (y1 : Int32) (y2 : Int32) (y3 : Int32) (y6 : Int32) (z0 : Int32) (σ : St) : bEx sc 0 166 53 [some (.ref 1315), some (.int y1), some (.int y2), some (.int y3), none, none, some (.int y6)] [.int z0] σ (f166_53 F k16 y1 y2 y3 y6 z0 σ) := by
  unfold f166_53
  refine b_run [(53, .istore 5, 0, 0, .null), (55, .iinc 6 1, 0, 0, .null), (58, .goto (-42), 16, 0, .null)] (pc' := 16) (ls' := [some (.ref 1315), some (.int y1), some (.int y2), some (.int y3), none, some (.int z0), some (.int (y6 + 1))]) (st' := []) (by decide +kernel) rfl ?_
  exact b_wk (wS (wS (wS (wS (wN (wS (wS w0))))))) (hk16 y1 y2 y3 z0 (y6 + 1) σ)
def f166_16 (F : Nat) : Nat → Int32 → Int32 → Int32 → Int32 → Int32 → St → Rs
  | 0, _, _, _, _, _, _ => none
  | n + 1, y1, y2, y3, y5, y6, σ => if y6 < y2 then 
    if y5 = 0 then if y5 = 0 ∨ y5 = 1 then oI y5 σ else none
    else if inB (y1 + y6) 122 then lt (σ.1 1316 (y1 + y6).toNatClampNeg) fun c1 => 
    if inB (y3 + y6) 122 then lt (σ.1 1316 (y3 + y6).toNatClampNeg) fun c2 => 
    if c1 = c2 then f166_53 F (f166_16 F n) y1 y2 y3 y6 1 σ
    else f166_53 F (f166_16 F n) y1 y2 y3 y6 0 σ else none else none
    else if y5 = 0 ∨ y5 = 1 then oI y5 σ else none
theorem s166_16 {sc : aSc} (hv : vOk sc) (F : Nat) : ∀ (n : Nat) (y1 : Int32) (y2 : Int32) (y3 : Int32) (y5 : Int32) (y6 : Int32) (σ : St), bEx sc 0 166 16 [some (.ref 1315), some (.int y1), some (.int y2), some (.int y3), none, some (.int y5), some (.int y6)] [] σ (f166_16 F n y1 y2 y3 y5 y6 σ) := by
  intro n
  induction n with
  | zero => intro y1 y2 y3 y5 y6 σ; exact b_none
  | succ n ih =>
    intro y1 y2 y3 y5 y6 σ
    rw [f166_16.eq_2]
    refine b_run [(16, .iload 6, 0, 0, .null), (18, .iload_n 2, 0, 0, .null)] (pc' := 19) (ls' := [some (.ref 1315), some (.int y1), some (.int y2), some (.int y3), none, some (.int y5), some (.int y6)]) (st' := [.int y2, .int y6]) (by decide +kernel) rfl ?_
    refine b_icF (c := .ge) (o := 42) (t := 61) (y := 0) (w := .null) (by decide +kernel) cmp_ge (fun _ => ?_) (fun _ => ?_)
    · refine b_run [(22, .iload 5, 0, 0, .null)] (pc' := 24) (ls' := [some (.ref 1315), some (.int y1), some (.int y2), some (.int y3), none, some (.int y5), some (.int y6)]) (st' := [.int y5]) (by decide +kernel) rfl ?_
      refine b_izT (c := .eq) (o := 37) (t := 61) (y := 0) (w := .null) (by decide +kernel) cmp_eq (fun _ => ?_) (fun _ => ?_)
      · refine b_run [(61, .iload 5, 0, 0, .null)] (pc' := 63) (ls' := [some (.ref 1315), some (.int y1), some (.int y2), some (.int y3), none, some (.int y5), some (.int y6)]) (st' := [.int y5]) (by decide +kernel) rfl ?_
        exact b_guard (fun hz => b_ret (i := (.ireturn, 0, 0, .null)) (by decide +kernel) rfl rfl (fit_Z hz))
      · refine b_run [(27, .aload_n 0, 0, 0, .null)] (pc' := 28) (ls' := [some (.ref 1315), some (.int y1), some (.int y2), some (.int y3), none, some (.int y5), some (.int y6)]) (st' := [.ref 1315]) (by decide +kernel) rfl ?_
        refine b_getC (b := 1316) (q := 7) (ci := 9) (k := 2) (w := .null) (by decide +kernel) (by decide +kernel) ?_
        refine b_run [(31, .iload_n 1, 0, 0, .null), (32, .iload 6, 0, 0, .null), (34, .iadd, 0, 0, .null)] (pc' := 35) (ls' := [some (.ref 1315), some (.int y1), some (.int y2), some (.int y3), none, some (.int y5), some (.int y6)]) (st' := [.int (y1 + y6), .ref 1316]) (by decide +kernel) rfl ?_
        refine b_guard (fun hb => ?_)
        refine b_aI (ci := 0) (y := 0) (w := .null) (by decide +kernel) (by decide +kernel) hb (fun c1 => ?_)
        refine b_run [(36, .aload_n 0, 0, 0, .null)] (pc' := 37) (ls' := [some (.ref 1315), some (.int y1), some (.int y2), some (.int y3), none, some (.int y5), some (.int y6)]) (st' := [.ref 1315, .int c1]) (by decide +kernel) rfl ?_
        refine b_getC (b := 1316) (q := 7) (ci := 9) (k := 2) (w := .null) (by decide +kernel) (by decide +kernel) ?_
        refine b_run [(40, .iload_n 3, 0, 0, .null), (41, .iload 6, 0, 0, .null), (43, .iadd, 0, 0, .null)] (pc' := 44) (ls' := [some (.ref 1315), some (.int y1), some (.int y2), some (.int y3), none, some (.int y5), some (.int y6)]) (st' := [.int (y3 + y6), .ref 1316, .int c1]) (by decide +kernel) rfl ?_
        refine b_guard (fun hb => ?_)
        refine b_aI (ci := 0) (y := 0) (w := .null) (by decide +kernel) (by decide +kernel) hb (fun c2 => ?_)
        refine b_icF (c := .ne) (o := 7) (t := 52) (y := 0) (w := .null) (by decide +kernel) cmp_ne (fun _ => ?_) (fun _ => ?_)
        · refine b_run [(48, .iconst 1, 0, 0, .null), (49, .goto 4, 53, 0, .null)] (pc' := 53) (ls' := [some (.ref 1315), some (.int y1), some (.int y2), some (.int y3), none, some (.int y5), some (.int y6)]) (st' := [.int 1]) (by decide +kernel) rfl ?_
          exact b_wk (wS (wS (wS (wS (wN (wN (wS w0))))))) (s166_53 hv F (f166_16 F n) ih y1 y2 y3 y6 1 σ)
        · refine b_run [(52, .iconst 0, 0, 0, .null)] (pc' := 53) (ls' := [some (.ref 1315), some (.int y1), some (.int y2), some (.int y3), none, some (.int y5), some (.int y6)]) (st' := [.int 0]) (by decide +kernel) rfl ?_
          exact b_wk (wS (wS (wS (wS (wN (wN (wS w0))))))) (s166_53 hv F (f166_16 F n) ih y1 y2 y3 y6 0 σ)
    · refine b_run [(61, .iload 5, 0, 0, .null)] (pc' := 63) (ls' := [some (.ref 1315), some (.int y1), some (.int y2), some (.int y3), none, some (.int y5), some (.int y6)]) (st' := [.int y5]) (by decide +kernel) rfl ?_
      exact b_guard (fun hz => b_ret (i := (.ireturn, 0, 0, .null)) (by decide +kernel) rfl rfl (fit_Z hz))
def f166_11 (F : Nat) (y1 : Int32) (y2 : Int32) (y3 : Int32) (z0 : Int32) (σ : St) : Rs := f166_16 F F y1 y2 y3 z0 0 σ
theorem s166_11 {sc : aSc} (hv : vOk sc) (F : Nat) (y1 : Int32) (y2 : Int32) (y3 : Int32) (z0 : Int32) (σ : St) : bEx sc 0 166 11 [some (.ref 1315), some (.int y1), some (.int y2), some (.int y3), none, none, none] [.int z0] σ (f166_11 F y1 y2 y3 z0 σ) := by
  unfold f166_11
  refine b_run [(11, .istore 5, 0, 0, .null), (13, .iconst 0, 0, 0, .null), (14, .istore 6, 0, 0, .null)] (pc' := 16) (ls' := [some (.ref 1315), some (.int y1), some (.int y2), some (.int y3), none, some (.int z0), some (.int 0)]) (st' := []) (by decide +kernel) rfl ?_
  exact b_wk (wS (wS (wS (wS (wN (wS (wS w0))))))) (s166_16 hv F F y1 y2 y3 z0 0 σ)
/-- TreeStoreModel.sameName(IIII)Z -/
def f166 (F : Nat) (x1 : Int32) (x2 : Int32) (x3 : Int32) (x4 : Int32) (σ : St) : Rs := if x2 = x4 then f166_11 F x1 x2 x3 1 σ
    else f166_11 F x1 x2 x3 0 σ
theorem s166 {sc : aSc} (hv : vOk sc) (F : Nat) (x1 : Int32) (x2 : Int32) (x3 : Int32) (x4 : Int32) (σ : St) : bEx sc 0 166 0 [some (.ref 1315), some (.int x1), some (.int x2), some (.int x3), some (.int x4), none, none] [] σ (f166 F x1 x2 x3 x4 σ) := by
  unfold f166
  refine b_run [(0, .iload_n 2, 0, 0, .null), (1, .iload 4, 0, 0, .null)] (pc' := 3) (ls' := [some (.ref 1315), some (.int x1), some (.int x2), some (.int x3), some (.int x4), none, none]) (st' := [.int x4, .int x2]) (by decide +kernel) rfl ?_
  refine b_icF (c := .ne) (o := 7) (t := 10) (y := 0) (w := .null) (by decide +kernel) cmp_ne (fun _ => ?_) (fun _ => ?_)
  · refine b_run [(6, .iconst 1, 0, 0, .null), (7, .goto 4, 11, 0, .null)] (pc' := 11) (ls' := [some (.ref 1315), some (.int x1), some (.int x2), some (.int x3), some (.int x4), none, none]) (st' := [.int 1]) (by decide +kernel) rfl ?_
    exact b_wk (wS (wS (wS (wS (wN (wN (wN w0))))))) (s166_11 hv F x1 x2 x3 1 σ)
  · refine b_run [(10, .iconst 0, 0, 0, .null)] (pc' := 11) (ls' := [some (.ref 1315), some (.int x1), some (.int x2), some (.int x3), some (.int x4), none, none]) (st' := [.int 0]) (by decide +kernel) rfl ?_
    exact b_wk (wS (wS (wS (wS (wN (wN (wN w0))))))) (s166_11 hv F x1 x2 x3 0 σ)
def f168_160 (F : Nat) (y2 : Int32) (y3 : Int32) (y4 : Int32) (y5 : Int32) (y6 : Int32) (σ : St) : Rs := if y6 = 0 then oI 0 σ
    else if y2 = 97 then 
    if y3 = 112 then 
    if y4 = 111 then 
    if y5 = 115 then oI 39 σ
    else oI 0 σ
    else oI 0 σ
    else oI 0 σ
    else oI 0 σ
theorem s168_160 {sc : aSc} (hv : vOk sc) (F : Nat) (y2 : Int32) (y3 : Int32) (y4 : Int32) (y5 : Int32) (y6 : Int32) (σ : St) : bEx sc 1 168 160 [none, none, some (.int y2), some (.int y3), some (.int y4), some (.int y5), some (.int y6)] [] σ (f168_160 F y2 y3 y4 y5 y6 σ) := by
  unfold f168_160
  refine b_run [(160, .iload 6, 0, 0, .null)] (pc' := 162) (ls' := [none, none, some (.int y2), some (.int y3), some (.int y4), some (.int y5), some (.int y6)]) (st' := [.int y6]) (by decide +kernel) rfl ?_
  refine b_izT (c := .eq) (o := 34) (t := 196) (y := 0) (w := .null) (by decide +kernel) cmp_eq (fun _ => ?_) (fun _ => ?_)
  · refine b_run [(196, .iconst 0, 0, 0, .null)] (pc' := 197) (ls' := [none, none, some (.int y2), some (.int y3), some (.int y4), some (.int y5), some (.int y6)]) (st' := [.int 0]) (by decide +kernel) rfl ?_
    exact b_ret (i := (.ireturn, 0, 0, .null)) (by decide +kernel) rfl rfl (fit_I _)
  · refine b_run [(165, .iload_n 2, 0, 0, .null), (166, .bipush 97, 0, 0, .null)] (pc' := 168) (ls' := [none, none, some (.int y2), some (.int y3), some (.int y4), some (.int y5), some (.int y6)]) (st' := [.int 97, .int y2]) (by decide +kernel) rfl ?_
    refine b_icF (c := .ne) (o := 28) (t := 196) (y := 0) (w := .null) (by decide +kernel) cmp_ne (fun _ => ?_) (fun _ => ?_)
    · refine b_run [(171, .iload_n 3, 0, 0, .null), (172, .bipush 112, 0, 0, .null)] (pc' := 174) (ls' := [none, none, some (.int y2), some (.int y3), some (.int y4), some (.int y5), some (.int y6)]) (st' := [.int 112, .int y3]) (by decide +kernel) rfl ?_
      refine b_icF (c := .ne) (o := 22) (t := 196) (y := 0) (w := .null) (by decide +kernel) cmp_ne (fun _ => ?_) (fun _ => ?_)
      · refine b_run [(177, .iload 4, 0, 0, .null), (179, .bipush 111, 0, 0, .null)] (pc' := 181) (ls' := [none, none, some (.int y2), some (.int y3), some (.int y4), some (.int y5), some (.int y6)]) (st' := [.int 111, .int y4]) (by decide +kernel) rfl ?_
        refine b_icF (c := .ne) (o := 15) (t := 196) (y := 0) (w := .null) (by decide +kernel) cmp_ne (fun _ => ?_) (fun _ => ?_)
        · refine b_run [(184, .iload 5, 0, 0, .null), (186, .bipush 115, 0, 0, .null)] (pc' := 188) (ls' := [none, none, some (.int y2), some (.int y3), some (.int y4), some (.int y5), some (.int y6)]) (st' := [.int 115, .int y5]) (by decide +kernel) rfl ?_
          refine b_icF (c := .ne) (o := 8) (t := 196) (y := 0) (w := .null) (by decide +kernel) cmp_ne (fun _ => ?_) (fun _ => ?_)
          · refine b_run [(191, .bipush 39, 0, 0, .null), (193, .goto 4, 197, 0, .null)] (pc' := 197) (ls' := [none, none, some (.int y2), some (.int y3), some (.int y4), some (.int y5), some (.int y6)]) (st' := [.int 39]) (by decide +kernel) rfl ?_
            exact b_ret (i := (.ireturn, 0, 0, .null)) (by decide +kernel) rfl rfl (fit_I _)
          · refine b_run [(196, .iconst 0, 0, 0, .null)] (pc' := 197) (ls' := [none, none, some (.int y2), some (.int y3), some (.int y4), some (.int y5), some (.int y6)]) (st' := [.int 0]) (by decide +kernel) rfl ?_
            exact b_ret (i := (.ireturn, 0, 0, .null)) (by decide +kernel) rfl rfl (fit_I _)
        · refine b_run [(196, .iconst 0, 0, 0, .null)] (pc' := 197) (ls' := [none, none, some (.int y2), some (.int y3), some (.int y4), some (.int y5), some (.int y6)]) (st' := [.int 0]) (by decide +kernel) rfl ?_
          exact b_ret (i := (.ireturn, 0, 0, .null)) (by decide +kernel) rfl rfl (fit_I _)
      · refine b_run [(196, .iconst 0, 0, 0, .null)] (pc' := 197) (ls' := [none, none, some (.int y2), some (.int y3), some (.int y4), some (.int y5), some (.int y6)]) (st' := [.int 0]) (by decide +kernel) rfl ?_
        exact b_ret (i := (.ireturn, 0, 0, .null)) (by decide +kernel) rfl rfl (fit_I _)
    · refine b_run [(196, .iconst 0, 0, 0, .null)] (pc' := 197) (ls' := [none, none, some (.int y2), some (.int y3), some (.int y4), some (.int y5), some (.int y6)]) (st' := [.int 0]) (by decide +kernel) rfl ?_
      exact b_ret (i := (.ireturn, 0, 0, .null)) (by decide +kernel) rfl rfl (fit_I _)
def f168_124 (F : Nat) (y2 : Int32) (y3 : Int32) (y4 : Int32) (y5 : Int32) (z0 : Int32) (σ : St) : Rs := if z0 = 0 then f168_160 F y2 y3 y4 y5 z0 σ
    else if y2 = 113 then 
    if y3 = 117 then 
    if y4 = 111 then 
    if y5 = 116 then oI 34 σ
    else f168_160 F y2 y3 y4 y5 z0 σ
    else f168_160 F y2 y3 y4 y5 z0 σ
    else f168_160 F y2 y3 y4 y5 z0 σ
    else f168_160 F y2 y3 y4 y5 z0 σ
theorem s168_124 {sc : aSc} (hv : vOk sc) (F : Nat) (y2 : Int32) (y3 : Int32) (y4 : Int32) (y5 : Int32) (z0 : Int32) (σ : St) : bEx sc 1 168 124 [none, none, some (.int y2), some (.int y3), some (.int y4), some (.int y5), none] [.int z0] σ (f168_124 F y2 y3 y4 y5 z0 σ) := by
  unfold f168_124
  refine b_run [(124, .istore 6, 0, 0, .null), (126, .iload 6, 0, 0, .null)] (pc' := 128) (ls' := [none, none, some (.int y2), some (.int y3), some (.int y4), some (.int y5), some (.int z0)]) (st' := [.int z0]) (by decide +kernel) rfl ?_
  refine b_izT (c := .eq) (o := 32) (t := 160) (y := 0) (w := .null) (by decide +kernel) cmp_eq (fun _ => ?_) (fun _ => ?_)
  · exact b_wk (wN (wN (wS (wS (wS (wS (wS w0))))))) (s168_160 hv F y2 y3 y4 y5 z0 σ)
  · refine b_run [(131, .iload_n 2, 0, 0, .null), (132, .bipush 113, 0, 0, .null)] (pc' := 134) (ls' := [none, none, some (.int y2), some (.int y3), some (.int y4), some (.int y5), some (.int z0)]) (st' := [.int 113, .int y2]) (by decide +kernel) rfl ?_
    refine b_icF (c := .ne) (o := 26) (t := 160) (y := 0) (w := .null) (by decide +kernel) cmp_ne (fun _ => ?_) (fun _ => ?_)
    · refine b_run [(137, .iload_n 3, 0, 0, .null), (138, .bipush 117, 0, 0, .null)] (pc' := 140) (ls' := [none, none, some (.int y2), some (.int y3), some (.int y4), some (.int y5), some (.int z0)]) (st' := [.int 117, .int y3]) (by decide +kernel) rfl ?_
      refine b_icF (c := .ne) (o := 20) (t := 160) (y := 0) (w := .null) (by decide +kernel) cmp_ne (fun _ => ?_) (fun _ => ?_)
      · refine b_run [(143, .iload 4, 0, 0, .null), (145, .bipush 111, 0, 0, .null)] (pc' := 147) (ls' := [none, none, some (.int y2), some (.int y3), some (.int y4), some (.int y5), some (.int z0)]) (st' := [.int 111, .int y4]) (by decide +kernel) rfl ?_
        refine b_icF (c := .ne) (o := 13) (t := 160) (y := 0) (w := .null) (by decide +kernel) cmp_ne (fun _ => ?_) (fun _ => ?_)
        · refine b_run [(150, .iload 5, 0, 0, .null), (152, .bipush 116, 0, 0, .null)] (pc' := 154) (ls' := [none, none, some (.int y2), some (.int y3), some (.int y4), some (.int y5), some (.int z0)]) (st' := [.int 116, .int y5]) (by decide +kernel) rfl ?_
          refine b_icF (c := .ne) (o := 6) (t := 160) (y := 0) (w := .null) (by decide +kernel) cmp_ne (fun _ => ?_) (fun _ => ?_)
          · refine b_run [(157, .bipush 34, 0, 0, .null)] (pc' := 159) (ls' := [none, none, some (.int y2), some (.int y3), some (.int y4), some (.int y5), some (.int z0)]) (st' := [.int 34]) (by decide +kernel) rfl ?_
            exact b_ret (i := (.ireturn, 0, 0, .null)) (by decide +kernel) rfl rfl (fit_I _)
          · exact b_wk (wN (wN (wS (wS (wS (wS (wS w0))))))) (s168_160 hv F y2 y3 y4 y5 z0 σ)
        · exact b_wk (wN (wN (wS (wS (wS (wS (wS w0))))))) (s168_160 hv F y2 y3 y4 y5 z0 σ)
      · exact b_wk (wN (wN (wS (wS (wS (wS (wS w0))))))) (s168_160 hv F y2 y3 y4 y5 z0 σ)
    · exact b_wk (wN (wN (wS (wS (wS (wS (wS w0))))))) (s168_160 hv F y2 y3 y4 y5 z0 σ)
def f168_107 (F : Nat) (y1 : Int32) (y2 : Int32) (y3 : Int32) (y4 : Int32) (y5 : Int32) (σ : St) : Rs := cI (f152 F (y1 + 5) σ) fun c10 σ9 => 
    if c10 = 59 then f168_124 F y2 y3 y4 y5 1 σ9
    else f168_124 F y2 y3 y4 y5 0 σ9
theorem s168_107 {sc : aSc} (hv : vOk sc) (F : Nat) (y1 : Int32) (y2 : Int32) (y3 : Int32) (y4 : Int32) (y5 : Int32) (σ : St) : bEx sc 1 168 107 [some (.ref 1315), some (.int y1), some (.int y2), some (.int y3), some (.int y4), some (.int y5), none] [] σ (f168_107 F y1 y2 y3 y4 y5 σ) := by
  unfold f168_107
  refine b_run [(107, .aload_n 0, 0, 0, .null), (108, .iload_n 1, 0, 0, .null), (109, .iconst 5, 0, 0, .null), (110, .iadd, 0, 0, .null)] (pc' := 111) (ls' := [some (.ref 1315), some (.int y1), some (.int y2), some (.int y3), some (.int y4), some (.int y5), none]) (st' := [.int (y1 + 5), .ref 1315]) (by decide +kernel) rfl ?_
  refine b_callI 152 2 [.ref 1315, .int (y1 + 5)] (rest := []) (by decide +kernel) rfl rfl rfl (go_O rfl (by decide +kernel) (by decide +kernel : isO 1315 9 = true)) rfl (s152 hv F (y1 + 5) σ) (by decide) (fun c10 σ9 => ?_)
  refine b_run [(114, .bipush 59, 0, 0, .null)] (pc' := 116) (ls' := [some (.ref 1315), some (.int y1), some (.int y2), some (.int y3), some (.int y4), some (.int y5), none]) (st' := [.int 59, .int c10]) (by decide +kernel) rfl ?_
  refine b_icF (c := .ne) (o := 7) (t := 123) (y := 0) (w := .null) (by decide +kernel) cmp_ne (fun _ => ?_) (fun _ => ?_)
  · refine b_run [(119, .iconst 1, 0, 0, .null), (120, .goto 4, 124, 0, .null)] (pc' := 124) (ls' := [some (.ref 1315), some (.int y1), some (.int y2), some (.int y3), some (.int y4), some (.int y5), none]) (st' := [.int 1]) (by decide +kernel) rfl ?_
    exact b_wk (wN (wN (wS (wS (wS (wS (wN w0))))))) (s168_124 hv F y2 y3 y4 y5 1 σ9)
  · refine b_run [(123, .iconst 0, 0, 0, .null)] (pc' := 124) (ls' := [some (.ref 1315), some (.int y1), some (.int y2), some (.int y3), some (.int y4), some (.int y5), none]) (st' := [.int 0]) (by decide +kernel) rfl ?_
    exact b_wk (wN (wN (wS (wS (wS (wS (wN w0))))))) (s168_124 hv F y2 y3 y4 y5 0 σ9)
def f168_69 (F : Nat) (y1 : Int32) (y2 : Int32) (y3 : Int32) (y4 : Int32) (σ : St) : Rs := cI (f152 F (y1 + 4) σ) fun c8 σ7 => 
    if y2 = 97 then 
    if y3 = 109 then 
    if y4 = 112 then 
    if c8 = 59 then oI 38 σ7
    else f168_107 F y1 y2 y3 y4 c8 σ7
    else f168_107 F y1 y2 y3 y4 c8 σ7
    else f168_107 F y1 y2 y3 y4 c8 σ7
    else f168_107 F y1 y2 y3 y4 c8 σ7
theorem s168_69 {sc : aSc} (hv : vOk sc) (F : Nat) (y1 : Int32) (y2 : Int32) (y3 : Int32) (y4 : Int32) (σ : St) : bEx sc 1 168 69 [some (.ref 1315), some (.int y1), some (.int y2), some (.int y3), some (.int y4), none, none] [] σ (f168_69 F y1 y2 y3 y4 σ) := by
  unfold f168_69
  refine b_run [(69, .aload_n 0, 0, 0, .null), (70, .iload_n 1, 0, 0, .null), (71, .iconst 4, 0, 0, .null), (72, .iadd, 0, 0, .null)] (pc' := 73) (ls' := [some (.ref 1315), some (.int y1), some (.int y2), some (.int y3), some (.int y4), none, none]) (st' := [.int (y1 + 4), .ref 1315]) (by decide +kernel) rfl ?_
  refine b_callI 152 2 [.ref 1315, .int (y1 + 4)] (rest := []) (by decide +kernel) rfl rfl rfl (go_O rfl (by decide +kernel) (by decide +kernel : isO 1315 9 = true)) rfl (s152 hv F (y1 + 4) σ) (by decide) (fun c8 σ7 => ?_)
  refine b_run [(76, .istore 5, 0, 0, .null), (78, .iload_n 2, 0, 0, .null), (79, .bipush 97, 0, 0, .null)] (pc' := 81) (ls' := [some (.ref 1315), some (.int y1), some (.int y2), some (.int y3), some (.int y4), some (.int c8), none]) (st' := [.int 97, .int y2]) (by decide +kernel) rfl ?_
  refine b_icF (c := .ne) (o := 26) (t := 107) (y := 0) (w := .null) (by decide +kernel) cmp_ne (fun _ => ?_) (fun _ => ?_)
  · refine b_run [(84, .iload_n 3, 0, 0, .null), (85, .bipush 109, 0, 0, .null)] (pc' := 87) (ls' := [some (.ref 1315), some (.int y1), some (.int y2), some (.int y3), some (.int y4), some (.int c8), none]) (st' := [.int 109, .int y3]) (by decide +kernel) rfl ?_
    refine b_icF (c := .ne) (o := 20) (t := 107) (y := 0) (w := .null) (by decide +kernel) cmp_ne (fun _ => ?_) (fun _ => ?_)
    · refine b_run [(90, .iload 4, 0, 0, .null), (92, .bipush 112, 0, 0, .null)] (pc' := 94) (ls' := [some (.ref 1315), some (.int y1), some (.int y2), some (.int y3), some (.int y4), some (.int c8), none]) (st' := [.int 112, .int y4]) (by decide +kernel) rfl ?_
      refine b_icF (c := .ne) (o := 13) (t := 107) (y := 0) (w := .null) (by decide +kernel) cmp_ne (fun _ => ?_) (fun _ => ?_)
      · refine b_run [(97, .iload 5, 0, 0, .null), (99, .bipush 59, 0, 0, .null)] (pc' := 101) (ls' := [some (.ref 1315), some (.int y1), some (.int y2), some (.int y3), some (.int y4), some (.int c8), none]) (st' := [.int 59, .int c8]) (by decide +kernel) rfl ?_
        refine b_icF (c := .ne) (o := 6) (t := 107) (y := 0) (w := .null) (by decide +kernel) cmp_ne (fun _ => ?_) (fun _ => ?_)
        · refine b_run [(104, .bipush 38, 0, 0, .null)] (pc' := 106) (ls' := [some (.ref 1315), some (.int y1), some (.int y2), some (.int y3), some (.int y4), some (.int c8), none]) (st' := [.int 38]) (by decide +kernel) rfl ?_
          exact b_ret (i := (.ireturn, 0, 0, .null)) (by decide +kernel) rfl rfl (fit_I _)
        · exact b_wk (wS (wS (wS (wS (wS (wS (wN w0))))))) (s168_107 hv F y1 y2 y3 y4 c8 σ7)
      · exact b_wk (wS (wS (wS (wS (wS (wS (wN w0))))))) (s168_107 hv F y1 y2 y3 y4 c8 σ7)
    · exact b_wk (wS (wS (wS (wS (wS (wS (wN w0))))))) (s168_107 hv F y1 y2 y3 y4 c8 σ7)
  · exact b_wk (wS (wS (wS (wS (wS (wS (wN w0))))))) (s168_107 hv F y1 y2 y3 y4 c8 σ7)
def f168_47 (F : Nat) (y1 : Int32) (y2 : Int32) (y3 : Int32) (y4 : Int32) (σ : St) : Rs := if y2 = 103 then 
    if y3 = 116 then 
    if y4 = 59 then oI 62 σ
    else f168_69 F y1 y2 y3 y4 σ
    else f168_69 F y1 y2 y3 y4 σ
    else f168_69 F y1 y2 y3 y4 σ
theorem s168_47 {sc : aSc} (hv : vOk sc) (F : Nat) (y1 : Int32) (y2 : Int32) (y3 : Int32) (y4 : Int32) (σ : St) : bEx sc 1 168 47 [some (.ref 1315), some (.int y1), some (.int y2), some (.int y3), some (.int y4), none, none] [] σ (f168_47 F y1 y2 y3 y4 σ) := by
  unfold f168_47
  refine b_run [(47, .iload_n 2, 0, 0, .null), (48, .bipush 103, 0, 0, .null)] (pc' := 50) (ls' := [some (.ref 1315), some (.int y1), some (.int y2), some (.int y3), some (.int y4), none, none]) (st' := [.int 103, .int y2]) (by decide +kernel) rfl ?_
  refine b_icF (c := .ne) (o := 19) (t := 69) (y := 0) (w := .null) (by decide +kernel) cmp_ne (fun _ => ?_) (fun _ => ?_)
  · refine b_run [(53, .iload_n 3, 0, 0, .null), (54, .bipush 116, 0, 0, .null)] (pc' := 56) (ls' := [some (.ref 1315), some (.int y1), some (.int y2), some (.int y3), some (.int y4), none, none]) (st' := [.int 116, .int y3]) (by decide +kernel) rfl ?_
    refine b_icF (c := .ne) (o := 13) (t := 69) (y := 0) (w := .null) (by decide +kernel) cmp_ne (fun _ => ?_) (fun _ => ?_)
    · refine b_run [(59, .iload 4, 0, 0, .null), (61, .bipush 59, 0, 0, .null)] (pc' := 63) (ls' := [some (.ref 1315), some (.int y1), some (.int y2), some (.int y3), some (.int y4), none, none]) (st' := [.int 59, .int y4]) (by decide +kernel) rfl ?_
      refine b_icF (c := .ne) (o := 6) (t := 69) (y := 0) (w := .null) (by decide +kernel) cmp_ne (fun _ => ?_) (fun _ => ?_)
      · refine b_run [(66, .bipush 62, 0, 0, .null)] (pc' := 68) (ls' := [some (.ref 1315), some (.int y1), some (.int y2), some (.int y3), some (.int y4), none, none]) (st' := [.int 62]) (by decide +kernel) rfl ?_
        exact b_ret (i := (.ireturn, 0, 0, .null)) (by decide +kernel) rfl rfl (fit_I _)
      · exact b_wk (wS (wS (wS (wS (wS (wN (wN w0))))))) (s168_69 hv F y1 y2 y3 y4 σ)
    · exact b_wk (wS (wS (wS (wS (wS (wN (wN w0))))))) (s168_69 hv F y1 y2 y3 y4 σ)
  · exact b_wk (wS (wS (wS (wS (wS (wN (wN w0))))))) (s168_69 hv F y1 y2 y3 y4 σ)
/-- TreeStoreModel.entity(I)I -/
def f168 (F : Nat) (x1 : Int32) (σ : St) : Rs := cI (f152 F (x1 + 1) σ) fun c2 σ1 => 
    cI (f152 F (x1 + 2) σ1) fun c4 σ3 => 
    cI (f152 F (x1 + 3) σ3) fun c6 σ5 => 
    if c2 = 108 then 
    if c4 = 116 then 
    if c6 = 59 then oI 60 σ5
    else f168_47 F x1 c2 c4 c6 σ5
    else f168_47 F x1 c2 c4 c6 σ5
    else f168_47 F x1 c2 c4 c6 σ5
theorem s168 {sc : aSc} (hv : vOk sc) (F : Nat) (x1 : Int32) (σ : St) : bEx sc 1 168 0 [some (.ref 1315), some (.int x1), none, none, none, none, none] [] σ (f168 F x1 σ) := by
  unfold f168
  refine b_run [(0, .aload_n 0, 0, 0, .null), (1, .iload_n 1, 0, 0, .null), (2, .iconst 1, 0, 0, .null), (3, .iadd, 0, 0, .null)] (pc' := 4) (ls' := [some (.ref 1315), some (.int x1), none, none, none, none, none]) (st' := [.int (x1 + 1), .ref 1315]) (by decide +kernel) rfl ?_
  refine b_callI 152 2 [.ref 1315, .int (x1 + 1)] (rest := []) (by decide +kernel) rfl rfl rfl (go_O rfl (by decide +kernel) (by decide +kernel : isO 1315 9 = true)) rfl (s152 hv F (x1 + 1) σ) (by decide) (fun c2 σ1 => ?_)
  refine b_run [(7, .istore_n 2, 0, 0, .null), (8, .aload_n 0, 0, 0, .null), (9, .iload_n 1, 0, 0, .null), (10, .iconst 2, 0, 0, .null), (11, .iadd, 0, 0, .null)] (pc' := 12) (ls' := [some (.ref 1315), some (.int x1), some (.int c2), none, none, none, none]) (st' := [.int (x1 + 2), .ref 1315]) (by decide +kernel) rfl ?_
  refine b_callI 152 2 [.ref 1315, .int (x1 + 2)] (rest := []) (by decide +kernel) rfl rfl rfl (go_O rfl (by decide +kernel) (by decide +kernel : isO 1315 9 = true)) rfl (s152 hv F (x1 + 2) σ1) (by decide) (fun c4 σ3 => ?_)
  refine b_run [(15, .istore_n 3, 0, 0, .null), (16, .aload_n 0, 0, 0, .null), (17, .iload_n 1, 0, 0, .null), (18, .iconst 3, 0, 0, .null), (19, .iadd, 0, 0, .null)] (pc' := 20) (ls' := [some (.ref 1315), some (.int x1), some (.int c2), some (.int c4), none, none, none]) (st' := [.int (x1 + 3), .ref 1315]) (by decide +kernel) rfl ?_
  refine b_callI 152 2 [.ref 1315, .int (x1 + 3)] (rest := []) (by decide +kernel) rfl rfl rfl (go_O rfl (by decide +kernel) (by decide +kernel : isO 1315 9 = true)) rfl (s152 hv F (x1 + 3) σ3) (by decide) (fun c6 σ5 => ?_)
  refine b_run [(23, .istore 4, 0, 0, .null), (25, .iload_n 2, 0, 0, .null), (26, .bipush 108, 0, 0, .null)] (pc' := 28) (ls' := [some (.ref 1315), some (.int x1), some (.int c2), some (.int c4), some (.int c6), none, none]) (st' := [.int 108, .int c2]) (by decide +kernel) rfl ?_
  refine b_icF (c := .ne) (o := 19) (t := 47) (y := 0) (w := .null) (by decide +kernel) cmp_ne (fun _ => ?_) (fun _ => ?_)
  · refine b_run [(31, .iload_n 3, 0, 0, .null), (32, .bipush 116, 0, 0, .null)] (pc' := 34) (ls' := [some (.ref 1315), some (.int x1), some (.int c2), some (.int c4), some (.int c6), none, none]) (st' := [.int 116, .int c4]) (by decide +kernel) rfl ?_
    refine b_icF (c := .ne) (o := 13) (t := 47) (y := 0) (w := .null) (by decide +kernel) cmp_ne (fun _ => ?_) (fun _ => ?_)
    · refine b_run [(37, .iload 4, 0, 0, .null), (39, .bipush 59, 0, 0, .null)] (pc' := 41) (ls' := [some (.ref 1315), some (.int x1), some (.int c2), some (.int c4), some (.int c6), none, none]) (st' := [.int 59, .int c6]) (by decide +kernel) rfl ?_
      refine b_icF (c := .ne) (o := 6) (t := 47) (y := 0) (w := .null) (by decide +kernel) cmp_ne (fun _ => ?_) (fun _ => ?_)
      · refine b_run [(44, .bipush 60, 0, 0, .null)] (pc' := 46) (ls' := [some (.ref 1315), some (.int x1), some (.int c2), some (.int c4), some (.int c6), none, none]) (st' := [.int 60]) (by decide +kernel) rfl ?_
        exact b_ret (i := (.ireturn, 0, 0, .null)) (by decide +kernel) rfl rfl (fit_I _)
      · exact b_wk (wS (wS (wS (wS (wS (wN (wN w0))))))) (s168_47 hv F x1 c2 c4 c6 σ5)
    · exact b_wk (wS (wS (wS (wS (wS (wN (wN w0))))))) (s168_47 hv F x1 c2 c4 c6 σ5)
  · exact b_wk (wS (wS (wS (wS (wS (wN (wN w0))))))) (s168_47 hv F x1 c2 c4 c6 σ5)
