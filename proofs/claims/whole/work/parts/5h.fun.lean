/-- TreeStore.kind(I)I -/
def f15 (F : Nat) (x1 : Int32) (σ : St) : Rs := cI (f128 F 1003 x1 σ) fun c2 σ1 => 
    if c2 = 0 then oI ((-1)) σ1
    else if inB x1 30 then lt (σ1.1 1004 x1.toNatClampNeg) fun c3 => oI c3 σ1 else none
theorem s15 {sc : aSc} (hv : vOk sc) (F : Nat) (x1 : Int32) (σ : St) : bEx sc 1 15 0 [some (.ref 1000), some (.int x1)] [] σ (f15 F x1 σ) := by
  unfold f15
  refine b_run [(0, .aload_n 0, 0, 0, .null)] (pc' := 1) (ls' := [some (.ref 1000), some (.int x1)]) (st' := [.ref 1000]) (by decide +kernel) rfl ?_
  refine b_getC (b := 1003) (q := 21) (ci := 0) (k := 1) (w := .null) (by decide +kernel) (by decide +kernel) ?_
  refine b_run [(4, .iload_n 1, 0, 0, .null)] (pc' := 5) (ls' := [some (.ref 1000), some (.int x1)]) (st' := [.int x1, .ref 1003]) (by decide +kernel) rfl ?_
  refine b_callI 128 2 [.ref 1003, .int x1] (rest := []) (by decide +kernel) rfl rfl rfl (go_O rfl (by decide +kernel) (by decide +kernel : isO 1003 8 = true)) rfl (s128 hv F 1003 x1 σ (by decide +kernel : isO 1003 8 = true)) (by decide) (fun c2 σ1 => ?_)
  refine b_izT (c := .eq) (o := 15) (t := 23) (y := 0) (w := .null) (by decide +kernel) cmp_eq (fun _ => ?_) (fun _ => ?_)
  · refine b_run [(23, .iconst (-1), 0, 0, .null)] (pc' := 24) (ls' := [some (.ref 1000), some (.int x1)]) (st' := [.int ((-1))]) (by decide +kernel) rfl ?_
    exact b_ret (i := (.ireturn, 0, 0, .null)) (by decide +kernel) rfl rfl (fit_I _)
  · refine b_run [(11, .aload_n 0, 0, 0, .null)] (pc' := 12) (ls' := [some (.ref 1000), some (.int x1)]) (st' := [.ref 1000]) (by decide +kernel) rfl ?_
    refine b_getC (b := 1003) (q := 21) (ci := 0) (k := 1) (w := .null) (by decide +kernel) (by decide +kernel) ?_
    refine b_getC (b := 1004) (q := 139) (ci := 8) (k := 0) (w := .null) (by decide +kernel) (by decide +kernel) ?_
    refine b_run [(18, .iload_n 1, 0, 0, .null)] (pc' := 19) (ls' := [some (.ref 1000), some (.int x1)]) (st' := [.int x1, .ref 1004]) (by decide +kernel) rfl ?_
    refine b_guard (fun hb => ?_)
    refine b_aI (ci := 0) (y := 0) (w := .null) (by decide +kernel) (by decide +kernel) hb (fun c3 => ?_)
    refine b_run [(20, .goto 4, 24, 0, .null)] (pc' := 24) (ls' := [some (.ref 1000), some (.int x1)]) (st' := [.int c3]) (by decide +kernel) rfl ?_
    exact b_ret (i := (.ireturn, 0, 0, .null)) (by decide +kernel) rfl rfl (fit_I _)
/-- TreeStore.size(I)I -/
def f16 (F : Nat) (x1 : Int32) (σ : St) : Rs := cI (f128 F 1003 x1 σ) fun c2 σ1 => 
    if c2 = 0 then oI ((-1)) σ1
    else if inB x1 30 then lt (σ1.1 1009 x1.toNatClampNeg) fun c3 => oI c3 σ1 else none
theorem s16 {sc : aSc} (hv : vOk sc) (F : Nat) (x1 : Int32) (σ : St) : bEx sc 1 16 0 [some (.ref 1000), some (.int x1)] [] σ (f16 F x1 σ) := by
  unfold f16
  refine b_run [(0, .aload_n 0, 0, 0, .null)] (pc' := 1) (ls' := [some (.ref 1000), some (.int x1)]) (st' := [.ref 1000]) (by decide +kernel) rfl ?_
  refine b_getC (b := 1003) (q := 21) (ci := 0) (k := 1) (w := .null) (by decide +kernel) (by decide +kernel) ?_
  refine b_run [(4, .iload_n 1, 0, 0, .null)] (pc' := 5) (ls' := [some (.ref 1000), some (.int x1)]) (st' := [.int x1, .ref 1003]) (by decide +kernel) rfl ?_
  refine b_callI 128 2 [.ref 1003, .int x1] (rest := []) (by decide +kernel) rfl rfl rfl (go_O rfl (by decide +kernel) (by decide +kernel : isO 1003 8 = true)) rfl (s128 hv F 1003 x1 σ (by decide +kernel : isO 1003 8 = true)) (by decide) (fun c2 σ1 => ?_)
  refine b_izT (c := .eq) (o := 15) (t := 23) (y := 0) (w := .null) (by decide +kernel) cmp_eq (fun _ => ?_) (fun _ => ?_)
  · refine b_run [(23, .iconst (-1), 0, 0, .null)] (pc' := 24) (ls' := [some (.ref 1000), some (.int x1)]) (st' := [.int ((-1))]) (by decide +kernel) rfl ?_
    exact b_ret (i := (.ireturn, 0, 0, .null)) (by decide +kernel) rfl rfl (fit_I _)
  · refine b_run [(11, .aload_n 0, 0, 0, .null)] (pc' := 12) (ls' := [some (.ref 1000), some (.int x1)]) (st' := [.ref 1000]) (by decide +kernel) rfl ?_
    refine b_getC (b := 1003) (q := 21) (ci := 0) (k := 1) (w := .null) (by decide +kernel) (by decide +kernel) ?_
    refine b_getC (b := 1009) (q := 147) (ci := 8) (k := 5) (w := .null) (by decide +kernel) (by decide +kernel) ?_
    refine b_run [(18, .iload_n 1, 0, 0, .null)] (pc' := 19) (ls' := [some (.ref 1000), some (.int x1)]) (st' := [.int x1, .ref 1009]) (by decide +kernel) rfl ?_
    refine b_guard (fun hb => ?_)
    refine b_aI (ci := 0) (y := 0) (w := .null) (by decide +kernel) (by decide +kernel) hb (fun c3 => ?_)
    refine b_run [(20, .goto 4, 24, 0, .null)] (pc' := 24) (ls' := [some (.ref 1000), some (.int x1)]) (st' := [.int c3]) (by decide +kernel) rfl ?_
    exact b_ret (i := (.ireturn, 0, 0, .null)) (by decide +kernel) rfl rfl (fit_I _)
/-- TreeStore.level(I)I -/
def f17 (F : Nat) (x1 : Int32) (σ : St) : Rs := cI (f128 F 1003 x1 σ) fun c2 σ1 => 
    if c2 = 0 then oI ((-1)) σ1
    else if inB x1 30 then lt (σ1.1 1005 x1.toNatClampNeg) fun c3 => oI c3 σ1 else none
theorem s17 {sc : aSc} (hv : vOk sc) (F : Nat) (x1 : Int32) (σ : St) : bEx sc 1 17 0 [some (.ref 1000), some (.int x1)] [] σ (f17 F x1 σ) := by
  unfold f17
  refine b_run [(0, .aload_n 0, 0, 0, .null)] (pc' := 1) (ls' := [some (.ref 1000), some (.int x1)]) (st' := [.ref 1000]) (by decide +kernel) rfl ?_
  refine b_getC (b := 1003) (q := 21) (ci := 0) (k := 1) (w := .null) (by decide +kernel) (by decide +kernel) ?_
  refine b_run [(4, .iload_n 1, 0, 0, .null)] (pc' := 5) (ls' := [some (.ref 1000), some (.int x1)]) (st' := [.int x1, .ref 1003]) (by decide +kernel) rfl ?_
  refine b_callI 128 2 [.ref 1003, .int x1] (rest := []) (by decide +kernel) rfl rfl rfl (go_O rfl (by decide +kernel) (by decide +kernel : isO 1003 8 = true)) rfl (s128 hv F 1003 x1 σ (by decide +kernel : isO 1003 8 = true)) (by decide) (fun c2 σ1 => ?_)
  refine b_izT (c := .eq) (o := 15) (t := 23) (y := 0) (w := .null) (by decide +kernel) cmp_eq (fun _ => ?_) (fun _ => ?_)
  · refine b_run [(23, .iconst (-1), 0, 0, .null)] (pc' := 24) (ls' := [some (.ref 1000), some (.int x1)]) (st' := [.int ((-1))]) (by decide +kernel) rfl ?_
    exact b_ret (i := (.ireturn, 0, 0, .null)) (by decide +kernel) rfl rfl (fit_I _)
  · refine b_run [(11, .aload_n 0, 0, 0, .null)] (pc' := 12) (ls' := [some (.ref 1000), some (.int x1)]) (st' := [.ref 1000]) (by decide +kernel) rfl ?_
    refine b_getC (b := 1003) (q := 21) (ci := 0) (k := 1) (w := .null) (by decide +kernel) (by decide +kernel) ?_
    refine b_getC (b := 1005) (q := 111) (ci := 8) (k := 1) (w := .null) (by decide +kernel) (by decide +kernel) ?_
    refine b_run [(18, .iload_n 1, 0, 0, .null)] (pc' := 19) (ls' := [some (.ref 1000), some (.int x1)]) (st' := [.int x1, .ref 1005]) (by decide +kernel) rfl ?_
    refine b_guard (fun hb => ?_)
    refine b_aI (ci := 0) (y := 0) (w := .null) (by decide +kernel) (by decide +kernel) hb (fun c3 => ?_)
    refine b_run [(20, .goto 4, 24, 0, .null)] (pc' := 24) (ls' := [some (.ref 1000), some (.int x1)]) (st' := [.int c3]) (by decide +kernel) rfl ?_
    exact b_ret (i := (.ireturn, 0, 0, .null)) (by decide +kernel) rfl rfl (fit_I _)
/-- TreeStore.name(II)I -/
def f18 (F : Nat) (x1 : Int32) (x2 : Int32) (σ : St) : Rs := cI (f128 F 1003 x1 σ) fun c2 σ1 => 
    if c2 = 0 then oI 0 σ1
    else if x2 < 0 then oI 0 σ1
    else if inB x1 30 then lt (σ1.1 1006 x1.toNatClampNeg) fun c3 => 
    if x2 < c3 then 
    if inB x1 31 then lt (σ1.1 1011 x1.toNatClampNeg) fun c4 => cI (f92 F 1014 (c4 + x2) σ1) fun c6 σ5 => oI c6 σ5 else none
    else oI 0 σ1 else none
theorem s18 {sc : aSc} (hv : vOk sc) (F : Nat) (x1 : Int32) (x2 : Int32) (σ : St) : bEx sc 1 18 0 [some (.ref 1000), some (.int x1), some (.int x2)] [] σ (f18 F x1 x2 σ) := by
  unfold f18
  refine b_run [(0, .aload_n 0, 0, 0, .null)] (pc' := 1) (ls' := [some (.ref 1000), some (.int x1), some (.int x2)]) (st' := [.ref 1000]) (by decide +kernel) rfl ?_
  refine b_getC (b := 1003) (q := 21) (ci := 0) (k := 1) (w := .null) (by decide +kernel) (by decide +kernel) ?_
  refine b_run [(4, .iload_n 1, 0, 0, .null)] (pc' := 5) (ls' := [some (.ref 1000), some (.int x1), some (.int x2)]) (st' := [.int x1, .ref 1003]) (by decide +kernel) rfl ?_
  refine b_callI 128 2 [.ref 1003, .int x1] (rest := []) (by decide +kernel) rfl rfl rfl (go_O rfl (by decide +kernel) (by decide +kernel : isO 1003 8 = true)) rfl (s128 hv F 1003 x1 σ (by decide +kernel : isO 1003 8 = true)) (by decide) (fun c2 σ1 => ?_)
  refine b_izT (c := .eq) (o := 20) (t := 28) (y := 0) (w := .null) (by decide +kernel) cmp_eq (fun _ => ?_) (fun _ => ?_)
  · refine b_run [(28, .iconst 0, 0, 0, .null)] (pc' := 29) (ls' := [some (.ref 1000), some (.int x1), some (.int x2)]) (st' := [.int 0]) (by decide +kernel) rfl ?_
    exact b_ret (i := (.ireturn, 0, 0, .null)) (by decide +kernel) rfl rfl (fit_I _)
  · refine b_run [(11, .iload_n 2, 0, 0, .null)] (pc' := 12) (ls' := [some (.ref 1000), some (.int x1), some (.int x2)]) (st' := [.int x2]) (by decide +kernel) rfl ?_
    refine b_izT (c := .lt) (o := 16) (t := 28) (y := 0) (w := .null) (by decide +kernel) cmp_lt (fun _ => ?_) (fun _ => ?_)
    · refine b_run [(28, .iconst 0, 0, 0, .null)] (pc' := 29) (ls' := [some (.ref 1000), some (.int x1), some (.int x2)]) (st' := [.int 0]) (by decide +kernel) rfl ?_
      exact b_ret (i := (.ireturn, 0, 0, .null)) (by decide +kernel) rfl rfl (fit_I _)
    · refine b_run [(15, .iload_n 2, 0, 0, .null), (16, .aload_n 0, 0, 0, .null)] (pc' := 17) (ls' := [some (.ref 1000), some (.int x1), some (.int x2)]) (st' := [.ref 1000, .int x2]) (by decide +kernel) rfl ?_
      refine b_getC (b := 1003) (q := 21) (ci := 0) (k := 1) (w := .null) (by decide +kernel) (by decide +kernel) ?_
      refine b_getC (b := 1006) (q := 195) (ci := 8) (k := 2) (w := .null) (by decide +kernel) (by decide +kernel) ?_
      refine b_run [(23, .iload_n 1, 0, 0, .null)] (pc' := 24) (ls' := [some (.ref 1000), some (.int x1), some (.int x2)]) (st' := [.int x1, .ref 1006, .int x2]) (by decide +kernel) rfl ?_
      refine b_guard (fun hb => ?_)
      refine b_aI (ci := 0) (y := 0) (w := .null) (by decide +kernel) (by decide +kernel) hb (fun c3 => ?_)
      refine b_icT (c := .lt) (o := 5) (t := 30) (y := 0) (w := .null) (by decide +kernel) cmp_lt (fun _ => ?_) (fun _ => ?_)
      · refine b_run [(30, .aload_n 0, 0, 0, .null)] (pc' := 31) (ls' := [some (.ref 1000), some (.int x1), some (.int x2)]) (st' := [.ref 1000]) (by decide +kernel) rfl ?_
        refine b_getC (b := 1003) (q := 21) (ci := 0) (k := 1) (w := .null) (by decide +kernel) (by decide +kernel) ?_
        refine b_getC (b := 1014) (q := 170) (ci := 8) (k := 9) (w := .null) (by decide +kernel) (by decide +kernel) ?_
        refine b_run [(37, .aload_n 0, 0, 0, .null)] (pc' := 38) (ls' := [some (.ref 1000), some (.int x1), some (.int x2)]) (st' := [.ref 1000, .ref 1014]) (by decide +kernel) rfl ?_
        refine b_getC (b := 1003) (q := 21) (ci := 0) (k := 1) (w := .null) (by decide +kernel) (by decide +kernel) ?_
        refine b_getC (b := 1011) (q := 198) (ci := 8) (k := 7) (w := .null) (by decide +kernel) (by decide +kernel) ?_
        refine b_run [(44, .iload_n 1, 0, 0, .null)] (pc' := 45) (ls' := [some (.ref 1000), some (.int x1), some (.int x2)]) (st' := [.int x1, .ref 1011, .ref 1014]) (by decide +kernel) rfl ?_
        refine b_guard (fun hb => ?_)
        refine b_aI (ci := 0) (y := 0) (w := .null) (by decide +kernel) (by decide +kernel) hb (fun c4 => ?_)
        refine b_run [(46, .iload_n 2, 0, 0, .null), (47, .iadd, 0, 0, .null)] (pc' := 48) (ls' := [some (.ref 1000), some (.int x1), some (.int x2)]) (st' := [.int (c4 + x2), .ref 1014]) (by decide +kernel) rfl ?_
        refine b_callI 92 2 [.ref 1014, .int (c4 + x2)] (rest := []) (by decide +kernel) rfl rfl rfl (go_O rfl (by decide +kernel) (by decide +kernel : isO 1014 5 = true)) rfl (s92 hv F 1014 (c4 + x2) σ1 (by decide +kernel : isO 1014 5 = true)) (by decide) (fun c6 σ5 => ?_)
        exact b_ret (i := (.ireturn, 0, 0, .null)) (by decide +kernel) rfl rfl (fit_I _)
      · refine b_run [(28, .iconst 0, 0, 0, .null)] (pc' := 29) (ls' := [some (.ref 1000), some (.int x1), some (.int x2)]) (st' := [.int 0]) (by decide +kernel) rfl ?_
        exact b_ret (i := (.ireturn, 0, 0, .null)) (by decide +kernel) rfl rfl (fit_I _)
/-- TreeStore.value(II)I -/
def f19 (F : Nat) (x1 : Int32) (x2 : Int32) (σ : St) : Rs := cI (f128 F 1003 x1 σ) fun c2 σ1 => 
    if c2 = 0 then oI 0 σ1
    else if x2 < 0 then oI 0 σ1
    else cI (f129 F 1003 x1 σ1) fun c4 σ3 => 
    cI (f131 F 1003 x1 σ3) fun c6 σ5 => 
    if x2 < c4 - c6 then 
    cR (f132 F 1003 x1 σ5) fun c8 σ7 => 
    if isO c8 5 = true then cI (f131 F 1003 x1 σ7) fun c10 σ9 => cI (f92 F c8 (c10 + x2) σ9) fun c12 σ11 => oI c12 σ11 else none
    else oI 0 σ5
theorem s19 {sc : aSc} (hv : vOk sc) (F : Nat) (x1 : Int32) (x2 : Int32) (σ : St) : bEx sc 2 19 0 [some (.ref 1000), some (.int x1), some (.int x2)] [] σ (f19 F x1 x2 σ) := by
  unfold f19
  refine b_run [(0, .aload_n 0, 0, 0, .null)] (pc' := 1) (ls' := [some (.ref 1000), some (.int x1), some (.int x2)]) (st' := [.ref 1000]) (by decide +kernel) rfl ?_
  refine b_getC (b := 1003) (q := 21) (ci := 0) (k := 1) (w := .null) (by decide +kernel) (by decide +kernel) ?_
  refine b_run [(4, .iload_n 1, 0, 0, .null)] (pc' := 5) (ls' := [some (.ref 1000), some (.int x1), some (.int x2)]) (st' := [.int x1, .ref 1003]) (by decide +kernel) rfl ?_
  refine b_callI 128 2 [.ref 1003, .int x1] (rest := []) (by decide +kernel) rfl rfl rfl (go_O rfl (by decide +kernel) (by decide +kernel : isO 1003 8 = true)) rfl (s128 hv F 1003 x1 σ (by decide +kernel : isO 1003 8 = true)) (by decide) (fun c2 σ1 => ?_)
  refine b_izT (c := .eq) (o := 28) (t := 36) (y := 0) (w := .null) (by decide +kernel) cmp_eq (fun _ => ?_) (fun _ => ?_)
  · refine b_run [(36, .iconst 0, 0, 0, .null)] (pc' := 37) (ls' := [some (.ref 1000), some (.int x1), some (.int x2)]) (st' := [.int 0]) (by decide +kernel) rfl ?_
    exact b_ret (i := (.ireturn, 0, 0, .null)) (by decide +kernel) rfl rfl (fit_I _)
  · refine b_run [(11, .iload_n 2, 0, 0, .null)] (pc' := 12) (ls' := [some (.ref 1000), some (.int x1), some (.int x2)]) (st' := [.int x2]) (by decide +kernel) rfl ?_
    refine b_izT (c := .lt) (o := 24) (t := 36) (y := 0) (w := .null) (by decide +kernel) cmp_lt (fun _ => ?_) (fun _ => ?_)
    · refine b_run [(36, .iconst 0, 0, 0, .null)] (pc' := 37) (ls' := [some (.ref 1000), some (.int x1), some (.int x2)]) (st' := [.int 0]) (by decide +kernel) rfl ?_
      exact b_ret (i := (.ireturn, 0, 0, .null)) (by decide +kernel) rfl rfl (fit_I _)
    · refine b_run [(15, .iload_n 2, 0, 0, .null), (16, .aload_n 0, 0, 0, .null)] (pc' := 17) (ls' := [some (.ref 1000), some (.int x1), some (.int x2)]) (st' := [.ref 1000, .int x2]) (by decide +kernel) rfl ?_
      refine b_getC (b := 1003) (q := 21) (ci := 0) (k := 1) (w := .null) (by decide +kernel) (by decide +kernel) ?_
      refine b_run [(20, .iload_n 1, 0, 0, .null)] (pc' := 21) (ls' := [some (.ref 1000), some (.int x1), some (.int x2)]) (st' := [.int x1, .ref 1003, .int x2]) (by decide +kernel) rfl ?_
      refine b_callI 129 2 [.ref 1003, .int x1] (rest := [.int x2]) (by decide +kernel) rfl rfl rfl (go_O rfl (by decide +kernel) (by decide +kernel : isO 1003 8 = true)) rfl (s129 hv F 1003 x1 σ1 (by decide +kernel : isO 1003 8 = true)) (by decide) (fun c4 σ3 => ?_)
      refine b_run [(24, .aload_n 0, 0, 0, .null)] (pc' := 25) (ls' := [some (.ref 1000), some (.int x1), some (.int x2)]) (st' := [.ref 1000, .int c4, .int x2]) (by decide +kernel) rfl ?_
      refine b_getC (b := 1003) (q := 21) (ci := 0) (k := 1) (w := .null) (by decide +kernel) (by decide +kernel) ?_
      refine b_run [(28, .iload_n 1, 0, 0, .null)] (pc' := 29) (ls' := [some (.ref 1000), some (.int x1), some (.int x2)]) (st' := [.int x1, .ref 1003, .int c4, .int x2]) (by decide +kernel) rfl ?_
      refine b_callI 131 2 [.ref 1003, .int x1] (rest := [.int c4, .int x2]) (by decide +kernel) rfl rfl rfl (go_O rfl (by decide +kernel) (by decide +kernel : isO 1003 8 = true)) rfl (s131 hv F 1003 x1 σ3 (by decide +kernel : isO 1003 8 = true)) (by decide) (fun c6 σ5 => ?_)
      refine b_run [(32, .isub, 0, 0, .null)] (pc' := 33) (ls' := [some (.ref 1000), some (.int x1), some (.int x2)]) (st' := [.int (c4 - c6), .int x2]) (by decide +kernel) rfl ?_
      refine b_icT (c := .lt) (o := 5) (t := 38) (y := 0) (w := .null) (by decide +kernel) cmp_lt (fun _ => ?_) (fun _ => ?_)
      · refine b_run [(38, .aload_n 0, 0, 0, .null)] (pc' := 39) (ls' := [some (.ref 1000), some (.int x1), some (.int x2)]) (st' := [.ref 1000]) (by decide +kernel) rfl ?_
        refine b_getC (b := 1003) (q := 21) (ci := 0) (k := 1) (w := .null) (by decide +kernel) (by decide +kernel) ?_
        refine b_run [(42, .iload_n 1, 0, 0, .null)] (pc' := 43) (ls' := [some (.ref 1000), some (.int x1), some (.int x2)]) (st' := [.int x1, .ref 1003]) (by decide +kernel) rfl ?_
        refine b_callR 132 2 [.ref 1003, .int x1] (rest := []) (by decide +kernel) rfl rfl rfl (go_O rfl (by decide +kernel) (by decide +kernel : isO 1003 8 = true)) rfl (s132 hv F 1003 x1 σ5 (by decide +kernel : isO 1003 8 = true)) (by decide) (fun c8 σ7 => b_guard (fun hc8 => ?_))
        refine b_run [(46, .aload_n 0, 0, 0, .null)] (pc' := 47) (ls' := [some (.ref 1000), some (.int x1), some (.int x2)]) (st' := [.ref 1000, .ref c8]) (by decide +kernel) rfl ?_
        refine b_getC (b := 1003) (q := 21) (ci := 0) (k := 1) (w := .null) (by decide +kernel) (by decide +kernel) ?_
        refine b_run [(50, .iload_n 1, 0, 0, .null)] (pc' := 51) (ls' := [some (.ref 1000), some (.int x1), some (.int x2)]) (st' := [.int x1, .ref 1003, .ref c8]) (by decide +kernel) rfl ?_
        refine b_callI 131 2 [.ref 1003, .int x1] (rest := [.ref c8]) (by decide +kernel) rfl rfl rfl (go_O rfl (by decide +kernel) (by decide +kernel : isO 1003 8 = true)) rfl (s131 hv F 1003 x1 σ7 (by decide +kernel : isO 1003 8 = true)) (by decide) (fun c10 σ9 => ?_)
        refine b_run [(54, .iload_n 2, 0, 0, .null), (55, .iadd, 0, 0, .null)] (pc' := 56) (ls' := [some (.ref 1000), some (.int x1), some (.int x2)]) (st' := [.int (c10 + x2), .ref c8]) (by decide +kernel) rfl ?_
        refine b_callI 92 2 [.ref c8, .int (c10 + x2)] (rest := []) (by decide +kernel) rfl rfl rfl (go_O rfl (by decide +kernel) hc8) rfl (s92 hv F c8 (c10 + x2) σ9 hc8) (by decide) (fun c12 σ11 => ?_)
        exact b_ret (i := (.ireturn, 0, 0, .null)) (by decide +kernel) rfl rfl (fit_I _)
      · refine b_run [(36, .iconst 0, 0, 0, .null)] (pc' := 37) (ls' := [some (.ref 1000), some (.int x1), some (.int x2)]) (st' := [.int 0]) (by decide +kernel) rfl ?_
        exact b_ret (i := (.ireturn, 0, 0, .null)) (by decide +kernel) rfl rfl (fit_I _)
/-- TreeStore$Tree.hasChildren(I)Z -/
def f134 (F : Nat) (x0 : Nat) (x1 : Int32) (σ : St) : Rs := cI (f133 F x0 x1 σ) fun c2 σ1 => 
    if inB x1 30 then lt (σ1.1 (rfF x0 5) x1.toNatClampNeg) fun c3 => 
    if x1 + c3 < c2 then oI 0 σ1
    else oI 1 σ1 else none
theorem s134 {sc : aSc} (hv : vOk sc) (F : Nat) (x0 : Nat) (x1 : Int32) (σ : St) (hx0 : isO x0 8 = true) : bEx sc 1 134 0 [some (.ref x0), some (.int x1)] [] σ (f134 F x0 x1 σ) := by
  unfold f134
  refine b_run [(0, .aload_n 0, 0, 0, .null), (1, .iload_n 1, 0, 0, .null)] (pc' := 2) (ls' := [some (.ref x0), some (.int x1)]) (st' := [.int x1, .ref x0]) (by decide +kernel) rfl ?_
  refine b_callI 133 2 [.ref x0, .int x1] (rest := []) (by decide +kernel) rfl rfl rfl (go_O rfl (by decide +kernel) hx0) rfl (s133 hv F x0 x1 σ hx0) (by decide) (fun c2 σ1 => ?_)
  refine b_run [(5, .iload_n 1, 0, 0, .null), (6, .aload_n 0, 0, 0, .null)] (pc' := 7) (ls' := [some (.ref x0), some (.int x1)]) (st' := [.ref x0, .int x1, .int c2]) (by decide +kernel) rfl ?_
  refine b_getC (q := 27) (ci := 8) (k := 5) (w := .null) (by decide +kernel) (fk_C8_5 hx0) ?_
  refine b_run [(10, .iload_n 1, 0, 0, .null)] (pc' := 11) (ls' := [some (.ref x0), some (.int x1)]) (st' := [.int x1, .ref ((rfF x0 5)), .int x1, .int c2]) (by decide +kernel) rfl ?_
  refine b_guard (fun hb => ?_)
  refine b_aI (ci := 0) (y := 0) (w := .null) (by decide +kernel) (fk_A8_5 hx0) hb (fun c3 => ?_)
  refine b_run [(12, .iadd, 0, 0, .null)] (pc' := 13) (ls' := [some (.ref x0), some (.int x1)]) (st' := [.int (x1 + c3), .int c2]) (by decide +kernel) rfl ?_
  refine b_icT (c := .gt) (o := 7) (t := 20) (y := 0) (w := .null) (by decide +kernel) cmp_gt (fun _ => ?_) (fun _ => ?_)
  · refine b_run [(20, .iconst 0, 0, 0, .null)] (pc' := 21) (ls' := [some (.ref x0), some (.int x1)]) (st' := [.int 0]) (by decide +kernel) rfl ?_
    exact b_ret (i := (.ireturn, 0, 0, .null)) (by decide +kernel) rfl rfl (by decide +kernel)
  · refine b_run [(16, .iconst 1, 0, 0, .null), (17, .goto 4, 21, 0, .null)] (pc' := 21) (ls' := [some (.ref x0), some (.int x1)]) (st' := [.int 1]) (by decide +kernel) rfl ?_
    exact b_ret (i := (.ireturn, 0, 0, .null)) (by decide +kernel) rfl rfl (by decide +kernel)
/-- TreeStore$Printer.put(I)V -/
def f82 (F : Nat) (x1 : Int32) (σ : St) : Rs := lt (σ.1 1314 2) fun c1 => 
    lt (σ.1 1314 1) fun c2 => 
    if c1 = c2 then lt (uI σ 1314 3 x1) fun σ3 => lt (σ3.1 1314 2) fun c4 => lt (uI σ3 1314 2 (c4 + 1)) fun σ5 => oV σ5
    else lt (σ.1 1314 2) fun c6 => lt (uI σ 1314 2 (c6 + 1)) fun σ7 => oV σ7
theorem s82 {sc : aSc} (hv : vOk sc) (F : Nat) (x1 : Int32) (σ : St) : bEx sc 0 82 0 [some (.ref 1314), some (.int x1)] [] σ (f82 F x1 σ) := by
  unfold f82
  refine b_run [(0, .aload_n 0, 0, 0, .null)] (pc' := 1) (ls' := [some (.ref 1314), some (.int x1)]) (st' := [.ref 1314]) (by decide +kernel) rfl ?_
  refine b_gI (q := 19) (ci := 4) (k := 2) (w := .null) (by decide +kernel) (by decide +kernel) (fun c1 => ?_)
  refine b_run [(4, .aload_n 0, 0, 0, .null)] (pc' := 5) (ls' := [some (.ref 1314), some (.int x1)]) (st' := [.ref 1314, .int c1]) (by decide +kernel) rfl ?_
  refine b_gI (q := 15) (ci := 4) (k := 1) (w := .null) (by decide +kernel) (by decide +kernel) (fun c2 => ?_)
  refine b_icF (c := .ne) (o := 8) (t := 16) (y := 0) (w := .null) (by decide +kernel) cmp_ne (fun _ => ?_) (fun _ => ?_)
  · refine b_run [(11, .aload_n 0, 0, 0, .null), (12, .iload_n 1, 0, 0, .null)] (pc' := 13) (ls' := [some (.ref 1314), some (.int x1)]) (st' := [.int x1, .ref 1314]) (by decide +kernel) rfl ?_
    refine b_pI (q := 22) (ci := 4) (k := 3) (w := .null) (by decide +kernel) (by decide +kernel) (fit_I _) (fun σ3 => ?_)
    refine b_run [(16, .aload_n 0, 0, 0, .null), (17, .dup, 0, 0, .null)] (pc' := 18) (ls' := [some (.ref 1314), some (.int x1)]) (st' := [.ref 1314, .ref 1314]) (by decide +kernel) rfl ?_
    refine b_gI (q := 19) (ci := 4) (k := 2) (w := .null) (by decide +kernel) (by decide +kernel) (fun c4 => ?_)
    refine b_run [(21, .iconst 1, 0, 0, .null), (22, .iadd, 0, 0, .null)] (pc' := 23) (ls' := [some (.ref 1314), some (.int x1)]) (st' := [.int (c4 + 1), .ref 1314]) (by decide +kernel) rfl ?_
    refine b_pI (q := 19) (ci := 4) (k := 2) (w := .null) (by decide +kernel) (by decide +kernel) (fit_I _) (fun σ5 => ?_)
    exact b_ret0 (i := (.return_, 0, 0, .null)) (by decide +kernel) rfl rfl
  · refine b_run [(16, .aload_n 0, 0, 0, .null), (17, .dup, 0, 0, .null)] (pc' := 18) (ls' := [some (.ref 1314), some (.int x1)]) (st' := [.ref 1314, .ref 1314]) (by decide +kernel) rfl ?_
    refine b_gI (q := 19) (ci := 4) (k := 2) (w := .null) (by decide +kernel) (by decide +kernel) (fun c6 => ?_)
    refine b_run [(21, .iconst 1, 0, 0, .null), (22, .iadd, 0, 0, .null)] (pc' := 23) (ls' := [some (.ref 1314), some (.int x1)]) (st' := [.int (c6 + 1), .ref 1314]) (by decide +kernel) rfl ?_
    refine b_pI (q := 19) (ci := 4) (k := 2) (w := .null) (by decide +kernel) (by decide +kernel) (fit_I _) (fun σ7 => ?_)
    exact b_ret0 (i := (.return_, 0, 0, .null)) (by decide +kernel) rfl rfl
def f84_3 (F : Nat) : Nat → Nat → Int32 → Int32 → St → Rs
  | 0, _, _, _, _ => none
  | n + 1, y1, y3, y4, σ => if y4 < y3 then cI (f92 F y1 y4 σ) fun c2 σ1 => cV (f82 F c2 σ1) fun σ3 => f84_3 F n y1 y3 (y4 + 1) σ3
    else oV σ
theorem s84_3 {sc : aSc} (hv : vOk sc) (F : Nat) : ∀ (n : Nat) (y1 : Nat) (y3 : Int32) (y4 : Int32) (σ : St) (_ : isO y1 5 = true), bEx sc 1 84 3 [some (.ref 1314), some (.ref y1), none, some (.int y3), some (.int y4)] [] σ (f84_3 F n y1 y3 y4 σ) := by
  intro n
  induction n with
  | zero => intro y1 y3 y4 σ hy1; exact b_none
  | succ n ih =>
    intro y1 y3 y4 σ hy1
    rw [f84_3.eq_2]
    refine b_run [(3, .iload 4, 0, 0, .null), (5, .iload_n 3, 0, 0, .null)] (pc' := 6) (ls' := [some (.ref 1314), some (.ref y1), none, some (.int y3), some (.int y4)]) (st' := [.int y3, .int y4]) (by decide +kernel) rfl ?_
    refine b_icF (c := .ge) (o := 19) (t := 25) (y := 0) (w := .null) (by decide +kernel) cmp_ge (fun _ => ?_) (fun _ => ?_)
    · refine b_run [(9, .aload_n 0, 0, 0, .null), (10, .aload_n 1, 0, 0, .null), (11, .iload 4, 0, 0, .null)] (pc' := 13) (ls' := [some (.ref 1314), some (.ref y1), none, some (.int y3), some (.int y4)]) (st' := [.int y4, .ref y1, .ref 1314]) (by decide +kernel) rfl ?_
      refine b_callI 92 2 [.ref y1, .int y4] (rest := [.ref 1314]) (by decide +kernel) rfl rfl rfl (go_O rfl (by decide +kernel) hy1) rfl (s92 hv F y1 y4 σ hy1) (by decide) (fun c2 σ1 => ?_)
      refine b_callV 82 2 [.ref 1314, .int c2] (rest := []) (by decide +kernel) rfl rfl rfl (go_O rfl (by decide +kernel) (by decide +kernel : isO 1314 4 = true)) rfl (s82 hv F c2 σ1) (by decide) (fun σ3 => ?_)
      refine b_run [(19, .iinc 4 1, 0, 0, .null), (22, .goto (-19), 3, 0, .null)] (pc' := 3) (ls' := [some (.ref 1314), some (.ref y1), none, some (.int y3), some (.int (y4 + 1))]) (st' := []) (by decide +kernel) rfl ?_
      exact b_wk (wS (wS (wN (wS (wS w0))))) (ih y1 y3 (y4 + 1) σ3 hy1)
    · exact b_ret0 (i := (.return_, 0, 0, .null)) (by decide +kernel) rfl rfl
/-- TreeStore$Printer.putRow(LTreeStore$Row;II)V -/
def f84 (F : Nat) (x1 : Nat) (x2 : Int32) (x3 : Int32) (σ : St) : Rs := f84_3 F F x1 x3 x2 σ
theorem s84 {sc : aSc} (hv : vOk sc) (F : Nat) (x1 : Nat) (x2 : Int32) (x3 : Int32) (σ : St) (hx1 : isO x1 5 = true) : bEx sc 1 84 0 [some (.ref 1314), some (.ref x1), some (.int x2), some (.int x3), none] [] σ (f84 F x1 x2 x3 σ) := by
  unfold f84
  refine b_run [(0, .iload_n 2, 0, 0, .null), (1, .istore 4, 0, 0, .null)] (pc' := 3) (ls' := [some (.ref 1314), some (.ref x1), some (.int x2), some (.int x3), some (.int x2)]) (st' := []) (by decide +kernel) rfl ?_
  exact b_wk (wS (wS (wN (wS (wS w0))))) (s84_3 hv F F x1 x3 x2 σ hx1)
/-- TreeStore$Printer.putName(I)V -/
def f83 (F : Nat) (x1 : Int32) (σ : St) : Rs := if inB x1 31 then lt (σ.1 1011 x1.toNatClampNeg) fun c1 => 
    if inB x1 31 then lt (σ.1 1011 x1.toNatClampNeg) fun c2 => if inB x1 30 then lt (σ.1 1006 x1.toNatClampNeg) fun c3 => cV (f84 F 1014 c1 (c2 + c3) σ) fun σ4 => oV σ4 else none else none else none
theorem s83 {sc : aSc} (hv : vOk sc) (F : Nat) (x1 : Int32) (σ : St) : bEx sc 2 83 0 [some (.ref 1314), some (.int x1)] [] σ (f83 F x1 σ) := by
  unfold f83
  refine b_run [(0, .aload_n 0, 0, 0, .null), (1, .aload_n 0, 0, 0, .null)] (pc' := 2) (ls' := [some (.ref 1314), some (.int x1)]) (st' := [.ref 1314, .ref 1314]) (by decide +kernel) rfl ?_
  refine b_getC (b := 1003) (q := 9) (ci := 4) (k := 0) (w := .null) (by decide +kernel) (by decide +kernel) ?_
  refine b_getC (b := 1014) (q := 53) (ci := 8) (k := 9) (w := .null) (by decide +kernel) (by decide +kernel) ?_
  refine b_run [(8, .aload_n 0, 0, 0, .null)] (pc' := 9) (ls' := [some (.ref 1314), some (.int x1)]) (st' := [.ref 1314, .ref 1014, .ref 1314]) (by decide +kernel) rfl ?_
  refine b_getC (b := 1003) (q := 9) (ci := 4) (k := 0) (w := .null) (by decide +kernel) (by decide +kernel) ?_
  refine b_getC (b := 1011) (q := 100) (ci := 8) (k := 7) (w := .null) (by decide +kernel) (by decide +kernel) ?_
  refine b_run [(15, .iload_n 1, 0, 0, .null)] (pc' := 16) (ls' := [some (.ref 1314), some (.int x1)]) (st' := [.int x1, .ref 1011, .ref 1014, .ref 1314]) (by decide +kernel) rfl ?_
  refine b_guard (fun hb => ?_)
  refine b_aI (ci := 0) (y := 0) (w := .null) (by decide +kernel) (by decide +kernel) hb (fun c1 => ?_)
  refine b_run [(17, .aload_n 0, 0, 0, .null)] (pc' := 18) (ls' := [some (.ref 1314), some (.int x1)]) (st' := [.ref 1314, .int c1, .ref 1014, .ref 1314]) (by decide +kernel) rfl ?_
  refine b_getC (b := 1003) (q := 9) (ci := 4) (k := 0) (w := .null) (by decide +kernel) (by decide +kernel) ?_
  refine b_getC (b := 1011) (q := 100) (ci := 8) (k := 7) (w := .null) (by decide +kernel) (by decide +kernel) ?_
  refine b_run [(24, .iload_n 1, 0, 0, .null)] (pc' := 25) (ls' := [some (.ref 1314), some (.int x1)]) (st' := [.int x1, .ref 1011, .int c1, .ref 1014, .ref 1314]) (by decide +kernel) rfl ?_
  refine b_guard (fun hb => ?_)
  refine b_aI (ci := 0) (y := 0) (w := .null) (by decide +kernel) (by decide +kernel) hb (fun c2 => ?_)
  refine b_run [(26, .aload_n 0, 0, 0, .null)] (pc' := 27) (ls' := [some (.ref 1314), some (.int x1)]) (st' := [.ref 1314, .int c2, .int c1, .ref 1014, .ref 1314]) (by decide +kernel) rfl ?_
  refine b_getC (b := 1003) (q := 9) (ci := 4) (k := 0) (w := .null) (by decide +kernel) (by decide +kernel) ?_
  refine b_getC (b := 1006) (q := 103) (ci := 8) (k := 2) (w := .null) (by decide +kernel) (by decide +kernel) ?_
  refine b_run [(33, .iload_n 1, 0, 0, .null)] (pc' := 34) (ls' := [some (.ref 1314), some (.int x1)]) (st' := [.int x1, .ref 1006, .int c2, .int c1, .ref 1014, .ref 1314]) (by decide +kernel) rfl ?_
  refine b_guard (fun hb => ?_)
  refine b_aI (ci := 0) (y := 0) (w := .null) (by decide +kernel) (by decide +kernel) hb (fun c3 => ?_)
  refine b_run [(35, .iadd, 0, 0, .null)] (pc' := 36) (ls' := [some (.ref 1314), some (.int x1)]) (st' := [.int (c2 + c3), .int c1, .ref 1014, .ref 1314]) (by decide +kernel) rfl ?_
  refine b_callV 84 4 [.ref 1314, .ref 1014, .int c1, .int (c2 + c3)] (rest := []) (by decide +kernel) rfl rfl rfl (go_O rfl (by decide +kernel) (by decide +kernel : isO 1314 4 = true)) rfl (s84 hv F 1014 c1 (c2 + c3) σ (by decide +kernel : isO 1014 5 = true)) (by decide) (fun σ4 => ?_)
  exact b_ret0 (i := (.return_, 0, 0, .null)) (by decide +kernel) rfl rfl
def f85_2 (F : Nat) : Nat → Nat → Int32 → St → Rs
  | 0, _, _, _ => none
  | n + 1, y1, y2, σ => cI (f248 F y1 σ) fun c2 σ1 => 
    if y2 < c2 then cI (f250 F y1 y2 σ1) fun c4 σ3 => cV (f82 F c4 σ3) fun σ5 => f85_2 F n y1 (y2 + 1) σ5
    else oV σ1
theorem s85_2 {sc : aSc} (hv : vOk sc) (F : Nat) : ∀ (n : Nat) (y1 : Nat) (y2 : Int32) (σ : St) (_ : isS y1 = true), bEx sc 4 85 2 [some (.ref 1314), some (.ref y1), some (.int y2)] [] σ (f85_2 F n y1 y2 σ) := by
  intro n
  induction n with
  | zero => intro y1 y2 σ hy1; exact b_none
  | succ n ih =>
    intro y1 y2 σ hy1
    rw [f85_2.eq_2]
    refine b_run [(2, .iload_n 2, 0, 0, .null), (3, .aload_n 1, 0, 0, .null)] (pc' := 4) (ls' := [some (.ref 1314), some (.ref y1), some (.int y2)]) (st' := [.ref y1, .int y2]) (by decide +kernel) rfl ?_
    refine b_callI 248 1 [.ref y1] (rest := [.int y2]) (by decide +kernel) rfl rfl rfl (go_X rfl (by decide +kernel) hy1) rfl (s248 hv F y1 σ hy1) (by decide) (fun c2 σ1 => ?_)
    refine b_icF (c := .ge) (o := 18) (t := 25) (y := 0) (w := .null) (by decide +kernel) cmp_ge (fun _ => ?_) (fun _ => ?_)
    · refine b_run [(10, .aload_n 0, 0, 0, .null), (11, .aload_n 1, 0, 0, .null), (12, .iload_n 2, 0, 0, .null)] (pc' := 13) (ls' := [some (.ref 1314), some (.ref y1), some (.int y2)]) (st' := [.int y2, .ref y1, .ref 1314]) (by decide +kernel) rfl ?_
      refine b_callI 250 2 [.ref y1, .int y2] (rest := [.ref 1314]) (by decide +kernel) rfl rfl rfl (go_X rfl (by decide +kernel) hy1) rfl (s250 hv F y1 y2 σ1 hy1) (by decide) (fun c4 σ3 => ?_)
      refine b_callV 82 2 [.ref 1314, .int c4] (rest := []) (by decide +kernel) rfl rfl rfl (go_O rfl (by decide +kernel) (by decide +kernel : isO 1314 4 = true)) rfl (s82 hv F c4 σ3) (by decide) (fun σ5 => ?_)
      refine b_run [(19, .iinc 2 1, 0, 0, .null), (22, .goto (-20), 2, 0, .null)] (pc' := 2) (ls' := [some (.ref 1314), some (.ref y1), some (.int (y2 + 1))]) (st' := []) (by decide +kernel) rfl ?_
      exact b_wk (wS (wS (wS w0))) (ih y1 (y2 + 1) σ5 hy1)
    · exact b_ret0 (i := (.return_, 0, 0, .null)) (by decide +kernel) rfl rfl
/-- TreeStore$Printer.putWord(Ljava/lang/String;)V -/
def f85 (F : Nat) (x1 : Nat) (σ : St) : Rs := f85_2 F F x1 0 σ
theorem s85 {sc : aSc} (hv : vOk sc) (F : Nat) (x1 : Nat) (σ : St) (hx1 : isS x1 = true) : bEx sc 4 85 0 [some (.ref 1314), some (.ref x1), none] [] σ (f85 F x1 σ) := by
  unfold f85
  refine b_run [(0, .iconst 0, 0, 0, .null), (1, .istore_n 2, 0, 0, .null)] (pc' := 2) (ls' := [some (.ref 1314), some (.ref x1), some (.int 0)]) (st' := []) (by decide +kernel) rfl ?_
  exact b_wk (wS (wS (wS w0))) (s85_2 hv F F x1 0 σ hx1)
def f86_109 (F : Nat) (k28 : Int32 → Nat → Int32 → Int32 → St → Rs) (y1 : Int32) (y2 : Nat) (y3 : Int32) (y4 : Int32) (σ : St) : Rs := k28 y1 y2 y3 (y4 + 1) σ
theorem s86_109 {sc : aSc} (hv : vOk sc) (F : Nat) (k28 : Int32 → Nat → Int32 → Int32 → St → Rs) (hk28 : ∀ y1 y2 y3 y4 σ, isO y2 5 = true → bEx sc 5 86 28 [some (.ref 1314), some (.int y1), some (.ref y2), some (.int y3), some (.int y4), none] [] σ (k28 y1 y2 y3 y4 σ)) (y1 : Int32) (y2 : Nat) (y3 : Int32) (y4 : Int32) (σ : St) (hy2 : isO y2 5 = true) : bEx sc 5 86 109 [some (.ref 1314), some (.int y1), some (.ref y2), some (.int y3), some (.int y4), none] [] σ (f86_109 F k28 y1 y2 y3 y4 σ) := by
  unfold f86_109
  refine b_run [(109, .iinc 4 1, 0, 0, .null), (112, .goto (-84), 28, 0, .null)] (pc' := 28) (ls' := [some (.ref 1314), some (.int y1), some (.ref y2), some (.int y3), some (.int (y4 + 1)), none]) (st' := []) (by decide +kernel) rfl ?_
  exact b_wk (wS (wS (wS (wS (wS (wN w0)))))) (hk28 y1 y2 y3 (y4 + 1) σ hy2)
def f86_103 (F : Nat) (k28 : Int32 → Nat → Int32 → Int32 → St → Rs) (y1 : Int32) (y2 : Nat) (y3 : Int32) (y4 : Int32) (y5 : Int32) (σ : St) : Rs := cV (f82 F y5 σ) fun σ16 => f86_109 F k28 y1 y2 y3 y4 σ16
theorem s86_103 {sc : aSc} (hv : vOk sc) (F : Nat) (k28 : Int32 → Nat → Int32 → Int32 → St → Rs) (hk28 : ∀ y1 y2 y3 y4 σ, isO y2 5 = true → bEx sc 5 86 28 [some (.ref 1314), some (.int y1), some (.ref y2), some (.int y3), some (.int y4), none] [] σ (k28 y1 y2 y3 y4 σ)) (y1 : Int32) (y2 : Nat) (y3 : Int32) (y4 : Int32) (y5 : Int32) (σ : St) (hy2 : isO y2 5 = true) : bEx sc 5 86 103 [some (.ref 1314), some (.int y1), some (.ref y2), some (.int y3), some (.int y4), some (.int y5)] [] σ (f86_103 F k28 y1 y2 y3 y4 y5 σ) := by
  unfold f86_103
  refine b_run [(103, .aload_n 0, 0, 0, .null), (104, .iload 5, 0, 0, .null)] (pc' := 106) (ls' := [some (.ref 1314), some (.int y1), some (.ref y2), some (.int y3), some (.int y4), some (.int y5)]) (st' := [.int y5, .ref 1314]) (by decide +kernel) rfl ?_
  refine b_callV 82 2 [.ref 1314, .int y5] (rest := []) (by decide +kernel) rfl rfl rfl (go_O rfl (by decide +kernel) (by decide +kernel : isO 1314 4 = true)) rfl (s82 hv F y5 σ) (by decide) (fun σ16 => ?_)
  exact b_wk (wS (wS (wS (wS (wS (wN w0)))))) (s86_109 hv F k28 hk28 y1 y2 y3 y4 σ16 hy2)
def f86_28 (F : Nat) : Nat → Int32 → Nat → Int32 → Int32 → St → Rs
  | 0, _, _, _, _, _ => none
  | n + 1, y1, y2, y3, y4, σ => if y4 < y3 then 
    cI (f92 F y2 y4 σ) fun c8 σ7 => 
    if c8 = 38 then cV (f85 F 2 σ7) fun σ9 => f86_109 F (f86_28 F n) y1 y2 y3 y4 σ9
    else if c8 = 60 then cV (f85 F 3 σ7) fun σ11 => f86_109 F (f86_28 F n) y1 y2 y3 y4 σ11
    else if c8 = 34 then 
    if inB y1 30 then lt (σ7.1 1004 y1.toNatClampNeg) fun c13 => 
    if c13 = 2 then cV (f85 F 4 σ7) fun σ14 => f86_109 F (f86_28 F n) y1 y2 y3 y4 σ14
    else f86_103 F (f86_28 F n) y1 y2 y3 y4 c8 σ7 else none
    else f86_103 F (f86_28 F n) y1 y2 y3 y4 c8 σ7
    else oV σ
theorem s86_28 {sc : aSc} (hv : vOk sc) (F : Nat) : ∀ (n : Nat) (y1 : Int32) (y2 : Nat) (y3 : Int32) (y4 : Int32) (σ : St) (_ : isO y2 5 = true), bEx sc 5 86 28 [some (.ref 1314), some (.int y1), some (.ref y2), some (.int y3), some (.int y4), none] [] σ (f86_28 F n y1 y2 y3 y4 σ) := by
  intro n
  induction n with
  | zero => intro y1 y2 y3 y4 σ hy2; exact b_none
  | succ n ih =>
    intro y1 y2 y3 y4 σ hy2
    rw [f86_28.eq_2]
    refine b_run [(28, .iload 4, 0, 0, .null), (30, .iload_n 3, 0, 0, .null)] (pc' := 31) (ls' := [some (.ref 1314), some (.int y1), some (.ref y2), some (.int y3), some (.int y4), none]) (st' := [.int y3, .int y4]) (by decide +kernel) rfl ?_
    refine b_icF (c := .ge) (o := 84) (t := 115) (y := 0) (w := .null) (by decide +kernel) cmp_ge (fun _ => ?_) (fun _ => ?_)
    · refine b_run [(34, .aload_n 2, 0, 0, .null), (35, .iload 4, 0, 0, .null)] (pc' := 37) (ls' := [some (.ref 1314), some (.int y1), some (.ref y2), some (.int y3), some (.int y4), none]) (st' := [.int y4, .ref y2]) (by decide +kernel) rfl ?_
      refine b_callI 92 2 [.ref y2, .int y4] (rest := []) (by decide +kernel) rfl rfl rfl (go_O rfl (by decide +kernel) hy2) rfl (s92 hv F y2 y4 σ hy2) (by decide) (fun c8 σ7 => ?_)
      refine b_run [(40, .istore 5, 0, 0, .null), (42, .iload 5, 0, 0, .null), (44, .bipush 38, 0, 0, .null)] (pc' := 46) (ls' := [some (.ref 1314), some (.int y1), some (.ref y2), some (.int y3), some (.int y4), some (.int c8)]) (st' := [.int 38, .int c8]) (by decide +kernel) rfl ?_
      refine b_icF (c := .ne) (o := 12) (t := 58) (y := 0) (w := .null) (by decide +kernel) cmp_ne (fun _ => ?_) (fun _ => ?_)
      · refine b_run [(49, .aload_n 0, 0, 0, .null), (50, .ldc 115, 0, 1, .ref 2)] (pc' := 52) (ls' := [some (.ref 1314), some (.int y1), some (.ref y2), some (.int y3), some (.int y4), some (.int c8)]) (st' := [.ref 2, .ref 1314]) (by decide +kernel) rfl ?_
        refine b_callV 85 2 [.ref 1314, .ref 2] (rest := []) (by decide +kernel) rfl rfl rfl (go_O rfl (by decide +kernel) (by decide +kernel : isO 1314 4 = true)) rfl (s85 hv F 2 σ7 (by decide +kernel : isS 2 = true)) (by decide) (fun σ9 => ?_)
        refine b_run [(55, .goto 54, 109, 0, .null)] (pc' := 109) (ls' := [some (.ref 1314), some (.int y1), some (.ref y2), some (.int y3), some (.int y4), some (.int c8)]) (st' := []) (by decide +kernel) rfl ?_
        exact b_wk (wS (wS (wS (wS (wS (wN w0)))))) (s86_109 hv F (f86_28 F n) ih y1 y2 y3 y4 σ9 hy2)
      · refine b_run [(58, .iload 5, 0, 0, .null), (60, .bipush 60, 0, 0, .null)] (pc' := 62) (ls' := [some (.ref 1314), some (.int y1), some (.ref y2), some (.int y3), some (.int y4), some (.int c8)]) (st' := [.int 60, .int c8]) (by decide +kernel) rfl ?_
        refine b_icF (c := .ne) (o := 12) (t := 74) (y := 0) (w := .null) (by decide +kernel) cmp_ne (fun _ => ?_) (fun _ => ?_)
        · refine b_run [(65, .aload_n 0, 0, 0, .null), (66, .ldc 117, 0, 2, .ref 3)] (pc' := 68) (ls' := [some (.ref 1314), some (.int y1), some (.ref y2), some (.int y3), some (.int y4), some (.int c8)]) (st' := [.ref 3, .ref 1314]) (by decide +kernel) rfl ?_
          refine b_callV 85 2 [.ref 1314, .ref 3] (rest := []) (by decide +kernel) rfl rfl rfl (go_O rfl (by decide +kernel) (by decide +kernel : isO 1314 4 = true)) rfl (s85 hv F 3 σ7 (by decide +kernel : isS 3 = true)) (by decide) (fun σ11 => ?_)
          refine b_run [(71, .goto 38, 109, 0, .null)] (pc' := 109) (ls' := [some (.ref 1314), some (.int y1), some (.ref y2), some (.int y3), some (.int y4), some (.int c8)]) (st' := []) (by decide +kernel) rfl ?_
          exact b_wk (wS (wS (wS (wS (wS (wN w0)))))) (s86_109 hv F (f86_28 F n) ih y1 y2 y3 y4 σ11 hy2)
        · refine b_run [(74, .iload 5, 0, 0, .null), (76, .bipush 34, 0, 0, .null)] (pc' := 78) (ls' := [some (.ref 1314), some (.int y1), some (.ref y2), some (.int y3), some (.int y4), some (.int c8)]) (st' := [.int 34, .int c8]) (by decide +kernel) rfl ?_
          refine b_icF (c := .ne) (o := 25) (t := 103) (y := 0) (w := .null) (by decide +kernel) cmp_ne (fun _ => ?_) (fun _ => ?_)
          · refine b_run [(81, .aload_n 0, 0, 0, .null)] (pc' := 82) (ls' := [some (.ref 1314), some (.int y1), some (.ref y2), some (.int y3), some (.int y4), some (.int c8)]) (st' := [.ref 1314]) (by decide +kernel) rfl ?_
            refine b_getC (b := 1003) (q := 9) (ci := 4) (k := 0) (w := .null) (by decide +kernel) (by decide +kernel) ?_
            refine b_getC (b := 1004) (q := 37) (ci := 8) (k := 0) (w := .null) (by decide +kernel) (by decide +kernel) ?_
            refine b_run [(88, .iload_n 1, 0, 0, .null)] (pc' := 89) (ls' := [some (.ref 1314), some (.int y1), some (.ref y2), some (.int y3), some (.int y4), some (.int c8)]) (st' := [.int y1, .ref 1004]) (by decide +kernel) rfl ?_
            refine b_guard (fun hb => ?_)
            refine b_aI (ci := 0) (y := 0) (w := .null) (by decide +kernel) (by decide +kernel) hb (fun c13 => ?_)
            refine b_run [(90, .iconst 2, 0, 0, .null)] (pc' := 91) (ls' := [some (.ref 1314), some (.int y1), some (.ref y2), some (.int y3), some (.int y4), some (.int c8)]) (st' := [.int 2, .int c13]) (by decide +kernel) rfl ?_
            refine b_icF (c := .ne) (o := 12) (t := 103) (y := 0) (w := .null) (by decide +kernel) cmp_ne (fun _ => ?_) (fun _ => ?_)
            · refine b_run [(94, .aload_n 0, 0, 0, .null), (95, .ldc 119, 0, 3, .ref 4)] (pc' := 97) (ls' := [some (.ref 1314), some (.int y1), some (.ref y2), some (.int y3), some (.int y4), some (.int c8)]) (st' := [.ref 4, .ref 1314]) (by decide +kernel) rfl ?_
              refine b_callV 85 2 [.ref 1314, .ref 4] (rest := []) (by decide +kernel) rfl rfl rfl (go_O rfl (by decide +kernel) (by decide +kernel : isO 1314 4 = true)) rfl (s85 hv F 4 σ7 (by decide +kernel : isS 4 = true)) (by decide) (fun σ14 => ?_)
              refine b_run [(100, .goto 9, 109, 0, .null)] (pc' := 109) (ls' := [some (.ref 1314), some (.int y1), some (.ref y2), some (.int y3), some (.int y4), some (.int c8)]) (st' := []) (by decide +kernel) rfl ?_
              exact b_wk (wS (wS (wS (wS (wS (wN w0)))))) (s86_109 hv F (f86_28 F n) ih y1 y2 y3 y4 σ14 hy2)
            · exact b_wk (wS (wS (wS (wS (wS (wS w0)))))) (s86_103 hv F (f86_28 F n) ih y1 y2 y3 y4 c8 σ7 hy2)
          · exact b_wk (wS (wS (wS (wS (wS (wS w0)))))) (s86_103 hv F (f86_28 F n) ih y1 y2 y3 y4 c8 σ7 hy2)
    · exact b_ret0 (i := (.return_, 0, 0, .null)) (by decide +kernel) rfl rfl
/-- TreeStore$Printer.putEscaped(I)V -/
def f86 (F : Nat) (x1 : Int32) (σ : St) : Rs := cR (f132 F 1003 x1 σ) fun c2 σ1 => 
    if isO c2 5 = true then cI (f129 F 1003 x1 σ1) fun c4 σ3 => cI (f131 F 1003 x1 σ3) fun c6 σ5 => f86_28 F F x1 c2 c4 c6 σ5 else none
theorem s86 {sc : aSc} (hv : vOk sc) (F : Nat) (x1 : Int32) (σ : St) : bEx sc 5 86 0 [some (.ref 1314), some (.int x1), none, none, none, none] [] σ (f86 F x1 σ) := by
  unfold f86
  refine b_run [(0, .aload_n 0, 0, 0, .null)] (pc' := 1) (ls' := [some (.ref 1314), some (.int x1), none, none, none, none]) (st' := [.ref 1314]) (by decide +kernel) rfl ?_
  refine b_getC (b := 1003) (q := 9) (ci := 4) (k := 0) (w := .null) (by decide +kernel) (by decide +kernel) ?_
  refine b_run [(4, .iload_n 1, 0, 0, .null)] (pc' := 5) (ls' := [some (.ref 1314), some (.int x1), none, none, none, none]) (st' := [.int x1, .ref 1003]) (by decide +kernel) rfl ?_
  refine b_callR 132 2 [.ref 1003, .int x1] (rest := []) (by decide +kernel) rfl rfl rfl (go_O rfl (by decide +kernel) (by decide +kernel : isO 1003 8 = true)) rfl (s132 hv F 1003 x1 σ (by decide +kernel : isO 1003 8 = true)) (by decide) (fun c2 σ1 => b_guard (fun hc2 => ?_))
  refine b_run [(8, .astore_n 2, 0, 0, .null), (9, .aload_n 0, 0, 0, .null)] (pc' := 10) (ls' := [some (.ref 1314), some (.int x1), some (.ref c2), none, none, none]) (st' := [.ref 1314]) (by decide +kernel) rfl ?_
  refine b_getC (b := 1003) (q := 9) (ci := 4) (k := 0) (w := .null) (by decide +kernel) (by decide +kernel) ?_
  refine b_run [(13, .iload_n 1, 0, 0, .null)] (pc' := 14) (ls' := [some (.ref 1314), some (.int x1), some (.ref c2), none, none, none]) (st' := [.int x1, .ref 1003]) (by decide +kernel) rfl ?_
  refine b_callI 129 2 [.ref 1003, .int x1] (rest := []) (by decide +kernel) rfl rfl rfl (go_O rfl (by decide +kernel) (by decide +kernel : isO 1003 8 = true)) rfl (s129 hv F 1003 x1 σ1 (by decide +kernel : isO 1003 8 = true)) (by decide) (fun c4 σ3 => ?_)
  refine b_run [(17, .istore_n 3, 0, 0, .null), (18, .aload_n 0, 0, 0, .null)] (pc' := 19) (ls' := [some (.ref 1314), some (.int x1), some (.ref c2), some (.int c4), none, none]) (st' := [.ref 1314]) (by decide +kernel) rfl ?_
  refine b_getC (b := 1003) (q := 9) (ci := 4) (k := 0) (w := .null) (by decide +kernel) (by decide +kernel) ?_
  refine b_run [(22, .iload_n 1, 0, 0, .null)] (pc' := 23) (ls' := [some (.ref 1314), some (.int x1), some (.ref c2), some (.int c4), none, none]) (st' := [.int x1, .ref 1003]) (by decide +kernel) rfl ?_
  refine b_callI 131 2 [.ref 1003, .int x1] (rest := []) (by decide +kernel) rfl rfl rfl (go_O rfl (by decide +kernel) (by decide +kernel : isO 1003 8 = true)) rfl (s131 hv F 1003 x1 σ3 (by decide +kernel : isO 1003 8 = true)) (by decide) (fun c6 σ5 => ?_)
  refine b_run [(26, .istore 4, 0, 0, .null)] (pc' := 28) (ls' := [some (.ref 1314), some (.int x1), some (.ref c2), some (.int c4), some (.int c6), none]) (st' := []) (by decide +kernel) rfl ?_
  exact b_wk (wS (wS (wS (wS (wS (wN w0)))))) (s86_28 hv F F x1 c2 c4 c6 σ5 hc2)
def f81_24 (F : Nat) : Nat → Int32 → Int32 → Int32 → St → Rs
  | 0, _, _, _, _ => none
  | n + 1, y1, y2, y3, σ => if y3 < y2 then 
    cV (f82 F 32 σ) fun σ7 => 
    cV (f83 F y3 σ7) fun σ9 => cV (f85 F 1 σ9) fun σ11 => cV (f86 F y3 σ11) fun σ13 => cV (f82 F 34 σ13) fun σ15 => f81_24 F n y1 y2 (y3 + 1) σ15
    else cI (f134 F 1003 y1 σ) fun c18 σ17 => 
    if c18 = 0 then cV (f85 F 6 σ17) fun σ19 => oV σ19
    else cV (f85 F 5 σ17) fun σ21 => oV σ21
theorem s81_24 {sc : aSc} (hv : vOk sc) (F : Nat) : ∀ (n : Nat) (y1 : Int32) (y2 : Int32) (y3 : Int32) (σ : St), bEx sc 6 81 24 [some (.ref 1314), some (.int y1), some (.int y2), some (.int y3)] [] σ (f81_24 F n y1 y2 y3 σ) := by
  intro n
  induction n with
  | zero => intro y1 y2 y3 σ; exact b_none
  | succ n ih =>
    intro y1 y2 y3 σ
    rw [f81_24.eq_2]
    refine b_run [(24, .iload_n 3, 0, 0, .null), (25, .iload_n 2, 0, 0, .null)] (pc' := 26) (ls' := [some (.ref 1314), some (.int y1), some (.int y2), some (.int y3)]) (st' := [.int y2, .int y3]) (by decide +kernel) rfl ?_
    refine b_icF (c := .ge) (o := 37) (t := 63) (y := 0) (w := .null) (by decide +kernel) cmp_ge (fun _ => ?_) (fun _ => ?_)
    · refine b_run [(29, .aload_n 0, 0, 0, .null), (30, .bipush 32, 0, 0, .null)] (pc' := 32) (ls' := [some (.ref 1314), some (.int y1), some (.int y2), some (.int y3)]) (st' := [.int 32, .ref 1314]) (by decide +kernel) rfl ?_
      refine b_callV 82 2 [.ref 1314, .int 32] (rest := []) (by decide +kernel) rfl rfl rfl (go_O rfl (by decide +kernel) (by decide +kernel : isO 1314 4 = true)) rfl (s82 hv F 32 σ) (by decide) (fun σ7 => ?_)
      refine b_run [(35, .aload_n 0, 0, 0, .null), (36, .iload_n 3, 0, 0, .null)] (pc' := 37) (ls' := [some (.ref 1314), some (.int y1), some (.int y2), some (.int y3)]) (st' := [.int y3, .ref 1314]) (by decide +kernel) rfl ?_
      refine b_callV 83 2 [.ref 1314, .int y3] (rest := []) (by decide +kernel) rfl rfl rfl (go_O rfl (by decide +kernel) (by decide +kernel : isO 1314 4 = true)) rfl (s83 hv F y3 σ7) (by decide) (fun σ9 => ?_)
      refine b_run [(40, .aload_n 0, 0, 0, .null), (41, .ldc 79, 0, 0, .ref 1)] (pc' := 43) (ls' := [some (.ref 1314), some (.int y1), some (.int y2), some (.int y3)]) (st' := [.ref 1, .ref 1314]) (by decide +kernel) rfl ?_
      refine b_callV 85 2 [.ref 1314, .ref 1] (rest := []) (by decide +kernel) rfl rfl rfl (go_O rfl (by decide +kernel) (by decide +kernel : isO 1314 4 = true)) rfl (s85 hv F 1 σ9 (by decide +kernel : isS 1 = true)) (by decide) (fun σ11 => ?_)
      refine b_run [(46, .aload_n 0, 0, 0, .null), (47, .iload_n 3, 0, 0, .null)] (pc' := 48) (ls' := [some (.ref 1314), some (.int y1), some (.int y2), some (.int y3)]) (st' := [.int y3, .ref 1314]) (by decide +kernel) rfl ?_
      refine b_callV 86 2 [.ref 1314, .int y3] (rest := []) (by decide +kernel) rfl rfl rfl (go_O rfl (by decide +kernel) (by decide +kernel : isO 1314 4 = true)) rfl (s86 hv F y3 σ11) (by decide) (fun σ13 => ?_)
      refine b_run [(51, .aload_n 0, 0, 0, .null), (52, .bipush 34, 0, 0, .null)] (pc' := 54) (ls' := [some (.ref 1314), some (.int y1), some (.int y2), some (.int y3)]) (st' := [.int 34, .ref 1314]) (by decide +kernel) rfl ?_
      refine b_callV 82 2 [.ref 1314, .int 34] (rest := []) (by decide +kernel) rfl rfl rfl (go_O rfl (by decide +kernel) (by decide +kernel : isO 1314 4 = true)) rfl (s82 hv F 34 σ13) (by decide) (fun σ15 => ?_)
      refine b_run [(57, .iinc 3 1, 0, 0, .null), (60, .goto (-36), 24, 0, .null)] (pc' := 24) (ls' := [some (.ref 1314), some (.int y1), some (.int y2), some (.int (y3 + 1))]) (st' := []) (by decide +kernel) rfl ?_
      exact b_wk (wS (wS (wS (wS w0)))) (ih y1 y2 (y3 + 1) σ15)
    · refine b_run [(63, .aload_n 0, 0, 0, .null), (64, .aload_n 0, 0, 0, .null)] (pc' := 65) (ls' := [some (.ref 1314), some (.int y1), some (.int y2), some (.int y3)]) (st' := [.ref 1314, .ref 1314]) (by decide +kernel) rfl ?_
      refine b_getC (b := 1003) (q := 9) (ci := 4) (k := 0) (w := .null) (by decide +kernel) (by decide +kernel) ?_
      refine b_run [(68, .iload_n 1, 0, 0, .null)] (pc' := 69) (ls' := [some (.ref 1314), some (.int y1), some (.int y2), some (.int y3)]) (st' := [.int y1, .ref 1003, .ref 1314]) (by decide +kernel) rfl ?_
      refine b_callI 134 2 [.ref 1003, .int y1] (rest := [.ref 1314]) (by decide +kernel) rfl rfl rfl (go_O rfl (by decide +kernel) (by decide +kernel : isO 1003 8 = true)) rfl (s134 hv F 1003 y1 σ (by decide +kernel : isO 1003 8 = true)) (by decide) (fun c18 σ17 => ?_)
      refine b_izT (c := .eq) (o := 8) (t := 80) (y := 0) (w := .null) (by decide +kernel) cmp_eq (fun _ => ?_) (fun _ => ?_)
      · refine b_run [(80, .ldc 87, 0, 5, .ref 6)] (pc' := 82) (ls' := [some (.ref 1314), some (.int y1), some (.int y2), some (.int y3)]) (st' := [.ref 6, .ref 1314]) (by decide +kernel) rfl ?_
        refine b_callV 85 2 [.ref 1314, .ref 6] (rest := []) (by decide +kernel) rfl rfl rfl (go_O rfl (by decide +kernel) (by decide +kernel : isO 1314 4 = true)) rfl (s85 hv F 6 σ17 (by decide +kernel : isS 6 = true)) (by decide) (fun σ19 => ?_)
        exact b_ret0 (i := (.return_, 0, 0, .null)) (by decide +kernel) rfl rfl
      · refine b_run [(75, .ldc 85, 0, 4, .ref 5), (77, .goto 5, 82, 0, .null)] (pc' := 82) (ls' := [some (.ref 1314), some (.int y1), some (.int y2), some (.int y3)]) (st' := [.ref 5, .ref 1314]) (by decide +kernel) rfl ?_
        refine b_callV 85 2 [.ref 1314, .ref 5] (rest := []) (by decide +kernel) rfl rfl rfl (go_O rfl (by decide +kernel) (by decide +kernel : isO 1314 4 = true)) rfl (s85 hv F 5 σ17 (by decide +kernel : isS 5 = true)) (by decide) (fun σ21 => ?_)
        exact b_ret0 (i := (.return_, 0, 0, .null)) (by decide +kernel) rfl rfl
/-- TreeStore$Printer.beginElement(I)V -/
def f81 (F : Nat) (x1 : Int32) (σ : St) : Rs := cV (f82 F 60 σ) fun σ1 => cV (f83 F x1 σ1) fun σ3 => cI (f133 F 1003 x1 σ3) fun c6 σ5 => f81_24 F F x1 c6 (x1 + 1) σ5
theorem s81 {sc : aSc} (hv : vOk sc) (F : Nat) (x1 : Int32) (σ : St) : bEx sc 6 81 0 [some (.ref 1314), some (.int x1), none, none] [] σ (f81 F x1 σ) := by
  unfold f81
  refine b_run [(0, .aload_n 0, 0, 0, .null), (1, .bipush 60, 0, 0, .null)] (pc' := 3) (ls' := [some (.ref 1314), some (.int x1), none, none]) (st' := [.int 60, .ref 1314]) (by decide +kernel) rfl ?_
  refine b_callV 82 2 [.ref 1314, .int 60] (rest := []) (by decide +kernel) rfl rfl rfl (go_O rfl (by decide +kernel) (by decide +kernel : isO 1314 4 = true)) rfl (s82 hv F 60 σ) (by decide) (fun σ1 => ?_)
  refine b_run [(6, .aload_n 0, 0, 0, .null), (7, .iload_n 1, 0, 0, .null)] (pc' := 8) (ls' := [some (.ref 1314), some (.int x1), none, none]) (st' := [.int x1, .ref 1314]) (by decide +kernel) rfl ?_
  refine b_callV 83 2 [.ref 1314, .int x1] (rest := []) (by decide +kernel) rfl rfl rfl (go_O rfl (by decide +kernel) (by decide +kernel : isO 1314 4 = true)) rfl (s83 hv F x1 σ1) (by decide) (fun σ3 => ?_)
  refine b_run [(11, .aload_n 0, 0, 0, .null)] (pc' := 12) (ls' := [some (.ref 1314), some (.int x1), none, none]) (st' := [.ref 1314]) (by decide +kernel) rfl ?_
  refine b_getC (b := 1003) (q := 9) (ci := 4) (k := 0) (w := .null) (by decide +kernel) (by decide +kernel) ?_
  refine b_run [(15, .iload_n 1, 0, 0, .null)] (pc' := 16) (ls' := [some (.ref 1314), some (.int x1), none, none]) (st' := [.int x1, .ref 1003]) (by decide +kernel) rfl ?_
  refine b_callI 133 2 [.ref 1003, .int x1] (rest := []) (by decide +kernel) rfl rfl rfl (go_O rfl (by decide +kernel) (by decide +kernel : isO 1003 8 = true)) rfl (s133 hv F 1003 x1 σ3 (by decide +kernel : isO 1003 8 = true)) (by decide) (fun c6 σ5 => ?_)
  refine b_run [(19, .istore_n 2, 0, 0, .null), (20, .iload_n 1, 0, 0, .null), (21, .iconst 1, 0, 0, .null), (22, .iadd, 0, 0, .null), (23, .istore_n 3, 0, 0, .null)] (pc' := 24) (ls' := [some (.ref 1314), some (.int x1), some (.int c6), some (.int (x1 + 1))]) (st' := []) (by decide +kernel) rfl ?_
  exact b_wk (wS (wS (wS (wS w0)))) (s81_24 hv F F x1 c6 (x1 + 1) σ5)
/-- TreeStore$Printer.begin(I)V -/
def f80 (F : Nat) (x1 : Int32) (σ : St) : Rs := if inB x1 30 then lt (σ.1 1004 x1.toNatClampNeg) fun c1 => 
    if c1 = 1 then cV (f81 F x1 σ) fun σ2 => oV σ2
    else if c1 = 2 then oV σ
    else if c1 = 3 then cV (f86 F x1 σ) fun σ4 => oV σ4
    else if c1 = 4 then 
    cV (f85 F 7 σ) fun σ6 => 
    cI (f131 F 1003 x1 σ6) fun c9 σ8 => cI (f129 F 1003 x1 σ8) fun c11 σ10 => cV (f84 F 1014 c9 c11 σ10) fun σ12 => cV (f85 F 8 σ12) fun σ14 => oV σ14
    else oV σ else none
theorem s80 {sc : aSc} (hv : vOk sc) (F : Nat) (x1 : Int32) (σ : St) : bEx sc 7 80 0 [some (.ref 1314), some (.int x1)] [] σ (f80 F x1 σ) := by
  unfold f80
  refine b_run [(0, .aload_n 0, 0, 0, .null)] (pc' := 1) (ls' := [some (.ref 1314), some (.int x1)]) (st' := [.ref 1314]) (by decide +kernel) rfl ?_
  refine b_getC (b := 1003) (q := 9) (ci := 4) (k := 0) (w := .null) (by decide +kernel) (by decide +kernel) ?_
  refine b_getC (b := 1004) (q := 37) (ci := 8) (k := 0) (w := .null) (by decide +kernel) (by decide +kernel) ?_
  refine b_run [(7, .iload_n 1, 0, 0, .null)] (pc' := 8) (ls' := [some (.ref 1314), some (.int x1)]) (st' := [.int x1, .ref 1004]) (by decide +kernel) rfl ?_
  refine b_guard (fun hb => ?_)
  refine b_aI (ci := 0) (y := 0) (w := .null) (by decide +kernel) (by decide +kernel) hb (fun c1 => ?_)
  refine b_ite (fun e0 => ?_) (fun e0 => ?_)
  · refine b_sw (dl := 89) (lo := 1) (hi' := 4) (offs := #[31, 89, 39, 47]) (t := 31) (y := 0) (w := .null) (by decide +kernel) (swE e0 (by decide +kernel : aSw 9 89 1 4 #[31, 89, 39, 47] 1 = some 40)) ?_
    refine b_run [(40, .aload_n 0, 0, 0, .null), (41, .iload_n 1, 0, 0, .null)] (pc' := 42) (ls' := [some (.ref 1314), some (.int x1)]) (st' := [.int x1, .ref 1314]) (by decide +kernel) rfl ?_
    refine b_callV 81 2 [.ref 1314, .int x1] (rest := []) (by decide +kernel) rfl rfl rfl (go_O rfl (by decide +kernel) (by decide +kernel : isO 1314 4 = true)) rfl (s81 hv F x1 σ) (by decide) (fun σ2 => ?_)
    refine b_run [(45, .goto 53, 98, 0, .null)] (pc' := 98) (ls' := [some (.ref 1314), some (.int x1)]) (st' := []) (by decide +kernel) rfl ?_
    exact b_ret0 (i := (.return_, 0, 0, .null)) (by decide +kernel) rfl rfl
  refine b_ite (fun e1 => ?_) (fun e1 => ?_)
  · refine b_sw (dl := 89) (lo := 1) (hi' := 4) (offs := #[31, 89, 39, 47]) (t := 31) (y := 0) (w := .null) (by decide +kernel) (swE e1 (by decide +kernel : aSw 9 89 1 4 #[31, 89, 39, 47] 2 = some 98)) ?_
    exact b_ret0 (i := (.return_, 0, 0, .null)) (by decide +kernel) rfl rfl
  refine b_ite (fun e2 => ?_) (fun e2 => ?_)
  · refine b_sw (dl := 89) (lo := 1) (hi' := 4) (offs := #[31, 89, 39, 47]) (t := 31) (y := 0) (w := .null) (by decide +kernel) (swE e2 (by decide +kernel : aSw 9 89 1 4 #[31, 89, 39, 47] 3 = some 48)) ?_
    refine b_run [(48, .aload_n 0, 0, 0, .null), (49, .iload_n 1, 0, 0, .null)] (pc' := 50) (ls' := [some (.ref 1314), some (.int x1)]) (st' := [.int x1, .ref 1314]) (by decide +kernel) rfl ?_
    refine b_callV 86 2 [.ref 1314, .int x1] (rest := []) (by decide +kernel) rfl rfl rfl (go_O rfl (by decide +kernel) (by decide +kernel : isO 1314 4 = true)) rfl (s86 hv F x1 σ) (by decide) (fun σ4 => ?_)
    refine b_run [(53, .goto 45, 98, 0, .null)] (pc' := 98) (ls' := [some (.ref 1314), some (.int x1)]) (st' := []) (by decide +kernel) rfl ?_
    exact b_ret0 (i := (.return_, 0, 0, .null)) (by decide +kernel) rfl rfl
  refine b_ite (fun e3 => ?_) (fun e3 => ?_)
  · refine b_sw (dl := 89) (lo := 1) (hi' := 4) (offs := #[31, 89, 39, 47]) (t := 31) (y := 0) (w := .null) (by decide +kernel) (swE e3 (by decide +kernel : aSw 9 89 1 4 #[31, 89, 39, 47] 4 = some 56)) ?_
    refine b_run [(56, .aload_n 0, 0, 0, .null), (57, .ldc 47, 0, 6, .ref 7)] (pc' := 59) (ls' := [some (.ref 1314), some (.int x1)]) (st' := [.ref 7, .ref 1314]) (by decide +kernel) rfl ?_
    refine b_callV 85 2 [.ref 1314, .ref 7] (rest := []) (by decide +kernel) rfl rfl rfl (go_O rfl (by decide +kernel) (by decide +kernel : isO 1314 4 = true)) rfl (s85 hv F 7 σ (by decide +kernel : isS 7 = true)) (by decide) (fun σ6 => ?_)
    refine b_run [(62, .aload_n 0, 0, 0, .null), (63, .aload_n 0, 0, 0, .null)] (pc' := 64) (ls' := [some (.ref 1314), some (.int x1)]) (st' := [.ref 1314, .ref 1314]) (by decide +kernel) rfl ?_
    refine b_getC (b := 1003) (q := 9) (ci := 4) (k := 0) (w := .null) (by decide +kernel) (by decide +kernel) ?_
    refine b_getC (b := 1014) (q := 53) (ci := 8) (k := 9) (w := .null) (by decide +kernel) (by decide +kernel) ?_
    refine b_run [(70, .aload_n 0, 0, 0, .null)] (pc' := 71) (ls' := [some (.ref 1314), some (.int x1)]) (st' := [.ref 1314, .ref 1014, .ref 1314]) (by decide +kernel) rfl ?_
    refine b_getC (b := 1003) (q := 9) (ci := 4) (k := 0) (w := .null) (by decide +kernel) (by decide +kernel) ?_
    refine b_run [(74, .iload_n 1, 0, 0, .null)] (pc' := 75) (ls' := [some (.ref 1314), some (.int x1)]) (st' := [.int x1, .ref 1003, .ref 1014, .ref 1314]) (by decide +kernel) rfl ?_
    refine b_callI 131 2 [.ref 1003, .int x1] (rest := [.ref 1014, .ref 1314]) (by decide +kernel) rfl rfl rfl (go_O rfl (by decide +kernel) (by decide +kernel : isO 1003 8 = true)) rfl (s131 hv F 1003 x1 σ6 (by decide +kernel : isO 1003 8 = true)) (by decide) (fun c9 σ8 => ?_)
    refine b_run [(78, .aload_n 0, 0, 0, .null)] (pc' := 79) (ls' := [some (.ref 1314), some (.int x1)]) (st' := [.ref 1314, .int c9, .ref 1014, .ref 1314]) (by decide +kernel) rfl ?_
    refine b_getC (b := 1003) (q := 9) (ci := 4) (k := 0) (w := .null) (by decide +kernel) (by decide +kernel) ?_
    refine b_run [(82, .iload_n 1, 0, 0, .null)] (pc' := 83) (ls' := [some (.ref 1314), some (.int x1)]) (st' := [.int x1, .ref 1003, .int c9, .ref 1014, .ref 1314]) (by decide +kernel) rfl ?_
    refine b_callI 129 2 [.ref 1003, .int x1] (rest := [.int c9, .ref 1014, .ref 1314]) (by decide +kernel) rfl rfl rfl (go_O rfl (by decide +kernel) (by decide +kernel : isO 1003 8 = true)) rfl (s129 hv F 1003 x1 σ8 (by decide +kernel : isO 1003 8 = true)) (by decide) (fun c11 σ10 => ?_)
    refine b_callV 84 4 [.ref 1314, .ref 1014, .int c9, .int c11] (rest := []) (by decide +kernel) rfl rfl rfl (go_O rfl (by decide +kernel) (by decide +kernel : isO 1314 4 = true)) rfl (s84 hv F 1014 c9 c11 σ10 (by decide +kernel : isO 1014 5 = true)) (by decide) (fun σ12 => ?_)
    refine b_run [(89, .aload_n 0, 0, 0, .null), (90, .ldc 68, 0, 7, .ref 8)] (pc' := 92) (ls' := [some (.ref 1314), some (.int x1)]) (st' := [.ref 8, .ref 1314]) (by decide +kernel) rfl ?_
    refine b_callV 85 2 [.ref 1314, .ref 8] (rest := []) (by decide +kernel) rfl rfl rfl (go_O rfl (by decide +kernel) (by decide +kernel : isO 1314 4 = true)) rfl (s85 hv F 8 σ12 (by decide +kernel : isS 8 = true)) (by decide) (fun σ14 => ?_)
    refine b_run [(95, .goto 3, 98, 0, .null)] (pc' := 98) (ls' := [some (.ref 1314), some (.int x1)]) (st' := []) (by decide +kernel) rfl ?_
    exact b_ret0 (i := (.return_, 0, 0, .null)) (by decide +kernel) rfl rfl
  refine b_sw (dl := 89) (lo := 1) (hi' := 4) (offs := #[31, 89, 39, 47]) (t := 31) (y := 0) (w := .null) (by decide +kernel) (swD (pc' := 98) (by have q0 : (c1 : Int32).toInt ≠ 1 := swN e0; have q1 : (c1 : Int32).toInt ≠ 2 := swN e1; have q2 : (c1 : Int32).toInt ≠ 3 := swN e2; have q3 : (c1 : Int32).toInt ≠ 4 := swN e3; omega) rfl) ?_
  exact b_ret0 (i := (.return_, 0, 0, .null)) (by decide +kernel) rfl rfl
def f87_72 (F : Nat) (k12 : Int32 → Int32 → Int32 → St → Rs) (y1 : Int32) (y2 : Int32) (y3 : Int32) (σ : St) : Rs := if inB y2 30 then lt (σ.1 1008 y2.toNatClampNeg) fun c6 => k12 y1 c6 (y3 + Int32.ofInt (-1)) σ else none
theorem s87_72 {sc : aSc} (hv : vOk sc) (F : Nat) (k12 : Int32 → Int32 → Int32 → St → Rs) (hk12 : ∀ y1 y2 y3 σ, bEx sc 5 87 12 [some (.ref 1314), some (.int y1), some (.int y2), some (.int y3)] [] σ (k12 y1 y2 y3 σ)) (y1 : Int32) (y2 : Int32) (y3 : Int32) (σ : St) : bEx sc 5 87 72 [some (.ref 1314), some (.int y1), some (.int y2), some (.int y3)] [] σ (f87_72 F k12 y1 y2 y3 σ) := by
  unfold f87_72
  refine b_run [(72, .aload_n 0, 0, 0, .null)] (pc' := 73) (ls' := [some (.ref 1314), some (.int y1), some (.int y2), some (.int y3)]) (st' := [.ref 1314]) (by decide +kernel) rfl ?_
  refine b_getC (b := 1003) (q := 9) (ci := 4) (k := 0) (w := .null) (by decide +kernel) (by decide +kernel) ?_
  refine b_getC (b := 1008) (q := 97) (ci := 8) (k := 4) (w := .null) (by decide +kernel) (by decide +kernel) ?_
  refine b_run [(79, .iload_n 2, 0, 0, .null)] (pc' := 80) (ls' := [some (.ref 1314), some (.int y1), some (.int y2), some (.int y3)]) (st' := [.int y2, .ref 1008]) (by decide +kernel) rfl ?_
  refine b_guard (fun hb => ?_)
  refine b_aI (ci := 0) (y := 0) (w := .null) (by decide +kernel) (by decide +kernel) hb (fun c6 => ?_)
  refine b_run [(81, .istore_n 2, 0, 0, .null), (82, .iinc 3 (-1), 0, 0, .null), (85, .goto (-73), 12, 0, .null)] (pc' := 12) (ls' := [some (.ref 1314), some (.int y1), some (.int c6), some (.int (y3 + Int32.ofInt (-1)))]) (st' := []) (by decide +kernel) rfl ?_
  exact b_wk (wS (wS (wS (wS w0)))) (hk12 y1 c6 (y3 + Int32.ofInt (-1)) σ)
def f87_12 (F : Nat) : Nat → Int32 → Int32 → Int32 → St → Rs
  | 0, _, _, _, _ => none
  | n + 1, y1, y2, y3, σ => if 0 < y3 then 
    if inB y2 30 then lt (σ.1 1009 y2.toNatClampNeg) fun c2 => 
    if y2 + c2 = y1 then 
    if inB y2 30 then lt (σ.1 1004 y2.toNatClampNeg) fun c3 => 
    if c3 = 1 then 
    cI (f134 F 1003 y2 σ) fun c5 σ4 => 
    if c5 = 0 then f87_72 F (f87_12 F n) y1 y2 y3 σ4
    else cV (f85 F 9 σ4) fun σ7 => cV (f83 F y2 σ7) fun σ9 => cV (f82 F 62 σ9) fun σ11 => f87_72 F (f87_12 F n) y1 y2 y3 σ11
    else f87_72 F (f87_12 F n) y1 y2 y3 σ else none
    else oV σ else none
    else oV σ
theorem s87_12 {sc : aSc} (hv : vOk sc) (F : Nat) : ∀ (n : Nat) (y1 : Int32) (y2 : Int32) (y3 : Int32) (σ : St), bEx sc 5 87 12 [some (.ref 1314), some (.int y1), some (.int y2), some (.int y3)] [] σ (f87_12 F n y1 y2 y3 σ) := by
  intro n
  induction n with
  | zero => intro y1 y2 y3 σ; exact b_none
  | succ n ih =>
    intro y1 y2 y3 σ
    rw [f87_12.eq_2]
    refine b_run [(12, .iload_n 3, 0, 0, .null)] (pc' := 13) (ls' := [some (.ref 1314), some (.int y1), some (.int y2), some (.int y3)]) (st' := [.int y3]) (by decide +kernel) rfl ?_
    refine b_izF (c := .le) (o := 75) (t := 88) (y := 0) (w := .null) (by decide +kernel) cmp_le (fun _ => ?_) (fun _ => ?_)
    · refine b_run [(16, .iload_n 2, 0, 0, .null), (17, .aload_n 0, 0, 0, .null)] (pc' := 18) (ls' := [some (.ref 1314), some (.int y1), some (.int y2), some (.int y3)]) (st' := [.ref 1314, .int y2]) (by decide +kernel) rfl ?_
      refine b_getC (b := 1003) (q := 9) (ci := 4) (k := 0) (w := .null) (by decide +kernel) (by decide +kernel) ?_
      refine b_getC (b := 1009) (q := 92) (ci := 8) (k := 5) (w := .null) (by decide +kernel) (by decide +kernel) ?_
      refine b_run [(24, .iload_n 2, 0, 0, .null)] (pc' := 25) (ls' := [some (.ref 1314), some (.int y1), some (.int y2), some (.int y3)]) (st' := [.int y2, .ref 1009, .int y2]) (by decide +kernel) rfl ?_
      refine b_guard (fun hb => ?_)
      refine b_aI (ci := 0) (y := 0) (w := .null) (by decide +kernel) (by decide +kernel) hb (fun c2 => ?_)
      refine b_run [(26, .iadd, 0, 0, .null), (27, .iload_n 1, 0, 0, .null)] (pc' := 28) (ls' := [some (.ref 1314), some (.int y1), some (.int y2), some (.int y3)]) (st' := [.int y1, .int (y2 + c2)]) (by decide +kernel) rfl ?_
      refine b_icF (c := .ne) (o := 60) (t := 88) (y := 0) (w := .null) (by decide +kernel) cmp_ne (fun _ => ?_) (fun _ => ?_)
      · refine b_run [(31, .aload_n 0, 0, 0, .null)] (pc' := 32) (ls' := [some (.ref 1314), some (.int y1), some (.int y2), some (.int y3)]) (st' := [.ref 1314]) (by decide +kernel) rfl ?_
        refine b_getC (b := 1003) (q := 9) (ci := 4) (k := 0) (w := .null) (by decide +kernel) (by decide +kernel) ?_
        refine b_getC (b := 1004) (q := 37) (ci := 8) (k := 0) (w := .null) (by decide +kernel) (by decide +kernel) ?_
        refine b_run [(38, .iload_n 2, 0, 0, .null)] (pc' := 39) (ls' := [some (.ref 1314), some (.int y1), some (.int y2), some (.int y3)]) (st' := [.int y2, .ref 1004]) (by decide +kernel) rfl ?_
        refine b_guard (fun hb => ?_)
        refine b_aI (ci := 0) (y := 0) (w := .null) (by decide +kernel) (by decide +kernel) hb (fun c3 => ?_)
        refine b_run [(40, .iconst 1, 0, 0, .null)] (pc' := 41) (ls' := [some (.ref 1314), some (.int y1), some (.int y2), some (.int y3)]) (st' := [.int 1, .int c3]) (by decide +kernel) rfl ?_
        refine b_icF (c := .ne) (o := 31) (t := 72) (y := 0) (w := .null) (by decide +kernel) cmp_ne (fun _ => ?_) (fun _ => ?_)
        · refine b_run [(44, .aload_n 0, 0, 0, .null)] (pc' := 45) (ls' := [some (.ref 1314), some (.int y1), some (.int y2), some (.int y3)]) (st' := [.ref 1314]) (by decide +kernel) rfl ?_
          refine b_getC (b := 1003) (q := 9) (ci := 4) (k := 0) (w := .null) (by decide +kernel) (by decide +kernel) ?_
          refine b_run [(48, .iload_n 2, 0, 0, .null)] (pc' := 49) (ls' := [some (.ref 1314), some (.int y1), some (.int y2), some (.int y3)]) (st' := [.int y2, .ref 1003]) (by decide +kernel) rfl ?_
          refine b_callI 134 2 [.ref 1003, .int y2] (rest := []) (by decide +kernel) rfl rfl rfl (go_O rfl (by decide +kernel) (by decide +kernel : isO 1003 8 = true)) rfl (s134 hv F 1003 y2 σ (by decide +kernel : isO 1003 8 = true)) (by decide) (fun c5 σ4 => ?_)
          refine b_izT (c := .eq) (o := 20) (t := 72) (y := 0) (w := .null) (by decide +kernel) cmp_eq (fun _ => ?_) (fun _ => ?_)
          · exact b_wk (wS (wS (wS (wS w0)))) (s87_72 hv F (f87_12 F n) ih y1 y2 y3 σ4)
          · refine b_run [(55, .aload_n 0, 0, 0, .null), (56, .ldc 95, 0, 8, .ref 9)] (pc' := 58) (ls' := [some (.ref 1314), some (.int y1), some (.int y2), some (.int y3)]) (st' := [.ref 9, .ref 1314]) (by decide +kernel) rfl ?_
            refine b_callV 85 2 [.ref 1314, .ref 9] (rest := []) (by decide +kernel) rfl rfl rfl (go_O rfl (by decide +kernel) (by decide +kernel : isO 1314 4 = true)) rfl (s85 hv F 9 σ4 (by decide +kernel : isS 9 = true)) (by decide) (fun σ7 => ?_)
            refine b_run [(61, .aload_n 0, 0, 0, .null), (62, .iload_n 2, 0, 0, .null)] (pc' := 63) (ls' := [some (.ref 1314), some (.int y1), some (.int y2), some (.int y3)]) (st' := [.int y2, .ref 1314]) (by decide +kernel) rfl ?_
            refine b_callV 83 2 [.ref 1314, .int y2] (rest := []) (by decide +kernel) rfl rfl rfl (go_O rfl (by decide +kernel) (by decide +kernel : isO 1314 4 = true)) rfl (s83 hv F y2 σ7) (by decide) (fun σ9 => ?_)
            refine b_run [(66, .aload_n 0, 0, 0, .null), (67, .bipush 62, 0, 0, .null)] (pc' := 69) (ls' := [some (.ref 1314), some (.int y1), some (.int y2), some (.int y3)]) (st' := [.int 62, .ref 1314]) (by decide +kernel) rfl ?_
            refine b_callV 82 2 [.ref 1314, .int 62] (rest := []) (by decide +kernel) rfl rfl rfl (go_O rfl (by decide +kernel) (by decide +kernel : isO 1314 4 = true)) rfl (s82 hv F 62 σ9) (by decide) (fun σ11 => ?_)
            exact b_wk (wS (wS (wS (wS w0)))) (s87_72 hv F (f87_12 F n) ih y1 y2 y3 σ11)
        · exact b_wk (wS (wS (wS (wS w0)))) (s87_72 hv F (f87_12 F n) ih y1 y2 y3 σ)
      · exact b_ret0 (i := (.return_, 0, 0, .null)) (by decide +kernel) rfl rfl
    · exact b_ret0 (i := (.return_, 0, 0, .null)) (by decide +kernel) rfl rfl
/-- TreeStore$Printer.endAllThatEndWith(I)V -/
def f87 (F : Nat) (x1 : Int32) (σ : St) : Rs := if inB x1 30 then lt (σ.1 1005 x1.toNatClampNeg) fun c1 => f87_12 F F x1 x1 c1 σ else none
theorem s87 {sc : aSc} (hv : vOk sc) (F : Nat) (x1 : Int32) (σ : St) : bEx sc 5 87 0 [some (.ref 1314), some (.int x1), none, none] [] σ (f87 F x1 σ) := by
  unfold f87
  refine b_run [(0, .iload_n 1, 0, 0, .null), (1, .istore_n 2, 0, 0, .null), (2, .aload_n 0, 0, 0, .null)] (pc' := 3) (ls' := [some (.ref 1314), some (.int x1), some (.int x1), none]) (st' := [.ref 1314]) (by decide +kernel) rfl ?_
  refine b_getC (b := 1003) (q := 9) (ci := 4) (k := 0) (w := .null) (by decide +kernel) (by decide +kernel) ?_
  refine b_getC (b := 1005) (q := 89) (ci := 8) (k := 1) (w := .null) (by decide +kernel) (by decide +kernel) ?_
  refine b_run [(9, .iload_n 1, 0, 0, .null)] (pc' := 10) (ls' := [some (.ref 1314), some (.int x1), some (.int x1), none]) (st' := [.int x1, .ref 1005]) (by decide +kernel) rfl ?_
  refine b_guard (fun hb => ?_)
  refine b_aI (ci := 0) (y := 0) (w := .null) (by decide +kernel) (by decide +kernel) hb (fun c1 => ?_)
  refine b_run [(11, .istore_n 3, 0, 0, .null)] (pc' := 12) (ls' := [some (.ref 1314), some (.int x1), some (.int x1), some (.int c1)]) (st' := []) (by decide +kernel) rfl ?_
  exact b_wk (wS (wS (wS (wS w0)))) (s87_12 hv F F x1 x1 c1 σ)
def f79_17 (F : Nat) : Nat → Int32 → St → Rs
  | 0, _, _ => none
  | n + 1, y2, σ => lt (σ.1 1003 10) fun c4 => 
    if y2 < c4 then 
    lt (σ.1 1314 2) fun c5 => 
    lt (σ.1 1314 1) fun c6 => 
    if c6 < c5 then lt (σ.1 1314 3) fun c7 => oI c7 σ
    else cV (f80 F y2 σ) fun σ8 => cV (f87 F y2 σ8) fun σ10 => f79_17 F n (y2 + 1) σ10
    else lt (σ.1 1314 3) fun c12 => oI c12 σ
theorem s79_17 {sc : aSc} (hv : vOk sc) (F : Nat) : ∀ (n : Nat) (y2 : Int32) (σ : St), bEx sc 8 79 17 [some (.ref 1314), none, some (.int y2)] [] σ (f79_17 F n y2 σ) := by
  intro n
  induction n with
  | zero => intro y2 σ; exact b_none
  | succ n ih =>
    intro y2 σ
    rw [f79_17.eq_2]
    refine b_run [(17, .iload_n 2, 0, 0, .null), (18, .aload_n 0, 0, 0, .null)] (pc' := 19) (ls' := [some (.ref 1314), none, some (.int y2)]) (st' := [.ref 1314, .int y2]) (by decide +kernel) rfl ?_
    refine b_getC (b := 1003) (q := 9) (ci := 4) (k := 0) (w := .null) (by decide +kernel) (by decide +kernel) ?_
    refine b_gI (q := 25) (ci := 8) (k := 10) (w := .null) (by decide +kernel) (by decide +kernel) (fun c4 => ?_)
    refine b_icF (c := .ge) (o := 30) (t := 55) (y := 0) (w := .null) (by decide +kernel) cmp_ge (fun _ => ?_) (fun _ => ?_)
    · refine b_run [(28, .aload_n 0, 0, 0, .null)] (pc' := 29) (ls' := [some (.ref 1314), none, some (.int y2)]) (st' := [.ref 1314]) (by decide +kernel) rfl ?_
      refine b_gI (q := 19) (ci := 4) (k := 2) (w := .null) (by decide +kernel) (by decide +kernel) (fun c5 => ?_)
      refine b_run [(32, .aload_n 0, 0, 0, .null)] (pc' := 33) (ls' := [some (.ref 1314), none, some (.int y2)]) (st' := [.ref 1314, .int c5]) (by decide +kernel) rfl ?_
      refine b_gI (q := 15) (ci := 4) (k := 1) (w := .null) (by decide +kernel) (by decide +kernel) (fun c6 => ?_)
      refine b_icT (c := .gt) (o := 19) (t := 55) (y := 0) (w := .null) (by decide +kernel) cmp_gt (fun _ => ?_) (fun _ => ?_)
      · refine b_run [(55, .aload_n 0, 0, 0, .null)] (pc' := 56) (ls' := [some (.ref 1314), none, some (.int y2)]) (st' := [.ref 1314]) (by decide +kernel) rfl ?_
        refine b_gI (q := 22) (ci := 4) (k := 3) (w := .null) (by decide +kernel) (by decide +kernel) (fun c7 => ?_)
        exact b_ret (i := (.ireturn, 0, 0, .null)) (by decide +kernel) rfl rfl (fit_I _)
      · refine b_run [(39, .aload_n 0, 0, 0, .null), (40, .iload_n 2, 0, 0, .null)] (pc' := 41) (ls' := [some (.ref 1314), none, some (.int y2)]) (st' := [.int y2, .ref 1314]) (by decide +kernel) rfl ?_
        refine b_callV 80 2 [.ref 1314, .int y2] (rest := []) (by decide +kernel) rfl rfl rfl (go_O rfl (by decide +kernel) (by decide +kernel : isO 1314 4 = true)) rfl (s80 hv F y2 σ) (by decide) (fun σ8 => ?_)
        refine b_run [(44, .aload_n 0, 0, 0, .null), (45, .iload_n 2, 0, 0, .null)] (pc' := 46) (ls' := [some (.ref 1314), none, some (.int y2)]) (st' := [.int y2, .ref 1314]) (by decide +kernel) rfl ?_
        refine b_callV 87 2 [.ref 1314, .int y2] (rest := []) (by decide +kernel) rfl rfl rfl (go_O rfl (by decide +kernel) (by decide +kernel : isO 1314 4 = true)) rfl (s87 hv F y2 σ8) (by decide) (fun σ10 => ?_)
        refine b_run [(49, .iinc 2 1, 0, 0, .null), (52, .goto (-35), 17, 0, .null)] (pc' := 17) (ls' := [some (.ref 1314), none, some (.int (y2 + 1))]) (st' := []) (by decide +kernel) rfl ?_
        exact b_wk (wS (wN (wS w0))) (ih (y2 + 1) σ10)
    · refine b_run [(55, .aload_n 0, 0, 0, .null)] (pc' := 56) (ls' := [some (.ref 1314), none, some (.int y2)]) (st' := [.ref 1314]) (by decide +kernel) rfl ?_
      refine b_gI (q := 22) (ci := 4) (k := 3) (w := .null) (by decide +kernel) (by decide +kernel) (fun c12 => ?_)
      exact b_ret (i := (.ireturn, 0, 0, .null)) (by decide +kernel) rfl rfl (fit_I _)
/-- TreeStore$Printer.printed(I)I -/
def f79 (F : Nat) (x1 : Int32) (σ : St) : Rs := lt (uI σ 1314 1 x1) fun σ1 => lt (uI σ1 1314 2 0) fun σ2 => lt (uI σ2 1314 3 0) fun σ3 => f79_17 F F 1 σ3
theorem s79 {sc : aSc} (hv : vOk sc) (F : Nat) (x1 : Int32) (σ : St) : bEx sc 8 79 0 [some (.ref 1314), some (.int x1), none] [] σ (f79 F x1 σ) := by
  unfold f79
  refine b_run [(0, .aload_n 0, 0, 0, .null), (1, .iload_n 1, 0, 0, .null)] (pc' := 2) (ls' := [some (.ref 1314), some (.int x1), none]) (st' := [.int x1, .ref 1314]) (by decide +kernel) rfl ?_
  refine b_pI (q := 15) (ci := 4) (k := 1) (w := .null) (by decide +kernel) (by decide +kernel) (fit_I _) (fun σ1 => ?_)
  refine b_run [(5, .aload_n 0, 0, 0, .null), (6, .iconst 0, 0, 0, .null)] (pc' := 7) (ls' := [some (.ref 1314), some (.int x1), none]) (st' := [.int 0, .ref 1314]) (by decide +kernel) rfl ?_
  refine b_pI (q := 19) (ci := 4) (k := 2) (w := .null) (by decide +kernel) (by decide +kernel) (fit_I _) (fun σ2 => ?_)
  refine b_run [(10, .aload_n 0, 0, 0, .null), (11, .iconst 0, 0, 0, .null)] (pc' := 12) (ls' := [some (.ref 1314), some (.int x1), none]) (st' := [.int 0, .ref 1314]) (by decide +kernel) rfl ?_
  refine b_pI (q := 22) (ci := 4) (k := 3) (w := .null) (by decide +kernel) (by decide +kernel) (fit_I _) (fun σ3 => ?_)
  refine b_run [(15, .iconst 1, 0, 0, .null), (16, .istore_n 2, 0, 0, .null)] (pc' := 17) (ls' := [some (.ref 1314), some (.int x1), some (.int 1)]) (st' := []) (by decide +kernel) rfl ?_
  exact b_wk (wS (wN (wS w0))) (s79_17 hv F F 1 σ3)
/-- TreeStore.print(I)I -/
def f20 (F : Nat) (x1 : Int32) (σ : St) : Rs := cI (f79 F x1 σ) fun c2 σ1 => oI c2 σ1
theorem s20 {sc : aSc} (hv : vOk sc) (F : Nat) (x1 : Int32) (σ : St) : bEx sc 9 20 0 [some (.ref 1000), some (.int x1)] [] σ (f20 F x1 σ) := by
  unfold f20
  refine b_run [(0, .aload_n 0, 0, 0, .null)] (pc' := 1) (ls' := [some (.ref 1000), some (.int x1)]) (st' := [.ref 1000]) (by decide +kernel) rfl ?_
  refine b_getC (b := 1314) (q := 58) (ci := 0) (k := 6) (w := .null) (by decide +kernel) (by decide +kernel) ?_
  refine b_run [(4, .iload_n 1, 0, 0, .null)] (pc' := 5) (ls' := [some (.ref 1000), some (.int x1)]) (st' := [.int x1, .ref 1314]) (by decide +kernel) rfl ?_
  refine b_callI 79 2 [.ref 1314, .int x1] (rest := []) (by decide +kernel) rfl rfl rfl (go_O rfl (by decide +kernel) (by decide +kernel : isO 1314 4 = true)) rfl (s79 hv F x1 σ) (by decide) (fun c2 σ1 => ?_)
  exact b_ret (i := (.ireturn, 0, 0, .null)) (by decide +kernel) rfl rfl (fit_I _)
/-- TreeStoreModel.isNode(I)Z -/
def f182 (F : Nat) (x1 : Int32) (σ : St) : Rs := if x1 < 0 then oI 0 σ
    else lt (σ.1 1315 3) fun c1 => 
    if x1 < c1 then oI 1 σ
    else oI 0 σ
theorem s182 {sc : aSc} (hv : vOk sc) (F : Nat) (x1 : Int32) (σ : St) : bEx sc 0 182 0 [some (.ref 1315), some (.int x1)] [] σ (f182 F x1 σ) := by
  unfold f182
  refine b_run [(0, .iload_n 1, 0, 0, .null)] (pc' := 1) (ls' := [some (.ref 1315), some (.int x1)]) (st' := [.int x1]) (by decide +kernel) rfl ?_
  refine b_izT (c := .lt) (o := 15) (t := 16) (y := 0) (w := .null) (by decide +kernel) cmp_lt (fun _ => ?_) (fun _ => ?_)
  · refine b_run [(16, .iconst 0, 0, 0, .null)] (pc' := 17) (ls' := [some (.ref 1315), some (.int x1)]) (st' := [.int 0]) (by decide +kernel) rfl ?_
    exact b_ret (i := (.ireturn, 0, 0, .null)) (by decide +kernel) rfl rfl (by decide +kernel)
  · refine b_run [(4, .iload_n 1, 0, 0, .null), (5, .aload_n 0, 0, 0, .null)] (pc' := 6) (ls' := [some (.ref 1315), some (.int x1)]) (st' := [.ref 1315, .int x1]) (by decide +kernel) rfl ?_
    refine b_gI (q := 148) (ci := 9) (k := 3) (w := .null) (by decide +kernel) (by decide +kernel) (fun c1 => ?_)
    refine b_icF (c := .ge) (o := 7) (t := 16) (y := 0) (w := .null) (by decide +kernel) cmp_ge (fun _ => ?_) (fun _ => ?_)
    · refine b_run [(12, .iconst 1, 0, 0, .null), (13, .goto 4, 17, 0, .null)] (pc' := 17) (ls' := [some (.ref 1315), some (.int x1)]) (st' := [.int 1]) (by decide +kernel) rfl ?_
      exact b_ret (i := (.ireturn, 0, 0, .null)) (by decide +kernel) rfl rfl (by decide +kernel)
    · refine b_run [(16, .iconst 0, 0, 0, .null)] (pc' := 17) (ls' := [some (.ref 1315), some (.int x1)]) (st' := [.int 0]) (by decide +kernel) rfl ?_
      exact b_ret (i := (.ireturn, 0, 0, .null)) (by decide +kernel) rfl rfl (by decide +kernel)
/-- TreeStoreModel.parent(I)I -/
def f183 (F : Nat) (x1 : Int32) (σ : St) : Rs := if inB x1 31 then lt (σ.1 1325 x1.toNatClampNeg) fun c1 => oI c1 σ else none
theorem s183 {sc : aSc} (hv : vOk sc) (F : Nat) (x1 : Int32) (σ : St) : bEx sc 0 183 0 [some (.ref 1315), some (.int x1)] [] σ (f183 F x1 σ) := by
  unfold f183
  refine b_run [(0, .aload_n 0, 0, 0, .null)] (pc' := 1) (ls' := [some (.ref 1315), some (.int x1)]) (st' := [.ref 1315]) (by decide +kernel) rfl ?_
  refine b_getC (b := 1325) (q := 38) (ci := 9) (k := 12) (w := .null) (by decide +kernel) (by decide +kernel) ?_
  refine b_run [(4, .iload_n 1, 0, 0, .null)] (pc' := 5) (ls' := [some (.ref 1315), some (.int x1)]) (st' := [.int x1, .ref 1325]) (by decide +kernel) rfl ?_
  refine b_guard (fun hb => ?_)
  refine b_aI (ci := 0) (y := 0) (w := .null) (by decide +kernel) (by decide +kernel) hb (fun c1 => ?_)
  exact b_ret (i := (.ireturn, 0, 0, .null)) (by decide +kernel) rfl rfl (fit_I _)
def f184_62 (F : Nat) (z0 : Int32) (σ : St) : Rs := if z0 = 0 then oI 0 σ
    else lt (σ.1 1315 32) fun c12 => 
    lt (σ.1 1315 1) fun c13 => 
    if c12 = c13 then oI 1 σ
    else cI (f154 F 1 σ) fun c15 σ14 => 
    if c15 = 0 then oI 0 σ14
    else oI 1 σ14
theorem s184_62 {sc : aSc} (hv : vOk sc) (F : Nat) (z0 : Int32) (σ : St) : bEx sc 6 184 62 [some (.ref 1315), none, none, none] [.int z0] σ (f184_62 F z0 σ) := by
  unfold f184_62
  refine b_run [(62, .istore_n 3, 0, 0, .null), (63, .iload_n 3, 0, 0, .null)] (pc' := 64) (ls' := [some (.ref 1315), none, none, some (.int z0)]) (st' := [.int z0]) (by decide +kernel) rfl ?_
  refine b_izT (c := .eq) (o := 26) (t := 90) (y := 0) (w := .null) (by decide +kernel) cmp_eq (fun _ => ?_) (fun _ => ?_)
  · refine b_run [(90, .iconst 0, 0, 0, .null)] (pc' := 91) (ls' := [some (.ref 1315), none, none, some (.int z0)]) (st' := [.int 0]) (by decide +kernel) rfl ?_
    exact b_ret (i := (.ireturn, 0, 0, .null)) (by decide +kernel) rfl rfl (by decide +kernel)
  · refine b_run [(67, .aload_n 0, 0, 0, .null)] (pc' := 68) (ls' := [some (.ref 1315), none, none, some (.int z0)]) (st' := [.ref 1315]) (by decide +kernel) rfl ?_
    refine b_gI (q := 181) (ci := 9) (k := 32) (w := .null) (by decide +kernel) (by decide +kernel) (fun c12 => ?_)
    refine b_run [(71, .aload_n 0, 0, 0, .null)] (pc' := 72) (ls' := [some (.ref 1315), none, none, some (.int z0)]) (st' := [.ref 1315, .int c12]) (by decide +kernel) rfl ?_
    refine b_gI (q := 155) (ci := 9) (k := 1) (w := .null) (by decide +kernel) (by decide +kernel) (fun c13 => ?_)
    refine b_icT (c := .eq) (o := 11) (t := 86) (y := 0) (w := .null) (by decide +kernel) cmp_eq (fun _ => ?_) (fun _ => ?_)
    · refine b_run [(86, .iconst 1, 0, 0, .null), (87, .goto 4, 91, 0, .null)] (pc' := 91) (ls' := [some (.ref 1315), none, none, some (.int z0)]) (st' := [.int 1]) (by decide +kernel) rfl ?_
      exact b_ret (i := (.ireturn, 0, 0, .null)) (by decide +kernel) rfl rfl (by decide +kernel)
    · refine b_run [(78, .aload_n 0, 0, 0, .null), (79, .iconst 1, 0, 0, .null)] (pc' := 80) (ls' := [some (.ref 1315), none, none, some (.int z0)]) (st' := [.int 1, .ref 1315]) (by decide +kernel) rfl ?_
      refine b_callI 154 2 [.ref 1315, .int 1] (rest := []) (by decide +kernel) rfl rfl rfl (go_O rfl (by decide +kernel) (by decide +kernel : isO 1315 9 = true)) rfl (s154 hv F 1 σ) (by decide) (fun c15 σ14 => ?_)
      refine b_izT (c := .eq) (o := 7) (t := 90) (y := 0) (w := .null) (by decide +kernel) cmp_eq (fun _ => ?_) (fun _ => ?_)
      · refine b_run [(90, .iconst 0, 0, 0, .null)] (pc' := 91) (ls' := [some (.ref 1315), none, none, some (.int z0)]) (st' := [.int 0]) (by decide +kernel) rfl ?_
        exact b_ret (i := (.ireturn, 0, 0, .null)) (by decide +kernel) rfl rfl (by decide +kernel)
      · refine b_run [(86, .iconst 1, 0, 0, .null), (87, .goto 4, 91, 0, .null)] (pc' := 91) (ls' := [some (.ref 1315), none, none, some (.int z0)]) (st' := [.int 1]) (by decide +kernel) rfl ?_
        exact b_ret (i := (.ireturn, 0, 0, .null)) (by decide +kernel) rfl rfl (by decide +kernel)
def f184_123 (F : Nat) (σ : St) : Rs := cI (f154 F 1 σ) fun c24 σ23 => 
    if c24 = 0 then oI 0 σ23
    else oI 1 σ23
theorem s184_123 {sc : aSc} (hv : vOk sc) (F : Nat) (σ : St) : bEx sc 6 184 123 [some (.ref 1315), none, none, none] [] σ (f184_123 F σ) := by
  unfold f184_123
  refine b_run [(123, .aload_n 0, 0, 0, .null), (124, .iconst 1, 0, 0, .null)] (pc' := 125) (ls' := [some (.ref 1315), none, none, none]) (st' := [.int 1, .ref 1315]) (by decide +kernel) rfl ?_
  refine b_callI 154 2 [.ref 1315, .int 1] (rest := []) (by decide +kernel) rfl rfl rfl (go_O rfl (by decide +kernel) (by decide +kernel : isO 1315 9 = true)) rfl (s154 hv F 1 σ) (by decide) (fun c24 σ23 => ?_)
  refine b_izT (c := .eq) (o := 7) (t := 135) (y := 0) (w := .null) (by decide +kernel) cmp_eq (fun _ => ?_) (fun _ => ?_)
  · refine b_run [(135, .iconst 0, 0, 0, .null)] (pc' := 136) (ls' := [some (.ref 1315), none, none, none]) (st' := [.int 0]) (by decide +kernel) rfl ?_
    exact b_ret (i := (.ireturn, 0, 0, .null)) (by decide +kernel) rfl rfl (by decide +kernel)
  · refine b_run [(131, .iconst 1, 0, 0, .null), (132, .goto 4, 136, 0, .null)] (pc' := 136) (ls' := [some (.ref 1315), none, none, none]) (st' := [.int 1]) (by decide +kernel) rfl ?_
    exact b_ret (i := (.ireturn, 0, 0, .null)) (by decide +kernel) rfl rfl (by decide +kernel)
/-- TreeStoreModel.piece(I)Z -/
def f184 (F : Nat) (x1 : Int32) (σ : St) : Rs := cV (f149 F σ) fun σ1 => 
    cI (f152 F 0 σ1) fun c4 σ3 => 
    if c4 = 60 then 
    cI (f155 F 1 σ3) fun c6 σ5 => 
    if c6 = 0 then 
    cI (f152 F 1 σ5) fun c8 σ7 => 
    if c8 = 33 then lt (σ7.1 1315 3) fun c9 => cI (f157 F 0 c9 σ7) fun c11 σ10 => f184_62 F c11 σ10
    else lt (σ7.1 1315 3) fun c16 => cI (f161 F 0 x1 c16 σ7) fun c18 σ17 => f184_62 F c18 σ17
    else cI (f154 F c6 σ5) fun c20 σ19 => if c20 = 0 ∨ c20 = 1 then oI c20 σ19 else none
    else cI (f152 F 0 σ3) fun c22 σ21 => 
    if c22 = 0 then f184_123 F σ21
    else lt (σ21.1 1315 3) fun c25 => 
    cI (f170 F 0 c25 σ21) fun c27 σ26 => 
    if c27 = 0 then f184_123 F σ26
    else lt (σ26.1 1315 32) fun c28 => 
    lt (σ26.1 1315 1) fun c29 => 
    if c28 = c29 then oI 1 σ26
    else f184_123 F σ26
theorem s184 {sc : aSc} (hv : vOk sc) (F : Nat) (x1 : Int32) (σ : St) : bEx sc 6 184 0 [some (.ref 1315), some (.int x1), none, none] [] σ (f184 F x1 σ) := by
  unfold f184
  refine b_run [(0, .aload_n 0, 0, 0, .null)] (pc' := 1) (ls' := [some (.ref 1315), some (.int x1), none, none]) (st' := [.ref 1315]) (by decide +kernel) rfl ?_
  refine b_callV 149 1 [.ref 1315] (rest := []) (by decide +kernel) rfl rfl rfl (go_O rfl (by decide +kernel) (by decide +kernel : isO 1315 9 = true)) rfl (s149 hv F σ) (by decide) (fun σ1 => ?_)
  refine b_run [(4, .aload_n 0, 0, 0, .null), (5, .iconst 0, 0, 0, .null)] (pc' := 6) (ls' := [some (.ref 1315), some (.int x1), none, none]) (st' := [.int 0, .ref 1315]) (by decide +kernel) rfl ?_
  refine b_callI 152 2 [.ref 1315, .int 0] (rest := []) (by decide +kernel) rfl rfl rfl (go_O rfl (by decide +kernel) (by decide +kernel : isO 1315 9 = true)) rfl (s152 hv F 0 σ1) (by decide) (fun c4 σ3 => ?_)
  refine b_run [(9, .bipush 60, 0, 0, .null)] (pc' := 11) (ls' := [some (.ref 1315), some (.int x1), none, none]) (st' := [.int 60, .int c4]) (by decide +kernel) rfl ?_
  refine b_icF (c := .ne) (o := 81) (t := 92) (y := 0) (w := .null) (by decide +kernel) cmp_ne (fun _ => ?_) (fun _ => ?_)
  · refine b_run [(14, .aload_n 0, 0, 0, .null), (15, .iconst 1, 0, 0, .null)] (pc' := 16) (ls' := [some (.ref 1315), some (.int x1), none, none]) (st' := [.int 1, .ref 1315]) (by decide +kernel) rfl ?_
    refine b_callI 155 2 [.ref 1315, .int 1] (rest := []) (by decide +kernel) rfl rfl rfl (go_O rfl (by decide +kernel) (by decide +kernel : isO 1315 9 = true)) rfl (s155 hv F 1 σ3) (by decide) (fun c6 σ5 => ?_)
    refine b_run [(19, .istore_n 2, 0, 0, .null), (20, .iload_n 2, 0, 0, .null)] (pc' := 21) (ls' := [some (.ref 1315), some (.int x1), some (.int c6), none]) (st' := [.int c6]) (by decide +kernel) rfl ?_
    refine b_izT (c := .eq) (o := 9) (t := 30) (y := 0) (w := .null) (by decide +kernel) cmp_eq (fun _ => ?_) (fun _ => ?_)
    · refine b_run [(30, .aload_n 0, 0, 0, .null), (31, .iconst 1, 0, 0, .null)] (pc' := 32) (ls' := [some (.ref 1315), some (.int x1), some (.int c6), none]) (st' := [.int 1, .ref 1315]) (by decide +kernel) rfl ?_
      refine b_callI 152 2 [.ref 1315, .int 1] (rest := []) (by decide +kernel) rfl rfl rfl (go_O rfl (by decide +kernel) (by decide +kernel : isO 1315 9 = true)) rfl (s152 hv F 1 σ5) (by decide) (fun c8 σ7 => ?_)
      refine b_run [(35, .bipush 33, 0, 0, .null)] (pc' := 37) (ls' := [some (.ref 1315), some (.int x1), some (.int c6), none]) (st' := [.int 33, .int c8]) (by decide +kernel) rfl ?_
      refine b_icF (c := .ne) (o := 15) (t := 52) (y := 0) (w := .null) (by decide +kernel) cmp_ne (fun _ => ?_) (fun _ => ?_)
      · refine b_run [(40, .aload_n 0, 0, 0, .null), (41, .iconst 0, 0, 0, .null), (42, .aload_n 0, 0, 0, .null)] (pc' := 43) (ls' := [some (.ref 1315), some (.int x1), some (.int c6), none]) (st' := [.ref 1315, .int 0, .ref 1315]) (by decide +kernel) rfl ?_
        refine b_gI (q := 148) (ci := 9) (k := 3) (w := .null) (by decide +kernel) (by decide +kernel) (fun c9 => ?_)
        refine b_callI 157 3 [.ref 1315, .int 0, .int c9] (rest := []) (by decide +kernel) rfl rfl rfl (go_O rfl (by decide +kernel) (by decide +kernel : isO 1315 9 = true)) rfl (s157 hv F 0 c9 σ7) (by decide) (fun c11 σ10 => ?_)
        refine b_run [(49, .goto 13, 62, 0, .null)] (pc' := 62) (ls' := [some (.ref 1315), some (.int x1), some (.int c6), none]) (st' := [.int c11]) (by decide +kernel) rfl ?_
        exact b_wk (wS (wN (wN (wN w0)))) (s184_62 hv F c11 σ10)
      · refine b_run [(52, .aload_n 0, 0, 0, .null), (53, .iconst 0, 0, 0, .null), (54, .iload_n 1, 0, 0, .null), (55, .aload_n 0, 0, 0, .null)] (pc' := 56) (ls' := [some (.ref 1315), some (.int x1), some (.int c6), none]) (st' := [.ref 1315, .int x1, .int 0, .ref 1315]) (by decide +kernel) rfl ?_
        refine b_gI (q := 148) (ci := 9) (k := 3) (w := .null) (by decide +kernel) (by decide +kernel) (fun c16 => ?_)
        refine b_callI 161 4 [.ref 1315, .int 0, .int x1, .int c16] (rest := []) (by decide +kernel) rfl rfl rfl (go_O rfl (by decide +kernel) (by decide +kernel : isO 1315 9 = true)) rfl (s161 hv F 0 x1 c16 σ7) (by decide) (fun c18 σ17 => ?_)
        exact b_wk (wS (wN (wN (wN w0)))) (s184_62 hv F c18 σ17)
    · refine b_run [(24, .aload_n 0, 0, 0, .null), (25, .iload_n 2, 0, 0, .null)] (pc' := 26) (ls' := [some (.ref 1315), some (.int x1), some (.int c6), none]) (st' := [.int c6, .ref 1315]) (by decide +kernel) rfl ?_
      refine b_callI 154 2 [.ref 1315, .int c6] (rest := []) (by decide +kernel) rfl rfl rfl (go_O rfl (by decide +kernel) (by decide +kernel : isO 1315 9 = true)) rfl (s154 hv F c6 σ5) (by decide) (fun c20 σ19 => ?_)
      exact b_guard (fun hz => b_ret (i := (.ireturn, 0, 0, .null)) (by decide +kernel) rfl rfl (fit_Z hz))
  · refine b_run [(92, .aload_n 0, 0, 0, .null), (93, .iconst 0, 0, 0, .null)] (pc' := 94) (ls' := [some (.ref 1315), some (.int x1), none, none]) (st' := [.int 0, .ref 1315]) (by decide +kernel) rfl ?_
    refine b_callI 152 2 [.ref 1315, .int 0] (rest := []) (by decide +kernel) rfl rfl rfl (go_O rfl (by decide +kernel) (by decide +kernel : isO 1315 9 = true)) rfl (s152 hv F 0 σ3) (by decide) (fun c22 σ21 => ?_)
    refine b_izT (c := .eq) (o := 26) (t := 123) (y := 0) (w := .null) (by decide +kernel) cmp_eq (fun _ => ?_) (fun _ => ?_)
    · exact b_wk (wS (wN (wN (wN w0)))) (s184_123 hv F σ21)
    · refine b_run [(100, .aload_n 0, 0, 0, .null), (101, .iconst 0, 0, 0, .null), (102, .aload_n 0, 0, 0, .null)] (pc' := 103) (ls' := [some (.ref 1315), some (.int x1), none, none]) (st' := [.ref 1315, .int 0, .ref 1315]) (by decide +kernel) rfl ?_
      refine b_gI (q := 148) (ci := 9) (k := 3) (w := .null) (by decide +kernel) (by decide +kernel) (fun c25 => ?_)
      refine b_callI 170 3 [.ref 1315, .int 0, .int c25] (rest := []) (by decide +kernel) rfl rfl rfl (go_O rfl (by decide +kernel) (by decide +kernel : isO 1315 9 = true)) rfl (s170 hv F 0 c25 σ21) (by decide) (fun c27 σ26 => ?_)
      refine b_izT (c := .eq) (o := 14) (t := 123) (y := 0) (w := .null) (by decide +kernel) cmp_eq (fun _ => ?_) (fun _ => ?_)
      · exact b_wk (wS (wN (wN (wN w0)))) (s184_123 hv F σ26)
      · refine b_run [(112, .aload_n 0, 0, 0, .null)] (pc' := 113) (ls' := [some (.ref 1315), some (.int x1), none, none]) (st' := [.ref 1315]) (by decide +kernel) rfl ?_
        refine b_gI (q := 181) (ci := 9) (k := 32) (w := .null) (by decide +kernel) (by decide +kernel) (fun c28 => ?_)
        refine b_run [(116, .aload_n 0, 0, 0, .null)] (pc' := 117) (ls' := [some (.ref 1315), some (.int x1), none, none]) (st' := [.ref 1315, .int c28]) (by decide +kernel) rfl ?_
        refine b_gI (q := 155) (ci := 9) (k := 1) (w := .null) (by decide +kernel) (by decide +kernel) (fun c29 => ?_)
        refine b_icT (c := .eq) (o := 11) (t := 131) (y := 0) (w := .null) (by decide +kernel) cmp_eq (fun _ => ?_) (fun _ => ?_)
        · refine b_run [(131, .iconst 1, 0, 0, .null), (132, .goto 4, 136, 0, .null)] (pc' := 136) (ls' := [some (.ref 1315), some (.int x1), none, none]) (st' := [.int 1]) (by decide +kernel) rfl ?_
          exact b_ret (i := (.ireturn, 0, 0, .null)) (by decide +kernel) rfl rfl (by decide +kernel)
        · exact b_wk (wS (wN (wN (wN w0)))) (s184_123 hv F σ26)
/-- TreeStoreModel.below(I)I -/
def f185 (F : Nat) (x1 : Int32) (σ : St) : Rs := if inB x1 31 then lt (σ.1 1324 x1.toNatClampNeg) fun c1 => oI c1 σ else none
theorem s185 {sc : aSc} (hv : vOk sc) (F : Nat) (x1 : Int32) (σ : St) : bEx sc 0 185 0 [some (.ref 1315), some (.int x1)] [] σ (f185 F x1 σ) := by
  unfold f185
  refine b_run [(0, .aload_n 0, 0, 0, .null)] (pc' := 1) (ls' := [some (.ref 1315), some (.int x1)]) (st' := [.ref 1315]) (by decide +kernel) rfl ?_
  refine b_getC (b := 1324) (q := 35) (ci := 9) (k := 11) (w := .null) (by decide +kernel) (by decide +kernel) ?_
  refine b_run [(4, .iload_n 1, 0, 0, .null)] (pc' := 5) (ls' := [some (.ref 1315), some (.int x1)]) (st' := [.int x1, .ref 1324]) (by decide +kernel) rfl ?_
  refine b_guard (fun hb => ?_)
  refine b_aI (ci := 0) (y := 0) (w := .null) (by decide +kernel) (by decide +kernel) hb (fun c1 => ?_)
  exact b_ret (i := (.ireturn, 0, 0, .null)) (by decide +kernel) rfl rfl (fit_I _)
def f181_274 (F : Nat) (k218 : Int32 → Int32 → Int32 → Int32 → St → Rs) (k243 : Int32 → Int32 → Int32 → Int32 → Int32 → St → Rs) (y4 : Int32) (y5 : Int32) (y7 : Int32) (y8 : Int32) (z0 : Int32) (σ : St) : Rs := k243 y4 y5 z0 y7 (y8 + 1) σ
theorem s181_274 {sc : aSc} (hv : vOk sc) (F : Nat) (k218 : Int32 → Int32 → Int32 → Int32 → St → Rs) (k243 : Int32 → Int32 → Int32 → Int32 → Int32 → St → Rs) (hk218 : ∀ y4 y5 y6 y7 σ, bEx sc 7 181 218 [some (.ref 1315), none, none, none, some (.int y4), some (.int y5), some (.int y6), some (.int y7), none, none] [] σ (k218 y4 y5 y6 y7 σ)) (hk243 : ∀ y4 y5 y6 y7 y8 σ, bEx sc 7 181 243 [some (.ref 1315), none, none, none, some (.int y4), some (.int y5), some (.int y6), some (.int y7), some (.int y8), none] [] σ (k243 y4 y5 y6 y7 y8 σ)) (y4 : Int32) (y5 : Int32) (y7 : Int32) (y8 : Int32) (z0 : Int32) (σ : St) : bEx sc 7 181 274 [some (.ref 1315), none, none, none, some (.int y4), some (.int y5), none, some (.int y7), some (.int y8), none] [.int z0] σ (f181_274 F k218 k243 y4 y5 y7 y8 z0 σ) := by
  unfold f181_274
  refine b_run [(274, .istore 6, 0, 0, .null), (276, .iinc 8 1, 0, 0, .null), (279, .goto (-36), 243, 0, .null)] (pc' := 243) (ls' := [some (.ref 1315), none, none, none, some (.int y4), some (.int y5), some (.int z0), some (.int y7), some (.int (y8 + 1)), none]) (st' := []) (by decide +kernel) rfl ?_
  exact b_wk (wS (wN (wN (wN (wS (wS (wS (wS (wS (wN w0)))))))))) (hk243 y4 y5 z0 y7 (y8 + 1) σ)
def f181_297 (F : Nat) (k218 : Int32 → Int32 → Int32 → Int32 → St → Rs) (y4 : Int32) (y5 : Int32) (y6 : Int32) (y7 : Int32) (σ : St) : Rs := k218 y4 y5 y6 (y7 + 1) σ
theorem s181_297 {sc : aSc} (hv : vOk sc) (F : Nat) (k218 : Int32 → Int32 → Int32 → Int32 → St → Rs) (hk218 : ∀ y4 y5 y6 y7 σ, bEx sc 7 181 218 [some (.ref 1315), none, none, none, some (.int y4), some (.int y5), some (.int y6), some (.int y7), none, none] [] σ (k218 y4 y5 y6 y7 σ)) (y4 : Int32) (y5 : Int32) (y6 : Int32) (y7 : Int32) (σ : St) : bEx sc 7 181 297 [some (.ref 1315), none, none, none, some (.int y4), some (.int y5), some (.int y6), some (.int y7), none, none] [] σ (f181_297 F k218 y4 y5 y6 y7 σ) := by
  unfold f181_297
  refine b_run [(297, .iinc 7 1, 0, 0, .null), (300, .goto (-82), 218, 0, .null)] (pc' := 218) (ls' := [some (.ref 1315), none, none, none, some (.int y4), some (.int y5), some (.int y6), some (.int (y7 + 1)), none, none]) (st' := []) (by decide +kernel) rfl ?_
  exact b_wk (wS (wN (wN (wN (wS (wS (wS (wS (wN (wN w0)))))))))) (hk218 y4 y5 y6 (y7 + 1) σ)
def f181_282 (F : Nat) (k218 : Int32 → Int32 → Int32 → Int32 → St → Rs) (y4 : Int32) (y5 : Int32) (y6 : Int32) (y7 : Int32) (σ : St) : Rs := lt (σ.1 1315 3) fun c24 => 
    if y7 < c24 then cV (f174 F y7 σ) fun σ25 => f181_297 F k218 y4 y5 y6 y7 σ25
    else f181_297 F k218 y4 y5 y6 y7 σ
theorem s181_282 {sc : aSc} (hv : vOk sc) (F : Nat) (k218 : Int32 → Int32 → Int32 → Int32 → St → Rs) (hk218 : ∀ y4 y5 y6 y7 σ, bEx sc 7 181 218 [some (.ref 1315), none, none, none, some (.int y4), some (.int y5), some (.int y6), some (.int y7), none, none] [] σ (k218 y4 y5 y6 y7 σ)) (y4 : Int32) (y5 : Int32) (y6 : Int32) (y7 : Int32) (σ : St) : bEx sc 7 181 282 [some (.ref 1315), none, none, none, some (.int y4), some (.int y5), some (.int y6), some (.int y7), none, none] [] σ (f181_282 F k218 y4 y5 y6 y7 σ) := by
  unfold f181_282
  refine b_run [(282, .iload 7, 0, 0, .null), (284, .aload_n 0, 0, 0, .null)] (pc' := 285) (ls' := [some (.ref 1315), none, none, none, some (.int y4), some (.int y5), some (.int y6), some (.int y7), none, none]) (st' := [.ref 1315, .int y7]) (by decide +kernel) rfl ?_
  refine b_gI (q := 148) (ci := 9) (k := 3) (w := .null) (by decide +kernel) (by decide +kernel) (fun c24 => ?_)
  refine b_icF (c := .ge) (o := 9) (t := 297) (y := 0) (w := .null) (by decide +kernel) cmp_ge (fun _ => ?_) (fun _ => ?_)
  · refine b_run [(291, .aload_n 0, 0, 0, .null), (292, .iload 7, 0, 0, .null)] (pc' := 294) (ls' := [some (.ref 1315), none, none, none, some (.int y4), some (.int y5), some (.int y6), some (.int y7), none, none]) (st' := [.int y7, .ref 1315]) (by decide +kernel) rfl ?_
    refine b_callV 174 2 [.ref 1315, .int y7] (rest := []) (by decide +kernel) rfl rfl rfl (go_O rfl (by decide +kernel) (by decide +kernel : isO 1315 9 = true)) rfl (s174 hv F y7 σ) (by decide) (fun σ25 => ?_)
    exact b_wk (wS (wN (wN (wN (wS (wS (wS (wS (wN (wN w0)))))))))) (s181_297 hv F k218 hk218 y4 y5 y6 y7 σ25)
  · exact b_wk (wS (wN (wN (wN (wS (wS (wS (wS (wN (wN w0)))))))))) (s181_297 hv F k218 hk218 y4 y5 y6 y7 σ)
def f181_243 (F : Nat) (k218 : Int32 → Int32 → Int32 → Int32 → St → Rs) : Nat → Int32 → Int32 → Int32 → Int32 → Int32 → St → Rs
  | 0, _, _, _, _, _, _ => none
  | n + 1, y4, y5, y6, y7, y8, σ => lt (σ.1 1315 22) fun c21 => 
    if y8 < c21 then 
    cI (f177 F y8 y4 σ) fun c23 σ22 => 
    if y8 = 0 then f181_274 F k218 (f181_243 F k218 n) y4 y5 y7 y8 c23 σ22
    else f181_274 F k218 (f181_243 F k218 n) y4 y5 y7 y8 y6 σ22
    else f181_282 F k218 y4 y5 y6 y7 σ
theorem s181_243 {sc : aSc} (hv : vOk sc) (F : Nat) (k218 : Int32 → Int32 → Int32 → Int32 → St → Rs) (hk218 : ∀ y4 y5 y6 y7 σ, bEx sc 7 181 218 [some (.ref 1315), none, none, none, some (.int y4), some (.int y5), some (.int y6), some (.int y7), none, none] [] σ (k218 y4 y5 y6 y7 σ)) : ∀ (n : Nat) (y4 : Int32) (y5 : Int32) (y6 : Int32) (y7 : Int32) (y8 : Int32) (σ : St), bEx sc 7 181 243 [some (.ref 1315), none, none, none, some (.int y4), some (.int y5), some (.int y6), some (.int y7), some (.int y8), none] [] σ (f181_243 F k218 n y4 y5 y6 y7 y8 σ) := by
  intro n
  induction n with
  | zero => intro y4 y5 y6 y7 y8 σ; exact b_none
  | succ n ih =>
    intro y4 y5 y6 y7 y8 σ
    rw [f181_243.eq_2]
    refine b_run [(243, .iload 8, 0, 0, .null), (245, .aload_n 0, 0, 0, .null)] (pc' := 246) (ls' := [some (.ref 1315), none, none, none, some (.int y4), some (.int y5), some (.int y6), some (.int y7), some (.int y8), none]) (st' := [.ref 1315, .int y8]) (by decide +kernel) rfl ?_
    refine b_gI (q := 172) (ci := 9) (k := 22) (w := .null) (by decide +kernel) (by decide +kernel) (fun c21 => ?_)
    refine b_icF (c := .ge) (o := 33) (t := 282) (y := 0) (w := .null) (by decide +kernel) cmp_ge (fun _ => ?_) (fun _ => ?_)
    · refine b_run [(252, .aload_n 0, 0, 0, .null), (253, .iload 8, 0, 0, .null), (255, .iload 4, 0, 0, .null)] (pc' := 257) (ls' := [some (.ref 1315), none, none, none, some (.int y4), some (.int y5), some (.int y6), some (.int y7), some (.int y8), none]) (st' := [.int y4, .int y8, .ref 1315]) (by decide +kernel) rfl ?_
      refine b_callI 177 3 [.ref 1315, .int y8, .int y4] (rest := []) (by decide +kernel) rfl rfl rfl (go_O rfl (by decide +kernel) (by decide +kernel : isO 1315 9 = true)) rfl (s177 hv F y8 y4 σ) (by decide) (fun c23 σ22 => ?_)
      refine b_run [(260, .istore 9, 0, 0, .null), (262, .iload 8, 0, 0, .null)] (pc' := 264) (ls' := [some (.ref 1315), none, none, none, some (.int y4), some (.int y5), some (.int y6), some (.int y7), some (.int y8), some (.int c23)]) (st' := [.int y8]) (by decide +kernel) rfl ?_
      refine b_izF (c := .ne) (o := 8) (t := 272) (y := 0) (w := .null) (by decide +kernel) cmp_ne (fun _ => ?_) (fun _ => ?_)
      · refine b_run [(267, .iload 9, 0, 0, .null), (269, .goto 5, 274, 0, .null)] (pc' := 274) (ls' := [some (.ref 1315), none, none, none, some (.int y4), some (.int y5), some (.int y6), some (.int y7), some (.int y8), some (.int c23)]) (st' := [.int c23]) (by decide +kernel) rfl ?_
        exact b_wk (wS (wN (wN (wN (wS (wS (wN (wS (wS (wN w0)))))))))) (s181_274 hv F k218 (f181_243 F k218 n) hk218 ih y4 y5 y7 y8 c23 σ22)
      · refine b_run [(272, .iload 6, 0, 0, .null)] (pc' := 274) (ls' := [some (.ref 1315), none, none, none, some (.int y4), some (.int y5), some (.int y6), some (.int y7), some (.int y8), some (.int c23)]) (st' := [.int y6]) (by decide +kernel) rfl ?_
        exact b_wk (wS (wN (wN (wN (wS (wS (wN (wS (wS (wN w0)))))))))) (s181_274 hv F k218 (f181_243 F k218 n) hk218 ih y4 y5 y7 y8 y6 σ22)
    · exact b_wk (wS (wN (wN (wN (wS (wS (wS (wS (wN (wN w0)))))))))) (s181_282 hv F k218 hk218 y4 y5 y6 y7 σ)
def f181_218 (F : Nat) : Nat → Int32 → Int32 → Int32 → Int32 → St → Rs
  | 0, _, _, _, _, _ => none
  | n + 1, y4, y5, y6, y7, σ => lt (σ.1 1315 3) fun c16 => 
    if c16 < y7 then cV (f178 F σ) fun σ17 => lt (uI σ17 1315 1 0) fun σ19 => oI y6 σ19
    else if y7 = y5 then lt (σ.1 1315 13) fun c20 => f181_243 F (f181_218 F n) F y4 y5 c20 y7 0 σ
    else f181_282 F (f181_218 F n) y4 y5 y6 y7 σ
theorem s181_218 {sc : aSc} (hv : vOk sc) (F : Nat) : ∀ (n : Nat) (y4 : Int32) (y5 : Int32) (y6 : Int32) (y7 : Int32) (σ : St), bEx sc 7 181 218 [some (.ref 1315), none, none, none, some (.int y4), some (.int y5), some (.int y6), some (.int y7), none, none] [] σ (f181_218 F n y4 y5 y6 y7 σ) := by
  intro n
  induction n with
  | zero => intro y4 y5 y6 y7 σ; exact b_none
  | succ n ih =>
    intro y4 y5 y6 y7 σ
    rw [f181_218.eq_2]
    refine b_run [(218, .iload 7, 0, 0, .null), (220, .aload_n 0, 0, 0, .null)] (pc' := 221) (ls' := [some (.ref 1315), none, none, none, some (.int y4), some (.int y5), some (.int y6), some (.int y7), none, none]) (st' := [.ref 1315, .int y7]) (by decide +kernel) rfl ?_
    refine b_gI (q := 148) (ci := 9) (k := 3) (w := .null) (by decide +kernel) (by decide +kernel) (fun c16 => ?_)
    refine b_icT (c := .gt) (o := 79) (t := 303) (y := 0) (w := .null) (by decide +kernel) cmp_gt (fun _ => ?_) (fun _ => ?_)
    · refine b_run [(303, .aload_n 0, 0, 0, .null)] (pc' := 304) (ls' := [some (.ref 1315), none, none, none, some (.int y4), some (.int y5), some (.int y6), some (.int y7), none, none]) (st' := [.ref 1315]) (by decide +kernel) rfl ?_
      refine b_callV 178 1 [.ref 1315] (rest := []) (by decide +kernel) rfl rfl rfl (go_O rfl (by decide +kernel) (by decide +kernel : isO 1315 9 = true)) rfl (s178 hv F σ) (by decide) (fun σ17 => ?_)
      refine b_run [(307, .aload_n 0, 0, 0, .null), (308, .iconst 0, 0, 0, .null)] (pc' := 309) (ls' := [some (.ref 1315), none, none, none, some (.int y4), some (.int y5), some (.int y6), some (.int y7), none, none]) (st' := [.int 0, .ref 1315]) (by decide +kernel) rfl ?_
      refine b_pI (q := 155) (ci := 9) (k := 1) (w := .null) (by decide +kernel) (by decide +kernel) (fit_I _) (fun σ19 => ?_)
      refine b_run [(312, .iload 6, 0, 0, .null)] (pc' := 314) (ls' := [some (.ref 1315), none, none, none, some (.int y4), some (.int y5), some (.int y6), some (.int y7), none, none]) (st' := [.int y6]) (by decide +kernel) rfl ?_
      exact b_ret (i := (.ireturn, 0, 0, .null)) (by decide +kernel) rfl rfl (fit_I _)
    · refine b_run [(227, .iload 7, 0, 0, .null), (229, .iload 5, 0, 0, .null)] (pc' := 231) (ls' := [some (.ref 1315), none, none, none, some (.int y4), some (.int y5), some (.int y6), some (.int y7), none, none]) (st' := [.int y5, .int y7]) (by decide +kernel) rfl ?_
      refine b_icF (c := .ne) (o := 51) (t := 282) (y := 0) (w := .null) (by decide +kernel) cmp_ne (fun _ => ?_) (fun _ => ?_)
      · refine b_run [(234, .aload_n 0, 0, 0, .null)] (pc' := 235) (ls' := [some (.ref 1315), none, none, none, some (.int y4), some (.int y5), some (.int y6), some (.int y7), none, none]) (st' := [.ref 1315]) (by decide +kernel) rfl ?_
        refine b_gI (q := 249) (ci := 9) (k := 13) (w := .null) (by decide +kernel) (by decide +kernel) (fun c20 => ?_)
        refine b_run [(238, .istore 6, 0, 0, .null), (240, .iconst 0, 0, 0, .null), (241, .istore 8, 0, 0, .null)] (pc' := 243) (ls' := [some (.ref 1315), none, none, none, some (.int y4), some (.int y5), some (.int c20), some (.int y7), some (.int 0), none]) (st' := []) (by decide +kernel) rfl ?_
        exact b_wk (wS (wN (wN (wN (wS (wS (wS (wS (wS (wN w0)))))))))) (s181_243 hv F (f181_218 F n) ih F y4 y5 c20 y7 0 σ)
      · exact b_wk (wS (wN (wN (wN (wS (wS (wS (wS (wN (wN w0)))))))))) (s181_282 hv F (f181_218 F n) ih y4 y5 y6 y7 σ)
def f181_208 (F : Nat) (y4 : Int32) (y5 : Int32) (σ : St) : Rs := cV (f173 F σ) fun σ14 => f181_218 F F y4 y5 0 0 σ14
theorem s181_208 {sc : aSc} (hv : vOk sc) (F : Nat) (y4 : Int32) (y5 : Int32) (σ : St) : bEx sc 7 181 208 [some (.ref 1315), none, none, none, some (.int y4), some (.int y5), none, none, none, none] [] σ (f181_208 F y4 y5 σ) := by
  unfold f181_208
  refine b_run [(208, .aload_n 0, 0, 0, .null)] (pc' := 209) (ls' := [some (.ref 1315), none, none, none, some (.int y4), some (.int y5), none, none, none, none]) (st' := [.ref 1315]) (by decide +kernel) rfl ?_
  refine b_callV 173 1 [.ref 1315] (rest := []) (by decide +kernel) rfl rfl rfl (go_O rfl (by decide +kernel) (by decide +kernel : isO 1315 9 = true)) rfl (s173 hv F σ) (by decide) (fun σ14 => ?_)
  refine b_run [(212, .iconst 0, 0, 0, .null), (213, .istore 6, 0, 0, .null), (215, .iconst 0, 0, 0, .null), (216, .istore 7, 0, 0, .null)] (pc' := 218) (ls' := [some (.ref 1315), none, none, none, some (.int y4), some (.int y5), some (.int 0), some (.int 0), none, none]) (st' := []) (by decide +kernel) rfl ?_
  exact b_wk (wS (wN (wN (wN (wS (wS (wS (wS (wN (wN w0)))))))))) (s181_218 hv F F y4 y5 0 0 σ14)
def f181_182 (F : Nat) : Nat → Int32 → Int32 → St → Rs
  | 0, _, _, _ => none
  | n + 1, y4, y5, σ => lt (σ.1 1315 3) fun c12 => 
    if y5 < c12 then 
    if inB y5 31 then lt (σ.1 1317 y5.toNatClampNeg) fun c13 => 
    if c13 = 2 then f181_182 F n y4 (y5 + 1) σ
    else f181_208 F y4 y5 σ else none
    else f181_208 F y4 y5 σ
theorem s181_182 {sc : aSc} (hv : vOk sc) (F : Nat) : ∀ (n : Nat) (y4 : Int32) (y5 : Int32) (σ : St), bEx sc 7 181 182 [some (.ref 1315), none, none, none, some (.int y4), some (.int y5), none, none, none, none] [] σ (f181_182 F n y4 y5 σ) := by
  intro n
  induction n with
  | zero => intro y4 y5 σ; exact b_none
  | succ n ih =>
    intro y4 y5 σ
    rw [f181_182.eq_2]
    refine b_run [(182, .iload 5, 0, 0, .null), (184, .aload_n 0, 0, 0, .null)] (pc' := 185) (ls' := [some (.ref 1315), none, none, none, some (.int y4), some (.int y5), none, none, none, none]) (st' := [.ref 1315, .int y5]) (by decide +kernel) rfl ?_
    refine b_gI (q := 148) (ci := 9) (k := 3) (w := .null) (by decide +kernel) (by decide +kernel) (fun c12 => ?_)
    refine b_icF (c := .ge) (o := 20) (t := 208) (y := 0) (w := .null) (by decide +kernel) cmp_ge (fun _ => ?_) (fun _ => ?_)
    · refine b_run [(191, .aload_n 0, 0, 0, .null)] (pc' := 192) (ls' := [some (.ref 1315), none, none, none, some (.int y4), some (.int y5), none, none, none, none]) (st' := [.ref 1315]) (by decide +kernel) rfl ?_
      refine b_getC (b := 1317) (q := 13) (ci := 9) (k := 4) (w := .null) (by decide +kernel) (by decide +kernel) ?_
      refine b_run [(195, .iload 5, 0, 0, .null)] (pc' := 197) (ls' := [some (.ref 1315), none, none, none, some (.int y4), some (.int y5), none, none, none, none]) (st' := [.int y5, .ref 1317]) (by decide +kernel) rfl ?_
      refine b_guard (fun hb => ?_)
      refine b_aI (ci := 0) (y := 0) (w := .null) (by decide +kernel) (by decide +kernel) hb (fun c13 => ?_)
      refine b_run [(198, .iconst 2, 0, 0, .null)] (pc' := 199) (ls' := [some (.ref 1315), none, none, none, some (.int y4), some (.int y5), none, none, none, none]) (st' := [.int 2, .int c13]) (by decide +kernel) rfl ?_
      refine b_icF (c := .ne) (o := 9) (t := 208) (y := 0) (w := .null) (by decide +kernel) cmp_ne (fun _ => ?_) (fun _ => ?_)
      · refine b_run [(202, .iinc 5 1, 0, 0, .null), (205, .goto (-23), 182, 0, .null)] (pc' := 182) (ls' := [some (.ref 1315), none, none, none, some (.int y4), some (.int (y5 + 1)), none, none, none, none]) (st' := []) (by decide +kernel) rfl ?_
        exact b_wk (wS (wN (wN (wN (wS (wS (wN (wN (wN (wN w0)))))))))) (ih y4 (y5 + 1) σ)
      · exact b_wk (wS (wN (wN (wN (wS (wS (wN (wN (wN (wN w0)))))))))) (s181_208 hv F y4 y5 σ)
    · exact b_wk (wS (wN (wN (wN (wS (wS (wN (wN (wN (wN w0)))))))))) (s181_208 hv F y4 y5 σ)
def f181_171 (F : Nat) (y1 : Int32) (y2 : Int32) (y4 : Int32) (z0 : Int32) (σ : St) : Rs := if y2 = 0 then f181_182 F F y4 (y1 + 1) σ
    else f181_208 F y4 z0 σ
theorem s181_171 {sc : aSc} (hv : vOk sc) (F : Nat) (y1 : Int32) (y2 : Int32) (y4 : Int32) (z0 : Int32) (σ : St) : bEx sc 7 181 171 [some (.ref 1315), some (.int y1), some (.int y2), none, some (.int y4), none, none, none, none, none] [.int z0] σ (f181_171 F y1 y2 y4 z0 σ) := by
  unfold f181_171
  refine b_run [(171, .istore 5, 0, 0, .null), (173, .iload_n 2, 0, 0, .null)] (pc' := 174) (ls' := [some (.ref 1315), some (.int y1), some (.int y2), none, some (.int y4), some (.int z0), none, none, none, none]) (st' := [.int y2]) (by decide +kernel) rfl ?_
  refine b_izF (c := .ne) (o := 34) (t := 208) (y := 0) (w := .null) (by decide +kernel) cmp_ne (fun _ => ?_) (fun _ => ?_)
  · refine b_run [(177, .iload_n 1, 0, 0, .null), (178, .iconst 1, 0, 0, .null), (179, .iadd, 0, 0, .null), (180, .istore 5, 0, 0, .null)] (pc' := 182) (ls' := [some (.ref 1315), some (.int y1), some (.int y2), none, some (.int y4), some (.int (y1 + 1)), none, none, none, none]) (st' := []) (by decide +kernel) rfl ?_
    exact b_wk (wS (wN (wN (wN (wS (wS (wN (wN (wN (wN w0)))))))))) (s181_182 hv F F y4 (y1 + 1) σ)
  · exact b_wk (wS (wN (wN (wN (wS (wS (wN (wN (wN (wN w0)))))))))) (s181_208 hv F y4 z0 σ)
def f181_126 (F : Nat) (y1 : Int32) (y2 : Int32) (z0 : Int32) (σ : St) : Rs := cI (f184 F z0 σ) fun c7 σ6 => 
    if c7 = 0 then lt (σ6.1 1315 33) fun c8 => cI (f172 F (c8 + 1) σ6) fun c10 σ9 => oI c10 σ9
    else lt (uI σ6 1315 0 0) fun σ11 => 
    if y2 = 2 then f181_171 F y1 y2 z0 y1 σ11
    else cI (f185 F y1 σ11) fun c28 σ27 => f181_171 F y1 y2 z0 ((y1 + c28) + 1) σ27
theorem s181_126 {sc : aSc} (hv : vOk sc) (F : Nat) (y1 : Int32) (y2 : Int32) (z0 : Int32) (σ : St) : bEx sc 7 181 126 [some (.ref 1315), some (.int y1), some (.int y2), none, none, none, none, none, none, none] [.int z0] σ (f181_126 F y1 y2 z0 σ) := by
  unfold f181_126
  refine b_run [(126, .istore 4, 0, 0, .null), (128, .aload_n 0, 0, 0, .null), (129, .iload 4, 0, 0, .null)] (pc' := 131) (ls' := [some (.ref 1315), some (.int y1), some (.int y2), none, some (.int z0), none, none, none, none, none]) (st' := [.int z0, .ref 1315]) (by decide +kernel) rfl ?_
  refine b_callI 184 2 [.ref 1315, .int z0] (rest := []) (by decide +kernel) rfl rfl rfl (go_O rfl (by decide +kernel) (by decide +kernel : isO 1315 9 = true)) rfl (s184 hv F z0 σ) (by decide) (fun c7 σ6 => ?_)
  refine b_izF (c := .ne) (o := 14) (t := 148) (y := 0) (w := .null) (by decide +kernel) cmp_ne (fun _ => ?_) (fun _ => ?_)
  · refine b_run [(137, .aload_n 0, 0, 0, .null), (138, .aload_n 0, 0, 0, .null)] (pc' := 139) (ls' := [some (.ref 1315), some (.int y1), some (.int y2), none, some (.int z0), none, none, none, none, none]) (st' := [.ref 1315, .ref 1315]) (by decide +kernel) rfl ?_
    refine b_gI (q := 169) (ci := 9) (k := 33) (w := .null) (by decide +kernel) (by decide +kernel) (fun c8 => ?_)
    refine b_run [(142, .iconst 1, 0, 0, .null), (143, .iadd, 0, 0, .null)] (pc' := 144) (ls' := [some (.ref 1315), some (.int y1), some (.int y2), none, some (.int z0), none, none, none, none, none]) (st' := [.int (c8 + 1), .ref 1315]) (by decide +kernel) rfl ?_
    refine b_callI 172 2 [.ref 1315, .int (c8 + 1)] (rest := []) (by decide +kernel) rfl rfl rfl (go_O rfl (by decide +kernel) (by decide +kernel : isO 1315 9 = true)) rfl (s172 hv F (c8 + 1) σ6) (by decide) (fun c10 σ9 => ?_)
    exact b_ret (i := (.ireturn, 0, 0, .null)) (by decide +kernel) rfl rfl (fit_I _)
  · refine b_run [(148, .aload_n 0, 0, 0, .null), (149, .iconst 0, 0, 0, .null)] (pc' := 150) (ls' := [some (.ref 1315), some (.int y1), some (.int y2), none, some (.int z0), none, none, none, none, none]) (st' := [.int 0, .ref 1315]) (by decide +kernel) rfl ?_
    refine b_pI (q := 152) (ci := 9) (k := 0) (w := .null) (by decide +kernel) (by decide +kernel) (fit_I _) (fun σ11 => ?_)
    refine b_run [(153, .iload_n 2, 0, 0, .null), (154, .iconst 2, 0, 0, .null)] (pc' := 155) (ls' := [some (.ref 1315), some (.int y1), some (.int y2), none, some (.int z0), none, none, none, none, none]) (st' := [.int 2, .int y2]) (by decide +kernel) rfl ?_
    refine b_icF (c := .ne) (o := 7) (t := 162) (y := 0) (w := .null) (by decide +kernel) cmp_ne (fun _ => ?_) (fun _ => ?_)
    · refine b_run [(158, .iload_n 1, 0, 0, .null), (159, .goto 12, 171, 0, .null)] (pc' := 171) (ls' := [some (.ref 1315), some (.int y1), some (.int y2), none, some (.int z0), none, none, none, none, none]) (st' := [.int y1]) (by decide +kernel) rfl ?_
      exact b_wk (wS (wS (wS (wN (wS (wN (wN (wN (wN (wN w0)))))))))) (s181_171 hv F y1 y2 z0 y1 σ11)
    · refine b_run [(162, .iload_n 1, 0, 0, .null), (163, .aload_n 0, 0, 0, .null), (164, .iload_n 1, 0, 0, .null)] (pc' := 165) (ls' := [some (.ref 1315), some (.int y1), some (.int y2), none, some (.int z0), none, none, none, none, none]) (st' := [.int y1, .ref 1315, .int y1]) (by decide +kernel) rfl ?_
      refine b_callI 185 2 [.ref 1315, .int y1] (rest := [.int y1]) (by decide +kernel) rfl rfl rfl (go_O rfl (by decide +kernel) (by decide +kernel : isO 1315 9 = true)) rfl (s185 hv F y1 σ11) (by decide) (fun c28 σ27 => ?_)
      refine b_run [(168, .iadd, 0, 0, .null), (169, .iconst 1, 0, 0, .null), (170, .iadd, 0, 0, .null)] (pc' := 171) (ls' := [some (.ref 1315), some (.int y1), some (.int y2), none, some (.int z0), none, none, none, none, none]) (st' := [.int ((y1 + c28) + 1)]) (by decide +kernel) rfl ?_
      exact b_wk (wS (wS (wS (wN (wS (wN (wN (wN (wN (wN w0)))))))))) (s181_171 hv F y1 y2 z0 ((y1 + c28) + 1) σ27)
def f181_94 (F : Nat) (y1 : Int32) (y2 : Int32) (y3 : Int32) (σ : St) : Rs := if y3 = 0 then cI (f172 F 1 σ) fun c4 σ3 => oI c4 σ3
    else if y2 < 2 then if inB y1 31 then lt (σ.1 1318 y1.toNatClampNeg) fun c5 => f181_126 F y1 y2 (c5 + 1) σ else none
    else if inB y1 31 then lt (σ.1 1318 y1.toNatClampNeg) fun c29 => f181_126 F y1 y2 c29 σ else none
theorem s181_94 {sc : aSc} (hv : vOk sc) (F : Nat) (y1 : Int32) (y2 : Int32) (y3 : Int32) (σ : St) : bEx sc 7 181 94 [some (.ref 1315), some (.int y1), some (.int y2), some (.int y3), none, none, none, none, none, none] [] σ (f181_94 F y1 y2 y3 σ) := by
  unfold f181_94
  refine b_run [(94, .iload_n 3, 0, 0, .null)] (pc' := 95) (ls' := [some (.ref 1315), some (.int y1), some (.int y2), some (.int y3), none, none, none, none, none, none]) (st' := [.int y3]) (by decide +kernel) rfl ?_
  refine b_izF (c := .ne) (o := 9) (t := 104) (y := 0) (w := .null) (by decide +kernel) cmp_ne (fun _ => ?_) (fun _ => ?_)
  · refine b_run [(98, .aload_n 0, 0, 0, .null), (99, .iconst 1, 0, 0, .null)] (pc' := 100) (ls' := [some (.ref 1315), some (.int y1), some (.int y2), some (.int y3), none, none, none, none, none, none]) (st' := [.int 1, .ref 1315]) (by decide +kernel) rfl ?_
    refine b_callI 172 2 [.ref 1315, .int 1] (rest := []) (by decide +kernel) rfl rfl rfl (go_O rfl (by decide +kernel) (by decide +kernel : isO 1315 9 = true)) rfl (s172 hv F 1 σ) (by decide) (fun c4 σ3 => ?_)
    exact b_ret (i := (.ireturn, 0, 0, .null)) (by decide +kernel) rfl rfl (fit_I _)
  · refine b_run [(104, .iload_n 2, 0, 0, .null), (105, .iconst 2, 0, 0, .null)] (pc' := 106) (ls' := [some (.ref 1315), some (.int y1), some (.int y2), some (.int y3), none, none, none, none, none, none]) (st' := [.int 2, .int y2]) (by decide +kernel) rfl ?_
    refine b_icF (c := .ge) (o := 14) (t := 120) (y := 0) (w := .null) (by decide +kernel) cmp_ge (fun _ => ?_) (fun _ => ?_)
    · refine b_run [(109, .aload_n 0, 0, 0, .null)] (pc' := 110) (ls' := [some (.ref 1315), some (.int y1), some (.int y2), some (.int y3), none, none, none, none, none, none]) (st' := [.ref 1315]) (by decide +kernel) rfl ?_
      refine b_getC (b := 1318) (q := 16) (ci := 9) (k := 5) (w := .null) (by decide +kernel) (by decide +kernel) ?_
      refine b_run [(113, .iload_n 1, 0, 0, .null)] (pc' := 114) (ls' := [some (.ref 1315), some (.int y1), some (.int y2), some (.int y3), none, none, none, none, none, none]) (st' := [.int y1, .ref 1318]) (by decide +kernel) rfl ?_
      refine b_guard (fun hb => ?_)
      refine b_aI (ci := 0) (y := 0) (w := .null) (by decide +kernel) (by decide +kernel) hb (fun c5 => ?_)
      refine b_run [(115, .iconst 1, 0, 0, .null), (116, .iadd, 0, 0, .null), (117, .goto 9, 126, 0, .null)] (pc' := 126) (ls' := [some (.ref 1315), some (.int y1), some (.int y2), some (.int y3), none, none, none, none, none, none]) (st' := [.int (c5 + 1)]) (by decide +kernel) rfl ?_
      exact b_wk (wS (wS (wS (wN (wN (wN (wN (wN (wN (wN w0)))))))))) (s181_126 hv F y1 y2 (c5 + 1) σ)
    · refine b_run [(120, .aload_n 0, 0, 0, .null)] (pc' := 121) (ls' := [some (.ref 1315), some (.int y1), some (.int y2), some (.int y3), none, none, none, none, none, none]) (st' := [.ref 1315]) (by decide +kernel) rfl ?_
      refine b_getC (b := 1318) (q := 16) (ci := 9) (k := 5) (w := .null) (by decide +kernel) (by decide +kernel) ?_
      refine b_run [(124, .iload_n 1, 0, 0, .null)] (pc' := 125) (ls' := [some (.ref 1315), some (.int y1), some (.int y2), some (.int y3), none, none, none, none, none, none]) (st' := [.int y1, .ref 1318]) (by decide +kernel) rfl ?_
      refine b_guard (fun hb => ?_)
      refine b_aI (ci := 0) (y := 0) (w := .null) (by decide +kernel) (by decide +kernel) hb (fun c29 => ?_)
      exact b_wk (wS (wS (wS (wN (wN (wN (wN (wN (wN (wN w0)))))))))) (s181_126 hv F y1 y2 c29 σ)
def f181_93 (F : Nat) (y1 : Int32) (y2 : Int32) (z0 : Int32) (σ : St) : Rs := f181_94 F y1 y2 z0 σ
theorem s181_93 {sc : aSc} (hv : vOk sc) (F : Nat) (y1 : Int32) (y2 : Int32) (z0 : Int32) (σ : St) : bEx sc 7 181 93 [some (.ref 1315), some (.int y1), some (.int y2), none, none, none, none, none, none, none] [.int z0] σ (f181_93 F y1 y2 z0 σ) := by
  unfold f181_93
  refine b_run [(93, .istore_n 3, 0, 0, .null)] (pc' := 94) (ls' := [some (.ref 1315), some (.int y1), some (.int y2), some (.int z0), none, none, none, none, none, none]) (st' := []) (by decide +kernel) rfl ?_
  exact b_wk (wS (wS (wS (wS (wN (wN (wN (wN (wN (wN w0)))))))))) (s181_94 hv F y1 y2 z0 σ)
def f181_92 (F : Nat) (y1 : Int32) (y2 : Int32) (σ : St) : Rs := f181_93 F y1 y2 0 σ
theorem s181_92 {sc : aSc} (hv : vOk sc) (F : Nat) (y1 : Int32) (y2 : Int32) (σ : St) : bEx sc 7 181 92 [some (.ref 1315), some (.int y1), some (.int y2), none, none, none, none, none, none, none] [] σ (f181_92 F y1 y2 σ) := by
  unfold f181_92
  refine b_run [(92, .iconst 0, 0, 0, .null)] (pc' := 93) (ls' := [some (.ref 1315), some (.int y1), some (.int y2), none, none, none, none, none, none, none]) (st' := [.int 0]) (by decide +kernel) rfl ?_
  exact b_wk (wS (wS (wS (wN (wN (wN (wN (wN (wN (wN w0)))))))))) (s181_93 hv F y1 y2 0 σ)
def f181_51 (F : Nat) (y1 : Int32) (y2 : Int32) (y3 : Int32) (σ : St) : Rs := if y3 = 0 then f181_94 F y1 y2 y3 σ
    else if inB y1 31 then lt (σ.1 1317 y1.toNatClampNeg) fun c30 => 
    if c30 = 0 then f181_92 F y1 y2 σ
    else if inB y1 31 then lt (σ.1 1317 y1.toNatClampNeg) fun c31 => 
    if c31 = 2 then f181_92 F y1 y2 σ
    else cI (f183 F y1 σ) fun c33 σ32 => 
    if inB c33 31 then lt (σ32.1 1317 c33.toNatClampNeg) fun c34 => 
    if c34 = 1 then f181_93 F y1 y2 1 σ32
    else f181_92 F y1 y2 σ32 else none else none else none
theorem s181_51 {sc : aSc} (hv : vOk sc) (F : Nat) (y1 : Int32) (y2 : Int32) (y3 : Int32) (σ : St) : bEx sc 7 181 51 [some (.ref 1315), some (.int y1), some (.int y2), some (.int y3), none, none, none, none, none, none] [] σ (f181_51 F y1 y2 y3 σ) := by
  unfold f181_51
  refine b_run [(51, .iload_n 3, 0, 0, .null)] (pc' := 52) (ls' := [some (.ref 1315), some (.int y1), some (.int y2), some (.int y3), none, none, none, none, none, none]) (st' := [.int y3]) (by decide +kernel) rfl ?_
  refine b_izT (c := .eq) (o := 42) (t := 94) (y := 0) (w := .null) (by decide +kernel) cmp_eq (fun _ => ?_) (fun _ => ?_)
  · exact b_wk (wS (wS (wS (wS (wN (wN (wN (wN (wN (wN w0)))))))))) (s181_94 hv F y1 y2 y3 σ)
  · refine b_run [(55, .aload_n 0, 0, 0, .null)] (pc' := 56) (ls' := [some (.ref 1315), some (.int y1), some (.int y2), some (.int y3), none, none, none, none, none, none]) (st' := [.ref 1315]) (by decide +kernel) rfl ?_
    refine b_getC (b := 1317) (q := 13) (ci := 9) (k := 4) (w := .null) (by decide +kernel) (by decide +kernel) ?_
    refine b_run [(59, .iload_n 1, 0, 0, .null)] (pc' := 60) (ls' := [some (.ref 1315), some (.int y1), some (.int y2), some (.int y3), none, none, none, none, none, none]) (st' := [.int y1, .ref 1317]) (by decide +kernel) rfl ?_
    refine b_guard (fun hb => ?_)
    refine b_aI (ci := 0) (y := 0) (w := .null) (by decide +kernel) (by decide +kernel) hb (fun c30 => ?_)
    refine b_izT (c := .eq) (o := 31) (t := 92) (y := 0) (w := .null) (by decide +kernel) cmp_eq (fun _ => ?_) (fun _ => ?_)
    · exact b_wk (wS (wS (wS (wN (wN (wN (wN (wN (wN (wN w0)))))))))) (s181_92 hv F y1 y2 σ)
    · refine b_run [(64, .aload_n 0, 0, 0, .null)] (pc' := 65) (ls' := [some (.ref 1315), some (.int y1), some (.int y2), some (.int y3), none, none, none, none, none, none]) (st' := [.ref 1315]) (by decide +kernel) rfl ?_
      refine b_getC (b := 1317) (q := 13) (ci := 9) (k := 4) (w := .null) (by decide +kernel) (by decide +kernel) ?_
      refine b_run [(68, .iload_n 1, 0, 0, .null)] (pc' := 69) (ls' := [some (.ref 1315), some (.int y1), some (.int y2), some (.int y3), none, none, none, none, none, none]) (st' := [.int y1, .ref 1317]) (by decide +kernel) rfl ?_
      refine b_guard (fun hb => ?_)
      refine b_aI (ci := 0) (y := 0) (w := .null) (by decide +kernel) (by decide +kernel) hb (fun c31 => ?_)
      refine b_run [(70, .iconst 2, 0, 0, .null)] (pc' := 71) (ls' := [some (.ref 1315), some (.int y1), some (.int y2), some (.int y3), none, none, none, none, none, none]) (st' := [.int 2, .int c31]) (by decide +kernel) rfl ?_
      refine b_icT (c := .eq) (o := 21) (t := 92) (y := 0) (w := .null) (by decide +kernel) cmp_eq (fun _ => ?_) (fun _ => ?_)
      · exact b_wk (wS (wS (wS (wN (wN (wN (wN (wN (wN (wN w0)))))))))) (s181_92 hv F y1 y2 σ)
      · refine b_run [(74, .aload_n 0, 0, 0, .null)] (pc' := 75) (ls' := [some (.ref 1315), some (.int y1), some (.int y2), some (.int y3), none, none, none, none, none, none]) (st' := [.ref 1315]) (by decide +kernel) rfl ?_
        refine b_getC (b := 1317) (q := 13) (ci := 9) (k := 4) (w := .null) (by decide +kernel) (by decide +kernel) ?_
        refine b_run [(78, .aload_n 0, 0, 0, .null), (79, .iload_n 1, 0, 0, .null)] (pc' := 80) (ls' := [some (.ref 1315), some (.int y1), some (.int y2), some (.int y3), none, none, none, none, none, none]) (st' := [.int y1, .ref 1315, .ref 1317]) (by decide +kernel) rfl ?_
        refine b_callI 183 2 [.ref 1315, .int y1] (rest := [.ref 1317]) (by decide +kernel) rfl rfl rfl (go_O rfl (by decide +kernel) (by decide +kernel : isO 1315 9 = true)) rfl (s183 hv F y1 σ) (by decide) (fun c33 σ32 => ?_)
        refine b_guard (fun hb => ?_)
        refine b_aI (ci := 0) (y := 0) (w := .null) (by decide +kernel) (by decide +kernel) hb (fun c34 => ?_)
        refine b_run [(84, .iconst 1, 0, 0, .null)] (pc' := 85) (ls' := [some (.ref 1315), some (.int y1), some (.int y2), some (.int y3), none, none, none, none, none, none]) (st' := [.int 1, .int c34]) (by decide +kernel) rfl ?_
        refine b_icF (c := .ne) (o := 7) (t := 92) (y := 0) (w := .null) (by decide +kernel) cmp_ne (fun _ => ?_) (fun _ => ?_)
        · refine b_run [(88, .iconst 1, 0, 0, .null), (89, .goto 4, 93, 0, .null)] (pc' := 93) (ls' := [some (.ref 1315), some (.int y1), some (.int y2), some (.int y3), none, none, none, none, none, none]) (st' := [.int 1]) (by decide +kernel) rfl ?_
          exact b_wk (wS (wS (wS (wN (wN (wN (wN (wN (wN (wN w0)))))))))) (s181_93 hv F y1 y2 1 σ32)
        · exact b_wk (wS (wS (wS (wN (wN (wN (wN (wN (wN (wN w0)))))))))) (s181_92 hv F y1 y2 σ32)
def f181_47 (F : Nat) (y1 : Int32) (y2 : Int32) (z0 : Int32) (σ : St) : Rs := f181_94 F y1 y2 z0 σ
theorem s181_47 {sc : aSc} (hv : vOk sc) (F : Nat) (y1 : Int32) (y2 : Int32) (z0 : Int32) (σ : St) : bEx sc 7 181 47 [some (.ref 1315), some (.int y1), some (.int y2), none, none, none, none, none, none, none] [.int z0] σ (f181_47 F y1 y2 z0 σ) := by
  unfold f181_47
  refine b_run [(47, .istore_n 3, 0, 0, .null), (48, .goto 46, 94, 0, .null)] (pc' := 94) (ls' := [some (.ref 1315), some (.int y1), some (.int y2), some (.int z0), none, none, none, none, none, none]) (st' := []) (by decide +kernel) rfl ?_
  exact b_wk (wS (wS (wS (wS (wN (wN (wN (wN (wN (wN w0)))))))))) (s181_94 hv F y1 y2 z0 σ)
def f181_22 (F : Nat) (y1 : Int32) (y2 : Int32) (z0 : Int32) (σ : St) : Rs := if z0 = 0 then f181_51 F y1 y2 z0 σ
    else if y2 < 2 then 
    if inB y1 31 then lt (σ.1 1317 y1.toNatClampNeg) fun c35 => 
    if c35 = 1 then f181_47 F y1 y2 1 σ
    else f181_47 F y1 y2 0 σ else none
    else f181_51 F y1 y2 z0 σ
theorem s181_22 {sc : aSc} (hv : vOk sc) (F : Nat) (y1 : Int32) (y2 : Int32) (z0 : Int32) (σ : St) : bEx sc 7 181 22 [some (.ref 1315), some (.int y1), some (.int y2), none, none, none, none, none, none, none] [.int z0] σ (f181_22 F y1 y2 z0 σ) := by
  unfold f181_22
  refine b_run [(22, .istore_n 3, 0, 0, .null), (23, .iload_n 3, 0, 0, .null)] (pc' := 24) (ls' := [some (.ref 1315), some (.int y1), some (.int y2), some (.int z0), none, none, none, none, none, none]) (st' := [.int z0]) (by decide +kernel) rfl ?_
  refine b_izT (c := .eq) (o := 27) (t := 51) (y := 0) (w := .null) (by decide +kernel) cmp_eq (fun _ => ?_) (fun _ => ?_)
  · exact b_wk (wS (wS (wS (wS (wN (wN (wN (wN (wN (wN w0)))))))))) (s181_51 hv F y1 y2 z0 σ)
  · refine b_run [(27, .iload_n 2, 0, 0, .null), (28, .iconst 2, 0, 0, .null)] (pc' := 29) (ls' := [some (.ref 1315), some (.int y1), some (.int y2), some (.int z0), none, none, none, none, none, none]) (st' := [.int 2, .int y2]) (by decide +kernel) rfl ?_
    refine b_icF (c := .ge) (o := 22) (t := 51) (y := 0) (w := .null) (by decide +kernel) cmp_ge (fun _ => ?_) (fun _ => ?_)
    · refine b_run [(32, .aload_n 0, 0, 0, .null)] (pc' := 33) (ls' := [some (.ref 1315), some (.int y1), some (.int y2), some (.int z0), none, none, none, none, none, none]) (st' := [.ref 1315]) (by decide +kernel) rfl ?_
      refine b_getC (b := 1317) (q := 13) (ci := 9) (k := 4) (w := .null) (by decide +kernel) (by decide +kernel) ?_
      refine b_run [(36, .iload_n 1, 0, 0, .null)] (pc' := 37) (ls' := [some (.ref 1315), some (.int y1), some (.int y2), some (.int z0), none, none, none, none, none, none]) (st' := [.int y1, .ref 1317]) (by decide +kernel) rfl ?_
      refine b_guard (fun hb => ?_)
      refine b_aI (ci := 0) (y := 0) (w := .null) (by decide +kernel) (by decide +kernel) hb (fun c35 => ?_)
      refine b_run [(38, .iconst 1, 0, 0, .null)] (pc' := 39) (ls' := [some (.ref 1315), some (.int y1), some (.int y2), some (.int z0), none, none, none, none, none, none]) (st' := [.int 1, .int c35]) (by decide +kernel) rfl ?_
      refine b_icF (c := .ne) (o := 7) (t := 46) (y := 0) (w := .null) (by decide +kernel) cmp_ne (fun _ => ?_) (fun _ => ?_)
      · refine b_run [(42, .iconst 1, 0, 0, .null), (43, .goto 4, 47, 0, .null)] (pc' := 47) (ls' := [some (.ref 1315), some (.int y1), some (.int y2), some (.int z0), none, none, none, none, none, none]) (st' := [.int 1]) (by decide +kernel) rfl ?_
        exact b_wk (wS (wS (wS (wN (wN (wN (wN (wN (wN (wN w0)))))))))) (s181_47 hv F y1 y2 1 σ)
      · refine b_run [(46, .iconst 0, 0, 0, .null)] (pc' := 47) (ls' := [some (.ref 1315), some (.int y1), some (.int y2), some (.int z0), none, none, none, none, none, none]) (st' := [.int 0]) (by decide +kernel) rfl ?_
        exact b_wk (wS (wS (wS (wN (wN (wN (wN (wN (wN (wN w0)))))))))) (s181_47 hv F y1 y2 0 σ)
    · exact b_wk (wS (wS (wS (wS (wN (wN (wN (wN (wN (wN w0)))))))))) (s181_51 hv F y1 y2 z0 σ)
def f181_21 (F : Nat) (y1 : Int32) (y2 : Int32) (σ : St) : Rs := f181_22 F y1 y2 0 σ
theorem s181_21 {sc : aSc} (hv : vOk sc) (F : Nat) (y1 : Int32) (y2 : Int32) (σ : St) : bEx sc 7 181 21 [some (.ref 1315), some (.int y1), some (.int y2), none, none, none, none, none, none, none] [] σ (f181_21 F y1 y2 σ) := by
  unfold f181_21
  refine b_run [(21, .iconst 0, 0, 0, .null)] (pc' := 22) (ls' := [some (.ref 1315), some (.int y1), some (.int y2), none, none, none, none, none, none, none]) (st' := [.int 0]) (by decide +kernel) rfl ?_
  exact b_wk (wS (wS (wS (wN (wN (wN (wN (wN (wN (wN w0)))))))))) (s181_22 hv F y1 y2 0 σ)
/-- TreeStoreModel.insert(II)I -/
def f181 (F : Nat) (x1 : Int32) (x2 : Int32) (σ : St) : Rs := cI (f182 F x1 σ) fun c2 σ1 => 
    if c2 = 0 then f181_21 F x1 x2 σ1
    else if x2 < 0 then f181_21 F x1 x2 σ1
    else if 3 < x2 then f181_21 F x1 x2 σ1
    else f181_22 F x1 x2 1 σ1
theorem s181 {sc : aSc} (hv : vOk sc) (F : Nat) (x1 : Int32) (x2 : Int32) (σ : St) : bEx sc 7 181 0 [some (.ref 1315), some (.int x1), some (.int x2), none, none, none, none, none, none, none] [] σ (f181 F x1 x2 σ) := by
  unfold f181
  refine b_run [(0, .aload_n 0, 0, 0, .null), (1, .iload_n 1, 0, 0, .null)] (pc' := 2) (ls' := [some (.ref 1315), some (.int x1), some (.int x2), none, none, none, none, none, none, none]) (st' := [.int x1, .ref 1315]) (by decide +kernel) rfl ?_
  refine b_callI 182 2 [.ref 1315, .int x1] (rest := []) (by decide +kernel) rfl rfl rfl (go_O rfl (by decide +kernel) (by decide +kernel : isO 1315 9 = true)) rfl (s182 hv F x1 σ) (by decide) (fun c2 σ1 => ?_)
  refine b_izT (c := .eq) (o := 16) (t := 21) (y := 0) (w := .null) (by decide +kernel) cmp_eq (fun _ => ?_) (fun _ => ?_)
  · exact b_wk (wS (wS (wS (wN (wN (wN (wN (wN (wN (wN w0)))))))))) (s181_21 hv F x1 x2 σ1)
  · refine b_run [(8, .iload_n 2, 0, 0, .null)] (pc' := 9) (ls' := [some (.ref 1315), some (.int x1), some (.int x2), none, none, none, none, none, none, none]) (st' := [.int x2]) (by decide +kernel) rfl ?_
    refine b_izT (c := .lt) (o := 12) (t := 21) (y := 0) (w := .null) (by decide +kernel) cmp_lt (fun _ => ?_) (fun _ => ?_)
    · exact b_wk (wS (wS (wS (wN (wN (wN (wN (wN (wN (wN w0)))))))))) (s181_21 hv F x1 x2 σ1)
    · refine b_run [(12, .iload_n 2, 0, 0, .null), (13, .iconst 3, 0, 0, .null)] (pc' := 14) (ls' := [some (.ref 1315), some (.int x1), some (.int x2), none, none, none, none, none, none, none]) (st' := [.int 3, .int x2]) (by decide +kernel) rfl ?_
      refine b_icT (c := .gt) (o := 7) (t := 21) (y := 0) (w := .null) (by decide +kernel) cmp_gt (fun _ => ?_) (fun _ => ?_)
      · exact b_wk (wS (wS (wS (wN (wN (wN (wN (wN (wN (wN w0)))))))))) (s181_21 hv F x1 x2 σ1)
      · refine b_run [(17, .iconst 1, 0, 0, .null), (18, .goto 4, 22, 0, .null)] (pc' := 22) (ls' := [some (.ref 1315), some (.int x1), some (.int x2), none, none, none, none, none, none, none]) (st' := [.int 1]) (by decide +kernel) rfl ?_
        exact b_wk (wS (wS (wS (wN (wN (wN (wN (wN (wN (wN w0)))))))))) (s181_22 hv F x1 x2 1 σ1)
def f186_104 (F : Nat) (k77 : Int32 → Int32 → Int32 → Int32 → St → Rs) (y1 : Int32) (y2 : Int32) (y3 : Int32) (y4 : Int32) (σ : St) : Rs := k77 y1 y2 y3 (y4 + 1) σ
theorem s186_104 {sc : aSc} (hv : vOk sc) (F : Nat) (k77 : Int32 → Int32 → Int32 → Int32 → St → Rs) (hk77 : ∀ y1 y2 y3 y4 σ, bEx sc 2 186 77 [some (.ref 1315), some (.int y1), some (.int y2), some (.int y3), some (.int y4)] [] σ (k77 y1 y2 y3 y4 σ)) (y1 : Int32) (y2 : Int32) (y3 : Int32) (y4 : Int32) (σ : St) : bEx sc 2 186 104 [some (.ref 1315), some (.int y1), some (.int y2), some (.int y3), some (.int y4)] [] σ (f186_104 F k77 y1 y2 y3 y4 σ) := by
  unfold f186_104
  refine b_run [(104, .iinc 4 1, 0, 0, .null), (107, .goto (-30), 77, 0, .null)] (pc' := 77) (ls' := [some (.ref 1315), some (.int y1), some (.int y2), some (.int y3), some (.int (y4 + 1))]) (st' := []) (by decide +kernel) rfl ?_
  exact b_wk (wS (wS (wS (wS (wS w0))))) (hk77 y1 y2 y3 (y4 + 1) σ)
def f186_98 (F : Nat) (k77 : Int32 → Int32 → Int32 → Int32 → St → Rs) (y1 : Int32) (y2 : Int32) (y3 : Int32) (y4 : Int32) (σ : St) : Rs := cV (f174 F y4 σ) fun σ22 => f186_104 F k77 y1 y2 y3 y4 σ22
theorem s186_98 {sc : aSc} (hv : vOk sc) (F : Nat) (k77 : Int32 → Int32 → Int32 → Int32 → St → Rs) (hk77 : ∀ y1 y2 y3 y4 σ, bEx sc 2 186 77 [some (.ref 1315), some (.int y1), some (.int y2), some (.int y3), some (.int y4)] [] σ (k77 y1 y2 y3 y4 σ)) (y1 : Int32) (y2 : Int32) (y3 : Int32) (y4 : Int32) (σ : St) : bEx sc 2 186 98 [some (.ref 1315), some (.int y1), some (.int y2), some (.int y3), some (.int y4)] [] σ (f186_98 F k77 y1 y2 y3 y4 σ) := by
  unfold f186_98
  refine b_run [(98, .aload_n 0, 0, 0, .null), (99, .iload 4, 0, 0, .null)] (pc' := 101) (ls' := [some (.ref 1315), some (.int y1), some (.int y2), some (.int y3), some (.int y4)]) (st' := [.int y4, .ref 1315]) (by decide +kernel) rfl ?_
  refine b_callV 174 2 [.ref 1315, .int y4] (rest := []) (by decide +kernel) rfl rfl rfl (go_O rfl (by decide +kernel) (by decide +kernel : isO 1315 9 = true)) rfl (s174 hv F y4 σ) (by decide) (fun σ22 => ?_)
  exact b_wk (wS (wS (wS (wS (wS w0))))) (s186_104 hv F k77 hk77 y1 y2 y3 y4 σ22)
def f186_77 (F : Nat) : Nat → Int32 → Int32 → Int32 → Int32 → St → Rs
  | 0, _, _, _, _, _ => none
  | n + 1, y1, y2, y3, y4, σ => lt (σ.1 1315 3) fun c21 => 
    if y4 < c21 then 
    if y4 < y1 then f186_98 F (f186_77 F n) y1 y2 y3 y4 σ
    else if y3 < y4 then f186_98 F (f186_77 F n) y1 y2 y3 y4 σ
    else f186_104 F (f186_77 F n) y1 y2 y3 y4 σ
    else cV (f178 F σ) fun σ24 => lt (σ24.1 1315 3) fun c26 => oI (y2 - c26) σ24
theorem s186_77 {sc : aSc} (hv : vOk sc) (F : Nat) : ∀ (n : Nat) (y1 : Int32) (y2 : Int32) (y3 : Int32) (y4 : Int32) (σ : St), bEx sc 2 186 77 [some (.ref 1315), some (.int y1), some (.int y2), some (.int y3), some (.int y4)] [] σ (f186_77 F n y1 y2 y3 y4 σ) := by
  intro n
  induction n with
  | zero => intro y1 y2 y3 y4 σ; exact b_none
  | succ n ih =>
    intro y1 y2 y3 y4 σ
    rw [f186_77.eq_2]
    refine b_run [(77, .iload 4, 0, 0, .null), (79, .aload_n 0, 0, 0, .null)] (pc' := 80) (ls' := [some (.ref 1315), some (.int y1), some (.int y2), some (.int y3), some (.int y4)]) (st' := [.ref 1315, .int y4]) (by decide +kernel) rfl ?_
    refine b_gI (q := 148) (ci := 9) (k := 3) (w := .null) (by decide +kernel) (by decide +kernel) (fun c21 => ?_)
    refine b_icF (c := .ge) (o := 27) (t := 110) (y := 0) (w := .null) (by decide +kernel) cmp_ge (fun _ => ?_) (fun _ => ?_)
    · refine b_run [(86, .iload 4, 0, 0, .null), (88, .iload_n 1, 0, 0, .null)] (pc' := 89) (ls' := [some (.ref 1315), some (.int y1), some (.int y2), some (.int y3), some (.int y4)]) (st' := [.int y1, .int y4]) (by decide +kernel) rfl ?_
      refine b_icT (c := .lt) (o := 9) (t := 98) (y := 0) (w := .null) (by decide +kernel) cmp_lt (fun _ => ?_) (fun _ => ?_)
      · exact b_wk (wS (wS (wS (wS (wS w0))))) (s186_98 hv F (f186_77 F n) ih y1 y2 y3 y4 σ)
      · refine b_run [(92, .iload 4, 0, 0, .null), (94, .iload_n 3, 0, 0, .null)] (pc' := 95) (ls' := [some (.ref 1315), some (.int y1), some (.int y2), some (.int y3), some (.int y4)]) (st' := [.int y3, .int y4]) (by decide +kernel) rfl ?_
        refine b_icF (c := .le) (o := 9) (t := 104) (y := 0) (w := .null) (by decide +kernel) cmp_le (fun _ => ?_) (fun _ => ?_)
        · exact b_wk (wS (wS (wS (wS (wS w0))))) (s186_98 hv F (f186_77 F n) ih y1 y2 y3 y4 σ)
        · exact b_wk (wS (wS (wS (wS (wS w0))))) (s186_104 hv F (f186_77 F n) ih y1 y2 y3 y4 σ)
    · refine b_run [(110, .aload_n 0, 0, 0, .null)] (pc' := 111) (ls' := [some (.ref 1315), some (.int y1), some (.int y2), some (.int y3), some (.int y4)]) (st' := [.ref 1315]) (by decide +kernel) rfl ?_
      refine b_callV 178 1 [.ref 1315] (rest := []) (by decide +kernel) rfl rfl rfl (go_O rfl (by decide +kernel) (by decide +kernel : isO 1315 9 = true)) rfl (s178 hv F σ) (by decide) (fun σ24 => ?_)
      refine b_run [(114, .iload_n 2, 0, 0, .null), (115, .aload_n 0, 0, 0, .null)] (pc' := 116) (ls' := [some (.ref 1315), some (.int y1), some (.int y2), some (.int y3), some (.int y4)]) (st' := [.ref 1315, .int y2]) (by decide +kernel) rfl ?_
      refine b_gI (q := 148) (ci := 9) (k := 3) (w := .null) (by decide +kernel) (by decide +kernel) (fun c26 => ?_)
      refine b_run [(119, .isub, 0, 0, .null)] (pc' := 120) (ls' := [some (.ref 1315), some (.int y1), some (.int y2), some (.int y3), some (.int y4)]) (st' := [.int (y2 - c26)]) (by decide +kernel) rfl ?_
      exact b_ret (i := (.ireturn, 0, 0, .null)) (by decide +kernel) rfl rfl (fit_I _)
def f186_52 (F : Nat) (y1 : Int32) (σ : St) : Rs := lt (uI σ 1315 0 0) fun σ14 => 
    lt (σ14.1 1315 3) fun c15 => cI (f185 F y1 σ14) fun c17 σ16 => lt (y1 + c17) fun c18 => cV (f173 F σ16) fun σ19 => f186_77 F F y1 c15 c18 0 σ19
theorem s186_52 {sc : aSc} (hv : vOk sc) (F : Nat) (y1 : Int32) (σ : St) : bEx sc 2 186 52 [some (.ref 1315), some (.int y1), none, none, none] [] σ (f186_52 F y1 σ) := by
  unfold f186_52
  refine b_run [(52, .aload_n 0, 0, 0, .null), (53, .iconst 0, 0, 0, .null)] (pc' := 54) (ls' := [some (.ref 1315), some (.int y1), none, none, none]) (st' := [.int 0, .ref 1315]) (by decide +kernel) rfl ?_
  refine b_pI (q := 152) (ci := 9) (k := 0) (w := .null) (by decide +kernel) (by decide +kernel) (fit_I _) (fun σ14 => ?_)
  refine b_run [(57, .aload_n 0, 0, 0, .null)] (pc' := 58) (ls' := [some (.ref 1315), some (.int y1), none, none, none]) (st' := [.ref 1315]) (by decide +kernel) rfl ?_
  refine b_gI (q := 148) (ci := 9) (k := 3) (w := .null) (by decide +kernel) (by decide +kernel) (fun c15 => ?_)
  refine b_run [(61, .istore_n 2, 0, 0, .null), (62, .iload_n 1, 0, 0, .null), (63, .aload_n 0, 0, 0, .null), (64, .iload_n 1, 0, 0, .null)] (pc' := 65) (ls' := [some (.ref 1315), some (.int y1), some (.int c15), none, none]) (st' := [.int y1, .ref 1315, .int y1]) (by decide +kernel) rfl ?_
  refine b_callI 185 2 [.ref 1315, .int y1] (rest := [.int y1]) (by decide +kernel) rfl rfl rfl (go_O rfl (by decide +kernel) (by decide +kernel : isO 1315 9 = true)) rfl (s185 hv F y1 σ14) (by decide) (fun c17 σ16 => ?_)
  refine b_run [(68, .iadd, 0, 0, .null), (69, .istore_n 3, 0, 0, .null)] (pc' := 70) (ls' := [some (.ref 1315), some (.int y1), some (.int c15), some (.int (y1 + c17)), none]) (st' := []) (by decide +kernel) rfl ?_
  refine b_let (y1 + c17) (L := fun c18 => [some (.ref 1315), some (.int y1), some (.int c15), some (.int c18), none]) (S := fun _ => []) (fun c18 => ?_)
  refine b_run [(70, .aload_n 0, 0, 0, .null)] (pc' := 71) (ls' := [some (.ref 1315), some (.int y1), some (.int c15), some (.int c18), none]) (st' := [.ref 1315]) (by decide +kernel) rfl ?_
  refine b_callV 173 1 [.ref 1315] (rest := []) (by decide +kernel) rfl rfl rfl (go_O rfl (by decide +kernel) (by decide +kernel : isO 1315 9 = true)) rfl (s173 hv F σ16) (by decide) (fun σ19 => ?_)
  refine b_run [(74, .iconst 0, 0, 0, .null), (75, .istore 4, 0, 0, .null)] (pc' := 77) (ls' := [some (.ref 1315), some (.int y1), some (.int c15), some (.int c18), some (.int 0)]) (st' := []) (by decide +kernel) rfl ?_
  exact b_wk (wS (wS (wS (wS (wS w0))))) (s186_77 hv F F y1 c15 c18 0 σ19)
/-- TreeStoreModel.delete(I)I -/
def f186 (F : Nat) (x1 : Int32) (σ : St) : Rs := cI (f182 F x1 σ) fun c2 σ1 => 
    if c2 = 0 then cI (f172 F 1 σ1) fun c4 σ3 => oI c4 σ3
    else if inB x1 31 then lt (σ1.1 1317 x1.toNatClampNeg) fun c5 => 
    if c5 = 0 then cI (f172 F 2 σ1) fun c7 σ6 => oI c7 σ6
    else if inB x1 31 then lt (σ1.1 1317 x1.toNatClampNeg) fun c8 => 
    if c8 = 1 then 
    cI (f183 F x1 σ1) fun c10 σ9 => 
    if inB c10 31 then lt (σ9.1 1317 c10.toNatClampNeg) fun c11 => 
    if c11 = 0 then cI (f172 F 2 σ9) fun c13 σ12 => oI c13 σ12
    else f186_52 F x1 σ9 else none
    else f186_52 F x1 σ1 else none else none
theorem s186 {sc : aSc} (hv : vOk sc) (F : Nat) (x1 : Int32) (σ : St) : bEx sc 2 186 0 [some (.ref 1315), some (.int x1), none, none, none] [] σ (f186 F x1 σ) := by
  unfold f186
  refine b_run [(0, .aload_n 0, 0, 0, .null), (1, .iload_n 1, 0, 0, .null)] (pc' := 2) (ls' := [some (.ref 1315), some (.int x1), none, none, none]) (st' := [.int x1, .ref 1315]) (by decide +kernel) rfl ?_
  refine b_callI 182 2 [.ref 1315, .int x1] (rest := []) (by decide +kernel) rfl rfl rfl (go_O rfl (by decide +kernel) (by decide +kernel : isO 1315 9 = true)) rfl (s182 hv F x1 σ) (by decide) (fun c2 σ1 => ?_)
  refine b_izF (c := .ne) (o := 9) (t := 14) (y := 0) (w := .null) (by decide +kernel) cmp_ne (fun _ => ?_) (fun _ => ?_)
  · refine b_run [(8, .aload_n 0, 0, 0, .null), (9, .iconst 1, 0, 0, .null)] (pc' := 10) (ls' := [some (.ref 1315), some (.int x1), none, none, none]) (st' := [.int 1, .ref 1315]) (by decide +kernel) rfl ?_
    refine b_callI 172 2 [.ref 1315, .int 1] (rest := []) (by decide +kernel) rfl rfl rfl (go_O rfl (by decide +kernel) (by decide +kernel : isO 1315 9 = true)) rfl (s172 hv F 1 σ1) (by decide) (fun c4 σ3 => ?_)
    exact b_ret (i := (.ireturn, 0, 0, .null)) (by decide +kernel) rfl rfl (fit_I _)
  · refine b_run [(14, .aload_n 0, 0, 0, .null)] (pc' := 15) (ls' := [some (.ref 1315), some (.int x1), none, none, none]) (st' := [.ref 1315]) (by decide +kernel) rfl ?_
    refine b_getC (b := 1317) (q := 13) (ci := 9) (k := 4) (w := .null) (by decide +kernel) (by decide +kernel) ?_
    refine b_run [(18, .iload_n 1, 0, 0, .null)] (pc' := 19) (ls' := [some (.ref 1315), some (.int x1), none, none, none]) (st' := [.int x1, .ref 1317]) (by decide +kernel) rfl ?_
    refine b_guard (fun hb => ?_)
    refine b_aI (ci := 0) (y := 0) (w := .null) (by decide +kernel) (by decide +kernel) hb (fun c5 => ?_)
    refine b_izT (c := .eq) (o := 26) (t := 46) (y := 0) (w := .null) (by decide +kernel) cmp_eq (fun _ => ?_) (fun _ => ?_)
    · refine b_run [(46, .aload_n 0, 0, 0, .null), (47, .iconst 2, 0, 0, .null)] (pc' := 48) (ls' := [some (.ref 1315), some (.int x1), none, none, none]) (st' := [.int 2, .ref 1315]) (by decide +kernel) rfl ?_
      refine b_callI 172 2 [.ref 1315, .int 2] (rest := []) (by decide +kernel) rfl rfl rfl (go_O rfl (by decide +kernel) (by decide +kernel : isO 1315 9 = true)) rfl (s172 hv F 2 σ1) (by decide) (fun c7 σ6 => ?_)
      exact b_ret (i := (.ireturn, 0, 0, .null)) (by decide +kernel) rfl rfl (fit_I _)
    · refine b_run [(23, .aload_n 0, 0, 0, .null)] (pc' := 24) (ls' := [some (.ref 1315), some (.int x1), none, none, none]) (st' := [.ref 1315]) (by decide +kernel) rfl ?_
      refine b_getC (b := 1317) (q := 13) (ci := 9) (k := 4) (w := .null) (by decide +kernel) (by decide +kernel) ?_
      refine b_run [(27, .iload_n 1, 0, 0, .null)] (pc' := 28) (ls' := [some (.ref 1315), some (.int x1), none, none, none]) (st' := [.int x1, .ref 1317]) (by decide +kernel) rfl ?_
      refine b_guard (fun hb => ?_)
      refine b_aI (ci := 0) (y := 0) (w := .null) (by decide +kernel) (by decide +kernel) hb (fun c8 => ?_)
      refine b_run [(29, .iconst 1, 0, 0, .null)] (pc' := 30) (ls' := [some (.ref 1315), some (.int x1), none, none, none]) (st' := [.int 1, .int c8]) (by decide +kernel) rfl ?_
      refine b_icF (c := .ne) (o := 22) (t := 52) (y := 0) (w := .null) (by decide +kernel) cmp_ne (fun _ => ?_) (fun _ => ?_)
      · refine b_run [(33, .aload_n 0, 0, 0, .null)] (pc' := 34) (ls' := [some (.ref 1315), some (.int x1), none, none, none]) (st' := [.ref 1315]) (by decide +kernel) rfl ?_
        refine b_getC (b := 1317) (q := 13) (ci := 9) (k := 4) (w := .null) (by decide +kernel) (by decide +kernel) ?_
        refine b_run [(37, .aload_n 0, 0, 0, .null), (38, .iload_n 1, 0, 0, .null)] (pc' := 39) (ls' := [some (.ref 1315), some (.int x1), none, none, none]) (st' := [.int x1, .ref 1315, .ref 1317]) (by decide +kernel) rfl ?_
        refine b_callI 183 2 [.ref 1315, .int x1] (rest := [.ref 1317]) (by decide +kernel) rfl rfl rfl (go_O rfl (by decide +kernel) (by decide +kernel : isO 1315 9 = true)) rfl (s183 hv F x1 σ1) (by decide) (fun c10 σ9 => ?_)
        refine b_guard (fun hb => ?_)
        refine b_aI (ci := 0) (y := 0) (w := .null) (by decide +kernel) (by decide +kernel) hb (fun c11 => ?_)
        refine b_izF (c := .ne) (o := 9) (t := 52) (y := 0) (w := .null) (by decide +kernel) cmp_ne (fun _ => ?_) (fun _ => ?_)
        · refine b_run [(46, .aload_n 0, 0, 0, .null), (47, .iconst 2, 0, 0, .null)] (pc' := 48) (ls' := [some (.ref 1315), some (.int x1), none, none, none]) (st' := [.int 2, .ref 1315]) (by decide +kernel) rfl ?_
          refine b_callI 172 2 [.ref 1315, .int 2] (rest := []) (by decide +kernel) rfl rfl rfl (go_O rfl (by decide +kernel) (by decide +kernel : isO 1315 9 = true)) rfl (s172 hv F 2 σ9) (by decide) (fun c13 σ12 => ?_)
          exact b_ret (i := (.ireturn, 0, 0, .null)) (by decide +kernel) rfl rfl (fit_I _)
        · exact b_wk (wS (wS (wN (wN (wN w0))))) (s186_52 hv F x1 σ9)
      · exact b_wk (wS (wS (wN (wN (wN w0))))) (s186_52 hv F x1 σ1)
def f188_60 (F : Nat) (k21 : Int32 → Int32 → Int32 → St → Rs) (y1 : Int32) (y3 : Int32) (z0 : Int32) (σ : St) : Rs := k21 y1 z0 (y3 + 1) σ
theorem s188_60 {sc : aSc} (hv : vOk sc) (F : Nat) (k21 : Int32 → Int32 → Int32 → St → Rs) (hk21 : ∀ y1 y2 y3 σ, bEx sc 0 188 21 [some (.ref 1315), some (.int y1), some (.int y2), some (.int y3)] [] σ (k21 y1 y2 y3 σ)) (y1 : Int32) (y3 : Int32) (z0 : Int32) (σ : St) : bEx sc 0 188 60 [some (.ref 1315), some (.int y1), none, some (.int y3)] [.int z0] σ (f188_60 F k21 y1 y3 z0 σ) := by
  unfold f188_60
  refine b_run [(60, .istore_n 2, 0, 0, .null), (61, .iinc 3 1, 0, 0, .null), (64, .goto (-43), 21, 0, .null)] (pc' := 21) (ls' := [some (.ref 1315), some (.int y1), some (.int z0), some (.int (y3 + 1))]) (st' := []) (by decide +kernel) rfl ?_
  exact b_wk (wS (wS (wS (wS w0)))) (hk21 y1 z0 (y3 + 1) σ)
def f188_21 (F : Nat) : Nat → Int32 → Int32 → Int32 → St → Rs
  | 0, _, _, _, _ => none
  | n + 1, y1, y2, y3, σ => lt (σ.1 1315 1) fun c3 => 
    if y3 < c3 then 
    if y2 = 0 then if y2 = 0 ∨ y2 = 1 then oI y2 σ else none
    else if inB y1 31 then lt (σ.1 1319 y1.toNatClampNeg) fun c4 => 
    if inB (c4 + y3) 4300 then lt (σ.1 1323 (c4 + y3).toNatClampNeg) fun c5 => 
    if inB y3 122 then lt (σ.1 1316 y3.toNatClampNeg) fun c6 => 
    if c5 = c6 then f188_60 F (f188_21 F n) y1 y3 1 σ
    else f188_60 F (f188_21 F n) y1 y3 0 σ else none else none else none
    else if y2 = 0 ∨ y2 = 1 then oI y2 σ else none
theorem s188_21 {sc : aSc} (hv : vOk sc) (F : Nat) : ∀ (n : Nat) (y1 : Int32) (y2 : Int32) (y3 : Int32) (σ : St), bEx sc 0 188 21 [some (.ref 1315), some (.int y1), some (.int y2), some (.int y3)] [] σ (f188_21 F n y1 y2 y3 σ) := by
  intro n
  induction n with
  | zero => intro y1 y2 y3 σ; exact b_none
  | succ n ih =>
    intro y1 y2 y3 σ
    rw [f188_21.eq_2]
    refine b_run [(21, .iload_n 3, 0, 0, .null), (22, .aload_n 0, 0, 0, .null)] (pc' := 23) (ls' := [some (.ref 1315), some (.int y1), some (.int y2), some (.int y3)]) (st' := [.ref 1315, .int y3]) (by decide +kernel) rfl ?_
    refine b_gI (q := 155) (ci := 9) (k := 1) (w := .null) (by decide +kernel) (by decide +kernel) (fun c3 => ?_)
    refine b_icF (c := .ge) (o := 41) (t := 67) (y := 0) (w := .null) (by decide +kernel) cmp_ge (fun _ => ?_) (fun _ => ?_)
    · refine b_run [(29, .iload_n 2, 0, 0, .null)] (pc' := 30) (ls' := [some (.ref 1315), some (.int y1), some (.int y2), some (.int y3)]) (st' := [.int y2]) (by decide +kernel) rfl ?_
      refine b_izT (c := .eq) (o := 37) (t := 67) (y := 0) (w := .null) (by decide +kernel) cmp_eq (fun _ => ?_) (fun _ => ?_)
      · refine b_run [(67, .iload_n 2, 0, 0, .null)] (pc' := 68) (ls' := [some (.ref 1315), some (.int y1), some (.int y2), some (.int y3)]) (st' := [.int y2]) (by decide +kernel) rfl ?_
        exact b_guard (fun hz => b_ret (i := (.ireturn, 0, 0, .null)) (by decide +kernel) rfl rfl (fit_Z hz))
      · refine b_run [(33, .aload_n 0, 0, 0, .null)] (pc' := 34) (ls' := [some (.ref 1315), some (.int y1), some (.int y2), some (.int y3)]) (st' := [.ref 1315]) (by decide +kernel) rfl ?_
        refine b_getC (b := 1323) (q := 31) (ci := 9) (k := 10) (w := .null) (by decide +kernel) (by decide +kernel) ?_
        refine b_run [(37, .aload_n 0, 0, 0, .null)] (pc' := 38) (ls' := [some (.ref 1315), some (.int y1), some (.int y2), some (.int y3)]) (st' := [.ref 1315, .ref 1323]) (by decide +kernel) rfl ?_
        refine b_getC (b := 1319) (q := 19) (ci := 9) (k := 6) (w := .null) (by decide +kernel) (by decide +kernel) ?_
        refine b_run [(41, .iload_n 1, 0, 0, .null)] (pc' := 42) (ls' := [some (.ref 1315), some (.int y1), some (.int y2), some (.int y3)]) (st' := [.int y1, .ref 1319, .ref 1323]) (by decide +kernel) rfl ?_
        refine b_guard (fun hb => ?_)
        refine b_aI (ci := 0) (y := 0) (w := .null) (by decide +kernel) (by decide +kernel) hb (fun c4 => ?_)
        refine b_run [(43, .iload_n 3, 0, 0, .null), (44, .iadd, 0, 0, .null)] (pc' := 45) (ls' := [some (.ref 1315), some (.int y1), some (.int y2), some (.int y3)]) (st' := [.int (c4 + y3), .ref 1323]) (by decide +kernel) rfl ?_
        refine b_guard (fun hb => ?_)
        refine b_aC (ci := 0) (y := 0) (w := .null) (by decide +kernel) (by decide +kernel) hb (fun c5 => ?_)
        refine b_run [(46, .aload_n 0, 0, 0, .null)] (pc' := 47) (ls' := [some (.ref 1315), some (.int y1), some (.int y2), some (.int y3)]) (st' := [.ref 1315, .int c5]) (by decide +kernel) rfl ?_
        refine b_getC (b := 1316) (q := 7) (ci := 9) (k := 2) (w := .null) (by decide +kernel) (by decide +kernel) ?_
        refine b_run [(50, .iload_n 3, 0, 0, .null)] (pc' := 51) (ls' := [some (.ref 1315), some (.int y1), some (.int y2), some (.int y3)]) (st' := [.int y3, .ref 1316, .int c5]) (by decide +kernel) rfl ?_
        refine b_guard (fun hb => ?_)
        refine b_aI (ci := 0) (y := 0) (w := .null) (by decide +kernel) (by decide +kernel) hb (fun c6 => ?_)
        refine b_icF (c := .ne) (o := 7) (t := 59) (y := 0) (w := .null) (by decide +kernel) cmp_ne (fun _ => ?_) (fun _ => ?_)
        · refine b_run [(55, .iconst 1, 0, 0, .null), (56, .goto 4, 60, 0, .null)] (pc' := 60) (ls' := [some (.ref 1315), some (.int y1), some (.int y2), some (.int y3)]) (st' := [.int 1]) (by decide +kernel) rfl ?_
          exact b_wk (wS (wS (wN (wS w0)))) (s188_60 hv F (f188_21 F n) ih y1 y3 1 σ)
        · refine b_run [(59, .iconst 0, 0, 0, .null)] (pc' := 60) (ls' := [some (.ref 1315), some (.int y1), some (.int y2), some (.int y3)]) (st' := [.int 0]) (by decide +kernel) rfl ?_
          exact b_wk (wS (wS (wN (wS w0)))) (s188_60 hv F (f188_21 F n) ih y1 y3 0 σ)
    · refine b_run [(67, .iload_n 2, 0, 0, .null)] (pc' := 68) (ls' := [some (.ref 1315), some (.int y1), some (.int y2), some (.int y3)]) (st' := [.int y2]) (by decide +kernel) rfl ?_
      exact b_guard (fun hz => b_ret (i := (.ireturn, 0, 0, .null)) (by decide +kernel) rfl rfl (fit_Z hz))
