/-- TreeStore.isTakenByAnother(I)Z -/
def f29 (F : Nat) (x1 : Int32) (σ : St) : Rs := if inB x1 30 then lt (σ.1 1004 x1.toNatClampNeg) fun c1 => 
    if c1 = 2 then if inB x1 30 then lt (σ.1 1008 x1.toNatClampNeg) fun c2 => f29_29 F F x1 c2 (c2 + 1) σ else none
    else oI 0 σ else none
theorem s29 {sc : aSc} (hv : vOk sc) (F : Nat) (x1 : Int32) (σ : St) : bEx sc 2 29 0 [some (.ref 1000), some (.int x1), none, none] [] σ (f29 F x1 σ) := by
  unfold f29
  refine b_run [(0, .aload_n 0, 0, 0, .null)] (pc' := 1) (ls' := [some (.ref 1000), some (.int x1), none, none]) (st' := [.ref 1000]) (by decide +kernel) rfl ?_
  refine b_getC (b := 1003) (q := 21) (ci := 0) (k := 1) (w := .null) (by decide +kernel) (by decide +kernel) ?_
  refine b_getC (b := 1004) (q := 139) (ci := 8) (k := 0) (w := .null) (by decide +kernel) (by decide +kernel) ?_
  refine b_run [(7, .iload_n 1, 0, 0, .null)] (pc' := 8) (ls' := [some (.ref 1000), some (.int x1), none, none]) (st' := [.int x1, .ref 1004]) (by decide +kernel) rfl ?_
  refine b_guard (fun hb => ?_)
  refine b_aI (ci := 0) (y := 0) (w := .null) (by decide +kernel) (by decide +kernel) hb (fun c1 => ?_)
  refine b_run [(9, .iconst 2, 0, 0, .null)] (pc' := 10) (ls' := [some (.ref 1000), some (.int x1), none, none]) (st' := [.int 2, .int c1]) (by decide +kernel) rfl ?_
  refine b_icT (c := .eq) (o := 5) (t := 15) (y := 0) (w := .null) (by decide +kernel) cmp_eq (fun _ => ?_) (fun _ => ?_)
  · refine b_run [(15, .aload_n 0, 0, 0, .null)] (pc' := 16) (ls' := [some (.ref 1000), some (.int x1), none, none]) (st' := [.ref 1000]) (by decide +kernel) rfl ?_
    refine b_getC (b := 1003) (q := 21) (ci := 0) (k := 1) (w := .null) (by decide +kernel) (by decide +kernel) ?_
    refine b_getC (b := 1008) (q := 142) (ci := 8) (k := 4) (w := .null) (by decide +kernel) (by decide +kernel) ?_
    refine b_run [(22, .iload_n 1, 0, 0, .null)] (pc' := 23) (ls' := [some (.ref 1000), some (.int x1), none, none]) (st' := [.int x1, .ref 1008]) (by decide +kernel) rfl ?_
    refine b_guard (fun hb => ?_)
    refine b_aI (ci := 0) (y := 0) (w := .null) (by decide +kernel) (by decide +kernel) hb (fun c2 => ?_)
    refine b_run [(24, .istore_n 2, 0, 0, .null), (25, .iload_n 2, 0, 0, .null), (26, .iconst 1, 0, 0, .null), (27, .iadd, 0, 0, .null), (28, .istore_n 3, 0, 0, .null)] (pc' := 29) (ls' := [some (.ref 1000), some (.int x1), some (.int c2), some (.int (c2 + 1))]) (st' := []) (by decide +kernel) rfl ?_
    exact b_wk (wS (wS (wS (wS w0)))) (s29_29 hv F F x1 c2 (c2 + 1) σ)
  · refine b_run [(13, .iconst 0, 0, 0, .null)] (pc' := 14) (ls' := [some (.ref 1000), some (.int x1), none, none]) (st' := [.int 0]) (by decide +kernel) rfl ?_
    exact b_ret (i := (.ireturn, 0, 0, .null)) (by decide +kernel) rfl rfl (by decide +kernel)
def f28_57 (F : Nat) (y1 : Int32) (σ : St) : Rs := cI (f96 F 1001 0 σ) fun c5 σ4 => 
    if c5 = 0 then oT 10 σ4
    else lt (σ4.1 1001 1) fun c6 => 
    if c5 = c6 then 
    cI (f29 F y1 σ4) fun c8 σ7 => 
    if c8 = 0 then 
    cI (f89 F 1014 c5 σ7) fun c10 σ9 => 
    if c10 = 0 then oT 11 σ9
    else cV (f142 F 1003 y1 1001 σ9) fun σ11 => cV (f91 F 1001 σ11) fun σ13 => lt (uI σ13 1000 7 0) fun σ15 => oI c5 σ15
    else oT 10 σ7
    else oT 10 σ4
theorem s28_57 {sc : aSc} (hv : vOk sc) (F : Nat) (y1 : Int32) (σ : St) : bEx sc 3 28 57 [some (.ref 1000), some (.int y1), none] [] σ (f28_57 F y1 σ) := by
  unfold f28_57
  refine b_run [(57, .aload_n 0, 0, 0, .null)] (pc' := 58) (ls' := [some (.ref 1000), some (.int y1), none]) (st' := [.ref 1000]) (by decide +kernel) rfl ?_
  refine b_getC (b := 1001) (q := 14) (ci := 0) (k := 0) (w := .null) (by decide +kernel) (by decide +kernel) ?_
  refine b_run [(61, .iconst 0, 0, 0, .null)] (pc' := 62) (ls' := [some (.ref 1000), some (.int y1), none]) (st' := [.int 0, .ref 1001]) (by decide +kernel) rfl ?_
  refine b_callI 96 2 [.ref 1001, .int 0] (rest := []) (by decide +kernel) rfl rfl rfl (go_O rfl (by decide +kernel) (by decide +kernel : isO 1001 5 = true)) rfl (s96 hv F 1001 0 σ (by decide +kernel : isO 1001 5 = true)) (by decide) (fun c5 σ4 => ?_)
  refine b_run [(65, .istore_n 2, 0, 0, .null), (66, .iload_n 2, 0, 0, .null)] (pc' := 67) (ls' := [some (.ref 1000), some (.int y1), some (.int c5)]) (st' := [.int c5]) (by decide +kernel) rfl ?_
  refine b_izT (c := .eq) (o := 22) (t := 89) (y := 0) (w := .null) (by decide +kernel) cmp_eq (fun _ => ?_) (fun _ => ?_)
  · exact b_thr (i := (.new 165, 10, 1, .null)) (by decide +kernel) rfl rfl rfl
  · refine b_run [(70, .iload_n 2, 0, 0, .null), (71, .aload_n 0, 0, 0, .null)] (pc' := 72) (ls' := [some (.ref 1000), some (.int y1), some (.int c5)]) (st' := [.ref 1000, .int c5]) (by decide +kernel) rfl ?_
    refine b_getC (b := 1001) (q := 14) (ci := 0) (k := 0) (w := .null) (by decide +kernel) (by decide +kernel) ?_
    refine b_gI (q := 159) (ci := 5) (k := 1) (w := .null) (by decide +kernel) (by decide +kernel) (fun c6 => ?_)
    refine b_icF (c := .ne) (o := 11) (t := 89) (y := 0) (w := .null) (by decide +kernel) cmp_ne (fun _ => ?_) (fun _ => ?_)
    · refine b_run [(81, .aload_n 0, 0, 0, .null), (82, .iload_n 1, 0, 0, .null)] (pc' := 83) (ls' := [some (.ref 1000), some (.int y1), some (.int c5)]) (st' := [.int y1, .ref 1000]) (by decide +kernel) rfl ?_
      refine b_callI 29 2 [.ref 1000, .int y1] (rest := []) (by decide +kernel) rfl rfl rfl (go_O rfl (by decide +kernel) (by decide +kernel : isO 1000 0 = true)) rfl (s29 hv F y1 σ4) (by decide) (fun c8 σ7 => ?_)
      refine b_izT (c := .eq) (o := 13) (t := 99) (y := 0) (w := .null) (by decide +kernel) cmp_eq (fun _ => ?_) (fun _ => ?_)
      · refine b_run [(99, .aload_n 0, 0, 0, .null)] (pc' := 100) (ls' := [some (.ref 1000), some (.int y1), some (.int c5)]) (st' := [.ref 1000]) (by decide +kernel) rfl ?_
        refine b_getC (b := 1003) (q := 21) (ci := 0) (k := 1) (w := .null) (by decide +kernel) (by decide +kernel) ?_
        refine b_getC (b := 1014) (q := 170) (ci := 8) (k := 9) (w := .null) (by decide +kernel) (by decide +kernel) ?_
        refine b_run [(106, .iload_n 2, 0, 0, .null)] (pc' := 107) (ls' := [some (.ref 1000), some (.int y1), some (.int c5)]) (st' := [.int c5, .ref 1014]) (by decide +kernel) rfl ?_
        refine b_callI 89 2 [.ref 1014, .int c5] (rest := []) (by decide +kernel) rfl rfl rfl (go_O rfl (by decide +kernel) (by decide +kernel : isO 1014 5 = true)) rfl (s89 hv F 1014 c5 σ7 (by decide +kernel : isO 1014 5 = true)) (by decide) (fun c10 σ9 => ?_)
        refine b_izF (c := .ne) (o := 13) (t := 123) (y := 0) (w := .null) (by decide +kernel) cmp_ne (fun _ => ?_) (fun _ => ?_)
        · exact b_thr (i := (.new 122, 11, 1, .null)) (by decide +kernel) rfl rfl rfl
        · refine b_run [(123, .aload_n 0, 0, 0, .null)] (pc' := 124) (ls' := [some (.ref 1000), some (.int y1), some (.int c5)]) (st' := [.ref 1000]) (by decide +kernel) rfl ?_
          refine b_getC (b := 1003) (q := 21) (ci := 0) (k := 1) (w := .null) (by decide +kernel) (by decide +kernel) ?_
          refine b_run [(127, .iload_n 1, 0, 0, .null), (128, .aload_n 0, 0, 0, .null)] (pc' := 129) (ls' := [some (.ref 1000), some (.int y1), some (.int c5)]) (st' := [.ref 1000, .int y1, .ref 1003]) (by decide +kernel) rfl ?_
          refine b_getC (b := 1001) (q := 14) (ci := 0) (k := 0) (w := .null) (by decide +kernel) (by decide +kernel) ?_
          refine b_callV 142 3 [.ref 1003, .int y1, .ref 1001] (rest := []) (by decide +kernel) rfl rfl rfl (go_O rfl (by decide +kernel) (by decide +kernel : isO 1003 8 = true)) rfl (s142 hv F 1003 y1 1001 σ9 (by decide +kernel : isO 1003 8 = true) (by decide +kernel : isO 1001 5 = true)) (by decide) (fun σ11 => ?_)
          refine b_run [(135, .aload_n 0, 0, 0, .null)] (pc' := 136) (ls' := [some (.ref 1000), some (.int y1), some (.int c5)]) (st' := [.ref 1000]) (by decide +kernel) rfl ?_
          refine b_getC (b := 1001) (q := 14) (ci := 0) (k := 0) (w := .null) (by decide +kernel) (by decide +kernel) ?_
          refine b_callV 91 1 [.ref 1001] (rest := []) (by decide +kernel) rfl rfl rfl (go_O rfl (by decide +kernel) (by decide +kernel : isO 1001 5 = true)) rfl (s91 hv F 1001 σ11 (by decide +kernel : isO 1001 5 = true)) (by decide) (fun σ13 => ?_)
          refine b_run [(142, .aload_n 0, 0, 0, .null), (143, .iconst 0, 0, 0, .null)] (pc' := 144) (ls' := [some (.ref 1000), some (.int y1), some (.int c5)]) (st' := [.int 0, .ref 1000]) (by decide +kernel) rfl ?_
          refine b_pI (q := 62) (ci := 0) (k := 7) (w := .null) (by decide +kernel) (by decide +kernel) (fit_I _) (fun σ15 => ?_)
          refine b_run [(147, .iload_n 2, 0, 0, .null)] (pc' := 148) (ls' := [some (.ref 1000), some (.int y1), some (.int c5)]) (st' := [.int c5]) (by decide +kernel) rfl ?_
          exact b_ret (i := (.ireturn, 0, 0, .null)) (by decide +kernel) rfl rfl (fit_I _)
      · exact b_thr (i := (.new 165, 10, 1, .null)) (by decide +kernel) rfl rfl rfl
    · exact b_thr (i := (.new 165, 10, 1, .null)) (by decide +kernel) rfl rfl rfl
/-- TreeStore.rename(I)I -/
def f28 (F : Nat) (x1 : Int32) (σ : St) : Rs := cI (f128 F 1003 x1 σ) fun c2 σ1 => 
    if c2 = 0 then oT 12 σ1
    else if inB x1 30 then lt (σ1.1 1004 x1.toNatClampNeg) fun c3 => 
    if c3 = 1 then f28_57 F x1 σ1
    else if inB x1 30 then lt (σ1.1 1004 x1.toNatClampNeg) fun c16 => 
    if c16 = 2 then f28_57 F x1 σ1
    else oT 11 σ1 else none else none
theorem s28 {sc : aSc} (hv : vOk sc) (F : Nat) (x1 : Int32) (σ : St) : bEx sc 3 28 0 [some (.ref 1000), some (.int x1), none] [] σ (f28 F x1 σ) := by
  unfold f28
  refine b_run [(0, .aload_n 0, 0, 0, .null)] (pc' := 1) (ls' := [some (.ref 1000), some (.int x1), none]) (st' := [.ref 1000]) (by decide +kernel) rfl ?_
  refine b_getC (b := 1003) (q := 21) (ci := 0) (k := 1) (w := .null) (by decide +kernel) (by decide +kernel) ?_
  refine b_run [(4, .iload_n 1, 0, 0, .null)] (pc' := 5) (ls' := [some (.ref 1000), some (.int x1), none]) (st' := [.int x1, .ref 1003]) (by decide +kernel) rfl ?_
  refine b_callI 128 2 [.ref 1003, .int x1] (rest := []) (by decide +kernel) rfl rfl rfl (go_O rfl (by decide +kernel) (by decide +kernel : isO 1003 8 = true)) rfl (s128 hv F 1003 x1 σ (by decide +kernel : isO 1003 8 = true)) (by decide) (fun c2 σ1 => ?_)
  refine b_izF (c := .ne) (o := 13) (t := 21) (y := 0) (w := .null) (by decide +kernel) cmp_ne (fun _ => ?_) (fun _ => ?_)
  · exact b_thr (i := (.new 104, 12, 1, .null)) (by decide +kernel) rfl rfl rfl
  · refine b_run [(21, .aload_n 0, 0, 0, .null)] (pc' := 22) (ls' := [some (.ref 1000), some (.int x1), none]) (st' := [.ref 1000]) (by decide +kernel) rfl ?_
    refine b_getC (b := 1003) (q := 21) (ci := 0) (k := 1) (w := .null) (by decide +kernel) (by decide +kernel) ?_
    refine b_getC (b := 1004) (q := 139) (ci := 8) (k := 0) (w := .null) (by decide +kernel) (by decide +kernel) ?_
    refine b_run [(28, .iload_n 1, 0, 0, .null)] (pc' := 29) (ls' := [some (.ref 1000), some (.int x1), none]) (st' := [.int x1, .ref 1004]) (by decide +kernel) rfl ?_
    refine b_guard (fun hb => ?_)
    refine b_aI (ci := 0) (y := 0) (w := .null) (by decide +kernel) (by decide +kernel) hb (fun c3 => ?_)
    refine b_run [(30, .iconst 1, 0, 0, .null)] (pc' := 31) (ls' := [some (.ref 1000), some (.int x1), none]) (st' := [.int 1, .int c3]) (by decide +kernel) rfl ?_
    refine b_icT (c := .eq) (o := 26) (t := 57) (y := 0) (w := .null) (by decide +kernel) cmp_eq (fun _ => ?_) (fun _ => ?_)
    · exact b_wk (wS (wS (wN w0))) (s28_57 hv F x1 σ1)
    · refine b_run [(34, .aload_n 0, 0, 0, .null)] (pc' := 35) (ls' := [some (.ref 1000), some (.int x1), none]) (st' := [.ref 1000]) (by decide +kernel) rfl ?_
      refine b_getC (b := 1003) (q := 21) (ci := 0) (k := 1) (w := .null) (by decide +kernel) (by decide +kernel) ?_
      refine b_getC (b := 1004) (q := 139) (ci := 8) (k := 0) (w := .null) (by decide +kernel) (by decide +kernel) ?_
      refine b_run [(41, .iload_n 1, 0, 0, .null)] (pc' := 42) (ls' := [some (.ref 1000), some (.int x1), none]) (st' := [.int x1, .ref 1004]) (by decide +kernel) rfl ?_
      refine b_guard (fun hb => ?_)
      refine b_aI (ci := 0) (y := 0) (w := .null) (by decide +kernel) (by decide +kernel) hb (fun c16 => ?_)
      refine b_run [(43, .iconst 2, 0, 0, .null)] (pc' := 44) (ls' := [some (.ref 1000), some (.int x1), none]) (st' := [.int 2, .int c16]) (by decide +kernel) rfl ?_
      refine b_icT (c := .eq) (o := 13) (t := 57) (y := 0) (w := .null) (by decide +kernel) cmp_eq (fun _ => ?_) (fun _ => ?_)
      · exact b_wk (wS (wS (wN w0))) (s28_57 hv F x1 σ1)
      · exact b_thr (i := (.new 122, 11, 1, .null)) (by decide +kernel) rfl rfl rfl
/-- TreeStoreLaw.rename(LTreeStore;I[J)I -/
def f6 (F : Nat) (x1 : Int32) (σ : St) : Rs := cHI (f28 F x1 σ) (fun c2 σ1 => if inB 0 1 then lt (uJ σ1 1361 (0 : Int32).toNatClampNeg ((c2 : Int32).toInt64)) fun σ3 => oI 0 σ3 else none)
    (fun e τ => if e = 12 then (fun σ5 => oI 1 σ5) τ else if e = 11 then (fun σ7 => oI 2 σ7) τ else if e = 10 then (fun σ9 => oI 3 σ9) τ else none)
theorem s6 {sc : aSc} (hv : vOk sc) (F : Nat) (x1 : Int32) (σ : St) : bEx sc 4 6 0 [some (.ref 1000), some (.int x1), some (.ref 1361), none] [] σ (f6 F x1 σ) := by
  unfold f6
  refine b_run [(0, .aload_n 2, 0, 0, .null), (1, .iconst 0, 0, 0, .null), (2, .aload_n 0, 0, 0, .null), (3, .iload_n 1, 0, 0, .null)] (pc' := 4) (ls' := [some (.ref 1000), some (.int x1), some (.ref 1361), none]) (st' := [.int x1, .ref 1000, .int 0, .ref 1361]) (by decide +kernel) rfl ?_
  refine b_callHI 28 2 [.ref 1000, .int x1] (rest := [.int 0, .ref 1361]) (by decide +kernel) rfl rfl rfl rfl (go_O rfl (by decide +kernel) (by decide +kernel : isO 1000 0 = true)) rfl (s28 hv F x1 σ) (by decide) (fun c2 σ1 => ?_) ?_
  · refine b_run [(7, .i2l, 0, 0, .null)] (pc' := 8) (ls' := [some (.ref 1000), some (.int x1), some (.ref 1361), none]) (st' := [.long ((c2 : Int32).toInt64), .int 0, .ref 1361]) (by decide +kernel) rfl ?_
    refine b_guard (fun hb => ?_)
    refine b_sL (ci := 0) (y := 0) (w := .null) (by decide +kernel) (by decide +kernel) hb (fun σ3 => ?_)
    refine b_run [(9, .goto 12, 21, 0, .null), (21, .iconst 0, 0, 0, .null)] (pc' := 22) (ls' := [some (.ref 1000), some (.int x1), some (.ref 1361), none]) (st' := [.int 0]) (by decide +kernel) rfl ?_
    exact b_ret (i := (.ireturn, 0, 0, .null)) (by decide +kernel) rfl rfl (fit_I _)
  refine hd_cons (by decide) (fun e4 σ5 => ?_) ?_
  · refine b_run [(12, .astore_n 3, 0, 0, .null), (13, .iconst 1, 0, 0, .null)] (pc' := 14) (ls' := [some (.ref 1000), some (.int x1), some (.ref 1361), some (.ref e4)]) (st' := [.int 1]) (by decide +kernel) rfl ?_
    exact b_ret (i := (.ireturn, 0, 0, .null)) (by decide +kernel) rfl rfl (fit_I _)
  refine hd_cons (by decide) (fun e6 σ7 => ?_) ?_
  · refine b_run [(15, .astore_n 3, 0, 0, .null), (16, .iconst 2, 0, 0, .null)] (pc' := 17) (ls' := [some (.ref 1000), some (.int x1), some (.ref 1361), some (.ref e6)]) (st' := [.int 2]) (by decide +kernel) rfl ?_
    exact b_ret (i := (.ireturn, 0, 0, .null)) (by decide +kernel) rfl rfl (fit_I _)
  refine hd_cons (by decide) (fun e8 σ9 => ?_) ?_
  · refine b_run [(18, .astore_n 3, 0, 0, .null), (19, .iconst 3, 0, 0, .null)] (pc' := 20) (ls' := [some (.ref 1000), some (.int x1), some (.ref 1361), some (.ref e8)]) (st' := [.int 3]) (by decide +kernel) rfl ?_
    exact b_ret (i := (.ireturn, 0, 0, .null)) (by decide +kernel) rfl rfl (fit_I _)
  exact hd_nil
/-- java/lang/Integer.bitCount(I)I -/
def f256 (F : Nat) (x0 : Int32) (σ : St) : Rs := lt (x0 - ((((x0 : Int32).toUInt32 >>> ((1 : Int32).toUInt32 &&& Int32.toUInt32 31)).toInt32) &&& 1431655765)) fun c1 => 
    lt ((c1 &&& 858993459) + ((((c1 : Int32).toUInt32 >>> ((2 : Int32).toUInt32 &&& Int32.toUInt32 31)).toInt32) &&& 858993459)) fun c2 => 
    lt ((c2 + (((c2 : Int32).toUInt32 >>> ((4 : Int32).toUInt32 &&& Int32.toUInt32 31)).toInt32)) &&& 252645135) fun c3 => 
    lt (c3 + (((c3 : Int32).toUInt32 >>> ((8 : Int32).toUInt32 &&& Int32.toUInt32 31)).toInt32)) fun c4 => 
    lt (c4 + (((c4 : Int32).toUInt32 >>> ((16 : Int32).toUInt32 &&& Int32.toUInt32 31)).toInt32)) fun c5 => oI (c5 &&& 63) σ
theorem s256 {sc : aSc} (hv : vOk sc) (F : Nat) (x0 : Int32) (σ : St) : bEx sc 0 256 0 [some (.int x0)] [] σ (f256 F x0 σ) := by
  unfold f256
  refine b_run [(0, .iload_n 0, 0, 0, .null), (1, .iload_n 0, 0, 0, .null), (2, .iconst 1, 0, 0, .null), (3, .iushr, 0, 0, .null), (4, .ldc_w 265, 0, 0, .int 1431655765), (7, .iand, 0, 0, .null), (8, .isub, 0, 0, .null), (9, .istore_n 0, 0, 0, .null)] (pc' := 10) (ls' := [some (.int (x0 - ((((x0 : Int32).toUInt32 >>> ((1 : Int32).toUInt32 &&& Int32.toUInt32 31)).toInt32) &&& 1431655765)))]) (st' := []) (by decide +kernel) rfl ?_
  refine b_let (x0 - ((((x0 : Int32).toUInt32 >>> ((1 : Int32).toUInt32 &&& Int32.toUInt32 31)).toInt32) &&& 1431655765)) (L := fun c1 => [some (.int c1)]) (S := fun _ => []) (fun c1 => ?_)
  refine b_run [(10, .iload_n 0, 0, 0, .null), (11, .ldc_w 266, 0, 0, .int 858993459), (14, .iand, 0, 0, .null), (15, .iload_n 0, 0, 0, .null), (16, .iconst 2, 0, 0, .null), (17, .iushr, 0, 0, .null), (18, .ldc_w 266, 0, 0, .int 858993459), (21, .iand, 0, 0, .null), (22, .iadd, 0, 0, .null), (23, .istore_n 0, 0, 0, .null)] (pc' := 24) (ls' := [some (.int ((c1 &&& 858993459) + ((((c1 : Int32).toUInt32 >>> ((2 : Int32).toUInt32 &&& Int32.toUInt32 31)).toInt32) &&& 858993459)))]) (st' := []) (by decide +kernel) rfl ?_
  refine b_let ((c1 &&& 858993459) + ((((c1 : Int32).toUInt32 >>> ((2 : Int32).toUInt32 &&& Int32.toUInt32 31)).toInt32) &&& 858993459)) (L := fun c2 => [some (.int c2)]) (S := fun _ => []) (fun c2 => ?_)
  refine b_run [(24, .iload_n 0, 0, 0, .null), (25, .iload_n 0, 0, 0, .null), (26, .iconst 4, 0, 0, .null), (27, .iushr, 0, 0, .null), (28, .iadd, 0, 0, .null), (29, .ldc_w 267, 0, 0, .int 252645135), (32, .iand, 0, 0, .null), (33, .istore_n 0, 0, 0, .null)] (pc' := 34) (ls' := [some (.int ((c2 + (((c2 : Int32).toUInt32 >>> ((4 : Int32).toUInt32 &&& Int32.toUInt32 31)).toInt32)) &&& 252645135))]) (st' := []) (by decide +kernel) rfl ?_
  refine b_let ((c2 + (((c2 : Int32).toUInt32 >>> ((4 : Int32).toUInt32 &&& Int32.toUInt32 31)).toInt32)) &&& 252645135) (L := fun c3 => [some (.int c3)]) (S := fun _ => []) (fun c3 => ?_)
  refine b_run [(34, .iload_n 0, 0, 0, .null), (35, .iload_n 0, 0, 0, .null), (36, .bipush 8, 0, 0, .null), (38, .iushr, 0, 0, .null), (39, .iadd, 0, 0, .null), (40, .istore_n 0, 0, 0, .null)] (pc' := 41) (ls' := [some (.int (c3 + (((c3 : Int32).toUInt32 >>> ((8 : Int32).toUInt32 &&& Int32.toUInt32 31)).toInt32)))]) (st' := []) (by decide +kernel) rfl ?_
  refine b_let (c3 + (((c3 : Int32).toUInt32 >>> ((8 : Int32).toUInt32 &&& Int32.toUInt32 31)).toInt32)) (L := fun c4 => [some (.int c4)]) (S := fun _ => []) (fun c4 => ?_)
  refine b_run [(41, .iload_n 0, 0, 0, .null), (42, .iload_n 0, 0, 0, .null), (43, .bipush 16, 0, 0, .null), (45, .iushr, 0, 0, .null), (46, .iadd, 0, 0, .null), (47, .istore_n 0, 0, 0, .null)] (pc' := 48) (ls' := [some (.int (c4 + (((c4 : Int32).toUInt32 >>> ((16 : Int32).toUInt32 &&& Int32.toUInt32 31)).toInt32)))]) (st' := []) (by decide +kernel) rfl ?_
  refine b_let (c4 + (((c4 : Int32).toUInt32 >>> ((16 : Int32).toUInt32 &&& Int32.toUInt32 31)).toInt32)) (L := fun c5 => [some (.int c5)]) (S := fun _ => []) (fun c5 => ?_)
  refine b_run [(48, .iload_n 0, 0, 0, .null), (49, .bipush 63, 0, 0, .null), (51, .iand, 0, 0, .null)] (pc' := 52) (ls' := [some (.int c5)]) (st' := [.int (c5 &&& 63)]) (by decide +kernel) rfl ?_
  exact b_ret (i := (.ireturn, 0, 0, .null)) (by decide +kernel) rfl rfl (fit_I _)
/-- TreeStore$Part.append(LTreeStore$Step;)V -/
def f35 (F : Nat) (x0 : Nat) (x1 : Nat) (σ : St) : Rs := mR (σ.2.2.1 x0 7) (fun c1 => if isO c1 6 = true then 
    mR (σ.2.2.1 x0 7) (fun c2 => if isO c2 6 = true then lt (uR σ c2 6 (.ref x1)) fun σ3 => lt (uR σ3 x0 7 (.ref x1)) fun σ4 => oV σ4 else none)
    (none) else none)
    (lt (uR σ x0 6 (.ref x1)) fun σ5 => lt (uR σ5 x0 7 (.ref x1)) fun σ6 => oV σ6)
theorem s35 {sc : aSc} (hv : vOk sc) (F : Nat) (x0 : Nat) (x1 : Nat) (σ : St) (hx0 : isO x0 1 = true) (hx1 : isO x1 6 = true) : bEx sc 0 35 0 [some (.ref x0), some (.ref x1)] [] σ (f35 F x0 x1 σ) := by
  unfold f35
  refine b_run [(0, .aload_n 0, 0, 0, .null)] (pc' := 1) (ls' := [some (.ref x0), some (.ref x1)]) (st' := [.ref x0]) (by decide +kernel) rfl ?_
  refine b_gM (q := 36) (ci := 1) (k := 7) (w := .null) (by decide +kernel) (fk_M1_7 hx0) (fun c1 => b_guard (fun hc1 => ?_)) ?_
  · refine b_run [(4, .ifnonnull 11, 15, 0, .null), (15, .aload_n 0, 0, 0, .null)] (pc' := 16) (ls' := [some (.ref x0), some (.ref x1)]) (st' := [.ref x0]) (by decide +kernel) rfl ?_
    refine b_gM (q := 36) (ci := 1) (k := 7) (w := .null) (by decide +kernel) (fk_M1_7 hx0) (fun c2 => b_guard (fun hc2 => ?_)) ?_
    · refine b_run [(19, .aload_n 1, 0, 0, .null)] (pc' := 20) (ls' := [some (.ref x0), some (.ref x1)]) (st' := [.ref x1, .ref c2]) (by decide +kernel) rfl ?_
      refine b_pM (q := 52) (ci := 6) (k := 6) (w := .null) (by decide +kernel) (fk_M6_6 hc2) (fit_Or "TreeStore$Step" _) (fun σ3 => ?_)
      refine b_run [(23, .aload_n 0, 0, 0, .null), (24, .aload_n 1, 0, 0, .null)] (pc' := 25) (ls' := [some (.ref x0), some (.ref x1)]) (st' := [.ref x1, .ref x0]) (by decide +kernel) rfl ?_
      refine b_pM (q := 36) (ci := 1) (k := 7) (w := .null) (by decide +kernel) (fk_M1_7 hx0) (fit_Or "TreeStore$Step" _) (fun σ4 => ?_)
      exact b_ret0 (i := (.return_, 0, 0, .null)) (by decide +kernel) rfl rfl
    · refine b_run [(19, .aload_n 1, 0, 0, .null)] (pc' := 20) (ls' := [some (.ref x0), some (.ref x1)]) (st' := [.ref x1, .null]) (by decide +kernel) rfl ?_
      exact b_none
  · refine b_run [(4, .ifnonnull 11, 15, 0, .null), (7, .aload_n 0, 0, 0, .null), (8, .aload_n 1, 0, 0, .null)] (pc' := 9) (ls' := [some (.ref x0), some (.ref x1)]) (st' := [.ref x1, .ref x0]) (by decide +kernel) rfl ?_
    refine b_pM (q := 32) (ci := 1) (k := 6) (w := .null) (by decide +kernel) (fk_M1_6 hx0) (fit_Or "TreeStore$Step" _) (fun σ5 => ?_)
    refine b_run [(12, .goto 11, 23, 0, .null), (23, .aload_n 0, 0, 0, .null), (24, .aload_n 1, 0, 0, .null)] (pc' := 25) (ls' := [some (.ref x0), some (.ref x1)]) (st' := [.ref x1, .ref x0]) (by decide +kernel) rfl ?_
    refine b_pM (q := 36) (ci := 1) (k := 7) (w := .null) (by decide +kernel) (fk_M1_7 hx0) (fit_Or "TreeStore$Step" _) (fun σ6 => ?_)
    exact b_ret0 (i := (.return_, 0, 0, .null)) (by decide +kernel) rfl rfl
/-- TreeStore$Part.begin(I)V -/
def f34 (F : Nat) (x0 : Nat) (x1 : Int32) (σ : St) : Rs := lt (uI σ x0 0 x1) fun σ1 => 
    lt (uR σ1 x0 1 (.null)) fun σ2 => 
    lt (uR σ2 x0 2 (.null)) fun σ3 => 
    lt (uR σ3 x0 3 (.null)) fun σ4 => 
    lt (uI σ4 x0 4 0) fun σ5 => 
    lt (uI σ5 x0 5 0) fun σ6 => 
    lt (uR σ6 x0 6 (.null)) fun σ7 => 
    lt (uR σ7 x0 7 (.null)) fun σ8 => 
    lt (uJ σ8 x0 8 0) fun σ9 => lt (uI σ9 x0 9 0) fun σ10 => lt (uI σ10 x0 10 0) fun σ11 => lt (uI σ11 x0 11 0) fun σ12 => oV σ12
theorem s34 {sc : aSc} (hv : vOk sc) (F : Nat) (x0 : Nat) (x1 : Int32) (σ : St) (hx0 : isO x0 1 = true) : bEx sc 0 34 0 [some (.ref x0), some (.int x1)] [] σ (f34 F x0 x1 σ) := by
  unfold f34
  refine b_run [(0, .aload_n 0, 0, 0, .null), (1, .iload_n 1, 0, 0, .null)] (pc' := 2) (ls' := [some (.ref x0), some (.int x1)]) (st' := [.int x1, .ref x0]) (by decide +kernel) rfl ?_
  refine b_pI (q := 9) (ci := 1) (k := 0) (w := .null) (by decide +kernel) (fk_I1_0 hx0) (fit_I _) (fun σ1 => ?_)
  refine b_run [(5, .aload_n 0, 0, 0, .null), (6, .aconst_null, 0, 0, .null)] (pc' := 7) (ls' := [some (.ref x0), some (.int x1)]) (st' := [.null, .ref x0]) (by decide +kernel) rfl ?_
  refine b_pM (q := 15) (ci := 1) (k := 1) (w := .null) (by decide +kernel) (fk_M1_1 hx0) (fit_On "TreeStore$Part") (fun σ2 => ?_)
  refine b_run [(10, .aload_n 0, 0, 0, .null), (11, .aconst_null, 0, 0, .null)] (pc' := 12) (ls' := [some (.ref x0), some (.int x1)]) (st' := [.null, .ref x0]) (by decide +kernel) rfl ?_
  refine b_pM (q := 19) (ci := 1) (k := 2) (w := .null) (by decide +kernel) (fk_M1_2 hx0) (fit_On "TreeStore$Part") (fun σ3 => ?_)
  refine b_run [(15, .aload_n 0, 0, 0, .null), (16, .aconst_null, 0, 0, .null)] (pc' := 17) (ls' := [some (.ref x0), some (.int x1)]) (st' := [.null, .ref x0]) (by decide +kernel) rfl ?_
  refine b_pM (q := 22) (ci := 1) (k := 3) (w := .null) (by decide +kernel) (fk_M1_3 hx0) (fit_On "TreeStore$Part") (fun σ4 => ?_)
  refine b_run [(20, .aload_n 0, 0, 0, .null), (21, .iconst 0, 0, 0, .null)] (pc' := 22) (ls' := [some (.ref x0), some (.int x1)]) (st' := [.int 0, .ref x0]) (by decide +kernel) rfl ?_
  refine b_pI (q := 25) (ci := 1) (k := 4) (w := .null) (by decide +kernel) (fk_I1_4 hx0) (by decide +kernel) (fun σ5 => ?_)
  refine b_run [(25, .aload_n 0, 0, 0, .null), (26, .iconst 0, 0, 0, .null)] (pc' := 27) (ls' := [some (.ref x0), some (.int x1)]) (st' := [.int 0, .ref x0]) (by decide +kernel) rfl ?_
  refine b_pI (q := 29) (ci := 1) (k := 5) (w := .null) (by decide +kernel) (fk_I1_5 hx0) (by decide +kernel) (fun σ6 => ?_)
  refine b_run [(30, .aload_n 0, 0, 0, .null), (31, .aconst_null, 0, 0, .null)] (pc' := 32) (ls' := [some (.ref x0), some (.int x1)]) (st' := [.null, .ref x0]) (by decide +kernel) rfl ?_
  refine b_pM (q := 32) (ci := 1) (k := 6) (w := .null) (by decide +kernel) (fk_M1_6 hx0) (fit_On "TreeStore$Step") (fun σ7 => ?_)
  refine b_run [(35, .aload_n 0, 0, 0, .null), (36, .aconst_null, 0, 0, .null)] (pc' := 37) (ls' := [some (.ref x0), some (.int x1)]) (st' := [.null, .ref x0]) (by decide +kernel) rfl ?_
  refine b_pM (q := 36) (ci := 1) (k := 7) (w := .null) (by decide +kernel) (fk_M1_7 hx0) (fit_On "TreeStore$Step") (fun σ8 => ?_)
  refine b_run [(40, .aload_n 0, 0, 0, .null), (41, .lconst 0, 0, 0, .null)] (pc' := 42) (ls' := [some (.ref x0), some (.int x1)]) (st' := [.long 0, .ref x0]) (by decide +kernel) rfl ?_
  refine b_pJ (q := 39) (ci := 1) (k := 8) (w := .null) (by decide +kernel) (fk_J1_8 hx0) (fit_J _) (fun σ9 => ?_)
  refine b_run [(45, .aload_n 0, 0, 0, .null), (46, .iconst 0, 0, 0, .null)] (pc' := 47) (ls' := [some (.ref x0), some (.int x1)]) (st' := [.int 0, .ref x0]) (by decide +kernel) rfl ?_
  refine b_pI (q := 43) (ci := 1) (k := 9) (w := .null) (by decide +kernel) (fk_I1_9 hx0) (fit_I _) (fun σ10 => ?_)
  refine b_run [(50, .aload_n 0, 0, 0, .null), (51, .iconst 0, 0, 0, .null)] (pc' := 52) (ls' := [some (.ref x0), some (.int x1)]) (st' := [.int 0, .ref x0]) (by decide +kernel) rfl ?_
  refine b_pI (q := 46) (ci := 1) (k := 10) (w := .null) (by decide +kernel) (fk_I1_10 hx0) (fit_I _) (fun σ11 => ?_)
  refine b_run [(55, .aload_n 0, 0, 0, .null), (56, .iconst 0, 0, 0, .null)] (pc' := 57) (ls' := [some (.ref x0), some (.int x1)]) (st' := [.int 0, .ref x0]) (by decide +kernel) rfl ?_
  refine b_pI (q := 49) (ci := 1) (k := 11) (w := .null) (by decide +kernel) (fk_I1_11 hx0) (fit_I _) (fun σ12 => ?_)
  exact b_ret0 (i := (.return_, 0, 0, .null)) (by decide +kernel) rfl rfl
/-- TreeStore$PathReader.newPart(I)LTreeStore$Part; -/
def f43 (F : Nat) (x1 : Int32) (σ : St) : Rs := lt (σ.1 1030 4) fun c1 => 
    if c1 < 120 then 
    lt (σ.1 1030 4) fun c2 => 
    if inB c2 120 then lt (1193 + 1 * c2.toNatClampNeg) fun c3 => if isO c3 1 = true then 
    lt (σ.1 1030 4) fun c4 => lt (uI σ 1030 4 (c4 + 1)) fun σ5 => cV (f34 F c3 x1 σ5) fun σ6 => some (.inl (some (.ref c3)), σ6) else none else none
    else oT 10 σ
theorem s43 {sc : aSc} (hv : vOk sc) (F : Nat) (x1 : Int32) (σ : St) : bEx sc 1 43 0 [some (.ref 1030), some (.int x1), none] [] σ (f43 F x1 σ) := by
  unfold f43
  refine b_run [(0, .aload_n 0, 0, 0, .null)] (pc' := 1) (ls' := [some (.ref 1030), some (.int x1), none]) (st' := [.ref 1030]) (by decide +kernel) rfl ?_
  refine b_gI (q := 33) (ci := 2) (k := 4) (w := .null) (by decide +kernel) (by decide +kernel) (fun c1 => ?_)
  refine b_run [(4, .bipush 120, 0, 0, .null)] (pc' := 6) (ls' := [some (.ref 1030), some (.int x1), none]) (st' := [.int 120, .int c1]) (by decide +kernel) rfl ?_
  refine b_icT (c := .lt) (o := 13) (t := 19) (y := 0) (w := .null) (by decide +kernel) cmp_lt (fun _ => ?_) (fun _ => ?_)
  · refine b_run [(19, .aload_n 0, 0, 0, .null)] (pc' := 20) (ls' := [some (.ref 1030), some (.int x1), none]) (st' := [.ref 1030]) (by decide +kernel) rfl ?_
    refine b_getC (b := 1032) (q := 19) (ci := 2) (k := 2) (w := .null) (by decide +kernel) (by decide +kernel) ?_
    refine b_run [(23, .aload_n 0, 0, 0, .null)] (pc' := 24) (ls' := [some (.ref 1030), some (.int x1), none]) (st' := [.ref 1030, .ref 1032]) (by decide +kernel) rfl ?_
    refine b_gI (q := 33) (ci := 2) (k := 4) (w := .null) (by decide +kernel) (by decide +kernel) (fun c2 => ?_)
    refine b_guard (fun hb => ?_)
    refine b_a1032 (ci := 0) (y := 0) (w := .null) (by decide +kernel) hb (fun c3 => b_guard (fun hc3 => ?_))
    refine b_run [(28, .astore_n 2, 0, 0, .null), (29, .aload_n 0, 0, 0, .null), (30, .dup, 0, 0, .null)] (pc' := 31) (ls' := [some (.ref 1030), some (.int x1), some (.ref c3)]) (st' := [.ref 1030, .ref 1030]) (by decide +kernel) rfl ?_
    refine b_gI (q := 33) (ci := 2) (k := 4) (w := .null) (by decide +kernel) (by decide +kernel) (fun c4 => ?_)
    refine b_run [(34, .iconst 1, 0, 0, .null), (35, .iadd, 0, 0, .null)] (pc' := 36) (ls' := [some (.ref 1030), some (.int x1), some (.ref c3)]) (st' := [.int (c4 + 1), .ref 1030]) (by decide +kernel) rfl ?_
    refine b_pI (q := 33) (ci := 2) (k := 4) (w := .null) (by decide +kernel) (by decide +kernel) (fit_I _) (fun σ5 => ?_)
    refine b_run [(39, .aload_n 2, 0, 0, .null), (40, .iload_n 1, 0, 0, .null)] (pc' := 41) (ls' := [some (.ref 1030), some (.int x1), some (.ref c3)]) (st' := [.int x1, .ref c3]) (by decide +kernel) rfl ?_
    refine b_callV 34 2 [.ref c3, .int x1] (rest := []) (by decide +kernel) rfl rfl rfl (go_O rfl (by decide +kernel) hc3) rfl (s34 hv F c3 x1 σ5 hc3) (by decide) (fun σ6 => ?_)
    refine b_run [(44, .aload_n 2, 0, 0, .null)] (pc' := 45) (ls' := [some (.ref 1030), some (.int x1), some (.ref c3)]) (st' := [.ref c3]) (by decide +kernel) rfl ?_
    exact b_ret (i := (.areturn, 0, 0, .null)) (by decide +kernel) rfl rfl (fit_Or "TreeStore$Part" _)
  · exact b_thr (i := (.new 48, 10, 1, .null)) (by decide +kernel) rfl rfl rfl
/-- TreeStore$PathReader.take(I)Z -/
def f44 (F : Nat) (x1 : Int32) (σ : St) : Rs := lt (σ.1 1030 5) fun c1 => 
    cI (f92 F 1001 c1 σ) fun c3 σ2 => 
    if c3 = x1 then lt (σ2.1 1030 5) fun c4 => lt (uI σ2 1030 5 (c4 + 1)) fun σ5 => oI 1 σ5
    else oI 0 σ2
theorem s44 {sc : aSc} (hv : vOk sc) (F : Nat) (x1 : Int32) (σ : St) : bEx sc 1 44 0 [some (.ref 1030), some (.int x1)] [] σ (f44 F x1 σ) := by
  unfold f44
  refine b_run [(0, .aload_n 0, 0, 0, .null)] (pc' := 1) (ls' := [some (.ref 1030), some (.int x1)]) (st' := [.ref 1030]) (by decide +kernel) rfl ?_
  refine b_getC (b := 1001) (q := 23) (ci := 2) (k := 0) (w := .null) (by decide +kernel) (by decide +kernel) ?_
  refine b_run [(4, .aload_n 0, 0, 0, .null)] (pc' := 5) (ls' := [some (.ref 1030), some (.int x1)]) (st' := [.ref 1030, .ref 1001]) (by decide +kernel) rfl ?_
  refine b_gI (q := 36) (ci := 2) (k := 5) (w := .null) (by decide +kernel) (by decide +kernel) (fun c1 => ?_)
  refine b_callI 92 2 [.ref 1001, .int c1] (rest := []) (by decide +kernel) rfl rfl rfl (go_O rfl (by decide +kernel) (by decide +kernel : isO 1001 5 = true)) rfl (s92 hv F 1001 c1 σ (by decide +kernel : isO 1001 5 = true)) (by decide) (fun c3 σ2 => ?_)
  refine b_run [(11, .iload_n 1, 0, 0, .null)] (pc' := 12) (ls' := [some (.ref 1030), some (.int x1)]) (st' := [.int x1, .int c3]) (by decide +kernel) rfl ?_
  refine b_icT (c := .eq) (o := 5) (t := 17) (y := 0) (w := .null) (by decide +kernel) cmp_eq (fun _ => ?_) (fun _ => ?_)
  · refine b_run [(17, .aload_n 0, 0, 0, .null), (18, .dup, 0, 0, .null)] (pc' := 19) (ls' := [some (.ref 1030), some (.int x1)]) (st' := [.ref 1030, .ref 1030]) (by decide +kernel) rfl ?_
    refine b_gI (q := 36) (ci := 2) (k := 5) (w := .null) (by decide +kernel) (by decide +kernel) (fun c4 => ?_)
    refine b_run [(22, .iconst 1, 0, 0, .null), (23, .iadd, 0, 0, .null)] (pc' := 24) (ls' := [some (.ref 1030), some (.int x1)]) (st' := [.int (c4 + 1), .ref 1030]) (by decide +kernel) rfl ?_
    refine b_pI (q := 36) (ci := 2) (k := 5) (w := .null) (by decide +kernel) (by decide +kernel) (fit_I _) (fun σ5 => ?_)
    refine b_run [(27, .iconst 1, 0, 0, .null)] (pc' := 28) (ls' := [some (.ref 1030), some (.int x1)]) (st' := [.int 1]) (by decide +kernel) rfl ?_
    exact b_ret (i := (.ireturn, 0, 0, .null)) (by decide +kernel) rfl rfl (by decide +kernel)
  · refine b_run [(15, .iconst 0, 0, 0, .null)] (pc' := 16) (ls' := [some (.ref 1030), some (.int x1)]) (st' := [.int 0]) (by decide +kernel) rfl ?_
    exact b_ret (i := (.ireturn, 0, 0, .null)) (by decide +kernel) rfl rfl (by decide +kernel)
/-- TreeStore$PathReader.stepComes()Z -/
def f45 (F : Nat) (σ : St) : Rs := lt (σ.1 1030 5) fun c1 => 
    cI (f92 F 1001 c1 σ) fun c3 σ2 => 
    if c3 = 46 then oI 1 σ2
    else if c3 = 64 then oI 1 σ2
    else if c3 = 42 then oI 1 σ2
    else cI (f22 F c3 σ2) fun c5 σ4 => 
    if c5 = 0 then oI 0 σ4
    else oI 1 σ4
theorem s45 {sc : aSc} (hv : vOk sc) (F : Nat) (σ : St) : bEx sc 1 45 0 [some (.ref 1030), none] [] σ (f45 F σ) := by
  unfold f45
  refine b_run [(0, .aload_n 0, 0, 0, .null)] (pc' := 1) (ls' := [some (.ref 1030), none]) (st' := [.ref 1030]) (by decide +kernel) rfl ?_
  refine b_getC (b := 1001) (q := 23) (ci := 2) (k := 0) (w := .null) (by decide +kernel) (by decide +kernel) ?_
  refine b_run [(4, .aload_n 0, 0, 0, .null)] (pc' := 5) (ls' := [some (.ref 1030), none]) (st' := [.ref 1030, .ref 1001]) (by decide +kernel) rfl ?_
  refine b_gI (q := 36) (ci := 2) (k := 5) (w := .null) (by decide +kernel) (by decide +kernel) (fun c1 => ?_)
  refine b_callI 92 2 [.ref 1001, .int c1] (rest := []) (by decide +kernel) rfl rfl rfl (go_O rfl (by decide +kernel) (by decide +kernel : isO 1001 5 = true)) rfl (s92 hv F 1001 c1 σ (by decide +kernel : isO 1001 5 = true)) (by decide) (fun c3 σ2 => ?_)
  refine b_run [(11, .istore_n 1, 0, 0, .null), (12, .iload_n 1, 0, 0, .null), (13, .bipush 46, 0, 0, .null)] (pc' := 15) (ls' := [some (.ref 1030), some (.int c3)]) (st' := [.int 46, .int c3]) (by decide +kernel) rfl ?_
  refine b_icT (c := .eq) (o := 22) (t := 37) (y := 0) (w := .null) (by decide +kernel) cmp_eq (fun _ => ?_) (fun _ => ?_)
  · refine b_run [(37, .iconst 1, 0, 0, .null), (38, .goto 4, 42, 0, .null)] (pc' := 42) (ls' := [some (.ref 1030), some (.int c3)]) (st' := [.int 1]) (by decide +kernel) rfl ?_
    exact b_ret (i := (.ireturn, 0, 0, .null)) (by decide +kernel) rfl rfl (by decide +kernel)
  · refine b_run [(18, .iload_n 1, 0, 0, .null), (19, .bipush 64, 0, 0, .null)] (pc' := 21) (ls' := [some (.ref 1030), some (.int c3)]) (st' := [.int 64, .int c3]) (by decide +kernel) rfl ?_
    refine b_icT (c := .eq) (o := 16) (t := 37) (y := 0) (w := .null) (by decide +kernel) cmp_eq (fun _ => ?_) (fun _ => ?_)
    · refine b_run [(37, .iconst 1, 0, 0, .null), (38, .goto 4, 42, 0, .null)] (pc' := 42) (ls' := [some (.ref 1030), some (.int c3)]) (st' := [.int 1]) (by decide +kernel) rfl ?_
      exact b_ret (i := (.ireturn, 0, 0, .null)) (by decide +kernel) rfl rfl (by decide +kernel)
    · refine b_run [(24, .iload_n 1, 0, 0, .null), (25, .bipush 42, 0, 0, .null)] (pc' := 27) (ls' := [some (.ref 1030), some (.int c3)]) (st' := [.int 42, .int c3]) (by decide +kernel) rfl ?_
      refine b_icT (c := .eq) (o := 10) (t := 37) (y := 0) (w := .null) (by decide +kernel) cmp_eq (fun _ => ?_) (fun _ => ?_)
      · refine b_run [(37, .iconst 1, 0, 0, .null), (38, .goto 4, 42, 0, .null)] (pc' := 42) (ls' := [some (.ref 1030), some (.int c3)]) (st' := [.int 1]) (by decide +kernel) rfl ?_
        exact b_ret (i := (.ireturn, 0, 0, .null)) (by decide +kernel) rfl rfl (by decide +kernel)
      · refine b_run [(30, .iload_n 1, 0, 0, .null)] (pc' := 31) (ls' := [some (.ref 1030), some (.int c3)]) (st' := [.int c3]) (by decide +kernel) rfl ?_
        refine b_callI 22 1 [.int c3] (rest := []) (by decide +kernel) rfl rfl rfl (go_S rfl (by decide +kernel)) rfl (s22 hv F c3 σ2) (by decide) (fun c5 σ4 => ?_)
        refine b_izT (c := .eq) (o := 7) (t := 41) (y := 0) (w := .null) (by decide +kernel) cmp_eq (fun _ => ?_) (fun _ => ?_)
        · refine b_run [(41, .iconst 0, 0, 0, .null)] (pc' := 42) (ls' := [some (.ref 1030), some (.int c3)]) (st' := [.int 0]) (by decide +kernel) rfl ?_
          exact b_ret (i := (.ireturn, 0, 0, .null)) (by decide +kernel) rfl rfl (by decide +kernel)
        · refine b_run [(37, .iconst 1, 0, 0, .null), (38, .goto 4, 42, 0, .null)] (pc' := 42) (ls' := [some (.ref 1030), some (.int c3)]) (st' := [.int 1]) (by decide +kernel) rfl ?_
          exact b_ret (i := (.ireturn, 0, 0, .null)) (by decide +kernel) rfl rfl (by decide +kernel)
/-- TreeStore$Step.begin(LTreeStore$Axis;I)V -/
def f102 (F : Nat) (x0 : Nat) (x1 : Nat) (x2 : Int32) (σ : St) : Rs := lt (uR σ x0 0 (.ref x1)) fun σ1 => 
    lt (uI σ1 x0 1 x2) fun σ2 => 
    lt (uI σ2 x0 2 0) fun σ3 => 
    lt (uI σ3 x0 3 0) fun σ4 => 
    lt (uR σ4 x0 4 (.null)) fun σ5 => lt (uR σ5 x0 5 (.null)) fun σ6 => lt (uR σ6 x0 6 (.null)) fun σ7 => lt (uI σ7 x0 7 0) fun σ8 => oV σ8
theorem s102 {sc : aSc} (hv : vOk sc) (F : Nat) (x0 : Nat) (x1 : Nat) (x2 : Int32) (σ : St) (hx0 : isO x0 6 = true) (hx1 : isX x1 = true) : bEx sc 0 102 0 [some (.ref x0), some (.ref x1), some (.int x2)] [] σ (f102 F x0 x1 x2 σ) := by
  unfold f102
  refine b_run [(0, .aload_n 0, 0, 0, .null), (1, .aload_n 1, 0, 0, .null)] (pc' := 2) (ls' := [some (.ref x0), some (.ref x1), some (.int x2)]) (st' := [.ref x1, .ref x0]) (by decide +kernel) rfl ?_
  refine b_pM (q := 15) (ci := 6) (k := 0) (w := .null) (by decide +kernel) (fk_M6_0 hx0) (fit_Or "TreeStore$Axis" _) (fun σ1 => ?_)
  refine b_run [(5, .aload_n 0, 0, 0, .null), (6, .iload_n 2, 0, 0, .null)] (pc' := 7) (ls' := [some (.ref x0), some (.ref x1), some (.int x2)]) (st' := [.int x2, .ref x0]) (by decide +kernel) rfl ?_
  refine b_pI (q := 19) (ci := 6) (k := 1) (w := .null) (by decide +kernel) (fk_I6_1 hx0) (fit_I _) (fun σ2 => ?_)
  refine b_run [(10, .aload_n 0, 0, 0, .null), (11, .iconst 0, 0, 0, .null)] (pc' := 12) (ls' := [some (.ref x0), some (.ref x1), some (.int x2)]) (st' := [.int 0, .ref x0]) (by decide +kernel) rfl ?_
  refine b_pI (q := 23) (ci := 6) (k := 2) (w := .null) (by decide +kernel) (fk_I6_2 hx0) (fit_I _) (fun σ3 => ?_)
  refine b_run [(15, .aload_n 0, 0, 0, .null), (16, .iconst 0, 0, 0, .null)] (pc' := 17) (ls' := [some (.ref x0), some (.ref x1), some (.int x2)]) (st' := [.int 0, .ref x0]) (by decide +kernel) rfl ?_
  refine b_pI (q := 26) (ci := 6) (k := 3) (w := .null) (by decide +kernel) (fk_I6_3 hx0) (fit_I _) (fun σ4 => ?_)
  refine b_run [(20, .aload_n 0, 0, 0, .null), (21, .aconst_null, 0, 0, .null)] (pc' := 22) (ls' := [some (.ref x0), some (.ref x1), some (.int x2)]) (st' := [.null, .ref x0]) (by decide +kernel) rfl ?_
  refine b_pM (q := 29) (ci := 6) (k := 4) (w := .null) (by decide +kernel) (fk_M6_4 hx0) (fit_On "TreeStore$Part") (fun σ5 => ?_)
  refine b_run [(25, .aload_n 0, 0, 0, .null), (26, .aconst_null, 0, 0, .null)] (pc' := 27) (ls' := [some (.ref x0), some (.ref x1), some (.int x2)]) (st' := [.null, .ref x0]) (by decide +kernel) rfl ?_
  refine b_pM (q := 33) (ci := 6) (k := 5) (w := .null) (by decide +kernel) (fk_M6_5 hx0) (fit_On "TreeStore$Part") (fun σ6 => ?_)
  refine b_run [(30, .aload_n 0, 0, 0, .null), (31, .aconst_null, 0, 0, .null)] (pc' := 32) (ls' := [some (.ref x0), some (.ref x1), some (.int x2)]) (st' := [.null, .ref x0]) (by decide +kernel) rfl ?_
  refine b_pM (q := 36) (ci := 6) (k := 6) (w := .null) (by decide +kernel) (fk_M6_6 hx0) (fit_On "TreeStore$Step") (fun σ7 => ?_)
  refine b_run [(35, .aload_n 0, 0, 0, .null), (36, .iconst 0, 0, 0, .null)] (pc' := 37) (ls' := [some (.ref x0), some (.ref x1), some (.int x2)]) (st' := [.int 0, .ref x0]) (by decide +kernel) rfl ?_
  refine b_pI (q := 40) (ci := 6) (k := 7) (w := .null) (by decide +kernel) (fk_I6_7 hx0) (fit_I _) (fun σ8 => ?_)
  exact b_ret0 (i := (.return_, 0, 0, .null)) (by decide +kernel) rfl rfl
/-- TreeStore$PathReader.newStep(LTreeStore$Axis;I)LTreeStore$Step; -/
def f46 (F : Nat) (x1 : Nat) (x2 : Int32) (σ : St) : Rs := lt (σ.1 1030 3) fun c1 => 
    if c1 < 80 then 
    lt (σ.1 1030 3) fun c2 => 
    if inB c2 80 then lt (1033 + 2 * c2.toNatClampNeg) fun c3 => if isO c3 6 = true then 
    lt (σ.1 1030 3) fun c4 => lt (uI σ 1030 3 (c4 + 1)) fun σ5 => cV (f102 F c3 x1 x2 σ5) fun σ6 => some (.inl (some (.ref c3)), σ6) else none else none
    else oT 10 σ
theorem s46 {sc : aSc} (hv : vOk sc) (F : Nat) (x1 : Nat) (x2 : Int32) (σ : St) (hx1 : isX x1 = true) : bEx sc 1 46 0 [some (.ref 1030), some (.ref x1), some (.int x2), none] [] σ (f46 F x1 x2 σ) := by
  unfold f46
  refine b_run [(0, .aload_n 0, 0, 0, .null)] (pc' := 1) (ls' := [some (.ref 1030), some (.ref x1), some (.int x2), none]) (st' := [.ref 1030]) (by decide +kernel) rfl ?_
  refine b_gI (q := 29) (ci := 2) (k := 3) (w := .null) (by decide +kernel) (by decide +kernel) (fun c1 => ?_)
  refine b_run [(4, .bipush 80, 0, 0, .null)] (pc' := 6) (ls' := [some (.ref 1030), some (.ref x1), some (.int x2), none]) (st' := [.int 80, .int c1]) (by decide +kernel) rfl ?_
  refine b_icT (c := .lt) (o := 13) (t := 19) (y := 0) (w := .null) (by decide +kernel) cmp_lt (fun _ => ?_) (fun _ => ?_)
  · refine b_run [(19, .aload_n 0, 0, 0, .null)] (pc' := 20) (ls' := [some (.ref 1030), some (.ref x1), some (.int x2), none]) (st' := [.ref 1030]) (by decide +kernel) rfl ?_
    refine b_getC (b := 1031) (q := 11) (ci := 2) (k := 1) (w := .null) (by decide +kernel) (by decide +kernel) ?_
    refine b_run [(23, .aload_n 0, 0, 0, .null)] (pc' := 24) (ls' := [some (.ref 1030), some (.ref x1), some (.int x2), none]) (st' := [.ref 1030, .ref 1031]) (by decide +kernel) rfl ?_
    refine b_gI (q := 29) (ci := 2) (k := 3) (w := .null) (by decide +kernel) (by decide +kernel) (fun c2 => ?_)
    refine b_guard (fun hb => ?_)
    refine b_a1031 (ci := 0) (y := 0) (w := .null) (by decide +kernel) hb (fun c3 => b_guard (fun hc3 => ?_))
    refine b_run [(28, .astore_n 3, 0, 0, .null), (29, .aload_n 0, 0, 0, .null), (30, .dup, 0, 0, .null)] (pc' := 31) (ls' := [some (.ref 1030), some (.ref x1), some (.int x2), some (.ref c3)]) (st' := [.ref 1030, .ref 1030]) (by decide +kernel) rfl ?_
    refine b_gI (q := 29) (ci := 2) (k := 3) (w := .null) (by decide +kernel) (by decide +kernel) (fun c4 => ?_)
    refine b_run [(34, .iconst 1, 0, 0, .null), (35, .iadd, 0, 0, .null)] (pc' := 36) (ls' := [some (.ref 1030), some (.ref x1), some (.int x2), some (.ref c3)]) (st' := [.int (c4 + 1), .ref 1030]) (by decide +kernel) rfl ?_
    refine b_pI (q := 29) (ci := 2) (k := 3) (w := .null) (by decide +kernel) (by decide +kernel) (fit_I _) (fun σ5 => ?_)
    refine b_run [(39, .aload_n 3, 0, 0, .null), (40, .aload_n 1, 0, 0, .null), (41, .iload_n 2, 0, 0, .null)] (pc' := 42) (ls' := [some (.ref 1030), some (.ref x1), some (.int x2), some (.ref c3)]) (st' := [.int x2, .ref x1, .ref c3]) (by decide +kernel) rfl ?_
    refine b_callV 102 3 [.ref c3, .ref x1, .int x2] (rest := []) (by decide +kernel) rfl rfl rfl (go_O rfl (by decide +kernel) hc3) rfl (s102 hv F c3 x1 x2 σ5 hc3 hx1) (by decide) (fun σ6 => ?_)
    refine b_run [(45, .aload_n 3, 0, 0, .null)] (pc' := 46) (ls' := [some (.ref 1030), some (.ref x1), some (.int x2), some (.ref c3)]) (st' := [.ref c3]) (by decide +kernel) rfl ?_
    exact b_ret (i := (.areturn, 0, 0, .null)) (by decide +kernel) rfl rfl (fit_Or "TreeStore$Step" _)
  · exact b_thr (i := (.new 48, 10, 1, .null)) (by decide +kernel) rfl rfl rfl
/-- TreeStore$Step.append(LTreeStore$Part;)V -/
def f103 (F : Nat) (x0 : Nat) (x1 : Nat) (σ : St) : Rs := mR (σ.2.2.1 x0 5) (fun c1 => if isO c1 1 = true then 
    mR (σ.2.2.1 x0 5) (fun c2 => if isO c2 1 = true then lt (uR σ c2 3 (.ref x1)) fun σ3 => lt (uR σ3 x0 5 (.ref x1)) fun σ4 => oV σ4 else none)
    (none) else none)
    (lt (uR σ x0 4 (.ref x1)) fun σ5 => lt (uR σ5 x0 5 (.ref x1)) fun σ6 => oV σ6)
theorem s103 {sc : aSc} (hv : vOk sc) (F : Nat) (x0 : Nat) (x1 : Nat) (σ : St) (hx0 : isO x0 6 = true) (hx1 : isO x1 1 = true) : bEx sc 0 103 0 [some (.ref x0), some (.ref x1)] [] σ (f103 F x0 x1 σ) := by
  unfold f103
  refine b_run [(0, .aload_n 0, 0, 0, .null)] (pc' := 1) (ls' := [some (.ref x0), some (.ref x1)]) (st' := [.ref x0]) (by decide +kernel) rfl ?_
  refine b_gM (q := 33) (ci := 6) (k := 5) (w := .null) (by decide +kernel) (fk_M6_5 hx0) (fun c1 => b_guard (fun hc1 => ?_)) ?_
  · refine b_run [(4, .ifnonnull 11, 15, 0, .null), (15, .aload_n 0, 0, 0, .null)] (pc' := 16) (ls' := [some (.ref x0), some (.ref x1)]) (st' := [.ref x0]) (by decide +kernel) rfl ?_
    refine b_gM (q := 33) (ci := 6) (k := 5) (w := .null) (by decide +kernel) (fk_M6_5 hx0) (fun c2 => b_guard (fun hc2 => ?_)) ?_
    · refine b_run [(19, .aload_n 1, 0, 0, .null)] (pc' := 20) (ls' := [some (.ref x0), some (.ref x1)]) (st' := [.ref x1, .ref c2]) (by decide +kernel) rfl ?_
      refine b_pM (q := 43) (ci := 1) (k := 3) (w := .null) (by decide +kernel) (fk_M1_3 hc2) (fit_Or "TreeStore$Part" _) (fun σ3 => ?_)
      refine b_run [(23, .aload_n 0, 0, 0, .null), (24, .aload_n 1, 0, 0, .null)] (pc' := 25) (ls' := [some (.ref x0), some (.ref x1)]) (st' := [.ref x1, .ref x0]) (by decide +kernel) rfl ?_
      refine b_pM (q := 33) (ci := 6) (k := 5) (w := .null) (by decide +kernel) (fk_M6_5 hx0) (fit_Or "TreeStore$Part" _) (fun σ4 => ?_)
      exact b_ret0 (i := (.return_, 0, 0, .null)) (by decide +kernel) rfl rfl
    · refine b_run [(19, .aload_n 1, 0, 0, .null)] (pc' := 20) (ls' := [some (.ref x0), some (.ref x1)]) (st' := [.ref x1, .null]) (by decide +kernel) rfl ?_
      exact b_none
  · refine b_run [(4, .ifnonnull 11, 15, 0, .null), (7, .aload_n 0, 0, 0, .null), (8, .aload_n 1, 0, 0, .null)] (pc' := 9) (ls' := [some (.ref x0), some (.ref x1)]) (st' := [.ref x1, .ref x0]) (by decide +kernel) rfl ?_
    refine b_pM (q := 29) (ci := 6) (k := 4) (w := .null) (by decide +kernel) (fk_M6_4 hx0) (fit_Or "TreeStore$Part" _) (fun σ5 => ?_)
    refine b_run [(12, .goto 11, 23, 0, .null), (23, .aload_n 0, 0, 0, .null), (24, .aload_n 1, 0, 0, .null)] (pc' := 25) (ls' := [some (.ref x0), some (.ref x1)]) (st' := [.ref x1, .ref x0]) (by decide +kernel) rfl ?_
    refine b_pM (q := 33) (ci := 6) (k := 5) (w := .null) (by decide +kernel) (fk_M6_5 hx0) (fit_Or "TreeStore$Part" _) (fun σ6 => ?_)
    exact b_ret0 (i := (.return_, 0, 0, .null)) (by decide +kernel) rfl rfl
/-- TreeStore$Row.isWord(IILjava/lang/String;)Z -/
def f99 (F : Nat) (x0 : Nat) (x1 : Int32) (x2 : Int32) (x3 : Nat) (σ : St) : Rs := cI (f248 F x3 σ) fun c2 σ1 => 
    if x2 = c2 then 
    cI (f94 F x0 x1 x3 σ1) fun c4 σ3 => 
    if c4 = 0 then oI 0 σ3
    else oI 1 σ3
    else oI 0 σ1
theorem s99 {sc : aSc} (hv : vOk sc) (F : Nat) (x0 : Nat) (x1 : Int32) (x2 : Int32) (x3 : Nat) (σ : St) (hx0 : isO x0 5 = true) (hx3 : isS x3 = true) : bEx sc 5 99 0 [some (.ref x0), some (.int x1), some (.int x2), some (.ref x3)] [] σ (f99 F x0 x1 x2 x3 σ) := by
  unfold f99
  refine b_run [(0, .iload_n 2, 0, 0, .null), (1, .aload_n 3, 0, 0, .null)] (pc' := 2) (ls' := [some (.ref x0), some (.int x1), some (.int x2), some (.ref x3)]) (st' := [.ref x3, .int x2]) (by decide +kernel) rfl ?_
  refine b_callI 248 1 [.ref x3] (rest := [.int x2]) (by decide +kernel) rfl rfl rfl (go_X rfl (by decide +kernel) hx3) rfl (s248 hv F x3 σ hx3) (by decide) (fun c2 σ1 => ?_)
  refine b_icF (c := .ne) (o := 16) (t := 21) (y := 0) (w := .null) (by decide +kernel) cmp_ne (fun _ => ?_) (fun _ => ?_)
  · refine b_run [(8, .aload_n 0, 0, 0, .null), (9, .iload_n 1, 0, 0, .null), (10, .aload_n 3, 0, 0, .null)] (pc' := 11) (ls' := [some (.ref x0), some (.int x1), some (.int x2), some (.ref x3)]) (st' := [.ref x3, .int x1, .ref x0]) (by decide +kernel) rfl ?_
    refine b_callI 94 3 [.ref x0, .int x1, .ref x3] (rest := []) (by decide +kernel) rfl rfl rfl (go_O rfl (by decide +kernel) hx0) rfl (s94 hv F x0 x1 x3 σ1 hx0 hx3) (by decide) (fun c4 σ3 => ?_)
    refine b_izT (c := .eq) (o := 7) (t := 21) (y := 0) (w := .null) (by decide +kernel) cmp_eq (fun _ => ?_) (fun _ => ?_)
    · refine b_run [(21, .iconst 0, 0, 0, .null)] (pc' := 22) (ls' := [some (.ref x0), some (.int x1), some (.int x2), some (.ref x3)]) (st' := [.int 0]) (by decide +kernel) rfl ?_
      exact b_ret (i := (.ireturn, 0, 0, .null)) (by decide +kernel) rfl rfl (by decide +kernel)
    · refine b_run [(17, .iconst 1, 0, 0, .null), (18, .goto 4, 22, 0, .null)] (pc' := 22) (ls' := [some (.ref x0), some (.int x1), some (.int x2), some (.ref x3)]) (st' := [.int 1]) (by decide +kernel) rfl ?_
      exact b_ret (i := (.ireturn, 0, 0, .null)) (by decide +kernel) rfl rfl (by decide +kernel)
  · refine b_run [(21, .iconst 0, 0, 0, .null)] (pc' := 22) (ls' := [some (.ref x0), some (.int x1), some (.int x2), some (.ref x3)]) (st' := [.int 0]) (by decide +kernel) rfl ?_
    exact b_ret (i := (.ireturn, 0, 0, .null)) (by decide +kernel) rfl rfl (by decide +kernel)
def f48_70 (F : Nat) : Nat → Int32 → Int32 → Int32 → St → Rs
  | 0, _, _, _, _ => none
  | n + 1, y1, y2, y3, σ => if y3 < 12 then 
    if inB y3 12 then lt (100 + 1 * y3.toNatClampNeg) fun c12 => if isX c12 = true then 
    lt (xAxW.getD (c12 - 100) 0) fun c13 => if isS c13 = true then 
    cI (f99 F 1001 y2 y1 c13 σ) fun c15 σ14 => 
    if c15 = 0 then f48_70 F n y1 y2 (y3 + 1) σ14
    else if inB y3 12 then lt (100 + 1 * y3.toNatClampNeg) fun c16 => if isX c16 = true then some (.inl (some (.ref c16)), σ14) else none else none else none else none else none
    else oT 10 σ
theorem s48_70 {sc : aSc} (hv : vOk sc) (F : Nat) : ∀ (n : Nat) (y1 : Int32) (y2 : Int32) (y3 : Int32) (σ : St), bEx sc 6 48 70 [some (.ref 1030), some (.int y1), some (.int y2), some (.int y3)] [] σ (f48_70 F n y1 y2 y3 σ) := by
  intro n
  induction n with
  | zero => intro y1 y2 y3 σ; exact b_none
  | succ n ih =>
    intro y1 y2 y3 σ
    rw [f48_70.eq_2]
    refine b_run [(70, .iload_n 3, 0, 0, .null)] (pc' := 71) (ls' := [some (.ref 1030), some (.int y1), some (.int y2), some (.int y3)]) (st' := [.int y3]) (by decide +kernel) rfl ?_
    refine b_gs (q := 135) (y := 0) (w := .ref 112) (by decide +kernel) ?_
    refine b_l112 (ci := 0) (y := 0) (w := .null) (by decide +kernel) ?_
    refine b_icF (c := .ge) (o := 35) (t := 110) (y := 0) (w := .null) (by decide +kernel) cmp_ge (fun _ => ?_) (fun _ => ?_)
    · refine b_run [(78, .aload_n 0, 0, 0, .null)] (pc' := 79) (ls' := [some (.ref 1030), some (.int y1), some (.int y2), some (.int y3)]) (st' := [.ref 1030]) (by decide +kernel) rfl ?_
      refine b_getC (b := 1001) (q := 23) (ci := 2) (k := 0) (w := .null) (by decide +kernel) (by decide +kernel) ?_
      refine b_run [(82, .iload_n 2, 0, 0, .null), (83, .iload_n 1, 0, 0, .null)] (pc' := 84) (ls' := [some (.ref 1030), some (.int y1), some (.int y2), some (.int y3)]) (st' := [.int y1, .int y2, .ref 1001]) (by decide +kernel) rfl ?_
      refine b_gs (q := 135) (y := 0) (w := .ref 112) (by decide +kernel) ?_
      refine b_run [(87, .iload_n 3, 0, 0, .null)] (pc' := 88) (ls' := [some (.ref 1030), some (.int y1), some (.int y2), some (.int y3)]) (st' := [.int y3, .ref 112, .int y1, .int y2, .ref 1001]) (by decide +kernel) rfl ?_
      refine b_guard (fun hb => ?_)
      refine b_a112 (ci := 0) (y := 0) (w := .null) (by decide +kernel) hb (fun c12 => b_guard (fun hc12 => ?_))
      refine b_gXR (q := 139) (w := .null) (by decide +kernel) hc12 (fun c13 => b_guard (fun hc13 => ?_))
      refine b_callI 99 4 [.ref 1001, .int y2, .int y1, .ref c13] (rest := []) (by decide +kernel) rfl rfl rfl (go_O rfl (by decide +kernel) (by decide +kernel : isO 1001 5 = true)) rfl (s99 hv F 1001 y2 y1 c13 σ (by decide +kernel : isO 1001 5 = true) hc13) (by decide) (fun c15 σ14 => ?_)
      refine b_izT (c := .eq) (o := 9) (t := 104) (y := 0) (w := .null) (by decide +kernel) cmp_eq (fun _ => ?_) (fun _ => ?_)
      · refine b_run [(104, .iinc 3 1, 0, 0, .null), (107, .goto (-37), 70, 0, .null)] (pc' := 70) (ls' := [some (.ref 1030), some (.int y1), some (.int y2), some (.int (y3 + 1))]) (st' := []) (by decide +kernel) rfl ?_
        exact b_wk (wS (wS (wS (wS w0)))) (ih y1 y2 (y3 + 1) σ14)
      · refine b_gs (q := 135) (y := 0) (w := .ref 112) (by decide +kernel) ?_
        refine b_run [(101, .iload_n 3, 0, 0, .null)] (pc' := 102) (ls' := [some (.ref 1030), some (.int y1), some (.int y2), some (.int y3)]) (st' := [.int y3, .ref 112]) (by decide +kernel) rfl ?_
        refine b_guard (fun hb => ?_)
        refine b_a112 (ci := 0) (y := 0) (w := .null) (by decide +kernel) hb (fun c16 => b_guard (fun hc16 => ?_))
        exact b_ret (i := (.areturn, 0, 0, .null)) (by decide +kernel) rfl rfl (fit_Or "TreeStore$Axis" _)
    · exact b_thr (i := (.new 48, 10, 1, .null)) (by decide +kernel) rfl rfl rfl
/-- TreeStore$PathReader.axis()LTreeStore$Axis; -/
def f48 (F : Nat) (σ : St) : Rs := cI (f44 F 64 σ) fun c2 σ1 => 
    if c2 = 0 then 
    lt (σ1.1 1030 5) fun c3 => 
    cI (f96 F 1001 c3 σ1) fun c5 σ4 => 
    if c5 = 0 then some (.inl (some (.ref 100)), σ4)
    else lt (σ4.1 1030 5) fun c6 => 
    cI (f94 F 1001 (c6 + c5) 41 σ4) fun c8 σ7 => 
    if c8 = 0 then some (.inl (some (.ref 100)), σ7)
    else lt (σ7.1 1030 5) fun c9 => lt (σ7.1 1030 5) fun c10 => lt (uI σ7 1030 5 (c10 + (c5 + 2))) fun σ11 => f48_70 F F c5 c9 0 σ11
    else some (.inl (some (.ref 105)), σ1)
theorem s48 {sc : aSc} (hv : vOk sc) (F : Nat) (σ : St) : bEx sc 6 48 0 [some (.ref 1030), none, none, none] [] σ (f48 F σ) := by
  unfold f48
  refine b_run [(0, .aload_n 0, 0, 0, .null), (1, .bipush 64, 0, 0, .null)] (pc' := 3) (ls' := [some (.ref 1030), none, none, none]) (st' := [.int 64, .ref 1030]) (by decide +kernel) rfl ?_
  refine b_callI 44 2 [.ref 1030, .int 64] (rest := []) (by decide +kernel) rfl rfl rfl (go_O rfl (by decide +kernel) (by decide +kernel : isO 1030 2 = true)) rfl (s44 hv F 64 σ) (by decide) (fun c2 σ1 => ?_)
  refine b_izT (c := .eq) (o := 7) (t := 13) (y := 0) (w := .null) (by decide +kernel) cmp_eq (fun _ => ?_) (fun _ => ?_)
  · refine b_run [(13, .aload_n 0, 0, 0, .null)] (pc' := 14) (ls' := [some (.ref 1030), none, none, none]) (st' := [.ref 1030]) (by decide +kernel) rfl ?_
    refine b_getC (b := 1001) (q := 23) (ci := 2) (k := 0) (w := .null) (by decide +kernel) (by decide +kernel) ?_
    refine b_run [(17, .aload_n 0, 0, 0, .null)] (pc' := 18) (ls' := [some (.ref 1030), none, none, none]) (st' := [.ref 1030, .ref 1001]) (by decide +kernel) rfl ?_
    refine b_gI (q := 36) (ci := 2) (k := 5) (w := .null) (by decide +kernel) (by decide +kernel) (fun c3 => ?_)
    refine b_callI 96 2 [.ref 1001, .int c3] (rest := []) (by decide +kernel) rfl rfl rfl (go_O rfl (by decide +kernel) (by decide +kernel : isO 1001 5 = true)) rfl (s96 hv F 1001 c3 σ1 (by decide +kernel : isO 1001 5 = true)) (by decide) (fun c5 σ4 => ?_)
    refine b_run [(24, .istore_n 1, 0, 0, .null), (25, .iload_n 1, 0, 0, .null)] (pc' := 26) (ls' := [some (.ref 1030), some (.int c5), none, none]) (st' := [.int c5]) (by decide +kernel) rfl ?_
    refine b_izT (c := .eq) (o := 21) (t := 47) (y := 0) (w := .null) (by decide +kernel) cmp_eq (fun _ => ?_) (fun _ => ?_)
    · refine b_gs (q := 132) (y := 0) (w := .ref 100) (by decide +kernel) ?_
      exact b_ret (i := (.areturn, 0, 0, .null)) (by decide +kernel) rfl rfl (fit_Or "TreeStore$Axis" _)
    · refine b_run [(29, .aload_n 0, 0, 0, .null)] (pc' := 30) (ls' := [some (.ref 1030), some (.int c5), none, none]) (st' := [.ref 1030]) (by decide +kernel) rfl ?_
      refine b_getC (b := 1001) (q := 23) (ci := 2) (k := 0) (w := .null) (by decide +kernel) (by decide +kernel) ?_
      refine b_run [(33, .aload_n 0, 0, 0, .null)] (pc' := 34) (ls' := [some (.ref 1030), some (.int c5), none, none]) (st' := [.ref 1030, .ref 1001]) (by decide +kernel) rfl ?_
      refine b_gI (q := 36) (ci := 2) (k := 5) (w := .null) (by decide +kernel) (by decide +kernel) (fun c6 => ?_)
      refine b_run [(37, .iload_n 1, 0, 0, .null), (38, .iadd, 0, 0, .null), (39, .ldc 126, 0, 40, .ref 41)] (pc' := 41) (ls' := [some (.ref 1030), some (.int c5), none, none]) (st' := [.ref 41, .int (c6 + c5), .ref 1001]) (by decide +kernel) rfl ?_
      refine b_callI 94 3 [.ref 1001, .int (c6 + c5), .ref 41] (rest := []) (by decide +kernel) rfl rfl rfl (go_O rfl (by decide +kernel) (by decide +kernel : isO 1001 5 = true)) rfl (s94 hv F 1001 (c6 + c5) 41 σ4 (by decide +kernel : isO 1001 5 = true) (by decide +kernel : isS 41 = true)) (by decide) (fun c8 σ7 => ?_)
      refine b_izF (c := .ne) (o := 7) (t := 51) (y := 0) (w := .null) (by decide +kernel) cmp_ne (fun _ => ?_) (fun _ => ?_)
      · refine b_gs (q := 132) (y := 0) (w := .ref 100) (by decide +kernel) ?_
        exact b_ret (i := (.areturn, 0, 0, .null)) (by decide +kernel) rfl rfl (fit_Or "TreeStore$Axis" _)
      · refine b_run [(51, .aload_n 0, 0, 0, .null)] (pc' := 52) (ls' := [some (.ref 1030), some (.int c5), none, none]) (st' := [.ref 1030]) (by decide +kernel) rfl ?_
        refine b_gI (q := 36) (ci := 2) (k := 5) (w := .null) (by decide +kernel) (by decide +kernel) (fun c9 => ?_)
        refine b_run [(55, .istore_n 2, 0, 0, .null), (56, .aload_n 0, 0, 0, .null), (57, .dup, 0, 0, .null)] (pc' := 58) (ls' := [some (.ref 1030), some (.int c5), some (.int c9), none]) (st' := [.ref 1030, .ref 1030]) (by decide +kernel) rfl ?_
        refine b_gI (q := 36) (ci := 2) (k := 5) (w := .null) (by decide +kernel) (by decide +kernel) (fun c10 => ?_)
        refine b_run [(61, .iload_n 1, 0, 0, .null), (62, .iconst 2, 0, 0, .null), (63, .iadd, 0, 0, .null), (64, .iadd, 0, 0, .null)] (pc' := 65) (ls' := [some (.ref 1030), some (.int c5), some (.int c9), none]) (st' := [.int (c10 + (c5 + 2)), .ref 1030]) (by decide +kernel) rfl ?_
        refine b_pI (q := 36) (ci := 2) (k := 5) (w := .null) (by decide +kernel) (by decide +kernel) (fit_I _) (fun σ11 => ?_)
        refine b_run [(68, .iconst 0, 0, 0, .null), (69, .istore_n 3, 0, 0, .null)] (pc' := 70) (ls' := [some (.ref 1030), some (.int c5), some (.int c9), some (.int 0)]) (st' := []) (by decide +kernel) rfl ?_
        exact b_wk (wS (wS (wS (wS w0)))) (s48_70 hv F F c5 c9 0 σ11)
  · refine b_gs (q := 120) (y := 0) (w := .ref 105) (by decide +kernel) ?_
    exact b_ret (i := (.areturn, 0, 0, .null)) (by decide +kernel) rfl rfl (fit_Or "TreeStore$Axis" _)
/-- TreeStore$PathReader.expect(I)V -/
def f50 (F : Nat) (x1 : Int32) (σ : St) : Rs := cI (f44 F x1 σ) fun c2 σ1 => 
    if c2 = 0 then oT 10 σ1
    else oV σ1
theorem s50 {sc : aSc} (hv : vOk sc) (F : Nat) (x1 : Int32) (σ : St) : bEx sc 2 50 0 [some (.ref 1030), some (.int x1)] [] σ (f50 F x1 σ) := by
  unfold f50
  refine b_run [(0, .aload_n 0, 0, 0, .null), (1, .iload_n 1, 0, 0, .null)] (pc' := 2) (ls' := [some (.ref 1030), some (.int x1)]) (st' := [.int x1, .ref 1030]) (by decide +kernel) rfl ?_
  refine b_callI 44 2 [.ref 1030, .int x1] (rest := []) (by decide +kernel) rfl rfl rfl (go_O rfl (by decide +kernel) (by decide +kernel : isO 1030 2 = true)) rfl (s44 hv F x1 σ) (by decide) (fun c2 σ1 => ?_)
  refine b_izF (c := .ne) (o := 13) (t := 18) (y := 0) (w := .null) (by decide +kernel) cmp_ne (fun _ => ?_) (fun _ => ?_)
  · exact b_thr (i := (.new 48, 10, 1, .null)) (by decide +kernel) rfl rfl rfl
  · exact b_ret0 (i := (.return_, 0, 0, .null)) (by decide +kernel) rfl rfl
/-- TreeStore$PathReader.kindTest(II)I -/
def f51 (F : Nat) (x1 : Int32) (x2 : Int32) (σ : St) : Rs := cI (f99 F 1001 x1 x2 45 σ) fun c2 σ1 => 
    if c2 = 0 then 
    cI (f99 F 1001 x1 x2 46 σ1) fun c4 σ3 => 
    if c4 = 0 then 
    cI (f99 F 1001 x1 x2 47 σ3) fun c6 σ5 => 
    if c6 = 0 then oT 10 σ5
    else oI 4 σ5
    else oI 3 σ3
    else oI 2 σ1
theorem s51 {sc : aSc} (hv : vOk sc) (F : Nat) (x1 : Int32) (x2 : Int32) (σ : St) : bEx sc 6 51 0 [some (.ref 1030), some (.int x1), some (.int x2)] [] σ (f51 F x1 x2 σ) := by
  unfold f51
  refine b_run [(0, .aload_n 0, 0, 0, .null)] (pc' := 1) (ls' := [some (.ref 1030), some (.int x1), some (.int x2)]) (st' := [.ref 1030]) (by decide +kernel) rfl ?_
  refine b_getC (b := 1001) (q := 23) (ci := 2) (k := 0) (w := .null) (by decide +kernel) (by decide +kernel) ?_
  refine b_run [(4, .iload_n 1, 0, 0, .null), (5, .iload_n 2, 0, 0, .null), (6, .ldc 163, 0, 44, .ref 45)] (pc' := 8) (ls' := [some (.ref 1030), some (.int x1), some (.int x2)]) (st' := [.ref 45, .int x2, .int x1, .ref 1001]) (by decide +kernel) rfl ?_
  refine b_callI 99 4 [.ref 1001, .int x1, .int x2, .ref 45] (rest := []) (by decide +kernel) rfl rfl rfl (go_O rfl (by decide +kernel) (by decide +kernel : isO 1001 5 = true)) rfl (s99 hv F 1001 x1 x2 45 σ (by decide +kernel : isO 1001 5 = true) (by decide +kernel : isS 45 = true)) (by decide) (fun c2 σ1 => ?_)
  refine b_izT (c := .eq) (o := 5) (t := 16) (y := 0) (w := .null) (by decide +kernel) cmp_eq (fun _ => ?_) (fun _ => ?_)
  · refine b_run [(16, .aload_n 0, 0, 0, .null)] (pc' := 17) (ls' := [some (.ref 1030), some (.int x1), some (.int x2)]) (st' := [.ref 1030]) (by decide +kernel) rfl ?_
    refine b_getC (b := 1001) (q := 23) (ci := 2) (k := 0) (w := .null) (by decide +kernel) (by decide +kernel) ?_
    refine b_run [(20, .iload_n 1, 0, 0, .null), (21, .iload_n 2, 0, 0, .null), (22, .ldc 165, 0, 45, .ref 46)] (pc' := 24) (ls' := [some (.ref 1030), some (.int x1), some (.int x2)]) (st' := [.ref 46, .int x2, .int x1, .ref 1001]) (by decide +kernel) rfl ?_
    refine b_callI 99 4 [.ref 1001, .int x1, .int x2, .ref 46] (rest := []) (by decide +kernel) rfl rfl rfl (go_O rfl (by decide +kernel) (by decide +kernel : isO 1001 5 = true)) rfl (s99 hv F 1001 x1 x2 46 σ1 (by decide +kernel : isO 1001 5 = true) (by decide +kernel : isS 46 = true)) (by decide) (fun c4 σ3 => ?_)
    refine b_izT (c := .eq) (o := 5) (t := 32) (y := 0) (w := .null) (by decide +kernel) cmp_eq (fun _ => ?_) (fun _ => ?_)
    · refine b_run [(32, .aload_n 0, 0, 0, .null)] (pc' := 33) (ls' := [some (.ref 1030), some (.int x1), some (.int x2)]) (st' := [.ref 1030]) (by decide +kernel) rfl ?_
      refine b_getC (b := 1001) (q := 23) (ci := 2) (k := 0) (w := .null) (by decide +kernel) (by decide +kernel) ?_
      refine b_run [(36, .iload_n 1, 0, 0, .null), (37, .iload_n 2, 0, 0, .null), (38, .ldc 167, 0, 46, .ref 47)] (pc' := 40) (ls' := [some (.ref 1030), some (.int x1), some (.int x2)]) (st' := [.ref 47, .int x2, .int x1, .ref 1001]) (by decide +kernel) rfl ?_
      refine b_callI 99 4 [.ref 1001, .int x1, .int x2, .ref 47] (rest := []) (by decide +kernel) rfl rfl rfl (go_O rfl (by decide +kernel) (by decide +kernel : isO 1001 5 = true)) rfl (s99 hv F 1001 x1 x2 47 σ3 (by decide +kernel : isO 1001 5 = true) (by decide +kernel : isS 47 = true)) (by decide) (fun c6 σ5 => ?_)
      refine b_izT (c := .eq) (o := 5) (t := 48) (y := 0) (w := .null) (by decide +kernel) cmp_eq (fun _ => ?_) (fun _ => ?_)
      · exact b_thr (i := (.new 48, 10, 1, .null)) (by decide +kernel) rfl rfl rfl
      · refine b_run [(46, .iconst 4, 0, 0, .null)] (pc' := 47) (ls' := [some (.ref 1030), some (.int x1), some (.int x2)]) (st' := [.int 4]) (by decide +kernel) rfl ?_
        exact b_ret (i := (.ireturn, 0, 0, .null)) (by decide +kernel) rfl rfl (fit_I _)
    · refine b_run [(30, .iconst 3, 0, 0, .null)] (pc' := 31) (ls' := [some (.ref 1030), some (.int x1), some (.int x2)]) (st' := [.int 3]) (by decide +kernel) rfl ?_
      exact b_ret (i := (.ireturn, 0, 0, .null)) (by decide +kernel) rfl rfl (fit_I _)
  · refine b_run [(14, .iconst 2, 0, 0, .null)] (pc' := 15) (ls' := [some (.ref 1030), some (.int x1), some (.int x2)]) (st' := [.int 2]) (by decide +kernel) rfl ?_
    exact b_ret (i := (.ireturn, 0, 0, .null)) (by decide +kernel) rfl rfl (fit_I _)
/-- TreeStore$PathReader.readNameOrKind(LTreeStore$Step;)V -/
def f49 (F : Nat) (x1 : Nat) (σ : St) : Rs := lt (σ.1 1030 5) fun c1 => 
    cI (f96 F 1001 c1 σ) fun c3 σ2 => 
    if c3 = 0 then oT 10 σ2
    else lt (σ2.1 1030 5) fun c4 => 
    lt (σ2.1 1030 5) fun c5 => 
    lt (uI σ2 1030 5 (c5 + c3)) fun σ6 => 
    cI (f44 F 40 σ6) fun c8 σ7 => 
    if c8 = 0 then lt (uI σ7 x1 1 0) fun σ9 => lt (uI σ9 x1 2 c4) fun σ10 => lt (uI σ10 x1 3 c3) fun σ11 => oV σ11
    else cV (f50 F 41 σ7) fun σ12 => cI (f51 F c4 c3 σ12) fun c15 σ14 => lt (uI σ14 x1 1 c15) fun σ16 => oV σ16
theorem s49 {sc : aSc} (hv : vOk sc) (F : Nat) (x1 : Nat) (σ : St) (hx1 : isO x1 6 = true) : bEx sc 7 49 0 [some (.ref 1030), some (.ref x1), none, none] [] σ (f49 F x1 σ) := by
  unfold f49
  refine b_run [(0, .aload_n 0, 0, 0, .null)] (pc' := 1) (ls' := [some (.ref 1030), some (.ref x1), none, none]) (st' := [.ref 1030]) (by decide +kernel) rfl ?_
  refine b_getC (b := 1001) (q := 23) (ci := 2) (k := 0) (w := .null) (by decide +kernel) (by decide +kernel) ?_
  refine b_run [(4, .aload_n 0, 0, 0, .null)] (pc' := 5) (ls' := [some (.ref 1030), some (.ref x1), none, none]) (st' := [.ref 1030, .ref 1001]) (by decide +kernel) rfl ?_
  refine b_gI (q := 36) (ci := 2) (k := 5) (w := .null) (by decide +kernel) (by decide +kernel) (fun c1 => ?_)
  refine b_callI 96 2 [.ref 1001, .int c1] (rest := []) (by decide +kernel) rfl rfl rfl (go_O rfl (by decide +kernel) (by decide +kernel : isO 1001 5 = true)) rfl (s96 hv F 1001 c1 σ (by decide +kernel : isO 1001 5 = true)) (by decide) (fun c3 σ2 => ?_)
  refine b_run [(11, .istore_n 2, 0, 0, .null), (12, .iload_n 2, 0, 0, .null)] (pc' := 13) (ls' := [some (.ref 1030), some (.ref x1), some (.int c3), none]) (st' := [.int c3]) (by decide +kernel) rfl ?_
  refine b_izF (c := .ne) (o := 13) (t := 26) (y := 0) (w := .null) (by decide +kernel) cmp_ne (fun _ => ?_) (fun _ => ?_)
  · exact b_thr (i := (.new 48, 10, 1, .null)) (by decide +kernel) rfl rfl rfl
  · refine b_run [(26, .aload_n 0, 0, 0, .null)] (pc' := 27) (ls' := [some (.ref 1030), some (.ref x1), some (.int c3), none]) (st' := [.ref 1030]) (by decide +kernel) rfl ?_
    refine b_gI (q := 36) (ci := 2) (k := 5) (w := .null) (by decide +kernel) (by decide +kernel) (fun c4 => ?_)
    refine b_run [(30, .istore_n 3, 0, 0, .null), (31, .aload_n 0, 0, 0, .null), (32, .dup, 0, 0, .null)] (pc' := 33) (ls' := [some (.ref 1030), some (.ref x1), some (.int c3), some (.int c4)]) (st' := [.ref 1030, .ref 1030]) (by decide +kernel) rfl ?_
    refine b_gI (q := 36) (ci := 2) (k := 5) (w := .null) (by decide +kernel) (by decide +kernel) (fun c5 => ?_)
    refine b_run [(36, .iload_n 2, 0, 0, .null), (37, .iadd, 0, 0, .null)] (pc' := 38) (ls' := [some (.ref 1030), some (.ref x1), some (.int c3), some (.int c4)]) (st' := [.int (c5 + c3), .ref 1030]) (by decide +kernel) rfl ?_
    refine b_pI (q := 36) (ci := 2) (k := 5) (w := .null) (by decide +kernel) (by decide +kernel) (fit_I _) (fun σ6 => ?_)
    refine b_run [(41, .aload_n 0, 0, 0, .null), (42, .bipush 40, 0, 0, .null)] (pc' := 44) (ls' := [some (.ref 1030), some (.ref x1), some (.int c3), some (.int c4)]) (st' := [.int 40, .ref 1030]) (by decide +kernel) rfl ?_
    refine b_callI 44 2 [.ref 1030, .int 40] (rest := []) (by decide +kernel) rfl rfl rfl (go_O rfl (by decide +kernel) (by decide +kernel : isO 1030 2 = true)) rfl (s44 hv F 40 σ6) (by decide) (fun c8 σ7 => ?_)
    refine b_izT (c := .eq) (o := 20) (t := 67) (y := 0) (w := .null) (by decide +kernel) cmp_eq (fun _ => ?_) (fun _ => ?_)
    · refine b_run [(67, .aload_n 1, 0, 0, .null), (68, .iconst 0, 0, 0, .null)] (pc' := 69) (ls' := [some (.ref 1030), some (.ref x1), some (.int c3), some (.int c4)]) (st' := [.int 0, .ref x1]) (by decide +kernel) rfl ?_
      refine b_pI (q := 155) (ci := 6) (k := 1) (w := .null) (by decide +kernel) (fk_I6_1 hx1) (fit_I _) (fun σ9 => ?_)
      refine b_run [(72, .aload_n 1, 0, 0, .null), (73, .iload_n 3, 0, 0, .null)] (pc' := 74) (ls' := [some (.ref 1030), some (.ref x1), some (.int c3), some (.int c4)]) (st' := [.int c4, .ref x1]) (by decide +kernel) rfl ?_
      refine b_pI (q := 158) (ci := 6) (k := 2) (w := .null) (by decide +kernel) (fk_I6_2 hx1) (fit_I _) (fun σ10 => ?_)
      refine b_run [(77, .aload_n 1, 0, 0, .null), (78, .iload_n 2, 0, 0, .null)] (pc' := 79) (ls' := [some (.ref 1030), some (.ref x1), some (.int c3), some (.int c4)]) (st' := [.int c3, .ref x1]) (by decide +kernel) rfl ?_
      refine b_pI (q := 161) (ci := 6) (k := 3) (w := .null) (by decide +kernel) (fk_I6_3 hx1) (fit_I _) (fun σ11 => ?_)
      exact b_ret0 (i := (.return_, 0, 0, .null)) (by decide +kernel) rfl rfl
    · refine b_run [(50, .aload_n 0, 0, 0, .null), (51, .bipush 41, 0, 0, .null)] (pc' := 53) (ls' := [some (.ref 1030), some (.ref x1), some (.int c3), some (.int c4)]) (st' := [.int 41, .ref 1030]) (by decide +kernel) rfl ?_
      refine b_callV 50 2 [.ref 1030, .int 41] (rest := []) (by decide +kernel) rfl rfl rfl (go_O rfl (by decide +kernel) (by decide +kernel : isO 1030 2 = true)) rfl (s50 hv F 41 σ7) (by decide) (fun σ12 => ?_)
      refine b_run [(56, .aload_n 1, 0, 0, .null), (57, .aload_n 0, 0, 0, .null), (58, .iload_n 3, 0, 0, .null), (59, .iload_n 2, 0, 0, .null)] (pc' := 60) (ls' := [some (.ref 1030), some (.ref x1), some (.int c3), some (.int c4)]) (st' := [.int c3, .int c4, .ref 1030, .ref x1]) (by decide +kernel) rfl ?_
      refine b_callI 51 3 [.ref 1030, .int c4, .int c3] (rest := [.ref x1]) (by decide +kernel) rfl rfl rfl (go_O rfl (by decide +kernel) (by decide +kernel : isO 1030 2 = true)) rfl (s51 hv F c4 c3 σ12) (by decide) (fun c15 σ14 => ?_)
      refine b_pI (q := 155) (ci := 6) (k := 1) (w := .null) (by decide +kernel) (fk_I6_1 hx1) (fit_I _) (fun σ16 => ?_)
      exact b_ret0 (i := (.return_, 0, 0, .null)) (by decide +kernel) rfl rfl
/-- TreeStore$PathReader.deeper(I)I -/
def f52 (F : Nat) (x1 : Int32) (σ : St) : Rs := if x1 < 4 then oI (x1 + 1) σ
    else oT 10 σ
theorem s52 {sc : aSc} (hv : vOk sc) (F : Nat) (x1 : Int32) (σ : St) : bEx sc 0 52 0 [some (.ref 1030), some (.int x1)] [] σ (f52 F x1 σ) := by
  unfold f52
  refine b_run [(0, .iload_n 1, 0, 0, .null), (1, .iconst 4, 0, 0, .null)] (pc' := 2) (ls' := [some (.ref 1030), some (.int x1)]) (st' := [.int 4, .int x1]) (by decide +kernel) rfl ?_
  refine b_icT (c := .lt) (o := 13) (t := 15) (y := 0) (w := .null) (by decide +kernel) cmp_lt (fun _ => ?_) (fun _ => ?_)
  · refine b_run [(15, .iload_n 1, 0, 0, .null), (16, .iconst 1, 0, 0, .null), (17, .iadd, 0, 0, .null)] (pc' := 18) (ls' := [some (.ref 1030), some (.int x1)]) (st' := [.int (x1 + 1)]) (by decide +kernel) rfl ?_
    exact b_ret (i := (.ireturn, 0, 0, .null)) (by decide +kernel) rfl rfl (fit_I _)
  · exact b_thr (i := (.new 48, 10, 1, .null)) (by decide +kernel) rfl rfl rfl
/-- TreeStore$PathReader.comparison()I -/
def f60 (F : Nat) (σ : St) : Rs := cI (f44 F 61 σ) fun c2 σ1 => 
    if c2 = 0 then 
    cI (f44 F 60 σ1) fun c4 σ3 => 
    if c4 = 0 then 
    cI (f44 F 62 σ3) fun c6 σ5 => 
    if c6 = 0 then 
    cI (f44 F 33 σ5) fun c8 σ7 => 
    if c8 = 0 then oI ((-1)) σ7
    else cV (f50 F 61 σ7) fun σ9 => oI 9 σ9
    else oI 11 σ5
    else oI 10 σ3
    else oI 8 σ1
theorem s60 {sc : aSc} (hv : vOk sc) (F : Nat) (σ : St) : bEx sc 3 60 0 [some (.ref 1030)] [] σ (f60 F σ) := by
  unfold f60
  refine b_run [(0, .aload_n 0, 0, 0, .null), (1, .bipush 61, 0, 0, .null)] (pc' := 3) (ls' := [some (.ref 1030)]) (st' := [.int 61, .ref 1030]) (by decide +kernel) rfl ?_
  refine b_callI 44 2 [.ref 1030, .int 61] (rest := []) (by decide +kernel) rfl rfl rfl (go_O rfl (by decide +kernel) (by decide +kernel : isO 1030 2 = true)) rfl (s44 hv F 61 σ) (by decide) (fun c2 σ1 => ?_)
  refine b_izT (c := .eq) (o := 6) (t := 12) (y := 0) (w := .null) (by decide +kernel) cmp_eq (fun _ => ?_) (fun _ => ?_)
  · refine b_run [(12, .aload_n 0, 0, 0, .null), (13, .bipush 60, 0, 0, .null)] (pc' := 15) (ls' := [some (.ref 1030)]) (st' := [.int 60, .ref 1030]) (by decide +kernel) rfl ?_
    refine b_callI 44 2 [.ref 1030, .int 60] (rest := []) (by decide +kernel) rfl rfl rfl (go_O rfl (by decide +kernel) (by decide +kernel : isO 1030 2 = true)) rfl (s44 hv F 60 σ1) (by decide) (fun c4 σ3 => ?_)
    refine b_izT (c := .eq) (o := 6) (t := 24) (y := 0) (w := .null) (by decide +kernel) cmp_eq (fun _ => ?_) (fun _ => ?_)
    · refine b_run [(24, .aload_n 0, 0, 0, .null), (25, .bipush 62, 0, 0, .null)] (pc' := 27) (ls' := [some (.ref 1030)]) (st' := [.int 62, .ref 1030]) (by decide +kernel) rfl ?_
      refine b_callI 44 2 [.ref 1030, .int 62] (rest := []) (by decide +kernel) rfl rfl rfl (go_O rfl (by decide +kernel) (by decide +kernel : isO 1030 2 = true)) rfl (s44 hv F 62 σ3) (by decide) (fun c6 σ5 => ?_)
      refine b_izT (c := .eq) (o := 6) (t := 36) (y := 0) (w := .null) (by decide +kernel) cmp_eq (fun _ => ?_) (fun _ => ?_)
      · refine b_run [(36, .aload_n 0, 0, 0, .null), (37, .bipush 33, 0, 0, .null)] (pc' := 39) (ls' := [some (.ref 1030)]) (st' := [.int 33, .ref 1030]) (by decide +kernel) rfl ?_
        refine b_callI 44 2 [.ref 1030, .int 33] (rest := []) (by decide +kernel) rfl rfl rfl (go_O rfl (by decide +kernel) (by decide +kernel : isO 1030 2 = true)) rfl (s44 hv F 33 σ5) (by decide) (fun c8 σ7 => ?_)
        refine b_izT (c := .eq) (o := 12) (t := 54) (y := 0) (w := .null) (by decide +kernel) cmp_eq (fun _ => ?_) (fun _ => ?_)
        · refine b_run [(54, .iconst (-1), 0, 0, .null)] (pc' := 55) (ls' := [some (.ref 1030)]) (st' := [.int ((-1))]) (by decide +kernel) rfl ?_
          exact b_ret (i := (.ireturn, 0, 0, .null)) (by decide +kernel) rfl rfl (fit_I _)
        · refine b_run [(45, .aload_n 0, 0, 0, .null), (46, .bipush 61, 0, 0, .null)] (pc' := 48) (ls' := [some (.ref 1030)]) (st' := [.int 61, .ref 1030]) (by decide +kernel) rfl ?_
          refine b_callV 50 2 [.ref 1030, .int 61] (rest := []) (by decide +kernel) rfl rfl rfl (go_O rfl (by decide +kernel) (by decide +kernel : isO 1030 2 = true)) rfl (s50 hv F 61 σ7) (by decide) (fun σ9 => ?_)
          refine b_run [(51, .bipush 9, 0, 0, .null)] (pc' := 53) (ls' := [some (.ref 1030)]) (st' := [.int 9]) (by decide +kernel) rfl ?_
          exact b_ret (i := (.ireturn, 0, 0, .null)) (by decide +kernel) rfl rfl (fit_I _)
      · refine b_run [(33, .bipush 11, 0, 0, .null)] (pc' := 35) (ls' := [some (.ref 1030)]) (st' := [.int 11]) (by decide +kernel) rfl ?_
        exact b_ret (i := (.ireturn, 0, 0, .null)) (by decide +kernel) rfl rfl (fit_I _)
    · refine b_run [(21, .bipush 10, 0, 0, .null)] (pc' := 23) (ls' := [some (.ref 1030)]) (st' := [.int 10]) (by decide +kernel) rfl ?_
      exact b_ret (i := (.ireturn, 0, 0, .null)) (by decide +kernel) rfl rfl (fit_I _)
  · refine b_run [(9, .bipush 8, 0, 0, .null)] (pc' := 11) (ls' := [some (.ref 1030)]) (st' := [.int 8]) (by decide +kernel) rfl ?_
    exact b_ret (i := (.ireturn, 0, 0, .null)) (by decide +kernel) rfl rfl (fit_I _)
/-- TreeStore$PathReader.signComes()Z -/
def f59 (F : Nat) (σ : St) : Rs := lt (σ.1 1030 5) fun c1 => 
    cI (f92 F 1001 c1 σ) fun c3 σ2 => 
    if c3 = 43 then oI 1 σ2
    else lt (σ2.1 1030 5) fun c4 => 
    cI (f92 F 1001 c4 σ2) fun c6 σ5 => 
    if c6 = 45 then oI 1 σ5
    else oI 0 σ5
theorem s59 {sc : aSc} (hv : vOk sc) (F : Nat) (σ : St) : bEx sc 1 59 0 [some (.ref 1030)] [] σ (f59 F σ) := by
  unfold f59
  refine b_run [(0, .aload_n 0, 0, 0, .null)] (pc' := 1) (ls' := [some (.ref 1030)]) (st' := [.ref 1030]) (by decide +kernel) rfl ?_
  refine b_getC (b := 1001) (q := 23) (ci := 2) (k := 0) (w := .null) (by decide +kernel) (by decide +kernel) ?_
  refine b_run [(4, .aload_n 0, 0, 0, .null)] (pc' := 5) (ls' := [some (.ref 1030)]) (st' := [.ref 1030, .ref 1001]) (by decide +kernel) rfl ?_
  refine b_gI (q := 36) (ci := 2) (k := 5) (w := .null) (by decide +kernel) (by decide +kernel) (fun c1 => ?_)
  refine b_callI 92 2 [.ref 1001, .int c1] (rest := []) (by decide +kernel) rfl rfl rfl (go_O rfl (by decide +kernel) (by decide +kernel : isO 1001 5 = true)) rfl (s92 hv F 1001 c1 σ (by decide +kernel : isO 1001 5 = true)) (by decide) (fun c3 σ2 => ?_)
  refine b_run [(11, .bipush 43, 0, 0, .null)] (pc' := 13) (ls' := [some (.ref 1030)]) (st' := [.int 43, .int c3]) (by decide +kernel) rfl ?_
  refine b_icT (c := .eq) (o := 19) (t := 32) (y := 0) (w := .null) (by decide +kernel) cmp_eq (fun _ => ?_) (fun _ => ?_)
  · refine b_run [(32, .iconst 1, 0, 0, .null), (33, .goto 4, 37, 0, .null)] (pc' := 37) (ls' := [some (.ref 1030)]) (st' := [.int 1]) (by decide +kernel) rfl ?_
    exact b_ret (i := (.ireturn, 0, 0, .null)) (by decide +kernel) rfl rfl (by decide +kernel)
  · refine b_run [(16, .aload_n 0, 0, 0, .null)] (pc' := 17) (ls' := [some (.ref 1030)]) (st' := [.ref 1030]) (by decide +kernel) rfl ?_
    refine b_getC (b := 1001) (q := 23) (ci := 2) (k := 0) (w := .null) (by decide +kernel) (by decide +kernel) ?_
    refine b_run [(20, .aload_n 0, 0, 0, .null)] (pc' := 21) (ls' := [some (.ref 1030)]) (st' := [.ref 1030, .ref 1001]) (by decide +kernel) rfl ?_
    refine b_gI (q := 36) (ci := 2) (k := 5) (w := .null) (by decide +kernel) (by decide +kernel) (fun c4 => ?_)
    refine b_callI 92 2 [.ref 1001, .int c4] (rest := []) (by decide +kernel) rfl rfl rfl (go_O rfl (by decide +kernel) (by decide +kernel : isO 1001 5 = true)) rfl (s92 hv F 1001 c4 σ2 (by decide +kernel : isO 1001 5 = true)) (by decide) (fun c6 σ5 => ?_)
    refine b_run [(27, .bipush 45, 0, 0, .null)] (pc' := 29) (ls' := [some (.ref 1030)]) (st' := [.int 45, .int c6]) (by decide +kernel) rfl ?_
    refine b_icF (c := .ne) (o := 7) (t := 36) (y := 0) (w := .null) (by decide +kernel) cmp_ne (fun _ => ?_) (fun _ => ?_)
    · refine b_run [(32, .iconst 1, 0, 0, .null), (33, .goto 4, 37, 0, .null)] (pc' := 37) (ls' := [some (.ref 1030)]) (st' := [.int 1]) (by decide +kernel) rfl ?_
      exact b_ret (i := (.ireturn, 0, 0, .null)) (by decide +kernel) rfl rfl (by decide +kernel)
    · refine b_run [(36, .iconst 0, 0, 0, .null)] (pc' := 37) (ls' := [some (.ref 1030)]) (st' := [.int 0]) (by decide +kernel) rfl ?_
      exact b_ret (i := (.ireturn, 0, 0, .null)) (by decide +kernel) rfl rfl (by decide +kernel)
def f56_8 (F : Nat) : Nat → Nat → Int32 → St → Rs
  | 0, _, _, _ => none
  | n + 1, y1, y2, σ => if y2 < 6 then 
    lt (σ.1 1030 5) fun c3 => 
    cI (f92 F 1001 c3 σ) fun c5 σ4 => 
    cI (f23 F c5 σ4) fun c7 σ6 => 
    if c7 = 0 then some (.inl (some (.ref y1)), σ6)
    else lt (σ6.2.1 y1 8) fun c8 => 
    lt (σ6.1 1030 5) fun c9 => 
    cI (f92 F 1001 c9 σ6) fun c11 σ10 => 
    lt (uJ σ10 y1 8 ((c8 * 10) + ((c11 - 48 : Int32).toInt64))) fun σ12 => lt (σ12.1 1030 5) fun c13 => lt (uI σ12 1030 5 (c13 + 1)) fun σ14 => f56_8 F n y1 (y2 + 1) σ14
    else some (.inl (some (.ref y1)), σ)
theorem s56_8 {sc : aSc} (hv : vOk sc) (F : Nat) : ∀ (n : Nat) (y1 : Nat) (y2 : Int32) (σ : St) (_ : isO y1 1 = true), bEx sc 2 56 8 [some (.ref 1030), some (.ref y1), some (.int y2)] [] σ (f56_8 F n y1 y2 σ) := by
  intro n
  induction n with
  | zero => intro y1 y2 σ hy1; exact b_none
  | succ n ih =>
    intro y1 y2 σ hy1
    rw [f56_8.eq_2]
    refine b_run [(8, .iload_n 2, 0, 0, .null), (9, .bipush 6, 0, 0, .null)] (pc' := 11) (ls' := [some (.ref 1030), some (.ref y1), some (.int y2)]) (st' := [.int 6, .int y2]) (by decide +kernel) rfl ?_
    refine b_icF (c := .ge) (o := 64) (t := 75) (y := 0) (w := .null) (by decide +kernel) cmp_ge (fun _ => ?_) (fun _ => ?_)
    · refine b_run [(14, .aload_n 0, 0, 0, .null)] (pc' := 15) (ls' := [some (.ref 1030), some (.ref y1), some (.int y2)]) (st' := [.ref 1030]) (by decide +kernel) rfl ?_
      refine b_getC (b := 1001) (q := 23) (ci := 2) (k := 0) (w := .null) (by decide +kernel) (by decide +kernel) ?_
      refine b_run [(18, .aload_n 0, 0, 0, .null)] (pc' := 19) (ls' := [some (.ref 1030), some (.ref y1), some (.int y2)]) (st' := [.ref 1030, .ref 1001]) (by decide +kernel) rfl ?_
      refine b_gI (q := 36) (ci := 2) (k := 5) (w := .null) (by decide +kernel) (by decide +kernel) (fun c3 => ?_)
      refine b_callI 92 2 [.ref 1001, .int c3] (rest := []) (by decide +kernel) rfl rfl rfl (go_O rfl (by decide +kernel) (by decide +kernel : isO 1001 5 = true)) rfl (s92 hv F 1001 c3 σ (by decide +kernel : isO 1001 5 = true)) (by decide) (fun c5 σ4 => ?_)
      refine b_callI 23 1 [.int c5] (rest := []) (by decide +kernel) rfl rfl rfl (go_S rfl (by decide +kernel)) rfl (s23 hv F c5 σ4) (by decide) (fun c7 σ6 => ?_)
      refine b_izT (c := .eq) (o := 47) (t := 75) (y := 0) (w := .null) (by decide +kernel) cmp_eq (fun _ => ?_) (fun _ => ?_)
      · refine b_run [(75, .aload_n 1, 0, 0, .null)] (pc' := 76) (ls' := [some (.ref 1030), some (.ref y1), some (.int y2)]) (st' := [.ref y1]) (by decide +kernel) rfl ?_
        exact b_ret (i := (.areturn, 0, 0, .null)) (by decide +kernel) rfl rfl (fit_Or "TreeStore$Part" _)
      · refine b_run [(31, .aload_n 1, 0, 0, .null), (32, .aload_n 1, 0, 0, .null)] (pc' := 33) (ls' := [some (.ref 1030), some (.ref y1), some (.int y2)]) (st' := [.ref y1, .ref y1]) (by decide +kernel) rfl ?_
        refine b_gJ (q := 218) (ci := 1) (k := 8) (w := .null) (by decide +kernel) (fk_J1_8 hy1) (fun c8 => ?_)
        refine b_run [(36, .ldc2_w 221, 0, 0, .long 10), (39, .lmul, 0, 0, .null), (40, .aload_n 0, 0, 0, .null)] (pc' := 41) (ls' := [some (.ref 1030), some (.ref y1), some (.int y2)]) (st' := [.ref 1030, .long (c8 * 10), .ref y1]) (by decide +kernel) rfl ?_
        refine b_getC (b := 1001) (q := 23) (ci := 2) (k := 0) (w := .null) (by decide +kernel) (by decide +kernel) ?_
        refine b_run [(44, .aload_n 0, 0, 0, .null)] (pc' := 45) (ls' := [some (.ref 1030), some (.ref y1), some (.int y2)]) (st' := [.ref 1030, .ref 1001, .long (c8 * 10), .ref y1]) (by decide +kernel) rfl ?_
        refine b_gI (q := 36) (ci := 2) (k := 5) (w := .null) (by decide +kernel) (by decide +kernel) (fun c9 => ?_)
        refine b_callI 92 2 [.ref 1001, .int c9] (rest := [.long (c8 * 10), .ref y1]) (by decide +kernel) rfl rfl rfl (go_O rfl (by decide +kernel) (by decide +kernel : isO 1001 5 = true)) rfl (s92 hv F 1001 c9 σ6 (by decide +kernel : isO 1001 5 = true)) (by decide) (fun c11 σ10 => ?_)
        refine b_run [(51, .bipush 48, 0, 0, .null), (53, .isub, 0, 0, .null), (54, .i2l, 0, 0, .null), (55, .ladd, 0, 0, .null)] (pc' := 56) (ls' := [some (.ref 1030), some (.ref y1), some (.int y2)]) (st' := [.long ((c8 * 10) + ((c11 - 48 : Int32).toInt64)), .ref y1]) (by decide +kernel) rfl ?_
        refine b_pJ (q := 218) (ci := 1) (k := 8) (w := .null) (by decide +kernel) (fk_J1_8 hy1) (fit_J _) (fun σ12 => ?_)
        refine b_run [(59, .aload_n 0, 0, 0, .null), (60, .dup, 0, 0, .null)] (pc' := 61) (ls' := [some (.ref 1030), some (.ref y1), some (.int y2)]) (st' := [.ref 1030, .ref 1030]) (by decide +kernel) rfl ?_
        refine b_gI (q := 36) (ci := 2) (k := 5) (w := .null) (by decide +kernel) (by decide +kernel) (fun c13 => ?_)
        refine b_run [(64, .iconst 1, 0, 0, .null), (65, .iadd, 0, 0, .null)] (pc' := 66) (ls' := [some (.ref 1030), some (.ref y1), some (.int y2)]) (st' := [.int (c13 + 1), .ref 1030]) (by decide +kernel) rfl ?_
        refine b_pI (q := 36) (ci := 2) (k := 5) (w := .null) (by decide +kernel) (by decide +kernel) (fit_I _) (fun σ14 => ?_)
        refine b_run [(69, .iinc 2 1, 0, 0, .null), (72, .goto (-64), 8, 0, .null)] (pc' := 8) (ls' := [some (.ref 1030), some (.ref y1), some (.int (y2 + 1))]) (st' := []) (by decide +kernel) rfl ?_
        exact b_wk (wS (wS (wS w0))) (ih y1 (y2 + 1) σ14 hy1)
    · refine b_run [(75, .aload_n 1, 0, 0, .null)] (pc' := 76) (ls' := [some (.ref 1030), some (.ref y1), some (.int y2)]) (st' := [.ref y1]) (by decide +kernel) rfl ?_
      exact b_ret (i := (.areturn, 0, 0, .null)) (by decide +kernel) rfl rfl (fit_Or "TreeStore$Part" _)
/-- TreeStore$PathReader.number()LTreeStore$Part; -/
def f56 (F : Nat) (σ : St) : Rs := cR (f43 F 0 σ) fun c2 σ1 => if isO c2 1 = true then f56_8 F F c2 0 σ1 else none
theorem s56 {sc : aSc} (hv : vOk sc) (F : Nat) (σ : St) : bEx sc 2 56 0 [some (.ref 1030), none, none] [] σ (f56 F σ) := by
  unfold f56
  refine b_run [(0, .aload_n 0, 0, 0, .null), (1, .iconst 0, 0, 0, .null)] (pc' := 2) (ls' := [some (.ref 1030), none, none]) (st' := [.int 0, .ref 1030]) (by decide +kernel) rfl ?_
  refine b_callR 43 2 [.ref 1030, .int 0] (rest := []) (by decide +kernel) rfl rfl rfl (go_O rfl (by decide +kernel) (by decide +kernel : isO 1030 2 = true)) rfl (s43 hv F 0 σ) (by decide) (fun c2 σ1 => b_guard (fun hc2 => ?_))
  refine b_run [(5, .astore_n 1, 0, 0, .null), (6, .iconst 0, 0, 0, .null), (7, .istore_n 2, 0, 0, .null)] (pc' := 8) (ls' := [some (.ref 1030), some (.ref c2), some (.int 0)]) (st' := []) (by decide +kernel) rfl ?_
  exact b_wk (wS (wS (wS w0))) (s56_8 hv F F c2 0 σ1 hc2)
def f57_63 (F : Nat) (y1 : Nat) (σ : St) : Rs := lt (σ.1 1030 5) fun c12 => lt (uI σ y1 11 c12) fun σ13 => cV (f50 F 39 σ13) fun σ14 => some (.inl (some (.ref y1)), σ14)
theorem s57_63 {sc : aSc} (hv : vOk sc) (F : Nat) (y1 : Nat) (σ : St) (hy1 : isO y1 1 = true) : bEx sc 3 57 63 [some (.ref 1030), some (.ref y1)] [] σ (f57_63 F y1 σ) := by
  unfold f57_63
  refine b_run [(63, .aload_n 1, 0, 0, .null), (64, .aload_n 0, 0, 0, .null)] (pc' := 65) (ls' := [some (.ref 1030), some (.ref y1)]) (st' := [.ref 1030, .ref y1]) (by decide +kernel) rfl ?_
  refine b_gI (q := 36) (ci := 2) (k := 5) (w := .null) (by decide +kernel) (by decide +kernel) (fun c12 => ?_)
  refine b_pI (q := 226) (ci := 1) (k := 11) (w := .null) (by decide +kernel) (fk_I1_11 hy1) (fit_I _) (fun σ13 => ?_)
  refine b_run [(71, .aload_n 0, 0, 0, .null), (72, .bipush 39, 0, 0, .null)] (pc' := 74) (ls' := [some (.ref 1030), some (.ref y1)]) (st' := [.int 39, .ref 1030]) (by decide +kernel) rfl ?_
  refine b_callV 50 2 [.ref 1030, .int 39] (rest := []) (by decide +kernel) rfl rfl rfl (go_O rfl (by decide +kernel) (by decide +kernel : isO 1030 2 = true)) rfl (s50 hv F 39 σ13) (by decide) (fun σ14 => ?_)
  refine b_run [(77, .aload_n 1, 0, 0, .null)] (pc' := 78) (ls' := [some (.ref 1030), some (.ref y1)]) (st' := [.ref y1]) (by decide +kernel) rfl ?_
  exact b_ret (i := (.areturn, 0, 0, .null)) (by decide +kernel) rfl rfl (fit_Or "TreeStore$Part" _)
def f57_20 (F : Nat) : Nat → Nat → St → Rs
  | 0, _, _ => none
  | n + 1, y1, σ => lt (σ.1 1030 5) fun c7 => 
    lt (σ.1 1001 1) fun c8 => 
    if c7 < c8 then 
    lt (σ.1 1030 5) fun c9 => 
    cI (f92 F 1001 c9 σ) fun c11 σ10 => 
    if c11 = 39 then f57_63 F y1 σ10
    else lt (σ10.1 1030 5) fun c16 => lt (uI σ10 1030 5 (c16 + 1)) fun σ17 => f57_20 F n y1 σ17
    else f57_63 F y1 σ
theorem s57_20 {sc : aSc} (hv : vOk sc) (F : Nat) : ∀ (n : Nat) (y1 : Nat) (σ : St) (_ : isO y1 1 = true), bEx sc 3 57 20 [some (.ref 1030), some (.ref y1)] [] σ (f57_20 F n y1 σ) := by
  intro n
  induction n with
  | zero => intro y1 σ hy1; exact b_none
  | succ n ih =>
    intro y1 σ hy1
    rw [f57_20.eq_2]
    refine b_run [(20, .aload_n 0, 0, 0, .null)] (pc' := 21) (ls' := [some (.ref 1030), some (.ref y1)]) (st' := [.ref 1030]) (by decide +kernel) rfl ?_
    refine b_gI (q := 36) (ci := 2) (k := 5) (w := .null) (by decide +kernel) (by decide +kernel) (fun c7 => ?_)
    refine b_run [(24, .aload_n 0, 0, 0, .null)] (pc' := 25) (ls' := [some (.ref 1030), some (.ref y1)]) (st' := [.ref 1030, .int c7]) (by decide +kernel) rfl ?_
    refine b_getC (b := 1001) (q := 23) (ci := 2) (k := 0) (w := .null) (by decide +kernel) (by decide +kernel) ?_
    refine b_gI (q := 43) (ci := 5) (k := 1) (w := .null) (by decide +kernel) (by decide +kernel) (fun c8 => ?_)
    refine b_icF (c := .ge) (o := 32) (t := 63) (y := 0) (w := .null) (by decide +kernel) cmp_ge (fun _ => ?_) (fun _ => ?_)
    · refine b_run [(34, .aload_n 0, 0, 0, .null)] (pc' := 35) (ls' := [some (.ref 1030), some (.ref y1)]) (st' := [.ref 1030]) (by decide +kernel) rfl ?_
      refine b_getC (b := 1001) (q := 23) (ci := 2) (k := 0) (w := .null) (by decide +kernel) (by decide +kernel) ?_
      refine b_run [(38, .aload_n 0, 0, 0, .null)] (pc' := 39) (ls' := [some (.ref 1030), some (.ref y1)]) (st' := [.ref 1030, .ref 1001]) (by decide +kernel) rfl ?_
      refine b_gI (q := 36) (ci := 2) (k := 5) (w := .null) (by decide +kernel) (by decide +kernel) (fun c9 => ?_)
      refine b_callI 92 2 [.ref 1001, .int c9] (rest := []) (by decide +kernel) rfl rfl rfl (go_O rfl (by decide +kernel) (by decide +kernel : isO 1001 5 = true)) rfl (s92 hv F 1001 c9 σ (by decide +kernel : isO 1001 5 = true)) (by decide) (fun c11 σ10 => ?_)
      refine b_run [(45, .bipush 39, 0, 0, .null)] (pc' := 47) (ls' := [some (.ref 1030), some (.ref y1)]) (st' := [.int 39, .int c11]) (by decide +kernel) rfl ?_
      refine b_icT (c := .eq) (o := 16) (t := 63) (y := 0) (w := .null) (by decide +kernel) cmp_eq (fun _ => ?_) (fun _ => ?_)
      · exact b_wk (wS (wS w0)) (s57_63 hv F y1 σ10 hy1)
      · refine b_run [(50, .aload_n 0, 0, 0, .null), (51, .dup, 0, 0, .null)] (pc' := 52) (ls' := [some (.ref 1030), some (.ref y1)]) (st' := [.ref 1030, .ref 1030]) (by decide +kernel) rfl ?_
        refine b_gI (q := 36) (ci := 2) (k := 5) (w := .null) (by decide +kernel) (by decide +kernel) (fun c16 => ?_)
        refine b_run [(55, .iconst 1, 0, 0, .null), (56, .iadd, 0, 0, .null)] (pc' := 57) (ls' := [some (.ref 1030), some (.ref y1)]) (st' := [.int (c16 + 1), .ref 1030]) (by decide +kernel) rfl ?_
        refine b_pI (q := 36) (ci := 2) (k := 5) (w := .null) (by decide +kernel) (by decide +kernel) (fit_I _) (fun σ17 => ?_)
        refine b_run [(60, .goto (-40), 20, 0, .null)] (pc' := 20) (ls' := [some (.ref 1030), some (.ref y1)]) (st' := []) (by decide +kernel) rfl ?_
        exact b_wk (wS (wS w0)) (ih y1 σ17 hy1)
    · exact b_wk (wS (wS w0)) (s57_63 hv F y1 σ hy1)
/-- TreeStore$PathReader.literal()LTreeStore$Part; -/
def f57 (F : Nat) (σ : St) : Rs := cR (f43 F 5 σ) fun c2 σ1 => 
    if isO c2 1 = true then cV (f50 F 39 σ1) fun σ3 => lt (σ3.1 1030 5) fun c5 => lt (uI σ3 c2 10 c5) fun σ6 => f57_20 F F c2 σ6 else none
theorem s57 {sc : aSc} (hv : vOk sc) (F : Nat) (σ : St) : bEx sc 3 57 0 [some (.ref 1030), none] [] σ (f57 F σ) := by
  unfold f57
  refine b_run [(0, .aload_n 0, 0, 0, .null), (1, .iconst 5, 0, 0, .null)] (pc' := 2) (ls' := [some (.ref 1030), none]) (st' := [.int 5, .ref 1030]) (by decide +kernel) rfl ?_
  refine b_callR 43 2 [.ref 1030, .int 5] (rest := []) (by decide +kernel) rfl rfl rfl (go_O rfl (by decide +kernel) (by decide +kernel : isO 1030 2 = true)) rfl (s43 hv F 5 σ) (by decide) (fun c2 σ1 => b_guard (fun hc2 => ?_))
  refine b_run [(5, .astore_n 1, 0, 0, .null), (6, .aload_n 0, 0, 0, .null), (7, .bipush 39, 0, 0, .null)] (pc' := 9) (ls' := [some (.ref 1030), some (.ref c2)]) (st' := [.int 39, .ref 1030]) (by decide +kernel) rfl ?_
  refine b_callV 50 2 [.ref 1030, .int 39] (rest := []) (by decide +kernel) rfl rfl rfl (go_O rfl (by decide +kernel) (by decide +kernel : isO 1030 2 = true)) rfl (s50 hv F 39 σ1) (by decide) (fun σ3 => ?_)
  refine b_run [(12, .aload_n 1, 0, 0, .null), (13, .aload_n 0, 0, 0, .null)] (pc' := 14) (ls' := [some (.ref 1030), some (.ref c2)]) (st' := [.ref 1030, .ref c2]) (by decide +kernel) rfl ?_
  refine b_gI (q := 36) (ci := 2) (k := 5) (w := .null) (by decide +kernel) (by decide +kernel) (fun c5 => ?_)
  refine b_pI (q := 223) (ci := 1) (k := 10) (w := .null) (by decide +kernel) (fk_I1_10 hc2) (fit_I _) (fun σ6 => ?_)
  exact b_wk (wS (wS w0)) (s57_20 hv F F c2 σ6 hc2)
/-- TreeStore$PathReader.function(I)I -/
def f58 (F : Nat) (x1 : Int32) (σ : St) : Rs := lt (σ.1 1030 5) fun c1 => 
    cI (f99 F 1001 c1 x1 50 σ) fun c3 σ2 => 
    if c3 = 0 then 
    lt (σ2.1 1030 5) fun c4 => 
    cI (f99 F 1001 c4 x1 51 σ2) fun c6 σ5 => 
    if c6 = 0 then 
    lt (σ5.1 1030 5) fun c7 => 
    cI (f99 F 1001 c7 x1 52 σ5) fun c9 σ8 => 
    if c9 = 0 then 
    lt (σ8.1 1030 5) fun c10 => 
    cI (f99 F 1001 c10 x1 53 σ8) fun c12 σ11 => 
    if c12 = 0 then oI ((-1)) σ11
    else oI 7 σ11
    else oI 3 σ8
    else oI 2 σ5
    else oI 1 σ2
theorem s58 {sc : aSc} (hv : vOk sc) (F : Nat) (x1 : Int32) (σ : St) : bEx sc 6 58 0 [some (.ref 1030), some (.int x1)] [] σ (f58 F x1 σ) := by
  unfold f58
  refine b_run [(0, .aload_n 0, 0, 0, .null)] (pc' := 1) (ls' := [some (.ref 1030), some (.int x1)]) (st' := [.ref 1030]) (by decide +kernel) rfl ?_
  refine b_getC (b := 1001) (q := 23) (ci := 2) (k := 0) (w := .null) (by decide +kernel) (by decide +kernel) ?_
  refine b_run [(4, .aload_n 0, 0, 0, .null)] (pc' := 5) (ls' := [some (.ref 1030), some (.int x1)]) (st' := [.ref 1030, .ref 1001]) (by decide +kernel) rfl ?_
  refine b_gI (q := 36) (ci := 2) (k := 5) (w := .null) (by decide +kernel) (by decide +kernel) (fun c1 => ?_)
  refine b_run [(8, .iload_n 1, 0, 0, .null), (9, .ldc 210, 0, 49, .ref 50)] (pc' := 11) (ls' := [some (.ref 1030), some (.int x1)]) (st' := [.ref 50, .int x1, .int c1, .ref 1001]) (by decide +kernel) rfl ?_
  refine b_callI 99 4 [.ref 1001, .int c1, .int x1, .ref 50] (rest := []) (by decide +kernel) rfl rfl rfl (go_O rfl (by decide +kernel) (by decide +kernel : isO 1001 5 = true)) rfl (s99 hv F 1001 c1 x1 50 σ (by decide +kernel : isO 1001 5 = true) (by decide +kernel : isS 50 = true)) (by decide) (fun c3 σ2 => ?_)
  refine b_izT (c := .eq) (o := 5) (t := 19) (y := 0) (w := .null) (by decide +kernel) cmp_eq (fun _ => ?_) (fun _ => ?_)
  · refine b_run [(19, .aload_n 0, 0, 0, .null)] (pc' := 20) (ls' := [some (.ref 1030), some (.int x1)]) (st' := [.ref 1030]) (by decide +kernel) rfl ?_
    refine b_getC (b := 1001) (q := 23) (ci := 2) (k := 0) (w := .null) (by decide +kernel) (by decide +kernel) ?_
    refine b_run [(23, .aload_n 0, 0, 0, .null)] (pc' := 24) (ls' := [some (.ref 1030), some (.int x1)]) (st' := [.ref 1030, .ref 1001]) (by decide +kernel) rfl ?_
    refine b_gI (q := 36) (ci := 2) (k := 5) (w := .null) (by decide +kernel) (by decide +kernel) (fun c4 => ?_)
    refine b_run [(27, .iload_n 1, 0, 0, .null), (28, .ldc 212, 0, 50, .ref 51)] (pc' := 30) (ls' := [some (.ref 1030), some (.int x1)]) (st' := [.ref 51, .int x1, .int c4, .ref 1001]) (by decide +kernel) rfl ?_
    refine b_callI 99 4 [.ref 1001, .int c4, .int x1, .ref 51] (rest := []) (by decide +kernel) rfl rfl rfl (go_O rfl (by decide +kernel) (by decide +kernel : isO 1001 5 = true)) rfl (s99 hv F 1001 c4 x1 51 σ2 (by decide +kernel : isO 1001 5 = true) (by decide +kernel : isS 51 = true)) (by decide) (fun c6 σ5 => ?_)
    refine b_izT (c := .eq) (o := 5) (t := 38) (y := 0) (w := .null) (by decide +kernel) cmp_eq (fun _ => ?_) (fun _ => ?_)
    · refine b_run [(38, .aload_n 0, 0, 0, .null)] (pc' := 39) (ls' := [some (.ref 1030), some (.int x1)]) (st' := [.ref 1030]) (by decide +kernel) rfl ?_
      refine b_getC (b := 1001) (q := 23) (ci := 2) (k := 0) (w := .null) (by decide +kernel) (by decide +kernel) ?_
      refine b_run [(42, .aload_n 0, 0, 0, .null)] (pc' := 43) (ls' := [some (.ref 1030), some (.int x1)]) (st' := [.ref 1030, .ref 1001]) (by decide +kernel) rfl ?_
      refine b_gI (q := 36) (ci := 2) (k := 5) (w := .null) (by decide +kernel) (by decide +kernel) (fun c7 => ?_)
      refine b_run [(46, .iload_n 1, 0, 0, .null), (47, .ldc 214, 0, 51, .ref 52)] (pc' := 49) (ls' := [some (.ref 1030), some (.int x1)]) (st' := [.ref 52, .int x1, .int c7, .ref 1001]) (by decide +kernel) rfl ?_
      refine b_callI 99 4 [.ref 1001, .int c7, .int x1, .ref 52] (rest := []) (by decide +kernel) rfl rfl rfl (go_O rfl (by decide +kernel) (by decide +kernel : isO 1001 5 = true)) rfl (s99 hv F 1001 c7 x1 52 σ5 (by decide +kernel : isO 1001 5 = true) (by decide +kernel : isS 52 = true)) (by decide) (fun c9 σ8 => ?_)
      refine b_izT (c := .eq) (o := 5) (t := 57) (y := 0) (w := .null) (by decide +kernel) cmp_eq (fun _ => ?_) (fun _ => ?_)
      · refine b_run [(57, .aload_n 0, 0, 0, .null)] (pc' := 58) (ls' := [some (.ref 1030), some (.int x1)]) (st' := [.ref 1030]) (by decide +kernel) rfl ?_
        refine b_getC (b := 1001) (q := 23) (ci := 2) (k := 0) (w := .null) (by decide +kernel) (by decide +kernel) ?_
        refine b_run [(61, .aload_n 0, 0, 0, .null)] (pc' := 62) (ls' := [some (.ref 1030), some (.int x1)]) (st' := [.ref 1030, .ref 1001]) (by decide +kernel) rfl ?_
        refine b_gI (q := 36) (ci := 2) (k := 5) (w := .null) (by decide +kernel) (by decide +kernel) (fun c10 => ?_)
        refine b_run [(65, .iload_n 1, 0, 0, .null), (66, .ldc 216, 0, 52, .ref 53)] (pc' := 68) (ls' := [some (.ref 1030), some (.int x1)]) (st' := [.ref 53, .int x1, .int c10, .ref 1001]) (by decide +kernel) rfl ?_
        refine b_callI 99 4 [.ref 1001, .int c10, .int x1, .ref 53] (rest := []) (by decide +kernel) rfl rfl rfl (go_O rfl (by decide +kernel) (by decide +kernel : isO 1001 5 = true)) rfl (s99 hv F 1001 c10 x1 53 σ8 (by decide +kernel : isO 1001 5 = true) (by decide +kernel : isS 53 = true)) (by decide) (fun c12 σ11 => ?_)
        refine b_izT (c := .eq) (o := 8) (t := 79) (y := 0) (w := .null) (by decide +kernel) cmp_eq (fun _ => ?_) (fun _ => ?_)
        · refine b_run [(79, .iconst (-1), 0, 0, .null)] (pc' := 80) (ls' := [some (.ref 1030), some (.int x1)]) (st' := [.int ((-1))]) (by decide +kernel) rfl ?_
          exact b_ret (i := (.ireturn, 0, 0, .null)) (by decide +kernel) rfl rfl (fit_I _)
        · refine b_run [(74, .bipush 7, 0, 0, .null), (76, .goto 4, 80, 0, .null)] (pc' := 80) (ls' := [some (.ref 1030), some (.int x1)]) (st' := [.int 7]) (by decide +kernel) rfl ?_
          exact b_ret (i := (.ireturn, 0, 0, .null)) (by decide +kernel) rfl rfl (fit_I _)
      · refine b_run [(55, .iconst 3, 0, 0, .null)] (pc' := 56) (ls' := [some (.ref 1030), some (.int x1)]) (st' := [.int 3]) (by decide +kernel) rfl ?_
        exact b_ret (i := (.ireturn, 0, 0, .null)) (by decide +kernel) rfl rfl (fit_I _)
    · refine b_run [(36, .iconst 2, 0, 0, .null)] (pc' := 37) (ls' := [some (.ref 1030), some (.int x1)]) (st' := [.int 2]) (by decide +kernel) rfl ?_
      exact b_ret (i := (.ireturn, 0, 0, .null)) (by decide +kernel) rfl rfl (fit_I _)
  · refine b_run [(17, .iconst 1, 0, 0, .null)] (pc' := 18) (ls' := [some (.ref 1030), some (.int x1)]) (st' := [.int 1]) (by decide +kernel) rfl ?_
    exact b_ret (i := (.ireturn, 0, 0, .null)) (by decide +kernel) rfl rfl (fit_I _)
def f54_64 (F : Nat) (g55 : Int32 → St → Rs) (k29 : Int32 → Nat → Nat → Int32 → St → Rs) (y1 : Int32) (y2 : Nat) (y3 : Nat) (y4 : Int32) (z0 : Int32) (σ : St) : Rs := lt (σ.1 1030 5) fun c13 => 
    lt (uI σ 1030 5 (c13 + 1)) fun σ14 => 
    cR (g55 y1 σ14) fun c16 σ15 => 
    if isO c16 1 = true then 
    lt (uR σ15 y2 3 (.ref c16)) fun σ17 => 
    mR (σ17.2.2.1 y2 3) (fun c18 => if isO c18 1 = true then if z0 = 0 ∨ z0 = 1 then lt (uI σ17 c18 4 z0) fun σ19 => k29 y1 c18 y3 (y4 + 1) σ19 else none else none)
    (none) else none
theorem s54_64 {sc : aSc} (hv : vOk sc) (F : Nat) (hr : Nat) (h20 : 20 ≤ hr) (g55 : Int32 → St → Rs) (hg55 : ∀ x1 σ, bEx sc hr 55 0 [some (.ref 1030), some (.int x1), none, none, none] [] σ (g55 x1 σ)) (k29 : Int32 → Nat → Nat → Int32 → St → Rs) (hk29 : ∀ y1 y2 y3 y4 σ, isO y2 1 = true → isO y3 1 = true → bEx sc (hr + 1) 54 29 [some (.ref 1030), some (.int y1), some (.ref y2), some (.ref y3), some (.int y4), none] [] σ (k29 y1 y2 y3 y4 σ)) (y1 : Int32) (y2 : Nat) (y3 : Nat) (y4 : Int32) (z0 : Int32) (σ : St) (hy2 : isO y2 1 = true) (hy3 : isO y3 1 = true) : bEx sc (hr + 1) 54 64 [some (.ref 1030), some (.int y1), some (.ref y2), some (.ref y3), some (.int y4), none] [.int z0] σ (f54_64 F g55 k29 y1 y2 y3 y4 z0 σ) := by
  unfold f54_64
  refine b_run [(64, .istore 5, 0, 0, .null), (66, .aload_n 0, 0, 0, .null), (67, .dup, 0, 0, .null)] (pc' := 68) (ls' := [some (.ref 1030), some (.int y1), some (.ref y2), some (.ref y3), some (.int y4), some (.int z0)]) (st' := [.ref 1030, .ref 1030]) (by decide +kernel) rfl ?_
  refine b_gI (q := 36) (ci := 2) (k := 5) (w := .null) (by decide +kernel) (by decide +kernel) (fun c13 => ?_)
  refine b_run [(71, .iconst 1, 0, 0, .null), (72, .iadd, 0, 0, .null)] (pc' := 73) (ls' := [some (.ref 1030), some (.int y1), some (.ref y2), some (.ref y3), some (.int y4), some (.int z0)]) (st' := [.int (c13 + 1), .ref 1030]) (by decide +kernel) rfl ?_
  refine b_pI (q := 36) (ci := 2) (k := 5) (w := .null) (by decide +kernel) (by decide +kernel) (fit_I _) (fun σ14 => ?_)
  refine b_run [(76, .aload_n 2, 0, 0, .null), (77, .aload_n 0, 0, 0, .null), (78, .iload_n 1, 0, 0, .null)] (pc' := 79) (ls' := [some (.ref 1030), some (.int y1), some (.ref y2), some (.ref y3), some (.int y4), some (.int z0)]) (st' := [.int y1, .ref 1030, .ref y2]) (by decide +kernel) rfl ?_
  refine b_callR 55 2 [.ref 1030, .int y1] (rest := [.ref y2]) (by decide +kernel) rfl rfl rfl (go_O rfl (by decide +kernel) (by decide +kernel : isO 1030 2 = true)) rfl (hg55 y1 σ14) (by omega) (fun c16 σ15 => b_guard (fun hc16 => ?_))
  refine b_pM (q := 191) (ci := 1) (k := 3) (w := .null) (by decide +kernel) (fk_M1_3 hy2) (fit_Or "TreeStore$Part" _) (fun σ17 => ?_)
  refine b_run [(85, .aload_n 2, 0, 0, .null)] (pc' := 86) (ls' := [some (.ref 1030), some (.int y1), some (.ref y2), some (.ref y3), some (.int y4), some (.int z0)]) (st' := [.ref y2]) (by decide +kernel) rfl ?_
  refine b_gM (q := 191) (ci := 1) (k := 3) (w := .null) (by decide +kernel) (fk_M1_3 hy2) (fun c18 => b_guard (fun hc18 => ?_)) ?_
  · refine b_run [(89, .astore_n 2, 0, 0, .null), (90, .aload_n 2, 0, 0, .null), (91, .iload 5, 0, 0, .null)] (pc' := 93) (ls' := [some (.ref 1030), some (.int y1), some (.ref c18), some (.ref y3), some (.int y4), some (.int z0)]) (st' := [.int z0, .ref c18]) (by decide +kernel) rfl ?_
    refine b_guard (fun hz => ?_)
    refine b_pI (q := 194) (ci := 1) (k := 4) (w := .null) (by decide +kernel) (fk_I1_4 hc18) (fit_Z hz) (fun σ19 => ?_)
    refine b_run [(96, .iinc 4 1, 0, 0, .null), (99, .goto (-70), 29, 0, .null)] (pc' := 29) (ls' := [some (.ref 1030), some (.int y1), some (.ref c18), some (.ref y3), some (.int (y4 + 1)), some (.int z0)]) (st' := []) (by decide +kernel) rfl ?_
    exact b_wk (wS (wS (wS (wS (wS (wN w0)))))) (hk29 y1 c18 y3 (y4 + 1) σ19 hc18 hy3)
  · refine b_run [(89, .astore_n 2, 0, 0, .null), (90, .aload_n 2, 0, 0, .null), (91, .iload 5, 0, 0, .null)] (pc' := 93) (ls' := [some (.ref 1030), some (.int y1), some (.null), some (.ref y3), some (.int y4), some (.int z0)]) (st' := [.int z0, .null]) (by decide +kernel) rfl ?_
    exact b_none
def f54_29 (F : Nat) (g55 : Int32 → St → Rs) : Nat → Int32 → Nat → Nat → Int32 → St → Rs
  | 0, _, _, _, _, _ => none
  | n + 1, y1, y2, y3, y4, σ => if y4 < 120 then 
    cI (f59 F σ) fun c9 σ8 => 
    if c9 = 0 then some (.inl (some (.ref y3)), σ8)
    else lt (σ8.1 1030 5) fun c10 => 
    cI (f92 F 1001 c10 σ8) fun c12 σ11 => 
    if c12 = 45 then f54_64 F g55 (f54_29 F g55 n) y1 y2 y3 y4 1 σ11
    else f54_64 F g55 (f54_29 F g55 n) y1 y2 y3 y4 0 σ11
    else some (.inl (some (.ref y3)), σ)
theorem s54_29 {sc : aSc} (hv : vOk sc) (F : Nat) (hr : Nat) (h20 : 20 ≤ hr) (g55 : Int32 → St → Rs) (hg55 : ∀ x1 σ, bEx sc hr 55 0 [some (.ref 1030), some (.int x1), none, none, none] [] σ (g55 x1 σ)) : ∀ (n : Nat) (y1 : Int32) (y2 : Nat) (y3 : Nat) (y4 : Int32) (σ : St) (_ : isO y2 1 = true) (_ : isO y3 1 = true), bEx sc (hr + 1) 54 29 [some (.ref 1030), some (.int y1), some (.ref y2), some (.ref y3), some (.int y4), none] [] σ (f54_29 F g55 n y1 y2 y3 y4 σ) := by
  intro n
  induction n with
  | zero => intro y1 y2 y3 y4 σ hy2 hy3; exact b_none
  | succ n ih =>
    intro y1 y2 y3 y4 σ hy2 hy3
    rw [f54_29.eq_2]
    refine b_run [(29, .iload 4, 0, 0, .null), (31, .bipush 120, 0, 0, .null)] (pc' := 33) (ls' := [some (.ref 1030), some (.int y1), some (.ref y2), some (.ref y3), some (.int y4), none]) (st' := [.int 120, .int y4]) (by decide +kernel) rfl ?_
    refine b_icF (c := .ge) (o := 69) (t := 102) (y := 0) (w := .null) (by decide +kernel) cmp_ge (fun _ => ?_) (fun _ => ?_)
    · refine b_run [(36, .aload_n 0, 0, 0, .null)] (pc' := 37) (ls' := [some (.ref 1030), some (.int y1), some (.ref y2), some (.ref y3), some (.int y4), none]) (st' := [.ref 1030]) (by decide +kernel) rfl ?_
      refine b_callI 59 1 [.ref 1030] (rest := []) (by decide +kernel) rfl rfl rfl (go_O rfl (by decide +kernel) (by decide +kernel : isO 1030 2 = true)) rfl (s59 hv F σ) (by omega) (fun c9 σ8 => ?_)
      refine b_izT (c := .eq) (o := 62) (t := 102) (y := 0) (w := .null) (by decide +kernel) cmp_eq (fun _ => ?_) (fun _ => ?_)
      · refine b_run [(102, .aload_n 3, 0, 0, .null)] (pc' := 103) (ls' := [some (.ref 1030), some (.int y1), some (.ref y2), some (.ref y3), some (.int y4), none]) (st' := [.ref y3]) (by decide +kernel) rfl ?_
        exact b_ret (i := (.areturn, 0, 0, .null)) (by decide +kernel) rfl rfl (fit_Or "TreeStore$Part" _)
      · refine b_run [(43, .aload_n 0, 0, 0, .null)] (pc' := 44) (ls' := [some (.ref 1030), some (.int y1), some (.ref y2), some (.ref y3), some (.int y4), none]) (st' := [.ref 1030]) (by decide +kernel) rfl ?_
        refine b_getC (b := 1001) (q := 23) (ci := 2) (k := 0) (w := .null) (by decide +kernel) (by decide +kernel) ?_
        refine b_run [(47, .aload_n 0, 0, 0, .null)] (pc' := 48) (ls' := [some (.ref 1030), some (.int y1), some (.ref y2), some (.ref y3), some (.int y4), none]) (st' := [.ref 1030, .ref 1001]) (by decide +kernel) rfl ?_
        refine b_gI (q := 36) (ci := 2) (k := 5) (w := .null) (by decide +kernel) (by decide +kernel) (fun c10 => ?_)
        refine b_callI 92 2 [.ref 1001, .int c10] (rest := []) (by decide +kernel) rfl rfl rfl (go_O rfl (by decide +kernel) (by decide +kernel : isO 1001 5 = true)) rfl (s92 hv F 1001 c10 σ8 (by decide +kernel : isO 1001 5 = true)) (by omega) (fun c12 σ11 => ?_)
        refine b_run [(54, .bipush 45, 0, 0, .null)] (pc' := 56) (ls' := [some (.ref 1030), some (.int y1), some (.ref y2), some (.ref y3), some (.int y4), none]) (st' := [.int 45, .int c12]) (by decide +kernel) rfl ?_
        refine b_icF (c := .ne) (o := 7) (t := 63) (y := 0) (w := .null) (by decide +kernel) cmp_ne (fun _ => ?_) (fun _ => ?_)
        · refine b_run [(59, .iconst 1, 0, 0, .null), (60, .goto 4, 64, 0, .null)] (pc' := 64) (ls' := [some (.ref 1030), some (.int y1), some (.ref y2), some (.ref y3), some (.int y4), none]) (st' := [.int 1]) (by decide +kernel) rfl ?_
          exact b_wk (wS (wS (wS (wS (wS (wN w0)))))) (s54_64 hv F hr h20 g55 hg55 (f54_29 F g55 n) ih y1 y2 y3 y4 1 σ11 hy2 hy3)
        · refine b_run [(63, .iconst 0, 0, 0, .null)] (pc' := 64) (ls' := [some (.ref 1030), some (.int y1), some (.ref y2), some (.ref y3), some (.int y4), none]) (st' := [.int 0]) (by decide +kernel) rfl ?_
          exact b_wk (wS (wS (wS (wS (wS (wN w0)))))) (s54_64 hv F hr h20 g55 hg55 (f54_29 F g55 n) ih y1 y2 y3 y4 0 σ11 hy2 hy3)
    · refine b_run [(102, .aload_n 3, 0, 0, .null)] (pc' := 103) (ls' := [some (.ref 1030), some (.int y1), some (.ref y2), some (.ref y3), some (.int y4), none]) (st' := [.ref y3]) (by decide +kernel) rfl ?_
      exact b_ret (i := (.areturn, 0, 0, .null)) (by decide +kernel) rfl rfl (fit_Or "TreeStore$Part" _)
/-- TreeStore$PathReader.sum(I)LTreeStore$Part; -/
def f54 (F : Nat) (g55 : Int32 → St → Rs) (x1 : Int32) (σ : St) : Rs := cR (g55 x1 σ) fun c2 σ1 => 
    if isO c2 1 = true then 
    cI (f59 F σ1) fun c4 σ3 => 
    if c4 = 0 then some (.inl (some (.ref c2)), σ3)
    else cR (f43 F 4 σ3) fun c6 σ5 => if isO c6 1 = true then lt (uR σ5 c6 1 (.ref c2)) fun σ7 => f54_29 F g55 F x1 c2 c6 0 σ7 else none else none
theorem s54 {sc : aSc} (hv : vOk sc) (F : Nat) (hr : Nat) (h20 : 20 ≤ hr) (g55 : Int32 → St → Rs) (hg55 : ∀ x1 σ, bEx sc hr 55 0 [some (.ref 1030), some (.int x1), none, none, none] [] σ (g55 x1 σ)) (x1 : Int32) (σ : St) : bEx sc (hr + 1) 54 0 [some (.ref 1030), some (.int x1), none, none, none, none] [] σ (f54 F g55 x1 σ) := by
  unfold f54
  refine b_run [(0, .aload_n 0, 0, 0, .null), (1, .iload_n 1, 0, 0, .null)] (pc' := 2) (ls' := [some (.ref 1030), some (.int x1), none, none, none, none]) (st' := [.int x1, .ref 1030]) (by decide +kernel) rfl ?_
  refine b_callR 55 2 [.ref 1030, .int x1] (rest := []) (by decide +kernel) rfl rfl rfl (go_O rfl (by decide +kernel) (by decide +kernel : isO 1030 2 = true)) rfl (hg55 x1 σ) (by omega) (fun c2 σ1 => b_guard (fun hc2 => ?_))
  refine b_run [(5, .astore_n 2, 0, 0, .null), (6, .aload_n 0, 0, 0, .null)] (pc' := 7) (ls' := [some (.ref 1030), some (.int x1), some (.ref c2), none, none, none]) (st' := [.ref 1030]) (by decide +kernel) rfl ?_
  refine b_callI 59 1 [.ref 1030] (rest := []) (by decide +kernel) rfl rfl rfl (go_O rfl (by decide +kernel) (by decide +kernel : isO 1030 2 = true)) rfl (s59 hv F σ1) (by omega) (fun c4 σ3 => ?_)
  refine b_izF (c := .ne) (o := 5) (t := 15) (y := 0) (w := .null) (by decide +kernel) cmp_ne (fun _ => ?_) (fun _ => ?_)
  · refine b_run [(13, .aload_n 2, 0, 0, .null)] (pc' := 14) (ls' := [some (.ref 1030), some (.int x1), some (.ref c2), none, none, none]) (st' := [.ref c2]) (by decide +kernel) rfl ?_
    exact b_ret (i := (.areturn, 0, 0, .null)) (by decide +kernel) rfl rfl (fit_Or "TreeStore$Part" _)
  · refine b_run [(15, .aload_n 0, 0, 0, .null), (16, .iconst 4, 0, 0, .null)] (pc' := 17) (ls' := [some (.ref 1030), some (.int x1), some (.ref c2), none, none, none]) (st' := [.int 4, .ref 1030]) (by decide +kernel) rfl ?_
    refine b_callR 43 2 [.ref 1030, .int 4] (rest := []) (by decide +kernel) rfl rfl rfl (go_O rfl (by decide +kernel) (by decide +kernel : isO 1030 2 = true)) rfl (s43 hv F 4 σ3) (by omega) (fun c6 σ5 => b_guard (fun hc6 => ?_))
    refine b_run [(20, .astore_n 3, 0, 0, .null), (21, .aload_n 3, 0, 0, .null), (22, .aload_n 2, 0, 0, .null)] (pc' := 23) (ls' := [some (.ref 1030), some (.int x1), some (.ref c2), some (.ref c6), none, none]) (st' := [.ref c2, .ref c6]) (by decide +kernel) rfl ?_
    refine b_pM (q := 178) (ci := 1) (k := 1) (w := .null) (by decide +kernel) (fk_M1_1 hc6) (fit_Or "TreeStore$Part" _) (fun σ7 => ?_)
    refine b_run [(26, .iconst 0, 0, 0, .null), (27, .istore 4, 0, 0, .null)] (pc' := 29) (ls' := [some (.ref 1030), some (.int x1), some (.ref c2), some (.ref c6), some (.int 0), none]) (st' := []) (by decide +kernel) rfl ?_
    exact b_wk (wS (wS (wS (wS (wS (wN w0)))))) (s54_29 hv F hr h20 g55 hg55 F x1 c2 c6 0 σ7 hc2 hc6)
/-- TreeStore$PathReader.expr(I)LTreeStore$Part; -/
def f53 (F : Nat) (g55 : Int32 → St → Rs) (x1 : Int32) (σ : St) : Rs := cR (f54 F g55 x1 σ) fun c2 σ1 => 
    if isO c2 1 = true then 
    cI (f60 F σ1) fun c4 σ3 => 
    if c4 = (-1) then some (.inl (some (.ref c2)), σ3)
    else cR (f43 F c4 σ3) fun c6 σ5 => 
    if isO c6 1 = true then 
    lt (uR σ5 c6 1 (.ref c2)) fun σ7 => 
    cR (f54 F g55 x1 σ7) fun c9 σ8 => if isO c9 1 = true then lt (uR σ8 c6 2 (.ref c9)) fun σ10 => some (.inl (some (.ref c6)), σ10) else none else none else none
theorem s53 {sc : aSc} (hv : vOk sc) (F : Nat) (hr : Nat) (h20 : 20 ≤ hr) (g55 : Int32 → St → Rs) (hg55 : ∀ x1 σ, bEx sc hr 55 0 [some (.ref 1030), some (.int x1), none, none, none] [] σ (g55 x1 σ)) (x1 : Int32) (σ : St) : bEx sc (hr + 2) 53 0 [some (.ref 1030), some (.int x1), none, none, none] [] σ (f53 F g55 x1 σ) := by
  unfold f53
  refine b_run [(0, .aload_n 0, 0, 0, .null), (1, .iload_n 1, 0, 0, .null)] (pc' := 2) (ls' := [some (.ref 1030), some (.int x1), none, none, none]) (st' := [.int x1, .ref 1030]) (by decide +kernel) rfl ?_
  refine b_callR 54 2 [.ref 1030, .int x1] (rest := []) (by decide +kernel) rfl rfl rfl (go_O rfl (by decide +kernel) (by decide +kernel : isO 1030 2 = true)) rfl (s54 hv F hr h20 g55 hg55 x1 σ) (by omega) (fun c2 σ1 => b_guard (fun hc2 => ?_))
  refine b_run [(5, .astore_n 2, 0, 0, .null), (6, .aload_n 0, 0, 0, .null)] (pc' := 7) (ls' := [some (.ref 1030), some (.int x1), some (.ref c2), none, none]) (st' := [.ref 1030]) (by decide +kernel) rfl ?_
  refine b_callI 60 1 [.ref 1030] (rest := []) (by decide +kernel) rfl rfl rfl (go_O rfl (by decide +kernel) (by decide +kernel : isO 1030 2 = true)) rfl (s60 hv F σ1) (by omega) (fun c4 σ3 => ?_)
  refine b_run [(10, .istore_n 3, 0, 0, .null), (11, .iload_n 3, 0, 0, .null), (12, .iconst (-1), 0, 0, .null)] (pc' := 13) (ls' := [some (.ref 1030), some (.int x1), some (.ref c2), some (.int c4), none]) (st' := [.int ((-1)), .int c4]) (by decide +kernel) rfl ?_
  refine b_icF (c := .ne) (o := 5) (t := 18) (y := 0) (w := .null) (by decide +kernel) cmp_ne (fun _ => ?_) (fun _ => ?_)
  · refine b_run [(16, .aload_n 2, 0, 0, .null)] (pc' := 17) (ls' := [some (.ref 1030), some (.int x1), some (.ref c2), some (.int c4), none]) (st' := [.ref c2]) (by decide +kernel) rfl ?_
    exact b_ret (i := (.areturn, 0, 0, .null)) (by decide +kernel) rfl rfl (fit_Or "TreeStore$Part" _)
  · refine b_run [(18, .aload_n 0, 0, 0, .null), (19, .iload_n 3, 0, 0, .null)] (pc' := 20) (ls' := [some (.ref 1030), some (.int x1), some (.ref c2), some (.int c4), none]) (st' := [.int c4, .ref 1030]) (by decide +kernel) rfl ?_
    refine b_callR 43 2 [.ref 1030, .int c4] (rest := []) (by decide +kernel) rfl rfl rfl (go_O rfl (by decide +kernel) (by decide +kernel : isO 1030 2 = true)) rfl (s43 hv F c4 σ3) (by omega) (fun c6 σ5 => b_guard (fun hc6 => ?_))
    refine b_run [(23, .astore 4, 0, 0, .null), (25, .aload 4, 0, 0, .null), (27, .aload_n 2, 0, 0, .null)] (pc' := 28) (ls' := [some (.ref 1030), some (.int x1), some (.ref c2), some (.int c4), some (.ref c6)]) (st' := [.ref c2, .ref c6]) (by decide +kernel) rfl ?_
    refine b_pM (q := 178) (ci := 1) (k := 1) (w := .null) (by decide +kernel) (fk_M1_1 hc6) (fit_Or "TreeStore$Part" _) (fun σ7 => ?_)
    refine b_run [(31, .aload 4, 0, 0, .null), (33, .aload_n 0, 0, 0, .null), (34, .iload_n 1, 0, 0, .null)] (pc' := 35) (ls' := [some (.ref 1030), some (.int x1), some (.ref c2), some (.int c4), some (.ref c6)]) (st' := [.int x1, .ref 1030, .ref c6]) (by decide +kernel) rfl ?_
    refine b_callR 54 2 [.ref 1030, .int x1] (rest := [.ref c6]) (by decide +kernel) rfl rfl rfl (go_O rfl (by decide +kernel) (by decide +kernel : isO 1030 2 = true)) rfl (s54 hv F hr h20 g55 hg55 x1 σ7) (by omega) (fun c9 σ8 => b_guard (fun hc9 => ?_))
    refine b_pM (q := 182) (ci := 1) (k := 2) (w := .null) (by decide +kernel) (fk_M1_2 hc6) (fit_Or "TreeStore$Part" _) (fun σ10 => ?_)
    refine b_run [(41, .aload 4, 0, 0, .null)] (pc' := 43) (ls' := [some (.ref 1030), some (.int x1), some (.ref c2), some (.int c4), some (.ref c6)]) (st' := [.ref c6]) (by decide +kernel) rfl ?_
    exact b_ret (i := (.areturn, 0, 0, .null)) (by decide +kernel) rfl rfl (fit_Or "TreeStore$Part" _)
def f47_59 (F : Nat) (g55 : Int32 → St → Rs) : Nat → Int32 → Nat → Int32 → St → Rs
  | 0, _, _, _, _ => none
  | n + 1, y1, y2, y3, σ => if y3 < 120 then 
    cI (f44 F 91 σ) fun c12 σ11 => 
    if c12 = 0 then some (.inl (some (.ref y2)), σ11)
    else cI (f52 F y1 σ11) fun c14 σ13 => 
    cR (f53 F g55 c14 σ13) fun c16 σ15 => 
    if isO c16 1 = true then cV (f103 F y2 c16 σ15) fun σ17 => cV (f50 F 93 σ17) fun σ19 => f47_59 F g55 n y1 y2 (y3 + 1) σ19 else none
    else some (.inl (some (.ref y2)), σ)
theorem s47_59 {sc : aSc} (hv : vOk sc) (F : Nat) (hr : Nat) (h20 : 20 ≤ hr) (g55 : Int32 → St → Rs) (hg55 : ∀ x1 σ, bEx sc hr 55 0 [some (.ref 1030), some (.int x1), none, none, none] [] σ (g55 x1 σ)) : ∀ (n : Nat) (y1 : Int32) (y2 : Nat) (y3 : Int32) (σ : St) (_ : isO y2 6 = true), bEx sc (hr + 3) 47 59 [some (.ref 1030), some (.int y1), some (.ref y2), some (.int y3)] [] σ (f47_59 F g55 n y1 y2 y3 σ) := by
  intro n
  induction n with
  | zero => intro y1 y2 y3 σ hy2; exact b_none
  | succ n ih =>
    intro y1 y2 y3 σ hy2
    rw [f47_59.eq_2]
    refine b_run [(59, .iload_n 3, 0, 0, .null), (60, .bipush 120, 0, 0, .null)] (pc' := 62) (ls' := [some (.ref 1030), some (.int y1), some (.ref y2), some (.int y3)]) (st' := [.int 120, .int y3]) (by decide +kernel) rfl ?_
    refine b_icF (c := .ge) (o := 37) (t := 99) (y := 0) (w := .null) (by decide +kernel) cmp_ge (fun _ => ?_) (fun _ => ?_)
    · refine b_run [(65, .aload_n 0, 0, 0, .null), (66, .bipush 91, 0, 0, .null)] (pc' := 68) (ls' := [some (.ref 1030), some (.int y1), some (.ref y2), some (.int y3)]) (st' := [.int 91, .ref 1030]) (by decide +kernel) rfl ?_
      refine b_callI 44 2 [.ref 1030, .int 91] (rest := []) (by decide +kernel) rfl rfl rfl (go_O rfl (by decide +kernel) (by decide +kernel : isO 1030 2 = true)) rfl (s44 hv F 91 σ) (by omega) (fun c12 σ11 => ?_)
      refine b_izT (c := .eq) (o := 28) (t := 99) (y := 0) (w := .null) (by decide +kernel) cmp_eq (fun _ => ?_) (fun _ => ?_)
      · refine b_run [(99, .aload_n 2, 0, 0, .null)] (pc' := 100) (ls' := [some (.ref 1030), some (.int y1), some (.ref y2), some (.int y3)]) (st' := [.ref y2]) (by decide +kernel) rfl ?_
        exact b_ret (i := (.areturn, 0, 0, .null)) (by decide +kernel) rfl rfl (fit_Or "TreeStore$Step" _)
      · refine b_run [(74, .aload_n 2, 0, 0, .null), (75, .aload_n 0, 0, 0, .null), (76, .aload_n 0, 0, 0, .null), (77, .iload_n 1, 0, 0, .null)] (pc' := 78) (ls' := [some (.ref 1030), some (.int y1), some (.ref y2), some (.int y3)]) (st' := [.int y1, .ref 1030, .ref 1030, .ref y2]) (by decide +kernel) rfl ?_
        refine b_callI 52 2 [.ref 1030, .int y1] (rest := [.ref 1030, .ref y2]) (by decide +kernel) rfl rfl rfl (go_O rfl (by decide +kernel) (by decide +kernel : isO 1030 2 = true)) rfl (s52 hv F y1 σ11) (by omega) (fun c14 σ13 => ?_)
        refine b_callR 53 2 [.ref 1030, .int c14] (rest := [.ref y2]) (by decide +kernel) rfl rfl rfl (go_O rfl (by decide +kernel) (by decide +kernel : isO 1030 2 = true)) rfl (s53 hv F hr h20 g55 hg55 c14 σ13) (by omega) (fun c16 σ15 => b_guard (fun hc16 => ?_))
        refine b_callV 103 2 [.ref y2, .ref c16] (rest := []) (by decide +kernel) rfl rfl rfl (go_O rfl (by decide +kernel) hy2) rfl (s103 hv F y2 c16 σ15 hy2 hc16) (by omega) (fun σ17 => ?_)
        refine b_run [(87, .aload_n 0, 0, 0, .null), (88, .bipush 93, 0, 0, .null)] (pc' := 90) (ls' := [some (.ref 1030), some (.int y1), some (.ref y2), some (.int y3)]) (st' := [.int 93, .ref 1030]) (by decide +kernel) rfl ?_
        refine b_callV 50 2 [.ref 1030, .int 93] (rest := []) (by decide +kernel) rfl rfl rfl (go_O rfl (by decide +kernel) (by decide +kernel : isO 1030 2 = true)) rfl (s50 hv F 93 σ17) (by omega) (fun σ19 => ?_)
        refine b_run [(93, .iinc 3 1, 0, 0, .null), (96, .goto (-37), 59, 0, .null)] (pc' := 59) (ls' := [some (.ref 1030), some (.int y1), some (.ref y2), some (.int (y3 + 1))]) (st' := []) (by decide +kernel) rfl ?_
        exact b_wk (wS (wS (wS (wS w0)))) (ih y1 y2 (y3 + 1) σ19 hy2)
    · refine b_run [(99, .aload_n 2, 0, 0, .null)] (pc' := 100) (ls' := [some (.ref 1030), some (.int y1), some (.ref y2), some (.int y3)]) (st' := [.ref y2]) (by decide +kernel) rfl ?_
      exact b_ret (i := (.areturn, 0, 0, .null)) (by decide +kernel) rfl rfl (fit_Or "TreeStore$Step" _)
def f47_57 (F : Nat) (g55 : Int32 → St → Rs) (y1 : Int32) (y2 : Nat) (σ : St) : Rs := f47_59 F g55 F y1 y2 0 σ
theorem s47_57 {sc : aSc} (hv : vOk sc) (F : Nat) (hr : Nat) (h20 : 20 ≤ hr) (g55 : Int32 → St → Rs) (hg55 : ∀ x1 σ, bEx sc hr 55 0 [some (.ref 1030), some (.int x1), none, none, none] [] σ (g55 x1 σ)) (y1 : Int32) (y2 : Nat) (σ : St) (hy2 : isO y2 6 = true) : bEx sc (hr + 3) 47 57 [some (.ref 1030), some (.int y1), some (.ref y2), none] [] σ (f47_57 F g55 y1 y2 σ) := by
  unfold f47_57
  refine b_run [(57, .iconst 0, 0, 0, .null), (58, .istore_n 3, 0, 0, .null)] (pc' := 59) (ls' := [some (.ref 1030), some (.int y1), some (.ref y2), some (.int 0)]) (st' := []) (by decide +kernel) rfl ?_
  exact b_wk (wS (wS (wS (wS w0)))) (s47_59 hv F hr h20 g55 hg55 F y1 y2 0 σ hy2)
/-- TreeStore$PathReader.step(I)LTreeStore$Step; -/
def f47 (F : Nat) (g55 : Int32 → St → Rs) (x1 : Int32) (σ : St) : Rs := cI (f44 F 46 σ) fun c2 σ1 => 
    if c2 = 0 then 
    cR (f48 F σ1) fun c4 σ3 => 
    if isX c4 = true then 
    cR (f46 F c4 1 σ3) fun c6 σ5 => 
    if isO c6 6 = true then 
    cI (f44 F 42 σ5) fun c8 σ7 => 
    if c8 = 0 then cV (f49 F c6 σ7) fun σ9 => f47_57 F g55 x1 c6 σ9
    else f47_57 F g55 x1 c6 σ7 else none else none
    else cI (f44 F 46 σ1) fun c22 σ21 => 
    if c22 = 0 then cR (f46 F 104 4 σ21) fun c24 σ23 => if isO c24 6 = true then some (.inl (some (.ref c24)), σ23) else none
    else cR (f46 F 102 4 σ21) fun c26 σ25 => if isO c26 6 = true then some (.inl (some (.ref c26)), σ25) else none
theorem s47 {sc : aSc} (hv : vOk sc) (F : Nat) (hr : Nat) (h20 : 20 ≤ hr) (g55 : Int32 → St → Rs) (hg55 : ∀ x1 σ, bEx sc hr 55 0 [some (.ref 1030), some (.int x1), none, none, none] [] σ (g55 x1 σ)) (x1 : Int32) (σ : St) : bEx sc (hr + 3) 47 0 [some (.ref 1030), some (.int x1), none, none] [] σ (f47 F g55 x1 σ) := by
  unfold f47
  refine b_run [(0, .aload_n 0, 0, 0, .null), (1, .bipush 46, 0, 0, .null)] (pc' := 3) (ls' := [some (.ref 1030), some (.int x1), none, none]) (st' := [.int 46, .ref 1030]) (by decide +kernel) rfl ?_
  refine b_callI 44 2 [.ref 1030, .int 46] (rest := []) (by decide +kernel) rfl rfl rfl (go_O rfl (by decide +kernel) (by decide +kernel : isO 1030 2 = true)) rfl (s44 hv F 46 σ) (by omega) (fun c2 σ1 => ?_)
  refine b_izT (c := .eq) (o := 27) (t := 33) (y := 0) (w := .null) (by decide +kernel) cmp_eq (fun _ => ?_) (fun _ => ?_)
  · refine b_run [(33, .aload_n 0, 0, 0, .null), (34, .aload_n 0, 0, 0, .null)] (pc' := 35) (ls' := [some (.ref 1030), some (.int x1), none, none]) (st' := [.ref 1030, .ref 1030]) (by decide +kernel) rfl ?_
    refine b_callR 48 1 [.ref 1030] (rest := [.ref 1030]) (by decide +kernel) rfl rfl rfl (go_O rfl (by decide +kernel) (by decide +kernel : isO 1030 2 = true)) rfl (s48 hv F σ1) (by omega) (fun c4 σ3 => b_guard (fun hc4 => ?_))
    refine b_run [(38, .iconst 1, 0, 0, .null)] (pc' := 39) (ls' := [some (.ref 1030), some (.int x1), none, none]) (st' := [.int 1, .ref c4, .ref 1030]) (by decide +kernel) rfl ?_
    refine b_callR 46 3 [.ref 1030, .ref c4, .int 1] (rest := []) (by decide +kernel) rfl rfl rfl (go_O rfl (by decide +kernel) (by decide +kernel : isO 1030 2 = true)) rfl (s46 hv F c4 1 σ3 hc4) (by omega) (fun c6 σ5 => b_guard (fun hc6 => ?_))
    refine b_run [(42, .astore_n 2, 0, 0, .null), (43, .aload_n 0, 0, 0, .null), (44, .bipush 42, 0, 0, .null)] (pc' := 46) (ls' := [some (.ref 1030), some (.int x1), some (.ref c6), none]) (st' := [.int 42, .ref 1030]) (by decide +kernel) rfl ?_
    refine b_callI 44 2 [.ref 1030, .int 42] (rest := []) (by decide +kernel) rfl rfl rfl (go_O rfl (by decide +kernel) (by decide +kernel : isO 1030 2 = true)) rfl (s44 hv F 42 σ5) (by omega) (fun c8 σ7 => ?_)
    refine b_izF (c := .ne) (o := 8) (t := 57) (y := 0) (w := .null) (by decide +kernel) cmp_ne (fun _ => ?_) (fun _ => ?_)
    · refine b_run [(52, .aload_n 0, 0, 0, .null), (53, .aload_n 2, 0, 0, .null)] (pc' := 54) (ls' := [some (.ref 1030), some (.int x1), some (.ref c6), none]) (st' := [.ref c6, .ref 1030]) (by decide +kernel) rfl ?_
      refine b_callV 49 2 [.ref 1030, .ref c6] (rest := []) (by decide +kernel) rfl rfl rfl (go_O rfl (by decide +kernel) (by decide +kernel : isO 1030 2 = true)) rfl (s49 hv F c6 σ7 hc6) (by omega) (fun σ9 => ?_)
      exact b_wk (wS (wS (wS (wN w0)))) (s47_57 hv F hr h20 g55 hg55 x1 c6 σ9 hc6)
    · exact b_wk (wS (wS (wS (wN w0)))) (s47_57 hv F hr h20 g55 hg55 x1 c6 σ7 hc6)
  · refine b_run [(9, .aload_n 0, 0, 0, .null), (10, .aload_n 0, 0, 0, .null), (11, .bipush 46, 0, 0, .null)] (pc' := 13) (ls' := [some (.ref 1030), some (.int x1), none, none]) (st' := [.int 46, .ref 1030, .ref 1030]) (by decide +kernel) rfl ?_
    refine b_callI 44 2 [.ref 1030, .int 46] (rest := [.ref 1030]) (by decide +kernel) rfl rfl rfl (go_O rfl (by decide +kernel) (by decide +kernel : isO 1030 2 = true)) rfl (s44 hv F 46 σ1) (by omega) (fun c22 σ21 => ?_)
    refine b_izT (c := .eq) (o := 9) (t := 25) (y := 0) (w := .null) (by decide +kernel) cmp_eq (fun _ => ?_) (fun _ => ?_)
    · refine b_gs (q := 97) (y := 0) (w := .ref 104) (by decide +kernel) ?_
      refine b_run [(28, .iconst 4, 0, 0, .null)] (pc' := 29) (ls' := [some (.ref 1030), some (.int x1), none, none]) (st' := [.int 4, .ref 104, .ref 1030]) (by decide +kernel) rfl ?_
      refine b_callR 46 3 [.ref 1030, .ref 104, .int 4] (rest := []) (by decide +kernel) rfl rfl rfl (go_O rfl (by decide +kernel) (by decide +kernel : isO 1030 2 = true)) rfl (s46 hv F 104 4 σ21 (by decide +kernel : isX 104 = true)) (by omega) (fun c24 σ23 => b_guard (fun hc24 => ?_))
      exact b_ret (i := (.areturn, 0, 0, .null)) (by decide +kernel) rfl rfl (fit_Or "TreeStore$Step" _)
    · refine b_gs (q := 94) (y := 0) (w := .ref 102) (by decide +kernel) ?_
      refine b_run [(22, .goto 6, 28, 0, .null), (28, .iconst 4, 0, 0, .null)] (pc' := 29) (ls' := [some (.ref 1030), some (.int x1), none, none]) (st' := [.int 4, .ref 102, .ref 1030]) (by decide +kernel) rfl ?_
      refine b_callR 46 3 [.ref 1030, .ref 102, .int 4] (rest := []) (by decide +kernel) rfl rfl rfl (go_O rfl (by decide +kernel) (by decide +kernel : isO 1030 2 = true)) rfl (s46 hv F 102 4 σ21 (by decide +kernel : isX 102 = true)) (by omega) (fun c26 σ25 => b_guard (fun hc26 => ?_))
      exact b_ret (i := (.areturn, 0, 0, .null)) (by decide +kernel) rfl rfl (fit_Or "TreeStore$Step" _)
def f42_78 (F : Nat) (g55 : Int32 → St → Rs) (k51 : Int32 → Nat → Int32 → St → Rs) (y1 : Int32) (y2 : Nat) (y3 : Int32) (σ : St) : Rs := cR (f47 F g55 y1 σ) fun c10 σ9 => 
    if isO c10 6 = true then 
    cV (f35 F y2 c10 σ9) fun σ11 => 
    cI (f44 F 47 σ11) fun c14 σ13 => 
    if c14 = 0 then some (.inl (some (.ref y2)), σ13)
    else k51 y1 y2 (y3 + 1) σ13 else none
theorem s42_78 {sc : aSc} (hv : vOk sc) (F : Nat) (hr : Nat) (h20 : 20 ≤ hr) (g55 : Int32 → St → Rs) (hg55 : ∀ x1 σ, bEx sc hr 55 0 [some (.ref 1030), some (.int x1), none, none, none] [] σ (g55 x1 σ)) (k51 : Int32 → Nat → Int32 → St → Rs) (hk51 : ∀ y1 y2 y3 σ, isO y2 1 = true → bEx sc (hr + 4) 42 51 [some (.ref 1030), some (.int y1), some (.ref y2), some (.int y3)] [] σ (k51 y1 y2 y3 σ)) (y1 : Int32) (y2 : Nat) (y3 : Int32) (σ : St) (hy2 : isO y2 1 = true) : bEx sc (hr + 4) 42 78 [some (.ref 1030), some (.int y1), some (.ref y2), some (.int y3)] [] σ (f42_78 F g55 k51 y1 y2 y3 σ) := by
  unfold f42_78
  refine b_run [(78, .aload_n 2, 0, 0, .null), (79, .aload_n 0, 0, 0, .null), (80, .iload_n 1, 0, 0, .null)] (pc' := 81) (ls' := [some (.ref 1030), some (.int y1), some (.ref y2), some (.int y3)]) (st' := [.int y1, .ref 1030, .ref y2]) (by decide +kernel) rfl ?_
  refine b_callR 47 2 [.ref 1030, .int y1] (rest := [.ref y2]) (by decide +kernel) rfl rfl rfl (go_O rfl (by decide +kernel) (by decide +kernel : isO 1030 2 = true)) rfl (s47 hv F hr h20 g55 hg55 y1 σ) (by omega) (fun c10 σ9 => b_guard (fun hc10 => ?_))
  refine b_callV 35 2 [.ref y2, .ref c10] (rest := []) (by decide +kernel) rfl rfl rfl (go_O rfl (by decide +kernel) hy2) rfl (s35 hv F y2 c10 σ9 hy2 hc10) (by omega) (fun σ11 => ?_)
  refine b_run [(87, .aload_n 0, 0, 0, .null), (88, .bipush 47, 0, 0, .null)] (pc' := 90) (ls' := [some (.ref 1030), some (.int y1), some (.ref y2), some (.int y3)]) (st' := [.int 47, .ref 1030]) (by decide +kernel) rfl ?_
  refine b_callI 44 2 [.ref 1030, .int 47] (rest := []) (by decide +kernel) rfl rfl rfl (go_O rfl (by decide +kernel) (by decide +kernel : isO 1030 2 = true)) rfl (s44 hv F 47 σ11) (by omega) (fun c14 σ13 => ?_)
  refine b_izF (c := .ne) (o := 5) (t := 98) (y := 0) (w := .null) (by decide +kernel) cmp_ne (fun _ => ?_) (fun _ => ?_)
  · refine b_run [(96, .aload_n 2, 0, 0, .null)] (pc' := 97) (ls' := [some (.ref 1030), some (.int y1), some (.ref y2), some (.int y3)]) (st' := [.ref y2]) (by decide +kernel) rfl ?_
    exact b_ret (i := (.areturn, 0, 0, .null)) (by decide +kernel) rfl rfl (fit_Or "TreeStore$Part" _)
  · refine b_run [(98, .iinc 3 1, 0, 0, .null), (101, .goto (-50), 51, 0, .null)] (pc' := 51) (ls' := [some (.ref 1030), some (.int y1), some (.ref y2), some (.int (y3 + 1))]) (st' := []) (by decide +kernel) rfl ?_
    exact b_wk (wS (wS (wS (wS w0)))) (hk51 y1 y2 (y3 + 1) σ13 hy2)
def f42_51 (F : Nat) (g55 : Int32 → St → Rs) : Nat → Int32 → Nat → Int32 → St → Rs
  | 0, _, _, _, _ => none
  | n + 1, y1, y2, y3, σ => if y3 < 120 then 
    cI (f44 F 47 σ) fun c8 σ7 => 
    if c8 = 0 then f42_78 F g55 (f42_51 F g55 n) y1 y2 y3 σ7
    else cR (f46 F 110 4 σ7) fun c16 σ15 => if isO c16 6 = true then cV (f35 F y2 c16 σ15) fun σ17 => f42_78 F g55 (f42_51 F g55 n) y1 y2 y3 σ17 else none
    else some (.inl (some (.ref y2)), σ)
theorem s42_51 {sc : aSc} (hv : vOk sc) (F : Nat) (hr : Nat) (h20 : 20 ≤ hr) (g55 : Int32 → St → Rs) (hg55 : ∀ x1 σ, bEx sc hr 55 0 [some (.ref 1030), some (.int x1), none, none, none] [] σ (g55 x1 σ)) : ∀ (n : Nat) (y1 : Int32) (y2 : Nat) (y3 : Int32) (σ : St) (_ : isO y2 1 = true), bEx sc (hr + 4) 42 51 [some (.ref 1030), some (.int y1), some (.ref y2), some (.int y3)] [] σ (f42_51 F g55 n y1 y2 y3 σ) := by
  intro n
  induction n with
  | zero => intro y1 y2 y3 σ hy2; exact b_none
  | succ n ih =>
    intro y1 y2 y3 σ hy2
    rw [f42_51.eq_2]
    refine b_run [(51, .iload_n 3, 0, 0, .null), (52, .bipush 120, 0, 0, .null)] (pc' := 54) (ls' := [some (.ref 1030), some (.int y1), some (.ref y2), some (.int y3)]) (st' := [.int 120, .int y3]) (by decide +kernel) rfl ?_
    refine b_icF (c := .ge) (o := 50) (t := 104) (y := 0) (w := .null) (by decide +kernel) cmp_ge (fun _ => ?_) (fun _ => ?_)
    · refine b_run [(57, .aload_n 0, 0, 0, .null), (58, .bipush 47, 0, 0, .null)] (pc' := 60) (ls' := [some (.ref 1030), some (.int y1), some (.ref y2), some (.int y3)]) (st' := [.int 47, .ref 1030]) (by decide +kernel) rfl ?_
      refine b_callI 44 2 [.ref 1030, .int 47] (rest := []) (by decide +kernel) rfl rfl rfl (go_O rfl (by decide +kernel) (by decide +kernel : isO 1030 2 = true)) rfl (s44 hv F 47 σ) (by omega) (fun c8 σ7 => ?_)
      refine b_izT (c := .eq) (o := 15) (t := 78) (y := 0) (w := .null) (by decide +kernel) cmp_eq (fun _ => ?_) (fun _ => ?_)
      · exact b_wk (wS (wS (wS (wS w0)))) (s42_78 hv F hr h20 g55 hg55 (f42_51 F g55 n) ih y1 y2 y3 σ7 hy2)
      · refine b_run [(66, .aload_n 2, 0, 0, .null), (67, .aload_n 0, 0, 0, .null)] (pc' := 68) (ls' := [some (.ref 1030), some (.int y1), some (.ref y2), some (.int y3)]) (st' := [.ref 1030, .ref y2]) (by decide +kernel) rfl ?_
        refine b_gs (q := 73) (y := 0) (w := .ref 110) (by decide +kernel) ?_
        refine b_run [(71, .iconst 4, 0, 0, .null)] (pc' := 72) (ls' := [some (.ref 1030), some (.int y1), some (.ref y2), some (.int y3)]) (st' := [.int 4, .ref 110, .ref 1030, .ref y2]) (by decide +kernel) rfl ?_
        refine b_callR 46 3 [.ref 1030, .ref 110, .int 4] (rest := [.ref y2]) (by decide +kernel) rfl rfl rfl (go_O rfl (by decide +kernel) (by decide +kernel : isO 1030 2 = true)) rfl (s46 hv F 110 4 σ7 (by decide +kernel : isX 110 = true)) (by omega) (fun c16 σ15 => b_guard (fun hc16 => ?_))
        refine b_callV 35 2 [.ref y2, .ref c16] (rest := []) (by decide +kernel) rfl rfl rfl (go_O rfl (by decide +kernel) hy2) rfl (s35 hv F y2 c16 σ15 hy2 hc16) (by omega) (fun σ17 => ?_)
        exact b_wk (wS (wS (wS (wS w0)))) (s42_78 hv F hr h20 g55 hg55 (f42_51 F g55 n) ih y1 y2 y3 σ17 hy2)
    · refine b_run [(104, .aload_n 2, 0, 0, .null)] (pc' := 105) (ls' := [some (.ref 1030), some (.int y1), some (.ref y2), some (.int y3)]) (st' := [.ref y2]) (by decide +kernel) rfl ?_
      exact b_ret (i := (.areturn, 0, 0, .null)) (by decide +kernel) rfl rfl (fit_Or "TreeStore$Part" _)
def f42_49 (F : Nat) (g55 : Int32 → St → Rs) (y1 : Int32) (y2 : Nat) (σ : St) : Rs := f42_51 F g55 F y1 y2 0 σ
theorem s42_49 {sc : aSc} (hv : vOk sc) (F : Nat) (hr : Nat) (h20 : 20 ≤ hr) (g55 : Int32 → St → Rs) (hg55 : ∀ x1 σ, bEx sc hr 55 0 [some (.ref 1030), some (.int x1), none, none, none] [] σ (g55 x1 σ)) (y1 : Int32) (y2 : Nat) (σ : St) (hy2 : isO y2 1 = true) : bEx sc (hr + 4) 42 49 [some (.ref 1030), some (.int y1), some (.ref y2), none] [] σ (f42_49 F g55 y1 y2 σ) := by
  unfold f42_49
  refine b_run [(49, .iconst 0, 0, 0, .null), (50, .istore_n 3, 0, 0, .null)] (pc' := 51) (ls' := [some (.ref 1030), some (.int y1), some (.ref y2), some (.int 0)]) (st' := []) (by decide +kernel) rfl ?_
  exact b_wk (wS (wS (wS (wS w0)))) (s42_51 hv F hr h20 g55 hg55 F y1 y2 0 σ hy2)
/-- TreeStore$PathReader.path(I)LTreeStore$Part; -/
def f42 (F : Nat) (g55 : Int32 → St → Rs) (x1 : Int32) (σ : St) : Rs := cR (f43 F 6 σ) fun c2 σ1 => 
    if isO c2 1 = true then 
    cI (f44 F 47 σ1) fun c4 σ3 => 
    if c4 = 0 ∨ c4 = 1 then lt (uI σ3 c2 5 c4) fun σ5 => 
    lt (σ5.1 c2 5) fun c6 => 
    if c6 = 0 then f42_49 F g55 x1 c2 σ5
    else lt (σ5.1 1030 5) fun c19 => 
    cI (f92 F 1001 c19 σ5) fun c21 σ20 => 
    if c21 = 47 then f42_49 F g55 x1 c2 σ20
    else cI (f45 F σ20) fun c23 σ22 => 
    if c23 = 0 then some (.inl (some (.ref c2)), σ22)
    else f42_49 F g55 x1 c2 σ22 else none else none
theorem s42 {sc : aSc} (hv : vOk sc) (F : Nat) (hr : Nat) (h20 : 20 ≤ hr) (g55 : Int32 → St → Rs) (hg55 : ∀ x1 σ, bEx sc hr 55 0 [some (.ref 1030), some (.int x1), none, none, none] [] σ (g55 x1 σ)) (x1 : Int32) (σ : St) : bEx sc (hr + 4) 42 0 [some (.ref 1030), some (.int x1), none, none] [] σ (f42 F g55 x1 σ) := by
  unfold f42
  refine b_run [(0, .aload_n 0, 0, 0, .null), (1, .bipush 6, 0, 0, .null)] (pc' := 3) (ls' := [some (.ref 1030), some (.int x1), none, none]) (st' := [.int 6, .ref 1030]) (by decide +kernel) rfl ?_
  refine b_callR 43 2 [.ref 1030, .int 6] (rest := []) (by decide +kernel) rfl rfl rfl (go_O rfl (by decide +kernel) (by decide +kernel : isO 1030 2 = true)) rfl (s43 hv F 6 σ) (by omega) (fun c2 σ1 => b_guard (fun hc2 => ?_))
  refine b_run [(6, .astore_n 2, 0, 0, .null), (7, .aload_n 2, 0, 0, .null), (8, .aload_n 0, 0, 0, .null), (9, .bipush 47, 0, 0, .null)] (pc' := 11) (ls' := [some (.ref 1030), some (.int x1), some (.ref c2), none]) (st' := [.int 47, .ref 1030, .ref c2]) (by decide +kernel) rfl ?_
  refine b_callI 44 2 [.ref 1030, .int 47] (rest := [.ref c2]) (by decide +kernel) rfl rfl rfl (go_O rfl (by decide +kernel) (by decide +kernel : isO 1030 2 = true)) rfl (s44 hv F 47 σ1) (by omega) (fun c4 σ3 => ?_)
  refine b_guard (fun hz => ?_)
  refine b_pI (q := 62) (ci := 1) (k := 5) (w := .null) (by decide +kernel) (fk_I1_5 hc2) (fit_Z hz) (fun σ5 => ?_)
  refine b_run [(17, .aload_n 2, 0, 0, .null)] (pc' := 18) (ls' := [some (.ref 1030), some (.int x1), some (.ref c2), none]) (st' := [.ref c2]) (by decide +kernel) rfl ?_
  refine b_gI (q := 62) (ci := 1) (k := 5) (w := .null) (by decide +kernel) (fk_I1_5 hc2) (fun c6 => ?_)
  refine b_izT (c := .eq) (o := 28) (t := 49) (y := 0) (w := .null) (by decide +kernel) cmp_eq (fun _ => ?_) (fun _ => ?_)
  · exact b_wk (wS (wS (wS (wN w0)))) (s42_49 hv F hr h20 g55 hg55 x1 c2 σ5 hc2)
  · refine b_run [(24, .aload_n 0, 0, 0, .null)] (pc' := 25) (ls' := [some (.ref 1030), some (.int x1), some (.ref c2), none]) (st' := [.ref 1030]) (by decide +kernel) rfl ?_
    refine b_getC (b := 1001) (q := 23) (ci := 2) (k := 0) (w := .null) (by decide +kernel) (by decide +kernel) ?_
    refine b_run [(28, .aload_n 0, 0, 0, .null)] (pc' := 29) (ls' := [some (.ref 1030), some (.int x1), some (.ref c2), none]) (st' := [.ref 1030, .ref 1001]) (by decide +kernel) rfl ?_
    refine b_gI (q := 36) (ci := 2) (k := 5) (w := .null) (by decide +kernel) (by decide +kernel) (fun c19 => ?_)
    refine b_callI 92 2 [.ref 1001, .int c19] (rest := []) (by decide +kernel) rfl rfl rfl (go_O rfl (by decide +kernel) (by decide +kernel : isO 1001 5 = true)) rfl (s92 hv F 1001 c19 σ5 (by decide +kernel : isO 1001 5 = true)) (by omega) (fun c21 σ20 => ?_)
    refine b_run [(35, .bipush 47, 0, 0, .null)] (pc' := 37) (ls' := [some (.ref 1030), some (.int x1), some (.ref c2), none]) (st' := [.int 47, .int c21]) (by decide +kernel) rfl ?_
    refine b_icT (c := .eq) (o := 12) (t := 49) (y := 0) (w := .null) (by decide +kernel) cmp_eq (fun _ => ?_) (fun _ => ?_)
    · exact b_wk (wS (wS (wS (wN w0)))) (s42_49 hv F hr h20 g55 hg55 x1 c2 σ20 hc2)
    · refine b_run [(40, .aload_n 0, 0, 0, .null)] (pc' := 41) (ls' := [some (.ref 1030), some (.int x1), some (.ref c2), none]) (st' := [.ref 1030]) (by decide +kernel) rfl ?_
      refine b_callI 45 1 [.ref 1030] (rest := []) (by decide +kernel) rfl rfl rfl (go_O rfl (by decide +kernel) (by decide +kernel : isO 1030 2 = true)) rfl (s45 hv F σ20) (by omega) (fun c23 σ22 => ?_)
      refine b_izF (c := .ne) (o := 5) (t := 49) (y := 0) (w := .null) (by decide +kernel) cmp_ne (fun _ => ?_) (fun _ => ?_)
      · refine b_run [(47, .aload_n 2, 0, 0, .null)] (pc' := 48) (ls' := [some (.ref 1030), some (.int x1), some (.ref c2), none]) (st' := [.ref c2]) (by decide +kernel) rfl ?_
        exact b_ret (i := (.areturn, 0, 0, .null)) (by decide +kernel) rfl rfl (fit_Or "TreeStore$Part" _)
      · exact b_wk (wS (wS (wS (wN w0)))) (s42_49 hv F hr h20 g55 hg55 x1 c2 σ22 hc2)
def f55_86 (F : Nat) (g55 : Int32 → St → Rs) (y1 : Int32) (y2 : Int32) (z0 : Int32) (σ : St) : Rs := if z0 = (-1) then cR (f42 F g55 y1 σ) fun c20 σ19 => if isO c20 1 = true then some (.inl (some (.ref c20)), σ19) else none
    else lt (σ.1 1030 5) fun c21 => 
    lt (uI σ 1030 5 (c21 + (y2 + 1))) fun σ22 => 
    cR (f43 F z0 σ22) fun c24 σ23 => 
    if isO c24 1 = true then 
    if z0 = 3 then 
    cI (f52 F y1 σ23) fun c26 σ25 => 
    cR (f42 F g55 c26 σ25) fun c28 σ27 => 
    if isO c28 1 = true then lt (uR σ27 c24 1 (.ref c28)) fun σ29 => cV (f50 F 41 σ29) fun σ30 => some (.inl (some (.ref c24)), σ30) else none
    else if z0 = 7 then 
    cI (f52 F y1 σ23) fun c33 σ32 => 
    cR (f53 F g55 c33 σ32) fun c35 σ34 => 
    if isO c35 1 = true then lt (uR σ34 c24 1 (.ref c35)) fun σ36 => cV (f50 F 41 σ36) fun σ37 => some (.inl (some (.ref c24)), σ37) else none
    else cV (f50 F 41 σ23) fun σ39 => some (.inl (some (.ref c24)), σ39) else none
theorem s55_86 {sc : aSc} (hv : vOk sc) (F : Nat) (hr : Nat) (h20 : 20 ≤ hr) (g55 : Int32 → St → Rs) (hg55 : ∀ x1 σ, bEx sc hr 55 0 [some (.ref 1030), some (.int x1), none, none, none] [] σ (g55 x1 σ)) (y1 : Int32) (y2 : Int32) (z0 : Int32) (σ : St) : bEx sc (hr + 5) 55 86 [some (.ref 1030), some (.int y1), some (.int y2), none, none] [.int z0] σ (f55_86 F g55 y1 y2 z0 σ) := by
  unfold f55_86
  refine b_run [(86, .istore_n 3, 0, 0, .null), (87, .iload_n 3, 0, 0, .null), (88, .iconst (-1), 0, 0, .null)] (pc' := 89) (ls' := [some (.ref 1030), some (.int y1), some (.int y2), some (.int z0), none]) (st' := [.int ((-1)), .int z0]) (by decide +kernel) rfl ?_
  refine b_icF (c := .ne) (o := 9) (t := 98) (y := 0) (w := .null) (by decide +kernel) cmp_ne (fun _ => ?_) (fun _ => ?_)
  · refine b_run [(92, .aload_n 0, 0, 0, .null), (93, .iload_n 1, 0, 0, .null)] (pc' := 94) (ls' := [some (.ref 1030), some (.int y1), some (.int y2), some (.int z0), none]) (st' := [.int y1, .ref 1030]) (by decide +kernel) rfl ?_
    refine b_callR 42 2 [.ref 1030, .int y1] (rest := []) (by decide +kernel) rfl rfl rfl (go_O rfl (by decide +kernel) (by decide +kernel : isO 1030 2 = true)) rfl (s42 hv F hr h20 g55 hg55 y1 σ) (by omega) (fun c20 σ19 => b_guard (fun hc20 => ?_))
    exact b_ret (i := (.areturn, 0, 0, .null)) (by decide +kernel) rfl rfl (fit_Or "TreeStore$Part" _)
  · refine b_run [(98, .aload_n 0, 0, 0, .null), (99, .dup, 0, 0, .null)] (pc' := 100) (ls' := [some (.ref 1030), some (.int y1), some (.int y2), some (.int z0), none]) (st' := [.ref 1030, .ref 1030]) (by decide +kernel) rfl ?_
    refine b_gI (q := 36) (ci := 2) (k := 5) (w := .null) (by decide +kernel) (by decide +kernel) (fun c21 => ?_)
    refine b_run [(103, .iload_n 2, 0, 0, .null), (104, .iconst 1, 0, 0, .null), (105, .iadd, 0, 0, .null), (106, .iadd, 0, 0, .null)] (pc' := 107) (ls' := [some (.ref 1030), some (.int y1), some (.int y2), some (.int z0), none]) (st' := [.int (c21 + (y2 + 1)), .ref 1030]) (by decide +kernel) rfl ?_
    refine b_pI (q := 36) (ci := 2) (k := 5) (w := .null) (by decide +kernel) (by decide +kernel) (fit_I _) (fun σ22 => ?_)
    refine b_run [(110, .aload_n 0, 0, 0, .null), (111, .iload_n 3, 0, 0, .null)] (pc' := 112) (ls' := [some (.ref 1030), some (.int y1), some (.int y2), some (.int z0), none]) (st' := [.int z0, .ref 1030]) (by decide +kernel) rfl ?_
    refine b_callR 43 2 [.ref 1030, .int z0] (rest := []) (by decide +kernel) rfl rfl rfl (go_O rfl (by decide +kernel) (by decide +kernel : isO 1030 2 = true)) rfl (s43 hv F z0 σ22) (by omega) (fun c24 σ23 => b_guard (fun hc24 => ?_))
    refine b_run [(115, .astore 4, 0, 0, .null), (117, .iload_n 3, 0, 0, .null), (118, .iconst 3, 0, 0, .null)] (pc' := 119) (ls' := [some (.ref 1030), some (.int y1), some (.int y2), some (.int z0), some (.ref c24)]) (st' := [.int 3, .int z0]) (by decide +kernel) rfl ?_
    refine b_icF (c := .ne) (o := 20) (t := 139) (y := 0) (w := .null) (by decide +kernel) cmp_ne (fun _ => ?_) (fun _ => ?_)
    · refine b_run [(122, .aload 4, 0, 0, .null), (124, .aload_n 0, 0, 0, .null), (125, .aload_n 0, 0, 0, .null), (126, .iload_n 1, 0, 0, .null)] (pc' := 127) (ls' := [some (.ref 1030), some (.int y1), some (.int y2), some (.int z0), some (.ref c24)]) (st' := [.int y1, .ref 1030, .ref 1030, .ref c24]) (by decide +kernel) rfl ?_
      refine b_callI 52 2 [.ref 1030, .int y1] (rest := [.ref 1030, .ref c24]) (by decide +kernel) rfl rfl rfl (go_O rfl (by decide +kernel) (by decide +kernel : isO 1030 2 = true)) rfl (s52 hv F y1 σ23) (by omega) (fun c26 σ25 => ?_)
      refine b_callR 42 2 [.ref 1030, .int c26] (rest := [.ref c24]) (by decide +kernel) rfl rfl rfl (go_O rfl (by decide +kernel) (by decide +kernel : isO 1030 2 = true)) rfl (s42 hv F hr h20 g55 hg55 c26 σ25) (by omega) (fun c28 σ27 => b_guard (fun hc28 => ?_))
      refine b_pM (q := 178) (ci := 1) (k := 1) (w := .null) (by decide +kernel) (fk_M1_1 hc24) (fit_Or "TreeStore$Part" _) (fun σ29 => ?_)
      refine b_run [(136, .goto 23, 159, 0, .null), (159, .aload_n 0, 0, 0, .null), (160, .bipush 41, 0, 0, .null)] (pc' := 162) (ls' := [some (.ref 1030), some (.int y1), some (.int y2), some (.int z0), some (.ref c24)]) (st' := [.int 41, .ref 1030]) (by decide +kernel) rfl ?_
      refine b_callV 50 2 [.ref 1030, .int 41] (rest := []) (by decide +kernel) rfl rfl rfl (go_O rfl (by decide +kernel) (by decide +kernel : isO 1030 2 = true)) rfl (s50 hv F 41 σ29) (by omega) (fun σ30 => ?_)
      refine b_run [(165, .aload 4, 0, 0, .null)] (pc' := 167) (ls' := [some (.ref 1030), some (.int y1), some (.int y2), some (.int z0), some (.ref c24)]) (st' := [.ref c24]) (by decide +kernel) rfl ?_
      exact b_ret (i := (.areturn, 0, 0, .null)) (by decide +kernel) rfl rfl (fit_Or "TreeStore$Part" _)
    · refine b_run [(139, .iload_n 3, 0, 0, .null), (140, .bipush 7, 0, 0, .null)] (pc' := 142) (ls' := [some (.ref 1030), some (.int y1), some (.int y2), some (.int z0), some (.ref c24)]) (st' := [.int 7, .int z0]) (by decide +kernel) rfl ?_
      refine b_icF (c := .ne) (o := 17) (t := 159) (y := 0) (w := .null) (by decide +kernel) cmp_ne (fun _ => ?_) (fun _ => ?_)
      · refine b_run [(145, .aload 4, 0, 0, .null), (147, .aload_n 0, 0, 0, .null), (148, .aload_n 0, 0, 0, .null), (149, .iload_n 1, 0, 0, .null)] (pc' := 150) (ls' := [some (.ref 1030), some (.int y1), some (.int y2), some (.int z0), some (.ref c24)]) (st' := [.int y1, .ref 1030, .ref 1030, .ref c24]) (by decide +kernel) rfl ?_
        refine b_callI 52 2 [.ref 1030, .int y1] (rest := [.ref 1030, .ref c24]) (by decide +kernel) rfl rfl rfl (go_O rfl (by decide +kernel) (by decide +kernel : isO 1030 2 = true)) rfl (s52 hv F y1 σ23) (by omega) (fun c33 σ32 => ?_)
        refine b_callR 53 2 [.ref 1030, .int c33] (rest := [.ref c24]) (by decide +kernel) rfl rfl rfl (go_O rfl (by decide +kernel) (by decide +kernel : isO 1030 2 = true)) rfl (s53 hv F hr h20 g55 hg55 c33 σ32) (by omega) (fun c35 σ34 => b_guard (fun hc35 => ?_))
        refine b_pM (q := 178) (ci := 1) (k := 1) (w := .null) (by decide +kernel) (fk_M1_1 hc24) (fit_Or "TreeStore$Part" _) (fun σ36 => ?_)
        refine b_run [(159, .aload_n 0, 0, 0, .null), (160, .bipush 41, 0, 0, .null)] (pc' := 162) (ls' := [some (.ref 1030), some (.int y1), some (.int y2), some (.int z0), some (.ref c24)]) (st' := [.int 41, .ref 1030]) (by decide +kernel) rfl ?_
        refine b_callV 50 2 [.ref 1030, .int 41] (rest := []) (by decide +kernel) rfl rfl rfl (go_O rfl (by decide +kernel) (by decide +kernel : isO 1030 2 = true)) rfl (s50 hv F 41 σ36) (by omega) (fun σ37 => ?_)
        refine b_run [(165, .aload 4, 0, 0, .null)] (pc' := 167) (ls' := [some (.ref 1030), some (.int y1), some (.int y2), some (.int z0), some (.ref c24)]) (st' := [.ref c24]) (by decide +kernel) rfl ?_
        exact b_ret (i := (.areturn, 0, 0, .null)) (by decide +kernel) rfl rfl (fit_Or "TreeStore$Part" _)
      · refine b_run [(159, .aload_n 0, 0, 0, .null), (160, .bipush 41, 0, 0, .null)] (pc' := 162) (ls' := [some (.ref 1030), some (.int y1), some (.int y2), some (.int z0), some (.ref c24)]) (st' := [.int 41, .ref 1030]) (by decide +kernel) rfl ?_
        refine b_callV 50 2 [.ref 1030, .int 41] (rest := []) (by decide +kernel) rfl rfl rfl (go_O rfl (by decide +kernel) (by decide +kernel : isO 1030 2 = true)) rfl (s50 hv F 41 σ23) (by omega) (fun σ39 => ?_)
        refine b_run [(165, .aload 4, 0, 0, .null)] (pc' := 167) (ls' := [some (.ref 1030), some (.int y1), some (.int y2), some (.int z0), some (.ref c24)]) (st' := [.ref c24]) (by decide +kernel) rfl ?_
        exact b_ret (i := (.areturn, 0, 0, .null)) (by decide +kernel) rfl rfl (fit_Or "TreeStore$Part" _)
def f55_85 (F : Nat) (g55 : Int32 → St → Rs) (y1 : Int32) (y2 : Int32) (σ : St) : Rs := f55_86 F g55 y1 y2 ((-1)) σ
theorem s55_85 {sc : aSc} (hv : vOk sc) (F : Nat) (hr : Nat) (h20 : 20 ≤ hr) (g55 : Int32 → St → Rs) (hg55 : ∀ x1 σ, bEx sc hr 55 0 [some (.ref 1030), some (.int x1), none, none, none] [] σ (g55 x1 σ)) (y1 : Int32) (y2 : Int32) (σ : St) : bEx sc (hr + 5) 55 85 [some (.ref 1030), some (.int y1), some (.int y2), none, none] [] σ (f55_85 F g55 y1 y2 σ) := by
  unfold f55_85
  refine b_run [(85, .iconst (-1), 0, 0, .null)] (pc' := 86) (ls' := [some (.ref 1030), some (.int y1), some (.int y2), none, none]) (st' := [.int ((-1))]) (by decide +kernel) rfl ?_
  exact b_wk (wS (wS (wS (wN (wN w0))))) (s55_86 hv F hr h20 g55 hg55 y1 y2 ((-1)) σ)
/-- TreeStore$PathReader.operand(I)LTreeStore$Part; -/
def f55 (F : Nat) (g55 : Int32 → St → Rs) (x1 : Int32) (σ : St) : Rs := lt (σ.1 1030 5) fun c1 => 
    cI (f92 F 1001 c1 σ) fun c3 σ2 => 
    cI (f23 F c3 σ2) fun c5 σ4 => 
    if c5 = 0 then 
    lt (σ4.1 1030 5) fun c6 => 
    cI (f92 F 1001 c6 σ4) fun c8 σ7 => 
    if c8 = 39 then cR (f57 F σ7) fun c10 σ9 => if isO c10 1 = true then some (.inl (some (.ref c10)), σ9) else none
    else lt (σ7.1 1030 5) fun c11 => 
    cI (f96 F 1001 c11 σ7) fun c13 σ12 => 
    if 0 < c13 then 
    lt (σ12.1 1030 5) fun c14 => 
    cI (f92 F 1001 (c14 + c13) σ12) fun c16 σ15 => 
    if c16 = 40 then cI (f58 F c13 σ15) fun c18 σ17 => f55_86 F g55 x1 c13 c18 σ17
    else f55_85 F g55 x1 c13 σ15
    else f55_85 F g55 x1 c13 σ12
    else cR (f56 F σ4) fun c42 σ41 => if isO c42 1 = true then some (.inl (some (.ref c42)), σ41) else none
theorem s55 {sc : aSc} (hv : vOk sc) (F : Nat) (hr : Nat) (h20 : 20 ≤ hr) (g55 : Int32 → St → Rs) (hg55 : ∀ x1 σ, bEx sc hr 55 0 [some (.ref 1030), some (.int x1), none, none, none] [] σ (g55 x1 σ)) (x1 : Int32) (σ : St) : bEx sc (hr + 5) 55 0 [some (.ref 1030), some (.int x1), none, none, none] [] σ (f55 F g55 x1 σ) := by
  unfold f55
  refine b_run [(0, .aload_n 0, 0, 0, .null)] (pc' := 1) (ls' := [some (.ref 1030), some (.int x1), none, none, none]) (st' := [.ref 1030]) (by decide +kernel) rfl ?_
  refine b_getC (b := 1001) (q := 23) (ci := 2) (k := 0) (w := .null) (by decide +kernel) (by decide +kernel) ?_
  refine b_run [(4, .aload_n 0, 0, 0, .null)] (pc' := 5) (ls' := [some (.ref 1030), some (.int x1), none, none, none]) (st' := [.ref 1030, .ref 1001]) (by decide +kernel) rfl ?_
  refine b_gI (q := 36) (ci := 2) (k := 5) (w := .null) (by decide +kernel) (by decide +kernel) (fun c1 => ?_)
  refine b_callI 92 2 [.ref 1001, .int c1] (rest := []) (by decide +kernel) rfl rfl rfl (go_O rfl (by decide +kernel) (by decide +kernel : isO 1001 5 = true)) rfl (s92 hv F 1001 c1 σ (by decide +kernel : isO 1001 5 = true)) (by omega) (fun c3 σ2 => ?_)
  refine b_callI 23 1 [.int c3] (rest := []) (by decide +kernel) rfl rfl rfl (go_S rfl (by decide +kernel)) rfl (s23 hv F c3 σ2) (by omega) (fun c5 σ4 => ?_)
  refine b_izT (c := .eq) (o := 8) (t := 22) (y := 0) (w := .null) (by decide +kernel) cmp_eq (fun _ => ?_) (fun _ => ?_)
  · refine b_run [(22, .aload_n 0, 0, 0, .null)] (pc' := 23) (ls' := [some (.ref 1030), some (.int x1), none, none, none]) (st' := [.ref 1030]) (by decide +kernel) rfl ?_
    refine b_getC (b := 1001) (q := 23) (ci := 2) (k := 0) (w := .null) (by decide +kernel) (by decide +kernel) ?_
    refine b_run [(26, .aload_n 0, 0, 0, .null)] (pc' := 27) (ls' := [some (.ref 1030), some (.int x1), none, none, none]) (st' := [.ref 1030, .ref 1001]) (by decide +kernel) rfl ?_
    refine b_gI (q := 36) (ci := 2) (k := 5) (w := .null) (by decide +kernel) (by decide +kernel) (fun c6 => ?_)
    refine b_callI 92 2 [.ref 1001, .int c6] (rest := []) (by decide +kernel) rfl rfl rfl (go_O rfl (by decide +kernel) (by decide +kernel : isO 1001 5 = true)) rfl (s92 hv F 1001 c6 σ4 (by decide +kernel : isO 1001 5 = true)) (by omega) (fun c8 σ7 => ?_)
    refine b_run [(33, .bipush 39, 0, 0, .null)] (pc' := 35) (ls' := [some (.ref 1030), some (.int x1), none, none, none]) (st' := [.int 39, .int c8]) (by decide +kernel) rfl ?_
    refine b_icF (c := .ne) (o := 8) (t := 43) (y := 0) (w := .null) (by decide +kernel) cmp_ne (fun _ => ?_) (fun _ => ?_)
    · refine b_run [(38, .aload_n 0, 0, 0, .null)] (pc' := 39) (ls' := [some (.ref 1030), some (.int x1), none, none, none]) (st' := [.ref 1030]) (by decide +kernel) rfl ?_
      refine b_callR 57 1 [.ref 1030] (rest := []) (by decide +kernel) rfl rfl rfl (go_O rfl (by decide +kernel) (by decide +kernel : isO 1030 2 = true)) rfl (s57 hv F σ7) (by omega) (fun c10 σ9 => b_guard (fun hc10 => ?_))
      exact b_ret (i := (.areturn, 0, 0, .null)) (by decide +kernel) rfl rfl (fit_Or "TreeStore$Part" _)
    · refine b_run [(43, .aload_n 0, 0, 0, .null)] (pc' := 44) (ls' := [some (.ref 1030), some (.int x1), none, none, none]) (st' := [.ref 1030]) (by decide +kernel) rfl ?_
      refine b_getC (b := 1001) (q := 23) (ci := 2) (k := 0) (w := .null) (by decide +kernel) (by decide +kernel) ?_
      refine b_run [(47, .aload_n 0, 0, 0, .null)] (pc' := 48) (ls' := [some (.ref 1030), some (.int x1), none, none, none]) (st' := [.ref 1030, .ref 1001]) (by decide +kernel) rfl ?_
      refine b_gI (q := 36) (ci := 2) (k := 5) (w := .null) (by decide +kernel) (by decide +kernel) (fun c11 => ?_)
      refine b_callI 96 2 [.ref 1001, .int c11] (rest := []) (by decide +kernel) rfl rfl rfl (go_O rfl (by decide +kernel) (by decide +kernel : isO 1001 5 = true)) rfl (s96 hv F 1001 c11 σ7 (by decide +kernel : isO 1001 5 = true)) (by omega) (fun c13 σ12 => ?_)
      refine b_run [(54, .istore_n 2, 0, 0, .null), (55, .iload_n 2, 0, 0, .null)] (pc' := 56) (ls' := [some (.ref 1030), some (.int x1), some (.int c13), none, none]) (st' := [.int c13]) (by decide +kernel) rfl ?_
      refine b_izF (c := .le) (o := 29) (t := 85) (y := 0) (w := .null) (by decide +kernel) cmp_le (fun _ => ?_) (fun _ => ?_)
      · refine b_run [(59, .aload_n 0, 0, 0, .null)] (pc' := 60) (ls' := [some (.ref 1030), some (.int x1), some (.int c13), none, none]) (st' := [.ref 1030]) (by decide +kernel) rfl ?_
        refine b_getC (b := 1001) (q := 23) (ci := 2) (k := 0) (w := .null) (by decide +kernel) (by decide +kernel) ?_
        refine b_run [(63, .aload_n 0, 0, 0, .null)] (pc' := 64) (ls' := [some (.ref 1030), some (.int x1), some (.int c13), none, none]) (st' := [.ref 1030, .ref 1001]) (by decide +kernel) rfl ?_
        refine b_gI (q := 36) (ci := 2) (k := 5) (w := .null) (by decide +kernel) (by decide +kernel) (fun c14 => ?_)
        refine b_run [(67, .iload_n 2, 0, 0, .null), (68, .iadd, 0, 0, .null)] (pc' := 69) (ls' := [some (.ref 1030), some (.int x1), some (.int c13), none, none]) (st' := [.int (c14 + c13), .ref 1001]) (by decide +kernel) rfl ?_
        refine b_callI 92 2 [.ref 1001, .int (c14 + c13)] (rest := []) (by decide +kernel) rfl rfl rfl (go_O rfl (by decide +kernel) (by decide +kernel : isO 1001 5 = true)) rfl (s92 hv F 1001 (c14 + c13) σ12 (by decide +kernel : isO 1001 5 = true)) (by omega) (fun c16 σ15 => ?_)
        refine b_run [(72, .bipush 40, 0, 0, .null)] (pc' := 74) (ls' := [some (.ref 1030), some (.int x1), some (.int c13), none, none]) (st' := [.int 40, .int c16]) (by decide +kernel) rfl ?_
        refine b_icF (c := .ne) (o := 11) (t := 85) (y := 0) (w := .null) (by decide +kernel) cmp_ne (fun _ => ?_) (fun _ => ?_)
        · refine b_run [(77, .aload_n 0, 0, 0, .null), (78, .iload_n 2, 0, 0, .null)] (pc' := 79) (ls' := [some (.ref 1030), some (.int x1), some (.int c13), none, none]) (st' := [.int c13, .ref 1030]) (by decide +kernel) rfl ?_
          refine b_callI 58 2 [.ref 1030, .int c13] (rest := []) (by decide +kernel) rfl rfl rfl (go_O rfl (by decide +kernel) (by decide +kernel : isO 1030 2 = true)) rfl (s58 hv F c13 σ15) (by omega) (fun c18 σ17 => ?_)
          refine b_run [(82, .goto 4, 86, 0, .null)] (pc' := 86) (ls' := [some (.ref 1030), some (.int x1), some (.int c13), none, none]) (st' := [.int c18]) (by decide +kernel) rfl ?_
          exact b_wk (wS (wS (wS (wN (wN w0))))) (s55_86 hv F hr h20 g55 hg55 x1 c13 c18 σ17)
        · exact b_wk (wS (wS (wS (wN (wN w0))))) (s55_85 hv F hr h20 g55 hg55 x1 c13 σ15)
      · exact b_wk (wS (wS (wS (wN (wN w0))))) (s55_85 hv F hr h20 g55 hg55 x1 c13 σ12)
  · refine b_run [(17, .aload_n 0, 0, 0, .null)] (pc' := 18) (ls' := [some (.ref 1030), some (.int x1), none, none, none]) (st' := [.ref 1030]) (by decide +kernel) rfl ?_
    refine b_callR 56 1 [.ref 1030] (rest := []) (by decide +kernel) rfl rfl rfl (go_O rfl (by decide +kernel) (by decide +kernel : isO 1030 2 = true)) rfl (s56 hv F σ4) (by omega) (fun c42 σ41 => b_guard (fun hc42 => ?_))
    exact b_ret (i := (.areturn, 0, 0, .null)) (by decide +kernel) rfl rfl (fit_Or "TreeStore$Part" _)
