def r55 (F : Nat) : Nat → Int32 → St → Rs
  | 0, _, _ => none
  | e + 1, x1, σ => f55 F (r55 F e) x1 σ
theorem t55 {sc : aSc} (hv : vOk sc) (F : Nat) : ∀ (e : Nat) (x1 : Int32) (σ : St), bEx sc (20 + 5 * e) 55 0 [some (.ref 1030), some (.int x1), none, none, none] [] σ (r55 F e x1 σ) := by
  intro e
  induction e with
  | zero => intros; exact b_none
  | succ e ih =>
    intro x1 σ
    rw [r55.eq_2]
    exact b_up (by omega) (s55 hv F (20 + 5 * e) (by omega) (r55 F e) ih x1 σ)
/-- TreeStore$PathReader.readPath()LTreeStore$Part; -/
def f41 (F : Nat) (σ : St) : Rs := lt (uI σ 1030 3 0) fun σ1 => 
    lt (uI σ1 1030 4 0) fun σ2 => 
    lt (uI σ2 1030 5 0) fun σ3 => 
    cR (f42 F (r55 F 10) 0 σ3) fun c5 σ4 => 
    if isO c5 1 = true then 
    lt (σ4.1 1030 5) fun c6 => 
    lt (σ4.1 1001 1) fun c7 => 
    if c6 < c7 then oT 10 σ4
    else some (.inl (some (.ref c5)), σ4) else none
theorem s41 {sc : aSc} (hv : vOk sc) (F : Nat) (σ : St) : bEx sc 75 41 0 [some (.ref 1030), none] [] σ (f41 F σ) := by
  unfold f41
  refine b_run [(0, .aload_n 0, 0, 0, .null), (1, .iconst 0, 0, 0, .null)] (pc' := 2) (ls' := [some (.ref 1030), none]) (st' := [.int 0, .ref 1030]) (by decide +kernel) rfl ?_
  refine b_pI (q := 29) (ci := 2) (k := 3) (w := .null) (by decide +kernel) (by decide +kernel) (fit_I _) (fun σ1 => ?_)
  refine b_run [(5, .aload_n 0, 0, 0, .null), (6, .iconst 0, 0, 0, .null)] (pc' := 7) (ls' := [some (.ref 1030), none]) (st' := [.int 0, .ref 1030]) (by decide +kernel) rfl ?_
  refine b_pI (q := 33) (ci := 2) (k := 4) (w := .null) (by decide +kernel) (by decide +kernel) (fit_I _) (fun σ2 => ?_)
  refine b_run [(10, .aload_n 0, 0, 0, .null), (11, .iconst 0, 0, 0, .null)] (pc' := 12) (ls' := [some (.ref 1030), none]) (st' := [.int 0, .ref 1030]) (by decide +kernel) rfl ?_
  refine b_pI (q := 36) (ci := 2) (k := 5) (w := .null) (by decide +kernel) (by decide +kernel) (fit_I _) (fun σ3 => ?_)
  refine b_run [(15, .aload_n 0, 0, 0, .null), (16, .iconst 0, 0, 0, .null)] (pc' := 17) (ls' := [some (.ref 1030), none]) (st' := [.int 0, .ref 1030]) (by decide +kernel) rfl ?_
  refine b_callR 42 2 [.ref 1030, .int 0] (rest := []) (by decide +kernel) rfl rfl rfl (go_O rfl (by decide +kernel) (by decide +kernel : isO 1030 2 = true)) rfl (s42 hv F _ (by decide) (r55 F 10) (t55 hv F 10) 0 σ3) (by decide) (fun c5 σ4 => b_guard (fun hc5 => ?_))
  refine b_run [(20, .astore_n 1, 0, 0, .null), (21, .aload_n 0, 0, 0, .null)] (pc' := 22) (ls' := [some (.ref 1030), some (.ref c5)]) (st' := [.ref 1030]) (by decide +kernel) rfl ?_
  refine b_gI (q := 36) (ci := 2) (k := 5) (w := .null) (by decide +kernel) (by decide +kernel) (fun c6 => ?_)
  refine b_run [(25, .aload_n 0, 0, 0, .null)] (pc' := 26) (ls' := [some (.ref 1030), some (.ref c5)]) (st' := [.ref 1030, .int c6]) (by decide +kernel) rfl ?_
  refine b_getC (b := 1001) (q := 23) (ci := 2) (k := 0) (w := .null) (by decide +kernel) (by decide +kernel) ?_
  refine b_gI (q := 43) (ci := 5) (k := 1) (w := .null) (by decide +kernel) (by decide +kernel) (fun c7 => ?_)
  refine b_icF (c := .ge) (o := 13) (t := 45) (y := 0) (w := .null) (by decide +kernel) cmp_ge (fun _ => ?_) (fun _ => ?_)
  · exact b_thr (i := (.new 48, 10, 1, .null)) (by decide +kernel) rfl rfl rfl
  · refine b_run [(45, .aload_n 1, 0, 0, .null)] (pc' := 46) (ls' := [some (.ref 1030), some (.ref c5)]) (st' := [.ref c5]) (by decide +kernel) rfl ?_
    exact b_ret (i := (.areturn, 0, 0, .null)) (by decide +kernel) rfl rfl (fit_Or "TreeStore$Part" _)
/-- TreeStore$PathWalker.areSiblings(II)Z -/
def f67 (F : Nat) (x1 : Int32) (x2 : Int32) (σ : St) : Rs := if inB x1 30 then lt (σ.1 1004 x1.toNatClampNeg) fun c1 => 
    if c1 = 2 then oI 0 σ
    else if inB x2 30 then lt (σ.1 1004 x2.toNatClampNeg) fun c2 => 
    if c2 = 2 then oI 0 σ
    else if inB x1 30 then lt (σ.1 1008 x1.toNatClampNeg) fun c3 => 
    if inB x2 30 then lt (σ.1 1008 x2.toNatClampNeg) fun c4 => 
    if c3 = c4 then oI 1 σ
    else oI 0 σ else none else none else none else none
theorem s67 {sc : aSc} (hv : vOk sc) (F : Nat) (x1 : Int32) (x2 : Int32) (σ : St) : bEx sc 0 67 0 [some (.ref 1313), some (.int x1), some (.int x2)] [] σ (f67 F x1 x2 σ) := by
  unfold f67
  refine b_run [(0, .aload_n 0, 0, 0, .null)] (pc' := 1) (ls' := [some (.ref 1313), some (.int x1), some (.int x2)]) (st' := [.ref 1313]) (by decide +kernel) rfl ?_
  refine b_getC (b := 1003) (q := 15) (ci := 3) (k := 1) (w := .null) (by decide +kernel) (by decide +kernel) ?_
  refine b_getC (b := 1004) (q := 109) (ci := 8) (k := 0) (w := .null) (by decide +kernel) (by decide +kernel) ?_
  refine b_run [(7, .iload_n 1, 0, 0, .null)] (pc' := 8) (ls' := [some (.ref 1313), some (.int x1), some (.int x2)]) (st' := [.int x1, .ref 1004]) (by decide +kernel) rfl ?_
  refine b_guard (fun hb => ?_)
  refine b_aI (ci := 0) (y := 0) (w := .null) (by decide +kernel) (by decide +kernel) hb (fun c1 => ?_)
  refine b_run [(9, .iconst 2, 0, 0, .null)] (pc' := 10) (ls' := [some (.ref 1313), some (.int x1), some (.int x2)]) (st' := [.int 2, .int c1]) (by decide +kernel) rfl ?_
  refine b_icT (c := .eq) (o := 41) (t := 51) (y := 0) (w := .null) (by decide +kernel) cmp_eq (fun _ => ?_) (fun _ => ?_)
  · refine b_run [(51, .iconst 0, 0, 0, .null)] (pc' := 52) (ls' := [some (.ref 1313), some (.int x1), some (.int x2)]) (st' := [.int 0]) (by decide +kernel) rfl ?_
    exact b_ret (i := (.ireturn, 0, 0, .null)) (by decide +kernel) rfl rfl (by decide +kernel)
  · refine b_run [(13, .aload_n 0, 0, 0, .null)] (pc' := 14) (ls' := [some (.ref 1313), some (.int x1), some (.int x2)]) (st' := [.ref 1313]) (by decide +kernel) rfl ?_
    refine b_getC (b := 1003) (q := 15) (ci := 3) (k := 1) (w := .null) (by decide +kernel) (by decide +kernel) ?_
    refine b_getC (b := 1004) (q := 109) (ci := 8) (k := 0) (w := .null) (by decide +kernel) (by decide +kernel) ?_
    refine b_run [(20, .iload_n 2, 0, 0, .null)] (pc' := 21) (ls' := [some (.ref 1313), some (.int x1), some (.int x2)]) (st' := [.int x2, .ref 1004]) (by decide +kernel) rfl ?_
    refine b_guard (fun hb => ?_)
    refine b_aI (ci := 0) (y := 0) (w := .null) (by decide +kernel) (by decide +kernel) hb (fun c2 => ?_)
    refine b_run [(22, .iconst 2, 0, 0, .null)] (pc' := 23) (ls' := [some (.ref 1313), some (.int x1), some (.int x2)]) (st' := [.int 2, .int c2]) (by decide +kernel) rfl ?_
    refine b_icT (c := .eq) (o := 28) (t := 51) (y := 0) (w := .null) (by decide +kernel) cmp_eq (fun _ => ?_) (fun _ => ?_)
    · refine b_run [(51, .iconst 0, 0, 0, .null)] (pc' := 52) (ls' := [some (.ref 1313), some (.int x1), some (.int x2)]) (st' := [.int 0]) (by decide +kernel) rfl ?_
      exact b_ret (i := (.ireturn, 0, 0, .null)) (by decide +kernel) rfl rfl (by decide +kernel)
    · refine b_run [(26, .aload_n 0, 0, 0, .null)] (pc' := 27) (ls' := [some (.ref 1313), some (.int x1), some (.int x2)]) (st' := [.ref 1313]) (by decide +kernel) rfl ?_
      refine b_getC (b := 1003) (q := 15) (ci := 3) (k := 1) (w := .null) (by decide +kernel) (by decide +kernel) ?_
      refine b_getC (b := 1008) (q := 124) (ci := 8) (k := 4) (w := .null) (by decide +kernel) (by decide +kernel) ?_
      refine b_run [(33, .iload_n 1, 0, 0, .null)] (pc' := 34) (ls' := [some (.ref 1313), some (.int x1), some (.int x2)]) (st' := [.int x1, .ref 1008]) (by decide +kernel) rfl ?_
      refine b_guard (fun hb => ?_)
      refine b_aI (ci := 0) (y := 0) (w := .null) (by decide +kernel) (by decide +kernel) hb (fun c3 => ?_)
      refine b_run [(35, .aload_n 0, 0, 0, .null)] (pc' := 36) (ls' := [some (.ref 1313), some (.int x1), some (.int x2)]) (st' := [.ref 1313, .int c3]) (by decide +kernel) rfl ?_
      refine b_getC (b := 1003) (q := 15) (ci := 3) (k := 1) (w := .null) (by decide +kernel) (by decide +kernel) ?_
      refine b_getC (b := 1008) (q := 124) (ci := 8) (k := 4) (w := .null) (by decide +kernel) (by decide +kernel) ?_
      refine b_run [(42, .iload_n 2, 0, 0, .null)] (pc' := 43) (ls' := [some (.ref 1313), some (.int x1), some (.int x2)]) (st' := [.int x2, .ref 1008, .int c3]) (by decide +kernel) rfl ?_
      refine b_guard (fun hb => ?_)
      refine b_aI (ci := 0) (y := 0) (w := .null) (by decide +kernel) (by decide +kernel) hb (fun c4 => ?_)
      refine b_icF (c := .ne) (o := 7) (t := 51) (y := 0) (w := .null) (by decide +kernel) cmp_ne (fun _ => ?_) (fun _ => ?_)
      · refine b_run [(47, .iconst 1, 0, 0, .null), (48, .goto 4, 52, 0, .null)] (pc' := 52) (ls' := [some (.ref 1313), some (.int x1), some (.int x2)]) (st' := [.int 1]) (by decide +kernel) rfl ?_
        exact b_ret (i := (.ireturn, 0, 0, .null)) (by decide +kernel) rfl rfl (by decide +kernel)
      · refine b_run [(51, .iconst 0, 0, 0, .null)] (pc' := 52) (ls' := [some (.ref 1313), some (.int x1), some (.int x2)]) (st' := [.int 0]) (by decide +kernel) rfl ?_
        exact b_ret (i := (.ireturn, 0, 0, .null)) (by decide +kernel) rfl rfl (by decide +kernel)
def f66_72 (F : Nat) (y1 : Nat) (y2 : Int32) (y3 : Int32) (y4 : Int32) (y5 : Int32) (z0 : Int32) (σ : St) : Rs := cI (f255 F y1 σ) fun c5 σ4 => 
    if inB c5 12 then lt (Int32.ofNat (c5.toNatClampNeg + 1)) fun c6 => 
    if c6 = 1 then 
    if y4 = 0 then oI 0 σ4
    else if inB y3 30 then lt (σ4.1 1008 y3.toNatClampNeg) fun c7 => 
    if c7 = y2 then oI 1 σ4
    else oI 0 σ4 else none
    else if c6 = 2 then 
    if y4 = 0 then oI 0 σ4
    else if y5 = 0 then oI 0 σ4
    else oI 1 σ4
    else if c6 = 3 then 
    if inB y2 30 then lt (σ4.1 1008 y2.toNatClampNeg) fun c8 => 
    if c8 = y3 then oI 1 σ4
    else oI 0 σ4 else none
    else if c6 = 4 then if z0 = 0 ∨ z0 = 1 then oI z0 σ4 else none
    else if c6 = 5 then 
    if y3 = y2 then oI 1 σ4
    else oI 0 σ4
    else if c6 = 6 then 
    if y4 = 0 then 
    if inB y3 30 then lt (σ4.1 1008 y3.toNatClampNeg) fun c9 => 
    if c9 = y2 then oI 1 σ4
    else oI 0 σ4 else none
    else oI 0 σ4
    else if c6 = 7 then 
    if y2 < y3 then 
    cI (f67 F y2 y3 σ4) fun c11 σ10 => 
    if c11 = 0 then oI 0 σ10
    else oI 1 σ10
    else oI 0 σ4
    else if c6 = 8 then 
    if y3 < y2 then 
    cI (f67 F y2 y3 σ4) fun c13 σ12 => 
    if c13 = 0 then oI 0 σ12
    else oI 1 σ12
    else oI 0 σ4
    else if c6 = 9 then 
    if y4 = 0 then oI 0 σ4
    else if y2 < y3 then 
    if y5 = 0 then oI 1 σ4
    else oI 0 σ4
    else oI 0 σ4
    else if c6 = 10 then 
    if y4 = 0 then oI 0 σ4
    else if y3 < y2 then 
    if z0 = 0 then oI 1 σ4
    else oI 0 σ4
    else oI 0 σ4
    else if c6 = 11 then 
    if y3 = y2 then oI 1 σ4
    else if y4 = 0 then oI 0 σ4
    else if y5 = 0 then oI 0 σ4
    else oI 1 σ4
    else if c6 = 12 then 
    if y3 = y2 then oI 1 σ4
    else if z0 = 0 then oI 0 σ4
    else oI 1 σ4
    else oI 0 σ4 else none
theorem s66_72 {sc : aSc} (hv : vOk sc) (F : Nat) (y1 : Nat) (y2 : Int32) (y3 : Int32) (y4 : Int32) (y5 : Int32) (z0 : Int32) (σ : St) (hy1 : isX y1 = true) : bEx sc 4 66 72 [some (.ref 1313), some (.ref y1), some (.int y2), some (.int y3), some (.int y4), some (.int y5), none] [.int z0] σ (f66_72 F y1 y2 y3 y4 y5 z0 σ) := by
  unfold f66_72
  refine b_run [(72, .istore 6, 0, 0, .null)] (pc' := 74) (ls' := [some (.ref 1313), some (.ref y1), some (.int y2), some (.int y3), some (.int y4), some (.int y5), some (.int z0)]) (st' := []) (by decide +kernel) rfl ?_
  refine b_gs (q := 115) (y := 0) (w := .ref 113) (by decide +kernel) ?_
  refine b_run [(77, .aload_n 1, 0, 0, .null)] (pc' := 78) (ls' := [some (.ref 1313), some (.ref y1), some (.int y2), some (.int y3), some (.int y4), some (.int y5), some (.int z0)]) (st' := [.ref y1, .ref 113]) (by decide +kernel) rfl ?_
  refine b_callI 255 1 [.ref y1] (rest := [.ref 113]) (by decide +kernel) rfl rfl rfl (go_A rfl (by decide +kernel) hy1) rfl (s255 hv F y1 σ hy1) (by decide) (fun c5 σ4 => ?_)
  refine b_guard (fun hb => ?_)
  refine b_a113 (ci := 0) (y := 0) (w := .null) (by decide +kernel) hb (fun c6 => ?_)
  refine b_ite (fun e0 => ?_) (fun e0 => ?_)
  · refine b_sw (dl := 278) (lo := 1) (hi' := 12) (offs := #[62, 86, 102, 121, 124, 135, 159, 179, 199, 220, 241, 262]) (t := 62) (y := 0) (w := .null) (by decide +kernel) (swE e0 (by decide +kernel : aSw 82 278 1 12 #[62, 86, 102, 121, 124, 135, 159, 179, 199, 220, 241, 262] 1 = some 144)) ?_
    refine b_run [(144, .iload 4, 0, 0, .null)] (pc' := 146) (ls' := [some (.ref 1313), some (.ref y1), some (.int y2), some (.int y3), some (.int y4), some (.int y5), some (.int z0)]) (st' := [.int y4]) (by decide +kernel) rfl ?_
    refine b_izT (c := .eq) (o := 20) (t := 166) (y := 0) (w := .null) (by decide +kernel) cmp_eq (fun _ => ?_) (fun _ => ?_)
    · refine b_run [(166, .iconst 0, 0, 0, .null)] (pc' := 167) (ls' := [some (.ref 1313), some (.ref y1), some (.int y2), some (.int y3), some (.int y4), some (.int y5), some (.int z0)]) (st' := [.int 0]) (by decide +kernel) rfl ?_
      exact b_ret (i := (.ireturn, 0, 0, .null)) (by decide +kernel) rfl rfl (by decide +kernel)
    · refine b_run [(149, .aload_n 0, 0, 0, .null)] (pc' := 150) (ls' := [some (.ref 1313), some (.ref y1), some (.int y2), some (.int y3), some (.int y4), some (.int y5), some (.int z0)]) (st' := [.ref 1313]) (by decide +kernel) rfl ?_
      refine b_getC (b := 1003) (q := 15) (ci := 3) (k := 1) (w := .null) (by decide +kernel) (by decide +kernel) ?_
      refine b_getC (b := 1008) (q := 124) (ci := 8) (k := 4) (w := .null) (by decide +kernel) (by decide +kernel) ?_
      refine b_run [(156, .iload_n 3, 0, 0, .null)] (pc' := 157) (ls' := [some (.ref 1313), some (.ref y1), some (.int y2), some (.int y3), some (.int y4), some (.int y5), some (.int z0)]) (st' := [.int y3, .ref 1008]) (by decide +kernel) rfl ?_
      refine b_guard (fun hb => ?_)
      refine b_aI (ci := 0) (y := 0) (w := .null) (by decide +kernel) (by decide +kernel) hb (fun c7 => ?_)
      refine b_run [(158, .iload_n 2, 0, 0, .null)] (pc' := 159) (ls' := [some (.ref 1313), some (.ref y1), some (.int y2), some (.int y3), some (.int y4), some (.int y5), some (.int z0)]) (st' := [.int y2, .int c7]) (by decide +kernel) rfl ?_
      refine b_icF (c := .ne) (o := 7) (t := 166) (y := 0) (w := .null) (by decide +kernel) cmp_ne (fun _ => ?_) (fun _ => ?_)
      · refine b_run [(162, .iconst 1, 0, 0, .null), (163, .goto 4, 167, 0, .null)] (pc' := 167) (ls' := [some (.ref 1313), some (.ref y1), some (.int y2), some (.int y3), some (.int y4), some (.int y5), some (.int z0)]) (st' := [.int 1]) (by decide +kernel) rfl ?_
        exact b_ret (i := (.ireturn, 0, 0, .null)) (by decide +kernel) rfl rfl (by decide +kernel)
      · refine b_run [(166, .iconst 0, 0, 0, .null)] (pc' := 167) (ls' := [some (.ref 1313), some (.ref y1), some (.int y2), some (.int y3), some (.int y4), some (.int y5), some (.int z0)]) (st' := [.int 0]) (by decide +kernel) rfl ?_
        exact b_ret (i := (.ireturn, 0, 0, .null)) (by decide +kernel) rfl rfl (by decide +kernel)
  refine b_ite (fun e1 => ?_) (fun e1 => ?_)
  · refine b_sw (dl := 278) (lo := 1) (hi' := 12) (offs := #[62, 86, 102, 121, 124, 135, 159, 179, 199, 220, 241, 262]) (t := 62) (y := 0) (w := .null) (by decide +kernel) (swE e1 (by decide +kernel : aSw 82 278 1 12 #[62, 86, 102, 121, 124, 135, 159, 179, 199, 220, 241, 262] 2 = some 168)) ?_
    refine b_run [(168, .iload 4, 0, 0, .null)] (pc' := 170) (ls' := [some (.ref 1313), some (.ref y1), some (.int y2), some (.int y3), some (.int y4), some (.int y5), some (.int z0)]) (st' := [.int y4]) (by decide +kernel) rfl ?_
    refine b_izT (c := .eq) (o := 12) (t := 182) (y := 0) (w := .null) (by decide +kernel) cmp_eq (fun _ => ?_) (fun _ => ?_)
    · refine b_run [(182, .iconst 0, 0, 0, .null)] (pc' := 183) (ls' := [some (.ref 1313), some (.ref y1), some (.int y2), some (.int y3), some (.int y4), some (.int y5), some (.int z0)]) (st' := [.int 0]) (by decide +kernel) rfl ?_
      exact b_ret (i := (.ireturn, 0, 0, .null)) (by decide +kernel) rfl rfl (by decide +kernel)
    · refine b_run [(173, .iload 5, 0, 0, .null)] (pc' := 175) (ls' := [some (.ref 1313), some (.ref y1), some (.int y2), some (.int y3), some (.int y4), some (.int y5), some (.int z0)]) (st' := [.int y5]) (by decide +kernel) rfl ?_
      refine b_izT (c := .eq) (o := 7) (t := 182) (y := 0) (w := .null) (by decide +kernel) cmp_eq (fun _ => ?_) (fun _ => ?_)
      · refine b_run [(182, .iconst 0, 0, 0, .null)] (pc' := 183) (ls' := [some (.ref 1313), some (.ref y1), some (.int y2), some (.int y3), some (.int y4), some (.int y5), some (.int z0)]) (st' := [.int 0]) (by decide +kernel) rfl ?_
        exact b_ret (i := (.ireturn, 0, 0, .null)) (by decide +kernel) rfl rfl (by decide +kernel)
      · refine b_run [(178, .iconst 1, 0, 0, .null), (179, .goto 4, 183, 0, .null)] (pc' := 183) (ls' := [some (.ref 1313), some (.ref y1), some (.int y2), some (.int y3), some (.int y4), some (.int y5), some (.int z0)]) (st' := [.int 1]) (by decide +kernel) rfl ?_
        exact b_ret (i := (.ireturn, 0, 0, .null)) (by decide +kernel) rfl rfl (by decide +kernel)
  refine b_ite (fun e2 => ?_) (fun e2 => ?_)
  · refine b_sw (dl := 278) (lo := 1) (hi' := 12) (offs := #[62, 86, 102, 121, 124, 135, 159, 179, 199, 220, 241, 262]) (t := 62) (y := 0) (w := .null) (by decide +kernel) (swE e2 (by decide +kernel : aSw 82 278 1 12 #[62, 86, 102, 121, 124, 135, 159, 179, 199, 220, 241, 262] 3 = some 184)) ?_
    refine b_run [(184, .aload_n 0, 0, 0, .null)] (pc' := 185) (ls' := [some (.ref 1313), some (.ref y1), some (.int y2), some (.int y3), some (.int y4), some (.int y5), some (.int z0)]) (st' := [.ref 1313]) (by decide +kernel) rfl ?_
    refine b_getC (b := 1003) (q := 15) (ci := 3) (k := 1) (w := .null) (by decide +kernel) (by decide +kernel) ?_
    refine b_getC (b := 1008) (q := 124) (ci := 8) (k := 4) (w := .null) (by decide +kernel) (by decide +kernel) ?_
    refine b_run [(191, .iload_n 2, 0, 0, .null)] (pc' := 192) (ls' := [some (.ref 1313), some (.ref y1), some (.int y2), some (.int y3), some (.int y4), some (.int y5), some (.int z0)]) (st' := [.int y2, .ref 1008]) (by decide +kernel) rfl ?_
    refine b_guard (fun hb => ?_)
    refine b_aI (ci := 0) (y := 0) (w := .null) (by decide +kernel) (by decide +kernel) hb (fun c8 => ?_)
    refine b_run [(193, .iload_n 3, 0, 0, .null)] (pc' := 194) (ls' := [some (.ref 1313), some (.ref y1), some (.int y2), some (.int y3), some (.int y4), some (.int y5), some (.int z0)]) (st' := [.int y3, .int c8]) (by decide +kernel) rfl ?_
    refine b_icF (c := .ne) (o := 7) (t := 201) (y := 0) (w := .null) (by decide +kernel) cmp_ne (fun _ => ?_) (fun _ => ?_)
    · refine b_run [(197, .iconst 1, 0, 0, .null), (198, .goto 4, 202, 0, .null)] (pc' := 202) (ls' := [some (.ref 1313), some (.ref y1), some (.int y2), some (.int y3), some (.int y4), some (.int y5), some (.int z0)]) (st' := [.int 1]) (by decide +kernel) rfl ?_
      exact b_ret (i := (.ireturn, 0, 0, .null)) (by decide +kernel) rfl rfl (by decide +kernel)
    · refine b_run [(201, .iconst 0, 0, 0, .null)] (pc' := 202) (ls' := [some (.ref 1313), some (.ref y1), some (.int y2), some (.int y3), some (.int y4), some (.int y5), some (.int z0)]) (st' := [.int 0]) (by decide +kernel) rfl ?_
      exact b_ret (i := (.ireturn, 0, 0, .null)) (by decide +kernel) rfl rfl (by decide +kernel)
  refine b_ite (fun e3 => ?_) (fun e3 => ?_)
  · refine b_sw (dl := 278) (lo := 1) (hi' := 12) (offs := #[62, 86, 102, 121, 124, 135, 159, 179, 199, 220, 241, 262]) (t := 62) (y := 0) (w := .null) (by decide +kernel) (swE e3 (by decide +kernel : aSw 82 278 1 12 #[62, 86, 102, 121, 124, 135, 159, 179, 199, 220, 241, 262] 4 = some 203)) ?_
    refine b_run [(203, .iload 6, 0, 0, .null)] (pc' := 205) (ls' := [some (.ref 1313), some (.ref y1), some (.int y2), some (.int y3), some (.int y4), some (.int y5), some (.int z0)]) (st' := [.int z0]) (by decide +kernel) rfl ?_
    exact b_guard (fun hz => b_ret (i := (.ireturn, 0, 0, .null)) (by decide +kernel) rfl rfl (fit_Z hz))
  refine b_ite (fun e4 => ?_) (fun e4 => ?_)
  · refine b_sw (dl := 278) (lo := 1) (hi' := 12) (offs := #[62, 86, 102, 121, 124, 135, 159, 179, 199, 220, 241, 262]) (t := 62) (y := 0) (w := .null) (by decide +kernel) (swE e4 (by decide +kernel : aSw 82 278 1 12 #[62, 86, 102, 121, 124, 135, 159, 179, 199, 220, 241, 262] 5 = some 206)) ?_
    refine b_run [(206, .iload_n 3, 0, 0, .null), (207, .iload_n 2, 0, 0, .null)] (pc' := 208) (ls' := [some (.ref 1313), some (.ref y1), some (.int y2), some (.int y3), some (.int y4), some (.int y5), some (.int z0)]) (st' := [.int y2, .int y3]) (by decide +kernel) rfl ?_
    refine b_icF (c := .ne) (o := 7) (t := 215) (y := 0) (w := .null) (by decide +kernel) cmp_ne (fun _ => ?_) (fun _ => ?_)
    · refine b_run [(211, .iconst 1, 0, 0, .null), (212, .goto 4, 216, 0, .null)] (pc' := 216) (ls' := [some (.ref 1313), some (.ref y1), some (.int y2), some (.int y3), some (.int y4), some (.int y5), some (.int z0)]) (st' := [.int 1]) (by decide +kernel) rfl ?_
      exact b_ret (i := (.ireturn, 0, 0, .null)) (by decide +kernel) rfl rfl (by decide +kernel)
    · refine b_run [(215, .iconst 0, 0, 0, .null)] (pc' := 216) (ls' := [some (.ref 1313), some (.ref y1), some (.int y2), some (.int y3), some (.int y4), some (.int y5), some (.int z0)]) (st' := [.int 0]) (by decide +kernel) rfl ?_
      exact b_ret (i := (.ireturn, 0, 0, .null)) (by decide +kernel) rfl rfl (by decide +kernel)
  refine b_ite (fun e5 => ?_) (fun e5 => ?_)
  · refine b_sw (dl := 278) (lo := 1) (hi' := 12) (offs := #[62, 86, 102, 121, 124, 135, 159, 179, 199, 220, 241, 262]) (t := 62) (y := 0) (w := .null) (by decide +kernel) (swE e5 (by decide +kernel : aSw 82 278 1 12 #[62, 86, 102, 121, 124, 135, 159, 179, 199, 220, 241, 262] 6 = some 217)) ?_
    refine b_run [(217, .iload 4, 0, 0, .null)] (pc' := 219) (ls' := [some (.ref 1313), some (.ref y1), some (.int y2), some (.int y3), some (.int y4), some (.int y5), some (.int z0)]) (st' := [.int y4]) (by decide +kernel) rfl ?_
    refine b_izF (c := .ne) (o := 20) (t := 239) (y := 0) (w := .null) (by decide +kernel) cmp_ne (fun _ => ?_) (fun _ => ?_)
    · refine b_run [(222, .aload_n 0, 0, 0, .null)] (pc' := 223) (ls' := [some (.ref 1313), some (.ref y1), some (.int y2), some (.int y3), some (.int y4), some (.int y5), some (.int z0)]) (st' := [.ref 1313]) (by decide +kernel) rfl ?_
      refine b_getC (b := 1003) (q := 15) (ci := 3) (k := 1) (w := .null) (by decide +kernel) (by decide +kernel) ?_
      refine b_getC (b := 1008) (q := 124) (ci := 8) (k := 4) (w := .null) (by decide +kernel) (by decide +kernel) ?_
      refine b_run [(229, .iload_n 3, 0, 0, .null)] (pc' := 230) (ls' := [some (.ref 1313), some (.ref y1), some (.int y2), some (.int y3), some (.int y4), some (.int y5), some (.int z0)]) (st' := [.int y3, .ref 1008]) (by decide +kernel) rfl ?_
      refine b_guard (fun hb => ?_)
      refine b_aI (ci := 0) (y := 0) (w := .null) (by decide +kernel) (by decide +kernel) hb (fun c9 => ?_)
      refine b_run [(231, .iload_n 2, 0, 0, .null)] (pc' := 232) (ls' := [some (.ref 1313), some (.ref y1), some (.int y2), some (.int y3), some (.int y4), some (.int y5), some (.int z0)]) (st' := [.int y2, .int c9]) (by decide +kernel) rfl ?_
      refine b_icF (c := .ne) (o := 7) (t := 239) (y := 0) (w := .null) (by decide +kernel) cmp_ne (fun _ => ?_) (fun _ => ?_)
      · refine b_run [(235, .iconst 1, 0, 0, .null), (236, .goto 4, 240, 0, .null)] (pc' := 240) (ls' := [some (.ref 1313), some (.ref y1), some (.int y2), some (.int y3), some (.int y4), some (.int y5), some (.int z0)]) (st' := [.int 1]) (by decide +kernel) rfl ?_
        exact b_ret (i := (.ireturn, 0, 0, .null)) (by decide +kernel) rfl rfl (by decide +kernel)
      · refine b_run [(239, .iconst 0, 0, 0, .null)] (pc' := 240) (ls' := [some (.ref 1313), some (.ref y1), some (.int y2), some (.int y3), some (.int y4), some (.int y5), some (.int z0)]) (st' := [.int 0]) (by decide +kernel) rfl ?_
        exact b_ret (i := (.ireturn, 0, 0, .null)) (by decide +kernel) rfl rfl (by decide +kernel)
    · refine b_run [(239, .iconst 0, 0, 0, .null)] (pc' := 240) (ls' := [some (.ref 1313), some (.ref y1), some (.int y2), some (.int y3), some (.int y4), some (.int y5), some (.int z0)]) (st' := [.int 0]) (by decide +kernel) rfl ?_
      exact b_ret (i := (.ireturn, 0, 0, .null)) (by decide +kernel) rfl rfl (by decide +kernel)
  refine b_ite (fun e6 => ?_) (fun e6 => ?_)
  · refine b_sw (dl := 278) (lo := 1) (hi' := 12) (offs := #[62, 86, 102, 121, 124, 135, 159, 179, 199, 220, 241, 262]) (t := 62) (y := 0) (w := .null) (by decide +kernel) (swE e6 (by decide +kernel : aSw 82 278 1 12 #[62, 86, 102, 121, 124, 135, 159, 179, 199, 220, 241, 262] 7 = some 241)) ?_
    refine b_run [(241, .iload_n 3, 0, 0, .null), (242, .iload_n 2, 0, 0, .null)] (pc' := 243) (ls' := [some (.ref 1313), some (.ref y1), some (.int y2), some (.int y3), some (.int y4), some (.int y5), some (.int z0)]) (st' := [.int y2, .int y3]) (by decide +kernel) rfl ?_
    refine b_icF (c := .le) (o := 16) (t := 259) (y := 0) (w := .null) (by decide +kernel) cmp_le (fun _ => ?_) (fun _ => ?_)
    · refine b_run [(246, .aload_n 0, 0, 0, .null), (247, .iload_n 2, 0, 0, .null), (248, .iload_n 3, 0, 0, .null)] (pc' := 249) (ls' := [some (.ref 1313), some (.ref y1), some (.int y2), some (.int y3), some (.int y4), some (.int y5), some (.int z0)]) (st' := [.int y3, .int y2, .ref 1313]) (by decide +kernel) rfl ?_
      refine b_callI 67 3 [.ref 1313, .int y2, .int y3] (rest := []) (by decide +kernel) rfl rfl rfl (go_O rfl (by decide +kernel) (by decide +kernel : isO 1313 3 = true)) rfl (s67 hv F y2 y3 σ4) (by decide) (fun c11 σ10 => ?_)
      refine b_izT (c := .eq) (o := 7) (t := 259) (y := 0) (w := .null) (by decide +kernel) cmp_eq (fun _ => ?_) (fun _ => ?_)
      · refine b_run [(259, .iconst 0, 0, 0, .null)] (pc' := 260) (ls' := [some (.ref 1313), some (.ref y1), some (.int y2), some (.int y3), some (.int y4), some (.int y5), some (.int z0)]) (st' := [.int 0]) (by decide +kernel) rfl ?_
        exact b_ret (i := (.ireturn, 0, 0, .null)) (by decide +kernel) rfl rfl (by decide +kernel)
      · refine b_run [(255, .iconst 1, 0, 0, .null), (256, .goto 4, 260, 0, .null)] (pc' := 260) (ls' := [some (.ref 1313), some (.ref y1), some (.int y2), some (.int y3), some (.int y4), some (.int y5), some (.int z0)]) (st' := [.int 1]) (by decide +kernel) rfl ?_
        exact b_ret (i := (.ireturn, 0, 0, .null)) (by decide +kernel) rfl rfl (by decide +kernel)
    · refine b_run [(259, .iconst 0, 0, 0, .null)] (pc' := 260) (ls' := [some (.ref 1313), some (.ref y1), some (.int y2), some (.int y3), some (.int y4), some (.int y5), some (.int z0)]) (st' := [.int 0]) (by decide +kernel) rfl ?_
      exact b_ret (i := (.ireturn, 0, 0, .null)) (by decide +kernel) rfl rfl (by decide +kernel)
  refine b_ite (fun e7 => ?_) (fun e7 => ?_)
  · refine b_sw (dl := 278) (lo := 1) (hi' := 12) (offs := #[62, 86, 102, 121, 124, 135, 159, 179, 199, 220, 241, 262]) (t := 62) (y := 0) (w := .null) (by decide +kernel) (swE e7 (by decide +kernel : aSw 82 278 1 12 #[62, 86, 102, 121, 124, 135, 159, 179, 199, 220, 241, 262] 8 = some 261)) ?_
    refine b_run [(261, .iload_n 3, 0, 0, .null), (262, .iload_n 2, 0, 0, .null)] (pc' := 263) (ls' := [some (.ref 1313), some (.ref y1), some (.int y2), some (.int y3), some (.int y4), some (.int y5), some (.int z0)]) (st' := [.int y2, .int y3]) (by decide +kernel) rfl ?_
    refine b_icF (c := .ge) (o := 16) (t := 279) (y := 0) (w := .null) (by decide +kernel) cmp_ge (fun _ => ?_) (fun _ => ?_)
    · refine b_run [(266, .aload_n 0, 0, 0, .null), (267, .iload_n 2, 0, 0, .null), (268, .iload_n 3, 0, 0, .null)] (pc' := 269) (ls' := [some (.ref 1313), some (.ref y1), some (.int y2), some (.int y3), some (.int y4), some (.int y5), some (.int z0)]) (st' := [.int y3, .int y2, .ref 1313]) (by decide +kernel) rfl ?_
      refine b_callI 67 3 [.ref 1313, .int y2, .int y3] (rest := []) (by decide +kernel) rfl rfl rfl (go_O rfl (by decide +kernel) (by decide +kernel : isO 1313 3 = true)) rfl (s67 hv F y2 y3 σ4) (by decide) (fun c13 σ12 => ?_)
      refine b_izT (c := .eq) (o := 7) (t := 279) (y := 0) (w := .null) (by decide +kernel) cmp_eq (fun _ => ?_) (fun _ => ?_)
      · refine b_run [(279, .iconst 0, 0, 0, .null)] (pc' := 280) (ls' := [some (.ref 1313), some (.ref y1), some (.int y2), some (.int y3), some (.int y4), some (.int y5), some (.int z0)]) (st' := [.int 0]) (by decide +kernel) rfl ?_
        exact b_ret (i := (.ireturn, 0, 0, .null)) (by decide +kernel) rfl rfl (by decide +kernel)
      · refine b_run [(275, .iconst 1, 0, 0, .null), (276, .goto 4, 280, 0, .null)] (pc' := 280) (ls' := [some (.ref 1313), some (.ref y1), some (.int y2), some (.int y3), some (.int y4), some (.int y5), some (.int z0)]) (st' := [.int 1]) (by decide +kernel) rfl ?_
        exact b_ret (i := (.ireturn, 0, 0, .null)) (by decide +kernel) rfl rfl (by decide +kernel)
    · refine b_run [(279, .iconst 0, 0, 0, .null)] (pc' := 280) (ls' := [some (.ref 1313), some (.ref y1), some (.int y2), some (.int y3), some (.int y4), some (.int y5), some (.int z0)]) (st' := [.int 0]) (by decide +kernel) rfl ?_
      exact b_ret (i := (.ireturn, 0, 0, .null)) (by decide +kernel) rfl rfl (by decide +kernel)
  refine b_ite (fun e8 => ?_) (fun e8 => ?_)
  · refine b_sw (dl := 278) (lo := 1) (hi' := 12) (offs := #[62, 86, 102, 121, 124, 135, 159, 179, 199, 220, 241, 262]) (t := 62) (y := 0) (w := .null) (by decide +kernel) (swE e8 (by decide +kernel : aSw 82 278 1 12 #[62, 86, 102, 121, 124, 135, 159, 179, 199, 220, 241, 262] 9 = some 281)) ?_
    refine b_run [(281, .iload 4, 0, 0, .null)] (pc' := 283) (ls' := [some (.ref 1313), some (.ref y1), some (.int y2), some (.int y3), some (.int y4), some (.int y5), some (.int z0)]) (st' := [.int y4]) (by decide +kernel) rfl ?_
    refine b_izT (c := .eq) (o := 17) (t := 300) (y := 0) (w := .null) (by decide +kernel) cmp_eq (fun _ => ?_) (fun _ => ?_)
    · refine b_run [(300, .iconst 0, 0, 0, .null)] (pc' := 301) (ls' := [some (.ref 1313), some (.ref y1), some (.int y2), some (.int y3), some (.int y4), some (.int y5), some (.int z0)]) (st' := [.int 0]) (by decide +kernel) rfl ?_
      exact b_ret (i := (.ireturn, 0, 0, .null)) (by decide +kernel) rfl rfl (by decide +kernel)
    · refine b_run [(286, .iload_n 3, 0, 0, .null), (287, .iload_n 2, 0, 0, .null)] (pc' := 288) (ls' := [some (.ref 1313), some (.ref y1), some (.int y2), some (.int y3), some (.int y4), some (.int y5), some (.int z0)]) (st' := [.int y2, .int y3]) (by decide +kernel) rfl ?_
      refine b_icF (c := .le) (o := 12) (t := 300) (y := 0) (w := .null) (by decide +kernel) cmp_le (fun _ => ?_) (fun _ => ?_)
      · refine b_run [(291, .iload 5, 0, 0, .null)] (pc' := 293) (ls' := [some (.ref 1313), some (.ref y1), some (.int y2), some (.int y3), some (.int y4), some (.int y5), some (.int z0)]) (st' := [.int y5]) (by decide +kernel) rfl ?_
        refine b_izF (c := .ne) (o := 7) (t := 300) (y := 0) (w := .null) (by decide +kernel) cmp_ne (fun _ => ?_) (fun _ => ?_)
        · refine b_run [(296, .iconst 1, 0, 0, .null), (297, .goto 4, 301, 0, .null)] (pc' := 301) (ls' := [some (.ref 1313), some (.ref y1), some (.int y2), some (.int y3), some (.int y4), some (.int y5), some (.int z0)]) (st' := [.int 1]) (by decide +kernel) rfl ?_
          exact b_ret (i := (.ireturn, 0, 0, .null)) (by decide +kernel) rfl rfl (by decide +kernel)
        · refine b_run [(300, .iconst 0, 0, 0, .null)] (pc' := 301) (ls' := [some (.ref 1313), some (.ref y1), some (.int y2), some (.int y3), some (.int y4), some (.int y5), some (.int z0)]) (st' := [.int 0]) (by decide +kernel) rfl ?_
          exact b_ret (i := (.ireturn, 0, 0, .null)) (by decide +kernel) rfl rfl (by decide +kernel)
      · refine b_run [(300, .iconst 0, 0, 0, .null)] (pc' := 301) (ls' := [some (.ref 1313), some (.ref y1), some (.int y2), some (.int y3), some (.int y4), some (.int y5), some (.int z0)]) (st' := [.int 0]) (by decide +kernel) rfl ?_
        exact b_ret (i := (.ireturn, 0, 0, .null)) (by decide +kernel) rfl rfl (by decide +kernel)
  refine b_ite (fun e9 => ?_) (fun e9 => ?_)
  · refine b_sw (dl := 278) (lo := 1) (hi' := 12) (offs := #[62, 86, 102, 121, 124, 135, 159, 179, 199, 220, 241, 262]) (t := 62) (y := 0) (w := .null) (by decide +kernel) (swE e9 (by decide +kernel : aSw 82 278 1 12 #[62, 86, 102, 121, 124, 135, 159, 179, 199, 220, 241, 262] 10 = some 302)) ?_
    refine b_run [(302, .iload 4, 0, 0, .null)] (pc' := 304) (ls' := [some (.ref 1313), some (.ref y1), some (.int y2), some (.int y3), some (.int y4), some (.int y5), some (.int z0)]) (st' := [.int y4]) (by decide +kernel) rfl ?_
    refine b_izT (c := .eq) (o := 17) (t := 321) (y := 0) (w := .null) (by decide +kernel) cmp_eq (fun _ => ?_) (fun _ => ?_)
    · refine b_run [(321, .iconst 0, 0, 0, .null)] (pc' := 322) (ls' := [some (.ref 1313), some (.ref y1), some (.int y2), some (.int y3), some (.int y4), some (.int y5), some (.int z0)]) (st' := [.int 0]) (by decide +kernel) rfl ?_
      exact b_ret (i := (.ireturn, 0, 0, .null)) (by decide +kernel) rfl rfl (by decide +kernel)
    · refine b_run [(307, .iload_n 3, 0, 0, .null), (308, .iload_n 2, 0, 0, .null)] (pc' := 309) (ls' := [some (.ref 1313), some (.ref y1), some (.int y2), some (.int y3), some (.int y4), some (.int y5), some (.int z0)]) (st' := [.int y2, .int y3]) (by decide +kernel) rfl ?_
      refine b_icF (c := .ge) (o := 12) (t := 321) (y := 0) (w := .null) (by decide +kernel) cmp_ge (fun _ => ?_) (fun _ => ?_)
      · refine b_run [(312, .iload 6, 0, 0, .null)] (pc' := 314) (ls' := [some (.ref 1313), some (.ref y1), some (.int y2), some (.int y3), some (.int y4), some (.int y5), some (.int z0)]) (st' := [.int z0]) (by decide +kernel) rfl ?_
        refine b_izF (c := .ne) (o := 7) (t := 321) (y := 0) (w := .null) (by decide +kernel) cmp_ne (fun _ => ?_) (fun _ => ?_)
        · refine b_run [(317, .iconst 1, 0, 0, .null), (318, .goto 4, 322, 0, .null)] (pc' := 322) (ls' := [some (.ref 1313), some (.ref y1), some (.int y2), some (.int y3), some (.int y4), some (.int y5), some (.int z0)]) (st' := [.int 1]) (by decide +kernel) rfl ?_
          exact b_ret (i := (.ireturn, 0, 0, .null)) (by decide +kernel) rfl rfl (by decide +kernel)
        · refine b_run [(321, .iconst 0, 0, 0, .null)] (pc' := 322) (ls' := [some (.ref 1313), some (.ref y1), some (.int y2), some (.int y3), some (.int y4), some (.int y5), some (.int z0)]) (st' := [.int 0]) (by decide +kernel) rfl ?_
          exact b_ret (i := (.ireturn, 0, 0, .null)) (by decide +kernel) rfl rfl (by decide +kernel)
      · refine b_run [(321, .iconst 0, 0, 0, .null)] (pc' := 322) (ls' := [some (.ref 1313), some (.ref y1), some (.int y2), some (.int y3), some (.int y4), some (.int y5), some (.int z0)]) (st' := [.int 0]) (by decide +kernel) rfl ?_
        exact b_ret (i := (.ireturn, 0, 0, .null)) (by decide +kernel) rfl rfl (by decide +kernel)
  refine b_ite (fun e10 => ?_) (fun e10 => ?_)
  · refine b_sw (dl := 278) (lo := 1) (hi' := 12) (offs := #[62, 86, 102, 121, 124, 135, 159, 179, 199, 220, 241, 262]) (t := 62) (y := 0) (w := .null) (by decide +kernel) (swE e10 (by decide +kernel : aSw 82 278 1 12 #[62, 86, 102, 121, 124, 135, 159, 179, 199, 220, 241, 262] 11 = some 323)) ?_
    refine b_run [(323, .iload_n 3, 0, 0, .null), (324, .iload_n 2, 0, 0, .null)] (pc' := 325) (ls' := [some (.ref 1313), some (.ref y1), some (.int y2), some (.int y3), some (.int y4), some (.int y5), some (.int z0)]) (st' := [.int y2, .int y3]) (by decide +kernel) rfl ?_
    refine b_icT (c := .eq) (o := 13) (t := 338) (y := 0) (w := .null) (by decide +kernel) cmp_eq (fun _ => ?_) (fun _ => ?_)
    · refine b_run [(338, .iconst 1, 0, 0, .null), (339, .goto 4, 343, 0, .null)] (pc' := 343) (ls' := [some (.ref 1313), some (.ref y1), some (.int y2), some (.int y3), some (.int y4), some (.int y5), some (.int z0)]) (st' := [.int 1]) (by decide +kernel) rfl ?_
      exact b_ret (i := (.ireturn, 0, 0, .null)) (by decide +kernel) rfl rfl (by decide +kernel)
    · refine b_run [(328, .iload 4, 0, 0, .null)] (pc' := 330) (ls' := [some (.ref 1313), some (.ref y1), some (.int y2), some (.int y3), some (.int y4), some (.int y5), some (.int z0)]) (st' := [.int y4]) (by decide +kernel) rfl ?_
      refine b_izT (c := .eq) (o := 12) (t := 342) (y := 0) (w := .null) (by decide +kernel) cmp_eq (fun _ => ?_) (fun _ => ?_)
      · refine b_run [(342, .iconst 0, 0, 0, .null)] (pc' := 343) (ls' := [some (.ref 1313), some (.ref y1), some (.int y2), some (.int y3), some (.int y4), some (.int y5), some (.int z0)]) (st' := [.int 0]) (by decide +kernel) rfl ?_
        exact b_ret (i := (.ireturn, 0, 0, .null)) (by decide +kernel) rfl rfl (by decide +kernel)
      · refine b_run [(333, .iload 5, 0, 0, .null)] (pc' := 335) (ls' := [some (.ref 1313), some (.ref y1), some (.int y2), some (.int y3), some (.int y4), some (.int y5), some (.int z0)]) (st' := [.int y5]) (by decide +kernel) rfl ?_
        refine b_izT (c := .eq) (o := 7) (t := 342) (y := 0) (w := .null) (by decide +kernel) cmp_eq (fun _ => ?_) (fun _ => ?_)
        · refine b_run [(342, .iconst 0, 0, 0, .null)] (pc' := 343) (ls' := [some (.ref 1313), some (.ref y1), some (.int y2), some (.int y3), some (.int y4), some (.int y5), some (.int z0)]) (st' := [.int 0]) (by decide +kernel) rfl ?_
          exact b_ret (i := (.ireturn, 0, 0, .null)) (by decide +kernel) rfl rfl (by decide +kernel)
        · refine b_run [(338, .iconst 1, 0, 0, .null), (339, .goto 4, 343, 0, .null)] (pc' := 343) (ls' := [some (.ref 1313), some (.ref y1), some (.int y2), some (.int y3), some (.int y4), some (.int y5), some (.int z0)]) (st' := [.int 1]) (by decide +kernel) rfl ?_
          exact b_ret (i := (.ireturn, 0, 0, .null)) (by decide +kernel) rfl rfl (by decide +kernel)
  refine b_ite (fun e11 => ?_) (fun e11 => ?_)
  · refine b_sw (dl := 278) (lo := 1) (hi' := 12) (offs := #[62, 86, 102, 121, 124, 135, 159, 179, 199, 220, 241, 262]) (t := 62) (y := 0) (w := .null) (by decide +kernel) (swE e11 (by decide +kernel : aSw 82 278 1 12 #[62, 86, 102, 121, 124, 135, 159, 179, 199, 220, 241, 262] 12 = some 344)) ?_
    refine b_run [(344, .iload_n 3, 0, 0, .null), (345, .iload_n 2, 0, 0, .null)] (pc' := 346) (ls' := [some (.ref 1313), some (.ref y1), some (.int y2), some (.int y3), some (.int y4), some (.int y5), some (.int z0)]) (st' := [.int y2, .int y3]) (by decide +kernel) rfl ?_
    refine b_icT (c := .eq) (o := 8) (t := 354) (y := 0) (w := .null) (by decide +kernel) cmp_eq (fun _ => ?_) (fun _ => ?_)
    · refine b_run [(354, .iconst 1, 0, 0, .null), (355, .goto 4, 359, 0, .null)] (pc' := 359) (ls' := [some (.ref 1313), some (.ref y1), some (.int y2), some (.int y3), some (.int y4), some (.int y5), some (.int z0)]) (st' := [.int 1]) (by decide +kernel) rfl ?_
      exact b_ret (i := (.ireturn, 0, 0, .null)) (by decide +kernel) rfl rfl (by decide +kernel)
    · refine b_run [(349, .iload 6, 0, 0, .null)] (pc' := 351) (ls' := [some (.ref 1313), some (.ref y1), some (.int y2), some (.int y3), some (.int y4), some (.int y5), some (.int z0)]) (st' := [.int z0]) (by decide +kernel) rfl ?_
      refine b_izT (c := .eq) (o := 7) (t := 358) (y := 0) (w := .null) (by decide +kernel) cmp_eq (fun _ => ?_) (fun _ => ?_)
      · refine b_run [(358, .iconst 0, 0, 0, .null)] (pc' := 359) (ls' := [some (.ref 1313), some (.ref y1), some (.int y2), some (.int y3), some (.int y4), some (.int y5), some (.int z0)]) (st' := [.int 0]) (by decide +kernel) rfl ?_
        exact b_ret (i := (.ireturn, 0, 0, .null)) (by decide +kernel) rfl rfl (by decide +kernel)
      · refine b_run [(354, .iconst 1, 0, 0, .null), (355, .goto 4, 359, 0, .null)] (pc' := 359) (ls' := [some (.ref 1313), some (.ref y1), some (.int y2), some (.int y3), some (.int y4), some (.int y5), some (.int z0)]) (st' := [.int 1]) (by decide +kernel) rfl ?_
        exact b_ret (i := (.ireturn, 0, 0, .null)) (by decide +kernel) rfl rfl (by decide +kernel)
  refine b_sw (dl := 278) (lo := 1) (hi' := 12) (offs := #[62, 86, 102, 121, 124, 135, 159, 179, 199, 220, 241, 262]) (t := 62) (y := 0) (w := .null) (by decide +kernel) (swD (pc' := 360) (by have q0 : (c6 : Int32).toInt ≠ 1 := swN e0; have q1 : (c6 : Int32).toInt ≠ 2 := swN e1; have q2 : (c6 : Int32).toInt ≠ 3 := swN e2; have q3 : (c6 : Int32).toInt ≠ 4 := swN e3; have q4 : (c6 : Int32).toInt ≠ 5 := swN e4; have q5 : (c6 : Int32).toInt ≠ 6 := swN e5; have q6 : (c6 : Int32).toInt ≠ 7 := swN e6; have q7 : (c6 : Int32).toInt ≠ 8 := swN e7; have q8 : (c6 : Int32).toInt ≠ 9 := swN e8; have q9 : (c6 : Int32).toInt ≠ 10 := swN e9; have q10 : (c6 : Int32).toInt ≠ 11 := swN e10; have q11 : (c6 : Int32).toInt ≠ 12 := swN e11; omega) rfl) ?_
  refine b_run [(360, .iconst 0, 0, 0, .null)] (pc' := 361) (ls' := [some (.ref 1313), some (.ref y1), some (.int y2), some (.int y3), some (.int y4), some (.int y5), some (.int z0)]) (st' := [.int 0]) (by decide +kernel) rfl ?_
  exact b_ret (i := (.ireturn, 0, 0, .null)) (by decide +kernel) rfl rfl (by decide +kernel)
def f66_71 (F : Nat) (y1 : Nat) (y2 : Int32) (y3 : Int32) (y4 : Int32) (y5 : Int32) (σ : St) : Rs := f66_72 F y1 y2 y3 y4 y5 0 σ
theorem s66_71 {sc : aSc} (hv : vOk sc) (F : Nat) (y1 : Nat) (y2 : Int32) (y3 : Int32) (y4 : Int32) (y5 : Int32) (σ : St) (hy1 : isX y1 = true) : bEx sc 4 66 71 [some (.ref 1313), some (.ref y1), some (.int y2), some (.int y3), some (.int y4), some (.int y5), none] [] σ (f66_71 F y1 y2 y3 y4 y5 σ) := by
  unfold f66_71
  refine b_run [(71, .iconst 0, 0, 0, .null)] (pc' := 72) (ls' := [some (.ref 1313), some (.ref y1), some (.int y2), some (.int y3), some (.int y4), some (.int y5), none]) (st' := [.int 0]) (by decide +kernel) rfl ?_
  exact b_wk (wS (wS (wS (wS (wS (wS (wN w0))))))) (s66_72 hv F y1 y2 y3 y4 y5 0 σ hy1)
def f66_45 (F : Nat) (y1 : Nat) (y2 : Int32) (y3 : Int32) (y4 : Int32) (z0 : Int32) (σ : St) : Rs := if y3 < y2 then 
    if inB y3 30 then lt (σ.1 1009 y3.toNatClampNeg) fun c3 => 
    if y3 + c3 < y2 then f66_71 F y1 y2 y3 y4 z0 σ
    else f66_72 F y1 y2 y3 y4 z0 1 σ else none
    else f66_71 F y1 y2 y3 y4 z0 σ
theorem s66_45 {sc : aSc} (hv : vOk sc) (F : Nat) (y1 : Nat) (y2 : Int32) (y3 : Int32) (y4 : Int32) (z0 : Int32) (σ : St) (hy1 : isX y1 = true) : bEx sc 4 66 45 [some (.ref 1313), some (.ref y1), some (.int y2), some (.int y3), some (.int y4), none, none] [.int z0] σ (f66_45 F y1 y2 y3 y4 z0 σ) := by
  unfold f66_45
  refine b_run [(45, .istore 5, 0, 0, .null), (47, .iload_n 3, 0, 0, .null), (48, .iload_n 2, 0, 0, .null)] (pc' := 49) (ls' := [some (.ref 1313), some (.ref y1), some (.int y2), some (.int y3), some (.int y4), some (.int z0), none]) (st' := [.int y2, .int y3]) (by decide +kernel) rfl ?_
  refine b_icF (c := .ge) (o := 22) (t := 71) (y := 0) (w := .null) (by decide +kernel) cmp_ge (fun _ => ?_) (fun _ => ?_)
  · refine b_run [(52, .iload_n 2, 0, 0, .null), (53, .iload_n 3, 0, 0, .null), (54, .aload_n 0, 0, 0, .null)] (pc' := 55) (ls' := [some (.ref 1313), some (.ref y1), some (.int y2), some (.int y3), some (.int y4), some (.int z0), none]) (st' := [.ref 1313, .int y3, .int y2]) (by decide +kernel) rfl ?_
    refine b_getC (b := 1003) (q := 15) (ci := 3) (k := 1) (w := .null) (by decide +kernel) (by decide +kernel) ?_
    refine b_getC (b := 1009) (q := 112) (ci := 8) (k := 5) (w := .null) (by decide +kernel) (by decide +kernel) ?_
    refine b_run [(61, .iload_n 3, 0, 0, .null)] (pc' := 62) (ls' := [some (.ref 1313), some (.ref y1), some (.int y2), some (.int y3), some (.int y4), some (.int z0), none]) (st' := [.int y3, .ref 1009, .int y3, .int y2]) (by decide +kernel) rfl ?_
    refine b_guard (fun hb => ?_)
    refine b_aI (ci := 0) (y := 0) (w := .null) (by decide +kernel) (by decide +kernel) hb (fun c3 => ?_)
    refine b_run [(63, .iadd, 0, 0, .null)] (pc' := 64) (ls' := [some (.ref 1313), some (.ref y1), some (.int y2), some (.int y3), some (.int y4), some (.int z0), none]) (st' := [.int (y3 + c3), .int y2]) (by decide +kernel) rfl ?_
    refine b_icT (c := .gt) (o := 7) (t := 71) (y := 0) (w := .null) (by decide +kernel) cmp_gt (fun _ => ?_) (fun _ => ?_)
    · exact b_wk (wS (wS (wS (wS (wS (wS (wN w0))))))) (s66_71 hv F y1 y2 y3 y4 z0 σ hy1)
    · refine b_run [(67, .iconst 1, 0, 0, .null), (68, .goto 4, 72, 0, .null)] (pc' := 72) (ls' := [some (.ref 1313), some (.ref y1), some (.int y2), some (.int y3), some (.int y4), some (.int z0), none]) (st' := [.int 1]) (by decide +kernel) rfl ?_
      exact b_wk (wS (wS (wS (wS (wS (wS (wN w0))))))) (s66_72 hv F y1 y2 y3 y4 z0 1 σ hy1)
  · exact b_wk (wS (wS (wS (wS (wS (wS (wN w0))))))) (s66_71 hv F y1 y2 y3 y4 z0 σ hy1)
def f66_44 (F : Nat) (y1 : Nat) (y2 : Int32) (y3 : Int32) (y4 : Int32) (σ : St) : Rs := f66_45 F y1 y2 y3 y4 0 σ
theorem s66_44 {sc : aSc} (hv : vOk sc) (F : Nat) (y1 : Nat) (y2 : Int32) (y3 : Int32) (y4 : Int32) (σ : St) (hy1 : isX y1 = true) : bEx sc 4 66 44 [some (.ref 1313), some (.ref y1), some (.int y2), some (.int y3), some (.int y4), none, none] [] σ (f66_44 F y1 y2 y3 y4 σ) := by
  unfold f66_44
  refine b_run [(44, .iconst 0, 0, 0, .null)] (pc' := 45) (ls' := [some (.ref 1313), some (.ref y1), some (.int y2), some (.int y3), some (.int y4), none, none]) (st' := [.int 0]) (by decide +kernel) rfl ?_
  exact b_wk (wS (wS (wS (wS (wS (wN (wN w0))))))) (s66_45 hv F y1 y2 y3 y4 0 σ hy1)
def f66_18 (F : Nat) (y1 : Nat) (y2 : Int32) (y3 : Int32) (z0 : Int32) (σ : St) : Rs := if y2 < y3 then 
    if inB y2 30 then lt (σ.1 1009 y2.toNatClampNeg) fun c2 => 
    if y2 + c2 < y3 then f66_44 F y1 y2 y3 z0 σ
    else f66_45 F y1 y2 y3 z0 1 σ else none
    else f66_44 F y1 y2 y3 z0 σ
theorem s66_18 {sc : aSc} (hv : vOk sc) (F : Nat) (y1 : Nat) (y2 : Int32) (y3 : Int32) (z0 : Int32) (σ : St) (hy1 : isX y1 = true) : bEx sc 4 66 18 [some (.ref 1313), some (.ref y1), some (.int y2), some (.int y3), none, none, none] [.int z0] σ (f66_18 F y1 y2 y3 z0 σ) := by
  unfold f66_18
  refine b_run [(18, .istore 4, 0, 0, .null), (20, .iload_n 3, 0, 0, .null), (21, .iload_n 2, 0, 0, .null)] (pc' := 22) (ls' := [some (.ref 1313), some (.ref y1), some (.int y2), some (.int y3), some (.int z0), none, none]) (st' := [.int y2, .int y3]) (by decide +kernel) rfl ?_
  refine b_icF (c := .le) (o := 22) (t := 44) (y := 0) (w := .null) (by decide +kernel) cmp_le (fun _ => ?_) (fun _ => ?_)
  · refine b_run [(25, .iload_n 3, 0, 0, .null), (26, .iload_n 2, 0, 0, .null), (27, .aload_n 0, 0, 0, .null)] (pc' := 28) (ls' := [some (.ref 1313), some (.ref y1), some (.int y2), some (.int y3), some (.int z0), none, none]) (st' := [.ref 1313, .int y2, .int y3]) (by decide +kernel) rfl ?_
    refine b_getC (b := 1003) (q := 15) (ci := 3) (k := 1) (w := .null) (by decide +kernel) (by decide +kernel) ?_
    refine b_getC (b := 1009) (q := 112) (ci := 8) (k := 5) (w := .null) (by decide +kernel) (by decide +kernel) ?_
    refine b_run [(34, .iload_n 2, 0, 0, .null)] (pc' := 35) (ls' := [some (.ref 1313), some (.ref y1), some (.int y2), some (.int y3), some (.int z0), none, none]) (st' := [.int y2, .ref 1009, .int y2, .int y3]) (by decide +kernel) rfl ?_
    refine b_guard (fun hb => ?_)
    refine b_aI (ci := 0) (y := 0) (w := .null) (by decide +kernel) (by decide +kernel) hb (fun c2 => ?_)
    refine b_run [(36, .iadd, 0, 0, .null)] (pc' := 37) (ls' := [some (.ref 1313), some (.ref y1), some (.int y2), some (.int y3), some (.int z0), none, none]) (st' := [.int (y2 + c2), .int y3]) (by decide +kernel) rfl ?_
    refine b_icT (c := .gt) (o := 7) (t := 44) (y := 0) (w := .null) (by decide +kernel) cmp_gt (fun _ => ?_) (fun _ => ?_)
    · exact b_wk (wS (wS (wS (wS (wS (wN (wN w0))))))) (s66_44 hv F y1 y2 y3 z0 σ hy1)
    · refine b_run [(40, .iconst 1, 0, 0, .null), (41, .goto 4, 45, 0, .null)] (pc' := 45) (ls' := [some (.ref 1313), some (.ref y1), some (.int y2), some (.int y3), some (.int z0), none, none]) (st' := [.int 1]) (by decide +kernel) rfl ?_
      exact b_wk (wS (wS (wS (wS (wS (wN (wN w0))))))) (s66_45 hv F y1 y2 y3 z0 1 σ hy1)
  · exact b_wk (wS (wS (wS (wS (wS (wN (wN w0))))))) (s66_44 hv F y1 y2 y3 z0 σ hy1)
/-- TreeStore$PathWalker.isOnAxis(LTreeStore$Axis;II)Z -/
def f66 (F : Nat) (x1 : Nat) (x2 : Int32) (x3 : Int32) (σ : St) : Rs := if inB x3 30 then lt (σ.1 1004 x3.toNatClampNeg) fun c1 => 
    if c1 = 2 then f66_18 F x1 x2 x3 0 σ
    else f66_18 F x1 x2 x3 1 σ else none
theorem s66 {sc : aSc} (hv : vOk sc) (F : Nat) (x1 : Nat) (x2 : Int32) (x3 : Int32) (σ : St) (hx1 : isX x1 = true) : bEx sc 4 66 0 [some (.ref 1313), some (.ref x1), some (.int x2), some (.int x3), none, none, none] [] σ (f66 F x1 x2 x3 σ) := by
  unfold f66
  refine b_run [(0, .aload_n 0, 0, 0, .null)] (pc' := 1) (ls' := [some (.ref 1313), some (.ref x1), some (.int x2), some (.int x3), none, none, none]) (st' := [.ref 1313]) (by decide +kernel) rfl ?_
  refine b_getC (b := 1003) (q := 15) (ci := 3) (k := 1) (w := .null) (by decide +kernel) (by decide +kernel) ?_
  refine b_getC (b := 1004) (q := 109) (ci := 8) (k := 0) (w := .null) (by decide +kernel) (by decide +kernel) ?_
  refine b_run [(7, .iload_n 3, 0, 0, .null)] (pc' := 8) (ls' := [some (.ref 1313), some (.ref x1), some (.int x2), some (.int x3), none, none, none]) (st' := [.int x3, .ref 1004]) (by decide +kernel) rfl ?_
  refine b_guard (fun hb => ?_)
  refine b_aI (ci := 0) (y := 0) (w := .null) (by decide +kernel) (by decide +kernel) hb (fun c1 => ?_)
  refine b_run [(9, .iconst 2, 0, 0, .null)] (pc' := 10) (ls' := [some (.ref 1313), some (.ref x1), some (.int x2), some (.int x3), none, none, none]) (st' := [.int 2, .int c1]) (by decide +kernel) rfl ?_
  refine b_icT (c := .eq) (o := 7) (t := 17) (y := 0) (w := .null) (by decide +kernel) cmp_eq (fun _ => ?_) (fun _ => ?_)
  · refine b_run [(17, .iconst 0, 0, 0, .null)] (pc' := 18) (ls' := [some (.ref 1313), some (.ref x1), some (.int x2), some (.int x3), none, none, none]) (st' := [.int 0]) (by decide +kernel) rfl ?_
    exact b_wk (wS (wS (wS (wS (wN (wN (wN w0))))))) (s66_18 hv F x1 x2 x3 0 σ hx1)
  · refine b_run [(13, .iconst 1, 0, 0, .null), (14, .goto 4, 18, 0, .null)] (pc' := 18) (ls' := [some (.ref 1313), some (.ref x1), some (.int x2), some (.int x3), none, none, none]) (st' := [.int 1]) (by decide +kernel) rfl ?_
    exact b_wk (wS (wS (wS (wS (wN (wN (wN w0))))))) (s66_18 hv F x1 x2 x3 1 σ hx1)
def f68_15 (F : Nat) (y1 : Nat) (y2 : Int32) (z0 : Int32) (σ : St) : Rs := lt (σ.1 y1 1) fun c2 => 
    if c2 = 0 then 
    if inB y2 30 then lt (σ.1 1004 y2.toNatClampNeg) fun c3 => 
    if c3 = z0 then 
    lt (σ.1 y1 2) fun c4 => 
    lt (σ.1 y1 3) fun c5 => 
    cI (f136 F 1003 y2 1001 c4 c5 σ) fun c7 σ6 => 
    if c7 = 0 then oI 0 σ6
    else oI 1 σ6
    else oI 0 σ else none
    else if c2 = 1 then 
    if inB y2 30 then lt (σ.1 1004 y2.toNatClampNeg) fun c8 => 
    if c8 = z0 then oI 1 σ
    else oI 0 σ else none
    else if c2 = 2 then 
    if inB y2 30 then lt (σ.1 1004 y2.toNatClampNeg) fun c9 => 
    if c9 = 3 then oI 1 σ
    else oI 0 σ else none
    else if c2 = 3 then 
    if inB y2 30 then lt (σ.1 1004 y2.toNatClampNeg) fun c10 => 
    if c10 = 4 then oI 1 σ
    else oI 0 σ else none
    else oI 1 σ
theorem s68_15 {sc : aSc} (hv : vOk sc) (F : Nat) (y1 : Nat) (y2 : Int32) (z0 : Int32) (σ : St) (hy1 : isO y1 6 = true) : bEx sc 2 68 15 [some (.ref 1313), some (.ref y1), some (.int y2), none] [.int z0] σ (f68_15 F y1 y2 z0 σ) := by
  unfold f68_15
  refine b_run [(15, .istore_n 3, 0, 0, .null), (16, .aload_n 1, 0, 0, .null)] (pc' := 17) (ls' := [some (.ref 1313), some (.ref y1), some (.int y2), some (.int z0)]) (st' := [.ref y1]) (by decide +kernel) rfl ?_
  refine b_gI (q := 133) (ci := 6) (k := 1) (w := .null) (by decide +kernel) (fk_I6_1 hy1) (fun c2 => ?_)
  refine b_ite (fun e0 => ?_) (fun e0 => ?_)
  · refine b_sw (dl := 131) (lo := 0) (hi' := 3) (offs := #[32, 74, 93, 112]) (t := 32) (y := 0) (w := .null) (by decide +kernel) (swE e0 (by decide +kernel : aSw 20 131 0 3 #[32, 74, 93, 112] 0 = some 52)) ?_
    refine b_run [(52, .aload_n 0, 0, 0, .null)] (pc' := 53) (ls' := [some (.ref 1313), some (.ref y1), some (.int y2), some (.int z0)]) (st' := [.ref 1313]) (by decide +kernel) rfl ?_
    refine b_getC (b := 1003) (q := 15) (ci := 3) (k := 1) (w := .null) (by decide +kernel) (by decide +kernel) ?_
    refine b_getC (b := 1004) (q := 109) (ci := 8) (k := 0) (w := .null) (by decide +kernel) (by decide +kernel) ?_
    refine b_run [(59, .iload_n 2, 0, 0, .null)] (pc' := 60) (ls' := [some (.ref 1313), some (.ref y1), some (.int y2), some (.int z0)]) (st' := [.int y2, .ref 1004]) (by decide +kernel) rfl ?_
    refine b_guard (fun hb => ?_)
    refine b_aI (ci := 0) (y := 0) (w := .null) (by decide +kernel) (by decide +kernel) hb (fun c3 => ?_)
    refine b_run [(61, .iload_n 3, 0, 0, .null)] (pc' := 62) (ls' := [some (.ref 1313), some (.ref y1), some (.int y2), some (.int z0)]) (st' := [.int z0, .int c3]) (by decide +kernel) rfl ?_
    refine b_icF (c := .ne) (o := 30) (t := 92) (y := 0) (w := .null) (by decide +kernel) cmp_ne (fun _ => ?_) (fun _ => ?_)
    · refine b_run [(65, .aload_n 0, 0, 0, .null)] (pc' := 66) (ls' := [some (.ref 1313), some (.ref y1), some (.int y2), some (.int z0)]) (st' := [.ref 1313]) (by decide +kernel) rfl ?_
      refine b_getC (b := 1003) (q := 15) (ci := 3) (k := 1) (w := .null) (by decide +kernel) (by decide +kernel) ?_
      refine b_run [(69, .iload_n 2, 0, 0, .null), (70, .aload_n 0, 0, 0, .null)] (pc' := 71) (ls' := [some (.ref 1313), some (.ref y1), some (.int y2), some (.int z0)]) (st' := [.ref 1313, .int y2, .ref 1003]) (by decide +kernel) rfl ?_
      refine b_getC (b := 1001) (q := 9) (ci := 3) (k := 0) (w := .null) (by decide +kernel) (by decide +kernel) ?_
      refine b_run [(74, .aload_n 1, 0, 0, .null)] (pc' := 75) (ls' := [some (.ref 1313), some (.ref y1), some (.int y2), some (.int z0)]) (st' := [.ref y1, .ref 1001, .int y2, .ref 1003]) (by decide +kernel) rfl ?_
      refine b_gI (q := 136) (ci := 6) (k := 2) (w := .null) (by decide +kernel) (fk_I6_2 hy1) (fun c4 => ?_)
      refine b_run [(78, .aload_n 1, 0, 0, .null)] (pc' := 79) (ls' := [some (.ref 1313), some (.ref y1), some (.int y2), some (.int z0)]) (st' := [.ref y1, .int c4, .ref 1001, .int y2, .ref 1003]) (by decide +kernel) rfl ?_
      refine b_gI (q := 139) (ci := 6) (k := 3) (w := .null) (by decide +kernel) (fk_I6_3 hy1) (fun c5 => ?_)
      refine b_callI 136 5 [.ref 1003, .int y2, .ref 1001, .int c4, .int c5] (rest := []) (by decide +kernel) rfl rfl rfl (go_O rfl (by decide +kernel) (by decide +kernel : isO 1003 8 = true)) rfl (s136 hv F 1003 y2 1001 c4 c5 σ (by decide +kernel : isO 1003 8 = true) (by decide +kernel : isO 1001 5 = true)) (by decide) (fun c7 σ6 => ?_)
      refine b_izT (c := .eq) (o := 7) (t := 92) (y := 0) (w := .null) (by decide +kernel) cmp_eq (fun _ => ?_) (fun _ => ?_)
      · refine b_run [(92, .iconst 0, 0, 0, .null)] (pc' := 93) (ls' := [some (.ref 1313), some (.ref y1), some (.int y2), some (.int z0)]) (st' := [.int 0]) (by decide +kernel) rfl ?_
        exact b_ret (i := (.ireturn, 0, 0, .null)) (by decide +kernel) rfl rfl (by decide +kernel)
      · refine b_run [(88, .iconst 1, 0, 0, .null), (89, .goto 4, 93, 0, .null)] (pc' := 93) (ls' := [some (.ref 1313), some (.ref y1), some (.int y2), some (.int z0)]) (st' := [.int 1]) (by decide +kernel) rfl ?_
        exact b_ret (i := (.ireturn, 0, 0, .null)) (by decide +kernel) rfl rfl (by decide +kernel)
    · refine b_run [(92, .iconst 0, 0, 0, .null)] (pc' := 93) (ls' := [some (.ref 1313), some (.ref y1), some (.int y2), some (.int z0)]) (st' := [.int 0]) (by decide +kernel) rfl ?_
      exact b_ret (i := (.ireturn, 0, 0, .null)) (by decide +kernel) rfl rfl (by decide +kernel)
  refine b_ite (fun e1 => ?_) (fun e1 => ?_)
  · refine b_sw (dl := 131) (lo := 0) (hi' := 3) (offs := #[32, 74, 93, 112]) (t := 32) (y := 0) (w := .null) (by decide +kernel) (swE e1 (by decide +kernel : aSw 20 131 0 3 #[32, 74, 93, 112] 1 = some 94)) ?_
    refine b_run [(94, .aload_n 0, 0, 0, .null)] (pc' := 95) (ls' := [some (.ref 1313), some (.ref y1), some (.int y2), some (.int z0)]) (st' := [.ref 1313]) (by decide +kernel) rfl ?_
    refine b_getC (b := 1003) (q := 15) (ci := 3) (k := 1) (w := .null) (by decide +kernel) (by decide +kernel) ?_
    refine b_getC (b := 1004) (q := 109) (ci := 8) (k := 0) (w := .null) (by decide +kernel) (by decide +kernel) ?_
    refine b_run [(101, .iload_n 2, 0, 0, .null)] (pc' := 102) (ls' := [some (.ref 1313), some (.ref y1), some (.int y2), some (.int z0)]) (st' := [.int y2, .ref 1004]) (by decide +kernel) rfl ?_
    refine b_guard (fun hb => ?_)
    refine b_aI (ci := 0) (y := 0) (w := .null) (by decide +kernel) (by decide +kernel) hb (fun c8 => ?_)
    refine b_run [(103, .iload_n 3, 0, 0, .null)] (pc' := 104) (ls' := [some (.ref 1313), some (.ref y1), some (.int y2), some (.int z0)]) (st' := [.int z0, .int c8]) (by decide +kernel) rfl ?_
    refine b_icF (c := .ne) (o := 7) (t := 111) (y := 0) (w := .null) (by decide +kernel) cmp_ne (fun _ => ?_) (fun _ => ?_)
    · refine b_run [(107, .iconst 1, 0, 0, .null), (108, .goto 4, 112, 0, .null)] (pc' := 112) (ls' := [some (.ref 1313), some (.ref y1), some (.int y2), some (.int z0)]) (st' := [.int 1]) (by decide +kernel) rfl ?_
      exact b_ret (i := (.ireturn, 0, 0, .null)) (by decide +kernel) rfl rfl (by decide +kernel)
    · refine b_run [(111, .iconst 0, 0, 0, .null)] (pc' := 112) (ls' := [some (.ref 1313), some (.ref y1), some (.int y2), some (.int z0)]) (st' := [.int 0]) (by decide +kernel) rfl ?_
      exact b_ret (i := (.ireturn, 0, 0, .null)) (by decide +kernel) rfl rfl (by decide +kernel)
  refine b_ite (fun e2 => ?_) (fun e2 => ?_)
  · refine b_sw (dl := 131) (lo := 0) (hi' := 3) (offs := #[32, 74, 93, 112]) (t := 32) (y := 0) (w := .null) (by decide +kernel) (swE e2 (by decide +kernel : aSw 20 131 0 3 #[32, 74, 93, 112] 2 = some 113)) ?_
    refine b_run [(113, .aload_n 0, 0, 0, .null)] (pc' := 114) (ls' := [some (.ref 1313), some (.ref y1), some (.int y2), some (.int z0)]) (st' := [.ref 1313]) (by decide +kernel) rfl ?_
    refine b_getC (b := 1003) (q := 15) (ci := 3) (k := 1) (w := .null) (by decide +kernel) (by decide +kernel) ?_
    refine b_getC (b := 1004) (q := 109) (ci := 8) (k := 0) (w := .null) (by decide +kernel) (by decide +kernel) ?_
    refine b_run [(120, .iload_n 2, 0, 0, .null)] (pc' := 121) (ls' := [some (.ref 1313), some (.ref y1), some (.int y2), some (.int z0)]) (st' := [.int y2, .ref 1004]) (by decide +kernel) rfl ?_
    refine b_guard (fun hb => ?_)
    refine b_aI (ci := 0) (y := 0) (w := .null) (by decide +kernel) (by decide +kernel) hb (fun c9 => ?_)
    refine b_run [(122, .iconst 3, 0, 0, .null)] (pc' := 123) (ls' := [some (.ref 1313), some (.ref y1), some (.int y2), some (.int z0)]) (st' := [.int 3, .int c9]) (by decide +kernel) rfl ?_
    refine b_icF (c := .ne) (o := 7) (t := 130) (y := 0) (w := .null) (by decide +kernel) cmp_ne (fun _ => ?_) (fun _ => ?_)
    · refine b_run [(126, .iconst 1, 0, 0, .null), (127, .goto 4, 131, 0, .null)] (pc' := 131) (ls' := [some (.ref 1313), some (.ref y1), some (.int y2), some (.int z0)]) (st' := [.int 1]) (by decide +kernel) rfl ?_
      exact b_ret (i := (.ireturn, 0, 0, .null)) (by decide +kernel) rfl rfl (by decide +kernel)
    · refine b_run [(130, .iconst 0, 0, 0, .null)] (pc' := 131) (ls' := [some (.ref 1313), some (.ref y1), some (.int y2), some (.int z0)]) (st' := [.int 0]) (by decide +kernel) rfl ?_
      exact b_ret (i := (.ireturn, 0, 0, .null)) (by decide +kernel) rfl rfl (by decide +kernel)
  refine b_ite (fun e3 => ?_) (fun e3 => ?_)
  · refine b_sw (dl := 131) (lo := 0) (hi' := 3) (offs := #[32, 74, 93, 112]) (t := 32) (y := 0) (w := .null) (by decide +kernel) (swE e3 (by decide +kernel : aSw 20 131 0 3 #[32, 74, 93, 112] 3 = some 132)) ?_
    refine b_run [(132, .aload_n 0, 0, 0, .null)] (pc' := 133) (ls' := [some (.ref 1313), some (.ref y1), some (.int y2), some (.int z0)]) (st' := [.ref 1313]) (by decide +kernel) rfl ?_
    refine b_getC (b := 1003) (q := 15) (ci := 3) (k := 1) (w := .null) (by decide +kernel) (by decide +kernel) ?_
    refine b_getC (b := 1004) (q := 109) (ci := 8) (k := 0) (w := .null) (by decide +kernel) (by decide +kernel) ?_
    refine b_run [(139, .iload_n 2, 0, 0, .null)] (pc' := 140) (ls' := [some (.ref 1313), some (.ref y1), some (.int y2), some (.int z0)]) (st' := [.int y2, .ref 1004]) (by decide +kernel) rfl ?_
    refine b_guard (fun hb => ?_)
    refine b_aI (ci := 0) (y := 0) (w := .null) (by decide +kernel) (by decide +kernel) hb (fun c10 => ?_)
    refine b_run [(141, .iconst 4, 0, 0, .null)] (pc' := 142) (ls' := [some (.ref 1313), some (.ref y1), some (.int y2), some (.int z0)]) (st' := [.int 4, .int c10]) (by decide +kernel) rfl ?_
    refine b_icF (c := .ne) (o := 7) (t := 149) (y := 0) (w := .null) (by decide +kernel) cmp_ne (fun _ => ?_) (fun _ => ?_)
    · refine b_run [(145, .iconst 1, 0, 0, .null), (146, .goto 4, 150, 0, .null)] (pc' := 150) (ls' := [some (.ref 1313), some (.ref y1), some (.int y2), some (.int z0)]) (st' := [.int 1]) (by decide +kernel) rfl ?_
      exact b_ret (i := (.ireturn, 0, 0, .null)) (by decide +kernel) rfl rfl (by decide +kernel)
    · refine b_run [(149, .iconst 0, 0, 0, .null)] (pc' := 150) (ls' := [some (.ref 1313), some (.ref y1), some (.int y2), some (.int z0)]) (st' := [.int 0]) (by decide +kernel) rfl ?_
      exact b_ret (i := (.ireturn, 0, 0, .null)) (by decide +kernel) rfl rfl (by decide +kernel)
  refine b_sw (dl := 131) (lo := 0) (hi' := 3) (offs := #[32, 74, 93, 112]) (t := 32) (y := 0) (w := .null) (by decide +kernel) (swD (pc' := 151) (by have q0 : (c2 : Int32).toInt ≠ 0 := swN e0; have q1 : (c2 : Int32).toInt ≠ 1 := swN e1; have q2 : (c2 : Int32).toInt ≠ 2 := swN e2; have q3 : (c2 : Int32).toInt ≠ 3 := swN e3; omega) rfl) ?_
  refine b_run [(151, .iconst 1, 0, 0, .null)] (pc' := 152) (ls' := [some (.ref 1313), some (.ref y1), some (.int y2), some (.int z0)]) (st' := [.int 1]) (by decide +kernel) rfl ?_
  exact b_ret (i := (.ireturn, 0, 0, .null)) (by decide +kernel) rfl rfl (by decide +kernel)
/-- TreeStore$PathWalker.passes(LTreeStore$Step;I)Z -/
def f68 (F : Nat) (x1 : Nat) (x2 : Int32) (σ : St) : Rs := mR (σ.2.2.1 x1 0) (fun c1 => if isX c1 = true then 
    if aCp c1 105 = true then if c1 = 105 then f68_15 F x1 x2 2 σ
    else f68_15 F x1 x2 1 σ else none else none)
    (f68_15 F x1 x2 1 σ)
theorem s68 {sc : aSc} (hv : vOk sc) (F : Nat) (x1 : Nat) (x2 : Int32) (σ : St) (hx1 : isO x1 6 = true) : bEx sc 2 68 0 [some (.ref 1313), some (.ref x1), some (.int x2), none] [] σ (f68 F x1 x2 σ) := by
  unfold f68
  refine b_run [(0, .aload_n 1, 0, 0, .null)] (pc' := 1) (ls' := [some (.ref 1313), some (.ref x1), some (.int x2), none]) (st' := [.ref x1]) (by decide +kernel) rfl ?_
  refine b_gM (q := 61) (ci := 6) (k := 0) (w := .null) (by decide +kernel) (fk_M6_0 hx1) (fun c1 => b_guard (fun hc1 => ?_)) ?_
  · refine b_gs (q := 130) (y := 0) (w := .ref 105) (by decide +kernel) ?_
    refine b_guard (fun hp => ?_)
    refine b_acF (o := 7) (t := 14) (y := 0) (w := .null) (by decide +kernel) hp (fun _ => ?_) (fun _ => ?_)
    · refine b_run [(10, .iconst 2, 0, 0, .null), (11, .goto 4, 15, 0, .null)] (pc' := 15) (ls' := [some (.ref 1313), some (.ref x1), some (.int x2), none]) (st' := [.int 2]) (by decide +kernel) rfl ?_
      exact b_wk (wS (wS (wS (wN w0)))) (s68_15 hv F x1 x2 2 σ hx1)
    · refine b_run [(14, .iconst 1, 0, 0, .null)] (pc' := 15) (ls' := [some (.ref 1313), some (.ref x1), some (.int x2), none]) (st' := [.int 1]) (by decide +kernel) rfl ?_
      exact b_wk (wS (wS (wS (wN w0)))) (s68_15 hv F x1 x2 1 σ hx1)
  · refine b_gs (q := 130) (y := 0) (w := .ref 105) (by decide +kernel) ?_
    refine b_run [(7, .if_acmp .ne 7, 14, 0, .null), (14, .iconst 1, 0, 0, .null)] (pc' := 15) (ls' := [some (.ref 1313), some (.ref x1), some (.int x2), none]) (st' := [.int 1]) (by decide +kernel) rfl ?_
    exact b_wk (wS (wS (wS (wN w0)))) (s68_15 hv F x1 x2 1 σ hx1)
/-- TreeStore$Part.isSet()Z -/
def f36 (F : Nat) (x0 : Nat) (σ : St) : Rs := lt (σ.1 x0 0) fun c1 => 
    if c1 = 6 then oI 1 σ
    else oI 0 σ
theorem s36 {sc : aSc} (hv : vOk sc) (F : Nat) (x0 : Nat) (σ : St) (hx0 : isO x0 1 = true) : bEx sc 0 36 0 [some (.ref x0)] [] σ (f36 F x0 σ) := by
  unfold f36
  refine b_run [(0, .aload_n 0, 0, 0, .null)] (pc' := 1) (ls' := [some (.ref x0)]) (st' := [.ref x0]) (by decide +kernel) rfl ?_
  refine b_gI (q := 9) (ci := 1) (k := 0) (w := .null) (by decide +kernel) (fk_I1_0 hx0) (fun c1 => ?_)
  refine b_run [(4, .bipush 6, 0, 0, .null)] (pc' := 6) (ls' := [some (.ref x0)]) (st' := [.int 6, .int c1]) (by decide +kernel) rfl ?_
  refine b_icF (c := .ne) (o := 7) (t := 13) (y := 0) (w := .null) (by decide +kernel) cmp_ne (fun _ => ?_) (fun _ => ?_)
  · refine b_run [(9, .iconst 1, 0, 0, .null), (10, .goto 4, 14, 0, .null)] (pc' := 14) (ls' := [some (.ref x0)]) (st' := [.int 1]) (by decide +kernel) rfl ?_
    exact b_ret (i := (.ireturn, 0, 0, .null)) (by decide +kernel) rfl rfl (by decide +kernel)
  · refine b_run [(13, .iconst 0, 0, 0, .null)] (pc' := 14) (ls' := [some (.ref x0)]) (st' := [.int 0]) (by decide +kernel) rfl ?_
    exact b_ret (i := (.ireturn, 0, 0, .null)) (by decide +kernel) rfl rfl (by decide +kernel)
/-- TreeStore$Part.isTrue()Z -/
def f37 (F : Nat) (x0 : Nat) (σ : St) : Rs := cI (f36 F x0 σ) fun c2 σ1 => 
    if c2 = 0 then 
    lt (σ1.1 x0 0) fun c3 => 
    if c3 = 5 then 
    lt (σ1.1 x0 10) fun c4 => 
    lt (σ1.1 x0 11) fun c5 => 
    if c4 < c5 then oI 1 σ1
    else oI 0 σ1
    else lt (σ1.2.1 x0 8) fun c6 => 
    if lg_cmp c6 0 = 0 then oI 0 σ1
    else lt (σ1.2.1 x0 8) fun c7 => 
    if lg_cmp c7 4611686018427387904 = 0 then oI 0 σ1
    else oI 1 σ1
    else lt (σ1.1 x0 9) fun c8 => 
    if c8 = 0 then oI 0 σ1
    else oI 1 σ1
theorem s37 {sc : aSc} (hv : vOk sc) (F : Nat) (x0 : Nat) (σ : St) (hx0 : isO x0 1 = true) : bEx sc 1 37 0 [some (.ref x0)] [] σ (f37 F x0 σ) := by
  unfold f37
  refine b_run [(0, .aload_n 0, 0, 0, .null)] (pc' := 1) (ls' := [some (.ref x0)]) (st' := [.ref x0]) (by decide +kernel) rfl ?_
  refine b_callI 36 1 [.ref x0] (rest := []) (by decide +kernel) rfl rfl rfl (go_O rfl (by decide +kernel) hx0) rfl (s36 hv F x0 σ hx0) (by decide) (fun c2 σ1 => ?_)
  refine b_izT (c := .eq) (o := 16) (t := 20) (y := 0) (w := .null) (by decide +kernel) cmp_eq (fun _ => ?_) (fun _ => ?_)
  · refine b_run [(20, .aload_n 0, 0, 0, .null)] (pc' := 21) (ls' := [some (.ref x0)]) (st' := [.ref x0]) (by decide +kernel) rfl ?_
    refine b_gI (q := 9) (ci := 1) (k := 0) (w := .null) (by decide +kernel) (fk_I1_0 hx0) (fun c3 => ?_)
    refine b_run [(24, .iconst 5, 0, 0, .null)] (pc' := 25) (ls' := [some (.ref x0)]) (st' := [.int 5, .int c3]) (by decide +kernel) rfl ?_
    refine b_icF (c := .ne) (o := 20) (t := 45) (y := 0) (w := .null) (by decide +kernel) cmp_ne (fun _ => ?_) (fun _ => ?_)
    · refine b_run [(28, .aload_n 0, 0, 0, .null)] (pc' := 29) (ls' := [some (.ref x0)]) (st' := [.ref x0]) (by decide +kernel) rfl ?_
      refine b_gI (q := 46) (ci := 1) (k := 10) (w := .null) (by decide +kernel) (fk_I1_10 hx0) (fun c4 => ?_)
      refine b_run [(32, .aload_n 0, 0, 0, .null)] (pc' := 33) (ls' := [some (.ref x0)]) (st' := [.ref x0, .int c4]) (by decide +kernel) rfl ?_
      refine b_gI (q := 49) (ci := 1) (k := 11) (w := .null) (by decide +kernel) (fk_I1_11 hx0) (fun c5 => ?_)
      refine b_icF (c := .ge) (o := 7) (t := 43) (y := 0) (w := .null) (by decide +kernel) cmp_ge (fun _ => ?_) (fun _ => ?_)
      · refine b_run [(39, .iconst 1, 0, 0, .null), (40, .goto 4, 44, 0, .null)] (pc' := 44) (ls' := [some (.ref x0)]) (st' := [.int 1]) (by decide +kernel) rfl ?_
        exact b_ret (i := (.ireturn, 0, 0, .null)) (by decide +kernel) rfl rfl (by decide +kernel)
      · refine b_run [(43, .iconst 0, 0, 0, .null)] (pc' := 44) (ls' := [some (.ref x0)]) (st' := [.int 0]) (by decide +kernel) rfl ?_
        exact b_ret (i := (.ireturn, 0, 0, .null)) (by decide +kernel) rfl rfl (by decide +kernel)
    · refine b_run [(45, .aload_n 0, 0, 0, .null)] (pc' := 46) (ls' := [some (.ref x0)]) (st' := [.ref x0]) (by decide +kernel) rfl ?_
      refine b_gJ (q := 39) (ci := 1) (k := 8) (w := .null) (by decide +kernel) (fk_J1_8 hx0) (fun c6 => ?_)
      refine b_run [(49, .lconst 0, 0, 0, .null), (50, .lcmp, 0, 0, .null)] (pc' := 51) (ls' := [some (.ref x0)]) (st' := [.int (lg_cmp c6 0)]) (by decide +kernel) rfl ?_
      refine b_izT (c := .eq) (o := 18) (t := 69) (y := 0) (w := .null) (by decide +kernel) cmp_eq (fun _ => ?_) (fun _ => ?_)
      · refine b_run [(69, .iconst 0, 0, 0, .null)] (pc' := 70) (ls' := [some (.ref x0)]) (st' := [.int 0]) (by decide +kernel) rfl ?_
        exact b_ret (i := (.ireturn, 0, 0, .null)) (by decide +kernel) rfl rfl (by decide +kernel)
      · refine b_run [(54, .aload_n 0, 0, 0, .null)] (pc' := 55) (ls' := [some (.ref x0)]) (st' := [.ref x0]) (by decide +kernel) rfl ?_
        refine b_gJ (q := 39) (ci := 1) (k := 8) (w := .null) (by decide +kernel) (fk_J1_8 hx0) (fun c7 => ?_)
        refine b_run [(58, .ldc2_w 60, 0, 0, .long 4611686018427387904), (61, .lcmp, 0, 0, .null)] (pc' := 62) (ls' := [some (.ref x0)]) (st' := [.int (lg_cmp c7 4611686018427387904)]) (by decide +kernel) rfl ?_
        refine b_izT (c := .eq) (o := 7) (t := 69) (y := 0) (w := .null) (by decide +kernel) cmp_eq (fun _ => ?_) (fun _ => ?_)
        · refine b_run [(69, .iconst 0, 0, 0, .null)] (pc' := 70) (ls' := [some (.ref x0)]) (st' := [.int 0]) (by decide +kernel) rfl ?_
          exact b_ret (i := (.ireturn, 0, 0, .null)) (by decide +kernel) rfl rfl (by decide +kernel)
        · refine b_run [(65, .iconst 1, 0, 0, .null), (66, .goto 4, 70, 0, .null)] (pc' := 70) (ls' := [some (.ref x0)]) (st' := [.int 1]) (by decide +kernel) rfl ?_
          exact b_ret (i := (.ireturn, 0, 0, .null)) (by decide +kernel) rfl rfl (by decide +kernel)
  · refine b_run [(7, .aload_n 0, 0, 0, .null)] (pc' := 8) (ls' := [some (.ref x0)]) (st' := [.ref x0]) (by decide +kernel) rfl ?_
    refine b_gI (q := 43) (ci := 1) (k := 9) (w := .null) (by decide +kernel) (fk_I1_9 hx0) (fun c8 => ?_)
    refine b_izT (c := .eq) (o := 7) (t := 18) (y := 0) (w := .null) (by decide +kernel) cmp_eq (fun _ => ?_) (fun _ => ?_)
    · refine b_run [(18, .iconst 0, 0, 0, .null)] (pc' := 19) (ls' := [some (.ref x0)]) (st' := [.int 0]) (by decide +kernel) rfl ?_
      exact b_ret (i := (.ireturn, 0, 0, .null)) (by decide +kernel) rfl rfl (by decide +kernel)
    · refine b_run [(14, .iconst 1, 0, 0, .null), (15, .goto 4, 19, 0, .null)] (pc' := 19) (ls' := [some (.ref x0)]) (st' := [.int 1]) (by decide +kernel) rfl ?_
      exact b_ret (i := (.ireturn, 0, 0, .null)) (by decide +kernel) rfl rfl (by decide +kernel)
/-- TreeStore.holds(II)Z -/
def f31 (F : Nat) (x0 : Int32) (x1 : Int32) (σ : St) : Rs := if (((x0 : Int32).toUInt32 >>> ((x1 : Int32).toUInt32 &&& Int32.toUInt32 31)).toInt32) &&& 1 = 1 then oI 1 σ
    else oI 0 σ
theorem s31 {sc : aSc} (hv : vOk sc) (F : Nat) (x0 : Int32) (x1 : Int32) (σ : St) : bEx sc 0 31 0 [some (.int x0), some (.int x1)] [] σ (f31 F x0 x1 σ) := by
  unfold f31
  refine b_run [(0, .iload_n 0, 0, 0, .null), (1, .iload_n 1, 0, 0, .null), (2, .iushr, 0, 0, .null), (3, .iconst 1, 0, 0, .null), (4, .iand, 0, 0, .null), (5, .iconst 1, 0, 0, .null)] (pc' := 6) (ls' := [some (.int x0), some (.int x1)]) (st' := [.int 1, .int ((((x0 : Int32).toUInt32 >>> ((x1 : Int32).toUInt32 &&& Int32.toUInt32 31)).toInt32) &&& 1)]) (by decide +kernel) rfl ?_
  refine b_icF (c := .ne) (o := 7) (t := 13) (y := 0) (w := .null) (by decide +kernel) cmp_ne (fun _ => ?_) (fun _ => ?_)
  · refine b_run [(9, .iconst 1, 0, 0, .null), (10, .goto 4, 14, 0, .null)] (pc' := 14) (ls' := [some (.int x0), some (.int x1)]) (st' := [.int 1]) (by decide +kernel) rfl ?_
    exact b_ret (i := (.ireturn, 0, 0, .null)) (by decide +kernel) rfl rfl (by decide +kernel)
  · refine b_run [(13, .iconst 0, 0, 0, .null)] (pc' := 14) (ls' := [some (.int x0), some (.int x1)]) (st' := [.int 0]) (by decide +kernel) rfl ?_
    exact b_ret (i := (.ireturn, 0, 0, .null)) (by decide +kernel) rfl rfl (by decide +kernel)
def f72_2 (F : Nat) : Nat → Int32 → Int32 → St → Rs
  | 0, _, _, _ => none
  | n + 1, y1, y2, σ => lt (σ.1 1003 10) fun c1 => 
    if y2 < c1 then 
    cI (f31 F y1 y2 σ) fun c3 σ2 => 
    if c3 = 0 then f72_2 F n y1 (y2 + 1) σ2
    else oI y2 σ2
    else oI ((-1)) σ
theorem s72_2 {sc : aSc} (hv : vOk sc) (F : Nat) : ∀ (n : Nat) (y1 : Int32) (y2 : Int32) (σ : St), bEx sc 1 72 2 [some (.ref 1313), some (.int y1), some (.int y2)] [] σ (f72_2 F n y1 y2 σ) := by
  intro n
  induction n with
  | zero => intro y1 y2 σ; exact b_none
  | succ n ih =>
    intro y1 y2 σ
    rw [f72_2.eq_2]
    refine b_run [(2, .iload_n 2, 0, 0, .null), (3, .aload_n 0, 0, 0, .null)] (pc' := 4) (ls' := [some (.ref 1313), some (.int y1), some (.int y2)]) (st' := [.ref 1313, .int y2]) (by decide +kernel) rfl ?_
    refine b_getC (b := 1003) (q := 15) (ci := 3) (k := 1) (w := .null) (by decide +kernel) (by decide +kernel) ?_
    refine b_gI (q := 42) (ci := 8) (k := 10) (w := .null) (by decide +kernel) (by decide +kernel) (fun c1 => ?_)
    refine b_icF (c := .ge) (o := 19) (t := 29) (y := 0) (w := .null) (by decide +kernel) cmp_ge (fun _ => ?_) (fun _ => ?_)
    · refine b_run [(13, .iload_n 1, 0, 0, .null), (14, .iload_n 2, 0, 0, .null)] (pc' := 15) (ls' := [some (.ref 1313), some (.int y1), some (.int y2)]) (st' := [.int y2, .int y1]) (by decide +kernel) rfl ?_
      refine b_callI 31 2 [.int y1, .int y2] (rest := []) (by decide +kernel) rfl rfl rfl (go_S rfl (by decide +kernel)) rfl (s31 hv F y1 y2 σ) (by decide) (fun c3 σ2 => ?_)
      refine b_izT (c := .eq) (o := 5) (t := 23) (y := 0) (w := .null) (by decide +kernel) cmp_eq (fun _ => ?_) (fun _ => ?_)
      · refine b_run [(23, .iinc 2 1, 0, 0, .null), (26, .goto (-24), 2, 0, .null)] (pc' := 2) (ls' := [some (.ref 1313), some (.int y1), some (.int (y2 + 1))]) (st' := []) (by decide +kernel) rfl ?_
        exact b_wk (wS (wS (wS w0))) (ih y1 (y2 + 1) σ2)
      · refine b_run [(21, .iload_n 2, 0, 0, .null)] (pc' := 22) (ls' := [some (.ref 1313), some (.int y1), some (.int y2)]) (st' := [.int y2]) (by decide +kernel) rfl ?_
        exact b_ret (i := (.ireturn, 0, 0, .null)) (by decide +kernel) rfl rfl (fit_I _)
    · refine b_run [(29, .iconst (-1), 0, 0, .null)] (pc' := 30) (ls' := [some (.ref 1313), some (.int y1), some (.int y2)]) (st' := [.int ((-1))]) (by decide +kernel) rfl ?_
      exact b_ret (i := (.ireturn, 0, 0, .null)) (by decide +kernel) rfl rfl (fit_I _)
/-- TreeStore$PathWalker.firstOf(I)I -/
def f72 (F : Nat) (x1 : Int32) (σ : St) : Rs := f72_2 F F x1 0 σ
theorem s72 {sc : aSc} (hv : vOk sc) (F : Nat) (x1 : Int32) (σ : St) : bEx sc 1 72 0 [some (.ref 1313), some (.int x1), none] [] σ (f72 F x1 σ) := by
  unfold f72
  refine b_run [(0, .iconst 0, 0, 0, .null), (1, .istore_n 2, 0, 0, .null)] (pc' := 2) (ls' := [some (.ref 1313), some (.int x1), some (.int 0)]) (st' := []) (by decide +kernel) rfl ?_
  exact b_wk (wS (wS (wS w0))) (s72_2 hv F F x1 0 σ)
/-- TreeStore$Tree.hasValueInWords(I)Z -/
def f130 (F : Nat) (x0 : Nat) (x1 : Int32) (σ : St) : Rs := if inB x1 30 then lt (σ.1 (rfF x0 0) x1.toNatClampNeg) fun c1 => 
    if c1 = 2 then oI 1 σ
    else if inB x1 30 then lt (σ.1 (rfF x0 0) x1.toNatClampNeg) fun c2 => 
    if c2 = 4 then oI 1 σ
    else oI 0 σ else none else none
theorem s130 {sc : aSc} (hv : vOk sc) (F : Nat) (x0 : Nat) (x1 : Int32) (σ : St) (hx0 : isO x0 8 = true) : bEx sc 0 130 0 [some (.ref x0), some (.int x1)] [] σ (f130 F x0 x1 σ) := by
  unfold f130
  refine b_run [(0, .aload_n 0, 0, 0, .null)] (pc' := 1) (ls' := [some (.ref x0), some (.int x1)]) (st' := [.ref x0]) (by decide +kernel) rfl ?_
  refine b_getC (q := 9) (ci := 8) (k := 0) (w := .null) (by decide +kernel) (fk_C8_0 hx0) ?_
  refine b_run [(4, .iload_n 1, 0, 0, .null)] (pc' := 5) (ls' := [some (.ref x0), some (.int x1)]) (st' := [.int x1, .ref ((rfF x0 0))]) (by decide +kernel) rfl ?_
  refine b_guard (fun hb => ?_)
  refine b_aI (ci := 0) (y := 0) (w := .null) (by decide +kernel) (fk_A8_0 hx0) hb (fun c1 => ?_)
  refine b_run [(6, .iconst 2, 0, 0, .null)] (pc' := 7) (ls' := [some (.ref x0), some (.int x1)]) (st' := [.int 2, .int c1]) (by decide +kernel) rfl ?_
  refine b_icT (c := .eq) (o := 13) (t := 20) (y := 0) (w := .null) (by decide +kernel) cmp_eq (fun _ => ?_) (fun _ => ?_)
  · refine b_run [(20, .iconst 1, 0, 0, .null), (21, .goto 4, 25, 0, .null)] (pc' := 25) (ls' := [some (.ref x0), some (.int x1)]) (st' := [.int 1]) (by decide +kernel) rfl ?_
    exact b_ret (i := (.ireturn, 0, 0, .null)) (by decide +kernel) rfl rfl (by decide +kernel)
  · refine b_run [(10, .aload_n 0, 0, 0, .null)] (pc' := 11) (ls' := [some (.ref x0), some (.int x1)]) (st' := [.ref x0]) (by decide +kernel) rfl ?_
    refine b_getC (q := 9) (ci := 8) (k := 0) (w := .null) (by decide +kernel) (fk_C8_0 hx0) ?_
    refine b_run [(14, .iload_n 1, 0, 0, .null)] (pc' := 15) (ls' := [some (.ref x0), some (.int x1)]) (st' := [.int x1, .ref ((rfF x0 0))]) (by decide +kernel) rfl ?_
    refine b_guard (fun hb => ?_)
    refine b_aI (ci := 0) (y := 0) (w := .null) (by decide +kernel) (fk_A8_0 hx0) hb (fun c2 => ?_)
    refine b_run [(16, .iconst 4, 0, 0, .null)] (pc' := 17) (ls' := [some (.ref x0), some (.int x1)]) (st' := [.int 4, .int c2]) (by decide +kernel) rfl ?_
    refine b_icF (c := .ne) (o := 7) (t := 24) (y := 0) (w := .null) (by decide +kernel) cmp_ne (fun _ => ?_) (fun _ => ?_)
    · refine b_run [(20, .iconst 1, 0, 0, .null), (21, .goto 4, 25, 0, .null)] (pc' := 25) (ls' := [some (.ref x0), some (.int x1)]) (st' := [.int 1]) (by decide +kernel) rfl ?_
      exact b_ret (i := (.ireturn, 0, 0, .null)) (by decide +kernel) rfl rfl (by decide +kernel)
    · refine b_run [(24, .iconst 0, 0, 0, .null)] (pc' := 25) (ls' := [some (.ref x0), some (.int x1)]) (st' := [.int 0]) (by decide +kernel) rfl ?_
      exact b_ret (i := (.ireturn, 0, 0, .null)) (by decide +kernel) rfl rfl (by decide +kernel)
/-- TreeStore$Tree.valueTo(I)I -/
def f129 (F : Nat) (x0 : Nat) (x1 : Int32) (σ : St) : Rs := cI (f130 F x0 x1 σ) fun c2 σ1 => 
    if c2 = 0 then 
    if inB x1 30 then lt (σ1.1 (rfF x0 5) x1.toNatClampNeg) fun c3 => if inB ((x1 + c3) + 1) 31 then lt (σ1.1 (rfF x0 6) ((x1 + c3) + 1).toNatClampNeg) fun c4 => oI c4 σ1 else none else none
    else if inB (x1 + 1) 31 then lt (σ1.1 (rfF x0 7) (x1 + 1).toNatClampNeg) fun c5 => oI c5 σ1 else none
theorem s129 {sc : aSc} (hv : vOk sc) (F : Nat) (x0 : Nat) (x1 : Int32) (σ : St) (hx0 : isO x0 8 = true) : bEx sc 1 129 0 [some (.ref x0), some (.int x1)] [] σ (f129 F x0 x1 σ) := by
  unfold f129
  refine b_run [(0, .aload_n 0, 0, 0, .null), (1, .iload_n 1, 0, 0, .null)] (pc' := 2) (ls' := [some (.ref x0), some (.int x1)]) (st' := [.int x1, .ref x0]) (by decide +kernel) rfl ?_
  refine b_callI 130 2 [.ref x0, .int x1] (rest := []) (by decide +kernel) rfl rfl rfl (go_O rfl (by decide +kernel) hx0) rfl (s130 hv F x0 x1 σ hx0) (by decide) (fun c2 σ1 => ?_)
  refine b_izT (c := .eq) (o := 14) (t := 19) (y := 0) (w := .null) (by decide +kernel) cmp_eq (fun _ => ?_) (fun _ => ?_)
  · refine b_run [(19, .aload_n 0, 0, 0, .null)] (pc' := 20) (ls' := [some (.ref x0), some (.int x1)]) (st' := [.ref x0]) (by decide +kernel) rfl ?_
    refine b_getC (q := 30) (ci := 8) (k := 6) (w := .null) (by decide +kernel) (fk_C8_6 hx0) ?_
    refine b_run [(23, .iload_n 1, 0, 0, .null), (24, .aload_n 0, 0, 0, .null)] (pc' := 25) (ls' := [some (.ref x0), some (.int x1)]) (st' := [.ref x0, .int x1, .ref ((rfF x0 6))]) (by decide +kernel) rfl ?_
    refine b_getC (q := 27) (ci := 8) (k := 5) (w := .null) (by decide +kernel) (fk_C8_5 hx0) ?_
    refine b_run [(28, .iload_n 1, 0, 0, .null)] (pc' := 29) (ls' := [some (.ref x0), some (.int x1)]) (st' := [.int x1, .ref ((rfF x0 5)), .int x1, .ref ((rfF x0 6))]) (by decide +kernel) rfl ?_
    refine b_guard (fun hb => ?_)
    refine b_aI (ci := 0) (y := 0) (w := .null) (by decide +kernel) (fk_A8_5 hx0) hb (fun c3 => ?_)
    refine b_run [(30, .iadd, 0, 0, .null), (31, .iconst 1, 0, 0, .null), (32, .iadd, 0, 0, .null)] (pc' := 33) (ls' := [some (.ref x0), some (.int x1)]) (st' := [.int ((x1 + c3) + 1), .ref ((rfF x0 6))]) (by decide +kernel) rfl ?_
    refine b_guard (fun hb => ?_)
    refine b_aI (ci := 0) (y := 0) (w := .null) (by decide +kernel) (fk_A8_6 hx0) hb (fun c4 => ?_)
    exact b_ret (i := (.ireturn, 0, 0, .null)) (by decide +kernel) rfl rfl (fit_I _)
  · refine b_run [(8, .aload_n 0, 0, 0, .null)] (pc' := 9) (ls' := [some (.ref x0), some (.int x1)]) (st' := [.ref x0]) (by decide +kernel) rfl ?_
    refine b_getC (q := 33) (ci := 8) (k := 7) (w := .null) (by decide +kernel) (fk_C8_7 hx0) ?_
    refine b_run [(12, .iload_n 1, 0, 0, .null), (13, .iconst 1, 0, 0, .null), (14, .iadd, 0, 0, .null)] (pc' := 15) (ls' := [some (.ref x0), some (.int x1)]) (st' := [.int (x1 + 1), .ref ((rfF x0 7))]) (by decide +kernel) rfl ?_
    refine b_guard (fun hb => ?_)
    refine b_aI (ci := 0) (y := 0) (w := .null) (by decide +kernel) (fk_A8_7 hx0) hb (fun c5 => ?_)
    refine b_run [(16, .goto 18, 34, 0, .null)] (pc' := 34) (ls' := [some (.ref x0), some (.int x1)]) (st' := [.int c5]) (by decide +kernel) rfl ?_
    exact b_ret (i := (.ireturn, 0, 0, .null)) (by decide +kernel) rfl rfl (fit_I _)
/-- TreeStore$Tree.valueFrom(I)I -/
def f131 (F : Nat) (x0 : Nat) (x1 : Int32) (σ : St) : Rs := cI (f130 F x0 x1 σ) fun c2 σ1 => 
    if c2 = 0 then if inB x1 31 then lt (σ1.1 (rfF x0 6) x1.toNatClampNeg) fun c3 => oI c3 σ1 else none
    else if inB x1 31 then lt (σ1.1 (rfF x0 7) x1.toNatClampNeg) fun c4 => if inB x1 30 then lt (σ1.1 (rfF x0 2) x1.toNatClampNeg) fun c5 => oI (c4 + c5) σ1 else none else none
theorem s131 {sc : aSc} (hv : vOk sc) (F : Nat) (x0 : Nat) (x1 : Int32) (σ : St) (hx0 : isO x0 8 = true) : bEx sc 1 131 0 [some (.ref x0), some (.int x1)] [] σ (f131 F x0 x1 σ) := by
  unfold f131
  refine b_run [(0, .aload_n 0, 0, 0, .null), (1, .iload_n 1, 0, 0, .null)] (pc' := 2) (ls' := [some (.ref x0), some (.int x1)]) (st' := [.int x1, .ref x0]) (by decide +kernel) rfl ?_
  refine b_callI 130 2 [.ref x0, .int x1] (rest := []) (by decide +kernel) rfl rfl rfl (go_O rfl (by decide +kernel) hx0) rfl (s130 hv F x0 x1 σ hx0) (by decide) (fun c2 σ1 => ?_)
  refine b_izT (c := .eq) (o := 19) (t := 24) (y := 0) (w := .null) (by decide +kernel) cmp_eq (fun _ => ?_) (fun _ => ?_)
  · refine b_run [(24, .aload_n 0, 0, 0, .null)] (pc' := 25) (ls' := [some (.ref x0), some (.int x1)]) (st' := [.ref x0]) (by decide +kernel) rfl ?_
    refine b_getC (q := 30) (ci := 8) (k := 6) (w := .null) (by decide +kernel) (fk_C8_6 hx0) ?_
    refine b_run [(28, .iload_n 1, 0, 0, .null)] (pc' := 29) (ls' := [some (.ref x0), some (.int x1)]) (st' := [.int x1, .ref ((rfF x0 6))]) (by decide +kernel) rfl ?_
    refine b_guard (fun hb => ?_)
    refine b_aI (ci := 0) (y := 0) (w := .null) (by decide +kernel) (fk_A8_6 hx0) hb (fun c3 => ?_)
    exact b_ret (i := (.ireturn, 0, 0, .null)) (by decide +kernel) rfl rfl (fit_I _)
  · refine b_run [(8, .aload_n 0, 0, 0, .null)] (pc' := 9) (ls' := [some (.ref x0), some (.int x1)]) (st' := [.ref x0]) (by decide +kernel) rfl ?_
    refine b_getC (q := 33) (ci := 8) (k := 7) (w := .null) (by decide +kernel) (fk_C8_7 hx0) ?_
    refine b_run [(12, .iload_n 1, 0, 0, .null)] (pc' := 13) (ls' := [some (.ref x0), some (.int x1)]) (st' := [.int x1, .ref ((rfF x0 7))]) (by decide +kernel) rfl ?_
    refine b_guard (fun hb => ?_)
    refine b_aI (ci := 0) (y := 0) (w := .null) (by decide +kernel) (fk_A8_7 hx0) hb (fun c4 => ?_)
    refine b_run [(14, .aload_n 0, 0, 0, .null)] (pc' := 15) (ls' := [some (.ref x0), some (.int x1)]) (st' := [.ref x0, .int c4]) (by decide +kernel) rfl ?_
    refine b_getC (q := 18) (ci := 8) (k := 2) (w := .null) (by decide +kernel) (fk_C8_2 hx0) ?_
    refine b_run [(18, .iload_n 1, 0, 0, .null)] (pc' := 19) (ls' := [some (.ref x0), some (.int x1)]) (st' := [.int x1, .ref ((rfF x0 2)), .int c4]) (by decide +kernel) rfl ?_
    refine b_guard (fun hb => ?_)
    refine b_aI (ci := 0) (y := 0) (w := .null) (by decide +kernel) (fk_A8_2 hx0) hb (fun c5 => ?_)
    refine b_run [(20, .iadd, 0, 0, .null), (21, .goto 9, 30, 0, .null)] (pc' := 30) (ls' := [some (.ref x0), some (.int x1)]) (st' := [.int (c4 + c5)]) (by decide +kernel) rfl ?_
    exact b_ret (i := (.ireturn, 0, 0, .null)) (by decide +kernel) rfl rfl (fit_I _)
def f100_98 (F : Nat) (y0 : Nat) (y2 : Int32) (y3 : Int32) (y4 : Int32) (y5 : Int64) (y7 : Int32) (σ : St) : Rs := if y7 < 1 then oJ 4611686018427387904 σ
    else if 9 < y7 then oJ 4611686018427387904 σ
    else cI (f93 F y0 y3 y2 σ) fun c7 σ6 => 
    if c7 < y2 then oJ 4611686018427387904 σ6
    else if y4 = 0 then oJ y5 σ6
    else oJ (-y5) σ6
theorem s100_98 {sc : aSc} (hv : vOk sc) (F : Nat) (y0 : Nat) (y2 : Int32) (y3 : Int32) (y4 : Int32) (y5 : Int64) (y7 : Int32) (σ : St) (hy0 : isO y0 5 = true) : bEx sc 1 100 98 [some (.ref y0), none, some (.int y2), some (.int y3), some (.int y4), some (.long y5), none, some (.int y7)] [] σ (f100_98 F y0 y2 y3 y4 y5 y7 σ) := by
  unfold f100_98
  refine b_run [(98, .iload 7, 0, 0, .null), (100, .iconst 1, 0, 0, .null)] (pc' := 101) (ls' := [some (.ref y0), none, some (.int y2), some (.int y3), some (.int y4), some (.long y5), none, some (.int y7)]) (st' := [.int 1, .int y7]) (by decide +kernel) rfl ?_
  refine b_icT (c := .lt) (o := 20) (t := 121) (y := 0) (w := .null) (by decide +kernel) cmp_lt (fun _ => ?_) (fun _ => ?_)
  · refine b_run [(121, .ldc2_w 58, 0, 0, .long 4611686018427387904)] (pc' := 124) (ls' := [some (.ref y0), none, some (.int y2), some (.int y3), some (.int y4), some (.long y5), none, some (.int y7)]) (st' := [.long 4611686018427387904]) (by decide +kernel) rfl ?_
    exact b_ret (i := (.lreturn, 0, 0, .null)) (by decide +kernel) rfl rfl (fit_J _)
  · refine b_run [(104, .iload 7, 0, 0, .null), (106, .bipush 9, 0, 0, .null)] (pc' := 108) (ls' := [some (.ref y0), none, some (.int y2), some (.int y3), some (.int y4), some (.long y5), none, some (.int y7)]) (st' := [.int 9, .int y7]) (by decide +kernel) rfl ?_
    refine b_icT (c := .gt) (o := 13) (t := 121) (y := 0) (w := .null) (by decide +kernel) cmp_gt (fun _ => ?_) (fun _ => ?_)
    · refine b_run [(121, .ldc2_w 58, 0, 0, .long 4611686018427387904)] (pc' := 124) (ls' := [some (.ref y0), none, some (.int y2), some (.int y3), some (.int y4), some (.long y5), none, some (.int y7)]) (st' := [.long 4611686018427387904]) (by decide +kernel) rfl ?_
      exact b_ret (i := (.lreturn, 0, 0, .null)) (by decide +kernel) rfl rfl (fit_J _)
    · refine b_run [(111, .aload_n 0, 0, 0, .null), (112, .iload_n 3, 0, 0, .null), (113, .iload_n 2, 0, 0, .null)] (pc' := 114) (ls' := [some (.ref y0), none, some (.int y2), some (.int y3), some (.int y4), some (.long y5), none, some (.int y7)]) (st' := [.int y2, .int y3, .ref y0]) (by decide +kernel) rfl ?_
      refine b_callI 93 3 [.ref y0, .int y3, .int y2] (rest := []) (by decide +kernel) rfl rfl rfl (go_O rfl (by decide +kernel) hy0) rfl (s93 hv F y0 y3 y2 σ hy0) (by decide) (fun c7 σ6 => ?_)
      refine b_run [(117, .iload_n 2, 0, 0, .null)] (pc' := 118) (ls' := [some (.ref y0), none, some (.int y2), some (.int y3), some (.int y4), some (.long y5), none, some (.int y7)]) (st' := [.int y2, .int c7]) (by decide +kernel) rfl ?_
      refine b_icF (c := .ge) (o := 7) (t := 125) (y := 0) (w := .null) (by decide +kernel) cmp_ge (fun _ => ?_) (fun _ => ?_)
      · refine b_run [(121, .ldc2_w 58, 0, 0, .long 4611686018427387904)] (pc' := 124) (ls' := [some (.ref y0), none, some (.int y2), some (.int y3), some (.int y4), some (.long y5), none, some (.int y7)]) (st' := [.long 4611686018427387904]) (by decide +kernel) rfl ?_
        exact b_ret (i := (.lreturn, 0, 0, .null)) (by decide +kernel) rfl rfl (fit_J _)
      · refine b_run [(125, .iload 4, 0, 0, .null)] (pc' := 127) (ls' := [some (.ref y0), none, some (.int y2), some (.int y3), some (.int y4), some (.long y5), none, some (.int y7)]) (st' := [.int y4]) (by decide +kernel) rfl ?_
        refine b_izT (c := .eq) (o := 9) (t := 136) (y := 0) (w := .null) (by decide +kernel) cmp_eq (fun _ => ?_) (fun _ => ?_)
        · refine b_run [(136, .lload 5, 0, 0, .null)] (pc' := 138) (ls' := [some (.ref y0), none, some (.int y2), some (.int y3), some (.int y4), some (.long y5), none, some (.int y7)]) (st' := [.long y5]) (by decide +kernel) rfl ?_
          exact b_ret (i := (.lreturn, 0, 0, .null)) (by decide +kernel) rfl rfl (fit_J _)
        · refine b_run [(130, .lload 5, 0, 0, .null), (132, .lneg, 0, 0, .null), (133, .goto 5, 138, 0, .null)] (pc' := 138) (ls' := [some (.ref y0), none, some (.int y2), some (.int y3), some (.int y4), some (.long y5), none, some (.int y7)]) (st' := [.long (-y5)]) (by decide +kernel) rfl ?_
          exact b_ret (i := (.lreturn, 0, 0, .null)) (by decide +kernel) rfl rfl (fit_J _)
def f100_48 (F : Nat) : Nat → Nat → Int32 → Int32 → Int32 → Int64 → Int32 → St → Rs
  | 0, _, _, _, _, _, _, _ => none
  | n + 1, y0, y2, y3, y4, y5, y7, σ => if y3 < y2 then 
    if 9 < y7 then f100_98 F y0 y2 y3 y4 y5 y7 σ
    else cI (f92 F y0 y3 σ) fun c9 σ8 => 
    cI (f23 F c9 σ8) fun c11 σ10 => 
    if c11 = 0 then f100_98 F y0 y2 y3 y4 y5 y7 σ10
    else cI (f92 F y0 y3 σ10) fun c13 σ12 => lt ((y5 * 10) + ((c13 - 48 : Int32).toInt64)) fun c14 => f100_48 F n y0 y2 (y3 + 1) y4 c14 (y7 + 1) σ12
    else f100_98 F y0 y2 y3 y4 y5 y7 σ
theorem s100_48 {sc : aSc} (hv : vOk sc) (F : Nat) : ∀ (n : Nat) (y0 : Nat) (y2 : Int32) (y3 : Int32) (y4 : Int32) (y5 : Int64) (y7 : Int32) (σ : St) (_ : isO y0 5 = true), bEx sc 1 100 48 [some (.ref y0), none, some (.int y2), some (.int y3), some (.int y4), some (.long y5), none, some (.int y7)] [] σ (f100_48 F n y0 y2 y3 y4 y5 y7 σ) := by
  intro n
  induction n with
  | zero => intro y0 y2 y3 y4 y5 y7 σ hy0; exact b_none
  | succ n ih =>
    intro y0 y2 y3 y4 y5 y7 σ hy0
    rw [f100_48.eq_2]
    refine b_run [(48, .iload_n 3, 0, 0, .null), (49, .iload_n 2, 0, 0, .null)] (pc' := 50) (ls' := [some (.ref y0), none, some (.int y2), some (.int y3), some (.int y4), some (.long y5), none, some (.int y7)]) (st' := [.int y2, .int y3]) (by decide +kernel) rfl ?_
    refine b_icF (c := .ge) (o := 48) (t := 98) (y := 0) (w := .null) (by decide +kernel) cmp_ge (fun _ => ?_) (fun _ => ?_)
    · refine b_run [(53, .iload 7, 0, 0, .null), (55, .bipush 9, 0, 0, .null)] (pc' := 57) (ls' := [some (.ref y0), none, some (.int y2), some (.int y3), some (.int y4), some (.long y5), none, some (.int y7)]) (st' := [.int 9, .int y7]) (by decide +kernel) rfl ?_
      refine b_icT (c := .gt) (o := 41) (t := 98) (y := 0) (w := .null) (by decide +kernel) cmp_gt (fun _ => ?_) (fun _ => ?_)
      · exact b_wk (wS (wN (wS (wS (wS (wS (wN (wS w0)))))))) (s100_98 hv F y0 y2 y3 y4 y5 y7 σ hy0)
      · refine b_run [(60, .aload_n 0, 0, 0, .null), (61, .iload_n 3, 0, 0, .null)] (pc' := 62) (ls' := [some (.ref y0), none, some (.int y2), some (.int y3), some (.int y4), some (.long y5), none, some (.int y7)]) (st' := [.int y3, .ref y0]) (by decide +kernel) rfl ?_
        refine b_callI 92 2 [.ref y0, .int y3] (rest := []) (by decide +kernel) rfl rfl rfl (go_O rfl (by decide +kernel) hy0) rfl (s92 hv F y0 y3 σ hy0) (by decide) (fun c9 σ8 => ?_)
        refine b_callI 23 1 [.int c9] (rest := []) (by decide +kernel) rfl rfl rfl (go_S rfl (by decide +kernel)) rfl (s23 hv F c9 σ8) (by decide) (fun c11 σ10 => ?_)
        refine b_izT (c := .eq) (o := 30) (t := 98) (y := 0) (w := .null) (by decide +kernel) cmp_eq (fun _ => ?_) (fun _ => ?_)
        · exact b_wk (wS (wN (wS (wS (wS (wS (wN (wS w0)))))))) (s100_98 hv F y0 y2 y3 y4 y5 y7 σ10 hy0)
        · refine b_run [(71, .lload 5, 0, 0, .null), (73, .ldc2_w 56, 0, 0, .long 10), (76, .lmul, 0, 0, .null), (77, .aload_n 0, 0, 0, .null), (78, .iload_n 3, 0, 0, .null)] (pc' := 79) (ls' := [some (.ref y0), none, some (.int y2), some (.int y3), some (.int y4), some (.long y5), none, some (.int y7)]) (st' := [.int y3, .ref y0, .long (y5 * 10)]) (by decide +kernel) rfl ?_
          refine b_callI 92 2 [.ref y0, .int y3] (rest := [.long (y5 * 10)]) (by decide +kernel) rfl rfl rfl (go_O rfl (by decide +kernel) hy0) rfl (s92 hv F y0 y3 σ10 hy0) (by decide) (fun c13 σ12 => ?_)
          refine b_run [(82, .bipush 48, 0, 0, .null), (84, .isub, 0, 0, .null), (85, .i2l, 0, 0, .null), (86, .ladd, 0, 0, .null), (87, .lstore 5, 0, 0, .null)] (pc' := 89) (ls' := [some (.ref y0), none, some (.int y2), some (.int y3), some (.int y4), some (.long ((y5 * 10) + ((c13 - 48 : Int32).toInt64))), none, some (.int y7)]) (st' := []) (by decide +kernel) rfl ?_
          refine b_let ((y5 * 10) + ((c13 - 48 : Int32).toInt64)) (L := fun c14 => [some (.ref y0), none, some (.int y2), some (.int y3), some (.int y4), some (.long c14), none, some (.int y7)]) (S := fun _ => []) (fun c14 => ?_)
          refine b_run [(89, .iinc 7 1, 0, 0, .null), (92, .iinc 3 1, 0, 0, .null), (95, .goto (-47), 48, 0, .null)] (pc' := 48) (ls' := [some (.ref y0), none, some (.int y2), some (.int (y3 + 1)), some (.int y4), some (.long c14), none, some (.int (y7 + 1))]) (st' := []) (by decide +kernel) rfl ?_
          exact b_wk (wS (wN (wS (wS (wS (wS (wN (wS w0)))))))) (ih y0 y2 (y3 + 1) y4 c14 (y7 + 1) σ12 hy0)
    · exact b_wk (wS (wN (wS (wS (wS (wS (wN (wS w0)))))))) (s100_98 hv F y0 y2 y3 y4 y5 y7 σ hy0)
def f100_40 (F : Nat) (y0 : Nat) (y2 : Int32) (y4 : Int32) (z0 : Int32) (z1 : Int32) (σ : St) : Rs := lt (z0 + z1) fun c5 => f100_48 F F y0 y2 c5 y4 0 0 σ
theorem s100_40 {sc : aSc} (hv : vOk sc) (F : Nat) (y0 : Nat) (y2 : Int32) (y4 : Int32) (z0 : Int32) (z1 : Int32) (σ : St) (hy0 : isO y0 5 = true) : bEx sc 1 100 40 [some (.ref y0), none, some (.int y2), none, some (.int y4), none, none, none] [.int z1, .int z0] σ (f100_40 F y0 y2 y4 z0 z1 σ) := by
  unfold f100_40
  refine b_run [(40, .iadd, 0, 0, .null), (41, .istore_n 3, 0, 0, .null)] (pc' := 42) (ls' := [some (.ref y0), none, some (.int y2), some (.int (z0 + z1)), some (.int y4), none, none, none]) (st' := []) (by decide +kernel) rfl ?_
  refine b_let (z0 + z1) (L := fun c5 => [some (.ref y0), none, some (.int y2), some (.int c5), some (.int y4), none, none, none]) (S := fun _ => []) (fun c5 => ?_)
  refine b_run [(42, .lconst 0, 0, 0, .null), (43, .lstore 5, 0, 0, .null), (45, .iconst 0, 0, 0, .null), (46, .istore 7, 0, 0, .null)] (pc' := 48) (ls' := [some (.ref y0), none, some (.int y2), some (.int c5), some (.int y4), some (.long 0), none, some (.int 0)]) (st' := []) (by decide +kernel) rfl ?_
  exact b_wk (wS (wN (wS (wS (wS (wS (wN (wS w0)))))))) (s100_48 hv F F y0 y2 c5 y4 0 0 σ hy0)
def f100_27 (F : Nat) (y0 : Nat) (y2 : Int32) (y3 : Int32) (z0 : Int32) (σ : St) : Rs := if z0 = 0 then f100_40 F y0 y2 z0 y3 0 σ
    else f100_40 F y0 y2 z0 y3 1 σ
theorem s100_27 {sc : aSc} (hv : vOk sc) (F : Nat) (y0 : Nat) (y2 : Int32) (y3 : Int32) (z0 : Int32) (σ : St) (hy0 : isO y0 5 = true) : bEx sc 1 100 27 [some (.ref y0), none, some (.int y2), some (.int y3), none, none, none, none] [.int z0] σ (f100_27 F y0 y2 y3 z0 σ) := by
  unfold f100_27
  refine b_run [(27, .istore 4, 0, 0, .null), (29, .iload_n 3, 0, 0, .null), (30, .iload 4, 0, 0, .null)] (pc' := 32) (ls' := [some (.ref y0), none, some (.int y2), some (.int y3), some (.int z0), none, none, none]) (st' := [.int z0, .int y3]) (by decide +kernel) rfl ?_
  refine b_izT (c := .eq) (o := 7) (t := 39) (y := 0) (w := .null) (by decide +kernel) cmp_eq (fun _ => ?_) (fun _ => ?_)
  · refine b_run [(39, .iconst 0, 0, 0, .null)] (pc' := 40) (ls' := [some (.ref y0), none, some (.int y2), some (.int y3), some (.int z0), none, none, none]) (st' := [.int 0, .int y3]) (by decide +kernel) rfl ?_
    exact b_wk (wS (wN (wS (wN (wS (wN (wN (wN w0)))))))) (s100_40 hv F y0 y2 z0 y3 0 σ hy0)
  · refine b_run [(35, .iconst 1, 0, 0, .null), (36, .goto 4, 40, 0, .null)] (pc' := 40) (ls' := [some (.ref y0), none, some (.int y2), some (.int y3), some (.int z0), none, none, none]) (st' := [.int 1, .int y3]) (by decide +kernel) rfl ?_
    exact b_wk (wS (wN (wS (wN (wS (wN (wN (wN w0)))))))) (s100_40 hv F y0 y2 z0 y3 1 σ hy0)
def f100_26 (F : Nat) (y0 : Nat) (y2 : Int32) (y3 : Int32) (σ : St) : Rs := f100_27 F y0 y2 y3 0 σ
theorem s100_26 {sc : aSc} (hv : vOk sc) (F : Nat) (y0 : Nat) (y2 : Int32) (y3 : Int32) (σ : St) (hy0 : isO y0 5 = true) : bEx sc 1 100 26 [some (.ref y0), none, some (.int y2), some (.int y3), none, none, none, none] [] σ (f100_26 F y0 y2 y3 σ) := by
  unfold f100_26
  refine b_run [(26, .iconst 0, 0, 0, .null)] (pc' := 27) (ls' := [some (.ref y0), none, some (.int y2), some (.int y3), none, none, none, none]) (st' := [.int 0]) (by decide +kernel) rfl ?_
  exact b_wk (wS (wN (wS (wS (wN (wN (wN (wN w0)))))))) (s100_27 hv F y0 y2 y3 0 σ hy0)
/-- TreeStore$Row.asNumber(II)J -/
def f100 (F : Nat) (x0 : Nat) (x1 : Int32) (x2 : Int32) (σ : St) : Rs := cI (f93 F x0 x1 x2 σ) fun c2 σ1 => 
    if c2 < x2 then 
    cI (f92 F x0 c2 σ1) fun c4 σ3 => 
    if c4 = 45 then f100_27 F x0 x2 c2 1 σ3
    else f100_26 F x0 x2 c2 σ3
    else f100_26 F x0 x2 c2 σ1
theorem s100 {sc : aSc} (hv : vOk sc) (F : Nat) (x0 : Nat) (x1 : Int32) (x2 : Int32) (σ : St) (hx0 : isO x0 5 = true) : bEx sc 1 100 0 [some (.ref x0), some (.int x1), some (.int x2), none, none, none, none, none] [] σ (f100 F x0 x1 x2 σ) := by
  unfold f100
  refine b_run [(0, .aload_n 0, 0, 0, .null), (1, .iload_n 1, 0, 0, .null), (2, .iload_n 2, 0, 0, .null)] (pc' := 3) (ls' := [some (.ref x0), some (.int x1), some (.int x2), none, none, none, none, none]) (st' := [.int x2, .int x1, .ref x0]) (by decide +kernel) rfl ?_
  refine b_callI 93 3 [.ref x0, .int x1, .int x2] (rest := []) (by decide +kernel) rfl rfl rfl (go_O rfl (by decide +kernel) hx0) rfl (s93 hv F x0 x1 x2 σ hx0) (by decide) (fun c2 σ1 => ?_)
  refine b_run [(6, .istore_n 3, 0, 0, .null), (7, .iload_n 3, 0, 0, .null), (8, .iload_n 2, 0, 0, .null)] (pc' := 9) (ls' := [some (.ref x0), some (.int x1), some (.int x2), some (.int c2), none, none, none, none]) (st' := [.int x2, .int c2]) (by decide +kernel) rfl ?_
  refine b_icF (c := .ge) (o := 17) (t := 26) (y := 0) (w := .null) (by decide +kernel) cmp_ge (fun _ => ?_) (fun _ => ?_)
  · refine b_run [(12, .aload_n 0, 0, 0, .null), (13, .iload_n 3, 0, 0, .null)] (pc' := 14) (ls' := [some (.ref x0), some (.int x1), some (.int x2), some (.int c2), none, none, none, none]) (st' := [.int c2, .ref x0]) (by decide +kernel) rfl ?_
    refine b_callI 92 2 [.ref x0, .int c2] (rest := []) (by decide +kernel) rfl rfl rfl (go_O rfl (by decide +kernel) hx0) rfl (s92 hv F x0 c2 σ1 hx0) (by decide) (fun c4 σ3 => ?_)
    refine b_run [(17, .bipush 45, 0, 0, .null)] (pc' := 19) (ls' := [some (.ref x0), some (.int x1), some (.int x2), some (.int c2), none, none, none, none]) (st' := [.int 45, .int c4]) (by decide +kernel) rfl ?_
    refine b_icF (c := .ne) (o := 7) (t := 26) (y := 0) (w := .null) (by decide +kernel) cmp_ne (fun _ => ?_) (fun _ => ?_)
    · refine b_run [(22, .iconst 1, 0, 0, .null), (23, .goto 4, 27, 0, .null)] (pc' := 27) (ls' := [some (.ref x0), some (.int x1), some (.int x2), some (.int c2), none, none, none, none]) (st' := [.int 1]) (by decide +kernel) rfl ?_
      exact b_wk (wS (wN (wS (wS (wN (wN (wN (wN w0)))))))) (s100_27 hv F x0 x2 c2 1 σ3 hx0)
    · exact b_wk (wS (wN (wS (wS (wN (wN (wN (wN w0)))))))) (s100_26 hv F x0 x2 c2 σ3 hx0)
  · exact b_wk (wS (wN (wS (wS (wN (wN (wN (wN w0)))))))) (s100_26 hv F x0 x2 c2 σ1 hx0)
/-- TreeStore$Tree.valueRow(I)LTreeStore$Row; -/
def f132 (F : Nat) (x0 : Nat) (x1 : Int32) (σ : St) : Rs := cI (f130 F x0 x1 σ) fun c2 σ1 => 
    if c2 = 0 then some (.inl (some (.ref ((rfF x0 8)))), σ1)
    else some (.inl (some (.ref ((rfF x0 9)))), σ1)
theorem s132 {sc : aSc} (hv : vOk sc) (F : Nat) (x0 : Nat) (x1 : Int32) (σ : St) (hx0 : isO x0 8 = true) : bEx sc 1 132 0 [some (.ref x0), some (.int x1)] [] σ (f132 F x0 x1 σ) := by
  unfold f132
  refine b_run [(0, .aload_n 0, 0, 0, .null), (1, .iload_n 1, 0, 0, .null)] (pc' := 2) (ls' := [some (.ref x0), some (.int x1)]) (st' := [.int x1, .ref x0]) (by decide +kernel) rfl ?_
  refine b_callI 130 2 [.ref x0, .int x1] (rest := []) (by decide +kernel) rfl rfl rfl (go_O rfl (by decide +kernel) hx0) rfl (s130 hv F x0 x1 σ hx0) (by decide) (fun c2 σ1 => ?_)
  refine b_izT (c := .eq) (o := 10) (t := 15) (y := 0) (w := .null) (by decide +kernel) cmp_eq (fun _ => ?_) (fun _ => ?_)
  · refine b_run [(15, .aload_n 0, 0, 0, .null)] (pc' := 16) (ls' := [some (.ref x0), some (.int x1)]) (st' := [.ref x0]) (by decide +kernel) rfl ?_
    refine b_getC (q := 41) (ci := 8) (k := 8) (w := .null) (by decide +kernel) (fk_C8_8 hx0) ?_
    exact b_ret (i := (.areturn, 0, 0, .null)) (by decide +kernel) rfl rfl (fit_Or "TreeStore$Row" _)
  · refine b_run [(8, .aload_n 0, 0, 0, .null)] (pc' := 9) (ls' := [some (.ref x0), some (.int x1)]) (st' := [.ref x0]) (by decide +kernel) rfl ?_
    refine b_getC (q := 45) (ci := 8) (k := 9) (w := .null) (by decide +kernel) (fk_C8_9 hx0) ?_
    refine b_run [(12, .goto 7, 19, 0, .null)] (pc' := 19) (ls' := [some (.ref x0), some (.int x1)]) (st' := [.ref ((rfF x0 9))]) (by decide +kernel) rfl ?_
    exact b_ret (i := (.areturn, 0, 0, .null)) (by decide +kernel) rfl rfl (fit_Or "TreeStore$Row" _)
/-- TreeStore$PathWalker.numberOf(LTreeStore$Part;I)J -/
def f73 (F : Nat) (x1 : Nat) (x2 : Int32) (σ : St) : Rs := cI (f36 F x1 σ) fun c2 σ1 => 
    if c2 = 0 then 
    lt (σ1.1 x1 0) fun c3 => 
    if c3 = 5 then lt (σ1.1 x1 10) fun c4 => lt (σ1.1 x1 11) fun c5 => cJ (f100 F 1001 c4 c5 σ1) fun c7 σ6 => oJ c7 σ6
    else lt (σ1.2.1 x1 8) fun c8 => oJ c8 σ1
    else if x2 < 0 then oJ 4611686018427387904 σ1
    else cR (f132 F 1003 x2 σ1) fun c10 σ9 => 
    if isO c10 5 = true then 
    cI (f131 F 1003 x2 σ9) fun c12 σ11 => cI (f129 F 1003 x2 σ11) fun c14 σ13 => cJ (f100 F c10 c12 c14 σ13) fun c16 σ15 => oJ c16 σ15 else none
theorem s73 {sc : aSc} (hv : vOk sc) (F : Nat) (x1 : Nat) (x2 : Int32) (σ : St) (hx1 : isO x1 1 = true) : bEx sc 2 73 0 [some (.ref 1313), some (.ref x1), some (.int x2)] [] σ (f73 F x1 x2 σ) := by
  unfold f73
  refine b_run [(0, .aload_n 1, 0, 0, .null)] (pc' := 1) (ls' := [some (.ref 1313), some (.ref x1), some (.int x2)]) (st' := [.ref x1]) (by decide +kernel) rfl ?_
  refine b_callI 36 1 [.ref x1] (rest := []) (by decide +kernel) rfl rfl rfl (go_O rfl (by decide +kernel) hx1) rfl (s36 hv F x1 σ hx1) (by decide) (fun c2 σ1 => ?_)
  refine b_izT (c := .eq) (o := 41) (t := 45) (y := 0) (w := .null) (by decide +kernel) cmp_eq (fun _ => ?_) (fun _ => ?_)
  · refine b_run [(45, .aload_n 1, 0, 0, .null)] (pc' := 46) (ls' := [some (.ref 1313), some (.ref x1), some (.int x2)]) (st' := [.ref x1]) (by decide +kernel) rfl ?_
    refine b_gI (q := 146) (ci := 1) (k := 0) (w := .null) (by decide +kernel) (fk_I1_0 hx1) (fun c3 => ?_)
    refine b_run [(49, .iconst 5, 0, 0, .null)] (pc' := 50) (ls' := [some (.ref 1313), some (.ref x1), some (.int x2)]) (st' := [.int 5, .int c3]) (by decide +kernel) rfl ?_
    refine b_icF (c := .ne) (o := 21) (t := 71) (y := 0) (w := .null) (by decide +kernel) cmp_ne (fun _ => ?_) (fun _ => ?_)
    · refine b_run [(53, .aload_n 0, 0, 0, .null)] (pc' := 54) (ls' := [some (.ref 1313), some (.ref x1), some (.int x2)]) (st' := [.ref 1313]) (by decide +kernel) rfl ?_
      refine b_getC (b := 1001) (q := 9) (ci := 3) (k := 0) (w := .null) (by decide +kernel) (by decide +kernel) ?_
      refine b_run [(57, .aload_n 1, 0, 0, .null)] (pc' := 58) (ls' := [some (.ref 1313), some (.ref x1), some (.int x2)]) (st' := [.ref x1, .ref 1001]) (by decide +kernel) rfl ?_
      refine b_gI (q := 212) (ci := 1) (k := 10) (w := .null) (by decide +kernel) (fk_I1_10 hx1) (fun c4 => ?_)
      refine b_run [(61, .aload_n 1, 0, 0, .null)] (pc' := 62) (ls' := [some (.ref 1313), some (.ref x1), some (.int x2)]) (st' := [.ref x1, .int c4, .ref 1001]) (by decide +kernel) rfl ?_
      refine b_gI (q := 215) (ci := 1) (k := 11) (w := .null) (by decide +kernel) (fk_I1_11 hx1) (fun c5 => ?_)
      refine b_callJ 100 3 [.ref 1001, .int c4, .int c5] (rest := []) (by decide +kernel) rfl rfl rfl (go_O rfl (by decide +kernel) (by decide +kernel : isO 1001 5 = true)) rfl (s100 hv F 1001 c4 c5 σ1 (by decide +kernel : isO 1001 5 = true)) (by decide) (fun c7 σ6 => ?_)
      refine b_run [(68, .goto 7, 75, 0, .null)] (pc' := 75) (ls' := [some (.ref 1313), some (.ref x1), some (.int x2)]) (st' := [.long c7]) (by decide +kernel) rfl ?_
      exact b_ret (i := (.lreturn, 0, 0, .null)) (by decide +kernel) rfl rfl (fit_J _)
    · refine b_run [(71, .aload_n 1, 0, 0, .null)] (pc' := 72) (ls' := [some (.ref 1313), some (.ref x1), some (.int x2)]) (st' := [.ref x1]) (by decide +kernel) rfl ?_
      refine b_gJ (q := 102) (ci := 1) (k := 8) (w := .null) (by decide +kernel) (fk_J1_8 hx1) (fun c8 => ?_)
      exact b_ret (i := (.lreturn, 0, 0, .null)) (by decide +kernel) rfl rfl (fit_J _)
  · refine b_run [(7, .iload_n 2, 0, 0, .null)] (pc' := 8) (ls' := [some (.ref 1313), some (.ref x1), some (.int x2)]) (st' := [.int x2]) (by decide +kernel) rfl ?_
    refine b_izF (c := .ge) (o := 9) (t := 17) (y := 0) (w := .null) (by decide +kernel) cmp_ge (fun _ => ?_) (fun _ => ?_)
    · refine b_run [(11, .ldc2_w 173, 0, 0, .long 4611686018427387904), (14, .goto 30, 44, 0, .null)] (pc' := 44) (ls' := [some (.ref 1313), some (.ref x1), some (.int x2)]) (st' := [.long 4611686018427387904]) (by decide +kernel) rfl ?_
      exact b_ret (i := (.lreturn, 0, 0, .null)) (by decide +kernel) rfl rfl (fit_J _)
    · refine b_run [(17, .aload_n 0, 0, 0, .null)] (pc' := 18) (ls' := [some (.ref 1313), some (.ref x1), some (.int x2)]) (st' := [.ref 1313]) (by decide +kernel) rfl ?_
      refine b_getC (b := 1003) (q := 15) (ci := 3) (k := 1) (w := .null) (by decide +kernel) (by decide +kernel) ?_
      refine b_run [(21, .iload_n 2, 0, 0, .null)] (pc' := 22) (ls' := [some (.ref 1313), some (.ref x1), some (.int x2)]) (st' := [.int x2, .ref 1003]) (by decide +kernel) rfl ?_
      refine b_callR 132 2 [.ref 1003, .int x2] (rest := []) (by decide +kernel) rfl rfl rfl (go_O rfl (by decide +kernel) (by decide +kernel : isO 1003 8 = true)) rfl (s132 hv F 1003 x2 σ1 (by decide +kernel : isO 1003 8 = true)) (by decide) (fun c10 σ9 => b_guard (fun hc10 => ?_))
      refine b_run [(25, .aload_n 0, 0, 0, .null)] (pc' := 26) (ls' := [some (.ref 1313), some (.ref x1), some (.int x2)]) (st' := [.ref 1313, .ref c10]) (by decide +kernel) rfl ?_
      refine b_getC (b := 1003) (q := 15) (ci := 3) (k := 1) (w := .null) (by decide +kernel) (by decide +kernel) ?_
      refine b_run [(29, .iload_n 2, 0, 0, .null)] (pc' := 30) (ls' := [some (.ref 1313), some (.ref x1), some (.int x2)]) (st' := [.int x2, .ref 1003, .ref c10]) (by decide +kernel) rfl ?_
      refine b_callI 131 2 [.ref 1003, .int x2] (rest := [.ref c10]) (by decide +kernel) rfl rfl rfl (go_O rfl (by decide +kernel) (by decide +kernel : isO 1003 8 = true)) rfl (s131 hv F 1003 x2 σ9 (by decide +kernel : isO 1003 8 = true)) (by decide) (fun c12 σ11 => ?_)
      refine b_run [(33, .aload_n 0, 0, 0, .null)] (pc' := 34) (ls' := [some (.ref 1313), some (.ref x1), some (.int x2)]) (st' := [.ref 1313, .int c12, .ref c10]) (by decide +kernel) rfl ?_
      refine b_getC (b := 1003) (q := 15) (ci := 3) (k := 1) (w := .null) (by decide +kernel) (by decide +kernel) ?_
      refine b_run [(37, .iload_n 2, 0, 0, .null)] (pc' := 38) (ls' := [some (.ref 1313), some (.ref x1), some (.int x2)]) (st' := [.int x2, .ref 1003, .int c12, .ref c10]) (by decide +kernel) rfl ?_
      refine b_callI 129 2 [.ref 1003, .int x2] (rest := [.int c12, .ref c10]) (by decide +kernel) rfl rfl rfl (go_O rfl (by decide +kernel) (by decide +kernel : isO 1003 8 = true)) rfl (s129 hv F 1003 x2 σ11 (by decide +kernel : isO 1003 8 = true)) (by decide) (fun c14 σ13 => ?_)
      refine b_callJ 100 3 [.ref c10, .int c12, .int c14] (rest := []) (by decide +kernel) rfl rfl rfl (go_O rfl (by decide +kernel) hc10) rfl (s100 hv F c10 c12 c14 σ13 hc10) (by decide) (fun c16 σ15 => ?_)
      exact b_ret (i := (.lreturn, 0, 0, .null)) (by decide +kernel) rfl rfl (fit_J _)
/-- TreeStore$Part.isBoolean()Z -/
def f38 (F : Nat) (x0 : Nat) (σ : St) : Rs := lt (σ.1 x0 0) fun c1 => 
    if c1 < 7 then oI 0 σ
    else oI 1 σ
theorem s38 {sc : aSc} (hv : vOk sc) (F : Nat) (x0 : Nat) (σ : St) (hx0 : isO x0 1 = true) : bEx sc 0 38 0 [some (.ref x0)] [] σ (f38 F x0 σ) := by
  unfold f38
  refine b_run [(0, .aload_n 0, 0, 0, .null)] (pc' := 1) (ls' := [some (.ref x0)]) (st' := [.ref x0]) (by decide +kernel) rfl ?_
  refine b_gI (q := 9) (ci := 1) (k := 0) (w := .null) (by decide +kernel) (fk_I1_0 hx0) (fun c1 => ?_)
  refine b_run [(4, .bipush 7, 0, 0, .null)] (pc' := 6) (ls' := [some (.ref x0)]) (st' := [.int 7, .int c1]) (by decide +kernel) rfl ?_
  refine b_icT (c := .lt) (o := 7) (t := 13) (y := 0) (w := .null) (by decide +kernel) cmp_lt (fun _ => ?_) (fun _ => ?_)
  · refine b_run [(13, .iconst 0, 0, 0, .null)] (pc' := 14) (ls' := [some (.ref x0)]) (st' := [.int 0]) (by decide +kernel) rfl ?_
    exact b_ret (i := (.ireturn, 0, 0, .null)) (by decide +kernel) rfl rfl (by decide +kernel)
  · refine b_run [(9, .iconst 1, 0, 0, .null), (10, .goto 4, 14, 0, .null)] (pc' := 14) (ls' := [some (.ref x0)]) (st' := [.int 1]) (by decide +kernel) rfl ?_
    exact b_ret (i := (.ireturn, 0, 0, .null)) (by decide +kernel) rfl rfl (by decide +kernel)
/-- TreeStore$PathWalker.compareNumbers(IJJ)Z -/
def f75 (F : Nat) (x1 : Int32) (x2 : Int64) (x4 : Int64) (σ : St) : Rs := if lg_cmp x2 4611686018427387904 = 0 then 
    if x1 = 9 then oI 1 σ
    else oI 0 σ
    else if lg_cmp x4 4611686018427387904 = 0 then 
    if x1 = 9 then oI 1 σ
    else oI 0 σ
    else if x1 = 8 then 
    if lg_cmp x2 x4 = 0 then oI 1 σ
    else oI 0 σ
    else if x1 = 9 then 
    if lg_cmp x2 x4 = 0 then oI 0 σ
    else oI 1 σ
    else if x1 = 10 then 
    if lg_cmp x2 x4 < 0 then oI 1 σ
    else oI 0 σ
    else if 0 < lg_cmp x2 x4 then oI 1 σ
    else oI 0 σ
theorem s75 {sc : aSc} (hv : vOk sc) (F : Nat) (x1 : Int32) (x2 : Int64) (x4 : Int64) (σ : St) : bEx sc 0 75 0 [some (.ref 1313), some (.int x1), some (.long x2), none, some (.long x4), none] [] σ (f75 F x1 x2 x4 σ) := by
  unfold f75
  refine b_run [(0, .lload_n 2, 0, 0, .null), (1, .ldc2_w 173, 0, 0, .long 4611686018427387904), (4, .lcmp, 0, 0, .null)] (pc' := 5) (ls' := [some (.ref 1313), some (.int x1), some (.long x2), none, some (.long x4), none]) (st' := [.int (lg_cmp x2 4611686018427387904)]) (by decide +kernel) rfl ?_
  refine b_izT (c := .eq) (o := 12) (t := 17) (y := 0) (w := .null) (by decide +kernel) cmp_eq (fun _ => ?_) (fun _ => ?_)
  · refine b_run [(17, .iload_n 1, 0, 0, .null), (18, .bipush 9, 0, 0, .null)] (pc' := 20) (ls' := [some (.ref 1313), some (.int x1), some (.long x2), none, some (.long x4), none]) (st' := [.int 9, .int x1]) (by decide +kernel) rfl ?_
    refine b_icF (c := .ne) (o := 7) (t := 27) (y := 0) (w := .null) (by decide +kernel) cmp_ne (fun _ => ?_) (fun _ => ?_)
    · refine b_run [(23, .iconst 1, 0, 0, .null), (24, .goto 4, 28, 0, .null)] (pc' := 28) (ls' := [some (.ref 1313), some (.int x1), some (.long x2), none, some (.long x4), none]) (st' := [.int 1]) (by decide +kernel) rfl ?_
      exact b_ret (i := (.ireturn, 0, 0, .null)) (by decide +kernel) rfl rfl (by decide +kernel)
    · refine b_run [(27, .iconst 0, 0, 0, .null)] (pc' := 28) (ls' := [some (.ref 1313), some (.int x1), some (.long x2), none, some (.long x4), none]) (st' := [.int 0]) (by decide +kernel) rfl ?_
      exact b_ret (i := (.ireturn, 0, 0, .null)) (by decide +kernel) rfl rfl (by decide +kernel)
  · refine b_run [(8, .lload 4, 0, 0, .null), (10, .ldc2_w 173, 0, 0, .long 4611686018427387904), (13, .lcmp, 0, 0, .null)] (pc' := 14) (ls' := [some (.ref 1313), some (.int x1), some (.long x2), none, some (.long x4), none]) (st' := [.int (lg_cmp x4 4611686018427387904)]) (by decide +kernel) rfl ?_
    refine b_izF (c := .ne) (o := 15) (t := 29) (y := 0) (w := .null) (by decide +kernel) cmp_ne (fun _ => ?_) (fun _ => ?_)
    · refine b_run [(17, .iload_n 1, 0, 0, .null), (18, .bipush 9, 0, 0, .null)] (pc' := 20) (ls' := [some (.ref 1313), some (.int x1), some (.long x2), none, some (.long x4), none]) (st' := [.int 9, .int x1]) (by decide +kernel) rfl ?_
      refine b_icF (c := .ne) (o := 7) (t := 27) (y := 0) (w := .null) (by decide +kernel) cmp_ne (fun _ => ?_) (fun _ => ?_)
      · refine b_run [(23, .iconst 1, 0, 0, .null), (24, .goto 4, 28, 0, .null)] (pc' := 28) (ls' := [some (.ref 1313), some (.int x1), some (.long x2), none, some (.long x4), none]) (st' := [.int 1]) (by decide +kernel) rfl ?_
        exact b_ret (i := (.ireturn, 0, 0, .null)) (by decide +kernel) rfl rfl (by decide +kernel)
      · refine b_run [(27, .iconst 0, 0, 0, .null)] (pc' := 28) (ls' := [some (.ref 1313), some (.int x1), some (.long x2), none, some (.long x4), none]) (st' := [.int 0]) (by decide +kernel) rfl ?_
        exact b_ret (i := (.ireturn, 0, 0, .null)) (by decide +kernel) rfl rfl (by decide +kernel)
    · refine b_run [(29, .iload_n 1, 0, 0, .null)] (pc' := 30) (ls' := [some (.ref 1313), some (.int x1), some (.long x2), none, some (.long x4), none]) (st' := [.int x1]) (by decide +kernel) rfl ?_
      refine b_ite (fun e0 => ?_) (fun e0 => ?_)
      · refine b_sw (dl := 65) (lo := 8) (hi' := 10) (offs := #[26, 39, 52]) (t := 26) (y := 0) (w := .null) (by decide +kernel) (swE e0 (by decide +kernel : aSw 30 65 8 10 #[26, 39, 52] 8 = some 56)) ?_
        refine b_run [(56, .lload_n 2, 0, 0, .null), (57, .lload 4, 0, 0, .null), (59, .lcmp, 0, 0, .null)] (pc' := 60) (ls' := [some (.ref 1313), some (.int x1), some (.long x2), none, some (.long x4), none]) (st' := [.int (lg_cmp x2 x4)]) (by decide +kernel) rfl ?_
        refine b_izF (c := .ne) (o := 7) (t := 67) (y := 0) (w := .null) (by decide +kernel) cmp_ne (fun _ => ?_) (fun _ => ?_)
        · refine b_run [(63, .iconst 1, 0, 0, .null), (64, .goto 4, 68, 0, .null)] (pc' := 68) (ls' := [some (.ref 1313), some (.int x1), some (.long x2), none, some (.long x4), none]) (st' := [.int 1]) (by decide +kernel) rfl ?_
          exact b_ret (i := (.ireturn, 0, 0, .null)) (by decide +kernel) rfl rfl (by decide +kernel)
        · refine b_run [(67, .iconst 0, 0, 0, .null)] (pc' := 68) (ls' := [some (.ref 1313), some (.int x1), some (.long x2), none, some (.long x4), none]) (st' := [.int 0]) (by decide +kernel) rfl ?_
          exact b_ret (i := (.ireturn, 0, 0, .null)) (by decide +kernel) rfl rfl (by decide +kernel)
      refine b_ite (fun e1 => ?_) (fun e1 => ?_)
      · refine b_sw (dl := 65) (lo := 8) (hi' := 10) (offs := #[26, 39, 52]) (t := 26) (y := 0) (w := .null) (by decide +kernel) (swE e1 (by decide +kernel : aSw 30 65 8 10 #[26, 39, 52] 9 = some 69)) ?_
        refine b_run [(69, .lload_n 2, 0, 0, .null), (70, .lload 4, 0, 0, .null), (72, .lcmp, 0, 0, .null)] (pc' := 73) (ls' := [some (.ref 1313), some (.int x1), some (.long x2), none, some (.long x4), none]) (st' := [.int (lg_cmp x2 x4)]) (by decide +kernel) rfl ?_
        refine b_izT (c := .eq) (o := 7) (t := 80) (y := 0) (w := .null) (by decide +kernel) cmp_eq (fun _ => ?_) (fun _ => ?_)
        · refine b_run [(80, .iconst 0, 0, 0, .null)] (pc' := 81) (ls' := [some (.ref 1313), some (.int x1), some (.long x2), none, some (.long x4), none]) (st' := [.int 0]) (by decide +kernel) rfl ?_
          exact b_ret (i := (.ireturn, 0, 0, .null)) (by decide +kernel) rfl rfl (by decide +kernel)
        · refine b_run [(76, .iconst 1, 0, 0, .null), (77, .goto 4, 81, 0, .null)] (pc' := 81) (ls' := [some (.ref 1313), some (.int x1), some (.long x2), none, some (.long x4), none]) (st' := [.int 1]) (by decide +kernel) rfl ?_
          exact b_ret (i := (.ireturn, 0, 0, .null)) (by decide +kernel) rfl rfl (by decide +kernel)
      refine b_ite (fun e2 => ?_) (fun e2 => ?_)
      · refine b_sw (dl := 65) (lo := 8) (hi' := 10) (offs := #[26, 39, 52]) (t := 26) (y := 0) (w := .null) (by decide +kernel) (swE e2 (by decide +kernel : aSw 30 65 8 10 #[26, 39, 52] 10 = some 82)) ?_
        refine b_run [(82, .lload_n 2, 0, 0, .null), (83, .lload 4, 0, 0, .null), (85, .lcmp, 0, 0, .null)] (pc' := 86) (ls' := [some (.ref 1313), some (.int x1), some (.long x2), none, some (.long x4), none]) (st' := [.int (lg_cmp x2 x4)]) (by decide +kernel) rfl ?_
        refine b_izF (c := .ge) (o := 7) (t := 93) (y := 0) (w := .null) (by decide +kernel) cmp_ge (fun _ => ?_) (fun _ => ?_)
        · refine b_run [(89, .iconst 1, 0, 0, .null), (90, .goto 4, 94, 0, .null)] (pc' := 94) (ls' := [some (.ref 1313), some (.int x1), some (.long x2), none, some (.long x4), none]) (st' := [.int 1]) (by decide +kernel) rfl ?_
          exact b_ret (i := (.ireturn, 0, 0, .null)) (by decide +kernel) rfl rfl (by decide +kernel)
        · refine b_run [(93, .iconst 0, 0, 0, .null)] (pc' := 94) (ls' := [some (.ref 1313), some (.int x1), some (.long x2), none, some (.long x4), none]) (st' := [.int 0]) (by decide +kernel) rfl ?_
          exact b_ret (i := (.ireturn, 0, 0, .null)) (by decide +kernel) rfl rfl (by decide +kernel)
      refine b_sw (dl := 65) (lo := 8) (hi' := 10) (offs := #[26, 39, 52]) (t := 26) (y := 0) (w := .null) (by decide +kernel) (swD (pc' := 95) (by have q0 : (x1 : Int32).toInt ≠ 8 := swN e0; have q1 : (x1 : Int32).toInt ≠ 9 := swN e1; have q2 : (x1 : Int32).toInt ≠ 10 := swN e2; omega) rfl) ?_
      refine b_run [(95, .lload_n 2, 0, 0, .null), (96, .lload 4, 0, 0, .null), (98, .lcmp, 0, 0, .null)] (pc' := 99) (ls' := [some (.ref 1313), some (.int x1), some (.long x2), none, some (.long x4), none]) (st' := [.int (lg_cmp x2 x4)]) (by decide +kernel) rfl ?_
      refine b_izF (c := .le) (o := 7) (t := 106) (y := 0) (w := .null) (by decide +kernel) cmp_le (fun _ => ?_) (fun _ => ?_)
      · refine b_run [(102, .iconst 1, 0, 0, .null), (103, .goto 4, 107, 0, .null)] (pc' := 107) (ls' := [some (.ref 1313), some (.int x1), some (.long x2), none, some (.long x4), none]) (st' := [.int 1]) (by decide +kernel) rfl ?_
        exact b_ret (i := (.ireturn, 0, 0, .null)) (by decide +kernel) rfl rfl (by decide +kernel)
      · refine b_run [(106, .iconst 0, 0, 0, .null)] (pc' := 107) (ls' := [some (.ref 1313), some (.int x1), some (.long x2), none, some (.long x4), none]) (st' := [.int 0]) (by decide +kernel) rfl ?_
        exact b_ret (i := (.ireturn, 0, 0, .null)) (by decide +kernel) rfl rfl (by decide +kernel)
/-- TreeStore$Part.isNumber()Z -/
def f39 (F : Nat) (x0 : Nat) (σ : St) : Rs := lt (σ.1 x0 0) fun c1 => 
    if 4 < c1 then oI 0 σ
    else oI 1 σ
theorem s39 {sc : aSc} (hv : vOk sc) (F : Nat) (x0 : Nat) (σ : St) (hx0 : isO x0 1 = true) : bEx sc 0 39 0 [some (.ref x0)] [] σ (f39 F x0 σ) := by
  unfold f39
  refine b_run [(0, .aload_n 0, 0, 0, .null)] (pc' := 1) (ls' := [some (.ref x0)]) (st' := [.ref x0]) (by decide +kernel) rfl ?_
  refine b_gI (q := 9) (ci := 1) (k := 0) (w := .null) (by decide +kernel) (fk_I1_0 hx0) (fun c1 => ?_)
  refine b_run [(4, .iconst 4, 0, 0, .null)] (pc' := 5) (ls' := [some (.ref x0)]) (st' := [.int 4, .int c1]) (by decide +kernel) rfl ?_
  refine b_icT (c := .gt) (o := 7) (t := 12) (y := 0) (w := .null) (by decide +kernel) cmp_gt (fun _ => ?_) (fun _ => ?_)
  · refine b_run [(12, .iconst 0, 0, 0, .null)] (pc' := 13) (ls' := [some (.ref x0)]) (st' := [.int 0]) (by decide +kernel) rfl ?_
    exact b_ret (i := (.ireturn, 0, 0, .null)) (by decide +kernel) rfl rfl (by decide +kernel)
  · refine b_run [(8, .iconst 1, 0, 0, .null), (9, .goto 4, 13, 0, .null)] (pc' := 13) (ls' := [some (.ref x0)]) (st' := [.int 1]) (by decide +kernel) rfl ?_
    exact b_ret (i := (.ireturn, 0, 0, .null)) (by decide +kernel) rfl rfl (by decide +kernel)
def f77_145 (F : Nat) (y5 : Nat) (y6 : Int32) (y7 : Int32) (y8 : Nat) (y9 : Int32) (z0 : Int32) (σ : St) : Rs := cI (f97 F y5 y6 (y7 - y6) y8 y9 (z0 - y9) σ) fun c18 σ17 => if c18 = 0 ∨ c18 = 1 then oI c18 σ17 else none
theorem s77_145 {sc : aSc} (hv : vOk sc) (F : Nat) (y5 : Nat) (y6 : Int32) (y7 : Int32) (y8 : Nat) (y9 : Int32) (z0 : Int32) (σ : St) (hy5 : isO y5 5 = true) (hy8 : isO y8 5 = true) : bEx sc 2 77 145 [none, none, none, none, none, some (.ref y5), some (.int y6), some (.int y7), some (.ref y8), some (.int y9), none] [.int z0] σ (f77_145 F y5 y6 y7 y8 y9 z0 σ) := by
  unfold f77_145
  refine b_run [(145, .istore 10, 0, 0, .null), (147, .aload 5, 0, 0, .null), (149, .iload 6, 0, 0, .null), (151, .iload 7, 0, 0, .null), (153, .iload 6, 0, 0, .null), (155, .isub, 0, 0, .null), (156, .aload 8, 0, 0, .null), (158, .iload 9, 0, 0, .null), (160, .iload 10, 0, 0, .null), (162, .iload 9, 0, 0, .null), (164, .isub, 0, 0, .null)] (pc' := 165) (ls' := [none, none, none, none, none, some (.ref y5), some (.int y6), some (.int y7), some (.ref y8), some (.int y9), some (.int z0)]) (st' := [.int (z0 - y9), .int y9, .ref y8, .int (y7 - y6), .int y6, .ref y5]) (by decide +kernel) rfl ?_
  refine b_callI 97 6 [.ref y5, .int y6, .int (y7 - y6), .ref y8, .int y9, .int (z0 - y9)] (rest := []) (by decide +kernel) rfl rfl rfl (go_O rfl (by decide +kernel) hy5) rfl (s97 hv F y5 y6 (y7 - y6) y8 y9 (z0 - y9) σ hy5 hy8) (by decide) (fun c18 σ17 => ?_)
  exact b_guard (fun hz => b_ret (i := (.ireturn, 0, 0, .null)) (by decide +kernel) rfl rfl (fit_Z hz))
def f77_120 (F : Nat) (y3 : Nat) (y4 : Int32) (y5 : Nat) (y6 : Int32) (y7 : Int32) (y8 : Nat) (z0 : Int32) (σ : St) : Rs := cI (f36 F y3 σ) fun c15 σ14 => 
    if c15 = 0 then lt (σ14.1 y3 11) fun c16 => f77_145 F y5 y6 y7 y8 z0 c16 σ14
    else cI (f129 F 1003 y4 σ14) fun c20 σ19 => f77_145 F y5 y6 y7 y8 z0 c20 σ19
theorem s77_120 {sc : aSc} (hv : vOk sc) (F : Nat) (y3 : Nat) (y4 : Int32) (y5 : Nat) (y6 : Int32) (y7 : Int32) (y8 : Nat) (z0 : Int32) (σ : St) (hy3 : isO y3 1 = true) (hy5 : isO y5 5 = true) (hy8 : isO y8 5 = true) : bEx sc 2 77 120 [some (.ref 1313), none, none, some (.ref y3), some (.int y4), some (.ref y5), some (.int y6), some (.int y7), some (.ref y8), none, none] [.int z0] σ (f77_120 F y3 y4 y5 y6 y7 y8 z0 σ) := by
  unfold f77_120
  refine b_run [(120, .istore 9, 0, 0, .null), (122, .aload_n 3, 0, 0, .null)] (pc' := 123) (ls' := [some (.ref 1313), none, none, some (.ref y3), some (.int y4), some (.ref y5), some (.int y6), some (.int y7), some (.ref y8), some (.int z0), none]) (st' := [.ref y3]) (by decide +kernel) rfl ?_
  refine b_callI 36 1 [.ref y3] (rest := []) (by decide +kernel) rfl rfl rfl (go_O rfl (by decide +kernel) hy3) rfl (s36 hv F y3 σ hy3) (by decide) (fun c15 σ14 => ?_)
  refine b_izT (c := .eq) (o := 15) (t := 141) (y := 0) (w := .null) (by decide +kernel) cmp_eq (fun _ => ?_) (fun _ => ?_)
  · refine b_run [(141, .aload_n 3, 0, 0, .null)] (pc' := 142) (ls' := [some (.ref 1313), none, none, some (.ref y3), some (.int y4), some (.ref y5), some (.int y6), some (.int y7), some (.ref y8), some (.int z0), none]) (st' := [.ref y3]) (by decide +kernel) rfl ?_
    refine b_gI (q := 215) (ci := 1) (k := 11) (w := .null) (by decide +kernel) (fk_I1_11 hy3) (fun c16 => ?_)
    exact b_wk (wN (wN (wN (wN (wN (wS (wS (wS (wS (wS (wN w0))))))))))) (s77_145 hv F y5 y6 y7 y8 z0 c16 σ14 hy5 hy8)
  · refine b_run [(129, .aload_n 0, 0, 0, .null)] (pc' := 130) (ls' := [some (.ref 1313), none, none, some (.ref y3), some (.int y4), some (.ref y5), some (.int y6), some (.int y7), some (.ref y8), some (.int z0), none]) (st' := [.ref 1313]) (by decide +kernel) rfl ?_
    refine b_getC (b := 1003) (q := 15) (ci := 3) (k := 1) (w := .null) (by decide +kernel) (by decide +kernel) ?_
    refine b_run [(133, .iload 4, 0, 0, .null)] (pc' := 135) (ls' := [some (.ref 1313), none, none, some (.ref y3), some (.int y4), some (.ref y5), some (.int y6), some (.int y7), some (.ref y8), some (.int z0), none]) (st' := [.int y4, .ref 1003]) (by decide +kernel) rfl ?_
    refine b_callI 129 2 [.ref 1003, .int y4] (rest := []) (by decide +kernel) rfl rfl rfl (go_O rfl (by decide +kernel) (by decide +kernel : isO 1003 8 = true)) rfl (s129 hv F 1003 y4 σ14 (by decide +kernel : isO 1003 8 = true)) (by decide) (fun c20 σ19 => ?_)
    refine b_run [(138, .goto 7, 145, 0, .null)] (pc' := 145) (ls' := [some (.ref 1313), none, none, some (.ref y3), some (.int y4), some (.ref y5), some (.int y6), some (.int y7), some (.ref y8), some (.int z0), none]) (st' := [.int c20]) (by decide +kernel) rfl ?_
    exact b_wk (wN (wN (wN (wN (wN (wS (wS (wS (wS (wS (wN w0))))))))))) (s77_145 hv F y5 y6 y7 y8 z0 c20 σ19 hy5 hy8)
def f77_95 (F : Nat) (y3 : Nat) (y4 : Int32) (y5 : Nat) (y6 : Int32) (y7 : Int32) (z0 : Nat) (σ : St) : Rs := cI (f36 F y3 σ) fun c12 σ11 => 
    if c12 = 0 then lt (σ11.1 y3 10) fun c13 => f77_120 F y3 y4 y5 y6 y7 z0 c13 σ11
    else cI (f131 F 1003 y4 σ11) fun c22 σ21 => f77_120 F y3 y4 y5 y6 y7 z0 c22 σ21
theorem s77_95 {sc : aSc} (hv : vOk sc) (F : Nat) (y3 : Nat) (y4 : Int32) (y5 : Nat) (y6 : Int32) (y7 : Int32) (z0 : Nat) (σ : St) (hy3 : isO y3 1 = true) (hy5 : isO y5 5 = true) (hz0 : isO z0 5 = true) : bEx sc 2 77 95 [some (.ref 1313), none, none, some (.ref y3), some (.int y4), some (.ref y5), some (.int y6), some (.int y7), none, none, none] [.ref z0] σ (f77_95 F y3 y4 y5 y6 y7 z0 σ) := by
  unfold f77_95
  refine b_run [(95, .astore 8, 0, 0, .null), (97, .aload_n 3, 0, 0, .null)] (pc' := 98) (ls' := [some (.ref 1313), none, none, some (.ref y3), some (.int y4), some (.ref y5), some (.int y6), some (.int y7), some (.ref z0), none, none]) (st' := [.ref y3]) (by decide +kernel) rfl ?_
  refine b_callI 36 1 [.ref y3] (rest := []) (by decide +kernel) rfl rfl rfl (go_O rfl (by decide +kernel) hy3) rfl (s36 hv F y3 σ hy3) (by decide) (fun c12 σ11 => ?_)
  refine b_izT (c := .eq) (o := 15) (t := 116) (y := 0) (w := .null) (by decide +kernel) cmp_eq (fun _ => ?_) (fun _ => ?_)
  · refine b_run [(116, .aload_n 3, 0, 0, .null)] (pc' := 117) (ls' := [some (.ref 1313), none, none, some (.ref y3), some (.int y4), some (.ref y5), some (.int y6), some (.int y7), some (.ref z0), none, none]) (st' := [.ref y3]) (by decide +kernel) rfl ?_
    refine b_gI (q := 212) (ci := 1) (k := 10) (w := .null) (by decide +kernel) (fk_I1_10 hy3) (fun c13 => ?_)
    exact b_wk (wS (wN (wN (wS (wS (wS (wS (wS (wS (wN (wN w0))))))))))) (s77_120 hv F y3 y4 y5 y6 y7 z0 c13 σ11 hy3 hy5 hz0)
  · refine b_run [(104, .aload_n 0, 0, 0, .null)] (pc' := 105) (ls' := [some (.ref 1313), none, none, some (.ref y3), some (.int y4), some (.ref y5), some (.int y6), some (.int y7), some (.ref z0), none, none]) (st' := [.ref 1313]) (by decide +kernel) rfl ?_
    refine b_getC (b := 1003) (q := 15) (ci := 3) (k := 1) (w := .null) (by decide +kernel) (by decide +kernel) ?_
    refine b_run [(108, .iload 4, 0, 0, .null)] (pc' := 110) (ls' := [some (.ref 1313), none, none, some (.ref y3), some (.int y4), some (.ref y5), some (.int y6), some (.int y7), some (.ref z0), none, none]) (st' := [.int y4, .ref 1003]) (by decide +kernel) rfl ?_
    refine b_callI 131 2 [.ref 1003, .int y4] (rest := []) (by decide +kernel) rfl rfl rfl (go_O rfl (by decide +kernel) (by decide +kernel : isO 1003 8 = true)) rfl (s131 hv F 1003 y4 σ11 (by decide +kernel : isO 1003 8 = true)) (by decide) (fun c22 σ21 => ?_)
    refine b_run [(113, .goto 7, 120, 0, .null)] (pc' := 120) (ls' := [some (.ref 1313), none, none, some (.ref y3), some (.int y4), some (.ref y5), some (.int y6), some (.int y7), some (.ref z0), none, none]) (st' := [.int c22]) (by decide +kernel) rfl ?_
    exact b_wk (wS (wN (wN (wS (wS (wS (wS (wS (wS (wN (wN w0))))))))))) (s77_120 hv F y3 y4 y5 y6 y7 z0 c22 σ21 hy3 hy5 hz0)
def f77_70 (F : Nat) (y3 : Nat) (y4 : Int32) (y5 : Nat) (y6 : Int32) (z0 : Int32) (σ : St) : Rs := cI (f36 F y3 σ) fun c10 σ9 => 
    if c10 = 0 then f77_95 F y3 y4 y5 y6 z0 1001 σ9
    else cR (f132 F 1003 y4 σ9) fun c24 σ23 => if isO c24 5 = true then f77_95 F y3 y4 y5 y6 z0 c24 σ23 else none
theorem s77_70 {sc : aSc} (hv : vOk sc) (F : Nat) (y3 : Nat) (y4 : Int32) (y5 : Nat) (y6 : Int32) (z0 : Int32) (σ : St) (hy3 : isO y3 1 = true) (hy5 : isO y5 5 = true) : bEx sc 2 77 70 [some (.ref 1313), none, none, some (.ref y3), some (.int y4), some (.ref y5), some (.int y6), none, none, none, none] [.int z0] σ (f77_70 F y3 y4 y5 y6 z0 σ) := by
  unfold f77_70
  refine b_run [(70, .istore 7, 0, 0, .null), (72, .aload_n 3, 0, 0, .null)] (pc' := 73) (ls' := [some (.ref 1313), none, none, some (.ref y3), some (.int y4), some (.ref y5), some (.int y6), some (.int z0), none, none, none]) (st' := [.ref y3]) (by decide +kernel) rfl ?_
  refine b_callI 36 1 [.ref y3] (rest := []) (by decide +kernel) rfl rfl rfl (go_O rfl (by decide +kernel) hy3) rfl (s36 hv F y3 σ hy3) (by decide) (fun c10 σ9 => ?_)
  refine b_izT (c := .eq) (o := 15) (t := 91) (y := 0) (w := .null) (by decide +kernel) cmp_eq (fun _ => ?_) (fun _ => ?_)
  · refine b_run [(91, .aload_n 0, 0, 0, .null)] (pc' := 92) (ls' := [some (.ref 1313), none, none, some (.ref y3), some (.int y4), some (.ref y5), some (.int y6), some (.int z0), none, none, none]) (st' := [.ref 1313]) (by decide +kernel) rfl ?_
    refine b_getC (b := 1001) (q := 9) (ci := 3) (k := 0) (w := .null) (by decide +kernel) (by decide +kernel) ?_
    exact b_wk (wS (wN (wN (wS (wS (wS (wS (wS (wN (wN (wN w0))))))))))) (s77_95 hv F y3 y4 y5 y6 z0 1001 σ9 hy3 hy5 (by decide +kernel : isO 1001 5 = true))
  · refine b_run [(79, .aload_n 0, 0, 0, .null)] (pc' := 80) (ls' := [some (.ref 1313), none, none, some (.ref y3), some (.int y4), some (.ref y5), some (.int y6), some (.int z0), none, none, none]) (st' := [.ref 1313]) (by decide +kernel) rfl ?_
    refine b_getC (b := 1003) (q := 15) (ci := 3) (k := 1) (w := .null) (by decide +kernel) (by decide +kernel) ?_
    refine b_run [(83, .iload 4, 0, 0, .null)] (pc' := 85) (ls' := [some (.ref 1313), none, none, some (.ref y3), some (.int y4), some (.ref y5), some (.int y6), some (.int z0), none, none, none]) (st' := [.int y4, .ref 1003]) (by decide +kernel) rfl ?_
    refine b_callR 132 2 [.ref 1003, .int y4] (rest := []) (by decide +kernel) rfl rfl rfl (go_O rfl (by decide +kernel) (by decide +kernel : isO 1003 8 = true)) rfl (s132 hv F 1003 y4 σ9 (by decide +kernel : isO 1003 8 = true)) (by decide) (fun c24 σ23 => b_guard (fun hc24 => ?_))
    refine b_run [(88, .goto 7, 95, 0, .null)] (pc' := 95) (ls' := [some (.ref 1313), none, none, some (.ref y3), some (.int y4), some (.ref y5), some (.int y6), some (.int z0), none, none, none]) (st' := [.ref c24]) (by decide +kernel) rfl ?_
    exact b_wk (wS (wN (wN (wS (wS (wS (wS (wS (wN (wN (wN w0))))))))))) (s77_95 hv F y3 y4 y5 y6 z0 c24 σ23 hy3 hy5 hc24)
def f77_46 (F : Nat) (y1 : Nat) (y2 : Int32) (y3 : Nat) (y4 : Int32) (y5 : Nat) (z0 : Int32) (σ : St) : Rs := cI (f36 F y1 σ) fun c7 σ6 => 
    if c7 = 0 then lt (σ6.1 y1 11) fun c8 => f77_70 F y3 y4 y5 z0 c8 σ6
    else cI (f129 F 1003 y2 σ6) fun c26 σ25 => f77_70 F y3 y4 y5 z0 c26 σ25
theorem s77_46 {sc : aSc} (hv : vOk sc) (F : Nat) (y1 : Nat) (y2 : Int32) (y3 : Nat) (y4 : Int32) (y5 : Nat) (z0 : Int32) (σ : St) (hy1 : isO y1 1 = true) (hy3 : isO y3 1 = true) (hy5 : isO y5 5 = true) : bEx sc 2 77 46 [some (.ref 1313), some (.ref y1), some (.int y2), some (.ref y3), some (.int y4), some (.ref y5), none, none, none, none, none] [.int z0] σ (f77_46 F y1 y2 y3 y4 y5 z0 σ) := by
  unfold f77_46
  refine b_run [(46, .istore 6, 0, 0, .null), (48, .aload_n 1, 0, 0, .null)] (pc' := 49) (ls' := [some (.ref 1313), some (.ref y1), some (.int y2), some (.ref y3), some (.int y4), some (.ref y5), some (.int z0), none, none, none, none]) (st' := [.ref y1]) (by decide +kernel) rfl ?_
  refine b_callI 36 1 [.ref y1] (rest := []) (by decide +kernel) rfl rfl rfl (go_O rfl (by decide +kernel) hy1) rfl (s36 hv F y1 σ hy1) (by decide) (fun c7 σ6 => ?_)
  refine b_izT (c := .eq) (o := 14) (t := 66) (y := 0) (w := .null) (by decide +kernel) cmp_eq (fun _ => ?_) (fun _ => ?_)
  · refine b_run [(66, .aload_n 1, 0, 0, .null)] (pc' := 67) (ls' := [some (.ref 1313), some (.ref y1), some (.int y2), some (.ref y3), some (.int y4), some (.ref y5), some (.int z0), none, none, none, none]) (st' := [.ref y1]) (by decide +kernel) rfl ?_
    refine b_gI (q := 215) (ci := 1) (k := 11) (w := .null) (by decide +kernel) (fk_I1_11 hy1) (fun c8 => ?_)
    exact b_wk (wS (wN (wN (wS (wS (wS (wS (wN (wN (wN (wN w0))))))))))) (s77_70 hv F y3 y4 y5 z0 c8 σ6 hy3 hy5)
  · refine b_run [(55, .aload_n 0, 0, 0, .null)] (pc' := 56) (ls' := [some (.ref 1313), some (.ref y1), some (.int y2), some (.ref y3), some (.int y4), some (.ref y5), some (.int z0), none, none, none, none]) (st' := [.ref 1313]) (by decide +kernel) rfl ?_
    refine b_getC (b := 1003) (q := 15) (ci := 3) (k := 1) (w := .null) (by decide +kernel) (by decide +kernel) ?_
    refine b_run [(59, .iload_n 2, 0, 0, .null)] (pc' := 60) (ls' := [some (.ref 1313), some (.ref y1), some (.int y2), some (.ref y3), some (.int y4), some (.ref y5), some (.int z0), none, none, none, none]) (st' := [.int y2, .ref 1003]) (by decide +kernel) rfl ?_
    refine b_callI 129 2 [.ref 1003, .int y2] (rest := []) (by decide +kernel) rfl rfl rfl (go_O rfl (by decide +kernel) (by decide +kernel : isO 1003 8 = true)) rfl (s129 hv F 1003 y2 σ6 (by decide +kernel : isO 1003 8 = true)) (by decide) (fun c26 σ25 => ?_)
    refine b_run [(63, .goto 7, 70, 0, .null)] (pc' := 70) (ls' := [some (.ref 1313), some (.ref y1), some (.int y2), some (.ref y3), some (.int y4), some (.ref y5), some (.int z0), none, none, none, none]) (st' := [.int c26]) (by decide +kernel) rfl ?_
    exact b_wk (wS (wN (wN (wS (wS (wS (wS (wN (wN (wN (wN w0))))))))))) (s77_70 hv F y3 y4 y5 z0 c26 σ25 hy3 hy5)
def f77_22 (F : Nat) (y1 : Nat) (y2 : Int32) (y3 : Nat) (y4 : Int32) (z0 : Nat) (σ : St) : Rs := cI (f36 F y1 σ) fun c4 σ3 => 
    if c4 = 0 then lt (σ3.1 y1 10) fun c5 => f77_46 F y1 y2 y3 y4 z0 c5 σ3
    else cI (f131 F 1003 y2 σ3) fun c28 σ27 => f77_46 F y1 y2 y3 y4 z0 c28 σ27
theorem s77_22 {sc : aSc} (hv : vOk sc) (F : Nat) (y1 : Nat) (y2 : Int32) (y3 : Nat) (y4 : Int32) (z0 : Nat) (σ : St) (hy1 : isO y1 1 = true) (hy3 : isO y3 1 = true) (hz0 : isO z0 5 = true) : bEx sc 2 77 22 [some (.ref 1313), some (.ref y1), some (.int y2), some (.ref y3), some (.int y4), none, none, none, none, none, none] [.ref z0] σ (f77_22 F y1 y2 y3 y4 z0 σ) := by
  unfold f77_22
  refine b_run [(22, .astore 5, 0, 0, .null), (24, .aload_n 1, 0, 0, .null)] (pc' := 25) (ls' := [some (.ref 1313), some (.ref y1), some (.int y2), some (.ref y3), some (.int y4), some (.ref z0), none, none, none, none, none]) (st' := [.ref y1]) (by decide +kernel) rfl ?_
  refine b_callI 36 1 [.ref y1] (rest := []) (by decide +kernel) rfl rfl rfl (go_O rfl (by decide +kernel) hy1) rfl (s36 hv F y1 σ hy1) (by decide) (fun c4 σ3 => ?_)
  refine b_izT (c := .eq) (o := 14) (t := 42) (y := 0) (w := .null) (by decide +kernel) cmp_eq (fun _ => ?_) (fun _ => ?_)
  · refine b_run [(42, .aload_n 1, 0, 0, .null)] (pc' := 43) (ls' := [some (.ref 1313), some (.ref y1), some (.int y2), some (.ref y3), some (.int y4), some (.ref z0), none, none, none, none, none]) (st' := [.ref y1]) (by decide +kernel) rfl ?_
    refine b_gI (q := 212) (ci := 1) (k := 10) (w := .null) (by decide +kernel) (fk_I1_10 hy1) (fun c5 => ?_)
    exact b_wk (wS (wS (wS (wS (wS (wS (wN (wN (wN (wN (wN w0))))))))))) (s77_46 hv F y1 y2 y3 y4 z0 c5 σ3 hy1 hy3 hz0)
  · refine b_run [(31, .aload_n 0, 0, 0, .null)] (pc' := 32) (ls' := [some (.ref 1313), some (.ref y1), some (.int y2), some (.ref y3), some (.int y4), some (.ref z0), none, none, none, none, none]) (st' := [.ref 1313]) (by decide +kernel) rfl ?_
    refine b_getC (b := 1003) (q := 15) (ci := 3) (k := 1) (w := .null) (by decide +kernel) (by decide +kernel) ?_
    refine b_run [(35, .iload_n 2, 0, 0, .null)] (pc' := 36) (ls' := [some (.ref 1313), some (.ref y1), some (.int y2), some (.ref y3), some (.int y4), some (.ref z0), none, none, none, none, none]) (st' := [.int y2, .ref 1003]) (by decide +kernel) rfl ?_
    refine b_callI 131 2 [.ref 1003, .int y2] (rest := []) (by decide +kernel) rfl rfl rfl (go_O rfl (by decide +kernel) (by decide +kernel : isO 1003 8 = true)) rfl (s131 hv F 1003 y2 σ3 (by decide +kernel : isO 1003 8 = true)) (by decide) (fun c28 σ27 => ?_)
    refine b_run [(39, .goto 7, 46, 0, .null)] (pc' := 46) (ls' := [some (.ref 1313), some (.ref y1), some (.int y2), some (.ref y3), some (.int y4), some (.ref z0), none, none, none, none, none]) (st' := [.int c28]) (by decide +kernel) rfl ?_
    exact b_wk (wS (wS (wS (wS (wS (wS (wN (wN (wN (wN (wN w0))))))))))) (s77_46 hv F y1 y2 y3 y4 z0 c28 σ27 hy1 hy3 hz0)
/-- TreeStore$PathWalker.isSameText(LTreeStore$Part;ILTreeStore$Part;I)Z -/
def f77 (F : Nat) (x1 : Nat) (x2 : Int32) (x3 : Nat) (x4 : Int32) (σ : St) : Rs := cI (f36 F x1 σ) fun c2 σ1 => 
    if c2 = 0 then f77_22 F x1 x2 x3 x4 1001 σ1
    else cR (f132 F 1003 x2 σ1) fun c30 σ29 => if isO c30 5 = true then f77_22 F x1 x2 x3 x4 c30 σ29 else none
theorem s77 {sc : aSc} (hv : vOk sc) (F : Nat) (x1 : Nat) (x2 : Int32) (x3 : Nat) (x4 : Int32) (σ : St) (hx1 : isO x1 1 = true) (hx3 : isO x3 1 = true) : bEx sc 2 77 0 [some (.ref 1313), some (.ref x1), some (.int x2), some (.ref x3), some (.int x4), none, none, none, none, none, none] [] σ (f77 F x1 x2 x3 x4 σ) := by
  unfold f77
  refine b_run [(0, .aload_n 1, 0, 0, .null)] (pc' := 1) (ls' := [some (.ref 1313), some (.ref x1), some (.int x2), some (.ref x3), some (.int x4), none, none, none, none, none, none]) (st' := [.ref x1]) (by decide +kernel) rfl ?_
  refine b_callI 36 1 [.ref x1] (rest := []) (by decide +kernel) rfl rfl rfl (go_O rfl (by decide +kernel) hx1) rfl (s36 hv F x1 σ hx1) (by decide) (fun c2 σ1 => ?_)
  refine b_izT (c := .eq) (o := 14) (t := 18) (y := 0) (w := .null) (by decide +kernel) cmp_eq (fun _ => ?_) (fun _ => ?_)
  · refine b_run [(18, .aload_n 0, 0, 0, .null)] (pc' := 19) (ls' := [some (.ref 1313), some (.ref x1), some (.int x2), some (.ref x3), some (.int x4), none, none, none, none, none, none]) (st' := [.ref 1313]) (by decide +kernel) rfl ?_
    refine b_getC (b := 1001) (q := 9) (ci := 3) (k := 0) (w := .null) (by decide +kernel) (by decide +kernel) ?_
    exact b_wk (wS (wS (wS (wS (wS (wN (wN (wN (wN (wN (wN w0))))))))))) (s77_22 hv F x1 x2 x3 x4 1001 σ1 hx1 hx3 (by decide +kernel : isO 1001 5 = true))
  · refine b_run [(7, .aload_n 0, 0, 0, .null)] (pc' := 8) (ls' := [some (.ref 1313), some (.ref x1), some (.int x2), some (.ref x3), some (.int x4), none, none, none, none, none, none]) (st' := [.ref 1313]) (by decide +kernel) rfl ?_
    refine b_getC (b := 1003) (q := 15) (ci := 3) (k := 1) (w := .null) (by decide +kernel) (by decide +kernel) ?_
    refine b_run [(11, .iload_n 2, 0, 0, .null)] (pc' := 12) (ls' := [some (.ref 1313), some (.ref x1), some (.int x2), some (.ref x3), some (.int x4), none, none, none, none, none, none]) (st' := [.int x2, .ref 1003]) (by decide +kernel) rfl ?_
    refine b_callR 132 2 [.ref 1003, .int x2] (rest := []) (by decide +kernel) rfl rfl rfl (go_O rfl (by decide +kernel) (by decide +kernel : isO 1003 8 = true)) rfl (s132 hv F 1003 x2 σ1 (by decide +kernel : isO 1003 8 = true)) (by decide) (fun c30 σ29 => b_guard (fun hc30 => ?_))
    refine b_run [(15, .goto 7, 22, 0, .null)] (pc' := 22) (ls' := [some (.ref 1313), some (.ref x1), some (.int x2), some (.ref x3), some (.int x4), none, none, none, none, none, none]) (st' := [.ref c30]) (by decide +kernel) rfl ?_
    exact b_wk (wS (wS (wS (wS (wS (wN (wN (wN (wN (wN (wN w0))))))))))) (s77_22 hv F x1 x2 x3 x4 c30 σ29 hx1 hx3 hc30)
def f76_96 (F : Nat) (y1 : Int32) (y2 : Nat) (y3 : Int32) (y4 : Nat) (y5 : Int32) (σ : St) : Rs := cJ (f73 F y2 y3 σ) fun c12 σ11 => 
    cJ (f73 F y4 y5 σ11) fun c14 σ13 => cI (f75 F y1 c12 c14 σ13) fun c16 σ15 => if c16 = 0 ∨ c16 = 1 then oI c16 σ15 else none
theorem s76_96 {sc : aSc} (hv : vOk sc) (F : Nat) (y1 : Int32) (y2 : Nat) (y3 : Int32) (y4 : Nat) (y5 : Int32) (σ : St) (hy2 : isO y2 1 = true) (hy4 : isO y4 1 = true) : bEx sc 3 76 96 [some (.ref 1313), some (.int y1), some (.ref y2), some (.int y3), some (.ref y4), some (.int y5), none] [] σ (f76_96 F y1 y2 y3 y4 y5 σ) := by
  unfold f76_96
  refine b_run [(96, .aload_n 0, 0, 0, .null), (97, .iload_n 1, 0, 0, .null), (98, .aload_n 0, 0, 0, .null), (99, .aload_n 2, 0, 0, .null), (100, .iload_n 3, 0, 0, .null)] (pc' := 101) (ls' := [some (.ref 1313), some (.int y1), some (.ref y2), some (.int y3), some (.ref y4), some (.int y5), none]) (st' := [.int y3, .ref y2, .ref 1313, .int y1, .ref 1313]) (by decide +kernel) rfl ?_
  refine b_callJ 73 3 [.ref 1313, .ref y2, .int y3] (rest := [.int y1, .ref 1313]) (by decide +kernel) rfl rfl rfl (go_O rfl (by decide +kernel) (by decide +kernel : isO 1313 3 = true)) rfl (s73 hv F y2 y3 σ hy2) (by decide) (fun c12 σ11 => ?_)
  refine b_run [(104, .aload_n 0, 0, 0, .null), (105, .aload 4, 0, 0, .null), (107, .iload 5, 0, 0, .null)] (pc' := 109) (ls' := [some (.ref 1313), some (.int y1), some (.ref y2), some (.int y3), some (.ref y4), some (.int y5), none]) (st' := [.int y5, .ref y4, .ref 1313, .long c12, .int y1, .ref 1313]) (by decide +kernel) rfl ?_
  refine b_callJ 73 3 [.ref 1313, .ref y4, .int y5] (rest := [.long c12, .int y1, .ref 1313]) (by decide +kernel) rfl rfl rfl (go_O rfl (by decide +kernel) (by decide +kernel : isO 1313 3 = true)) rfl (s73 hv F y4 y5 σ11 hy4) (by decide) (fun c14 σ13 => ?_)
  refine b_callI 75 4 [.ref 1313, .int y1, .long c12, .long c14] (rest := []) (by decide +kernel) rfl rfl rfl (go_O rfl (by decide +kernel) (by decide +kernel : isO 1313 3 = true)) rfl (s75 hv F y1 c12 c14 σ13) (by decide) (fun c16 σ15 => ?_)
  exact b_guard (fun hz => b_ret (i := (.ireturn, 0, 0, .null)) (by decide +kernel) rfl rfl (fit_Z hz))
def f76_76 (F : Nat) (y1 : Int32) (y2 : Nat) (y3 : Int32) (y4 : Nat) (y5 : Int32) (y6 : Int32) (σ : St) : Rs := if y6 = 0 then 
    cI (f39 F y2 σ) fun c6 σ5 => 
    if c6 = 0 then 
    cI (f39 F y4 σ5) fun c8 σ7 => 
    if c8 = 0 then 
    cI (f77 F y2 y3 y4 y5 σ7) fun c10 σ9 => 
    if y1 = 8 then 
    if c10 = 1 then oI 1 σ9
    else oI 0 σ9
    else if c10 = 0 then oI 1 σ9
    else oI 0 σ9
    else f76_96 F y1 y2 y3 y4 y5 σ7
    else f76_96 F y1 y2 y3 y4 y5 σ5
    else f76_96 F y1 y2 y3 y4 y5 σ
theorem s76_76 {sc : aSc} (hv : vOk sc) (F : Nat) (y1 : Int32) (y2 : Nat) (y3 : Int32) (y4 : Nat) (y5 : Int32) (y6 : Int32) (σ : St) (hy2 : isO y2 1 = true) (hy4 : isO y4 1 = true) : bEx sc 3 76 76 [some (.ref 1313), some (.int y1), some (.ref y2), some (.int y3), some (.ref y4), some (.int y5), some (.int y6)] [] σ (f76_76 F y1 y2 y3 y4 y5 y6 σ) := by
  unfold f76_76
  refine b_run [(76, .iload 6, 0, 0, .null)] (pc' := 78) (ls' := [some (.ref 1313), some (.int y1), some (.ref y2), some (.int y3), some (.ref y4), some (.int y5), some (.int y6)]) (st' := [.int y6]) (by decide +kernel) rfl ?_
  refine b_izF (c := .ne) (o := 18) (t := 96) (y := 0) (w := .null) (by decide +kernel) cmp_ne (fun _ => ?_) (fun _ => ?_)
  · refine b_run [(81, .aload_n 2, 0, 0, .null)] (pc' := 82) (ls' := [some (.ref 1313), some (.int y1), some (.ref y2), some (.int y3), some (.ref y4), some (.int y5), some (.int y6)]) (st' := [.ref y2]) (by decide +kernel) rfl ?_
    refine b_callI 39 1 [.ref y2] (rest := []) (by decide +kernel) rfl rfl rfl (go_O rfl (by decide +kernel) hy2) rfl (s39 hv F y2 σ hy2) (by decide) (fun c6 σ5 => ?_)
    refine b_izF (c := .ne) (o := 11) (t := 96) (y := 0) (w := .null) (by decide +kernel) cmp_ne (fun _ => ?_) (fun _ => ?_)
    · refine b_run [(88, .aload 4, 0, 0, .null)] (pc' := 90) (ls' := [some (.ref 1313), some (.int y1), some (.ref y2), some (.int y3), some (.ref y4), some (.int y5), some (.int y6)]) (st' := [.ref y4]) (by decide +kernel) rfl ?_
      refine b_callI 39 1 [.ref y4] (rest := []) (by decide +kernel) rfl rfl rfl (go_O rfl (by decide +kernel) hy4) rfl (s39 hv F y4 σ5 hy4) (by decide) (fun c8 σ7 => ?_)
      refine b_izT (c := .eq) (o := 23) (t := 116) (y := 0) (w := .null) (by decide +kernel) cmp_eq (fun _ => ?_) (fun _ => ?_)
      · refine b_run [(116, .aload_n 0, 0, 0, .null), (117, .aload_n 2, 0, 0, .null), (118, .iload_n 3, 0, 0, .null), (119, .aload 4, 0, 0, .null), (121, .iload 5, 0, 0, .null)] (pc' := 123) (ls' := [some (.ref 1313), some (.int y1), some (.ref y2), some (.int y3), some (.ref y4), some (.int y5), some (.int y6)]) (st' := [.int y5, .ref y4, .int y3, .ref y2, .ref 1313]) (by decide +kernel) rfl ?_
        refine b_callI 77 5 [.ref 1313, .ref y2, .int y3, .ref y4, .int y5] (rest := []) (by decide +kernel) rfl rfl rfl (go_O rfl (by decide +kernel) (by decide +kernel : isO 1313 3 = true)) rfl (s77 hv F y2 y3 y4 y5 σ7 hy2 hy4) (by decide) (fun c10 σ9 => ?_)
        refine b_run [(126, .iload_n 1, 0, 0, .null), (127, .bipush 8, 0, 0, .null)] (pc' := 129) (ls' := [some (.ref 1313), some (.int y1), some (.ref y2), some (.int y3), some (.ref y4), some (.int y5), some (.int y6)]) (st' := [.int 8, .int y1, .int c10]) (by decide +kernel) rfl ?_
        refine b_icF (c := .ne) (o := 7) (t := 136) (y := 0) (w := .null) (by decide +kernel) cmp_ne (fun _ => ?_) (fun _ => ?_)
        · refine b_run [(132, .iconst 1, 0, 0, .null), (133, .goto 4, 137, 0, .null)] (pc' := 137) (ls' := [some (.ref 1313), some (.int y1), some (.ref y2), some (.int y3), some (.ref y4), some (.int y5), some (.int y6)]) (st' := [.int 1, .int c10]) (by decide +kernel) rfl ?_
          refine b_icF (c := .ne) (o := 7) (t := 144) (y := 0) (w := .null) (by decide +kernel) cmp_ne (fun _ => ?_) (fun _ => ?_)
          · refine b_run [(140, .iconst 1, 0, 0, .null), (141, .goto 4, 145, 0, .null)] (pc' := 145) (ls' := [some (.ref 1313), some (.int y1), some (.ref y2), some (.int y3), some (.ref y4), some (.int y5), some (.int y6)]) (st' := [.int 1]) (by decide +kernel) rfl ?_
            exact b_ret (i := (.ireturn, 0, 0, .null)) (by decide +kernel) rfl rfl (by decide +kernel)
          · refine b_run [(144, .iconst 0, 0, 0, .null)] (pc' := 145) (ls' := [some (.ref 1313), some (.int y1), some (.ref y2), some (.int y3), some (.ref y4), some (.int y5), some (.int y6)]) (st' := [.int 0]) (by decide +kernel) rfl ?_
            exact b_ret (i := (.ireturn, 0, 0, .null)) (by decide +kernel) rfl rfl (by decide +kernel)
        · refine b_run [(136, .iconst 0, 0, 0, .null)] (pc' := 137) (ls' := [some (.ref 1313), some (.int y1), some (.ref y2), some (.int y3), some (.ref y4), some (.int y5), some (.int y6)]) (st' := [.int 0, .int c10]) (by decide +kernel) rfl ?_
          refine b_icF (c := .ne) (o := 7) (t := 144) (y := 0) (w := .null) (by decide +kernel) cmp_ne (fun _ => ?_) (fun _ => ?_)
          · refine b_run [(140, .iconst 1, 0, 0, .null), (141, .goto 4, 145, 0, .null)] (pc' := 145) (ls' := [some (.ref 1313), some (.int y1), some (.ref y2), some (.int y3), some (.ref y4), some (.int y5), some (.int y6)]) (st' := [.int 1]) (by decide +kernel) rfl ?_
            exact b_ret (i := (.ireturn, 0, 0, .null)) (by decide +kernel) rfl rfl (by decide +kernel)
          · refine b_run [(144, .iconst 0, 0, 0, .null)] (pc' := 145) (ls' := [some (.ref 1313), some (.int y1), some (.ref y2), some (.int y3), some (.ref y4), some (.int y5), some (.int y6)]) (st' := [.int 0]) (by decide +kernel) rfl ?_
            exact b_ret (i := (.ireturn, 0, 0, .null)) (by decide +kernel) rfl rfl (by decide +kernel)
      · exact b_wk (wS (wS (wS (wS (wS (wS (wN w0))))))) (s76_96 hv F y1 y2 y3 y4 y5 σ7 hy2 hy4)
    · exact b_wk (wS (wS (wS (wS (wS (wS (wN w0))))))) (s76_96 hv F y1 y2 y3 y4 y5 σ5 hy2 hy4)
  · exact b_wk (wS (wS (wS (wS (wS (wS (wN w0))))))) (s76_96 hv F y1 y2 y3 y4 y5 σ hy2 hy4)
def f76_56 (F : Nat) (y1 : Int32) (z0 : Int32) (σ : St) : Rs := if y1 = 8 then 
    if z0 = 1 then oI 1 σ
    else oI 0 σ
    else if z0 = 0 then oI 1 σ
    else oI 0 σ
theorem s76_56 {sc : aSc} (hv : vOk sc) (F : Nat) (y1 : Int32) (z0 : Int32) (σ : St) : bEx sc 3 76 56 [none, some (.int y1), none, none, none, none, none] [.int z0] σ (f76_56 F y1 z0 σ) := by
  unfold f76_56
  refine b_run [(56, .iload_n 1, 0, 0, .null), (57, .bipush 8, 0, 0, .null)] (pc' := 59) (ls' := [none, some (.int y1), none, none, none, none, none]) (st' := [.int 8, .int y1, .int z0]) (by decide +kernel) rfl ?_
  refine b_icF (c := .ne) (o := 7) (t := 66) (y := 0) (w := .null) (by decide +kernel) cmp_ne (fun _ => ?_) (fun _ => ?_)
  · refine b_run [(62, .iconst 1, 0, 0, .null), (63, .goto 4, 67, 0, .null)] (pc' := 67) (ls' := [none, some (.int y1), none, none, none, none, none]) (st' := [.int 1, .int z0]) (by decide +kernel) rfl ?_
    refine b_icF (c := .ne) (o := 7) (t := 74) (y := 0) (w := .null) (by decide +kernel) cmp_ne (fun _ => ?_) (fun _ => ?_)
    · refine b_run [(70, .iconst 1, 0, 0, .null), (71, .goto 4, 75, 0, .null)] (pc' := 75) (ls' := [none, some (.int y1), none, none, none, none, none]) (st' := [.int 1]) (by decide +kernel) rfl ?_
      exact b_ret (i := (.ireturn, 0, 0, .null)) (by decide +kernel) rfl rfl (by decide +kernel)
    · refine b_run [(74, .iconst 0, 0, 0, .null)] (pc' := 75) (ls' := [none, some (.int y1), none, none, none, none, none]) (st' := [.int 0]) (by decide +kernel) rfl ?_
      exact b_ret (i := (.ireturn, 0, 0, .null)) (by decide +kernel) rfl rfl (by decide +kernel)
  · refine b_run [(66, .iconst 0, 0, 0, .null)] (pc' := 67) (ls' := [none, some (.int y1), none, none, none, none, none]) (st' := [.int 0, .int z0]) (by decide +kernel) rfl ?_
    refine b_icF (c := .ne) (o := 7) (t := 74) (y := 0) (w := .null) (by decide +kernel) cmp_ne (fun _ => ?_) (fun _ => ?_)
    · refine b_run [(70, .iconst 1, 0, 0, .null), (71, .goto 4, 75, 0, .null)] (pc' := 75) (ls' := [none, some (.int y1), none, none, none, none, none]) (st' := [.int 1]) (by decide +kernel) rfl ?_
      exact b_ret (i := (.ireturn, 0, 0, .null)) (by decide +kernel) rfl rfl (by decide +kernel)
    · refine b_run [(74, .iconst 0, 0, 0, .null)] (pc' := 75) (ls' := [none, some (.int y1), none, none, none, none, none]) (st' := [.int 0]) (by decide +kernel) rfl ?_
      exact b_ret (i := (.ireturn, 0, 0, .null)) (by decide +kernel) rfl rfl (by decide +kernel)
def f76_39 (F : Nat) (y1 : Int32) (y2 : Nat) (y4 : Nat) (σ : St) : Rs := cI (f37 F y2 σ) fun c18 σ17 => 
    cI (f37 F y4 σ17) fun c20 σ19 => 
    if c18 = c20 then f76_56 F y1 1 σ19
    else f76_56 F y1 0 σ19
theorem s76_39 {sc : aSc} (hv : vOk sc) (F : Nat) (y1 : Int32) (y2 : Nat) (y4 : Nat) (σ : St) (hy2 : isO y2 1 = true) (hy4 : isO y4 1 = true) : bEx sc 3 76 39 [none, some (.int y1), some (.ref y2), none, some (.ref y4), none, none] [] σ (f76_39 F y1 y2 y4 σ) := by
  unfold f76_39
  refine b_run [(39, .aload_n 2, 0, 0, .null)] (pc' := 40) (ls' := [none, some (.int y1), some (.ref y2), none, some (.ref y4), none, none]) (st' := [.ref y2]) (by decide +kernel) rfl ?_
  refine b_callI 37 1 [.ref y2] (rest := []) (by decide +kernel) rfl rfl rfl (go_O rfl (by decide +kernel) hy2) rfl (s37 hv F y2 σ hy2) (by decide) (fun c18 σ17 => ?_)
  refine b_run [(43, .aload 4, 0, 0, .null)] (pc' := 45) (ls' := [none, some (.int y1), some (.ref y2), none, some (.ref y4), none, none]) (st' := [.ref y4, .int c18]) (by decide +kernel) rfl ?_
  refine b_callI 37 1 [.ref y4] (rest := [.int c18]) (by decide +kernel) rfl rfl rfl (go_O rfl (by decide +kernel) hy4) rfl (s37 hv F y4 σ17 hy4) (by decide) (fun c20 σ19 => ?_)
  refine b_icF (c := .ne) (o := 7) (t := 55) (y := 0) (w := .null) (by decide +kernel) cmp_ne (fun _ => ?_) (fun _ => ?_)
  · refine b_run [(51, .iconst 1, 0, 0, .null), (52, .goto 4, 56, 0, .null)] (pc' := 56) (ls' := [none, some (.int y1), some (.ref y2), none, some (.ref y4), none, none]) (st' := [.int 1]) (by decide +kernel) rfl ?_
    exact b_wk (wN (wS (wN (wN (wN (wN (wN w0))))))) (s76_56 hv F y1 1 σ19)
  · refine b_run [(55, .iconst 0, 0, 0, .null)] (pc' := 56) (ls' := [none, some (.int y1), some (.ref y2), none, some (.ref y4), none, none]) (st' := [.int 0]) (by decide +kernel) rfl ?_
    exact b_wk (wN (wS (wN (wN (wN (wN (wN w0))))))) (s76_56 hv F y1 0 σ19)
