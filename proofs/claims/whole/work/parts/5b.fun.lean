def f112_122 (F : Nat) (g118 : Int32 → St → Rs) : Nat → Int32 → Int32 → Int32 → Int32 → St → Rs
  | 0, _, _, _, _, _ => none
  | n + 1, y1, y2, y3, y4, σ => if y4 < 120 then 
    lt (σ.1 1029 2) fun c24 => 
    lt (σ.1 1001 1) fun c25 => 
    if c24 < c25 then 
    lt (σ.1 1029 2) fun c26 => 
    cI (f94 F 1001 c26 29 σ) fun c28 σ27 => 
    if c28 = 0 then cV (g118 (y1 + 1) σ27) fun σ29 => f112_122 F g118 n y1 y2 y3 (y4 + 1) σ29
    else cV (f120 F y2 y3 σ27) fun σ31 => oV σ31
    else cV (f120 F y2 y3 σ) fun σ33 => oV σ33
    else cV (f120 F y2 y3 σ) fun σ35 => oV σ35
theorem s112_122 {sc : aSc} (hv : vOk sc) (F : Nat) (hr : Nat) (h20 : 20 ≤ hr) (g118 : Int32 → St → Rs) (hg118 : ∀ x1 σ, bEx sc hr 118 0 [some (.ref 1029), some (.int x1)] [] σ (g118 x1 σ)) : ∀ (n : Nat) (y1 : Int32) (y2 : Int32) (y3 : Int32) (y4 : Int32) (σ : St), bEx sc (hr + 1) 112 122 [some (.ref 1029), some (.int y1), some (.int y2), some (.int y3), some (.int y4)] [] σ (f112_122 F g118 n y1 y2 y3 y4 σ) := by
  intro n
  induction n with
  | zero => intro y1 y2 y3 y4 σ; exact b_none
  | succ n ih =>
    intro y1 y2 y3 y4 σ
    rw [f112_122.eq_2]
    refine b_run [(122, .iload 4, 0, 0, .null), (124, .bipush 120, 0, 0, .null)] (pc' := 126) (ls' := [some (.ref 1029), some (.int y1), some (.int y2), some (.int y3), some (.int y4)]) (st' := [.int 120, .int y4]) (by decide +kernel) rfl ?_
    refine b_icF (c := .ge) (o := 46) (t := 172) (y := 0) (w := .null) (by decide +kernel) cmp_ge (fun _ => ?_) (fun _ => ?_)
    · refine b_run [(129, .aload_n 0, 0, 0, .null)] (pc' := 130) (ls' := [some (.ref 1029), some (.int y1), some (.int y2), some (.int y3), some (.int y4)]) (st' := [.ref 1029]) (by decide +kernel) rfl ?_
      refine b_gI (q := 19) (ci := 7) (k := 2) (w := .null) (by decide +kernel) (by decide +kernel) (fun c24 => ?_)
      refine b_run [(133, .aload_n 0, 0, 0, .null)] (pc' := 134) (ls' := [some (.ref 1029), some (.int y1), some (.int y2), some (.int y3), some (.int y4)]) (st' := [.ref 1029, .int c24]) (by decide +kernel) rfl ?_
      refine b_getC (b := 1001) (q := 9) (ci := 7) (k := 0) (w := .null) (by decide +kernel) (by decide +kernel) ?_
      refine b_gI (q := 51) (ci := 5) (k := 1) (w := .null) (by decide +kernel) (by decide +kernel) (fun c25 => ?_)
      refine b_icF (c := .ge) (o := 32) (t := 172) (y := 0) (w := .null) (by decide +kernel) cmp_ge (fun _ => ?_) (fun _ => ?_)
      · refine b_run [(143, .aload_n 0, 0, 0, .null)] (pc' := 144) (ls' := [some (.ref 1029), some (.int y1), some (.int y2), some (.int y3), some (.int y4)]) (st' := [.ref 1029]) (by decide +kernel) rfl ?_
        refine b_getC (b := 1001) (q := 9) (ci := 7) (k := 0) (w := .null) (by decide +kernel) (by decide +kernel) ?_
        refine b_run [(147, .aload_n 0, 0, 0, .null)] (pc' := 148) (ls' := [some (.ref 1029), some (.int y1), some (.int y2), some (.int y3), some (.int y4)]) (st' := [.ref 1029, .ref 1001]) (by decide +kernel) rfl ?_
        refine b_gI (q := 19) (ci := 7) (k := 2) (w := .null) (by decide +kernel) (by decide +kernel) (fun c26 => ?_)
        refine b_run [(151, .ldc 117, 0, 28, .ref 29)] (pc' := 153) (ls' := [some (.ref 1029), some (.int y1), some (.int y2), some (.int y3), some (.int y4)]) (st' := [.ref 29, .int c26, .ref 1001]) (by decide +kernel) rfl ?_
        refine b_callI 94 3 [.ref 1001, .int c26, .ref 29] (rest := []) (by decide +kernel) rfl rfl rfl (go_O rfl (by decide +kernel) (by decide +kernel : isO 1001 5 = true)) rfl (s94 hv F 1001 c26 29 σ (by decide +kernel : isO 1001 5 = true) (by decide +kernel : isS 29 = true)) (by omega) (fun c28 σ27 => ?_)
        refine b_izF (c := .ne) (o := 16) (t := 172) (y := 0) (w := .null) (by decide +kernel) cmp_ne (fun _ => ?_) (fun _ => ?_)
        · refine b_run [(159, .aload_n 0, 0, 0, .null), (160, .iload_n 1, 0, 0, .null), (161, .iconst 1, 0, 0, .null), (162, .iadd, 0, 0, .null)] (pc' := 163) (ls' := [some (.ref 1029), some (.int y1), some (.int y2), some (.int y3), some (.int y4)]) (st' := [.int (y1 + 1), .ref 1029]) (by decide +kernel) rfl ?_
          refine b_callV 118 2 [.ref 1029, .int (y1 + 1)] (rest := []) (by decide +kernel) rfl rfl rfl (go_O rfl (by decide +kernel) (by decide +kernel : isO 1029 7 = true)) rfl (hg118 (y1 + 1) σ27) (by omega) (fun σ29 => ?_)
          refine b_run [(166, .iinc 4 1, 0, 0, .null), (169, .goto (-47), 122, 0, .null)] (pc' := 122) (ls' := [some (.ref 1029), some (.int y1), some (.int y2), some (.int y3), some (.int (y4 + 1))]) (st' := []) (by decide +kernel) rfl ?_
          exact b_wk (wS (wS (wS (wS (wS w0))))) (ih y1 y2 y3 (y4 + 1) σ29)
        · refine b_run [(172, .aload_n 0, 0, 0, .null), (173, .iload_n 2, 0, 0, .null), (174, .iload_n 3, 0, 0, .null)] (pc' := 175) (ls' := [some (.ref 1029), some (.int y1), some (.int y2), some (.int y3), some (.int y4)]) (st' := [.int y3, .int y2, .ref 1029]) (by decide +kernel) rfl ?_
          refine b_callV 120 3 [.ref 1029, .int y2, .int y3] (rest := []) (by decide +kernel) rfl rfl rfl (go_O rfl (by decide +kernel) (by decide +kernel : isO 1029 7 = true)) rfl (s120 hv F y2 y3 σ27) (by omega) (fun σ31 => ?_)
          exact b_ret0 (i := (.return_, 0, 0, .null)) (by decide +kernel) rfl rfl
      · refine b_run [(172, .aload_n 0, 0, 0, .null), (173, .iload_n 2, 0, 0, .null), (174, .iload_n 3, 0, 0, .null)] (pc' := 175) (ls' := [some (.ref 1029), some (.int y1), some (.int y2), some (.int y3), some (.int y4)]) (st' := [.int y3, .int y2, .ref 1029]) (by decide +kernel) rfl ?_
        refine b_callV 120 3 [.ref 1029, .int y2, .int y3] (rest := []) (by decide +kernel) rfl rfl rfl (go_O rfl (by decide +kernel) (by decide +kernel : isO 1029 7 = true)) rfl (s120 hv F y2 y3 σ) (by omega) (fun σ33 => ?_)
        exact b_ret0 (i := (.return_, 0, 0, .null)) (by decide +kernel) rfl rfl
    · refine b_run [(172, .aload_n 0, 0, 0, .null), (173, .iload_n 2, 0, 0, .null), (174, .iload_n 3, 0, 0, .null)] (pc' := 175) (ls' := [some (.ref 1029), some (.int y1), some (.int y2), some (.int y3), some (.int y4)]) (st' := [.int y3, .int y2, .ref 1029]) (by decide +kernel) rfl ?_
      refine b_callV 120 3 [.ref 1029, .int y2, .int y3] (rest := []) (by decide +kernel) rfl rfl rfl (go_O rfl (by decide +kernel) (by decide +kernel : isO 1029 7 = true)) rfl (s120 hv F y2 y3 σ) (by omega) (fun σ35 => ?_)
      exact b_ret0 (i := (.return_, 0, 0, .null)) (by decide +kernel) rfl rfl
/-- TreeStore$TextReader.readElement(I)V -/
def f112 (F : Nat) (g118 : Int32 → St → Rs) (x1 : Int32) (σ : St) : Rs := cV (f110 F 60 σ) fun σ1 => 
    lt (σ1.1 1029 2) fun c3 => 
    cI (f113 F σ1) fun c5 σ4 => 
    if 8 < x1 then oT 11 σ4
    else cV (f111 F σ4) fun σ6 => 
    lt (σ6.1 1027 1) fun c8 => 
    cV (f95 F 1027 c8 1001 c3 c5 σ6) fun σ9 => 
    cV (f124 F 1016 1 x1 c5 0 σ9) fun σ11 => 
    cV (f114 F (x1 + 1) σ11) fun σ13 => 
    lt (σ13.1 1029 2) fun c15 => 
    cI (f92 F 1001 c15 σ13) fun c17 σ16 => 
    if c17 = 47 then lt (σ16.1 1029 2) fun c18 => lt (uI σ16 1029 2 (c18 + 1)) fun σ19 => cV (f110 F 62 σ19) fun σ20 => oV σ20
    else cV (f110 F 62 σ16) fun σ22 => f112_122 F g118 F x1 c3 c5 0 σ22
theorem s112 {sc : aSc} (hv : vOk sc) (F : Nat) (hr : Nat) (h20 : 20 ≤ hr) (g118 : Int32 → St → Rs) (hg118 : ∀ x1 σ, bEx sc hr 118 0 [some (.ref 1029), some (.int x1)] [] σ (g118 x1 σ)) (x1 : Int32) (σ : St) : bEx sc (hr + 1) 112 0 [some (.ref 1029), some (.int x1), none, none, none] [] σ (f112 F g118 x1 σ) := by
  unfold f112
  refine b_run [(0, .aload_n 0, 0, 0, .null), (1, .bipush 60, 0, 0, .null)] (pc' := 3) (ls' := [some (.ref 1029), some (.int x1), none, none, none]) (st' := [.int 60, .ref 1029]) (by decide +kernel) rfl ?_
  refine b_callV 110 2 [.ref 1029, .int 60] (rest := []) (by decide +kernel) rfl rfl rfl (go_O rfl (by decide +kernel) (by decide +kernel : isO 1029 7 = true)) rfl (s110 hv F 60 σ) (by omega) (fun σ1 => ?_)
  refine b_run [(6, .aload_n 0, 0, 0, .null)] (pc' := 7) (ls' := [some (.ref 1029), some (.int x1), none, none, none]) (st' := [.ref 1029]) (by decide +kernel) rfl ?_
  refine b_gI (q := 19) (ci := 7) (k := 2) (w := .null) (by decide +kernel) (by decide +kernel) (fun c3 => ?_)
  refine b_run [(10, .istore_n 2, 0, 0, .null), (11, .aload_n 0, 0, 0, .null)] (pc' := 12) (ls' := [some (.ref 1029), some (.int x1), some (.int c3), none, none]) (st' := [.ref 1029]) (by decide +kernel) rfl ?_
  refine b_callI 113 1 [.ref 1029] (rest := []) (by decide +kernel) rfl rfl rfl (go_O rfl (by decide +kernel) (by decide +kernel : isO 1029 7 = true)) rfl (s113 hv F σ1) (by omega) (fun c5 σ4 => ?_)
  refine b_run [(15, .istore_n 3, 0, 0, .null), (16, .iload_n 1, 0, 0, .null), (17, .bipush 8, 0, 0, .null)] (pc' := 19) (ls' := [some (.ref 1029), some (.int x1), some (.int c3), some (.int c5), none]) (st' := [.int 8, .int x1]) (by decide +kernel) rfl ?_
  refine b_icF (c := .le) (o := 13) (t := 32) (y := 0) (w := .null) (by decide +kernel) cmp_le (fun _ => ?_) (fun _ => ?_)
  · exact b_thr (i := (.new 99, 11, 1, .null)) (by decide +kernel) rfl rfl rfl
  · refine b_run [(32, .aload_n 0, 0, 0, .null)] (pc' := 33) (ls' := [some (.ref 1029), some (.int x1), some (.int c3), some (.int c5), none]) (st' := [.ref 1029]) (by decide +kernel) rfl ?_
    refine b_callV 111 1 [.ref 1029] (rest := []) (by decide +kernel) rfl rfl rfl (go_O rfl (by decide +kernel) (by decide +kernel : isO 1029 7 = true)) rfl (s111 hv F σ4) (by omega) (fun σ6 => ?_)
    refine b_run [(36, .aload_n 0, 0, 0, .null)] (pc' := 37) (ls' := [some (.ref 1029), some (.int x1), some (.int c3), some (.int c5), none]) (st' := [.ref 1029]) (by decide +kernel) rfl ?_
    refine b_getC (b := 1016) (q := 15) (ci := 7) (k := 1) (w := .null) (by decide +kernel) (by decide +kernel) ?_
    refine b_getC (b := 1027) (q := 107) (ci := 8) (k := 9) (w := .null) (by decide +kernel) (by decide +kernel) ?_
    refine b_run [(43, .aload_n 0, 0, 0, .null)] (pc' := 44) (ls' := [some (.ref 1029), some (.int x1), some (.int c3), some (.int c5), none]) (st' := [.ref 1029, .ref 1027]) (by decide +kernel) rfl ?_
    refine b_getC (b := 1016) (q := 15) (ci := 7) (k := 1) (w := .null) (by decide +kernel) (by decide +kernel) ?_
    refine b_getC (b := 1027) (q := 107) (ci := 8) (k := 9) (w := .null) (by decide +kernel) (by decide +kernel) ?_
    refine b_gI (q := 51) (ci := 5) (k := 1) (w := .null) (by decide +kernel) (by decide +kernel) (fun c8 => ?_)
    refine b_run [(53, .aload_n 0, 0, 0, .null)] (pc' := 54) (ls' := [some (.ref 1029), some (.int x1), some (.int c3), some (.int c5), none]) (st' := [.ref 1029, .int c8, .ref 1027]) (by decide +kernel) rfl ?_
    refine b_getC (b := 1001) (q := 9) (ci := 7) (k := 0) (w := .null) (by decide +kernel) (by decide +kernel) ?_
    refine b_run [(57, .iload_n 2, 0, 0, .null), (58, .iload_n 3, 0, 0, .null)] (pc' := 59) (ls' := [some (.ref 1029), some (.int x1), some (.int c3), some (.int c5), none]) (st' := [.int c5, .int c3, .ref 1001, .int c8, .ref 1027]) (by decide +kernel) rfl ?_
    refine b_callV 95 5 [.ref 1027, .int c8, .ref 1001, .int c3, .int c5] (rest := []) (by decide +kernel) rfl rfl rfl (go_O rfl (by decide +kernel) (by decide +kernel : isO 1027 5 = true)) rfl (s95 hv F 1027 c8 1001 c3 c5 σ6 (by decide +kernel : isO 1027 5 = true) (by decide +kernel : isO 1001 5 = true)) (by omega) (fun σ9 => ?_)
    refine b_run [(62, .aload_n 0, 0, 0, .null)] (pc' := 63) (ls' := [some (.ref 1029), some (.int x1), some (.int c3), some (.int c5), none]) (st' := [.ref 1029]) (by decide +kernel) rfl ?_
    refine b_getC (b := 1016) (q := 15) (ci := 7) (k := 1) (w := .null) (by decide +kernel) (by decide +kernel) ?_
    refine b_run [(66, .iconst 1, 0, 0, .null), (67, .iload_n 1, 0, 0, .null), (68, .iload_n 3, 0, 0, .null), (69, .iconst 0, 0, 0, .null)] (pc' := 70) (ls' := [some (.ref 1029), some (.int x1), some (.int c3), some (.int c5), none]) (st' := [.int 0, .int c5, .int x1, .int 1, .ref 1016]) (by decide +kernel) rfl ?_
    refine b_callV 124 5 [.ref 1016, .int 1, .int x1, .int c5, .int 0] (rest := []) (by decide +kernel) rfl rfl rfl (go_O rfl (by decide +kernel) (by decide +kernel : isO 1016 8 = true)) rfl (s124 hv F 1016 1 x1 c5 0 σ9 (by decide +kernel : isO 1016 8 = true)) (by omega) (fun σ11 => ?_)
    refine b_run [(73, .aload_n 0, 0, 0, .null), (74, .iload_n 1, 0, 0, .null), (75, .iconst 1, 0, 0, .null), (76, .iadd, 0, 0, .null)] (pc' := 77) (ls' := [some (.ref 1029), some (.int x1), some (.int c3), some (.int c5), none]) (st' := [.int (x1 + 1), .ref 1029]) (by decide +kernel) rfl ?_
    refine b_callV 114 2 [.ref 1029, .int (x1 + 1)] (rest := []) (by decide +kernel) rfl rfl rfl (go_O rfl (by decide +kernel) (by decide +kernel : isO 1029 7 = true)) rfl (s114 hv F (x1 + 1) σ11) (by omega) (fun σ13 => ?_)
    refine b_run [(80, .aload_n 0, 0, 0, .null)] (pc' := 81) (ls' := [some (.ref 1029), some (.int x1), some (.int c3), some (.int c5), none]) (st' := [.ref 1029]) (by decide +kernel) rfl ?_
    refine b_getC (b := 1001) (q := 9) (ci := 7) (k := 0) (w := .null) (by decide +kernel) (by decide +kernel) ?_
    refine b_run [(84, .aload_n 0, 0, 0, .null)] (pc' := 85) (ls' := [some (.ref 1029), some (.int x1), some (.int c3), some (.int c5), none]) (st' := [.ref 1029, .ref 1001]) (by decide +kernel) rfl ?_
    refine b_gI (q := 19) (ci := 7) (k := 2) (w := .null) (by decide +kernel) (by decide +kernel) (fun c15 => ?_)
    refine b_callI 92 2 [.ref 1001, .int c15] (rest := []) (by decide +kernel) rfl rfl rfl (go_O rfl (by decide +kernel) (by decide +kernel : isO 1001 5 = true)) rfl (s92 hv F 1001 c15 σ13 (by decide +kernel : isO 1001 5 = true)) (by omega) (fun c17 σ16 => ?_)
    refine b_run [(91, .bipush 47, 0, 0, .null)] (pc' := 93) (ls' := [some (.ref 1029), some (.int x1), some (.int c3), some (.int c5), none]) (st' := [.int 47, .int c17]) (by decide +kernel) rfl ?_
    refine b_icF (c := .ne) (o := 20) (t := 113) (y := 0) (w := .null) (by decide +kernel) cmp_ne (fun _ => ?_) (fun _ => ?_)
    · refine b_run [(96, .aload_n 0, 0, 0, .null), (97, .dup, 0, 0, .null)] (pc' := 98) (ls' := [some (.ref 1029), some (.int x1), some (.int c3), some (.int c5), none]) (st' := [.ref 1029, .ref 1029]) (by decide +kernel) rfl ?_
      refine b_gI (q := 19) (ci := 7) (k := 2) (w := .null) (by decide +kernel) (by decide +kernel) (fun c18 => ?_)
      refine b_run [(101, .iconst 1, 0, 0, .null), (102, .iadd, 0, 0, .null)] (pc' := 103) (ls' := [some (.ref 1029), some (.int x1), some (.int c3), some (.int c5), none]) (st' := [.int (c18 + 1), .ref 1029]) (by decide +kernel) rfl ?_
      refine b_pI (q := 19) (ci := 7) (k := 2) (w := .null) (by decide +kernel) (by decide +kernel) (fit_I _) (fun σ19 => ?_)
      refine b_run [(106, .aload_n 0, 0, 0, .null), (107, .bipush 62, 0, 0, .null)] (pc' := 109) (ls' := [some (.ref 1029), some (.int x1), some (.int c3), some (.int c5), none]) (st' := [.int 62, .ref 1029]) (by decide +kernel) rfl ?_
      refine b_callV 110 2 [.ref 1029, .int 62] (rest := []) (by decide +kernel) rfl rfl rfl (go_O rfl (by decide +kernel) (by decide +kernel : isO 1029 7 = true)) rfl (s110 hv F 62 σ19) (by omega) (fun σ20 => ?_)
      exact b_ret0 (i := (.return_, 0, 0, .null)) (by decide +kernel) rfl rfl
    · refine b_run [(113, .aload_n 0, 0, 0, .null), (114, .bipush 62, 0, 0, .null)] (pc' := 116) (ls' := [some (.ref 1029), some (.int x1), some (.int c3), some (.int c5), none]) (st' := [.int 62, .ref 1029]) (by decide +kernel) rfl ?_
      refine b_callV 110 2 [.ref 1029, .int 62] (rest := []) (by decide +kernel) rfl rfl rfl (go_O rfl (by decide +kernel) (by decide +kernel : isO 1029 7 = true)) rfl (s110 hv F 62 σ16) (by omega) (fun σ22 => ?_)
      refine b_run [(119, .iconst 0, 0, 0, .null), (120, .istore 4, 0, 0, .null)] (pc' := 122) (ls' := [some (.ref 1029), some (.int x1), some (.int c3), some (.int c5), some (.int 0)]) (st' := []) (by decide +kernel) rfl ?_
      exact b_wk (wS (wS (wS (wS (wS w0))))) (s112_122 hv F hr h20 g118 hg118 F x1 c3 c5 0 σ22)
/-- TreeStore$TextReader.readPart(I)V -/
def f118 (F : Nat) (g118 : Int32 → St → Rs) (x1 : Int32) (σ : St) : Rs := lt (σ.1 1029 2) fun c1 => 
    cI (f92 F 1001 c1 σ) fun c3 σ2 => 
    if c3 = 60 then 
    cI (f108 F σ2) fun c5 σ4 => 
    if c5 = 0 then cV (f112 F g118 x1 σ4) fun σ6 => oV σ6
    else cV (f109 F x1 σ4) fun σ8 => oV σ8
    else cV (f119 F x1 σ2) fun σ10 => oV σ10
theorem s118 {sc : aSc} (hv : vOk sc) (F : Nat) (hr : Nat) (h20 : 20 ≤ hr) (g118 : Int32 → St → Rs) (hg118 : ∀ x1 σ, bEx sc hr 118 0 [some (.ref 1029), some (.int x1)] [] σ (g118 x1 σ)) (x1 : Int32) (σ : St) : bEx sc (hr + 2) 118 0 [some (.ref 1029), some (.int x1)] [] σ (f118 F g118 x1 σ) := by
  unfold f118
  refine b_run [(0, .aload_n 0, 0, 0, .null)] (pc' := 1) (ls' := [some (.ref 1029), some (.int x1)]) (st' := [.ref 1029]) (by decide +kernel) rfl ?_
  refine b_getC (b := 1001) (q := 9) (ci := 7) (k := 0) (w := .null) (by decide +kernel) (by decide +kernel) ?_
  refine b_run [(4, .aload_n 0, 0, 0, .null)] (pc' := 5) (ls' := [some (.ref 1029), some (.int x1)]) (st' := [.ref 1029, .ref 1001]) (by decide +kernel) rfl ?_
  refine b_gI (q := 19) (ci := 7) (k := 2) (w := .null) (by decide +kernel) (by decide +kernel) (fun c1 => ?_)
  refine b_callI 92 2 [.ref 1001, .int c1] (rest := []) (by decide +kernel) rfl rfl rfl (go_O rfl (by decide +kernel) (by decide +kernel : isO 1001 5 = true)) rfl (s92 hv F 1001 c1 σ (by decide +kernel : isO 1001 5 = true)) (by omega) (fun c3 σ2 => ?_)
  refine b_run [(11, .bipush 60, 0, 0, .null)] (pc' := 13) (ls' := [some (.ref 1029), some (.int x1)]) (st' := [.int 60, .int c3]) (by decide +kernel) rfl ?_
  refine b_icT (c := .eq) (o := 11) (t := 24) (y := 0) (w := .null) (by decide +kernel) cmp_eq (fun _ => ?_) (fun _ => ?_)
  · refine b_run [(24, .aload_n 0, 0, 0, .null)] (pc' := 25) (ls' := [some (.ref 1029), some (.int x1)]) (st' := [.ref 1029]) (by decide +kernel) rfl ?_
    refine b_callI 108 1 [.ref 1029] (rest := []) (by decide +kernel) rfl rfl rfl (go_O rfl (by decide +kernel) (by decide +kernel : isO 1029 7 = true)) rfl (s108 hv F σ2) (by omega) (fun c5 σ4 => ?_)
    refine b_izT (c := .eq) (o := 11) (t := 39) (y := 0) (w := .null) (by decide +kernel) cmp_eq (fun _ => ?_) (fun _ => ?_)
    · refine b_run [(39, .aload_n 0, 0, 0, .null), (40, .iload_n 1, 0, 0, .null)] (pc' := 41) (ls' := [some (.ref 1029), some (.int x1)]) (st' := [.int x1, .ref 1029]) (by decide +kernel) rfl ?_
      refine b_callV 112 2 [.ref 1029, .int x1] (rest := []) (by decide +kernel) rfl rfl rfl (go_O rfl (by decide +kernel) (by decide +kernel : isO 1029 7 = true)) rfl (s112 hv F hr h20 g118 hg118 x1 σ4) (by omega) (fun σ6 => ?_)
      exact b_ret0 (i := (.return_, 0, 0, .null)) (by decide +kernel) rfl rfl
    · refine b_run [(31, .aload_n 0, 0, 0, .null), (32, .iload_n 1, 0, 0, .null)] (pc' := 33) (ls' := [some (.ref 1029), some (.int x1)]) (st' := [.int x1, .ref 1029]) (by decide +kernel) rfl ?_
      refine b_callV 109 2 [.ref 1029, .int x1] (rest := []) (by decide +kernel) rfl rfl rfl (go_O rfl (by decide +kernel) (by decide +kernel : isO 1029 7 = true)) rfl (s109 hv F x1 σ4) (by omega) (fun σ8 => ?_)
      refine b_run [(36, .goto 8, 44, 0, .null)] (pc' := 44) (ls' := [some (.ref 1029), some (.int x1)]) (st' := []) (by decide +kernel) rfl ?_
      exact b_ret0 (i := (.return_, 0, 0, .null)) (by decide +kernel) rfl rfl
  · refine b_run [(16, .aload_n 0, 0, 0, .null), (17, .iload_n 1, 0, 0, .null)] (pc' := 18) (ls' := [some (.ref 1029), some (.int x1)]) (st' := [.int x1, .ref 1029]) (by decide +kernel) rfl ?_
    refine b_callV 119 2 [.ref 1029, .int x1] (rest := []) (by decide +kernel) rfl rfl rfl (go_O rfl (by decide +kernel) (by decide +kernel : isO 1029 7 = true)) rfl (s119 hv F x1 σ2) (by omega) (fun σ10 => ?_)
    refine b_run [(21, .goto 23, 44, 0, .null)] (pc' := 44) (ls' := [some (.ref 1029), some (.int x1)]) (st' := []) (by decide +kernel) rfl ?_
    exact b_ret0 (i := (.return_, 0, 0, .null)) (by decide +kernel) rfl rfl
def r118 (F : Nat) : Nat → Int32 → St → Rs
  | 0, _, _ => none
  | e + 1, x1, σ => f118 F (r118 F e) x1 σ
theorem t118 {sc : aSc} (hv : vOk sc) (F : Nat) : ∀ (e : Nat) (x1 : Int32) (σ : St), bEx sc (20 + 2 * e) 118 0 [some (.ref 1029), some (.int x1)] [] σ (r118 F e x1 σ) := by
  intro e
  induction e with
  | zero => intros; exact b_none
  | succ e ih =>
    intro x1 σ
    rw [r118.eq_2]
    exact b_up (by omega) (s118 hv F (20 + 2 * e) (by omega) (r118 F e) ih x1 σ)
/-- TreeStore$TextReader.expectEnd()V -/
def f121 (F : Nat) (σ : St) : Rs := lt (σ.1 1029 2) fun c1 => 
    lt (σ.1 1001 1) fun c2 => 
    if c1 < c2 then oT 10 σ
    else oV σ
theorem s121 {sc : aSc} (hv : vOk sc) (F : Nat) (σ : St) : bEx sc 0 121 0 [some (.ref 1029)] [] σ (f121 F σ) := by
  unfold f121
  refine b_run [(0, .aload_n 0, 0, 0, .null)] (pc' := 1) (ls' := [some (.ref 1029)]) (st' := [.ref 1029]) (by decide +kernel) rfl ?_
  refine b_gI (q := 19) (ci := 7) (k := 2) (w := .null) (by decide +kernel) (by decide +kernel) (fun c1 => ?_)
  refine b_run [(4, .aload_n 0, 0, 0, .null)] (pc' := 5) (ls' := [some (.ref 1029)]) (st' := [.ref 1029, .int c1]) (by decide +kernel) rfl ?_
  refine b_getC (b := 1001) (q := 9) (ci := 7) (k := 0) (w := .null) (by decide +kernel) (by decide +kernel) ?_
  refine b_gI (q := 51) (ci := 5) (k := 1) (w := .null) (by decide +kernel) (by decide +kernel) (fun c2 => ?_)
  refine b_icF (c := .ge) (o := 13) (t := 24) (y := 0) (w := .null) (by decide +kernel) cmp_ge (fun _ => ?_) (fun _ => ?_)
  · exact b_thr (i := (.new 127, 10, 1, .null)) (by decide +kernel) rfl rfl rfl
  · exact b_ret0 (i := (.return_, 0, 0, .null)) (by decide +kernel) rfl rfl
/-- TreeStore$TextReader.readDocument()V -/
def f105 (F : Nat) (σ : St) : Rs := cV (f106 F 30 σ) fun σ1 => 
    cV (f124 F 1016 0 0 0 0 σ1) fun σ3 => 
    cV (f107 F σ3) fun σ5 => cV (f112 F (r118 F 12) 1 σ5) fun σ7 => cV (f107 F σ7) fun σ9 => cV (f121 F σ9) fun σ11 => oV σ11
theorem s105 {sc : aSc} (hv : vOk sc) (F : Nat) (σ : St) : bEx sc 46 105 0 [some (.ref 1029)] [] σ (f105 F σ) := by
  unfold f105
  refine b_run [(0, .aload_n 0, 0, 0, .null), (1, .bipush 30, 0, 0, .null)] (pc' := 3) (ls' := [some (.ref 1029)]) (st' := [.int 30, .ref 1029]) (by decide +kernel) rfl ?_
  refine b_callV 106 2 [.ref 1029, .int 30] (rest := []) (by decide +kernel) rfl rfl rfl (go_O rfl (by decide +kernel) (by decide +kernel : isO 1029 7 = true)) rfl (s106 hv F 30 σ) (by decide) (fun σ1 => ?_)
  refine b_run [(6, .aload_n 0, 0, 0, .null)] (pc' := 7) (ls' := [some (.ref 1029)]) (st' := [.ref 1029]) (by decide +kernel) rfl ?_
  refine b_getC (b := 1016) (q := 15) (ci := 7) (k := 1) (w := .null) (by decide +kernel) (by decide +kernel) ?_
  refine b_run [(10, .iconst 0, 0, 0, .null), (11, .iconst 0, 0, 0, .null), (12, .iconst 0, 0, 0, .null), (13, .iconst 0, 0, 0, .null)] (pc' := 14) (ls' := [some (.ref 1029)]) (st' := [.int 0, .int 0, .int 0, .int 0, .ref 1016]) (by decide +kernel) rfl ?_
  refine b_callV 124 5 [.ref 1016, .int 0, .int 0, .int 0, .int 0] (rest := []) (by decide +kernel) rfl rfl rfl (go_O rfl (by decide +kernel) (by decide +kernel : isO 1016 8 = true)) rfl (s124 hv F 1016 0 0 0 0 σ1 (by decide +kernel : isO 1016 8 = true)) (by decide) (fun σ3 => ?_)
  refine b_run [(17, .aload_n 0, 0, 0, .null)] (pc' := 18) (ls' := [some (.ref 1029)]) (st' := [.ref 1029]) (by decide +kernel) rfl ?_
  refine b_callV 107 1 [.ref 1029] (rest := []) (by decide +kernel) rfl rfl rfl (go_O rfl (by decide +kernel) (by decide +kernel : isO 1029 7 = true)) rfl (s107 hv F σ3) (by decide) (fun σ5 => ?_)
  refine b_run [(21, .aload_n 0, 0, 0, .null), (22, .iconst 1, 0, 0, .null)] (pc' := 23) (ls' := [some (.ref 1029)]) (st' := [.int 1, .ref 1029]) (by decide +kernel) rfl ?_
  refine b_callV 112 2 [.ref 1029, .int 1] (rest := []) (by decide +kernel) rfl rfl rfl (go_O rfl (by decide +kernel) (by decide +kernel : isO 1029 7 = true)) rfl (s112 hv F _ (by decide) (r118 F 12) (t118 hv F 12) 1 σ5) (by decide) (fun σ7 => ?_)
  refine b_run [(26, .aload_n 0, 0, 0, .null)] (pc' := 27) (ls' := [some (.ref 1029)]) (st' := [.ref 1029]) (by decide +kernel) rfl ?_
  refine b_callV 107 1 [.ref 1029] (rest := []) (by decide +kernel) rfl rfl rfl (go_O rfl (by decide +kernel) (by decide +kernel : isO 1029 7 = true)) rfl (s107 hv F σ7) (by decide) (fun σ9 => ?_)
  refine b_run [(30, .aload_n 0, 0, 0, .null)] (pc' := 31) (ls' := [some (.ref 1029)]) (st' := [.ref 1029]) (by decide +kernel) rfl ?_
  refine b_callV 121 1 [.ref 1029] (rest := []) (by decide +kernel) rfl rfl rfl (go_O rfl (by decide +kernel) (by decide +kernel : isO 1029 7 = true)) rfl (s121 hv F σ9) (by decide) (fun σ11 => ?_)
  exact b_ret0 (i := (.return_, 0, 0, .null)) (by decide +kernel) rfl rfl
/-- TreeStore$Tree.hasRoomFor(LTreeStore$Tree;)Z -/
def f138 (F : Nat) (x0 : Nat) (x1 : Nat) (σ : St) : Rs := lt (σ.1 x0 10) fun c1 => 
    lt (σ.1 x1 10) fun c2 => 
    if 30 < c1 + c2 then oI 0 σ
    else lt (σ.1 ((rfF x1 8)) 1) fun c3 => 
    cI (f89 F ((rfF x0 8)) c3 σ) fun c5 σ4 => 
    if c5 = 0 then oI 0 σ4
    else lt (σ4.1 ((rfF x1 9)) 1) fun c6 => 
    cI (f89 F ((rfF x0 9)) c6 σ4) fun c8 σ7 => 
    if c8 = 0 then oI 0 σ7
    else oI 1 σ7
theorem s138 {sc : aSc} (hv : vOk sc) (F : Nat) (x0 : Nat) (x1 : Nat) (σ : St) (hx0 : isO x0 8 = true) (hx1 : isO x1 8 = true) : bEx sc 1 138 0 [some (.ref x0), some (.ref x1)] [] σ (f138 F x0 x1 σ) := by
  unfold f138
  refine b_run [(0, .aload_n 0, 0, 0, .null)] (pc' := 1) (ls' := [some (.ref x0), some (.ref x1)]) (st' := [.ref x0]) (by decide +kernel) rfl ?_
  refine b_gI (q := 48) (ci := 8) (k := 10) (w := .null) (by decide +kernel) (fk_I8_10 hx0) (fun c1 => ?_)
  refine b_run [(4, .aload_n 1, 0, 0, .null)] (pc' := 5) (ls' := [some (.ref x0), some (.ref x1)]) (st' := [.ref x1, .int c1]) (by decide +kernel) rfl ?_
  refine b_gI (q := 48) (ci := 8) (k := 10) (w := .null) (by decide +kernel) (fk_I8_10 hx1) (fun c2 => ?_)
  refine b_run [(8, .iadd, 0, 0, .null), (9, .bipush 30, 0, 0, .null)] (pc' := 11) (ls' := [some (.ref x0), some (.ref x1)]) (st' := [.int 30, .int (c1 + c2)]) (by decide +kernel) rfl ?_
  refine b_icT (c := .gt) (o := 41) (t := 52) (y := 0) (w := .null) (by decide +kernel) cmp_gt (fun _ => ?_) (fun _ => ?_)
  · refine b_run [(52, .iconst 0, 0, 0, .null)] (pc' := 53) (ls' := [some (.ref x0), some (.ref x1)]) (st' := [.int 0]) (by decide +kernel) rfl ?_
    exact b_ret (i := (.ireturn, 0, 0, .null)) (by decide +kernel) rfl rfl (by decide +kernel)
  · refine b_run [(14, .aload_n 0, 0, 0, .null)] (pc' := 15) (ls' := [some (.ref x0), some (.ref x1)]) (st' := [.ref x0]) (by decide +kernel) rfl ?_
    refine b_getC (q := 41) (ci := 8) (k := 8) (w := .null) (by decide +kernel) (fk_C8_8 hx0) ?_
    refine b_run [(18, .aload_n 1, 0, 0, .null)] (pc' := 19) (ls' := [some (.ref x0), some (.ref x1)]) (st' := [.ref x1, .ref ((rfF x0 8))]) (by decide +kernel) rfl ?_
    refine b_getC (q := 41) (ci := 8) (k := 8) (w := .null) (by decide +kernel) (fk_C8_8 hx1) ?_
    refine b_gI (q := 55) (ci := 5) (k := 1) (w := .null) (by decide +kernel) (fk_I5_1 (fk_O8_8 hx1)) (fun c3 => ?_)
    refine b_callI 89 2 [.ref ((rfF x0 8)), .int c3] (rest := []) (by decide +kernel) rfl rfl rfl (go_O rfl (by decide +kernel) (fk_O8_8 hx0)) rfl (s89 hv F ((rfF x0 8)) c3 σ (fk_O8_8 hx0)) (by decide) (fun c5 σ4 => ?_)
    refine b_izT (c := .eq) (o := 24) (t := 52) (y := 0) (w := .null) (by decide +kernel) cmp_eq (fun _ => ?_) (fun _ => ?_)
    · refine b_run [(52, .iconst 0, 0, 0, .null)] (pc' := 53) (ls' := [some (.ref x0), some (.ref x1)]) (st' := [.int 0]) (by decide +kernel) rfl ?_
      exact b_ret (i := (.ireturn, 0, 0, .null)) (by decide +kernel) rfl rfl (by decide +kernel)
    · refine b_run [(31, .aload_n 0, 0, 0, .null)] (pc' := 32) (ls' := [some (.ref x0), some (.ref x1)]) (st' := [.ref x0]) (by decide +kernel) rfl ?_
      refine b_getC (q := 45) (ci := 8) (k := 9) (w := .null) (by decide +kernel) (fk_C8_9 hx0) ?_
      refine b_run [(35, .aload_n 1, 0, 0, .null)] (pc' := 36) (ls' := [some (.ref x0), some (.ref x1)]) (st' := [.ref x1, .ref ((rfF x0 9))]) (by decide +kernel) rfl ?_
      refine b_getC (q := 45) (ci := 8) (k := 9) (w := .null) (by decide +kernel) (fk_C8_9 hx1) ?_
      refine b_gI (q := 55) (ci := 5) (k := 1) (w := .null) (by decide +kernel) (fk_I5_1 (fk_O8_9 hx1)) (fun c6 => ?_)
      refine b_callI 89 2 [.ref ((rfF x0 9)), .int c6] (rest := []) (by decide +kernel) rfl rfl rfl (go_O rfl (by decide +kernel) (fk_O8_9 hx0)) rfl (s89 hv F ((rfF x0 9)) c6 σ4 (fk_O8_9 hx0)) (by decide) (fun c8 σ7 => ?_)
      refine b_izT (c := .eq) (o := 7) (t := 52) (y := 0) (w := .null) (by decide +kernel) cmp_eq (fun _ => ?_) (fun _ => ?_)
      · refine b_run [(52, .iconst 0, 0, 0, .null)] (pc' := 53) (ls' := [some (.ref x0), some (.ref x1)]) (st' := [.int 0]) (by decide +kernel) rfl ?_
        exact b_ret (i := (.ireturn, 0, 0, .null)) (by decide +kernel) rfl rfl (by decide +kernel)
      · refine b_run [(48, .iconst 1, 0, 0, .null), (49, .goto 4, 53, 0, .null)] (pc' := 53) (ls' := [some (.ref x0), some (.ref x1)]) (st' := [.int 1]) (by decide +kernel) rfl ?_
        exact b_ret (i := (.ireturn, 0, 0, .null)) (by decide +kernel) rfl rfl (by decide +kernel)
/-- TreeStore$Tree.copyNodes(LTreeStore$Tree;III)V -/
def f139 (F : Nat) (x0 : Nat) (x1 : Nat) (x2 : Int32) (x3 : Int32) (x4 : Int32) (σ : St) : Rs := if cpB x2 x3 x4 30 30 then lt (uF σ (rfF x0 0) (va_cpy (σ.1 (rfF x1 0)) (σ.1 (rfF x0 0)) x2.toNatClampNeg x3.toNatClampNeg x4.toNatClampNeg)) fun σ1 => 
    if cpB x2 x3 x4 30 30 then lt (uF σ1 (rfF x0 1) (va_cpy (σ1.1 (rfF x1 1)) (σ1.1 (rfF x0 1)) x2.toNatClampNeg x3.toNatClampNeg x4.toNatClampNeg)) fun σ2 => 
    if cpB x2 x3 x4 30 30 then lt (uF σ2 (rfF x0 2) (va_cpy (σ2.1 (rfF x1 2)) (σ2.1 (rfF x0 2)) x2.toNatClampNeg x3.toNatClampNeg x4.toNatClampNeg)) fun σ3 => 
    if cpB x2 x3 x4 30 30 then lt (uF σ3 (rfF x0 3) (va_cpy (σ3.1 (rfF x1 3)) (σ3.1 (rfF x0 3)) x2.toNatClampNeg x3.toNatClampNeg x4.toNatClampNeg)) fun σ4 => oV σ4 else none else none else none else none
theorem s139 {sc : aSc} (hv : vOk sc) (F : Nat) (x0 : Nat) (x1 : Nat) (x2 : Int32) (x3 : Int32) (x4 : Int32) (σ : St) (hx0 : isO x0 8 = true) (hx1 : isO x1 8 = true) : bEx sc 1 139 0 [some (.ref x0), some (.ref x1), some (.int x2), some (.int x3), some (.int x4)] [] σ (f139 F x0 x1 x2 x3 x4 σ) := by
  unfold f139
  refine b_run [(0, .aload_n 1, 0, 0, .null)] (pc' := 1) (ls' := [some (.ref x0), some (.ref x1), some (.int x2), some (.int x3), some (.int x4)]) (st' := [.ref x1]) (by decide +kernel) rfl ?_
  refine b_getC (q := 9) (ci := 8) (k := 0) (w := .null) (by decide +kernel) (fk_C8_0 hx1) ?_
  refine b_run [(4, .iload_n 2, 0, 0, .null), (5, .aload_n 0, 0, 0, .null)] (pc' := 6) (ls' := [some (.ref x0), some (.ref x1), some (.int x2), some (.int x3), some (.int x4)]) (st' := [.ref x0, .int x2, .ref ((rfF x1 0))]) (by decide +kernel) rfl ?_
  refine b_getC (q := 9) (ci := 8) (k := 0) (w := .null) (by decide +kernel) (fk_C8_0 hx0) ?_
  refine b_run [(9, .iload_n 3, 0, 0, .null), (10, .iload 4, 0, 0, .null)] (pc' := 12) (ls' := [some (.ref x0), some (.ref x1), some (.int x2), some (.int x3), some (.int x4)]) (st' := [.int x4, .int x3, .ref ((rfF x0 0)), .int x2, .ref ((rfF x1 0))]) (by decide +kernel) rfl ?_
  refine b_guard (fun hb => ?_)
  refine b_cp (t := 0) (rest := []) (by decide +kernel) rfl (fk_A8_0 hx1) (fk_A8_0 hx0) (by decide) hb (fun σ1 => ?_)
  refine b_run [(15, .aload_n 1, 0, 0, .null)] (pc' := 16) (ls' := [some (.ref x0), some (.ref x1), some (.int x2), some (.int x3), some (.int x4)]) (st' := [.ref x1]) (by decide +kernel) rfl ?_
  refine b_getC (q := 15) (ci := 8) (k := 1) (w := .null) (by decide +kernel) (fk_C8_1 hx1) ?_
  refine b_run [(19, .iload_n 2, 0, 0, .null), (20, .aload_n 0, 0, 0, .null)] (pc' := 21) (ls' := [some (.ref x0), some (.ref x1), some (.int x2), some (.int x3), some (.int x4)]) (st' := [.ref x0, .int x2, .ref ((rfF x1 1))]) (by decide +kernel) rfl ?_
  refine b_getC (q := 15) (ci := 8) (k := 1) (w := .null) (by decide +kernel) (fk_C8_1 hx0) ?_
  refine b_run [(24, .iload_n 3, 0, 0, .null), (25, .iload 4, 0, 0, .null)] (pc' := 27) (ls' := [some (.ref x0), some (.ref x1), some (.int x2), some (.int x3), some (.int x4)]) (st' := [.int x4, .int x3, .ref ((rfF x0 1)), .int x2, .ref ((rfF x1 1))]) (by decide +kernel) rfl ?_
  refine b_guard (fun hb => ?_)
  refine b_cp (t := 0) (rest := []) (by decide +kernel) rfl (fk_A8_1 hx1) (fk_A8_1 hx0) (by decide) hb (fun σ2 => ?_)
  refine b_run [(30, .aload_n 1, 0, 0, .null)] (pc' := 31) (ls' := [some (.ref x0), some (.ref x1), some (.int x2), some (.int x3), some (.int x4)]) (st' := [.ref x1]) (by decide +kernel) rfl ?_
  refine b_getC (q := 18) (ci := 8) (k := 2) (w := .null) (by decide +kernel) (fk_C8_2 hx1) ?_
  refine b_run [(34, .iload_n 2, 0, 0, .null), (35, .aload_n 0, 0, 0, .null)] (pc' := 36) (ls' := [some (.ref x0), some (.ref x1), some (.int x2), some (.int x3), some (.int x4)]) (st' := [.ref x0, .int x2, .ref ((rfF x1 2))]) (by decide +kernel) rfl ?_
  refine b_getC (q := 18) (ci := 8) (k := 2) (w := .null) (by decide +kernel) (fk_C8_2 hx0) ?_
  refine b_run [(39, .iload_n 3, 0, 0, .null), (40, .iload 4, 0, 0, .null)] (pc' := 42) (ls' := [some (.ref x0), some (.ref x1), some (.int x2), some (.int x3), some (.int x4)]) (st' := [.int x4, .int x3, .ref ((rfF x0 2)), .int x2, .ref ((rfF x1 2))]) (by decide +kernel) rfl ?_
  refine b_guard (fun hb => ?_)
  refine b_cp (t := 0) (rest := []) (by decide +kernel) rfl (fk_A8_2 hx1) (fk_A8_2 hx0) (by decide) hb (fun σ3 => ?_)
  refine b_run [(45, .aload_n 1, 0, 0, .null)] (pc' := 46) (ls' := [some (.ref x0), some (.ref x1), some (.int x2), some (.int x3), some (.int x4)]) (st' := [.ref x1]) (by decide +kernel) rfl ?_
  refine b_getC (q := 21) (ci := 8) (k := 3) (w := .null) (by decide +kernel) (fk_C8_3 hx1) ?_
  refine b_run [(49, .iload_n 2, 0, 0, .null), (50, .aload_n 0, 0, 0, .null)] (pc' := 51) (ls' := [some (.ref x0), some (.ref x1), some (.int x2), some (.int x3), some (.int x4)]) (st' := [.ref x0, .int x2, .ref ((rfF x1 3))]) (by decide +kernel) rfl ?_
  refine b_getC (q := 21) (ci := 8) (k := 3) (w := .null) (by decide +kernel) (fk_C8_3 hx0) ?_
  refine b_run [(54, .iload_n 3, 0, 0, .null), (55, .iload 4, 0, 0, .null)] (pc' := 57) (ls' := [some (.ref x0), some (.ref x1), some (.int x2), some (.int x3), some (.int x4)]) (st' := [.int x4, .int x3, .ref ((rfF x0 3)), .int x2, .ref ((rfF x1 3))]) (by decide +kernel) rfl ?_
  refine b_guard (fun hb => ?_)
  refine b_cp (t := 0) (rest := []) (by decide +kernel) rfl (fk_A8_3 hx1) (fk_A8_3 hx0) (by decide) hb (fun σ4 => ?_)
  exact b_ret0 (i := (.return_, 0, 0, .null)) (by decide +kernel) rfl rfl
def f126_4 (F : Nat) : Nat → Nat → Int32 → Int32 → St → Rs
  | 0, _, _, _, _ => none
  | n + 1, y0, y1, y2, σ => if y2 < 0 then oI ((-1)) σ
    else if inB y2 30 then lt (σ.1 (rfF y0 1) y2.toNatClampNeg) fun c1 => 
    if inB y1 30 then lt (σ.1 (rfF y0 1) y1.toNatClampNeg) fun c2 => 
    if c1 < c2 then oI y2 σ
    else f126_4 F n y0 y1 (y2 + Int32.ofInt (-1)) σ else none else none
theorem s126_4 {sc : aSc} (hv : vOk sc) (F : Nat) : ∀ (n : Nat) (y0 : Nat) (y1 : Int32) (y2 : Int32) (σ : St) (_ : isO y0 8 = true), bEx sc 0 126 4 [some (.ref y0), some (.int y1), some (.int y2)] [] σ (f126_4 F n y0 y1 y2 σ) := by
  intro n
  induction n with
  | zero => intro y0 y1 y2 σ hy0; exact b_none
  | succ n ih =>
    intro y0 y1 y2 σ hy0
    rw [f126_4.eq_2]
    refine b_run [(4, .iload_n 2, 0, 0, .null)] (pc' := 5) (ls' := [some (.ref y0), some (.int y1), some (.int y2)]) (st' := [.int y2]) (by decide +kernel) rfl ?_
    refine b_izT (c := .lt) (o := 26) (t := 31) (y := 0) (w := .null) (by decide +kernel) cmp_lt (fun _ => ?_) (fun _ => ?_)
    · refine b_run [(31, .iconst (-1), 0, 0, .null)] (pc' := 32) (ls' := [some (.ref y0), some (.int y1), some (.int y2)]) (st' := [.int ((-1))]) (by decide +kernel) rfl ?_
      exact b_ret (i := (.ireturn, 0, 0, .null)) (by decide +kernel) rfl rfl (fit_I _)
    · refine b_run [(8, .aload_n 0, 0, 0, .null)] (pc' := 9) (ls' := [some (.ref y0), some (.int y1), some (.int y2)]) (st' := [.ref y0]) (by decide +kernel) rfl ?_
      refine b_getC (q := 15) (ci := 8) (k := 1) (w := .null) (by decide +kernel) (fk_C8_1 hy0) ?_
      refine b_run [(12, .iload_n 2, 0, 0, .null)] (pc' := 13) (ls' := [some (.ref y0), some (.int y1), some (.int y2)]) (st' := [.int y2, .ref ((rfF y0 1))]) (by decide +kernel) rfl ?_
      refine b_guard (fun hb => ?_)
      refine b_aI (ci := 0) (y := 0) (w := .null) (by decide +kernel) (fk_A8_1 hy0) hb (fun c1 => ?_)
      refine b_run [(14, .aload_n 0, 0, 0, .null)] (pc' := 15) (ls' := [some (.ref y0), some (.int y1), some (.int y2)]) (st' := [.ref y0, .int c1]) (by decide +kernel) rfl ?_
      refine b_getC (q := 15) (ci := 8) (k := 1) (w := .null) (by decide +kernel) (fk_C8_1 hy0) ?_
      refine b_run [(18, .iload_n 1, 0, 0, .null)] (pc' := 19) (ls' := [some (.ref y0), some (.int y1), some (.int y2)]) (st' := [.int y1, .ref ((rfF y0 1)), .int c1]) (by decide +kernel) rfl ?_
      refine b_guard (fun hb => ?_)
      refine b_aI (ci := 0) (y := 0) (w := .null) (by decide +kernel) (fk_A8_1 hy0) hb (fun c2 => ?_)
      refine b_icF (c := .ge) (o := 5) (t := 25) (y := 0) (w := .null) (by decide +kernel) cmp_ge (fun _ => ?_) (fun _ => ?_)
      · refine b_run [(23, .iload_n 2, 0, 0, .null)] (pc' := 24) (ls' := [some (.ref y0), some (.int y1), some (.int y2)]) (st' := [.int y2]) (by decide +kernel) rfl ?_
        exact b_ret (i := (.ireturn, 0, 0, .null)) (by decide +kernel) rfl rfl (fit_I _)
      · refine b_run [(25, .iinc 2 (-1), 0, 0, .null), (28, .goto (-24), 4, 0, .null)] (pc' := 4) (ls' := [some (.ref y0), some (.int y1), some (.int (y2 + Int32.ofInt (-1)))]) (st' := []) (by decide +kernel) rfl ?_
        exact b_wk (wS (wS (wS w0))) (ih y0 y1 (y2 + Int32.ofInt (-1)) σ hy0)
/-- TreeStore$Tree.parentOf(I)I -/
def f126 (F : Nat) (x0 : Nat) (x1 : Int32) (σ : St) : Rs := f126_4 F F x0 x1 (x1 - 1) σ
theorem s126 {sc : aSc} (hv : vOk sc) (F : Nat) (x0 : Nat) (x1 : Int32) (σ : St) (hx0 : isO x0 8 = true) : bEx sc 0 126 0 [some (.ref x0), some (.int x1), none] [] σ (f126 F x0 x1 σ) := by
  unfold f126
  refine b_run [(0, .iload_n 1, 0, 0, .null), (1, .iconst 1, 0, 0, .null), (2, .isub, 0, 0, .null), (3, .istore_n 2, 0, 0, .null)] (pc' := 4) (ls' := [some (.ref x0), some (.int x1), some (.int (x1 - 1))]) (st' := []) (by decide +kernel) rfl ?_
  exact b_wk (wS (wS (wS w0))) (s126_4 hv F F x0 x1 (x1 - 1) σ hx0)
def f127_4 (F : Nat) : Nat → Nat → Int32 → Int32 → St → Rs
  | 0, _, _, _, _ => none
  | n + 1, y0, y1, y2, σ => lt (σ.1 y0 10) fun c1 => 
    if y2 < c1 then 
    if inB y2 30 then lt (σ.1 (rfF y0 1) y2.toNatClampNeg) fun c2 => 
    if inB y1 30 then lt (σ.1 (rfF y0 1) y1.toNatClampNeg) fun c3 => 
    if c3 < c2 then f127_4 F n y0 y1 (y2 + 1) σ
    else oI ((y2 - y1) - 1) σ else none else none
    else oI ((y2 - y1) - 1) σ
theorem s127_4 {sc : aSc} (hv : vOk sc) (F : Nat) : ∀ (n : Nat) (y0 : Nat) (y1 : Int32) (y2 : Int32) (σ : St) (_ : isO y0 8 = true), bEx sc 0 127 4 [some (.ref y0), some (.int y1), some (.int y2)] [] σ (f127_4 F n y0 y1 y2 σ) := by
  intro n
  induction n with
  | zero => intro y0 y1 y2 σ hy0; exact b_none
  | succ n ih =>
    intro y0 y1 y2 σ hy0
    rw [f127_4.eq_2]
    refine b_run [(4, .iload_n 2, 0, 0, .null), (5, .aload_n 0, 0, 0, .null)] (pc' := 6) (ls' := [some (.ref y0), some (.int y1), some (.int y2)]) (st' := [.ref y0, .int y2]) (by decide +kernel) rfl ?_
    refine b_gI (q := 48) (ci := 8) (k := 10) (w := .null) (by decide +kernel) (fk_I8_10 hy0) (fun c1 => ?_)
    refine b_icF (c := .ge) (o := 24) (t := 33) (y := 0) (w := .null) (by decide +kernel) cmp_ge (fun _ => ?_) (fun _ => ?_)
    · refine b_run [(12, .aload_n 0, 0, 0, .null)] (pc' := 13) (ls' := [some (.ref y0), some (.int y1), some (.int y2)]) (st' := [.ref y0]) (by decide +kernel) rfl ?_
      refine b_getC (q := 15) (ci := 8) (k := 1) (w := .null) (by decide +kernel) (fk_C8_1 hy0) ?_
      refine b_run [(16, .iload_n 2, 0, 0, .null)] (pc' := 17) (ls' := [some (.ref y0), some (.int y1), some (.int y2)]) (st' := [.int y2, .ref ((rfF y0 1))]) (by decide +kernel) rfl ?_
      refine b_guard (fun hb => ?_)
      refine b_aI (ci := 0) (y := 0) (w := .null) (by decide +kernel) (fk_A8_1 hy0) hb (fun c2 => ?_)
      refine b_run [(18, .aload_n 0, 0, 0, .null)] (pc' := 19) (ls' := [some (.ref y0), some (.int y1), some (.int y2)]) (st' := [.ref y0, .int c2]) (by decide +kernel) rfl ?_
      refine b_getC (q := 15) (ci := 8) (k := 1) (w := .null) (by decide +kernel) (fk_C8_1 hy0) ?_
      refine b_run [(22, .iload_n 1, 0, 0, .null)] (pc' := 23) (ls' := [some (.ref y0), some (.int y1), some (.int y2)]) (st' := [.int y1, .ref ((rfF y0 1)), .int c2]) (by decide +kernel) rfl ?_
      refine b_guard (fun hb => ?_)
      refine b_aI (ci := 0) (y := 0) (w := .null) (by decide +kernel) (fk_A8_1 hy0) hb (fun c3 => ?_)
      refine b_icF (c := .le) (o := 9) (t := 33) (y := 0) (w := .null) (by decide +kernel) cmp_le (fun _ => ?_) (fun _ => ?_)
      · refine b_run [(27, .iinc 2 1, 0, 0, .null), (30, .goto (-26), 4, 0, .null)] (pc' := 4) (ls' := [some (.ref y0), some (.int y1), some (.int (y2 + 1))]) (st' := []) (by decide +kernel) rfl ?_
        exact b_wk (wS (wS (wS w0))) (ih y0 y1 (y2 + 1) σ hy0)
      · refine b_run [(33, .iload_n 2, 0, 0, .null), (34, .iload_n 1, 0, 0, .null), (35, .isub, 0, 0, .null), (36, .iconst 1, 0, 0, .null), (37, .isub, 0, 0, .null)] (pc' := 38) (ls' := [some (.ref y0), some (.int y1), some (.int y2)]) (st' := [.int ((y2 - y1) - 1)]) (by decide +kernel) rfl ?_
        exact b_ret (i := (.ireturn, 0, 0, .null)) (by decide +kernel) rfl rfl (fit_I _)
    · refine b_run [(33, .iload_n 2, 0, 0, .null), (34, .iload_n 1, 0, 0, .null), (35, .isub, 0, 0, .null), (36, .iconst 1, 0, 0, .null), (37, .isub, 0, 0, .null)] (pc' := 38) (ls' := [some (.ref y0), some (.int y1), some (.int y2)]) (st' := [.int ((y2 - y1) - 1)]) (by decide +kernel) rfl ?_
      exact b_ret (i := (.ireturn, 0, 0, .null)) (by decide +kernel) rfl rfl (fit_I _)
/-- TreeStore$Tree.countBelow(I)I -/
def f127 (F : Nat) (x0 : Nat) (x1 : Int32) (σ : St) : Rs := f127_4 F F x0 x1 (x1 + 1) σ
theorem s127 {sc : aSc} (hv : vOk sc) (F : Nat) (x0 : Nat) (x1 : Int32) (σ : St) (hx0 : isO x0 8 = true) : bEx sc 0 127 0 [some (.ref x0), some (.int x1), none] [] σ (f127 F x0 x1 σ) := by
  unfold f127
  refine b_run [(0, .iload_n 1, 0, 0, .null), (1, .iconst 1, 0, 0, .null), (2, .iadd, 0, 0, .null), (3, .istore_n 2, 0, 0, .null)] (pc' := 4) (ls' := [some (.ref x0), some (.int x1), some (.int (x1 + 1))]) (st' := []) (by decide +kernel) rfl ?_
  exact b_wk (wS (wS (wS w0))) (s127_4 hv F F x0 x1 (x1 + 1) σ hx0)
def f125_44 (F : Nat) (k16 : Nat → Int32 → St → Rs) (y0 : Nat) (y1 : Int32) (z0 : Int32) (σ : St) : Rs := if inB y1 31 then lt (σ.1 (rfF y0 6) y1.toNatClampNeg) fun c6 => 
    if inB (y1 + 1) 31 then lt (uI σ (rfF y0 6) (y1 + 1).toNatClampNeg (c6 + z0)) fun σ7 => 
    if inB y1 31 then lt (σ7.1 (rfF y0 7) y1.toNatClampNeg) fun c8 => 
    if inB y1 30 then lt (σ7.1 (rfF y0 2) y1.toNatClampNeg) fun c9 => 
    if inB y1 30 then lt (σ7.1 (rfF y0 3) y1.toNatClampNeg) fun c10 => 
    if inB (y1 + 1) 31 then lt (uI σ7 (rfF y0 7) (y1 + 1).toNatClampNeg (((c8 + c9) + c10) - z0)) fun σ11 => 
    cI (f126 F y0 y1 σ11) fun c13 σ12 => 
    if inB y1 30 then lt (uI σ12 (rfF y0 4) y1.toNatClampNeg c13) fun σ14 => 
    cI (f127 F y0 y1 σ14) fun c16 σ15 => if inB y1 30 then lt (uI σ15 (rfF y0 5) y1.toNatClampNeg c16) fun σ17 => k16 y0 (y1 + 1) σ17 else none else none else none else none else none else none else none else none
theorem s125_44 {sc : aSc} (hv : vOk sc) (F : Nat) (k16 : Nat → Int32 → St → Rs) (hk16 : ∀ y0 y1 σ, isO y0 8 = true → bEx sc 1 125 16 [some (.ref y0), some (.int y1), none] [] σ (k16 y0 y1 σ)) (y0 : Nat) (y1 : Int32) (z0 : Int32) (σ : St) (hy0 : isO y0 8 = true) : bEx sc 1 125 44 [some (.ref y0), some (.int y1), none] [.int z0] σ (f125_44 F k16 y0 y1 z0 σ) := by
  unfold f125_44
  refine b_run [(44, .istore_n 2, 0, 0, .null), (45, .aload_n 0, 0, 0, .null)] (pc' := 46) (ls' := [some (.ref y0), some (.int y1), some (.int z0)]) (st' := [.ref y0]) (by decide +kernel) rfl ?_
  refine b_getC (q := 30) (ci := 8) (k := 6) (w := .null) (by decide +kernel) (fk_C8_6 hy0) ?_
  refine b_run [(49, .iload_n 1, 0, 0, .null), (50, .iconst 1, 0, 0, .null), (51, .iadd, 0, 0, .null), (52, .aload_n 0, 0, 0, .null)] (pc' := 53) (ls' := [some (.ref y0), some (.int y1), some (.int z0)]) (st' := [.ref y0, .int (y1 + 1), .ref ((rfF y0 6))]) (by decide +kernel) rfl ?_
  refine b_getC (q := 30) (ci := 8) (k := 6) (w := .null) (by decide +kernel) (fk_C8_6 hy0) ?_
  refine b_run [(56, .iload_n 1, 0, 0, .null)] (pc' := 57) (ls' := [some (.ref y0), some (.int y1), some (.int z0)]) (st' := [.int y1, .ref ((rfF y0 6)), .int (y1 + 1), .ref ((rfF y0 6))]) (by decide +kernel) rfl ?_
  refine b_guard (fun hb => ?_)
  refine b_aI (ci := 0) (y := 0) (w := .null) (by decide +kernel) (fk_A8_6 hy0) hb (fun c6 => ?_)
  refine b_run [(58, .iload_n 2, 0, 0, .null), (59, .iadd, 0, 0, .null)] (pc' := 60) (ls' := [some (.ref y0), some (.int y1), some (.int z0)]) (st' := [.int (c6 + z0), .int (y1 + 1), .ref ((rfF y0 6))]) (by decide +kernel) rfl ?_
  refine b_guard (fun hb => ?_)
  refine b_sI (ci := 0) (y := 0) (w := .null) (by decide +kernel) (fk_A8_6 hy0) hb (fun σ7 => ?_)
  refine b_run [(61, .aload_n 0, 0, 0, .null)] (pc' := 62) (ls' := [some (.ref y0), some (.int y1), some (.int z0)]) (st' := [.ref y0]) (by decide +kernel) rfl ?_
  refine b_getC (q := 33) (ci := 8) (k := 7) (w := .null) (by decide +kernel) (fk_C8_7 hy0) ?_
  refine b_run [(65, .iload_n 1, 0, 0, .null), (66, .iconst 1, 0, 0, .null), (67, .iadd, 0, 0, .null), (68, .aload_n 0, 0, 0, .null)] (pc' := 69) (ls' := [some (.ref y0), some (.int y1), some (.int z0)]) (st' := [.ref y0, .int (y1 + 1), .ref ((rfF y0 7))]) (by decide +kernel) rfl ?_
  refine b_getC (q := 33) (ci := 8) (k := 7) (w := .null) (by decide +kernel) (fk_C8_7 hy0) ?_
  refine b_run [(72, .iload_n 1, 0, 0, .null)] (pc' := 73) (ls' := [some (.ref y0), some (.int y1), some (.int z0)]) (st' := [.int y1, .ref ((rfF y0 7)), .int (y1 + 1), .ref ((rfF y0 7))]) (by decide +kernel) rfl ?_
  refine b_guard (fun hb => ?_)
  refine b_aI (ci := 0) (y := 0) (w := .null) (by decide +kernel) (fk_A8_7 hy0) hb (fun c8 => ?_)
  refine b_run [(74, .aload_n 0, 0, 0, .null)] (pc' := 75) (ls' := [some (.ref y0), some (.int y1), some (.int z0)]) (st' := [.ref y0, .int c8, .int (y1 + 1), .ref ((rfF y0 7))]) (by decide +kernel) rfl ?_
  refine b_getC (q := 18) (ci := 8) (k := 2) (w := .null) (by decide +kernel) (fk_C8_2 hy0) ?_
  refine b_run [(78, .iload_n 1, 0, 0, .null)] (pc' := 79) (ls' := [some (.ref y0), some (.int y1), some (.int z0)]) (st' := [.int y1, .ref ((rfF y0 2)), .int c8, .int (y1 + 1), .ref ((rfF y0 7))]) (by decide +kernel) rfl ?_
  refine b_guard (fun hb => ?_)
  refine b_aI (ci := 0) (y := 0) (w := .null) (by decide +kernel) (fk_A8_2 hy0) hb (fun c9 => ?_)
  refine b_run [(80, .iadd, 0, 0, .null), (81, .aload_n 0, 0, 0, .null)] (pc' := 82) (ls' := [some (.ref y0), some (.int y1), some (.int z0)]) (st' := [.ref y0, .int (c8 + c9), .int (y1 + 1), .ref ((rfF y0 7))]) (by decide +kernel) rfl ?_
  refine b_getC (q := 21) (ci := 8) (k := 3) (w := .null) (by decide +kernel) (fk_C8_3 hy0) ?_
  refine b_run [(85, .iload_n 1, 0, 0, .null)] (pc' := 86) (ls' := [some (.ref y0), some (.int y1), some (.int z0)]) (st' := [.int y1, .ref ((rfF y0 3)), .int (c8 + c9), .int (y1 + 1), .ref ((rfF y0 7))]) (by decide +kernel) rfl ?_
  refine b_guard (fun hb => ?_)
  refine b_aI (ci := 0) (y := 0) (w := .null) (by decide +kernel) (fk_A8_3 hy0) hb (fun c10 => ?_)
  refine b_run [(87, .iadd, 0, 0, .null), (88, .iload_n 2, 0, 0, .null), (89, .isub, 0, 0, .null)] (pc' := 90) (ls' := [some (.ref y0), some (.int y1), some (.int z0)]) (st' := [.int (((c8 + c9) + c10) - z0), .int (y1 + 1), .ref ((rfF y0 7))]) (by decide +kernel) rfl ?_
  refine b_guard (fun hb => ?_)
  refine b_sI (ci := 0) (y := 0) (w := .null) (by decide +kernel) (fk_A8_7 hy0) hb (fun σ11 => ?_)
  refine b_run [(91, .aload_n 0, 0, 0, .null)] (pc' := 92) (ls' := [some (.ref y0), some (.int y1), some (.int z0)]) (st' := [.ref y0]) (by decide +kernel) rfl ?_
  refine b_getC (q := 24) (ci := 8) (k := 4) (w := .null) (by decide +kernel) (fk_C8_4 hy0) ?_
  refine b_run [(95, .iload_n 1, 0, 0, .null), (96, .aload_n 0, 0, 0, .null), (97, .iload_n 1, 0, 0, .null)] (pc' := 98) (ls' := [some (.ref y0), some (.int y1), some (.int z0)]) (st' := [.int y1, .ref y0, .int y1, .ref ((rfF y0 4))]) (by decide +kernel) rfl ?_
  refine b_callI 126 2 [.ref y0, .int y1] (rest := [.int y1, .ref ((rfF y0 4))]) (by decide +kernel) rfl rfl rfl (go_O rfl (by decide +kernel) hy0) rfl (s126 hv F y0 y1 σ11 hy0) (by decide) (fun c13 σ12 => ?_)
  refine b_guard (fun hb => ?_)
  refine b_sI (ci := 0) (y := 0) (w := .null) (by decide +kernel) (fk_A8_4 hy0) hb (fun σ14 => ?_)
  refine b_run [(102, .aload_n 0, 0, 0, .null)] (pc' := 103) (ls' := [some (.ref y0), some (.int y1), some (.int z0)]) (st' := [.ref y0]) (by decide +kernel) rfl ?_
  refine b_getC (q := 27) (ci := 8) (k := 5) (w := .null) (by decide +kernel) (fk_C8_5 hy0) ?_
  refine b_run [(106, .iload_n 1, 0, 0, .null), (107, .aload_n 0, 0, 0, .null), (108, .iload_n 1, 0, 0, .null)] (pc' := 109) (ls' := [some (.ref y0), some (.int y1), some (.int z0)]) (st' := [.int y1, .ref y0, .int y1, .ref ((rfF y0 5))]) (by decide +kernel) rfl ?_
  refine b_callI 127 2 [.ref y0, .int y1] (rest := [.int y1, .ref ((rfF y0 5))]) (by decide +kernel) rfl rfl rfl (go_O rfl (by decide +kernel) hy0) rfl (s127 hv F y0 y1 σ14 hy0) (by decide) (fun c16 σ15 => ?_)
  refine b_guard (fun hb => ?_)
  refine b_sI (ci := 0) (y := 0) (w := .null) (by decide +kernel) (fk_A8_5 hy0) hb (fun σ17 => ?_)
  refine b_run [(113, .iinc 1 1, 0, 0, .null), (116, .goto (-100), 16, 0, .null)] (pc' := 16) (ls' := [some (.ref y0), some (.int (y1 + 1)), some (.int z0)]) (st' := []) (by decide +kernel) rfl ?_
  exact b_wk (wS (wS (wN w0))) (hk16 y0 (y1 + 1) σ17 hy0)
def f125_16 (F : Nat) : Nat → Nat → Int32 → St → Rs
  | 0, _, _, _ => none
  | n + 1, y0, y1, σ => lt (σ.1 y0 10) fun c3 => 
    if y1 < c3 then 
    if inB y1 30 then lt (σ.1 (rfF y0 0) y1.toNatClampNeg) fun c4 => 
    if c4 = 3 then if inB y1 30 then lt (σ.1 (rfF y0 3) y1.toNatClampNeg) fun c5 => f125_44 F (f125_16 F n) y0 y1 c5 σ else none
    else f125_44 F (f125_16 F n) y0 y1 0 σ else none
    else oV σ
theorem s125_16 {sc : aSc} (hv : vOk sc) (F : Nat) : ∀ (n : Nat) (y0 : Nat) (y1 : Int32) (σ : St) (_ : isO y0 8 = true), bEx sc 1 125 16 [some (.ref y0), some (.int y1), none] [] σ (f125_16 F n y0 y1 σ) := by
  intro n
  induction n with
  | zero => intro y0 y1 σ hy0; exact b_none
  | succ n ih =>
    intro y0 y1 σ hy0
    rw [f125_16.eq_2]
    refine b_run [(16, .iload_n 1, 0, 0, .null), (17, .aload_n 0, 0, 0, .null)] (pc' := 18) (ls' := [some (.ref y0), some (.int y1), none]) (st' := [.ref y0, .int y1]) (by decide +kernel) rfl ?_
    refine b_gI (q := 48) (ci := 8) (k := 10) (w := .null) (by decide +kernel) (fk_I8_10 hy0) (fun c3 => ?_)
    refine b_icF (c := .ge) (o := 98) (t := 119) (y := 0) (w := .null) (by decide +kernel) cmp_ge (fun _ => ?_) (fun _ => ?_)
    · refine b_run [(24, .aload_n 0, 0, 0, .null)] (pc' := 25) (ls' := [some (.ref y0), some (.int y1), none]) (st' := [.ref y0]) (by decide +kernel) rfl ?_
      refine b_getC (q := 9) (ci := 8) (k := 0) (w := .null) (by decide +kernel) (fk_C8_0 hy0) ?_
      refine b_run [(28, .iload_n 1, 0, 0, .null)] (pc' := 29) (ls' := [some (.ref y0), some (.int y1), none]) (st' := [.int y1, .ref ((rfF y0 0))]) (by decide +kernel) rfl ?_
      refine b_guard (fun hb => ?_)
      refine b_aI (ci := 0) (y := 0) (w := .null) (by decide +kernel) (fk_A8_0 hy0) hb (fun c4 => ?_)
      refine b_run [(30, .iconst 3, 0, 0, .null)] (pc' := 31) (ls' := [some (.ref y0), some (.int y1), none]) (st' := [.int 3, .int c4]) (by decide +kernel) rfl ?_
      refine b_icF (c := .ne) (o := 12) (t := 43) (y := 0) (w := .null) (by decide +kernel) cmp_ne (fun _ => ?_) (fun _ => ?_)
      · refine b_run [(34, .aload_n 0, 0, 0, .null)] (pc' := 35) (ls' := [some (.ref y0), some (.int y1), none]) (st' := [.ref y0]) (by decide +kernel) rfl ?_
        refine b_getC (q := 21) (ci := 8) (k := 3) (w := .null) (by decide +kernel) (fk_C8_3 hy0) ?_
        refine b_run [(38, .iload_n 1, 0, 0, .null)] (pc' := 39) (ls' := [some (.ref y0), some (.int y1), none]) (st' := [.int y1, .ref ((rfF y0 3))]) (by decide +kernel) rfl ?_
        refine b_guard (fun hb => ?_)
        refine b_aI (ci := 0) (y := 0) (w := .null) (by decide +kernel) (fk_A8_3 hy0) hb (fun c5 => ?_)
        refine b_run [(40, .goto 4, 44, 0, .null)] (pc' := 44) (ls' := [some (.ref y0), some (.int y1), none]) (st' := [.int c5]) (by decide +kernel) rfl ?_
        exact b_wk (wS (wS (wN w0))) (s125_44 hv F (f125_16 F n) ih y0 y1 c5 σ hy0)
      · refine b_run [(43, .iconst 0, 0, 0, .null)] (pc' := 44) (ls' := [some (.ref y0), some (.int y1), none]) (st' := [.int 0]) (by decide +kernel) rfl ?_
        exact b_wk (wS (wS (wN w0))) (s125_44 hv F (f125_16 F n) ih y0 y1 0 σ hy0)
    · exact b_ret0 (i := (.return_, 0, 0, .null)) (by decide +kernel) rfl rfl
/-- TreeStore$Tree.measure()V -/
def f125 (F : Nat) (x0 : Nat) (σ : St) : Rs := if inB 0 31 then lt (uI σ (rfF x0 6) (0 : Int32).toNatClampNeg 0) fun σ1 => if inB 0 31 then lt (uI σ1 (rfF x0 7) (0 : Int32).toNatClampNeg 0) fun σ2 => f125_16 F F x0 0 σ2 else none else none
theorem s125 {sc : aSc} (hv : vOk sc) (F : Nat) (x0 : Nat) (σ : St) (hx0 : isO x0 8 = true) : bEx sc 1 125 0 [some (.ref x0), none, none] [] σ (f125 F x0 σ) := by
  unfold f125
  refine b_run [(0, .aload_n 0, 0, 0, .null)] (pc' := 1) (ls' := [some (.ref x0), none, none]) (st' := [.ref x0]) (by decide +kernel) rfl ?_
  refine b_getC (q := 30) (ci := 8) (k := 6) (w := .null) (by decide +kernel) (fk_C8_6 hx0) ?_
  refine b_run [(4, .iconst 0, 0, 0, .null), (5, .iconst 0, 0, 0, .null)] (pc' := 6) (ls' := [some (.ref x0), none, none]) (st' := [.int 0, .int 0, .ref ((rfF x0 6))]) (by decide +kernel) rfl ?_
  refine b_guard (fun hb => ?_)
  refine b_sI (ci := 0) (y := 0) (w := .null) (by decide +kernel) (fk_A8_6 hx0) hb (fun σ1 => ?_)
  refine b_run [(7, .aload_n 0, 0, 0, .null)] (pc' := 8) (ls' := [some (.ref x0), none, none]) (st' := [.ref x0]) (by decide +kernel) rfl ?_
  refine b_getC (q := 33) (ci := 8) (k := 7) (w := .null) (by decide +kernel) (fk_C8_7 hx0) ?_
  refine b_run [(11, .iconst 0, 0, 0, .null), (12, .iconst 0, 0, 0, .null)] (pc' := 13) (ls' := [some (.ref x0), none, none]) (st' := [.int 0, .int 0, .ref ((rfF x0 7))]) (by decide +kernel) rfl ?_
  refine b_guard (fun hb => ?_)
  refine b_sI (ci := 0) (y := 0) (w := .null) (by decide +kernel) (fk_A8_7 hx0) hb (fun σ2 => ?_)
  refine b_run [(14, .iconst 0, 0, 0, .null), (15, .istore_n 1, 0, 0, .null)] (pc' := 16) (ls' := [some (.ref x0), some (.int 0), none]) (st' := []) (by decide +kernel) rfl ?_
  exact b_wk (wS (wS (wN w0))) (s125_16 hv F F x0 0 σ2 hx0)
/-- TreeStore$Tree.takeIn(ILTreeStore$Tree;)V -/
def f137 (F : Nat) (x0 : Nat) (x1 : Int32) (x2 : Nat) (σ : St) : Rs := if x1 < 0 then oV σ
    else lt (σ.1 x0 10) fun c1 => 
    if c1 < x1 then oV σ
    else cI (f138 F x0 x2 σ) fun c3 σ2 => 
    if c3 = 0 then oV σ2
    else if inB x1 31 then lt (σ2.1 (rfF x0 6) x1.toNatClampNeg) fun c4 => 
    lt (σ2.1 ((rfF x2 8)) 1) fun c5 => 
    cV (f95 F ((rfF x0 8)) c4 ((rfF x2 8)) 0 c5 σ2) fun σ6 => 
    if inB x1 31 then lt (σ6.1 (rfF x0 7) x1.toNatClampNeg) fun c8 => 
    lt (σ6.1 ((rfF x2 9)) 1) fun c9 => 
    cV (f95 F ((rfF x0 9)) c8 ((rfF x2 9)) 0 c9 σ6) fun σ10 => 
    lt (σ10.1 x2 10) fun c12 => 
    lt (σ10.1 x0 10) fun c13 => 
    cV (f139 F x0 x0 x1 (x1 + c12) (c13 - x1) σ10) fun σ14 => 
    lt (σ14.1 x2 10) fun c16 => 
    cV (f139 F x0 x2 0 x1 c16 σ14) fun σ17 => 
    lt (σ17.1 x0 10) fun c19 => lt (σ17.1 x2 10) fun c20 => lt (uI σ17 x0 10 (c19 + c20)) fun σ21 => cV (f125 F x0 σ21) fun σ22 => oV σ22 else none else none
theorem s137 {sc : aSc} (hv : vOk sc) (F : Nat) (x0 : Nat) (x1 : Int32) (x2 : Nat) (σ : St) (hx0 : isO x0 8 = true) (hx2 : isO x2 8 = true) : bEx sc 2 137 0 [some (.ref x0), some (.int x1), some (.ref x2)] [] σ (f137 F x0 x1 x2 σ) := by
  unfold f137
  refine b_run [(0, .iload_n 1, 0, 0, .null)] (pc' := 1) (ls' := [some (.ref x0), some (.int x1), some (.ref x2)]) (st' := [.int x1]) (by decide +kernel) rfl ?_
  refine b_izT (c := .lt) (o := 19) (t := 20) (y := 0) (w := .null) (by decide +kernel) cmp_lt (fun _ => ?_) (fun _ => ?_)
  · exact b_ret0 (i := (.return_, 0, 0, .null)) (by decide +kernel) rfl rfl
  · refine b_run [(4, .iload_n 1, 0, 0, .null), (5, .aload_n 0, 0, 0, .null)] (pc' := 6) (ls' := [some (.ref x0), some (.int x1), some (.ref x2)]) (st' := [.ref x0, .int x1]) (by decide +kernel) rfl ?_
    refine b_gI (q := 48) (ci := 8) (k := 10) (w := .null) (by decide +kernel) (fk_I8_10 hx0) (fun c1 => ?_)
    refine b_icT (c := .gt) (o := 11) (t := 20) (y := 0) (w := .null) (by decide +kernel) cmp_gt (fun _ => ?_) (fun _ => ?_)
    · exact b_ret0 (i := (.return_, 0, 0, .null)) (by decide +kernel) rfl rfl
    · refine b_run [(12, .aload_n 0, 0, 0, .null), (13, .aload_n 2, 0, 0, .null)] (pc' := 14) (ls' := [some (.ref x0), some (.int x1), some (.ref x2)]) (st' := [.ref x2, .ref x0]) (by decide +kernel) rfl ?_
      refine b_callI 138 2 [.ref x0, .ref x2] (rest := []) (by decide +kernel) rfl rfl rfl (go_O rfl (by decide +kernel) hx0) rfl (s138 hv F x0 x2 σ hx0 hx2) (by decide) (fun c3 σ2 => ?_)
      refine b_izF (c := .ne) (o := 4) (t := 21) (y := 0) (w := .null) (by decide +kernel) cmp_ne (fun _ => ?_) (fun _ => ?_)
      · exact b_ret0 (i := (.return_, 0, 0, .null)) (by decide +kernel) rfl rfl
      · refine b_run [(21, .aload_n 0, 0, 0, .null)] (pc' := 22) (ls' := [some (.ref x0), some (.int x1), some (.ref x2)]) (st' := [.ref x0]) (by decide +kernel) rfl ?_
        refine b_getC (q := 41) (ci := 8) (k := 8) (w := .null) (by decide +kernel) (fk_C8_8 hx0) ?_
        refine b_run [(25, .aload_n 0, 0, 0, .null)] (pc' := 26) (ls' := [some (.ref x0), some (.int x1), some (.ref x2)]) (st' := [.ref x0, .ref ((rfF x0 8))]) (by decide +kernel) rfl ?_
        refine b_getC (q := 30) (ci := 8) (k := 6) (w := .null) (by decide +kernel) (fk_C8_6 hx0) ?_
        refine b_run [(29, .iload_n 1, 0, 0, .null)] (pc' := 30) (ls' := [some (.ref x0), some (.int x1), some (.ref x2)]) (st' := [.int x1, .ref ((rfF x0 6)), .ref ((rfF x0 8))]) (by decide +kernel) rfl ?_
        refine b_guard (fun hb => ?_)
        refine b_aI (ci := 0) (y := 0) (w := .null) (by decide +kernel) (fk_A8_6 hx0) hb (fun c4 => ?_)
        refine b_run [(31, .aload_n 2, 0, 0, .null)] (pc' := 32) (ls' := [some (.ref x0), some (.int x1), some (.ref x2)]) (st' := [.ref x2, .int c4, .ref ((rfF x0 8))]) (by decide +kernel) rfl ?_
        refine b_getC (q := 41) (ci := 8) (k := 8) (w := .null) (by decide +kernel) (fk_C8_8 hx2) ?_
        refine b_run [(35, .iconst 0, 0, 0, .null), (36, .aload_n 2, 0, 0, .null)] (pc' := 37) (ls' := [some (.ref x0), some (.int x1), some (.ref x2)]) (st' := [.ref x2, .int 0, .ref ((rfF x2 8)), .int c4, .ref ((rfF x0 8))]) (by decide +kernel) rfl ?_
        refine b_getC (q := 41) (ci := 8) (k := 8) (w := .null) (by decide +kernel) (fk_C8_8 hx2) ?_
        refine b_gI (q := 55) (ci := 5) (k := 1) (w := .null) (by decide +kernel) (fk_I5_1 (fk_O8_8 hx2)) (fun c5 => ?_)
        refine b_callV 95 5 [.ref ((rfF x0 8)), .int c4, .ref ((rfF x2 8)), .int 0, .int c5] (rest := []) (by decide +kernel) rfl rfl rfl (go_O rfl (by decide +kernel) (fk_O8_8 hx0)) rfl (s95 hv F ((rfF x0 8)) c4 ((rfF x2 8)) 0 c5 σ2 (fk_O8_8 hx0) (fk_O8_8 hx2)) (by decide) (fun σ6 => ?_)
        refine b_run [(46, .aload_n 0, 0, 0, .null)] (pc' := 47) (ls' := [some (.ref x0), some (.int x1), some (.ref x2)]) (st' := [.ref x0]) (by decide +kernel) rfl ?_
        refine b_getC (q := 45) (ci := 8) (k := 9) (w := .null) (by decide +kernel) (fk_C8_9 hx0) ?_
        refine b_run [(50, .aload_n 0, 0, 0, .null)] (pc' := 51) (ls' := [some (.ref x0), some (.int x1), some (.ref x2)]) (st' := [.ref x0, .ref ((rfF x0 9))]) (by decide +kernel) rfl ?_
        refine b_getC (q := 33) (ci := 8) (k := 7) (w := .null) (by decide +kernel) (fk_C8_7 hx0) ?_
        refine b_run [(54, .iload_n 1, 0, 0, .null)] (pc' := 55) (ls' := [some (.ref x0), some (.int x1), some (.ref x2)]) (st' := [.int x1, .ref ((rfF x0 7)), .ref ((rfF x0 9))]) (by decide +kernel) rfl ?_
        refine b_guard (fun hb => ?_)
        refine b_aI (ci := 0) (y := 0) (w := .null) (by decide +kernel) (fk_A8_7 hx0) hb (fun c8 => ?_)
        refine b_run [(56, .aload_n 2, 0, 0, .null)] (pc' := 57) (ls' := [some (.ref x0), some (.int x1), some (.ref x2)]) (st' := [.ref x2, .int c8, .ref ((rfF x0 9))]) (by decide +kernel) rfl ?_
        refine b_getC (q := 45) (ci := 8) (k := 9) (w := .null) (by decide +kernel) (fk_C8_9 hx2) ?_
        refine b_run [(60, .iconst 0, 0, 0, .null), (61, .aload_n 2, 0, 0, .null)] (pc' := 62) (ls' := [some (.ref x0), some (.int x1), some (.ref x2)]) (st' := [.ref x2, .int 0, .ref ((rfF x2 9)), .int c8, .ref ((rfF x0 9))]) (by decide +kernel) rfl ?_
        refine b_getC (q := 45) (ci := 8) (k := 9) (w := .null) (by decide +kernel) (fk_C8_9 hx2) ?_
        refine b_gI (q := 55) (ci := 5) (k := 1) (w := .null) (by decide +kernel) (fk_I5_1 (fk_O8_9 hx2)) (fun c9 => ?_)
        refine b_callV 95 5 [.ref ((rfF x0 9)), .int c8, .ref ((rfF x2 9)), .int 0, .int c9] (rest := []) (by decide +kernel) rfl rfl rfl (go_O rfl (by decide +kernel) (fk_O8_9 hx0)) rfl (s95 hv F ((rfF x0 9)) c8 ((rfF x2 9)) 0 c9 σ6 (fk_O8_9 hx0) (fk_O8_9 hx2)) (by decide) (fun σ10 => ?_)
        refine b_run [(71, .aload_n 0, 0, 0, .null), (72, .aload_n 0, 0, 0, .null), (73, .iload_n 1, 0, 0, .null), (74, .iload_n 1, 0, 0, .null), (75, .aload_n 2, 0, 0, .null)] (pc' := 76) (ls' := [some (.ref x0), some (.int x1), some (.ref x2)]) (st' := [.ref x2, .int x1, .int x1, .ref x0, .ref x0]) (by decide +kernel) rfl ?_
        refine b_gI (q := 48) (ci := 8) (k := 10) (w := .null) (by decide +kernel) (fk_I8_10 hx2) (fun c12 => ?_)
        refine b_run [(79, .iadd, 0, 0, .null), (80, .aload_n 0, 0, 0, .null)] (pc' := 81) (ls' := [some (.ref x0), some (.int x1), some (.ref x2)]) (st' := [.ref x0, .int (x1 + c12), .int x1, .ref x0, .ref x0]) (by decide +kernel) rfl ?_
        refine b_gI (q := 48) (ci := 8) (k := 10) (w := .null) (by decide +kernel) (fk_I8_10 hx0) (fun c13 => ?_)
        refine b_run [(84, .iload_n 1, 0, 0, .null), (85, .isub, 0, 0, .null)] (pc' := 86) (ls' := [some (.ref x0), some (.int x1), some (.ref x2)]) (st' := [.int (c13 - x1), .int (x1 + c12), .int x1, .ref x0, .ref x0]) (by decide +kernel) rfl ?_
        refine b_callV 139 5 [.ref x0, .ref x0, .int x1, .int (x1 + c12), .int (c13 - x1)] (rest := []) (by decide +kernel) rfl rfl rfl (go_O rfl (by decide +kernel) hx0) rfl (s139 hv F x0 x0 x1 (x1 + c12) (c13 - x1) σ10 hx0 hx0) (by decide) (fun σ14 => ?_)
        refine b_run [(89, .aload_n 0, 0, 0, .null), (90, .aload_n 2, 0, 0, .null), (91, .iconst 0, 0, 0, .null), (92, .iload_n 1, 0, 0, .null), (93, .aload_n 2, 0, 0, .null)] (pc' := 94) (ls' := [some (.ref x0), some (.int x1), some (.ref x2)]) (st' := [.ref x2, .int x1, .int 0, .ref x2, .ref x0]) (by decide +kernel) rfl ?_
        refine b_gI (q := 48) (ci := 8) (k := 10) (w := .null) (by decide +kernel) (fk_I8_10 hx2) (fun c16 => ?_)
        refine b_callV 139 5 [.ref x0, .ref x2, .int 0, .int x1, .int c16] (rest := []) (by decide +kernel) rfl rfl rfl (go_O rfl (by decide +kernel) hx0) rfl (s139 hv F x0 x2 0 x1 c16 σ14 hx0 hx2) (by decide) (fun σ17 => ?_)
        refine b_run [(100, .aload_n 0, 0, 0, .null), (101, .dup, 0, 0, .null)] (pc' := 102) (ls' := [some (.ref x0), some (.int x1), some (.ref x2)]) (st' := [.ref x0, .ref x0]) (by decide +kernel) rfl ?_
        refine b_gI (q := 48) (ci := 8) (k := 10) (w := .null) (by decide +kernel) (fk_I8_10 hx0) (fun c19 => ?_)
        refine b_run [(105, .aload_n 2, 0, 0, .null)] (pc' := 106) (ls' := [some (.ref x0), some (.int x1), some (.ref x2)]) (st' := [.ref x2, .int c19, .ref x0]) (by decide +kernel) rfl ?_
        refine b_gI (q := 48) (ci := 8) (k := 10) (w := .null) (by decide +kernel) (fk_I8_10 hx2) (fun c20 => ?_)
        refine b_run [(109, .iadd, 0, 0, .null)] (pc' := 110) (ls' := [some (.ref x0), some (.int x1), some (.ref x2)]) (st' := [.int (c19 + c20), .ref x0]) (by decide +kernel) rfl ?_
        refine b_pI (q := 48) (ci := 8) (k := 10) (w := .null) (by decide +kernel) (fk_I8_10 hx0) (fit_I _) (fun σ21 => ?_)
        refine b_run [(113, .aload_n 0, 0, 0, .null)] (pc' := 114) (ls' := [some (.ref x0), some (.int x1), some (.ref x2)]) (st' := [.ref x0]) (by decide +kernel) rfl ?_
        refine b_callV 125 1 [.ref x0] (rest := []) (by decide +kernel) rfl rfl rfl (go_O rfl (by decide +kernel) hx0) rfl (s125 hv F x0 σ21 hx0) (by decide) (fun σ22 => ?_)
        exact b_ret0 (i := (.return_, 0, 0, .null)) (by decide +kernel) rfl rfl
/-- TreeStore.load()I -/
def f21 (F : Nat) (σ : St) : Rs := cV (f105 F σ) fun σ1 => 
    cV (f135 F 1003 σ1) fun σ3 => 
    cV (f137 F 1003 0 1016 σ3) fun σ5 => cV (f91 F 1001 σ5) fun σ7 => lt (uI σ7 1000 7 0) fun σ9 => lt (σ9.1 1003 10) fun c10 => oI c10 σ9
theorem s21 {sc : aSc} (hv : vOk sc) (F : Nat) (σ : St) : bEx sc 47 21 0 [some (.ref 1000)] [] σ (f21 F σ) := by
  unfold f21
  refine b_run [(0, .aload_n 0, 0, 0, .null)] (pc' := 1) (ls' := [some (.ref 1000)]) (st' := [.ref 1000]) (by decide +kernel) rfl ?_
  refine b_getC (b := 1029) (q := 33) (ci := 0) (k := 3) (w := .null) (by decide +kernel) (by decide +kernel) ?_
  refine b_callV 105 1 [.ref 1029] (rest := []) (by decide +kernel) rfl rfl rfl (go_O rfl (by decide +kernel) (by decide +kernel : isO 1029 7 = true)) rfl (s105 hv F σ) (by decide) (fun σ1 => ?_)
  refine b_run [(7, .aload_n 0, 0, 0, .null)] (pc' := 8) (ls' := [some (.ref 1000)]) (st' := [.ref 1000]) (by decide +kernel) rfl ?_
  refine b_getC (b := 1003) (q := 21) (ci := 0) (k := 1) (w := .null) (by decide +kernel) (by decide +kernel) ?_
  refine b_callV 135 1 [.ref 1003] (rest := []) (by decide +kernel) rfl rfl rfl (go_O rfl (by decide +kernel) (by decide +kernel : isO 1003 8 = true)) rfl (s135 hv F 1003 σ1 (by decide +kernel : isO 1003 8 = true)) (by decide) (fun σ3 => ?_)
  refine b_run [(14, .aload_n 0, 0, 0, .null)] (pc' := 15) (ls' := [some (.ref 1000)]) (st' := [.ref 1000]) (by decide +kernel) rfl ?_
  refine b_getC (b := 1003) (q := 21) (ci := 0) (k := 1) (w := .null) (by decide +kernel) (by decide +kernel) ?_
  refine b_run [(18, .iconst 0, 0, 0, .null), (19, .aload_n 0, 0, 0, .null)] (pc' := 20) (ls' := [some (.ref 1000)]) (st' := [.ref 1000, .int 0, .ref 1003]) (by decide +kernel) rfl ?_
  refine b_getC (b := 1016) (q := 25) (ci := 0) (k := 2) (w := .null) (by decide +kernel) (by decide +kernel) ?_
  refine b_callV 137 3 [.ref 1003, .int 0, .ref 1016] (rest := []) (by decide +kernel) rfl rfl rfl (go_O rfl (by decide +kernel) (by decide +kernel : isO 1003 8 = true)) rfl (s137 hv F 1003 0 1016 σ3 (by decide +kernel : isO 1003 8 = true) (by decide +kernel : isO 1016 8 = true)) (by decide) (fun σ5 => ?_)
  refine b_run [(26, .aload_n 0, 0, 0, .null)] (pc' := 27) (ls' := [some (.ref 1000)]) (st' := [.ref 1000]) (by decide +kernel) rfl ?_
  refine b_getC (b := 1001) (q := 14) (ci := 0) (k := 0) (w := .null) (by decide +kernel) (by decide +kernel) ?_
  refine b_callV 91 1 [.ref 1001] (rest := []) (by decide +kernel) rfl rfl rfl (go_O rfl (by decide +kernel) (by decide +kernel : isO 1001 5 = true)) rfl (s91 hv F 1001 σ5 (by decide +kernel : isO 1001 5 = true)) (by decide) (fun σ7 => ?_)
  refine b_run [(33, .aload_n 0, 0, 0, .null), (34, .iconst 0, 0, 0, .null)] (pc' := 35) (ls' := [some (.ref 1000)]) (st' := [.int 0, .ref 1000]) (by decide +kernel) rfl ?_
  refine b_pI (q := 62) (ci := 0) (k := 7) (w := .null) (by decide +kernel) (by decide +kernel) (fit_I _) (fun σ9 => ?_)
  refine b_run [(38, .aload_n 0, 0, 0, .null)] (pc' := 39) (ls' := [some (.ref 1000)]) (st' := [.ref 1000]) (by decide +kernel) rfl ?_
  refine b_getC (b := 1003) (q := 21) (ci := 0) (k := 1) (w := .null) (by decide +kernel) (by decide +kernel) ?_
  refine b_gI (q := 97) (ci := 8) (k := 10) (w := .null) (by decide +kernel) (by decide +kernel) (fun c10 => ?_)
  exact b_ret (i := (.ireturn, 0, 0, .null)) (by decide +kernel) rfl rfl (fit_I _)
/-- TreeStoreLaw.load(LTreeStore;[J)I -/
def f3 (F : Nat) (σ : St) : Rs := cHI (f21 F σ) (fun c2 σ1 => if inB 0 1 then lt (uJ σ1 1361 (0 : Int32).toNatClampNeg ((c2 : Int32).toInt64)) fun σ3 => oI 0 σ3 else none)
    (fun e τ => if e = 10 then (fun σ5 => oI 1 σ5) τ else if e = 13 then (fun σ7 => oI 2 σ7) τ else if e = 11 then (fun σ9 => oI 3 σ9) τ else none)
theorem s3 {sc : aSc} (hv : vOk sc) (F : Nat) (σ : St) : bEx sc 48 3 0 [some (.ref 1000), some (.ref 1361), none] [] σ (f3 F σ) := by
  unfold f3
  refine b_run [(0, .aload_n 1, 0, 0, .null), (1, .iconst 0, 0, 0, .null), (2, .aload_n 0, 0, 0, .null)] (pc' := 3) (ls' := [some (.ref 1000), some (.ref 1361), none]) (st' := [.ref 1000, .int 0, .ref 1361]) (by decide +kernel) rfl ?_
  refine b_callHI 21 1 [.ref 1000] (rest := [.int 0, .ref 1361]) (by decide +kernel) rfl rfl rfl rfl (go_O rfl (by decide +kernel) (by decide +kernel : isO 1000 0 = true)) rfl (s21 hv F σ) (by decide) (fun c2 σ1 => ?_) ?_
  · refine b_run [(6, .i2l, 0, 0, .null)] (pc' := 7) (ls' := [some (.ref 1000), some (.ref 1361), none]) (st' := [.long ((c2 : Int32).toInt64), .int 0, .ref 1361]) (by decide +kernel) rfl ?_
    refine b_guard (fun hb => ?_)
    refine b_sL (ci := 0) (y := 0) (w := .null) (by decide +kernel) (by decide +kernel) hb (fun σ3 => ?_)
    refine b_run [(8, .goto 12, 20, 0, .null), (20, .iconst 0, 0, 0, .null)] (pc' := 21) (ls' := [some (.ref 1000), some (.ref 1361), none]) (st' := [.int 0]) (by decide +kernel) rfl ?_
    exact b_ret (i := (.ireturn, 0, 0, .null)) (by decide +kernel) rfl rfl (fit_I _)
  refine hd_cons (by decide) (fun e4 σ5 => ?_) ?_
  · refine b_run [(11, .astore_n 2, 0, 0, .null), (12, .iconst 1, 0, 0, .null)] (pc' := 13) (ls' := [some (.ref 1000), some (.ref 1361), some (.ref e4)]) (st' := [.int 1]) (by decide +kernel) rfl ?_
    exact b_ret (i := (.ireturn, 0, 0, .null)) (by decide +kernel) rfl rfl (fit_I _)
  refine hd_cons (by decide) (fun e6 σ7 => ?_) ?_
  · refine b_run [(14, .astore_n 2, 0, 0, .null), (15, .iconst 2, 0, 0, .null)] (pc' := 16) (ls' := [some (.ref 1000), some (.ref 1361), some (.ref e6)]) (st' := [.int 2]) (by decide +kernel) rfl ?_
    exact b_ret (i := (.ireturn, 0, 0, .null)) (by decide +kernel) rfl rfl (fit_I _)
  refine hd_cons (by decide) (fun e8 σ9 => ?_) ?_
  · refine b_run [(17, .astore_n 2, 0, 0, .null), (18, .iconst 3, 0, 0, .null)] (pc' := 19) (ls' := [some (.ref 1000), some (.ref 1361), some (.ref e8)]) (st' := [.int 3]) (by decide +kernel) rfl ?_
    exact b_ret (i := (.ireturn, 0, 0, .null)) (by decide +kernel) rfl rfl (fit_I _)
  exact hd_nil
def f133_4 (F : Nat) : Nat → Nat → Int32 → St → Rs
  | 0, _, _, _ => none
  | n + 1, y0, y2, σ => lt (σ.1 y0 10) fun c1 => 
    if y2 < c1 then 
    if inB y2 30 then lt (σ.1 (rfF y0 0) y2.toNatClampNeg) fun c2 => 
    if c2 = 2 then f133_4 F n y0 (y2 + 1) σ
    else oI y2 σ else none
    else oI y2 σ
theorem s133_4 {sc : aSc} (hv : vOk sc) (F : Nat) : ∀ (n : Nat) (y0 : Nat) (y2 : Int32) (σ : St) (_ : isO y0 8 = true), bEx sc 0 133 4 [some (.ref y0), none, some (.int y2)] [] σ (f133_4 F n y0 y2 σ) := by
  intro n
  induction n with
  | zero => intro y0 y2 σ hy0; exact b_none
  | succ n ih =>
    intro y0 y2 σ hy0
    rw [f133_4.eq_2]
    refine b_run [(4, .iload_n 2, 0, 0, .null), (5, .aload_n 0, 0, 0, .null)] (pc' := 6) (ls' := [some (.ref y0), none, some (.int y2)]) (st' := [.ref y0, .int y2]) (by decide +kernel) rfl ?_
    refine b_gI (q := 48) (ci := 8) (k := 10) (w := .null) (by decide +kernel) (fk_I8_10 hy0) (fun c1 => ?_)
    refine b_icF (c := .ge) (o := 19) (t := 28) (y := 0) (w := .null) (by decide +kernel) cmp_ge (fun _ => ?_) (fun _ => ?_)
    · refine b_run [(12, .aload_n 0, 0, 0, .null)] (pc' := 13) (ls' := [some (.ref y0), none, some (.int y2)]) (st' := [.ref y0]) (by decide +kernel) rfl ?_
      refine b_getC (q := 9) (ci := 8) (k := 0) (w := .null) (by decide +kernel) (fk_C8_0 hy0) ?_
      refine b_run [(16, .iload_n 2, 0, 0, .null)] (pc' := 17) (ls' := [some (.ref y0), none, some (.int y2)]) (st' := [.int y2, .ref ((rfF y0 0))]) (by decide +kernel) rfl ?_
      refine b_guard (fun hb => ?_)
      refine b_aI (ci := 0) (y := 0) (w := .null) (by decide +kernel) (fk_A8_0 hy0) hb (fun c2 => ?_)
      refine b_run [(18, .iconst 2, 0, 0, .null)] (pc' := 19) (ls' := [some (.ref y0), none, some (.int y2)]) (st' := [.int 2, .int c2]) (by decide +kernel) rfl ?_
      refine b_icF (c := .ne) (o := 9) (t := 28) (y := 0) (w := .null) (by decide +kernel) cmp_ne (fun _ => ?_) (fun _ => ?_)
      · refine b_run [(22, .iinc 2 1, 0, 0, .null), (25, .goto (-21), 4, 0, .null)] (pc' := 4) (ls' := [some (.ref y0), none, some (.int (y2 + 1))]) (st' := []) (by decide +kernel) rfl ?_
        exact b_wk (wS (wN (wS w0))) (ih y0 (y2 + 1) σ hy0)
      · refine b_run [(28, .iload_n 2, 0, 0, .null)] (pc' := 29) (ls' := [some (.ref y0), none, some (.int y2)]) (st' := [.int y2]) (by decide +kernel) rfl ?_
        exact b_ret (i := (.ireturn, 0, 0, .null)) (by decide +kernel) rfl rfl (fit_I _)
    · refine b_run [(28, .iload_n 2, 0, 0, .null)] (pc' := 29) (ls' := [some (.ref y0), none, some (.int y2)]) (st' := [.int y2]) (by decide +kernel) rfl ?_
      exact b_ret (i := (.ireturn, 0, 0, .null)) (by decide +kernel) rfl rfl (fit_I _)
/-- TreeStore$Tree.behindAttributes(I)I -/
def f133 (F : Nat) (x0 : Nat) (x1 : Int32) (σ : St) : Rs := f133_4 F F x0 (x1 + 1) σ
theorem s133 {sc : aSc} (hv : vOk sc) (F : Nat) (x0 : Nat) (x1 : Int32) (σ : St) (hx0 : isO x0 8 = true) : bEx sc 0 133 0 [some (.ref x0), some (.int x1), none] [] σ (f133 F x0 x1 σ) := by
  unfold f133
  refine b_run [(0, .iload_n 1, 0, 0, .null), (1, .iconst 1, 0, 0, .null), (2, .iadd, 0, 0, .null), (3, .istore_n 2, 0, 0, .null)] (pc' := 4) (ls' := [some (.ref x0), some (.int x1), some (.int (x1 + 1))]) (st' := []) (by decide +kernel) rfl ?_
  exact b_wk (wS (wN (wS w0))) (s133_4 hv F F x0 (x1 + 1) σ hx0)
/-- TreeStore.numberAt(II)I -/
def f26 (F : Nat) (x1 : Int32) (x2 : Int32) (σ : St) : Rs := if x2 = 2 then oI x1 σ
    else if x2 = 0 then cI (f133 F 1003 x1 σ) fun c2 σ1 => oI c2 σ1
    else if inB x1 30 then lt (σ.1 1009 x1.toNatClampNeg) fun c3 => oI ((x1 + c3) + 1) σ else none
theorem s26 {sc : aSc} (hv : vOk sc) (F : Nat) (x1 : Int32) (x2 : Int32) (σ : St) : bEx sc 1 26 0 [some (.ref 1000), some (.int x1), some (.int x2)] [] σ (f26 F x1 x2 σ) := by
  unfold f26
  refine b_run [(0, .iload_n 2, 0, 0, .null), (1, .iconst 2, 0, 0, .null)] (pc' := 2) (ls' := [some (.ref 1000), some (.int x1), some (.int x2)]) (st' := [.int 2, .int x2]) (by decide +kernel) rfl ?_
  refine b_icF (c := .ne) (o := 5) (t := 7) (y := 0) (w := .null) (by decide +kernel) cmp_ne (fun _ => ?_) (fun _ => ?_)
  · refine b_run [(5, .iload_n 1, 0, 0, .null)] (pc' := 6) (ls' := [some (.ref 1000), some (.int x1), some (.int x2)]) (st' := [.int x1]) (by decide +kernel) rfl ?_
    exact b_ret (i := (.ireturn, 0, 0, .null)) (by decide +kernel) rfl rfl (fit_I _)
  · refine b_run [(7, .iload_n 2, 0, 0, .null)] (pc' := 8) (ls' := [some (.ref 1000), some (.int x1), some (.int x2)]) (st' := [.int x2]) (by decide +kernel) rfl ?_
    refine b_izF (c := .ne) (o := 14) (t := 22) (y := 0) (w := .null) (by decide +kernel) cmp_ne (fun _ => ?_) (fun _ => ?_)
    · refine b_run [(11, .aload_n 0, 0, 0, .null)] (pc' := 12) (ls' := [some (.ref 1000), some (.int x1), some (.int x2)]) (st' := [.ref 1000]) (by decide +kernel) rfl ?_
      refine b_getC (b := 1003) (q := 21) (ci := 0) (k := 1) (w := .null) (by decide +kernel) (by decide +kernel) ?_
      refine b_run [(15, .iload_n 1, 0, 0, .null)] (pc' := 16) (ls' := [some (.ref 1000), some (.int x1), some (.int x2)]) (st' := [.int x1, .ref 1003]) (by decide +kernel) rfl ?_
      refine b_callI 133 2 [.ref 1003, .int x1] (rest := []) (by decide +kernel) rfl rfl rfl (go_O rfl (by decide +kernel) (by decide +kernel : isO 1003 8 = true)) rfl (s133 hv F 1003 x1 σ (by decide +kernel : isO 1003 8 = true)) (by decide) (fun c2 σ1 => ?_)
      refine b_run [(19, .goto 16, 35, 0, .null)] (pc' := 35) (ls' := [some (.ref 1000), some (.int x1), some (.int x2)]) (st' := [.int c2]) (by decide +kernel) rfl ?_
      exact b_ret (i := (.ireturn, 0, 0, .null)) (by decide +kernel) rfl rfl (fit_I _)
    · refine b_run [(22, .iload_n 1, 0, 0, .null), (23, .aload_n 0, 0, 0, .null)] (pc' := 24) (ls' := [some (.ref 1000), some (.int x1), some (.int x2)]) (st' := [.ref 1000, .int x1]) (by decide +kernel) rfl ?_
      refine b_getC (b := 1003) (q := 21) (ci := 0) (k := 1) (w := .null) (by decide +kernel) (by decide +kernel) ?_
      refine b_getC (b := 1009) (q := 147) (ci := 8) (k := 5) (w := .null) (by decide +kernel) (by decide +kernel) ?_
      refine b_run [(30, .iload_n 1, 0, 0, .null)] (pc' := 31) (ls' := [some (.ref 1000), some (.int x1), some (.int x2)]) (st' := [.int x1, .ref 1009, .int x1]) (by decide +kernel) rfl ?_
      refine b_guard (fun hb => ?_)
      refine b_aI (ci := 0) (y := 0) (w := .null) (by decide +kernel) (by decide +kernel) hb (fun c3 => ?_)
      refine b_run [(32, .iadd, 0, 0, .null), (33, .iconst 1, 0, 0, .null), (34, .iadd, 0, 0, .null)] (pc' := 35) (ls' := [some (.ref 1000), some (.int x1), some (.int x2)]) (st' := [.int ((x1 + c3) + 1)]) (by decide +kernel) rfl ?_
      exact b_ret (i := (.ireturn, 0, 0, .null)) (by decide +kernel) rfl rfl (fit_I _)
/-- TreeStore$Tree.joinTexts(I)Z -/
def f140 (F : Nat) (x0 : Nat) (x1 : Int32) (σ : St) : Rs := if x1 < 0 then oI 0 σ
    else lt (σ.1 x0 10) fun c1 => 
    if x1 + 1 < c1 then 
    if inB x1 30 then lt (σ.1 (rfF x0 0) x1.toNatClampNeg) fun c2 => 
    if c2 = 3 then 
    if inB (x1 + 1) 30 then lt (σ.1 (rfF x0 0) (x1 + 1).toNatClampNeg) fun c3 => 
    if c3 = 3 then 
    if inB x1 30 then lt (σ.1 (rfF x0 1) x1.toNatClampNeg) fun c4 => 
    if inB (x1 + 1) 30 then lt (σ.1 (rfF x0 1) (x1 + 1).toNatClampNeg) fun c5 => 
    if c4 = c5 then 
    if inB x1 30 then lt (σ.1 (rfF x0 3) x1.toNatClampNeg) fun c6 => 
    if inB (x1 + 1) 30 then lt (σ.1 (rfF x0 3) (x1 + 1).toNatClampNeg) fun c7 => 
    if inB x1 30 then lt (uI σ (rfF x0 3) x1.toNatClampNeg (c6 + c7)) fun σ8 => 
    lt (σ8.1 x0 10) fun c9 => 
    cV (f139 F x0 x0 ((x1 + 1) + 1) (x1 + 1) ((c9 - (x1 + 1)) - 1) σ8) fun σ10 => lt (σ10.1 x0 10) fun c12 => lt (uI σ10 x0 10 (c12 - 1)) fun σ13 => cV (f125 F x0 σ13) fun σ14 => oI 1 σ14 else none else none else none
    else oI 0 σ else none else none
    else oI 0 σ else none
    else oI 0 σ else none
    else oI 0 σ
theorem s140 {sc : aSc} (hv : vOk sc) (F : Nat) (x0 : Nat) (x1 : Int32) (σ : St) (hx0 : isO x0 8 = true) : bEx sc 2 140 0 [some (.ref x0), some (.int x1), none] [] σ (f140 F x0 x1 σ) := by
  unfold f140
  refine b_run [(0, .iload_n 1, 0, 0, .null), (1, .iconst 1, 0, 0, .null), (2, .iadd, 0, 0, .null), (3, .istore_n 2, 0, 0, .null), (4, .iload_n 1, 0, 0, .null)] (pc' := 5) (ls' := [some (.ref x0), some (.int x1), some (.int (x1 + 1))]) (st' := [.int x1]) (by decide +kernel) rfl ?_
  refine b_izT (c := .lt) (o := 46) (t := 51) (y := 0) (w := .null) (by decide +kernel) cmp_lt (fun _ => ?_) (fun _ => ?_)
  · refine b_run [(51, .iconst 0, 0, 0, .null)] (pc' := 52) (ls' := [some (.ref x0), some (.int x1), some (.int (x1 + 1))]) (st' := [.int 0]) (by decide +kernel) rfl ?_
    exact b_ret (i := (.ireturn, 0, 0, .null)) (by decide +kernel) rfl rfl (by decide +kernel)
  · refine b_run [(8, .iload_n 2, 0, 0, .null), (9, .aload_n 0, 0, 0, .null)] (pc' := 10) (ls' := [some (.ref x0), some (.int x1), some (.int (x1 + 1))]) (st' := [.ref x0, .int (x1 + 1)]) (by decide +kernel) rfl ?_
    refine b_gI (q := 48) (ci := 8) (k := 10) (w := .null) (by decide +kernel) (fk_I8_10 hx0) (fun c1 => ?_)
    refine b_icF (c := .ge) (o := 38) (t := 51) (y := 0) (w := .null) (by decide +kernel) cmp_ge (fun _ => ?_) (fun _ => ?_)
    · refine b_run [(16, .aload_n 0, 0, 0, .null)] (pc' := 17) (ls' := [some (.ref x0), some (.int x1), some (.int (x1 + 1))]) (st' := [.ref x0]) (by decide +kernel) rfl ?_
      refine b_getC (q := 9) (ci := 8) (k := 0) (w := .null) (by decide +kernel) (fk_C8_0 hx0) ?_
      refine b_run [(20, .iload_n 1, 0, 0, .null)] (pc' := 21) (ls' := [some (.ref x0), some (.int x1), some (.int (x1 + 1))]) (st' := [.int x1, .ref ((rfF x0 0))]) (by decide +kernel) rfl ?_
      refine b_guard (fun hb => ?_)
      refine b_aI (ci := 0) (y := 0) (w := .null) (by decide +kernel) (fk_A8_0 hx0) hb (fun c2 => ?_)
      refine b_run [(22, .iconst 3, 0, 0, .null)] (pc' := 23) (ls' := [some (.ref x0), some (.int x1), some (.int (x1 + 1))]) (st' := [.int 3, .int c2]) (by decide +kernel) rfl ?_
      refine b_icF (c := .ne) (o := 28) (t := 51) (y := 0) (w := .null) (by decide +kernel) cmp_ne (fun _ => ?_) (fun _ => ?_)
      · refine b_run [(26, .aload_n 0, 0, 0, .null)] (pc' := 27) (ls' := [some (.ref x0), some (.int x1), some (.int (x1 + 1))]) (st' := [.ref x0]) (by decide +kernel) rfl ?_
        refine b_getC (q := 9) (ci := 8) (k := 0) (w := .null) (by decide +kernel) (fk_C8_0 hx0) ?_
        refine b_run [(30, .iload_n 2, 0, 0, .null)] (pc' := 31) (ls' := [some (.ref x0), some (.int x1), some (.int (x1 + 1))]) (st' := [.int (x1 + 1), .ref ((rfF x0 0))]) (by decide +kernel) rfl ?_
        refine b_guard (fun hb => ?_)
        refine b_aI (ci := 0) (y := 0) (w := .null) (by decide +kernel) (fk_A8_0 hx0) hb (fun c3 => ?_)
        refine b_run [(32, .iconst 3, 0, 0, .null)] (pc' := 33) (ls' := [some (.ref x0), some (.int x1), some (.int (x1 + 1))]) (st' := [.int 3, .int c3]) (by decide +kernel) rfl ?_
        refine b_icF (c := .ne) (o := 18) (t := 51) (y := 0) (w := .null) (by decide +kernel) cmp_ne (fun _ => ?_) (fun _ => ?_)
        · refine b_run [(36, .aload_n 0, 0, 0, .null)] (pc' := 37) (ls' := [some (.ref x0), some (.int x1), some (.int (x1 + 1))]) (st' := [.ref x0]) (by decide +kernel) rfl ?_
          refine b_getC (q := 15) (ci := 8) (k := 1) (w := .null) (by decide +kernel) (fk_C8_1 hx0) ?_
          refine b_run [(40, .iload_n 1, 0, 0, .null)] (pc' := 41) (ls' := [some (.ref x0), some (.int x1), some (.int (x1 + 1))]) (st' := [.int x1, .ref ((rfF x0 1))]) (by decide +kernel) rfl ?_
          refine b_guard (fun hb => ?_)
          refine b_aI (ci := 0) (y := 0) (w := .null) (by decide +kernel) (fk_A8_1 hx0) hb (fun c4 => ?_)
          refine b_run [(42, .aload_n 0, 0, 0, .null)] (pc' := 43) (ls' := [some (.ref x0), some (.int x1), some (.int (x1 + 1))]) (st' := [.ref x0, .int c4]) (by decide +kernel) rfl ?_
          refine b_getC (q := 15) (ci := 8) (k := 1) (w := .null) (by decide +kernel) (fk_C8_1 hx0) ?_
          refine b_run [(46, .iload_n 2, 0, 0, .null)] (pc' := 47) (ls' := [some (.ref x0), some (.int x1), some (.int (x1 + 1))]) (st' := [.int (x1 + 1), .ref ((rfF x0 1)), .int c4]) (by decide +kernel) rfl ?_
          refine b_guard (fun hb => ?_)
          refine b_aI (ci := 0) (y := 0) (w := .null) (by decide +kernel) (fk_A8_1 hx0) hb (fun c5 => ?_)
          refine b_icT (c := .eq) (o := 5) (t := 53) (y := 0) (w := .null) (by decide +kernel) cmp_eq (fun _ => ?_) (fun _ => ?_)
          · refine b_run [(53, .aload_n 0, 0, 0, .null)] (pc' := 54) (ls' := [some (.ref x0), some (.int x1), some (.int (x1 + 1))]) (st' := [.ref x0]) (by decide +kernel) rfl ?_
            refine b_getC (q := 21) (ci := 8) (k := 3) (w := .null) (by decide +kernel) (fk_C8_3 hx0) ?_
            refine b_run [(57, .iload_n 1, 0, 0, .null), (58, .dup2, 0, 0, .null)] (pc' := 59) (ls' := [some (.ref x0), some (.int x1), some (.int (x1 + 1))]) (st' := [.int x1, .ref ((rfF x0 3)), .int x1, .ref ((rfF x0 3))]) (by decide +kernel) rfl ?_
            refine b_guard (fun hb => ?_)
            refine b_aI (ci := 0) (y := 0) (w := .null) (by decide +kernel) (fk_A8_3 hx0) hb (fun c6 => ?_)
            refine b_run [(60, .aload_n 0, 0, 0, .null)] (pc' := 61) (ls' := [some (.ref x0), some (.int x1), some (.int (x1 + 1))]) (st' := [.ref x0, .int c6, .int x1, .ref ((rfF x0 3))]) (by decide +kernel) rfl ?_
            refine b_getC (q := 21) (ci := 8) (k := 3) (w := .null) (by decide +kernel) (fk_C8_3 hx0) ?_
            refine b_run [(64, .iload_n 2, 0, 0, .null)] (pc' := 65) (ls' := [some (.ref x0), some (.int x1), some (.int (x1 + 1))]) (st' := [.int (x1 + 1), .ref ((rfF x0 3)), .int c6, .int x1, .ref ((rfF x0 3))]) (by decide +kernel) rfl ?_
            refine b_guard (fun hb => ?_)
            refine b_aI (ci := 0) (y := 0) (w := .null) (by decide +kernel) (fk_A8_3 hx0) hb (fun c7 => ?_)
            refine b_run [(66, .iadd, 0, 0, .null)] (pc' := 67) (ls' := [some (.ref x0), some (.int x1), some (.int (x1 + 1))]) (st' := [.int (c6 + c7), .int x1, .ref ((rfF x0 3))]) (by decide +kernel) rfl ?_
            refine b_guard (fun hb => ?_)
            refine b_sI (ci := 0) (y := 0) (w := .null) (by decide +kernel) (fk_A8_3 hx0) hb (fun σ8 => ?_)
            refine b_run [(68, .aload_n 0, 0, 0, .null), (69, .aload_n 0, 0, 0, .null), (70, .iload_n 2, 0, 0, .null), (71, .iconst 1, 0, 0, .null), (72, .iadd, 0, 0, .null), (73, .iload_n 2, 0, 0, .null), (74, .aload_n 0, 0, 0, .null)] (pc' := 75) (ls' := [some (.ref x0), some (.int x1), some (.int (x1 + 1))]) (st' := [.ref x0, .int (x1 + 1), .int ((x1 + 1) + 1), .ref x0, .ref x0]) (by decide +kernel) rfl ?_
            refine b_gI (q := 48) (ci := 8) (k := 10) (w := .null) (by decide +kernel) (fk_I8_10 hx0) (fun c9 => ?_)
            refine b_run [(78, .iload_n 2, 0, 0, .null), (79, .isub, 0, 0, .null), (80, .iconst 1, 0, 0, .null), (81, .isub, 0, 0, .null)] (pc' := 82) (ls' := [some (.ref x0), some (.int x1), some (.int (x1 + 1))]) (st' := [.int ((c9 - (x1 + 1)) - 1), .int (x1 + 1), .int ((x1 + 1) + 1), .ref x0, .ref x0]) (by decide +kernel) rfl ?_
            refine b_callV 139 5 [.ref x0, .ref x0, .int ((x1 + 1) + 1), .int (x1 + 1), .int ((c9 - (x1 + 1)) - 1)] (rest := []) (by decide +kernel) rfl rfl rfl (go_O rfl (by decide +kernel) hx0) rfl (s139 hv F x0 x0 ((x1 + 1) + 1) (x1 + 1) ((c9 - (x1 + 1)) - 1) σ8 hx0 hx0) (by decide) (fun σ10 => ?_)
            refine b_run [(85, .aload_n 0, 0, 0, .null), (86, .dup, 0, 0, .null)] (pc' := 87) (ls' := [some (.ref x0), some (.int x1), some (.int (x1 + 1))]) (st' := [.ref x0, .ref x0]) (by decide +kernel) rfl ?_
            refine b_gI (q := 48) (ci := 8) (k := 10) (w := .null) (by decide +kernel) (fk_I8_10 hx0) (fun c12 => ?_)
            refine b_run [(90, .iconst 1, 0, 0, .null), (91, .isub, 0, 0, .null)] (pc' := 92) (ls' := [some (.ref x0), some (.int x1), some (.int (x1 + 1))]) (st' := [.int (c12 - 1), .ref x0]) (by decide +kernel) rfl ?_
            refine b_pI (q := 48) (ci := 8) (k := 10) (w := .null) (by decide +kernel) (fk_I8_10 hx0) (fit_I _) (fun σ13 => ?_)
            refine b_run [(95, .aload_n 0, 0, 0, .null)] (pc' := 96) (ls' := [some (.ref x0), some (.int x1), some (.int (x1 + 1))]) (st' := [.ref x0]) (by decide +kernel) rfl ?_
            refine b_callV 125 1 [.ref x0] (rest := []) (by decide +kernel) rfl rfl rfl (go_O rfl (by decide +kernel) hx0) rfl (s125 hv F x0 σ13 hx0) (by decide) (fun σ14 => ?_)
            refine b_run [(99, .iconst 1, 0, 0, .null)] (pc' := 100) (ls' := [some (.ref x0), some (.int x1), some (.int (x1 + 1))]) (st' := [.int 1]) (by decide +kernel) rfl ?_
            exact b_ret (i := (.ireturn, 0, 0, .null)) (by decide +kernel) rfl rfl (by decide +kernel)
          · refine b_run [(51, .iconst 0, 0, 0, .null)] (pc' := 52) (ls' := [some (.ref x0), some (.int x1), some (.int (x1 + 1))]) (st' := [.int 0]) (by decide +kernel) rfl ?_
            exact b_ret (i := (.ireturn, 0, 0, .null)) (by decide +kernel) rfl rfl (by decide +kernel)
        · refine b_run [(51, .iconst 0, 0, 0, .null)] (pc' := 52) (ls' := [some (.ref x0), some (.int x1), some (.int (x1 + 1))]) (st' := [.int 0]) (by decide +kernel) rfl ?_
          exact b_ret (i := (.ireturn, 0, 0, .null)) (by decide +kernel) rfl rfl (by decide +kernel)
      · refine b_run [(51, .iconst 0, 0, 0, .null)] (pc' := 52) (ls' := [some (.ref x0), some (.int x1), some (.int (x1 + 1))]) (st' := [.int 0]) (by decide +kernel) rfl ?_
        exact b_ret (i := (.ireturn, 0, 0, .null)) (by decide +kernel) rfl rfl (by decide +kernel)
    · refine b_run [(51, .iconst 0, 0, 0, .null)] (pc' := 52) (ls' := [some (.ref x0), some (.int x1), some (.int (x1 + 1))]) (st' := [.int 0]) (by decide +kernel) rfl ?_
      exact b_ret (i := (.ireturn, 0, 0, .null)) (by decide +kernel) rfl rfl (by decide +kernel)
/-- TreeStore$Tree.has(I)Z -/
def f128 (F : Nat) (x0 : Nat) (x1 : Int32) (σ : St) : Rs := if x1 < 0 then oI 0 σ
    else lt (σ.1 x0 10) fun c1 => 
    if x1 < c1 then oI 1 σ
    else oI 0 σ
theorem s128 {sc : aSc} (hv : vOk sc) (F : Nat) (x0 : Nat) (x1 : Int32) (σ : St) (hx0 : isO x0 8 = true) : bEx sc 0 128 0 [some (.ref x0), some (.int x1)] [] σ (f128 F x0 x1 σ) := by
  unfold f128
  refine b_run [(0, .iload_n 1, 0, 0, .null)] (pc' := 1) (ls' := [some (.ref x0), some (.int x1)]) (st' := [.int x1]) (by decide +kernel) rfl ?_
  refine b_izT (c := .lt) (o := 15) (t := 16) (y := 0) (w := .null) (by decide +kernel) cmp_lt (fun _ => ?_) (fun _ => ?_)
  · refine b_run [(16, .iconst 0, 0, 0, .null)] (pc' := 17) (ls' := [some (.ref x0), some (.int x1)]) (st' := [.int 0]) (by decide +kernel) rfl ?_
    exact b_ret (i := (.ireturn, 0, 0, .null)) (by decide +kernel) rfl rfl (by decide +kernel)
  · refine b_run [(4, .iload_n 1, 0, 0, .null), (5, .aload_n 0, 0, 0, .null)] (pc' := 6) (ls' := [some (.ref x0), some (.int x1)]) (st' := [.ref x0, .int x1]) (by decide +kernel) rfl ?_
    refine b_gI (q := 48) (ci := 8) (k := 10) (w := .null) (by decide +kernel) (fk_I8_10 hx0) (fun c1 => ?_)
    refine b_icF (c := .ge) (o := 7) (t := 16) (y := 0) (w := .null) (by decide +kernel) cmp_ge (fun _ => ?_) (fun _ => ?_)
    · refine b_run [(12, .iconst 1, 0, 0, .null), (13, .goto 4, 17, 0, .null)] (pc' := 17) (ls' := [some (.ref x0), some (.int x1)]) (st' := [.int 1]) (by decide +kernel) rfl ?_
      exact b_ret (i := (.ireturn, 0, 0, .null)) (by decide +kernel) rfl rfl (by decide +kernel)
    · refine b_run [(16, .iconst 0, 0, 0, .null)] (pc' := 17) (ls' := [some (.ref x0), some (.int x1)]) (st' := [.int 0]) (by decide +kernel) rfl ?_
      exact b_ret (i := (.ireturn, 0, 0, .null)) (by decide +kernel) rfl rfl (by decide +kernel)
def f25_22 (F : Nat) (y1 : Int32) (σ : St) : Rs := if inB y1 30 then lt (σ.1 1004 y1.toNatClampNeg) fun c3 => 
    if c3 = 1 then oI 1 σ
    else oI 0 σ else none
theorem s25_22 {sc : aSc} (hv : vOk sc) (F : Nat) (y1 : Int32) (σ : St) : bEx sc 1 25 22 [some (.ref 1000), some (.int y1), none] [] σ (f25_22 F y1 σ) := by
  unfold f25_22
  refine b_run [(22, .aload_n 0, 0, 0, .null)] (pc' := 23) (ls' := [some (.ref 1000), some (.int y1), none]) (st' := [.ref 1000]) (by decide +kernel) rfl ?_
  refine b_getC (b := 1003) (q := 21) (ci := 0) (k := 1) (w := .null) (by decide +kernel) (by decide +kernel) ?_
  refine b_getC (b := 1004) (q := 139) (ci := 8) (k := 0) (w := .null) (by decide +kernel) (by decide +kernel) ?_
  refine b_run [(29, .iload_n 1, 0, 0, .null)] (pc' := 30) (ls' := [some (.ref 1000), some (.int y1), none]) (st' := [.int y1, .ref 1004]) (by decide +kernel) rfl ?_
  refine b_guard (fun hb => ?_)
  refine b_aI (ci := 0) (y := 0) (w := .null) (by decide +kernel) (by decide +kernel) hb (fun c3 => ?_)
  refine b_run [(31, .iconst 1, 0, 0, .null)] (pc' := 32) (ls' := [some (.ref 1000), some (.int y1), none]) (st' := [.int 1, .int c3]) (by decide +kernel) rfl ?_
  refine b_icF (c := .ne) (o := 7) (t := 39) (y := 0) (w := .null) (by decide +kernel) cmp_ne (fun _ => ?_) (fun _ => ?_)
  · refine b_run [(35, .iconst 1, 0, 0, .null), (36, .goto 4, 40, 0, .null)] (pc' := 40) (ls' := [some (.ref 1000), some (.int y1), none]) (st' := [.int 1]) (by decide +kernel) rfl ?_
    exact b_ret (i := (.ireturn, 0, 0, .null)) (by decide +kernel) rfl rfl (by decide +kernel)
  · refine b_run [(39, .iconst 0, 0, 0, .null)] (pc' := 40) (ls' := [some (.ref 1000), some (.int y1), none]) (st' := [.int 0]) (by decide +kernel) rfl ?_
    exact b_ret (i := (.ireturn, 0, 0, .null)) (by decide +kernel) rfl rfl (by decide +kernel)
def f25_51 (F : Nat) (y1 : Int32) (σ : St) : Rs := if inB y1 30 then lt (σ.1 1004 y1.toNatClampNeg) fun c4 => 
    if c4 = 2 then oI 0 σ
    else if inB y1 30 then lt (σ.1 1005 y1.toNatClampNeg) fun c5 => 
    if 1 < c5 then oI 1 σ
    else oI 0 σ else none else none
theorem s25_51 {sc : aSc} (hv : vOk sc) (F : Nat) (y1 : Int32) (σ : St) : bEx sc 1 25 51 [some (.ref 1000), some (.int y1), none] [] σ (f25_51 F y1 σ) := by
  unfold f25_51
  refine b_run [(51, .aload_n 0, 0, 0, .null)] (pc' := 52) (ls' := [some (.ref 1000), some (.int y1), none]) (st' := [.ref 1000]) (by decide +kernel) rfl ?_
  refine b_getC (b := 1003) (q := 21) (ci := 0) (k := 1) (w := .null) (by decide +kernel) (by decide +kernel) ?_
  refine b_getC (b := 1004) (q := 139) (ci := 8) (k := 0) (w := .null) (by decide +kernel) (by decide +kernel) ?_
  refine b_run [(58, .iload_n 1, 0, 0, .null)] (pc' := 59) (ls' := [some (.ref 1000), some (.int y1), none]) (st' := [.int y1, .ref 1004]) (by decide +kernel) rfl ?_
  refine b_guard (fun hb => ?_)
  refine b_aI (ci := 0) (y := 0) (w := .null) (by decide +kernel) (by decide +kernel) hb (fun c4 => ?_)
  refine b_run [(60, .iconst 2, 0, 0, .null)] (pc' := 61) (ls' := [some (.ref 1000), some (.int y1), none]) (st' := [.int 2, .int c4]) (by decide +kernel) rfl ?_
  refine b_icT (c := .eq) (o := 20) (t := 81) (y := 0) (w := .null) (by decide +kernel) cmp_eq (fun _ => ?_) (fun _ => ?_)
  · refine b_run [(81, .iconst 0, 0, 0, .null)] (pc' := 82) (ls' := [some (.ref 1000), some (.int y1), none]) (st' := [.int 0]) (by decide +kernel) rfl ?_
    exact b_ret (i := (.ireturn, 0, 0, .null)) (by decide +kernel) rfl rfl (by decide +kernel)
  · refine b_run [(64, .aload_n 0, 0, 0, .null)] (pc' := 65) (ls' := [some (.ref 1000), some (.int y1), none]) (st' := [.ref 1000]) (by decide +kernel) rfl ?_
    refine b_getC (b := 1003) (q := 21) (ci := 0) (k := 1) (w := .null) (by decide +kernel) (by decide +kernel) ?_
    refine b_getC (b := 1005) (q := 111) (ci := 8) (k := 1) (w := .null) (by decide +kernel) (by decide +kernel) ?_
    refine b_run [(71, .iload_n 1, 0, 0, .null)] (pc' := 72) (ls' := [some (.ref 1000), some (.int y1), none]) (st' := [.int y1, .ref 1005]) (by decide +kernel) rfl ?_
    refine b_guard (fun hb => ?_)
    refine b_aI (ci := 0) (y := 0) (w := .null) (by decide +kernel) (by decide +kernel) hb (fun c5 => ?_)
    refine b_run [(73, .iconst 1, 0, 0, .null)] (pc' := 74) (ls' := [some (.ref 1000), some (.int y1), none]) (st' := [.int 1, .int c5]) (by decide +kernel) rfl ?_
    refine b_icF (c := .le) (o := 7) (t := 81) (y := 0) (w := .null) (by decide +kernel) cmp_le (fun _ => ?_) (fun _ => ?_)
    · refine b_run [(77, .iconst 1, 0, 0, .null), (78, .goto 4, 82, 0, .null)] (pc' := 82) (ls' := [some (.ref 1000), some (.int y1), none]) (st' := [.int 1]) (by decide +kernel) rfl ?_
      exact b_ret (i := (.ireturn, 0, 0, .null)) (by decide +kernel) rfl rfl (by decide +kernel)
    · refine b_run [(81, .iconst 0, 0, 0, .null)] (pc' := 82) (ls' := [some (.ref 1000), some (.int y1), none]) (st' := [.int 0]) (by decide +kernel) rfl ?_
      exact b_ret (i := (.ireturn, 0, 0, .null)) (by decide +kernel) rfl rfl (by decide +kernel)
/-- TreeStore.isPlace(II)Z -/
def f25 (F : Nat) (x1 : Int32) (x2 : Int32) (σ : St) : Rs := cI (f128 F 1003 x1 σ) fun c2 σ1 => 
    if c2 = 0 then oI 0 σ1
    else if x2 = 0 then f25_22 F x1 σ1
    else if x2 = 1 then f25_22 F x1 σ1
    else if x2 = 2 then f25_51 F x1 σ1
    else if x2 = 3 then f25_51 F x1 σ1
    else oI 0 σ1
theorem s25 {sc : aSc} (hv : vOk sc) (F : Nat) (x1 : Int32) (x2 : Int32) (σ : St) : bEx sc 1 25 0 [some (.ref 1000), some (.int x1), some (.int x2)] [] σ (f25 F x1 x2 σ) := by
  unfold f25
  refine b_run [(0, .aload_n 0, 0, 0, .null)] (pc' := 1) (ls' := [some (.ref 1000), some (.int x1), some (.int x2)]) (st' := [.ref 1000]) (by decide +kernel) rfl ?_
  refine b_getC (b := 1003) (q := 21) (ci := 0) (k := 1) (w := .null) (by decide +kernel) (by decide +kernel) ?_
  refine b_run [(4, .iload_n 1, 0, 0, .null)] (pc' := 5) (ls' := [some (.ref 1000), some (.int x1), some (.int x2)]) (st' := [.int x1, .ref 1003]) (by decide +kernel) rfl ?_
  refine b_callI 128 2 [.ref 1003, .int x1] (rest := []) (by decide +kernel) rfl rfl rfl (go_O rfl (by decide +kernel) (by decide +kernel : isO 1003 8 = true)) rfl (s128 hv F 1003 x1 σ (by decide +kernel : isO 1003 8 = true)) (by decide) (fun c2 σ1 => ?_)
  refine b_izF (c := .ne) (o := 5) (t := 13) (y := 0) (w := .null) (by decide +kernel) cmp_ne (fun _ => ?_) (fun _ => ?_)
  · refine b_run [(11, .iconst 0, 0, 0, .null)] (pc' := 12) (ls' := [some (.ref 1000), some (.int x1), some (.int x2)]) (st' := [.int 0]) (by decide +kernel) rfl ?_
    exact b_ret (i := (.ireturn, 0, 0, .null)) (by decide +kernel) rfl rfl (by decide +kernel)
  · refine b_run [(13, .iload_n 2, 0, 0, .null)] (pc' := 14) (ls' := [some (.ref 1000), some (.int x1), some (.int x2)]) (st' := [.int x2]) (by decide +kernel) rfl ?_
    refine b_izT (c := .eq) (o := 8) (t := 22) (y := 0) (w := .null) (by decide +kernel) cmp_eq (fun _ => ?_) (fun _ => ?_)
    · exact b_wk (wS (wS (wN w0))) (s25_22 hv F x1 σ1)
    · refine b_run [(17, .iload_n 2, 0, 0, .null), (18, .iconst 1, 0, 0, .null)] (pc' := 19) (ls' := [some (.ref 1000), some (.int x1), some (.int x2)]) (st' := [.int 1, .int x2]) (by decide +kernel) rfl ?_
      refine b_icF (c := .ne) (o := 22) (t := 41) (y := 0) (w := .null) (by decide +kernel) cmp_ne (fun _ => ?_) (fun _ => ?_)
      · exact b_wk (wS (wS (wN w0))) (s25_22 hv F x1 σ1)
      · refine b_run [(41, .iload_n 2, 0, 0, .null), (42, .iconst 2, 0, 0, .null)] (pc' := 43) (ls' := [some (.ref 1000), some (.int x1), some (.int x2)]) (st' := [.int 2, .int x2]) (by decide +kernel) rfl ?_
        refine b_icT (c := .eq) (o := 8) (t := 51) (y := 0) (w := .null) (by decide +kernel) cmp_eq (fun _ => ?_) (fun _ => ?_)
        · exact b_wk (wS (wS (wN w0))) (s25_51 hv F x1 σ1)
        · refine b_run [(46, .iload_n 2, 0, 0, .null), (47, .iconst 3, 0, 0, .null)] (pc' := 48) (ls' := [some (.ref 1000), some (.int x1), some (.int x2)]) (st' := [.int 3, .int x2]) (by decide +kernel) rfl ?_
          refine b_icF (c := .ne) (o := 35) (t := 83) (y := 0) (w := .null) (by decide +kernel) cmp_ne (fun _ => ?_) (fun _ => ?_)
          · exact b_wk (wS (wS (wN w0))) (s25_51 hv F x1 σ1)
          · refine b_run [(83, .iconst 0, 0, 0, .null)] (pc' := 84) (ls' := [some (.ref 1000), some (.int x1), some (.int x2)]) (st' := [.int 0]) (by decide +kernel) rfl ?_
            exact b_ret (i := (.ireturn, 0, 0, .null)) (by decide +kernel) rfl rfl (by decide +kernel)
/-- TreeStore$TextReader.readPiece(II)V -/
def f122 (F : Nat) (x1 : Int32) (x2 : Int32) (σ : St) : Rs := cV (f106 F x2 σ) fun σ1 => cV (f118 F (r118 F 12) x1 σ1) fun σ3 => cV (f121 F σ3) fun σ5 => oV σ5
theorem s122 {sc : aSc} (hv : vOk sc) (F : Nat) (x1 : Int32) (x2 : Int32) (σ : St) : bEx sc 47 122 0 [some (.ref 1029), some (.int x1), some (.int x2)] [] σ (f122 F x1 x2 σ) := by
  unfold f122
  refine b_run [(0, .aload_n 0, 0, 0, .null), (1, .iload_n 2, 0, 0, .null)] (pc' := 2) (ls' := [some (.ref 1029), some (.int x1), some (.int x2)]) (st' := [.int x2, .ref 1029]) (by decide +kernel) rfl ?_
  refine b_callV 106 2 [.ref 1029, .int x2] (rest := []) (by decide +kernel) rfl rfl rfl (go_O rfl (by decide +kernel) (by decide +kernel : isO 1029 7 = true)) rfl (s106 hv F x2 σ) (by decide) (fun σ1 => ?_)
  refine b_run [(5, .aload_n 0, 0, 0, .null), (6, .iload_n 1, 0, 0, .null)] (pc' := 7) (ls' := [some (.ref 1029), some (.int x1), some (.int x2)]) (st' := [.int x1, .ref 1029]) (by decide +kernel) rfl ?_
  refine b_callV 118 2 [.ref 1029, .int x1] (rest := []) (by decide +kernel) rfl rfl rfl (go_O rfl (by decide +kernel) (by decide +kernel : isO 1029 7 = true)) rfl (s118 hv F _ (by decide) (r118 F 12) (t118 hv F 12) x1 σ1) (by decide) (fun σ3 => ?_)
  refine b_run [(10, .aload_n 0, 0, 0, .null)] (pc' := 11) (ls' := [some (.ref 1029), some (.int x1), some (.int x2)]) (st' := [.ref 1029]) (by decide +kernel) rfl ?_
  refine b_callV 121 1 [.ref 1029] (rest := []) (by decide +kernel) rfl rfl rfl (go_O rfl (by decide +kernel) (by decide +kernel : isO 1029 7 = true)) rfl (s121 hv F σ3) (by decide) (fun σ5 => ?_)
  exact b_ret0 (i := (.return_, 0, 0, .null)) (by decide +kernel) rfl rfl
def f24_56 (F : Nat) (y1 : Int32) (y2 : Int32) (z1 : Int32) (z2 : Int32) (σ : St) : Rs := lt (σ.1 1003 10) fun c4 => 
    cV (f122 F (z1 + z2) (30 - c4) σ) fun σ5 => 
    cI (f138 F 1003 1016 σ5) fun c8 σ7 => 
    if c8 = 0 then oT 11 σ7
    else cI (f26 F y1 y2 σ7) fun c10 σ9 => 
    cV (f137 F 1003 c10 1016 σ9) fun σ11 => 
    cV (f91 F 1001 σ11) fun σ13 => 
    lt (uI σ13 1000 7 0) fun σ15 => 
    cI (f140 F 1003 c10 σ15) fun c17 σ16 => 
    cI (f140 F 1003 (c10 - 1) σ16) fun c19 σ18 => 
    if c19 = 0 then oI c10 σ18
    else oI (c10 - 1) σ18
theorem s24_56 {sc : aSc} (hv : vOk sc) (F : Nat) (y1 : Int32) (y2 : Int32) (z1 : Int32) (z2 : Int32) (σ : St) : bEx sc 48 24 56 [some (.ref 1000), some (.int y1), some (.int y2), none, none] [.int z2, .int z1, .ref 1029] σ (f24_56 F y1 y2 z1 z2 σ) := by
  unfold f24_56
  refine b_run [(56, .iadd, 0, 0, .null), (57, .bipush 30, 0, 0, .null), (59, .aload_n 0, 0, 0, .null)] (pc' := 60) (ls' := [some (.ref 1000), some (.int y1), some (.int y2), none, none]) (st' := [.ref 1000, .int 30, .int (z1 + z2), .ref 1029]) (by decide +kernel) rfl ?_
  refine b_getC (b := 1003) (q := 21) (ci := 0) (k := 1) (w := .null) (by decide +kernel) (by decide +kernel) ?_
  refine b_gI (q := 97) (ci := 8) (k := 10) (w := .null) (by decide +kernel) (by decide +kernel) (fun c4 => ?_)
  refine b_run [(66, .isub, 0, 0, .null)] (pc' := 67) (ls' := [some (.ref 1000), some (.int y1), some (.int y2), none, none]) (st' := [.int (30 - c4), .int (z1 + z2), .ref 1029]) (by decide +kernel) rfl ?_
  refine b_callV 122 3 [.ref 1029, .int (z1 + z2), .int (30 - c4)] (rest := []) (by decide +kernel) rfl rfl rfl (go_O rfl (by decide +kernel) (by decide +kernel : isO 1029 7 = true)) rfl (s122 hv F (z1 + z2) (30 - c4) σ) (by decide) (fun σ5 => ?_)
  refine b_run [(70, .aload_n 0, 0, 0, .null)] (pc' := 71) (ls' := [some (.ref 1000), some (.int y1), some (.int y2), none, none]) (st' := [.ref 1000]) (by decide +kernel) rfl ?_
  refine b_getC (b := 1003) (q := 21) (ci := 0) (k := 1) (w := .null) (by decide +kernel) (by decide +kernel) ?_
  refine b_run [(74, .aload_n 0, 0, 0, .null)] (pc' := 75) (ls' := [some (.ref 1000), some (.int y1), some (.int y2), none, none]) (st' := [.ref 1000, .ref 1003]) (by decide +kernel) rfl ?_
  refine b_getC (b := 1016) (q := 25) (ci := 0) (k := 2) (w := .null) (by decide +kernel) (by decide +kernel) ?_
  refine b_callI 138 2 [.ref 1003, .ref 1016] (rest := []) (by decide +kernel) rfl rfl rfl (go_O rfl (by decide +kernel) (by decide +kernel : isO 1003 8 = true)) rfl (s138 hv F 1003 1016 σ5 (by decide +kernel : isO 1003 8 = true) (by decide +kernel : isO 1016 8 = true)) (by decide) (fun c8 σ7 => ?_)
  refine b_izF (c := .ne) (o := 13) (t := 94) (y := 0) (w := .null) (by decide +kernel) cmp_ne (fun _ => ?_) (fun _ => ?_)
  · exact b_thr (i := (.new 122, 11, 1, .null)) (by decide +kernel) rfl rfl rfl
  · refine b_run [(94, .aload_n 0, 0, 0, .null), (95, .iload_n 1, 0, 0, .null), (96, .iload_n 2, 0, 0, .null)] (pc' := 97) (ls' := [some (.ref 1000), some (.int y1), some (.int y2), none, none]) (st' := [.int y2, .int y1, .ref 1000]) (by decide +kernel) rfl ?_
    refine b_callI 26 3 [.ref 1000, .int y1, .int y2] (rest := []) (by decide +kernel) rfl rfl rfl (go_O rfl (by decide +kernel) (by decide +kernel : isO 1000 0 = true)) rfl (s26 hv F y1 y2 σ7) (by decide) (fun c10 σ9 => ?_)
    refine b_run [(100, .istore 4, 0, 0, .null), (102, .aload_n 0, 0, 0, .null)] (pc' := 103) (ls' := [some (.ref 1000), some (.int y1), some (.int y2), none, some (.int c10)]) (st' := [.ref 1000]) (by decide +kernel) rfl ?_
    refine b_getC (b := 1003) (q := 21) (ci := 0) (k := 1) (w := .null) (by decide +kernel) (by decide +kernel) ?_
    refine b_run [(106, .iload 4, 0, 0, .null), (108, .aload_n 0, 0, 0, .null)] (pc' := 109) (ls' := [some (.ref 1000), some (.int y1), some (.int y2), none, some (.int c10)]) (st' := [.ref 1000, .int c10, .ref 1003]) (by decide +kernel) rfl ?_
    refine b_getC (b := 1016) (q := 25) (ci := 0) (k := 2) (w := .null) (by decide +kernel) (by decide +kernel) ?_
    refine b_callV 137 3 [.ref 1003, .int c10, .ref 1016] (rest := []) (by decide +kernel) rfl rfl rfl (go_O rfl (by decide +kernel) (by decide +kernel : isO 1003 8 = true)) rfl (s137 hv F 1003 c10 1016 σ9 (by decide +kernel : isO 1003 8 = true) (by decide +kernel : isO 1016 8 = true)) (by decide) (fun σ11 => ?_)
    refine b_run [(115, .aload_n 0, 0, 0, .null)] (pc' := 116) (ls' := [some (.ref 1000), some (.int y1), some (.int y2), none, some (.int c10)]) (st' := [.ref 1000]) (by decide +kernel) rfl ?_
    refine b_getC (b := 1001) (q := 14) (ci := 0) (k := 0) (w := .null) (by decide +kernel) (by decide +kernel) ?_
    refine b_callV 91 1 [.ref 1001] (rest := []) (by decide +kernel) rfl rfl rfl (go_O rfl (by decide +kernel) (by decide +kernel : isO 1001 5 = true)) rfl (s91 hv F 1001 σ11 (by decide +kernel : isO 1001 5 = true)) (by decide) (fun σ13 => ?_)
    refine b_run [(122, .aload_n 0, 0, 0, .null), (123, .iconst 0, 0, 0, .null)] (pc' := 124) (ls' := [some (.ref 1000), some (.int y1), some (.int y2), none, some (.int c10)]) (st' := [.int 0, .ref 1000]) (by decide +kernel) rfl ?_
    refine b_pI (q := 62) (ci := 0) (k := 7) (w := .null) (by decide +kernel) (by decide +kernel) (fit_I _) (fun σ15 => ?_)
    refine b_run [(127, .aload_n 0, 0, 0, .null)] (pc' := 128) (ls' := [some (.ref 1000), some (.int y1), some (.int y2), none, some (.int c10)]) (st' := [.ref 1000]) (by decide +kernel) rfl ?_
    refine b_getC (b := 1003) (q := 21) (ci := 0) (k := 1) (w := .null) (by decide +kernel) (by decide +kernel) ?_
    refine b_run [(131, .iload 4, 0, 0, .null)] (pc' := 133) (ls' := [some (.ref 1000), some (.int y1), some (.int y2), none, some (.int c10)]) (st' := [.int c10, .ref 1003]) (by decide +kernel) rfl ?_
    refine b_callI 140 2 [.ref 1003, .int c10] (rest := []) (by decide +kernel) rfl rfl rfl (go_O rfl (by decide +kernel) (by decide +kernel : isO 1003 8 = true)) rfl (s140 hv F 1003 c10 σ15 (by decide +kernel : isO 1003 8 = true)) (by decide) (fun c17 σ16 => ?_)
    refine b_run [(136, .pop, 0, 0, .null), (137, .aload_n 0, 0, 0, .null)] (pc' := 138) (ls' := [some (.ref 1000), some (.int y1), some (.int y2), none, some (.int c10)]) (st' := [.ref 1000]) (by decide +kernel) rfl ?_
    refine b_getC (b := 1003) (q := 21) (ci := 0) (k := 1) (w := .null) (by decide +kernel) (by decide +kernel) ?_
    refine b_run [(141, .iload 4, 0, 0, .null), (143, .iconst 1, 0, 0, .null), (144, .isub, 0, 0, .null)] (pc' := 145) (ls' := [some (.ref 1000), some (.int y1), some (.int y2), none, some (.int c10)]) (st' := [.int (c10 - 1), .ref 1003]) (by decide +kernel) rfl ?_
    refine b_callI 140 2 [.ref 1003, .int (c10 - 1)] (rest := []) (by decide +kernel) rfl rfl rfl (go_O rfl (by decide +kernel) (by decide +kernel : isO 1003 8 = true)) rfl (s140 hv F 1003 (c10 - 1) σ16 (by decide +kernel : isO 1003 8 = true)) (by decide) (fun c19 σ18 => ?_)
    refine b_izT (c := .eq) (o := 10) (t := 158) (y := 0) (w := .null) (by decide +kernel) cmp_eq (fun _ => ?_) (fun _ => ?_)
    · refine b_run [(158, .iload 4, 0, 0, .null)] (pc' := 160) (ls' := [some (.ref 1000), some (.int y1), some (.int y2), none, some (.int c10)]) (st' := [.int c10]) (by decide +kernel) rfl ?_
      exact b_ret (i := (.ireturn, 0, 0, .null)) (by decide +kernel) rfl rfl (fit_I _)
    · refine b_run [(151, .iload 4, 0, 0, .null), (153, .iconst 1, 0, 0, .null), (154, .isub, 0, 0, .null), (155, .goto 5, 160, 0, .null)] (pc' := 160) (ls' := [some (.ref 1000), some (.int y1), some (.int y2), none, some (.int c10)]) (st' := [.int (c10 - 1)]) (by decide +kernel) rfl ?_
      exact b_ret (i := (.ireturn, 0, 0, .null)) (by decide +kernel) rfl rfl (fit_I _)
def f24_33 (F : Nat) (y1 : Int32) (y2 : Int32) (z0 : Int32) (σ : St) : Rs := if inB y1 30 then lt (σ.1 1005 y1.toNatClampNeg) fun c3 => 
    if z0 = 0 then f24_56 F y1 y2 c3 0 σ
    else f24_56 F y1 y2 c3 1 σ else none
theorem s24_33 {sc : aSc} (hv : vOk sc) (F : Nat) (y1 : Int32) (y2 : Int32) (z0 : Int32) (σ : St) : bEx sc 48 24 33 [some (.ref 1000), some (.int y1), some (.int y2), none, none] [.int z0] σ (f24_33 F y1 y2 z0 σ) := by
  unfold f24_33
  refine b_run [(33, .istore_n 3, 0, 0, .null), (34, .aload_n 0, 0, 0, .null)] (pc' := 35) (ls' := [some (.ref 1000), some (.int y1), some (.int y2), some (.int z0), none]) (st' := [.ref 1000]) (by decide +kernel) rfl ?_
  refine b_getC (b := 1029) (q := 33) (ci := 0) (k := 3) (w := .null) (by decide +kernel) (by decide +kernel) ?_
  refine b_run [(38, .aload_n 0, 0, 0, .null)] (pc' := 39) (ls' := [some (.ref 1000), some (.int y1), some (.int y2), some (.int z0), none]) (st' := [.ref 1000, .ref 1029]) (by decide +kernel) rfl ?_
  refine b_getC (b := 1003) (q := 21) (ci := 0) (k := 1) (w := .null) (by decide +kernel) (by decide +kernel) ?_
  refine b_getC (b := 1005) (q := 111) (ci := 8) (k := 1) (w := .null) (by decide +kernel) (by decide +kernel) ?_
  refine b_run [(45, .iload_n 1, 0, 0, .null)] (pc' := 46) (ls' := [some (.ref 1000), some (.int y1), some (.int y2), some (.int z0), none]) (st' := [.int y1, .ref 1005, .ref 1029]) (by decide +kernel) rfl ?_
  refine b_guard (fun hb => ?_)
  refine b_aI (ci := 0) (y := 0) (w := .null) (by decide +kernel) (by decide +kernel) hb (fun c3 => ?_)
  refine b_run [(47, .iload_n 3, 0, 0, .null)] (pc' := 48) (ls' := [some (.ref 1000), some (.int y1), some (.int y2), some (.int z0), none]) (st' := [.int z0, .int c3, .ref 1029]) (by decide +kernel) rfl ?_
  refine b_izT (c := .eq) (o := 7) (t := 55) (y := 0) (w := .null) (by decide +kernel) cmp_eq (fun _ => ?_) (fun _ => ?_)
  · refine b_run [(55, .iconst 0, 0, 0, .null)] (pc' := 56) (ls' := [some (.ref 1000), some (.int y1), some (.int y2), some (.int z0), none]) (st' := [.int 0, .int c3, .ref 1029]) (by decide +kernel) rfl ?_
    exact b_wk (wS (wS (wS (wN (wN w0))))) (s24_56 hv F y1 y2 c3 0 σ)
  · refine b_run [(51, .iconst 1, 0, 0, .null), (52, .goto 4, 56, 0, .null)] (pc' := 56) (ls' := [some (.ref 1000), some (.int y1), some (.int y2), some (.int z0), none]) (st' := [.int 1, .int c3, .ref 1029]) (by decide +kernel) rfl ?_
    exact b_wk (wS (wS (wS (wN (wN w0))))) (s24_56 hv F y1 y2 c3 1 σ)
def f24_28 (F : Nat) (y1 : Int32) (y2 : Int32) (σ : St) : Rs := f24_33 F y1 y2 1 σ
theorem s24_28 {sc : aSc} (hv : vOk sc) (F : Nat) (y1 : Int32) (y2 : Int32) (σ : St) : bEx sc 48 24 28 [some (.ref 1000), some (.int y1), some (.int y2), none, none] [] σ (f24_28 F y1 y2 σ) := by
  unfold f24_28
  refine b_run [(28, .iconst 1, 0, 0, .null), (29, .goto 4, 33, 0, .null)] (pc' := 33) (ls' := [some (.ref 1000), some (.int y1), some (.int y2), none, none]) (st' := [.int 1]) (by decide +kernel) rfl ?_
  exact b_wk (wS (wS (wS (wN (wN w0))))) (s24_33 hv F y1 y2 1 σ)
/-- TreeStore.insert(II)I -/
def f24 (F : Nat) (x1 : Int32) (x2 : Int32) (σ : St) : Rs := cI (f25 F x1 x2 σ) fun c2 σ1 => 
    if c2 = 0 then oT 12 σ1
    else if x2 = 0 then f24_28 F x1 x2 σ1
    else if x2 = 1 then f24_28 F x1 x2 σ1
    else f24_33 F x1 x2 0 σ1
theorem s24 {sc : aSc} (hv : vOk sc) (F : Nat) (x1 : Int32) (x2 : Int32) (σ : St) : bEx sc 48 24 0 [some (.ref 1000), some (.int x1), some (.int x2), none, none] [] σ (f24 F x1 x2 σ) := by
  unfold f24
  refine b_run [(0, .aload_n 0, 0, 0, .null), (1, .iload_n 1, 0, 0, .null), (2, .iload_n 2, 0, 0, .null)] (pc' := 3) (ls' := [some (.ref 1000), some (.int x1), some (.int x2), none, none]) (st' := [.int x2, .int x1, .ref 1000]) (by decide +kernel) rfl ?_
  refine b_callI 25 3 [.ref 1000, .int x1, .int x2] (rest := []) (by decide +kernel) rfl rfl rfl (go_O rfl (by decide +kernel) (by decide +kernel : isO 1000 0 = true)) rfl (s25 hv F x1 x2 σ) (by decide) (fun c2 σ1 => ?_)
  refine b_izF (c := .ne) (o := 13) (t := 19) (y := 0) (w := .null) (by decide +kernel) cmp_ne (fun _ => ?_) (fun _ => ?_)
  · exact b_thr (i := (.new 104, 12, 1, .null)) (by decide +kernel) rfl rfl rfl
  · refine b_run [(19, .iload_n 2, 0, 0, .null)] (pc' := 20) (ls' := [some (.ref 1000), some (.int x1), some (.int x2), none, none]) (st' := [.int x2]) (by decide +kernel) rfl ?_
    refine b_izT (c := .eq) (o := 8) (t := 28) (y := 0) (w := .null) (by decide +kernel) cmp_eq (fun _ => ?_) (fun _ => ?_)
    · exact b_wk (wS (wS (wS (wN (wN w0))))) (s24_28 hv F x1 x2 σ1)
    · refine b_run [(23, .iload_n 2, 0, 0, .null), (24, .iconst 1, 0, 0, .null)] (pc' := 25) (ls' := [some (.ref 1000), some (.int x1), some (.int x2), none, none]) (st' := [.int 1, .int x2]) (by decide +kernel) rfl ?_
      refine b_icF (c := .ne) (o := 7) (t := 32) (y := 0) (w := .null) (by decide +kernel) cmp_ne (fun _ => ?_) (fun _ => ?_)
      · exact b_wk (wS (wS (wS (wN (wN w0))))) (s24_28 hv F x1 x2 σ1)
      · refine b_run [(32, .iconst 0, 0, 0, .null)] (pc' := 33) (ls' := [some (.ref 1000), some (.int x1), some (.int x2), none, none]) (st' := [.int 0]) (by decide +kernel) rfl ?_
        exact b_wk (wS (wS (wS (wN (wN w0))))) (s24_33 hv F x1 x2 0 σ1)
/-- TreeStoreLaw.insert(LTreeStore;II[J)I -/
def f4 (F : Nat) (x1 : Int32) (x2 : Int32) (σ : St) : Rs := cHI (f24 F x1 x2 σ) (fun c2 σ1 => if inB 0 1 then lt (uJ σ1 1361 (0 : Int32).toNatClampNeg ((c2 : Int32).toInt64)) fun σ3 => oI 0 σ3 else none)
    (fun e τ => if e = 12 then (fun σ5 => oI 1 σ5) τ else if e = 10 then (fun σ7 => oI 2 σ7) τ else if e = 13 then (fun σ9 => oI 3 σ9) τ else if e = 11 then (fun σ11 => oI 4 σ11) τ else none)
theorem s4 {sc : aSc} (hv : vOk sc) (F : Nat) (x1 : Int32) (x2 : Int32) (σ : St) : bEx sc 49 4 0 [some (.ref 1000), some (.int x1), some (.int x2), some (.ref 1361), none] [] σ (f4 F x1 x2 σ) := by
  unfold f4
  refine b_run [(0, .aload_n 3, 0, 0, .null), (1, .iconst 0, 0, 0, .null), (2, .aload_n 0, 0, 0, .null), (3, .iload_n 1, 0, 0, .null), (4, .iload_n 2, 0, 0, .null)] (pc' := 5) (ls' := [some (.ref 1000), some (.int x1), some (.int x2), some (.ref 1361), none]) (st' := [.int x2, .int x1, .ref 1000, .int 0, .ref 1361]) (by decide +kernel) rfl ?_
  refine b_callHI 24 3 [.ref 1000, .int x1, .int x2] (rest := [.int 0, .ref 1361]) (by decide +kernel) rfl rfl rfl rfl (go_O rfl (by decide +kernel) (by decide +kernel : isO 1000 0 = true)) rfl (s24 hv F x1 x2 σ) (by decide) (fun c2 σ1 => ?_) ?_
  · refine b_run [(8, .i2l, 0, 0, .null)] (pc' := 9) (ls' := [some (.ref 1000), some (.int x1), some (.int x2), some (.ref 1361), none]) (st' := [.long ((c2 : Int32).toInt64), .int 0, .ref 1361]) (by decide +kernel) rfl ?_
    refine b_guard (fun hb => ?_)
    refine b_sL (ci := 0) (y := 0) (w := .null) (by decide +kernel) (by decide +kernel) hb (fun σ3 => ?_)
    refine b_run [(10, .goto 19, 29, 0, .null), (29, .iconst 0, 0, 0, .null)] (pc' := 30) (ls' := [some (.ref 1000), some (.int x1), some (.int x2), some (.ref 1361), none]) (st' := [.int 0]) (by decide +kernel) rfl ?_
    exact b_ret (i := (.ireturn, 0, 0, .null)) (by decide +kernel) rfl rfl (fit_I _)
  refine hd_cons (by decide) (fun e4 σ5 => ?_) ?_
  · refine b_run [(13, .astore 4, 0, 0, .null), (15, .iconst 1, 0, 0, .null)] (pc' := 16) (ls' := [some (.ref 1000), some (.int x1), some (.int x2), some (.ref 1361), some (.ref e4)]) (st' := [.int 1]) (by decide +kernel) rfl ?_
    exact b_ret (i := (.ireturn, 0, 0, .null)) (by decide +kernel) rfl rfl (fit_I _)
  refine hd_cons (by decide) (fun e6 σ7 => ?_) ?_
  · refine b_run [(17, .astore 4, 0, 0, .null), (19, .iconst 2, 0, 0, .null)] (pc' := 20) (ls' := [some (.ref 1000), some (.int x1), some (.int x2), some (.ref 1361), some (.ref e6)]) (st' := [.int 2]) (by decide +kernel) rfl ?_
    exact b_ret (i := (.ireturn, 0, 0, .null)) (by decide +kernel) rfl rfl (fit_I _)
  refine hd_cons (by decide) (fun e8 σ9 => ?_) ?_
  · refine b_run [(21, .astore 4, 0, 0, .null), (23, .iconst 3, 0, 0, .null)] (pc' := 24) (ls' := [some (.ref 1000), some (.int x1), some (.int x2), some (.ref 1361), some (.ref e8)]) (st' := [.int 3]) (by decide +kernel) rfl ?_
    exact b_ret (i := (.ireturn, 0, 0, .null)) (by decide +kernel) rfl rfl (fit_I _)
  refine hd_cons (by decide) (fun e10 σ11 => ?_) ?_
  · refine b_run [(25, .astore 4, 0, 0, .null), (27, .iconst 4, 0, 0, .null)] (pc' := 28) (ls' := [some (.ref 1000), some (.int x1), some (.int x2), some (.ref 1361), some (.ref e10)]) (st' := [.int 4]) (by decide +kernel) rfl ?_
    exact b_ret (i := (.ireturn, 0, 0, .null)) (by decide +kernel) rfl rfl (fit_I _)
  exact hd_nil
/-- TreeStore$Row.cut(II)V -/
def f98 (F : Nat) (x0 : Nat) (x1 : Int32) (x2 : Int32) (σ : St) : Rs := if x2 < 0 then oV σ
    else if x1 < 0 then oV σ
    else lt (σ.1 x0 1) fun c1 => 
    if c1 < x1 + x2 then oV σ
    else lt (σ.1 x0 1) fun c2 => 
    if cpB (x1 + x2) x1 ((c2 - x1) - x2) (laN ((rfF x0 0))) (laN ((rfF x0 0))) then lt (uF σ (rfF x0 0) (va_cpy (σ.1 (rfF x0 0)) (σ.1 (rfF x0 0)) (x1 + x2).toNatClampNeg x1.toNatClampNeg ((c2 - x1) - x2).toNatClampNeg)) fun σ3 => lt (σ3.1 x0 1) fun c4 => lt (uI σ3 x0 1 (c4 - x2)) fun σ5 => oV σ5 else none
theorem s98 {sc : aSc} (hv : vOk sc) (F : Nat) (x0 : Nat) (x1 : Int32) (x2 : Int32) (σ : St) (hx0 : isO x0 5 = true) : bEx sc 1 98 0 [some (.ref x0), some (.int x1), some (.int x2)] [] σ (f98 F x0 x1 x2 σ) := by
  unfold f98
  refine b_run [(0, .iload_n 2, 0, 0, .null)] (pc' := 1) (ls' := [some (.ref x0), some (.int x1), some (.int x2)]) (st' := [.int x2]) (by decide +kernel) rfl ?_
  refine b_izT (c := .lt) (o := 17) (t := 18) (y := 0) (w := .null) (by decide +kernel) cmp_lt (fun _ => ?_) (fun _ => ?_)
  · exact b_ret0 (i := (.return_, 0, 0, .null)) (by decide +kernel) rfl rfl
  · refine b_run [(4, .iload_n 1, 0, 0, .null)] (pc' := 5) (ls' := [some (.ref x0), some (.int x1), some (.int x2)]) (st' := [.int x1]) (by decide +kernel) rfl ?_
    refine b_izT (c := .lt) (o := 13) (t := 18) (y := 0) (w := .null) (by decide +kernel) cmp_lt (fun _ => ?_) (fun _ => ?_)
    · exact b_ret0 (i := (.return_, 0, 0, .null)) (by decide +kernel) rfl rfl
    · refine b_run [(8, .iload_n 1, 0, 0, .null), (9, .iload_n 2, 0, 0, .null), (10, .iadd, 0, 0, .null), (11, .aload_n 0, 0, 0, .null)] (pc' := 12) (ls' := [some (.ref x0), some (.int x1), some (.int x2)]) (st' := [.ref x0, .int (x1 + x2)]) (by decide +kernel) rfl ?_
      refine b_gI (q := 15) (ci := 5) (k := 1) (w := .null) (by decide +kernel) (fk_I5_1 hx0) (fun c1 => ?_)
      refine b_icF (c := .le) (o := 4) (t := 19) (y := 0) (w := .null) (by decide +kernel) cmp_le (fun _ => ?_) (fun _ => ?_)
      · exact b_ret0 (i := (.return_, 0, 0, .null)) (by decide +kernel) rfl rfl
      · refine b_run [(19, .aload_n 0, 0, 0, .null)] (pc' := 20) (ls' := [some (.ref x0), some (.int x1), some (.int x2)]) (st' := [.ref x0]) (by decide +kernel) rfl ?_
        refine b_getC (q := 9) (ci := 5) (k := 0) (w := .null) (by decide +kernel) (fk_C5_0 hx0) ?_
        refine b_run [(23, .iload_n 1, 0, 0, .null), (24, .iload_n 2, 0, 0, .null), (25, .iadd, 0, 0, .null), (26, .aload_n 0, 0, 0, .null)] (pc' := 27) (ls' := [some (.ref x0), some (.int x1), some (.int x2)]) (st' := [.ref x0, .int (x1 + x2), .ref ((rfF x0 0))]) (by decide +kernel) rfl ?_
        refine b_getC (q := 9) (ci := 5) (k := 0) (w := .null) (by decide +kernel) (fk_C5_0 hx0) ?_
        refine b_run [(30, .iload_n 1, 0, 0, .null), (31, .aload_n 0, 0, 0, .null)] (pc' := 32) (ls' := [some (.ref x0), some (.int x1), some (.int x2)]) (st' := [.ref x0, .int x1, .ref ((rfF x0 0)), .int (x1 + x2), .ref ((rfF x0 0))]) (by decide +kernel) rfl ?_
        refine b_gI (q := 15) (ci := 5) (k := 1) (w := .null) (by decide +kernel) (fk_I5_1 hx0) (fun c2 => ?_)
        refine b_run [(35, .iload_n 1, 0, 0, .null), (36, .isub, 0, 0, .null), (37, .iload_n 2, 0, 0, .null), (38, .isub, 0, 0, .null)] (pc' := 39) (ls' := [some (.ref x0), some (.int x1), some (.int x2)]) (st' := [.int ((c2 - x1) - x2), .int x1, .ref ((rfF x0 0)), .int (x1 + x2), .ref ((rfF x0 0))]) (by decide +kernel) rfl ?_
        refine b_guard (fun hb => ?_)
        refine b_cp (t := 1) (rest := []) (by decide +kernel) rfl (fk_A5_0 hx0) (fk_A5_0 hx0) (by decide) hb (fun σ3 => ?_)
        refine b_run [(42, .aload_n 0, 0, 0, .null), (43, .dup, 0, 0, .null)] (pc' := 44) (ls' := [some (.ref x0), some (.int x1), some (.int x2)]) (st' := [.ref x0, .ref x0]) (by decide +kernel) rfl ?_
        refine b_gI (q := 15) (ci := 5) (k := 1) (w := .null) (by decide +kernel) (fk_I5_1 hx0) (fun c4 => ?_)
        refine b_run [(47, .iload_n 2, 0, 0, .null), (48, .isub, 0, 0, .null)] (pc' := 49) (ls' := [some (.ref x0), some (.int x1), some (.int x2)]) (st' := [.int (c4 - x2), .ref x0]) (by decide +kernel) rfl ?_
        refine b_pI (q := 15) (ci := 5) (k := 1) (w := .null) (by decide +kernel) (fk_I5_1 hx0) (fit_I _) (fun σ5 => ?_)
        exact b_ret0 (i := (.return_, 0, 0, .null)) (by decide +kernel) rfl rfl
/-- TreeStore$Tree.takeOut(II)V -/
def f141 (F : Nat) (x0 : Nat) (x1 : Int32) (x2 : Int32) (σ : St) : Rs := if x1 < 0 then oV σ
    else if x2 < 0 then oV σ
    else lt (σ.1 x0 10) fun c1 => 
    if c1 < x1 + x2 then oV σ
    else if inB x1 31 then lt (σ.1 (rfF x0 6) x1.toNatClampNeg) fun c2 => 
    if inB (x1 + x2) 31 then lt (σ.1 (rfF x0 6) (x1 + x2).toNatClampNeg) fun c3 => 
    if inB x1 31 then lt (σ.1 (rfF x0 6) x1.toNatClampNeg) fun c4 => 
    cV (f98 F ((rfF x0 8)) c2 (c3 - c4) σ) fun σ5 => 
    if inB x1 31 then lt (σ5.1 (rfF x0 7) x1.toNatClampNeg) fun c7 => 
    if inB (x1 + x2) 31 then lt (σ5.1 (rfF x0 7) (x1 + x2).toNatClampNeg) fun c8 => 
    if inB x1 31 then lt (σ5.1 (rfF x0 7) x1.toNatClampNeg) fun c9 => 
    cV (f98 F ((rfF x0 9)) c7 (c8 - c9) σ5) fun σ10 => 
    lt (σ10.1 x0 10) fun c12 => 
    cV (f139 F x0 x0 (x1 + x2) x1 ((c12 - x1) - x2) σ10) fun σ13 => lt (σ13.1 x0 10) fun c15 => lt (uI σ13 x0 10 (c15 - x2)) fun σ16 => cV (f125 F x0 σ16) fun σ17 => oV σ17 else none else none else none else none else none else none
theorem s141 {sc : aSc} (hv : vOk sc) (F : Nat) (x0 : Nat) (x1 : Int32) (x2 : Int32) (σ : St) (hx0 : isO x0 8 = true) : bEx sc 2 141 0 [some (.ref x0), some (.int x1), some (.int x2)] [] σ (f141 F x0 x1 x2 σ) := by
  unfold f141
  refine b_run [(0, .iload_n 1, 0, 0, .null)] (pc' := 1) (ls' := [some (.ref x0), some (.int x1), some (.int x2)]) (st' := [.int x1]) (by decide +kernel) rfl ?_
  refine b_izT (c := .lt) (o := 17) (t := 18) (y := 0) (w := .null) (by decide +kernel) cmp_lt (fun _ => ?_) (fun _ => ?_)
  · exact b_ret0 (i := (.return_, 0, 0, .null)) (by decide +kernel) rfl rfl
  · refine b_run [(4, .iload_n 2, 0, 0, .null)] (pc' := 5) (ls' := [some (.ref x0), some (.int x1), some (.int x2)]) (st' := [.int x2]) (by decide +kernel) rfl ?_
    refine b_izT (c := .lt) (o := 13) (t := 18) (y := 0) (w := .null) (by decide +kernel) cmp_lt (fun _ => ?_) (fun _ => ?_)
    · exact b_ret0 (i := (.return_, 0, 0, .null)) (by decide +kernel) rfl rfl
    · refine b_run [(8, .iload_n 1, 0, 0, .null), (9, .iload_n 2, 0, 0, .null), (10, .iadd, 0, 0, .null), (11, .aload_n 0, 0, 0, .null)] (pc' := 12) (ls' := [some (.ref x0), some (.int x1), some (.int x2)]) (st' := [.ref x0, .int (x1 + x2)]) (by decide +kernel) rfl ?_
      refine b_gI (q := 48) (ci := 8) (k := 10) (w := .null) (by decide +kernel) (fk_I8_10 hx0) (fun c1 => ?_)
      refine b_icF (c := .le) (o := 4) (t := 19) (y := 0) (w := .null) (by decide +kernel) cmp_le (fun _ => ?_) (fun _ => ?_)
      · exact b_ret0 (i := (.return_, 0, 0, .null)) (by decide +kernel) rfl rfl
      · refine b_run [(19, .aload_n 0, 0, 0, .null)] (pc' := 20) (ls' := [some (.ref x0), some (.int x1), some (.int x2)]) (st' := [.ref x0]) (by decide +kernel) rfl ?_
        refine b_getC (q := 41) (ci := 8) (k := 8) (w := .null) (by decide +kernel) (fk_C8_8 hx0) ?_
        refine b_run [(23, .aload_n 0, 0, 0, .null)] (pc' := 24) (ls' := [some (.ref x0), some (.int x1), some (.int x2)]) (st' := [.ref x0, .ref ((rfF x0 8))]) (by decide +kernel) rfl ?_
        refine b_getC (q := 30) (ci := 8) (k := 6) (w := .null) (by decide +kernel) (fk_C8_6 hx0) ?_
        refine b_run [(27, .iload_n 1, 0, 0, .null)] (pc' := 28) (ls' := [some (.ref x0), some (.int x1), some (.int x2)]) (st' := [.int x1, .ref ((rfF x0 6)), .ref ((rfF x0 8))]) (by decide +kernel) rfl ?_
        refine b_guard (fun hb => ?_)
        refine b_aI (ci := 0) (y := 0) (w := .null) (by decide +kernel) (fk_A8_6 hx0) hb (fun c2 => ?_)
        refine b_run [(29, .aload_n 0, 0, 0, .null)] (pc' := 30) (ls' := [some (.ref x0), some (.int x1), some (.int x2)]) (st' := [.ref x0, .int c2, .ref ((rfF x0 8))]) (by decide +kernel) rfl ?_
        refine b_getC (q := 30) (ci := 8) (k := 6) (w := .null) (by decide +kernel) (fk_C8_6 hx0) ?_
        refine b_run [(33, .iload_n 1, 0, 0, .null), (34, .iload_n 2, 0, 0, .null), (35, .iadd, 0, 0, .null)] (pc' := 36) (ls' := [some (.ref x0), some (.int x1), some (.int x2)]) (st' := [.int (x1 + x2), .ref ((rfF x0 6)), .int c2, .ref ((rfF x0 8))]) (by decide +kernel) rfl ?_
        refine b_guard (fun hb => ?_)
        refine b_aI (ci := 0) (y := 0) (w := .null) (by decide +kernel) (fk_A8_6 hx0) hb (fun c3 => ?_)
        refine b_run [(37, .aload_n 0, 0, 0, .null)] (pc' := 38) (ls' := [some (.ref x0), some (.int x1), some (.int x2)]) (st' := [.ref x0, .int c3, .int c2, .ref ((rfF x0 8))]) (by decide +kernel) rfl ?_
        refine b_getC (q := 30) (ci := 8) (k := 6) (w := .null) (by decide +kernel) (fk_C8_6 hx0) ?_
        refine b_run [(41, .iload_n 1, 0, 0, .null)] (pc' := 42) (ls' := [some (.ref x0), some (.int x1), some (.int x2)]) (st' := [.int x1, .ref ((rfF x0 6)), .int c3, .int c2, .ref ((rfF x0 8))]) (by decide +kernel) rfl ?_
        refine b_guard (fun hb => ?_)
        refine b_aI (ci := 0) (y := 0) (w := .null) (by decide +kernel) (fk_A8_6 hx0) hb (fun c4 => ?_)
        refine b_run [(43, .isub, 0, 0, .null)] (pc' := 44) (ls' := [some (.ref x0), some (.int x1), some (.int x2)]) (st' := [.int (c3 - c4), .int c2, .ref ((rfF x0 8))]) (by decide +kernel) rfl ?_
        refine b_callV 98 3 [.ref ((rfF x0 8)), .int c2, .int (c3 - c4)] (rest := []) (by decide +kernel) rfl rfl rfl (go_O rfl (by decide +kernel) (fk_O8_8 hx0)) rfl (s98 hv F ((rfF x0 8)) c2 (c3 - c4) σ (fk_O8_8 hx0)) (by decide) (fun σ5 => ?_)
        refine b_run [(47, .aload_n 0, 0, 0, .null)] (pc' := 48) (ls' := [some (.ref x0), some (.int x1), some (.int x2)]) (st' := [.ref x0]) (by decide +kernel) rfl ?_
        refine b_getC (q := 45) (ci := 8) (k := 9) (w := .null) (by decide +kernel) (fk_C8_9 hx0) ?_
        refine b_run [(51, .aload_n 0, 0, 0, .null)] (pc' := 52) (ls' := [some (.ref x0), some (.int x1), some (.int x2)]) (st' := [.ref x0, .ref ((rfF x0 9))]) (by decide +kernel) rfl ?_
        refine b_getC (q := 33) (ci := 8) (k := 7) (w := .null) (by decide +kernel) (fk_C8_7 hx0) ?_
        refine b_run [(55, .iload_n 1, 0, 0, .null)] (pc' := 56) (ls' := [some (.ref x0), some (.int x1), some (.int x2)]) (st' := [.int x1, .ref ((rfF x0 7)), .ref ((rfF x0 9))]) (by decide +kernel) rfl ?_
        refine b_guard (fun hb => ?_)
        refine b_aI (ci := 0) (y := 0) (w := .null) (by decide +kernel) (fk_A8_7 hx0) hb (fun c7 => ?_)
        refine b_run [(57, .aload_n 0, 0, 0, .null)] (pc' := 58) (ls' := [some (.ref x0), some (.int x1), some (.int x2)]) (st' := [.ref x0, .int c7, .ref ((rfF x0 9))]) (by decide +kernel) rfl ?_
        refine b_getC (q := 33) (ci := 8) (k := 7) (w := .null) (by decide +kernel) (fk_C8_7 hx0) ?_
        refine b_run [(61, .iload_n 1, 0, 0, .null), (62, .iload_n 2, 0, 0, .null), (63, .iadd, 0, 0, .null)] (pc' := 64) (ls' := [some (.ref x0), some (.int x1), some (.int x2)]) (st' := [.int (x1 + x2), .ref ((rfF x0 7)), .int c7, .ref ((rfF x0 9))]) (by decide +kernel) rfl ?_
        refine b_guard (fun hb => ?_)
        refine b_aI (ci := 0) (y := 0) (w := .null) (by decide +kernel) (fk_A8_7 hx0) hb (fun c8 => ?_)
        refine b_run [(65, .aload_n 0, 0, 0, .null)] (pc' := 66) (ls' := [some (.ref x0), some (.int x1), some (.int x2)]) (st' := [.ref x0, .int c8, .int c7, .ref ((rfF x0 9))]) (by decide +kernel) rfl ?_
        refine b_getC (q := 33) (ci := 8) (k := 7) (w := .null) (by decide +kernel) (fk_C8_7 hx0) ?_
        refine b_run [(69, .iload_n 1, 0, 0, .null)] (pc' := 70) (ls' := [some (.ref x0), some (.int x1), some (.int x2)]) (st' := [.int x1, .ref ((rfF x0 7)), .int c8, .int c7, .ref ((rfF x0 9))]) (by decide +kernel) rfl ?_
        refine b_guard (fun hb => ?_)
        refine b_aI (ci := 0) (y := 0) (w := .null) (by decide +kernel) (fk_A8_7 hx0) hb (fun c9 => ?_)
        refine b_run [(71, .isub, 0, 0, .null)] (pc' := 72) (ls' := [some (.ref x0), some (.int x1), some (.int x2)]) (st' := [.int (c8 - c9), .int c7, .ref ((rfF x0 9))]) (by decide +kernel) rfl ?_
        refine b_callV 98 3 [.ref ((rfF x0 9)), .int c7, .int (c8 - c9)] (rest := []) (by decide +kernel) rfl rfl rfl (go_O rfl (by decide +kernel) (fk_O8_9 hx0)) rfl (s98 hv F ((rfF x0 9)) c7 (c8 - c9) σ5 (fk_O8_9 hx0)) (by decide) (fun σ10 => ?_)
        refine b_run [(75, .aload_n 0, 0, 0, .null), (76, .aload_n 0, 0, 0, .null), (77, .iload_n 1, 0, 0, .null), (78, .iload_n 2, 0, 0, .null), (79, .iadd, 0, 0, .null), (80, .iload_n 1, 0, 0, .null), (81, .aload_n 0, 0, 0, .null)] (pc' := 82) (ls' := [some (.ref x0), some (.int x1), some (.int x2)]) (st' := [.ref x0, .int x1, .int (x1 + x2), .ref x0, .ref x0]) (by decide +kernel) rfl ?_
        refine b_gI (q := 48) (ci := 8) (k := 10) (w := .null) (by decide +kernel) (fk_I8_10 hx0) (fun c12 => ?_)
        refine b_run [(85, .iload_n 1, 0, 0, .null), (86, .isub, 0, 0, .null), (87, .iload_n 2, 0, 0, .null), (88, .isub, 0, 0, .null)] (pc' := 89) (ls' := [some (.ref x0), some (.int x1), some (.int x2)]) (st' := [.int ((c12 - x1) - x2), .int x1, .int (x1 + x2), .ref x0, .ref x0]) (by decide +kernel) rfl ?_
        refine b_callV 139 5 [.ref x0, .ref x0, .int (x1 + x2), .int x1, .int ((c12 - x1) - x2)] (rest := []) (by decide +kernel) rfl rfl rfl (go_O rfl (by decide +kernel) hx0) rfl (s139 hv F x0 x0 (x1 + x2) x1 ((c12 - x1) - x2) σ10 hx0 hx0) (by decide) (fun σ13 => ?_)
        refine b_run [(92, .aload_n 0, 0, 0, .null), (93, .dup, 0, 0, .null)] (pc' := 94) (ls' := [some (.ref x0), some (.int x1), some (.int x2)]) (st' := [.ref x0, .ref x0]) (by decide +kernel) rfl ?_
        refine b_gI (q := 48) (ci := 8) (k := 10) (w := .null) (by decide +kernel) (fk_I8_10 hx0) (fun c15 => ?_)
        refine b_run [(97, .iload_n 2, 0, 0, .null), (98, .isub, 0, 0, .null)] (pc' := 99) (ls' := [some (.ref x0), some (.int x1), some (.int x2)]) (st' := [.int (c15 - x2), .ref x0]) (by decide +kernel) rfl ?_
        refine b_pI (q := 48) (ci := 8) (k := 10) (w := .null) (by decide +kernel) (fk_I8_10 hx0) (fit_I _) (fun σ16 => ?_)
        refine b_run [(102, .aload_n 0, 0, 0, .null)] (pc' := 103) (ls' := [some (.ref x0), some (.int x1), some (.int x2)]) (st' := [.ref x0]) (by decide +kernel) rfl ?_
        refine b_callV 125 1 [.ref x0] (rest := []) (by decide +kernel) rfl rfl rfl (go_O rfl (by decide +kernel) hx0) rfl (s125 hv F x0 σ16 hx0) (by decide) (fun σ17 => ?_)
        exact b_ret0 (i := (.return_, 0, 0, .null)) (by decide +kernel) rfl rfl
def f27_60 (F : Nat) (y1 : Int32) (σ : St) : Rs := lt (σ.1 1003 10) fun c5 => 
    if inB y1 30 then lt (σ.1 1009 y1.toNatClampNeg) fun c6 => 
    cV (f141 F 1003 y1 (c6 + 1) σ) fun σ7 => 
    cI (f140 F 1003 (y1 - 1) σ7) fun c10 σ9 => lt (uI σ9 1000 7 0) fun σ11 => lt (σ11.1 1003 10) fun c12 => oI (c5 - c12) σ11 else none
theorem s27_60 {sc : aSc} (hv : vOk sc) (F : Nat) (y1 : Int32) (σ : St) : bEx sc 3 27 60 [some (.ref 1000), some (.int y1), none] [] σ (f27_60 F y1 σ) := by
  unfold f27_60
  refine b_run [(60, .aload_n 0, 0, 0, .null)] (pc' := 61) (ls' := [some (.ref 1000), some (.int y1), none]) (st' := [.ref 1000]) (by decide +kernel) rfl ?_
  refine b_getC (b := 1003) (q := 21) (ci := 0) (k := 1) (w := .null) (by decide +kernel) (by decide +kernel) ?_
  refine b_gI (q := 97) (ci := 8) (k := 10) (w := .null) (by decide +kernel) (by decide +kernel) (fun c5 => ?_)
  refine b_run [(67, .istore_n 2, 0, 0, .null), (68, .aload_n 0, 0, 0, .null)] (pc' := 69) (ls' := [some (.ref 1000), some (.int y1), some (.int c5)]) (st' := [.ref 1000]) (by decide +kernel) rfl ?_
  refine b_getC (b := 1003) (q := 21) (ci := 0) (k := 1) (w := .null) (by decide +kernel) (by decide +kernel) ?_
  refine b_run [(72, .iload_n 1, 0, 0, .null), (73, .aload_n 0, 0, 0, .null)] (pc' := 74) (ls' := [some (.ref 1000), some (.int y1), some (.int c5)]) (st' := [.ref 1000, .int y1, .ref 1003]) (by decide +kernel) rfl ?_
  refine b_getC (b := 1003) (q := 21) (ci := 0) (k := 1) (w := .null) (by decide +kernel) (by decide +kernel) ?_
  refine b_getC (b := 1009) (q := 147) (ci := 8) (k := 5) (w := .null) (by decide +kernel) (by decide +kernel) ?_
  refine b_run [(80, .iload_n 1, 0, 0, .null)] (pc' := 81) (ls' := [some (.ref 1000), some (.int y1), some (.int c5)]) (st' := [.int y1, .ref 1009, .int y1, .ref 1003]) (by decide +kernel) rfl ?_
  refine b_guard (fun hb => ?_)
  refine b_aI (ci := 0) (y := 0) (w := .null) (by decide +kernel) (by decide +kernel) hb (fun c6 => ?_)
  refine b_run [(82, .iconst 1, 0, 0, .null), (83, .iadd, 0, 0, .null)] (pc' := 84) (ls' := [some (.ref 1000), some (.int y1), some (.int c5)]) (st' := [.int (c6 + 1), .int y1, .ref 1003]) (by decide +kernel) rfl ?_
  refine b_callV 141 3 [.ref 1003, .int y1, .int (c6 + 1)] (rest := []) (by decide +kernel) rfl rfl rfl (go_O rfl (by decide +kernel) (by decide +kernel : isO 1003 8 = true)) rfl (s141 hv F 1003 y1 (c6 + 1) σ (by decide +kernel : isO 1003 8 = true)) (by decide) (fun σ7 => ?_)
  refine b_run [(87, .aload_n 0, 0, 0, .null)] (pc' := 88) (ls' := [some (.ref 1000), some (.int y1), some (.int c5)]) (st' := [.ref 1000]) (by decide +kernel) rfl ?_
  refine b_getC (b := 1003) (q := 21) (ci := 0) (k := 1) (w := .null) (by decide +kernel) (by decide +kernel) ?_
  refine b_run [(91, .iload_n 1, 0, 0, .null), (92, .iconst 1, 0, 0, .null), (93, .isub, 0, 0, .null)] (pc' := 94) (ls' := [some (.ref 1000), some (.int y1), some (.int c5)]) (st' := [.int (y1 - 1), .ref 1003]) (by decide +kernel) rfl ?_
  refine b_callI 140 2 [.ref 1003, .int (y1 - 1)] (rest := []) (by decide +kernel) rfl rfl rfl (go_O rfl (by decide +kernel) (by decide +kernel : isO 1003 8 = true)) rfl (s140 hv F 1003 (y1 - 1) σ7 (by decide +kernel : isO 1003 8 = true)) (by decide) (fun c10 σ9 => ?_)
  refine b_run [(97, .pop, 0, 0, .null), (98, .aload_n 0, 0, 0, .null), (99, .iconst 0, 0, 0, .null)] (pc' := 100) (ls' := [some (.ref 1000), some (.int y1), some (.int c5)]) (st' := [.int 0, .ref 1000]) (by decide +kernel) rfl ?_
  refine b_pI (q := 62) (ci := 0) (k := 7) (w := .null) (by decide +kernel) (by decide +kernel) (fit_I _) (fun σ11 => ?_)
  refine b_run [(103, .iload_n 2, 0, 0, .null), (104, .aload_n 0, 0, 0, .null)] (pc' := 105) (ls' := [some (.ref 1000), some (.int y1), some (.int c5)]) (st' := [.ref 1000, .int c5]) (by decide +kernel) rfl ?_
  refine b_getC (b := 1003) (q := 21) (ci := 0) (k := 1) (w := .null) (by decide +kernel) (by decide +kernel) ?_
  refine b_gI (q := 97) (ci := 8) (k := 10) (w := .null) (by decide +kernel) (by decide +kernel) (fun c12 => ?_)
  refine b_run [(111, .isub, 0, 0, .null)] (pc' := 112) (ls' := [some (.ref 1000), some (.int y1), some (.int c5)]) (st' := [.int (c5 - c12)]) (by decide +kernel) rfl ?_
  exact b_ret (i := (.ireturn, 0, 0, .null)) (by decide +kernel) rfl rfl (fit_I _)
/-- TreeStore.delete(I)I -/
def f27 (F : Nat) (x1 : Int32) (σ : St) : Rs := cI (f128 F 1003 x1 σ) fun c2 σ1 => 
    if c2 = 0 then oT 12 σ1
    else if x1 = 0 then oT 11 σ1
    else if inB x1 30 then lt (σ1.1 1004 x1.toNatClampNeg) fun c3 => 
    if c3 = 1 then 
    if inB x1 30 then lt (σ1.1 1008 x1.toNatClampNeg) fun c4 => 
    if c4 = 0 then oT 11 σ1
    else f27_60 F x1 σ1 else none
    else f27_60 F x1 σ1 else none
theorem s27 {sc : aSc} (hv : vOk sc) (F : Nat) (x1 : Int32) (σ : St) : bEx sc 3 27 0 [some (.ref 1000), some (.int x1), none] [] σ (f27 F x1 σ) := by
  unfold f27
  refine b_run [(0, .aload_n 0, 0, 0, .null)] (pc' := 1) (ls' := [some (.ref 1000), some (.int x1), none]) (st' := [.ref 1000]) (by decide +kernel) rfl ?_
  refine b_getC (b := 1003) (q := 21) (ci := 0) (k := 1) (w := .null) (by decide +kernel) (by decide +kernel) ?_
  refine b_run [(4, .iload_n 1, 0, 0, .null)] (pc' := 5) (ls' := [some (.ref 1000), some (.int x1), none]) (st' := [.int x1, .ref 1003]) (by decide +kernel) rfl ?_
  refine b_callI 128 2 [.ref 1003, .int x1] (rest := []) (by decide +kernel) rfl rfl rfl (go_O rfl (by decide +kernel) (by decide +kernel : isO 1003 8 = true)) rfl (s128 hv F 1003 x1 σ (by decide +kernel : isO 1003 8 = true)) (by decide) (fun c2 σ1 => ?_)
  refine b_izF (c := .ne) (o := 13) (t := 21) (y := 0) (w := .null) (by decide +kernel) cmp_ne (fun _ => ?_) (fun _ => ?_)
  · exact b_thr (i := (.new 104, 12, 1, .null)) (by decide +kernel) rfl rfl rfl
  · refine b_run [(21, .iload_n 1, 0, 0, .null)] (pc' := 22) (ls' := [some (.ref 1000), some (.int x1), none]) (st' := [.int x1]) (by decide +kernel) rfl ?_
    refine b_izT (c := .eq) (o := 28) (t := 50) (y := 0) (w := .null) (by decide +kernel) cmp_eq (fun _ => ?_) (fun _ => ?_)
    · exact b_thr (i := (.new 122, 11, 1, .null)) (by decide +kernel) rfl rfl rfl
    · refine b_run [(25, .aload_n 0, 0, 0, .null)] (pc' := 26) (ls' := [some (.ref 1000), some (.int x1), none]) (st' := [.ref 1000]) (by decide +kernel) rfl ?_
      refine b_getC (b := 1003) (q := 21) (ci := 0) (k := 1) (w := .null) (by decide +kernel) (by decide +kernel) ?_
      refine b_getC (b := 1004) (q := 139) (ci := 8) (k := 0) (w := .null) (by decide +kernel) (by decide +kernel) ?_
      refine b_run [(32, .iload_n 1, 0, 0, .null)] (pc' := 33) (ls' := [some (.ref 1000), some (.int x1), none]) (st' := [.int x1, .ref 1004]) (by decide +kernel) rfl ?_
      refine b_guard (fun hb => ?_)
      refine b_aI (ci := 0) (y := 0) (w := .null) (by decide +kernel) (by decide +kernel) hb (fun c3 => ?_)
      refine b_run [(34, .iconst 1, 0, 0, .null)] (pc' := 35) (ls' := [some (.ref 1000), some (.int x1), none]) (st' := [.int 1, .int c3]) (by decide +kernel) rfl ?_
      refine b_icF (c := .ne) (o := 25) (t := 60) (y := 0) (w := .null) (by decide +kernel) cmp_ne (fun _ => ?_) (fun _ => ?_)
      · refine b_run [(38, .aload_n 0, 0, 0, .null)] (pc' := 39) (ls' := [some (.ref 1000), some (.int x1), none]) (st' := [.ref 1000]) (by decide +kernel) rfl ?_
        refine b_getC (b := 1003) (q := 21) (ci := 0) (k := 1) (w := .null) (by decide +kernel) (by decide +kernel) ?_
        refine b_getC (b := 1008) (q := 142) (ci := 8) (k := 4) (w := .null) (by decide +kernel) (by decide +kernel) ?_
        refine b_run [(45, .iload_n 1, 0, 0, .null)] (pc' := 46) (ls' := [some (.ref 1000), some (.int x1), none]) (st' := [.int x1, .ref 1008]) (by decide +kernel) rfl ?_
        refine b_guard (fun hb => ?_)
        refine b_aI (ci := 0) (y := 0) (w := .null) (by decide +kernel) (by decide +kernel) hb (fun c4 => ?_)
        refine b_izF (c := .ne) (o := 13) (t := 60) (y := 0) (w := .null) (by decide +kernel) cmp_ne (fun _ => ?_) (fun _ => ?_)
        · exact b_thr (i := (.new 122, 11, 1, .null)) (by decide +kernel) rfl rfl rfl
        · exact b_wk (wS (wS (wN w0))) (s27_60 hv F x1 σ1)
      · exact b_wk (wS (wS (wN w0))) (s27_60 hv F x1 σ1)
/-- TreeStoreLaw.delete(LTreeStore;I[J)I -/
def f5 (F : Nat) (x1 : Int32) (σ : St) : Rs := cHI (f27 F x1 σ) (fun c2 σ1 => if inB 0 1 then lt (uJ σ1 1361 (0 : Int32).toNatClampNeg ((c2 : Int32).toInt64)) fun σ3 => oI 0 σ3 else none)
    (fun e τ => if e = 12 then (fun σ5 => oI 1 σ5) τ else if e = 11 then (fun σ7 => oI 2 σ7) τ else none)
theorem s5 {sc : aSc} (hv : vOk sc) (F : Nat) (x1 : Int32) (σ : St) : bEx sc 4 5 0 [some (.ref 1000), some (.int x1), some (.ref 1361), none] [] σ (f5 F x1 σ) := by
  unfold f5
  refine b_run [(0, .aload_n 2, 0, 0, .null), (1, .iconst 0, 0, 0, .null), (2, .aload_n 0, 0, 0, .null), (3, .iload_n 1, 0, 0, .null)] (pc' := 4) (ls' := [some (.ref 1000), some (.int x1), some (.ref 1361), none]) (st' := [.int x1, .ref 1000, .int 0, .ref 1361]) (by decide +kernel) rfl ?_
  refine b_callHI 27 2 [.ref 1000, .int x1] (rest := [.int 0, .ref 1361]) (by decide +kernel) rfl rfl rfl rfl (go_O rfl (by decide +kernel) (by decide +kernel : isO 1000 0 = true)) rfl (s27 hv F x1 σ) (by decide) (fun c2 σ1 => ?_) ?_
  · refine b_run [(7, .i2l, 0, 0, .null)] (pc' := 8) (ls' := [some (.ref 1000), some (.int x1), some (.ref 1361), none]) (st' := [.long ((c2 : Int32).toInt64), .int 0, .ref 1361]) (by decide +kernel) rfl ?_
    refine b_guard (fun hb => ?_)
    refine b_sL (ci := 0) (y := 0) (w := .null) (by decide +kernel) (by decide +kernel) hb (fun σ3 => ?_)
    refine b_run [(9, .goto 9, 18, 0, .null), (18, .iconst 0, 0, 0, .null)] (pc' := 19) (ls' := [some (.ref 1000), some (.int x1), some (.ref 1361), none]) (st' := [.int 0]) (by decide +kernel) rfl ?_
    exact b_ret (i := (.ireturn, 0, 0, .null)) (by decide +kernel) rfl rfl (fit_I _)
  refine hd_cons (by decide) (fun e4 σ5 => ?_) ?_
  · refine b_run [(12, .astore_n 3, 0, 0, .null), (13, .iconst 1, 0, 0, .null)] (pc' := 14) (ls' := [some (.ref 1000), some (.int x1), some (.ref 1361), some (.ref e4)]) (st' := [.int 1]) (by decide +kernel) rfl ?_
    exact b_ret (i := (.ireturn, 0, 0, .null)) (by decide +kernel) rfl rfl (fit_I _)
  refine hd_cons (by decide) (fun e6 σ7 => ?_) ?_
  · refine b_run [(15, .astore_n 3, 0, 0, .null), (16, .iconst 2, 0, 0, .null)] (pc' := 17) (ls' := [some (.ref 1000), some (.int x1), some (.ref 1361), some (.ref e6)]) (st' := [.int 2]) (by decide +kernel) rfl ?_
    exact b_ret (i := (.ireturn, 0, 0, .null)) (by decide +kernel) rfl rfl (fit_I _)
  exact hd_nil
/-- TreeStore$Tree.giveName(ILTreeStore$Row;)V -/
def f142 (F : Nat) (x0 : Nat) (x1 : Int32) (x2 : Nat) (σ : St) : Rs := if inB x1 31 then lt (σ.1 (rfF x0 7) x1.toNatClampNeg) fun c1 => 
    if inB x1 30 then lt (σ.1 (rfF x0 2) x1.toNatClampNeg) fun c2 => 
    cV (f98 F ((rfF x0 9)) c1 c2 σ) fun σ3 => 
    if inB x1 31 then lt (σ3.1 (rfF x0 7) x1.toNatClampNeg) fun c5 => 
    lt (σ3.1 x2 1) fun c6 => 
    cV (f95 F ((rfF x0 9)) c5 x2 0 c6 σ3) fun σ7 => 
    lt (σ7.1 x2 1) fun c9 => if inB x1 30 then lt (uI σ7 (rfF x0 2) x1.toNatClampNeg c9) fun σ10 => cV (f125 F x0 σ10) fun σ11 => oV σ11 else none else none else none else none
theorem s142 {sc : aSc} (hv : vOk sc) (F : Nat) (x0 : Nat) (x1 : Int32) (x2 : Nat) (σ : St) (hx0 : isO x0 8 = true) (hx2 : isO x2 5 = true) : bEx sc 2 142 0 [some (.ref x0), some (.int x1), some (.ref x2)] [] σ (f142 F x0 x1 x2 σ) := by
  unfold f142
  refine b_run [(0, .aload_n 0, 0, 0, .null)] (pc' := 1) (ls' := [some (.ref x0), some (.int x1), some (.ref x2)]) (st' := [.ref x0]) (by decide +kernel) rfl ?_
  refine b_getC (q := 45) (ci := 8) (k := 9) (w := .null) (by decide +kernel) (fk_C8_9 hx0) ?_
  refine b_run [(4, .aload_n 0, 0, 0, .null)] (pc' := 5) (ls' := [some (.ref x0), some (.int x1), some (.ref x2)]) (st' := [.ref x0, .ref ((rfF x0 9))]) (by decide +kernel) rfl ?_
  refine b_getC (q := 33) (ci := 8) (k := 7) (w := .null) (by decide +kernel) (fk_C8_7 hx0) ?_
  refine b_run [(8, .iload_n 1, 0, 0, .null)] (pc' := 9) (ls' := [some (.ref x0), some (.int x1), some (.ref x2)]) (st' := [.int x1, .ref ((rfF x0 7)), .ref ((rfF x0 9))]) (by decide +kernel) rfl ?_
  refine b_guard (fun hb => ?_)
  refine b_aI (ci := 0) (y := 0) (w := .null) (by decide +kernel) (fk_A8_7 hx0) hb (fun c1 => ?_)
  refine b_run [(10, .aload_n 0, 0, 0, .null)] (pc' := 11) (ls' := [some (.ref x0), some (.int x1), some (.ref x2)]) (st' := [.ref x0, .int c1, .ref ((rfF x0 9))]) (by decide +kernel) rfl ?_
  refine b_getC (q := 18) (ci := 8) (k := 2) (w := .null) (by decide +kernel) (fk_C8_2 hx0) ?_
  refine b_run [(14, .iload_n 1, 0, 0, .null)] (pc' := 15) (ls' := [some (.ref x0), some (.int x1), some (.ref x2)]) (st' := [.int x1, .ref ((rfF x0 2)), .int c1, .ref ((rfF x0 9))]) (by decide +kernel) rfl ?_
  refine b_guard (fun hb => ?_)
  refine b_aI (ci := 0) (y := 0) (w := .null) (by decide +kernel) (fk_A8_2 hx0) hb (fun c2 => ?_)
  refine b_callV 98 3 [.ref ((rfF x0 9)), .int c1, .int c2] (rest := []) (by decide +kernel) rfl rfl rfl (go_O rfl (by decide +kernel) (fk_O8_9 hx0)) rfl (s98 hv F ((rfF x0 9)) c1 c2 σ (fk_O8_9 hx0)) (by decide) (fun σ3 => ?_)
  refine b_run [(19, .aload_n 0, 0, 0, .null)] (pc' := 20) (ls' := [some (.ref x0), some (.int x1), some (.ref x2)]) (st' := [.ref x0]) (by decide +kernel) rfl ?_
  refine b_getC (q := 45) (ci := 8) (k := 9) (w := .null) (by decide +kernel) (fk_C8_9 hx0) ?_
  refine b_run [(23, .aload_n 0, 0, 0, .null)] (pc' := 24) (ls' := [some (.ref x0), some (.int x1), some (.ref x2)]) (st' := [.ref x0, .ref ((rfF x0 9))]) (by decide +kernel) rfl ?_
  refine b_getC (q := 33) (ci := 8) (k := 7) (w := .null) (by decide +kernel) (fk_C8_7 hx0) ?_
  refine b_run [(27, .iload_n 1, 0, 0, .null)] (pc' := 28) (ls' := [some (.ref x0), some (.int x1), some (.ref x2)]) (st' := [.int x1, .ref ((rfF x0 7)), .ref ((rfF x0 9))]) (by decide +kernel) rfl ?_
  refine b_guard (fun hb => ?_)
  refine b_aI (ci := 0) (y := 0) (w := .null) (by decide +kernel) (fk_A8_7 hx0) hb (fun c5 => ?_)
  refine b_run [(29, .aload_n 2, 0, 0, .null), (30, .iconst 0, 0, 0, .null), (31, .aload_n 2, 0, 0, .null)] (pc' := 32) (ls' := [some (.ref x0), some (.int x1), some (.ref x2)]) (st' := [.ref x2, .int 0, .ref x2, .int c5, .ref ((rfF x0 9))]) (by decide +kernel) rfl ?_
  refine b_gI (q := 55) (ci := 5) (k := 1) (w := .null) (by decide +kernel) (fk_I5_1 hx2) (fun c6 => ?_)
  refine b_callV 95 5 [.ref ((rfF x0 9)), .int c5, .ref x2, .int 0, .int c6] (rest := []) (by decide +kernel) rfl rfl rfl (go_O rfl (by decide +kernel) (fk_O8_9 hx0)) rfl (s95 hv F ((rfF x0 9)) c5 x2 0 c6 σ3 (fk_O8_9 hx0) hx2) (by decide) (fun σ7 => ?_)
  refine b_run [(38, .aload_n 0, 0, 0, .null)] (pc' := 39) (ls' := [some (.ref x0), some (.int x1), some (.ref x2)]) (st' := [.ref x0]) (by decide +kernel) rfl ?_
  refine b_getC (q := 18) (ci := 8) (k := 2) (w := .null) (by decide +kernel) (fk_C8_2 hx0) ?_
  refine b_run [(42, .iload_n 1, 0, 0, .null), (43, .aload_n 2, 0, 0, .null)] (pc' := 44) (ls' := [some (.ref x0), some (.int x1), some (.ref x2)]) (st' := [.ref x2, .int x1, .ref ((rfF x0 2))]) (by decide +kernel) rfl ?_
  refine b_gI (q := 55) (ci := 5) (k := 1) (w := .null) (by decide +kernel) (fk_I5_1 hx2) (fun c9 => ?_)
  refine b_guard (fun hb => ?_)
  refine b_sI (ci := 0) (y := 0) (w := .null) (by decide +kernel) (fk_A8_2 hx0) hb (fun σ10 => ?_)
  refine b_run [(48, .aload_n 0, 0, 0, .null)] (pc' := 49) (ls' := [some (.ref x0), some (.int x1), some (.ref x2)]) (st' := [.ref x0]) (by decide +kernel) rfl ?_
  refine b_callV 125 1 [.ref x0] (rest := []) (by decide +kernel) rfl rfl rfl (go_O rfl (by decide +kernel) hx0) rfl (s125 hv F x0 σ10 hx0) (by decide) (fun σ11 => ?_)
  exact b_ret0 (i := (.return_, 0, 0, .null)) (by decide +kernel) rfl rfl
def f29_71 (F : Nat) (k29 : Int32 → Int32 → Int32 → St → Rs) (y1 : Int32) (y2 : Int32) (y3 : Int32) (σ : St) : Rs := k29 y1 y2 (y3 + 1) σ
theorem s29_71 {sc : aSc} (hv : vOk sc) (F : Nat) (k29 : Int32 → Int32 → Int32 → St → Rs) (hk29 : ∀ y1 y2 y3 σ, bEx sc 2 29 29 [some (.ref 1000), some (.int y1), some (.int y2), some (.int y3)] [] σ (k29 y1 y2 y3 σ)) (y1 : Int32) (y2 : Int32) (y3 : Int32) (σ : St) : bEx sc 2 29 71 [some (.ref 1000), some (.int y1), some (.int y2), some (.int y3)] [] σ (f29_71 F k29 y1 y2 y3 σ) := by
  unfold f29_71
  refine b_run [(71, .iinc 3 1, 0, 0, .null), (74, .goto (-45), 29, 0, .null)] (pc' := 29) (ls' := [some (.ref 1000), some (.int y1), some (.int y2), some (.int (y3 + 1))]) (st' := []) (by decide +kernel) rfl ?_
  exact b_wk (wS (wS (wS (wS w0)))) (hk29 y1 y2 (y3 + 1) σ)
def f29_29 (F : Nat) : Nat → Int32 → Int32 → Int32 → St → Rs
  | 0, _, _, _, _ => none
  | n + 1, y1, y2, y3, σ => cI (f133 F 1003 y2 σ) fun c4 σ3 => 
    if y3 < c4 then 
    if y3 = y1 then f29_71 F (f29_29 F n) y1 y2 y3 σ3
    else lt (σ3.1 1001 1) fun c5 => 
    cI (f136 F 1003 y3 1001 0 c5 σ3) fun c7 σ6 => 
    if c7 = 0 then f29_71 F (f29_29 F n) y1 y2 y3 σ6
    else oI 1 σ6
    else oI 0 σ3
theorem s29_29 {sc : aSc} (hv : vOk sc) (F : Nat) : ∀ (n : Nat) (y1 : Int32) (y2 : Int32) (y3 : Int32) (σ : St), bEx sc 2 29 29 [some (.ref 1000), some (.int y1), some (.int y2), some (.int y3)] [] σ (f29_29 F n y1 y2 y3 σ) := by
  intro n
  induction n with
  | zero => intro y1 y2 y3 σ; exact b_none
  | succ n ih =>
    intro y1 y2 y3 σ
    rw [f29_29.eq_2]
    refine b_run [(29, .iload_n 3, 0, 0, .null), (30, .aload_n 0, 0, 0, .null)] (pc' := 31) (ls' := [some (.ref 1000), some (.int y1), some (.int y2), some (.int y3)]) (st' := [.ref 1000, .int y3]) (by decide +kernel) rfl ?_
    refine b_getC (b := 1003) (q := 21) (ci := 0) (k := 1) (w := .null) (by decide +kernel) (by decide +kernel) ?_
    refine b_run [(34, .iload_n 2, 0, 0, .null)] (pc' := 35) (ls' := [some (.ref 1000), some (.int y1), some (.int y2), some (.int y3)]) (st' := [.int y2, .ref 1003, .int y3]) (by decide +kernel) rfl ?_
    refine b_callI 133 2 [.ref 1003, .int y2] (rest := [.int y3]) (by decide +kernel) rfl rfl rfl (go_O rfl (by decide +kernel) (by decide +kernel : isO 1003 8 = true)) rfl (s133 hv F 1003 y2 σ (by decide +kernel : isO 1003 8 = true)) (by decide) (fun c4 σ3 => ?_)
    refine b_icF (c := .ge) (o := 39) (t := 77) (y := 0) (w := .null) (by decide +kernel) cmp_ge (fun _ => ?_) (fun _ => ?_)
    · refine b_run [(41, .iload_n 3, 0, 0, .null), (42, .iload_n 1, 0, 0, .null)] (pc' := 43) (ls' := [some (.ref 1000), some (.int y1), some (.int y2), some (.int y3)]) (st' := [.int y1, .int y3]) (by decide +kernel) rfl ?_
      refine b_icT (c := .eq) (o := 28) (t := 71) (y := 0) (w := .null) (by decide +kernel) cmp_eq (fun _ => ?_) (fun _ => ?_)
      · exact b_wk (wS (wS (wS (wS w0)))) (s29_71 hv F (f29_29 F n) ih y1 y2 y3 σ3)
      · refine b_run [(46, .aload_n 0, 0, 0, .null)] (pc' := 47) (ls' := [some (.ref 1000), some (.int y1), some (.int y2), some (.int y3)]) (st' := [.ref 1000]) (by decide +kernel) rfl ?_
        refine b_getC (b := 1003) (q := 21) (ci := 0) (k := 1) (w := .null) (by decide +kernel) (by decide +kernel) ?_
        refine b_run [(50, .iload_n 3, 0, 0, .null), (51, .aload_n 0, 0, 0, .null)] (pc' := 52) (ls' := [some (.ref 1000), some (.int y1), some (.int y2), some (.int y3)]) (st' := [.ref 1000, .int y3, .ref 1003]) (by decide +kernel) rfl ?_
        refine b_getC (b := 1001) (q := 14) (ci := 0) (k := 0) (w := .null) (by decide +kernel) (by decide +kernel) ?_
        refine b_run [(55, .iconst 0, 0, 0, .null), (56, .aload_n 0, 0, 0, .null)] (pc' := 57) (ls' := [some (.ref 1000), some (.int y1), some (.int y2), some (.int y3)]) (st' := [.ref 1000, .int 0, .ref 1001, .int y3, .ref 1003]) (by decide +kernel) rfl ?_
        refine b_getC (b := 1001) (q := 14) (ci := 0) (k := 0) (w := .null) (by decide +kernel) (by decide +kernel) ?_
        refine b_gI (q := 159) (ci := 5) (k := 1) (w := .null) (by decide +kernel) (by decide +kernel) (fun c5 => ?_)
        refine b_callI 136 5 [.ref 1003, .int y3, .ref 1001, .int 0, .int c5] (rest := []) (by decide +kernel) rfl rfl rfl (go_O rfl (by decide +kernel) (by decide +kernel : isO 1003 8 = true)) rfl (s136 hv F 1003 y3 1001 0 c5 σ3 (by decide +kernel : isO 1003 8 = true) (by decide +kernel : isO 1001 5 = true)) (by decide) (fun c7 σ6 => ?_)
        refine b_izT (c := .eq) (o := 5) (t := 71) (y := 0) (w := .null) (by decide +kernel) cmp_eq (fun _ => ?_) (fun _ => ?_)
        · exact b_wk (wS (wS (wS (wS w0)))) (s29_71 hv F (f29_29 F n) ih y1 y2 y3 σ6)
        · refine b_run [(69, .iconst 1, 0, 0, .null)] (pc' := 70) (ls' := [some (.ref 1000), some (.int y1), some (.int y2), some (.int y3)]) (st' := [.int 1]) (by decide +kernel) rfl ?_
          exact b_ret (i := (.ireturn, 0, 0, .null)) (by decide +kernel) rfl rfl (by decide +kernel)
    · refine b_run [(77, .iconst 0, 0, 0, .null)] (pc' := 78) (ls' := [some (.ref 1000), some (.int y1), some (.int y2), some (.int y3)]) (st' := [.int 0]) (by decide +kernel) rfl ?_
      exact b_ret (i := (.ireturn, 0, 0, .null)) (by decide +kernel) rfl rfl (by decide +kernel)
