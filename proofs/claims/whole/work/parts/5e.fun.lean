def f76_17 (F : Nat) (y1 : Int32) (y2 : Nat) (y3 : Int32) (y4 : Nat) (y5 : Int32) (z0 : Int32) (σ : St) : Rs := if z0 = 0 then 
    cI (f38 F y2 σ) fun c2 σ1 => 
    if c2 = 0 then 
    cI (f38 F y4 σ1) fun c4 σ3 => 
    if c4 = 0 then f76_76 F y1 y2 y3 y4 y5 z0 σ3
    else f76_39 F y1 y2 y4 σ3
    else f76_39 F y1 y2 y4 σ1
    else f76_76 F y1 y2 y3 y4 y5 z0 σ
theorem s76_17 {sc : aSc} (hv : vOk sc) (F : Nat) (y1 : Int32) (y2 : Nat) (y3 : Int32) (y4 : Nat) (y5 : Int32) (z0 : Int32) (σ : St) (hy2 : isO y2 1 = true) (hy4 : isO y4 1 = true) : bEx sc 3 76 17 [some (.ref 1313), some (.int y1), some (.ref y2), some (.int y3), some (.ref y4), some (.int y5), none] [.int z0] σ (f76_17 F y1 y2 y3 y4 y5 z0 σ) := by
  unfold f76_17
  refine b_run [(17, .istore 6, 0, 0, .null), (19, .iload 6, 0, 0, .null)] (pc' := 21) (ls' := [some (.ref 1313), some (.int y1), some (.ref y2), some (.int y3), some (.ref y4), some (.int y5), some (.int z0)]) (st' := [.int z0]) (by decide +kernel) rfl ?_
  refine b_izF (c := .ne) (o := 55) (t := 76) (y := 0) (w := .null) (by decide +kernel) cmp_ne (fun _ => ?_) (fun _ => ?_)
  · refine b_run [(24, .aload_n 2, 0, 0, .null)] (pc' := 25) (ls' := [some (.ref 1313), some (.int y1), some (.ref y2), some (.int y3), some (.ref y4), some (.int y5), some (.int z0)]) (st' := [.ref y2]) (by decide +kernel) rfl ?_
    refine b_callI 38 1 [.ref y2] (rest := []) (by decide +kernel) rfl rfl rfl (go_O rfl (by decide +kernel) hy2) rfl (s38 hv F y2 σ hy2) (by decide) (fun c2 σ1 => ?_)
    refine b_izF (c := .ne) (o := 11) (t := 39) (y := 0) (w := .null) (by decide +kernel) cmp_ne (fun _ => ?_) (fun _ => ?_)
    · refine b_run [(31, .aload 4, 0, 0, .null)] (pc' := 33) (ls' := [some (.ref 1313), some (.int y1), some (.ref y2), some (.int y3), some (.ref y4), some (.int y5), some (.int z0)]) (st' := [.ref y4]) (by decide +kernel) rfl ?_
      refine b_callI 38 1 [.ref y4] (rest := []) (by decide +kernel) rfl rfl rfl (go_O rfl (by decide +kernel) hy4) rfl (s38 hv F y4 σ1 hy4) (by decide) (fun c4 σ3 => ?_)
      refine b_izT (c := .eq) (o := 40) (t := 76) (y := 0) (w := .null) (by decide +kernel) cmp_eq (fun _ => ?_) (fun _ => ?_)
      · exact b_wk (wS (wS (wS (wS (wS (wS (wS w0))))))) (s76_76 hv F y1 y2 y3 y4 y5 z0 σ3 hy2 hy4)
      · exact b_wk (wN (wS (wS (wN (wS (wN (wN w0))))))) (s76_39 hv F y1 y2 y4 σ3 hy2 hy4)
    · exact b_wk (wN (wS (wS (wN (wS (wN (wN w0))))))) (s76_39 hv F y1 y2 y4 σ1 hy2 hy4)
  · exact b_wk (wS (wS (wS (wS (wS (wS (wS w0))))))) (s76_76 hv F y1 y2 y3 y4 y5 z0 σ hy2 hy4)
def f76_12 (F : Nat) (y1 : Int32) (y2 : Nat) (y3 : Int32) (y4 : Nat) (y5 : Int32) (σ : St) : Rs := f76_17 F y1 y2 y3 y4 y5 1 σ
theorem s76_12 {sc : aSc} (hv : vOk sc) (F : Nat) (y1 : Int32) (y2 : Nat) (y3 : Int32) (y4 : Nat) (y5 : Int32) (σ : St) (hy2 : isO y2 1 = true) (hy4 : isO y4 1 = true) : bEx sc 3 76 12 [some (.ref 1313), some (.int y1), some (.ref y2), some (.int y3), some (.ref y4), some (.int y5), none] [] σ (f76_12 F y1 y2 y3 y4 y5 σ) := by
  unfold f76_12
  refine b_run [(12, .iconst 1, 0, 0, .null), (13, .goto 4, 17, 0, .null)] (pc' := 17) (ls' := [some (.ref 1313), some (.int y1), some (.ref y2), some (.int y3), some (.ref y4), some (.int y5), none]) (st' := [.int 1]) (by decide +kernel) rfl ?_
  exact b_wk (wS (wS (wS (wS (wS (wS (wN w0))))))) (s76_17 hv F y1 y2 y3 y4 y5 1 σ hy2 hy4)
/-- TreeStore$PathWalker.comparePair(ILTreeStore$Part;ILTreeStore$Part;I)Z -/
def f76 (F : Nat) (x1 : Int32) (x2 : Nat) (x3 : Int32) (x4 : Nat) (x5 : Int32) (σ : St) : Rs := if x1 = 10 then f76_12 F x1 x2 x3 x4 x5 σ
    else if x1 = 11 then f76_12 F x1 x2 x3 x4 x5 σ
    else f76_17 F x1 x2 x3 x4 x5 0 σ
theorem s76 {sc : aSc} (hv : vOk sc) (F : Nat) (x1 : Int32) (x2 : Nat) (x3 : Int32) (x4 : Nat) (x5 : Int32) (σ : St) (hx2 : isO x2 1 = true) (hx4 : isO x4 1 = true) : bEx sc 3 76 0 [some (.ref 1313), some (.int x1), some (.ref x2), some (.int x3), some (.ref x4), some (.int x5), none] [] σ (f76 F x1 x2 x3 x4 x5 σ) := by
  unfold f76
  refine b_run [(0, .iload_n 1, 0, 0, .null), (1, .bipush 10, 0, 0, .null)] (pc' := 3) (ls' := [some (.ref 1313), some (.int x1), some (.ref x2), some (.int x3), some (.ref x4), some (.int x5), none]) (st' := [.int 10, .int x1]) (by decide +kernel) rfl ?_
  refine b_icT (c := .eq) (o := 9) (t := 12) (y := 0) (w := .null) (by decide +kernel) cmp_eq (fun _ => ?_) (fun _ => ?_)
  · exact b_wk (wS (wS (wS (wS (wS (wS (wN w0))))))) (s76_12 hv F x1 x2 x3 x4 x5 σ hx2 hx4)
  · refine b_run [(6, .iload_n 1, 0, 0, .null), (7, .bipush 11, 0, 0, .null)] (pc' := 9) (ls' := [some (.ref 1313), some (.int x1), some (.ref x2), some (.int x3), some (.ref x4), some (.int x5), none]) (st' := [.int 11, .int x1]) (by decide +kernel) rfl ?_
    refine b_icF (c := .ne) (o := 7) (t := 16) (y := 0) (w := .null) (by decide +kernel) cmp_ne (fun _ => ?_) (fun _ => ?_)
    · exact b_wk (wS (wS (wS (wS (wS (wS (wN w0))))))) (s76_12 hv F x1 x2 x3 x4 x5 σ hx2 hx4)
    · refine b_run [(16, .iconst 0, 0, 0, .null)] (pc' := 17) (ls' := [some (.ref 1313), some (.int x1), some (.ref x2), some (.int x3), some (.ref x4), some (.int x5), none]) (st' := [.int 0]) (by decide +kernel) rfl ?_
      exact b_wk (wS (wS (wS (wS (wS (wS (wN w0))))))) (s76_17 hv F x1 x2 x3 x4 x5 0 σ hx2 hx4)
def f74_174 (F : Nat) (k105 : Int32 → Nat → Nat → Int32 → Int32 → Int32 → St → Rs) (y1 : Int32) (y2 : Nat) (y3 : Nat) (y4 : Int32) (y5 : Int32) (y6 : Int32) (σ : St) : Rs := k105 y1 y2 y3 y4 y5 (y6 + 1) σ
theorem s74_174 {sc : aSc} (hv : vOk sc) (F : Nat) (k105 : Int32 → Nat → Nat → Int32 → Int32 → Int32 → St → Rs) (hk105 : ∀ y1 y2 y3 y4 y5 y6 σ, isO y2 1 = true → isO y3 1 = true → bEx sc 4 74 105 [some (.ref 1313), some (.int y1), some (.ref y2), some (.ref y3), some (.int y4), some (.int y5), some (.int y6), none] [] σ (k105 y1 y2 y3 y4 y5 y6 σ)) (y1 : Int32) (y2 : Nat) (y3 : Nat) (y4 : Int32) (y5 : Int32) (y6 : Int32) (σ : St) (hy2 : isO y2 1 = true) (hy3 : isO y3 1 = true) : bEx sc 4 74 174 [some (.ref 1313), some (.int y1), some (.ref y2), some (.ref y3), some (.int y4), some (.int y5), some (.int y6), none] [] σ (f74_174 F k105 y1 y2 y3 y4 y5 y6 σ) := by
  unfold f74_174
  refine b_run [(174, .iinc 6 1, 0, 0, .null), (177, .goto (-72), 105, 0, .null)] (pc' := 105) (ls' := [some (.ref 1313), some (.int y1), some (.ref y2), some (.ref y3), some (.int y4), some (.int y5), some (.int (y6 + 1)), none]) (st' := []) (by decide +kernel) rfl ?_
  exact b_wk (wS (wS (wS (wS (wS (wS (wS (wN w0)))))))) (hk105 y1 y2 y3 y4 y5 (y6 + 1) σ hy2 hy3)
def f74_168 (F : Nat) (k105 : Int32 → Nat → Nat → Int32 → Int32 → Int32 → St → Rs) (k120 : Int32 → Nat → Nat → Int32 → Int32 → Int32 → Int32 → St → Rs) (y1 : Int32) (y2 : Nat) (y3 : Nat) (y4 : Int32) (y5 : Int32) (y6 : Int32) (y7 : Int32) (σ : St) : Rs := k120 y1 y2 y3 y4 y5 y6 (y7 + 1) σ
theorem s74_168 {sc : aSc} (hv : vOk sc) (F : Nat) (k105 : Int32 → Nat → Nat → Int32 → Int32 → Int32 → St → Rs) (k120 : Int32 → Nat → Nat → Int32 → Int32 → Int32 → Int32 → St → Rs) (hk105 : ∀ y1 y2 y3 y4 y5 y6 σ, isO y2 1 = true → isO y3 1 = true → bEx sc 4 74 105 [some (.ref 1313), some (.int y1), some (.ref y2), some (.ref y3), some (.int y4), some (.int y5), some (.int y6), none] [] σ (k105 y1 y2 y3 y4 y5 y6 σ)) (hk120 : ∀ y1 y2 y3 y4 y5 y6 y7 σ, isO y2 1 = true → isO y3 1 = true → bEx sc 4 74 120 [some (.ref 1313), some (.int y1), some (.ref y2), some (.ref y3), some (.int y4), some (.int y5), some (.int y6), some (.int y7)] [] σ (k120 y1 y2 y3 y4 y5 y6 y7 σ)) (y1 : Int32) (y2 : Nat) (y3 : Nat) (y4 : Int32) (y5 : Int32) (y6 : Int32) (y7 : Int32) (σ : St) (hy2 : isO y2 1 = true) (hy3 : isO y3 1 = true) : bEx sc 4 74 168 [some (.ref 1313), some (.int y1), some (.ref y2), some (.ref y3), some (.int y4), some (.int y5), some (.int y6), some (.int y7)] [] σ (f74_168 F k105 k120 y1 y2 y3 y4 y5 y6 y7 σ) := by
  unfold f74_168
  refine b_run [(168, .iinc 7 1, 0, 0, .null), (171, .goto (-51), 120, 0, .null)] (pc' := 120) (ls' := [some (.ref 1313), some (.int y1), some (.ref y2), some (.ref y3), some (.int y4), some (.int y5), some (.int y6), some (.int (y7 + 1))]) (st' := []) (by decide +kernel) rfl ?_
  exact b_wk (wS (wS (wS (wS (wS (wS (wS (wS w0)))))))) (hk120 y1 y2 y3 y4 y5 y6 (y7 + 1) σ hy2 hy3)
def f74_120 (F : Nat) (k105 : Int32 → Nat → Nat → Int32 → Int32 → Int32 → St → Rs) : Nat → Int32 → Nat → Nat → Int32 → Int32 → Int32 → Int32 → St → Rs
  | 0, _, _, _, _, _, _, _, _ => none
  | n + 1, y1, y2, y3, y4, y5, y6, y7, σ => lt (σ.1 1003 10) fun c10 => 
    if y7 < c10 then 
    cI (f31 F y4 y6 σ) fun c12 σ11 => 
    if c12 = 0 then f74_174 F k105 y1 y2 y3 y4 y5 y6 σ11
    else cI (f31 F y5 y7 σ11) fun c14 σ13 => 
    if c14 = 0 then f74_168 F k105 (f74_120 F k105 n) y1 y2 y3 y4 y5 y6 y7 σ13
    else cI (f76 F y1 y2 y6 y3 y7 σ13) fun c16 σ15 => 
    if c16 = 0 then f74_168 F k105 (f74_120 F k105 n) y1 y2 y3 y4 y5 y6 y7 σ15
    else oI 1 σ15
    else f74_174 F k105 y1 y2 y3 y4 y5 y6 σ
theorem s74_120 {sc : aSc} (hv : vOk sc) (F : Nat) (k105 : Int32 → Nat → Nat → Int32 → Int32 → Int32 → St → Rs) (hk105 : ∀ y1 y2 y3 y4 y5 y6 σ, isO y2 1 = true → isO y3 1 = true → bEx sc 4 74 105 [some (.ref 1313), some (.int y1), some (.ref y2), some (.ref y3), some (.int y4), some (.int y5), some (.int y6), none] [] σ (k105 y1 y2 y3 y4 y5 y6 σ)) : ∀ (n : Nat) (y1 : Int32) (y2 : Nat) (y3 : Nat) (y4 : Int32) (y5 : Int32) (y6 : Int32) (y7 : Int32) (σ : St) (_ : isO y2 1 = true) (_ : isO y3 1 = true), bEx sc 4 74 120 [some (.ref 1313), some (.int y1), some (.ref y2), some (.ref y3), some (.int y4), some (.int y5), some (.int y6), some (.int y7)] [] σ (f74_120 F k105 n y1 y2 y3 y4 y5 y6 y7 σ) := by
  intro n
  induction n with
  | zero => intro y1 y2 y3 y4 y5 y6 y7 σ hy2 hy3; exact b_none
  | succ n ih =>
    intro y1 y2 y3 y4 y5 y6 y7 σ hy2 hy3
    rw [f74_120.eq_2]
    refine b_run [(120, .iload 7, 0, 0, .null), (122, .aload_n 0, 0, 0, .null)] (pc' := 123) (ls' := [some (.ref 1313), some (.int y1), some (.ref y2), some (.ref y3), some (.int y4), some (.int y5), some (.int y6), some (.int y7)]) (st' := [.ref 1313, .int y7]) (by decide +kernel) rfl ?_
    refine b_getC (b := 1003) (q := 15) (ci := 3) (k := 1) (w := .null) (by decide +kernel) (by decide +kernel) ?_
    refine b_gI (q := 42) (ci := 8) (k := 10) (w := .null) (by decide +kernel) (by decide +kernel) (fun c10 => ?_)
    refine b_icF (c := .ge) (o := 45) (t := 174) (y := 0) (w := .null) (by decide +kernel) cmp_ge (fun _ => ?_) (fun _ => ?_)
    · refine b_run [(132, .iload 4, 0, 0, .null), (134, .iload 6, 0, 0, .null)] (pc' := 136) (ls' := [some (.ref 1313), some (.int y1), some (.ref y2), some (.ref y3), some (.int y4), some (.int y5), some (.int y6), some (.int y7)]) (st' := [.int y6, .int y4]) (by decide +kernel) rfl ?_
      refine b_callI 31 2 [.int y4, .int y6] (rest := []) (by decide +kernel) rfl rfl rfl (go_S rfl (by decide +kernel)) rfl (s31 hv F y4 y6 σ) (by decide) (fun c12 σ11 => ?_)
      refine b_izT (c := .eq) (o := 35) (t := 174) (y := 0) (w := .null) (by decide +kernel) cmp_eq (fun _ => ?_) (fun _ => ?_)
      · exact b_wk (wS (wS (wS (wS (wS (wS (wS (wN w0)))))))) (s74_174 hv F k105 hk105 y1 y2 y3 y4 y5 y6 σ11 hy2 hy3)
      · refine b_run [(142, .iload 5, 0, 0, .null), (144, .iload 7, 0, 0, .null)] (pc' := 146) (ls' := [some (.ref 1313), some (.int y1), some (.ref y2), some (.ref y3), some (.int y4), some (.int y5), some (.int y6), some (.int y7)]) (st' := [.int y7, .int y5]) (by decide +kernel) rfl ?_
        refine b_callI 31 2 [.int y5, .int y7] (rest := []) (by decide +kernel) rfl rfl rfl (go_S rfl (by decide +kernel)) rfl (s31 hv F y5 y7 σ11) (by decide) (fun c14 σ13 => ?_)
        refine b_izT (c := .eq) (o := 19) (t := 168) (y := 0) (w := .null) (by decide +kernel) cmp_eq (fun _ => ?_) (fun _ => ?_)
        · exact b_wk (wS (wS (wS (wS (wS (wS (wS (wS w0)))))))) (s74_168 hv F k105 (f74_120 F k105 n) hk105 ih y1 y2 y3 y4 y5 y6 y7 σ13 hy2 hy3)
        · refine b_run [(152, .aload_n 0, 0, 0, .null), (153, .iload_n 1, 0, 0, .null), (154, .aload_n 2, 0, 0, .null), (155, .iload 6, 0, 0, .null), (157, .aload_n 3, 0, 0, .null), (158, .iload 7, 0, 0, .null)] (pc' := 160) (ls' := [some (.ref 1313), some (.int y1), some (.ref y2), some (.ref y3), some (.int y4), some (.int y5), some (.int y6), some (.int y7)]) (st' := [.int y7, .ref y3, .int y6, .ref y2, .int y1, .ref 1313]) (by decide +kernel) rfl ?_
          refine b_callI 76 6 [.ref 1313, .int y1, .ref y2, .int y6, .ref y3, .int y7] (rest := []) (by decide +kernel) rfl rfl rfl (go_O rfl (by decide +kernel) (by decide +kernel : isO 1313 3 = true)) rfl (s76 hv F y1 y2 y6 y3 y7 σ13 hy2 hy3) (by decide) (fun c16 σ15 => ?_)
          refine b_izT (c := .eq) (o := 5) (t := 168) (y := 0) (w := .null) (by decide +kernel) cmp_eq (fun _ => ?_) (fun _ => ?_)
          · exact b_wk (wS (wS (wS (wS (wS (wS (wS (wS w0)))))))) (s74_168 hv F k105 (f74_120 F k105 n) hk105 ih y1 y2 y3 y4 y5 y6 y7 σ15 hy2 hy3)
          · refine b_run [(166, .iconst 1, 0, 0, .null)] (pc' := 167) (ls' := [some (.ref 1313), some (.int y1), some (.ref y2), some (.ref y3), some (.int y4), some (.int y5), some (.int y6), some (.int y7)]) (st' := [.int 1]) (by decide +kernel) rfl ?_
            exact b_ret (i := (.ireturn, 0, 0, .null)) (by decide +kernel) rfl rfl (by decide +kernel)
    · exact b_wk (wS (wS (wS (wS (wS (wS (wS (wN w0)))))))) (s74_174 hv F k105 hk105 y1 y2 y3 y4 y5 y6 σ hy2 hy3)
def f74_105 (F : Nat) : Nat → Int32 → Nat → Nat → Int32 → Int32 → Int32 → St → Rs
  | 0, _, _, _, _, _, _, _ => none
  | n + 1, y1, y2, y3, y4, y5, y6, σ => lt (σ.1 1003 10) fun c9 => 
    if y6 < c9 then f74_120 F (f74_105 F n) F y1 y2 y3 y4 y5 y6 0 σ
    else oI 0 σ
theorem s74_105 {sc : aSc} (hv : vOk sc) (F : Nat) : ∀ (n : Nat) (y1 : Int32) (y2 : Nat) (y3 : Nat) (y4 : Int32) (y5 : Int32) (y6 : Int32) (σ : St) (_ : isO y2 1 = true) (_ : isO y3 1 = true), bEx sc 4 74 105 [some (.ref 1313), some (.int y1), some (.ref y2), some (.ref y3), some (.int y4), some (.int y5), some (.int y6), none] [] σ (f74_105 F n y1 y2 y3 y4 y5 y6 σ) := by
  intro n
  induction n with
  | zero => intro y1 y2 y3 y4 y5 y6 σ hy2 hy3; exact b_none
  | succ n ih =>
    intro y1 y2 y3 y4 y5 y6 σ hy2 hy3
    rw [f74_105.eq_2]
    refine b_run [(105, .iload 6, 0, 0, .null), (107, .aload_n 0, 0, 0, .null)] (pc' := 108) (ls' := [some (.ref 1313), some (.int y1), some (.ref y2), some (.ref y3), some (.int y4), some (.int y5), some (.int y6), none]) (st' := [.ref 1313, .int y6]) (by decide +kernel) rfl ?_
    refine b_getC (b := 1003) (q := 15) (ci := 3) (k := 1) (w := .null) (by decide +kernel) (by decide +kernel) ?_
    refine b_gI (q := 42) (ci := 8) (k := 10) (w := .null) (by decide +kernel) (by decide +kernel) (fun c9 => ?_)
    refine b_icF (c := .ge) (o := 66) (t := 180) (y := 0) (w := .null) (by decide +kernel) cmp_ge (fun _ => ?_) (fun _ => ?_)
    · refine b_run [(117, .iconst 0, 0, 0, .null), (118, .istore 7, 0, 0, .null)] (pc' := 120) (ls' := [some (.ref 1313), some (.int y1), some (.ref y2), some (.ref y3), some (.int y4), some (.int y5), some (.int y6), some (.int 0)]) (st' := []) (by decide +kernel) rfl ?_
      exact b_wk (wS (wS (wS (wS (wS (wS (wS (wS w0)))))))) (s74_120 hv F (f74_105 F n) ih F y1 y2 y3 y4 y5 y6 0 σ hy2 hy3)
    · refine b_run [(180, .iconst 0, 0, 0, .null)] (pc' := 181) (ls' := [some (.ref 1313), some (.int y1), some (.ref y2), some (.ref y3), some (.int y4), some (.int y5), some (.int y6), none]) (st' := [.int 0]) (by decide +kernel) rfl ?_
      exact b_ret (i := (.ireturn, 0, 0, .null)) (by decide +kernel) rfl rfl (by decide +kernel)
def f74_100 (F : Nat) (y1 : Int32) (y2 : Nat) (y3 : Nat) (y4 : Int32) (z0 : Int32) (σ : St) : Rs := f74_105 F F y1 y2 y3 y4 z0 0 σ
theorem s74_100 {sc : aSc} (hv : vOk sc) (F : Nat) (y1 : Int32) (y2 : Nat) (y3 : Nat) (y4 : Int32) (z0 : Int32) (σ : St) (hy2 : isO y2 1 = true) (hy3 : isO y3 1 = true) : bEx sc 4 74 100 [some (.ref 1313), some (.int y1), some (.ref y2), some (.ref y3), some (.int y4), none, none, none] [.int z0] σ (f74_100 F y1 y2 y3 y4 z0 σ) := by
  unfold f74_100
  refine b_run [(100, .istore 5, 0, 0, .null), (102, .iconst 0, 0, 0, .null), (103, .istore 6, 0, 0, .null)] (pc' := 105) (ls' := [some (.ref 1313), some (.int y1), some (.ref y2), some (.ref y3), some (.int y4), some (.int z0), some (.int 0), none]) (st' := []) (by decide +kernel) rfl ?_
  exact b_wk (wS (wS (wS (wS (wS (wS (wS (wN w0)))))))) (s74_105 hv F F y1 y2 y3 y4 z0 0 σ hy2 hy3)
def f74_83 (F : Nat) (y1 : Int32) (y2 : Nat) (y3 : Nat) (z0 : Int32) (σ : St) : Rs := cI (f36 F y3 σ) fun c8 σ7 => 
    if c8 = 0 then f74_100 F y1 y2 y3 z0 1 σ7
    else lt (σ7.1 y3 9) fun c17 => f74_100 F y1 y2 y3 z0 c17 σ7
theorem s74_83 {sc : aSc} (hv : vOk sc) (F : Nat) (y1 : Int32) (y2 : Nat) (y3 : Nat) (z0 : Int32) (σ : St) (hy2 : isO y2 1 = true) (hy3 : isO y3 1 = true) : bEx sc 4 74 83 [some (.ref 1313), some (.int y1), some (.ref y2), some (.ref y3), none, none, none, none] [.int z0] σ (f74_83 F y1 y2 y3 z0 σ) := by
  unfold f74_83
  refine b_run [(83, .istore 4, 0, 0, .null), (85, .aload_n 3, 0, 0, .null)] (pc' := 86) (ls' := [some (.ref 1313), some (.int y1), some (.ref y2), some (.ref y3), some (.int z0), none, none, none]) (st' := [.ref y3]) (by decide +kernel) rfl ?_
  refine b_callI 36 1 [.ref y3] (rest := []) (by decide +kernel) rfl rfl rfl (go_O rfl (by decide +kernel) hy3) rfl (s36 hv F y3 σ hy3) (by decide) (fun c8 σ7 => ?_)
  refine b_izT (c := .eq) (o := 10) (t := 99) (y := 0) (w := .null) (by decide +kernel) cmp_eq (fun _ => ?_) (fun _ => ?_)
  · refine b_run [(99, .iconst 1, 0, 0, .null)] (pc' := 100) (ls' := [some (.ref 1313), some (.int y1), some (.ref y2), some (.ref y3), some (.int z0), none, none, none]) (st' := [.int 1]) (by decide +kernel) rfl ?_
    exact b_wk (wS (wS (wS (wS (wS (wN (wN (wN w0)))))))) (s74_100 hv F y1 y2 y3 z0 1 σ7 hy2 hy3)
  · refine b_run [(92, .aload_n 3, 0, 0, .null)] (pc' := 93) (ls' := [some (.ref 1313), some (.int y1), some (.ref y2), some (.ref y3), some (.int z0), none, none, none]) (st' := [.ref y3]) (by decide +kernel) rfl ?_
    refine b_gI (q := 156) (ci := 1) (k := 9) (w := .null) (by decide +kernel) (fk_I1_9 hy3) (fun c17 => ?_)
    refine b_run [(96, .goto 4, 100, 0, .null)] (pc' := 100) (ls' := [some (.ref 1313), some (.int y1), some (.ref y2), some (.ref y3), some (.int z0), none, none, none]) (st' := [.int c17]) (by decide +kernel) rfl ?_
    exact b_wk (wS (wS (wS (wS (wS (wN (wN (wN w0)))))))) (s74_100 hv F y1 y2 y3 z0 c17 σ7 hy2 hy3)
def f74_68 (F : Nat) (y1 : Int32) (y2 : Nat) (y3 : Nat) (σ : St) : Rs := cI (f36 F y2 σ) fun c6 σ5 => 
    if c6 = 0 then f74_83 F y1 y2 y3 1 σ5
    else lt (σ5.1 y2 9) fun c18 => f74_83 F y1 y2 y3 c18 σ5
theorem s74_68 {sc : aSc} (hv : vOk sc) (F : Nat) (y1 : Int32) (y2 : Nat) (y3 : Nat) (σ : St) (hy2 : isO y2 1 = true) (hy3 : isO y3 1 = true) : bEx sc 4 74 68 [some (.ref 1313), some (.int y1), some (.ref y2), some (.ref y3), none, none, none, none] [] σ (f74_68 F y1 y2 y3 σ) := by
  unfold f74_68
  refine b_run [(68, .aload_n 2, 0, 0, .null)] (pc' := 69) (ls' := [some (.ref 1313), some (.int y1), some (.ref y2), some (.ref y3), none, none, none, none]) (st' := [.ref y2]) (by decide +kernel) rfl ?_
  refine b_callI 36 1 [.ref y2] (rest := []) (by decide +kernel) rfl rfl rfl (go_O rfl (by decide +kernel) hy2) rfl (s36 hv F y2 σ hy2) (by decide) (fun c6 σ5 => ?_)
  refine b_izT (c := .eq) (o := 10) (t := 82) (y := 0) (w := .null) (by decide +kernel) cmp_eq (fun _ => ?_) (fun _ => ?_)
  · refine b_run [(82, .iconst 1, 0, 0, .null)] (pc' := 83) (ls' := [some (.ref 1313), some (.int y1), some (.ref y2), some (.ref y3), none, none, none, none]) (st' := [.int 1]) (by decide +kernel) rfl ?_
    exact b_wk (wS (wS (wS (wS (wN (wN (wN (wN w0)))))))) (s74_83 hv F y1 y2 y3 1 σ5 hy2 hy3)
  · refine b_run [(75, .aload_n 2, 0, 0, .null)] (pc' := 76) (ls' := [some (.ref 1313), some (.int y1), some (.ref y2), some (.ref y3), none, none, none, none]) (st' := [.ref y2]) (by decide +kernel) rfl ?_
    refine b_gI (q := 156) (ci := 1) (k := 9) (w := .null) (by decide +kernel) (fk_I1_9 hy2) (fun c18 => ?_)
    refine b_run [(79, .goto 4, 83, 0, .null)] (pc' := 83) (ls' := [some (.ref 1313), some (.int y1), some (.ref y2), some (.ref y3), none, none, none, none]) (st' := [.int c18]) (by decide +kernel) rfl ?_
    exact b_wk (wS (wS (wS (wS (wN (wN (wN (wN w0)))))))) (s74_83 hv F y1 y2 y3 c18 σ5 hy2 hy3)
def f74_52 (F : Nat) (y3 : Nat) (z1 : Int32) (z2 : Int64) (σ : St) : Rs := cI (f37 F y3 σ) fun c24 σ23 => 
    if c24 = 0 then cI (f75 F z1 z2 0 σ23) fun c26 σ25 => if c26 = 0 ∨ c26 = 1 then oI c26 σ25 else none
    else cI (f75 F z1 z2 1 σ23) fun c28 σ27 => if c28 = 0 ∨ c28 = 1 then oI c28 σ27 else none
theorem s74_52 {sc : aSc} (hv : vOk sc) (F : Nat) (y3 : Nat) (z1 : Int32) (z2 : Int64) (σ : St) (hy3 : isO y3 1 = true) : bEx sc 4 74 52 [none, none, none, some (.ref y3), none, none, none, none] [.long z2, .int z1, .ref 1313] σ (f74_52 F y3 z1 z2 σ) := by
  unfold f74_52
  refine b_run [(52, .aload_n 3, 0, 0, .null)] (pc' := 53) (ls' := [none, none, none, some (.ref y3), none, none, none, none]) (st' := [.ref y3, .long z2, .int z1, .ref 1313]) (by decide +kernel) rfl ?_
  refine b_callI 37 1 [.ref y3] (rest := [.long z2, .int z1, .ref 1313]) (by decide +kernel) rfl rfl rfl (go_O rfl (by decide +kernel) hy3) rfl (s37 hv F y3 σ hy3) (by decide) (fun c24 σ23 => ?_)
  refine b_izT (c := .eq) (o := 7) (t := 63) (y := 0) (w := .null) (by decide +kernel) cmp_eq (fun _ => ?_) (fun _ => ?_)
  · refine b_run [(63, .lconst 0, 0, 0, .null)] (pc' := 64) (ls' := [none, none, none, some (.ref y3), none, none, none, none]) (st' := [.long 0, .long z2, .int z1, .ref 1313]) (by decide +kernel) rfl ?_
    refine b_callI 75 4 [.ref 1313, .int z1, .long z2, .long 0] (rest := []) (by decide +kernel) rfl rfl rfl (go_O rfl (by decide +kernel) (by decide +kernel : isO 1313 3 = true)) rfl (s75 hv F z1 z2 0 σ23) (by decide) (fun c26 σ25 => ?_)
    exact b_guard (fun hz => b_ret (i := (.ireturn, 0, 0, .null)) (by decide +kernel) rfl rfl (fit_Z hz))
  · refine b_run [(59, .lconst 1, 0, 0, .null), (60, .goto 4, 64, 0, .null)] (pc' := 64) (ls' := [none, none, none, some (.ref y3), none, none, none, none]) (st' := [.long 1, .long z2, .int z1, .ref 1313]) (by decide +kernel) rfl ?_
    refine b_callI 75 4 [.ref 1313, .int z1, .long z2, .long 1] (rest := []) (by decide +kernel) rfl rfl rfl (go_O rfl (by decide +kernel) (by decide +kernel : isO 1313 3 = true)) rfl (s75 hv F z1 z2 1 σ23) (by decide) (fun c28 σ27 => ?_)
    exact b_guard (fun hz => b_ret (i := (.ireturn, 0, 0, .null)) (by decide +kernel) rfl rfl (fit_Z hz))
def f74_38 (F : Nat) (y1 : Int32) (y2 : Nat) (y3 : Nat) (σ : St) : Rs := cI (f37 F y2 σ) fun c22 σ21 => 
    if c22 = 0 then f74_52 F y3 y1 0 σ21
    else f74_52 F y3 y1 1 σ21
theorem s74_38 {sc : aSc} (hv : vOk sc) (F : Nat) (y1 : Int32) (y2 : Nat) (y3 : Nat) (σ : St) (hy2 : isO y2 1 = true) (hy3 : isO y3 1 = true) : bEx sc 4 74 38 [some (.ref 1313), some (.int y1), some (.ref y2), some (.ref y3), none, none, none, none] [] σ (f74_38 F y1 y2 y3 σ) := by
  unfold f74_38
  refine b_run [(38, .aload_n 0, 0, 0, .null), (39, .iload_n 1, 0, 0, .null), (40, .aload_n 2, 0, 0, .null)] (pc' := 41) (ls' := [some (.ref 1313), some (.int y1), some (.ref y2), some (.ref y3), none, none, none, none]) (st' := [.ref y2, .int y1, .ref 1313]) (by decide +kernel) rfl ?_
  refine b_callI 37 1 [.ref y2] (rest := [.int y1, .ref 1313]) (by decide +kernel) rfl rfl rfl (go_O rfl (by decide +kernel) hy2) rfl (s37 hv F y2 σ hy2) (by decide) (fun c22 σ21 => ?_)
  refine b_izT (c := .eq) (o := 7) (t := 51) (y := 0) (w := .null) (by decide +kernel) cmp_eq (fun _ => ?_) (fun _ => ?_)
  · refine b_run [(51, .lconst 0, 0, 0, .null)] (pc' := 52) (ls' := [some (.ref 1313), some (.int y1), some (.ref y2), some (.ref y3), none, none, none, none]) (st' := [.long 0, .int y1, .ref 1313]) (by decide +kernel) rfl ?_
    exact b_wk (wN (wN (wN (wS (wN (wN (wN (wN w0)))))))) (s74_52 hv F y3 y1 0 σ21 hy3)
  · refine b_run [(47, .lconst 1, 0, 0, .null), (48, .goto 4, 52, 0, .null)] (pc' := 52) (ls' := [some (.ref 1313), some (.int y1), some (.ref y2), some (.ref y3), none, none, none, none]) (st' := [.long 1, .int y1, .ref 1313]) (by decide +kernel) rfl ?_
    exact b_wk (wN (wN (wN (wS (wN (wN (wN (wN w0)))))))) (s74_52 hv F y3 y1 1 σ21 hy3)
def f74_24 (F : Nat) (y1 : Int32) (y2 : Nat) (y3 : Nat) (σ : St) : Rs := cI (f36 F y2 σ) fun c4 σ3 => 
    if c4 = 0 then f74_68 F y1 y2 y3 σ3
    else cI (f38 F y3 σ3) fun c20 σ19 => 
    if c20 = 0 then f74_68 F y1 y2 y3 σ19
    else f74_38 F y1 y2 y3 σ19
theorem s74_24 {sc : aSc} (hv : vOk sc) (F : Nat) (y1 : Int32) (y2 : Nat) (y3 : Nat) (σ : St) (hy2 : isO y2 1 = true) (hy3 : isO y3 1 = true) : bEx sc 4 74 24 [some (.ref 1313), some (.int y1), some (.ref y2), some (.ref y3), none, none, none, none] [] σ (f74_24 F y1 y2 y3 σ) := by
  unfold f74_24
  refine b_run [(24, .aload_n 2, 0, 0, .null)] (pc' := 25) (ls' := [some (.ref 1313), some (.int y1), some (.ref y2), some (.ref y3), none, none, none, none]) (st' := [.ref y2]) (by decide +kernel) rfl ?_
  refine b_callI 36 1 [.ref y2] (rest := []) (by decide +kernel) rfl rfl rfl (go_O rfl (by decide +kernel) hy2) rfl (s36 hv F y2 σ hy2) (by decide) (fun c4 σ3 => ?_)
  refine b_izT (c := .eq) (o := 40) (t := 68) (y := 0) (w := .null) (by decide +kernel) cmp_eq (fun _ => ?_) (fun _ => ?_)
  · exact b_wk (wS (wS (wS (wS (wN (wN (wN (wN w0)))))))) (s74_68 hv F y1 y2 y3 σ3 hy2 hy3)
  · refine b_run [(31, .aload_n 3, 0, 0, .null)] (pc' := 32) (ls' := [some (.ref 1313), some (.int y1), some (.ref y2), some (.ref y3), none, none, none, none]) (st' := [.ref y3]) (by decide +kernel) rfl ?_
    refine b_callI 38 1 [.ref y3] (rest := []) (by decide +kernel) rfl rfl rfl (go_O rfl (by decide +kernel) hy3) rfl (s38 hv F y3 σ3 hy3) (by decide) (fun c20 σ19 => ?_)
    refine b_izT (c := .eq) (o := 33) (t := 68) (y := 0) (w := .null) (by decide +kernel) cmp_eq (fun _ => ?_) (fun _ => ?_)
    · exact b_wk (wS (wS (wS (wS (wN (wN (wN (wN w0)))))))) (s74_68 hv F y1 y2 y3 σ19 hy2 hy3)
    · exact b_wk (wS (wS (wS (wS (wN (wN (wN (wN w0)))))))) (s74_38 hv F y1 y2 y3 σ19 hy2 hy3)
/-- TreeStore$PathWalker.compares(ILTreeStore$Part;LTreeStore$Part;)Z -/
def f74 (F : Nat) (x1 : Int32) (x2 : Nat) (x3 : Nat) (σ : St) : Rs := cI (f38 F x2 σ) fun c2 σ1 => 
    if c2 = 0 then f74_24 F x1 x2 x3 σ1
    else cI (f36 F x3 σ1) fun c30 σ29 => 
    if c30 = 0 then f74_24 F x1 x2 x3 σ29
    else f74_38 F x1 x2 x3 σ29
theorem s74 {sc : aSc} (hv : vOk sc) (F : Nat) (x1 : Int32) (x2 : Nat) (x3 : Nat) (σ : St) (hx2 : isO x2 1 = true) (hx3 : isO x3 1 = true) : bEx sc 4 74 0 [some (.ref 1313), some (.int x1), some (.ref x2), some (.ref x3), none, none, none, none] [] σ (f74 F x1 x2 x3 σ) := by
  unfold f74
  refine b_run [(0, .aload_n 2, 0, 0, .null), (1, .ifnull 7, 8, 0, .null), (4, .aload_n 3, 0, 0, .null), (5, .ifnonnull 5, 10, 0, .null), (10, .aload_n 2, 0, 0, .null)] (pc' := 11) (ls' := [some (.ref 1313), some (.int x1), some (.ref x2), some (.ref x3), none, none, none, none]) (st' := [.ref x2]) (by decide +kernel) rfl ?_
  refine b_callI 38 1 [.ref x2] (rest := []) (by decide +kernel) rfl rfl rfl (go_O rfl (by decide +kernel) hx2) rfl (s38 hv F x2 σ hx2) (by decide) (fun c2 σ1 => ?_)
  refine b_izT (c := .eq) (o := 10) (t := 24) (y := 0) (w := .null) (by decide +kernel) cmp_eq (fun _ => ?_) (fun _ => ?_)
  · exact b_wk (wS (wS (wS (wS (wN (wN (wN (wN w0)))))))) (s74_24 hv F x1 x2 x3 σ1 hx2 hx3)
  · refine b_run [(17, .aload_n 3, 0, 0, .null)] (pc' := 18) (ls' := [some (.ref 1313), some (.int x1), some (.ref x2), some (.ref x3), none, none, none, none]) (st' := [.ref x3]) (by decide +kernel) rfl ?_
    refine b_callI 36 1 [.ref x3] (rest := []) (by decide +kernel) rfl rfl rfl (go_O rfl (by decide +kernel) hx3) rfl (s36 hv F x3 σ1 hx3) (by decide) (fun c30 σ29 => ?_)
    refine b_izF (c := .ne) (o := 17) (t := 38) (y := 0) (w := .null) (by decide +kernel) cmp_ne (fun _ => ?_) (fun _ => ?_)
    · exact b_wk (wS (wS (wS (wS (wN (wN (wN (wN w0)))))))) (s74_24 hv F x1 x2 x3 σ29 hx2 hx3)
    · exact b_wk (wS (wS (wS (wS (wN (wN (wN (wN w0)))))))) (s74_38 hv F x1 x2 x3 σ29 hx2 hx3)
def f71_72 (F : Nat) (g70 : Nat → Int32 → Int32 → Int32 → St → Rs) (k9 : Int32 → Int32 → Int32 → Int64 → Value → St → Rs) (y2 : Int32) (y3 : Int32) (y4 : Int32) (y7 : Value) (z0 : Int64) (z1 : Int64) (σ : St) : Rs := lt (z0 + z1) fun c11 => 
    mR y7 (fun c12 => if isO c12 1 = true then 
    mR (σ.2.2.1 c12 3) (fun c13 => if isO c13 1 = true then k9 y2 y3 y4 c11 (Value.ref c13) σ else none)
    (k9 y2 y3 y4 c11 Value.null σ) else none)
    (none)
theorem s71_72 {sc : aSc} (hv : vOk sc) (F : Nat) (hr : Nat) (h20 : 20 ≤ hr) (g70 : Nat → Int32 → Int32 → Int32 → St → Rs) (hg70 : ∀ x1 x2 x3 x4 σ, isO x1 1 = true → bEx sc hr 70 0 [some (.ref 1313), some (.ref x1), some (.int x2), some (.int x3), some (.int x4)] [] σ (g70 x1 x2 x3 x4 σ)) (k9 : Int32 → Int32 → Int32 → Int64 → Value → St → Rs) (hk9 : ∀ y2 y3 y4 y5 y7 σ, bEx sc (hr + 1) 71 9 [some (.ref 1313), none, some (.int y2), some (.int y3), some (.int y4), some (.long y5), none, some (y7), none, none] [] σ (k9 y2 y3 y4 y5 y7 σ)) (y2 : Int32) (y3 : Int32) (y4 : Int32) (y7 : Value) (z0 : Int64) (z1 : Int64) (σ : St) : bEx sc (hr + 1) 71 72 [some (.ref 1313), none, some (.int y2), some (.int y3), some (.int y4), none, none, some (y7), none, none] [.long z1, .long z0] σ (f71_72 F g70 k9 y2 y3 y4 y7 z0 z1 σ) := by
  unfold f71_72
  refine b_run [(72, .ladd, 0, 0, .null), (73, .lstore 5, 0, 0, .null)] (pc' := 75) (ls' := [some (.ref 1313), none, some (.int y2), some (.int y3), some (.int y4), some (.long (z0 + z1)), none, some (y7), none, none]) (st' := []) (by decide +kernel) rfl ?_
  refine b_let (z0 + z1) (L := fun c11 => [some (.ref 1313), none, some (.int y2), some (.int y3), some (.int y4), some (.long c11), none, some (y7), none, none]) (S := fun _ => []) (fun c11 => ?_)
  refine b_cV y7 (L := fun v => [some (.ref 1313), none, some (.int y2), some (.int y3), some (.int y4), some (.long c11), none, some v, none, none]) (fun c12 => b_guard (fun hc12 => ?_)) ?_
  · refine b_run [(75, .aload 7, 0, 0, .null)] (pc' := 77) (ls' := [some (.ref 1313), none, some (.int y2), some (.int y3), some (.int y4), some (.long c11), none, some (.ref c12), none, none]) (st' := [.ref c12]) (by decide +kernel) rfl ?_
    refine b_gM (q := 86) (ci := 1) (k := 3) (w := .null) (by decide +kernel) (fk_M1_3 hc12) (fun c13 => b_guard (fun hc13 => ?_)) ?_
    · refine b_run [(80, .astore 7, 0, 0, .null), (82, .goto (-73), 9, 0, .null)] (pc' := 9) (ls' := [some (.ref 1313), none, some (.int y2), some (.int y3), some (.int y4), some (.long c11), none, some (.ref c13), none, none]) (st' := []) (by decide +kernel) rfl ?_
      exact b_wk (wS (wN (wS (wS (wS (wS (wN (wS (wN (wN w0)))))))))) (hk9 y2 y3 y4 c11 (Value.ref c13) σ)
    · refine b_run [(80, .astore 7, 0, 0, .null), (82, .goto (-73), 9, 0, .null)] (pc' := 9) (ls' := [some (.ref 1313), none, some (.int y2), some (.int y3), some (.int y4), some (.long c11), none, some (.null), none, none]) (st' := []) (by decide +kernel) rfl ?_
      exact b_wk (wS (wN (wS (wS (wS (wS (wN (wS (wN (wN w0)))))))))) (hk9 y2 y3 y4 c11 Value.null σ)
  · refine b_run [(75, .aload 7, 0, 0, .null)] (pc' := 77) (ls' := [some (.ref 1313), none, some (.int y2), some (.int y3), some (.int y4), some (.long c11), none, some (.null), none, none]) (st' := [.null]) (by decide +kernel) rfl ?_
    exact b_none
def f71_9 (F : Nat) (g70 : Nat → Int32 → Int32 → Int32 → St → Rs) : Nat → Int32 → Int32 → Int32 → Int64 → Value → St → Rs
  | 0, _, _, _, _, _, _ => none
  | n + 1, y2, y3, y4, y5, y7, σ => mR y7 (fun c2 => if isO c2 1 = true then 
    cV (g70 c2 y2 y3 y4 σ) fun σ3 => 
    lt (σ3.1 c2 9) fun c5 => 
    cI (f72 F c5 σ3) fun c7 σ6 => 
    cJ (f73 F c2 c7 σ6) fun c9 σ8 => 
    if lg_cmp c9 4611686018427387904 = 0 then oJ 4611686018427387904 σ8
    else lt (σ8.1 c2 4) fun c10 => 
    if c10 = 0 then f71_72 F g70 (f71_9 F g70 n) y2 y3 y4 (Value.ref c2) y5 c9 σ8
    else f71_72 F g70 (f71_9 F g70 n) y2 y3 y4 (Value.ref c2) y5 (-c9) σ8 else none)
    (oJ y5 σ)
theorem s71_9 {sc : aSc} (hv : vOk sc) (F : Nat) (hr : Nat) (h20 : 20 ≤ hr) (g70 : Nat → Int32 → Int32 → Int32 → St → Rs) (hg70 : ∀ x1 x2 x3 x4 σ, isO x1 1 = true → bEx sc hr 70 0 [some (.ref 1313), some (.ref x1), some (.int x2), some (.int x3), some (.int x4)] [] σ (g70 x1 x2 x3 x4 σ)) : ∀ (n : Nat) (y2 : Int32) (y3 : Int32) (y4 : Int32) (y5 : Int64) (y7 : Value) (σ : St), bEx sc (hr + 1) 71 9 [some (.ref 1313), none, some (.int y2), some (.int y3), some (.int y4), some (.long y5), none, some (y7), none, none] [] σ (f71_9 F g70 n y2 y3 y4 y5 y7 σ) := by
  intro n
  induction n with
  | zero => intro y2 y3 y4 y5 y7 σ; exact b_none
  | succ n ih =>
    intro y2 y3 y4 y5 y7 σ
    rw [f71_9.eq_2]
    refine b_cV y7 (L := fun v => [some (.ref 1313), none, some (.int y2), some (.int y3), some (.int y4), some (.long y5), none, some v, none, none]) (fun c2 => b_guard (fun hc2 => ?_)) ?_
    · refine b_run [(9, .aload 7, 0, 0, .null), (11, .ifnull 74, 85, 0, .null), (14, .aload_n 0, 0, 0, .null), (15, .aload 7, 0, 0, .null), (17, .iload_n 2, 0, 0, .null), (18, .iload_n 3, 0, 0, .null), (19, .iload 4, 0, 0, .null)] (pc' := 21) (ls' := [some (.ref 1313), none, some (.int y2), some (.int y3), some (.int y4), some (.long y5), none, some (.ref c2), none, none]) (st' := [.int y4, .int y3, .int y2, .ref c2, .ref 1313]) (by decide +kernel) rfl ?_
      refine b_callV 70 5 [.ref 1313, .ref c2, .int y2, .int y3, .int y4] (rest := []) (by decide +kernel) rfl rfl rfl (go_O rfl (by decide +kernel) (by decide +kernel : isO 1313 3 = true)) rfl (hg70 c2 y2 y3 y4 σ hc2) (by omega) (fun σ3 => ?_)
      refine b_run [(24, .aload_n 0, 0, 0, .null), (25, .aload 7, 0, 0, .null), (27, .aload_n 0, 0, 0, .null), (28, .aload 7, 0, 0, .null)] (pc' := 30) (ls' := [some (.ref 1313), none, some (.int y2), some (.int y3), some (.int y4), some (.long y5), none, some (.ref c2), none, none]) (st' := [.ref c2, .ref 1313, .ref c2, .ref 1313]) (by decide +kernel) rfl ?_
      refine b_gI (q := 156) (ci := 1) (k := 9) (w := .null) (by decide +kernel) (fk_I1_9 hc2) (fun c5 => ?_)
      refine b_callI 72 2 [.ref 1313, .int c5] (rest := [.ref c2, .ref 1313]) (by decide +kernel) rfl rfl rfl (go_O rfl (by decide +kernel) (by decide +kernel : isO 1313 3 = true)) rfl (s72 hv F c5 σ3) (by omega) (fun c7 σ6 => ?_)
      refine b_callJ 73 3 [.ref 1313, .ref c2, .int c7] (rest := []) (by decide +kernel) rfl rfl rfl (go_O rfl (by decide +kernel) (by decide +kernel : isO 1313 3 = true)) rfl (s73 hv F c2 c7 σ6 hc2) (by omega) (fun c9 σ8 => ?_)
      refine b_run [(39, .lstore 8, 0, 0, .null), (41, .lload 8, 0, 0, .null), (43, .ldc2_w 173, 0, 0, .long 4611686018427387904), (46, .lcmp, 0, 0, .null)] (pc' := 47) (ls' := [some (.ref 1313), none, some (.int y2), some (.int y3), some (.int y4), some (.long y5), none, some (.ref c2), some (.long c9), none]) (st' := [.int (lg_cmp c9 4611686018427387904)]) (by decide +kernel) rfl ?_
      refine b_izF (c := .ne) (o := 7) (t := 54) (y := 0) (w := .null) (by decide +kernel) cmp_ne (fun _ => ?_) (fun _ => ?_)
      · refine b_run [(50, .ldc2_w 173, 0, 0, .long 4611686018427387904)] (pc' := 53) (ls' := [some (.ref 1313), none, some (.int y2), some (.int y3), some (.int y4), some (.long y5), none, some (.ref c2), some (.long c9), none]) (st' := [.long 4611686018427387904]) (by decide +kernel) rfl ?_
        exact b_ret (i := (.lreturn, 0, 0, .null)) (by decide +kernel) rfl rfl (fit_J _)
      · refine b_run [(54, .lload 5, 0, 0, .null), (56, .aload 7, 0, 0, .null)] (pc' := 58) (ls' := [some (.ref 1313), none, some (.int y2), some (.int y3), some (.int y4), some (.long y5), none, some (.ref c2), some (.long c9), none]) (st' := [.ref c2, .long y5]) (by decide +kernel) rfl ?_
        refine b_gI (q := 175) (ci := 1) (k := 4) (w := .null) (by decide +kernel) (fk_I1_4 hc2) (fun c10 => ?_)
        refine b_izT (c := .eq) (o := 9) (t := 70) (y := 0) (w := .null) (by decide +kernel) cmp_eq (fun _ => ?_) (fun _ => ?_)
        · refine b_run [(70, .lload 8, 0, 0, .null)] (pc' := 72) (ls' := [some (.ref 1313), none, some (.int y2), some (.int y3), some (.int y4), some (.long y5), none, some (.ref c2), some (.long c9), none]) (st' := [.long c9, .long y5]) (by decide +kernel) rfl ?_
          exact b_wk (wS (wN (wS (wS (wS (wN (wN (wS (wN (wN w0)))))))))) (s71_72 hv F hr h20 g70 hg70 (f71_9 F g70 n) ih y2 y3 y4 (Value.ref c2) y5 c9 σ8)
        · refine b_run [(64, .lload 8, 0, 0, .null), (66, .lneg, 0, 0, .null), (67, .goto 5, 72, 0, .null)] (pc' := 72) (ls' := [some (.ref 1313), none, some (.int y2), some (.int y3), some (.int y4), some (.long y5), none, some (.ref c2), some (.long c9), none]) (st' := [.long (-c9), .long y5]) (by decide +kernel) rfl ?_
          exact b_wk (wS (wN (wS (wS (wS (wN (wN (wS (wN (wN w0)))))))))) (s71_72 hv F hr h20 g70 hg70 (f71_9 F g70 n) ih y2 y3 y4 (Value.ref c2) y5 (-c9) σ8)
    · refine b_run [(9, .aload 7, 0, 0, .null), (11, .ifnull 74, 85, 0, .null), (85, .lload 5, 0, 0, .null)] (pc' := 87) (ls' := [some (.ref 1313), none, some (.int y2), some (.int y3), some (.int y4), some (.long y5), none, some (.null), none, none]) (st' := [.long y5]) (by decide +kernel) rfl ?_
      exact b_ret (i := (.lreturn, 0, 0, .null)) (by decide +kernel) rfl rfl (fit_J _)
/-- TreeStore$PathWalker.total(LTreeStore$Part;III)J -/
def f71 (F : Nat) (g70 : Nat → Int32 → Int32 → Int32 → St → Rs) (x1 : Nat) (x2 : Int32) (x3 : Int32) (x4 : Int32) (σ : St) : Rs := mR (σ.2.2.1 x1 1) (fun c1 => if isO c1 1 = true then f71_9 F g70 F x2 x3 x4 0 (Value.ref c1) σ else none)
    (f71_9 F g70 F x2 x3 x4 0 Value.null σ)
theorem s71 {sc : aSc} (hv : vOk sc) (F : Nat) (hr : Nat) (h20 : 20 ≤ hr) (g70 : Nat → Int32 → Int32 → Int32 → St → Rs) (hg70 : ∀ x1 x2 x3 x4 σ, isO x1 1 = true → bEx sc hr 70 0 [some (.ref 1313), some (.ref x1), some (.int x2), some (.int x3), some (.int x4)] [] σ (g70 x1 x2 x3 x4 σ)) (x1 : Nat) (x2 : Int32) (x3 : Int32) (x4 : Int32) (σ : St) (hx1 : isO x1 1 = true) : bEx sc (hr + 1) 71 0 [some (.ref 1313), some (.ref x1), some (.int x2), some (.int x3), some (.int x4), none, none, none, none, none] [] σ (f71 F g70 x1 x2 x3 x4 σ) := by
  unfold f71
  refine b_run [(0, .lconst 0, 0, 0, .null), (1, .lstore 5, 0, 0, .null), (3, .aload_n 1, 0, 0, .null)] (pc' := 4) (ls' := [some (.ref 1313), some (.ref x1), some (.int x2), some (.int x3), some (.int x4), some (.long 0), none, none, none, none]) (st' := [.ref x1]) (by decide +kernel) rfl ?_
  refine b_gM (q := 149) (ci := 1) (k := 1) (w := .null) (by decide +kernel) (fk_M1_1 hx1) (fun c1 => b_guard (fun hc1 => ?_)) ?_
  · refine b_run [(7, .astore 7, 0, 0, .null)] (pc' := 9) (ls' := [some (.ref 1313), some (.ref x1), some (.int x2), some (.int x3), some (.int x4), some (.long 0), none, some (.ref c1), none, none]) (st' := []) (by decide +kernel) rfl ?_
    exact b_wk (wS (wN (wS (wS (wS (wS (wN (wS (wN (wN w0)))))))))) (s71_9 hv F hr h20 g70 hg70 F x2 x3 x4 0 (Value.ref c1) σ)
  · refine b_run [(7, .astore 7, 0, 0, .null)] (pc' := 9) (ls' := [some (.ref 1313), some (.ref x1), some (.int x2), some (.int x3), some (.int x4), some (.long 0), none, some (.null), none, none]) (st' := []) (by decide +kernel) rfl ?_
    exact b_wk (wS (wN (wS (wS (wS (wS (wN (wS (wN (wN w0)))))))))) (s71_9 hv F hr h20 g70 hg70 F x2 x3 x4 0 Value.null σ)
def f69_110 (F : Nat) (g70 : Nat → Int32 → Int32 → Int32 → St → Rs) (k15 : Int32 → Nat → Int32 → Int32 → Int32 → Int32 → Int32 → St → Rs) (y1 : Int32) (y2 : Nat) (y3 : Int32) (y4 : Int32) (y5 : Int32) (y6 : Int32) (y7 : Int32) (σ : St) : Rs := k15 y1 y2 y3 y4 y5 y6 (y7 + 1) σ
theorem s69_110 {sc : aSc} (hv : vOk sc) (F : Nat) (hr : Nat) (h20 : 20 ≤ hr) (g70 : Nat → Int32 → Int32 → Int32 → St → Rs) (hg70 : ∀ x1 x2 x3 x4 σ, isO x1 1 = true → bEx sc hr 70 0 [some (.ref 1313), some (.ref x1), some (.int x2), some (.int x3), some (.int x4)] [] σ (g70 x1 x2 x3 x4 σ)) (k15 : Int32 → Nat → Int32 → Int32 → Int32 → Int32 → Int32 → St → Rs) (hk15 : ∀ y1 y2 y3 y4 y5 y6 y7 σ, isO y2 1 = true → bEx sc (hr + 1) 69 15 [some (.ref 1313), some (.int y1), some (.ref y2), some (.int y3), some (.int y4), some (.int y5), some (.int y6), some (.int y7), none] [] σ (k15 y1 y2 y3 y4 y5 y6 y7 σ)) (y1 : Int32) (y2 : Nat) (y3 : Int32) (y4 : Int32) (y5 : Int32) (y6 : Int32) (y7 : Int32) (σ : St) (hy2 : isO y2 1 = true) : bEx sc (hr + 1) 69 110 [some (.ref 1313), some (.int y1), some (.ref y2), some (.int y3), some (.int y4), some (.int y5), some (.int y6), some (.int y7), none] [] σ (f69_110 F g70 k15 y1 y2 y3 y4 y5 y6 y7 σ) := by
  unfold f69_110
  refine b_run [(110, .iinc 7 1, 0, 0, .null), (113, .goto (-98), 15, 0, .null)] (pc' := 15) (ls' := [some (.ref 1313), some (.int y1), some (.ref y2), some (.int y3), some (.int y4), some (.int y5), some (.int y6), some (.int (y7 + 1)), none]) (st' := []) (by decide +kernel) rfl ?_
  exact b_wk (wS (wS (wS (wS (wS (wS (wS (wS (wN w0))))))))) (hk15 y1 y2 y3 y4 y5 y6 (y7 + 1) σ hy2)
def f69_101 (F : Nat) (g70 : Nat → Int32 → Int32 → Int32 → St → Rs) (k15 : Int32 → Nat → Int32 → Int32 → Int32 → Int32 → Int32 → St → Rs) (y1 : Int32) (y2 : Nat) (y3 : Int32) (y4 : Int32) (y5 : Int32) (y6 : Int32) (y7 : Int32) (y8 : Int32) (σ : St) : Rs := lt (y6 ||| (1 <<< (y8 &&& 31))) fun c12 => f69_110 F g70 k15 y1 y2 y3 y4 y5 c12 y7 σ
theorem s69_101 {sc : aSc} (hv : vOk sc) (F : Nat) (hr : Nat) (h20 : 20 ≤ hr) (g70 : Nat → Int32 → Int32 → Int32 → St → Rs) (hg70 : ∀ x1 x2 x3 x4 σ, isO x1 1 = true → bEx sc hr 70 0 [some (.ref 1313), some (.ref x1), some (.int x2), some (.int x3), some (.int x4)] [] σ (g70 x1 x2 x3 x4 σ)) (k15 : Int32 → Nat → Int32 → Int32 → Int32 → Int32 → Int32 → St → Rs) (hk15 : ∀ y1 y2 y3 y4 y5 y6 y7 σ, isO y2 1 = true → bEx sc (hr + 1) 69 15 [some (.ref 1313), some (.int y1), some (.ref y2), some (.int y3), some (.int y4), some (.int y5), some (.int y6), some (.int y7), none] [] σ (k15 y1 y2 y3 y4 y5 y6 y7 σ)) (y1 : Int32) (y2 : Nat) (y3 : Int32) (y4 : Int32) (y5 : Int32) (y6 : Int32) (y7 : Int32) (y8 : Int32) (σ : St) (hy2 : isO y2 1 = true) : bEx sc (hr + 1) 69 101 [some (.ref 1313), some (.int y1), some (.ref y2), some (.int y3), some (.int y4), some (.int y5), some (.int y6), some (.int y7), some (.int y8)] [] σ (f69_101 F g70 k15 y1 y2 y3 y4 y5 y6 y7 y8 σ) := by
  unfold f69_101
  refine b_run [(101, .iload 6, 0, 0, .null), (103, .iconst 1, 0, 0, .null), (104, .iload 8, 0, 0, .null), (106, .ishl, 0, 0, .null), (107, .ior, 0, 0, .null), (108, .istore 6, 0, 0, .null)] (pc' := 110) (ls' := [some (.ref 1313), some (.int y1), some (.ref y2), some (.int y3), some (.int y4), some (.int y5), some (.int (y6 ||| (1 <<< (y8 &&& 31)))), some (.int y7), some (.int y8)]) (st' := []) (by decide +kernel) rfl ?_
  refine b_let (y6 ||| (1 <<< (y8 &&& 31))) (L := fun c12 => [some (.ref 1313), some (.int y1), some (.ref y2), some (.int y3), some (.int y4), some (.int y5), some (.int c12), some (.int y7), some (.int y8)]) (S := fun _ => []) (fun c12 => ?_)
  exact b_wk (wS (wS (wS (wS (wS (wS (wS (wS (wN w0))))))))) (s69_110 hv F hr h20 g70 hg70 k15 hk15 y1 y2 y3 y4 y5 c12 y7 σ hy2)
def f69_48 (F : Nat) (g70 : Nat → Int32 → Int32 → Int32 → St → Rs) (k15 : Int32 → Nat → Int32 → Int32 → Int32 → Int32 → Int32 → St → Rs) (y1 : Int32) (y2 : Nat) (y3 : Int32) (y4 : Int32) (y5 : Int32) (y6 : Int32) (y7 : Int32) (z0 : Int32) (σ : St) : Rs := cI (f31 F y1 z0 σ) fun c5 σ4 => 
    if c5 = 0 then f69_110 F g70 k15 y1 y2 y3 y4 y5 y6 y7 σ4
    else cV (g70 y2 z0 (y5 + 1) y4 σ4) fun σ6 => 
    cI (f39 F y2 σ6) fun c9 σ8 => 
    if c9 = 0 then 
    cI (f37 F y2 σ8) fun c11 σ10 => 
    if c11 = 0 then f69_110 F g70 k15 y1 y2 y3 y4 (y5 + 1) y6 y7 σ10
    else f69_101 F g70 k15 y1 y2 y3 y4 (y5 + 1) y6 y7 z0 σ10
    else lt (σ8.2.1 y2 8) fun c13 => 
    if lg_cmp c13 ((y5 + 1 : Int32).toInt64) = 0 then f69_101 F g70 k15 y1 y2 y3 y4 (y5 + 1) y6 y7 z0 σ8
    else f69_110 F g70 k15 y1 y2 y3 y4 (y5 + 1) y6 y7 σ8
theorem s69_48 {sc : aSc} (hv : vOk sc) (F : Nat) (hr : Nat) (h20 : 20 ≤ hr) (g70 : Nat → Int32 → Int32 → Int32 → St → Rs) (hg70 : ∀ x1 x2 x3 x4 σ, isO x1 1 = true → bEx sc hr 70 0 [some (.ref 1313), some (.ref x1), some (.int x2), some (.int x3), some (.int x4)] [] σ (g70 x1 x2 x3 x4 σ)) (k15 : Int32 → Nat → Int32 → Int32 → Int32 → Int32 → Int32 → St → Rs) (hk15 : ∀ y1 y2 y3 y4 y5 y6 y7 σ, isO y2 1 = true → bEx sc (hr + 1) 69 15 [some (.ref 1313), some (.int y1), some (.ref y2), some (.int y3), some (.int y4), some (.int y5), some (.int y6), some (.int y7), none] [] σ (k15 y1 y2 y3 y4 y5 y6 y7 σ)) (y1 : Int32) (y2 : Nat) (y3 : Int32) (y4 : Int32) (y5 : Int32) (y6 : Int32) (y7 : Int32) (z0 : Int32) (σ : St) (hy2 : isO y2 1 = true) : bEx sc (hr + 1) 69 48 [some (.ref 1313), some (.int y1), some (.ref y2), some (.int y3), some (.int y4), some (.int y5), some (.int y6), some (.int y7), none] [.int z0] σ (f69_48 F g70 k15 y1 y2 y3 y4 y5 y6 y7 z0 σ) := by
  unfold f69_48
  refine b_run [(48, .istore 8, 0, 0, .null), (50, .iload_n 1, 0, 0, .null), (51, .iload 8, 0, 0, .null)] (pc' := 53) (ls' := [some (.ref 1313), some (.int y1), some (.ref y2), some (.int y3), some (.int y4), some (.int y5), some (.int y6), some (.int y7), some (.int z0)]) (st' := [.int z0, .int y1]) (by decide +kernel) rfl ?_
  refine b_callI 31 2 [.int y1, .int z0] (rest := []) (by decide +kernel) rfl rfl rfl (go_S rfl (by decide +kernel)) rfl (s31 hv F y1 z0 σ) (by omega) (fun c5 σ4 => ?_)
  refine b_izT (c := .eq) (o := 54) (t := 110) (y := 0) (w := .null) (by decide +kernel) cmp_eq (fun _ => ?_) (fun _ => ?_)
  · exact b_wk (wS (wS (wS (wS (wS (wS (wS (wS (wN w0))))))))) (s69_110 hv F hr h20 g70 hg70 k15 hk15 y1 y2 y3 y4 y5 y6 y7 σ4 hy2)
  · refine b_run [(59, .iinc 5 1, 0, 0, .null), (62, .aload_n 0, 0, 0, .null), (63, .aload_n 2, 0, 0, .null), (64, .iload 8, 0, 0, .null), (66, .iload 5, 0, 0, .null), (68, .iload 4, 0, 0, .null)] (pc' := 70) (ls' := [some (.ref 1313), some (.int y1), some (.ref y2), some (.int y3), some (.int y4), some (.int (y5 + 1)), some (.int y6), some (.int y7), some (.int z0)]) (st' := [.int y4, .int (y5 + 1), .int z0, .ref y2, .ref 1313]) (by decide +kernel) rfl ?_
    refine b_callV 70 5 [.ref 1313, .ref y2, .int z0, .int (y5 + 1), .int y4] (rest := []) (by decide +kernel) rfl rfl rfl (go_O rfl (by decide +kernel) (by decide +kernel : isO 1313 3 = true)) rfl (hg70 y2 z0 (y5 + 1) y4 σ4 hy2) (by omega) (fun σ6 => ?_)
    refine b_run [(73, .aload_n 2, 0, 0, .null)] (pc' := 74) (ls' := [some (.ref 1313), some (.int y1), some (.ref y2), some (.int y3), some (.int y4), some (.int (y5 + 1)), some (.int y6), some (.int y7), some (.int z0)]) (st' := [.ref y2]) (by decide +kernel) rfl ?_
    refine b_callI 39 1 [.ref y2] (rest := []) (by decide +kernel) rfl rfl rfl (go_O rfl (by decide +kernel) hy2) rfl (s39 hv F y2 σ6 hy2) (by omega) (fun c9 σ8 => ?_)
    refine b_izT (c := .eq) (o := 17) (t := 94) (y := 0) (w := .null) (by decide +kernel) cmp_eq (fun _ => ?_) (fun _ => ?_)
    · refine b_run [(94, .aload_n 2, 0, 0, .null)] (pc' := 95) (ls' := [some (.ref 1313), some (.int y1), some (.ref y2), some (.int y3), some (.int y4), some (.int (y5 + 1)), some (.int y6), some (.int y7), some (.int z0)]) (st' := [.ref y2]) (by decide +kernel) rfl ?_
      refine b_callI 37 1 [.ref y2] (rest := []) (by decide +kernel) rfl rfl rfl (go_O rfl (by decide +kernel) hy2) rfl (s37 hv F y2 σ8 hy2) (by omega) (fun c11 σ10 => ?_)
      refine b_izT (c := .eq) (o := 12) (t := 110) (y := 0) (w := .null) (by decide +kernel) cmp_eq (fun _ => ?_) (fun _ => ?_)
      · exact b_wk (wS (wS (wS (wS (wS (wS (wS (wS (wN w0))))))))) (s69_110 hv F hr h20 g70 hg70 k15 hk15 y1 y2 y3 y4 (y5 + 1) y6 y7 σ10 hy2)
      · exact b_wk (wS (wS (wS (wS (wS (wS (wS (wS (wS w0))))))))) (s69_101 hv F hr h20 g70 hg70 k15 hk15 y1 y2 y3 y4 (y5 + 1) y6 y7 z0 σ10 hy2)
    · refine b_run [(80, .aload_n 2, 0, 0, .null)] (pc' := 81) (ls' := [some (.ref 1313), some (.int y1), some (.ref y2), some (.int y3), some (.int y4), some (.int (y5 + 1)), some (.int y6), some (.int y7), some (.int z0)]) (st' := [.ref y2]) (by decide +kernel) rfl ?_
      refine b_gJ (q := 102) (ci := 1) (k := 8) (w := .null) (by decide +kernel) (fk_J1_8 hy2) (fun c13 => ?_)
      refine b_run [(84, .iload 5, 0, 0, .null), (86, .i2l, 0, 0, .null), (87, .lcmp, 0, 0, .null)] (pc' := 88) (ls' := [some (.ref 1313), some (.int y1), some (.ref y2), some (.int y3), some (.int y4), some (.int (y5 + 1)), some (.int y6), some (.int y7), some (.int z0)]) (st' := [.int (lg_cmp c13 ((y5 + 1 : Int32).toInt64))]) (by decide +kernel) rfl ?_
      refine b_izF (c := .ne) (o := 22) (t := 110) (y := 0) (w := .null) (by decide +kernel) cmp_ne (fun _ => ?_) (fun _ => ?_)
      · refine b_run [(91, .goto 10, 101, 0, .null)] (pc' := 101) (ls' := [some (.ref 1313), some (.int y1), some (.ref y2), some (.int y3), some (.int y4), some (.int (y5 + 1)), some (.int y6), some (.int y7), some (.int z0)]) (st' := []) (by decide +kernel) rfl ?_
        exact b_wk (wS (wS (wS (wS (wS (wS (wS (wS (wS w0))))))))) (s69_101 hv F hr h20 g70 hg70 k15 hk15 y1 y2 y3 y4 (y5 + 1) y6 y7 z0 σ8 hy2)
      · exact b_wk (wS (wS (wS (wS (wS (wS (wS (wS (wN w0))))))))) (s69_110 hv F hr h20 g70 hg70 k15 hk15 y1 y2 y3 y4 (y5 + 1) y6 y7 σ8 hy2)
def f69_15 (F : Nat) (g70 : Nat → Int32 → Int32 → Int32 → St → Rs) : Nat → Int32 → Nat → Int32 → Int32 → Int32 → Int32 → Int32 → St → Rs
  | 0, _, _, _, _, _, _, _, _ => none
  | n + 1, y1, y2, y3, y4, y5, y6, y7, σ => lt (σ.1 1003 10) fun c3 => 
    if y7 < c3 then 
    if y3 = 0 then f69_48 F g70 (f69_15 F g70 n) y1 y2 y3 y4 y5 y6 y7 y7 σ
    else lt (σ.1 1003 10) fun c14 => f69_48 F g70 (f69_15 F g70 n) y1 y2 y3 y4 y5 y6 y7 ((c14 - 1) - y7) σ
    else oI y6 σ
theorem s69_15 {sc : aSc} (hv : vOk sc) (F : Nat) (hr : Nat) (h20 : 20 ≤ hr) (g70 : Nat → Int32 → Int32 → Int32 → St → Rs) (hg70 : ∀ x1 x2 x3 x4 σ, isO x1 1 = true → bEx sc hr 70 0 [some (.ref 1313), some (.ref x1), some (.int x2), some (.int x3), some (.int x4)] [] σ (g70 x1 x2 x3 x4 σ)) : ∀ (n : Nat) (y1 : Int32) (y2 : Nat) (y3 : Int32) (y4 : Int32) (y5 : Int32) (y6 : Int32) (y7 : Int32) (σ : St) (_ : isO y2 1 = true), bEx sc (hr + 1) 69 15 [some (.ref 1313), some (.int y1), some (.ref y2), some (.int y3), some (.int y4), some (.int y5), some (.int y6), some (.int y7), none] [] σ (f69_15 F g70 n y1 y2 y3 y4 y5 y6 y7 σ) := by
  intro n
  induction n with
  | zero => intro y1 y2 y3 y4 y5 y6 y7 σ hy2; exact b_none
  | succ n ih =>
    intro y1 y2 y3 y4 y5 y6 y7 σ hy2
    rw [f69_15.eq_2]
    refine b_run [(15, .iload 7, 0, 0, .null), (17, .aload_n 0, 0, 0, .null)] (pc' := 18) (ls' := [some (.ref 1313), some (.int y1), some (.ref y2), some (.int y3), some (.int y4), some (.int y5), some (.int y6), some (.int y7), none]) (st' := [.ref 1313, .int y7]) (by decide +kernel) rfl ?_
    refine b_getC (b := 1003) (q := 15) (ci := 3) (k := 1) (w := .null) (by decide +kernel) (by decide +kernel) ?_
    refine b_gI (q := 42) (ci := 8) (k := 10) (w := .null) (by decide +kernel) (by decide +kernel) (fun c3 => ?_)
    refine b_icF (c := .ge) (o := 92) (t := 116) (y := 0) (w := .null) (by decide +kernel) cmp_ge (fun _ => ?_) (fun _ => ?_)
    · refine b_run [(27, .iload_n 3, 0, 0, .null)] (pc' := 28) (ls' := [some (.ref 1313), some (.int y1), some (.ref y2), some (.int y3), some (.int y4), some (.int y5), some (.int y6), some (.int y7), none]) (st' := [.int y3]) (by decide +kernel) rfl ?_
      refine b_izT (c := .eq) (o := 18) (t := 46) (y := 0) (w := .null) (by decide +kernel) cmp_eq (fun _ => ?_) (fun _ => ?_)
      · refine b_run [(46, .iload 7, 0, 0, .null)] (pc' := 48) (ls' := [some (.ref 1313), some (.int y1), some (.ref y2), some (.int y3), some (.int y4), some (.int y5), some (.int y6), some (.int y7), none]) (st' := [.int y7]) (by decide +kernel) rfl ?_
        exact b_wk (wS (wS (wS (wS (wS (wS (wS (wS (wN w0))))))))) (s69_48 hv F hr h20 g70 hg70 (f69_15 F g70 n) ih y1 y2 y3 y4 y5 y6 y7 y7 σ hy2)
      · refine b_run [(31, .aload_n 0, 0, 0, .null)] (pc' := 32) (ls' := [some (.ref 1313), some (.int y1), some (.ref y2), some (.int y3), some (.int y4), some (.int y5), some (.int y6), some (.int y7), none]) (st' := [.ref 1313]) (by decide +kernel) rfl ?_
        refine b_getC (b := 1003) (q := 15) (ci := 3) (k := 1) (w := .null) (by decide +kernel) (by decide +kernel) ?_
        refine b_gI (q := 42) (ci := 8) (k := 10) (w := .null) (by decide +kernel) (by decide +kernel) (fun c14 => ?_)
        refine b_run [(38, .iconst 1, 0, 0, .null), (39, .isub, 0, 0, .null), (40, .iload 7, 0, 0, .null), (42, .isub, 0, 0, .null), (43, .goto 5, 48, 0, .null)] (pc' := 48) (ls' := [some (.ref 1313), some (.int y1), some (.ref y2), some (.int y3), some (.int y4), some (.int y5), some (.int y6), some (.int y7), none]) (st' := [.int ((c14 - 1) - y7)]) (by decide +kernel) rfl ?_
        exact b_wk (wS (wS (wS (wS (wS (wS (wS (wS (wN w0))))))))) (s69_48 hv F hr h20 g70 hg70 (f69_15 F g70 n) ih y1 y2 y3 y4 y5 y6 y7 ((c14 - 1) - y7) σ hy2)
    · refine b_run [(116, .iload 6, 0, 0, .null)] (pc' := 118) (ls' := [some (.ref 1313), some (.int y1), some (.ref y2), some (.int y3), some (.int y4), some (.int y5), some (.int y6), some (.int y7), none]) (st' := [.int y6]) (by decide +kernel) rfl ?_
      exact b_ret (i := (.ireturn, 0, 0, .null)) (by decide +kernel) rfl rfl (fit_I _)
/-- TreeStore$PathWalker.filtered(ILTreeStore$Part;Z)I -/
def f69 (F : Nat) (g70 : Nat → Int32 → Int32 → Int32 → St → Rs) (x1 : Int32) (x2 : Nat) (x3 : Int32) (σ : St) : Rs := cI (f256 F x1 σ) fun c2 σ1 => f69_15 F g70 F x1 x2 x3 c2 0 0 0 σ1
theorem s69 {sc : aSc} (hv : vOk sc) (F : Nat) (hr : Nat) (h20 : 20 ≤ hr) (g70 : Nat → Int32 → Int32 → Int32 → St → Rs) (hg70 : ∀ x1 x2 x3 x4 σ, isO x1 1 = true → bEx sc hr 70 0 [some (.ref 1313), some (.ref x1), some (.int x2), some (.int x3), some (.int x4)] [] σ (g70 x1 x2 x3 x4 σ)) (x1 : Int32) (x2 : Nat) (x3 : Int32) (σ : St) (hx2 : isO x2 1 = true) : bEx sc (hr + 1) 69 0 [some (.ref 1313), some (.int x1), some (.ref x2), some (.int x3), none, none, none, none, none] [] σ (f69 F g70 x1 x2 x3 σ) := by
  unfold f69
  refine b_run [(0, .iload_n 1, 0, 0, .null)] (pc' := 1) (ls' := [some (.ref 1313), some (.int x1), some (.ref x2), some (.int x3), none, none, none, none, none]) (st' := [.int x1]) (by decide +kernel) rfl ?_
  refine b_callI 256 1 [.int x1] (rest := []) (by decide +kernel) rfl rfl rfl (go_S rfl (by decide +kernel)) rfl (s256 hv F x1 σ) (by omega) (fun c2 σ1 => ?_)
  refine b_run [(4, .istore 4, 0, 0, .null), (6, .iconst 0, 0, 0, .null), (7, .istore 5, 0, 0, .null), (9, .iconst 0, 0, 0, .null), (10, .istore 6, 0, 0, .null), (12, .iconst 0, 0, 0, .null), (13, .istore 7, 0, 0, .null)] (pc' := 15) (ls' := [some (.ref 1313), some (.int x1), some (.ref x2), some (.int x3), some (.int c2), some (.int 0), some (.int 0), some (.int 0), none]) (st' := []) (by decide +kernel) rfl ?_
  exact b_wk (wS (wS (wS (wS (wS (wS (wS (wS (wN w0))))))))) (s69_15 hv F hr h20 g70 hg70 F x1 x2 x3 c2 0 0 0 σ1 hx2)
def f65_66 (F : Nat) (g70 : Nat → Int32 → Int32 → Int32 → St → Rs) (k23 : Nat → Int32 → Int32 → Int32 → St → Rs) (y1 : Nat) (y2 : Int32) (y3 : Int32) (y4 : Int32) (σ : St) : Rs := k23 y1 y2 y3 (y4 + 1) σ
theorem s65_66 {sc : aSc} (hv : vOk sc) (F : Nat) (hr : Nat) (h20 : 20 ≤ hr) (g70 : Nat → Int32 → Int32 → Int32 → St → Rs) (hg70 : ∀ x1 x2 x3 x4 σ, isO x1 1 = true → bEx sc hr 70 0 [some (.ref 1313), some (.ref x1), some (.int x2), some (.int x3), some (.int x4)] [] σ (g70 x1 x2 x3 x4 σ)) (k23 : Nat → Int32 → Int32 → Int32 → St → Rs) (hk23 : ∀ y1 y2 y3 y4 σ, isO y1 6 = true → bEx sc (hr + 2) 65 23 [some (.ref 1313), some (.ref y1), some (.int y2), some (.int y3), some (.int y4)] [] σ (k23 y1 y2 y3 y4 σ)) (y1 : Nat) (y2 : Int32) (y3 : Int32) (y4 : Int32) (σ : St) (hy1 : isO y1 6 = true) : bEx sc (hr + 2) 65 66 [some (.ref 1313), some (.ref y1), some (.int y2), some (.int y3), some (.int y4)] [] σ (f65_66 F g70 k23 y1 y2 y3 y4 σ) := by
  unfold f65_66
  refine b_run [(66, .iinc 4 1, 0, 0, .null), (69, .goto (-46), 23, 0, .null)] (pc' := 23) (ls' := [some (.ref 1313), some (.ref y1), some (.int y2), some (.int y3), some (.int (y4 + 1))]) (st' := []) (by decide +kernel) rfl ?_
  exact b_wk (wS (wS (wS (wS (wS w0))))) (hk23 y1 y2 y3 (y4 + 1) σ hy1)
def f65_78 (F : Nat) (g70 : Nat → Int32 → Int32 → Int32 → St → Rs) : Nat → Nat → Int32 → Int32 → Value → St → Rs
  | 0, _, _, _, _, _ => none
  | n + 1, y1, y2, y3, y4, σ => mR y4 (fun c12 => if isO c12 1 = true then 
    mR (σ.2.2.1 y1 0) (fun c13 => if isX c13 = true then 
    lt (xAxB.getD (c13 - 100) 0) fun c14 => 
    cI (f69 F g70 y3 c12 c14 σ) fun c16 σ15 => 
    mR (σ15.2.2.1 c12 3) (fun c17 => if isO c17 1 = true then f65_78 F g70 n y1 y2 c16 (Value.ref c17) σ15 else none)
    (f65_78 F g70 n y1 y2 c16 Value.null σ15) else none)
    (none) else none)
    (
    if inB y2 30 then lt (uI σ (rfF y1 8) y2.toNatClampNeg y3) fun σ18 => lt (σ18.1 y1 7) fun c19 => lt (uI σ18 y1 7 (c19 ||| (1 <<< (y2 &&& 31)))) fun σ20 => oI y3 σ20 else none)
theorem s65_78 {sc : aSc} (hv : vOk sc) (F : Nat) (hr : Nat) (h20 : 20 ≤ hr) (g70 : Nat → Int32 → Int32 → Int32 → St → Rs) (hg70 : ∀ x1 x2 x3 x4 σ, isO x1 1 = true → bEx sc hr 70 0 [some (.ref 1313), some (.ref x1), some (.int x2), some (.int x3), some (.int x4)] [] σ (g70 x1 x2 x3 x4 σ)) : ∀ (n : Nat) (y1 : Nat) (y2 : Int32) (y3 : Int32) (y4 : Value) (σ : St) (_ : isO y1 6 = true), bEx sc (hr + 2) 65 78 [some (.ref 1313), some (.ref y1), some (.int y2), some (.int y3), some (y4)] [] σ (f65_78 F g70 n y1 y2 y3 y4 σ) := by
  intro n
  induction n with
  | zero => intro y1 y2 y3 y4 σ hy1; exact b_none
  | succ n ih =>
    intro y1 y2 y3 y4 σ hy1
    rw [f65_78.eq_2]
    refine b_cV y4 (L := fun v => [some (.ref 1313), some (.ref y1), some (.int y2), some (.int y3), some v]) (fun c12 => b_guard (fun hc12 => ?_)) ?_
    · refine b_run [(78, .aload 4, 0, 0, .null), (80, .ifnull 28, 108, 0, .null), (83, .aload_n 0, 0, 0, .null), (84, .iload_n 3, 0, 0, .null), (85, .aload 4, 0, 0, .null), (87, .aload_n 1, 0, 0, .null)] (pc' := 88) (ls' := [some (.ref 1313), some (.ref y1), some (.int y2), some (.int y3), some (.ref c12)]) (st' := [.ref y1, .ref c12, .int y3, .ref 1313]) (by decide +kernel) rfl ?_
      refine b_gM (q := 61) (ci := 6) (k := 0) (w := .null) (by decide +kernel) (fk_M6_0 hy1) (fun c13 => b_guard (fun hc13 => ?_)) ?_
      · refine b_gXI (q := 77) (w := .null) (by decide +kernel) hc13 (fun c14 => ?_)
        refine b_callI 69 4 [.ref 1313, .int y3, .ref c12, .int c14] (rest := []) (by decide +kernel) rfl rfl rfl (go_O rfl (by decide +kernel) (by decide +kernel : isO 1313 3 = true)) rfl (s69 hv F hr h20 g70 hg70 y3 c12 c14 σ hc12) (by omega) (fun c16 σ15 => ?_)
        refine b_run [(97, .istore_n 3, 0, 0, .null), (98, .aload 4, 0, 0, .null)] (pc' := 100) (ls' := [some (.ref 1313), some (.ref y1), some (.int y2), some (.int c16), some (.ref c12)]) (st' := [.ref c12]) (by decide +kernel) rfl ?_
        refine b_gM (q := 86) (ci := 1) (k := 3) (w := .null) (by decide +kernel) (fk_M1_3 hc12) (fun c17 => b_guard (fun hc17 => ?_)) ?_
        · refine b_run [(103, .astore 4, 0, 0, .null), (105, .goto (-27), 78, 0, .null)] (pc' := 78) (ls' := [some (.ref 1313), some (.ref y1), some (.int y2), some (.int c16), some (.ref c17)]) (st' := []) (by decide +kernel) rfl ?_
          exact b_wk (wS (wS (wS (wS (wS w0))))) (ih y1 y2 c16 (Value.ref c17) σ15 hy1)
        · refine b_run [(103, .astore 4, 0, 0, .null), (105, .goto (-27), 78, 0, .null)] (pc' := 78) (ls' := [some (.ref 1313), some (.ref y1), some (.int y2), some (.int c16), some (.null)]) (st' := []) (by decide +kernel) rfl ?_
          exact b_wk (wS (wS (wS (wS (wS w0))))) (ih y1 y2 c16 Value.null σ15 hy1)
      · exact b_none
    · refine b_run [(78, .aload 4, 0, 0, .null), (80, .ifnull 28, 108, 0, .null), (108, .aload_n 1, 0, 0, .null)] (pc' := 109) (ls' := [some (.ref 1313), some (.ref y1), some (.int y2), some (.int y3), some (.null)]) (st' := [.ref y1]) (by decide +kernel) rfl ?_
      refine b_getC (q := 58) (ci := 6) (k := 8) (w := .null) (by decide +kernel) (fk_C6_8 hy1) ?_
      refine b_run [(112, .iload_n 2, 0, 0, .null), (113, .iload_n 3, 0, 0, .null)] (pc' := 114) (ls' := [some (.ref 1313), some (.ref y1), some (.int y2), some (.int y3), some (.null)]) (st' := [.int y3, .int y2, .ref ((rfF y1 8))]) (by decide +kernel) rfl ?_
      refine b_guard (fun hb => ?_)
      refine b_sI (ci := 0) (y := 0) (w := .null) (by decide +kernel) (fk_A6_8 hy1) hb (fun σ18 => ?_)
      refine b_run [(115, .aload_n 1, 0, 0, .null), (116, .dup, 0, 0, .null)] (pc' := 117) (ls' := [some (.ref 1313), some (.ref y1), some (.int y2), some (.int y3), some (.null)]) (st' := [.ref y1, .ref y1]) (by decide +kernel) rfl ?_
      refine b_gI (q := 55) (ci := 6) (k := 7) (w := .null) (by decide +kernel) (fk_I6_7 hy1) (fun c19 => ?_)
      refine b_run [(120, .iconst 1, 0, 0, .null), (121, .iload_n 2, 0, 0, .null), (122, .ishl, 0, 0, .null), (123, .ior, 0, 0, .null)] (pc' := 124) (ls' := [some (.ref 1313), some (.ref y1), some (.int y2), some (.int y3), some (.null)]) (st' := [.int (c19 ||| (1 <<< (y2 &&& 31))), .ref y1]) (by decide +kernel) rfl ?_
      refine b_pI (q := 55) (ci := 6) (k := 7) (w := .null) (by decide +kernel) (fk_I6_7 hy1) (fit_I _) (fun σ20 => ?_)
      refine b_run [(127, .iload_n 3, 0, 0, .null)] (pc' := 128) (ls' := [some (.ref 1313), some (.ref y1), some (.int y2), some (.int y3), some (.null)]) (st' := [.int y3]) (by decide +kernel) rfl ?_
      exact b_ret (i := (.ireturn, 0, 0, .null)) (by decide +kernel) rfl rfl (fit_I _)
def f65_23 (F : Nat) (g70 : Nat → Int32 → Int32 → Int32 → St → Rs) : Nat → Nat → Int32 → Int32 → Int32 → St → Rs
  | 0, _, _, _, _, _ => none
  | n + 1, y1, y2, y3, y4, σ => lt (σ.1 1003 10) fun c4 => 
    if y4 < c4 then 
    mR (σ.2.2.1 y1 0) (fun c5 => if isX c5 = true then 
    cI (f66 F c5 y2 y4 σ) fun c7 σ6 => 
    if c7 = 0 then f65_66 F g70 (f65_23 F g70 n) y1 y2 y3 y4 σ6
    else cI (f68 F y1 y4 σ6) fun c9 σ8 => 
    if c9 = 0 then f65_66 F g70 (f65_23 F g70 n) y1 y2 y3 y4 σ8
    else lt (y3 ||| (1 <<< (y4 &&& 31))) fun c10 => f65_66 F g70 (f65_23 F g70 n) y1 y2 c10 y4 σ8 else none)
    (none)
    else mR (σ.2.2.1 y1 4) (fun c11 => if isO c11 1 = true then f65_78 F g70 F y1 y2 y3 (Value.ref c11) σ else none)
    (f65_78 F g70 F y1 y2 y3 Value.null σ)
theorem s65_23 {sc : aSc} (hv : vOk sc) (F : Nat) (hr : Nat) (h20 : 20 ≤ hr) (g70 : Nat → Int32 → Int32 → Int32 → St → Rs) (hg70 : ∀ x1 x2 x3 x4 σ, isO x1 1 = true → bEx sc hr 70 0 [some (.ref 1313), some (.ref x1), some (.int x2), some (.int x3), some (.int x4)] [] σ (g70 x1 x2 x3 x4 σ)) : ∀ (n : Nat) (y1 : Nat) (y2 : Int32) (y3 : Int32) (y4 : Int32) (σ : St) (_ : isO y1 6 = true), bEx sc (hr + 2) 65 23 [some (.ref 1313), some (.ref y1), some (.int y2), some (.int y3), some (.int y4)] [] σ (f65_23 F g70 n y1 y2 y3 y4 σ) := by
  intro n
  induction n with
  | zero => intro y1 y2 y3 y4 σ hy1; exact b_none
  | succ n ih =>
    intro y1 y2 y3 y4 σ hy1
    rw [f65_23.eq_2]
    refine b_run [(23, .iload 4, 0, 0, .null), (25, .aload_n 0, 0, 0, .null)] (pc' := 26) (ls' := [some (.ref 1313), some (.ref y1), some (.int y2), some (.int y3), some (.int y4)]) (st' := [.ref 1313, .int y4]) (by decide +kernel) rfl ?_
    refine b_getC (b := 1003) (q := 15) (ci := 3) (k := 1) (w := .null) (by decide +kernel) (by decide +kernel) ?_
    refine b_gI (q := 42) (ci := 8) (k := 10) (w := .null) (by decide +kernel) (by decide +kernel) (fun c4 => ?_)
    refine b_icF (c := .ge) (o := 40) (t := 72) (y := 0) (w := .null) (by decide +kernel) cmp_ge (fun _ => ?_) (fun _ => ?_)
    · refine b_run [(35, .aload_n 0, 0, 0, .null), (36, .aload_n 1, 0, 0, .null)] (pc' := 37) (ls' := [some (.ref 1313), some (.ref y1), some (.int y2), some (.int y3), some (.int y4)]) (st' := [.ref y1, .ref 1313]) (by decide +kernel) rfl ?_
      refine b_gM (q := 61) (ci := 6) (k := 0) (w := .null) (by decide +kernel) (fk_M6_0 hy1) (fun c5 => b_guard (fun hc5 => ?_)) ?_
      · refine b_run [(40, .iload_n 2, 0, 0, .null), (41, .iload 4, 0, 0, .null)] (pc' := 43) (ls' := [some (.ref 1313), some (.ref y1), some (.int y2), some (.int y3), some (.int y4)]) (st' := [.int y4, .int y2, .ref c5, .ref 1313]) (by decide +kernel) rfl ?_
        refine b_callI 66 4 [.ref 1313, .ref c5, .int y2, .int y4] (rest := []) (by decide +kernel) rfl rfl rfl (go_O rfl (by decide +kernel) (by decide +kernel : isO 1313 3 = true)) rfl (s66 hv F c5 y2 y4 σ hc5) (by omega) (fun c7 σ6 => ?_)
        refine b_izT (c := .eq) (o := 20) (t := 66) (y := 0) (w := .null) (by decide +kernel) cmp_eq (fun _ => ?_) (fun _ => ?_)
        · exact b_wk (wS (wS (wS (wS (wS w0))))) (s65_66 hv F hr h20 g70 hg70 (f65_23 F g70 n) ih y1 y2 y3 y4 σ6 hy1)
        · refine b_run [(49, .aload_n 0, 0, 0, .null), (50, .aload_n 1, 0, 0, .null), (51, .iload 4, 0, 0, .null)] (pc' := 53) (ls' := [some (.ref 1313), some (.ref y1), some (.int y2), some (.int y3), some (.int y4)]) (st' := [.int y4, .ref y1, .ref 1313]) (by decide +kernel) rfl ?_
          refine b_callI 68 3 [.ref 1313, .ref y1, .int y4] (rest := []) (by decide +kernel) rfl rfl rfl (go_O rfl (by decide +kernel) (by decide +kernel : isO 1313 3 = true)) rfl (s68 hv F y1 y4 σ6 hy1) (by omega) (fun c9 σ8 => ?_)
          refine b_izT (c := .eq) (o := 10) (t := 66) (y := 0) (w := .null) (by decide +kernel) cmp_eq (fun _ => ?_) (fun _ => ?_)
          · exact b_wk (wS (wS (wS (wS (wS w0))))) (s65_66 hv F hr h20 g70 hg70 (f65_23 F g70 n) ih y1 y2 y3 y4 σ8 hy1)
          · refine b_run [(59, .iload_n 3, 0, 0, .null), (60, .iconst 1, 0, 0, .null), (61, .iload 4, 0, 0, .null), (63, .ishl, 0, 0, .null), (64, .ior, 0, 0, .null), (65, .istore_n 3, 0, 0, .null)] (pc' := 66) (ls' := [some (.ref 1313), some (.ref y1), some (.int y2), some (.int (y3 ||| (1 <<< (y4 &&& 31)))), some (.int y4)]) (st' := []) (by decide +kernel) rfl ?_
            refine b_let (y3 ||| (1 <<< (y4 &&& 31))) (L := fun c10 => [some (.ref 1313), some (.ref y1), some (.int y2), some (.int c10), some (.int y4)]) (S := fun _ => []) (fun c10 => ?_)
            exact b_wk (wS (wS (wS (wS (wS w0))))) (s65_66 hv F hr h20 g70 hg70 (f65_23 F g70 n) ih y1 y2 c10 y4 σ8 hy1)
      · refine b_run [(40, .iload_n 2, 0, 0, .null), (41, .iload 4, 0, 0, .null)] (pc' := 43) (ls' := [some (.ref 1313), some (.ref y1), some (.int y2), some (.int y3), some (.int y4)]) (st' := [.int y4, .int y2, .null, .ref 1313]) (by decide +kernel) rfl ?_
        exact b_none
    · refine b_run [(72, .aload_n 1, 0, 0, .null)] (pc' := 73) (ls' := [some (.ref 1313), some (.ref y1), some (.int y2), some (.int y3), some (.int y4)]) (st' := [.ref y1]) (by decide +kernel) rfl ?_
      refine b_gM (q := 73) (ci := 6) (k := 4) (w := .null) (by decide +kernel) (fk_M6_4 hy1) (fun c11 => b_guard (fun hc11 => ?_)) ?_
      · refine b_run [(76, .astore 4, 0, 0, .null)] (pc' := 78) (ls' := [some (.ref 1313), some (.ref y1), some (.int y2), some (.int y3), some (.ref c11)]) (st' := []) (by decide +kernel) rfl ?_
        exact b_wk (wS (wS (wS (wS (wS w0))))) (s65_78 hv F hr h20 g70 hg70 F y1 y2 y3 (Value.ref c11) σ hy1)
      · refine b_run [(76, .astore 4, 0, 0, .null)] (pc' := 78) (ls' := [some (.ref 1313), some (.ref y1), some (.int y2), some (.int y3), some (.null)]) (st' := []) (by decide +kernel) rfl ?_
        exact b_wk (wS (wS (wS (wS (wS w0))))) (s65_78 hv F hr h20 g70 hg70 F y1 y2 y3 Value.null σ hy1)
/-- TreeStore$PathWalker.given(LTreeStore$Step;I)I -/
def f65 (F : Nat) (g70 : Nat → Int32 → Int32 → Int32 → St → Rs) (x1 : Nat) (x2 : Int32) (σ : St) : Rs := lt (σ.1 x1 7) fun c1 => 
    cI (f31 F c1 x2 σ) fun c3 σ2 => 
    if c3 = 0 then f65_23 F g70 F x1 x2 0 0 σ2
    else if inB x2 30 then lt (σ2.1 (rfF x1 8) x2.toNatClampNeg) fun c21 => oI c21 σ2 else none
theorem s65 {sc : aSc} (hv : vOk sc) (F : Nat) (hr : Nat) (h20 : 20 ≤ hr) (g70 : Nat → Int32 → Int32 → Int32 → St → Rs) (hg70 : ∀ x1 x2 x3 x4 σ, isO x1 1 = true → bEx sc hr 70 0 [some (.ref 1313), some (.ref x1), some (.int x2), some (.int x3), some (.int x4)] [] σ (g70 x1 x2 x3 x4 σ)) (x1 : Nat) (x2 : Int32) (σ : St) (hx1 : isO x1 6 = true) : bEx sc (hr + 2) 65 0 [some (.ref 1313), some (.ref x1), some (.int x2), none, none] [] σ (f65 F g70 x1 x2 σ) := by
  unfold f65
  refine b_run [(0, .aload_n 1, 0, 0, .null)] (pc' := 1) (ls' := [some (.ref 1313), some (.ref x1), some (.int x2), none, none]) (st' := [.ref x1]) (by decide +kernel) rfl ?_
  refine b_gI (q := 55) (ci := 6) (k := 7) (w := .null) (by decide +kernel) (fk_I6_7 hx1) (fun c1 => ?_)
  refine b_run [(4, .iload_n 2, 0, 0, .null)] (pc' := 5) (ls' := [some (.ref 1313), some (.ref x1), some (.int x2), none, none]) (st' := [.int x2, .int c1]) (by decide +kernel) rfl ?_
  refine b_callI 31 2 [.int c1, .int x2] (rest := []) (by decide +kernel) rfl rfl rfl (go_S rfl (by decide +kernel)) rfl (s31 hv F c1 x2 σ) (by omega) (fun c3 σ2 => ?_)
  refine b_izT (c := .eq) (o := 10) (t := 18) (y := 0) (w := .null) (by decide +kernel) cmp_eq (fun _ => ?_) (fun _ => ?_)
  · refine b_run [(18, .iconst 0, 0, 0, .null), (19, .istore_n 3, 0, 0, .null), (20, .iconst 0, 0, 0, .null), (21, .istore 4, 0, 0, .null)] (pc' := 23) (ls' := [some (.ref 1313), some (.ref x1), some (.int x2), some (.int 0), some (.int 0)]) (st' := []) (by decide +kernel) rfl ?_
    exact b_wk (wS (wS (wS (wS (wS w0))))) (s65_23 hv F hr h20 g70 hg70 F x1 x2 0 0 σ2 hx1)
  · refine b_run [(11, .aload_n 1, 0, 0, .null)] (pc' := 12) (ls' := [some (.ref 1313), some (.ref x1), some (.int x2), none, none]) (st' := [.ref x1]) (by decide +kernel) rfl ?_
    refine b_getC (q := 58) (ci := 6) (k := 8) (w := .null) (by decide +kernel) (fk_C6_8 hx1) ?_
    refine b_run [(15, .iload_n 2, 0, 0, .null)] (pc' := 16) (ls' := [some (.ref 1313), some (.ref x1), some (.int x2), none, none]) (st' := [.int x2, .ref ((rfF x1 8))]) (by decide +kernel) rfl ?_
    refine b_guard (fun hb => ?_)
    refine b_aI (ci := 0) (y := 0) (w := .null) (by decide +kernel) (fk_A6_8 hx1) hb (fun c21 => ?_)
    exact b_ret (i := (.ireturn, 0, 0, .null)) (by decide +kernel) rfl rfl (fit_I _)
def f64_36 (F : Nat) (g70 : Nat → Int32 → Int32 → Int32 → St → Rs) (k5 : Nat → Int32 → Int32 → Int32 → St → Rs) (y1 : Nat) (y2 : Int32) (y3 : Int32) (y4 : Int32) (σ : St) : Rs := k5 y1 y2 y3 (y4 + 1) σ
theorem s64_36 {sc : aSc} (hv : vOk sc) (F : Nat) (hr : Nat) (h20 : 20 ≤ hr) (g70 : Nat → Int32 → Int32 → Int32 → St → Rs) (hg70 : ∀ x1 x2 x3 x4 σ, isO x1 1 = true → bEx sc hr 70 0 [some (.ref 1313), some (.ref x1), some (.int x2), some (.int x3), some (.int x4)] [] σ (g70 x1 x2 x3 x4 σ)) (k5 : Nat → Int32 → Int32 → Int32 → St → Rs) (hk5 : ∀ y1 y2 y3 y4 σ, isO y1 6 = true → bEx sc (hr + 3) 64 5 [some (.ref 1313), some (.ref y1), some (.int y2), some (.int y3), some (.int y4)] [] σ (k5 y1 y2 y3 y4 σ)) (y1 : Nat) (y2 : Int32) (y3 : Int32) (y4 : Int32) (σ : St) (hy1 : isO y1 6 = true) : bEx sc (hr + 3) 64 36 [some (.ref 1313), some (.ref y1), some (.int y2), some (.int y3), some (.int y4)] [] σ (f64_36 F g70 k5 y1 y2 y3 y4 σ) := by
  unfold f64_36
  refine b_run [(36, .iinc 4 1, 0, 0, .null), (39, .goto (-34), 5, 0, .null)] (pc' := 5) (ls' := [some (.ref 1313), some (.ref y1), some (.int y2), some (.int y3), some (.int (y4 + 1))]) (st' := []) (by decide +kernel) rfl ?_
  exact b_wk (wS (wS (wS (wS (wS w0))))) (hk5 y1 y2 y3 (y4 + 1) σ hy1)
def f64_5 (F : Nat) (g70 : Nat → Int32 → Int32 → Int32 → St → Rs) : Nat → Nat → Int32 → Int32 → Int32 → St → Rs
  | 0, _, _, _, _, _ => none
  | n + 1, y1, y2, y3, y4, σ => lt (σ.1 1003 10) fun c1 => 
    if y4 < c1 then 
    cI (f31 F y2 y4 σ) fun c3 σ2 => 
    if c3 = 0 then f64_36 F g70 (f64_5 F g70 n) y1 y2 y3 y4 σ2
    else cI (f65 F g70 y1 y4 σ2) fun c5 σ4 => lt (y3 ||| c5) fun c6 => f64_36 F g70 (f64_5 F g70 n) y1 y2 c6 y4 σ4
    else oI y3 σ
theorem s64_5 {sc : aSc} (hv : vOk sc) (F : Nat) (hr : Nat) (h20 : 20 ≤ hr) (g70 : Nat → Int32 → Int32 → Int32 → St → Rs) (hg70 : ∀ x1 x2 x3 x4 σ, isO x1 1 = true → bEx sc hr 70 0 [some (.ref 1313), some (.ref x1), some (.int x2), some (.int x3), some (.int x4)] [] σ (g70 x1 x2 x3 x4 σ)) : ∀ (n : Nat) (y1 : Nat) (y2 : Int32) (y3 : Int32) (y4 : Int32) (σ : St) (_ : isO y1 6 = true), bEx sc (hr + 3) 64 5 [some (.ref 1313), some (.ref y1), some (.int y2), some (.int y3), some (.int y4)] [] σ (f64_5 F g70 n y1 y2 y3 y4 σ) := by
  intro n
  induction n with
  | zero => intro y1 y2 y3 y4 σ hy1; exact b_none
  | succ n ih =>
    intro y1 y2 y3 y4 σ hy1
    rw [f64_5.eq_2]
    refine b_run [(5, .iload 4, 0, 0, .null), (7, .aload_n 0, 0, 0, .null)] (pc' := 8) (ls' := [some (.ref 1313), some (.ref y1), some (.int y2), some (.int y3), some (.int y4)]) (st' := [.ref 1313, .int y4]) (by decide +kernel) rfl ?_
    refine b_getC (b := 1003) (q := 15) (ci := 3) (k := 1) (w := .null) (by decide +kernel) (by decide +kernel) ?_
    refine b_gI (q := 42) (ci := 8) (k := 10) (w := .null) (by decide +kernel) (by decide +kernel) (fun c1 => ?_)
    refine b_icF (c := .ge) (o := 28) (t := 42) (y := 0) (w := .null) (by decide +kernel) cmp_ge (fun _ => ?_) (fun _ => ?_)
    · refine b_run [(17, .iload_n 2, 0, 0, .null), (18, .iload 4, 0, 0, .null)] (pc' := 20) (ls' := [some (.ref 1313), some (.ref y1), some (.int y2), some (.int y3), some (.int y4)]) (st' := [.int y4, .int y2]) (by decide +kernel) rfl ?_
      refine b_callI 31 2 [.int y2, .int y4] (rest := []) (by decide +kernel) rfl rfl rfl (go_S rfl (by decide +kernel)) rfl (s31 hv F y2 y4 σ) (by omega) (fun c3 σ2 => ?_)
      refine b_izT (c := .eq) (o := 13) (t := 36) (y := 0) (w := .null) (by decide +kernel) cmp_eq (fun _ => ?_) (fun _ => ?_)
      · exact b_wk (wS (wS (wS (wS (wS w0))))) (s64_36 hv F hr h20 g70 hg70 (f64_5 F g70 n) ih y1 y2 y3 y4 σ2 hy1)
      · refine b_run [(26, .iload_n 3, 0, 0, .null), (27, .aload_n 0, 0, 0, .null), (28, .aload_n 1, 0, 0, .null), (29, .iload 4, 0, 0, .null)] (pc' := 31) (ls' := [some (.ref 1313), some (.ref y1), some (.int y2), some (.int y3), some (.int y4)]) (st' := [.int y4, .ref y1, .ref 1313, .int y3]) (by decide +kernel) rfl ?_
        refine b_callI 65 3 [.ref 1313, .ref y1, .int y4] (rest := [.int y3]) (by decide +kernel) rfl rfl rfl (go_O rfl (by decide +kernel) (by decide +kernel : isO 1313 3 = true)) rfl (s65 hv F hr h20 g70 hg70 y1 y4 σ2 hy1) (by omega) (fun c5 σ4 => ?_)
        refine b_run [(34, .ior, 0, 0, .null), (35, .istore_n 3, 0, 0, .null)] (pc' := 36) (ls' := [some (.ref 1313), some (.ref y1), some (.int y2), some (.int (y3 ||| c5)), some (.int y4)]) (st' := []) (by decide +kernel) rfl ?_
        refine b_let (y3 ||| c5) (L := fun c6 => [some (.ref 1313), some (.ref y1), some (.int y2), some (.int c6), some (.int y4)]) (S := fun _ => []) (fun c6 => ?_)
        exact b_wk (wS (wS (wS (wS (wS w0))))) (s64_36 hv F hr h20 g70 hg70 (f64_5 F g70 n) ih y1 y2 c6 y4 σ4 hy1)
    · refine b_run [(42, .iload_n 3, 0, 0, .null)] (pc' := 43) (ls' := [some (.ref 1313), some (.ref y1), some (.int y2), some (.int y3), some (.int y4)]) (st' := [.int y3]) (by decide +kernel) rfl ?_
      exact b_ret (i := (.ireturn, 0, 0, .null)) (by decide +kernel) rfl rfl (fit_I _)
/-- TreeStore$PathWalker.allGiven(LTreeStore$Step;I)I -/
def f64 (F : Nat) (g70 : Nat → Int32 → Int32 → Int32 → St → Rs) (x1 : Nat) (x2 : Int32) (σ : St) : Rs := f64_5 F g70 F x1 x2 0 0 σ
theorem s64 {sc : aSc} (hv : vOk sc) (F : Nat) (hr : Nat) (h20 : 20 ≤ hr) (g70 : Nat → Int32 → Int32 → Int32 → St → Rs) (hg70 : ∀ x1 x2 x3 x4 σ, isO x1 1 = true → bEx sc hr 70 0 [some (.ref 1313), some (.ref x1), some (.int x2), some (.int x3), some (.int x4)] [] σ (g70 x1 x2 x3 x4 σ)) (x1 : Nat) (x2 : Int32) (σ : St) (hx1 : isO x1 6 = true) : bEx sc (hr + 3) 64 0 [some (.ref 1313), some (.ref x1), some (.int x2), none, none] [] σ (f64 F g70 x1 x2 σ) := by
  unfold f64
  refine b_run [(0, .iconst 0, 0, 0, .null), (1, .istore_n 3, 0, 0, .null), (2, .iconst 0, 0, 0, .null), (3, .istore 4, 0, 0, .null)] (pc' := 5) (ls' := [some (.ref 1313), some (.ref x1), some (.int x2), some (.int 0), some (.int 0)]) (st' := []) (by decide +kernel) rfl ?_
  exact b_wk (wS (wS (wS (wS (wS w0))))) (s64_5 hv F hr h20 g70 hg70 F x1 x2 0 0 σ hx1)
def f63_27 (F : Nat) (g70 : Nat → Int32 → Int32 → Int32 → St → Rs) : Nat → Int32 → Value → St → Rs
  | 0, _, _, _ => none
  | n + 1, y3, y4, σ => mR y4 (fun c4 => if isO c4 6 = true then 
    cI (f64 F g70 c4 y3 σ) fun c6 σ5 => 
    mR (σ5.2.2.1 c4 6) (fun c7 => if isO c7 6 = true then f63_27 F g70 n c6 (Value.ref c7) σ5 else none)
    (f63_27 F g70 n c6 Value.null σ5) else none)
    (oI y3 σ)
theorem s63_27 {sc : aSc} (hv : vOk sc) (F : Nat) (hr : Nat) (h20 : 20 ≤ hr) (g70 : Nat → Int32 → Int32 → Int32 → St → Rs) (hg70 : ∀ x1 x2 x3 x4 σ, isO x1 1 = true → bEx sc hr 70 0 [some (.ref 1313), some (.ref x1), some (.int x2), some (.int x3), some (.int x4)] [] σ (g70 x1 x2 x3 x4 σ)) : ∀ (n : Nat) (y3 : Int32) (y4 : Value) (σ : St), bEx sc (hr + 4) 63 27 [some (.ref 1313), none, none, some (.int y3), some (y4)] [] σ (f63_27 F g70 n y3 y4 σ) := by
  intro n
  induction n with
  | zero => intro y3 y4 σ; exact b_none
  | succ n ih =>
    intro y3 y4 σ
    rw [f63_27.eq_2]
    refine b_cV y4 (L := fun v => [some (.ref 1313), none, none, some (.int y3), some v]) (fun c4 => b_guard (fun hc4 => ?_)) ?_
    · refine b_run [(27, .aload 4, 0, 0, .null), (29, .ifnull 21, 50, 0, .null), (32, .aload_n 0, 0, 0, .null), (33, .aload 4, 0, 0, .null), (35, .iload_n 3, 0, 0, .null)] (pc' := 36) (ls' := [some (.ref 1313), none, none, some (.int y3), some (.ref c4)]) (st' := [.int y3, .ref c4, .ref 1313]) (by decide +kernel) rfl ?_
      refine b_callI 64 3 [.ref 1313, .ref c4, .int y3] (rest := []) (by decide +kernel) rfl rfl rfl (go_O rfl (by decide +kernel) (by decide +kernel : isO 1313 3 = true)) rfl (s64 hv F hr h20 g70 hg70 c4 y3 σ hc4) (by omega) (fun c6 σ5 => ?_)
      refine b_run [(39, .istore_n 3, 0, 0, .null), (40, .aload 4, 0, 0, .null)] (pc' := 42) (ls' := [some (.ref 1313), none, none, some (.int c6), some (.ref c4)]) (st' := [.ref c4]) (by decide +kernel) rfl ?_
      refine b_gM (q := 37) (ci := 6) (k := 6) (w := .null) (by decide +kernel) (fk_M6_6 hc4) (fun c7 => b_guard (fun hc7 => ?_)) ?_
      · refine b_run [(45, .astore 4, 0, 0, .null), (47, .goto (-20), 27, 0, .null)] (pc' := 27) (ls' := [some (.ref 1313), none, none, some (.int c6), some (.ref c7)]) (st' := []) (by decide +kernel) rfl ?_
        exact b_wk (wS (wN (wN (wS (wS w0))))) (ih c6 (Value.ref c7) σ5)
      · refine b_run [(45, .astore 4, 0, 0, .null), (47, .goto (-20), 27, 0, .null)] (pc' := 27) (ls' := [some (.ref 1313), none, none, some (.int c6), some (.null)]) (st' := []) (by decide +kernel) rfl ?_
        exact b_wk (wS (wN (wN (wS (wS w0))))) (ih c6 Value.null σ5)
    · refine b_run [(27, .aload 4, 0, 0, .null), (29, .ifnull 21, 50, 0, .null), (50, .iload_n 3, 0, 0, .null)] (pc' := 51) (ls' := [some (.ref 1313), none, none, some (.int y3), some (.null)]) (st' := [.int y3]) (by decide +kernel) rfl ?_
      exact b_ret (i := (.ireturn, 0, 0, .null)) (by decide +kernel) rfl rfl (fit_I _)
def f63_19 (F : Nat) (g70 : Nat → Int32 → Int32 → Int32 → St → Rs) (y1 : Nat) (z0 : Int32) (z1 : Int32) (σ : St) : Rs := lt (z0 <<< (z1 &&& 31)) fun c2 => 
    mR (σ.2.2.1 y1 6) (fun c3 => if isO c3 6 = true then f63_27 F g70 F c2 (Value.ref c3) σ else none)
    (f63_27 F g70 F c2 Value.null σ)
theorem s63_19 {sc : aSc} (hv : vOk sc) (F : Nat) (hr : Nat) (h20 : 20 ≤ hr) (g70 : Nat → Int32 → Int32 → Int32 → St → Rs) (hg70 : ∀ x1 x2 x3 x4 σ, isO x1 1 = true → bEx sc hr 70 0 [some (.ref 1313), some (.ref x1), some (.int x2), some (.int x3), some (.int x4)] [] σ (g70 x1 x2 x3 x4 σ)) (y1 : Nat) (z0 : Int32) (z1 : Int32) (σ : St) (hy1 : isO y1 1 = true) : bEx sc (hr + 4) 63 19 [some (.ref 1313), some (.ref y1), none, none, none] [.int z1, .int z0] σ (f63_19 F g70 y1 z0 z1 σ) := by
  unfold f63_19
  refine b_run [(19, .ishl, 0, 0, .null), (20, .istore_n 3, 0, 0, .null)] (pc' := 21) (ls' := [some (.ref 1313), some (.ref y1), none, some (.int (z0 <<< (z1 &&& 31))), none]) (st' := []) (by decide +kernel) rfl ?_
  refine b_let (z0 <<< (z1 &&& 31)) (L := fun c2 => [some (.ref 1313), some (.ref y1), none, some (.int c2), none]) (S := fun _ => []) (fun c2 => ?_)
  refine b_run [(21, .aload_n 1, 0, 0, .null)] (pc' := 22) (ls' := [some (.ref 1313), some (.ref y1), none, some (.int c2), none]) (st' := [.ref y1]) (by decide +kernel) rfl ?_
  refine b_gM (q := 29) (ci := 1) (k := 6) (w := .null) (by decide +kernel) (fk_M1_6 hy1) (fun c3 => b_guard (fun hc3 => ?_)) ?_
  · refine b_run [(25, .astore 4, 0, 0, .null)] (pc' := 27) (ls' := [some (.ref 1313), some (.ref y1), none, some (.int c2), some (.ref c3)]) (st' := []) (by decide +kernel) rfl ?_
    exact b_wk (wS (wN (wN (wS (wS w0))))) (s63_27 hv F hr h20 g70 hg70 F c2 (Value.ref c3) σ)
  · refine b_run [(25, .astore 4, 0, 0, .null)] (pc' := 27) (ls' := [some (.ref 1313), some (.ref y1), none, some (.int c2), some (.null)]) (st' := []) (by decide +kernel) rfl ?_
    exact b_wk (wS (wN (wN (wS (wS w0))))) (s63_27 hv F hr h20 g70 hg70 F c2 Value.null σ)
/-- TreeStore$PathWalker.walk(LTreeStore$Part;I)I -/
def f63 (F : Nat) (g70 : Nat → Int32 → Int32 → Int32 → St → Rs) (x1 : Nat) (x2 : Int32) (σ : St) : Rs := lt (σ.1 x1 5) fun c1 => 
    if c1 = 0 then f63_19 F g70 x1 1 x2 σ
    else f63_19 F g70 x1 1 0 σ
theorem s63 {sc : aSc} (hv : vOk sc) (F : Nat) (hr : Nat) (h20 : 20 ≤ hr) (g70 : Nat → Int32 → Int32 → Int32 → St → Rs) (hg70 : ∀ x1 x2 x3 x4 σ, isO x1 1 = true → bEx sc hr 70 0 [some (.ref 1313), some (.ref x1), some (.int x2), some (.int x3), some (.int x4)] [] σ (g70 x1 x2 x3 x4 σ)) (x1 : Nat) (x2 : Int32) (σ : St) (hx1 : isO x1 1 = true) : bEx sc (hr + 4) 63 0 [some (.ref 1313), some (.ref x1), some (.int x2), none, none] [] σ (f63 F g70 x1 x2 σ) := by
  unfold f63
  refine b_run [(0, .aload_n 1, 0, 0, .null), (1, .ifnonnull 5, 6, 0, .null), (6, .iconst 1, 0, 0, .null), (7, .aload_n 1, 0, 0, .null)] (pc' := 8) (ls' := [some (.ref 1313), some (.ref x1), some (.int x2), none, none]) (st' := [.ref x1, .int 1]) (by decide +kernel) rfl ?_
  refine b_gI (q := 23) (ci := 1) (k := 5) (w := .null) (by decide +kernel) (fk_I1_5 hx1) (fun c1 => ?_)
  refine b_izT (c := .eq) (o := 7) (t := 18) (y := 0) (w := .null) (by decide +kernel) cmp_eq (fun _ => ?_) (fun _ => ?_)
  · refine b_run [(18, .iload_n 2, 0, 0, .null)] (pc' := 19) (ls' := [some (.ref 1313), some (.ref x1), some (.int x2), none, none]) (st' := [.int x2, .int 1]) (by decide +kernel) rfl ?_
    exact b_wk (wS (wS (wN (wN (wN w0))))) (s63_19 hv F hr h20 g70 hg70 x1 1 x2 σ hx1)
  · refine b_run [(14, .iconst 0, 0, 0, .null), (15, .goto 4, 19, 0, .null)] (pc' := 19) (ls' := [some (.ref 1313), some (.ref x1), some (.int x2), none, none]) (st' := [.int 0, .int 1]) (by decide +kernel) rfl ?_
    exact b_wk (wS (wS (wN (wN (wN w0))))) (s63_19 hv F hr h20 g70 hg70 x1 1 0 σ hx1)
/-- TreeStore$PathWalker.evaluate(LTreeStore$Part;III)V -/
def f70 (F : Nat) (g70 : Nat → Int32 → Int32 → Int32 → St → Rs) (x1 : Nat) (x2 : Int32) (x3 : Int32) (x4 : Int32) (σ : St) : Rs := lt (σ.1 x1 0) fun c1 => 
    if c1 = 1 then lt (uJ σ x1 8 ((x3 : Int32).toInt64)) fun σ2 => oV σ2
    else if c1 = 2 then lt (uJ σ x1 8 ((x4 : Int32).toInt64)) fun σ3 => oV σ3
    else if c1 = 3 then 
    mR (σ.2.2.1 x1 1) (fun c4 => if isO c4 1 = true then 
    cI (f63 F g70 c4 x2 σ) fun c6 σ5 => cI (f256 F c6 σ5) fun c8 σ7 => lt (uJ σ7 x1 8 ((c8 : Int32).toInt64)) fun σ9 => oV σ9 else none)
    (none)
    else if c1 = 4 then cJ (f71 F g70 x1 x2 x3 x4 σ) fun c11 σ10 => lt (uJ σ10 x1 8 c11) fun σ12 => oV σ12
    else if c1 = 5 then oV σ
    else if c1 = 6 then cI (f63 F g70 x1 x2 σ) fun c14 σ13 => lt (uI σ13 x1 9 c14) fun σ15 => oV σ15
    else if c1 = 7 then 
    mR (σ.2.2.1 x1 1) (fun c16 => if isO c16 1 = true then 
    cV (g70 c16 x2 x3 x4 σ) fun σ17 => 
    mR (σ17.2.2.1 x1 1) (fun c19 => if isO c19 1 = true then 
    mR (σ17.2.2.1 x1 1) (fun c20 => if isO c20 1 = true then 
    cI (f37 F c20 σ17) fun c22 σ21 => 
    if c22 = 0 then lt (uJ σ21 x1 8 1) fun σ23 => oV σ23
    else lt (uJ σ21 x1 8 0) fun σ24 => oV σ24 else none)
    (none) else none)
    (lt (uJ σ17 x1 8 1) fun σ25 => oV σ25) else none)
    (none)
    else if c1 = 8 then 
    mR (σ.2.2.1 x1 1) (fun c26 => if isO c26 1 = true then 
    cV (g70 c26 x2 x3 x4 σ) fun σ27 => 
    mR (σ27.2.2.1 x1 2) (fun c29 => if isO c29 1 = true then 
    cV (g70 c29 x2 x3 x4 σ27) fun σ30 => 
    lt (σ30.1 x1 0) fun c32 => 
    mR (σ30.2.2.1 x1 1) (fun c33 => if isO c33 1 = true then 
    mR (σ30.2.2.1 x1 2) (fun c34 => if isO c34 1 = true then 
    cI (f74 F c32 c33 c34 σ30) fun c36 σ35 => 
    if c36 = 0 then lt (uJ σ35 x1 8 0) fun σ37 => oV σ37
    else lt (uJ σ35 x1 8 1) fun σ38 => oV σ38 else none)
    (none) else none)
    (
    mR (σ30.2.2.1 x1 2) (fun c39 => if isO c39 1 = true then none else none)
    (none)) else none)
    (none) else none)
    (none)
    else if c1 = 9 then 
    mR (σ.2.2.1 x1 1) (fun c40 => if isO c40 1 = true then 
    cV (g70 c40 x2 x3 x4 σ) fun σ41 => 
    mR (σ41.2.2.1 x1 2) (fun c43 => if isO c43 1 = true then 
    cV (g70 c43 x2 x3 x4 σ41) fun σ44 => 
    lt (σ44.1 x1 0) fun c46 => 
    mR (σ44.2.2.1 x1 1) (fun c47 => if isO c47 1 = true then 
    mR (σ44.2.2.1 x1 2) (fun c48 => if isO c48 1 = true then 
    cI (f74 F c46 c47 c48 σ44) fun c50 σ49 => 
    if c50 = 0 then lt (uJ σ49 x1 8 0) fun σ51 => oV σ51
    else lt (uJ σ49 x1 8 1) fun σ52 => oV σ52 else none)
    (none) else none)
    (
    mR (σ44.2.2.1 x1 2) (fun c53 => if isO c53 1 = true then none else none)
    (none)) else none)
    (none) else none)
    (none)
    else if c1 = 10 then 
    mR (σ.2.2.1 x1 1) (fun c54 => if isO c54 1 = true then 
    cV (g70 c54 x2 x3 x4 σ) fun σ55 => 
    mR (σ55.2.2.1 x1 2) (fun c57 => if isO c57 1 = true then 
    cV (g70 c57 x2 x3 x4 σ55) fun σ58 => 
    lt (σ58.1 x1 0) fun c60 => 
    mR (σ58.2.2.1 x1 1) (fun c61 => if isO c61 1 = true then 
    mR (σ58.2.2.1 x1 2) (fun c62 => if isO c62 1 = true then 
    cI (f74 F c60 c61 c62 σ58) fun c64 σ63 => 
    if c64 = 0 then lt (uJ σ63 x1 8 0) fun σ65 => oV σ65
    else lt (uJ σ63 x1 8 1) fun σ66 => oV σ66 else none)
    (none) else none)
    (
    mR (σ58.2.2.1 x1 2) (fun c67 => if isO c67 1 = true then none else none)
    (none)) else none)
    (none) else none)
    (none)
    else if c1 = 11 then 
    mR (σ.2.2.1 x1 1) (fun c68 => if isO c68 1 = true then 
    cV (g70 c68 x2 x3 x4 σ) fun σ69 => 
    mR (σ69.2.2.1 x1 2) (fun c71 => if isO c71 1 = true then 
    cV (g70 c71 x2 x3 x4 σ69) fun σ72 => 
    lt (σ72.1 x1 0) fun c74 => 
    mR (σ72.2.2.1 x1 1) (fun c75 => if isO c75 1 = true then 
    mR (σ72.2.2.1 x1 2) (fun c76 => if isO c76 1 = true then 
    cI (f74 F c74 c75 c76 σ72) fun c78 σ77 => 
    if c78 = 0 then lt (uJ σ77 x1 8 0) fun σ79 => oV σ79
    else lt (uJ σ77 x1 8 1) fun σ80 => oV σ80 else none)
    (none) else none)
    (
    mR (σ72.2.2.1 x1 2) (fun c81 => if isO c81 1 = true then none else none)
    (none)) else none)
    (none) else none)
    (none)
    else oV σ
theorem s70 {sc : aSc} (hv : vOk sc) (F : Nat) (hr : Nat) (h20 : 20 ≤ hr) (g70 : Nat → Int32 → Int32 → Int32 → St → Rs) (hg70 : ∀ x1 x2 x3 x4 σ, isO x1 1 = true → bEx sc hr 70 0 [some (.ref 1313), some (.ref x1), some (.int x2), some (.int x3), some (.int x4)] [] σ (g70 x1 x2 x3 x4 σ)) (x1 : Nat) (x2 : Int32) (x3 : Int32) (x4 : Int32) (σ : St) (hx1 : isO x1 1 = true) : bEx sc (hr + 5) 70 0 [some (.ref 1313), some (.ref x1), some (.int x2), some (.int x3), some (.int x4)] [] σ (f70 F g70 x1 x2 x3 x4 σ) := by
  unfold f70
  refine b_run [(0, .aload_n 1, 0, 0, .null), (1, .ifnonnull 4, 5, 0, .null), (5, .aload_n 1, 0, 0, .null)] (pc' := 6) (ls' := [some (.ref 1313), some (.ref x1), some (.int x2), some (.int x3), some (.int x4)]) (st' := [.ref x1]) (by decide +kernel) rfl ?_
  refine b_gI (q := 146) (ci := 1) (k := 0) (w := .null) (by decide +kernel) (fk_I1_0 hx1) (fun c1 => ?_)
  refine b_ite (fun e0 => ?_) (fun e0 => ?_)
  · refine b_sw (dl := 223) (lo := 1) (hi' := 11) (offs := #[59, 68, 78, 98, 223, 114, 127, 168, 168, 168, 168]) (t := 59) (y := 0) (w := .null) (by decide +kernel) (swE e0 (by decide +kernel : aSw 9 223 1 11 #[59, 68, 78, 98, 223, 114, 127, 168, 168, 168, 168] 1 = some 68)) ?_
    refine b_run [(68, .aload_n 1, 0, 0, .null), (69, .iload_n 3, 0, 0, .null), (70, .i2l, 0, 0, .null)] (pc' := 71) (ls' := [some (.ref 1313), some (.ref x1), some (.int x2), some (.int x3), some (.int x4)]) (st' := [.long ((x3 : Int32).toInt64), .ref x1]) (by decide +kernel) rfl ?_
    refine b_pJ (q := 102) (ci := 1) (k := 8) (w := .null) (by decide +kernel) (fk_J1_8 hx1) (fit_J _) (fun σ2 => ?_)
    refine b_run [(74, .goto 158, 232, 0, .null)] (pc' := 232) (ls' := [some (.ref 1313), some (.ref x1), some (.int x2), some (.int x3), some (.int x4)]) (st' := []) (by decide +kernel) rfl ?_
    exact b_ret0 (i := (.return_, 0, 0, .null)) (by decide +kernel) rfl rfl
  refine b_ite (fun e1 => ?_) (fun e1 => ?_)
  · refine b_sw (dl := 223) (lo := 1) (hi' := 11) (offs := #[59, 68, 78, 98, 223, 114, 127, 168, 168, 168, 168]) (t := 59) (y := 0) (w := .null) (by decide +kernel) (swE e1 (by decide +kernel : aSw 9 223 1 11 #[59, 68, 78, 98, 223, 114, 127, 168, 168, 168, 168] 2 = some 77)) ?_
    refine b_run [(77, .aload_n 1, 0, 0, .null), (78, .iload 4, 0, 0, .null), (80, .i2l, 0, 0, .null)] (pc' := 81) (ls' := [some (.ref 1313), some (.ref x1), some (.int x2), some (.int x3), some (.int x4)]) (st' := [.long ((x4 : Int32).toInt64), .ref x1]) (by decide +kernel) rfl ?_
    refine b_pJ (q := 102) (ci := 1) (k := 8) (w := .null) (by decide +kernel) (fk_J1_8 hx1) (fit_J _) (fun σ3 => ?_)
    refine b_run [(84, .goto 148, 232, 0, .null)] (pc' := 232) (ls' := [some (.ref 1313), some (.ref x1), some (.int x2), some (.int x3), some (.int x4)]) (st' := []) (by decide +kernel) rfl ?_
    exact b_ret0 (i := (.return_, 0, 0, .null)) (by decide +kernel) rfl rfl
  refine b_ite (fun e2 => ?_) (fun e2 => ?_)
  · refine b_sw (dl := 223) (lo := 1) (hi' := 11) (offs := #[59, 68, 78, 98, 223, 114, 127, 168, 168, 168, 168]) (t := 59) (y := 0) (w := .null) (by decide +kernel) (swE e2 (by decide +kernel : aSw 9 223 1 11 #[59, 68, 78, 98, 223, 114, 127, 168, 168, 168, 168] 3 = some 87)) ?_
    refine b_run [(87, .aload_n 1, 0, 0, .null), (88, .aload_n 0, 0, 0, .null), (89, .aload_n 1, 0, 0, .null)] (pc' := 90) (ls' := [some (.ref 1313), some (.ref x1), some (.int x2), some (.int x3), some (.int x4)]) (st' := [.ref x1, .ref 1313, .ref x1]) (by decide +kernel) rfl ?_
    refine b_gM (q := 149) (ci := 1) (k := 1) (w := .null) (by decide +kernel) (fk_M1_1 hx1) (fun c4 => b_guard (fun hc4 => ?_)) ?_
    · refine b_run [(93, .iload_n 2, 0, 0, .null)] (pc' := 94) (ls' := [some (.ref 1313), some (.ref x1), some (.int x2), some (.int x3), some (.int x4)]) (st' := [.int x2, .ref c4, .ref 1313, .ref x1]) (by decide +kernel) rfl ?_
      refine b_callI 63 3 [.ref 1313, .ref c4, .int x2] (rest := [.ref x1]) (by decide +kernel) rfl rfl rfl (go_O rfl (by decide +kernel) (by decide +kernel : isO 1313 3 = true)) rfl (s63 hv F hr h20 g70 hg70 c4 x2 σ hc4) (by omega) (fun c6 σ5 => ?_)
      refine b_callI 256 1 [.int c6] (rest := [.ref x1]) (by decide +kernel) rfl rfl rfl (go_S rfl (by decide +kernel)) rfl (s256 hv F c6 σ5) (by omega) (fun c8 σ7 => ?_)
      refine b_run [(100, .i2l, 0, 0, .null)] (pc' := 101) (ls' := [some (.ref 1313), some (.ref x1), some (.int x2), some (.int x3), some (.int x4)]) (st' := [.long ((c8 : Int32).toInt64), .ref x1]) (by decide +kernel) rfl ?_
      refine b_pJ (q := 102) (ci := 1) (k := 8) (w := .null) (by decide +kernel) (fk_J1_8 hx1) (fit_J _) (fun σ9 => ?_)
      refine b_run [(104, .goto 128, 232, 0, .null)] (pc' := 232) (ls' := [some (.ref 1313), some (.ref x1), some (.int x2), some (.int x3), some (.int x4)]) (st' := []) (by decide +kernel) rfl ?_
      exact b_ret0 (i := (.return_, 0, 0, .null)) (by decide +kernel) rfl rfl
    · refine b_run [(93, .iload_n 2, 0, 0, .null)] (pc' := 94) (ls' := [some (.ref 1313), some (.ref x1), some (.int x2), some (.int x3), some (.int x4)]) (st' := [.int x2, .null, .ref 1313, .ref x1]) (by decide +kernel) rfl ?_
      exact b_none
  refine b_ite (fun e3 => ?_) (fun e3 => ?_)
  · refine b_sw (dl := 223) (lo := 1) (hi' := 11) (offs := #[59, 68, 78, 98, 223, 114, 127, 168, 168, 168, 168]) (t := 59) (y := 0) (w := .null) (by decide +kernel) (swE e3 (by decide +kernel : aSw 9 223 1 11 #[59, 68, 78, 98, 223, 114, 127, 168, 168, 168, 168] 4 = some 107)) ?_
    refine b_run [(107, .aload_n 1, 0, 0, .null), (108, .aload_n 0, 0, 0, .null), (109, .aload_n 1, 0, 0, .null), (110, .iload_n 2, 0, 0, .null), (111, .iload_n 3, 0, 0, .null), (112, .iload 4, 0, 0, .null)] (pc' := 114) (ls' := [some (.ref 1313), some (.ref x1), some (.int x2), some (.int x3), some (.int x4)]) (st' := [.int x4, .int x3, .int x2, .ref x1, .ref 1313, .ref x1]) (by decide +kernel) rfl ?_
    refine b_callJ 71 5 [.ref 1313, .ref x1, .int x2, .int x3, .int x4] (rest := [.ref x1]) (by decide +kernel) rfl rfl rfl (go_O rfl (by decide +kernel) (by decide +kernel : isO 1313 3 = true)) rfl (s71 hv F hr h20 g70 hg70 x1 x2 x3 x4 σ hx1) (by omega) (fun c11 σ10 => ?_)
    refine b_pJ (q := 102) (ci := 1) (k := 8) (w := .null) (by decide +kernel) (fk_J1_8 hx1) (fit_J _) (fun σ12 => ?_)
    refine b_run [(120, .goto 112, 232, 0, .null)] (pc' := 232) (ls' := [some (.ref 1313), some (.ref x1), some (.int x2), some (.int x3), some (.int x4)]) (st' := []) (by decide +kernel) rfl ?_
    exact b_ret0 (i := (.return_, 0, 0, .null)) (by decide +kernel) rfl rfl
  refine b_ite (fun e4 => ?_) (fun e4 => ?_)
  · refine b_sw (dl := 223) (lo := 1) (hi' := 11) (offs := #[59, 68, 78, 98, 223, 114, 127, 168, 168, 168, 168]) (t := 59) (y := 0) (w := .null) (by decide +kernel) (swE e4 (by decide +kernel : aSw 9 223 1 11 #[59, 68, 78, 98, 223, 114, 127, 168, 168, 168, 168] 5 = some 232)) ?_
    exact b_ret0 (i := (.return_, 0, 0, .null)) (by decide +kernel) rfl rfl
  refine b_ite (fun e5 => ?_) (fun e5 => ?_)
  · refine b_sw (dl := 223) (lo := 1) (hi' := 11) (offs := #[59, 68, 78, 98, 223, 114, 127, 168, 168, 168, 168]) (t := 59) (y := 0) (w := .null) (by decide +kernel) (swE e5 (by decide +kernel : aSw 9 223 1 11 #[59, 68, 78, 98, 223, 114, 127, 168, 168, 168, 168] 6 = some 123)) ?_
    refine b_run [(123, .aload_n 1, 0, 0, .null), (124, .aload_n 0, 0, 0, .null), (125, .aload_n 1, 0, 0, .null), (126, .iload_n 2, 0, 0, .null)] (pc' := 127) (ls' := [some (.ref 1313), some (.ref x1), some (.int x2), some (.int x3), some (.int x4)]) (st' := [.int x2, .ref x1, .ref 1313, .ref x1]) (by decide +kernel) rfl ?_
    refine b_callI 63 3 [.ref 1313, .ref x1, .int x2] (rest := [.ref x1]) (by decide +kernel) rfl rfl rfl (go_O rfl (by decide +kernel) (by decide +kernel : isO 1313 3 = true)) rfl (s63 hv F hr h20 g70 hg70 x1 x2 σ hx1) (by omega) (fun c14 σ13 => ?_)
    refine b_pI (q := 156) (ci := 1) (k := 9) (w := .null) (by decide +kernel) (fk_I1_9 hx1) (fit_I _) (fun σ15 => ?_)
    refine b_run [(133, .goto 99, 232, 0, .null)] (pc' := 232) (ls' := [some (.ref 1313), some (.ref x1), some (.int x2), some (.int x3), some (.int x4)]) (st' := []) (by decide +kernel) rfl ?_
    exact b_ret0 (i := (.return_, 0, 0, .null)) (by decide +kernel) rfl rfl
  refine b_ite (fun e6 => ?_) (fun e6 => ?_)
  · refine b_sw (dl := 223) (lo := 1) (hi' := 11) (offs := #[59, 68, 78, 98, 223, 114, 127, 168, 168, 168, 168]) (t := 59) (y := 0) (w := .null) (by decide +kernel) (swE e6 (by decide +kernel : aSw 9 223 1 11 #[59, 68, 78, 98, 223, 114, 127, 168, 168, 168, 168] 7 = some 136)) ?_
    refine b_run [(136, .aload_n 0, 0, 0, .null), (137, .aload_n 1, 0, 0, .null)] (pc' := 138) (ls' := [some (.ref 1313), some (.ref x1), some (.int x2), some (.int x3), some (.int x4)]) (st' := [.ref x1, .ref 1313]) (by decide +kernel) rfl ?_
    refine b_gM (q := 149) (ci := 1) (k := 1) (w := .null) (by decide +kernel) (fk_M1_1 hx1) (fun c16 => b_guard (fun hc16 => ?_)) ?_
    · refine b_run [(141, .iload_n 2, 0, 0, .null), (142, .iload_n 3, 0, 0, .null), (143, .iload 4, 0, 0, .null)] (pc' := 145) (ls' := [some (.ref 1313), some (.ref x1), some (.int x2), some (.int x3), some (.int x4)]) (st' := [.int x4, .int x3, .int x2, .ref c16, .ref 1313]) (by decide +kernel) rfl ?_
      refine b_callV 70 5 [.ref 1313, .ref c16, .int x2, .int x3, .int x4] (rest := []) (by decide +kernel) rfl rfl rfl (go_O rfl (by decide +kernel) (by decide +kernel : isO 1313 3 = true)) rfl (hg70 c16 x2 x3 x4 σ hc16) (by omega) (fun σ17 => ?_)
      refine b_run [(148, .aload_n 1, 0, 0, .null), (149, .aload_n 1, 0, 0, .null)] (pc' := 150) (ls' := [some (.ref 1313), some (.ref x1), some (.int x2), some (.int x3), some (.int x4)]) (st' := [.ref x1, .ref x1]) (by decide +kernel) rfl ?_
      refine b_gM (q := 149) (ci := 1) (k := 1) (w := .null) (by decide +kernel) (fk_M1_1 hx1) (fun c19 => b_guard (fun hc19 => ?_)) ?_
      · refine b_run [(153, .ifnull 17, 170, 0, .null), (156, .aload_n 1, 0, 0, .null)] (pc' := 157) (ls' := [some (.ref 1313), some (.ref x1), some (.int x2), some (.int x3), some (.int x4)]) (st' := [.ref x1, .ref x1]) (by decide +kernel) rfl ?_
        refine b_gM (q := 149) (ci := 1) (k := 1) (w := .null) (by decide +kernel) (fk_M1_1 hx1) (fun c20 => b_guard (fun hc20 => ?_)) ?_
        · refine b_callI 37 1 [.ref c20] (rest := [.ref x1]) (by decide +kernel) rfl rfl rfl (go_O rfl (by decide +kernel) hc20) rfl (s37 hv F c20 σ17 hc20) (by omega) (fun c22 σ21 => ?_)
          refine b_izT (c := .eq) (o := 7) (t := 170) (y := 0) (w := .null) (by decide +kernel) cmp_eq (fun _ => ?_) (fun _ => ?_)
          · refine b_run [(170, .lconst 1, 0, 0, .null)] (pc' := 171) (ls' := [some (.ref 1313), some (.ref x1), some (.int x2), some (.int x3), some (.int x4)]) (st' := [.long 1, .ref x1]) (by decide +kernel) rfl ?_
            refine b_pJ (q := 102) (ci := 1) (k := 8) (w := .null) (by decide +kernel) (fk_J1_8 hx1) (fit_J _) (fun σ23 => ?_)
            refine b_run [(174, .goto 58, 232, 0, .null)] (pc' := 232) (ls' := [some (.ref 1313), some (.ref x1), some (.int x2), some (.int x3), some (.int x4)]) (st' := []) (by decide +kernel) rfl ?_
            exact b_ret0 (i := (.return_, 0, 0, .null)) (by decide +kernel) rfl rfl
          · refine b_run [(166, .lconst 0, 0, 0, .null), (167, .goto 4, 171, 0, .null)] (pc' := 171) (ls' := [some (.ref 1313), some (.ref x1), some (.int x2), some (.int x3), some (.int x4)]) (st' := [.long 0, .ref x1]) (by decide +kernel) rfl ?_
            refine b_pJ (q := 102) (ci := 1) (k := 8) (w := .null) (by decide +kernel) (fk_J1_8 hx1) (fit_J _) (fun σ24 => ?_)
            refine b_run [(174, .goto 58, 232, 0, .null)] (pc' := 232) (ls' := [some (.ref 1313), some (.ref x1), some (.int x2), some (.int x3), some (.int x4)]) (st' := []) (by decide +kernel) rfl ?_
            exact b_ret0 (i := (.return_, 0, 0, .null)) (by decide +kernel) rfl rfl
        · exact b_none
      · refine b_run [(153, .ifnull 17, 170, 0, .null), (170, .lconst 1, 0, 0, .null)] (pc' := 171) (ls' := [some (.ref 1313), some (.ref x1), some (.int x2), some (.int x3), some (.int x4)]) (st' := [.long 1, .ref x1]) (by decide +kernel) rfl ?_
        refine b_pJ (q := 102) (ci := 1) (k := 8) (w := .null) (by decide +kernel) (fk_J1_8 hx1) (fit_J _) (fun σ25 => ?_)
        refine b_run [(174, .goto 58, 232, 0, .null)] (pc' := 232) (ls' := [some (.ref 1313), some (.ref x1), some (.int x2), some (.int x3), some (.int x4)]) (st' := []) (by decide +kernel) rfl ?_
        exact b_ret0 (i := (.return_, 0, 0, .null)) (by decide +kernel) rfl rfl
    · refine b_run [(141, .iload_n 2, 0, 0, .null), (142, .iload_n 3, 0, 0, .null), (143, .iload 4, 0, 0, .null)] (pc' := 145) (ls' := [some (.ref 1313), some (.ref x1), some (.int x2), some (.int x3), some (.int x4)]) (st' := [.int x4, .int x3, .int x2, .null, .ref 1313]) (by decide +kernel) rfl ?_
      exact b_none
  refine b_ite (fun e7 => ?_) (fun e7 => ?_)
  · refine b_sw (dl := 223) (lo := 1) (hi' := 11) (offs := #[59, 68, 78, 98, 223, 114, 127, 168, 168, 168, 168]) (t := 59) (y := 0) (w := .null) (by decide +kernel) (swE e7 (by decide +kernel : aSw 9 223 1 11 #[59, 68, 78, 98, 223, 114, 127, 168, 168, 168, 168] 8 = some 177)) ?_
    refine b_run [(177, .aload_n 0, 0, 0, .null), (178, .aload_n 1, 0, 0, .null)] (pc' := 179) (ls' := [some (.ref 1313), some (.ref x1), some (.int x2), some (.int x3), some (.int x4)]) (st' := [.ref x1, .ref 1313]) (by decide +kernel) rfl ?_
    refine b_gM (q := 149) (ci := 1) (k := 1) (w := .null) (by decide +kernel) (fk_M1_1 hx1) (fun c26 => b_guard (fun hc26 => ?_)) ?_
    · refine b_run [(182, .iload_n 2, 0, 0, .null), (183, .iload_n 3, 0, 0, .null), (184, .iload 4, 0, 0, .null)] (pc' := 186) (ls' := [some (.ref 1313), some (.ref x1), some (.int x2), some (.int x3), some (.int x4)]) (st' := [.int x4, .int x3, .int x2, .ref c26, .ref 1313]) (by decide +kernel) rfl ?_
      refine b_callV 70 5 [.ref 1313, .ref c26, .int x2, .int x3, .int x4] (rest := []) (by decide +kernel) rfl rfl rfl (go_O rfl (by decide +kernel) (by decide +kernel : isO 1313 3 = true)) rfl (hg70 c26 x2 x3 x4 σ hc26) (by omega) (fun σ27 => ?_)
      refine b_run [(189, .aload_n 0, 0, 0, .null), (190, .aload_n 1, 0, 0, .null)] (pc' := 191) (ls' := [some (.ref 1313), some (.ref x1), some (.int x2), some (.int x3), some (.int x4)]) (st' := [.ref x1, .ref 1313]) (by decide +kernel) rfl ?_
      refine b_gM (q := 159) (ci := 1) (k := 2) (w := .null) (by decide +kernel) (fk_M1_2 hx1) (fun c29 => b_guard (fun hc29 => ?_)) ?_
      · refine b_run [(194, .iload_n 2, 0, 0, .null), (195, .iload_n 3, 0, 0, .null), (196, .iload 4, 0, 0, .null)] (pc' := 198) (ls' := [some (.ref 1313), some (.ref x1), some (.int x2), some (.int x3), some (.int x4)]) (st' := [.int x4, .int x3, .int x2, .ref c29, .ref 1313]) (by decide +kernel) rfl ?_
        refine b_callV 70 5 [.ref 1313, .ref c29, .int x2, .int x3, .int x4] (rest := []) (by decide +kernel) rfl rfl rfl (go_O rfl (by decide +kernel) (by decide +kernel : isO 1313 3 = true)) rfl (hg70 c29 x2 x3 x4 σ27 hc29) (by omega) (fun σ30 => ?_)
        refine b_run [(201, .aload_n 1, 0, 0, .null), (202, .aload_n 0, 0, 0, .null), (203, .aload_n 1, 0, 0, .null)] (pc' := 204) (ls' := [some (.ref 1313), some (.ref x1), some (.int x2), some (.int x3), some (.int x4)]) (st' := [.ref x1, .ref 1313, .ref x1]) (by decide +kernel) rfl ?_
        refine b_gI (q := 146) (ci := 1) (k := 0) (w := .null) (by decide +kernel) (fk_I1_0 hx1) (fun c32 => ?_)
        refine b_run [(207, .aload_n 1, 0, 0, .null)] (pc' := 208) (ls' := [some (.ref 1313), some (.ref x1), some (.int x2), some (.int x3), some (.int x4)]) (st' := [.ref x1, .int c32, .ref 1313, .ref x1]) (by decide +kernel) rfl ?_
        refine b_gM (q := 149) (ci := 1) (k := 1) (w := .null) (by decide +kernel) (fk_M1_1 hx1) (fun c33 => b_guard (fun hc33 => ?_)) ?_
        · refine b_run [(211, .aload_n 1, 0, 0, .null)] (pc' := 212) (ls' := [some (.ref 1313), some (.ref x1), some (.int x2), some (.int x3), some (.int x4)]) (st' := [.ref x1, .ref c33, .int c32, .ref 1313, .ref x1]) (by decide +kernel) rfl ?_
          refine b_gM (q := 159) (ci := 1) (k := 2) (w := .null) (by decide +kernel) (fk_M1_2 hx1) (fun c34 => b_guard (fun hc34 => ?_)) ?_
          · refine b_callI 74 4 [.ref 1313, .int c32, .ref c33, .ref c34] (rest := [.ref x1]) (by decide +kernel) rfl rfl rfl (go_O rfl (by decide +kernel) (by decide +kernel : isO 1313 3 = true)) rfl (s74 hv F c32 c33 c34 σ30 hc33 hc34) (by omega) (fun c36 σ35 => ?_)
            refine b_izT (c := .eq) (o := 7) (t := 225) (y := 0) (w := .null) (by decide +kernel) cmp_eq (fun _ => ?_) (fun _ => ?_)
            · refine b_run [(225, .lconst 0, 0, 0, .null)] (pc' := 226) (ls' := [some (.ref 1313), some (.ref x1), some (.int x2), some (.int x3), some (.int x4)]) (st' := [.long 0, .ref x1]) (by decide +kernel) rfl ?_
              refine b_pJ (q := 102) (ci := 1) (k := 8) (w := .null) (by decide +kernel) (fk_J1_8 hx1) (fit_J _) (fun σ37 => ?_)
              refine b_run [(229, .goto 3, 232, 0, .null)] (pc' := 232) (ls' := [some (.ref 1313), some (.ref x1), some (.int x2), some (.int x3), some (.int x4)]) (st' := []) (by decide +kernel) rfl ?_
              exact b_ret0 (i := (.return_, 0, 0, .null)) (by decide +kernel) rfl rfl
            · refine b_run [(221, .lconst 1, 0, 0, .null), (222, .goto 4, 226, 0, .null)] (pc' := 226) (ls' := [some (.ref 1313), some (.ref x1), some (.int x2), some (.int x3), some (.int x4)]) (st' := [.long 1, .ref x1]) (by decide +kernel) rfl ?_
              refine b_pJ (q := 102) (ci := 1) (k := 8) (w := .null) (by decide +kernel) (fk_J1_8 hx1) (fit_J _) (fun σ38 => ?_)
              refine b_run [(229, .goto 3, 232, 0, .null)] (pc' := 232) (ls' := [some (.ref 1313), some (.ref x1), some (.int x2), some (.int x3), some (.int x4)]) (st' := []) (by decide +kernel) rfl ?_
              exact b_ret0 (i := (.return_, 0, 0, .null)) (by decide +kernel) rfl rfl
          · exact b_none
        · refine b_run [(211, .aload_n 1, 0, 0, .null)] (pc' := 212) (ls' := [some (.ref 1313), some (.ref x1), some (.int x2), some (.int x3), some (.int x4)]) (st' := [.ref x1, .null, .int c32, .ref 1313, .ref x1]) (by decide +kernel) rfl ?_
          refine b_gM (q := 159) (ci := 1) (k := 2) (w := .null) (by decide +kernel) (fk_M1_2 hx1) (fun c39 => b_guard (fun hc39 => ?_)) ?_
          · exact b_none
          · exact b_none
      · refine b_run [(194, .iload_n 2, 0, 0, .null), (195, .iload_n 3, 0, 0, .null), (196, .iload 4, 0, 0, .null)] (pc' := 198) (ls' := [some (.ref 1313), some (.ref x1), some (.int x2), some (.int x3), some (.int x4)]) (st' := [.int x4, .int x3, .int x2, .null, .ref 1313]) (by decide +kernel) rfl ?_
        exact b_none
    · refine b_run [(182, .iload_n 2, 0, 0, .null), (183, .iload_n 3, 0, 0, .null), (184, .iload 4, 0, 0, .null)] (pc' := 186) (ls' := [some (.ref 1313), some (.ref x1), some (.int x2), some (.int x3), some (.int x4)]) (st' := [.int x4, .int x3, .int x2, .null, .ref 1313]) (by decide +kernel) rfl ?_
      exact b_none
  refine b_ite (fun e8 => ?_) (fun e8 => ?_)
  · refine b_sw (dl := 223) (lo := 1) (hi' := 11) (offs := #[59, 68, 78, 98, 223, 114, 127, 168, 168, 168, 168]) (t := 59) (y := 0) (w := .null) (by decide +kernel) (swE e8 (by decide +kernel : aSw 9 223 1 11 #[59, 68, 78, 98, 223, 114, 127, 168, 168, 168, 168] 9 = some 177)) ?_
    refine b_run [(177, .aload_n 0, 0, 0, .null), (178, .aload_n 1, 0, 0, .null)] (pc' := 179) (ls' := [some (.ref 1313), some (.ref x1), some (.int x2), some (.int x3), some (.int x4)]) (st' := [.ref x1, .ref 1313]) (by decide +kernel) rfl ?_
    refine b_gM (q := 149) (ci := 1) (k := 1) (w := .null) (by decide +kernel) (fk_M1_1 hx1) (fun c40 => b_guard (fun hc40 => ?_)) ?_
    · refine b_run [(182, .iload_n 2, 0, 0, .null), (183, .iload_n 3, 0, 0, .null), (184, .iload 4, 0, 0, .null)] (pc' := 186) (ls' := [some (.ref 1313), some (.ref x1), some (.int x2), some (.int x3), some (.int x4)]) (st' := [.int x4, .int x3, .int x2, .ref c40, .ref 1313]) (by decide +kernel) rfl ?_
      refine b_callV 70 5 [.ref 1313, .ref c40, .int x2, .int x3, .int x4] (rest := []) (by decide +kernel) rfl rfl rfl (go_O rfl (by decide +kernel) (by decide +kernel : isO 1313 3 = true)) rfl (hg70 c40 x2 x3 x4 σ hc40) (by omega) (fun σ41 => ?_)
      refine b_run [(189, .aload_n 0, 0, 0, .null), (190, .aload_n 1, 0, 0, .null)] (pc' := 191) (ls' := [some (.ref 1313), some (.ref x1), some (.int x2), some (.int x3), some (.int x4)]) (st' := [.ref x1, .ref 1313]) (by decide +kernel) rfl ?_
      refine b_gM (q := 159) (ci := 1) (k := 2) (w := .null) (by decide +kernel) (fk_M1_2 hx1) (fun c43 => b_guard (fun hc43 => ?_)) ?_
      · refine b_run [(194, .iload_n 2, 0, 0, .null), (195, .iload_n 3, 0, 0, .null), (196, .iload 4, 0, 0, .null)] (pc' := 198) (ls' := [some (.ref 1313), some (.ref x1), some (.int x2), some (.int x3), some (.int x4)]) (st' := [.int x4, .int x3, .int x2, .ref c43, .ref 1313]) (by decide +kernel) rfl ?_
        refine b_callV 70 5 [.ref 1313, .ref c43, .int x2, .int x3, .int x4] (rest := []) (by decide +kernel) rfl rfl rfl (go_O rfl (by decide +kernel) (by decide +kernel : isO 1313 3 = true)) rfl (hg70 c43 x2 x3 x4 σ41 hc43) (by omega) (fun σ44 => ?_)
        refine b_run [(201, .aload_n 1, 0, 0, .null), (202, .aload_n 0, 0, 0, .null), (203, .aload_n 1, 0, 0, .null)] (pc' := 204) (ls' := [some (.ref 1313), some (.ref x1), some (.int x2), some (.int x3), some (.int x4)]) (st' := [.ref x1, .ref 1313, .ref x1]) (by decide +kernel) rfl ?_
        refine b_gI (q := 146) (ci := 1) (k := 0) (w := .null) (by decide +kernel) (fk_I1_0 hx1) (fun c46 => ?_)
        refine b_run [(207, .aload_n 1, 0, 0, .null)] (pc' := 208) (ls' := [some (.ref 1313), some (.ref x1), some (.int x2), some (.int x3), some (.int x4)]) (st' := [.ref x1, .int c46, .ref 1313, .ref x1]) (by decide +kernel) rfl ?_
        refine b_gM (q := 149) (ci := 1) (k := 1) (w := .null) (by decide +kernel) (fk_M1_1 hx1) (fun c47 => b_guard (fun hc47 => ?_)) ?_
        · refine b_run [(211, .aload_n 1, 0, 0, .null)] (pc' := 212) (ls' := [some (.ref 1313), some (.ref x1), some (.int x2), some (.int x3), some (.int x4)]) (st' := [.ref x1, .ref c47, .int c46, .ref 1313, .ref x1]) (by decide +kernel) rfl ?_
          refine b_gM (q := 159) (ci := 1) (k := 2) (w := .null) (by decide +kernel) (fk_M1_2 hx1) (fun c48 => b_guard (fun hc48 => ?_)) ?_
          · refine b_callI 74 4 [.ref 1313, .int c46, .ref c47, .ref c48] (rest := [.ref x1]) (by decide +kernel) rfl rfl rfl (go_O rfl (by decide +kernel) (by decide +kernel : isO 1313 3 = true)) rfl (s74 hv F c46 c47 c48 σ44 hc47 hc48) (by omega) (fun c50 σ49 => ?_)
            refine b_izT (c := .eq) (o := 7) (t := 225) (y := 0) (w := .null) (by decide +kernel) cmp_eq (fun _ => ?_) (fun _ => ?_)
            · refine b_run [(225, .lconst 0, 0, 0, .null)] (pc' := 226) (ls' := [some (.ref 1313), some (.ref x1), some (.int x2), some (.int x3), some (.int x4)]) (st' := [.long 0, .ref x1]) (by decide +kernel) rfl ?_
              refine b_pJ (q := 102) (ci := 1) (k := 8) (w := .null) (by decide +kernel) (fk_J1_8 hx1) (fit_J _) (fun σ51 => ?_)
              refine b_run [(229, .goto 3, 232, 0, .null)] (pc' := 232) (ls' := [some (.ref 1313), some (.ref x1), some (.int x2), some (.int x3), some (.int x4)]) (st' := []) (by decide +kernel) rfl ?_
              exact b_ret0 (i := (.return_, 0, 0, .null)) (by decide +kernel) rfl rfl
            · refine b_run [(221, .lconst 1, 0, 0, .null), (222, .goto 4, 226, 0, .null)] (pc' := 226) (ls' := [some (.ref 1313), some (.ref x1), some (.int x2), some (.int x3), some (.int x4)]) (st' := [.long 1, .ref x1]) (by decide +kernel) rfl ?_
              refine b_pJ (q := 102) (ci := 1) (k := 8) (w := .null) (by decide +kernel) (fk_J1_8 hx1) (fit_J _) (fun σ52 => ?_)
              refine b_run [(229, .goto 3, 232, 0, .null)] (pc' := 232) (ls' := [some (.ref 1313), some (.ref x1), some (.int x2), some (.int x3), some (.int x4)]) (st' := []) (by decide +kernel) rfl ?_
              exact b_ret0 (i := (.return_, 0, 0, .null)) (by decide +kernel) rfl rfl
          · exact b_none
        · refine b_run [(211, .aload_n 1, 0, 0, .null)] (pc' := 212) (ls' := [some (.ref 1313), some (.ref x1), some (.int x2), some (.int x3), some (.int x4)]) (st' := [.ref x1, .null, .int c46, .ref 1313, .ref x1]) (by decide +kernel) rfl ?_
          refine b_gM (q := 159) (ci := 1) (k := 2) (w := .null) (by decide +kernel) (fk_M1_2 hx1) (fun c53 => b_guard (fun hc53 => ?_)) ?_
          · exact b_none
          · exact b_none
      · refine b_run [(194, .iload_n 2, 0, 0, .null), (195, .iload_n 3, 0, 0, .null), (196, .iload 4, 0, 0, .null)] (pc' := 198) (ls' := [some (.ref 1313), some (.ref x1), some (.int x2), some (.int x3), some (.int x4)]) (st' := [.int x4, .int x3, .int x2, .null, .ref 1313]) (by decide +kernel) rfl ?_
        exact b_none
    · refine b_run [(182, .iload_n 2, 0, 0, .null), (183, .iload_n 3, 0, 0, .null), (184, .iload 4, 0, 0, .null)] (pc' := 186) (ls' := [some (.ref 1313), some (.ref x1), some (.int x2), some (.int x3), some (.int x4)]) (st' := [.int x4, .int x3, .int x2, .null, .ref 1313]) (by decide +kernel) rfl ?_
      exact b_none
  refine b_ite (fun e9 => ?_) (fun e9 => ?_)
  · refine b_sw (dl := 223) (lo := 1) (hi' := 11) (offs := #[59, 68, 78, 98, 223, 114, 127, 168, 168, 168, 168]) (t := 59) (y := 0) (w := .null) (by decide +kernel) (swE e9 (by decide +kernel : aSw 9 223 1 11 #[59, 68, 78, 98, 223, 114, 127, 168, 168, 168, 168] 10 = some 177)) ?_
    refine b_run [(177, .aload_n 0, 0, 0, .null), (178, .aload_n 1, 0, 0, .null)] (pc' := 179) (ls' := [some (.ref 1313), some (.ref x1), some (.int x2), some (.int x3), some (.int x4)]) (st' := [.ref x1, .ref 1313]) (by decide +kernel) rfl ?_
    refine b_gM (q := 149) (ci := 1) (k := 1) (w := .null) (by decide +kernel) (fk_M1_1 hx1) (fun c54 => b_guard (fun hc54 => ?_)) ?_
    · refine b_run [(182, .iload_n 2, 0, 0, .null), (183, .iload_n 3, 0, 0, .null), (184, .iload 4, 0, 0, .null)] (pc' := 186) (ls' := [some (.ref 1313), some (.ref x1), some (.int x2), some (.int x3), some (.int x4)]) (st' := [.int x4, .int x3, .int x2, .ref c54, .ref 1313]) (by decide +kernel) rfl ?_
      refine b_callV 70 5 [.ref 1313, .ref c54, .int x2, .int x3, .int x4] (rest := []) (by decide +kernel) rfl rfl rfl (go_O rfl (by decide +kernel) (by decide +kernel : isO 1313 3 = true)) rfl (hg70 c54 x2 x3 x4 σ hc54) (by omega) (fun σ55 => ?_)
      refine b_run [(189, .aload_n 0, 0, 0, .null), (190, .aload_n 1, 0, 0, .null)] (pc' := 191) (ls' := [some (.ref 1313), some (.ref x1), some (.int x2), some (.int x3), some (.int x4)]) (st' := [.ref x1, .ref 1313]) (by decide +kernel) rfl ?_
      refine b_gM (q := 159) (ci := 1) (k := 2) (w := .null) (by decide +kernel) (fk_M1_2 hx1) (fun c57 => b_guard (fun hc57 => ?_)) ?_
      · refine b_run [(194, .iload_n 2, 0, 0, .null), (195, .iload_n 3, 0, 0, .null), (196, .iload 4, 0, 0, .null)] (pc' := 198) (ls' := [some (.ref 1313), some (.ref x1), some (.int x2), some (.int x3), some (.int x4)]) (st' := [.int x4, .int x3, .int x2, .ref c57, .ref 1313]) (by decide +kernel) rfl ?_
        refine b_callV 70 5 [.ref 1313, .ref c57, .int x2, .int x3, .int x4] (rest := []) (by decide +kernel) rfl rfl rfl (go_O rfl (by decide +kernel) (by decide +kernel : isO 1313 3 = true)) rfl (hg70 c57 x2 x3 x4 σ55 hc57) (by omega) (fun σ58 => ?_)
        refine b_run [(201, .aload_n 1, 0, 0, .null), (202, .aload_n 0, 0, 0, .null), (203, .aload_n 1, 0, 0, .null)] (pc' := 204) (ls' := [some (.ref 1313), some (.ref x1), some (.int x2), some (.int x3), some (.int x4)]) (st' := [.ref x1, .ref 1313, .ref x1]) (by decide +kernel) rfl ?_
        refine b_gI (q := 146) (ci := 1) (k := 0) (w := .null) (by decide +kernel) (fk_I1_0 hx1) (fun c60 => ?_)
        refine b_run [(207, .aload_n 1, 0, 0, .null)] (pc' := 208) (ls' := [some (.ref 1313), some (.ref x1), some (.int x2), some (.int x3), some (.int x4)]) (st' := [.ref x1, .int c60, .ref 1313, .ref x1]) (by decide +kernel) rfl ?_
        refine b_gM (q := 149) (ci := 1) (k := 1) (w := .null) (by decide +kernel) (fk_M1_1 hx1) (fun c61 => b_guard (fun hc61 => ?_)) ?_
        · refine b_run [(211, .aload_n 1, 0, 0, .null)] (pc' := 212) (ls' := [some (.ref 1313), some (.ref x1), some (.int x2), some (.int x3), some (.int x4)]) (st' := [.ref x1, .ref c61, .int c60, .ref 1313, .ref x1]) (by decide +kernel) rfl ?_
          refine b_gM (q := 159) (ci := 1) (k := 2) (w := .null) (by decide +kernel) (fk_M1_2 hx1) (fun c62 => b_guard (fun hc62 => ?_)) ?_
          · refine b_callI 74 4 [.ref 1313, .int c60, .ref c61, .ref c62] (rest := [.ref x1]) (by decide +kernel) rfl rfl rfl (go_O rfl (by decide +kernel) (by decide +kernel : isO 1313 3 = true)) rfl (s74 hv F c60 c61 c62 σ58 hc61 hc62) (by omega) (fun c64 σ63 => ?_)
            refine b_izT (c := .eq) (o := 7) (t := 225) (y := 0) (w := .null) (by decide +kernel) cmp_eq (fun _ => ?_) (fun _ => ?_)
            · refine b_run [(225, .lconst 0, 0, 0, .null)] (pc' := 226) (ls' := [some (.ref 1313), some (.ref x1), some (.int x2), some (.int x3), some (.int x4)]) (st' := [.long 0, .ref x1]) (by decide +kernel) rfl ?_
              refine b_pJ (q := 102) (ci := 1) (k := 8) (w := .null) (by decide +kernel) (fk_J1_8 hx1) (fit_J _) (fun σ65 => ?_)
              refine b_run [(229, .goto 3, 232, 0, .null)] (pc' := 232) (ls' := [some (.ref 1313), some (.ref x1), some (.int x2), some (.int x3), some (.int x4)]) (st' := []) (by decide +kernel) rfl ?_
              exact b_ret0 (i := (.return_, 0, 0, .null)) (by decide +kernel) rfl rfl
            · refine b_run [(221, .lconst 1, 0, 0, .null), (222, .goto 4, 226, 0, .null)] (pc' := 226) (ls' := [some (.ref 1313), some (.ref x1), some (.int x2), some (.int x3), some (.int x4)]) (st' := [.long 1, .ref x1]) (by decide +kernel) rfl ?_
              refine b_pJ (q := 102) (ci := 1) (k := 8) (w := .null) (by decide +kernel) (fk_J1_8 hx1) (fit_J _) (fun σ66 => ?_)
              refine b_run [(229, .goto 3, 232, 0, .null)] (pc' := 232) (ls' := [some (.ref 1313), some (.ref x1), some (.int x2), some (.int x3), some (.int x4)]) (st' := []) (by decide +kernel) rfl ?_
              exact b_ret0 (i := (.return_, 0, 0, .null)) (by decide +kernel) rfl rfl
          · exact b_none
        · refine b_run [(211, .aload_n 1, 0, 0, .null)] (pc' := 212) (ls' := [some (.ref 1313), some (.ref x1), some (.int x2), some (.int x3), some (.int x4)]) (st' := [.ref x1, .null, .int c60, .ref 1313, .ref x1]) (by decide +kernel) rfl ?_
          refine b_gM (q := 159) (ci := 1) (k := 2) (w := .null) (by decide +kernel) (fk_M1_2 hx1) (fun c67 => b_guard (fun hc67 => ?_)) ?_
          · exact b_none
          · exact b_none
      · refine b_run [(194, .iload_n 2, 0, 0, .null), (195, .iload_n 3, 0, 0, .null), (196, .iload 4, 0, 0, .null)] (pc' := 198) (ls' := [some (.ref 1313), some (.ref x1), some (.int x2), some (.int x3), some (.int x4)]) (st' := [.int x4, .int x3, .int x2, .null, .ref 1313]) (by decide +kernel) rfl ?_
        exact b_none
    · refine b_run [(182, .iload_n 2, 0, 0, .null), (183, .iload_n 3, 0, 0, .null), (184, .iload 4, 0, 0, .null)] (pc' := 186) (ls' := [some (.ref 1313), some (.ref x1), some (.int x2), some (.int x3), some (.int x4)]) (st' := [.int x4, .int x3, .int x2, .null, .ref 1313]) (by decide +kernel) rfl ?_
      exact b_none
  refine b_ite (fun e10 => ?_) (fun e10 => ?_)
  · refine b_sw (dl := 223) (lo := 1) (hi' := 11) (offs := #[59, 68, 78, 98, 223, 114, 127, 168, 168, 168, 168]) (t := 59) (y := 0) (w := .null) (by decide +kernel) (swE e10 (by decide +kernel : aSw 9 223 1 11 #[59, 68, 78, 98, 223, 114, 127, 168, 168, 168, 168] 11 = some 177)) ?_
    refine b_run [(177, .aload_n 0, 0, 0, .null), (178, .aload_n 1, 0, 0, .null)] (pc' := 179) (ls' := [some (.ref 1313), some (.ref x1), some (.int x2), some (.int x3), some (.int x4)]) (st' := [.ref x1, .ref 1313]) (by decide +kernel) rfl ?_
    refine b_gM (q := 149) (ci := 1) (k := 1) (w := .null) (by decide +kernel) (fk_M1_1 hx1) (fun c68 => b_guard (fun hc68 => ?_)) ?_
    · refine b_run [(182, .iload_n 2, 0, 0, .null), (183, .iload_n 3, 0, 0, .null), (184, .iload 4, 0, 0, .null)] (pc' := 186) (ls' := [some (.ref 1313), some (.ref x1), some (.int x2), some (.int x3), some (.int x4)]) (st' := [.int x4, .int x3, .int x2, .ref c68, .ref 1313]) (by decide +kernel) rfl ?_
      refine b_callV 70 5 [.ref 1313, .ref c68, .int x2, .int x3, .int x4] (rest := []) (by decide +kernel) rfl rfl rfl (go_O rfl (by decide +kernel) (by decide +kernel : isO 1313 3 = true)) rfl (hg70 c68 x2 x3 x4 σ hc68) (by omega) (fun σ69 => ?_)
      refine b_run [(189, .aload_n 0, 0, 0, .null), (190, .aload_n 1, 0, 0, .null)] (pc' := 191) (ls' := [some (.ref 1313), some (.ref x1), some (.int x2), some (.int x3), some (.int x4)]) (st' := [.ref x1, .ref 1313]) (by decide +kernel) rfl ?_
      refine b_gM (q := 159) (ci := 1) (k := 2) (w := .null) (by decide +kernel) (fk_M1_2 hx1) (fun c71 => b_guard (fun hc71 => ?_)) ?_
      · refine b_run [(194, .iload_n 2, 0, 0, .null), (195, .iload_n 3, 0, 0, .null), (196, .iload 4, 0, 0, .null)] (pc' := 198) (ls' := [some (.ref 1313), some (.ref x1), some (.int x2), some (.int x3), some (.int x4)]) (st' := [.int x4, .int x3, .int x2, .ref c71, .ref 1313]) (by decide +kernel) rfl ?_
        refine b_callV 70 5 [.ref 1313, .ref c71, .int x2, .int x3, .int x4] (rest := []) (by decide +kernel) rfl rfl rfl (go_O rfl (by decide +kernel) (by decide +kernel : isO 1313 3 = true)) rfl (hg70 c71 x2 x3 x4 σ69 hc71) (by omega) (fun σ72 => ?_)
        refine b_run [(201, .aload_n 1, 0, 0, .null), (202, .aload_n 0, 0, 0, .null), (203, .aload_n 1, 0, 0, .null)] (pc' := 204) (ls' := [some (.ref 1313), some (.ref x1), some (.int x2), some (.int x3), some (.int x4)]) (st' := [.ref x1, .ref 1313, .ref x1]) (by decide +kernel) rfl ?_
        refine b_gI (q := 146) (ci := 1) (k := 0) (w := .null) (by decide +kernel) (fk_I1_0 hx1) (fun c74 => ?_)
        refine b_run [(207, .aload_n 1, 0, 0, .null)] (pc' := 208) (ls' := [some (.ref 1313), some (.ref x1), some (.int x2), some (.int x3), some (.int x4)]) (st' := [.ref x1, .int c74, .ref 1313, .ref x1]) (by decide +kernel) rfl ?_
        refine b_gM (q := 149) (ci := 1) (k := 1) (w := .null) (by decide +kernel) (fk_M1_1 hx1) (fun c75 => b_guard (fun hc75 => ?_)) ?_
        · refine b_run [(211, .aload_n 1, 0, 0, .null)] (pc' := 212) (ls' := [some (.ref 1313), some (.ref x1), some (.int x2), some (.int x3), some (.int x4)]) (st' := [.ref x1, .ref c75, .int c74, .ref 1313, .ref x1]) (by decide +kernel) rfl ?_
          refine b_gM (q := 159) (ci := 1) (k := 2) (w := .null) (by decide +kernel) (fk_M1_2 hx1) (fun c76 => b_guard (fun hc76 => ?_)) ?_
          · refine b_callI 74 4 [.ref 1313, .int c74, .ref c75, .ref c76] (rest := [.ref x1]) (by decide +kernel) rfl rfl rfl (go_O rfl (by decide +kernel) (by decide +kernel : isO 1313 3 = true)) rfl (s74 hv F c74 c75 c76 σ72 hc75 hc76) (by omega) (fun c78 σ77 => ?_)
            refine b_izT (c := .eq) (o := 7) (t := 225) (y := 0) (w := .null) (by decide +kernel) cmp_eq (fun _ => ?_) (fun _ => ?_)
            · refine b_run [(225, .lconst 0, 0, 0, .null)] (pc' := 226) (ls' := [some (.ref 1313), some (.ref x1), some (.int x2), some (.int x3), some (.int x4)]) (st' := [.long 0, .ref x1]) (by decide +kernel) rfl ?_
              refine b_pJ (q := 102) (ci := 1) (k := 8) (w := .null) (by decide +kernel) (fk_J1_8 hx1) (fit_J _) (fun σ79 => ?_)
              refine b_run [(229, .goto 3, 232, 0, .null)] (pc' := 232) (ls' := [some (.ref 1313), some (.ref x1), some (.int x2), some (.int x3), some (.int x4)]) (st' := []) (by decide +kernel) rfl ?_
              exact b_ret0 (i := (.return_, 0, 0, .null)) (by decide +kernel) rfl rfl
            · refine b_run [(221, .lconst 1, 0, 0, .null), (222, .goto 4, 226, 0, .null)] (pc' := 226) (ls' := [some (.ref 1313), some (.ref x1), some (.int x2), some (.int x3), some (.int x4)]) (st' := [.long 1, .ref x1]) (by decide +kernel) rfl ?_
              refine b_pJ (q := 102) (ci := 1) (k := 8) (w := .null) (by decide +kernel) (fk_J1_8 hx1) (fit_J _) (fun σ80 => ?_)
              refine b_run [(229, .goto 3, 232, 0, .null)] (pc' := 232) (ls' := [some (.ref 1313), some (.ref x1), some (.int x2), some (.int x3), some (.int x4)]) (st' := []) (by decide +kernel) rfl ?_
              exact b_ret0 (i := (.return_, 0, 0, .null)) (by decide +kernel) rfl rfl
          · exact b_none
        · refine b_run [(211, .aload_n 1, 0, 0, .null)] (pc' := 212) (ls' := [some (.ref 1313), some (.ref x1), some (.int x2), some (.int x3), some (.int x4)]) (st' := [.ref x1, .null, .int c74, .ref 1313, .ref x1]) (by decide +kernel) rfl ?_
          refine b_gM (q := 159) (ci := 1) (k := 2) (w := .null) (by decide +kernel) (fk_M1_2 hx1) (fun c81 => b_guard (fun hc81 => ?_)) ?_
          · exact b_none
          · exact b_none
      · refine b_run [(194, .iload_n 2, 0, 0, .null), (195, .iload_n 3, 0, 0, .null), (196, .iload 4, 0, 0, .null)] (pc' := 198) (ls' := [some (.ref 1313), some (.ref x1), some (.int x2), some (.int x3), some (.int x4)]) (st' := [.int x4, .int x3, .int x2, .null, .ref 1313]) (by decide +kernel) rfl ?_
        exact b_none
    · refine b_run [(182, .iload_n 2, 0, 0, .null), (183, .iload_n 3, 0, 0, .null), (184, .iload 4, 0, 0, .null)] (pc' := 186) (ls' := [some (.ref 1313), some (.ref x1), some (.int x2), some (.int x3), some (.int x4)]) (st' := [.int x4, .int x3, .int x2, .null, .ref 1313]) (by decide +kernel) rfl ?_
      exact b_none
  refine b_sw (dl := 223) (lo := 1) (hi' := 11) (offs := #[59, 68, 78, 98, 223, 114, 127, 168, 168, 168, 168]) (t := 59) (y := 0) (w := .null) (by decide +kernel) (swD (pc' := 232) (by have q0 : (c1 : Int32).toInt ≠ 1 := swN e0; have q1 : (c1 : Int32).toInt ≠ 2 := swN e1; have q2 : (c1 : Int32).toInt ≠ 3 := swN e2; have q3 : (c1 : Int32).toInt ≠ 4 := swN e3; have q4 : (c1 : Int32).toInt ≠ 5 := swN e4; have q5 : (c1 : Int32).toInt ≠ 6 := swN e5; have q6 : (c1 : Int32).toInt ≠ 7 := swN e6; have q7 : (c1 : Int32).toInt ≠ 8 := swN e7; have q8 : (c1 : Int32).toInt ≠ 9 := swN e8; have q9 : (c1 : Int32).toInt ≠ 10 := swN e9; have q10 : (c1 : Int32).toInt ≠ 11 := swN e10; omega) rfl) ?_
  exact b_ret0 (i := (.return_, 0, 0, .null)) (by decide +kernel) rfl rfl
def r70 (F : Nat) : Nat → Nat → Int32 → Int32 → Int32 → St → Rs
  | 0, _, _, _, _, _ => none
  | e + 1, x1, x2, x3, x4, σ => f70 F (r70 F e) x1 x2 x3 x4 σ
theorem t70 {sc : aSc} (hv : vOk sc) (F : Nat) : ∀ (e : Nat) (x1 : Nat) (x2 : Int32) (x3 : Int32) (x4 : Int32) (σ : St) (_ : isO x1 1 = true), bEx sc (20 + 5 * e) 70 0 [some (.ref 1313), some (.ref x1), some (.int x2), some (.int x3), some (.int x4)] [] σ (r70 F e x1 x2 x3 x4 σ) := by
  intro e
  induction e with
  | zero => intros; exact b_none
  | succ e ih =>
    intro x1 x2 x3 x4 σ hx1
    rw [r70.eq_2]
    exact b_up (by omega) (s70 hv F (20 + 5 * e) (by omega) (r70 F e) ih x1 x2 x3 x4 σ hx1)
/-- TreeStore$PathWalker.nodesOf(LTreeStore$Part;I)I -/
def f62 (F : Nat) (x1 : Nat) (x2 : Int32) (σ : St) : Rs := cI (f63 F (r70 F 40) x1 x2 σ) fun c2 σ1 => oI c2 σ1
theorem s62 {sc : aSc} (hv : vOk sc) (F : Nat) (x1 : Nat) (x2 : Int32) (σ : St) (hx1 : isO x1 1 = true) : bEx sc 225 62 0 [some (.ref 1313), some (.ref x1), some (.int x2)] [] σ (f62 F x1 x2 σ) := by
  unfold f62
  refine b_run [(0, .aload_n 0, 0, 0, .null), (1, .aload_n 1, 0, 0, .null), (2, .iload_n 2, 0, 0, .null)] (pc' := 3) (ls' := [some (.ref 1313), some (.ref x1), some (.int x2)]) (st' := [.int x2, .ref x1, .ref 1313]) (by decide +kernel) rfl ?_
  refine b_callI 63 3 [.ref 1313, .ref x1, .int x2] (rest := []) (by decide +kernel) rfl rfl rfl (go_O rfl (by decide +kernel) (by decide +kernel : isO 1313 3 = true)) rfl (s63 hv F _ (by decide) (r70 F 40) (t70 hv F 40) x1 x2 σ hx1) (by decide) (fun c2 σ1 => ?_)
  exact b_ret (i := (.ireturn, 0, 0, .null)) (by decide +kernel) rfl rfl (fit_I _)
/-- TreeStore.query(I)I -/
def f30 (F : Nat) (x1 : Int32) (σ : St) : Rs := cI (f128 F 1003 x1 σ) fun c2 σ1 => 
    if c2 = 0 then oT 12 σ1
    else cR (f41 F σ1) fun c4 σ3 => 
    if isO c4 1 = true then 
    cI (f62 F c4 x1 σ3) fun c6 σ5 => 
    lt (uI σ5 1000 7 c6) fun σ7 => cV (f91 F 1001 σ7) fun σ8 => lt (σ8.1 1000 7) fun c10 => cI (f256 F c10 σ8) fun c12 σ11 => oI c12 σ11 else none
theorem s30 {sc : aSc} (hv : vOk sc) (F : Nat) (x1 : Int32) (σ : St) : bEx sc 226 30 0 [some (.ref 1000), some (.int x1), none] [] σ (f30 F x1 σ) := by
  unfold f30
  refine b_run [(0, .aload_n 0, 0, 0, .null)] (pc' := 1) (ls' := [some (.ref 1000), some (.int x1), none]) (st' := [.ref 1000]) (by decide +kernel) rfl ?_
  refine b_getC (b := 1003) (q := 21) (ci := 0) (k := 1) (w := .null) (by decide +kernel) (by decide +kernel) ?_
  refine b_run [(4, .iload_n 1, 0, 0, .null)] (pc' := 5) (ls' := [some (.ref 1000), some (.int x1), none]) (st' := [.int x1, .ref 1003]) (by decide +kernel) rfl ?_
  refine b_callI 128 2 [.ref 1003, .int x1] (rest := []) (by decide +kernel) rfl rfl rfl (go_O rfl (by decide +kernel) (by decide +kernel : isO 1003 8 = true)) rfl (s128 hv F 1003 x1 σ (by decide +kernel : isO 1003 8 = true)) (by decide) (fun c2 σ1 => ?_)
  refine b_izF (c := .ne) (o := 13) (t := 21) (y := 0) (w := .null) (by decide +kernel) cmp_ne (fun _ => ?_) (fun _ => ?_)
  · exact b_thr (i := (.new 104, 12, 1, .null)) (by decide +kernel) rfl rfl rfl
  · refine b_run [(21, .aload_n 0, 0, 0, .null)] (pc' := 22) (ls' := [some (.ref 1000), some (.int x1), none]) (st' := [.ref 1000]) (by decide +kernel) rfl ?_
    refine b_getC (b := 1030) (q := 42) (ci := 0) (k := 4) (w := .null) (by decide +kernel) (by decide +kernel) ?_
    refine b_callR 41 1 [.ref 1030] (rest := []) (by decide +kernel) rfl rfl rfl (go_O rfl (by decide +kernel) (by decide +kernel : isO 1030 2 = true)) rfl (s41 hv F σ1) (by decide) (fun c4 σ3 => b_guard (fun hc4 => ?_))
    refine b_run [(28, .astore_n 2, 0, 0, .null), (29, .aload_n 0, 0, 0, .null), (30, .aload_n 0, 0, 0, .null)] (pc' := 31) (ls' := [some (.ref 1000), some (.int x1), some (.ref c4)]) (st' := [.ref 1000, .ref 1000]) (by decide +kernel) rfl ?_
    refine b_getC (b := 1313) (q := 49) (ci := 0) (k := 5) (w := .null) (by decide +kernel) (by decide +kernel) ?_
    refine b_run [(34, .aload_n 2, 0, 0, .null), (35, .iload_n 1, 0, 0, .null)] (pc' := 36) (ls' := [some (.ref 1000), some (.int x1), some (.ref c4)]) (st' := [.int x1, .ref c4, .ref 1313, .ref 1000]) (by decide +kernel) rfl ?_
    refine b_callI 62 3 [.ref 1313, .ref c4, .int x1] (rest := [.ref 1000]) (by decide +kernel) rfl rfl rfl (go_O rfl (by decide +kernel) (by decide +kernel : isO 1313 3 = true)) rfl (s62 hv F c4 x1 σ3 hc4) (by decide) (fun c6 σ5 => ?_)
    refine b_pI (q := 62) (ci := 0) (k := 7) (w := .null) (by decide +kernel) (by decide +kernel) (fit_I _) (fun σ7 => ?_)
    refine b_run [(42, .aload_n 0, 0, 0, .null)] (pc' := 43) (ls' := [some (.ref 1000), some (.int x1), some (.ref c4)]) (st' := [.ref 1000]) (by decide +kernel) rfl ?_
    refine b_getC (b := 1001) (q := 14) (ci := 0) (k := 0) (w := .null) (by decide +kernel) (by decide +kernel) ?_
    refine b_callV 91 1 [.ref 1001] (rest := []) (by decide +kernel) rfl rfl rfl (go_O rfl (by decide +kernel) (by decide +kernel : isO 1001 5 = true)) rfl (s91 hv F 1001 σ7 (by decide +kernel : isO 1001 5 = true)) (by decide) (fun σ8 => ?_)
    refine b_run [(49, .aload_n 0, 0, 0, .null)] (pc' := 50) (ls' := [some (.ref 1000), some (.int x1), some (.ref c4)]) (st' := [.ref 1000]) (by decide +kernel) rfl ?_
    refine b_gI (q := 62) (ci := 0) (k := 7) (w := .null) (by decide +kernel) (by decide +kernel) (fun c10 => ?_)
    refine b_callI 256 1 [.int c10] (rest := []) (by decide +kernel) rfl rfl rfl (go_S rfl (by decide +kernel)) rfl (s256 hv F c10 σ8) (by decide) (fun c12 σ11 => ?_)
    exact b_ret (i := (.ireturn, 0, 0, .null)) (by decide +kernel) rfl rfl (fit_I _)
/-- TreeStoreLaw.query(LTreeStore;I[J)I -/
def f7 (F : Nat) (x1 : Int32) (σ : St) : Rs := cHI (f30 F x1 σ) (fun c2 σ1 => if inB 0 1 then lt (uJ σ1 1361 (0 : Int32).toNatClampNeg ((c2 : Int32).toInt64)) fun σ3 => oI 0 σ3 else none)
    (fun e τ => if e = 12 then (fun σ5 => oI 1 σ5) τ else if e = 10 then (fun σ7 => oI 2 σ7) τ else none)
theorem s7 {sc : aSc} (hv : vOk sc) (F : Nat) (x1 : Int32) (σ : St) : bEx sc 227 7 0 [some (.ref 1000), some (.int x1), some (.ref 1361), none] [] σ (f7 F x1 σ) := by
  unfold f7
  refine b_run [(0, .aload_n 2, 0, 0, .null), (1, .iconst 0, 0, 0, .null), (2, .aload_n 0, 0, 0, .null), (3, .iload_n 1, 0, 0, .null)] (pc' := 4) (ls' := [some (.ref 1000), some (.int x1), some (.ref 1361), none]) (st' := [.int x1, .ref 1000, .int 0, .ref 1361]) (by decide +kernel) rfl ?_
  refine b_callHI 30 2 [.ref 1000, .int x1] (rest := [.int 0, .ref 1361]) (by decide +kernel) rfl rfl rfl rfl (go_O rfl (by decide +kernel) (by decide +kernel : isO 1000 0 = true)) rfl (s30 hv F x1 σ) (by decide) (fun c2 σ1 => ?_) ?_
  · refine b_run [(7, .i2l, 0, 0, .null)] (pc' := 8) (ls' := [some (.ref 1000), some (.int x1), some (.ref 1361), none]) (st' := [.long ((c2 : Int32).toInt64), .int 0, .ref 1361]) (by decide +kernel) rfl ?_
    refine b_guard (fun hb => ?_)
    refine b_sL (ci := 0) (y := 0) (w := .null) (by decide +kernel) (by decide +kernel) hb (fun σ3 => ?_)
    refine b_run [(9, .goto 9, 18, 0, .null), (18, .iconst 0, 0, 0, .null)] (pc' := 19) (ls' := [some (.ref 1000), some (.int x1), some (.ref 1361), none]) (st' := [.int 0]) (by decide +kernel) rfl ?_
    exact b_ret (i := (.ireturn, 0, 0, .null)) (by decide +kernel) rfl rfl (fit_I _)
  refine hd_cons (by decide) (fun e4 σ5 => ?_) ?_
  · refine b_run [(12, .astore_n 3, 0, 0, .null), (13, .iconst 1, 0, 0, .null)] (pc' := 14) (ls' := [some (.ref 1000), some (.int x1), some (.ref 1361), some (.ref e4)]) (st' := [.int 1]) (by decide +kernel) rfl ?_
    exact b_ret (i := (.ireturn, 0, 0, .null)) (by decide +kernel) rfl rfl (fit_I _)
  refine hd_cons (by decide) (fun e6 σ7 => ?_) ?_
  · refine b_run [(15, .astore_n 3, 0, 0, .null), (16, .iconst 2, 0, 0, .null)] (pc' := 17) (ls' := [some (.ref 1000), some (.int x1), some (.ref 1361), some (.ref e6)]) (st' := [.int 2]) (by decide +kernel) rfl ?_
    exact b_ret (i := (.ireturn, 0, 0, .null)) (by decide +kernel) rfl rfl (fit_I _)
  exact hd_nil
def f32_30 (F : Nat) (k4 : Int32 → Int32 → St → Rs) (y2 : Int32) (y3 : Int32) (σ : St) : Rs := k4 y2 (y3 + 1) σ
theorem s32_30 {sc : aSc} (hv : vOk sc) (F : Nat) (k4 : Int32 → Int32 → St → Rs) (hk4 : ∀ y2 y3 σ, bEx sc 1 32 4 [some (.ref 1000), none, some (.int y2), some (.int y3)] [] σ (k4 y2 y3 σ)) (y2 : Int32) (y3 : Int32) (σ : St) : bEx sc 1 32 30 [some (.ref 1000), none, some (.int y2), some (.int y3)] [] σ (f32_30 F k4 y2 y3 σ) := by
  unfold f32_30
  refine b_run [(30, .iinc 3 1, 0, 0, .null), (33, .goto (-29), 4, 0, .null)] (pc' := 4) (ls' := [some (.ref 1000), none, some (.int y2), some (.int (y3 + 1))]) (st' := []) (by decide +kernel) rfl ?_
  exact b_wk (wS (wN (wS (wS w0)))) (hk4 y2 (y3 + 1) σ)
def f32_4 (F : Nat) : Nat → Int32 → Int32 → St → Rs
  | 0, _, _, _ => none
  | n + 1, y2, y3, σ => if y3 < 30 then 
    lt (σ.1 1000 7) fun c1 => 
    cI (f31 F c1 y3 σ) fun c3 σ2 => 
    if c3 = 0 then f32_30 F (f32_4 F n) y2 y3 σ2
    else if y2 = 0 then oI y3 σ2
    else f32_30 F (f32_4 F n) (y2 + Int32.ofInt (-1)) y3 σ2
    else oT 12 σ
theorem s32_4 {sc : aSc} (hv : vOk sc) (F : Nat) : ∀ (n : Nat) (y2 : Int32) (y3 : Int32) (σ : St), bEx sc 1 32 4 [some (.ref 1000), none, some (.int y2), some (.int y3)] [] σ (f32_4 F n y2 y3 σ) := by
  intro n
  induction n with
  | zero => intro y2 y3 σ; exact b_none
  | succ n ih =>
    intro y2 y3 σ
    rw [f32_4.eq_2]
    refine b_run [(4, .iload_n 3, 0, 0, .null), (5, .bipush 30, 0, 0, .null)] (pc' := 7) (ls' := [some (.ref 1000), none, some (.int y2), some (.int y3)]) (st' := [.int 30, .int y3]) (by decide +kernel) rfl ?_
    refine b_icF (c := .ge) (o := 29) (t := 36) (y := 0) (w := .null) (by decide +kernel) cmp_ge (fun _ => ?_) (fun _ => ?_)
    · refine b_run [(10, .aload_n 0, 0, 0, .null)] (pc' := 11) (ls' := [some (.ref 1000), none, some (.int y2), some (.int y3)]) (st' := [.ref 1000]) (by decide +kernel) rfl ?_
      refine b_gI (q := 62) (ci := 0) (k := 7) (w := .null) (by decide +kernel) (by decide +kernel) (fun c1 => ?_)
      refine b_run [(14, .iload_n 3, 0, 0, .null)] (pc' := 15) (ls' := [some (.ref 1000), none, some (.int y2), some (.int y3)]) (st' := [.int y3, .int c1]) (by decide +kernel) rfl ?_
      refine b_callI 31 2 [.int c1, .int y3] (rest := []) (by decide +kernel) rfl rfl rfl (go_S rfl (by decide +kernel)) rfl (s31 hv F c1 y3 σ) (by decide) (fun c3 σ2 => ?_)
      refine b_izT (c := .eq) (o := 12) (t := 30) (y := 0) (w := .null) (by decide +kernel) cmp_eq (fun _ => ?_) (fun _ => ?_)
      · exact b_wk (wS (wN (wS (wS w0)))) (s32_30 hv F (f32_4 F n) ih y2 y3 σ2)
      · refine b_run [(21, .iload_n 2, 0, 0, .null)] (pc' := 22) (ls' := [some (.ref 1000), none, some (.int y2), some (.int y3)]) (st' := [.int y2]) (by decide +kernel) rfl ?_
        refine b_izF (c := .ne) (o := 5) (t := 27) (y := 0) (w := .null) (by decide +kernel) cmp_ne (fun _ => ?_) (fun _ => ?_)
        · refine b_run [(25, .iload_n 3, 0, 0, .null)] (pc' := 26) (ls' := [some (.ref 1000), none, some (.int y2), some (.int y3)]) (st' := [.int y3]) (by decide +kernel) rfl ?_
          exact b_ret (i := (.ireturn, 0, 0, .null)) (by decide +kernel) rfl rfl (fit_I _)
        · refine b_run [(27, .iinc 2 (-1), 0, 0, .null)] (pc' := 30) (ls' := [some (.ref 1000), none, some (.int (y2 + Int32.ofInt (-1))), some (.int y3)]) (st' := []) (by decide +kernel) rfl ?_
          exact b_wk (wS (wN (wS (wS w0)))) (s32_30 hv F (f32_4 F n) ih (y2 + Int32.ofInt (-1)) y3 σ2)
    · exact b_thr (i := (.new 104, 12, 1, .null)) (by decide +kernel) rfl rfl rfl
/-- TreeStore.result(I)I -/
def f32 (F : Nat) (x1 : Int32) (σ : St) : Rs := f32_4 F F x1 0 σ
theorem s32 {sc : aSc} (hv : vOk sc) (F : Nat) (x1 : Int32) (σ : St) : bEx sc 1 32 0 [some (.ref 1000), some (.int x1), none, none] [] σ (f32 F x1 σ) := by
  unfold f32
  refine b_run [(0, .iload_n 1, 0, 0, .null), (1, .istore_n 2, 0, 0, .null), (2, .iconst 0, 0, 0, .null), (3, .istore_n 3, 0, 0, .null)] (pc' := 4) (ls' := [some (.ref 1000), some (.int x1), some (.int x1), some (.int 0)]) (st' := []) (by decide +kernel) rfl ?_
  exact b_wk (wS (wN (wS (wS w0)))) (s32_4 hv F F x1 0 σ)
/-- TreeStoreLaw.result(LTreeStore;I[J)I -/
def f8 (F : Nat) (x1 : Int32) (σ : St) : Rs := cHI (f32 F x1 σ) (fun c2 σ1 => if inB 0 1 then lt (uJ σ1 1361 (0 : Int32).toNatClampNeg ((c2 : Int32).toInt64)) fun σ3 => oI 0 σ3 else none)
    (fun e τ => if e = 12 then (fun σ5 => oI 1 σ5) τ else none)
theorem s8 {sc : aSc} (hv : vOk sc) (F : Nat) (x1 : Int32) (σ : St) : bEx sc 2 8 0 [some (.ref 1000), some (.int x1), some (.ref 1361), none] [] σ (f8 F x1 σ) := by
  unfold f8
  refine b_run [(0, .aload_n 2, 0, 0, .null), (1, .iconst 0, 0, 0, .null), (2, .aload_n 0, 0, 0, .null), (3, .iload_n 1, 0, 0, .null)] (pc' := 4) (ls' := [some (.ref 1000), some (.int x1), some (.ref 1361), none]) (st' := [.int x1, .ref 1000, .int 0, .ref 1361]) (by decide +kernel) rfl ?_
  refine b_callHI 32 2 [.ref 1000, .int x1] (rest := [.int 0, .ref 1361]) (by decide +kernel) rfl rfl rfl rfl (go_O rfl (by decide +kernel) (by decide +kernel : isO 1000 0 = true)) rfl (s32 hv F x1 σ) (by decide) (fun c2 σ1 => ?_) ?_
  · refine b_run [(7, .i2l, 0, 0, .null)] (pc' := 8) (ls' := [some (.ref 1000), some (.int x1), some (.ref 1361), none]) (st' := [.long ((c2 : Int32).toInt64), .int 0, .ref 1361]) (by decide +kernel) rfl ?_
    refine b_guard (fun hb => ?_)
    refine b_sL (ci := 0) (y := 0) (w := .null) (by decide +kernel) (by decide +kernel) hb (fun σ3 => ?_)
    refine b_run [(9, .goto 6, 15, 0, .null), (15, .iconst 0, 0, 0, .null)] (pc' := 16) (ls' := [some (.ref 1000), some (.int x1), some (.ref 1361), none]) (st' := [.int 0]) (by decide +kernel) rfl ?_
    exact b_ret (i := (.ireturn, 0, 0, .null)) (by decide +kernel) rfl rfl (fit_I _)
  refine hd_cons (by decide) (fun e4 σ5 => ?_) ?_
  · refine b_run [(12, .astore_n 3, 0, 0, .null), (13, .iconst 1, 0, 0, .null)] (pc' := 14) (ls' := [some (.ref 1000), some (.int x1), some (.ref 1361), some (.ref e4)]) (st' := [.int 1]) (by decide +kernel) rfl ?_
    exact b_ret (i := (.ireturn, 0, 0, .null)) (by decide +kernel) rfl rfl (fit_I _)
  exact hd_nil
/-- TreeStore.byteAt(JI)I -/
def f11 (F : Nat) (x0 : Int64) (x2 : Int32) (σ : St) : Rs := oI (((((x0 : Int64).toUInt64 >>> ((x2 : Int32).toInt64.toUInt64 &&& Int64.toUInt64 63)).toInt64 : Int64).toInt32) &&& 255) σ
theorem s11 {sc : aSc} (hv : vOk sc) (F : Nat) (x0 : Int64) (x2 : Int32) (σ : St) : bEx sc 0 11 0 [some (.long x0), none, some (.int x2)] [] σ (f11 F x0 x2 σ) := by
  unfold f11
  refine b_run [(0, .lload_n 0, 0, 0, .null), (1, .iload_n 2, 0, 0, .null), (2, .lushr, 0, 0, .null), (3, .l2i, 0, 0, .null), (4, .sipush 255, 0, 0, .null), (7, .iand, 0, 0, .null)] (pc' := 8) (ls' := [some (.long x0), none, some (.int x2)]) (st' := [.int (((((x0 : Int64).toUInt64 >>> ((x2 : Int32).toInt64.toUInt64 &&& Int64.toUInt64 63)).toInt64 : Int64).toInt32) &&& 255)]) (by decide +kernel) rfl ?_
  exact b_ret (i := (.ireturn, 0, 0, .null)) (by decide +kernel) rfl rfl (fit_I _)
/-- TreeStore.isCharacter(I)Z -/
def f12 (F : Nat) (x0 : Int32) (σ : St) : Rs := if x0 = 10 then oI 1 σ
    else if x0 < 32 then oI 0 σ
    else if 126 < x0 then oI 0 σ
    else oI 1 σ
theorem s12 {sc : aSc} (hv : vOk sc) (F : Nat) (x0 : Int32) (σ : St) : bEx sc 0 12 0 [some (.int x0)] [] σ (f12 F x0 σ) := by
  unfold f12
  refine b_run [(0, .iload_n 0, 0, 0, .null), (1, .bipush 10, 0, 0, .null)] (pc' := 3) (ls' := [some (.int x0)]) (st' := [.int 10, .int x0]) (by decide +kernel) rfl ?_
  refine b_icT (c := .eq) (o := 15) (t := 18) (y := 0) (w := .null) (by decide +kernel) cmp_eq (fun _ => ?_) (fun _ => ?_)
  · refine b_run [(18, .iconst 1, 0, 0, .null), (19, .goto 4, 23, 0, .null)] (pc' := 23) (ls' := [some (.int x0)]) (st' := [.int 1]) (by decide +kernel) rfl ?_
    exact b_ret (i := (.ireturn, 0, 0, .null)) (by decide +kernel) rfl rfl (by decide +kernel)
  · refine b_run [(6, .iload_n 0, 0, 0, .null), (7, .bipush 32, 0, 0, .null)] (pc' := 9) (ls' := [some (.int x0)]) (st' := [.int 32, .int x0]) (by decide +kernel) rfl ?_
    refine b_icT (c := .lt) (o := 13) (t := 22) (y := 0) (w := .null) (by decide +kernel) cmp_lt (fun _ => ?_) (fun _ => ?_)
    · refine b_run [(22, .iconst 0, 0, 0, .null)] (pc' := 23) (ls' := [some (.int x0)]) (st' := [.int 0]) (by decide +kernel) rfl ?_
      exact b_ret (i := (.ireturn, 0, 0, .null)) (by decide +kernel) rfl rfl (by decide +kernel)
    · refine b_run [(12, .iload_n 0, 0, 0, .null), (13, .bipush 126, 0, 0, .null)] (pc' := 15) (ls' := [some (.int x0)]) (st' := [.int 126, .int x0]) (by decide +kernel) rfl ?_
      refine b_icT (c := .gt) (o := 7) (t := 22) (y := 0) (w := .null) (by decide +kernel) cmp_gt (fun _ => ?_) (fun _ => ?_)
      · refine b_run [(22, .iconst 0, 0, 0, .null)] (pc' := 23) (ls' := [some (.int x0)]) (st' := [.int 0]) (by decide +kernel) rfl ?_
        exact b_ret (i := (.ireturn, 0, 0, .null)) (by decide +kernel) rfl rfl (by decide +kernel)
      · refine b_run [(18, .iconst 1, 0, 0, .null), (19, .goto 4, 23, 0, .null)] (pc' := 23) (ls' := [some (.int x0)]) (st' := [.int 1]) (by decide +kernel) rfl ?_
        exact b_ret (i := (.ireturn, 0, 0, .null)) (by decide +kernel) rfl rfl (by decide +kernel)
def f10_97 (F : Nat) (k70 : Int64 → Int32 → St → Rs) (y1 : Int64) (y4 : Int32) (σ : St) : Rs := k70 y1 (y4 + Int32.ofInt (-8)) σ
theorem s10_97 {sc : aSc} (hv : vOk sc) (F : Nat) (k70 : Int64 → Int32 → St → Rs) (hk70 : ∀ y1 y4 σ, bEx sc 2 10 70 [some (.ref 1000), some (.long y1), none, none, some (.int y4), none] [] σ (k70 y1 y4 σ)) (y1 : Int64) (y4 : Int32) (σ : St) : bEx sc 2 10 97 [some (.ref 1000), some (.long y1), none, none, some (.int y4), none] [] σ (f10_97 F k70 y1 y4 σ) := by
  unfold f10_97
  refine b_run [(97, .iinc 4 (-8), 0, 0, .null), (100, .goto (-30), 70, 0, .null)] (pc' := 70) (ls' := [some (.ref 1000), some (.long y1), none, none, some (.int (y4 + Int32.ofInt (-8))), none]) (st' := []) (by decide +kernel) rfl ?_
  exact b_wk (wS (wS (wN (wN (wS (wN w0)))))) (hk70 y1 (y4 + Int32.ofInt (-8)) σ)
def f10_70 (F : Nat) : Nat → Int64 → Int32 → St → Rs
  | 0, _, _, _ => none
  | n + 1, y1, y4, σ => if y4 < 0 then oI 1 σ
    else cI (f11 F y1 y4 σ) fun c4 σ3 => 
    if c4 = 0 then f10_97 F (f10_70 F n) y1 y4 σ3
    else cV (f90 F 1001 c4 σ3) fun σ5 => f10_97 F (f10_70 F n) y1 y4 σ5
theorem s10_70 {sc : aSc} (hv : vOk sc) (F : Nat) : ∀ (n : Nat) (y1 : Int64) (y4 : Int32) (σ : St), bEx sc 2 10 70 [some (.ref 1000), some (.long y1), none, none, some (.int y4), none] [] σ (f10_70 F n y1 y4 σ) := by
  intro n
  induction n with
  | zero => intro y1 y4 σ; exact b_none
  | succ n ih =>
    intro y1 y4 σ
    rw [f10_70.eq_2]
    refine b_run [(70, .iload 4, 0, 0, .null)] (pc' := 72) (ls' := [some (.ref 1000), some (.long y1), none, none, some (.int y4), none]) (st' := [.int y4]) (by decide +kernel) rfl ?_
    refine b_izT (c := .lt) (o := 31) (t := 103) (y := 0) (w := .null) (by decide +kernel) cmp_lt (fun _ => ?_) (fun _ => ?_)
    · refine b_run [(103, .iconst 1, 0, 0, .null)] (pc' := 104) (ls' := [some (.ref 1000), some (.long y1), none, none, some (.int y4), none]) (st' := [.int 1]) (by decide +kernel) rfl ?_
      exact b_ret (i := (.ireturn, 0, 0, .null)) (by decide +kernel) rfl rfl (by decide +kernel)
    · refine b_run [(75, .lload_n 1, 0, 0, .null), (76, .iload 4, 0, 0, .null)] (pc' := 78) (ls' := [some (.ref 1000), some (.long y1), none, none, some (.int y4), none]) (st' := [.int y4, .long y1]) (by decide +kernel) rfl ?_
      refine b_callI 11 2 [.long y1, .int y4] (rest := []) (by decide +kernel) rfl rfl rfl (go_S rfl (by decide +kernel)) rfl (s11 hv F y1 y4 σ) (by decide) (fun c4 σ3 => ?_)
      refine b_run [(81, .istore 5, 0, 0, .null), (83, .iload 5, 0, 0, .null)] (pc' := 85) (ls' := [some (.ref 1000), some (.long y1), none, none, some (.int y4), some (.int c4)]) (st' := [.int c4]) (by decide +kernel) rfl ?_
      refine b_izT (c := .eq) (o := 12) (t := 97) (y := 0) (w := .null) (by decide +kernel) cmp_eq (fun _ => ?_) (fun _ => ?_)
      · exact b_wk (wS (wS (wN (wN (wS (wN w0)))))) (s10_97 hv F (f10_70 F n) ih y1 y4 σ3)
      · refine b_run [(88, .aload_n 0, 0, 0, .null)] (pc' := 89) (ls' := [some (.ref 1000), some (.long y1), none, none, some (.int y4), some (.int c4)]) (st' := [.ref 1000]) (by decide +kernel) rfl ?_
        refine b_getC (b := 1001) (q := 14) (ci := 0) (k := 0) (w := .null) (by decide +kernel) (by decide +kernel) ?_
        refine b_run [(92, .iload 5, 0, 0, .null)] (pc' := 94) (ls' := [some (.ref 1000), some (.long y1), none, none, some (.int y4), some (.int c4)]) (st' := [.int c4, .ref 1001]) (by decide +kernel) rfl ?_
        refine b_callV 90 2 [.ref 1001, .int c4] (rest := []) (by decide +kernel) rfl rfl rfl (go_O rfl (by decide +kernel) (by decide +kernel : isO 1001 5 = true)) rfl (s90 hv F 1001 c4 σ3 (by decide +kernel : isO 1001 5 = true)) (by decide) (fun σ5 => ?_)
        exact b_wk (wS (wS (wN (wN (wS (wN w0)))))) (s10_97 hv F (f10_70 F n) ih y1 y4 σ5)
def f10_45 (F : Nat) (k6 : Int64 → Int32 → Int32 → St → Rs) (y1 : Int64) (y4 : Int32) (z0 : Int32) (z1 : Int32) (σ : St) : Rs := lt (z0 + z1) fun c9 => k6 y1 c9 (y4 + Int32.ofInt (-8)) σ
theorem s10_45 {sc : aSc} (hv : vOk sc) (F : Nat) (k6 : Int64 → Int32 → Int32 → St → Rs) (hk6 : ∀ y1 y3 y4 σ, bEx sc 2 10 6 [some (.ref 1000), some (.long y1), none, some (.int y3), some (.int y4), none] [] σ (k6 y1 y3 y4 σ)) (y1 : Int64) (y4 : Int32) (z0 : Int32) (z1 : Int32) (σ : St) : bEx sc 2 10 45 [some (.ref 1000), some (.long y1), none, none, some (.int y4), none] [.int z1, .int z0] σ (f10_45 F k6 y1 y4 z0 z1 σ) := by
  unfold f10_45
  refine b_run [(45, .iadd, 0, 0, .null), (46, .istore_n 3, 0, 0, .null)] (pc' := 47) (ls' := [some (.ref 1000), some (.long y1), none, some (.int (z0 + z1)), some (.int y4), none]) (st' := []) (by decide +kernel) rfl ?_
  refine b_let (z0 + z1) (L := fun c9 => [some (.ref 1000), some (.long y1), none, some (.int c9), some (.int y4), none]) (S := fun _ => []) (fun c9 => ?_)
  refine b_run [(47, .iinc 4 (-8), 0, 0, .null), (50, .goto (-44), 6, 0, .null)] (pc' := 6) (ls' := [some (.ref 1000), some (.long y1), none, some (.int c9), some (.int (y4 + Int32.ofInt (-8))), none]) (st' := []) (by decide +kernel) rfl ?_
  exact b_wk (wS (wS (wN (wS (wS (wN w0)))))) (hk6 y1 c9 (y4 + Int32.ofInt (-8)) σ)
def f10_34 (F : Nat) (k6 : Int64 → Int32 → Int32 → St → Rs) (y1 : Int64) (y3 : Int32) (y4 : Int32) (y5 : Int32) (σ : St) : Rs := if y5 = 0 then f10_45 F k6 y1 y4 y3 0 σ
    else f10_45 F k6 y1 y4 y3 1 σ
theorem s10_34 {sc : aSc} (hv : vOk sc) (F : Nat) (k6 : Int64 → Int32 → Int32 → St → Rs) (hk6 : ∀ y1 y3 y4 σ, bEx sc 2 10 6 [some (.ref 1000), some (.long y1), none, some (.int y3), some (.int y4), none] [] σ (k6 y1 y3 y4 σ)) (y1 : Int64) (y3 : Int32) (y4 : Int32) (y5 : Int32) (σ : St) : bEx sc 2 10 34 [some (.ref 1000), some (.long y1), none, some (.int y3), some (.int y4), some (.int y5)] [] σ (f10_34 F k6 y1 y3 y4 y5 σ) := by
  unfold f10_34
  refine b_run [(34, .iload_n 3, 0, 0, .null), (35, .iload 5, 0, 0, .null)] (pc' := 37) (ls' := [some (.ref 1000), some (.long y1), none, some (.int y3), some (.int y4), some (.int y5)]) (st' := [.int y5, .int y3]) (by decide +kernel) rfl ?_
  refine b_izT (c := .eq) (o := 7) (t := 44) (y := 0) (w := .null) (by decide +kernel) cmp_eq (fun _ => ?_) (fun _ => ?_)
  · refine b_run [(44, .iconst 0, 0, 0, .null)] (pc' := 45) (ls' := [some (.ref 1000), some (.long y1), none, some (.int y3), some (.int y4), some (.int y5)]) (st' := [.int 0, .int y3]) (by decide +kernel) rfl ?_
    exact b_wk (wS (wS (wN (wN (wS (wN w0)))))) (s10_45 hv F k6 hk6 y1 y4 y3 0 σ)
  · refine b_run [(40, .iconst 1, 0, 0, .null), (41, .goto 4, 45, 0, .null)] (pc' := 45) (ls' := [some (.ref 1000), some (.long y1), none, some (.int y3), some (.int y4), some (.int y5)]) (st' := [.int 1, .int y3]) (by decide +kernel) rfl ?_
    exact b_wk (wS (wS (wN (wN (wS (wN w0)))))) (s10_45 hv F k6 hk6 y1 y4 y3 1 σ)
def f10_6 (F : Nat) : Nat → Int64 → Int32 → Int32 → St → Rs
  | 0, _, _, _, _ => none
  | n + 1, y1, y3, y4, σ => if y4 < 0 then 
    cI (f89 F 1001 y3 σ) fun c2 σ1 => 
    if c2 = 0 then oI 0 σ1
    else f10_70 F F y1 56 σ1
    else cI (f11 F y1 y4 σ) fun c8 σ7 => 
    if c8 = 0 then f10_34 F (f10_6 F n) y1 y3 y4 c8 σ7
    else cI (f12 F c8 σ7) fun c11 σ10 => 
    if c11 = 0 then oI 0 σ10
    else f10_34 F (f10_6 F n) y1 y3 y4 c8 σ10
theorem s10_6 {sc : aSc} (hv : vOk sc) (F : Nat) : ∀ (n : Nat) (y1 : Int64) (y3 : Int32) (y4 : Int32) (σ : St), bEx sc 2 10 6 [some (.ref 1000), some (.long y1), none, some (.int y3), some (.int y4), none] [] σ (f10_6 F n y1 y3 y4 σ) := by
  intro n
  induction n with
  | zero => intro y1 y3 y4 σ; exact b_none
  | succ n ih =>
    intro y1 y3 y4 σ
    rw [f10_6.eq_2]
    refine b_run [(6, .iload 4, 0, 0, .null)] (pc' := 8) (ls' := [some (.ref 1000), some (.long y1), none, some (.int y3), some (.int y4), none]) (st' := [.int y4]) (by decide +kernel) rfl ?_
    refine b_izT (c := .lt) (o := 45) (t := 53) (y := 0) (w := .null) (by decide +kernel) cmp_lt (fun _ => ?_) (fun _ => ?_)
    · refine b_run [(53, .aload_n 0, 0, 0, .null)] (pc' := 54) (ls' := [some (.ref 1000), some (.long y1), none, some (.int y3), some (.int y4), none]) (st' := [.ref 1000]) (by decide +kernel) rfl ?_
      refine b_getC (b := 1001) (q := 14) (ci := 0) (k := 0) (w := .null) (by decide +kernel) (by decide +kernel) ?_
      refine b_run [(57, .iload_n 3, 0, 0, .null)] (pc' := 58) (ls' := [some (.ref 1000), some (.long y1), none, some (.int y3), some (.int y4), none]) (st' := [.int y3, .ref 1001]) (by decide +kernel) rfl ?_
      refine b_callI 89 2 [.ref 1001, .int y3] (rest := []) (by decide +kernel) rfl rfl rfl (go_O rfl (by decide +kernel) (by decide +kernel : isO 1001 5 = true)) rfl (s89 hv F 1001 y3 σ (by decide +kernel : isO 1001 5 = true)) (by decide) (fun c2 σ1 => ?_)
      refine b_izF (c := .ne) (o := 5) (t := 66) (y := 0) (w := .null) (by decide +kernel) cmp_ne (fun _ => ?_) (fun _ => ?_)
      · refine b_run [(64, .iconst 0, 0, 0, .null)] (pc' := 65) (ls' := [some (.ref 1000), some (.long y1), none, some (.int y3), some (.int y4), none]) (st' := [.int 0]) (by decide +kernel) rfl ?_
        exact b_ret (i := (.ireturn, 0, 0, .null)) (by decide +kernel) rfl rfl (by decide +kernel)
      · refine b_run [(66, .bipush 56, 0, 0, .null), (68, .istore 4, 0, 0, .null)] (pc' := 70) (ls' := [some (.ref 1000), some (.long y1), none, some (.int y3), some (.int 56), none]) (st' := []) (by decide +kernel) rfl ?_
        exact b_wk (wS (wS (wN (wN (wS (wN w0)))))) (s10_70 hv F F y1 56 σ1)
    · refine b_run [(11, .lload_n 1, 0, 0, .null), (12, .iload 4, 0, 0, .null)] (pc' := 14) (ls' := [some (.ref 1000), some (.long y1), none, some (.int y3), some (.int y4), none]) (st' := [.int y4, .long y1]) (by decide +kernel) rfl ?_
      refine b_callI 11 2 [.long y1, .int y4] (rest := []) (by decide +kernel) rfl rfl rfl (go_S rfl (by decide +kernel)) rfl (s11 hv F y1 y4 σ) (by decide) (fun c8 σ7 => ?_)
      refine b_run [(17, .istore 5, 0, 0, .null), (19, .iload 5, 0, 0, .null)] (pc' := 21) (ls' := [some (.ref 1000), some (.long y1), none, some (.int y3), some (.int y4), some (.int c8)]) (st' := [.int c8]) (by decide +kernel) rfl ?_
      refine b_izT (c := .eq) (o := 13) (t := 34) (y := 0) (w := .null) (by decide +kernel) cmp_eq (fun _ => ?_) (fun _ => ?_)
      · exact b_wk (wS (wS (wN (wS (wS (wS w0)))))) (s10_34 hv F (f10_6 F n) ih y1 y3 y4 c8 σ7)
      · refine b_run [(24, .iload 5, 0, 0, .null)] (pc' := 26) (ls' := [some (.ref 1000), some (.long y1), none, some (.int y3), some (.int y4), some (.int c8)]) (st' := [.int c8]) (by decide +kernel) rfl ?_
        refine b_callI 12 1 [.int c8] (rest := []) (by decide +kernel) rfl rfl rfl (go_S rfl (by decide +kernel)) rfl (s12 hv F c8 σ7) (by decide) (fun c11 σ10 => ?_)
        refine b_izF (c := .ne) (o := 5) (t := 34) (y := 0) (w := .null) (by decide +kernel) cmp_ne (fun _ => ?_) (fun _ => ?_)
        · refine b_run [(32, .iconst 0, 0, 0, .null)] (pc' := 33) (ls' := [some (.ref 1000), some (.long y1), none, some (.int y3), some (.int y4), some (.int c8)]) (st' := [.int 0]) (by decide +kernel) rfl ?_
          exact b_ret (i := (.ireturn, 0, 0, .null)) (by decide +kernel) rfl rfl (by decide +kernel)
        · exact b_wk (wS (wS (wN (wS (wS (wS w0)))))) (s10_34 hv F (f10_6 F n) ih y1 y3 y4 c8 σ10)
