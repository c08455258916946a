/-- TreeStoreModel.entityLength(I)I -/
def f169 (F : Nat) (x0 : Int32) (σ : St) : Rs := if x0 = 60 then oI 4 σ
    else if x0 = 62 then oI 4 σ
    else if x0 = 38 then oI 5 σ
    else oI 6 σ
theorem s169 {sc : aSc} (hv : vOk sc) (F : Nat) (x0 : Int32) (σ : St) : bEx sc 0 169 0 [some (.int x0)] [] σ (f169 F x0 σ) := by
  unfold f169
  refine b_run [(0, .iload_n 0, 0, 0, .null), (1, .bipush 60, 0, 0, .null)] (pc' := 3) (ls' := [some (.int x0)]) (st' := [.int 60, .int x0]) (by decide +kernel) rfl ?_
  refine b_icT (c := .eq) (o := 9) (t := 12) (y := 0) (w := .null) (by decide +kernel) cmp_eq (fun _ => ?_) (fun _ => ?_)
  · refine b_run [(12, .iconst 4, 0, 0, .null), (13, .goto 15, 28, 0, .null)] (pc' := 28) (ls' := [some (.int x0)]) (st' := [.int 4]) (by decide +kernel) rfl ?_
    exact b_ret (i := (.ireturn, 0, 0, .null)) (by decide +kernel) rfl rfl (fit_I _)
  · refine b_run [(6, .iload_n 0, 0, 0, .null), (7, .bipush 62, 0, 0, .null)] (pc' := 9) (ls' := [some (.int x0)]) (st' := [.int 62, .int x0]) (by decide +kernel) rfl ?_
    refine b_icF (c := .ne) (o := 7) (t := 16) (y := 0) (w := .null) (by decide +kernel) cmp_ne (fun _ => ?_) (fun _ => ?_)
    · refine b_run [(12, .iconst 4, 0, 0, .null), (13, .goto 15, 28, 0, .null)] (pc' := 28) (ls' := [some (.int x0)]) (st' := [.int 4]) (by decide +kernel) rfl ?_
      exact b_ret (i := (.ireturn, 0, 0, .null)) (by decide +kernel) rfl rfl (fit_I _)
    · refine b_run [(16, .iload_n 0, 0, 0, .null), (17, .bipush 38, 0, 0, .null)] (pc' := 19) (ls' := [some (.int x0)]) (st' := [.int 38, .int x0]) (by decide +kernel) rfl ?_
      refine b_icF (c := .ne) (o := 7) (t := 26) (y := 0) (w := .null) (by decide +kernel) cmp_ne (fun _ => ?_) (fun _ => ?_)
      · refine b_run [(22, .iconst 5, 0, 0, .null), (23, .goto 5, 28, 0, .null)] (pc' := 28) (ls' := [some (.int x0)]) (st' := [.int 5]) (by decide +kernel) rfl ?_
        exact b_ret (i := (.ireturn, 0, 0, .null)) (by decide +kernel) rfl rfl (fit_I _)
      · refine b_run [(26, .bipush 6, 0, 0, .null)] (pc' := 28) (ls' := [some (.int x0)]) (st' := [.int 6]) (by decide +kernel) rfl ?_
        exact b_ret (i := (.ireturn, 0, 0, .null)) (by decide +kernel) rfl rfl (fit_I _)
/-- TreeStoreModel.addChar(I)V -/
def f158 (F : Nat) (x1 : Int32) (σ : St) : Rs := lt (σ.1 1315 23) fun c1 => 
    if inB c1 122 then lt (uI σ 1339 c1.toNatClampNeg x1) fun σ2 => lt (σ2.1 1315 23) fun c3 => lt (uI σ2 1315 23 (c3 + 1)) fun σ4 => oV σ4 else none
theorem s158 {sc : aSc} (hv : vOk sc) (F : Nat) (x1 : Int32) (σ : St) : bEx sc 0 158 0 [some (.ref 1315), some (.int x1)] [] σ (f158 F x1 σ) := by
  unfold f158
  refine b_run [(0, .aload_n 0, 0, 0, .null)] (pc' := 1) (ls' := [some (.ref 1315), some (.int x1)]) (st' := [.ref 1315]) (by decide +kernel) rfl ?_
  refine b_getC (b := 1339) (q := 80) (ci := 9) (k := 30) (w := .null) (by decide +kernel) (by decide +kernel) ?_
  refine b_run [(4, .aload_n 0, 0, 0, .null)] (pc' := 5) (ls' := [some (.ref 1315), some (.int x1)]) (st' := [.ref 1315, .ref 1339]) (by decide +kernel) rfl ?_
  refine b_gI (q := 178) (ci := 9) (k := 23) (w := .null) (by decide +kernel) (by decide +kernel) (fun c1 => ?_)
  refine b_run [(8, .iload_n 1, 0, 0, .null)] (pc' := 9) (ls' := [some (.ref 1315), some (.int x1)]) (st' := [.int x1, .int c1, .ref 1339]) (by decide +kernel) rfl ?_
  refine b_guard (fun hb => ?_)
  refine b_sI (ci := 0) (y := 0) (w := .null) (by decide +kernel) (by decide +kernel) hb (fun σ2 => ?_)
  refine b_run [(10, .aload_n 0, 0, 0, .null), (11, .dup, 0, 0, .null)] (pc' := 12) (ls' := [some (.ref 1315), some (.int x1)]) (st' := [.ref 1315, .ref 1315]) (by decide +kernel) rfl ?_
  refine b_gI (q := 178) (ci := 9) (k := 23) (w := .null) (by decide +kernel) (by decide +kernel) (fun c3 => ?_)
  refine b_run [(15, .iconst 1, 0, 0, .null), (16, .iadd, 0, 0, .null)] (pc' := 17) (ls' := [some (.ref 1315), some (.int x1)]) (st' := [.int (c3 + 1), .ref 1315]) (by decide +kernel) rfl ?_
  refine b_pI (q := 178) (ci := 9) (k := 23) (w := .null) (by decide +kernel) (by decide +kernel) (fit_I _) (fun σ4 => ?_)
  exact b_ret0 (i := (.return_, 0, 0, .null)) (by decide +kernel) rfl rfl
/-- TreeStoreModel.character()Z -/
def f167 (F : Nat) (σ : St) : Rs := lt (σ.1 1315 32) fun c1 => 
    cI (f152 F c1 σ) fun c3 σ2 => 
    if c3 = 38 then 
    lt (σ2.1 1315 32) fun c4 => 
    cI (f168 F c4 σ2) fun c6 σ5 => 
    if c6 = 0 then cI (f154 F 1 σ5) fun c8 σ7 => if c8 = 0 ∨ c8 = 1 then oI c8 σ7 else none
    else cV (f158 F c6 σ5) fun σ9 => lt (σ9.1 1315 32) fun c11 => cI (f169 F c6 σ9) fun c13 σ12 => lt (uI σ12 1315 32 (c11 + c13)) fun σ14 => oI 1 σ14
    else if c3 = 0 then cI (f154 F 1 σ2) fun c16 σ15 => if c16 = 0 ∨ c16 = 1 then oI c16 σ15 else none
    else if c3 = 60 then cI (f154 F 1 σ2) fun c18 σ17 => if c18 = 0 ∨ c18 = 1 then oI c18 σ17 else none
    else cV (f158 F c3 σ2) fun σ19 => lt (σ19.1 1315 32) fun c21 => lt (uI σ19 1315 32 (c21 + 1)) fun σ22 => oI 1 σ22
theorem s167 {sc : aSc} (hv : vOk sc) (F : Nat) (σ : St) : bEx sc 2 167 0 [some (.ref 1315), none, none] [] σ (f167 F σ) := by
  unfold f167
  refine b_run [(0, .aload_n 0, 0, 0, .null), (1, .aload_n 0, 0, 0, .null)] (pc' := 2) (ls' := [some (.ref 1315), none, none]) (st' := [.ref 1315, .ref 1315]) (by decide +kernel) rfl ?_
  refine b_gI (q := 181) (ci := 9) (k := 32) (w := .null) (by decide +kernel) (by decide +kernel) (fun c1 => ?_)
  refine b_callI 152 2 [.ref 1315, .int c1] (rest := []) (by decide +kernel) rfl rfl rfl (go_O rfl (by decide +kernel) (by decide +kernel : isO 1315 9 = true)) rfl (s152 hv F c1 σ) (by decide) (fun c3 σ2 => ?_)
  refine b_run [(8, .istore_n 1, 0, 0, .null), (9, .iload_n 1, 0, 0, .null), (10, .bipush 38, 0, 0, .null)] (pc' := 12) (ls' := [some (.ref 1315), some (.int c3), none]) (st' := [.int 38, .int c3]) (by decide +kernel) rfl ?_
  refine b_icF (c := .ne) (o := 42) (t := 54) (y := 0) (w := .null) (by decide +kernel) cmp_ne (fun _ => ?_) (fun _ => ?_)
  · refine b_run [(15, .aload_n 0, 0, 0, .null), (16, .aload_n 0, 0, 0, .null)] (pc' := 17) (ls' := [some (.ref 1315), some (.int c3), none]) (st' := [.ref 1315, .ref 1315]) (by decide +kernel) rfl ?_
    refine b_gI (q := 181) (ci := 9) (k := 32) (w := .null) (by decide +kernel) (by decide +kernel) (fun c4 => ?_)
    refine b_callI 168 2 [.ref 1315, .int c4] (rest := []) (by decide +kernel) rfl rfl rfl (go_O rfl (by decide +kernel) (by decide +kernel : isO 1315 9 = true)) rfl (s168 hv F c4 σ2) (by decide) (fun c6 σ5 => ?_)
    refine b_run [(23, .istore_n 2, 0, 0, .null), (24, .iload_n 2, 0, 0, .null)] (pc' := 25) (ls' := [some (.ref 1315), some (.int c3), some (.int c6)]) (st' := [.int c6]) (by decide +kernel) rfl ?_
    refine b_izF (c := .ne) (o := 9) (t := 34) (y := 0) (w := .null) (by decide +kernel) cmp_ne (fun _ => ?_) (fun _ => ?_)
    · refine b_run [(28, .aload_n 0, 0, 0, .null), (29, .iconst 1, 0, 0, .null)] (pc' := 30) (ls' := [some (.ref 1315), some (.int c3), some (.int c6)]) (st' := [.int 1, .ref 1315]) (by decide +kernel) rfl ?_
      refine b_callI 154 2 [.ref 1315, .int 1] (rest := []) (by decide +kernel) rfl rfl rfl (go_O rfl (by decide +kernel) (by decide +kernel : isO 1315 9 = true)) rfl (s154 hv F 1 σ5) (by decide) (fun c8 σ7 => ?_)
      exact b_guard (fun hz => b_ret (i := (.ireturn, 0, 0, .null)) (by decide +kernel) rfl rfl (fit_Z hz))
    · refine b_run [(34, .aload_n 0, 0, 0, .null), (35, .iload_n 2, 0, 0, .null)] (pc' := 36) (ls' := [some (.ref 1315), some (.int c3), some (.int c6)]) (st' := [.int c6, .ref 1315]) (by decide +kernel) rfl ?_
      refine b_callV 158 2 [.ref 1315, .int c6] (rest := []) (by decide +kernel) rfl rfl rfl (go_O rfl (by decide +kernel) (by decide +kernel : isO 1315 9 = true)) rfl (s158 hv F c6 σ5) (by decide) (fun σ9 => ?_)
      refine b_run [(39, .aload_n 0, 0, 0, .null), (40, .dup, 0, 0, .null)] (pc' := 41) (ls' := [some (.ref 1315), some (.int c3), some (.int c6)]) (st' := [.ref 1315, .ref 1315]) (by decide +kernel) rfl ?_
      refine b_gI (q := 181) (ci := 9) (k := 32) (w := .null) (by decide +kernel) (by decide +kernel) (fun c11 => ?_)
      refine b_run [(44, .iload_n 2, 0, 0, .null)] (pc' := 45) (ls' := [some (.ref 1315), some (.int c3), some (.int c6)]) (st' := [.int c6, .int c11, .ref 1315]) (by decide +kernel) rfl ?_
      refine b_callI 169 1 [.int c6] (rest := [.int c11, .ref 1315]) (by decide +kernel) rfl rfl rfl (go_S rfl (by decide +kernel)) rfl (s169 hv F c6 σ9) (by decide) (fun c13 σ12 => ?_)
      refine b_run [(48, .iadd, 0, 0, .null)] (pc' := 49) (ls' := [some (.ref 1315), some (.int c3), some (.int c6)]) (st' := [.int (c11 + c13), .ref 1315]) (by decide +kernel) rfl ?_
      refine b_pI (q := 181) (ci := 9) (k := 32) (w := .null) (by decide +kernel) (by decide +kernel) (fit_I _) (fun σ14 => ?_)
      refine b_run [(52, .iconst 1, 0, 0, .null)] (pc' := 53) (ls' := [some (.ref 1315), some (.int c3), some (.int c6)]) (st' := [.int 1]) (by decide +kernel) rfl ?_
      exact b_ret (i := (.ireturn, 0, 0, .null)) (by decide +kernel) rfl rfl (by decide +kernel)
  · refine b_run [(54, .iload_n 1, 0, 0, .null)] (pc' := 55) (ls' := [some (.ref 1315), some (.int c3), none]) (st' := [.int c3]) (by decide +kernel) rfl ?_
    refine b_izT (c := .eq) (o := 9) (t := 64) (y := 0) (w := .null) (by decide +kernel) cmp_eq (fun _ => ?_) (fun _ => ?_)
    · refine b_run [(64, .aload_n 0, 0, 0, .null), (65, .iconst 1, 0, 0, .null)] (pc' := 66) (ls' := [some (.ref 1315), some (.int c3), none]) (st' := [.int 1, .ref 1315]) (by decide +kernel) rfl ?_
      refine b_callI 154 2 [.ref 1315, .int 1] (rest := []) (by decide +kernel) rfl rfl rfl (go_O rfl (by decide +kernel) (by decide +kernel : isO 1315 9 = true)) rfl (s154 hv F 1 σ2) (by decide) (fun c16 σ15 => ?_)
      exact b_guard (fun hz => b_ret (i := (.ireturn, 0, 0, .null)) (by decide +kernel) rfl rfl (fit_Z hz))
    · refine b_run [(58, .iload_n 1, 0, 0, .null), (59, .bipush 60, 0, 0, .null)] (pc' := 61) (ls' := [some (.ref 1315), some (.int c3), none]) (st' := [.int 60, .int c3]) (by decide +kernel) rfl ?_
      refine b_icF (c := .ne) (o := 9) (t := 70) (y := 0) (w := .null) (by decide +kernel) cmp_ne (fun _ => ?_) (fun _ => ?_)
      · refine b_run [(64, .aload_n 0, 0, 0, .null), (65, .iconst 1, 0, 0, .null)] (pc' := 66) (ls' := [some (.ref 1315), some (.int c3), none]) (st' := [.int 1, .ref 1315]) (by decide +kernel) rfl ?_
        refine b_callI 154 2 [.ref 1315, .int 1] (rest := []) (by decide +kernel) rfl rfl rfl (go_O rfl (by decide +kernel) (by decide +kernel : isO 1315 9 = true)) rfl (s154 hv F 1 σ2) (by decide) (fun c18 σ17 => ?_)
        exact b_guard (fun hz => b_ret (i := (.ireturn, 0, 0, .null)) (by decide +kernel) rfl rfl (fit_Z hz))
      · refine b_run [(70, .aload_n 0, 0, 0, .null), (71, .iload_n 1, 0, 0, .null)] (pc' := 72) (ls' := [some (.ref 1315), some (.int c3), none]) (st' := [.int c3, .ref 1315]) (by decide +kernel) rfl ?_
        refine b_callV 158 2 [.ref 1315, .int c3] (rest := []) (by decide +kernel) rfl rfl rfl (go_O rfl (by decide +kernel) (by decide +kernel : isO 1315 9 = true)) rfl (s158 hv F c3 σ2) (by decide) (fun σ19 => ?_)
        refine b_run [(75, .aload_n 0, 0, 0, .null), (76, .dup, 0, 0, .null)] (pc' := 77) (ls' := [some (.ref 1315), some (.int c3), none]) (st' := [.ref 1315, .ref 1315]) (by decide +kernel) rfl ?_
        refine b_gI (q := 181) (ci := 9) (k := 32) (w := .null) (by decide +kernel) (by decide +kernel) (fun c21 => ?_)
        refine b_run [(80, .iconst 1, 0, 0, .null), (81, .iadd, 0, 0, .null)] (pc' := 82) (ls' := [some (.ref 1315), some (.int c3), none]) (st' := [.int (c21 + 1), .ref 1315]) (by decide +kernel) rfl ?_
        refine b_pI (q := 181) (ci := 9) (k := 32) (w := .null) (by decide +kernel) (by decide +kernel) (fit_I _) (fun σ22 => ?_)
        refine b_run [(85, .iconst 1, 0, 0, .null)] (pc' := 86) (ls' := [some (.ref 1315), some (.int c3), none]) (st' := [.int 1]) (by decide +kernel) rfl ?_
        exact b_ret (i := (.ireturn, 0, 0, .null)) (by decide +kernel) rfl rfl (by decide +kernel)
/-- TreeStoreModel.expect(I)Z -/
def f159 (F : Nat) (x1 : Int32) (σ : St) : Rs := lt (σ.1 1315 32) fun c1 => 
    cI (f152 F c1 σ) fun c3 σ2 => 
    if c3 = x1 then lt (σ2.1 1315 32) fun c4 => lt (uI σ2 1315 32 (c4 + 1)) fun σ5 => oI 1 σ5
    else cI (f154 F 1 σ2) fun c7 σ6 => if c7 = 0 ∨ c7 = 1 then oI c7 σ6 else none
theorem s159 {sc : aSc} (hv : vOk sc) (F : Nat) (x1 : Int32) (σ : St) : bEx sc 1 159 0 [some (.ref 1315), some (.int x1)] [] σ (f159 F x1 σ) := by
  unfold f159
  refine b_run [(0, .aload_n 0, 0, 0, .null), (1, .aload_n 0, 0, 0, .null)] (pc' := 2) (ls' := [some (.ref 1315), some (.int x1)]) (st' := [.ref 1315, .ref 1315]) (by decide +kernel) rfl ?_
  refine b_gI (q := 181) (ci := 9) (k := 32) (w := .null) (by decide +kernel) (by decide +kernel) (fun c1 => ?_)
  refine b_callI 152 2 [.ref 1315, .int c1] (rest := []) (by decide +kernel) rfl rfl rfl (go_O rfl (by decide +kernel) (by decide +kernel : isO 1315 9 = true)) rfl (s152 hv F c1 σ) (by decide) (fun c3 σ2 => ?_)
  refine b_run [(8, .iload_n 1, 0, 0, .null)] (pc' := 9) (ls' := [some (.ref 1315), some (.int x1)]) (st' := [.int x1, .int c3]) (by decide +kernel) rfl ?_
  refine b_icT (c := .eq) (o := 9) (t := 18) (y := 0) (w := .null) (by decide +kernel) cmp_eq (fun _ => ?_) (fun _ => ?_)
  · refine b_run [(18, .aload_n 0, 0, 0, .null), (19, .dup, 0, 0, .null)] (pc' := 20) (ls' := [some (.ref 1315), some (.int x1)]) (st' := [.ref 1315, .ref 1315]) (by decide +kernel) rfl ?_
    refine b_gI (q := 181) (ci := 9) (k := 32) (w := .null) (by decide +kernel) (by decide +kernel) (fun c4 => ?_)
    refine b_run [(23, .iconst 1, 0, 0, .null), (24, .iadd, 0, 0, .null)] (pc' := 25) (ls' := [some (.ref 1315), some (.int x1)]) (st' := [.int (c4 + 1), .ref 1315]) (by decide +kernel) rfl ?_
    refine b_pI (q := 181) (ci := 9) (k := 32) (w := .null) (by decide +kernel) (by decide +kernel) (fit_I _) (fun σ5 => ?_)
    refine b_run [(28, .iconst 1, 0, 0, .null)] (pc' := 29) (ls' := [some (.ref 1315), some (.int x1)]) (st' := [.int 1]) (by decide +kernel) rfl ?_
    exact b_ret (i := (.ireturn, 0, 0, .null)) (by decide +kernel) rfl rfl (by decide +kernel)
  · refine b_run [(12, .aload_n 0, 0, 0, .null), (13, .iconst 1, 0, 0, .null)] (pc' := 14) (ls' := [some (.ref 1315), some (.int x1)]) (st' := [.int 1, .ref 1315]) (by decide +kernel) rfl ?_
    refine b_callI 154 2 [.ref 1315, .int 1] (rest := []) (by decide +kernel) rfl rfl rfl (go_O rfl (by decide +kernel) (by decide +kernel : isO 1315 9 = true)) rfl (s154 hv F 1 σ2) (by decide) (fun c7 σ6 => ?_)
    exact b_guard (fun hz => b_ret (i := (.ireturn, 0, 0, .null)) (by decide +kernel) rfl rfl (fit_Z hz))
def f165_75 (F : Nat) (k28 : Int32 → Int32 → Int32 → Int32 → Int32 → Int32 → St → Rs) (y2 : Int32) (y3 : Int32) (y4 : Int32) (y5 : Int32) (y7 : Int32) (z0 : Int32) (σ : St) : Rs := k28 y2 y3 y4 y5 z0 (y7 + 1) σ
theorem s165_75 {sc : aSc} (hv : vOk sc) (F : Nat) (k28 : Int32 → Int32 → Int32 → Int32 → Int32 → Int32 → St → Rs) (hk28 : ∀ y2 y3 y4 y5 y6 y7 σ, bEx sc 3 165 28 [some (.ref 1315), none, some (.int y2), some (.int y3), some (.int y4), some (.int y5), some (.int y6), some (.int y7), none] [] σ (k28 y2 y3 y4 y5 y6 y7 σ)) (y2 : Int32) (y3 : Int32) (y4 : Int32) (y5 : Int32) (y7 : Int32) (z0 : Int32) (σ : St) : bEx sc 3 165 75 [some (.ref 1315), none, some (.int y2), some (.int y3), some (.int y4), some (.int y5), none, some (.int y7), none] [.int z0] σ (f165_75 F k28 y2 y3 y4 y5 y7 z0 σ) := by
  unfold f165_75
  refine b_run [(75, .istore 6, 0, 0, .null), (77, .iinc 7 1, 0, 0, .null), (80, .goto (-52), 28, 0, .null)] (pc' := 28) (ls' := [some (.ref 1315), none, some (.int y2), some (.int y3), some (.int y4), some (.int y5), some (.int z0), some (.int (y7 + 1)), none]) (st' := []) (by decide +kernel) rfl ?_
  exact b_wk (wS (wN (wS (wS (wS (wS (wS (wS (wN w0))))))))) (hk28 y2 y3 y4 y5 z0 (y7 + 1) σ)
def f165_70 (F : Nat) (k28 : Int32 → Int32 → Int32 → Int32 → Int32 → Int32 → St → Rs) (y2 : Int32) (y3 : Int32) (y4 : Int32) (y5 : Int32) (y7 : Int32) (σ : St) : Rs := f165_75 F k28 y2 y3 y4 y5 y7 1 σ
theorem s165_70 {sc : aSc} (hv : vOk sc) (F : Nat) (k28 : Int32 → Int32 → Int32 → Int32 → Int32 → Int32 → St → Rs) (hk28 : ∀ y2 y3 y4 y5 y6 y7 σ, bEx sc 3 165 28 [some (.ref 1315), none, some (.int y2), some (.int y3), some (.int y4), some (.int y5), some (.int y6), some (.int y7), none] [] σ (k28 y2 y3 y4 y5 y6 y7 σ)) (y2 : Int32) (y3 : Int32) (y4 : Int32) (y5 : Int32) (y7 : Int32) (σ : St) : bEx sc 3 165 70 [some (.ref 1315), none, some (.int y2), some (.int y3), some (.int y4), some (.int y5), none, some (.int y7), none] [] σ (f165_70 F k28 y2 y3 y4 y5 y7 σ) := by
  unfold f165_70
  refine b_run [(70, .iconst 1, 0, 0, .null), (71, .goto 4, 75, 0, .null)] (pc' := 75) (ls' := [some (.ref 1315), none, some (.int y2), some (.int y3), some (.int y4), some (.int y5), none, some (.int y7), none]) (st' := [.int 1]) (by decide +kernel) rfl ?_
  exact b_wk (wS (wN (wS (wS (wS (wS (wN (wS (wN w0))))))))) (s165_75 hv F k28 hk28 y2 y3 y4 y5 y7 1 σ)
def f165_149 (F : Nat) : Nat → Int32 → Int32 → Int32 → Int32 → Int32 → Int32 → St → Rs
  | 0, _, _, _, _, _, _, _ => none
  | n + 1, y2, y3, y4, y5, y7, y8, σ => lt (σ.1 1315 32) fun c20 => 
    cI (f152 F c20 σ) fun c22 σ21 => 
    if c22 = y7 then 
    cI (f160 F 2 y2 y3 σ21) fun c24 σ23 => 
    if c24 = 0 then oI 0 σ23
    else lt (σ23.1 1315 32) fun c25 => 
    lt (uI σ23 1315 32 (c25 + 1)) fun σ26 => 
    lt (σ26.1 1315 22) fun c27 => 
    if inB (c27 - 1) 31 then lt (uI σ26 1335 (c27 - 1).toNatClampNeg y4) fun σ28 => 
    lt (σ28.1 1315 22) fun c29 => 
    if inB (c29 - 1) 31 then lt (uI σ28 1336 (c29 - 1).toNatClampNeg (y5 - y4)) fun σ30 => 
    lt (σ30.1 1315 22) fun c31 => 
    if inB (c31 - 1) 31 then lt (uI σ30 1337 (c31 - 1).toNatClampNeg y8) fun σ32 => 
    lt (σ32.1 1315 22) fun c33 => 
    lt (σ32.1 1315 23) fun c34 => if inB (c33 - 1) 31 then lt (uI σ32 1338 (c33 - 1).toNatClampNeg (c34 - y8)) fun σ35 => oI 1 σ35 else none else none else none else none
    else cI (f167 F σ21) fun c37 σ36 => 
    if c37 = 0 then oI 0 σ36
    else f165_149 F n y2 y3 y4 y5 y7 y8 σ36
theorem s165_149 {sc : aSc} (hv : vOk sc) (F : Nat) : ∀ (n : Nat) (y2 : Int32) (y3 : Int32) (y4 : Int32) (y5 : Int32) (y7 : Int32) (y8 : Int32) (σ : St), bEx sc 3 165 149 [some (.ref 1315), none, some (.int y2), some (.int y3), some (.int y4), some (.int y5), none, some (.int y7), some (.int y8)] [] σ (f165_149 F n y2 y3 y4 y5 y7 y8 σ) := by
  intro n
  induction n with
  | zero => intro y2 y3 y4 y5 y7 y8 σ; exact b_none
  | succ n ih =>
    intro y2 y3 y4 y5 y7 y8 σ
    rw [f165_149.eq_2]
    refine b_run [(149, .aload_n 0, 0, 0, .null), (150, .aload_n 0, 0, 0, .null)] (pc' := 151) (ls' := [some (.ref 1315), none, some (.int y2), some (.int y3), some (.int y4), some (.int y5), none, some (.int y7), some (.int y8)]) (st' := [.ref 1315, .ref 1315]) (by decide +kernel) rfl ?_
    refine b_gI (q := 181) (ci := 9) (k := 32) (w := .null) (by decide +kernel) (by decide +kernel) (fun c20 => ?_)
    refine b_callI 152 2 [.ref 1315, .int c20] (rest := []) (by decide +kernel) rfl rfl rfl (go_O rfl (by decide +kernel) (by decide +kernel : isO 1315 9 = true)) rfl (s152 hv F c20 σ) (by decide) (fun c22 σ21 => ?_)
    refine b_run [(157, .iload 7, 0, 0, .null)] (pc' := 159) (ls' := [some (.ref 1315), none, some (.int y2), some (.int y3), some (.int y4), some (.int y5), none, some (.int y7), some (.int y8)]) (st' := [.int y7, .int c22]) (by decide +kernel) rfl ?_
    refine b_icT (c := .eq) (o := 12) (t := 171) (y := 0) (w := .null) (by decide +kernel) cmp_eq (fun _ => ?_) (fun _ => ?_)
    · refine b_run [(171, .aload_n 0, 0, 0, .null), (172, .iconst 2, 0, 0, .null), (173, .iload_n 2, 0, 0, .null), (174, .iload_n 3, 0, 0, .null)] (pc' := 175) (ls' := [some (.ref 1315), none, some (.int y2), some (.int y3), some (.int y4), some (.int y5), none, some (.int y7), some (.int y8)]) (st' := [.int y3, .int y2, .int 2, .ref 1315]) (by decide +kernel) rfl ?_
      refine b_callI 160 4 [.ref 1315, .int 2, .int y2, .int y3] (rest := []) (by decide +kernel) rfl rfl rfl (go_O rfl (by decide +kernel) (by decide +kernel : isO 1315 9 = true)) rfl (s160 hv F 2 y2 y3 σ21) (by decide) (fun c24 σ23 => ?_)
      refine b_izF (c := .ne) (o := 5) (t := 183) (y := 0) (w := .null) (by decide +kernel) cmp_ne (fun _ => ?_) (fun _ => ?_)
      · refine b_run [(181, .iconst 0, 0, 0, .null)] (pc' := 182) (ls' := [some (.ref 1315), none, some (.int y2), some (.int y3), some (.int y4), some (.int y5), none, some (.int y7), some (.int y8)]) (st' := [.int 0]) (by decide +kernel) rfl ?_
        exact b_ret (i := (.ireturn, 0, 0, .null)) (by decide +kernel) rfl rfl (by decide +kernel)
      · refine b_run [(183, .aload_n 0, 0, 0, .null), (184, .dup, 0, 0, .null)] (pc' := 185) (ls' := [some (.ref 1315), none, some (.int y2), some (.int y3), some (.int y4), some (.int y5), none, some (.int y7), some (.int y8)]) (st' := [.ref 1315, .ref 1315]) (by decide +kernel) rfl ?_
        refine b_gI (q := 181) (ci := 9) (k := 32) (w := .null) (by decide +kernel) (by decide +kernel) (fun c25 => ?_)
        refine b_run [(188, .iconst 1, 0, 0, .null), (189, .iadd, 0, 0, .null)] (pc' := 190) (ls' := [some (.ref 1315), none, some (.int y2), some (.int y3), some (.int y4), some (.int y5), none, some (.int y7), some (.int y8)]) (st' := [.int (c25 + 1), .ref 1315]) (by decide +kernel) rfl ?_
        refine b_pI (q := 181) (ci := 9) (k := 32) (w := .null) (by decide +kernel) (by decide +kernel) (fit_I _) (fun σ26 => ?_)
        refine b_run [(193, .aload_n 0, 0, 0, .null)] (pc' := 194) (ls' := [some (.ref 1315), none, some (.int y2), some (.int y3), some (.int y4), some (.int y5), none, some (.int y7), some (.int y8)]) (st' := [.ref 1315]) (by decide +kernel) rfl ?_
        refine b_getC (b := 1335) (q := 68) (ci := 9) (k := 26) (w := .null) (by decide +kernel) (by decide +kernel) ?_
        refine b_run [(197, .aload_n 0, 0, 0, .null)] (pc' := 198) (ls' := [some (.ref 1315), none, some (.int y2), some (.int y3), some (.int y4), some (.int y5), none, some (.int y7), some (.int y8)]) (st' := [.ref 1315, .ref 1335]) (by decide +kernel) rfl ?_
        refine b_gI (q := 172) (ci := 9) (k := 22) (w := .null) (by decide +kernel) (by decide +kernel) (fun c27 => ?_)
        refine b_run [(201, .iconst 1, 0, 0, .null), (202, .isub, 0, 0, .null), (203, .iload 4, 0, 0, .null)] (pc' := 205) (ls' := [some (.ref 1315), none, some (.int y2), some (.int y3), some (.int y4), some (.int y5), none, some (.int y7), some (.int y8)]) (st' := [.int y4, .int (c27 - 1), .ref 1335]) (by decide +kernel) rfl ?_
        refine b_guard (fun hb => ?_)
        refine b_sI (ci := 0) (y := 0) (w := .null) (by decide +kernel) (by decide +kernel) hb (fun σ28 => ?_)
        refine b_run [(206, .aload_n 0, 0, 0, .null)] (pc' := 207) (ls' := [some (.ref 1315), none, some (.int y2), some (.int y3), some (.int y4), some (.int y5), none, some (.int y7), some (.int y8)]) (st' := [.ref 1315]) (by decide +kernel) rfl ?_
        refine b_getC (b := 1336) (q := 71) (ci := 9) (k := 27) (w := .null) (by decide +kernel) (by decide +kernel) ?_
        refine b_run [(210, .aload_n 0, 0, 0, .null)] (pc' := 211) (ls' := [some (.ref 1315), none, some (.int y2), some (.int y3), some (.int y4), some (.int y5), none, some (.int y7), some (.int y8)]) (st' := [.ref 1315, .ref 1336]) (by decide +kernel) rfl ?_
        refine b_gI (q := 172) (ci := 9) (k := 22) (w := .null) (by decide +kernel) (by decide +kernel) (fun c29 => ?_)
        refine b_run [(214, .iconst 1, 0, 0, .null), (215, .isub, 0, 0, .null), (216, .iload 5, 0, 0, .null), (218, .iload 4, 0, 0, .null), (220, .isub, 0, 0, .null)] (pc' := 221) (ls' := [some (.ref 1315), none, some (.int y2), some (.int y3), some (.int y4), some (.int y5), none, some (.int y7), some (.int y8)]) (st' := [.int (y5 - y4), .int (c29 - 1), .ref 1336]) (by decide +kernel) rfl ?_
        refine b_guard (fun hb => ?_)
        refine b_sI (ci := 0) (y := 0) (w := .null) (by decide +kernel) (by decide +kernel) hb (fun σ30 => ?_)
        refine b_run [(222, .aload_n 0, 0, 0, .null)] (pc' := 223) (ls' := [some (.ref 1315), none, some (.int y2), some (.int y3), some (.int y4), some (.int y5), none, some (.int y7), some (.int y8)]) (st' := [.ref 1315]) (by decide +kernel) rfl ?_
        refine b_getC (b := 1337) (q := 74) (ci := 9) (k := 28) (w := .null) (by decide +kernel) (by decide +kernel) ?_
        refine b_run [(226, .aload_n 0, 0, 0, .null)] (pc' := 227) (ls' := [some (.ref 1315), none, some (.int y2), some (.int y3), some (.int y4), some (.int y5), none, some (.int y7), some (.int y8)]) (st' := [.ref 1315, .ref 1337]) (by decide +kernel) rfl ?_
        refine b_gI (q := 172) (ci := 9) (k := 22) (w := .null) (by decide +kernel) (by decide +kernel) (fun c31 => ?_)
        refine b_run [(230, .iconst 1, 0, 0, .null), (231, .isub, 0, 0, .null), (232, .iload 8, 0, 0, .null)] (pc' := 234) (ls' := [some (.ref 1315), none, some (.int y2), some (.int y3), some (.int y4), some (.int y5), none, some (.int y7), some (.int y8)]) (st' := [.int y8, .int (c31 - 1), .ref 1337]) (by decide +kernel) rfl ?_
        refine b_guard (fun hb => ?_)
        refine b_sI (ci := 0) (y := 0) (w := .null) (by decide +kernel) (by decide +kernel) hb (fun σ32 => ?_)
        refine b_run [(235, .aload_n 0, 0, 0, .null)] (pc' := 236) (ls' := [some (.ref 1315), none, some (.int y2), some (.int y3), some (.int y4), some (.int y5), none, some (.int y7), some (.int y8)]) (st' := [.ref 1315]) (by decide +kernel) rfl ?_
        refine b_getC (b := 1338) (q := 77) (ci := 9) (k := 29) (w := .null) (by decide +kernel) (by decide +kernel) ?_
        refine b_run [(239, .aload_n 0, 0, 0, .null)] (pc' := 240) (ls' := [some (.ref 1315), none, some (.int y2), some (.int y3), some (.int y4), some (.int y5), none, some (.int y7), some (.int y8)]) (st' := [.ref 1315, .ref 1338]) (by decide +kernel) rfl ?_
        refine b_gI (q := 172) (ci := 9) (k := 22) (w := .null) (by decide +kernel) (by decide +kernel) (fun c33 => ?_)
        refine b_run [(243, .iconst 1, 0, 0, .null), (244, .isub, 0, 0, .null), (245, .aload_n 0, 0, 0, .null)] (pc' := 246) (ls' := [some (.ref 1315), none, some (.int y2), some (.int y3), some (.int y4), some (.int y5), none, some (.int y7), some (.int y8)]) (st' := [.ref 1315, .int (c33 - 1), .ref 1338]) (by decide +kernel) rfl ?_
        refine b_gI (q := 178) (ci := 9) (k := 23) (w := .null) (by decide +kernel) (by decide +kernel) (fun c34 => ?_)
        refine b_run [(249, .iload 8, 0, 0, .null), (251, .isub, 0, 0, .null)] (pc' := 252) (ls' := [some (.ref 1315), none, some (.int y2), some (.int y3), some (.int y4), some (.int y5), none, some (.int y7), some (.int y8)]) (st' := [.int (c34 - y8), .int (c33 - 1), .ref 1338]) (by decide +kernel) rfl ?_
        refine b_guard (fun hb => ?_)
        refine b_sI (ci := 0) (y := 0) (w := .null) (by decide +kernel) (by decide +kernel) hb (fun σ35 => ?_)
        refine b_run [(253, .iconst 1, 0, 0, .null)] (pc' := 254) (ls' := [some (.ref 1315), none, some (.int y2), some (.int y3), some (.int y4), some (.int y5), none, some (.int y7), some (.int y8)]) (st' := [.int 1]) (by decide +kernel) rfl ?_
        exact b_ret (i := (.ireturn, 0, 0, .null)) (by decide +kernel) rfl rfl (by decide +kernel)
    · refine b_run [(162, .aload_n 0, 0, 0, .null)] (pc' := 163) (ls' := [some (.ref 1315), none, some (.int y2), some (.int y3), some (.int y4), some (.int y5), none, some (.int y7), some (.int y8)]) (st' := [.ref 1315]) (by decide +kernel) rfl ?_
      refine b_callI 167 1 [.ref 1315] (rest := []) (by decide +kernel) rfl rfl rfl (go_O rfl (by decide +kernel) (by decide +kernel : isO 1315 9 = true)) rfl (s167 hv F σ21) (by decide) (fun c37 σ36 => ?_)
      refine b_izF (c := .ne) (o := (-17)) (t := 149) (y := 0) (w := .null) (by decide +kernel) cmp_ne (fun _ => ?_) (fun _ => ?_)
      · refine b_run [(169, .iconst 0, 0, 0, .null)] (pc' := 170) (ls' := [some (.ref 1315), none, some (.int y2), some (.int y3), some (.int y4), some (.int y5), none, some (.int y7), some (.int y8)]) (st' := [.int 0]) (by decide +kernel) rfl ?_
        exact b_ret (i := (.ireturn, 0, 0, .null)) (by decide +kernel) rfl rfl (by decide +kernel)
      · exact b_wk (wS (wN (wS (wS (wS (wS (wN (wS (wS w0))))))))) (ih y2 y3 y4 y5 y7 y8 σ36)
def f165_133 (F : Nat) (y2 : Int32) (y3 : Int32) (y4 : Int32) (y5 : Int32) (y7 : Int32) (σ : St) : Rs := lt (σ.1 1315 32) fun c17 => lt (uI σ 1315 32 (c17 + 1)) fun σ18 => lt (σ18.1 1315 23) fun c19 => f165_149 F F y2 y3 y4 y5 y7 c19 σ18
theorem s165_133 {sc : aSc} (hv : vOk sc) (F : Nat) (y2 : Int32) (y3 : Int32) (y4 : Int32) (y5 : Int32) (y7 : Int32) (σ : St) : bEx sc 3 165 133 [some (.ref 1315), none, some (.int y2), some (.int y3), some (.int y4), some (.int y5), none, some (.int y7), none] [] σ (f165_133 F y2 y3 y4 y5 y7 σ) := by
  unfold f165_133
  refine b_run [(133, .aload_n 0, 0, 0, .null), (134, .dup, 0, 0, .null)] (pc' := 135) (ls' := [some (.ref 1315), none, some (.int y2), some (.int y3), some (.int y4), some (.int y5), none, some (.int y7), none]) (st' := [.ref 1315, .ref 1315]) (by decide +kernel) rfl ?_
  refine b_gI (q := 181) (ci := 9) (k := 32) (w := .null) (by decide +kernel) (by decide +kernel) (fun c17 => ?_)
  refine b_run [(138, .iconst 1, 0, 0, .null), (139, .iadd, 0, 0, .null)] (pc' := 140) (ls' := [some (.ref 1315), none, some (.int y2), some (.int y3), some (.int y4), some (.int y5), none, some (.int y7), none]) (st' := [.int (c17 + 1), .ref 1315]) (by decide +kernel) rfl ?_
  refine b_pI (q := 181) (ci := 9) (k := 32) (w := .null) (by decide +kernel) (by decide +kernel) (fit_I _) (fun σ18 => ?_)
  refine b_run [(143, .aload_n 0, 0, 0, .null)] (pc' := 144) (ls' := [some (.ref 1315), none, some (.int y2), some (.int y3), some (.int y4), some (.int y5), none, some (.int y7), none]) (st' := [.ref 1315]) (by decide +kernel) rfl ?_
  refine b_gI (q := 178) (ci := 9) (k := 23) (w := .null) (by decide +kernel) (by decide +kernel) (fun c19 => ?_)
  refine b_run [(147, .istore 8, 0, 0, .null)] (pc' := 149) (ls' := [some (.ref 1315), none, some (.int y2), some (.int y3), some (.int y4), some (.int y5), none, some (.int y7), some (.int c19)]) (st' := []) (by decide +kernel) rfl ?_
  exact b_wk (wS (wN (wS (wS (wS (wS (wN (wS (wS w0))))))))) (s165_149 hv F F y2 y3 y4 y5 y7 c19 σ18)
def f165_28 (F : Nat) : Nat → Int32 → Int32 → Int32 → Int32 → Int32 → Int32 → St → Rs
  | 0, _, _, _, _, _, _, _ => none
  | n + 1, y2, y3, y4, y5, y6, y7, σ => lt (σ.1 1315 22) fun c5 => 
    if y7 < c5 then 
    if y6 = 0 then 
    if inB y7 31 then lt (σ.1 1335 y7.toNatClampNeg) fun c6 => 
    if inB y7 31 then lt (σ.1 1336 y7.toNatClampNeg) fun c7 => 
    cI (f166 F y4 (y5 - y4) c6 c7 σ) fun c9 σ8 => 
    if c9 = 0 then f165_75 F (f165_28 F n) y2 y3 y4 y5 y7 0 σ8
    else f165_70 F (f165_28 F n) y2 y3 y4 y5 y7 σ8 else none else none
    else f165_70 F (f165_28 F n) y2 y3 y4 y5 y7 σ
    else if y6 = 0 then 
    cI (f159 F 61 σ) fun c11 σ10 => 
    if c11 = 0 then cI (f154 F 1 σ10) fun c13 σ12 => if c13 = 0 ∨ c13 = 1 then oI c13 σ12 else none
    else lt (σ10.1 1315 32) fun c14 => 
    cI (f152 F c14 σ10) fun c16 σ15 => 
    if c16 = 34 then f165_133 F y2 y3 y4 y5 c16 σ15
    else if c16 = 39 then f165_133 F y2 y3 y4 y5 c16 σ15
    else cI (f154 F 1 σ15) fun c39 σ38 => if c39 = 0 ∨ c39 = 1 then oI c39 σ38 else none
    else cI (f154 F 1 σ) fun c41 σ40 => if c41 = 0 ∨ c41 = 1 then oI c41 σ40 else none
theorem s165_28 {sc : aSc} (hv : vOk sc) (F : Nat) : ∀ (n : Nat) (y2 : Int32) (y3 : Int32) (y4 : Int32) (y5 : Int32) (y6 : Int32) (y7 : Int32) (σ : St), bEx sc 3 165 28 [some (.ref 1315), none, some (.int y2), some (.int y3), some (.int y4), some (.int y5), some (.int y6), some (.int y7), none] [] σ (f165_28 F n y2 y3 y4 y5 y6 y7 σ) := by
  intro n
  induction n with
  | zero => intro y2 y3 y4 y5 y6 y7 σ; exact b_none
  | succ n ih =>
    intro y2 y3 y4 y5 y6 y7 σ
    rw [f165_28.eq_2]
    refine b_run [(28, .iload 7, 0, 0, .null), (30, .aload_n 0, 0, 0, .null)] (pc' := 31) (ls' := [some (.ref 1315), none, some (.int y2), some (.int y3), some (.int y4), some (.int y5), some (.int y6), some (.int y7), none]) (st' := [.ref 1315, .int y7]) (by decide +kernel) rfl ?_
    refine b_gI (q := 172) (ci := 9) (k := 22) (w := .null) (by decide +kernel) (by decide +kernel) (fun c5 => ?_)
    refine b_icF (c := .ge) (o := 49) (t := 83) (y := 0) (w := .null) (by decide +kernel) cmp_ge (fun _ => ?_) (fun _ => ?_)
    · refine b_run [(37, .iload 6, 0, 0, .null)] (pc' := 39) (ls' := [some (.ref 1315), none, some (.int y2), some (.int y3), some (.int y4), some (.int y5), some (.int y6), some (.int y7), none]) (st' := [.int y6]) (by decide +kernel) rfl ?_
      refine b_izF (c := .ne) (o := 31) (t := 70) (y := 0) (w := .null) (by decide +kernel) cmp_ne (fun _ => ?_) (fun _ => ?_)
      · refine b_run [(42, .aload_n 0, 0, 0, .null), (43, .iload 4, 0, 0, .null), (45, .iload 5, 0, 0, .null), (47, .iload 4, 0, 0, .null), (49, .isub, 0, 0, .null), (50, .aload_n 0, 0, 0, .null)] (pc' := 51) (ls' := [some (.ref 1315), none, some (.int y2), some (.int y3), some (.int y4), some (.int y5), some (.int y6), some (.int y7), none]) (st' := [.ref 1315, .int (y5 - y4), .int y4, .ref 1315]) (by decide +kernel) rfl ?_
        refine b_getC (b := 1335) (q := 68) (ci := 9) (k := 26) (w := .null) (by decide +kernel) (by decide +kernel) ?_
        refine b_run [(54, .iload 7, 0, 0, .null)] (pc' := 56) (ls' := [some (.ref 1315), none, some (.int y2), some (.int y3), some (.int y4), some (.int y5), some (.int y6), some (.int y7), none]) (st' := [.int y7, .ref 1335, .int (y5 - y4), .int y4, .ref 1315]) (by decide +kernel) rfl ?_
        refine b_guard (fun hb => ?_)
        refine b_aI (ci := 0) (y := 0) (w := .null) (by decide +kernel) (by decide +kernel) hb (fun c6 => ?_)
        refine b_run [(57, .aload_n 0, 0, 0, .null)] (pc' := 58) (ls' := [some (.ref 1315), none, some (.int y2), some (.int y3), some (.int y4), some (.int y5), some (.int y6), some (.int y7), none]) (st' := [.ref 1315, .int c6, .int (y5 - y4), .int y4, .ref 1315]) (by decide +kernel) rfl ?_
        refine b_getC (b := 1336) (q := 71) (ci := 9) (k := 27) (w := .null) (by decide +kernel) (by decide +kernel) ?_
        refine b_run [(61, .iload 7, 0, 0, .null)] (pc' := 63) (ls' := [some (.ref 1315), none, some (.int y2), some (.int y3), some (.int y4), some (.int y5), some (.int y6), some (.int y7), none]) (st' := [.int y7, .ref 1336, .int c6, .int (y5 - y4), .int y4, .ref 1315]) (by decide +kernel) rfl ?_
        refine b_guard (fun hb => ?_)
        refine b_aI (ci := 0) (y := 0) (w := .null) (by decide +kernel) (by decide +kernel) hb (fun c7 => ?_)
        refine b_callI 166 5 [.ref 1315, .int y4, .int (y5 - y4), .int c6, .int c7] (rest := []) (by decide +kernel) rfl rfl rfl (go_O rfl (by decide +kernel) (by decide +kernel : isO 1315 9 = true)) rfl (s166 hv F y4 (y5 - y4) c6 c7 σ) (by decide) (fun c9 σ8 => ?_)
        refine b_izT (c := .eq) (o := 7) (t := 74) (y := 0) (w := .null) (by decide +kernel) cmp_eq (fun _ => ?_) (fun _ => ?_)
        · refine b_run [(74, .iconst 0, 0, 0, .null)] (pc' := 75) (ls' := [some (.ref 1315), none, some (.int y2), some (.int y3), some (.int y4), some (.int y5), some (.int y6), some (.int y7), none]) (st' := [.int 0]) (by decide +kernel) rfl ?_
          exact b_wk (wS (wN (wS (wS (wS (wS (wN (wS (wN w0))))))))) (s165_75 hv F (f165_28 F n) ih y2 y3 y4 y5 y7 0 σ8)
        · exact b_wk (wS (wN (wS (wS (wS (wS (wN (wS (wN w0))))))))) (s165_70 hv F (f165_28 F n) ih y2 y3 y4 y5 y7 σ8)
      · exact b_wk (wS (wN (wS (wS (wS (wS (wN (wS (wN w0))))))))) (s165_70 hv F (f165_28 F n) ih y2 y3 y4 y5 y7 σ)
    · refine b_run [(83, .iload 6, 0, 0, .null)] (pc' := 85) (ls' := [some (.ref 1315), none, some (.int y2), some (.int y3), some (.int y4), some (.int y5), some (.int y6), some (.int y7), none]) (st' := [.int y6]) (by decide +kernel) rfl ?_
      refine b_izF (c := .ne) (o := 12) (t := 97) (y := 0) (w := .null) (by decide +kernel) cmp_ne (fun _ => ?_) (fun _ => ?_)
      · refine b_run [(88, .aload_n 0, 0, 0, .null), (89, .bipush 61, 0, 0, .null)] (pc' := 91) (ls' := [some (.ref 1315), none, some (.int y2), some (.int y3), some (.int y4), some (.int y5), some (.int y6), some (.int y7), none]) (st' := [.int 61, .ref 1315]) (by decide +kernel) rfl ?_
        refine b_callI 159 2 [.ref 1315, .int 61] (rest := []) (by decide +kernel) rfl rfl rfl (go_O rfl (by decide +kernel) (by decide +kernel : isO 1315 9 = true)) rfl (s159 hv F 61 σ) (by decide) (fun c11 σ10 => ?_)
        refine b_izF (c := .ne) (o := 9) (t := 103) (y := 0) (w := .null) (by decide +kernel) cmp_ne (fun _ => ?_) (fun _ => ?_)
        · refine b_run [(97, .aload_n 0, 0, 0, .null), (98, .iconst 1, 0, 0, .null)] (pc' := 99) (ls' := [some (.ref 1315), none, some (.int y2), some (.int y3), some (.int y4), some (.int y5), some (.int y6), some (.int y7), none]) (st' := [.int 1, .ref 1315]) (by decide +kernel) rfl ?_
          refine b_callI 154 2 [.ref 1315, .int 1] (rest := []) (by decide +kernel) rfl rfl rfl (go_O rfl (by decide +kernel) (by decide +kernel : isO 1315 9 = true)) rfl (s154 hv F 1 σ10) (by decide) (fun c13 σ12 => ?_)
          exact b_guard (fun hz => b_ret (i := (.ireturn, 0, 0, .null)) (by decide +kernel) rfl rfl (fit_Z hz))
        · refine b_run [(103, .aload_n 0, 0, 0, .null), (104, .aload_n 0, 0, 0, .null)] (pc' := 105) (ls' := [some (.ref 1315), none, some (.int y2), some (.int y3), some (.int y4), some (.int y5), some (.int y6), some (.int y7), none]) (st' := [.ref 1315, .ref 1315]) (by decide +kernel) rfl ?_
          refine b_gI (q := 181) (ci := 9) (k := 32) (w := .null) (by decide +kernel) (by decide +kernel) (fun c14 => ?_)
          refine b_callI 152 2 [.ref 1315, .int c14] (rest := []) (by decide +kernel) rfl rfl rfl (go_O rfl (by decide +kernel) (by decide +kernel : isO 1315 9 = true)) rfl (s152 hv F c14 σ10) (by decide) (fun c16 σ15 => ?_)
          refine b_run [(111, .istore 7, 0, 0, .null), (113, .iload 7, 0, 0, .null), (115, .bipush 34, 0, 0, .null)] (pc' := 117) (ls' := [some (.ref 1315), none, some (.int y2), some (.int y3), some (.int y4), some (.int y5), some (.int y6), some (.int c16), none]) (st' := [.int 34, .int c16]) (by decide +kernel) rfl ?_
          refine b_icT (c := .eq) (o := 16) (t := 133) (y := 0) (w := .null) (by decide +kernel) cmp_eq (fun _ => ?_) (fun _ => ?_)
          · exact b_wk (wS (wN (wS (wS (wS (wS (wN (wS (wN w0))))))))) (s165_133 hv F y2 y3 y4 y5 c16 σ15)
          · refine b_run [(120, .iload 7, 0, 0, .null), (122, .bipush 39, 0, 0, .null)] (pc' := 124) (ls' := [some (.ref 1315), none, some (.int y2), some (.int y3), some (.int y4), some (.int y5), some (.int y6), some (.int c16), none]) (st' := [.int 39, .int c16]) (by decide +kernel) rfl ?_
            refine b_icT (c := .eq) (o := 9) (t := 133) (y := 0) (w := .null) (by decide +kernel) cmp_eq (fun _ => ?_) (fun _ => ?_)
            · exact b_wk (wS (wN (wS (wS (wS (wS (wN (wS (wN w0))))))))) (s165_133 hv F y2 y3 y4 y5 c16 σ15)
            · refine b_run [(127, .aload_n 0, 0, 0, .null), (128, .iconst 1, 0, 0, .null)] (pc' := 129) (ls' := [some (.ref 1315), none, some (.int y2), some (.int y3), some (.int y4), some (.int y5), some (.int y6), some (.int c16), none]) (st' := [.int 1, .ref 1315]) (by decide +kernel) rfl ?_
              refine b_callI 154 2 [.ref 1315, .int 1] (rest := []) (by decide +kernel) rfl rfl rfl (go_O rfl (by decide +kernel) (by decide +kernel : isO 1315 9 = true)) rfl (s154 hv F 1 σ15) (by decide) (fun c39 σ38 => ?_)
              exact b_guard (fun hz => b_ret (i := (.ireturn, 0, 0, .null)) (by decide +kernel) rfl rfl (fit_Z hz))
      · refine b_run [(97, .aload_n 0, 0, 0, .null), (98, .iconst 1, 0, 0, .null)] (pc' := 99) (ls' := [some (.ref 1315), none, some (.int y2), some (.int y3), some (.int y4), some (.int y5), some (.int y6), some (.int y7), none]) (st' := [.int 1, .ref 1315]) (by decide +kernel) rfl ?_
        refine b_callI 154 2 [.ref 1315, .int 1] (rest := []) (by decide +kernel) rfl rfl rfl (go_O rfl (by decide +kernel) (by decide +kernel : isO 1315 9 = true)) rfl (s154 hv F 1 σ) (by decide) (fun c41 σ40 => ?_)
        exact b_guard (fun hz => b_ret (i := (.ireturn, 0, 0, .null)) (by decide +kernel) rfl rfl (fit_Z hz))
/-- TreeStoreModel.attribute(III)Z -/
def f165 (F : Nat) (x1 : Int32) (x2 : Int32) (x3 : Int32) (σ : St) : Rs := lt (σ.1 1315 32) fun c1 => cI (f163 F c1 σ) fun c3 σ2 => lt (uI σ2 1315 32 c3) fun σ4 => f165_28 F F x2 x3 c1 c3 0 (x1 + 1) σ4
theorem s165 {sc : aSc} (hv : vOk sc) (F : Nat) (x1 : Int32) (x2 : Int32) (x3 : Int32) (σ : St) : bEx sc 3 165 0 [some (.ref 1315), some (.int x1), some (.int x2), some (.int x3), none, none, none, none, none] [] σ (f165 F x1 x2 x3 σ) := by
  unfold f165
  refine b_run [(0, .aload_n 0, 0, 0, .null)] (pc' := 1) (ls' := [some (.ref 1315), some (.int x1), some (.int x2), some (.int x3), none, none, none, none, none]) (st' := [.ref 1315]) (by decide +kernel) rfl ?_
  refine b_gI (q := 181) (ci := 9) (k := 32) (w := .null) (by decide +kernel) (by decide +kernel) (fun c1 => ?_)
  refine b_run [(4, .istore 4, 0, 0, .null), (6, .aload_n 0, 0, 0, .null), (7, .iload 4, 0, 0, .null)] (pc' := 9) (ls' := [some (.ref 1315), some (.int x1), some (.int x2), some (.int x3), some (.int c1), none, none, none, none]) (st' := [.int c1, .ref 1315]) (by decide +kernel) rfl ?_
  refine b_callI 163 2 [.ref 1315, .int c1] (rest := []) (by decide +kernel) rfl rfl rfl (go_O rfl (by decide +kernel) (by decide +kernel : isO 1315 9 = true)) rfl (s163 hv F c1 σ) (by decide) (fun c3 σ2 => ?_)
  refine b_run [(12, .istore 5, 0, 0, .null), (14, .aload_n 0, 0, 0, .null), (15, .iload 5, 0, 0, .null)] (pc' := 17) (ls' := [some (.ref 1315), some (.int x1), some (.int x2), some (.int x3), some (.int c1), some (.int c3), none, none, none]) (st' := [.int c3, .ref 1315]) (by decide +kernel) rfl ?_
  refine b_pI (q := 181) (ci := 9) (k := 32) (w := .null) (by decide +kernel) (by decide +kernel) (fit_I _) (fun σ4 => ?_)
  refine b_run [(20, .iconst 0, 0, 0, .null), (21, .istore 6, 0, 0, .null), (23, .iload_n 1, 0, 0, .null), (24, .iconst 1, 0, 0, .null), (25, .iadd, 0, 0, .null), (26, .istore 7, 0, 0, .null)] (pc' := 28) (ls' := [some (.ref 1315), some (.int x1), some (.int x2), some (.int x3), some (.int c1), some (.int c3), some (.int 0), some (.int (x1 + 1)), none]) (st' := []) (by decide +kernel) rfl ?_
  exact b_wk (wS (wN (wS (wS (wS (wS (wS (wS (wN w0))))))))) (s165_28 hv F F x2 x3 c1 c3 0 (x1 + 1) σ4)
/-- TreeStoreModel.isBlank(I)Z -/
def f153 (F : Nat) (x0 : Int32) (σ : St) : Rs := if x0 = 10 then oI 1 σ
    else if x0 = 32 then oI 1 σ
    else oI 0 σ
theorem s153 {sc : aSc} (hv : vOk sc) (F : Nat) (x0 : Int32) (σ : St) : bEx sc 0 153 0 [some (.int x0)] [] σ (f153 F x0 σ) := by
  unfold f153
  refine b_run [(0, .iload_n 0, 0, 0, .null), (1, .bipush 10, 0, 0, .null)] (pc' := 3) (ls' := [some (.int x0)]) (st' := [.int 10, .int x0]) (by decide +kernel) rfl ?_
  refine b_icT (c := .eq) (o := 9) (t := 12) (y := 0) (w := .null) (by decide +kernel) cmp_eq (fun _ => ?_) (fun _ => ?_)
  · refine b_run [(12, .iconst 1, 0, 0, .null), (13, .goto 4, 17, 0, .null)] (pc' := 17) (ls' := [some (.int x0)]) (st' := [.int 1]) (by decide +kernel) rfl ?_
    exact b_ret (i := (.ireturn, 0, 0, .null)) (by decide +kernel) rfl rfl (by decide +kernel)
  · refine b_run [(6, .iload_n 0, 0, 0, .null), (7, .bipush 32, 0, 0, .null)] (pc' := 9) (ls' := [some (.int x0)]) (st' := [.int 32, .int x0]) (by decide +kernel) rfl ?_
    refine b_icF (c := .ne) (o := 7) (t := 16) (y := 0) (w := .null) (by decide +kernel) cmp_ne (fun _ => ?_) (fun _ => ?_)
    · refine b_run [(12, .iconst 1, 0, 0, .null), (13, .goto 4, 17, 0, .null)] (pc' := 17) (ls' := [some (.int x0)]) (st' := [.int 1]) (by decide +kernel) rfl ?_
      exact b_ret (i := (.ireturn, 0, 0, .null)) (by decide +kernel) rfl rfl (by decide +kernel)
    · refine b_run [(16, .iconst 0, 0, 0, .null)] (pc' := 17) (ls' := [some (.int x0)]) (st' := [.int 0]) (by decide +kernel) rfl ?_
      exact b_ret (i := (.ireturn, 0, 0, .null)) (by decide +kernel) rfl rfl (by decide +kernel)
/-- TreeStoreModel.blanks()V -/
def f151_0 (F : Nat) : Nat → St → Rs
  | 0, _ => none
  | n + 1, σ => lt (σ.1 1315 32) fun c1 => 
    cI (f152 F c1 σ) fun c3 σ2 => 
    cI (f153 F c3 σ2) fun c5 σ4 => 
    if c5 = 0 then oV σ4
    else lt (σ4.1 1315 32) fun c6 => lt (uI σ4 1315 32 (c6 + 1)) fun σ7 => f151_0 F n σ7
theorem s151_0 {sc : aSc} (hv : vOk sc) (F : Nat) : ∀ (n : Nat) (σ : St), bEx sc 1 151 0 [some (.ref 1315)] [] σ (f151_0 F n σ) := by
  intro n
  induction n with
  | zero => intro σ; exact b_none
  | succ n ih =>
    intro σ
    rw [f151_0.eq_2]
    refine b_run [(0, .aload_n 0, 0, 0, .null), (1, .aload_n 0, 0, 0, .null)] (pc' := 2) (ls' := [some (.ref 1315)]) (st' := [.ref 1315, .ref 1315]) (by decide +kernel) rfl ?_
    refine b_gI (q := 181) (ci := 9) (k := 32) (w := .null) (by decide +kernel) (by decide +kernel) (fun c1 => ?_)
    refine b_callI 152 2 [.ref 1315, .int c1] (rest := []) (by decide +kernel) rfl rfl rfl (go_O rfl (by decide +kernel) (by decide +kernel : isO 1315 9 = true)) rfl (s152 hv F c1 σ) (by decide) (fun c3 σ2 => ?_)
    refine b_callI 153 1 [.int c3] (rest := []) (by decide +kernel) rfl rfl rfl (go_S rfl (by decide +kernel)) rfl (s153 hv F c3 σ2) (by decide) (fun c5 σ4 => ?_)
    refine b_izT (c := .eq) (o := 16) (t := 27) (y := 0) (w := .null) (by decide +kernel) cmp_eq (fun _ => ?_) (fun _ => ?_)
    · exact b_ret0 (i := (.return_, 0, 0, .null)) (by decide +kernel) rfl rfl
    · refine b_run [(14, .aload_n 0, 0, 0, .null), (15, .dup, 0, 0, .null)] (pc' := 16) (ls' := [some (.ref 1315)]) (st' := [.ref 1315, .ref 1315]) (by decide +kernel) rfl ?_
      refine b_gI (q := 181) (ci := 9) (k := 32) (w := .null) (by decide +kernel) (by decide +kernel) (fun c6 => ?_)
      refine b_run [(19, .iconst 1, 0, 0, .null), (20, .iadd, 0, 0, .null)] (pc' := 21) (ls' := [some (.ref 1315)]) (st' := [.int (c6 + 1), .ref 1315]) (by decide +kernel) rfl ?_
      refine b_pI (q := 181) (ci := 9) (k := 32) (w := .null) (by decide +kernel) (by decide +kernel) (fit_I _) (fun σ7 => ?_)
      refine b_run [(24, .goto (-24), 0, 0, .null)] (pc' := 0) (ls' := [some (.ref 1315)]) (st' := []) (by decide +kernel) rfl ?_
      exact b_wk (wS w0) (ih σ7)
def f151 (F : Nat) (σ : St) : Rs := f151_0 F F σ
theorem s151 {sc : aSc} (hv : vOk sc) (F : Nat) (σ : St) : bEx sc 1 151 0 [some (.ref 1315)] [] σ (f151 F σ) := b_wk (wS w0) (s151_0 hv F F σ)
def f162_75 (F : Nat) : Nat → Int32 → Int32 → Int32 → St → Rs
  | 0, _, _, _, _ => none
  | n + 1, y1, y3, y6, σ => lt (σ.1 1315 32) fun c12 => 
    cI (f152 F c12 σ) fun c14 σ13 => 
    cI (f153 F c14 σ13) fun c16 σ15 => 
    cV (f151 F σ15) fun σ17 => 
    lt (σ17.1 1315 32) fun c19 => 
    cI (f152 F c19 σ17) fun c21 σ20 => 
    if c21 = 62 then lt (σ20.1 1315 32) fun c22 => lt (uI σ20 1315 32 (c22 + 1)) fun σ23 => oI 1 σ23
    else lt (σ20.1 1315 32) fun c24 => 
    cI (f152 F c24 σ20) fun c26 σ25 => 
    if c26 = 47 then 
    lt (σ25.1 1315 32) fun c27 => 
    lt (uI σ25 1315 32 (c27 + 1)) fun σ28 => 
    cI (f159 F 62 σ28) fun c30 σ29 => 
    if c30 = 0 then oI 0 σ29
    else oI 2 σ29
    else if c16 = 0 then cI (f154 F 1 σ25) fun c32 σ31 => oI 0 σ31
    else lt (σ25.1 1315 32) fun c33 => 
    cI (f152 F c33 σ25) fun c35 σ34 => 
    cI (f156 F c35 σ34) fun c37 σ36 => 
    if c37 = 0 then cI (f154 F 1 σ36) fun c39 σ38 => oI 0 σ38
    else cI (f165 F y6 (y1 + 1) y3 σ36) fun c41 σ40 => 
    if c41 = 0 then oI 0 σ40
    else f162_75 F n y1 y3 y6 σ40
theorem s162_75 {sc : aSc} (hv : vOk sc) (F : Nat) : ∀ (n : Nat) (y1 : Int32) (y3 : Int32) (y6 : Int32) (σ : St), bEx sc 4 162 75 [some (.ref 1315), some (.int y1), none, some (.int y3), none, none, some (.int y6), none] [] σ (f162_75 F n y1 y3 y6 σ) := by
  intro n
  induction n with
  | zero => intro y1 y3 y6 σ; exact b_none
  | succ n ih =>
    intro y1 y3 y6 σ
    rw [f162_75.eq_2]
    refine b_run [(75, .aload_n 0, 0, 0, .null), (76, .aload_n 0, 0, 0, .null)] (pc' := 77) (ls' := [some (.ref 1315), some (.int y1), none, some (.int y3), none, none, some (.int y6), none]) (st' := [.ref 1315, .ref 1315]) (by decide +kernel) rfl ?_
    refine b_gI (q := 181) (ci := 9) (k := 32) (w := .null) (by decide +kernel) (by decide +kernel) (fun c12 => ?_)
    refine b_callI 152 2 [.ref 1315, .int c12] (rest := []) (by decide +kernel) rfl rfl rfl (go_O rfl (by decide +kernel) (by decide +kernel : isO 1315 9 = true)) rfl (s152 hv F c12 σ) (by decide) (fun c14 σ13 => ?_)
    refine b_callI 153 1 [.int c14] (rest := []) (by decide +kernel) rfl rfl rfl (go_S rfl (by decide +kernel)) rfl (s153 hv F c14 σ13) (by decide) (fun c16 σ15 => ?_)
    refine b_run [(86, .istore 7, 0, 0, .null), (88, .aload_n 0, 0, 0, .null)] (pc' := 89) (ls' := [some (.ref 1315), some (.int y1), none, some (.int y3), none, none, some (.int y6), some (.int c16)]) (st' := [.ref 1315]) (by decide +kernel) rfl ?_
    refine b_callV 151 1 [.ref 1315] (rest := []) (by decide +kernel) rfl rfl rfl (go_O rfl (by decide +kernel) (by decide +kernel : isO 1315 9 = true)) rfl (s151 hv F σ15) (by decide) (fun σ17 => ?_)
    refine b_run [(92, .aload_n 0, 0, 0, .null), (93, .aload_n 0, 0, 0, .null)] (pc' := 94) (ls' := [some (.ref 1315), some (.int y1), none, some (.int y3), none, none, some (.int y6), some (.int c16)]) (st' := [.ref 1315, .ref 1315]) (by decide +kernel) rfl ?_
    refine b_gI (q := 181) (ci := 9) (k := 32) (w := .null) (by decide +kernel) (by decide +kernel) (fun c19 => ?_)
    refine b_callI 152 2 [.ref 1315, .int c19] (rest := []) (by decide +kernel) rfl rfl rfl (go_O rfl (by decide +kernel) (by decide +kernel : isO 1315 9 = true)) rfl (s152 hv F c19 σ17) (by decide) (fun c21 σ20 => ?_)
    refine b_run [(100, .bipush 62, 0, 0, .null)] (pc' := 102) (ls' := [some (.ref 1315), some (.int y1), none, some (.int y3), none, none, some (.int y6), some (.int c16)]) (st' := [.int 62, .int c21]) (by decide +kernel) rfl ?_
    refine b_icF (c := .ne) (o := 15) (t := 117) (y := 0) (w := .null) (by decide +kernel) cmp_ne (fun _ => ?_) (fun _ => ?_)
    · refine b_run [(105, .aload_n 0, 0, 0, .null), (106, .dup, 0, 0, .null)] (pc' := 107) (ls' := [some (.ref 1315), some (.int y1), none, some (.int y3), none, none, some (.int y6), some (.int c16)]) (st' := [.ref 1315, .ref 1315]) (by decide +kernel) rfl ?_
      refine b_gI (q := 181) (ci := 9) (k := 32) (w := .null) (by decide +kernel) (by decide +kernel) (fun c22 => ?_)
      refine b_run [(110, .iconst 1, 0, 0, .null), (111, .iadd, 0, 0, .null)] (pc' := 112) (ls' := [some (.ref 1315), some (.int y1), none, some (.int y3), none, none, some (.int y6), some (.int c16)]) (st' := [.int (c22 + 1), .ref 1315]) (by decide +kernel) rfl ?_
      refine b_pI (q := 181) (ci := 9) (k := 32) (w := .null) (by decide +kernel) (by decide +kernel) (fit_I _) (fun σ23 => ?_)
      refine b_run [(115, .iconst 1, 0, 0, .null)] (pc' := 116) (ls' := [some (.ref 1315), some (.int y1), none, some (.int y3), none, none, some (.int y6), some (.int c16)]) (st' := [.int 1]) (by decide +kernel) rfl ?_
      exact b_ret (i := (.ireturn, 0, 0, .null)) (by decide +kernel) rfl rfl (fit_I _)
    · refine b_run [(117, .aload_n 0, 0, 0, .null), (118, .aload_n 0, 0, 0, .null)] (pc' := 119) (ls' := [some (.ref 1315), some (.int y1), none, some (.int y3), none, none, some (.int y6), some (.int c16)]) (st' := [.ref 1315, .ref 1315]) (by decide +kernel) rfl ?_
      refine b_gI (q := 181) (ci := 9) (k := 32) (w := .null) (by decide +kernel) (by decide +kernel) (fun c24 => ?_)
      refine b_callI 152 2 [.ref 1315, .int c24] (rest := []) (by decide +kernel) rfl rfl rfl (go_O rfl (by decide +kernel) (by decide +kernel : isO 1315 9 = true)) rfl (s152 hv F c24 σ20) (by decide) (fun c26 σ25 => ?_)
      refine b_run [(125, .bipush 47, 0, 0, .null)] (pc' := 127) (ls' := [some (.ref 1315), some (.int y1), none, some (.int y3), none, none, some (.int y6), some (.int c16)]) (st' := [.int 47, .int c26]) (by decide +kernel) rfl ?_
      refine b_icF (c := .ne) (o := 28) (t := 155) (y := 0) (w := .null) (by decide +kernel) cmp_ne (fun _ => ?_) (fun _ => ?_)
      · refine b_run [(130, .aload_n 0, 0, 0, .null), (131, .dup, 0, 0, .null)] (pc' := 132) (ls' := [some (.ref 1315), some (.int y1), none, some (.int y3), none, none, some (.int y6), some (.int c16)]) (st' := [.ref 1315, .ref 1315]) (by decide +kernel) rfl ?_
        refine b_gI (q := 181) (ci := 9) (k := 32) (w := .null) (by decide +kernel) (by decide +kernel) (fun c27 => ?_)
        refine b_run [(135, .iconst 1, 0, 0, .null), (136, .iadd, 0, 0, .null)] (pc' := 137) (ls' := [some (.ref 1315), some (.int y1), none, some (.int y3), none, none, some (.int y6), some (.int c16)]) (st' := [.int (c27 + 1), .ref 1315]) (by decide +kernel) rfl ?_
        refine b_pI (q := 181) (ci := 9) (k := 32) (w := .null) (by decide +kernel) (by decide +kernel) (fit_I _) (fun σ28 => ?_)
        refine b_run [(140, .aload_n 0, 0, 0, .null), (141, .bipush 62, 0, 0, .null)] (pc' := 143) (ls' := [some (.ref 1315), some (.int y1), none, some (.int y3), none, none, some (.int y6), some (.int c16)]) (st' := [.int 62, .ref 1315]) (by decide +kernel) rfl ?_
        refine b_callI 159 2 [.ref 1315, .int 62] (rest := []) (by decide +kernel) rfl rfl rfl (go_O rfl (by decide +kernel) (by decide +kernel : isO 1315 9 = true)) rfl (s159 hv F 62 σ28) (by decide) (fun c30 σ29 => ?_)
        refine b_izT (c := .eq) (o := 7) (t := 153) (y := 0) (w := .null) (by decide +kernel) cmp_eq (fun _ => ?_) (fun _ => ?_)
        · refine b_run [(153, .iconst 0, 0, 0, .null)] (pc' := 154) (ls' := [some (.ref 1315), some (.int y1), none, some (.int y3), none, none, some (.int y6), some (.int c16)]) (st' := [.int 0]) (by decide +kernel) rfl ?_
          exact b_ret (i := (.ireturn, 0, 0, .null)) (by decide +kernel) rfl rfl (fit_I _)
        · refine b_run [(149, .iconst 2, 0, 0, .null), (150, .goto 4, 154, 0, .null)] (pc' := 154) (ls' := [some (.ref 1315), some (.int y1), none, some (.int y3), none, none, some (.int y6), some (.int c16)]) (st' := [.int 2]) (by decide +kernel) rfl ?_
          exact b_ret (i := (.ireturn, 0, 0, .null)) (by decide +kernel) rfl rfl (fit_I _)
      · refine b_run [(155, .iload 7, 0, 0, .null)] (pc' := 157) (ls' := [some (.ref 1315), some (.int y1), none, some (.int y3), none, none, some (.int y6), some (.int c16)]) (st' := [.int c16]) (by decide +kernel) rfl ?_
        refine b_izT (c := .eq) (o := 17) (t := 174) (y := 0) (w := .null) (by decide +kernel) cmp_eq (fun _ => ?_) (fun _ => ?_)
        · refine b_run [(174, .aload_n 0, 0, 0, .null), (175, .iconst 1, 0, 0, .null)] (pc' := 176) (ls' := [some (.ref 1315), some (.int y1), none, some (.int y3), none, none, some (.int y6), some (.int c16)]) (st' := [.int 1, .ref 1315]) (by decide +kernel) rfl ?_
          refine b_callI 154 2 [.ref 1315, .int 1] (rest := []) (by decide +kernel) rfl rfl rfl (go_O rfl (by decide +kernel) (by decide +kernel : isO 1315 9 = true)) rfl (s154 hv F 1 σ25) (by decide) (fun c32 σ31 => ?_)
          refine b_run [(179, .pop, 0, 0, .null), (180, .iconst 0, 0, 0, .null)] (pc' := 181) (ls' := [some (.ref 1315), some (.int y1), none, some (.int y3), none, none, some (.int y6), some (.int c16)]) (st' := [.int 0]) (by decide +kernel) rfl ?_
          exact b_ret (i := (.ireturn, 0, 0, .null)) (by decide +kernel) rfl rfl (fit_I _)
        · refine b_run [(160, .aload_n 0, 0, 0, .null), (161, .aload_n 0, 0, 0, .null)] (pc' := 162) (ls' := [some (.ref 1315), some (.int y1), none, some (.int y3), none, none, some (.int y6), some (.int c16)]) (st' := [.ref 1315, .ref 1315]) (by decide +kernel) rfl ?_
          refine b_gI (q := 181) (ci := 9) (k := 32) (w := .null) (by decide +kernel) (by decide +kernel) (fun c33 => ?_)
          refine b_callI 152 2 [.ref 1315, .int c33] (rest := []) (by decide +kernel) rfl rfl rfl (go_O rfl (by decide +kernel) (by decide +kernel : isO 1315 9 = true)) rfl (s152 hv F c33 σ25) (by decide) (fun c35 σ34 => ?_)
          refine b_callI 156 1 [.int c35] (rest := []) (by decide +kernel) rfl rfl rfl (go_S rfl (by decide +kernel)) rfl (s156 hv F c35 σ34) (by decide) (fun c37 σ36 => ?_)
          refine b_izF (c := .ne) (o := 11) (t := 182) (y := 0) (w := .null) (by decide +kernel) cmp_ne (fun _ => ?_) (fun _ => ?_)
          · refine b_run [(174, .aload_n 0, 0, 0, .null), (175, .iconst 1, 0, 0, .null)] (pc' := 176) (ls' := [some (.ref 1315), some (.int y1), none, some (.int y3), none, none, some (.int y6), some (.int c16)]) (st' := [.int 1, .ref 1315]) (by decide +kernel) rfl ?_
            refine b_callI 154 2 [.ref 1315, .int 1] (rest := []) (by decide +kernel) rfl rfl rfl (go_O rfl (by decide +kernel) (by decide +kernel : isO 1315 9 = true)) rfl (s154 hv F 1 σ36) (by decide) (fun c39 σ38 => ?_)
            refine b_run [(179, .pop, 0, 0, .null), (180, .iconst 0, 0, 0, .null)] (pc' := 181) (ls' := [some (.ref 1315), some (.int y1), none, some (.int y3), none, none, some (.int y6), some (.int c16)]) (st' := [.int 0]) (by decide +kernel) rfl ?_
            exact b_ret (i := (.ireturn, 0, 0, .null)) (by decide +kernel) rfl rfl (fit_I _)
          · refine b_run [(182, .aload_n 0, 0, 0, .null), (183, .iload 6, 0, 0, .null), (185, .iload_n 1, 0, 0, .null), (186, .iconst 1, 0, 0, .null), (187, .iadd, 0, 0, .null), (188, .iload_n 3, 0, 0, .null)] (pc' := 189) (ls' := [some (.ref 1315), some (.int y1), none, some (.int y3), none, none, some (.int y6), some (.int c16)]) (st' := [.int y3, .int (y1 + 1), .int y6, .ref 1315]) (by decide +kernel) rfl ?_
            refine b_callI 165 4 [.ref 1315, .int y6, .int (y1 + 1), .int y3] (rest := []) (by decide +kernel) rfl rfl rfl (go_O rfl (by decide +kernel) (by decide +kernel : isO 1315 9 = true)) rfl (s165 hv F y6 (y1 + 1) y3 σ36) (by decide) (fun c41 σ40 => ?_)
            refine b_izF (c := .ne) (o := 5) (t := 197) (y := 0) (w := .null) (by decide +kernel) cmp_ne (fun _ => ?_) (fun _ => ?_)
            · refine b_run [(195, .iconst 0, 0, 0, .null)] (pc' := 196) (ls' := [some (.ref 1315), some (.int y1), none, some (.int y3), none, none, some (.int y6), some (.int c16)]) (st' := [.int 0]) (by decide +kernel) rfl ?_
              exact b_ret (i := (.ireturn, 0, 0, .null)) (by decide +kernel) rfl rfl (fit_I _)
            · refine b_run [(197, .goto (-122), 75, 0, .null)] (pc' := 75) (ls' := [some (.ref 1315), some (.int y1), none, some (.int y3), none, none, some (.int y6), some (.int c16)]) (st' := []) (by decide +kernel) rfl ?_
              exact b_wk (wS (wS (wN (wS (wN (wN (wS (wN w0)))))))) (ih y1 y3 y6 σ40)
/-- TreeStoreModel.head(III)I -/
def f162 (F : Nat) (x1 : Int32) (x2 : Int32) (x3 : Int32) (σ : St) : Rs := lt (σ.1 1315 32) fun c1 => 
    cI (f163 F (c1 + 1) σ) fun c3 σ2 => 
    lt (σ2.1 1315 22) fun c4 => 
    lt (uI σ2 1315 32 c3) fun σ5 => 
    if 8 < x2 then cI (f154 F 3 σ5) fun c7 σ6 => oI 0 σ6
    else cI (f160 F 1 x1 x3 σ5) fun c9 σ8 => 
    if c9 = 0 then oI 0 σ8
    else if inB c4 31 then lt (uI σ8 1335 c4.toNatClampNeg (c1 + 1)) fun σ10 => if inB c4 31 then lt (uI σ10 1336 c4.toNatClampNeg (c3 - (c1 + 1))) fun σ11 => f162_75 F F x1 x3 c4 σ11 else none else none
theorem s162 {sc : aSc} (hv : vOk sc) (F : Nat) (x1 : Int32) (x2 : Int32) (x3 : Int32) (σ : St) : bEx sc 4 162 0 [some (.ref 1315), some (.int x1), some (.int x2), some (.int x3), none, none, none, none] [] σ (f162 F x1 x2 x3 σ) := by
  unfold f162
  refine b_run [(0, .aload_n 0, 0, 0, .null)] (pc' := 1) (ls' := [some (.ref 1315), some (.int x1), some (.int x2), some (.int x3), none, none, none, none]) (st' := [.ref 1315]) (by decide +kernel) rfl ?_
  refine b_gI (q := 181) (ci := 9) (k := 32) (w := .null) (by decide +kernel) (by decide +kernel) (fun c1 => ?_)
  refine b_run [(4, .iconst 1, 0, 0, .null), (5, .iadd, 0, 0, .null), (6, .istore 4, 0, 0, .null), (8, .aload_n 0, 0, 0, .null), (9, .iload 4, 0, 0, .null)] (pc' := 11) (ls' := [some (.ref 1315), some (.int x1), some (.int x2), some (.int x3), some (.int (c1 + 1)), none, none, none]) (st' := [.int (c1 + 1), .ref 1315]) (by decide +kernel) rfl ?_
  refine b_callI 163 2 [.ref 1315, .int (c1 + 1)] (rest := []) (by decide +kernel) rfl rfl rfl (go_O rfl (by decide +kernel) (by decide +kernel : isO 1315 9 = true)) rfl (s163 hv F (c1 + 1) σ) (by decide) (fun c3 σ2 => ?_)
  refine b_run [(14, .istore 5, 0, 0, .null), (16, .aload_n 0, 0, 0, .null)] (pc' := 17) (ls' := [some (.ref 1315), some (.int x1), some (.int x2), some (.int x3), some (.int (c1 + 1)), some (.int c3), none, none]) (st' := [.ref 1315]) (by decide +kernel) rfl ?_
  refine b_gI (q := 172) (ci := 9) (k := 22) (w := .null) (by decide +kernel) (by decide +kernel) (fun c4 => ?_)
  refine b_run [(20, .istore 6, 0, 0, .null), (22, .aload_n 0, 0, 0, .null), (23, .iload 5, 0, 0, .null)] (pc' := 25) (ls' := [some (.ref 1315), some (.int x1), some (.int x2), some (.int x3), some (.int (c1 + 1)), some (.int c3), some (.int c4), none]) (st' := [.int c3, .ref 1315]) (by decide +kernel) rfl ?_
  refine b_pI (q := 181) (ci := 9) (k := 32) (w := .null) (by decide +kernel) (by decide +kernel) (fit_I _) (fun σ5 => ?_)
  refine b_run [(28, .iload_n 2, 0, 0, .null), (29, .bipush 8, 0, 0, .null)] (pc' := 31) (ls' := [some (.ref 1315), some (.int x1), some (.int x2), some (.int x3), some (.int (c1 + 1)), some (.int c3), some (.int c4), none]) (st' := [.int 8, .int x2]) (by decide +kernel) rfl ?_
  refine b_icF (c := .le) (o := 11) (t := 42) (y := 0) (w := .null) (by decide +kernel) cmp_le (fun _ => ?_) (fun _ => ?_)
  · refine b_run [(34, .aload_n 0, 0, 0, .null), (35, .iconst 3, 0, 0, .null)] (pc' := 36) (ls' := [some (.ref 1315), some (.int x1), some (.int x2), some (.int x3), some (.int (c1 + 1)), some (.int c3), some (.int c4), none]) (st' := [.int 3, .ref 1315]) (by decide +kernel) rfl ?_
    refine b_callI 154 2 [.ref 1315, .int 3] (rest := []) (by decide +kernel) rfl rfl rfl (go_O rfl (by decide +kernel) (by decide +kernel : isO 1315 9 = true)) rfl (s154 hv F 3 σ5) (by decide) (fun c7 σ6 => ?_)
    refine b_run [(39, .pop, 0, 0, .null), (40, .iconst 0, 0, 0, .null)] (pc' := 41) (ls' := [some (.ref 1315), some (.int x1), some (.int x2), some (.int x3), some (.int (c1 + 1)), some (.int c3), some (.int c4), none]) (st' := [.int 0]) (by decide +kernel) rfl ?_
    exact b_ret (i := (.ireturn, 0, 0, .null)) (by decide +kernel) rfl rfl (fit_I _)
  · refine b_run [(42, .aload_n 0, 0, 0, .null), (43, .iconst 1, 0, 0, .null), (44, .iload_n 1, 0, 0, .null), (45, .iload_n 3, 0, 0, .null)] (pc' := 46) (ls' := [some (.ref 1315), some (.int x1), some (.int x2), some (.int x3), some (.int (c1 + 1)), some (.int c3), some (.int c4), none]) (st' := [.int x3, .int x1, .int 1, .ref 1315]) (by decide +kernel) rfl ?_
    refine b_callI 160 4 [.ref 1315, .int 1, .int x1, .int x3] (rest := []) (by decide +kernel) rfl rfl rfl (go_O rfl (by decide +kernel) (by decide +kernel : isO 1315 9 = true)) rfl (s160 hv F 1 x1 x3 σ5) (by decide) (fun c9 σ8 => ?_)
    refine b_izF (c := .ne) (o := 5) (t := 54) (y := 0) (w := .null) (by decide +kernel) cmp_ne (fun _ => ?_) (fun _ => ?_)
    · refine b_run [(52, .iconst 0, 0, 0, .null)] (pc' := 53) (ls' := [some (.ref 1315), some (.int x1), some (.int x2), some (.int x3), some (.int (c1 + 1)), some (.int c3), some (.int c4), none]) (st' := [.int 0]) (by decide +kernel) rfl ?_
      exact b_ret (i := (.ireturn, 0, 0, .null)) (by decide +kernel) rfl rfl (fit_I _)
    · refine b_run [(54, .aload_n 0, 0, 0, .null)] (pc' := 55) (ls' := [some (.ref 1315), some (.int x1), some (.int x2), some (.int x3), some (.int (c1 + 1)), some (.int c3), some (.int c4), none]) (st' := [.ref 1315]) (by decide +kernel) rfl ?_
      refine b_getC (b := 1335) (q := 68) (ci := 9) (k := 26) (w := .null) (by decide +kernel) (by decide +kernel) ?_
      refine b_run [(58, .iload 6, 0, 0, .null), (60, .iload 4, 0, 0, .null)] (pc' := 62) (ls' := [some (.ref 1315), some (.int x1), some (.int x2), some (.int x3), some (.int (c1 + 1)), some (.int c3), some (.int c4), none]) (st' := [.int (c1 + 1), .int c4, .ref 1335]) (by decide +kernel) rfl ?_
      refine b_guard (fun hb => ?_)
      refine b_sI (ci := 0) (y := 0) (w := .null) (by decide +kernel) (by decide +kernel) hb (fun σ10 => ?_)
      refine b_run [(63, .aload_n 0, 0, 0, .null)] (pc' := 64) (ls' := [some (.ref 1315), some (.int x1), some (.int x2), some (.int x3), some (.int (c1 + 1)), some (.int c3), some (.int c4), none]) (st' := [.ref 1315]) (by decide +kernel) rfl ?_
      refine b_getC (b := 1336) (q := 71) (ci := 9) (k := 27) (w := .null) (by decide +kernel) (by decide +kernel) ?_
      refine b_run [(67, .iload 6, 0, 0, .null), (69, .iload 5, 0, 0, .null), (71, .iload 4, 0, 0, .null), (73, .isub, 0, 0, .null)] (pc' := 74) (ls' := [some (.ref 1315), some (.int x1), some (.int x2), some (.int x3), some (.int (c1 + 1)), some (.int c3), some (.int c4), none]) (st' := [.int (c3 - (c1 + 1)), .int c4, .ref 1336]) (by decide +kernel) rfl ?_
      refine b_guard (fun hb => ?_)
      refine b_sI (ci := 0) (y := 0) (w := .null) (by decide +kernel) (by decide +kernel) hb (fun σ11 => ?_)
      exact b_wk (wS (wS (wN (wS (wN (wN (wS (wN w0)))))))) (s162_75 hv F F x1 x3 c4 σ11)
def f170_52 (F : Nat) (y3 : Int32) (σ : St) : Rs := lt (σ.1 1315 23) fun c7 => 
    if inB y3 31 then lt (σ.1 1337 y3.toNatClampNeg) fun c8 => if inB y3 31 then lt (uI σ 1338 y3.toNatClampNeg (c7 - c8)) fun σ9 => oI 1 σ9 else none else none
theorem s170_52 {sc : aSc} (hv : vOk sc) (F : Nat) (y3 : Int32) (σ : St) : bEx sc 3 170 52 [some (.ref 1315), none, none, some (.int y3)] [] σ (f170_52 F y3 σ) := by
  unfold f170_52
  refine b_run [(52, .aload_n 0, 0, 0, .null)] (pc' := 53) (ls' := [some (.ref 1315), none, none, some (.int y3)]) (st' := [.ref 1315]) (by decide +kernel) rfl ?_
  refine b_getC (b := 1338) (q := 77) (ci := 9) (k := 29) (w := .null) (by decide +kernel) (by decide +kernel) ?_
  refine b_run [(56, .iload_n 3, 0, 0, .null), (57, .aload_n 0, 0, 0, .null)] (pc' := 58) (ls' := [some (.ref 1315), none, none, some (.int y3)]) (st' := [.ref 1315, .int y3, .ref 1338]) (by decide +kernel) rfl ?_
  refine b_gI (q := 178) (ci := 9) (k := 23) (w := .null) (by decide +kernel) (by decide +kernel) (fun c7 => ?_)
  refine b_run [(61, .aload_n 0, 0, 0, .null)] (pc' := 62) (ls' := [some (.ref 1315), none, none, some (.int y3)]) (st' := [.ref 1315, .int c7, .int y3, .ref 1338]) (by decide +kernel) rfl ?_
  refine b_getC (b := 1337) (q := 74) (ci := 9) (k := 28) (w := .null) (by decide +kernel) (by decide +kernel) ?_
  refine b_run [(65, .iload_n 3, 0, 0, .null)] (pc' := 66) (ls' := [some (.ref 1315), none, none, some (.int y3)]) (st' := [.int y3, .ref 1337, .int c7, .int y3, .ref 1338]) (by decide +kernel) rfl ?_
  refine b_guard (fun hb => ?_)
  refine b_aI (ci := 0) (y := 0) (w := .null) (by decide +kernel) (by decide +kernel) hb (fun c8 => ?_)
  refine b_run [(67, .isub, 0, 0, .null)] (pc' := 68) (ls' := [some (.ref 1315), none, none, some (.int y3)]) (st' := [.int (c7 - c8), .int y3, .ref 1338]) (by decide +kernel) rfl ?_
  refine b_guard (fun hb => ?_)
  refine b_sI (ci := 0) (y := 0) (w := .null) (by decide +kernel) (by decide +kernel) hb (fun σ9 => ?_)
  refine b_run [(69, .iconst 1, 0, 0, .null)] (pc' := 70) (ls' := [some (.ref 1315), none, none, some (.int y3)]) (st' := [.int 1]) (by decide +kernel) rfl ?_
  exact b_ret (i := (.ireturn, 0, 0, .null)) (by decide +kernel) rfl rfl (by decide +kernel)
def f170_19 (F : Nat) : Nat → Int32 → St → Rs
  | 0, _, _ => none
  | n + 1, y3, σ => lt (σ.1 1315 32) fun c4 => 
    cI (f152 F c4 σ) fun c6 σ5 => 
    if c6 = 0 then f170_52 F y3 σ5
    else lt (σ5.1 1315 32) fun c10 => 
    cI (f152 F c10 σ5) fun c12 σ11 => 
    if c12 = 60 then f170_52 F y3 σ11
    else cI (f167 F σ11) fun c14 σ13 => 
    if c14 = 0 then oI 0 σ13
    else f170_19 F n y3 σ13
theorem s170_19 {sc : aSc} (hv : vOk sc) (F : Nat) : ∀ (n : Nat) (y3 : Int32) (σ : St), bEx sc 3 170 19 [some (.ref 1315), none, none, some (.int y3)] [] σ (f170_19 F n y3 σ) := by
  intro n
  induction n with
  | zero => intro y3 σ; exact b_none
  | succ n ih =>
    intro y3 σ
    rw [f170_19.eq_2]
    refine b_run [(19, .aload_n 0, 0, 0, .null), (20, .aload_n 0, 0, 0, .null)] (pc' := 21) (ls' := [some (.ref 1315), none, none, some (.int y3)]) (st' := [.ref 1315, .ref 1315]) (by decide +kernel) rfl ?_
    refine b_gI (q := 181) (ci := 9) (k := 32) (w := .null) (by decide +kernel) (by decide +kernel) (fun c4 => ?_)
    refine b_callI 152 2 [.ref 1315, .int c4] (rest := []) (by decide +kernel) rfl rfl rfl (go_O rfl (by decide +kernel) (by decide +kernel : isO 1315 9 = true)) rfl (s152 hv F c4 σ) (by decide) (fun c6 σ5 => ?_)
    refine b_izT (c := .eq) (o := 25) (t := 52) (y := 0) (w := .null) (by decide +kernel) cmp_eq (fun _ => ?_) (fun _ => ?_)
    · exact b_wk (wS (wN (wN (wS w0)))) (s170_52 hv F y3 σ5)
    · refine b_run [(30, .aload_n 0, 0, 0, .null), (31, .aload_n 0, 0, 0, .null)] (pc' := 32) (ls' := [some (.ref 1315), none, none, some (.int y3)]) (st' := [.ref 1315, .ref 1315]) (by decide +kernel) rfl ?_
      refine b_gI (q := 181) (ci := 9) (k := 32) (w := .null) (by decide +kernel) (by decide +kernel) (fun c10 => ?_)
      refine b_callI 152 2 [.ref 1315, .int c10] (rest := []) (by decide +kernel) rfl rfl rfl (go_O rfl (by decide +kernel) (by decide +kernel : isO 1315 9 = true)) rfl (s152 hv F c10 σ5) (by decide) (fun c12 σ11 => ?_)
      refine b_run [(38, .bipush 60, 0, 0, .null)] (pc' := 40) (ls' := [some (.ref 1315), none, none, some (.int y3)]) (st' := [.int 60, .int c12]) (by decide +kernel) rfl ?_
      refine b_icT (c := .eq) (o := 12) (t := 52) (y := 0) (w := .null) (by decide +kernel) cmp_eq (fun _ => ?_) (fun _ => ?_)
      · exact b_wk (wS (wN (wN (wS w0)))) (s170_52 hv F y3 σ11)
      · refine b_run [(43, .aload_n 0, 0, 0, .null)] (pc' := 44) (ls' := [some (.ref 1315), none, none, some (.int y3)]) (st' := [.ref 1315]) (by decide +kernel) rfl ?_
        refine b_callI 167 1 [.ref 1315] (rest := []) (by decide +kernel) rfl rfl rfl (go_O rfl (by decide +kernel) (by decide +kernel : isO 1315 9 = true)) rfl (s167 hv F σ11) (by decide) (fun c14 σ13 => ?_)
        refine b_izF (c := .ne) (o := (-28)) (t := 19) (y := 0) (w := .null) (by decide +kernel) cmp_ne (fun _ => ?_) (fun _ => ?_)
        · refine b_run [(50, .iconst 0, 0, 0, .null)] (pc' := 51) (ls' := [some (.ref 1315), none, none, some (.int y3)]) (st' := [.int 0]) (by decide +kernel) rfl ?_
          exact b_ret (i := (.ireturn, 0, 0, .null)) (by decide +kernel) rfl rfl (by decide +kernel)
        · exact b_wk (wS (wN (wN (wS w0)))) (ih y3 σ13)
/-- TreeStoreModel.text(II)Z -/
def f170 (F : Nat) (x1 : Int32) (x2 : Int32) (σ : St) : Rs := cI (f160 F 3 x1 x2 σ) fun c2 σ1 => 
    if c2 = 0 then oI 0 σ1
    else lt (σ1.1 1315 22) fun c3 => f170_19 F F (c3 - 1) σ1
theorem s170 {sc : aSc} (hv : vOk sc) (F : Nat) (x1 : Int32) (x2 : Int32) (σ : St) : bEx sc 3 170 0 [some (.ref 1315), some (.int x1), some (.int x2), none] [] σ (f170 F x1 x2 σ) := by
  unfold f170
  refine b_run [(0, .aload_n 0, 0, 0, .null), (1, .iconst 3, 0, 0, .null), (2, .iload_n 1, 0, 0, .null), (3, .iload_n 2, 0, 0, .null)] (pc' := 4) (ls' := [some (.ref 1315), some (.int x1), some (.int x2), none]) (st' := [.int x2, .int x1, .int 3, .ref 1315]) (by decide +kernel) rfl ?_
  refine b_callI 160 4 [.ref 1315, .int 3, .int x1, .int x2] (rest := []) (by decide +kernel) rfl rfl rfl (go_O rfl (by decide +kernel) (by decide +kernel : isO 1315 9 = true)) rfl (s160 hv F 3 x1 x2 σ) (by decide) (fun c2 σ1 => ?_)
  refine b_izF (c := .ne) (o := 5) (t := 12) (y := 0) (w := .null) (by decide +kernel) cmp_ne (fun _ => ?_) (fun _ => ?_)
  · refine b_run [(10, .iconst 0, 0, 0, .null)] (pc' := 11) (ls' := [some (.ref 1315), some (.int x1), some (.int x2), none]) (st' := [.int 0]) (by decide +kernel) rfl ?_
    exact b_ret (i := (.ireturn, 0, 0, .null)) (by decide +kernel) rfl rfl (by decide +kernel)
  · refine b_run [(12, .aload_n 0, 0, 0, .null)] (pc' := 13) (ls' := [some (.ref 1315), some (.int x1), some (.int x2), none]) (st' := [.ref 1315]) (by decide +kernel) rfl ?_
    refine b_gI (q := 172) (ci := 9) (k := 22) (w := .null) (by decide +kernel) (by decide +kernel) (fun c3 => ?_)
    refine b_run [(16, .iconst 1, 0, 0, .null), (17, .isub, 0, 0, .null), (18, .istore_n 3, 0, 0, .null)] (pc' := 19) (ls' := [some (.ref 1315), some (.int x1), some (.int x2), some (.int (c3 - 1))]) (st' := []) (by decide +kernel) rfl ?_
    exact b_wk (wS (wN (wN (wS w0)))) (s170_19 hv F F (c3 - 1) σ1)
/-- TreeStoreModel.close(I)Z -/
def f171 (F : Nat) (x1 : Int32) (σ : St) : Rs := lt (σ.1 1315 32) fun c1 => 
    cI (f163 F (c1 + 2) σ) fun c3 σ2 => 
    lt (uI σ2 1315 32 c3) fun σ4 => 
    if inB x1 31 then lt (σ4.1 1335 x1.toNatClampNeg) fun c5 => 
    if inB x1 31 then lt (σ4.1 1336 x1.toNatClampNeg) fun c6 => 
    cI (f166 F (c1 + 2) (c3 - (c1 + 2)) c5 c6 σ4) fun c8 σ7 => 
    if c8 = 0 then cI (f154 F 1 σ7) fun c10 σ9 => if c10 = 0 ∨ c10 = 1 then oI c10 σ9 else none
    else cV (f151 F σ7) fun σ11 => cI (f159 F 62 σ11) fun c14 σ13 => if c14 = 0 ∨ c14 = 1 then oI c14 σ13 else none else none else none
theorem s171 {sc : aSc} (hv : vOk sc) (F : Nat) (x1 : Int32) (σ : St) : bEx sc 3 171 0 [some (.ref 1315), some (.int x1), none, none] [] σ (f171 F x1 σ) := by
  unfold f171
  refine b_run [(0, .aload_n 0, 0, 0, .null)] (pc' := 1) (ls' := [some (.ref 1315), some (.int x1), none, none]) (st' := [.ref 1315]) (by decide +kernel) rfl ?_
  refine b_gI (q := 181) (ci := 9) (k := 32) (w := .null) (by decide +kernel) (by decide +kernel) (fun c1 => ?_)
  refine b_run [(4, .iconst 2, 0, 0, .null), (5, .iadd, 0, 0, .null), (6, .istore_n 2, 0, 0, .null), (7, .aload_n 0, 0, 0, .null), (8, .iload_n 2, 0, 0, .null)] (pc' := 9) (ls' := [some (.ref 1315), some (.int x1), some (.int (c1 + 2)), none]) (st' := [.int (c1 + 2), .ref 1315]) (by decide +kernel) rfl ?_
  refine b_callI 163 2 [.ref 1315, .int (c1 + 2)] (rest := []) (by decide +kernel) rfl rfl rfl (go_O rfl (by decide +kernel) (by decide +kernel : isO 1315 9 = true)) rfl (s163 hv F (c1 + 2) σ) (by decide) (fun c3 σ2 => ?_)
  refine b_run [(12, .istore_n 3, 0, 0, .null), (13, .aload_n 0, 0, 0, .null), (14, .iload_n 3, 0, 0, .null)] (pc' := 15) (ls' := [some (.ref 1315), some (.int x1), some (.int (c1 + 2)), some (.int c3)]) (st' := [.int c3, .ref 1315]) (by decide +kernel) rfl ?_
  refine b_pI (q := 181) (ci := 9) (k := 32) (w := .null) (by decide +kernel) (by decide +kernel) (fit_I _) (fun σ4 => ?_)
  refine b_run [(18, .aload_n 0, 0, 0, .null), (19, .iload_n 2, 0, 0, .null), (20, .iload_n 3, 0, 0, .null), (21, .iload_n 2, 0, 0, .null), (22, .isub, 0, 0, .null), (23, .aload_n 0, 0, 0, .null)] (pc' := 24) (ls' := [some (.ref 1315), some (.int x1), some (.int (c1 + 2)), some (.int c3)]) (st' := [.ref 1315, .int (c3 - (c1 + 2)), .int (c1 + 2), .ref 1315]) (by decide +kernel) rfl ?_
  refine b_getC (b := 1335) (q := 68) (ci := 9) (k := 26) (w := .null) (by decide +kernel) (by decide +kernel) ?_
  refine b_run [(27, .iload_n 1, 0, 0, .null)] (pc' := 28) (ls' := [some (.ref 1315), some (.int x1), some (.int (c1 + 2)), some (.int c3)]) (st' := [.int x1, .ref 1335, .int (c3 - (c1 + 2)), .int (c1 + 2), .ref 1315]) (by decide +kernel) rfl ?_
  refine b_guard (fun hb => ?_)
  refine b_aI (ci := 0) (y := 0) (w := .null) (by decide +kernel) (by decide +kernel) hb (fun c5 => ?_)
  refine b_run [(29, .aload_n 0, 0, 0, .null)] (pc' := 30) (ls' := [some (.ref 1315), some (.int x1), some (.int (c1 + 2)), some (.int c3)]) (st' := [.ref 1315, .int c5, .int (c3 - (c1 + 2)), .int (c1 + 2), .ref 1315]) (by decide +kernel) rfl ?_
  refine b_getC (b := 1336) (q := 71) (ci := 9) (k := 27) (w := .null) (by decide +kernel) (by decide +kernel) ?_
  refine b_run [(33, .iload_n 1, 0, 0, .null)] (pc' := 34) (ls' := [some (.ref 1315), some (.int x1), some (.int (c1 + 2)), some (.int c3)]) (st' := [.int x1, .ref 1336, .int c5, .int (c3 - (c1 + 2)), .int (c1 + 2), .ref 1315]) (by decide +kernel) rfl ?_
  refine b_guard (fun hb => ?_)
  refine b_aI (ci := 0) (y := 0) (w := .null) (by decide +kernel) (by decide +kernel) hb (fun c6 => ?_)
  refine b_callI 166 5 [.ref 1315, .int (c1 + 2), .int (c3 - (c1 + 2)), .int c5, .int c6] (rest := []) (by decide +kernel) rfl rfl rfl (go_O rfl (by decide +kernel) (by decide +kernel : isO 1315 9 = true)) rfl (s166 hv F (c1 + 2) (c3 - (c1 + 2)) c5 c6 σ4) (by decide) (fun c8 σ7 => ?_)
  refine b_izF (c := .ne) (o := 9) (t := 47) (y := 0) (w := .null) (by decide +kernel) cmp_ne (fun _ => ?_) (fun _ => ?_)
  · refine b_run [(41, .aload_n 0, 0, 0, .null), (42, .iconst 1, 0, 0, .null)] (pc' := 43) (ls' := [some (.ref 1315), some (.int x1), some (.int (c1 + 2)), some (.int c3)]) (st' := [.int 1, .ref 1315]) (by decide +kernel) rfl ?_
    refine b_callI 154 2 [.ref 1315, .int 1] (rest := []) (by decide +kernel) rfl rfl rfl (go_O rfl (by decide +kernel) (by decide +kernel : isO 1315 9 = true)) rfl (s154 hv F 1 σ7) (by decide) (fun c10 σ9 => ?_)
    exact b_guard (fun hz => b_ret (i := (.ireturn, 0, 0, .null)) (by decide +kernel) rfl rfl (fit_Z hz))
  · refine b_run [(47, .aload_n 0, 0, 0, .null)] (pc' := 48) (ls' := [some (.ref 1315), some (.int x1), some (.int (c1 + 2)), some (.int c3)]) (st' := [.ref 1315]) (by decide +kernel) rfl ?_
    refine b_callV 151 1 [.ref 1315] (rest := []) (by decide +kernel) rfl rfl rfl (go_O rfl (by decide +kernel) (by decide +kernel : isO 1315 9 = true)) rfl (s151 hv F σ7) (by decide) (fun σ11 => ?_)
    refine b_run [(51, .aload_n 0, 0, 0, .null), (52, .bipush 62, 0, 0, .null)] (pc' := 54) (ls' := [some (.ref 1315), some (.int x1), some (.int (c1 + 2)), some (.int c3)]) (st' := [.int 62, .ref 1315]) (by decide +kernel) rfl ?_
    refine b_callI 159 2 [.ref 1315, .int 62] (rest := []) (by decide +kernel) rfl rfl rfl (go_O rfl (by decide +kernel) (by decide +kernel : isO 1315 9 = true)) rfl (s159 hv F 62 σ11) (by decide) (fun c14 σ13 => ?_)
    exact b_guard (fun hz => b_ret (i := (.ireturn, 0, 0, .null)) (by decide +kernel) rfl rfl (fit_Z hz))
def f155_48 (F : Nat) (y1 : Int32) (y2 : Int32) (y3 : Int32) (σ : St) : Rs := if y2 = 33 then 
    if y3 = 45 then 
    lt (σ.1 1315 32) fun c7 => 
    cI (f152 F (c7 + 3) σ) fun c9 σ8 => 
    if c9 = 45 then oI 0 σ8
    else oI 1 σ8
    else oI 1 σ
    else if y1 = 0 then oI 1 σ
    else cI (f156 F y2 σ) fun c11 σ10 => 
    if c11 = 0 then oI 1 σ10
    else oI 0 σ10
theorem s155_48 {sc : aSc} (hv : vOk sc) (F : Nat) (y1 : Int32) (y2 : Int32) (y3 : Int32) (σ : St) : bEx sc 1 155 48 [some (.ref 1315), some (.int y1), some (.int y2), some (.int y3)] [] σ (f155_48 F y1 y2 y3 σ) := by
  unfold f155_48
  refine b_run [(48, .iload_n 2, 0, 0, .null), (49, .bipush 33, 0, 0, .null)] (pc' := 51) (ls' := [some (.ref 1315), some (.int y1), some (.int y2), some (.int y3)]) (st' := [.int 33, .int y2]) (by decide +kernel) rfl ?_
  refine b_icF (c := .ne) (o := 30) (t := 81) (y := 0) (w := .null) (by decide +kernel) cmp_ne (fun _ => ?_) (fun _ => ?_)
  · refine b_run [(54, .iload_n 3, 0, 0, .null), (55, .bipush 45, 0, 0, .null)] (pc' := 57) (ls' := [some (.ref 1315), some (.int y1), some (.int y2), some (.int y3)]) (st' := [.int 45, .int y3]) (by decide +kernel) rfl ?_
    refine b_icF (c := .ne) (o := 22) (t := 79) (y := 0) (w := .null) (by decide +kernel) cmp_ne (fun _ => ?_) (fun _ => ?_)
    · refine b_run [(60, .aload_n 0, 0, 0, .null), (61, .aload_n 0, 0, 0, .null)] (pc' := 62) (ls' := [some (.ref 1315), some (.int y1), some (.int y2), some (.int y3)]) (st' := [.ref 1315, .ref 1315]) (by decide +kernel) rfl ?_
      refine b_gI (q := 181) (ci := 9) (k := 32) (w := .null) (by decide +kernel) (by decide +kernel) (fun c7 => ?_)
      refine b_run [(65, .iconst 3, 0, 0, .null), (66, .iadd, 0, 0, .null)] (pc' := 67) (ls' := [some (.ref 1315), some (.int y1), some (.int y2), some (.int y3)]) (st' := [.int (c7 + 3), .ref 1315]) (by decide +kernel) rfl ?_
      refine b_callI 152 2 [.ref 1315, .int (c7 + 3)] (rest := []) (by decide +kernel) rfl rfl rfl (go_O rfl (by decide +kernel) (by decide +kernel : isO 1315 9 = true)) rfl (s152 hv F (c7 + 3) σ) (by decide) (fun c9 σ8 => ?_)
      refine b_run [(70, .bipush 45, 0, 0, .null)] (pc' := 72) (ls' := [some (.ref 1315), some (.int y1), some (.int y2), some (.int y3)]) (st' := [.int 45, .int c9]) (by decide +kernel) rfl ?_
      refine b_icF (c := .ne) (o := 7) (t := 79) (y := 0) (w := .null) (by decide +kernel) cmp_ne (fun _ => ?_) (fun _ => ?_)
      · refine b_run [(75, .iconst 0, 0, 0, .null), (76, .goto 4, 80, 0, .null)] (pc' := 80) (ls' := [some (.ref 1315), some (.int y1), some (.int y2), some (.int y3)]) (st' := [.int 0]) (by decide +kernel) rfl ?_
        exact b_ret (i := (.ireturn, 0, 0, .null)) (by decide +kernel) rfl rfl (fit_I _)
      · refine b_run [(79, .iconst 1, 0, 0, .null)] (pc' := 80) (ls' := [some (.ref 1315), some (.int y1), some (.int y2), some (.int y3)]) (st' := [.int 1]) (by decide +kernel) rfl ?_
        exact b_ret (i := (.ireturn, 0, 0, .null)) (by decide +kernel) rfl rfl (fit_I _)
    · refine b_run [(79, .iconst 1, 0, 0, .null)] (pc' := 80) (ls' := [some (.ref 1315), some (.int y1), some (.int y2), some (.int y3)]) (st' := [.int 1]) (by decide +kernel) rfl ?_
      exact b_ret (i := (.ireturn, 0, 0, .null)) (by decide +kernel) rfl rfl (fit_I _)
  · refine b_run [(81, .iload_n 1, 0, 0, .null)] (pc' := 82) (ls' := [some (.ref 1315), some (.int y1), some (.int y2), some (.int y3)]) (st' := [.int y1]) (by decide +kernel) rfl ?_
    refine b_izT (c := .eq) (o := 14) (t := 96) (y := 0) (w := .null) (by decide +kernel) cmp_eq (fun _ => ?_) (fun _ => ?_)
    · refine b_run [(96, .iconst 1, 0, 0, .null)] (pc' := 97) (ls' := [some (.ref 1315), some (.int y1), some (.int y2), some (.int y3)]) (st' := [.int 1]) (by decide +kernel) rfl ?_
      exact b_ret (i := (.ireturn, 0, 0, .null)) (by decide +kernel) rfl rfl (fit_I _)
    · refine b_run [(85, .iload_n 2, 0, 0, .null)] (pc' := 86) (ls' := [some (.ref 1315), some (.int y1), some (.int y2), some (.int y3)]) (st' := [.int y2]) (by decide +kernel) rfl ?_
      refine b_callI 156 1 [.int y2] (rest := []) (by decide +kernel) rfl rfl rfl (go_S rfl (by decide +kernel)) rfl (s156 hv F y2 σ) (by decide) (fun c11 σ10 => ?_)
      refine b_izT (c := .eq) (o := 7) (t := 96) (y := 0) (w := .null) (by decide +kernel) cmp_eq (fun _ => ?_) (fun _ => ?_)
      · refine b_run [(96, .iconst 1, 0, 0, .null)] (pc' := 97) (ls' := [some (.ref 1315), some (.int y1), some (.int y2), some (.int y3)]) (st' := [.int 1]) (by decide +kernel) rfl ?_
        exact b_ret (i := (.ireturn, 0, 0, .null)) (by decide +kernel) rfl rfl (fit_I _)
      · refine b_run [(92, .iconst 0, 0, 0, .null), (93, .goto 4, 97, 0, .null)] (pc' := 97) (ls' := [some (.ref 1315), some (.int y1), some (.int y2), some (.int y3)]) (st' := [.int 0]) (by decide +kernel) rfl ?_
        exact b_ret (i := (.ireturn, 0, 0, .null)) (by decide +kernel) rfl rfl (fit_I _)
/-- TreeStoreModel.oddity(Z)I -/
def f155 (F : Nat) (x1 : Int32) (σ : St) : Rs := lt (σ.1 1315 32) fun c1 => 
    cI (f152 F (c1 + 1) σ) fun c3 σ2 => 
    lt (σ2.1 1315 32) fun c4 => 
    cI (f152 F (c4 + 2) σ2) fun c6 σ5 => 
    if c3 = 63 then oI 2 σ5
    else if c3 = 33 then 
    if c6 = 68 then oI 2 σ5
    else if c6 = 91 then oI 2 σ5
    else f155_48 F x1 c3 c6 σ5
    else f155_48 F x1 c3 c6 σ5
theorem s155 {sc : aSc} (hv : vOk sc) (F : Nat) (x1 : Int32) (σ : St) : bEx sc 1 155 0 [some (.ref 1315), some (.int x1), none, none] [] σ (f155 F x1 σ) := by
  unfold f155
  refine b_run [(0, .aload_n 0, 0, 0, .null), (1, .aload_n 0, 0, 0, .null)] (pc' := 2) (ls' := [some (.ref 1315), some (.int x1), none, none]) (st' := [.ref 1315, .ref 1315]) (by decide +kernel) rfl ?_
  refine b_gI (q := 181) (ci := 9) (k := 32) (w := .null) (by decide +kernel) (by decide +kernel) (fun c1 => ?_)
  refine b_run [(5, .iconst 1, 0, 0, .null), (6, .iadd, 0, 0, .null)] (pc' := 7) (ls' := [some (.ref 1315), some (.int x1), none, none]) (st' := [.int (c1 + 1), .ref 1315]) (by decide +kernel) rfl ?_
  refine b_callI 152 2 [.ref 1315, .int (c1 + 1)] (rest := []) (by decide +kernel) rfl rfl rfl (go_O rfl (by decide +kernel) (by decide +kernel : isO 1315 9 = true)) rfl (s152 hv F (c1 + 1) σ) (by decide) (fun c3 σ2 => ?_)
  refine b_run [(10, .istore_n 2, 0, 0, .null), (11, .aload_n 0, 0, 0, .null), (12, .aload_n 0, 0, 0, .null)] (pc' := 13) (ls' := [some (.ref 1315), some (.int x1), some (.int c3), none]) (st' := [.ref 1315, .ref 1315]) (by decide +kernel) rfl ?_
  refine b_gI (q := 181) (ci := 9) (k := 32) (w := .null) (by decide +kernel) (by decide +kernel) (fun c4 => ?_)
  refine b_run [(16, .iconst 2, 0, 0, .null), (17, .iadd, 0, 0, .null)] (pc' := 18) (ls' := [some (.ref 1315), some (.int x1), some (.int c3), none]) (st' := [.int (c4 + 2), .ref 1315]) (by decide +kernel) rfl ?_
  refine b_callI 152 2 [.ref 1315, .int (c4 + 2)] (rest := []) (by decide +kernel) rfl rfl rfl (go_O rfl (by decide +kernel) (by decide +kernel : isO 1315 9 = true)) rfl (s152 hv F (c4 + 2) σ2) (by decide) (fun c6 σ5 => ?_)
  refine b_run [(21, .istore_n 3, 0, 0, .null), (22, .iload_n 2, 0, 0, .null), (23, .bipush 63, 0, 0, .null)] (pc' := 25) (ls' := [some (.ref 1315), some (.int x1), some (.int c3), some (.int c6)]) (st' := [.int 63, .int c3]) (by decide +kernel) rfl ?_
  refine b_icT (c := .eq) (o := 21) (t := 46) (y := 0) (w := .null) (by decide +kernel) cmp_eq (fun _ => ?_) (fun _ => ?_)
  · refine b_run [(46, .iconst 2, 0, 0, .null)] (pc' := 47) (ls' := [some (.ref 1315), some (.int x1), some (.int c3), some (.int c6)]) (st' := [.int 2]) (by decide +kernel) rfl ?_
    exact b_ret (i := (.ireturn, 0, 0, .null)) (by decide +kernel) rfl rfl (fit_I _)
  · refine b_run [(28, .iload_n 2, 0, 0, .null), (29, .bipush 33, 0, 0, .null)] (pc' := 31) (ls' := [some (.ref 1315), some (.int x1), some (.int c3), some (.int c6)]) (st' := [.int 33, .int c3]) (by decide +kernel) rfl ?_
    refine b_icF (c := .ne) (o := 17) (t := 48) (y := 0) (w := .null) (by decide +kernel) cmp_ne (fun _ => ?_) (fun _ => ?_)
    · refine b_run [(34, .iload_n 3, 0, 0, .null), (35, .bipush 68, 0, 0, .null)] (pc' := 37) (ls' := [some (.ref 1315), some (.int x1), some (.int c3), some (.int c6)]) (st' := [.int 68, .int c6]) (by decide +kernel) rfl ?_
      refine b_icT (c := .eq) (o := 9) (t := 46) (y := 0) (w := .null) (by decide +kernel) cmp_eq (fun _ => ?_) (fun _ => ?_)
      · refine b_run [(46, .iconst 2, 0, 0, .null)] (pc' := 47) (ls' := [some (.ref 1315), some (.int x1), some (.int c3), some (.int c6)]) (st' := [.int 2]) (by decide +kernel) rfl ?_
        exact b_ret (i := (.ireturn, 0, 0, .null)) (by decide +kernel) rfl rfl (fit_I _)
      · refine b_run [(40, .iload_n 3, 0, 0, .null), (41, .bipush 91, 0, 0, .null)] (pc' := 43) (ls' := [some (.ref 1315), some (.int x1), some (.int c3), some (.int c6)]) (st' := [.int 91, .int c6]) (by decide +kernel) rfl ?_
        refine b_icF (c := .ne) (o := 5) (t := 48) (y := 0) (w := .null) (by decide +kernel) cmp_ne (fun _ => ?_) (fun _ => ?_)
        · refine b_run [(46, .iconst 2, 0, 0, .null)] (pc' := 47) (ls' := [some (.ref 1315), some (.int x1), some (.int c3), some (.int c6)]) (st' := [.int 2]) (by decide +kernel) rfl ?_
          exact b_ret (i := (.ireturn, 0, 0, .null)) (by decide +kernel) rfl rfl (fit_I _)
        · exact b_wk (wS (wS (wS (wS w0)))) (s155_48 hv F x1 c3 c6 σ5)
    · exact b_wk (wS (wS (wS (wS w0)))) (s155_48 hv F x1 c3 c6 σ5)
def f157_79 (F : Nat) (y1 : Int32) (y2 : Int32) (y3 : Int32) (σ : St) : Rs := lt (σ.1 1315 32) fun c7 => 
    cI (f152 F c7 σ) fun c9 σ8 => 
    if c9 = 0 then cI (f154 F 1 σ8) fun c11 σ10 => if c11 = 0 ∨ c11 = 1 then oI c11 σ10 else none
    else lt (σ8.1 1315 32) fun c12 => 
    lt (uI σ8 1315 32 (c12 + 2)) fun σ13 => 
    cI (f159 F 62 σ13) fun c15 σ14 => 
    if c15 = 0 then oI 0 σ14
    else cI (f160 F 4 y1 y2 σ14) fun c17 σ16 => 
    if c17 = 0 then oI 0 σ16
    else lt (σ16.1 1315 22) fun c18 => 
    if inB (c18 - 1) 31 then lt (uI σ16 1337 (c18 - 1).toNatClampNeg y3) fun σ19 => 
    lt (σ19.1 1315 22) fun c20 => 
    lt (σ19.1 1315 23) fun c21 => if inB (c20 - 1) 31 then lt (uI σ19 1338 (c20 - 1).toNatClampNeg (c21 - y3)) fun σ22 => oI 1 σ22 else none else none
theorem s157_79 {sc : aSc} (hv : vOk sc) (F : Nat) (y1 : Int32) (y2 : Int32) (y3 : Int32) (σ : St) : bEx sc 2 157 79 [some (.ref 1315), some (.int y1), some (.int y2), some (.int y3)] [] σ (f157_79 F y1 y2 y3 σ) := by
  unfold f157_79
  refine b_run [(79, .aload_n 0, 0, 0, .null), (80, .aload_n 0, 0, 0, .null)] (pc' := 81) (ls' := [some (.ref 1315), some (.int y1), some (.int y2), some (.int y3)]) (st' := [.ref 1315, .ref 1315]) (by decide +kernel) rfl ?_
  refine b_gI (q := 181) (ci := 9) (k := 32) (w := .null) (by decide +kernel) (by decide +kernel) (fun c7 => ?_)
  refine b_callI 152 2 [.ref 1315, .int c7] (rest := []) (by decide +kernel) rfl rfl rfl (go_O rfl (by decide +kernel) (by decide +kernel : isO 1315 9 = true)) rfl (s152 hv F c7 σ) (by decide) (fun c9 σ8 => ?_)
  refine b_izF (c := .ne) (o := 9) (t := 96) (y := 0) (w := .null) (by decide +kernel) cmp_ne (fun _ => ?_) (fun _ => ?_)
  · refine b_run [(90, .aload_n 0, 0, 0, .null), (91, .iconst 1, 0, 0, .null)] (pc' := 92) (ls' := [some (.ref 1315), some (.int y1), some (.int y2), some (.int y3)]) (st' := [.int 1, .ref 1315]) (by decide +kernel) rfl ?_
    refine b_callI 154 2 [.ref 1315, .int 1] (rest := []) (by decide +kernel) rfl rfl rfl (go_O rfl (by decide +kernel) (by decide +kernel : isO 1315 9 = true)) rfl (s154 hv F 1 σ8) (by decide) (fun c11 σ10 => ?_)
    exact b_guard (fun hz => b_ret (i := (.ireturn, 0, 0, .null)) (by decide +kernel) rfl rfl (fit_Z hz))
  · refine b_run [(96, .aload_n 0, 0, 0, .null), (97, .dup, 0, 0, .null)] (pc' := 98) (ls' := [some (.ref 1315), some (.int y1), some (.int y2), some (.int y3)]) (st' := [.ref 1315, .ref 1315]) (by decide +kernel) rfl ?_
    refine b_gI (q := 181) (ci := 9) (k := 32) (w := .null) (by decide +kernel) (by decide +kernel) (fun c12 => ?_)
    refine b_run [(101, .iconst 2, 0, 0, .null), (102, .iadd, 0, 0, .null)] (pc' := 103) (ls' := [some (.ref 1315), some (.int y1), some (.int y2), some (.int y3)]) (st' := [.int (c12 + 2), .ref 1315]) (by decide +kernel) rfl ?_
    refine b_pI (q := 181) (ci := 9) (k := 32) (w := .null) (by decide +kernel) (by decide +kernel) (fit_I _) (fun σ13 => ?_)
    refine b_run [(106, .aload_n 0, 0, 0, .null), (107, .bipush 62, 0, 0, .null)] (pc' := 109) (ls' := [some (.ref 1315), some (.int y1), some (.int y2), some (.int y3)]) (st' := [.int 62, .ref 1315]) (by decide +kernel) rfl ?_
    refine b_callI 159 2 [.ref 1315, .int 62] (rest := []) (by decide +kernel) rfl rfl rfl (go_O rfl (by decide +kernel) (by decide +kernel : isO 1315 9 = true)) rfl (s159 hv F 62 σ13) (by decide) (fun c15 σ14 => ?_)
    refine b_izT (c := .eq) (o := 13) (t := 125) (y := 0) (w := .null) (by decide +kernel) cmp_eq (fun _ => ?_) (fun _ => ?_)
    · refine b_run [(125, .iconst 0, 0, 0, .null)] (pc' := 126) (ls' := [some (.ref 1315), some (.int y1), some (.int y2), some (.int y3)]) (st' := [.int 0]) (by decide +kernel) rfl ?_
      exact b_ret (i := (.ireturn, 0, 0, .null)) (by decide +kernel) rfl rfl (by decide +kernel)
    · refine b_run [(115, .aload_n 0, 0, 0, .null), (116, .iconst 4, 0, 0, .null), (117, .iload_n 1, 0, 0, .null), (118, .iload_n 2, 0, 0, .null)] (pc' := 119) (ls' := [some (.ref 1315), some (.int y1), some (.int y2), some (.int y3)]) (st' := [.int y2, .int y1, .int 4, .ref 1315]) (by decide +kernel) rfl ?_
      refine b_callI 160 4 [.ref 1315, .int 4, .int y1, .int y2] (rest := []) (by decide +kernel) rfl rfl rfl (go_O rfl (by decide +kernel) (by decide +kernel : isO 1315 9 = true)) rfl (s160 hv F 4 y1 y2 σ14) (by decide) (fun c17 σ16 => ?_)
      refine b_izF (c := .ne) (o := 5) (t := 127) (y := 0) (w := .null) (by decide +kernel) cmp_ne (fun _ => ?_) (fun _ => ?_)
      · refine b_run [(125, .iconst 0, 0, 0, .null)] (pc' := 126) (ls' := [some (.ref 1315), some (.int y1), some (.int y2), some (.int y3)]) (st' := [.int 0]) (by decide +kernel) rfl ?_
        exact b_ret (i := (.ireturn, 0, 0, .null)) (by decide +kernel) rfl rfl (by decide +kernel)
      · refine b_run [(127, .aload_n 0, 0, 0, .null)] (pc' := 128) (ls' := [some (.ref 1315), some (.int y1), some (.int y2), some (.int y3)]) (st' := [.ref 1315]) (by decide +kernel) rfl ?_
        refine b_getC (b := 1337) (q := 74) (ci := 9) (k := 28) (w := .null) (by decide +kernel) (by decide +kernel) ?_
        refine b_run [(131, .aload_n 0, 0, 0, .null)] (pc' := 132) (ls' := [some (.ref 1315), some (.int y1), some (.int y2), some (.int y3)]) (st' := [.ref 1315, .ref 1337]) (by decide +kernel) rfl ?_
        refine b_gI (q := 172) (ci := 9) (k := 22) (w := .null) (by decide +kernel) (by decide +kernel) (fun c18 => ?_)
        refine b_run [(135, .iconst 1, 0, 0, .null), (136, .isub, 0, 0, .null), (137, .iload_n 3, 0, 0, .null)] (pc' := 138) (ls' := [some (.ref 1315), some (.int y1), some (.int y2), some (.int y3)]) (st' := [.int y3, .int (c18 - 1), .ref 1337]) (by decide +kernel) rfl ?_
        refine b_guard (fun hb => ?_)
        refine b_sI (ci := 0) (y := 0) (w := .null) (by decide +kernel) (by decide +kernel) hb (fun σ19 => ?_)
        refine b_run [(139, .aload_n 0, 0, 0, .null)] (pc' := 140) (ls' := [some (.ref 1315), some (.int y1), some (.int y2), some (.int y3)]) (st' := [.ref 1315]) (by decide +kernel) rfl ?_
        refine b_getC (b := 1338) (q := 77) (ci := 9) (k := 29) (w := .null) (by decide +kernel) (by decide +kernel) ?_
        refine b_run [(143, .aload_n 0, 0, 0, .null)] (pc' := 144) (ls' := [some (.ref 1315), some (.int y1), some (.int y2), some (.int y3)]) (st' := [.ref 1315, .ref 1338]) (by decide +kernel) rfl ?_
        refine b_gI (q := 172) (ci := 9) (k := 22) (w := .null) (by decide +kernel) (by decide +kernel) (fun c20 => ?_)
        refine b_run [(147, .iconst 1, 0, 0, .null), (148, .isub, 0, 0, .null), (149, .aload_n 0, 0, 0, .null)] (pc' := 150) (ls' := [some (.ref 1315), some (.int y1), some (.int y2), some (.int y3)]) (st' := [.ref 1315, .int (c20 - 1), .ref 1338]) (by decide +kernel) rfl ?_
        refine b_gI (q := 178) (ci := 9) (k := 23) (w := .null) (by decide +kernel) (by decide +kernel) (fun c21 => ?_)
        refine b_run [(153, .iload_n 3, 0, 0, .null), (154, .isub, 0, 0, .null)] (pc' := 155) (ls' := [some (.ref 1315), some (.int y1), some (.int y2), some (.int y3)]) (st' := [.int (c21 - y3), .int (c20 - 1), .ref 1338]) (by decide +kernel) rfl ?_
        refine b_guard (fun hb => ?_)
        refine b_sI (ci := 0) (y := 0) (w := .null) (by decide +kernel) (by decide +kernel) hb (fun σ22 => ?_)
        refine b_run [(156, .iconst 1, 0, 0, .null)] (pc' := 157) (ls' := [some (.ref 1315), some (.int y1), some (.int y2), some (.int y3)]) (st' := [.int 1]) (by decide +kernel) rfl ?_
        exact b_ret (i := (.ireturn, 0, 0, .null)) (by decide +kernel) rfl rfl (by decide +kernel)
def f157_54 (F : Nat) (k15 : Int32 → Int32 → Int32 → St → Rs) (y1 : Int32) (y2 : Int32) (y3 : Int32) (σ : St) : Rs := lt (σ.1 1315 32) fun c29 => 
    cI (f152 F c29 σ) fun c31 σ30 => cV (f158 F c31 σ30) fun σ32 => lt (σ32.1 1315 32) fun c34 => lt (uI σ32 1315 32 (c34 + 1)) fun σ35 => k15 y1 y2 y3 σ35
theorem s157_54 {sc : aSc} (hv : vOk sc) (F : Nat) (k15 : Int32 → Int32 → Int32 → St → Rs) (hk15 : ∀ y1 y2 y3 σ, bEx sc 2 157 15 [some (.ref 1315), some (.int y1), some (.int y2), some (.int y3)] [] σ (k15 y1 y2 y3 σ)) (y1 : Int32) (y2 : Int32) (y3 : Int32) (σ : St) : bEx sc 2 157 54 [some (.ref 1315), some (.int y1), some (.int y2), some (.int y3)] [] σ (f157_54 F k15 y1 y2 y3 σ) := by
  unfold f157_54
  refine b_run [(54, .aload_n 0, 0, 0, .null), (55, .aload_n 0, 0, 0, .null), (56, .aload_n 0, 0, 0, .null)] (pc' := 57) (ls' := [some (.ref 1315), some (.int y1), some (.int y2), some (.int y3)]) (st' := [.ref 1315, .ref 1315, .ref 1315]) (by decide +kernel) rfl ?_
  refine b_gI (q := 181) (ci := 9) (k := 32) (w := .null) (by decide +kernel) (by decide +kernel) (fun c29 => ?_)
  refine b_callI 152 2 [.ref 1315, .int c29] (rest := [.ref 1315]) (by decide +kernel) rfl rfl rfl (go_O rfl (by decide +kernel) (by decide +kernel : isO 1315 9 = true)) rfl (s152 hv F c29 σ) (by decide) (fun c31 σ30 => ?_)
  refine b_callV 158 2 [.ref 1315, .int c31] (rest := []) (by decide +kernel) rfl rfl rfl (go_O rfl (by decide +kernel) (by decide +kernel : isO 1315 9 = true)) rfl (s158 hv F c31 σ30) (by decide) (fun σ32 => ?_)
  refine b_run [(66, .aload_n 0, 0, 0, .null), (67, .dup, 0, 0, .null)] (pc' := 68) (ls' := [some (.ref 1315), some (.int y1), some (.int y2), some (.int y3)]) (st' := [.ref 1315, .ref 1315]) (by decide +kernel) rfl ?_
  refine b_gI (q := 181) (ci := 9) (k := 32) (w := .null) (by decide +kernel) (by decide +kernel) (fun c34 => ?_)
  refine b_run [(71, .iconst 1, 0, 0, .null), (72, .iadd, 0, 0, .null)] (pc' := 73) (ls' := [some (.ref 1315), some (.int y1), some (.int y2), some (.int y3)]) (st' := [.int (c34 + 1), .ref 1315]) (by decide +kernel) rfl ?_
  refine b_pI (q := 181) (ci := 9) (k := 32) (w := .null) (by decide +kernel) (by decide +kernel) (fit_I _) (fun σ35 => ?_)
  refine b_run [(76, .goto (-61), 15, 0, .null)] (pc' := 15) (ls' := [some (.ref 1315), some (.int y1), some (.int y2), some (.int y3)]) (st' := []) (by decide +kernel) rfl ?_
  exact b_wk (wS (wS (wS (wS w0)))) (hk15 y1 y2 y3 σ35)
def f157_15 (F : Nat) : Nat → Int32 → Int32 → Int32 → St → Rs
  | 0, _, _, _, _ => none
  | n + 1, y1, y2, y3, σ => lt (σ.1 1315 32) fun c4 => 
    cI (f152 F c4 σ) fun c6 σ5 => 
    if c6 = 0 then f157_79 F y1 y2 y3 σ5
    else lt (σ5.1 1315 32) fun c23 => 
    cI (f152 F c23 σ5) fun c25 σ24 => 
    if c25 = 45 then 
    lt (σ24.1 1315 32) fun c26 => 
    cI (f152 F (c26 + 1) σ24) fun c28 σ27 => 
    if c28 = 45 then f157_79 F y1 y2 y3 σ27
    else f157_54 F (f157_15 F n) y1 y2 y3 σ27
    else f157_54 F (f157_15 F n) y1 y2 y3 σ24
theorem s157_15 {sc : aSc} (hv : vOk sc) (F : Nat) : ∀ (n : Nat) (y1 : Int32) (y2 : Int32) (y3 : Int32) (σ : St), bEx sc 2 157 15 [some (.ref 1315), some (.int y1), some (.int y2), some (.int y3)] [] σ (f157_15 F n y1 y2 y3 σ) := by
  intro n
  induction n with
  | zero => intro y1 y2 y3 σ; exact b_none
  | succ n ih =>
    intro y1 y2 y3 σ
    rw [f157_15.eq_2]
    refine b_run [(15, .aload_n 0, 0, 0, .null), (16, .aload_n 0, 0, 0, .null)] (pc' := 17) (ls' := [some (.ref 1315), some (.int y1), some (.int y2), some (.int y3)]) (st' := [.ref 1315, .ref 1315]) (by decide +kernel) rfl ?_
    refine b_gI (q := 181) (ci := 9) (k := 32) (w := .null) (by decide +kernel) (by decide +kernel) (fun c4 => ?_)
    refine b_callI 152 2 [.ref 1315, .int c4] (rest := []) (by decide +kernel) rfl rfl rfl (go_O rfl (by decide +kernel) (by decide +kernel : isO 1315 9 = true)) rfl (s152 hv F c4 σ) (by decide) (fun c6 σ5 => ?_)
    refine b_izT (c := .eq) (o := 56) (t := 79) (y := 0) (w := .null) (by decide +kernel) cmp_eq (fun _ => ?_) (fun _ => ?_)
    · exact b_wk (wS (wS (wS (wS w0)))) (s157_79 hv F y1 y2 y3 σ5)
    · refine b_run [(26, .aload_n 0, 0, 0, .null), (27, .aload_n 0, 0, 0, .null)] (pc' := 28) (ls' := [some (.ref 1315), some (.int y1), some (.int y2), some (.int y3)]) (st' := [.ref 1315, .ref 1315]) (by decide +kernel) rfl ?_
      refine b_gI (q := 181) (ci := 9) (k := 32) (w := .null) (by decide +kernel) (by decide +kernel) (fun c23 => ?_)
      refine b_callI 152 2 [.ref 1315, .int c23] (rest := []) (by decide +kernel) rfl rfl rfl (go_O rfl (by decide +kernel) (by decide +kernel : isO 1315 9 = true)) rfl (s152 hv F c23 σ5) (by decide) (fun c25 σ24 => ?_)
      refine b_run [(34, .bipush 45, 0, 0, .null)] (pc' := 36) (ls' := [some (.ref 1315), some (.int y1), some (.int y2), some (.int y3)]) (st' := [.int 45, .int c25]) (by decide +kernel) rfl ?_
      refine b_icF (c := .ne) (o := 18) (t := 54) (y := 0) (w := .null) (by decide +kernel) cmp_ne (fun _ => ?_) (fun _ => ?_)
      · refine b_run [(39, .aload_n 0, 0, 0, .null), (40, .aload_n 0, 0, 0, .null)] (pc' := 41) (ls' := [some (.ref 1315), some (.int y1), some (.int y2), some (.int y3)]) (st' := [.ref 1315, .ref 1315]) (by decide +kernel) rfl ?_
        refine b_gI (q := 181) (ci := 9) (k := 32) (w := .null) (by decide +kernel) (by decide +kernel) (fun c26 => ?_)
        refine b_run [(44, .iconst 1, 0, 0, .null), (45, .iadd, 0, 0, .null)] (pc' := 46) (ls' := [some (.ref 1315), some (.int y1), some (.int y2), some (.int y3)]) (st' := [.int (c26 + 1), .ref 1315]) (by decide +kernel) rfl ?_
        refine b_callI 152 2 [.ref 1315, .int (c26 + 1)] (rest := []) (by decide +kernel) rfl rfl rfl (go_O rfl (by decide +kernel) (by decide +kernel : isO 1315 9 = true)) rfl (s152 hv F (c26 + 1) σ24) (by decide) (fun c28 σ27 => ?_)
        refine b_run [(49, .bipush 45, 0, 0, .null)] (pc' := 51) (ls' := [some (.ref 1315), some (.int y1), some (.int y2), some (.int y3)]) (st' := [.int 45, .int c28]) (by decide +kernel) rfl ?_
        refine b_icT (c := .eq) (o := 28) (t := 79) (y := 0) (w := .null) (by decide +kernel) cmp_eq (fun _ => ?_) (fun _ => ?_)
        · exact b_wk (wS (wS (wS (wS w0)))) (s157_79 hv F y1 y2 y3 σ27)
        · exact b_wk (wS (wS (wS (wS w0)))) (s157_54 hv F (f157_15 F n) ih y1 y2 y3 σ27)
      · exact b_wk (wS (wS (wS (wS w0)))) (s157_54 hv F (f157_15 F n) ih y1 y2 y3 σ24)
/-- TreeStoreModel.comment(II)Z -/
def f157 (F : Nat) (x1 : Int32) (x2 : Int32) (σ : St) : Rs := lt (σ.1 1315 32) fun c1 => lt (uI σ 1315 32 (c1 + 4)) fun σ2 => lt (σ2.1 1315 23) fun c3 => f157_15 F F x1 x2 c3 σ2
theorem s157 {sc : aSc} (hv : vOk sc) (F : Nat) (x1 : Int32) (x2 : Int32) (σ : St) : bEx sc 2 157 0 [some (.ref 1315), some (.int x1), some (.int x2), none] [] σ (f157 F x1 x2 σ) := by
  unfold f157
  refine b_run [(0, .aload_n 0, 0, 0, .null), (1, .dup, 0, 0, .null)] (pc' := 2) (ls' := [some (.ref 1315), some (.int x1), some (.int x2), none]) (st' := [.ref 1315, .ref 1315]) (by decide +kernel) rfl ?_
  refine b_gI (q := 181) (ci := 9) (k := 32) (w := .null) (by decide +kernel) (by decide +kernel) (fun c1 => ?_)
  refine b_run [(5, .iconst 4, 0, 0, .null), (6, .iadd, 0, 0, .null)] (pc' := 7) (ls' := [some (.ref 1315), some (.int x1), some (.int x2), none]) (st' := [.int (c1 + 4), .ref 1315]) (by decide +kernel) rfl ?_
  refine b_pI (q := 181) (ci := 9) (k := 32) (w := .null) (by decide +kernel) (by decide +kernel) (fit_I _) (fun σ2 => ?_)
  refine b_run [(10, .aload_n 0, 0, 0, .null)] (pc' := 11) (ls' := [some (.ref 1315), some (.int x1), some (.int x2), none]) (st' := [.ref 1315]) (by decide +kernel) rfl ?_
  refine b_gI (q := 178) (ci := 9) (k := 23) (w := .null) (by decide +kernel) (by decide +kernel) (fun c3 => ?_)
  refine b_run [(14, .istore_n 3, 0, 0, .null)] (pc' := 15) (ls' := [some (.ref 1315), some (.int x1), some (.int x2), some (.int c3)]) (st' := []) (by decide +kernel) rfl ?_
  exact b_wk (wS (wS (wS (wS w0)))) (s157_15 hv F F x1 x2 c3 σ2)
def f161_222 (F : Nat) (k6 : Int32 → Int32 → Int32 → Int32 → Int32 → St → Rs) (k72 : Int32 → Int32 → Int32 → Int32 → Int32 → Int32 → St → Rs) (y1 : Int32) (y2 : Int32) (y3 : Int32) (y4 : Int32) (y5 : Int32) (y8 : Int32) (σ : St) : Rs := k72 y1 y2 y3 y4 y5 y8 σ
theorem s161_222 {sc : aSc} (hv : vOk sc) (F : Nat) (k6 : Int32 → Int32 → Int32 → Int32 → Int32 → St → Rs) (k72 : Int32 → Int32 → Int32 → Int32 → Int32 → Int32 → St → Rs) (hk6 : ∀ y1 y2 y3 y4 y5 σ, bEx sc 5 161 6 [some (.ref 1315), some (.int y1), some (.int y2), some (.int y3), some (.int y4), some (.int y5), none, none, none, none, none] [] σ (k6 y1 y2 y3 y4 y5 σ)) (hk72 : ∀ y1 y2 y3 y4 y5 y8 σ, bEx sc 5 161 72 [some (.ref 1315), some (.int y1), some (.int y2), some (.int y3), some (.int y4), some (.int y5), none, none, some (.int y8), none, none] [] σ (k72 y1 y2 y3 y4 y5 y8 σ)) (y1 : Int32) (y2 : Int32) (y3 : Int32) (y4 : Int32) (y5 : Int32) (y8 : Int32) (σ : St) : bEx sc 5 161 222 [some (.ref 1315), some (.int y1), some (.int y2), some (.int y3), some (.int y4), some (.int y5), none, none, some (.int y8), none, none] [] σ (f161_222 F k6 k72 y1 y2 y3 y4 y5 y8 σ) := by
  unfold f161_222
  refine b_run [(222, .goto (-150), 72, 0, .null)] (pc' := 72) (ls' := [some (.ref 1315), some (.int y1), some (.int y2), some (.int y3), some (.int y4), some (.int y5), none, none, some (.int y8), none, none]) (st' := []) (by decide +kernel) rfl ?_
  exact b_wk (wS (wS (wS (wS (wS (wS (wN (wN (wS (wN (wN w0))))))))))) (hk72 y1 y2 y3 y4 y5 y8 σ)
def f161_163 (F : Nat) (k6 : Int32 → Int32 → Int32 → Int32 → Int32 → St → Rs) (k72 : Int32 → Int32 → Int32 → Int32 → Int32 → Int32 → St → Rs) (y1 : Int32) (y2 : Int32) (y3 : Int32) (y4 : Int32) (y5 : Int32) (z0 : Int32) (σ : St) : Rs := f161_222 F k6 k72 y1 y2 y3 y4 y5 z0 σ
theorem s161_163 {sc : aSc} (hv : vOk sc) (F : Nat) (k6 : Int32 → Int32 → Int32 → Int32 → Int32 → St → Rs) (k72 : Int32 → Int32 → Int32 → Int32 → Int32 → Int32 → St → Rs) (hk6 : ∀ y1 y2 y3 y4 y5 σ, bEx sc 5 161 6 [some (.ref 1315), some (.int y1), some (.int y2), some (.int y3), some (.int y4), some (.int y5), none, none, none, none, none] [] σ (k6 y1 y2 y3 y4 y5 σ)) (hk72 : ∀ y1 y2 y3 y4 y5 y8 σ, bEx sc 5 161 72 [some (.ref 1315), some (.int y1), some (.int y2), some (.int y3), some (.int y4), some (.int y5), none, none, some (.int y8), none, none] [] σ (k72 y1 y2 y3 y4 y5 y8 σ)) (y1 : Int32) (y2 : Int32) (y3 : Int32) (y4 : Int32) (y5 : Int32) (z0 : Int32) (σ : St) : bEx sc 5 161 163 [some (.ref 1315), some (.int y1), some (.int y2), some (.int y3), some (.int y4), some (.int y5), none, none, none, none, none] [.int z0] σ (f161_163 F k6 k72 y1 y2 y3 y4 y5 z0 σ) := by
  unfold f161_163
  refine b_run [(163, .istore 8, 0, 0, .null), (165, .goto 57, 222, 0, .null)] (pc' := 222) (ls' := [some (.ref 1315), some (.int y1), some (.int y2), some (.int y3), some (.int y4), some (.int y5), none, none, some (.int z0), none, none]) (st' := []) (by decide +kernel) rfl ?_
  exact b_wk (wS (wS (wS (wS (wS (wS (wN (wN (wS (wN (wN w0))))))))))) (s161_222 hv F k6 k72 hk6 hk72 y1 y2 y3 y4 y5 z0 σ)
def f161_72 (F : Nat) (k6 : Int32 → Int32 → Int32 → Int32 → Int32 → St → Rs) : Nat → Int32 → Int32 → Int32 → Int32 → Int32 → Int32 → St → Rs
  | 0, _, _, _, _, _, _, _ => none
  | n + 1, y1, y2, y3, y4, y5, y8, σ => if y8 = 0 then k6 y1 y2 y3 y4 y5 σ
    else lt (σ.1 1315 32) fun c5 => 
    cI (f152 F c5 σ) fun c7 σ6 => 
    if c7 = 60 then 
    lt (σ6.1 1315 32) fun c8 => 
    cI (f152 F (c8 + 1) σ6) fun c10 σ9 => 
    if c10 = 47 then 
    if inB (y4 - 1) 9 then lt (σ9.1 1340 (y4 - 1).toNatClampNeg) fun c11 => 
    cI (f171 F c11 σ9) fun c13 σ12 => 
    if c13 = 0 then oI 0 σ12
    else if 0 < y4 + Int32.ofInt (-1) then f161_163 F k6 (f161_72 F k6 n) y1 y2 y3 (y4 + Int32.ofInt (-1)) y5 1 σ12
    else f161_163 F k6 (f161_72 F k6 n) y1 y2 y3 (y4 + Int32.ofInt (-1)) y5 0 σ12 else none
    else cI (f155 F 1 σ9) fun c15 σ14 => 
    if c15 = 0 then 
    lt (σ14.1 1315 32) fun c16 => 
    cI (f152 F (c16 + 1) σ14) fun c18 σ17 => 
    if c18 = 33 then 
    cI (f157 F (y1 + y4) y3 σ17) fun c20 σ19 => 
    if c20 = 0 then oI 0 σ19
    else f161_222 F k6 (f161_72 F k6 n) y1 y2 y3 y4 y5 y8 σ19
    else f161_222 F k6 (f161_72 F k6 n) y1 y2 y3 y4 1 0 σ17
    else cI (f154 F c15 σ14) fun c22 σ21 => if c22 = 0 ∨ c22 = 1 then oI c22 σ21 else none
    else if c7 = 0 then cI (f154 F 1 σ6) fun c24 σ23 => if c24 = 0 ∨ c24 = 1 then oI c24 σ23 else none
    else cI (f170 F (y1 + y4) y3 σ6) fun c26 σ25 => 
    if c26 = 0 then cI (f154 F 1 σ25) fun c28 σ27 => if c28 = 0 ∨ c28 = 1 then oI c28 σ27 else none
    else f161_222 F k6 (f161_72 F k6 n) y1 y2 y3 y4 y5 y8 σ25
theorem s161_72 {sc : aSc} (hv : vOk sc) (F : Nat) (k6 : Int32 → Int32 → Int32 → Int32 → Int32 → St → Rs) (hk6 : ∀ y1 y2 y3 y4 y5 σ, bEx sc 5 161 6 [some (.ref 1315), some (.int y1), some (.int y2), some (.int y3), some (.int y4), some (.int y5), none, none, none, none, none] [] σ (k6 y1 y2 y3 y4 y5 σ)) : ∀ (n : Nat) (y1 : Int32) (y2 : Int32) (y3 : Int32) (y4 : Int32) (y5 : Int32) (y8 : Int32) (σ : St), bEx sc 5 161 72 [some (.ref 1315), some (.int y1), some (.int y2), some (.int y3), some (.int y4), some (.int y5), none, none, some (.int y8), none, none] [] σ (f161_72 F k6 n y1 y2 y3 y4 y5 y8 σ) := by
  intro n
  induction n with
  | zero => intro y1 y2 y3 y4 y5 y8 σ; exact b_none
  | succ n ih =>
    intro y1 y2 y3 y4 y5 y8 σ
    rw [f161_72.eq_2]
    refine b_run [(72, .iload 8, 0, 0, .null)] (pc' := 74) (ls' := [some (.ref 1315), some (.int y1), some (.int y2), some (.int y3), some (.int y4), some (.int y5), none, none, some (.int y8), none, none]) (st' := [.int y8]) (by decide +kernel) rfl ?_
    refine b_izT (c := .eq) (o := 151) (t := 225) (y := 0) (w := .null) (by decide +kernel) cmp_eq (fun _ => ?_) (fun _ => ?_)
    · refine b_run [(225, .goto (-219), 6, 0, .null)] (pc' := 6) (ls' := [some (.ref 1315), some (.int y1), some (.int y2), some (.int y3), some (.int y4), some (.int y5), none, none, some (.int y8), none, none]) (st' := []) (by decide +kernel) rfl ?_
      exact b_wk (wS (wS (wS (wS (wS (wS (wN (wN (wN (wN (wN w0))))))))))) (hk6 y1 y2 y3 y4 y5 σ)
    · refine b_run [(77, .aload_n 0, 0, 0, .null), (78, .aload_n 0, 0, 0, .null)] (pc' := 79) (ls' := [some (.ref 1315), some (.int y1), some (.int y2), some (.int y3), some (.int y4), some (.int y5), none, none, some (.int y8), none, none]) (st' := [.ref 1315, .ref 1315]) (by decide +kernel) rfl ?_
      refine b_gI (q := 181) (ci := 9) (k := 32) (w := .null) (by decide +kernel) (by decide +kernel) (fun c5 => ?_)
      refine b_callI 152 2 [.ref 1315, .int c5] (rest := []) (by decide +kernel) rfl rfl rfl (go_O rfl (by decide +kernel) (by decide +kernel : isO 1315 9 = true)) rfl (s152 hv F c5 σ) (by decide) (fun c7 σ6 => ?_)
      refine b_run [(85, .istore 9, 0, 0, .null), (87, .iload 9, 0, 0, .null), (89, .bipush 60, 0, 0, .null)] (pc' := 91) (ls' := [some (.ref 1315), some (.int y1), some (.int y2), some (.int y3), some (.int y4), some (.int y5), none, none, some (.int y8), some (.int c7), none]) (st' := [.int 60, .int c7]) (by decide +kernel) rfl ?_
      refine b_icT (c := .eq) (o := 26) (t := 117) (y := 0) (w := .null) (by decide +kernel) cmp_eq (fun _ => ?_) (fun _ => ?_)
      · refine b_run [(117, .aload_n 0, 0, 0, .null), (118, .aload_n 0, 0, 0, .null)] (pc' := 119) (ls' := [some (.ref 1315), some (.int y1), some (.int y2), some (.int y3), some (.int y4), some (.int y5), none, none, some (.int y8), some (.int c7), none]) (st' := [.ref 1315, .ref 1315]) (by decide +kernel) rfl ?_
        refine b_gI (q := 181) (ci := 9) (k := 32) (w := .null) (by decide +kernel) (by decide +kernel) (fun c8 => ?_)
        refine b_run [(122, .iconst 1, 0, 0, .null), (123, .iadd, 0, 0, .null)] (pc' := 124) (ls' := [some (.ref 1315), some (.int y1), some (.int y2), some (.int y3), some (.int y4), some (.int y5), none, none, some (.int y8), some (.int c7), none]) (st' := [.int (c8 + 1), .ref 1315]) (by decide +kernel) rfl ?_
        refine b_callI 152 2 [.ref 1315, .int (c8 + 1)] (rest := []) (by decide +kernel) rfl rfl rfl (go_O rfl (by decide +kernel) (by decide +kernel : isO 1315 9 = true)) rfl (s152 hv F (c8 + 1) σ6) (by decide) (fun c10 σ9 => ?_)
        refine b_run [(127, .bipush 47, 0, 0, .null)] (pc' := 129) (ls' := [some (.ref 1315), some (.int y1), some (.int y2), some (.int y3), some (.int y4), some (.int y5), none, none, some (.int y8), some (.int c7), none]) (st' := [.int 47, .int c10]) (by decide +kernel) rfl ?_
        refine b_icF (c := .ne) (o := 39) (t := 168) (y := 0) (w := .null) (by decide +kernel) cmp_ne (fun _ => ?_) (fun _ => ?_)
        · refine b_run [(132, .aload_n 0, 0, 0, .null), (133, .aload_n 0, 0, 0, .null)] (pc' := 134) (ls' := [some (.ref 1315), some (.int y1), some (.int y2), some (.int y3), some (.int y4), some (.int y5), none, none, some (.int y8), some (.int c7), none]) (st' := [.ref 1315, .ref 1315]) (by decide +kernel) rfl ?_
          refine b_getC (b := 1340) (q := 83) (ci := 9) (k := 31) (w := .null) (by decide +kernel) (by decide +kernel) ?_
          refine b_run [(137, .iload 4, 0, 0, .null), (139, .iconst 1, 0, 0, .null), (140, .isub, 0, 0, .null)] (pc' := 141) (ls' := [some (.ref 1315), some (.int y1), some (.int y2), some (.int y3), some (.int y4), some (.int y5), none, none, some (.int y8), some (.int c7), none]) (st' := [.int (y4 - 1), .ref 1340, .ref 1315]) (by decide +kernel) rfl ?_
          refine b_guard (fun hb => ?_)
          refine b_aI (ci := 0) (y := 0) (w := .null) (by decide +kernel) (by decide +kernel) hb (fun c11 => ?_)
          refine b_callI 171 2 [.ref 1315, .int c11] (rest := []) (by decide +kernel) rfl rfl rfl (go_O rfl (by decide +kernel) (by decide +kernel : isO 1315 9 = true)) rfl (s171 hv F c11 σ9) (by decide) (fun c13 σ12 => ?_)
          refine b_izF (c := .ne) (o := 5) (t := 150) (y := 0) (w := .null) (by decide +kernel) cmp_ne (fun _ => ?_) (fun _ => ?_)
          · refine b_run [(148, .iconst 0, 0, 0, .null)] (pc' := 149) (ls' := [some (.ref 1315), some (.int y1), some (.int y2), some (.int y3), some (.int y4), some (.int y5), none, none, some (.int y8), some (.int c7), none]) (st' := [.int 0]) (by decide +kernel) rfl ?_
            exact b_ret (i := (.ireturn, 0, 0, .null)) (by decide +kernel) rfl rfl (by decide +kernel)
          · refine b_run [(150, .iinc 4 (-1), 0, 0, .null), (153, .iload 4, 0, 0, .null)] (pc' := 155) (ls' := [some (.ref 1315), some (.int y1), some (.int y2), some (.int y3), some (.int (y4 + Int32.ofInt (-1))), some (.int y5), none, none, some (.int y8), some (.int c7), none]) (st' := [.int (y4 + Int32.ofInt (-1))]) (by decide +kernel) rfl ?_
            refine b_izF (c := .le) (o := 7) (t := 162) (y := 0) (w := .null) (by decide +kernel) cmp_le (fun _ => ?_) (fun _ => ?_)
            · refine b_run [(158, .iconst 1, 0, 0, .null), (159, .goto 4, 163, 0, .null)] (pc' := 163) (ls' := [some (.ref 1315), some (.int y1), some (.int y2), some (.int y3), some (.int (y4 + Int32.ofInt (-1))), some (.int y5), none, none, some (.int y8), some (.int c7), none]) (st' := [.int 1]) (by decide +kernel) rfl ?_
              exact b_wk (wS (wS (wS (wS (wS (wS (wN (wN (wN (wN (wN w0))))))))))) (s161_163 hv F k6 (f161_72 F k6 n) hk6 ih y1 y2 y3 (y4 + Int32.ofInt (-1)) y5 1 σ12)
            · refine b_run [(162, .iconst 0, 0, 0, .null)] (pc' := 163) (ls' := [some (.ref 1315), some (.int y1), some (.int y2), some (.int y3), some (.int (y4 + Int32.ofInt (-1))), some (.int y5), none, none, some (.int y8), some (.int c7), none]) (st' := [.int 0]) (by decide +kernel) rfl ?_
              exact b_wk (wS (wS (wS (wS (wS (wS (wN (wN (wN (wN (wN w0))))))))))) (s161_163 hv F k6 (f161_72 F k6 n) hk6 ih y1 y2 y3 (y4 + Int32.ofInt (-1)) y5 0 σ12)
        · refine b_run [(168, .aload_n 0, 0, 0, .null), (169, .iconst 1, 0, 0, .null)] (pc' := 170) (ls' := [some (.ref 1315), some (.int y1), some (.int y2), some (.int y3), some (.int y4), some (.int y5), none, none, some (.int y8), some (.int c7), none]) (st' := [.int 1, .ref 1315]) (by decide +kernel) rfl ?_
          refine b_callI 155 2 [.ref 1315, .int 1] (rest := []) (by decide +kernel) rfl rfl rfl (go_O rfl (by decide +kernel) (by decide +kernel : isO 1315 9 = true)) rfl (s155 hv F 1 σ9) (by decide) (fun c15 σ14 => ?_)
          refine b_run [(173, .istore 10, 0, 0, .null), (175, .iload 10, 0, 0, .null)] (pc' := 177) (ls' := [some (.ref 1315), some (.int y1), some (.int y2), some (.int y3), some (.int y4), some (.int y5), none, none, some (.int y8), some (.int c7), some (.int c15)]) (st' := [.int c15]) (by decide +kernel) rfl ?_
          refine b_izT (c := .eq) (o := 10) (t := 187) (y := 0) (w := .null) (by decide +kernel) cmp_eq (fun _ => ?_) (fun _ => ?_)
          · refine b_run [(187, .aload_n 0, 0, 0, .null), (188, .aload_n 0, 0, 0, .null)] (pc' := 189) (ls' := [some (.ref 1315), some (.int y1), some (.int y2), some (.int y3), some (.int y4), some (.int y5), none, none, some (.int y8), some (.int c7), some (.int c15)]) (st' := [.ref 1315, .ref 1315]) (by decide +kernel) rfl ?_
            refine b_gI (q := 181) (ci := 9) (k := 32) (w := .null) (by decide +kernel) (by decide +kernel) (fun c16 => ?_)
            refine b_run [(192, .iconst 1, 0, 0, .null), (193, .iadd, 0, 0, .null)] (pc' := 194) (ls' := [some (.ref 1315), some (.int y1), some (.int y2), some (.int y3), some (.int y4), some (.int y5), none, none, some (.int y8), some (.int c7), some (.int c15)]) (st' := [.int (c16 + 1), .ref 1315]) (by decide +kernel) rfl ?_
            refine b_callI 152 2 [.ref 1315, .int (c16 + 1)] (rest := []) (by decide +kernel) rfl rfl rfl (go_O rfl (by decide +kernel) (by decide +kernel : isO 1315 9 = true)) rfl (s152 hv F (c16 + 1) σ14) (by decide) (fun c18 σ17 => ?_)
            refine b_run [(197, .bipush 33, 0, 0, .null)] (pc' := 199) (ls' := [some (.ref 1315), some (.int y1), some (.int y2), some (.int y3), some (.int y4), some (.int y5), none, none, some (.int y8), some (.int c7), some (.int c15)]) (st' := [.int 33, .int c18]) (by decide +kernel) rfl ?_
            refine b_icF (c := .ne) (o := 17) (t := 216) (y := 0) (w := .null) (by decide +kernel) cmp_ne (fun _ => ?_) (fun _ => ?_)
            · refine b_run [(202, .aload_n 0, 0, 0, .null), (203, .iload_n 1, 0, 0, .null), (204, .iload 4, 0, 0, .null), (206, .iadd, 0, 0, .null), (207, .iload_n 3, 0, 0, .null)] (pc' := 208) (ls' := [some (.ref 1315), some (.int y1), some (.int y2), some (.int y3), some (.int y4), some (.int y5), none, none, some (.int y8), some (.int c7), some (.int c15)]) (st' := [.int y3, .int (y1 + y4), .ref 1315]) (by decide +kernel) rfl ?_
              refine b_callI 157 3 [.ref 1315, .int (y1 + y4), .int y3] (rest := []) (by decide +kernel) rfl rfl rfl (go_O rfl (by decide +kernel) (by decide +kernel : isO 1315 9 = true)) rfl (s157 hv F (y1 + y4) y3 σ17) (by decide) (fun c20 σ19 => ?_)
              refine b_izF (c := .ne) (o := 11) (t := 222) (y := 0) (w := .null) (by decide +kernel) cmp_ne (fun _ => ?_) (fun _ => ?_)
              · refine b_run [(214, .iconst 0, 0, 0, .null)] (pc' := 215) (ls' := [some (.ref 1315), some (.int y1), some (.int y2), some (.int y3), some (.int y4), some (.int y5), none, none, some (.int y8), some (.int c7), some (.int c15)]) (st' := [.int 0]) (by decide +kernel) rfl ?_
                exact b_ret (i := (.ireturn, 0, 0, .null)) (by decide +kernel) rfl rfl (by decide +kernel)
              · exact b_wk (wS (wS (wS (wS (wS (wS (wN (wN (wS (wN (wN w0))))))))))) (s161_222 hv F k6 (f161_72 F k6 n) hk6 ih y1 y2 y3 y4 y5 y8 σ19)
            · refine b_run [(216, .iconst 0, 0, 0, .null), (217, .istore 8, 0, 0, .null), (219, .iconst 1, 0, 0, .null), (220, .istore 5, 0, 0, .null)] (pc' := 222) (ls' := [some (.ref 1315), some (.int y1), some (.int y2), some (.int y3), some (.int y4), some (.int 1), none, none, some (.int 0), some (.int c7), some (.int c15)]) (st' := []) (by decide +kernel) rfl ?_
              exact b_wk (wS (wS (wS (wS (wS (wS (wN (wN (wS (wN (wN w0))))))))))) (s161_222 hv F k6 (f161_72 F k6 n) hk6 ih y1 y2 y3 y4 1 0 σ17)
          · refine b_run [(180, .aload_n 0, 0, 0, .null), (181, .iload 10, 0, 0, .null)] (pc' := 183) (ls' := [some (.ref 1315), some (.int y1), some (.int y2), some (.int y3), some (.int y4), some (.int y5), none, none, some (.int y8), some (.int c7), some (.int c15)]) (st' := [.int c15, .ref 1315]) (by decide +kernel) rfl ?_
            refine b_callI 154 2 [.ref 1315, .int c15] (rest := []) (by decide +kernel) rfl rfl rfl (go_O rfl (by decide +kernel) (by decide +kernel : isO 1315 9 = true)) rfl (s154 hv F c15 σ14) (by decide) (fun c22 σ21 => ?_)
            exact b_guard (fun hz => b_ret (i := (.ireturn, 0, 0, .null)) (by decide +kernel) rfl rfl (fit_Z hz))
      · refine b_run [(94, .iload 9, 0, 0, .null)] (pc' := 96) (ls' := [some (.ref 1315), some (.int y1), some (.int y2), some (.int y3), some (.int y4), some (.int y5), none, none, some (.int y8), some (.int c7), none]) (st' := [.int c7]) (by decide +kernel) rfl ?_
        refine b_izT (c := .eq) (o := 15) (t := 111) (y := 0) (w := .null) (by decide +kernel) cmp_eq (fun _ => ?_) (fun _ => ?_)
        · refine b_run [(111, .aload_n 0, 0, 0, .null), (112, .iconst 1, 0, 0, .null)] (pc' := 113) (ls' := [some (.ref 1315), some (.int y1), some (.int y2), some (.int y3), some (.int y4), some (.int y5), none, none, some (.int y8), some (.int c7), none]) (st' := [.int 1, .ref 1315]) (by decide +kernel) rfl ?_
          refine b_callI 154 2 [.ref 1315, .int 1] (rest := []) (by decide +kernel) rfl rfl rfl (go_O rfl (by decide +kernel) (by decide +kernel : isO 1315 9 = true)) rfl (s154 hv F 1 σ6) (by decide) (fun c24 σ23 => ?_)
          exact b_guard (fun hz => b_ret (i := (.ireturn, 0, 0, .null)) (by decide +kernel) rfl rfl (fit_Z hz))
        · refine b_run [(99, .aload_n 0, 0, 0, .null), (100, .iload_n 1, 0, 0, .null), (101, .iload 4, 0, 0, .null), (103, .iadd, 0, 0, .null), (104, .iload_n 3, 0, 0, .null)] (pc' := 105) (ls' := [some (.ref 1315), some (.int y1), some (.int y2), some (.int y3), some (.int y4), some (.int y5), none, none, some (.int y8), some (.int c7), none]) (st' := [.int y3, .int (y1 + y4), .ref 1315]) (by decide +kernel) rfl ?_
          refine b_callI 170 3 [.ref 1315, .int (y1 + y4), .int y3] (rest := []) (by decide +kernel) rfl rfl rfl (go_O rfl (by decide +kernel) (by decide +kernel : isO 1315 9 = true)) rfl (s170 hv F (y1 + y4) y3 σ6) (by decide) (fun c26 σ25 => ?_)
          refine b_izF (c := .ne) (o := 114) (t := 222) (y := 0) (w := .null) (by decide +kernel) cmp_ne (fun _ => ?_) (fun _ => ?_)
          · refine b_run [(111, .aload_n 0, 0, 0, .null), (112, .iconst 1, 0, 0, .null)] (pc' := 113) (ls' := [some (.ref 1315), some (.int y1), some (.int y2), some (.int y3), some (.int y4), some (.int y5), none, none, some (.int y8), some (.int c7), none]) (st' := [.int 1, .ref 1315]) (by decide +kernel) rfl ?_
            refine b_callI 154 2 [.ref 1315, .int 1] (rest := []) (by decide +kernel) rfl rfl rfl (go_O rfl (by decide +kernel) (by decide +kernel : isO 1315 9 = true)) rfl (s154 hv F 1 σ25) (by decide) (fun c28 σ27 => ?_)
            exact b_guard (fun hz => b_ret (i := (.ireturn, 0, 0, .null)) (by decide +kernel) rfl rfl (fit_Z hz))
          · exact b_wk (wS (wS (wS (wS (wS (wS (wN (wN (wS (wN (wN w0))))))))))) (s161_222 hv F k6 (f161_72 F k6 n) hk6 ih y1 y2 y3 y4 y5 y8 σ25)
def f161_67 (F : Nat) (k6 : Int32 → Int32 → Int32 → Int32 → Int32 → St → Rs) (y1 : Int32) (y2 : Int32) (y3 : Int32) (y4 : Int32) (z0 : Int32) (σ : St) : Rs := f161_72 F k6 F y1 y2 y3 y4 0 z0 σ
theorem s161_67 {sc : aSc} (hv : vOk sc) (F : Nat) (k6 : Int32 → Int32 → Int32 → Int32 → Int32 → St → Rs) (hk6 : ∀ y1 y2 y3 y4 y5 σ, bEx sc 5 161 6 [some (.ref 1315), some (.int y1), some (.int y2), some (.int y3), some (.int y4), some (.int y5), none, none, none, none, none] [] σ (k6 y1 y2 y3 y4 y5 σ)) (y1 : Int32) (y2 : Int32) (y3 : Int32) (y4 : Int32) (z0 : Int32) (σ : St) : bEx sc 5 161 67 [some (.ref 1315), some (.int y1), some (.int y2), some (.int y3), some (.int y4), none, none, none, none, none, none] [.int z0] σ (f161_67 F k6 y1 y2 y3 y4 z0 σ) := by
  unfold f161_67
  refine b_run [(67, .istore 8, 0, 0, .null), (69, .iconst 0, 0, 0, .null), (70, .istore 5, 0, 0, .null)] (pc' := 72) (ls' := [some (.ref 1315), some (.int y1), some (.int y2), some (.int y3), some (.int y4), some (.int 0), none, none, some (.int z0), none, none]) (st' := []) (by decide +kernel) rfl ?_
  exact b_wk (wS (wS (wS (wS (wS (wS (wN (wN (wS (wN (wN w0))))))))))) (s161_72 hv F k6 hk6 F y1 y2 y3 y4 0 z0 σ)
def f161_57 (F : Nat) (k6 : Int32 → Int32 → Int32 → Int32 → Int32 → St → Rs) (y1 : Int32) (y2 : Int32) (y3 : Int32) (y4 : Int32) (σ : St) : Rs := if 0 < y4 then f161_67 F k6 y1 y2 y3 y4 1 σ
    else f161_67 F k6 y1 y2 y3 y4 0 σ
theorem s161_57 {sc : aSc} (hv : vOk sc) (F : Nat) (k6 : Int32 → Int32 → Int32 → Int32 → Int32 → St → Rs) (hk6 : ∀ y1 y2 y3 y4 y5 σ, bEx sc 5 161 6 [some (.ref 1315), some (.int y1), some (.int y2), some (.int y3), some (.int y4), some (.int y5), none, none, none, none, none] [] σ (k6 y1 y2 y3 y4 y5 σ)) (y1 : Int32) (y2 : Int32) (y3 : Int32) (y4 : Int32) (σ : St) : bEx sc 5 161 57 [some (.ref 1315), some (.int y1), some (.int y2), some (.int y3), some (.int y4), none, none, none, none, none, none] [] σ (f161_57 F k6 y1 y2 y3 y4 σ) := by
  unfold f161_57
  refine b_run [(57, .iload 4, 0, 0, .null)] (pc' := 59) (ls' := [some (.ref 1315), some (.int y1), some (.int y2), some (.int y3), some (.int y4), none, none, none, none, none, none]) (st' := [.int y4]) (by decide +kernel) rfl ?_
  refine b_izF (c := .le) (o := 7) (t := 66) (y := 0) (w := .null) (by decide +kernel) cmp_le (fun _ => ?_) (fun _ => ?_)
  · refine b_run [(62, .iconst 1, 0, 0, .null), (63, .goto 4, 67, 0, .null)] (pc' := 67) (ls' := [some (.ref 1315), some (.int y1), some (.int y2), some (.int y3), some (.int y4), none, none, none, none, none, none]) (st' := [.int 1]) (by decide +kernel) rfl ?_
    exact b_wk (wS (wS (wS (wS (wS (wN (wN (wN (wN (wN (wN w0))))))))))) (s161_67 hv F k6 hk6 y1 y2 y3 y4 1 σ)
  · refine b_run [(66, .iconst 0, 0, 0, .null)] (pc' := 67) (ls' := [some (.ref 1315), some (.int y1), some (.int y2), some (.int y3), some (.int y4), none, none, none, none, none, none]) (st' := [.int 0]) (by decide +kernel) rfl ?_
    exact b_wk (wS (wS (wS (wS (wS (wN (wN (wN (wN (wN (wN w0))))))))))) (s161_67 hv F k6 hk6 y1 y2 y3 y4 0 σ)
def f161_6 (F : Nat) : Nat → Int32 → Int32 → Int32 → Int32 → Int32 → St → Rs
  | 0, _, _, _, _, _, _ => none
  | n + 1, y1, y2, y3, y4, y5, σ => if y5 = 0 then oI 1 σ
    else lt (σ.1 1315 22) fun c1 => 
    cI (f162 F (y1 + y4) (y2 + y4) y3 σ) fun c3 σ2 => 
    if c3 = 0 then oI 0 σ2
    else if c3 = 1 then if inB y4 9 then lt (uI σ2 1340 y4.toNatClampNeg c1) fun σ4 => f161_57 F (f161_6 F n) y1 y2 y3 (y4 + 1) σ4 else none
    else f161_57 F (f161_6 F n) y1 y2 y3 y4 σ2
theorem s161_6 {sc : aSc} (hv : vOk sc) (F : Nat) : ∀ (n : Nat) (y1 : Int32) (y2 : Int32) (y3 : Int32) (y4 : Int32) (y5 : Int32) (σ : St), bEx sc 5 161 6 [some (.ref 1315), some (.int y1), some (.int y2), some (.int y3), some (.int y4), some (.int y5), none, none, none, none, none] [] σ (f161_6 F n y1 y2 y3 y4 y5 σ) := by
  intro n
  induction n with
  | zero => intro y1 y2 y3 y4 y5 σ; exact b_none
  | succ n ih =>
    intro y1 y2 y3 y4 y5 σ
    rw [f161_6.eq_2]
    refine b_run [(6, .iload 5, 0, 0, .null)] (pc' := 8) (ls' := [some (.ref 1315), some (.int y1), some (.int y2), some (.int y3), some (.int y4), some (.int y5), none, none, none, none, none]) (st' := [.int y5]) (by decide +kernel) rfl ?_
    refine b_izT (c := .eq) (o := 220) (t := 228) (y := 0) (w := .null) (by decide +kernel) cmp_eq (fun _ => ?_) (fun _ => ?_)
    · refine b_run [(228, .iconst 1, 0, 0, .null)] (pc' := 229) (ls' := [some (.ref 1315), some (.int y1), some (.int y2), some (.int y3), some (.int y4), some (.int y5), none, none, none, none, none]) (st' := [.int 1]) (by decide +kernel) rfl ?_
      exact b_ret (i := (.ireturn, 0, 0, .null)) (by decide +kernel) rfl rfl (by decide +kernel)
    · refine b_run [(11, .aload_n 0, 0, 0, .null)] (pc' := 12) (ls' := [some (.ref 1315), some (.int y1), some (.int y2), some (.int y3), some (.int y4), some (.int y5), none, none, none, none, none]) (st' := [.ref 1315]) (by decide +kernel) rfl ?_
      refine b_gI (q := 172) (ci := 9) (k := 22) (w := .null) (by decide +kernel) (by decide +kernel) (fun c1 => ?_)
      refine b_run [(15, .istore 6, 0, 0, .null), (17, .aload_n 0, 0, 0, .null), (18, .iload_n 1, 0, 0, .null), (19, .iload 4, 0, 0, .null), (21, .iadd, 0, 0, .null), (22, .iload_n 2, 0, 0, .null), (23, .iload 4, 0, 0, .null), (25, .iadd, 0, 0, .null), (26, .iload_n 3, 0, 0, .null)] (pc' := 27) (ls' := [some (.ref 1315), some (.int y1), some (.int y2), some (.int y3), some (.int y4), some (.int y5), some (.int c1), none, none, none, none]) (st' := [.int y3, .int (y2 + y4), .int (y1 + y4), .ref 1315]) (by decide +kernel) rfl ?_
      refine b_callI 162 4 [.ref 1315, .int (y1 + y4), .int (y2 + y4), .int y3] (rest := []) (by decide +kernel) rfl rfl rfl (go_O rfl (by decide +kernel) (by decide +kernel : isO 1315 9 = true)) rfl (s162 hv F (y1 + y4) (y2 + y4) y3 σ) (by decide) (fun c3 σ2 => ?_)
      refine b_run [(30, .istore 7, 0, 0, .null), (32, .iload 7, 0, 0, .null)] (pc' := 34) (ls' := [some (.ref 1315), some (.int y1), some (.int y2), some (.int y3), some (.int y4), some (.int y5), some (.int c1), some (.int c3), none, none, none]) (st' := [.int c3]) (by decide +kernel) rfl ?_
      refine b_izF (c := .ne) (o := 5) (t := 39) (y := 0) (w := .null) (by decide +kernel) cmp_ne (fun _ => ?_) (fun _ => ?_)
      · refine b_run [(37, .iconst 0, 0, 0, .null)] (pc' := 38) (ls' := [some (.ref 1315), some (.int y1), some (.int y2), some (.int y3), some (.int y4), some (.int y5), some (.int c1), some (.int c3), none, none, none]) (st' := [.int 0]) (by decide +kernel) rfl ?_
        exact b_ret (i := (.ireturn, 0, 0, .null)) (by decide +kernel) rfl rfl (by decide +kernel)
      · refine b_run [(39, .iload 7, 0, 0, .null), (41, .iconst 1, 0, 0, .null)] (pc' := 42) (ls' := [some (.ref 1315), some (.int y1), some (.int y2), some (.int y3), some (.int y4), some (.int y5), some (.int c1), some (.int c3), none, none, none]) (st' := [.int 1, .int c3]) (by decide +kernel) rfl ?_
        refine b_icF (c := .ne) (o := 15) (t := 57) (y := 0) (w := .null) (by decide +kernel) cmp_ne (fun _ => ?_) (fun _ => ?_)
        · refine b_run [(45, .aload_n 0, 0, 0, .null)] (pc' := 46) (ls' := [some (.ref 1315), some (.int y1), some (.int y2), some (.int y3), some (.int y4), some (.int y5), some (.int c1), some (.int c3), none, none, none]) (st' := [.ref 1315]) (by decide +kernel) rfl ?_
          refine b_getC (b := 1340) (q := 83) (ci := 9) (k := 31) (w := .null) (by decide +kernel) (by decide +kernel) ?_
          refine b_run [(49, .iload 4, 0, 0, .null), (51, .iload 6, 0, 0, .null)] (pc' := 53) (ls' := [some (.ref 1315), some (.int y1), some (.int y2), some (.int y3), some (.int y4), some (.int y5), some (.int c1), some (.int c3), none, none, none]) (st' := [.int c1, .int y4, .ref 1340]) (by decide +kernel) rfl ?_
          refine b_guard (fun hb => ?_)
          refine b_sI (ci := 0) (y := 0) (w := .null) (by decide +kernel) (by decide +kernel) hb (fun σ4 => ?_)
          refine b_run [(54, .iinc 4 1, 0, 0, .null)] (pc' := 57) (ls' := [some (.ref 1315), some (.int y1), some (.int y2), some (.int y3), some (.int (y4 + 1)), some (.int y5), some (.int c1), some (.int c3), none, none, none]) (st' := []) (by decide +kernel) rfl ?_
          exact b_wk (wS (wS (wS (wS (wS (wN (wN (wN (wN (wN (wN w0))))))))))) (s161_57 hv F (f161_6 F n) ih y1 y2 y3 (y4 + 1) σ4)
        · exact b_wk (wS (wS (wS (wS (wS (wN (wN (wN (wN (wN (wN w0))))))))))) (s161_57 hv F (f161_6 F n) ih y1 y2 y3 y4 σ2)
/-- TreeStoreModel.element(III)Z -/
def f161 (F : Nat) (x1 : Int32) (x2 : Int32) (x3 : Int32) (σ : St) : Rs := f161_6 F F x1 x2 x3 0 1 σ
theorem s161 {sc : aSc} (hv : vOk sc) (F : Nat) (x1 : Int32) (x2 : Int32) (x3 : Int32) (σ : St) : bEx sc 5 161 0 [some (.ref 1315), some (.int x1), some (.int x2), some (.int x3), none, none, none, none, none, none, none] [] σ (f161 F x1 x2 x3 σ) := by
  unfold f161
  refine b_run [(0, .iconst 0, 0, 0, .null), (1, .istore 4, 0, 0, .null), (3, .iconst 1, 0, 0, .null), (4, .istore 5, 0, 0, .null)] (pc' := 6) (ls' := [some (.ref 1315), some (.int x1), some (.int x2), some (.int x3), some (.int 0), some (.int 1), none, none, none, none, none]) (st' := []) (by decide +kernel) rfl ?_
  exact b_wk (wS (wS (wS (wS (wS (wS (wN (wN (wN (wN (wN w0))))))))))) (s161_6 hv F F x1 x2 x3 0 1 σ)
/-- TreeStoreModel.beginParse()V -/
def f149 (F : Nat) (σ : St) : Rs := lt (uI σ 1315 22 0) fun σ1 => lt (uI σ1 1315 23 0) fun σ2 => lt (uI σ2 1315 32 0) fun σ3 => lt (uI σ3 1315 33 0) fun σ4 => oV σ4
theorem s149 {sc : aSc} (hv : vOk sc) (F : Nat) (σ : St) : bEx sc 0 149 0 [some (.ref 1315)] [] σ (f149 F σ) := by
  unfold f149
  refine b_run [(0, .aload_n 0, 0, 0, .null), (1, .iconst 0, 0, 0, .null)] (pc' := 2) (ls' := [some (.ref 1315)]) (st' := [.int 0, .ref 1315]) (by decide +kernel) rfl ?_
  refine b_pI (q := 172) (ci := 9) (k := 22) (w := .null) (by decide +kernel) (by decide +kernel) (fit_I _) (fun σ1 => ?_)
  refine b_run [(5, .aload_n 0, 0, 0, .null), (6, .iconst 0, 0, 0, .null)] (pc' := 7) (ls' := [some (.ref 1315)]) (st' := [.int 0, .ref 1315]) (by decide +kernel) rfl ?_
  refine b_pI (q := 178) (ci := 9) (k := 23) (w := .null) (by decide +kernel) (by decide +kernel) (fit_I _) (fun σ2 => ?_)
  refine b_run [(10, .aload_n 0, 0, 0, .null), (11, .iconst 0, 0, 0, .null)] (pc' := 12) (ls' := [some (.ref 1315)]) (st' := [.int 0, .ref 1315]) (by decide +kernel) rfl ?_
  refine b_pI (q := 181) (ci := 9) (k := 32) (w := .null) (by decide +kernel) (by decide +kernel) (fit_I _) (fun σ3 => ?_)
  refine b_run [(15, .aload_n 0, 0, 0, .null), (16, .iconst 0, 0, 0, .null)] (pc' := 17) (ls' := [some (.ref 1315)]) (st' := [.int 0, .ref 1315]) (by decide +kernel) rfl ?_
  refine b_pI (q := 169) (ci := 9) (k := 33) (w := .null) (by decide +kernel) (by decide +kernel) (fit_I _) (fun σ4 => ?_)
  exact b_ret0 (i := (.return_, 0, 0, .null)) (by decide +kernel) rfl rfl
def f150_32 (F : Nat) (σ : St) : Rs := cI (f154 F 1 σ) fun c19 σ18 => 
    if c19 = 0 then oI 0 σ18
    else oI 1 σ18
theorem s150_32 {sc : aSc} (hv : vOk sc) (F : Nat) (σ : St) : bEx sc 3 150 32 [some (.ref 1315), none, none] [] σ (f150_32 F σ) := by
  unfold f150_32
  refine b_run [(32, .aload_n 0, 0, 0, .null), (33, .iconst 1, 0, 0, .null)] (pc' := 34) (ls' := [some (.ref 1315), none, none]) (st' := [.int 1, .ref 1315]) (by decide +kernel) rfl ?_
  refine b_callI 154 2 [.ref 1315, .int 1] (rest := []) (by decide +kernel) rfl rfl rfl (go_O rfl (by decide +kernel) (by decide +kernel : isO 1315 9 = true)) rfl (s154 hv F 1 σ) (by decide) (fun c19 σ18 => ?_)
  refine b_izT (c := .eq) (o := 7) (t := 44) (y := 0) (w := .null) (by decide +kernel) cmp_eq (fun _ => ?_) (fun _ => ?_)
  · refine b_run [(44, .iconst 0, 0, 0, .null)] (pc' := 45) (ls' := [some (.ref 1315), none, none]) (st' := [.int 0]) (by decide +kernel) rfl ?_
    exact b_ret (i := (.ireturn, 0, 0, .null)) (by decide +kernel) rfl rfl (by decide +kernel)
  · refine b_run [(40, .iconst 1, 0, 0, .null), (41, .goto 4, 45, 0, .null)] (pc' := 45) (ls' := [some (.ref 1315), none, none]) (st' := [.int 1]) (by decide +kernel) rfl ?_
    exact b_ret (i := (.ireturn, 0, 0, .null)) (by decide +kernel) rfl rfl (by decide +kernel)
/-- TreeStoreModel.outside(Z)Z -/
def f150_0 (F : Nat) : Nat → Int32 → St → Rs
  | 0, _, _ => none
  | n + 1, y1, σ => cV (f151 F σ) fun σ1 => 
    lt (σ1.1 1315 32) fun c3 => 
    cI (f152 F c3 σ1) fun c5 σ4 => 
    if c5 = 60 then 
    cI (f155 F y1 σ4) fun c7 σ6 => 
    if c7 = 0 then 
    lt (σ6.1 1315 32) fun c8 => 
    cI (f152 F (c8 + 1) σ6) fun c10 σ9 => 
    if c10 = 33 then 
    cI (f157 F 0 1 σ9) fun c12 σ11 => 
    if c12 = 0 then oI 0 σ11
    else f150_0 F n y1 σ11
    else oI 1 σ9
    else cI (f154 F c7 σ6) fun c14 σ13 => if c14 = 0 ∨ c14 = 1 then oI c14 σ13 else none
    else lt (σ4.1 1315 32) fun c15 => 
    cI (f152 F c15 σ4) fun c17 σ16 => 
    if c17 = 0 then 
    if y1 = 0 then oI 1 σ16
    else f150_32 F σ16
    else f150_32 F σ16
theorem s150_0 {sc : aSc} (hv : vOk sc) (F : Nat) : ∀ (n : Nat) (y1 : Int32) (σ : St), bEx sc 3 150 0 [some (.ref 1315), some (.int y1), none] [] σ (f150_0 F n y1 σ) := by
  intro n
  induction n with
  | zero => intro y1 σ; exact b_none
  | succ n ih =>
    intro y1 σ
    rw [f150_0.eq_2]
    refine b_run [(0, .aload_n 0, 0, 0, .null)] (pc' := 1) (ls' := [some (.ref 1315), some (.int y1), none]) (st' := [.ref 1315]) (by decide +kernel) rfl ?_
    refine b_callV 151 1 [.ref 1315] (rest := []) (by decide +kernel) rfl rfl rfl (go_O rfl (by decide +kernel) (by decide +kernel : isO 1315 9 = true)) rfl (s151 hv F σ) (by decide) (fun σ1 => ?_)
    refine b_run [(4, .aload_n 0, 0, 0, .null), (5, .aload_n 0, 0, 0, .null)] (pc' := 6) (ls' := [some (.ref 1315), some (.int y1), none]) (st' := [.ref 1315, .ref 1315]) (by decide +kernel) rfl ?_
    refine b_gI (q := 181) (ci := 9) (k := 32) (w := .null) (by decide +kernel) (by decide +kernel) (fun c3 => ?_)
    refine b_callI 152 2 [.ref 1315, .int c3] (rest := []) (by decide +kernel) rfl rfl rfl (go_O rfl (by decide +kernel) (by decide +kernel : isO 1315 9 = true)) rfl (s152 hv F c3 σ1) (by decide) (fun c5 σ4 => ?_)
    refine b_run [(12, .bipush 60, 0, 0, .null)] (pc' := 14) (ls' := [some (.ref 1315), some (.int y1), none]) (st' := [.int 60, .int c5]) (by decide +kernel) rfl ?_
    refine b_icT (c := .eq) (o := 32) (t := 46) (y := 0) (w := .null) (by decide +kernel) cmp_eq (fun _ => ?_) (fun _ => ?_)
    · refine b_run [(46, .aload_n 0, 0, 0, .null), (47, .iload_n 1, 0, 0, .null)] (pc' := 48) (ls' := [some (.ref 1315), some (.int y1), none]) (st' := [.int y1, .ref 1315]) (by decide +kernel) rfl ?_
      refine b_callI 155 2 [.ref 1315, .int y1] (rest := []) (by decide +kernel) rfl rfl rfl (go_O rfl (by decide +kernel) (by decide +kernel : isO 1315 9 = true)) rfl (s155 hv F y1 σ4) (by decide) (fun c7 σ6 => ?_)
      refine b_run [(51, .istore_n 2, 0, 0, .null), (52, .iload_n 2, 0, 0, .null)] (pc' := 53) (ls' := [some (.ref 1315), some (.int y1), some (.int c7)]) (st' := [.int c7]) (by decide +kernel) rfl ?_
      refine b_izT (c := .eq) (o := 9) (t := 62) (y := 0) (w := .null) (by decide +kernel) cmp_eq (fun _ => ?_) (fun _ => ?_)
      · refine b_run [(62, .aload_n 0, 0, 0, .null), (63, .aload_n 0, 0, 0, .null)] (pc' := 64) (ls' := [some (.ref 1315), some (.int y1), some (.int c7)]) (st' := [.ref 1315, .ref 1315]) (by decide +kernel) rfl ?_
        refine b_gI (q := 181) (ci := 9) (k := 32) (w := .null) (by decide +kernel) (by decide +kernel) (fun c8 => ?_)
        refine b_run [(67, .iconst 1, 0, 0, .null), (68, .iadd, 0, 0, .null)] (pc' := 69) (ls' := [some (.ref 1315), some (.int y1), some (.int c7)]) (st' := [.int (c8 + 1), .ref 1315]) (by decide +kernel) rfl ?_
        refine b_callI 152 2 [.ref 1315, .int (c8 + 1)] (rest := []) (by decide +kernel) rfl rfl rfl (go_O rfl (by decide +kernel) (by decide +kernel : isO 1315 9 = true)) rfl (s152 hv F (c8 + 1) σ6) (by decide) (fun c10 σ9 => ?_)
        refine b_run [(72, .bipush 33, 0, 0, .null)] (pc' := 74) (ls' := [some (.ref 1315), some (.int y1), some (.int c7)]) (st' := [.int 33, .int c10]) (by decide +kernel) rfl ?_
        refine b_icT (c := .eq) (o := 5) (t := 79) (y := 0) (w := .null) (by decide +kernel) cmp_eq (fun _ => ?_) (fun _ => ?_)
        · refine b_run [(79, .aload_n 0, 0, 0, .null), (80, .iconst 0, 0, 0, .null), (81, .iconst 1, 0, 0, .null)] (pc' := 82) (ls' := [some (.ref 1315), some (.int y1), some (.int c7)]) (st' := [.int 1, .int 0, .ref 1315]) (by decide +kernel) rfl ?_
          refine b_callI 157 3 [.ref 1315, .int 0, .int 1] (rest := []) (by decide +kernel) rfl rfl rfl (go_O rfl (by decide +kernel) (by decide +kernel : isO 1315 9 = true)) rfl (s157 hv F 0 1 σ9) (by decide) (fun c12 σ11 => ?_)
          refine b_izF (c := .ne) (o := 5) (t := 90) (y := 0) (w := .null) (by decide +kernel) cmp_ne (fun _ => ?_) (fun _ => ?_)
          · refine b_run [(88, .iconst 0, 0, 0, .null)] (pc' := 89) (ls' := [some (.ref 1315), some (.int y1), some (.int c7)]) (st' := [.int 0]) (by decide +kernel) rfl ?_
            exact b_ret (i := (.ireturn, 0, 0, .null)) (by decide +kernel) rfl rfl (by decide +kernel)
          · refine b_run [(90, .goto (-90), 0, 0, .null)] (pc' := 0) (ls' := [some (.ref 1315), some (.int y1), some (.int c7)]) (st' := []) (by decide +kernel) rfl ?_
            exact b_wk (wS (wS (wN w0))) (ih y1 σ11)
        · refine b_run [(77, .iconst 1, 0, 0, .null)] (pc' := 78) (ls' := [some (.ref 1315), some (.int y1), some (.int c7)]) (st' := [.int 1]) (by decide +kernel) rfl ?_
          exact b_ret (i := (.ireturn, 0, 0, .null)) (by decide +kernel) rfl rfl (by decide +kernel)
      · refine b_run [(56, .aload_n 0, 0, 0, .null), (57, .iload_n 2, 0, 0, .null)] (pc' := 58) (ls' := [some (.ref 1315), some (.int y1), some (.int c7)]) (st' := [.int c7, .ref 1315]) (by decide +kernel) rfl ?_
        refine b_callI 154 2 [.ref 1315, .int c7] (rest := []) (by decide +kernel) rfl rfl rfl (go_O rfl (by decide +kernel) (by decide +kernel : isO 1315 9 = true)) rfl (s154 hv F c7 σ6) (by decide) (fun c14 σ13 => ?_)
        exact b_guard (fun hz => b_ret (i := (.ireturn, 0, 0, .null)) (by decide +kernel) rfl rfl (fit_Z hz))
    · refine b_run [(17, .aload_n 0, 0, 0, .null), (18, .aload_n 0, 0, 0, .null)] (pc' := 19) (ls' := [some (.ref 1315), some (.int y1), none]) (st' := [.ref 1315, .ref 1315]) (by decide +kernel) rfl ?_
      refine b_gI (q := 181) (ci := 9) (k := 32) (w := .null) (by decide +kernel) (by decide +kernel) (fun c15 => ?_)
      refine b_callI 152 2 [.ref 1315, .int c15] (rest := []) (by decide +kernel) rfl rfl rfl (go_O rfl (by decide +kernel) (by decide +kernel : isO 1315 9 = true)) rfl (s152 hv F c15 σ4) (by decide) (fun c17 σ16 => ?_)
      refine b_izF (c := .ne) (o := 7) (t := 32) (y := 0) (w := .null) (by decide +kernel) cmp_ne (fun _ => ?_) (fun _ => ?_)
      · refine b_run [(28, .iload_n 1, 0, 0, .null)] (pc' := 29) (ls' := [some (.ref 1315), some (.int y1), none]) (st' := [.int y1]) (by decide +kernel) rfl ?_
        refine b_izT (c := .eq) (o := 11) (t := 40) (y := 0) (w := .null) (by decide +kernel) cmp_eq (fun _ => ?_) (fun _ => ?_)
        · refine b_run [(40, .iconst 1, 0, 0, .null), (41, .goto 4, 45, 0, .null)] (pc' := 45) (ls' := [some (.ref 1315), some (.int y1), none]) (st' := [.int 1]) (by decide +kernel) rfl ?_
          exact b_ret (i := (.ireturn, 0, 0, .null)) (by decide +kernel) rfl rfl (by decide +kernel)
        · exact b_wk (wS (wN (wN w0))) (s150_32 hv F σ16)
      · exact b_wk (wS (wN (wN w0))) (s150_32 hv F σ16)
def f150 (F : Nat) (x1 : Int32) (σ : St) : Rs := f150_0 F F x1 σ
theorem s150 {sc : aSc} (hv : vOk sc) (F : Nat) (x1 : Int32) (σ : St) : bEx sc 3 150 0 [some (.ref 1315), some (.int x1), none] [] σ (f150 F x1 σ) := b_wk (wS (wS (wN w0))) (s150_0 hv F F x1 σ)
/-- TreeStoreModel.document()Z -/
def f148 (F : Nat) (σ : St) : Rs := cV (f149 F σ) fun σ1 => 
    cI (f150 F 1 σ1) fun c4 σ3 => 
    if c4 = 0 then oI 0 σ3
    else cI (f161 F 0 1 1 σ3) fun c6 σ5 => 
    if c6 = 0 then oI 0 σ5
    else cI (f150 F 0 σ5) fun c8 σ7 => 
    if c8 = 0 then oI 0 σ7
    else oI 1 σ7
theorem s148 {sc : aSc} (hv : vOk sc) (F : Nat) (σ : St) : bEx sc 6 148 0 [some (.ref 1315)] [] σ (f148 F σ) := by
  unfold f148
  refine b_run [(0, .aload_n 0, 0, 0, .null)] (pc' := 1) (ls' := [some (.ref 1315)]) (st' := [.ref 1315]) (by decide +kernel) rfl ?_
  refine b_callV 149 1 [.ref 1315] (rest := []) (by decide +kernel) rfl rfl rfl (go_O rfl (by decide +kernel) (by decide +kernel : isO 1315 9 = true)) rfl (s149 hv F σ) (by decide) (fun σ1 => ?_)
  refine b_run [(4, .aload_n 0, 0, 0, .null), (5, .iconst 1, 0, 0, .null)] (pc' := 6) (ls' := [some (.ref 1315)]) (st' := [.int 1, .ref 1315]) (by decide +kernel) rfl ?_
  refine b_callI 150 2 [.ref 1315, .int 1] (rest := []) (by decide +kernel) rfl rfl rfl (go_O rfl (by decide +kernel) (by decide +kernel : isO 1315 9 = true)) rfl (s150 hv F 1 σ1) (by decide) (fun c4 σ3 => ?_)
  refine b_izT (c := .eq) (o := 25) (t := 34) (y := 0) (w := .null) (by decide +kernel) cmp_eq (fun _ => ?_) (fun _ => ?_)
  · refine b_run [(34, .iconst 0, 0, 0, .null)] (pc' := 35) (ls' := [some (.ref 1315)]) (st' := [.int 0]) (by decide +kernel) rfl ?_
    exact b_ret (i := (.ireturn, 0, 0, .null)) (by decide +kernel) rfl rfl (by decide +kernel)
  · refine b_run [(12, .aload_n 0, 0, 0, .null), (13, .iconst 0, 0, 0, .null), (14, .iconst 1, 0, 0, .null), (15, .iconst 1, 0, 0, .null)] (pc' := 16) (ls' := [some (.ref 1315)]) (st' := [.int 1, .int 1, .int 0, .ref 1315]) (by decide +kernel) rfl ?_
    refine b_callI 161 4 [.ref 1315, .int 0, .int 1, .int 1] (rest := []) (by decide +kernel) rfl rfl rfl (go_O rfl (by decide +kernel) (by decide +kernel : isO 1315 9 = true)) rfl (s161 hv F 0 1 1 σ3) (by decide) (fun c6 σ5 => ?_)
    refine b_izT (c := .eq) (o := 15) (t := 34) (y := 0) (w := .null) (by decide +kernel) cmp_eq (fun _ => ?_) (fun _ => ?_)
    · refine b_run [(34, .iconst 0, 0, 0, .null)] (pc' := 35) (ls' := [some (.ref 1315)]) (st' := [.int 0]) (by decide +kernel) rfl ?_
      exact b_ret (i := (.ireturn, 0, 0, .null)) (by decide +kernel) rfl rfl (by decide +kernel)
    · refine b_run [(22, .aload_n 0, 0, 0, .null), (23, .iconst 0, 0, 0, .null)] (pc' := 24) (ls' := [some (.ref 1315)]) (st' := [.int 0, .ref 1315]) (by decide +kernel) rfl ?_
      refine b_callI 150 2 [.ref 1315, .int 0] (rest := []) (by decide +kernel) rfl rfl rfl (go_O rfl (by decide +kernel) (by decide +kernel : isO 1315 9 = true)) rfl (s150 hv F 0 σ5) (by decide) (fun c8 σ7 => ?_)
      refine b_izT (c := .eq) (o := 7) (t := 34) (y := 0) (w := .null) (by decide +kernel) cmp_eq (fun _ => ?_) (fun _ => ?_)
      · refine b_run [(34, .iconst 0, 0, 0, .null)] (pc' := 35) (ls' := [some (.ref 1315)]) (st' := [.int 0]) (by decide +kernel) rfl ?_
        exact b_ret (i := (.ireturn, 0, 0, .null)) (by decide +kernel) rfl rfl (by decide +kernel)
      · refine b_run [(30, .iconst 1, 0, 0, .null), (31, .goto 4, 35, 0, .null)] (pc' := 35) (ls' := [some (.ref 1315)]) (st' := [.int 1]) (by decide +kernel) rfl ?_
        exact b_ret (i := (.ireturn, 0, 0, .null)) (by decide +kernel) rfl rfl (by decide +kernel)
def f147_32 (F : Nat) : Nat → Int32 → St → Rs
  | 0, _, _ => none
  | n + 1, y1, σ => lt (σ.1 1315 22) fun c11 => 
    if y1 < c11 then cI (f177 F y1 1 σ) fun c13 σ12 => f147_32 F n (y1 + 1) σ12
    else cV (f178 F σ) fun σ14 => lt (uI σ14 1315 1 0) fun σ16 => lt (σ16.1 1315 3) fun c17 => oI c17 σ16
theorem s147_32 {sc : aSc} (hv : vOk sc) (F : Nat) : ∀ (n : Nat) (y1 : Int32) (σ : St), bEx sc 7 147 32 [some (.ref 1315), some (.int y1)] [] σ (f147_32 F n y1 σ) := by
  intro n
  induction n with
  | zero => intro y1 σ; exact b_none
  | succ n ih =>
    intro y1 σ
    rw [f147_32.eq_2]
    refine b_run [(32, .iload_n 1, 0, 0, .null), (33, .aload_n 0, 0, 0, .null)] (pc' := 34) (ls' := [some (.ref 1315), some (.int y1)]) (st' := [.ref 1315, .int y1]) (by decide +kernel) rfl ?_
    refine b_gI (q := 172) (ci := 9) (k := 22) (w := .null) (by decide +kernel) (by decide +kernel) (fun c11 => ?_)
    refine b_icF (c := .ge) (o := 16) (t := 53) (y := 0) (w := .null) (by decide +kernel) cmp_ge (fun _ => ?_) (fun _ => ?_)
    · refine b_run [(40, .aload_n 0, 0, 0, .null), (41, .iload_n 1, 0, 0, .null), (42, .iconst 1, 0, 0, .null)] (pc' := 43) (ls' := [some (.ref 1315), some (.int y1)]) (st' := [.int 1, .int y1, .ref 1315]) (by decide +kernel) rfl ?_
      refine b_callI 177 3 [.ref 1315, .int y1, .int 1] (rest := []) (by decide +kernel) rfl rfl rfl (go_O rfl (by decide +kernel) (by decide +kernel : isO 1315 9 = true)) rfl (s177 hv F y1 1 σ) (by decide) (fun c13 σ12 => ?_)
      refine b_run [(46, .pop, 0, 0, .null), (47, .iinc 1 1, 0, 0, .null), (50, .goto (-18), 32, 0, .null)] (pc' := 32) (ls' := [some (.ref 1315), some (.int (y1 + 1))]) (st' := []) (by decide +kernel) rfl ?_
      exact b_wk (wS (wS w0)) (ih (y1 + 1) σ12)
    · refine b_run [(53, .aload_n 0, 0, 0, .null)] (pc' := 54) (ls' := [some (.ref 1315), some (.int y1)]) (st' := [.ref 1315]) (by decide +kernel) rfl ?_
      refine b_callV 178 1 [.ref 1315] (rest := []) (by decide +kernel) rfl rfl rfl (go_O rfl (by decide +kernel) (by decide +kernel : isO 1315 9 = true)) rfl (s178 hv F σ) (by decide) (fun σ14 => ?_)
      refine b_run [(57, .aload_n 0, 0, 0, .null), (58, .iconst 0, 0, 0, .null)] (pc' := 59) (ls' := [some (.ref 1315), some (.int y1)]) (st' := [.int 0, .ref 1315]) (by decide +kernel) rfl ?_
      refine b_pI (q := 155) (ci := 9) (k := 1) (w := .null) (by decide +kernel) (by decide +kernel) (fit_I _) (fun σ16 => ?_)
      refine b_run [(62, .aload_n 0, 0, 0, .null)] (pc' := 63) (ls' := [some (.ref 1315), some (.int y1)]) (st' := [.ref 1315]) (by decide +kernel) rfl ?_
      refine b_gI (q := 148) (ci := 9) (k := 3) (w := .null) (by decide +kernel) (by decide +kernel) (fun c17 => ?_)
      exact b_ret (i := (.ireturn, 0, 0, .null)) (by decide +kernel) rfl rfl (fit_I _)
/-- TreeStoreModel.load()I -/
def f147 (F : Nat) (σ : St) : Rs := cI (f148 F σ) fun c2 σ1 => 
    if c2 = 0 then lt (σ1.1 1315 33) fun c3 => cI (f172 F c3 σ1) fun c5 σ4 => oI c5 σ4
    else lt (uI σ1 1315 0 0) fun σ6 => cV (f173 F σ6) fun σ7 => cV (f174 F 0 σ7) fun σ9 => f147_32 F F 0 σ9
theorem s147 {sc : aSc} (hv : vOk sc) (F : Nat) (σ : St) : bEx sc 7 147 0 [some (.ref 1315), none] [] σ (f147 F σ) := by
  unfold f147
  refine b_run [(0, .aload_n 0, 0, 0, .null)] (pc' := 1) (ls' := [some (.ref 1315), none]) (st' := [.ref 1315]) (by decide +kernel) rfl ?_
  refine b_callI 148 1 [.ref 1315] (rest := []) (by decide +kernel) rfl rfl rfl (go_O rfl (by decide +kernel) (by decide +kernel : isO 1315 9 = true)) rfl (s148 hv F σ) (by decide) (fun c2 σ1 => ?_)
  refine b_izF (c := .ne) (o := 12) (t := 16) (y := 0) (w := .null) (by decide +kernel) cmp_ne (fun _ => ?_) (fun _ => ?_)
  · refine b_run [(7, .aload_n 0, 0, 0, .null), (8, .aload_n 0, 0, 0, .null)] (pc' := 9) (ls' := [some (.ref 1315), none]) (st' := [.ref 1315, .ref 1315]) (by decide +kernel) rfl ?_
    refine b_gI (q := 169) (ci := 9) (k := 33) (w := .null) (by decide +kernel) (by decide +kernel) (fun c3 => ?_)
    refine b_callI 172 2 [.ref 1315, .int c3] (rest := []) (by decide +kernel) rfl rfl rfl (go_O rfl (by decide +kernel) (by decide +kernel : isO 1315 9 = true)) rfl (s172 hv F c3 σ1) (by decide) (fun c5 σ4 => ?_)
    exact b_ret (i := (.ireturn, 0, 0, .null)) (by decide +kernel) rfl rfl (fit_I _)
  · refine b_run [(16, .aload_n 0, 0, 0, .null), (17, .iconst 0, 0, 0, .null)] (pc' := 18) (ls' := [some (.ref 1315), none]) (st' := [.int 0, .ref 1315]) (by decide +kernel) rfl ?_
    refine b_pI (q := 152) (ci := 9) (k := 0) (w := .null) (by decide +kernel) (by decide +kernel) (fit_I _) (fun σ6 => ?_)
    refine b_run [(21, .aload_n 0, 0, 0, .null)] (pc' := 22) (ls' := [some (.ref 1315), none]) (st' := [.ref 1315]) (by decide +kernel) rfl ?_
    refine b_callV 173 1 [.ref 1315] (rest := []) (by decide +kernel) rfl rfl rfl (go_O rfl (by decide +kernel) (by decide +kernel : isO 1315 9 = true)) rfl (s173 hv F σ6) (by decide) (fun σ7 => ?_)
    refine b_run [(25, .aload_n 0, 0, 0, .null), (26, .iconst 0, 0, 0, .null)] (pc' := 27) (ls' := [some (.ref 1315), none]) (st' := [.int 0, .ref 1315]) (by decide +kernel) rfl ?_
    refine b_callV 174 2 [.ref 1315, .int 0] (rest := []) (by decide +kernel) rfl rfl rfl (go_O rfl (by decide +kernel) (by decide +kernel : isO 1315 9 = true)) rfl (s174 hv F 0 σ7) (by decide) (fun σ9 => ?_)
    refine b_run [(30, .iconst 0, 0, 0, .null), (31, .istore_n 1, 0, 0, .null)] (pc' := 32) (ls' := [some (.ref 1315), some (.int 0)]) (st' := []) (by decide +kernel) rfl ?_
    exact b_wk (wS (wS w0)) (s147_32 hv F F 0 σ9)
